/-! memory: ints, longs, references of cells by their numbers; the shape of each cell is fixed ahead -/
abbrev Mm : Type := (Nat → Nat → Int32) × (Nat → Nat → Int64) × (Nat → Nat → Option Nat)
/-- D, array classes, base, addresses of texts, of their bytes -/
abbrev Gl : Type := va_G × (Nat → ClassId) × Nat × (Nat → Nat) × (Nat → Nat)
abbrev kcl : List vw_C := [(RX11, TX11, 8), (RX3, TX3, 2), (RX7, TX7, 2), (RX0, TX0, 2), (RX8, TX8, 2), (RX4, TX4, 2), (RX6, TX6, 2), (RX2, TX2, 11), (RX5, TX5, 6), (RX10, TX10, 6), (RX9, TX9, 3), (RX12, TX12, 20)]
/-- kinds of fields by class: 0 an int, 1 a long, 2 a reference -/
def ftL : List (List Nat) := [[2, 2, 2, 2, 0, 2, 2, 2], [0, 2], [0, 2], [0, 2], [0, 2], [0, 2], [0, 2], [2, 0, 0, 0, 0, 2, 2, 1, 0, 1, 1], [1, 0, 0, 2, 2, 2], [0, 2, 0, 0, 0, 0], [0, 0, 2], [2, 2, 2, 2, 2, 0, 2, 2, 2, 2, 2, 0, 0, 0, 0, 0, 2, 2, 2, 2]]
abbrev gA (G : Gl) : Nat → Prop := fun q => G.2.2.1 ≤ q
/-- where a cell lies: below 1000 ours, else a text's -/
def ad (G : Gl) (c : Nat) : Nat := if c < 1000 then G.2.2.1 + c else G.2.2.2.1 (c - 1000)
abbrev aR (G : Gl) (c : Nat) : Value := .ref (ad G c)
def rO (G : Gl) (r : Option Nat) : Value := va_rf (r.map (ad G))
def fV (G : Gl) (M : Mm) (c : Nat) (q : Nat × Nat) : Value := if q.1 = 0 then .int (M.1 c q.2) else if q.1 = 1 then .long (M.2.1 c q.2) else rO G (M.2.2 c q.2)
def fL (G : Gl) (M : Mm) (ci c : Nat) : List Value := ((ftL.getD ci []).zipIdx).map (fV G M c)
def aE (G : Gl) (M : Mm) (c k n : Nat) : va_E := .inl (G.2.1 k, n, if k = 0 ∨ k = 2 then .inl (M.1 c) else if k = 1 then .inr (.inl (M.2.1 c)) else .inr (.inr (.inr (.inr (fun j => (M.2.2 c j).map (ad G))))))
/-- what a cell holds: shape (20 + k, n): an array of n; (ci, _): an object -/
def cE (G : Gl) (M : Mm) (c : Nat) (sh : Nat × Nat) : va_E := if 20 ≤ sh.1 then aE G M c (sh.1 - 20) sh.2 else .inr (sh.1, fL G M sh.1 c)
def shL : List (Nat × Nat) := [(0, 0), (1, 0), (24, 6), (2, 0), (3, 0), (4, 0), (5, 0), (6, 0), (8, 0), (23, 6), (7, 0), (20, 8), (20, 8), (7, 0), (20, 8), (20, 8), (7, 0), (20, 8), (20, 8), (7, 0), (20, 8), (20, 8), (7, 0), (20, 8), (20, 8), (7, 0), (20, 8), (20, 8), (21, 6), (20, 6), (8, 0), (23, 6), (7, 0), (20, 8), (20, 8), (7, 0), (20, 8), (20, 8), (7, 0), (20, 8), (20, 8), (7, 0), (20, 8), (20, 8), (7, 0), (20, 8), (20, 8), (7, 0), (20, 8), (20, 8), (21, 6), (20, 6), (8, 0), (23, 6), (7, 0), (20, 8), (20, 8), (7, 0), (20, 8), (20, 8), (7, 0), (20, 8), (20, 8), (7, 0), (20, 8), (20, 8), (7, 0), (20, 8), (20, 8), (7, 0), (20, 8), (20, 8), (21, 6), (20, 6), (9, 0), (22, 120), (25, 4), (10, 0), (21, 40), (10, 0), (21, 40), (10, 0), (21, 40), (10, 0), (21, 40), (20, 7), (11, 0), (20, 176), (20, 176), (20, 176), (20, 176), (20, 7), (21, 6), (21, 6), (20, 6), (20, 6), (20, 120), (20, 4), (20, 4), (21, 160), (21, 40)]
def sh (c : Nat) : Nat × Nat := shL.getD c (99, 0)
def WL (G : Gl) (M : Mm) (N : Nat) : va_W := (List.range N).map (fun c => (G.2.2.1 + c, cE G M c (sh c)))
theorem wl_get {G : Gl} {M : Mm} {N c : Nat} (h : c < N) : (WL G M N)[c]? = some (G.2.2.1 + c, cE G M c (sh c)) := by
  simp [WL, h]
theorem wl_at {G : Gl} {M : Mm} {N k : Nat} {q : Nat × va_E} (h : (WL G M N)[k]? = some q) : k < N ∧ q = (G.2.2.1 + k, cE G M k (sh k)) := by
  have hk : k < N := by
    have := (List.getElem?_eq_some_iff.mp h).1
    simpa [WL] using this
  exact ⟨hk, (Option.some.inj ((wl_get hk).symm.trans h)).symm⟩
theorem wl_D (G : Gl) (M : Mm) (N : Nat) : va_D (gA G) (WL G M N) := by
  refine ⟨fun i j p q hi hj e => ?_, fun k q hk => ?_⟩
  · obtain ⟨-, rfl⟩ := wl_at hi
    obtain ⟨-, rfl⟩ := wl_at hj
    have : G.2.2.1 + i = G.2.2.1 + j := e
    omega
  · obtain ⟨-, rfl⟩ := wl_at hk
    exact Nat.le_add_right _ _
theorem wl_set {G : Gl} {M M' : Mm} {N c : Nat} {e : va_E} (he : e = cE G M' c (sh c)) (ho : ∀ c', c' ≠ c → cE G M' c' (sh c') = cE G M c' (sh c')) : (WL G M N).set c (G.2.2.1 + c, e) = WL G M' N := by
  apply List.ext_getElem?
  intro j
  by_cases hj : j < N
  · by_cases hc : j = c
    · subst hc
      rw [List.getElem?_set_self (by simpa [WL] using hj), wl_get hj, he]
    · rw [List.getElem?_set_ne (Ne.symm hc), wl_get hj, wl_get hj, ho j hc]
  · rw [List.getElem?_eq_none (by simp [WL]; omega), List.getElem?_eq_none (by simp [WL]; omega)]
theorem wl_push {G : Gl} {M M' : Mm} {N : Nat} {e : va_E} (he : e = cE G M' N (sh N)) (ho : ∀ c', c' < N → cE G M' c' (sh c') = cE G M c' (sh c')) : WL G M N ++ [(G.2.2.1 + N, e)] = WL G M' (N + 1) := by
  simp only [WL, List.range_succ, List.map_append, List.map_cons, List.map_nil]
  rw [he]
  congr 1
  apply List.map_congr_left
  intro c hc
  rw [ho c (List.mem_range.mp hc)]
/-- ours, in a heap -/
def Rl (G : Gl) (M : Mm) (N : Nat) (H : Heap) : Prop := va_P G.1 kcl (WL G M N) H ∧ (N < 101 → H.size = G.2.2.1 + N)
abbrev tyG (G : Gl) : List (ClassId × FieldType) := [(G.2.1 0, .int), (G.2.1 1, .long), (G.2.1 2, .char), (G.2.1 3, .object RX2), (G.2.1 4, .object RX3), (G.2.1 5, .object RX9)]
