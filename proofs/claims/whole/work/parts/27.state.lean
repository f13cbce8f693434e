/-! the state: hands; a row that tells it; what the reference reads off it -/
abbrev HS : Type := Nat × Nat × Nat × Nat × Nat × (Nat → Nat) × (Nat → Nat)
abbrev kdH (x : HS) : Nat := x.1
abbrev atH (x : HS) : Nat := x.2.1
abbrev ikH (x : HS) : Nat := x.2.2.1
abbrev cnH (x : HS) : Nat := x.2.2.2.1
abbrev nsH (x : HS) : Nat := x.2.2.2.2.1
abbrev wyH (x : HS) : Nat → Nat := x.2.2.2.2.2.1
abbrev lnH (x : HS) : Nat → Nat := x.2.2.2.2.2.2
/-- how many hands, the year, what is smudged, the hands -/
abbrev St : Type := Nat × Int32 × Int64 × (Nat → HS)
abbrev nS (t : St) : Nat := t.1
abbrev yS (t : St) : Int32 := t.2.1
abbrev sS (t : St) : Int64 := t.2.2.1
abbrev hS (t : St) : Nat → HS := t.2.2.2
def WfH (x : HS) : Prop := kdH x < 6 ∧ atH x < 48 ∧ ikH x ≤ 999 ∧ cnH x ≤ 99999 ∧ nsH x ≤ 8 ∧ ∀ i, i < nsH x → wyH x i < 4 ∧ 1 ≤ lnH x i ∧ lnH x i ≤ 7
def Wf (t : St) : Prop := nS t ≤ 6 ∧ lo48 (sS t) ∧ ∀ h, h < nS t → WfH (hS t h)
def RwH (S : Nat → Int32) (h : Nat) (x : HS) : Prop := S (50 + 21 * h + 0) = nI (kdH x) ∧ S (50 + 21 * h + 1) = nI (atH x) ∧ S (50 + 21 * h + 2) = nI (ikH x) ∧ S (50 + 21 * h + 3) = nI (cnH x) ∧ S (50 + 21 * h + 4) = nI (nsH x) ∧ ∀ i, i < nsH x → S (50 + 21 * h + (5 + i)) = nI (wyH x i) ∧ S (50 + 21 * h + (13 + i)) = nI (lnH x i)
def Rw (S : Nat → Int32) (t : St) : Prop := S 0 = nI (nS t) ∧ S 1 = yS t ∧ (∀ c, c < 48 → S (2 + c) = bI (tb (sS t) c)) ∧ ∀ h, h < nS t → RwH S h (hS t h)
/-- kinds -/
def tn (k w : Nat) : Nat := if k = 5 ∧ w % 2 = 1 then 4 - w else w
def hf (l : Nat) : Nat := if l < 2 then 1 else l / 2
def sp (k i l : Nat) : Nat := if k = 1 then hf l else if k = 2 then l + 1 else if k = 3 then (if l - i % 2 < 1 then 1 else l - i % 2) else if k = 4 then (if i = 0 then hf l + 1 else hf l) else if k = 5 then l + 1 else l
def cr (k : Nat) : Nat := if k = 1 then 4 else if k = 3 then 3 else if k = 4 then 3 else if k = 5 then 1 else 2
theorem tn_lt : ∀ k, k < 6 → ∀ w, w < 4 → tn k w < 4 := by decide
theorem sp_le : ∀ k, k < 6 → ∀ i, i < 8 → ∀ l, l < 8 → sp k i l ≤ 8 := by decide +kernel
theorem cr_le : ∀ k, k < 6 → cr k ≤ 4 := by decide
/-- writing: cell, cells come to, cost -/
def wk (w : Nat) : Nat → Nat × Int64 × Nat → Nat × Int64 × Nat
  | 0, p => p
  | n + 1, p => wk w n (match stp p.1 w with
    | none => p
    | some d => (d, p.2.1 ||| bit1 d, p.2.2 + 1))
def trc (k : Nat) (wy ln : Nat → Nat) : Nat → Nat → Nat × Int64 × Nat → Nat × Int64 × Nat
  | 0, _, p => p
  | n + 1, i, p => trc k wy ln n (i + 1) (wk (tn k (wy i)) (sp k i (ln i)) p)
def tra (x : HS) : Nat × Int64 × Nat := trc (kdH x) (wyH x) (lnH x) (nsH x) 0 (atH x, bit1 (atH x), 0)
def pth (x : HS) : Int64 := (tra x).2.1
def cst (x : HS) : Nat := (tra x).2.2
theorem lo_bit {c : Nat} (h : c < 48) : lo48 (bit1 c) := by
  intro d hd
  rw [tb_bit (by omega)]
  have : ¬ d = c := by omega
  simp [this]
theorem lo_or {x y : Int64} (hx : lo48 x) (hy : lo48 y) : lo48 (x ||| y) := fun c hc => by rw [tb_or, hx c hc, hy c hc]; rfl
theorem wk_ok {w : Nat} : ∀ n p, p.1 < 48 → lo48 p.2.1 → (wk w n p).1 < 48 ∧ lo48 (wk w n p).2.1 ∧ (wk w n p).2.2 ≤ p.2.2 + n := by
  intro n
  induction n with
  | zero => intro p h1 h2; exact ⟨h1, h2, Nat.le_refl _⟩
  | succ n ih =>
    intro p h1 h2
    simp only [wk]
    cases e : stp p.1 w with
    | none =>
      obtain ⟨a, b, c⟩ := ih p h1 h2
      exact ⟨a, b, by dsimp only at c ⊢; omega⟩
    | some d =>
      have hd := (stp_lt h1 e).1
      obtain ⟨a, b, c⟩ := ih (d, p.2.1 ||| bit1 d, p.2.2 + 1) hd (lo_or h2 (lo_bit hd))
      exact ⟨a, b, by dsimp only at c ⊢; omega⟩
theorem trc_ok {k : Nat} {wy ln : Nat → Nat} (hk : k < 6) : ∀ n i p, i + n ≤ 8 → (∀ j, i ≤ j → j < i + n → ln j < 8) → p.1 < 48 → lo48 p.2.1 → (trc k wy ln n i p).1 < 48 ∧ lo48 (trc k wy ln n i p).2.1 ∧ (trc k wy ln n i p).2.2 ≤ p.2.2 + 8 * n := by
  intro n
  induction n with
  | zero => intro i p _ _ h1 h2; exact ⟨h1, h2, by simp [trc]⟩
  | succ n ih =>
    intro i p hi hl h1 h2
    obtain ⟨a, b, c⟩ := wk_ok (w := tn k (wy i)) (sp k i (ln i)) p h1 h2
    have hs := sp_le k hk i (by omega) (ln i) (hl i (Nat.le_refl _) (by omega))
    obtain ⟨a2, b2, c2⟩ := ih (i + 1) _ (by omega) (fun j hj hj2 => hl j (by omega) (by omega)) a b
    refine ⟨a2, b2, ?_⟩
    simp only [trc]
    omega
theorem tra_ok {x : HS} (h : WfH x) : lo48 (pth x) ∧ cst x ≤ 64 := by
  obtain ⟨h1, h2, h3, h4, h5, h6⟩ := h
  obtain ⟨a, b, c⟩ := trc_ok (wy := wyH x) (ln := lnH x) h1 (nsH x) 0 (atH x, bit1 (atH x), 0) (by omega) (fun j _ hj => by have := (h6 j (by omega)).2.2; omega) h2 (lo_bit h2)
  refine ⟨b, ?_⟩
  show (trc (kdH x) (wyH x) (lnH x) (nsH x) 0 (atH x, bit1 (atH x), 0)).2.2 ≤ 64
  have c' : (trc (kdH x) (wyH x) (lnH x) (nsH x) 0 (atH x, bit1 (atH x), 0)).2.2 ≤ 0 + 8 * nsH x := c
  omega
/-- lines, what is inside, who writes, whose a cell is -/
def lnS (t : St) (h : Nat) : Int64 := pth (hS t h) &&& (sS t ^^^ (-1))
def inS (t : St) (h : Nat) : Int64 := encl (lnS t h)
def wrS (t : St) (h : Nat) : Bool := decide (cst (hS t h) ≤ ikH (hS t h))
theorem lo_lnS {t : St} (hw : Wf t) {h : Nat} (hh : h < nS t) : lo48 (lnS t h) := lo48_and (tra_ok (hw.2.2 h hh)).1
theorem lo_inS (t : St) (h : Nat) : lo48 (inS t h) := lo_encl _
/-! the reference's small ones -/
theorem mul21 (h : Nat) : (21 : Int32) * nI h = nI (21 * h) := pk_mul 21 h
theorem p_spot (h k : Nat) (M : Nm) : f_M_spot (nI h) (nI k) M = some (nI (50 + 21 * h + k), M) := by
  unfold f_M_spot
  rw [mul21, show (50 : Int32) = nI 50 from rfl, nI_add, nI_add]
theorem p_its {h k : Nat} (hh : h < 6) (hk : k < 21) (M : Nm) : f_M_its (nI h) (nI k) M = some (M.1 87 (50 + 21 * h + k), M) := by
  unfold f_M_its
  rw [p_spot, bnd_s, grd_h (inb_nI (by omega) (by decide)), ix_nI (by omega)]
theorem p_its0 {h : Nat} (hh : h < 6) (M : Nm) : f_M_its (nI h) 0 M = some (M.1 87 (50 + 21 * h + 0), M) := p_its hh (k := 0) (by decide) M
theorem p_its1 {h : Nat} (hh : h < 6) (M : Nm) : f_M_its (nI h) 1 M = some (M.1 87 (50 + 21 * h + 1), M) := p_its hh (k := 1) (by decide) M
theorem p_its2 {h : Nat} (hh : h < 6) (M : Nm) : f_M_its (nI h) 2 M = some (M.1 87 (50 + 21 * h + 2), M) := p_its hh (k := 2) (by decide) M
theorem p_its3 {h : Nat} (hh : h < 6) (M : Nm) : f_M_its (nI h) 3 M = some (M.1 87 (50 + 21 * h + 3), M) := p_its hh (k := 3) (by decide) M
theorem p_its4 {h : Nat} (hh : h < 6) (M : Nm) : f_M_its (nI h) 4 M = some (M.1 87 (50 + 21 * h + 4), M) := p_its hh (k := 4) (by decide) M
theorem p_its5 {h i : Nat} (hh : h < 6) (hi : i < 8) (M : Nm) : f_M_its (nI h) (5 + nI i) M = some (M.1 87 (50 + 21 * h + (5 + i)), M) := by
  rw [show (5 : Int32) = nI 5 from rfl, nI_add]
  exact p_its hh (by omega) M
theorem p_its13 {h i : Nat} (hh : h < 6) (hi : i < 8) (M : Nm) : f_M_its (nI h) (13 + nI i) M = some (M.1 87 (50 + 21 * h + (13 + i)), M) := by
  rw [show (13 : Int32) = nI 13 from rfl, nI_add]
  exact p_its hh (by omega) M
theorem p_becomes {j : Nat} (hj : j < 176) (v : Int32) (M : Nm) : f_M_becomes (nI j) v M = some (M.1 87 j, mI M 87 j v) := by
  unfold f_M_becomes
  rw [grd_h (inb_nI hj (by decide)), grd_h (inb_nI hj (by decide)), bl_e, ix_nI (by omega)]
/-- a finding by its place: 0 BEYOND .. 6 SIZE -/
theorem p_finds {i : Nat} (hi : i < 7) {v : Int32} (hv : (-1000000001) - v = nI i) (M : Nm) : f_M_finds v M = some (v, mI M 91 i (M.1 91 i + 1)) := by
  unfold f_M_finds
  rw [bl_e, hv, grd_h (inb_nI hi (by decide)), grd_h (inb_nI hi (by decide)), bl_e, ix_nI (by omega)]
theorem p_finding {i : Nat} (hi : i < 7) {v : Int32} (hv : (-1000000001) - v = nI i) (M : Nm) : f_P_finding v M = some (v, mI M 85 i (M.1 85 i + 1)) := by
  unfold f_P_finding
  rw [hv, if_neg (nI_pos (by omega)), if_neg (nI_ge hi (by decide)), bl_e, grd_h (inb_nI hi (by decide)), grd_h (inb_nI hi (by decide)), bl_e, ix_nI (by omega)]
def tuI (r1 r3 : Int32) : Int32 := if r3 = 5 then (if (r1 - r1 / 2 * 2) = 1 then 4 - r1 else r1) else r1
theorem tu_all : ∀ k, k < 6 → ∀ w, w < 4 → tuI (nI w) (nI k) = nI (tn k w) := by decide +kernel
theorem p_turned {h i : Nat} (hh : h < 6) (hi : i < 8) (M : Nm) {k w : Nat} (hk : k < 6) (hw : w < 4) (e1 : M.1 87 (50 + 21 * h + 0) = nI k) (e2 : M.1 87 (50 + 21 * h + (5 + i)) = nI w) : f_M_turned (nI h) (nI i) M = some (nI (tn k w), M) := by
  unfold f_M_turned
  rw [p_its5 hh hi, bnd_s, p_its0 hh, bnd_s, e1, e2, ← tu_all k hk w hw]
  unfold tuI
  split
  · split <;> rfl
  · rfl
