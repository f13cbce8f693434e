/-! the class: what the kinds do -/
def vsI (k : Nat) (a b : Int32) : Int32 := if k = 0 then b else if k = 1 then (if (1 : Int32) < (b / 2) then (b / 2) else 1) else if k = 2 then b + 1 else if k = 3 then (if (1 : Int32) < (b - (a - a / 2 * 2)) then (b - (a - a / 2 * 2)) else 1) else if k = 4 then (if a = 0 then (if (1 : Int32) < (b / 2) then (b / 2) else 1) + 1 else (if (1 : Int32) < (b / 2) then (b / 2) else 1)) else b + 1
theorem vs_all : ∀ k, k < 6 → ∀ i, i < 8 → ∀ l, l < 8 → vsI k (nI i) (nI l) = nI (sp k i l) := by decide +kernel
theorem c6 {k : Nat} (h : k < 6) : k = 0 ∨ k = 1 ∨ k = 2 ∨ k = 3 ∨ k = 4 ∨ k = 5 := by omega
theorem p_vsteps {k i l : Nat} (hk : k < 6) (hi : i < 8) (hl : l < 8) (M : Nm) : v_steps (kc k) (nI i) (nI l) M = some (nI (sp k i l), M) := by
  rw [← vs_all k hk i hi l hl]
  rcases c6 hk with q | q | q | q | q | q <;> subst q
  · rfl
  · rfl
  · rfl
  · rfl
  · show (if nI i = 0 then some ((if (1 : Int32) < (nI l / 2) then (nI l / 2) else 1) + 1, M) else some ((if (1 : Int32) < (nI l / 2) then (nI l / 2) else 1), M)) = some ((if nI i = 0 then (if (1 : Int32) < (nI l / 2) then (nI l / 2) else 1) + 1 else (if (1 : Int32) < (nI l / 2) then (nI l / 2) else 1)), M)
    split <;> rfl
  · rfl
def vtI (k : Nat) (a : Int32) : Int32 := if k = 5 then (if a = 1 then 3 else if a = 3 then 1 else a) else a
theorem vt_all : ∀ k, k < 6 → ∀ w, w < 4 → vtI k (nI w) = nI (tn k w) := by decide +kernel
theorem p_vturns {k w : Nat} (hk : k < 6) (hw : w < 4) (M : Nm) : v_turns (kc k) (nI w) M = some (nI (tn k w), M) := by
  rw [← vt_all k hk w hw]
  rcases c6 hk with q | q | q | q | q | q <;> subst q
  · rfl
  · rfl
  · rfl
  · rfl
  · rfl
  · show (if nI w = 1 then some (3, M) else (if nI w = 3 then some (1, M) else some (nI w, M))) = some ((if nI w = 1 then 3 else if nI w = 3 then 1 else nI w), M)
    split
    · rfl
    · split <;> rfl
theorem p_vcrop {k : Nat} (hk : k < 6) (M : Nm) : v_crop (kc k) M = some (nI (cr k), M) := by
  rcases c6 hk with q | q | q | q | q | q <;> subst q
  · rfl
  · rfl
  · rfl
  · rfl
  · show some ((2 : Int32) * 2 - 1, M) = some (nI (cr 4), M)
    rw [show (2 : Int32) * 2 - 1 = nI (cr 4) by decide +kernel]
  · show some ((2 : Int32) / 2, M) = some (nI (cr 5), M)
    rw [show (2 : Int32) / 2 = nI (cr 5) by decide +kernel]
theorem p_visOf {k o : Nat} (hk : k < 6) (ho : o < 6) (M : Nm) : v_isOf (kc k) (nI o) M = some (bI (und k o), M) := by
  rcases c6 hk with q | q | q | q | q | q <;> subst q <;> rcases c6 ho with q2 | q2 | q2 | q2 | q2 | q2 <;> subst q2 <;> rfl
/-! calls keep the state in its bounds -/
theorem wf_lfA {α : Type} {A : Ab} (hw : WfA A) {o : (α × St) ⊕ Nat} {a : α} {A' : Ab} (h : ∀ a t, o = .inl (a, t) → Wf t) (e : lfA A o = .inl (a, A')) : WfA A' := by
  cases o with
  | inl q =>
    obtain ⟨b, t⟩ := q
    have e' : (Sum.inl (b, stA A t) : (α × Ab) ⊕ Nat) = .inl (a, A') := e
    simp at e'
    obtain ⟨_, rfl⟩ := e'
    exact ⟨h b t rfl, hw.2⟩
  | inr i => simp [lfA] at e
theorem wf_bmp {A : Ab} (hw : WfA A) (i : Nat) : WfA (bmp A i) := hw
