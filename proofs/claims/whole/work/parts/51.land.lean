/-! the class: a land -/
def ho (d h : Nat) : Nat := d + 1 + 1 + 3 * h
theorem hnd_o {d h : Nat} (hh : h < 6) : hnd d (nI h) = ho d h := by
  unfold hnd ho
  rw [ix_nI (by omega)]
def LandR (d : Nat) (M : Nm) (t : St) : Prop := M.2.1 d 0 = sS t ∧ M.1 d 1 = yS t ∧ M.1 d 2 = nI (nS t) ∧ (∀ h, h < nS t → HR (ho d h) M (hS t h)) ∧ ∀ h, h < 6 → M.2.1 (ho d h) 10 = encl (M.2.1 (ho d h) 9)
theorem HR.f {o : Nat} {M M' : Nm} {x : HS} (h : HR o M x) (h1 : ∀ c, o ≤ c → c ≤ o + 2 → M'.1 c = M.1 c) (h2 : M'.2.1 o = M.2.1 o) (h3 : M'.2.2 o = M.2.2 o) : HR o M' x := by
  obtain ⟨⟨a, b, c, d, e, f⟩, g, i, j⟩ := h
  have z0 := h1 o (by omega) (by omega)
  refine ⟨⟨by rw [h3]; exact a, by rw [z0]; exact b, by rw [z0]; exact c, by rw [z0]; exact d, by rw [z0]; exact e, fun k hk => ?_⟩, by rw [h2]; exact g, by rw [z0]; exact i, by rw [h2]; exact j⟩
  rw [h1 (o + 1) (by omega) (by omega), h1 (o + 2) (by omega) (by omega)]
  exact f k hk
theorem LandR.f {d : Nat} {M M' : Nm} {t : St} (hn : nS t ≤ 6) (h : LandR d M t) (h1 : ∀ c, d ≤ c → c < d + 20 → M'.1 c = M.1 c) (h2 : ∀ c, d ≤ c → c < d + 20 → M'.2.1 c = M.2.1 c) (h3 : M'.2.2 = M.2.2) : LandR d M' t := by
  obtain ⟨a, b, c, e, f⟩ := h
  refine ⟨by rw [h2 d (by omega) (by omega)]; exact a, by rw [h1 d (by omega) (by omega)]; exact b, by rw [h1 d (by omega) (by omega)]; exact c, fun k hk => (e k hk).f (fun c1 b1 b2 => h1 c1 (by unfold ho at b1; omega) (by unfold ho at b2; omega)) (h2 _ (by unfold ho; omega) (by unfold ho; omega)) (by rw [h3]), fun k hk => ?_⟩
  rw [h2 _ (by unfold ho; omega) (by unfold ho; omega)]
  exact f k hk
theorem p_handOf {d : Nat} {M : Nm} {t : St} (hw : Wf t) (h : LandR d M t) (v : Int32) : f_L_handOf d v M = some (if hn v t then some (ho d (ix v)) else none, M) := by
  have h6 := hw.1
  unfold f_L_handOf
  rw [h.2.2.1]
  by_cases e : hn v t = true
  · obtain ⟨k, k1, k2, k3⟩ := hn_of e
    rw [if_pos e, k3, k2, if_neg (nI_pos (by omega)), if_neg (nI_ge k1 (by omega)), if_neg (nI_ge (by omega) (by decide)), grd_h (inb_nI (by omega) (by decide)), hnd_o (by omega)]
  · rw [if_neg e]
    by_cases q : v < 0
    · rw [if_pos q]
    · rw [if_neg q]
      obtain ⟨k, k1, k2⟩ := nI_of q
      have hk : ¬ k < nS t := fun y => e (by rw [k2, hn_nI k1]; exact decide_eq_true y)
      rw [if_pos (show nI (nS t) ≤ v by rw [k2]; exact nI_le (by omega) k1)]
theorem p_makeSmudged {d : Nat} {M : Nm} {c : Nat} (v : Int32) : f_L_makeSmudged d (nI c) v M = some ((), mL M d 0 (if v = 0 then M.2.1 d 0 &&& (bit1 c ^^^ (-1)) else M.2.1 d 0 ||| bit1 c)) := by
  unfold f_L_makeSmudged
  rw [p_bit, bnd_s, bl_e, bnd_s, bl_e]
  split <;> rfl
theorem p_csL (d : Nat) {t : St} (hw : Wf t) (M : Nm) (h : LandR d M t) : ∀ (n f i : Nat), i + n = nS t → n < f → f_L_cornOfAll_L4 d f (nI (sm cnH t i)) (nI i) M = some (nI (sm cnH t (nS t)), M) := by
  have h6 := hw.1
  intro n
  induction n with
  | zero =>
    intro f i hi hf
    obtain ⟨f, rfl⟩ : ∃ g, f = g + 1 := ⟨f - 1, by omega⟩
    rw [f_L_cornOfAll_L4, h.2.2.1, if_pos (nI_le (by omega) (by omega)), ← hi]
    rfl
  | succ n ih =>
    intro f i hi hf
    obtain ⟨f, rfl⟩ : ∃ g, f = g + 1 := ⟨f - 1, by omega⟩
    rw [f_L_cornOfAll_L4, h.2.2.1, if_neg (nI_ge (by omega) (by omega)), grd_h (inb_nI (by omega) (by decide)), hnd_o (by omega), (h.2.2.2.1 i (by omega)).1.2.2.2.1, nI_add, nI_1]
    exact ih f (i + 1) (by omega) (by omega)
theorem p_cornOfAll {d : Nat} {t : St} (hw : Wf t) {M : Nm} (h : LandR d M t) : f_L_cornOfAll d M = some (nI (sm cnH t (nS t)), M) :=
  p_csL d hw M h (nS t) FU 0 (by omega) (FU_gt (by have := hw.1; omega))
