/-! the class: how many are owned, whose a cell is -/
def isd (d : Nat) : Prop := d = 8 ∨ d = 30 ∨ d = 52
theorem isb_8 : ∀ h, h < 6 → isb 7 (ho 8 h) = true := by decide
theorem isb_30 : ∀ h, h < 6 → isb 7 (ho 30 h) = true := by decide
theorem isb_52 : ∀ h, h < 6 → isb 7 (ho 52 h) = true := by decide
theorem isb_ho {d h : Nat} (hd : isd d) (hh : h < 6) : isb 7 (ho d h) = true := by
  rcases hd with q | q | q <;> subst q
  · exact isb_8 h hh
  · exact isb_30 h hh
  · exact isb_52 h hh
theorem p_howManyOwnedBy {d : Nat} (hd : isd d) {t : St} (hw : Wf t) {M : Nm} (h : LandR d M t) {k : Nat} (hk : k < nS t) : ∃ M', f_L_howManyOwnedBy d (nI k) M = some (nI (owc t k), M') ∧ Fl d M M' ∧ LandR d M' t := by
  have h6 := hw.1
  obtain ⟨M1, a1, a2, a3, a4⟩ := p_stakeClaims hw h
  unfold f_L_howManyOwnedBy
  rw [p_handOf hw h, if_pos (show hn (nI k) t = true by rw [hn_nI (by omega)]; exact decide_eq_true hk), bnd_s, ifn_s, ix_nI (by omega), grd_h (isb_ho hd (by omega)), a1, bnd_s, p_shareOf hw a3 a4 hk, bnd_s, p_bitCount, bnd_s]
  exact ⟨M1, rfl, a2, a3⟩
theorem p_oL {d : Nat} {t : St} (hw : Wf t) {M : Nm} (h : LandR d M t) (hc : ∀ k, k < nS t → M.2.1 (d + 20) k = cl t k) {c : Nat} (hc48 : c < 48) : ∀ (n f i : Nat), (∀ k, k < i → owN t c (nS t) ≠ some k) → i + n = nS t → n < f → f_L_ownerOf_L6 d (nI c) f (nI i) M = some (oI (owN t c (nS t)), M) := by
  have h6 := hw.1
  intro n
  induction n with
  | zero =>
    intro f i h0 hi hf
    obtain ⟨f, rfl⟩ : ∃ g, f = g + 1 := ⟨f - 1, by omega⟩
    have e : owN t c (nS t) = none := by
      cases e : owN t c (nS t) with
      | none => rfl
      | some k => exact absurd e (h0 k (by have := (owN_iff.mp e).1; omega))
    rw [f_L_ownerOf_L6, h.2.2.1, if_pos (nI_le (by omega) (by omega)), e]
    rfl
  | succ n ih =>
    intro f i h0 hi hf
    obtain ⟨f, rfl⟩ : ∃ g, f = g + 1 := ⟨f - 1, by omega⟩
    rw [f_L_ownerOf_L6, h.2.2.1, if_neg (nI_ge (by omega) (by omega)), p_shareOf hw h hc (by omega), bnd_s, p_bitOf (by omega), bnd_s, nI_1]
    have ht : tb (shs t i) c = decide (owN t c (nS t) = some i) := by
      unfold shs
      rw [tb_cs _ 48 c (Nat.le_refl _)]
      simp [hc48]
    by_cases q : owN t c (nS t) = some i
    · rw [if_pos (show bI (tb (shs t i) c) = 1 by rw [ht, decide_eq_true q]; rfl), q]
      rfl
    · rw [if_neg (show ¬ bI (tb (shs t i) c) = 1 by rw [ht, decide_eq_false q]; decide)]
      exact ih f (i + 1) (fun k hk => by
        by_cases z : k = i
        · rw [z]; exact q
        · exact h0 k (by omega)) (by omega) (by omega)
theorem p_LownerOf {d : Nat} {t : St} (hw : Wf t) {M : Nm} (h : LandR d M t) {c : Nat} (hc48 : c < 48) : ∃ M', f_L_ownerOf d (nI c) M = some (oI (owN t c (nS t)), M') ∧ Fl d M M' ∧ LandR d M' t := by
  obtain ⟨M1, a1, a2, a3, a4⟩ := p_stakeClaims hw h
  unfold f_L_ownerOf
  rw [a1, bnd_s]
  exact ⟨M1, p_oL hw a3 a4 hc48 (nS t) FU 0 (fun k hk => by omega) (by omega) (FU_gt (by have := hw.1; omega)), a2, a3⟩
