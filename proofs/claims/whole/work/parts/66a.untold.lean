/-! the class: a land whose hands are told, but not traced -/
def LandU (d : Nat) (M : Nm) (t : St) : Prop := M.2.1 d 0 = sS t ∧ M.1 d 1 = yS t ∧ M.1 d 2 = nI (nS t) ∧ (∀ h, h < nS t → HF (ho d h) M (hS t h)) ∧ Ca d M
theorem LandR.u {d : Nat} {M : Nm} {t : St} (h : LandR d M t) : LandU d M t := ⟨h.1, h.2.1, h.2.2.1, fun k hk => (h.2.2.2.1 k hk).1, h.2.2.2.2⟩
theorem LandU.ca {d : Nat} {M : Nm} {t : St} (h : LandU d M t) : Ca d M := h.2.2.2.2
theorem HF.r {o a b : Nat} {M M' : Nm} {x : HS} (h : HF o M x) (hf : Fr a b M M') (hd : o + 3 ≤ a ∨ b ≤ o) : HF o M' x := by
  obtain ⟨p, q, r, s, u, v⟩ := h
  have z := hf o (by omega)
  refine ⟨by rw [z.2.2]; exact p, by rw [z.1]; exact q, by rw [z.1]; exact r, by rw [z.1]; exact s, by rw [z.1]; exact u, fun k hk => ?_⟩
  rw [(hf (o + 1) (by omega)).1, (hf (o + 2) (by omega)).1]
  exact v k hk
theorem LandU.r {d a b : Nat} {M M' : Nm} {t : St} (hn : nS t ≤ 6) (h : LandU d M t) (hf : Fr a b M M') (hd : d + 20 ≤ a ∨ b ≤ d) : LandU d M' t := by
  obtain ⟨p, q, r, s, u⟩ := h
  have e := hf d (by omega)
  exact ⟨by rw [e.2.1]; exact p, by rw [e.1]; exact q, by rw [e.1]; exact r, fun k hk => (s k hk).r hf (by unfold ho; omega), Ca.r u hf hd⟩
theorem LandU.up {d : Nat} {M M' : Nm} {t : St} (h : LandU d M t) {i : Nat} {x : HS} (hf : Fr (ho d i) (ho d i + 3) M M') (hr : HF (ho d i) M' x) (hc : M'.2.1 (ho d i) 10 = encl (M'.2.1 (ho d i) 9)) : LandU d M' (upH t i x) := by
  obtain ⟨p, q, r, s, u⟩ := h
  have e := hf d (by unfold ho; omega)
  refine ⟨by rw [e.2.1]; exact p, by rw [e.1]; exact q, by rw [e.1]; exact r, fun k hk => ?_, fun k hk => ?_⟩
  · by_cases z : k = i
    · rw [z, upH_s]; exact hr
    · rw [upH_n z]; exact (s k hk).r hf (by unfold ho; omega)
  · by_cases z : k = i
    · rw [z]; exact hc
    · rw [(hf (ho d k) (by unfold ho; omega)).2.1]; exact u k hk
theorem LandU.sm {d : Nat} {M : Nm} {t : St} (h : LandU d M t) (x : Int64) : LandU d (mL M d 0 x) (nS t, yS t, x, hS t) := by
  have hF : Fr d (d + 1) M (mL M d 0 x) := Fr.l (Nat.le_refl _) (by omega)
  obtain ⟨p, q, r, s, u⟩ := h
  exact ⟨by rw [mL_s, if_pos rfl], q, r, fun k hk => (s k hk).r hF (by unfold ho; omega), fun k hk => by rw [(hF (ho d k) (by unfold ho; omega)).2.1]; exact u k hk⟩
theorem p_isFullU {d : Nat} {t : St} (hw : Wf t) {M : Nm} (h : LandU d M t) : f_L_isFull d M = some (bI (decide (nS t = 6)), M) := by
  have h6 := hw.1
  unfold f_L_isFull
  rw [h.2.2.1]
  by_cases q : nS t = 6
  · rw [if_neg (show ¬ nI (nS t) < 6 from nI_nlt (b := 6) (by omega) (by omega)), decide_eq_true q]; rfl
  · rw [if_pos (show nI (nS t) < 6 from nI_lt (b := 6) (by omega) (by decide)), decide_eq_false q]; rfl
theorem p_newHandU {d : Nat} {t : St} (hw : Wf t) {M : Nm} (h : LandU d M t) (hn : nS t < 6) {k c : Nat} (hk : k < 6) (hc : c < 48) : ∃ M', f_L_newHand d (kc k) (nI c) M = some (some (ho d (nS t)), M') ∧ Fr d (d + 22) M M' ∧ LandU d M' (adH t (nH k c)) := by
  obtain ⟨M1, a1, a2, a3⟩ := p_startAnew (o := ho d (nS t)) hk hc (h.2.2.2.2 (nS t) hn)
  have e0 := a2 d (by unfold ho; omega)
  obtain ⟨p, q, r, s, u⟩ := h
  have hF : Fr d (d + 1) M1 (mI M1 d 2 (nI (nS t + 1))) := Fr.i (Nat.le_refl _) (by omega)
  unfold f_L_newHand
  rw [p_isFullU hw ⟨p, q, r, s, u⟩, bnd_s, decide_eq_false (by omega), if_pos (show bI false = 0 from rfl), r, grd_h (inb_nI hn (by decide)), hnd_o hn, a1, bnd_s, bl_e, e0.1, r, nI_1]
  refine ⟨_, rfl, Fr.tr (Fr.hd hn a2) (hF.w (by omega) (by omega)), ?_, ?_, ?_, fun k' hk' => ?_, fun k' hk' => ?_⟩
  · rw [mI_L, e0.2.1]; exact p
  · rw [mI_s, if_neg (by decide), e0.1]; exact q
  · rw [mI_s, if_pos rfl]; rfl
  · refine HF.r ?_ hF (by unfold ho; omega)
    show HF (ho d k') M1 (if k' = nS t then nH k c else hS t k')
    by_cases z : k' = nS t
    · rw [if_pos z, z]; exact a3.1
    · rw [if_neg z]
      have hk2 : k' < nS t + 1 := hk'
      exact (s k' (by omega)).r a2 (by unfold ho; omega)
  · rw [mI_L]
    by_cases z : k' = nS t
    · rw [z]; exact a3.2.2.2
    · rw [(a2 (ho d k') (by unfold ho; omega)).2.1]; exact u k' hk'
theorem p_thL {d : Nat} {t : St} (hw : Wf t) : ∀ (n f i : Nat) (M : Nm), LandU d M t → (∀ h, h < i → HR (ho d h) M (hS t h)) → i + n = nS t → n < f → ∃ M', f_L_traceHands_L2 d f (nI i) M = some ((), M') ∧ Fr d (d + 22) M M' ∧ LandR d M' t := by
  have h6 := hw.1
  intro n
  induction n with
  | zero =>
    intro f i M h hr hi hf
    obtain ⟨f, rfl⟩ : ∃ g, f = g + 1 := ⟨f - 1, by omega⟩
    have q : i = nS t := by omega
    subst q
    exact ⟨M, by rw [f_L_traceHands_L2, h.2.2.1, if_pos (nI_le (by omega) (by omega))], Fr.rf _ _ M, h.1, h.2.1, h.2.2.1, hr, h.2.2.2.2⟩
  | succ n ih =>
    intro f i M h hr hi hf
    obtain ⟨f, rfl⟩ : ∃ g, f = g + 1 := ⟨f - 1, by omega⟩
    obtain ⟨a1, a2⟩ := p_traced (hw.2.2 i (by omega)) (h.2.2.2.1 i (by omega)) (h.2.2.2.2 i (by omega))
    have hF : Fr (ho d i) (ho d i + 3) M (tM M (ho d i) (pth (hS t i)) (cst (hS t i))) := Fr.t (Nat.le_refl _) (by omega)
    generalize tM M (ho d i) (pth (hS t i)) (cst (hS t i)) = M1 at a1 a2 hF
    obtain ⟨p, q, r, s, u⟩ := h
    have e0 := hF d (by unfold ho; omega)
    obtain ⟨M', b1, b2, b3⟩ := ih f (i + 1) M1 ⟨by rw [e0.2.1]; exact p, by rw [e0.1]; exact q, by rw [e0.1]; exact r, fun k hk => by
      by_cases z : k = i
      · rw [z]; exact a2.1
      · exact (s k hk).r hF (by unfold ho; omega), fun k hk => by
      by_cases z : k = i
      · rw [z]; exact a2.2.2.2
      · rw [(hF (ho d k) (by unfold ho; omega)).2.1]; exact u k hk⟩ (fun k hk => by
      by_cases z : k = i
      · rw [z]; exact a2
      · exact (hr k (by omega)).r hF (by unfold ho; omega)) (by omega) (by omega)
    refine ⟨M', ?_, Fr.tr (Fr.hd (by omega) hF) b2, b3⟩
    rw [f_L_traceHands_L2, r, if_neg (nI_ge (by omega) (by omega)), grd_h (inb_nI (by omega) (by decide)), hnd_o (by omega), a1, bnd_s, nI_1]
    exact b1
theorem p_traceHands {d : Nat} {t : St} (hw : Wf t) {M : Nm} (h : LandU d M t) : ∃ M', f_L_traceHands d M = some ((), M') ∧ Fr d (d + 22) M M' ∧ LandR d M' t :=
  p_thL hw (nS t) FU 0 M h (fun k hk => by omega) (by omega) (FU_gt (by have := hw.1; omega))
