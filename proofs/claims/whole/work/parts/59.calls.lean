/-! the class: calls on hands -/
theorem rg1n {v : Int32} {n : Nat} (hn : n < 2 ^ 31) (h : rg v 1 n = true) : ∃ c, 1 ≤ c ∧ c ≤ n ∧ v = nI c ∧ ix v = c := by
  obtain ⟨h1, h2⟩ := rg_1.mp h
  obtain ⟨c, c1, c2, c3⟩ := rgN (v := v) (n := n) hn (rg_1.mpr ⟨by omega, h2⟩)
  refine ⟨c, ?_, c1, c2, c3⟩
  rw [c2, nI_toInt (by omega)] at h1
  omega
theorem qc_h {α : Type} {cv : Int32 → α} {A : Ab} (hw : WfA A) {M M1 : Nm} {a : α} {h : Nat} {x : HS} (hA : CA M A) (hh : h < 6) (hf : Fr (ho 8 h) (ho 8 h + 3) M M1) (hr : HR (ho 8 h) M1 x) : QC cv A M (some (a, M1)) (lfA A (.inl (a, upH (tA A) h x))) := qc_t hw hA (Fr.hd hh hf) (hA.1.up hf hr)
theorem knd_k {k : Nat} (hk : k < 6) : knd (nI k) = kc k := by unfold knd; rw [ix_nI (by omega)]
theorem k_hand {A : Ab} (hw : WfA A) (v1 v2 : Int32) (M : Nm) (h : CA M A) : QC id A M (f_P_hand v1 v2 M) (lfA A (o_hand v1 v2 (tA A))) := by
  have h6 := hw.1.1
  unfold f_P_hand o_hand
  rw [p_P_isKind, bnd_s]
  by_cases e1 : rg v1 0 5 = true
  · rw [if_neg (bI_t e1), p_P_isCell, bnd_s]
    by_cases e2 : rg v2 0 47 = true
    · obtain ⟨k, k1, k2, k3⟩ := rgN (n := 5) (by decide) e1
      obtain ⟨c, h1, h2, h3⟩ := rg47 e2
      rw [if_neg (bI_t e2), if_pos (show (rg v1 0 5 && rg v2 0 47) = true by simp [e1, e2]), h3, k3, h2, k2, grd_h (inb_nI (by omega) (by decide)), knd_k (by omega)]
      by_cases q : nS (tA A) = 6
      · rw [if_pos q, p_newFull hw.1 h.1 q, bnd_s, ifn_n]
        exact qc_fd (cv := id) hw (Fr.rf _ _ M) h (by decide) (by decide)
      · obtain ⟨M1, a1, a2, a3⟩ := p_newHand hw.1 h.1 (show nS (tA A) < 6 by omega) (k := k) (c := c) (by omega) h1
        have hz : M1.1 8 2 = nI (nS (tA A) + 1) := a3.2.2.1
        rw [if_neg q, a1, bnd_s, ifn_s, grd_h (isb_ho is8 (by omega)), hz, nI_pred]
        exact qc_t hw h a2 a3
    · rw [if_pos (bI_f (nf e2)), if_neg (show ¬ (rg v1 0 5 && rg v2 0 47) = true by simp [e2])]
      exact qc_f0 hw h
  · rw [if_pos (bI_f (nf e1)), if_neg (show ¬ (rg v1 0 5 && rg v2 0 47) = true by simp [e1])]
    exact qc_f0 hw h
theorem k_stroke {A : Ab} (hw : WfA A) (v1 v2 v3 : Int32) (M : Nm) (h : CA M A) : QC id A M (f_P_stroke v1 v2 v3 M) (lfA A (o_stroke v1 v2 v3 (tA A))) := by
  have h6 := hw.1.1
  unfold f_P_stroke o_stroke
  rw [p_handOf hw.1 h.1, bnd_s]
  by_cases e1 : hn v1 (tA A) = true
  · obtain ⟨j, j1, j2, j3⟩ := hn_of e1
    rw [if_pos (show hn v1 (tA A) = true from e1), ifn_s, j3, grd_h (isb_ho is8 (by omega)), p_P_isWay, bnd_s]
    by_cases e2 : rg v2 0 3 = true
    · rw [if_neg (bI_t e2), p_P_isLength, bnd_s]
      by_cases e3 : rg v3 1 7 = true
      · obtain ⟨w, w1, w2, w3⟩ := rgN (n := 3) (by decide) e2
        obtain ⟨l, l0, l1, l2, l3⟩ := rg1n (n := 7) (by decide) e3
        rw [if_neg (bI_t e3), if_pos (show (hn v1 (tA A) && (rg v2 0 3 && rg v3 1 7)) = true by simp [e1, e2, e3]), w3, l3, w2, l2]
        have hx := hw.1.2.2 j j1
        have hr := h.1.2.2.2.1 j j1
        by_cases q : nsH (hS (tA A) j) = 8
        · rw [if_pos q, p_addFull hr q, bnd_s, if_pos rfl]
          exact qc_fd (cv := id) hw (Fr.rf _ _ M) h (by decide) (by decide)
        · have hx5 := hx.2.2.2.2.1
          obtain ⟨M0, M1, a1, a0, a2, a3⟩ := p_addTraced hx hr (show nsH (hS (tA A) j) < 8 by omega) (w := w) (l := l) (by omega) ⟨l0, l1⟩
          have hz : M1.1 (ho 8 j) 4 = nI (nsH (hS (tA A) j) + 1) := a3.1.2.2.2.2.1
          rw [if_neg q, a1, bnd_s, if_neg (by decide), a0, bnd_s, hz]
          exact qc_h hw h (by omega) a2 a3
      · rw [if_pos (bI_f (nf e3)), if_neg (show ¬ (hn v1 (tA A) && (rg v2 0 3 && rg v3 1 7)) = true by simp [e3])]
        exact qc_f0 hw h
    · rw [if_pos (bI_f (nf e2)), if_neg (show ¬ (hn v1 (tA A) && (rg v2 0 3 && rg v3 1 7)) = true by simp [e2])]
      exact qc_f0 hw h
  · rw [if_neg (show ¬ hn v1 (tA A) = true from e1), ifn_n, if_neg (show ¬ (hn v1 (tA A) && (rg v2 0 3 && rg v3 1 7)) = true by simp [e1])]
    exact qc_f0 hw h
theorem k_of {A : Ab} (hw : WfA A) (v1 v2 : Int32) (M : Nm) (h : CA M A) : QC id A M (f_P_of v1 v2 M) (lfA A (o_of v1 v2 (tA A))) := by
  have h6 := hw.1.1
  unfold f_P_of o_of
  rw [p_handOf hw.1 h.1, bnd_s]
  by_cases e1 : hn v1 (tA A) = true
  · obtain ⟨j, j1, j2, j3⟩ := hn_of e1
    have hx := hw.1.2.2 j j1
    have hr := h.1.2.2.2.1 j j1
    rw [if_pos (show hn v1 (tA A) = true from e1), ifn_s, j3, grd_h (isb_ho is8 (by omega))]
    by_cases e2 : rg v2 0 9 = true
    · rw [if_pos (show (hn v1 (tA A) && rg v2 0 9) = true by simp [e1, e2])]
      obtain ⟨w, w1, w2, w3⟩ := rgN (n := 9) (by decide) e2
      have hw4 : w = 0 ∨ w = 1 ∨ w = 2 ∨ w = 3 ∨ w = 4 ∨ w = 5 ∨ w = 6 ∨ w = 7 ∨ w = 8 ∨ w = 9 := by omega
      have hk : M.2.2 (ho 8 j) = kc (kdH (hS (tA A) j)) := hr.1.1
      rw [w2]
      unfold a_of
      rcases hw4 with q | q | q | q | q | q | q | q | q | q <;> subst q
      · rw [if_pos (by decide), if_neg (by decide), if_neg (by decide), if_neg (by decide), if_neg (by decide), if_neg (by decide), if_pos (by decide), hk, grd_h (kb_kc _ hx.1), h.2.2.2.2.2.2.2 _ hx.1]
        exact qc_i h
      · rw [if_neg (by decide), if_pos (by decide), if_neg (by decide), if_neg (by decide), if_neg (by decide), if_neg (by decide), if_neg (by decide), if_neg (by decide), if_pos (by decide), hr.1.2.1]
        exact qc_i h
      · rw [if_neg (by decide), if_neg (by decide), if_pos (by decide), if_neg (by decide), if_neg (by decide), if_neg (by decide), if_neg (by decide), if_neg (by decide), if_neg (by decide), if_neg (by decide), if_pos (by decide), hr.1.2.2.1]
        exact qc_i h
      · rw [if_neg (by decide), if_neg (by decide), if_neg (by decide), if_pos (by decide), if_neg (by decide), if_neg (by decide), if_neg (by decide), if_neg (by decide), if_neg (by decide), if_neg (by decide), if_neg (by decide), if_neg (by decide), if_pos (by decide), hr.1.2.2.2.1]
        exact qc_i h
      · rw [if_neg (by decide), if_neg (by decide), if_neg (by decide), if_neg (by decide), if_pos (by decide), if_neg (by decide), if_neg (by decide), if_neg (by decide), if_neg (by decide), if_neg (by decide), if_neg (by decide), if_neg (by decide), if_neg (by decide), if_neg (by decide), hr.1.2.2.2.2.1]
        exact qc_i h
      · rw [if_neg (by decide), if_neg (by decide), if_neg (by decide), if_neg (by decide), if_neg (by decide), if_pos (by decide), if_pos (by decide), hr.2.2.1]
        exact qc_i h
      · rw [if_neg (by decide), if_neg (by decide), if_neg (by decide), if_neg (by decide), if_neg (by decide), if_neg (by decide), if_pos (by decide), p_Hwrites hx hr, bnd_s]
        have hwr : decide (cst (hS (tA A) j) ≤ ikH (hS (tA A) j)) = wrS (tA A) j := rfl
        rw [hwr]
        have hz : (if bI (wrS (tA A) j) = 0 then some ((0 : Int32), M) else some (1, M)) = some (bI (wrS (tA A) j), M) := by cases wrS (tA A) j <;> rfl
        rw [hz, if_neg (by decide), if_pos (by decide)]
        exact qc_i h
      · obtain ⟨M1, a1, a2, a3⟩ := p_howManyInside hr (sS (tA A))
        rw [if_neg (by decide), if_neg (by decide), if_neg (by decide), if_neg (by decide), if_neg (by decide), if_neg (by decide), if_neg (by decide), if_pos (by decide), h.1.1, a1, bnd_s, if_neg (by decide), if_neg (by decide), if_pos (by decide)]
        exact qc_l hw h (a2.fl (by omega)) (h.1.i a2 a3)
      · obtain ⟨M1, a1, a2, a3⟩ := p_howManyOwnedBy is8 hw.1 h.1 j1
        rw [if_neg (by decide), if_neg (by decide), if_neg (by decide), if_neg (by decide), if_neg (by decide), if_neg (by decide), if_neg (by decide), if_neg (by decide), if_pos (by decide), j2, a1, bnd_s, if_neg (by decide), if_neg (by decide), if_neg (by decide), if_pos (by decide)]
        exact qc_l hw h a2 a3
      · rw [if_neg (by decide), if_neg (by decide), if_neg (by decide), if_neg (by decide), if_neg (by decide), if_neg (by decide), if_neg (by decide), if_neg (by decide), if_neg (by decide), if_pos (by decide), hk, grd_h (kb_kc _ hx.1), p_vcrop hx.1, bnd_s, if_neg (by decide), if_neg (by decide), if_neg (by decide), if_neg (by decide), if_pos (by decide)]
        exact qc_i h
    · have hq := rg_not (n := 9) (by decide) e2
      rw [if_neg (show ¬ (hn v1 (tA A) && rg v2 0 9) = true by simp [e2]), if_neg (show ¬ v2 = 0 from hq 0 (by decide)), if_neg (show ¬ v2 = 1 from hq 1 (by decide)), if_neg (show ¬ v2 = 2 from hq 2 (by decide)), if_neg (show ¬ v2 = 3 from hq 3 (by decide)), if_neg (show ¬ v2 = 4 from hq 4 (by decide)), if_neg (show ¬ v2 = 5 from hq 5 (by decide)), if_neg (show ¬ v2 = 6 from hq 6 (by decide)), if_neg (show ¬ v2 = 7 from hq 7 (by decide)), if_neg (show ¬ v2 = 8 from hq 8 (by decide)), if_neg (show ¬ v2 = 9 from hq 9 (by decide))]
      exact qc_f0 hw h
  · rw [if_neg (show ¬ hn v1 (tA A) = true from e1), ifn_n, if_neg (show ¬ (hn v1 (tA A) && rg v2 0 9) = true by simp [e1])]
    exact qc_f0 hw h
theorem p_hasStroke {o : Nat} {M : Nm} {x : HS} (hx : nsH x ≤ 8) (h : HF o M x) (v : Int32) : f_H_hasStroke o v M = some (bI (lt0 v (nsH x)), M) := by
  unfold f_H_hasStroke
  rw [h.2.2.2.2.1]
  by_cases e : lt0 v (nsH x) = true
  · obtain ⟨k, k1, k2, k3⟩ := lt0_of e
    rw [e, k2, if_neg (nI_pos (by omega)), if_neg (nI_ge k1 (by omega)), if_neg (show ¬ (8 : Int32) ≤ nI k from nI_ge (b := 8) (by omega) (by decide))]
    rfl
  · rw [nf e]
    by_cases q : v < 0
    · rw [if_pos q]; rfl
    · rw [if_neg q]
      obtain ⟨k, k1, k2⟩ := nI_of q
      have hk : ¬ k < nsH x := fun y => e (by
        unfold lt0
        rw [k2, nI_toInt k1]
        simp only [Bool.and_eq_true, decide_eq_true_eq]
        omega)
      rw [if_pos (show nI (nsH x) ≤ v by rw [k2]; exact nI_le (by omega) k1)]; rfl
theorem hsn_e {v1 v2 : Int32} {t : St} {j : Nat} (e1 : hn v1 t = true) (j3 : ix v1 = j) : hsn v1 v2 t = lt0 v2 (nsH (hS t j)) := by
  unfold hsn lt0
  rw [e1, j3, Bool.true_and]
theorem hsn_f {v1 v2 : Int32} {t : St} (e1 : ¬ hn v1 t = true) : hsn v1 v2 t = false := by
  unfold hsn
  rw [nf e1, Bool.false_and]
theorem k_told {A : Ab} (hw : WfA A) (v1 v2 v3 : Int32) (M : Nm) (h : CA M A) : QC id A M (f_P_told v1 v2 v3 M) (lfA A (o_told v1 v2 v3 (tA A))) := by
  have h6 := hw.1.1
  unfold f_P_told o_told
  rw [p_handOf hw.1 h.1, bnd_s]
  by_cases e1 : hn v1 (tA A) = true
  · obtain ⟨j, j1, j2, j3⟩ := hn_of e1
    have hx := hw.1.2.2 j j1
    have hr := h.1.2.2.2.1 j j1
    have hx5 := hx.2.2.2.2.1
    rw [if_pos (show hn v1 (tA A) = true from e1), ifn_s, j3, grd_h (isb_ho is8 (by omega)), p_hasStroke hx5 hr.1, bnd_s, hsn_e e1 j3]
    by_cases e2 : lt0 v2 (nsH (hS (tA A) j)) = true
    · rw [if_neg (bI_t e2)]
      obtain ⟨k, k1, k2, k3⟩ := lt0_of e2
      have hk : M.2.2 (ho 8 j) = kc (kdH (hS (tA A) j)) := hr.1.1
      obtain ⟨r1, r2⟩ := hr.1.2.2.2.2.2 k k1
      obtain ⟨y1, y2, y3⟩ := hx.2.2.2.2.2 k k1
      by_cases e3 : rg v3 0 3 = true
      · rw [if_pos (show (lt0 v2 (nsH (hS (tA A) j)) && rg v3 0 3) = true by simp [e2, e3]), k3, k2, grd_h (inb_nI (by omega) (by decide)), grd_h (inb_nI (by omega) (by decide)), grd_h (inb_nI (by omega) (by decide)), grd_h (inb_nI (by omega) (by decide)), hk, grd_h (kb_kc _ hx.1), grd_h (kb_kc _ hx.1), r1, r2, p_vsteps hx.1 (by omega) (by omega), bnd_s, p_vturns hx.1 y1, bnd_s]
        obtain ⟨w, w1, w2, w3⟩ := rgN (n := 3) (by decide) e3
        have hw4 : w = 0 ∨ w = 1 ∨ w = 2 ∨ w = 3 := by omega
        rw [w2]
        unfold a_told
        rcases hw4 with q | q | q | q <;> subst q
        · rw [if_pos (by decide), if_pos (by decide)]
          exact qc_i h
        · rw [if_neg (by decide), if_pos (by decide), if_neg (by decide), if_pos (by decide)]
          exact qc_i h
        · rw [if_neg (by decide), if_neg (by decide), if_pos (by decide), if_neg (by decide), if_neg (by decide), if_pos (by decide)]
          exact qc_i h
        · rw [if_neg (by decide), if_neg (by decide), if_neg (by decide), if_pos (by decide), if_neg (by decide), if_neg (by decide), if_neg (by decide)]
          exact qc_i h
      · have hq := rg_not (n := 3) (by decide) e3
        rw [if_neg (show ¬ (lt0 v2 (nsH (hS (tA A) j)) && rg v3 0 3) = true by simp [e3]), if_neg (show ¬ v3 = 0 from hq 0 (by decide)), if_neg (show ¬ v3 = 1 from hq 1 (by decide)), if_neg (show ¬ v3 = 2 from hq 2 (by decide)), if_neg (show ¬ v3 = 3 from hq 3 (by decide))]
        exact qc_f0 hw h
    · rw [if_pos (bI_f (nf e2)), if_neg (show ¬ (lt0 v2 (nsH (hS (tA A) j)) && rg v3 0 3) = true by simp [e2])]
      exact qc_f0 hw h
  · rw [if_neg (show ¬ hn v1 (tA A) = true from e1), ifn_n, hsn_f e1, if_neg (show ¬ (false && rg v3 0 3) = true by simp)]
    exact qc_f0 hw h
