/-! the class: hands changed -/
theorem k_set {A : Ab} (hw : WfA A) (v1 v2 v3 : Int32) (M : Nm) (h : CA M A) : QC id A M (f_P_set v1 v2 v3 M) (lfA A (o_set v1 v2 v3 (tA A))) := by
  have h6 := hw.1.1
  unfold f_P_set o_set f_P_set_B43
  rw [p_handOf hw.1 h.1, bnd_s]
  by_cases e1 : hn v1 (tA A) = true
  · obtain ⟨j, j1, j2, j3⟩ := hn_of e1
    have hx := hw.1.2.2 j j1
    have hr := h.1.2.2.2.1 j j1
    rw [if_pos (show hn v1 (tA A) = true from e1), ifn_s, j3, grd_h (isb_ho is8 (by omega))]
    by_cases q1 : v2 = 1
    · have q2 : ¬ v2 = 2 := by rw [q1]; decide
      rw [if_pos (show v2 = 1 from q1), p_P_isCell, bnd_s]
      by_cases e3 : rg v3 0 47 = true
      · obtain ⟨c, c1, c2, c3⟩ := rg47 e3
        obtain ⟨M1, a1, a2, a3⟩ := p_moveTo hx hr.1 hr.2.2.2 c1
        rw [if_neg (bI_t e3), if_pos (show (hn v1 (tA A) && (decide (v2 = 1) && rg v3 0 47)) = true by simp [e1, q1, e3]), c3, c2, a1, bnd_s, hr.1.2.1]
        exact qc_h hw h (by omega) a2 a3
      · rw [if_pos (bI_f (nf e3)), if_neg (show ¬ v2 = 2 from q2), if_neg (show ¬ (hn v1 (tA A) && (decide (v2 = 1) && rg v3 0 47)) = true by simp [e3]), if_neg (show ¬ (hn v1 (tA A) && (decide (v2 = 2) && rg v3 0 999)) = true by simp [q2])]
        exact qc_f0 hw h
    · rw [if_neg (show ¬ v2 = 1 from q1), if_neg (show ¬ (hn v1 (tA A) && (decide (v2 = 1) && rg v3 0 47)) = true by simp [q1])]
      by_cases q2 : v2 = 2
      · rw [if_pos (show v2 = 2 from q2), p_P_isInk, bnd_s]
        by_cases e3 : rg v3 0 999 = true
        · obtain ⟨c, c1, c2, c3⟩ := rgN (n := 999) (by decide) e3
          rw [if_neg (bI_t e3), if_pos (show (hn v1 (tA A) && (decide (v2 = 2) && rg v3 0 999)) = true by simp [e1, q2, e3]), c3, c2, bl_e, hr.1.2.2.1]
          exact qc_h hw h (by omega) (Fr.i (Nat.le_refl _) (by omega)) (p_setInk hr c)
        · rw [if_pos (bI_f (nf e3)), if_neg (show ¬ (hn v1 (tA A) && (decide (v2 = 2) && rg v3 0 999)) = true by simp [e3])]
          exact qc_f0 hw h
      · rw [if_neg (show ¬ v2 = 2 from q2), if_neg (show ¬ (hn v1 (tA A) && (decide (v2 = 2) && rg v3 0 999)) = true by simp [q2])]
        exact qc_f0 hw h
  · rw [if_neg (show ¬ hn v1 (tA A) = true from e1), ifn_n, if_neg (show ¬ (hn v1 (tA A) && (decide (v2 = 1) && rg v3 0 47)) = true by simp [e1]), if_neg (show ¬ (hn v1 (tA A) && (decide (v2 = 2) && rg v3 0 999)) = true by simp [e1])]
    exact qc_f0 hw h
theorem k_alter {A : Ab} (hw : WfA A) (v1 v2 v3 v4 : Int32) (M : Nm) (h : CA M A) : QC id A M (f_P_alter v1 v2 v3 v4 M) (lfA A (o_alter v1 v2 v3 v4 (tA A))) := by
  have h6 := hw.1.1
  unfold f_P_alter o_alter
  rw [p_handOf hw.1 h.1, bnd_s]
  by_cases e1 : hn v1 (tA A) = true
  · obtain ⟨j, j1, j2, j3⟩ := hn_of e1
    have hx := hw.1.2.2 j j1
    have hr := h.1.2.2.2.1 j j1
    have hx5 := hx.2.2.2.2.1
    rw [if_pos (show hn v1 (tA A) = true from e1), ifn_s, j3, grd_h (isb_ho is8 (by omega)), p_hasStroke hx5 hr.1, bnd_s, hsn_e e1 j3]
    by_cases e2 : lt0 v2 (nsH (hS (tA A) j)) = true
    · obtain ⟨k, k1, k2, k3⟩ := lt0_of e2
      obtain ⟨r1, r2⟩ := hr.1.2.2.2.2.2 k k1
      rw [if_neg (bI_t e2)]
      by_cases q1 : v3 = 0
      · have q2 : ¬ v3 = 1 := by rw [q1]; decide
        rw [if_pos (show v3 = 0 from q1), p_P_isWay, bnd_s]
        by_cases e3 : rg v4 0 3 = true
        · obtain ⟨c, c1, c2, c3⟩ := rgN (n := 3) (by decide) e3
          obtain ⟨a1, a2⟩ := p_traced (hx.swy (i := k) (v := c) (by omega)) (hr.1.wy k c) hr.2.2.2
          rw [if_neg (bI_t e3), if_pos (show (lt0 v2 (nsH (hS (tA A) j)) && (decide (v3 = 0) && rg v4 0 3)) = true by simp [e2, q1, e3]), c3, k3, k2, c2, grd_h (inb_nI (by omega) (by decide)), grd_h (inb_nI (by omega) (by decide)), bl_e, a1, bnd_s, r1]
          exact qc_h hw h (by omega) (Fr.tr (Fr.i (by omega) (by omega)) (Fr.t (Nat.le_refl _) (by omega))) a2
        · rw [if_pos (bI_f (nf e3)), if_neg (show ¬ v3 = 1 from q2), if_neg (show ¬ (lt0 v2 (nsH (hS (tA A) j)) && (decide (v3 = 0) && rg v4 0 3)) = true by simp [e3]), if_neg (show ¬ (lt0 v2 (nsH (hS (tA A) j)) && (decide (v3 = 1) && rg v4 1 7)) = true by simp [q2])]
          exact qc_f0 hw h
      · rw [if_neg (show ¬ v3 = 0 from q1), if_neg (show ¬ (lt0 v2 (nsH (hS (tA A) j)) && (decide (v3 = 0) && rg v4 0 3)) = true by simp [q1])]
        by_cases q2 : v3 = 1
        · rw [if_pos (show v3 = 1 from q2), p_P_isLength, bnd_s]
          by_cases e3 : rg v4 1 7 = true
          · obtain ⟨c, c0, c1, c2, c3⟩ := rg1n (n := 7) (by decide) e3
            obtain ⟨a1, a2⟩ := p_traced (hx.sln (i := k) (v := c) ⟨c0, c1⟩) (hr.1.ln k c) hr.2.2.2
            rw [if_neg (bI_t e3), if_pos (show (lt0 v2 (nsH (hS (tA A) j)) && (decide (v3 = 1) && rg v4 1 7)) = true by simp [e2, q2, e3]), c3, k3, k2, c2, grd_h (inb_nI (by omega) (by decide)), grd_h (inb_nI (by omega) (by decide)), bl_e, a1, bnd_s, r2]
            exact qc_h hw h (by omega) (Fr.tr (Fr.i (by omega) (by omega)) (Fr.t (Nat.le_refl _) (by omega))) a2
          · rw [if_pos (bI_f (nf e3)), if_neg (show ¬ (lt0 v2 (nsH (hS (tA A) j)) && (decide (v3 = 1) && rg v4 1 7)) = true by simp [e3])]
            exact qc_f0 hw h
        · rw [if_neg (show ¬ v3 = 1 from q2), if_neg (show ¬ (lt0 v2 (nsH (hS (tA A) j)) && (decide (v3 = 1) && rg v4 1 7)) = true by simp [q2])]
          exact qc_f0 hw h
    · rw [if_pos (bI_f (nf e2)), if_neg (show ¬ (lt0 v2 (nsH (hS (tA A) j)) && (decide (v3 = 0) && rg v4 0 3)) = true by simp [e2]), if_neg (show ¬ (lt0 v2 (nsH (hS (tA A) j)) && (decide (v3 = 1) && rg v4 1 7)) = true by simp [e2])]
      exact qc_f0 hw h
  · rw [if_neg (show ¬ hn v1 (tA A) = true from e1), ifn_n, hsn_f e1, if_neg (show ¬ (false && (decide (v3 = 0) && rg v4 0 3)) = true by simp), if_neg (show ¬ (false && (decide (v3 = 1) && rg v4 1 7)) = true by simp)]
    exact qc_f0 hw h
theorem k_cut {A : Ab} (hw : WfA A) (v1 v2 : Int32) (M : Nm) (h : CA M A) : QC id A M (f_P_cut v1 v2 M) (lfA A (o_cut v1 v2 (tA A))) := by
  have h6 := hw.1.1
  unfold f_P_cut o_cut
  rw [p_handOf hw.1 h.1, bnd_s]
  by_cases e1 : hn v1 (tA A) = true
  · obtain ⟨j, j1, j2, j3⟩ := hn_of e1
    have hx := hw.1.2.2 j j1
    have hr := h.1.2.2.2.1 j j1
    have hx5 := hx.2.2.2.2.1
    rw [if_pos (show hn v1 (tA A) = true from e1), ifn_s, j3, grd_h (isb_ho is8 (by omega)), hr.1.2.2.2.2.1, p_within, bnd_s, nI_toInt (by omega)]
    show QC id A M (if bI (rg v2 0 (nsH (hS (tA A) j))) = 0 then _ else _) _
    by_cases e2 : rg v2 0 (nsH (hS (tA A) j)) = true
    · obtain ⟨c, c1, c2, c3⟩ := rgN (by omega) e2
      obtain ⟨a1, a2⟩ := p_traced (hx.sns c1) (hr.1.ns c1) hr.2.2.2
      rw [if_neg (bI_t e2), if_pos (show (hn v1 (tA A) && rg v2 0 (nsH (hS (tA A) j))) = true by simp [e1, e2]), c3, c2, bl_e, a1, bnd_s, hr.1.2.2.2.2.1]
      exact qc_h hw h (by omega) (Fr.tr (Fr.i (by omega) (by omega)) (Fr.t (Nat.le_refl _) (by omega))) a2
    · rw [if_pos (bI_f (nf e2)), if_neg (show ¬ (hn v1 (tA A) && rg v2 0 (nsH (hS (tA A) j))) = true by simp [e2])]
      exact qc_f0 hw h
  · rw [if_neg (show ¬ hn v1 (tA A) = true from e1), ifn_n, if_neg (show ¬ (hn v1 (tA A) && rg v2 0 (nsH (hS (tA A) (ix v1)))) = true by simp [e1])]
    exact qc_f0 hw h
theorem k_turn {A : Ab} (hw : WfA A) (v1 v2 : Int32) (M : Nm) (h : CA M A) : QC id A M (f_P_turn v1 v2 M) (lfA A (o_turn v1 v2 (tA A))) := by
  have h6 := hw.1.1
  unfold f_P_turn o_turn
  rw [p_handOf hw.1 h.1, bnd_s]
  by_cases e1 : hn v1 (tA A) = true
  · obtain ⟨j, j1, j2, j3⟩ := hn_of e1
    have hx := hw.1.2.2 j j1
    have hr := h.1.2.2.2.1 j j1
    have hk : M.2.2 (ho 8 j) = kc (kdH (hS (tA A) j)) := hr.1.1
    rw [if_pos (show hn v1 (tA A) = true from e1), ifn_s, j3, grd_h (isb_ho is8 (by omega)), p_P_isKind, bnd_s]
    by_cases e2 : rg v2 0 5 = true
    · obtain ⟨c, c1, c2, c3⟩ := rgN (n := 5) (by decide) e2
      obtain ⟨M1, a1, a2, a3⟩ := p_become hx hr (k := c) (by omega)
      rw [if_neg (bI_t e2), if_pos (show (hn v1 (tA A) && rg v2 0 5) = true by simp [e1, e2]), c3, c2, hk, grd_h (kb_kc _ hx.1), grd_h (inb_nI (by omega) (by decide)), knd_k (by omega), a1, bnd_s, h.2.2.2.2.2.2.2 _ hx.1]
      exact qc_h hw h (by omega) a2 a3
    · rw [if_pos (bI_f (nf e2)), if_neg (show ¬ (hn v1 (tA A) && rg v2 0 5) = true by simp [e2])]
      exact qc_f0 hw h
  · rw [if_neg (show ¬ hn v1 (tA A) = true from e1), ifn_n, if_neg (show ¬ (hn v1 (tA A) && rg v2 0 5) = true by simp [e1])]
    exact qc_f0 hw h
theorem k_as {A : Ab} (hw : WfA A) (v1 v2 : Int32) (M : Nm) (h : CA M A) : QC id A M (f_P_as v1 v2 M) (lfA A (o_as v1 v2 (tA A))) := by
  have h6 := hw.1.1
  unfold f_P_as o_as
  rw [p_handOf hw.1 h.1, bnd_s]
  by_cases e1 : hn v1 (tA A) = true
  · obtain ⟨j, j1, j2, j3⟩ := hn_of e1
    have hx := hw.1.2.2 j j1
    have hr := h.1.2.2.2.1 j j1
    have hk : M.2.2 (ho 8 j) = kc (kdH (hS (tA A) j)) := hr.1.1
    rw [if_pos (show hn v1 (tA A) = true from e1), ifn_s, j3, grd_h (isb_ho is8 (by omega)), p_P_isKind, bnd_s]
    by_cases e2 : rg v2 0 5 = true
    · obtain ⟨c, c1, c2, c3⟩ := rgN (n := 5) (by decide) e2
      rw [if_neg (bI_t e2), if_pos (show (hn v1 (tA A) && rg v2 0 5) = true by simp [e1, e2]), c3, c2, hk, grd_h (kb_kc _ hx.1), p_visOf hx.1 (by omega), bnd_s]
      by_cases q : und (kdH (hS (tA A) j)) c = true
      · rw [if_neg (bI_t q), if_pos (show und (kdH (hS (tA A) j)) c = true from q), hr.1.2.2.1]
        exact qc_i h
      · rw [if_pos (bI_f (nf q)), if_neg (show ¬ und (kdH (hS (tA A) j)) c = true from q)]
        exact qc_fd (cv := id) hw (Fr.rf _ _ M) h (by decide) (by decide)
    · rw [if_pos (bI_f (nf e2)), if_neg (show ¬ (hn v1 (tA A) && rg v2 0 5) = true by simp [e2])]
      exact qc_f0 hw h
  · rw [if_neg (show ¬ hn v1 (tA A) = true from e1), ifn_n, if_neg (show ¬ (hn v1 (tA A) && rg v2 0 5) = true by simp [e1])]
    exact qc_f0 hw h
theorem k_line {A : Ab} (hw : WfA A) (v1 : Int32) (M : Nm) (h : CA M A) : QC Int32.toInt64 A M (f_P_line v1 M) (lfA A (o_line v1 (tA A))) := by
  have h6 := hw.1.1
  unfold f_P_line o_line
  rw [p_handOf hw.1 h.1, bnd_s]
  by_cases e1 : hn v1 (tA A) = true
  · obtain ⟨j, j1, j2, j3⟩ := hn_of e1
    have hr := h.1.2.2.2.1 j j1
    rw [if_pos (show hn v1 (tA A) = true from e1), ifn_s, if_pos (show hn v1 (tA A) = true from e1), j3, grd_h (isb_ho is8 (by omega)), h.1.1, p_lineUnder hr, bnd_s]
    exact qc_i h
  · rw [if_neg (show ¬ hn v1 (tA A) = true from e1), ifn_n, if_neg (show ¬ hn v1 (tA A) = true from e1)]
    exact qc_f0 hw h
theorem k_inside {A : Ab} (hw : WfA A) (v1 : Int32) (M : Nm) (h : CA M A) : QC Int32.toInt64 A M (f_P_inside v1 M) (lfA A (o_inside v1 (tA A))) := by
  have h6 := hw.1.1
  unfold f_P_inside o_inside
  rw [p_handOf hw.1 h.1, bnd_s]
  by_cases e1 : hn v1 (tA A) = true
  · obtain ⟨j, j1, j2, j3⟩ := hn_of e1
    have hr := h.1.2.2.2.1 j j1
    obtain ⟨M1, a1, a2, a3⟩ := p_insideUnder hr (sS (tA A))
    rw [if_pos (show hn v1 (tA A) = true from e1), ifn_s, if_pos (show hn v1 (tA A) = true from e1), j3, grd_h (isb_ho is8 (by omega)), h.1.1, a1, bnd_s]
    exact qc_l hw h (a2.fl (by omega)) (h.1.i a2 a3)
  · rw [if_neg (show ¬ hn v1 (tA A) = true from e1), ifn_n, if_neg (show ¬ hn v1 (tA A) = true from e1)]
    exact qc_f0 hw h
theorem k_years {A : Ab} (hw : WfA A) (v1 : Int32) (M : Nm) (h : CA M A) : QC id A M (f_P_years v1 M) (lfA A (o_years v1 (tA A))) := by
  unfold f_P_years o_years
  rw [p_within, bnd_s]
  show QC id A M (if bI (rg v1 1 60) = 0 then _ else _) _
  by_cases e1 : rg v1 1 60 = true
  · rw [if_neg (bI_t e1), if_pos (show rg v1 1 60 = true from e1), h.1.2.1]
    by_cases q : yS (tA A) + v1 ≤ 9999
    · obtain ⟨c, c0, c1, c2, c3⟩ := rg1n (n := 60) (by decide) e1
      obtain ⟨M1, a1, a2, a3⟩ := p_goYears (n := c) (by omega) hw.1 h.1
      have hc := p_cornOfAll (wf_yrs c hw.1) a3
      rw [nS_yrs] at hc
      rw [if_pos (show yS (tA A) + v1 ≤ 9999 from q), if_pos (show yS (tA A) + v1 ≤ 9999 from q), c3, c2, a1, bnd_s, hc, bnd_s]
      exact qc_t hw h a2 a3
    · rw [if_neg (show ¬ yS (tA A) + v1 ≤ 9999 from q), if_neg (show ¬ yS (tA A) + v1 ≤ 9999 from q)]
      exact qc_fd (cv := id) hw (Fr.rf _ _ M) h (by decide) (by decide)
  · rw [if_pos (bI_f (nf e1)), if_neg (show ¬ rg v1 1 60 = true from e1)]
    exact qc_f0 hw h
theorem k_now {A : Ab} (hw : WfA A) (v1 : Int32) (M : Nm) (h : CA M A) : QC id A M (f_P_now v1 M) (lfA A (o_now v1 (tA A))) := by
  unfold f_P_now o_now
  rw [h.1.2.1, p_cornOfAll hw.1 h.1, p_inkOfAll hw.1 h.1, p_handsThatWrite hw.1 h.1, bnd_s, bnd_s, bnd_s, p_bitCount, bnd_s, h.1.1]
  by_cases q0 : v1 = 0
  · rw [if_pos q0, if_pos q0]; exact qc_i h
  · rw [if_neg q0, if_neg q0]
    by_cases q1 : v1 = 1
    · rw [if_pos q1, if_pos q1]; exact qc_i h
    · rw [if_neg q1, if_neg q1]
      by_cases q2 : v1 = 2
      · rw [if_pos q2, if_pos q2]; exact qc_i h
      · rw [if_neg q2, if_neg q2]
        by_cases q3 : v1 = 3
        · rw [if_pos q3, if_pos q3]; exact qc_i h
        · rw [if_neg q3, if_neg q3]
          by_cases q4 : v1 = 4
          · rw [if_pos q4, if_pos q4]; exact qc_i h
          · rw [if_neg q4, if_neg q4]; exact qc_f0 hw h
