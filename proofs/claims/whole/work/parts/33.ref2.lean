/-! more calls of the reference -/
theorem p_in17 (v : Int32) (M : Nm) : f_M_in v.toInt64 1 7 M = some (bI (rg v 1 7), M) := p_inI v 1 7 M
theorem p_in09 (v : Int32) (M : Nm) : f_M_in v.toInt64 0 9 M = some (bI (rg v 0 9), M) := p_inI v 0 9 M
theorem p_in03 (v : Int32) (M : Nm) : f_M_in v.toInt64 0 3 M = some (bI (rg v 0 3), M) := p_inI v 0 3 M
theorem p_in02 (v : Int32) (M : Nm) : f_M_in v.toInt64 0 2 M = some (bI (rg v 0 2), M) := p_inI v 0 2 M
theorem p_in999 (v : Int32) (M : Nm) : f_M_in v.toInt64 0 999 M = some (bI (rg v 0 999), M) := p_inI v 0 999 M
theorem p_in60 (v : Int32) (M : Nm) : f_M_in v.toInt64 0 60 M = some (bI (rg v 0 60), M) := p_inI v 0 60 M
theorem p_in160 (v : Int32) (M : Nm) : f_M_in v.toInt64 1 60 M = some (bI (rg v 1 60), M) := p_inI v 1 60 M
theorem rgM {v : Int32} {a b : Nat} (hb : b < 2 ^ 31) (h : rg v a b = true) : ∃ c, a ≤ c ∧ c ≤ b ∧ v = nI c ∧ ix v = c := by
  obtain ⟨h1, h2⟩ := rg_1.mp h
  have hr := fb_rng v
  refine ⟨v.toInt.toNat, by omega, by omega, ?_, rfl⟩
  apply Int32.toInt_inj.mp
  rw [nI_toInt (by omega)]
  omega
theorem nf {b : Bool} (h : ¬ b = true) : b = false := by simpa using h
def o_hand (v1 v2 : Int32) (t : St) : (Int32 × St) ⊕ Nat := if rg v1 0 5 && rg v2 0 47 then (if nS t = 6 then .inr 1 else .inl (nI (nS t), adH t (nH (ix v1) (ix v2)))) else .inr 0
theorem q_hand {t : St} (hw : Wf t) (v1 v2 : Int32) (M : Nm) (hR : Rw (M.1 87) t) : QM id t M (f_M_hand v1 v2 M) (o_hand v1 v2 t) := by
  have h6 := hw.1
  unfold f_M_hand o_hand
  rw [p_M_isKind, bnd_s]
  by_cases e1 : rg v1 0 5 = true
  · rw [if_neg (bI_t e1), p_M_isCell, bnd_s]
    by_cases e2 : rg v2 0 47 = true
    · obtain ⟨c, h1, h2, h3⟩ := rg47 e2
      obtain ⟨k, k1, k2, k3⟩ := rgN (n := 5) (by decide) e1
      rw [if_neg (bI_t e2), if_pos (show (rg v1 0 5 && rg v2 0 47) = true by simp [e1, e2]), g0, ix0, hR.1, k3, h3, k2, h2]
      by_cases e : nS t = 6
      · rw [if_pos (show nI (nS t) = 6 by rw [e]; rfl), if_pos e]
        exact q_fd (cv := id) (by decide) (by decide) (Fm.rf M) rfl hR
      · rw [if_neg (show ¬ nI (nS t) = 6 from fun q => e ((nI_eq (b := 6) (by omega) (by decide)).mp q)), if_neg e]
        obtain ⟨M1, a1, a2, a3⟩ := p_adds hw (by omega) (k := k) (c := c) M hR
        rw [a1, bnd_s]
        exact q_ok a2.fm a2.e91 a3
    · rw [if_pos (bI_f (nf e2)), if_neg (show ¬ (rg v1 0 5 && rg v2 0 47) = true by simp [e2])]
      exact q_f0 hR
  · rw [if_pos (bI_f (nf e1)), if_neg (show ¬ (rg v1 0 5 && rg v2 0 47) = true by simp [e1])]
    exact q_f0 hR
def o_stroke (v1 v2 v3 : Int32) (t : St) : (Int32 × St) ⊕ Nat := if hn v1 t && (rg v2 0 3 && rg v3 1 7) then (if nsH (hS t (ix v1)) = 8 then .inr 1 else .inl (nI (nsH (hS t (ix v1)) + 1), upH t (ix v1) (adS (hS t (ix v1)) (ix v2) (ix v3)))) else .inr 0
theorem q_stroke {t : St} (hw : Wf t) (v1 v2 v3 : Int32) (M : Nm) (hR : Rw (M.1 87) t) : QM id t M (f_M_stroke v1 v2 v3 M) (o_stroke v1 v2 v3 t) := by
  have h6 := hw.1
  unfold f_M_stroke o_stroke
  rw [p_isHand hw v1 M hR.1, bnd_s]
  by_cases e1 : hn v1 t = true
  · rw [if_neg (bI_t e1), p_M_isWay, bnd_s]
    by_cases e2 : rg v2 0 3 = true
    · rw [if_neg (bI_t e2), p_in17, bnd_s]
      by_cases e3 : rg v3 1 7 = true
      · obtain ⟨h, h1, h2, h3⟩ := hn_of e1
        obtain ⟨w, w1, w2, w3⟩ := rgN (n := 3) (by decide) e2
        obtain ⟨l, l0, l1, l2, l3⟩ := rgM (a := 1) (b := 7) (by decide) e3
        have hx := (hw.2.2 h h1).2.2.2.2.1
        rw [if_neg (bI_t e3), if_pos (show (hn v1 t && (rg v2 0 3 && rg v3 1 7)) = true by simp [e1, e2, e3]), h3, w3, l3, h2, w2, l2, p_its4 (by omega), bnd_s, (hR.2.2.2 h h1).2.2.2.2.1]
        by_cases e : nsH (hS t h) = 8
        · rw [if_pos (show nI (nsH (hS t h)) = 8 by rw [e]; rfl), if_pos e]
          exact q_fd (cv := id) (by decide) (by decide) (Fm.rf M) rfl hR
        · rw [if_neg (show ¬ nI (nsH (hS t h)) = 8 from fun q => e ((nI_eq (b := 8) (by omega) (by decide)).mp q)), if_neg e]
          obtain ⟨M1, a1, a2, a3⟩ := p_strokes hw h1 (by omega) (w := w) (l := l) M hR
          rw [a1, bnd_s]
          exact q_ok a2.fm a2.e91 a3
      · rw [if_pos (bI_f (nf e3)), if_neg (show ¬ (hn v1 t && (rg v2 0 3 && rg v3 1 7)) = true by simp [e3])]
        exact q_f0 hR
    · rw [if_pos (bI_f (nf e2)), if_neg (show ¬ (hn v1 t && (rg v2 0 3 && rg v3 1 7)) = true by simp [e2])]
      exact q_f0 hR
  · rw [if_pos (bI_f (nf e1)), if_neg (show ¬ (hn v1 t && (rg v2 0 3 && rg v3 1 7)) = true by simp [e1])]
    exact q_f0 hR
def a_of (t : St) (h : Nat) (v : Int32) : Int32 := if v = 5 then nI (cst (hS t h)) else if v = 6 then bI (wrS t h) else if v = 7 then nI (pc (inS t h)) else if v = 8 then nI (owc t h) else if v = 9 then nI (cr (kdH (hS t h))) else if v = 0 then nI (kdH (hS t h)) else if v = 1 then nI (atH (hS t h)) else if v = 2 then nI (ikH (hS t h)) else if v = 3 then nI (cnH (hS t h)) else nI (nsH (hS t h))
def o_of (v1 v2 : Int32) (t : St) : (Int32 × St) ⊕ Nat := if hn v1 t && rg v2 0 9 then .inl (a_of t (ix v1) v2, t) else .inr 0
theorem q_of {t : St} (hw : Wf t) (v1 v2 : Int32) (M : Nm) (hR : Rw (M.1 87) t) : QM id t M (f_M_of v1 v2 M) (o_of v1 v2 t) := by
  have h6 := hw.1
  unfold f_M_of o_of
  rw [p_isHand hw v1 M hR.1, bnd_s]
  by_cases e1 : hn v1 t = true
  · rw [if_neg (bI_t e1), p_in09, bnd_s]
    by_cases e2 : rg v2 0 9 = true
    · obtain ⟨h, h1, h2, h3⟩ := hn_of e1
      obtain ⟨w, w1, w2, w3⟩ := rgN (n := 9) (by decide) e2
      obtain ⟨M1, a1, a2, a3⟩ := p_writeAll hw M hR
      have hR1 := Rn.of hR a2 a3
      obtain ⟨n1, n2, n3⟩ := a3 h h1
      obtain ⟨r1, r2, r3, r4, r5, r6⟩ := hR1.1.2.2.2 h h1
      have fin : ∀ a : Int32, QM id t M (some (a, M1)) (.inl (a, t)) := fun a => q_ok a2.fm a2.e91 hR1.1
      rw [if_neg (bI_t e2), if_pos (show (hn v1 t && rg v2 0 9) = true by simp [e1, e2]), a1, bnd_s, h3, h2, grd_h (inb_nI (by omega) (by decide)), n2, n3, p_writes hw h1 M1 hR1.1 n3, bnd_s, p_ones, bnd_s, p_ownedBy hw h1 M1 hR1, bnd_s, p_cropOf (by omega) M1 (hw.2.2 h h1).1 r1, bnd_s]
      unfold a_of
      by_cases q5 : v2 = 5
      · rw [if_pos q5, if_pos q5]; exact fin _
      rw [if_neg q5, if_neg q5]
      by_cases q6 : v2 = 6
      · rw [if_pos q6, if_pos q6]
        cases e : wrS t h with
        | true => rw [if_neg (show ¬ bI true = 0 by decide)]; exact fin _
        | false => rw [if_pos (show bI false = 0 from rfl)]; exact fin _
      rw [if_neg q6, if_neg q6]
      by_cases q7 : v2 = 7
      · rw [if_pos q7, if_pos q7, grd_h (inb_nI (by omega) (by decide))]; exact fin _
      rw [if_neg q7, if_neg q7]
      by_cases q8 : v2 = 8
      · rw [if_pos q8, if_pos q8]; exact fin _
      rw [if_neg q8, if_neg q8]
      by_cases q9 : v2 = 9
      · rw [if_pos q9, if_pos q9]; exact fin _
      rw [if_neg q9, if_neg q9]
      have hc : w = 0 ∨ w = 1 ∨ w = 2 ∨ w = 3 ∨ w = 4 := by
        have z5 : w ≠ 5 := fun q => q5 (by rw [w2, q]; rfl)
        have z6 : w ≠ 6 := fun q => q6 (by rw [w2, q]; rfl)
        have z7 : w ≠ 7 := fun q => q7 (by rw [w2, q]; rfl)
        have z8 : w ≠ 8 := fun q => q8 (by rw [w2, q]; rfl)
        have z9 : w ≠ 9 := fun q => q9 (by rw [w2, q]; rfl)
        omega
      rcases hc with q | q | q | q | q
      · have hv : v2 = 0 := by rw [w2, q]; rfl
        rw [hv, p_its0 (by omega), bnd_s, if_pos rfl, r1]; exact fin _
      · have hv : v2 = 1 := by rw [w2, q]; rfl
        rw [hv, p_its1 (by omega), bnd_s, if_neg (by decide), if_pos rfl, r2]; exact fin _
      · have hv : v2 = 2 := by rw [w2, q]; rfl
        rw [hv, p_its2 (by omega), bnd_s, if_neg (by decide), if_neg (by decide), if_pos rfl, r3]; exact fin _
      · have hv : v2 = 3 := by rw [w2, q]; rfl
        rw [hv, p_its3 (by omega), bnd_s, if_neg (by decide), if_neg (by decide), if_neg (by decide), if_pos rfl, r4]; exact fin _
      · have hv : v2 = 4 := by rw [w2, q]; rfl
        rw [hv, p_its4 (by omega), bnd_s, if_neg (by decide), if_neg (by decide), if_neg (by decide), if_neg (by decide), r5]; exact fin _
    · rw [if_pos (bI_f (nf e2)), if_neg (show ¬ (hn v1 t && rg v2 0 9) = true by simp [e2])]
      exact q_f0 hR
  · rw [if_pos (bI_f (nf e1)), if_neg (show ¬ (hn v1 t && rg v2 0 9) = true by simp [e1])]
    exact q_f0 hR
def a_told (x : HS) (i : Nat) (v : Int32) : Int32 := if v = 0 then nI (wyH x i) else if v = 1 then nI (lnH x i) else if v = 2 then nI (sp (kdH x) i (lnH x i)) else nI (tn (kdH x) (wyH x i))
def o_told (v1 v2 v3 : Int32) (t : St) : (Int32 × St) ⊕ Nat := if hsn v1 v2 t && rg v3 0 3 then .inl (a_told (hS t (ix v1)) (ix v2) v3, t) else .inr 0
theorem q_told {t : St} (hw : Wf t) (v1 v2 v3 : Int32) (M : Nm) (hR : Rw (M.1 87) t) : QM id t M (f_M_told v1 v2 v3 M) (o_told v1 v2 v3 t) := by
  have h6 := hw.1
  unfold f_M_told o_told
  rw [p_isStroke hw v1 v2 M hR, bnd_s]
  by_cases e1 : hsn v1 v2 t = true
  · rw [if_neg (bI_t e1), p_in03, bnd_s]
    by_cases e2 : rg v3 0 3 = true
    · obtain ⟨h, i, h1, h2, h3, i1, i2, i3⟩ := hsn_of e1
      obtain ⟨x1, x2, x3, x4, x5, x6⟩ := hw.2.2 h h1
      obtain ⟨r1, r2, r3, r4, r5, r6⟩ := hR.2.2.2 h h1
      obtain ⟨y1, y2⟩ := r6 i i1
      obtain ⟨z1, z2, z3⟩ := x6 i i1
      have fin : ∀ a : Int32, QM id t M (some (a, M)) (.inl (a, t)) := fun a => q_ok (Fm.rf M) rfl hR
      rw [if_neg (bI_t e2), if_pos (show (hsn v1 v2 t && rg v3 0 3) = true by simp [e1, e2]), h3, i3, h2, i2, p_its5 (by omega) (by omega), bnd_s, p_its13 (by omega) (by omega), bnd_s, p_stepsOf (by omega) (by omega) M x1 (by omega) r1 y2, bnd_s, p_turned (by omega) (by omega) M x1 z1 r1 y1, bnd_s, y1, y2]
      unfold a_told
      by_cases q0 : v3 = 0
      · rw [if_pos q0, if_pos q0]; exact fin _
      rw [if_neg q0, if_neg q0]
      by_cases q1 : v3 = 1
      · rw [if_pos q1, if_pos q1]; exact fin _
      rw [if_neg q1, if_neg q1]
      by_cases q2 : v3 = 2
      · rw [if_pos q2, if_pos q2]; exact fin _
      rw [if_neg q2, if_neg q2]; exact fin _
    · rw [if_pos (bI_f (nf e2)), if_neg (show ¬ (hsn v1 v2 t && rg v3 0 3) = true by simp [e2])]
      exact q_f0 hR
  · rw [if_pos (bI_f (nf e1)), if_neg (show ¬ (hsn v1 v2 t && rg v3 0 3) = true by simp [e1])]
    exact q_f0 hR
def o_set (v1 v2 v3 : Int32) (t : St) : (Int32 × St) ⊕ Nat := if hn v1 t && (decide (v2 = 1) && rg v3 0 47) then .inl (nI (atH (hS t (ix v1))), upH t (ix v1) (sat (hS t (ix v1)) (ix v3))) else if hn v1 t && (decide (v2 = 2) && rg v3 0 999) then .inl (nI (ikH (hS t (ix v1))), upH t (ix v1) (sik (hS t (ix v1)) (ix v3))) else .inr 0
theorem q_setF {t : St} (hw : Wf t) (v1 v2 v3 : Int32) (M : Nm) (hR : Rw (M.1 87) t) {s : Int32} (h : hn v1 t = false ∨ s = 0) : QM id t M (f_M_set_B34 v1 v2 v3 s M) (.inr 0) := by
  unfold f_M_set_B34
  rw [p_isHand hw v1 M hR.1, bnd_s]
  by_cases e : hn v1 t = true
  · rw [if_neg (bI_t e)]
    rcases h with h | h
    · rw [e] at h; exact absurd h (by decide)
    · rw [if_pos h]; exact q_f0 hR
  · rw [if_pos (bI_f (nf e))]; exact q_f0 hR
theorem q_set {t : St} (hw : Wf t) (v1 v2 v3 : Int32) (M : Nm) (hR : Rw (M.1 87) t) : QM id t M (f_M_set v1 v2 v3 M) (o_set v1 v2 v3 t) := by
  have h6 := hw.1
  unfold f_M_set o_set
  by_cases q1 : v2 = 1
  · subst q1
    rw [if_pos rfl, p_M_isCell, bnd_s, if_neg (show ¬ (hn v1 t && (decide ((1 : Int32) = 2) && rg v3 0 999)) = true by simp)]
    by_cases e : (hn v1 t && (decide ((1 : Int32) = 1) && rg v3 0 47)) = true
    · have e1 : hn v1 t = true := by simp at e; exact e.1
      have e2 : rg v3 0 47 = true := by simp at e; exact e.2
      obtain ⟨h, h1, h2, h3⟩ := hn_of e1
      obtain ⟨c, c1, c2, c3⟩ := rg47 e2
      rw [if_pos e]
      unfold f_M_set_B34
      rw [p_isHand hw v1 M hR.1, bnd_s, if_neg (bI_t e1), if_neg (bI_t e2), h3, c3, h2, c2, show ∀ M, f_M_spot (nI h) 1 M = some (nI (50 + 21 * h + 1), M) from fun M => p_spot h 1 M, bnd_s, p_becomes (by omega), bnd_s, (hR.2.2.2 h h1).2.1]
      refine q_ok Sd.p.fm Sd.p.e91 ?_
      rw [mI_u]
      exact Rw_up hw hR (by decide) (RwH.sat (hR.2.2.2 h h1) c)
    · rw [if_neg e]
      apply q_setF hw _ _ _ M hR
      by_cases e1 : hn v1 t = true
      · right
        apply bI_f
        apply nf
        intro z
        exact e (by simp [e1, z])
      · left; exact nf e1
  · rw [if_neg q1, if_neg (show ¬ (hn v1 t && (decide (v2 = 1) && rg v3 0 47)) = true by simp [q1])]
    by_cases q2 : v2 = 2
    · subst q2
      rw [if_pos rfl, p_in999, bnd_s]
      by_cases e : (hn v1 t && (decide ((2 : Int32) = 2) && rg v3 0 999)) = true
      · have e1 : hn v1 t = true := by simp at e; exact e.1
        have e2 : rg v3 0 999 = true := by simp at e; exact e.2
        obtain ⟨h, h1, h2, h3⟩ := hn_of e1
        obtain ⟨c, c1, c2, c3⟩ := rgN (n := 999) (by decide) e2
        rw [if_pos e, if_neg (bI_t e2)]
        unfold f_M_set_B34
        rw [p_isHand hw v1 M hR.1, bnd_s, if_neg (bI_t e1), if_neg (by decide), h3, c3, h2, c2, show ∀ M, f_M_spot (nI h) 2 M = some (nI (50 + 21 * h + 2), M) from fun M => p_spot h 2 M, bnd_s, p_becomes (by omega), bnd_s, (hR.2.2.2 h h1).2.2.1]
        refine q_ok Sd.p.fm Sd.p.e91 ?_
        rw [mI_u]
        exact Rw_up hw hR (by decide) (RwH.sik (hR.2.2.2 h h1) c)
      · rw [if_neg e]
        by_cases e2 : rg v3 0 999 = true
        · rw [if_neg (bI_t e2)]
          apply q_setF hw _ _ _ M hR
          left
          apply nf
          intro z
          exact e (by simp [e2, z])
        · rw [if_pos (bI_f (nf e2))]
          exact q_setF hw _ _ _ M hR (Or.inr rfl)
    · rw [if_neg q2, if_neg (show ¬ (hn v1 t && (decide (v2 = 2) && rg v3 0 999)) = true by simp [q2])]
      exact q_setF hw _ _ _ M hR (Or.inr rfl)
def o_alter (v1 v2 v3 v4 : Int32) (t : St) : (Int32 × St) ⊕ Nat := if hsn v1 v2 t && (decide (v3 = 0) && rg v4 0 3) then .inl (nI (wyH (hS t (ix v1)) (ix v2)), upH t (ix v1) (swy (hS t (ix v1)) (ix v2) (ix v4))) else if hsn v1 v2 t && (decide (v3 = 1) && rg v4 1 7) then .inl (nI (lnH (hS t (ix v1)) (ix v2)), upH t (ix v1) (sln (hS t (ix v1)) (ix v2) (ix v4))) else .inr 0
theorem q_altF {t : St} (hw : Wf t) (v1 v2 v3 v4 : Int32) (M : Nm) (hR : Rw (M.1 87) t) {s : Int32} (h : hsn v1 v2 t = false ∨ s = 0) : QM id t M (f_M_alter_B35 v1 v2 v3 v4 s M) (.inr 0) := by
  unfold f_M_alter_B35
  rw [p_isStroke hw v1 v2 M hR, bnd_s]
  by_cases e : hsn v1 v2 t = true
  · rw [if_neg (bI_t e)]
    rcases h with h | h
    · rw [e] at h; exact absurd h (by decide)
    · rw [if_pos h]; exact q_f0 hR
  · rw [if_pos (bI_f (nf e))]; exact q_f0 hR
theorem q_alter {t : St} (hw : Wf t) (v1 v2 v3 v4 : Int32) (M : Nm) (hR : Rw (M.1 87) t) : QM id t M (f_M_alter v1 v2 v3 v4 M) (o_alter v1 v2 v3 v4 t) := by
  have h6 := hw.1
  have e5 : ∀ i, (5 : Int32) + nI i = nI (5 + i) := fun i => nI_add 5 i
  have e13 : ∀ i, (13 : Int32) + nI i = nI (13 + i) := fun i => nI_add 13 i
  unfold f_M_alter o_alter
  by_cases q1 : v3 = 0
  · subst q1
    rw [if_pos rfl, p_M_isWay, bnd_s, if_neg (show ¬ (hsn v1 v2 t && (decide ((0 : Int32) = 1) && rg v4 1 7)) = true by simp)]
    by_cases e : (hsn v1 v2 t && (decide ((0 : Int32) = 0) && rg v4 0 3)) = true
    · have e1 : hsn v1 v2 t = true := by simp at e; exact e.1
      have e2 : rg v4 0 3 = true := by simp at e; exact e.2
      obtain ⟨h, i, h1, h2, h3, i1, i2, i3⟩ := hsn_of e1
      obtain ⟨c, c1, c2, c3⟩ := rgN (n := 3) (by decide) e2
      have x5 := (hw.2.2 h h1).2.2.2.2.1
      rw [if_pos e]
      unfold f_M_alter_B35
      rw [p_isStroke hw v1 v2 M hR, bnd_s, if_neg (bI_t e1), if_neg (bI_t e2), if_pos rfl, h3, i3, c3, h2, i2, c2, e5, p_spot, bnd_s, p_becomes (by omega), bnd_s, ((hR.2.2.2 h h1).2.2.2.2.2 i i1).1]
      refine q_ok Sd.p.fm Sd.p.e91 ?_
      rw [mI_u]
      exact Rw_up hw hR (by omega) (RwH.swy (hR.2.2.2 h h1) (by omega) x5 c)
    · rw [if_neg e]
      apply q_altF hw _ _ _ _ M hR
      by_cases e1 : hsn v1 v2 t = true
      · right
        apply bI_f
        apply nf
        intro z
        exact e (by simp [e1, z])
      · left; exact nf e1
  · rw [if_neg q1, if_neg (show ¬ (hsn v1 v2 t && (decide (v3 = 0) && rg v4 0 3)) = true by simp [q1])]
    by_cases q2 : v3 = 1
    · subst q2
      rw [if_pos rfl, p_in17, bnd_s]
      by_cases e : (hsn v1 v2 t && (decide ((1 : Int32) = 1) && rg v4 1 7)) = true
      · have e1 : hsn v1 v2 t = true := by simp at e; exact e.1
        have e2 : rg v4 1 7 = true := by simp at e; exact e.2
        obtain ⟨h, i, h1, h2, h3, i1, i2, i3⟩ := hsn_of e1
        obtain ⟨c, c0, c1, c2, c3⟩ := rgM (a := 1) (b := 7) (by decide) e2
        have x5 := (hw.2.2 h h1).2.2.2.2.1
        rw [if_pos e, if_neg (bI_t e2)]
        unfold f_M_alter_B35
        rw [p_isStroke hw v1 v2 M hR, bnd_s, if_neg (bI_t e1), if_neg (by decide), if_neg (by decide), h3, i3, c3, h2, i2, c2, e13, p_spot, bnd_s, p_becomes (by omega), bnd_s, ((hR.2.2.2 h h1).2.2.2.2.2 i i1).2]
        refine q_ok Sd.p.fm Sd.p.e91 ?_
        rw [mI_u]
        exact Rw_up hw hR (by omega) (RwH.sln (hR.2.2.2 h h1) (by omega) x5 c)
      · rw [if_neg e]
        by_cases e2 : rg v4 1 7 = true
        · rw [if_neg (bI_t e2)]
          apply q_altF hw _ _ _ _ M hR
          left
          apply nf
          intro z
          exact e (by simp [e2, z])
        · rw [if_pos (bI_f (nf e2))]
          exact q_altF hw _ _ _ _ M hR (Or.inr rfl)
    · rw [if_neg q2, if_neg (show ¬ (hsn v1 v2 t && (decide (v3 = 1) && rg v4 1 7)) = true by simp [q2])]
      exact q_altF hw _ _ _ _ M hR (Or.inr rfl)
def o_cut (v1 v2 : Int32) (t : St) : (Int32 × St) ⊕ Nat := if hn v1 t && rg v2 0 (nsH (hS t (ix v1))) then .inl (nI (nsH (hS t (ix v1))), upH t (ix v1) (sns (hS t (ix v1)) (ix v2))) else .inr 0
theorem q_cut {t : St} (hw : Wf t) (v1 v2 : Int32) (M : Nm) (hR : Rw (M.1 87) t) : QM id t M (f_M_cut v1 v2 M) (o_cut v1 v2 t) := by
  have h6 := hw.1
  unfold f_M_cut o_cut
  rw [p_isHand hw v1 M hR.1, bnd_s]
  by_cases e1 : hn v1 t = true
  · obtain ⟨h, h1, h2, h3⟩ := hn_of e1
    have x5 := (hw.2.2 h h1).2.2.2.2.1
    have r := hR.2.2.2 h h1
    rw [if_neg (bI_t e1), e1, h3, h2, p_its4 (by omega), bnd_s, r.2.2.2.2.1, show f_M_in v2.toInt64 0 (nI (nsH (hS t h))).toInt64 M = _ from p_inI v2 0 (nI (nsH (hS t h))) M, bnd_s, nI_toInt (by omega)]
    show QM id t M (if bI (rg v2 0 (nsH (hS t h))) = 0 then _ else _) _
    by_cases e2 : rg v2 0 (nsH (hS t h)) = true
    · obtain ⟨c, c1, c2, c3⟩ := rgN (n := nsH (hS t h)) (by omega) e2
      rw [if_neg (bI_t e2), if_pos (show (true && rg v2 0 (nsH (hS t h))) = true by simp [e2]), c3, c2, show ∀ M, f_M_spot (nI h) 4 M = some (nI (50 + 21 * h + 4), M) from fun M => p_spot h 4 M, bnd_s, p_becomes (by omega), bnd_s, r.2.2.2.2.1]
      refine q_ok Sd.p.fm Sd.p.e91 ?_
      rw [mI_u]
      exact Rw_up hw hR (by decide) (RwH.sns r c1)
    · rw [if_pos (bI_f (nf e2)), if_neg (show ¬ (true && rg v2 0 (nsH (hS t h))) = true by simp [e2])]
      exact q_f0 hR
  · rw [if_pos (bI_f (nf e1)), if_neg (show ¬ (hn v1 t && rg v2 0 (nsH (hS t (ix v1)))) = true by simp [e1])]
    exact q_f0 hR
def o_turn (v1 v2 : Int32) (t : St) : (Int32 × St) ⊕ Nat := if hn v1 t && rg v2 0 5 then .inl (nI (kdH (hS t (ix v1))), upH t (ix v1) (skd (hS t (ix v1)) (ix v2))) else .inr 0
theorem q_turn {t : St} (hw : Wf t) (v1 v2 : Int32) (M : Nm) (hR : Rw (M.1 87) t) : QM id t M (f_M_turn v1 v2 M) (o_turn v1 v2 t) := by
  have h6 := hw.1
  unfold f_M_turn o_turn
  rw [p_isHand hw v1 M hR.1, bnd_s]
  by_cases e1 : hn v1 t = true
  · rw [if_neg (bI_t e1), p_M_isKind, bnd_s]
    by_cases e2 : rg v2 0 5 = true
    · obtain ⟨h, h1, h2, h3⟩ := hn_of e1
      obtain ⟨c, c1, c2, c3⟩ := rgN (n := 5) (by decide) e2
      have r := hR.2.2.2 h h1
      rw [if_neg (bI_t e2), if_pos (show (hn v1 t && rg v2 0 5) = true by simp [e1, e2]), h3, c3, h2, c2, show ∀ M, f_M_spot (nI h) 0 M = some (nI (50 + 21 * h + 0), M) from fun M => p_spot h 0 M, bnd_s, p_becomes (by omega), bnd_s, r.1]
      refine q_ok Sd.p.fm Sd.p.e91 ?_
      rw [mI_u]
      exact Rw_up hw hR (by decide) (RwH.skd r c)
    · rw [if_pos (bI_f (nf e2)), if_neg (show ¬ (hn v1 t && rg v2 0 5) = true by simp [e2])]
      exact q_f0 hR
  · rw [if_pos (bI_f (nf e1)), if_neg (show ¬ (hn v1 t && rg v2 0 5) = true by simp [e1])]
    exact q_f0 hR
def und (k o : Nat) : Bool := decide (o = 0) || (decide (k = o) || (decide (3 < k) && decide (k - 3 = o)))
def unI (v0 v1 : Int32) : Int32 := if v1 = 0 then 1 else if v0 = v1 then 1 else if v0 ≤ 3 then 0 else if v0 - 3 = v1 then 1 else 0
theorem un_all : ∀ k, k < 6 → ∀ o, o < 6 → unI (nI k) (nI o) = bI (und k o) := by decide +kernel
theorem p_isUnder {k o : Nat} (hk : k < 6) (ho : o < 6) (M : Nm) : f_M_isUnder (nI k) (nI o) M = some (bI (und k o), M) := by
  unfold f_M_isUnder
  rw [← un_all k hk o ho]
  unfold unI
  split
  · rfl
  · split
    · rfl
    · split
      · rfl
      · split <;> rfl
def o_as (v1 v2 : Int32) (t : St) : (Int32 × St) ⊕ Nat := if hn v1 t && rg v2 0 5 then (if und (kdH (hS t (ix v1))) (ix v2) then .inl (nI (ikH (hS t (ix v1))), t) else .inr 2) else .inr 0
theorem q_as {t : St} (hw : Wf t) (v1 v2 : Int32) (M : Nm) (hR : Rw (M.1 87) t) : QM id t M (f_M_as v1 v2 M) (o_as v1 v2 t) := by
  have h6 := hw.1
  unfold f_M_as o_as
  rw [p_isHand hw v1 M hR.1, bnd_s]
  by_cases e1 : hn v1 t = true
  · rw [if_neg (bI_t e1), p_M_isKind, bnd_s]
    by_cases e2 : rg v2 0 5 = true
    · obtain ⟨h, h1, h2, h3⟩ := hn_of e1
      obtain ⟨c, c1, c2, c3⟩ := rgN (n := 5) (by decide) e2
      have r := hR.2.2.2 h h1
      rw [if_neg (bI_t e2), if_pos (show (hn v1 t && rg v2 0 5) = true by simp [e1, e2]), h3, c3, h2, c2, p_its0 (by omega), bnd_s, r.1, p_isUnder (hw.2.2 h h1).1 (by omega), bnd_s, p_its2 (by omega), bnd_s, r.2.2.1]
      by_cases e3 : und (kdH (hS t h)) c = true
      · rw [if_neg (bI_t e3), if_pos e3]
        exact q_ok (Fm.rf M) rfl hR
      · rw [if_pos (bI_f (nf e3)), if_neg e3]
        exact q_fd (cv := id) (by decide) (by decide) (Fm.rf M) rfl hR
    · rw [if_pos (bI_f (nf e2)), if_neg (show ¬ (hn v1 t && rg v2 0 5) = true by simp [e2])]
      exact q_f0 hR
  · rw [if_pos (bI_f (nf e1)), if_neg (show ¬ (hn v1 t && rg v2 0 5) = true by simp [e1])]
    exact q_f0 hR
def o_line (v1 : Int32) (t : St) : (Int64 × St) ⊕ Nat := if hn v1 t then .inl (lnS t (ix v1), t) else .inr 0
def o_inside (v1 : Int32) (t : St) : (Int64 × St) ⊕ Nat := if hn v1 t then .inl (inS t (ix v1), t) else .inr 0
theorem q_line {t : St} (hw : Wf t) (v1 : Int32) (M : Nm) (hR : Rw (M.1 87) t) : QM Int32.toInt64 t M (f_M_line v1 M) (o_line v1 t) := by
  have h6 := hw.1
  unfold f_M_line o_line
  rw [p_isHand hw v1 M hR.1, bnd_s]
  by_cases e1 : hn v1 t = true
  · obtain ⟨h, h1, h2, h3⟩ := hn_of e1
    obtain ⟨M1, a1, a2, a3⟩ := p_writeAll hw M hR
    have hR1 := Rn.of hR a2 a3
    rw [if_neg (bI_t e1), if_pos e1, a1, bnd_s, h3, h2, grd_h (inb_nI (by omega) (by decide)), (a3 h h1).1]
    exact q_ok a2.fm a2.e91 hR1.1
  · rw [if_pos (bI_f (nf e1)), if_neg e1]
    exact q_f0 hR
theorem q_inside {t : St} (hw : Wf t) (v1 : Int32) (M : Nm) (hR : Rw (M.1 87) t) : QM Int32.toInt64 t M (f_M_inside v1 M) (o_inside v1 t) := by
  have h6 := hw.1
  unfold f_M_inside o_inside
  rw [p_isHand hw v1 M hR.1, bnd_s]
  by_cases e1 : hn v1 t = true
  · obtain ⟨h, h1, h2, h3⟩ := hn_of e1
    obtain ⟨M1, a1, a2, a3⟩ := p_writeAll hw M hR
    have hR1 := Rn.of hR a2 a3
    rw [if_neg (bI_t e1), if_pos e1, a1, bnd_s, h3, h2, grd_h (inb_nI (by omega) (by decide)), (a3 h h1).2.1]
    exact q_ok a2.fm a2.e91 hR1.1
  · rw [if_pos (bI_f (nf e1)), if_neg e1]
    exact q_f0 hR
def o_years (v : Int32) (t : St) : (Int32 × St) ⊕ Nat := if rg v 1 60 then (if yS t + v ≤ 9999 then .inl (nI (sm cnH (yrs (ix v) t) (nS t)), yrs (ix v) t) else .inr 4) else .inr 0
theorem q_years {t : St} (hw : Wf t) (v : Int32) (M : Nm) (hR : Rw (M.1 87) t) : QM id t M (f_M_years v M) (o_years v t) := by
  have h6 := hw.1
  unfold f_M_years o_years
  rw [p_in160, bnd_s]
  by_cases e1 : rg v 1 60 = true
  · obtain ⟨n, n0, n1, n2, n3⟩ := rgM (a := 1) (b := 60) (by decide) e1
    rw [if_neg (bI_t e1), if_pos e1, g1, ix1, hR.2.1]
    by_cases e2 : yS t + v ≤ 9999
    · rw [if_pos e2, if_pos e2, n3, n2]
      obtain ⟨M1, a1, a2, a3⟩ := p_goesOn (n := n) (by omega) hw M hR
      rw [a1, bnd_s, p_together3 (wf_yrs n hw) M1 a3, bnd_s, nS_yrs]
      exact q_ok a2.fm a2.e91 a3
    · rw [if_neg e2, if_neg e2]
      exact q_fd (cv := id) (by decide) (by decide) (Fm.rf M) rfl hR
  · rw [if_pos (bI_f (nf e1)), if_neg e1]
    exact q_f0 hR
def o_now (v : Int32) (t : St) : (Int32 × St) ⊕ Nat := if v = 0 then .inl (yS t, t) else if v = 1 then .inl (nI (sm cnH t (nS t)), t) else if v = 2 then .inl (nI (sm ikH t (nS t)), t) else if v = 3 then .inl (hb (wrS t) (nS t), t) else if v = 4 then .inl (nI (pc (sS t)), t) else .inr 0
theorem q_now {t : St} (hw : Wf t) (v : Int32) (M : Nm) (hR : Rw (M.1 87) t) : QM id t M (f_M_now v M) (o_now v t) := by
  unfold f_M_now o_now
  by_cases q0 : v = 0
  · rw [if_pos q0, if_pos q0, g1, ix1, hR.2.1]
    exact q_ok (Fm.rf M) rfl hR
  rw [if_neg q0, if_neg q0]
  by_cases q1 : v = 1
  · rw [if_pos q1, if_pos q1, p_together3 hw M hR, bnd_s]
    exact q_ok (Fm.rf M) rfl hR
  rw [if_neg q1, if_neg q1]
  by_cases q2 : v = 2
  · rw [if_pos q2, if_pos q2, p_together2 hw M hR, bnd_s]
    exact q_ok (Fm.rf M) rfl hR
  rw [if_neg q2, if_neg q2]
  by_cases q3 : v = 3
  · obtain ⟨M1, a1, a2⟩ := p_thoseThatWrite hw M hR
    rw [if_pos q3, if_pos q3, a1, bnd_s]
    exact q_ok a2.fm a2.e91 (by rw [a2.e87]; exact hR)
  rw [if_neg q3, if_neg q3]
  by_cases q4 : v = 4
  · rw [if_pos q4, if_pos q4, p_smudges hw M hR, bnd_s, p_ones, bnd_s]
    exact q_ok (Fm.rf M) rfl hR
  rw [if_neg q4, if_neg q4]
  exact q_f0 hR
