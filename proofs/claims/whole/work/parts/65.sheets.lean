/-! the class: sheets -/
theorem shc_k {s : Nat} (hs : s < 4) : shc (nI s) = 77 + 2 * s := by unfold shc; rw [ix_nI (by omega)]
theorem isb_sh : ∀ s, s < 4 → isb 10 (77 + 2 * s) = true := by decide
theorem p_sheetOf (v1 : Int32) (M : Nm) : f_P_sheetOf v1 M = some (if rg v1 0 3 then some (77 + 2 * ix v1) else none, M) := by
  unfold f_P_sheetOf
  rw [p_within, bnd_s, show (nI 4 - 1).toInt = 3 by decide, show (0 : Int32).toInt = 0 by decide]
  by_cases e : rg v1 0 3 = true
  · obtain ⟨s, s1, s2, s3⟩ := rgN (n := 3) (by decide) e
    rw [if_neg (bI_t e), if_pos e, s3, s2, grd_h (inb_nI (by omega) (by decide)), shc_k (by omega)]
  · rw [if_pos (bI_f (nf e)), if_neg e]
theorem un_id {α : Type} (f : Nat → α) (s : Nat) : un f s (f s) = f := funext fun k => by
  by_cases q : k = s
  · rw [q, un_s]
  · rw [un_n q]
theorem CA.s1 {M M' : Nm} {A : Ab} (hw : WfA A) (h : CA M A) {s : Nat} (hs : s < 4) (hf : Fr (77 + 2 * s) (77 + 2 * s + 2) M M') {b z : Nat} {m : Nat → Int64} (hb : M'.1 (77 + 2 * s) 0 = nI b) (hz : M'.1 (77 + 2 * s) 1 = nI z) (hm : ∀ k, k < 40 → M'.2.1 (77 + 2 * s + 1) k = m k) : CA M' (shA A (un (bA A) s b) (un (nA A) s z) (un (mA A) s m)) := by
  refine h.o hw hf (by omega) rfl (fun q => ⟨q, rfl⟩) ?_
  obtain ⟨a, b, c, d, e⟩ := h.2.2.2
  refine ⟨fun i hi => by rw [(hf 85 (by omega)).1]; exact a i hi, by rw [(hf 0 (by omega)).1]; exact b, ⟨by rw [(hf 74 (by omega)).1]; exact c.1, fun i hi => by rw [(hf 75 (by omega)).1]; exact c.2 i hi⟩, fun u hu => ?_, fun k hk => by rw [(hf (kc k) (by have := kc_le k hk; omega)).1]; exact e k hk⟩
  show M'.1 (77 + 2 * u) 0 = nI (un (bA A) s _ u) ∧ M'.1 (77 + 2 * u) 1 = nI (un (nA A) s z u) ∧ ∀ k, k < 40 → M'.2.1 (77 + 2 * u + 1) k = un (mA A) s m u k
  by_cases q : u = s
  · subst q
    rw [un_s, un_s, un_s]
    exact ⟨hb, hz, hm⟩
  · rw [un_n q, un_n q, un_n q]
    refine ⟨by rw [(hf (77 + 2 * u) (by omega)).1]; exact (d u hu).1, by rw [(hf (77 + 2 * u) (by omega)).1]; exact (d u hu).2.1, fun k hk => by rw [(hf (77 + 2 * u + 1) (by omega)).2.1]; exact (d u hu).2.2 k hk⟩
theorem p_beL (o : Nat) : ∀ (n f i : Nat) (M : Nm), i + n = 40 → n < f → (∀ k, k < i → M.2.1 (o + 1) k = 0) → ∃ M', f_S_become_L12 o f (nI i) M = some ((), M') ∧ Fr o (o + 2) M M' ∧ M'.1 = M.1 ∧ ∀ k, k < 40 → M'.2.1 (o + 1) k = 0 := by
  intro n
  induction n with
  | zero =>
    intro f i M hi hf h0
    obtain ⟨f, rfl⟩ : ∃ g, f = g + 1 := ⟨f - 1, by omega⟩
    have : i = 40 := by omega
    subst this
    exact ⟨M, by rw [f_S_become_L12, if_pos (nI_le (Nat.le_refl _) (by decide))], Fr.rf _ _ M, rfl, h0⟩
  | succ n ih =>
    intro f i M hi hf h0
    obtain ⟨f, rfl⟩ : ∃ g, f = g + 1 := ⟨f - 1, by omega⟩
    obtain ⟨M', a1, a2, a3, a4⟩ := ih f (i + 1) (mL M (o + 1) i 0) (by omega) (by omega) (fun k hk => by
      rw [mL_s]
      by_cases q : k = i
      · rw [if_pos q]
      · rw [if_neg q]; exact h0 k (by omega))
    refine ⟨M', ?_, Fr.tr (Fr.l (by omega) (by omega)) a2, a3, a4⟩
    rw [f_S_become_L12, if_neg (nI_ge (by omega) (by decide)), grd_h (inb_nI (by omega) (by decide)), bl_e, ix_nI (by omega), nI_1]
    exact a1
theorem p_Sbecome (o : Nat) (b z : Int32) (M : Nm) : ∃ M', f_S_become o b z M = some ((), M') ∧ Fr o (o + 2) M M' ∧ M'.1 o 0 = b ∧ M'.1 o 1 = z ∧ ∀ k, k < 40 → M'.2.1 (o + 1) k = 0 := by
  obtain ⟨M', a1, a2, a3, a4⟩ := p_beL o 40 FU 0 (mI (mI M o 0 b) o 1 z) rfl (FU_gt (by decide)) (fun k hk => by omega)
  unfold f_S_become
  rw [bl_e, bl_e]
  refine ⟨M', a1, Fr.tr (Fr.i (by omega) (by omega)) (Fr.tr (Fr.i (by omega) (by omega)) a2), ?_, ?_, a4⟩
  · rw [a3, mI_s, if_neg (by decide), mI_s, if_pos rfl]
  · rw [a3, mI_s, if_pos rfl]
theorem p_isBits (v : Int32) (M : Nm) : f_P_isBits v M = some (bI (bts v), M) := by
  unfold f_P_isBits bts
  by_cases q0 : v = 0
  · rw [if_pos q0]; simp [q0, bI]
  · rw [if_neg q0]
    by_cases q1 : v = 8
    · rw [if_pos q1]; simp [q1, bI]
    · rw [if_neg q1]
      by_cases q2 : v = 16
      · rw [if_pos q2]; simp [q2, bI]
      · rw [if_neg q2]
        by_cases q3 : v = 64
        · rw [if_pos q3]; simp [q3, bI]
        · rw [if_neg q3]; simp [q0, q1, q2, q3, bI]
theorem bts_n {v : Int32} (h : bts v = true) : v = nI (ix v) := by
  unfold bts at h
  simp only [Bool.or_eq_true, decide_eq_true_eq] at h
  rcases h with q | q | q | q <;> rw [q] <;> decide
theorem k_sheet {A : Ab} (hw : WfA A) (v1 v2 v3 : Int32) (M : Nm) (h : CA M A) : QC id A M (f_P_sheet v1 v2 v3 M) (o_sheet v1 v2 v3 A) := by
  unfold f_P_sheet o_sheet
  rw [p_sheetOf, bnd_s]
  by_cases e1 : rg v1 0 3 = true
  · obtain ⟨s, s1, s2, s3⟩ := rgN (n := 3) (by decide) e1
    rw [if_pos (show rg v1 0 3 = true from e1), ifn_s, s3, grd_h (isb_sh s (by omega)), p_isBits, bnd_s]
    by_cases e2 : bts v2 = true
    · have fin : ∀ z : Nat, (v3.toInt = z ∨ z = 0) → szV v2 v3 = z → QC id A M (bnd (f_S_become (77 + 2 * s) v2 (nI z) M) fun r11 M12 => some (M12.1 (77 + 2 * s) 1, M12)) (.inl (nI (szV v2 v3), shA A (un (bA A) s (ix v2)) (un (nA A) s (szV v2 v3)) (un (mA A) s (fun _ => 0)))) := by
        intro z _ hz
        obtain ⟨M1, a1, a2, a3, a4, a5⟩ := p_Sbecome (77 + 2 * s) v2 (nI z) M
        rw [a1, bnd_s, a4, hz]
        exact qc_ok (a2.w (by omega) (by omega)) (h.s1 hw (by omega) a2 (by rw [a3]; exact bts_n e2) a4 a5)
      rw [if_neg (bI_t e2), if_pos (show (rg v1 0 3 && bts v2) = true by simp [e1, e2])]
      by_cases q : v3 < 0
      · rw [if_neg (show ¬ (0 : Int32) ≤ v3 from Int32.not_le.mpr q), if_pos (show v3 < 0 from q)]
        exact qc_fd (cv := id) hw (Fr.rf _ _ M) h (by decide) (by decide)
      · rw [if_pos (show (0 : Int32) ≤ v3 from Int32.not_lt.mp q), if_neg (show ¬ v3 < 0 from q)]
        by_cases q2 : 40 < v3
        · rw [if_neg (show ¬ v3 ≤ 40 from Int32.not_le.mpr q2), if_pos (show 40 < v3 from q2)]
          exact qc_f0 hw h
        · obtain ⟨z, z1, z2⟩ := nI_of q
          rw [if_pos (show v3 ≤ 40 from Int32.not_lt.mp q2), if_neg (show ¬ 40 < v3 from q2)]
          by_cases q3 : v2 = 0
          · rw [if_pos (show v2 = 0 from q3)]
            exact fin 0 (Or.inr rfl) (by unfold szV; rw [if_pos q3])
          · rw [if_neg (show ¬ v2 = 0 from q3)]
            have := fin z (Or.inl (by rw [z2, nI_toInt z1])) (by unfold szV; rw [if_neg q3, z2, ix_nI z1])
            rw [← z2] at this
            exact this
    · rw [if_pos (bI_f (nf e2)), if_neg (show ¬ (rg v1 0 3 && bts v2) = true by simp [e2])]
      exact qc_f0 hw h
  · rw [if_neg (show ¬ rg v1 0 3 = true from e1), ifn_n, if_neg (show ¬ (rg v1 0 3 && bts v2) = true by simp [e1])]
    exact qc_f0 hw h
theorem p_isMissing {A : Ab} (hw : WfA A) {M : Nm} (h : CA M A) {s : Nat} (hs : s < 4) : f_S_isMissing (77 + 2 * s) M = some (bI (decide (bA A s = 0)), M) := by
  have hb := bA_lt hw hs
  unfold f_S_isMissing
  rw [(h.2.2.2.2.2.2.1 s hs).1]
  by_cases q : bA A s = 0
  · rw [if_pos (show nI (bA A s) = 0 by rw [q]; rfl), decide_eq_true q]; rfl
  · rw [if_neg (nI_ne0 (by omega) (by omega)), decide_eq_false q]; rfl
/-- a sheet that is there and isn't missing, or a finding -/
theorem k_shO {α : Type} {cv : Int32 → α} {A : Ab} (hw : WfA A) (v1 : Int32) {M : Nm} (h : CA M A) {r : Nat → Nm → Option (α × Nm)} {o : (α × Ab) ⊕ Nat} (hr : ∀ s, s < 4 → v1 = nI s → ix v1 = s → ¬ bA A s = 0 → QC cv A M (r (77 + 2 * s) M) o) : QC cv A M (bnd (f_P_sheetOf v1 M) fun r1 M2 => ifn r1 (bnd (f_P_finding (-1000000001) M2) fun r5 M6 => some (cv r5, M6)) fun p3 => grd (isb 10 p3) <| bnd (f_S_isMissing p3 M2) fun r7 M8 => if r7 = 0 then r p3 M8 else (bnd (f_P_finding (-1000000006) M8) fun r15 M16 => some (cv r15, M16))) (shO v1 A o) := by
  unfold shO
  rw [p_sheetOf, bnd_s]
  by_cases e1 : rg v1 0 3 = true
  · obtain ⟨s, s1, s2, s3⟩ := rgN (n := 3) (by decide) e1
    rw [if_pos (show rg v1 0 3 = true from e1), ifn_s, if_pos (show rg v1 0 3 = true from e1), s3, grd_h (isb_sh s (by omega)), p_isMissing hw h (by omega), bnd_s]
    by_cases q : bA A s = 0
    · rw [decide_eq_true q, if_neg (by decide), if_pos (show bA A s = 0 from q)]
      exact qc_fd hw (Fr.rf _ _ M) h (by decide) (by decide)
    · rw [decide_eq_false q, if_pos (by decide), if_neg (show ¬ bA A s = 0 from q)]
      exact hr s (by omega) s2 s3 q
  · rw [if_neg (show ¬ rg v1 0 3 = true from e1), ifn_n, if_neg (show ¬ rg v1 0 3 = true from e1)]
    exact qc_f0 hw h
theorem p_put {o b n k : Nat} {M : Nm} (hb : M.1 o 0 = nI b) (hb2 : b < 100) (hn : M.1 o 1 = nI n) (hk : k < n) (h40 : n ≤ 40) (v : Int64) : f_S_put o (nI k) v M = some ((), mL M (o + 1) k (nrw b v)) := by
  unfold f_S_put f_S_lowestBits
  rw [hn, if_neg (nI_pos (by omega)), if_neg (nI_ge hk (by omega)), if_neg (nI_ge (show k < 40 by omega) (by decide)), hb, ix_nI (by omega)]
  unfold nrw
  by_cases q : b = 8
  · rw [if_pos (show nI b = 8 by rw [q]; rfl), if_pos q, bnd_s, grd_h (inb_nI (by omega) (by decide)), bl_e]
  · rw [if_neg (show ¬ nI b = 8 from fun z => q ((nI_eq (b := 8) (by omega) (by decide)).mp z)), if_neg q]
    by_cases q2 : b = 16
    · rw [if_pos (show nI b = 16 by rw [q2]; rfl), if_pos q2, bnd_s, grd_h (inb_nI (by omega) (by decide)), bl_e]
    · rw [if_neg (show ¬ nI b = 16 from fun z => q2 ((nI_eq (b := 16) (by omega) (by decide)).mp z)), if_neg q2, bnd_s, grd_h (inb_nI (by omega) (by decide)), bl_e]
/-- one number of a sheet is set -/
theorem CA.w1 {M : Nm} {A : Ab} (hw : WfA A) (h : CA M A) {s k : Nat} (hs : s < 4) (x : Int64) : CA (mL M (77 + 2 * s + 1) k x) (shA A (bA A) (nA A) (un (mA A) s (un (mA A s) k x))) := by
  obtain ⟨d1, d2, d3⟩ := h.2.2.2.2.2.2.1 s hs
  have := h.s1 hw hs (M' := mL M (77 + 2 * s + 1) k x) (b := bA A s) (z := nA A s) (m := un (mA A s) k x) (Fr.l (by omega) (by omega)) d1 d2 (fun i hi => by
    rw [mL_s]
    by_cases q : i = k
    · rw [if_pos q, q, un_s]
    · rw [if_neg q, un_n q]; exact d3 i hi)
  rw [un_id, un_id] at this
  exact this
theorem lt_rg {n : Nat} (hn : n < 41) (v : Int32) : rg v 0 (nI n - 1).toInt = lt0 v n := by
  rw [pr_all n hn]
  unfold rg lt0
  have : (v.toInt ≤ (n : Int) - 1) = (v.toInt < n) := propext (by omega)
  simp only [this]
theorem k_write {A : Ab} (hw : WfA A) (v1 v2 : Int32) (v3 : Int64) (M : Nm) (h : CA M A) : QC Int32.toInt64 A M (f_P_write v1 v2 v3 M) (o_write v1 v2 v3 A) := by
  unfold f_P_write o_write
  refine k_shO (cv := Int32.toInt64) hw v1 h (fun s hs s2 s3 hb => ?_)
  obtain ⟨d1, d2, d3⟩ := h.2.2.2.2.2.2.1 s hs
  have h40 := (hw.2.2.2.2 s hs).2.1
  rw [p_within, bnd_s, d2, show (0 : Int32).toInt = 0 by decide, lt_rg (by omega), s3]
  by_cases e : lt0 v2 (nA A s) = true
  · obtain ⟨k, k1, k2, k3⟩ := lt0_of e
    rw [if_neg (bI_t e), if_pos (show lt0 v2 (nA A s) = true from e), k3, k2, grd_h (inb_nI (by omega) (by decide)), p_put d1 (bA_lt hw hs) d2 k1 h40, bnd_s, d3 k (by omega)]
    exact qc_ok (Fr.l (by omega) (by omega)) (h.w1 hw hs _)
  · rw [if_pos (bI_f (nf e)), if_neg (show ¬ lt0 v2 (nA A s) = true from e)]
    exact qc_f0 hw h
/-! numbers copied -/
theorem p_hasNumbers {o n : Nat} {M : Nm} (hn : M.1 o 1 = nI n) (h40 : n ≤ 40) (v1 v2 : Int32) : f_S_hasNumbers o v1 v2 M = some (bI (hsN v1 v2 n), M) := by
  unfold f_S_hasNumbers hsN
  rw [hn]
  by_cases q1 : v1 < 0
  · have : ¬ 0 ≤ v1.toInt := by have := lt32.mp q1; rw [show (0 : Int32).toInt = 0 by decide] at this; omega
    rw [if_pos q1]; simp [this, bI]
  · rw [if_neg q1]
    obtain ⟨a, a1, a2⟩ := nI_of q1
    by_cases q2 : v2 < 0
    · have : ¬ 0 ≤ v2.toInt := by have := lt32.mp q2; rw [show (0 : Int32).toInt = 0 by decide] at this; omega
      rw [if_pos q2]; simp [this, bI]
    · rw [if_neg q2]
      obtain ⟨c, c1, c2⟩ := nI_of q2
      rw [a2, c2, nI_toInt a1, nI_toInt c1]
      by_cases q3 : n < c
      · have : ¬ (a : Int) + c ≤ n := by omega
        rw [if_pos (nI_lt q3 c1)]; simp [this, bI]
      · rw [if_neg (nI_nlt (by omega) (by omega))]
        have e : nI n - nI c = nI (n - c) := by
          apply Int32.toInt_inj.mp
          rw [sub_tI (by omega) c1, nI_toInt (by omega)]
          omega
        rw [e]
        by_cases q4 : n - c < a
        · have : ¬ (a : Int) + c ≤ n := by omega
          rw [if_pos (nI_lt q4 a1)]; simp [this, bI]
        · have : (a : Int) + c ≤ n := by omega
          rw [if_neg (nI_nlt (by omega) (by omega))]; simp [this, bI]
theorem hsN_of {v1 v2 : Int32} {n : Nat} (h : hsN v1 v2 n = true) (h40 : n ≤ 40) : ∃ a c, a + c ≤ n ∧ v1 = nI a ∧ ix v1 = a ∧ v2 = nI c ∧ ix v2 = c := by
  unfold hsN at h
  simp only [Bool.and_eq_true, decide_eq_true_eq] at h
  refine ⟨v1.toInt.toNat, v2.toInt.toNat, by omega, ?_, rfl, ?_, rfl⟩
  · apply Int32.toInt_inj.mp
    rw [nI_toInt (by omega)]; omega
  · apply Int32.toInt_inj.mp
    rw [nI_toInt (by omega)]; omega
theorem inc_n {a c : Nat} (h : a + c ≤ 40) : inc (nI a) (nI c) 40 = true := by
  unfold inc
  rw [ix_nI (by omega), ix_nI (by omega)]
  simp only [Bool.and_eq_true, decide_eq_true_eq]
  exact ⟨⟨nI_pos' (by omega), nI_pos' (by omega)⟩, h⟩
theorem k_copy {A : Ab} (hw : WfA A) (v1 v2 v3 v4 v5 : Int32) (M : Nm) (h : CA M A) : QC id A M (f_P_copy v1 v2 v3 v4 v5 M) (o_copy v1 v2 v3 v4 v5 A) := by
  unfold f_P_copy o_copy
  rw [p_sheetOf, bnd_s]
  by_cases e1 : rg v1 0 3 = true
  · obtain ⟨s, s1, s2, s3⟩ := rgN (n := 3) (by decide) e1
    rw [if_pos (show rg v1 0 3 = true from e1), ifn_s, s3, grd_h (isb_sh s (by omega)), p_sheetOf, bnd_s]
    by_cases e2 : rg v3 0 3 = true
    · obtain ⟨u, u1, u2, u3⟩ := rgN (n := 3) (by decide) e2
      obtain ⟨d1, d2, d3⟩ := h.2.2.2.2.2.2.1 s (by omega)
      obtain ⟨g1, g2, g3⟩ := h.2.2.2.2.2.2.1 u (by omega)
      have h40 := (hw.2.2.2.2 s (by omega)).2.1
      have h41 := (hw.2.2.2.2 u (by omega)).2.1
      rw [if_pos (show rg v3 0 3 = true from e2), ifn_s, if_pos (show (rg v1 0 3 && rg v3 0 3) = true by simp [e1, e2]), u3, grd_h (isb_sh u (by omega)), p_isMissing hw h (by omega), bnd_s]
      by_cases q1 : bA A s = 0
      · rw [decide_eq_true q1, if_neg (by decide), if_pos (show bA A s = 0 from q1)]
        exact qc_fd (cv := id) hw (Fr.rf _ _ M) h (by decide) (by decide)
      · rw [decide_eq_false q1, if_pos (by decide), if_neg (show ¬ bA A s = 0 from q1), p_isMissing hw h (by omega), bnd_s]
        by_cases q2 : bA A u = 0
        · rw [decide_eq_true q2, if_neg (by decide), if_pos (show bA A u = 0 from q2)]
          exact qc_fd (cv := id) hw (Fr.rf _ _ M) h (by decide) (by decide)
        · rw [decide_eq_false q2, if_pos (by decide), if_neg (show ¬ bA A u = 0 from q2), d1, g1]
          have b1 := bA_lt hw (show s < 4 by omega)
          have b2 := bA_lt hw (show u < 4 by omega)
          by_cases q3 : bA A s = bA A u
          · rw [if_pos (show nI (bA A s) = nI (bA A u) by rw [q3]), if_pos (show bA A s = bA A u from q3), p_hasNumbers d2 h40, bnd_s]
            by_cases e3 : hsN v2 v5 (nA A s) = true
            · rw [if_neg (bI_t e3), p_hasNumbers g2 h41, bnd_s]
              by_cases e4 : hsN v4 v5 (nA A u) = true
              · obtain ⟨a, n, n1, n2, n3, n4, n5⟩ := hsN_of e3 h40
                obtain ⟨c, n', m1, m2, m3, m4, m5⟩ := hsN_of e4 h41
                have en : n' = n := by rw [← n5, ← m5]
                subst en
                rw [if_neg (bI_t e4), if_pos (show (hsN v2 v5 (nA A s) && hsN v4 v5 (nA A u)) = true by simp [e3, e4]), n3, m3, n5, n2, m2, n4, grd_h (show (inc (nI a) (nI n') 40 && inc (nI c) (nI n') 40) = true by rw [inc_n (by omega), inc_n (by omega)]; rfl), bl_e]
                have hF : Fr (77 + 2 * u) (77 + 2 * u + 2) M (mCl M (77 + 2 * s + 1) (nI a) (77 + 2 * u + 1) (nI c) (nI n')) := fun k hk => ⟨rfl, va_up_ne _ _ (by omega), rfl⟩
                have := h.s1 hw (s := u) (by omega) hF (b := bA A u) (z := nA A u) (m := fun k => if c ≤ k ∧ k < c + n' then mA A s (a + (k - c)) else mA A u k) g1 g2 (fun k hk => by
                  show va_up M.2.1 (77 + 2 * u + 1) (va_cpy (M.2.1 (77 + 2 * s + 1)) (M.2.1 (77 + 2 * u + 1)) (ix (nI a)) (ix (nI c)) (ix (nI n'))) (77 + 2 * u + 1) k = _
                  rw [va_up_self, ix_nI (by omega), ix_nI (by omega), ix_nI (by omega)]
                  unfold va_cpy
                  by_cases z : c ≤ k ∧ k < c + n'
                  · rw [if_pos z, if_pos z]; exact d3 _ (by omega)
                  · rw [if_neg z, if_neg z]; exact g3 k hk)
                rw [un_id, un_id] at this
                exact qc_ok (hF.w (by omega) (by omega)) this
              · rw [if_pos (bI_f (nf e4)), if_neg (show ¬ (hsN v2 v5 (nA A s) && hsN v4 v5 (nA A u)) = true by simp [e4])]
                exact qc_f0 hw h
            · rw [if_pos (bI_f (nf e3)), if_neg (show ¬ (hsN v2 v5 (nA A s) && hsN v4 v5 (nA A u)) = true by simp [e3])]
              exact qc_f0 hw h
          · rw [if_neg (show ¬ nI (bA A s) = nI (bA A u) from fun z => q3 ((nI_eq (by omega) (by omega)).mp z)), if_neg (show ¬ bA A s = bA A u from q3)]
            exact qc_fd (cv := id) hw (Fr.rf _ _ M) h (by decide) (by decide)
    · rw [if_neg (show ¬ rg v3 0 3 = true from e2), ifn_n, if_neg (show ¬ (rg v1 0 3 && rg v3 0 3) = true by simp [e2])]
      exact qc_f0 hw h
  · rw [if_neg (show ¬ rg v1 0 3 = true from e1), ifn_n, p_sheetOf, bnd_s, if_neg (show ¬ (rg v1 0 3 && rg v3 0 3) = true by simp [e1])]
    by_cases e2 : rg v3 0 3 = true
    · obtain ⟨u, u1, u2, u3⟩ := rgN (n := 3) (by decide) e2
      rw [if_pos (show rg v3 0 3 = true from e2), ifn_s, u3, grd_h (isb_sh u (by omega))]
      exact qc_f0 hw h
    · rw [if_neg (show ¬ rg v3 0 3 = true from e2), ifn_n]
      exact qc_f0 hw h
