/-! the class: the tape fed, images, counts -/
theorem CA.tp {M M' : Nm} {A : Ab} (hw : WfA A) (h : CA M A) (hf : Fr 74 76 M M') {z : Nat} {p : Nat → Nat} (hz : M'.1 74 0 = nI z) (hp : ∀ i, i < z → M'.1 75 i = nI (p i)) : CA M' (spA A z p) := by
  refine h.o hw hf (by omega) rfl (fun q => ⟨q, rfl⟩) ?_
  obtain ⟨a, b, c, d, e⟩ := h.2.2.2
  exact ⟨fun i hi => by rw [(hf 85 (by omega)).1]; exact a i hi, by rw [(hf 0 (by omega)).1]; exact b, ⟨hz, hp⟩, fun s hs => ⟨by rw [(hf (77 + 2 * s) (by omega)).1]; exact (d s hs).1, by rw [(hf (77 + 2 * s) (by omega)).1]; exact (d s hs).2.1, fun k hk => by rw [(hf (77 + 2 * s + 1) (by omega)).2.1]; exact (d s hs).2.2 k hk⟩, fun k hk => by rw [(hf (kc k) (by have := kc_le k hk; omega)).1]; exact e k hk⟩
theorem k_wipe {A : Ab} (hw : WfA A) (M : Nm) (h : CA M A) : QC id A M (f_P_wipe M) (o_wipe A) := by
  unfold f_P_wipe o_wipe
  rw [bl_e, h.2.2.2.2.2.1.1]
  have hF : Fr 74 76 M (mI M 74 0 0) := Fr.i (by omega) (by omega)
  exact qc_ok (hF.w (by omega) (by omega)) (h.tp hw hF (by rw [mI_s, if_pos rfl]; rfl) (fun i hi => by omega))
theorem sm32 : ∀ k, k < 4 → (((8 * nI k) &&& 31).toBitVec.smod 32).toNat = 8 * k := by decide +kernel
theorem su32 : ∀ k, k < 4 → (((8 * nI k).toUInt32 &&& Int32.toUInt32 31).toBitVec % 32).toNat = 8 * k := by decide +kernel
theorem b255 : ∀ i, i < 32 → (255 : Int32).toBitVec.getLsbD i = decide (i < 8) := by decide +kernel
theorem sh_eq (v : Int32) {k : Nat} (hk : k < 4) : ((v.toUInt32 >>> ((8 * nI k).toUInt32 &&& Int32.toUInt32 31)).toInt32) &&& 255 = (v >>> ((8 * nI k) &&& 31)) &&& 255 := by
  apply Int32.toBitVec_inj.mp
  apply BitVec.eq_of_getLsbD_eq
  intro i hi
  rw [Int32.toBitVec_and, Int32.toBitVec_and, BitVec.getLsbD_and, BitVec.getLsbD_and, b255 i hi, UInt32.toBitVec_toInt32, UInt32.toBitVec_shiftRight, BitVec.ushiftRight_eq', su32 k hk, BitVec.getLsbD_ushiftRight, Int32.toBitVec_shiftRight, BitVec.sshiftRight_eq', sm32 k hk, BitVec.getLsbD_sshiftRight]
  by_cases q : i < 8
  · have h1 : 8 * k + i < 32 := by omega
    have h2 : ¬ 32 ≤ i := by omega
    simp only [q, decide_true, Bool.and_true, h1, if_true, h2, decide_false, Bool.not_false, Bool.true_and]
    rfl
  · simp [q]
theorem nar_b : ∀ b, b < 256 → vp_nar .char (((nI b).toUInt32 % 65536).toInt32) = nI b := by decide +kernel
theorem p_add {M : Nm} {z b : Nat} (hz : M.1 74 0 = nI z) (h120 : z < 120) (hb : b < 256) : f_T_add (nI b) M = some ((), mI (mI M 75 z (nI b)) 74 0 (nI (z + 1))) := by
  unfold f_T_add
  rw [hz, if_neg (nI_pos (by omega)), if_neg (nI_ge h120 (by decide)), grd_h (inb_nI h120 (by decide)), bl_e, ix_nI (by omega), nar_b b hb, mI_o (by omega), hz, nI_1, bl_e]
theorem p_feL (v1 : Int32) : ∀ (k f z : Nat) (p : Nat → Nat) (M : Nm), M.1 74 0 = nI z → (∀ i, i < z → M.1 75 i = nI (p i)) → z + k ≤ 120 → k < f → k ≤ 4 → ∃ M', f_P_feed_L41 v1 f (nI k + (-1)) M = some (nI (z + k), M') ∧ Fr 74 76 M M' ∧ M'.1 74 0 = nI (z + k) ∧ ∀ i, i < z + k → M'.1 75 i = nI ((fdF v1 k (z, p)).2 i) := by
  intro k
  induction k with
  | zero =>
    intro f z p M hz hp h120 hf h4
    obtain ⟨f, rfl⟩ : ∃ g, f = g + 1 := ⟨f - 1, by omega⟩
    refine ⟨M, ?_, Fr.rf _ _ M, hz, hp⟩
    rw [f_P_feed_L41, if_pos (by decide), hz]
    rfl
  | succ k ih =>
    intro f z p M hz hp h120 hf h4
    obtain ⟨f, rfl⟩ : ∃ g, f = g + 1 := ⟨f - 1, by omega⟩
    have hF : Fr 74 76 M (mI (mI M 75 z (nI (byN v1 k))) 74 0 (nI (z + 1))) := Fr.tr (Fr.i (by omega) (by omega)) (Fr.i (by omega) (by omega))
    obtain ⟨M', e1, e2, e3, e4⟩ := ih f (z + 1) (un p z (byN v1 k)) (mI (mI M 75 z (nI (byN v1 k))) 74 0 (nI (z + 1))) (by rw [mI_s, if_pos rfl]) (fun i hi => by
      rw [mI_o (by omega), mI_s]
      by_cases q : i = z
      · rw [if_pos q, q, un_s]
      · rw [if_neg q, un_n q]; exact hp i (by omega)) (by omega) (by omega) (by omega)
    have h255 : (v1 >>> ((8 * nI k) &&& 31)) &&& 255 = nI (byN v1 k) := and255 _
    have hzz : z + 1 + k = z + (k + 1) := by omega
    rw [hzz] at e1 e3 e4
    refine ⟨M', ?_, Fr.tr hF e2, e3, e4⟩
    rw [pk_m1, f_P_feed_L41, if_neg (nI_pos (by omega)), sh_eq v1 (by omega), h255, p_add hz (by omega) (byN_lt v1 k), bnd_s]
    exact e1
theorem k_feed {A : Ab} (hw : WfA A) (v1 v2 : Int32) (M : Nm) (h : CA M A) : QC id A M (f_P_feed v1 v2 M) (o_feed v1 v2 A) := by
  have hz := hw.2.2.1
  unfold f_P_feed o_feed
  rw [p_within, bnd_s]
  show QC id A M (if bI (rg v2 1 4) = 0 then _ else _) _
  by_cases e : rg v2 1 4 = true
  · obtain ⟨n, n1, n2, n3, n4⟩ := rg1n (n := 4) (by decide) e
    rw [if_neg (bI_t e), if_pos (show rg v2 1 4 = true from e), n4, n3, h.2.2.2.2.2.1.1, nI_add]
    by_cases q : zA A + n ≤ 120
    · rw [if_pos (show nI (zA A + n) ≤ (120 : Int32) from nI_le (b := 120) q (by decide)), if_pos (show zA A + n ≤ 120 from q), Int32.sub_eq_add_neg]
      obtain ⟨M', e1, e2, e3, e4⟩ := p_feL v1 n FU (zA A) (pA A) M h.2.2.2.2.2.1.1 h.2.2.2.2.2.1.2 q (FU_gt (by omega)) n2
      exact ⟨M', e1, e2.w (by omega) (by omega), h.tp hw e2 e3 e4⟩
    · rw [if_neg (show ¬ nI (zA A + n) ≤ (120 : Int32) from nI_ge (a := 120) (by omega) (by omega)), if_neg (show ¬ zA A + n ≤ 120 from q)]
      exact qc_fd (cv := id) hw (Fr.rf _ _ M) h (by decide) (by decide)
  · rw [if_pos (bI_f (nf e)), if_neg (show ¬ rg v2 1 4 = true from e)]
    exact qc_f0 hw h
/-! images -/
theorem CB.k {M : Nm} {A : Ab} (h : CB M A) (b : Bool) (t : St) : CB (mI M 0 4 (bI b)) (skA A b t) := by
  obtain ⟨a, _, c, d, e⟩ := h
  exact ⟨fun i hi => by rw [mI_o (by omega)]; exact a i hi, by rw [mI_s, if_pos rfl]; rfl, ⟨by rw [mI_o (by omega)]; exact c.1, fun i hi => by rw [mI_o (by omega)]; exact c.2 i hi⟩, fun s hs => ⟨by rw [mI_o (by omega)]; exact (d s hs).1, by rw [mI_o (by omega)]; exact (d s hs).2.1, fun k hk => (d s hs).2.2 k hk⟩, fun k hk => by rw [mI_o (by unfold kc; split <;> omega)]; exact e k hk⟩
theorem k_image {A : Ab} (hw : WfA A) (M : Nm) (h : CA M A) : QC id A M (f_P_image M) (o_image A) := by
  obtain ⟨M1, a1, a2, a3⟩ := p_LtakeFrom (d := 52) (e := 8) (by omega) hw.1 h.2.2.1.1 h.1
  have hF : Fr 0 1 M1 (mI M1 0 4 1) := Fr.i (by omega) (by omega)
  unfold f_P_image o_image
  rw [a1, bnd_s, grd_h (by decide), bl_e]
  refine qc_ok (Fr.tr (a2.w (by omega) (by omega)) (hF.w (by omega) (by omega))) ⟨(h.1.r hw.1.1 a2 (by omega)).r hw.1.1 hF (by omega), (h.2.1.r a2 (by omega)).r hF (by omega), ⟨a3.ca.r hF (by omega), fun _ => a3.r hw.1.1 hF (by omega)⟩, ?_⟩
  exact (h.2.2.2.r a2 (by omega) (by omega)).k true (tA A)
theorem k_tear {A : Ab} (hw : WfA A) (M : Nm) (h : CA M A) : QC id A M (f_P_tear M) (o_tear A) := by
  have hF : Fr 0 1 M (mI M 0 4 0) := Fr.i (by omega) (by omega)
  have hk : CA (mI M 0 4 0) (skA A false (ktA A)) := ⟨h.1.r hw.1.1 hF (by omega), h.2.1.r hF (by omega), ⟨h.2.2.1.1.r hF (by omega), fun q => by cases q⟩, h.2.2.2.k false (ktA A)⟩
  unfold f_P_tear o_tear
  rw [h.2.2.2.2.1, grd_h (by decide), bl_e, bl_e]
  cases kA A with
  | true => rw [if_neg (by decide)]; exact qc_ok (hF.w (by omega) (by omega)) hk
  | false => rw [if_pos (show bI false = 0 from rfl)]; exact qc_ok (hF.w (by omega) (by omega)) hk
theorem k_undo {A : Ab} (hw : WfA A) (M : Nm) (h : CA M A) : QC id A M (f_P_undo M) (o_undo A) := by
  unfold f_P_undo o_undo
  rw [h.2.2.2.2.1]
  by_cases e : kA A = true
  · obtain ⟨M1, a1, a2, a3⟩ := p_LtakeFrom (d := 8) (e := 52) (by omega) (hw.2.1 e) h.1.ca (h.2.2.1.2 e)
    rw [if_neg (bI_t e), if_pos (show kA A = true from e), a1, bnd_s, a3.2.2.1]
    exact qc_ok (a2.w (by omega) (by omega)) (h.t8 hw a2 a3)
  · rw [if_pos (bI_f (nf e)), if_neg (show ¬ kA A = true from e)]
    exact qc_fd (cv := id) hw (Fr.rf _ _ M) h (by decide) (by decide)
/-! counts -/
theorem k_count {A : Ab} (hw : WfA A) (v1 : Int32) (M : Nm) (h : CA M A) : QC id A M (f_P_count v1 M) (o_count v1 A) := by
  unfold f_P_count o_count
  rw [h.1.2.2.1, h.2.2.2.2.2.1.1, p_strokesOfAll hw.1 h.1, p_costsOfAll hw.1 h.1, bnd_s, bnd_s]
  have ok : ∀ a : Int32, QC id A M (some (a, M)) (.inl (a, A)) := fun a => qc_ok (Fr.rf _ _ M) h
  by_cases q0 : v1 = 0
  · rw [if_pos q0, if_pos q0]; exact ok _
  · rw [if_neg q0, if_neg q0]
    by_cases q1 : v1 = 1
    · rw [if_pos q1, if_pos q1]; exact ok _
    · rw [if_neg q1, if_neg q1]
      by_cases q2 : v1 = 2
      · rw [if_pos q2, if_pos q2]; exact ok _
      · rw [if_neg q2, if_neg q2]
        by_cases q3 : v1 = 3
        · rw [if_pos q3, if_pos q3]; exact ok _
        · rw [if_neg q3, if_neg q3]; exact qc_f0 hw h
theorem stF_s (f : Nat → Int32) (v : Int32) (n : Nat) : stF f v (n + 1) = stF f v n + (if v < 0 then f n else if nI n = v then f n else 0) := rfl
theorem stF_k (f : Nat → Int32) {k : Nat} (hk : k < 7) : ∀ n, n ≤ 7 → stF f (nI k) n = if k < n then f k else 0 := by
  intro n
  induction n with
  | zero => intro _; rfl
  | succ n ih =>
    intro hn
    rw [stF_s, ih (by omega), if_neg (nI_pos (by omega))]
    by_cases q : n = k
    · subst q
      rw [if_neg (Nat.lt_irrefl _), if_pos rfl, if_pos (Nat.lt_succ_self _), Int32.zero_add]
    · rw [if_neg (fun y => q ((nI_eq (by omega) (by omega)).mp y)), Int32.add_zero]
      by_cases q2 : k < n
      · rw [if_pos q2, if_pos (by omega)]
      · rw [if_neg q2, if_neg (by omega)]
theorem p_stL9 {A : Ab} (M : Nm) (h : CA M A) : ∀ (n f i : Nat), i + n = 7 → n < f → f_P_status_L9 f (stF (fA A) (-1) i) (nI i) M = some (stF (fA A) (-1) 7, M) := by
  intro n
  induction n with
  | zero =>
    intro f i hi hf
    obtain ⟨f, rfl⟩ : ∃ g, f = g + 1 := ⟨f - 1, by omega⟩
    have : i = 7 := by omega
    subst this
    rw [f_P_status_L9, if_pos (nI_le (Nat.le_refl _) (by decide))]
  | succ n ih =>
    intro f i hi hf
    obtain ⟨f, rfl⟩ : ∃ g, f = g + 1 := ⟨f - 1, by omega⟩
    have key := ih f (i + 1) (by omega) (by omega)
    rw [stF_s, if_pos (by decide)] at key
    rw [f_P_status_L9, if_neg (nI_ge (by omega) (by decide)), grd_h (inb_nI (by omega) (by decide)), ix_nI (by omega), h.2.2.2.1 i (by omega), nI_1]
    exact key
theorem k_status {A : Ab} (hw : WfA A) (v1 : Int32) (M : Nm) (h : CA M A) : QC id A M (f_P_status v1 M) (o_status v1 A) := by
  unfold f_P_status o_status
  by_cases q : v1 = -1
  · rw [if_pos q, if_pos (show rg v1 (-1) 6 = true by rw [q]; decide), show f_P_status_L9 FU 0 0 M = _ from p_stL9 M h 7 FU 0 rfl (FU_gt (by decide)), q]
    exact qc_ok (Fr.rf _ _ M) h
  · rw [if_neg q]
    by_cases q2 : v1 < 0
    · have hr : ¬ rg v1 (-1) 6 = true := fun y => by
        obtain ⟨y1, y2⟩ := rg_1.mp y
        have h1 : v1.toInt < 0 := lt32.mp q2
        exact q (Int32.toInt_inj.mp (show v1.toInt = (-1 : Int32).toInt by
          rw [show (-1 : Int32).toInt = -1 by decide]
          omega))
      rw [if_pos q2, if_neg hr]
      exact qc_f0 hw h
    · rw [if_neg q2]
      obtain ⟨k, k1, k2⟩ := nI_of q2
      by_cases q3 : k < 7
      · have hr : rg v1 (-1) 6 = true := by
          rw [rg_1, k2, nI_toInt k1]
          omega
        rw [if_pos (show v1 < nI 7 by rw [k2]; exact nI_lt q3 (by decide)), if_pos (show rg v1 (-1) 6 = true from hr), k2, grd_h (inb_nI q3 (by decide)), ix_nI k1, h.2.2.2.1 k q3, stF_k (fA A) q3 7 (Nat.le_refl _), if_pos q3]
        exact qc_ok (Fr.rf _ _ M) h
      · have hr : ¬ rg v1 (-1) 6 = true := fun y => by
          obtain ⟨y1, y2⟩ := rg_1.mp y
          rw [k2, nI_toInt k1] at y2
          omega
        rw [if_neg (show ¬ v1 < nI 7 by rw [k2]; exact nI_nlt (by omega) k1), if_neg hr]
        exact qc_f0 hw h
