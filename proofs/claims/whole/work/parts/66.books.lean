/-! the class: ink laid, corn booked and read -/
theorem mnN_s {a b i : Nat} (h1 : i < a) (h2 : i < b) : mnN a b - i = (mnN a b - (i + 1)) + 1 := by unfold mnN; split <;> omega
theorem mnN_0 {a b i : Nat} (h2 : b ≤ i) : mnN a b - i = 0 ∧ mnN a b - (i + 1) = 0 := by unfold mnN; split <;> omega
theorem p_laL {A : Ab} (hw : WfA A) {M0 : Nm} (hA : CA M0 A) {s : Nat} (hs : s < 4) : ∀ (n f i : Nat) (p : St × Nat) (M : Nm), Wf p.1 → nS p.1 = nS (tA A) → LandR 8 M p.1 → Fr 8 30 M0 M → i + n = nA A s → n < f → QC id A M0 (f_P_lays_L37 (77 + 2 * s) f (nI p.2) (nI i) M) (.inl (nI (lyF (mA A s) (mnN (nA A s) (nS (tA A)) - i) i p).2, stA A (lyF (mA A s) (mnN (nA A s) (nS (tA A)) - i) i p).1)) := by
  have h6 := hw.1.1
  have h40 := (hw.2.2.2.2 s hs).2.1
  obtain ⟨d1, d2, d3⟩ := hA.2.2.2.2.2.2.1 s hs
  intro n
  induction n with
  | zero =>
    intro f i p M hp hn0 hl hF hi hf
    obtain ⟨f, rfl⟩ : ∃ g, f = g + 1 := ⟨f - 1, by omega⟩
    have e : mnN (nA A s) (nS (tA A)) - i = 0 := by unfold mnN; split <;> omega
    rw [f_P_lays_L37, (hF (77 + 2 * s) (by omega)).1, d2, if_pos (nI_le (by omega) (by omega)), e]
    exact qc_ok (hF.w (by omega) (by omega)) (hA.t8 hw hF hl)
  | succ n ih =>
    intro f i p M hp hn0 hl hF hi hf
    obtain ⟨f, rfl⟩ : ∃ g, f = g + 1 := ⟨f - 1, by omega⟩
    rw [f_P_lays_L37, (hF (77 + 2 * s) (by omega)).1, d2, if_neg (nI_ge (by omega) (by omega)), p_handOf hp hl, bnd_s, nI_1, nI_1]
    by_cases e : i < nS (tA A)
    · have e1 : hn (nI i) p.1 = true := by rw [hn_nI (by omega), hn0]; exact decide_eq_true e
      rw [if_pos (show hn (nI i) p.1 = true from e1), ifn_s, ix_nI (by omega), grd_h (isb_ho is8 (by omega)), grd_h (inb_nI (by omega) (by decide)), (hF (77 + 2 * s + 1) (by omega)).2.1, d3 i (by omega), mnN_s (by omega) e, lyF_s]
      by_cases q : inkL (mA A s i) = true
      · obtain ⟨v, v1, v2, v3⟩ := inkL_of q
        have q' := q
        simp only [inkL, Bool.and_eq_true, decide_eq_true_eq] at q'
        rw [if_neg (fun z => absurd (lgl.mp z) (Int64.not_lt.mpr q'.1)), if_neg (fun z => absurd (lgg.mp z) (Int64.not_lt.mpr q'.2)), if_pos (show inkL (mA A s i) = true from q), bl_e, v3, v2]
        have hr := hl.2.2.2.1 i (by omega)
        have hF2 : Fr (ho 8 i) (ho 8 i + 3) M (mI M (ho 8 i) 2 (nI v)) := Fr.i (Nat.le_refl _) (by omega)
        exact ih f (i + 1) (upH p.1 i (sik (hS p.1 i) v), p.2 + 1) _ (hp.up ((hp.2.2 i (by omega)).sik v1)) hn0 (hl.up hF2 (p_setInk hr v)) (Fr.tr hF (Fr.hd (d := 8) (h := i) (by omega) hF2)) (by omega) (by omega)
      · rw [if_neg (show ¬ inkL (mA A s i) = true from q)]
        have key := ih f (i + 1) p M hp hn0 hl hF (by omega) (by omega)
        by_cases q1 : mA A s i < 0
        · rw [if_pos (lgl.mpr q1)]; exact key
        · rw [if_neg (fun z => q1 (lgl.mp z))]
          have q2 : 999 < mA A s i := by
            apply Classical.byContradiction
            intro z
            apply q
            simp only [inkL, Bool.and_eq_true, decide_eq_true_eq]
            exact ⟨Int64.not_lt.mp q1, Int64.not_lt.mp z⟩
          rw [if_pos (lgg.mpr q2)]; exact key
    · have e1 : ¬ hn (nI i) p.1 = true := by rw [hn_nI (by omega), hn0]; simpa using e
      obtain ⟨z1, z2⟩ := mnN_0 (a := nA A s) (show nS (tA A) ≤ i by omega)
      have key := ih f (i + 1) p M hp hn0 hl hF (by omega) (by omega)
      rw [z2] at key
      rw [if_neg (show ¬ hn (nI i) p.1 = true from e1), ifn_n, grd_h (inb_nI (by omega) (by decide)), z1]
      exact key
theorem k_lays {A : Ab} (hw : WfA A) (v1 : Int32) (M : Nm) (h : CA M A) : QC id A M (f_P_lays v1 M) (o_lays v1 A) := by
  unfold f_P_lays o_lays
  refine k_shO (cv := id) hw v1 h (fun s hs s2 s3 hb => ?_)
  have h40 := (hw.2.2.2.2 s hs).2.1
  rw [s3]
  exact p_laL hw h hs (nA A s) FU 0 (tA A, 0) M hw.1 rfl h.1 (Fr.rf _ _ M) (by omega) (FU_gt (by omega))
/-! corn booked -/
def bkA (A : Ab) (s h i : Nat) : Ab := shA A (bA A) (nA A) (un (mA A) s (fun k => if k < i then bkN (bA A s) h (tA A) k else mA A s k))
theorem bkA_0 (A : Ab) (s h : Nat) : bkA A s h 0 = A := by
  have e : (fun k => if k < 0 then bkN (bA A s) h (tA A) k else mA A s k) = mA A s := funext fun k => if_neg (Nat.not_lt_zero k)
  unfold bkA
  rw [e, un_id]
  rfl
theorem bkA_s (A : Ab) (s h i : Nat) : shA (bkA A s h i) (bA (bkA A s h i)) (nA (bkA A s h i)) (un (mA (bkA A s h i)) s (un (mA (bkA A s h i) s) i (bkN (bA A s) h (tA A) i))) = bkA A s h (i + 1) := by
  have e : un (mA (bkA A s h i)) s (un (mA (bkA A s h i) s) i (bkN (bA A s) h (tA A) i)) = un (mA A) s (fun k => if k < i + 1 then bkN (bA A s) h (tA A) k else mA A s k) := by
    funext u
    by_cases q : u = s
    · subst q
      rw [un_s, un_s]
      funext k
      have hm : mA (bkA A u h i) u = fun k => if k < i then bkN (bA A u) h (tA A) k else mA A u k := un_s _ _ _
      by_cases q2 : k = i
      · rw [q2, un_s, if_pos (Nat.lt_succ_self i)]
      · rw [un_n q2, hm]
        dsimp only
        by_cases q3 : k < i
        · rw [if_pos q3, if_pos (by omega)]
        · rw [if_neg q3, if_neg (by omega)]
    · rw [un_n q, un_n q]
      exact un_n q
  rw [e]
  rfl
theorem p_boL {A : Ab} (hw : WfA A) {M0 : Nm} {s j : Nat} (hs : s < 4) (hj : j < nS (tA A)) : ∀ (n f i : Nat) (M : Nm), CA M (bkA A s j i) → LandR 30 M (yrs i (tA A)) → Fr 0 86 M0 M → i + n = nA A s → n < f → QC id A M0 (f_P_book_L54 (77 + 2 * s) (ho 30 j) f (nI i) M) (.inl (nI (nA A s), bkA A s j (nA A s))) := by
  have h40 := (hw.2.2.2.2 s hs).2.1
  intro n
  induction n with
  | zero =>
    intro f i M hA hl hF hi hf
    obtain ⟨f, rfl⟩ : ∃ g, f = g + 1 := ⟨f - 1, by omega⟩
    obtain ⟨d1, d2, d3⟩ := hA.2.2.2.2.2.2.1 s hs
    have d2' : M.1 (77 + 2 * s) 1 = nI (nA A s) := d2
    have e : i = nA A s := by omega
    rw [f_P_book_L54, d2', if_pos (nI_le (by omega) (by omega))]
    rw [e] at hA
    exact qc_ok hF hA
  | succ n ih =>
    intro f i M hA hl hF hi hf
    obtain ⟨f, rfl⟩ : ∃ g, f = g + 1 := ⟨f - 1, by omega⟩
    obtain ⟨d1, d2, d3⟩ := hA.2.2.2.2.2.2.1 s hs
    have d1' : M.1 (77 + 2 * s) 0 = nI (bA A s) := d1
    have d2' : M.1 (77 + 2 * s) 1 = nI (nA A s) := d2
    have hwi : WfA (bkA A s j i) := hw
    have hr := hl.2.2.2.1 j (by rw [nS_yrs]; exact hj)
    have hA1 := hA.w1 hwi hs (k := i) (bkN (bA A s) j (tA A) i)
    rw [bkA_s] at hA1
    have hFw : Fr (77 + 2 * s + 1) (77 + 2 * s + 2) M (mL M (77 + 2 * s + 1) i (bkN (bA A s) j (tA A) i)) := Fr.l (Nat.le_refl _) (by omega)
    have hl1 := hl.r (by rw [nS_yrs]; exact hw.1.1) hFw (by omega)
    obtain ⟨M1, a1, a2, a3⟩ := p_LgoYear (wf_yrs i hw.1) hl1
    have hwi1 : WfA (bkA A s j (i + 1)) := hw
    have hA2 := hA1.t30 hwi1 a2 a3.ca
    rw [← yrs_s] at a3
    rw [f_P_book_L54, d2', if_neg (nI_ge (by omega) (by omega)), hr.1.2.2.2.1, p_put d1' (bA_lt hw hs) d2' (by omega) h40, bnd_s, nI_1]
    rw [show mL M (77 + 2 * s + 1) i (nrw (bA A s) (nI (cnH (hS (yrs i (tA A)) j))).toInt64) = mL M (77 + 2 * s + 1) i (bkN (bA A s) j (tA A) i) from rfl, a1, bnd_s]
    exact ih f (i + 1) M1 hA2 a3 (Fr.tr hF (Fr.tr (hFw.w (by omega) (by omega)) (a2.w (by omega) (by omega)))) (by omega) (by omega)
theorem k_book {A : Ab} (hw : WfA A) (v1 v2 : Int32) (M : Nm) (h : CA M A) : QC id A M (f_P_book v1 v2 M) (o_book v1 v2 A) := by
  have h6 := hw.1.1
  unfold f_P_book o_book
  refine k_shO (cv := id) hw v1 h (fun s hs s2 s3 hb => ?_)
  have h40 := (hw.2.2.2.2 s hs).2.1
  rw [s3]
  by_cases e1 : hn v2 (tA A) = true
  · obtain ⟨j, j1, j2, j3⟩ := hn_of e1
    obtain ⟨M1, a1, a2, a3⟩ := p_onTrial hw h j1 j2
    rw [a1, bnd_s, ifn_s, grd_h (isb_ho is30 (by omega)), if_pos (show hn v2 (tA A) = true from e1), j3]
    exact p_boL hw hs j1 (nA A s) FU 0 M1 (by rw [bkA_0]; exact h.t30 hw a2 a3.ca) a3 (a2.w (by omega) (by omega)) (by omega) (FU_gt (by omega))
  · rw [p_onTrialN hw h e1, bnd_s, ifn_n, if_neg (show ¬ hn v2 (tA A) = true from e1)]
    exact qc_f0 hw h
/-! corn read -/
theorem p_teL {A : Ab} (hw : WfA A) {s j : Nat} (hs : s < 4) : ∀ (n f i : Nat) (t : St) (M : Nm), Wf t → j < nS t → CA M A → LandR 30 M t → i + n = nA A s → n < f → ∃ M', f_P_tells_L30 (77 + 2 * s) (ho 30 j) f (nI i) M = some (bI (bkF (mA A s) j n i t), M') ∧ Fr 30 52 M M' ∧ CA M' A := by
  have h40 := (hw.2.2.2.2 s hs).2.1
  intro n
  induction n with
  | zero =>
    intro f i t M ht hj hA hl hi hf
    obtain ⟨f, rfl⟩ : ∃ g, f = g + 1 := ⟨f - 1, by omega⟩
    obtain ⟨d1, d2, d3⟩ := hA.2.2.2.2.2.2.1 s hs
    refine ⟨M, ?_, Fr.rf _ _ M, hA⟩
    rw [f_P_tells_L30, d2, if_pos (nI_le (by omega) (by omega))]
    rfl
  | succ n ih =>
    intro f i t M ht hj hA hl hi hf
    obtain ⟨f, rfl⟩ : ∃ g, f = g + 1 := ⟨f - 1, by omega⟩
    obtain ⟨d1, d2, d3⟩ := hA.2.2.2.2.2.2.1 s hs
    rw [f_P_tells_L30, d2, if_neg (nI_ge (by omega) (by omega)), grd_h (inb_nI (by omega) (by decide)), ix_nI (by omega), d3 i (by omega), (hl.2.2.2.1 j hj).1.2.2.2.1, bkF_s, nI_1]
    by_cases q : mA A s i = (nI (cnH (hS t j))).toInt64
    · obtain ⟨M1, a1, a2, a3⟩ := p_LgoYear ht hl
      obtain ⟨M2, b1, b2, b3⟩ := ih f (i + 1) (yr t) M1 (wf_yr ht) hj (hA.t30 hw a2 a3.ca) a3 (by omega) (by omega)
      refine ⟨M2, ?_, Fr.tr a2 b2, b3⟩
      rw [if_pos (lg0.mpr q), if_pos q, a1, bnd_s]
      exact b1
    · refine ⟨M, ?_, Fr.rf _ _ M, hA⟩
      rw [if_neg (fun y => q (lg0.mp y)), if_neg q]
      rfl
theorem p_tells {A : Ab} (hw : WfA A) {s j k c : Nat} (hs : s < 4) (hj : j < nS (tA A)) (hk : k < 6) (hc : c < 48) {M : Nm} (h : CA M A) : ∃ M', f_P_tells (77 + 2 * s) (nI j) (kc k) (nI c) M = some (bI (rdP A s j (48 * k + c)), M') ∧ Fr 30 52 M M' ∧ CA M' A := by
  have h6 := hw.1.1
  have h40 := (hw.2.2.2.2 s hs).2.1
  have hx := hw.1.2.2 j hj
  obtain ⟨M1, a1, a2, a3⟩ := p_onTrial hw h hj rfl
  have hr := a3.2.2.2.1 j hj
  have hFk : Fr (ho 30 j) (ho 30 j + 3) M1 (mK M1 (ho 30 j) (kc k)) := Fr.k (Nat.le_refl _) (by omega)
  obtain ⟨M2, b1, b2, b3⟩ := p_moveTo (hx.skd hk) (hr.1.kd k) hr.2.2.2 hc
  have hF2 := Fr.tr hFk b2
  have hl2 := a3.up hF2 b3
  have hF3 := Fr.tr a2 (Fr.hd (d := 30) (h := j) (by omega) hF2)
  have hA2 := h.t30 hw hF3 hl2.ca
  have hwu : Wf (upH (tA A) j (sat (skd (hS (tA A) j) k) c)) := hw.1.up ((hx.skd hk).sat hc)
  obtain ⟨M3, c1, c2, c3⟩ := p_teL hw hs (j := j) (nA A s) FU 0 _ M2 hwu hj hA2 hl2 (by omega) (FU_gt (by omega))
  refine ⟨M3, ?_, Fr.tr hF3 c2, c3⟩
  have e1 : (48 * k + c) / 48 = k := by omega
  have e2 : (48 * k + c) % 48 = c := by omega
  unfold f_P_tells rdP
  rw [a1, bnd_s, ifn_s, grd_h (isb_ho is30 (by omega)), bl_e, b1, bnd_s, e1, e2]
  exact c1
theorem p_r69 (kk : Int32 → Nm → Option (Int32 × Nm)) {A : Ab} (hw : WfA A) {s j k : Nat} (hs : s < 4) (hj : j < nS (tA A)) (hk : k < 6) : ∀ (n f c : Nat) (M : Nm), CA M A → c + n = 48 → n < f → ∃ M', f_P_read_L69 kk (nI j) (77 + 2 * s) (nI k) f (nI (fb_ct (rdP A s j) (48 * k + c))) (nI c) M = kk (nI (fb_ct (rdP A s j) (48 * (k + 1)))) M' ∧ Fr 30 52 M M' ∧ CA M' A := by
  intro n
  induction n with
  | zero =>
    intro f c M hA hi hf
    obtain ⟨f, rfl⟩ : ∃ g, f = g + 1 := ⟨f - 1, by omega⟩
    have e : c = 48 := by omega
    subst e
    refine ⟨M, ?_, Fr.rf _ _ M, hA⟩
    rw [f_P_read_L69, if_pos (by decide), show 48 * k + 48 = 48 * (k + 1) by omega]
  | succ n ih =>
    intro f c M hA hi hf
    obtain ⟨f, rfl⟩ : ∃ g, f = g + 1 := ⟨f - 1, by omega⟩
    obtain ⟨M1, a1, a2, a3⟩ := p_tells hw hs hj hk (c := c) (by omega) hA
    obtain ⟨M2, b1, b2, b3⟩ := ih f (c + 1) M1 a3 (by omega) (by omega)
    refine ⟨M2, ?_, Fr.tr a2 b2, b3⟩
    rw [f_P_read_L69, if_neg (show ¬ (48 : Int32) ≤ nI c from nI_ge (b := 48) (by omega) (by decide)), grd_h (inb_nI (by omega) (by decide)), knd_k hk, a1, bnd_s, nI_1, nI_1]
    rw [show 48 * k + (c + 1) = 48 * k + c + 1 by omega, fb_ct_succ] at b1
    by_cases q : rdP A s j (48 * k + c) = true
    · rw [if_pos q] at b1
      rw [if_neg (bI_t q)]; exact b1
    · rw [if_neg q, Nat.add_zero] at b1
      rw [if_pos (bI_f (nf q))]; exact b1
theorem p_r56 {A : Ab} (hw : WfA A) {s j : Nat} (hs : s < 4) (hj : j < nS (tA A)) : ∀ (n f k : Nat) (M : Nm), CA M A → k + n = 6 → n < f → ∃ M', f_P_read_L56 (nI j) (77 + 2 * s) f (nI (fb_ct (rdP A s j) (48 * k))) (nI k) M = some (nI (fb_ct (rdP A s j) 288), M') ∧ Fr 30 52 M M' ∧ CA M' A := by
  intro n
  induction n with
  | zero =>
    intro f k M hA hi hf
    obtain ⟨f, rfl⟩ : ∃ g, f = g + 1 := ⟨f - 1, by omega⟩
    have e : k = 6 := by omega
    subst e
    exact ⟨M, by rw [f_P_read_L56, if_pos (nI_le (Nat.le_refl _) (by decide))], Fr.rf _ _ M, hA⟩
  | succ n ih =>
    intro f k M hA hi hf
    obtain ⟨f, rfl⟩ : ∃ g, f = g + 1 := ⟨f - 1, by omega⟩
    obtain ⟨M1, a1, a2, a3⟩ := p_r69 (fun y19 M18 => f_P_read_L56 (nI j) (77 + 2 * s) f y19 (nI k + 1) M18) hw hs hj (k := k) (by omega) 48 FU 0 M hA rfl (FU_gt (by decide))
    obtain ⟨M2, b1, b2, b3⟩ := ih f (k + 1) M1 a3 (by omega) (by omega)
    refine ⟨M2, ?_, Fr.tr a2 b2, b3⟩
    rw [f_P_read_L56, if_neg (nI_ge (by omega) (by decide))]
    refine Eq.trans a1 ?_
    rw [nI_1]
    exact b1
theorem k_read {A : Ab} (hw : WfA A) (v1 v2 : Int32) (M : Nm) (h : CA M A) : QC id A M (f_P_read v1 v2 M) (o_read v1 v2 A) := by
  have h6 := hw.1.1
  unfold f_P_read o_read
  refine k_shO (cv := id) hw v1 h (fun s hs s2 s3 hb => ?_)
  rw [s3, p_handOf hw.1 h.1, bnd_s]
  by_cases e1 : hn v2 (tA A) = true
  · obtain ⟨j, j1, j2, j3⟩ := hn_of e1
    rw [if_pos (show hn v2 (tA A) = true from e1), ifn_s, if_pos (show hn v2 (tA A) = true from e1), j3, grd_h (isb_ho is8 (by omega)), j2]
    obtain ⟨M1, a1, a2, a3⟩ := p_r56 hw hs j1 6 FU 0 M h rfl (FU_gt (by decide))
    exact ⟨M1, a1, a2.w (by omega) (by omega), a3⟩
  · rw [if_neg (show ¬ hn v2 (tA A) = true from e1), ifn_n, if_neg (show ¬ hn v2 (tA A) = true from e1)]
    exact qc_f0 hw h
