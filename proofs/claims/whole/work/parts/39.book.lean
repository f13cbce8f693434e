/-! the reference: book and read -/
theorem yrs_s : ∀ (n : Nat) (t : St), yrs (n + 1) t = yr (yrs n t)
  | 0, _ => rfl
  | n + 1, t => yrs_s n (yr t)
def bkN (b h : Nat) (t : St) (j : Nat) : Int64 := nrw b (nI (cnH (hS (yrs j t) h))).toInt64
def o_book (v1 v2 : Int32) (A : Ab) : (Int32 × Ab) ⊕ Nat := shO v1 A (if hn v2 (tA A) then .inl (nI (nA A (ix v1)), shA A (bA A) (nA A) (un (mA A) (ix v1) (fun k => if k < nA A (ix v1) then bkN (bA A (ix v1)) (ix v2) (tA A) k else mA A (ix v1) k))) else .inr 0)
theorem p_bkL (A : Ab) (hw : WfA A) {s h : Nat} (hs : s < 4) (hh : h < nS (tA A)) (M0 : Nm) (hR0 : RA M0 A) : ∀ (n f i : Nat) (M : Nm), i + n = nA A s → n < f → (∀ c, c ≠ 87 → c ≠ 90 → c ≠ 94 → c ≠ 95 → M.1 c = M0.1 c) → (∀ c, c ≠ 92 → c ≠ 93 → c ≠ 99 → M.2.1 c = M0.2.1 c) → M.2.2 = M0.2.2 → (∀ j, (j < 40 * s ∨ 40 * s + i ≤ j) → M.2.1 99 j = M0.2.1 99 j) → (∀ j, j < i → M.2.1 99 (40 * s + j) = bkN (bA A s) h (tA A) j) → Rw (M.1 90) (tA A) → Rw (M.1 87) (yrs i (tA A)) → QA id A M0 (f_M_book_L42 (nI s) (nI h) f (nI i) M) (.inl (nI (nA A s), shA A (bA A) (nA A) (un (mA A) s (fun k => if k < nA A s then bkN (bA A s) h (tA A) k else mA A s k)))) := by
  have h6 := hw.1.1
  have h40 := (hw.2.2.2.2 s hs).2.1
  obtain ⟨g1, g2, g3⟩ := hR0.2.2.2.2.2.2 s hs
  intro n
  induction n with
  | zero =>
    intro f i M hi hf k1 k2 k3 k4 k5 k6 k7
    obtain ⟨f, rfl⟩ : ∃ g, f = g + 1 := ⟨f - 1, by omega⟩
    have e98 : M.1 98 s = nI (nA A s) := by rw [k1 98 (by decide) (by decide) (by decide) (by decide)]; exact g2
    obtain ⟨M1, a1, a2, a3, a4⟩ := p_takesBack (nI (nA A s)) M
    rw [f_M_book_L42, grd_h (inb_nI hs (by decide)), ix_nI (by omega), e98, if_pos (nI_le (by omega) (by omega)), grd_h (inb_nI hs (by decide)), a1, bnd_s]
    have kk : ∀ c, c ≠ 87 → c ≠ 90 → c ≠ 94 → c ≠ 95 → M1.1 c = M0.1 c := fun c b1 b2 b3 b4 => (a2 c b1).trans (k1 c b1 b2 b3 b4)
    obtain ⟨r1, r2, r3, r4, r5, r6, r7⟩ := hR0
    refine qa_ok ⟨fun c hc => kk c (by omega) (by omega) (by omega) (by omega), fun c hc => by rw [a3]; exact k2 c (by omega) (by omega) (by omega), by rw [a3]; exact k3⟩ ⟨Rw_c hw.1 k6 a4, fun i hi => by rw [kk 91 (by decide) (by decide) (by decide) (by decide)]; exact r2 i hi, by rw [kk 86 (by decide) (by decide) (by decide) (by decide)]; exact r3, fun q => by rw [kk 88 (by decide) (by decide) (by decide) (by decide)]; exact r4 q, by rw [kk 86 (by decide) (by decide) (by decide) (by decide)]; exact r5, fun i hi => by rw [kk 96 (by decide) (by decide) (by decide) (by decide)]; exact r6 i hi, fun u hu => ?_⟩
    obtain ⟨x1, x2, x3⟩ := r7 u hu
    rw [kk 97 (by decide) (by decide) (by decide) (by decide), kk 98 (by decide) (by decide) (by decide) (by decide), a3]
    refine ⟨x1, x2, fun k hk => ?_⟩
    show M.2.1 99 (40 * u + k) = un (mA A) s (fun k => if k < nA A s then bkN (bA A s) h (tA A) k else mA A s k) u k
    by_cases q : u = s
    · subst q
      rw [un_s]
      by_cases q2 : k < nA A u
      · rw [if_pos q2]; exact k5 k (by omega)
      · rw [if_neg q2, k4 _ (by omega)]; exact x3 k hk
    · rw [un_n q, k4 _ (by omega)]; exact x3 k hk
  | succ n ih =>
    intro f i M hi hf k1 k2 k3 k4 k5 k6 k7
    obtain ⟨f, rfl⟩ : ∃ g, f = g + 1 := ⟨f - 1, by omega⟩
    have e98 : M.1 98 s = nI (nA A s) := by rw [k1 98 (by decide) (by decide) (by decide) (by decide)]; exact g2
    have e97 : M.1 97 s = nI (bA A s) := by rw [k1 97 (by decide) (by decide) (by decide) (by decide)]; exact g1
    have hwy := wf_yrs i hw.1
    have hhy : h < nS (yrs i (tA A)) := by rw [nS_yrs]; exact hh
    obtain ⟨M1, b1, b2, b3⟩ := p_year hwy (mL M 99 (40 * s + i) (bkN (bA A s) h (tA A) i)) k7
    rw [f_M_book_L42, grd_h (inb_nI hs (by decide)), ix_nI (by omega), e98, if_neg (nI_ge (by omega) (by omega)), grd_h (inb_nI hs (by decide)), p_its3 (by omega), bnd_s, e97, (k7.2.2.2 h hhy).2.2.2.1, p_narrowed (bA_lt hw hs), bnd_s, m40, grd_h (inb_nI (by omega) (by decide)), bl_e, ix_nI (by omega), show nrw (bA A s) (nI (cnH (hS (yrs i (tA A)) h))).toInt64 = bkN (bA A s) h (tA A) i from rfl, b1, bnd_s, nI_1]
    refine ih f (i + 1) M1 (by omega) (by omega) (fun c c1 c2 c3 c4 => (b2.1 c c1 c3 c4).trans (k1 c c1 c2 c3 c4)) (fun c c1 c2 c3 => (b2.2.1 c c1 c2).trans ((mL_o c3).trans (k2 c c1 c2 c3))) (b2.2.2.trans k3) (fun j hj => ?_) (fun j hj => ?_) (by rw [b2.e90]; exact k6) (by rw [yrs_s]; exact b3)
    · rw [b2.2.1 99 (by decide) (by decide), mL_s, if_neg (by omega)]
      exact k4 j (by omega)
    · rw [b2.2.1 99 (by decide) (by decide), mL_s]
      by_cases q : j = i
      · rw [if_pos (by omega), q]
      · rw [if_neg (by omega)]; exact k5 j (by omega)
theorem q_book {A : Ab} (hw : WfA A) (v1 v2 : Int32) (M : Nm) (hR : RA M A) : QA id A M (f_M_book v1 v2 M) (o_book v1 v2 A) := by
  have e : f_M_book v1 v2 M = if wrI v1 A = 0 then (if bI (hn v2 (tA A)) = 0 then (bnd (f_M_finds (-1000000001) M) fun r M => some (r, M)) else (bnd (f_M_laysAside M) fun _ M6 => f_M_book_L42 v1 v2 FU 0 M6)) else (bnd (f_M_finds (wrI v1 A) M) fun r11 M12 => some (r11, M12)) := by
    unfold f_M_book
    rw [p_wrong hw v1 M hR, bnd_s, p_isHand hw.1 v2 M hR.1.1, bnd_s]
    unfold f_M_book_B24
    by_cases q : wrI v1 A = 0
    · rw [if_pos q, if_pos q, q]
      by_cases q2 : bI (hn v2 (tA A)) = 0
      · rw [if_pos q2, if_pos q2, if_neg (by decide), if_pos rfl]
      · rw [if_neg q2, if_neg q2, if_pos rfl]
    · rw [if_neg q, if_neg q, if_neg q]
  rw [e]
  unfold o_book
  refine q_shO (cv := id) v1 hR (fun s hs e1 e2 e3 => ?_)
  have h40 := (hw.2.2.2.2 s hs).2.1
  by_cases q : hn v2 (tA A) = true
  · obtain ⟨h, h1, h2, h3⟩ := hn_of q
    obtain ⟨M1, a1, a2, a3, a4⟩ := p_laysAside M
    rw [if_neg (bI_t q), if_pos q, e2, h3, e1, h2, a1, bnd_s]
    exact p_bkL A hw hs h1 M hR (nA A s) FU 0 M1 (by omega) (FU_gt (by omega)) (fun c _ b _ _ => a2 c b) (fun c _ _ _ => by rw [a3]) (by rw [a3]) (fun j _ => by rw [a3]) (fun j hj => by omega) (Rw_c hw.1 hR.1 a4) (by rw [a2 87 (by decide)]; exact hR.1)
  · rw [if_pos (bI_f (nf q)), if_neg q]
    exact qa_fd (cv := id) hR (by decide) (by decide)
def bkF (m : Nat → Int64) (h : Nat) : Nat → Nat → St → Bool
  | 0, _, _ => true
  | n + 1, i, t => if m i = (nI (cnH (hS t h))).toInt64 then bkF m h n (i + 1) (yr t) else false
theorem bkF_s (m : Nat → Int64) (h n i : Nat) (t : St) : bkF m h (n + 1) i t = if m i = (nI (cnH (hS t h))).toInt64 then bkF m h n (i + 1) (yr t) else false := rfl
theorem p_ibL {s h z : Nat} (hs : s < 4) (hz : z ≤ 40) (m : Nat → Int64) : ∀ (n f i : Nat) (t : St) (M : Nm), Wf t → h < nS t → Rw (M.1 87) t → M.1 98 s = nI z → (∀ k, k < 40 → M.2.1 99 (40 * s + k) = m k) → i + n = z → n < f → ∃ M', f_M_isBook_L2 (nI s) (nI h) f (nI i) M = some (bI (bkF m h n i t), M') ∧ Sd M M' := by
  intro n
  induction n with
  | zero =>
    intro f i t M hw hh hR h98 h99 hi hf
    obtain ⟨f, rfl⟩ : ∃ g, f = g + 1 := ⟨f - 1, by omega⟩
    exact ⟨M, by rw [f_M_isBook_L2, grd_h (inb_nI hs (by decide)), ix_nI (by omega), h98, if_pos (nI_le (by omega) (by omega))]; rfl, Sd.rf M⟩
  | succ n ih =>
    intro f i t M hw hh hR h98 h99 hi hf
    obtain ⟨f, rfl⟩ : ∃ g, f = g + 1 := ⟨f - 1, by omega⟩
    have h6 := hw.1
    rw [f_M_isBook_L2, grd_h (inb_nI hs (by decide)), ix_nI (by omega), h98, if_neg (nI_ge (by omega) (by omega)), m40, grd_h (inb_nI (by omega) (by decide)), p_its3 (by omega), bnd_s, ix_nI (by omega), h99 i (by omega), (hR.2.2.2 h hh).2.2.2.1, bkF_s]
    by_cases q : m i = (nI (cnH (hS t h))).toInt64
    · obtain ⟨M1, a1, a2, a3⟩ := p_year hw M hR
      obtain ⟨M2, b1, b2⟩ := ih f (i + 1) (yr t) M1 (wf_yr hw) hh a3 (by rw [a2.1 98 (by decide) (by decide) (by decide)]; exact h98) (fun k hk => by rw [a2.2.1 99 (by decide) (by decide)]; exact h99 k hk) (by omega) (by omega)
      refine ⟨M2, ?_, Sd.tr a2 b2⟩
      rw [if_pos (lg0.mpr q), if_pos q, a1, bnd_s, nI_1]
      exact b1
    · refine ⟨M, ?_, Sd.rf M⟩
      rw [if_neg (fun z => q (lg0.mp z)), if_neg q]
      rfl
theorem dv_all : ∀ i, i < 288 → (nI i / 48 = nI (i / 48) ∧ nI i - nI i / 48 * 48 = nI (i % 48)) := by decide +kernel
def rdP (A : Ab) (s h : Nat) (i : Nat) : Bool := bkF (mA A s) h (nA A s) 0 (upH (tA A) h (sat (skd (hS (tA A) h) (i / 48)) (i % 48)))
def o_read (v1 v2 : Int32) (A : Ab) : (Int32 × Ab) ⊕ Nat := shO v1 A (if hn v2 (tA A) then .inl (nI (fb_ct (rdP A (ix v1) (ix v2)) 288), A) else .inr 0)
theorem p_rdL (A : Ab) (hw : WfA A) {s h : Nat} (hs : s < 4) (hh : h < nS (tA A)) (M0 : Nm) (hR0 : RA M0 A) : ∀ (n f i : Nat) (M : Nm), i + n = 288 → n < f → Fm M0 M → M.1 91 = M0.1 91 → Rw (M.1 90) (tA A) → Rw (M.1 87) (tA A) → QA id A M0 (f_M_read_L45 (nI s) (nI h) f (nI (fb_ct (rdP A s h) i)) (nI i) M) (.inl (nI (fb_ct (rdP A s h) 288), A)) := by
  have h6 := hw.1.1
  have h40 := (hw.2.2.2.2 s hs).2.1
  have hx := hw.1.2.2 h hh
  obtain ⟨g1, g2, g3⟩ := hR0.2.2.2.2.2.2 s hs
  intro n
  induction n with
  | zero =>
    intro f i M hi hf hF h91 ha hR
    obtain ⟨f, rfl⟩ : ∃ g, f = g + 1 := ⟨f - 1, by omega⟩
    have : i = 288 := by omega
    subst this
    rw [f_M_read_L45, if_pos (by decide)]
    exact qa_ok hF.fk (hR0.m hF h91 hR)
  | succ n ih =>
    intro f i M hi hf hF h91 ha hR
    obtain ⟨f, rfl⟩ : ∃ g, f = g + 1 := ⟨f - 1, by omega⟩
    obtain ⟨d1, d2⟩ := dv_all i (by omega)
    have hd : i / 48 < 6 := by omega
    have hm : i % 48 < 48 := by omega
    have r := hR.2.2.2 h hh
    have hw1 : Wf (upH (tA A) h (sat (skd (hS (tA A) h) (i / 48)) (i % 48))) := Wf.up hw.1 (WfH.sat (WfH.skd hx hd) hm)
    have hR1 : Rw ((mI (mI M 87 (50 + 21 * h + 0) (nI (i / 48))) 87 (50 + 21 * h + 1) (nI (i % 48))).1 87) (upH (tA A) h (sat (skd (hS (tA A) h) (i / 48)) (i % 48))) := by
      rw [mI_u, mI_u]
      exact Rw_h hw.1 hR (fun j hj => by rw [uw_n (by omega), uw_n (by omega)]) (RwH.sat (RwH.skd r (i / 48)) (i % 48))
    obtain ⟨M1, a1, a2⟩ := p_ibL (s := s) (h := h) (z := nA A s) hs h40 (mA A s) (nA A s) FU 0 _ (mI (mI M 87 (50 + 21 * h + 0) (nI (i / 48))) 87 (50 + 21 * h + 1) (nI (i % 48))) hw1 hh hR1 (by rw [mI_o (by decide), mI_o (by decide), hF.1 98 (by decide) (by decide) (by decide) (by decide) (by decide)]; exact g2) (fun k hk => by rw [mI_L, mI_L, hF.2.1 99 (by decide) (by decide)]; exact g3 k hk) (by omega) (FU_gt (by omega))
    have a1' : f_M_isBook (nI s) (nI h) (mI (mI M 87 (50 + 21 * h + 0) (nI (i / 48))) 87 (50 + 21 * h + 1) (nI (i % 48))) = some (bI (rdP A s h i), M1) := a1
    have hk2 : Rw (M1.1 90) (tA A) := by rw [a2.e90, mI_o (by decide), mI_o (by decide)]; exact ha
    have hF1 : Fm M0 M1 := Fm.tr hF (Fm.tr Sd.p.fm (Fm.tr Sd.p.fm a2.fm))
    have h911 : M1.1 91 = M0.1 91 := by rw [a2.e91, mI_o (by decide), mI_o (by decide), h91]
    rw [f_M_read_L45, if_neg (show ¬ (288 : Int32) ≤ nI i from nI_ge (b := 288) (by omega) (by decide)), show ∀ M, f_M_spot (nI h) 0 M = some (nI (50 + 21 * h + 0), M) from fun M => p_spot h 0 M, bnd_s, grd_h (inb_nI (by omega) (by decide)), bl_e, show ∀ M, f_M_spot (nI h) 1 M = some (nI (50 + 21 * h + 1), M) from fun M => p_spot h 1 M, bnd_s, grd_h (inb_nI (by omega) (by decide)), bl_e, ix_nI (by omega), ix_nI (by omega), d2, d1, a1', bnd_s]
    have nx : ∀ v : Int32, v = nI (fb_ct (rdP A s h) (i + 1)) → QA id A M0 (bnd (f_M_takesBack v M1) fun r15 M16 => f_M_read_L45 (nI s) (nI h) f r15 (nI i + 1) M16) (.inl (nI (fb_ct (rdP A s h) 288), A)) := by
      intro v hv
      obtain ⟨M2, c1, c2, c3, c4⟩ := p_takesBack v M1
      have hF2 : Fm M1 M2 := ⟨fun c q _ _ _ _ => c2 c q, fun c _ _ => by rw [c3], by rw [c3]⟩
      rw [c1, bnd_s, hv, nI_1]
      exact ih f (i + 1) M2 (by omega) (by omega) (Fm.tr hF1 hF2) (by rw [c2 91 (by decide)]; exact h911) (by rw [c2 90 (by decide)]; exact hk2) (Rw_c hw.1 hk2 c4)
    by_cases q : rdP A s h i = true
    · rw [if_neg (bI_t q)]
      exact nx _ (by rw [fb_ct_succ, if_pos q, nI_1])
    · rw [if_pos (bI_f (nf q))]
      exact nx _ (by rw [fb_ct_succ, if_neg q]; exact nI_add _ 0)
theorem q_read {A : Ab} (hw : WfA A) (v1 v2 : Int32) (M : Nm) (hR : RA M A) : QA id A M (f_M_read v1 v2 M) (o_read v1 v2 A) := by
  have e : f_M_read v1 v2 M = if wrI v1 A = 0 then (if bI (hn v2 (tA A)) = 0 then (bnd (f_M_finds (-1000000001) M) fun r M => some (r, M)) else (bnd (f_M_laysAside M) fun _ M6 => f_M_read_L45 v1 v2 FU 0 0 M6)) else (bnd (f_M_finds (wrI v1 A) M) fun r11 M12 => some (r11, M12)) := by
    unfold f_M_read
    rw [p_wrong hw v1 M hR, bnd_s, p_isHand hw.1 v2 M hR.1.1, bnd_s]
    unfold f_M_read_B24
    by_cases q : wrI v1 A = 0
    · rw [if_pos q, if_pos q, q]
      by_cases q2 : bI (hn v2 (tA A)) = 0
      · rw [if_pos q2, if_pos q2, if_neg (by decide), if_pos rfl]
      · rw [if_neg q2, if_neg q2, if_pos rfl]
    · rw [if_neg q, if_neg q, if_neg q]
  rw [e]
  unfold o_read
  refine q_shO (cv := id) v1 hR (fun s hs e1 e2 e3 => ?_)
  by_cases q : hn v2 (tA A) = true
  · obtain ⟨h, h1, h2, h3⟩ := hn_of q
    obtain ⟨M1, a1, a2, a3, a4, a5⟩ := p_lay hw.1 M hR.1
    rw [if_neg (bI_t q), if_pos q, e2, h3, e1, h2, a1, bnd_s]
    exact p_rdL A hw hs h1 M hR 288 FU 0 M1 rfl (FU_gt (by decide)) a2 a3 a5 a4
  · rw [if_pos (bI_f (nf q)), if_neg q]
    exact qa_fd (cv := id) hR (by decide) (by decide)
