/-! the class: what is tried ahead -/
theorem p_onTrial {A : Ab} (hw : WfA A) {M : Nm} (h : CA M A) {v1 : Int32} {j : Nat} (j1 : j < nS (tA A)) (j2 : v1 = nI j) : ∃ M', f_P_onTrial v1 M = some (some (ho 30 j), M') ∧ Fr 30 52 M M' ∧ LandR 30 M' (tA A) := by
  have h6 := hw.1.1
  obtain ⟨M1, a1, a2, a3⟩ := p_LtakeFrom (d := 30) (e := 8) (by omega) hw.1 h.2.1 h.1
  have e1 : hn v1 (tA A) = true := by rw [j2, hn_nI (by omega)]; exact decide_eq_true j1
  have j3 : ix v1 = j := by rw [j2, ix_nI (by omega)]
  unfold f_P_onTrial
  rw [p_handOf hw.1 h.1, bnd_s, if_pos e1, ifn_s, j3, grd_h (isb_ho is8 (by omega)), a1, bnd_s, p_handOf hw.1 a3, bnd_s, if_pos e1, ifn_s, j3, grd_h (isb_ho is30 (by omega))]
  exact ⟨M1, rfl, a2, a3⟩
theorem p_onTrialN {A : Ab} (hw : WfA A) {M : Nm} (h : CA M A) {v1 : Int32} (e1 : ¬ hn v1 (tA A) = true) : f_P_onTrial v1 M = some (none, M) := by
  unfold f_P_onTrial
  rw [p_handOf hw.1 h.1, bnd_s, if_neg e1, ifn_n]
theorem qc_30 {α : Type} {cv : Int32 → α} {A : Ab} (hw : WfA A) {M M1 : Nm} {a : α} (h : CA M A) (hf : Fr 30 52 M M1) {t : St} (hl : LandR 30 M1 t) : QC cv A M (some (a, M1)) (lfA A (.inl (a, tA A))) := ⟨M1, rfl, hf.w (by omega) (by omega), h.t30 hw hf hl.ca⟩
theorem qc_f30 {α : Type} {cv : Int32 → α} {A : Ab} (hw : WfA A) {M M1 : Nm} (h : CA M A) (hf : Fr 30 52 M M1) {t : St} (hl : LandR 30 M1 t) {i : Nat} (hi : i < 7) {v : Int32} (hv : v = fW i) : QC cv A M (bnd (f_P_finding v M1) fun r3 M4 => some (cv r3, M4)) (lfA A (.inr i)) := qc_fd hw (hf.w (by omega) (by omega)) (h.t30 hw hf hl.ca) hi hv
theorem k_on {A : Ab} (hw : WfA A) (v1 v2 v3 : Int32) (M : Nm) (h : CA M A) : QC id A M (f_P_on v1 v2 v3 M) (lfA A (o_on v1 v2 v3 (tA A))) := by
  have h6 := hw.1.1
  unfold f_P_on o_on
  by_cases e1 : hn v1 (tA A) = true
  · obtain ⟨j, j1, j2, j3⟩ := hn_of e1
    obtain ⟨M1, a1, a2, a3⟩ := p_onTrial hw h j1 j2
    rw [a1, bnd_s, ifn_s, grd_h (isb_ho is30 (by omega)), p_P_isYearsOn, bnd_s]
    by_cases e2 : rg v2 0 60 = true
    · rw [if_neg (bI_t e2), p_within, bnd_s]
      show QC id A M (if bI (rg v3 0 2) = 0 then _ else _) _
      by_cases e3 : rg v3 0 2 = true
      · obtain ⟨n, n1, n2, n3⟩ := rgN (n := 60) (by decide) e2
        obtain ⟨M2, b1, b2, b3⟩ := p_goYears (n := n) (by omega) hw.1 a3
        have hF := Fr.tr a2 b2
        have hr := b3.2.2.2.1 j (by rw [nS_yrs]; exact j1)
        rw [if_neg (bI_t e3), if_pos (show (hn v1 (tA A) && (rg v2 0 60 && rg v3 0 2)) = true by simp [e1, e2, e3]), n3, n2, b1, bnd_s, j3]
        obtain ⟨w, w1, w2, w3⟩ := rgN (n := 2) (by decide) e3
        have hw4 : w = 0 ∨ w = 1 ∨ w = 2 := by omega
        rw [w2]
        rcases hw4 with q | q | q <;> subst q
        · rw [if_pos (by decide), if_neg (by decide), if_pos (by decide), hr.1.2.2.1]
          exact qc_30 hw h hF b3
        · rw [if_neg (by decide), if_pos (by decide), if_neg (by decide), if_neg (by decide), hr.1.2.2.2.1]
          exact qc_30 hw h hF b3
        · obtain ⟨M3, c1, c2, c3⟩ := p_howManyOwnedBy is30 (wf_yrs n hw.1) b3 (k := j) (by rw [nS_yrs]; exact j1)
          rw [if_neg (by decide), if_neg (by decide), if_pos (by decide), j2, c1, bnd_s]
          exact qc_30 hw h (Fr.tr hF c2.fr) c3
      · rw [if_pos (bI_f (nf e3)), if_neg (show ¬ (hn v1 (tA A) && (rg v2 0 60 && rg v3 0 2)) = true by simp [e3])]
        exact qc_f30 (cv := id) hw h a2 a3 (by decide) (by decide)
    · rw [if_pos (bI_f (nf e2)), if_neg (show ¬ (hn v1 (tA A) && (rg v2 0 60 && rg v3 0 2)) = true by simp [e2])]
      exact qc_f30 (cv := id) hw h a2 a3 (by decide) (by decide)
  · rw [p_onTrialN hw h e1, bnd_s, ifn_n, if_neg (show ¬ (hn v1 (tA A) && (rg v2 0 60 && rg v3 0 2)) = true by simp [e1])]
    exact qc_f0 hw h
theorem p_dryL19 {A : Ab} (hw : WfA A) {M0 : Nm} (hA : CA M0 A) {j : Nat} : ∀ (n f i : Nat) (t : St) (M : Nm), Wf t → j < nS t → LandR 30 M t → Fr 30 52 M0 M → i + n = 61 → n < f → QC id A M0 (f_P_dry_L19 (ho 30 j) f (nI i) M) (lfA A (if dryF j n i t ≤ 60 then .inl (nI (dryF j n i t), tA A) else .inr 3)) := by
  intro n
  induction n with
  | zero =>
    intro f i t M ht hj hl hF hi hf
    obtain ⟨f, rfl⟩ : ∃ g, f = g + 1 := ⟨f - 1, by omega⟩
    have : i = 61 := by omega
    subst this
    rw [f_P_dry_L19, if_pos (by decide), if_neg (show ¬ dryF j 0 61 t ≤ 60 from (by decide : ¬ 61 ≤ 60))]
    exact qc_f30 (cv := id) hw hA hF hl (by decide) (by decide)
  | succ n ih =>
    intro f i t M ht hj hl hF hi hf
    obtain ⟨f, rfl⟩ : ∃ g, f = g + 1 := ⟨f - 1, by omega⟩
    have hwr : decide (cst (hS t j) ≤ ikH (hS t j)) = wrS t j := rfl
    rw [f_P_dry_L19, if_neg (show ¬ (60 : Int32) < nI i from nI_nlt (a := 60) (by omega) (by decide)), p_Hwrites (ht.2.2 j hj) (hl.2.2.2.1 j hj), bnd_s, hwr, dryF_s]
    by_cases e : wrS t j = true
    · obtain ⟨M1, a1, a2, a3⟩ := p_LgoYear ht hl
      rw [if_neg (bI_t e), if_pos (show wrS t j = true from e), a1, bnd_s, nI_1]
      exact ih f (i + 1) (yr t) M1 (wf_yr ht) hj a3 (Fr.tr hF a2) (by omega) (by omega)
    · rw [if_pos (bI_f (nf e)), if_neg (show ¬ wrS t j = true from e), if_pos (show i ≤ 60 by omega)]
      exact qc_30 hw hA hF hl
theorem k_dry {A : Ab} (hw : WfA A) (v1 : Int32) (M : Nm) (h : CA M A) : QC id A M (f_P_dry v1 M) (lfA A (o_dry v1 (tA A))) := by
  have h6 := hw.1.1
  unfold f_P_dry o_dry
  by_cases e1 : hn v1 (tA A) = true
  · obtain ⟨j, j1, j2, j3⟩ := hn_of e1
    obtain ⟨M1, a1, a2, a3⟩ := p_onTrial hw h j1 j2
    rw [a1, bnd_s, ifn_s, grd_h (isb_ho is30 (by omega)), if_pos (show hn v1 (tA A) = true from e1), j3]
    exact p_dryL19 hw h 61 FU 0 (tA A) M1 hw.1 j1 a3 a2 rfl (FU_gt (by decide))
  · rw [p_onTrialN hw h e1, bnd_s, ifn_n, if_neg (show ¬ hn v1 (tA A) = true from e1)]
    exact qc_f0 hw h
theorem k_rich {A : Ab} (hw : WfA A) (v1 : Int32) (M : Nm) (h : CA M A) : QC id A M (f_P_rich v1 M) (lfA A (o_rich v1 (tA A))) := by
  have h6 := hw.1.1
  unfold f_P_rich o_rich
  rw [p_P_isYearsOn, bnd_s]
  by_cases e1 : rg v1 0 60 = true
  · obtain ⟨n, n1, n2, n3⟩ := rgN (n := 60) (by decide) e1
    obtain ⟨M1, a1, a2, a3⟩ := p_LtakeFrom (d := 30) (e := 8) (by omega) hw.1 h.2.1 h.1
    obtain ⟨M2, b1, b2, b3⟩ := p_goYears (n := n) (by omega) hw.1 a3
    have hF := Fr.tr a2 b2
    have hc := p_Lrichest (wf_yrs n hw.1) b3
    rw [nS_yrs] at hc
    rw [if_neg (bI_t e1), if_pos (show rg v1 0 60 = true from e1), n3, n2, a1, bnd_s, b1, bnd_s, hc, bnd_s]
    by_cases q : nS (tA A) = 0
    · rw [if_pos (show nS (tA A) = 0 from q), if_pos (show nS (tA A) = 0 from q), if_neg (by decide)]
      exact qc_f30 (cv := id) hw h hF b3 (by decide) (by decide)
    · have hlt := rcN_lt (yrs n (tA A)) (nS (tA A)) (by omega)
      rw [if_neg (show ¬ nS (tA A) = 0 from q), if_neg (show ¬ nS (tA A) = 0 from q), if_pos (nI_pos' (by omega))]
      exact qc_30 hw h hF b3
  · rw [if_pos (bI_f (nf e1)), if_neg (show ¬ rg v1 0 60 = true from e1)]
    exact qc_f0 hw h
/-! rain -/
def bR : Option Nat → Int32
  | none => -1000000004
  | some b => nI b
theorem bR_n {b : Nat} (h : b < 2 ^ 31) : ¬ nI b = -1000000004 := fun e => by
  have := nI_pos' h
  rw [e] at this
  exact absurd this (by decide)
theorem qc_best {A : Ab} (hw : WfA A) {M0 M : Nm} (hF : Fr 0 86 M0 M) (hA : CA M A) {p : Nat × Option Nat} (hp : ∀ b, p.2 = some b → b < 100) : QC id A M0 (if bR p.2 = -1000000004 then (bnd (f_P_finding (-1000000004) M) fun r7 M8 => some (r7, M8)) else some (bR p.2, M)) (lfA A (a_best p (tA A))) := by
  unfold a_best
  cases e : p.2 with
  | none =>
    rw [if_pos (show bR none = -1000000004 from rfl)]
    exact qc_fd (cv := id) hw hF hA (by decide) (by decide)
  | some b =>
    have := hp b e
    rw [if_neg (show ¬ bR (some b) = -1000000004 from bR_n (by omega))]
    exact ⟨M, rfl, hF, hA⟩
theorem p_raL {A : Ab} (hw : WfA A) {M0 M : Nm} (hF : Fr 0 86 M0 M) (hA : CA M A) (ln : Int64) : ∀ (n f i : Nat) (p : Nat × Option Nat), i + n = 48 → n < f → p.1 ≤ 48 → (∀ b, p.2 = some b → b < 100) → QC id A M0 (f_P_rain_L52 ln f (nI p.1) (bR p.2) (nI i) M) (lfA A (a_best (mnF (rnG ln) n i p) (tA A))) := by
  intro n
  induction n with
  | zero =>
    intro f i p hi hf h1 h2
    obtain ⟨f, rfl⟩ : ∃ g, f = g + 1 := ⟨f - 1, by omega⟩
    have : i = 48 := by omega
    subst this
    rw [f_P_rain_L52, if_pos (by decide)]
    exact qc_best hw hF hA h2
  | succ n ih =>
    intro f i p hi hf h1 h2
    obtain ⟨f, rfl⟩ : ∃ g, f = g + 1 := ⟨f - 1, by omega⟩
    rw [f_P_rain_L52, if_neg (show ¬ (48 : Int32) ≤ nI i from nI_ge (b := 48) (by omega) (by decide)), p_bitOf (by omega), bnd_s, mnF_s, nI_1]
    unfold rnG
    by_cases e : tb ln i = true
    · rw [if_pos (show bI (tb ln i) = 1 by rw [e]; rfl), p_bit, bnd_s, p_enclosedBy, bnd_s, p_bitCount, bnd_s, if_pos (show tb ln i = true from e)]
      have hle := pc48 (lo_encl (ln &&& (bit1 i ^^^ (-1))))
      by_cases q : pc (encl (ln &&& (bit1 i ^^^ (-1)))) < p.1
      · rw [if_neg (nI_ge q (by omega))]
        dsimp only
        rw [if_pos q]
        exact ih f (i + 1) (pc (encl (ln &&& (bit1 i ^^^ (-1)))), some i) (by omega) (by omega) hle (fun b hb => by simp at hb; omega)
      · rw [if_pos (nI_le (by omega) (by omega))]
        dsimp only
        rw [if_neg q]
        exact ih f (i + 1) p (by omega) (by omega) h1 h2
    · rw [if_neg (show ¬ bI (tb ln i) = 1 by rw [nf e]; decide), if_neg (show ¬ tb ln i = true from e)]
      exact ih f (i + 1) p (by omega) (by omega) h1 h2
theorem k_rain {A : Ab} (hw : WfA A) (v1 : Int32) (M : Nm) (h : CA M A) : QC id A M (f_P_rain v1 M) (lfA A (o_rain v1 (tA A))) := by
  have h6 := hw.1.1
  unfold f_P_rain o_rain
  rw [p_handOf hw.1 h.1, bnd_s]
  by_cases e1 : hn v1 (tA A) = true
  · obtain ⟨j, j1, j2, j3⟩ := hn_of e1
    have hr := h.1.2.2.2.1 j j1
    obtain ⟨M1, a1, a2, a3⟩ := p_howManyInside hr (sS (tA A))
    rw [if_pos (show hn v1 (tA A) = true from e1), ifn_s, if_pos (show hn v1 (tA A) = true from e1), j3, grd_h (isb_ho is8 (by omega)), h.1.1, p_lineUnder hr, bnd_s, h.1.1, a1, bnd_s]
    have hF : Fr 8 30 M M1 := (a2.fl (d := 8) (by omega)).fr
    exact p_raL hw (hF.w (by omega) (by omega)) (h.t8 hw hF (h.1.i a2 a3)) (lnS (tA A) j) 48 FU 0 (pc (inS (tA A) j), none) rfl (FU_gt (by decide)) (pc48 (lo_inS _ _)) (fun b hb => by simp at hb)
  · rw [if_neg (show ¬ hn v1 (tA A) = true from e1), ifn_n, if_neg (show ¬ hn v1 (tA A) = true from e1)]
    exact qc_f0 hw h
theorem k_court {A : Ab} (hw : WfA A) (v1 v2 : Int32) (M : Nm) (h : CA M A) : QC id A M (f_P_court v1 v2 M) (lfA A (o_court v1 v2 (tA A))) := by
  have h6 := hw.1.1
  unfold f_P_court o_court
  rw [p_handOf hw.1 h.1, bnd_s]
  by_cases e1 : hn v1 (tA A) = true
  · obtain ⟨j, j1, j2, j3⟩ := hn_of e1
    rw [if_pos (show hn v1 (tA A) = true from e1), ifn_s, j3, grd_h (isb_ho is8 (by omega)), p_handOf hw.1 h.1, bnd_s]
    by_cases e2 : hn v2 (tA A) = true
    · obtain ⟨k, k1, k2, k3⟩ := hn_of e2
      rw [if_pos (show hn v2 (tA A) = true from e2), ifn_s, k3, grd_h (isb_ho is8 (by omega))]
      by_cases q : v1 = v2
      · rw [if_pos (show v1 = v2 from q), if_neg (show ¬ (hn v1 (tA A) && (hn v2 (tA A) && !decide (v1 = v2))) = true by simp [q])]
        exact qc_f0 hw h
      · obtain ⟨M1, a1, a2, a3⟩ := p_insideUnder (h.1.2.2.2.1 j j1) (sS (tA A))
        have l1 := h.1.i a2 a3
        obtain ⟨M2, b1, b2, b3⟩ := p_insideUnder (l1.2.2.2.1 k k1) (sS (tA A))
        rw [if_neg (show ¬ v1 = v2 from q), if_pos (show (hn v1 (tA A) && (hn v2 (tA A) && !decide (v1 = v2))) = true by simp [e1, e2, q]), h.1.1, a1, bnd_s, l1.1, b1, bnd_s, p_bitCount, bnd_s]
        exact qc_l hw h (Fl.tr (a2.fl (by omega)) (b2.fl (by omega))) (l1.i b2 b3)
    · rw [if_neg (show ¬ hn v2 (tA A) = true from e2), ifn_n, if_neg (show ¬ (hn v1 (tA A) && (hn v2 (tA A) && !decide (v1 = v2))) = true by simp [e2])]
      exact qc_f0 hw h
  · rw [if_neg (show ¬ hn v1 (tA A) = true from e1), ifn_n, p_handOf hw.1 h.1, bnd_s, if_neg (show ¬ (hn v1 (tA A) && (hn v2 (tA A) && !decide (v1 = v2))) = true by simp [e1])]
    by_cases e2 : hn v2 (tA A) = true
    · obtain ⟨k, k1, k2, k3⟩ := hn_of e2
      rw [if_pos (show hn v2 (tA A) = true from e2), ifn_s, k3, grd_h (isb_ho is8 (by omega))]
      exact qc_f0 hw h
    · rw [if_neg (show ¬ hn v2 (tA A) = true from e2), ifn_n]
      exact qc_f0 hw h
theorem fwd_lt {ln : Int64} {b : Nat} : ∀ (n s : Nat) (o : Int64) (r : Nat), fwd ln b n s o = some r → r < s + n := by
  intro n
  induction n with
  | zero => intro s o r h; simp [fwd] at h
  | succ n ih =>
    intro s o r h
    rw [fwd] at h
    split at h
    · simp at h; omega
    · have := ih _ _ _ h; omega
theorem fw_lt {ln : Int64} {a b s : Nat} (h : fw ln a b = some s) : s < 48 := by
  have := fwd_lt 48 0 _ s h
  omega
theorem k_way {A : Ab} (hw : WfA A) (v1 v2 v3 : Int32) (M : Nm) (h : CA M A) : QC id A M (f_P_way v1 v2 v3 M) (lfA A (o_way v1 v2 v3 (tA A))) := by
  have h6 := hw.1.1
  unfold f_P_way o_way
  rw [p_handOf hw.1 h.1, bnd_s]
  by_cases e1 : hn v1 (tA A) = true
  · obtain ⟨j, j1, j2, j3⟩ := hn_of e1
    have hr := h.1.2.2.2.1 j j1
    rw [if_pos (show hn v1 (tA A) = true from e1), ifn_s, j3, grd_h (isb_ho is8 (by omega)), p_P_isCell, bnd_s]
    by_cases e2 : rg v2 0 47 = true
    · rw [if_neg (bI_t e2), p_P_isCell, bnd_s]
      by_cases e3 : rg v3 0 47 = true
      · obtain ⟨a, a1, a2, a3⟩ := rg47 e2
        obtain ⟨b, b1, b2, b3⟩ := rg47 e3
        have hl : lo48 (pth (hS (tA A) j) &&& (sS (tA A) ^^^ (-1))) := lo_lnS hw.1 j1
        rw [if_neg (bI_t e3), if_pos (show (hn v1 (tA A) && (rg v2 0 47 && rg v3 0 47)) = true by simp [e1, e2, e3]), a3, b3, a2, b2, h.1.1, p_lineUnder hr, bnd_s, p_fewestSteps hl a1 b1, bnd_s]
        show QC id A M (if 0 ≤ fwI (lnS (tA A) j) a b then some (fwI (lnS (tA A) j) a b, M) else _) _
        unfold fwI
        cases e : fw (lnS (tA A) j) a b with
        | none =>
          dsimp only
          rw [if_neg (by decide)]
          exact qc_fd (cv := id) hw (Fr.rf _ _ M) h (by decide) (by decide)
        | some s =>
          dsimp only
          rw [if_pos (nI_pos' (by have := fw_lt e; omega))]
          exact qc_i h
      · rw [if_pos (bI_f (nf e3)), if_neg (show ¬ (hn v1 (tA A) && (rg v2 0 47 && rg v3 0 47)) = true by simp [e3])]
        exact qc_f0 hw h
    · rw [if_pos (bI_f (nf e2)), if_neg (show ¬ (hn v1 (tA A) && (rg v2 0 47 && rg v3 0 47)) = true by simp [e2])]
      exact qc_f0 hw h
  · rw [if_neg (show ¬ hn v1 (tA A) = true from e1), ifn_n, if_neg (show ¬ (hn v1 (tA A) && (rg v2 0 47 && rg v3 0 47)) = true by simp [e1])]
    exact qc_f0 hw h
