/-! the reference: what is tried and taken back -/
theorem p_savesL (S : Nat → Int32) : ∀ (n f i : Nat) (M : Nm), i + n = 176 → n < f → M.1 87 = S → (∀ j, j < i → M.1 89 j = S j) → ∃ M', f_M_saves_L2 f (nI i) M = some ((), M') ∧ (∀ c, c ≠ 89 → M'.1 c = M.1 c) ∧ M'.2 = M.2 ∧ ∀ j, j < 176 → M'.1 89 j = S j := by
  intro n
  induction n with
  | zero =>
    intro f i M hi hf hb h0
    obtain ⟨f, rfl⟩ : ∃ g, f = g + 1 := ⟨f - 1, by omega⟩
    have : i = 176 := by omega
    subst this
    exact ⟨M, by rw [f_M_saves_L2, if_pos (by decide)], fun _ _ => rfl, rfl, h0⟩
  | succ n ih =>
    intro f i M hi hf hb h0
    obtain ⟨f, rfl⟩ : ∃ g, f = g + 1 := ⟨f - 1, by omega⟩
    obtain ⟨M', e1, e2, e3, e4⟩ := ih f (i + 1) (mI M 89 i (M.1 87 i)) (by omega) (by omega) (by rw [mI_o (by decide)]; exact hb) (fun j hj => by
      rw [mI_u]
      by_cases q : j = i
      · rw [q, uw_s, hb]
      · rw [uw_n q]; exact h0 j (by omega))
    refine ⟨M', ?_, fun c hc => (e2 c hc).trans (mI_o hc), e3, e4⟩
    rw [f_M_saves_L2, if_neg (show ¬ (176 : Int32) ≤ nI i from nI_ge (b := 176) (by omega) (by decide)), grd_h (inb_nI (by omega) (by decide)), grd_h (inb_nI (by omega) (by decide)), bl_e, ix_nI (by omega), nI_1]
    exact e1
theorem p_saves (M : Nm) : ∃ M', f_M_saves M = some ((), M') ∧ (∀ c, c ≠ 89 → M'.1 c = M.1 c) ∧ M'.2 = M.2 ∧ ∀ j, j < 176 → M'.1 89 j = M.1 87 j :=
  p_savesL (M.1 87) 176 FU 0 M rfl (FU_gt (by decide)) rfl (fun j hj => by omega)
theorem p_putsBackL (S : Nat → Int32) : ∀ (n f i : Nat) (M : Nm), i + n = 176 → n < f → M.1 89 = S → (∀ j, j < i → M.1 87 j = S j) → ∃ M', f_M_putsBack_L2 f (nI i) M = some ((), M') ∧ (∀ c, c ≠ 87 → M'.1 c = M.1 c) ∧ M'.2 = M.2 ∧ ∀ j, j < 176 → M'.1 87 j = S j := by
  intro n
  induction n with
  | zero =>
    intro f i M hi hf hb h0
    obtain ⟨f, rfl⟩ : ∃ g, f = g + 1 := ⟨f - 1, by omega⟩
    have : i = 176 := by omega
    subst this
    exact ⟨M, by rw [f_M_putsBack_L2, if_pos (by decide)], fun _ _ => rfl, rfl, h0⟩
  | succ n ih =>
    intro f i M hi hf hb h0
    obtain ⟨f, rfl⟩ : ∃ g, f = g + 1 := ⟨f - 1, by omega⟩
    obtain ⟨M', e1, e2, e3, e4⟩ := ih f (i + 1) (mI M 87 i (M.1 89 i)) (by omega) (by omega) (by rw [mI_o (by decide)]; exact hb) (fun j hj => by
      rw [mI_u]
      by_cases q : j = i
      · rw [q, uw_s, hb]
      · rw [uw_n q]; exact h0 j (by omega))
    refine ⟨M', ?_, fun c hc => (e2 c hc).trans (mI_o hc), e3, e4⟩
    rw [f_M_putsBack_L2, if_neg (show ¬ (176 : Int32) ≤ nI i from nI_ge (b := 176) (by omega) (by decide)), grd_h (inb_nI (by omega) (by decide)), grd_h (inb_nI (by omega) (by decide)), bl_e, ix_nI (by omega), nI_1]
    exact e1
theorem p_putsBack (M : Nm) : ∃ M', f_M_putsBack M = some ((), M') ∧ (∀ c, c ≠ 87 → M'.1 c = M.1 c) ∧ M'.2 = M.2 ∧ ∀ j, j < 176 → M'.1 87 j = M.1 89 j :=
  p_putsBackL (M.1 89) 176 FU 0 M rfl (FU_gt (by decide)) rfl (fun j hj => by omega)
theorem p_laysAsideL (S : Nat → Int32) : ∀ (n f i : Nat) (M : Nm), i + n = 176 → n < f → M.1 87 = S → (∀ j, j < i → M.1 90 j = S j) → ∃ M', f_M_laysAside_L2 f (nI i) M = some ((), M') ∧ (∀ c, c ≠ 90 → M'.1 c = M.1 c) ∧ M'.2 = M.2 ∧ ∀ j, j < 176 → M'.1 90 j = S j := by
  intro n
  induction n with
  | zero =>
    intro f i M hi hf hb h0
    obtain ⟨f, rfl⟩ : ∃ g, f = g + 1 := ⟨f - 1, by omega⟩
    have : i = 176 := by omega
    subst this
    exact ⟨M, by rw [f_M_laysAside_L2, if_pos (by decide)], fun _ _ => rfl, rfl, h0⟩
  | succ n ih =>
    intro f i M hi hf hb h0
    obtain ⟨f, rfl⟩ : ∃ g, f = g + 1 := ⟨f - 1, by omega⟩
    obtain ⟨M', e1, e2, e3, e4⟩ := ih f (i + 1) (mI M 90 i (M.1 87 i)) (by omega) (by omega) (by rw [mI_o (by decide)]; exact hb) (fun j hj => by
      rw [mI_u]
      by_cases q : j = i
      · rw [q, uw_s, hb]
      · rw [uw_n q]; exact h0 j (by omega))
    refine ⟨M', ?_, fun c hc => (e2 c hc).trans (mI_o hc), e3, e4⟩
    rw [f_M_laysAside_L2, if_neg (show ¬ (176 : Int32) ≤ nI i from nI_ge (b := 176) (by omega) (by decide)), grd_h (inb_nI (by omega) (by decide)), grd_h (inb_nI (by omega) (by decide)), bl_e, ix_nI (by omega), nI_1]
    exact e1
theorem p_laysAside (M : Nm) : ∃ M', f_M_laysAside M = some ((), M') ∧ (∀ c, c ≠ 90 → M'.1 c = M.1 c) ∧ M'.2 = M.2 ∧ ∀ j, j < 176 → M'.1 90 j = M.1 87 j :=
  p_laysAsideL (M.1 87) 176 FU 0 M rfl (FU_gt (by decide)) rfl (fun j hj => by omega)
theorem p_takesBackL (v : Int32) (S : Nat → Int32) : ∀ (n f i : Nat) (M : Nm), i + n = 176 → n < f → M.1 90 = S → (∀ j, j < i → M.1 87 j = S j) → ∃ M', f_M_takesBack_L2 v f (nI i) M = some (v, M') ∧ (∀ c, c ≠ 87 → M'.1 c = M.1 c) ∧ M'.2 = M.2 ∧ ∀ j, j < 176 → M'.1 87 j = S j := by
  intro n
  induction n with
  | zero =>
    intro f i M hi hf hb h0
    obtain ⟨f, rfl⟩ : ∃ g, f = g + 1 := ⟨f - 1, by omega⟩
    have : i = 176 := by omega
    subst this
    exact ⟨M, by rw [f_M_takesBack_L2, if_pos (by decide)], fun _ _ => rfl, rfl, h0⟩
  | succ n ih =>
    intro f i M hi hf hb h0
    obtain ⟨f, rfl⟩ : ∃ g, f = g + 1 := ⟨f - 1, by omega⟩
    obtain ⟨M', e1, e2, e3, e4⟩ := ih f (i + 1) (mI M 87 i (M.1 90 i)) (by omega) (by omega) (by rw [mI_o (by decide)]; exact hb) (fun j hj => by
      rw [mI_u]
      by_cases q : j = i
      · rw [q, uw_s, hb]
      · rw [uw_n q]; exact h0 j (by omega))
    refine ⟨M', ?_, fun c hc => (e2 c hc).trans (mI_o hc), e3, e4⟩
    rw [f_M_takesBack_L2, if_neg (show ¬ (176 : Int32) ≤ nI i from nI_ge (b := 176) (by omega) (by decide)), grd_h (inb_nI (by omega) (by decide)), grd_h (inb_nI (by omega) (by decide)), bl_e, ix_nI (by omega), nI_1]
    exact e1
theorem p_takesBack (v : Int32) (M : Nm) : ∃ M', f_M_takesBack v M = some (v, M') ∧ (∀ c, c ≠ 87 → M'.1 c = M.1 c) ∧ M'.2 = M.2 ∧ ∀ j, j < 176 → M'.1 87 j = M.1 90 j :=
  p_takesBackL v (M.1 90) 176 FU 0 M rfl (FU_gt (by decide)) rfl (fun j hj => by omega)
theorem Rw_c {S S' : Nat → Int32} {t : St} (hw : Wf t) (hR : Rw S t) (h : ∀ j, j < 176 → S' j = S j) : Rw S' t := by
  have h6 := hw.1
  refine ⟨?_, ?_, fun c hc => ?_, fun k hk => ?_⟩
  · rw [h 0 (by decide)]; exact hR.1
  · rw [h 1 (by decide)]; exact hR.2.1
  · rw [h (2 + c) (by omega)]; exact hR.2.2.1 c hc
  · exact RwH_f (hR.2.2.2 k hk) (hw.2.2 k hk).2.2.2.2.1 (fun j h1 h2 => h j (by omega))
/-- a trial: laid aside, gone on, taken back -/
theorem p_lay {t : St} (hw : Wf t) (M : Nm) (hR : Rw (M.1 87) t) : ∃ M', f_M_laysAside M = some ((), M') ∧ Fm M M' ∧ M'.1 91 = M.1 91 ∧ Rw (M'.1 87) t ∧ Rw (M'.1 90) t := by
  obtain ⟨M', e1, e2, e3, e4⟩ := p_laysAside M
  refine ⟨M', e1, ⟨fun c _ h _ _ _ => e2 c h, fun c _ _ => by rw [e3], by rw [e3]⟩, e2 91 (by decide), ?_, ?_⟩
  · rw [e2 87 (by decide)]; exact hR
  · exact Rw_c hw hR e4
theorem p_take {t : St} (hw : Wf t) (v : Int32) (M : Nm) (hR : Rw (M.1 90) t) : ∃ M', f_M_takesBack v M = some (v, M') ∧ Fm M M' ∧ M'.1 91 = M.1 91 ∧ Rw (M'.1 87) t := by
  obtain ⟨M', e1, e2, e3, e4⟩ := p_takesBack v M
  exact ⟨M', e1, ⟨fun c h _ _ _ _ => e2 c h, fun c _ _ => by rw [e3], by rw [e3]⟩, e2 91 (by decide), Rw_c hw hR e4⟩
theorem Sd.e90 {M M' : Nm} (h : Sd M M') : M'.1 90 = M.1 90 := h.1 90 (by decide) (by decide) (by decide)
def o_on (v1 v2 v3 : Int32) (t : St) : (Int32 × St) ⊕ Nat := if hn v1 t && (rg v2 0 60 && rg v3 0 2) then .inl ((if v3 = 2 then nI (owc (yrs (ix v2) t) (ix v1)) else if v3 = 0 then nI (ikH (hS (yrs (ix v2) t) (ix v1))) else nI (cnH (hS (yrs (ix v2) t) (ix v1)))), t) else .inr 0
theorem q_on {t : St} (hw : Wf t) (v1 v2 v3 : Int32) (M : Nm) (hR : Rw (M.1 87) t) : QM id t M (f_M_on v1 v2 v3 M) (o_on v1 v2 v3 t) := by
  have h6 := hw.1
  unfold f_M_on o_on
  rw [p_isHand hw v1 M hR.1, bnd_s]
  by_cases e1 : hn v1 t = true
  · rw [if_neg (bI_t e1), p_in60, bnd_s]
    by_cases e2 : rg v2 0 60 = true
    · rw [if_neg (bI_t e2), p_in02, bnd_s]
      by_cases e3 : rg v3 0 2 = true
      · obtain ⟨h, h1, h2, h3⟩ := hn_of e1
        obtain ⟨n, n1, n2, n3⟩ := rgN (n := 60) (by decide) e2
        obtain ⟨w, w1, w2, w3⟩ := rgN (n := 2) (by decide) e3
        obtain ⟨M1, a1, a2, a3, a4, a5⟩ := p_lay hw M hR
        obtain ⟨M2, b1, b2, b3⟩ := p_goesOn (n := n) (by omega) hw M1 a4
        have hwy := wf_yrs n hw
        have hh : h < nS (yrs n t) := by rw [nS_yrs]; exact h1
        rw [if_neg (bI_t e3), if_pos (show (hn v1 t && (rg v2 0 60 && rg v3 0 2)) = true by simp [e1, e2, e3]), h3, n3, h2, n2, a1, bnd_s, b1, bnd_s]
        by_cases q2 : v3 = 2
        · obtain ⟨M3, c1, c2⟩ := p_ownsNow hwy hh M2 b3
          obtain ⟨M4, d1, d2, d3, d4⟩ := p_take hw (nI (owc (yrs n t) h)) M3 (by rw [c2.sd.e90, b2.e90]; exact a5)
          rw [if_pos q2, if_pos q2, c1, bnd_s, d1, bnd_s]
          exact q_ok (Fm.tr a2 (Fm.tr b2.fm (Fm.tr c2.fm d2))) (by rw [d3, c2.e91, b2.e91, a3]) d4
        · rw [if_neg q2, if_neg q2]
          have hw01 : w = 0 ∨ w = 1 := by
            have : w ≠ 2 := fun q => q2 (by rw [w2, q]; rfl)
            omega
          rcases hw01 with q | q
          · have hv : v3 = 0 := by rw [w2, q]; rfl
            obtain ⟨M4, d1, d2, d3, d4⟩ := p_take hw (nI (ikH (hS (yrs n t) h))) M2 (by rw [b2.e90]; exact a5)
            rw [hv, show (2 : Int32) + 0 = 2 from rfl, p_its2 (by omega), bnd_s, (b3.2.2.2 h hh).2.2.1, d1, bnd_s, if_pos rfl]
            exact q_ok (Fm.tr a2 (Fm.tr b2.fm d2)) (by rw [d3, b2.e91, a3]) d4
          · have hv : v3 = 1 := by rw [w2, q]; rfl
            obtain ⟨M4, d1, d2, d3, d4⟩ := p_take hw (nI (cnH (hS (yrs n t) h))) M2 (by rw [b2.e90]; exact a5)
            rw [hv, show (2 : Int32) + 1 = 3 from rfl, p_its3 (by omega), bnd_s, (b3.2.2.2 h hh).2.2.2.1, d1, bnd_s, if_neg (by decide)]
            exact q_ok (Fm.tr a2 (Fm.tr b2.fm d2)) (by rw [d3, b2.e91, a3]) d4
      · rw [if_pos (bI_f (nf e3)), if_neg (show ¬ (hn v1 t && (rg v2 0 60 && rg v3 0 2)) = true by simp [e3])]
        exact q_f0 hR
    · rw [if_pos (bI_f (nf e2)), if_neg (show ¬ (hn v1 t && (rg v2 0 60 && rg v3 0 2)) = true by simp [e2])]
      exact q_f0 hR
  · rw [if_pos (bI_f (nf e1)), if_neg (show ¬ (hn v1 t && (rg v2 0 60 && rg v3 0 2)) = true by simp [e1])]
    exact q_f0 hR
theorem p_isDry {t : St} (hw : Wf t) {h : Nat} (hh : h < nS t) (M : Nm) (hR : Rw (M.1 87) t) : ∃ M', f_M_isDry (nI h) M = some (bI (!wrS t h), M') ∧ Sc M M' := by
  have h6 := hw.1
  unfold f_M_isDry
  rw [p_smudges hw M hR, bnd_s, p_draws (by omega) _ (hw.2.2 h hh) M (hR.2.2.2 h hh), bnd_s]
  have hs : Sc M (mI (mL M 92 h (pth (hS t h) &&& (sS t ^^^ (-1)))) 94 h (nI (cst (hS t h)))) := Sc.dr
  rw [p_writes hw hh _ (by rw [hs.e87]; exact hR) (by rw [mI_s, if_pos rfl]), bnd_s]
  refine ⟨_, ?_, hs⟩
  cases wrS t h <;> rfl
def dryF (h : Nat) : Nat → Nat → St → Nat
  | 0, n, _ => n
  | f + 1, n, t => if wrS t h then dryF h f (n + 1) (yr t) else n
theorem dryF_s (h f n : Nat) (t : St) : dryF h (f + 1) n t = if wrS t h then dryF h f (n + 1) (yr t) else n := rfl
theorem dryF_le (h : Nat) : ∀ f n t, dryF h f n t ≤ n + f := by
  intro f
  induction f with
  | zero => intro n t; exact Nat.le_refl _
  | succ f ih =>
    intro n t
    rw [dryF_s]
    split
    · have := ih (n + 1) (yr t); omega
    · omega
theorem p_dryL (kk : Int32 → Nm → Option (Int32 × Nm)) {h : Nat} : ∀ (n f i : Nat) (t : St) (M : Nm), Wf t → h < nS t → Rw (M.1 87) t → i + n = 61 → n < f → ∃ M', f_M_dry_L21 kk (nI h) f (nI i) M = kk (nI (dryF h n i t)) M' ∧ Sd M M' := by
  intro n
  induction n with
  | zero =>
    intro f i t M hw hh hR hi hf
    obtain ⟨f, rfl⟩ : ∃ g, f = g + 1 := ⟨f - 1, by omega⟩
    have : i = 61 := by omega
    subst this
    exact ⟨M, by rw [f_M_dry_L21, if_pos (by decide)]; rfl, Sd.rf M⟩
  | succ n ih =>
    intro f i t M hw hh hR hi hf
    obtain ⟨f, rfl⟩ : ∃ g, f = g + 1 := ⟨f - 1, by omega⟩
    obtain ⟨M1, a1, a2⟩ := p_isDry hw hh M hR
    rw [dryF_s, f_M_dry_L21, if_neg (show ¬ (60 : Int32) < nI i from nI_nlt (a := 60) (by omega) (by decide)), a1, bnd_s]
    by_cases e : wrS t h = true
    · obtain ⟨M2, b1, b2, b3⟩ := p_year hw M1 (by rw [a2.e87]; exact hR)
      obtain ⟨M3, c1, c2⟩ := ih f (i + 1) (yr t) M2 (wf_yr hw) hh b3 (by omega) (by omega)
      rw [if_pos e, if_pos (bI_f (by rw [e]; rfl)), b1, bnd_s, nI_1, c1]
      exact ⟨M3, rfl, Sd.tr a2.sd (Sd.tr b2 c2)⟩
    · rw [if_neg e, if_neg (bI_t (by rw [nf e]; rfl))]
      exact ⟨M1, rfl, a2.sd⟩
def o_dry (v1 : Int32) (t : St) : (Int32 × St) ⊕ Nat := if hn v1 t then (if dryF (ix v1) 61 0 t ≤ 60 then .inl (nI (dryF (ix v1) 61 0 t), t) else .inr 3) else .inr 0
theorem q_dry {t : St} (hw : Wf t) (v1 : Int32) (M : Nm) (hR : Rw (M.1 87) t) : QM id t M (f_M_dry v1 M) (o_dry v1 t) := by
  unfold f_M_dry o_dry
  rw [p_isHand hw v1 M hR.1, bnd_s]
  by_cases e1 : hn v1 t = true
  · obtain ⟨h, h1, h2, h3⟩ := hn_of e1
    obtain ⟨M1, a1, a2, a3, a4, a5⟩ := p_lay hw M hR
    have hl := dryF_le h 61 0 t
    rw [if_neg (bI_t e1), if_pos e1, h3, h2, a1, bnd_s]
    obtain ⟨M2, b1, b2⟩ := p_dryL (fun y12 M11 => bnd (f_M_takesBack y12 M11) fun r13 M14 => if r13 ≤ 60 then (some (r13, M14)) else (bnd (f_M_finds (-1000000004) M14) fun r15 M16 => some (r15, M16))) (h := h) 61 FU 0 t M1 hw h1 a4 rfl (FU_gt (by decide))
    obtain ⟨M3, c1, c2, c3, c4⟩ := p_take hw (nI (dryF h 61 0 t)) M2 (by rw [b2.e90]; exact a5)
    have b1' : f_M_dry_L21 (fun y12 M11 => bnd (f_M_takesBack y12 M11) fun r13 M14 => if r13 ≤ 60 then (some (r13, M14)) else (bnd (f_M_finds (-1000000004) M14) fun r15 M16 => some (r15, M16))) (nI h) FU 0 M1 = _ := b1
    rw [b1', c1, bnd_s]
    have hF : Fm M M3 := Fm.tr a2 (Fm.tr b2.fm c2)
    have h91 : M3.1 91 = M.1 91 := by rw [c3, b2.e91, a3]
    by_cases e : dryF h 61 0 t ≤ 60
    · rw [if_pos (show nI (dryF h 61 0 t) ≤ (60 : Int32) from nI_le (b := 60) e (by decide)), if_pos e]
      exact q_ok hF h91 c4
    · rw [if_neg (show ¬ nI (dryF h 61 0 t) ≤ (60 : Int32) from nI_ge (a := 60) (by omega) (by omega)), if_neg e]
      exact q_fd (cv := id) (by decide) (by decide) hF h91 c4
  · rw [if_pos (bI_f (nf e1)), if_neg e1]
    exact q_f0 hR
def rcN (t : St) : Nat → Nat
  | 0 => 0
  | n + 1 => if cnH (hS t (rcN t n)) < cnH (hS t n) then n else rcN t n
theorem rcN_s (t : St) (n : Nat) : rcN t (n + 1) = if cnH (hS t (rcN t n)) < cnH (hS t n) then n else rcN t n := rfl
theorem rcN_lt (t : St) : ∀ n, 0 < n → rcN t n < n := by
  intro n
  induction n with
  | zero => intro h; omega
  | succ n ih =>
    intro _
    rw [rcN_s]
    split
    · omega
    · by_cases e : n = 0
      · subst e; show 0 < 1; omega
      · have := ih (by omega); omega
theorem p_riL {t : St} (hw : Wf t) (M : Nm) (hR : Rw (M.1 87) t) : ∀ (n f i : Nat), 0 < i → i + n = nS t → n < f → f_M_richest_L4 f (nI (rcN t i)) (nI i) M = some (nI (rcN t (nS t)), M) := by
  have h6 := hw.1
  intro n
  induction n with
  | zero =>
    intro f i h0 hi hf
    obtain ⟨f, rfl⟩ : ∃ g, f = g + 1 := ⟨f - 1, by omega⟩
    rw [f_M_richest_L4, g0, ix0, hR.1, if_pos (nI_le (by omega) (by omega)), ← hi]
    rfl
  | succ n ih =>
    intro f i h0 hi hf
    obtain ⟨f, rfl⟩ : ∃ g, f = g + 1 := ⟨f - 1, by omega⟩
    have hb := rcN_lt t i h0
    have key := ih f (i + 1) (by omega) (by omega) (by omega)
    have c1 := (hw.2.2 i (by omega)).2.2.2.1
    have c2 := (hw.2.2 (rcN t i) (by omega)).2.2.2.1
    rw [rcN_s] at key
    rw [f_M_richest_L4, g0, ix0, hR.1, if_neg (nI_ge (by omega) (by omega)), p_its3 (by omega), bnd_s, p_its3 (by omega), bnd_s, (hR.2.2.2 i (by omega)).2.2.2.1, (hR.2.2.2 (rcN t i) (by omega)).2.2.2.1, nI_1]
    by_cases e : cnH (hS t (rcN t i)) < cnH (hS t i)
    · rw [if_pos e] at key
      rw [if_neg (nI_ge e (by omega))]
      exact key
    · rw [if_neg e] at key
      rw [if_pos (nI_le (by omega) (by omega))]
      exact key
theorem p_richest {t : St} (hw : Wf t) (h0 : 0 < nS t) (M : Nm) (hR : Rw (M.1 87) t) : f_M_richest M = some (nI (rcN t (nS t)), M) := by
  have h := p_riL hw M hR (nS t - 1) FU 1 (by decide) (by omega) (FU_gt (by have := hw.1; omega))
  have e : rcN t 1 = 0 := by rw [rcN_s]; exact if_neg (Nat.lt_irrefl _)
  rw [e] at h
  exact h
def o_rich (v : Int32) (t : St) : (Int32 × St) ⊕ Nat := if rg v 0 60 then (if nS t = 0 then .inr 3 else .inl (nI (rcN (yrs (ix v) t) (nS t)), t)) else .inr 0
theorem q_rich {t : St} (hw : Wf t) (v : Int32) (M : Nm) (hR : Rw (M.1 87) t) : QM id t M (f_M_rich v M) (o_rich v t) := by
  have h6 := hw.1
  unfold f_M_rich o_rich
  rw [p_in60, bnd_s]
  by_cases e1 : rg v 0 60 = true
  · obtain ⟨n, n1, n2, n3⟩ := rgN (n := 60) (by decide) e1
    rw [if_neg (bI_t e1), if_pos e1, g0, ix0, hR.1, n3, n2]
    by_cases e2 : nS t = 0
    · rw [if_pos (show nI (nS t) = 0 by rw [e2]; rfl), if_pos e2]
      exact q_fd (cv := id) (by decide) (by decide) (Fm.rf M) rfl hR
    · obtain ⟨M1, a1, a2, a3, a4, a5⟩ := p_lay hw M hR
      obtain ⟨M2, b1, b2, b3⟩ := p_goesOn (n := n) (by omega) hw M1 a4
      have hr := p_richest (wf_yrs n hw) (by rw [nS_yrs]; omega) M2 b3
      rw [nS_yrs] at hr
      obtain ⟨M4, d1, d2, d3, d4⟩ := p_take hw (nI (rcN (yrs n t) (nS t))) M2 (by rw [b2.e90]; exact a5)
      rw [if_neg (nI_ne0 (by omega) (by omega)), if_neg e2, a1, bnd_s, b1, bnd_s, hr, bnd_s, d1, bnd_s]
      exact q_ok (Fm.tr a2 (Fm.tr b2.fm d2)) (by rw [d3, b2.e91, a3]) d4
  · rw [if_pos (bI_f (nf e1)), if_neg e1]
    exact q_f0 hR
def o_court (v1 v2 : Int32) (t : St) : (Int32 × St) ⊕ Nat := if hn v1 t && (hn v2 t && !decide (v1 = v2)) then .inl (nI (pc (inS t (ix v1) &&& inS t (ix v2))), t) else .inr 0
theorem q_court {t : St} (hw : Wf t) (v1 v2 : Int32) (M : Nm) (hR : Rw (M.1 87) t) : QM id t M (f_M_court v1 v2 M) (o_court v1 v2 t) := by
  have h6 := hw.1
  unfold f_M_court o_court
  rw [p_isHand hw v1 M hR.1, bnd_s]
  by_cases e1 : hn v1 t = true
  · rw [if_neg (bI_t e1), p_isHand hw v2 M hR.1, bnd_s]
    by_cases e2 : hn v2 t = true
    · rw [if_neg (bI_t e2)]
      by_cases e3 : v1 = v2
      · rw [if_pos e3, if_neg (show ¬ (hn v1 t && (hn v2 t && !decide (v1 = v2))) = true by simp [e3])]
        exact q_f0 hR
      · obtain ⟨h, h1, h2, h3⟩ := hn_of e1
        obtain ⟨k, k1, k2, k3⟩ := hn_of e2
        obtain ⟨M1, a1, a2, a3⟩ := p_writeAll hw M hR
        have hR1 := Rn.of hR a2 a3
        rw [if_neg e3, if_pos (show (hn v1 t && (hn v2 t && !decide (v1 = v2))) = true by simp [e1, e2, e3]), a1, bnd_s, h3, k3, h2, k2, grd_h (inb_nI (by omega) (by decide)), grd_h (inb_nI (by omega) (by decide)), (a3 h h1).2.1, (a3 k k1).2.1, p_ones, bnd_s]
        exact q_ok a2.fm a2.e91 hR1.1
    · rw [if_pos (bI_f (nf e2)), if_neg (show ¬ (hn v1 t && (hn v2 t && !decide (v1 = v2))) = true by simp [e2])]
      exact q_f0 hR
  · rw [if_pos (bI_f (nf e1)), if_neg (show ¬ (hn v1 t && (hn v2 t && !decide (v1 = v2))) = true by simp [e1])]
    exact q_f0 hR
def o_way (v1 v2 v3 : Int32) (t : St) : (Int32 × St) ⊕ Nat := if hn v1 t && (rg v2 0 47 && rg v3 0 47) then (match fw (lnS t (ix v1)) (ix v2) (ix v3) with
  | none => .inr 3
  | some s => .inl (nI s, t)) else .inr 0
theorem q_way {t : St} (hw : Wf t) (v1 v2 v3 : Int32) (M : Nm) (hR : Rw (M.1 87) t) : QM id t M (f_M_way v1 v2 v3 M) (o_way v1 v2 v3 t) := by
  have h6 := hw.1
  unfold f_M_way o_way
  rw [p_isHand hw v1 M hR.1, bnd_s]
  by_cases e1 : hn v1 t = true
  · rw [if_neg (bI_t e1), p_M_isCell, bnd_s]
    by_cases e2 : rg v2 0 47 = true
    · rw [if_neg (bI_t e2), p_M_isCell, bnd_s]
      by_cases e3 : rg v3 0 47 = true
      · obtain ⟨h, h1, h2, h3⟩ := hn_of e1
        obtain ⟨a, a1, a2, a3⟩ := rg47 e2
        obtain ⟨b, b1, b2, b3⟩ := rg47 e3
        have hs : Sc M (mI (mL M 92 h (pth (hS t h) &&& (sS t ^^^ (-1)))) 94 h (nI (cst (hS t h)))) := Sc.dr
        have hz : (mI (mL M 92 h (pth (hS t h) &&& (sS t ^^^ (-1)))) 94 h (nI (cst (hS t h)))).2.1 92 h = lnS t h := by rw [mI_L, mL_s, if_pos rfl]; rfl
        rw [if_neg (bI_t e3), if_pos (show (hn v1 t && (rg v2 0 47 && rg v3 0 47)) = true by simp [e1, e2, e3]), p_smudges hw M hR, bnd_s, h3, a3, b3, h2, a2, b2, p_draws (by omega) _ (hw.2.2 h h1) M (hR.2.2.2 h h1), bnd_s, grd_h (inb_nI (by omega) (by decide)), bl_e, hz]
        generalize (mI (mL M 92 h (pth (hS t h) &&& (sS t ^^^ (-1)))) 94 h (nI (cst (hS t h)))) = M1 at hs
        obtain ⟨x, s, w1, w2⟩ := p_way60 (fun y32 y33 M31 => bnd (f_M_has y32 (nI b) M31) fun r34 M35 => if r34 = 0 then (bnd (f_M_finds (-1000000004) M35) fun r36 M37 => some (r36, M37)) else (some (y33, M35))) (lo_lnS hw h1) (a := a) b1 M1
        have w1' : f_M_way_L60 (fun y32 y33 M31 => bnd (f_M_has y32 (nI b) M31) fun r34 M35 => if r34 = 0 then (bnd (f_M_finds (-1000000004) M35) fun r36 M37 => some (r36, M37)) else (some (y33, M35))) (nI b) (lnS t h) FU (lnS t h &&& (1 <<< ((nI a).toInt64 &&& 63))) 0 0 M1 = _ := w1
        rw [w1', p_has (by omega), bnd_s]
        rcases w2 with ⟨k, f1, f2, f3⟩ | ⟨f1, f3⟩
        · rw [f1, f2, if_neg (bI_t f3)]
          exact q_ok hs.fm hs.e91 (by rw [hs.e87]; exact hR)
        · rw [f1, if_pos (bI_f f3)]
          exact q_fd (cv := id) (by decide) (by decide) hs.fm hs.e91 (by rw [hs.e87]; exact hR)
      · rw [if_pos (bI_f (nf e3)), if_neg (show ¬ (hn v1 t && (rg v2 0 47 && rg v3 0 47)) = true by simp [e3])]
        exact q_f0 hR
    · rw [if_pos (bI_f (nf e2)), if_neg (show ¬ (hn v1 t && (rg v2 0 47 && rg v3 0 47)) = true by simp [e2])]
      exact q_f0 hR
  · rw [if_pos (bI_f (nf e1)), if_neg (show ¬ (hn v1 t && (rg v2 0 47 && rg v3 0 47)) = true by simp [e1])]
    exact q_f0 hR
def seR (t : St) (r : Nat) : Nat := fb_ct (fun k => (owN t (8 * r + k) (nS t)).isSome) 8
def seF (t : St) : Nat → Nat → Option Nat
  | 0, _ => none
  | n + 1, i => if seR t i = 0 then some i else seF t n (i + 1)
def o_sea (t : St) : (Int32 × St) ⊕ Nat := match seF t 6 0 with
  | none => .inr 3
  | some r => .inl (nI r, t)
theorem p_seL16 (kk : Int32 → Nm → Option (Int32 × Nm)) {t : St} (hw : Wf t) {r : Nat} (hr : r < 6) (M : Nm) (hR : Rn M t) : ∀ (n f i : Nat), i + n = 8 → n < f → f_M_sea_L16 kk (nI r) f (nI (fb_ct (fun k => (owN t (8 * r + k) (nS t)).isSome) i)) (nI i) M = kk (nI (seR t r)) M := by
  intro n
  induction n with
  | zero =>
    intro f i hi hf
    obtain ⟨f, rfl⟩ : ∃ g, f = g + 1 := ⟨f - 1, by omega⟩
    have : i = 8 := by omega
    subst this
    rw [f_M_sea_L16, if_pos (by decide)]
    rfl
  | succ n ih =>
    intro f i hi hf
    obtain ⟨f, rfl⟩ : ∃ g, f = g + 1 := ⟨f - 1, by omega⟩
    have key := ih f (i + 1) (by omega) (by omega)
    rw [fb_ct_succ] at key
    have e8 : (8 : Int32) * nI r + nI i = nI (8 * r + i) := by rw [show (8 : Int32) * nI r = nI (8 * r) from pk_mul 8 r, nI_add]
    have hz : ∀ k : Nat, nI k + 0 = nI (k + 0) := fun k => nI_add k 0
    rw [f_M_sea_L16, if_neg (show ¬ (8 : Int32) ≤ nI i from nI_ge (b := 8) (by omega) (by decide)), e8, p_ownerOf hw (by omega) M hR, bnd_s, nI_1]
    cases e : owN t (8 * r + i) (nS t) with
    | none =>
      rw [show oI none = -1 from rfl, if_pos (by decide), hz]
      rw [e] at key
      exact key
    | some b =>
      have hb := (owN_iff.mp e).1
      have h6 := hw.1
      rw [show oI (some b) = nI b from rfl, if_neg (nI_pos (by omega)), nI_1]
      rw [e] at key
      exact key
theorem p_seL {t : St} (hw : Wf t) (M0 M : Nm) (hR : Rn M t) (hF : Fm M0 M) (h91 : M.1 91 = M0.1 91) : ∀ (n f i : Nat), i + n = 6 → n < f → QM id t M0 (f_M_sea_L6 f (nI i) M) (match seF t n i with
  | none => .inr 3
  | some r => .inl (nI r, t)) := by
  intro n
  induction n with
  | zero =>
    intro f i hi hf
    obtain ⟨f, rfl⟩ : ∃ g, f = g + 1 := ⟨f - 1, by omega⟩
    have : i = 6 := by omega
    subst this
    rw [f_M_sea_L6, if_pos (by decide)]
    exact q_fd (cv := id) (by decide) (by decide) hF h91 hR.1
  | succ n ih =>
    intro f i hi hf
    obtain ⟨f, rfl⟩ : ∃ g, f = g + 1 := ⟨f - 1, by omega⟩
    have key := ih f (i + 1) (by omega) (by omega)
    have hz : seF t (n + 1) i = if seR t i = 0 then some i else seF t n (i + 1) := rfl
    have hl : seR t i ≤ 8 := fb_ct_le _ _
    have h16 := p_seL16 (fun y8 M7 => if y8 = 0 then (some (nI i, M7)) else (f_M_sea_L6 f (nI i + 1) M7)) hw (r := i) (by omega) M hR 8 FU 0 rfl (FU_gt (by decide))
    have h16' : f_M_sea_L16 (fun y8 M7 => if y8 = 0 then (some (nI i, M7)) else (f_M_sea_L6 f (nI i + 1) M7)) (nI i) FU 0 0 M = _ := h16
    rw [f_M_sea_L6, if_neg (show ¬ (6 : Int32) ≤ nI i from nI_ge (b := 6) (by omega) (by decide)), h16', hz]
    by_cases e : seR t i = 0
    · rw [if_pos (show nI (seR t i) = 0 by rw [e]; rfl), if_pos e]
      exact q_ok hF h91 hR.1
    · rw [if_neg (nI_ne0 (by omega) (by omega)), if_neg e, nI_1]
      exact key
theorem q_sea {t : St} (hw : Wf t) (M : Nm) (hR : Rw (M.1 87) t) : QM id t M (f_M_sea M) (o_sea t) := by
  obtain ⟨M1, a1, a2, a3⟩ := p_writeAll hw M hR
  unfold f_M_sea
  rw [a1, bnd_s]
  exact p_seL hw M M1 (Rn.of hR a2 a3) a2.fm a2.e91 6 FU 0 rfl (FU_gt (by decide))
