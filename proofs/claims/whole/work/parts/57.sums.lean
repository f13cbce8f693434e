/-! the class: sums, hands as a set, cells of a land, the richest -/
theorem p_isL (d : Nat) {t : St} (hw : Wf t) (M : Nm) (h : LandR d M t) : ∀ (n f i : Nat), i + n = nS t → n < f → f_L_inkOfAll_L4 d f (nI (sm ikH t i)) (nI i) M = some (nI (sm ikH t (nS t)), M) := by
  have h6 := hw.1
  intro n
  induction n with
  | zero =>
    intro f i hi hf
    obtain ⟨f, rfl⟩ : ∃ g, f = g + 1 := ⟨f - 1, by omega⟩
    rw [f_L_inkOfAll_L4, h.2.2.1, if_pos (nI_le (by omega) (by omega)), ← hi]
    rfl
  | succ n ih =>
    intro f i hi hf
    obtain ⟨f, rfl⟩ : ∃ g, f = g + 1 := ⟨f - 1, by omega⟩
    rw [f_L_inkOfAll_L4, h.2.2.1, if_neg (nI_ge (by omega) (by omega)), grd_h (inb_nI (by omega) (by decide)), hnd_o (by omega), (h.2.2.2.1 i (by omega)).1.2.2.1, nI_add, nI_1]
    exact ih f (i + 1) (by omega) (by omega)
theorem p_inkOfAll {d : Nat} {t : St} (hw : Wf t) {M : Nm} (h : LandR d M t) : f_L_inkOfAll d M = some (nI (sm ikH t (nS t)), M) :=
  p_isL d hw M h (nS t) FU 0 (by omega) (FU_gt (by have := hw.1; omega))
theorem p_ssL (d : Nat) {t : St} (hw : Wf t) (M : Nm) (h : LandR d M t) : ∀ (n f i : Nat), i + n = nS t → n < f → f_L_strokesOfAll_L4 d f (nI (sm nsH t i)) (nI i) M = some (nI (sm nsH t (nS t)), M) := by
  have h6 := hw.1
  intro n
  induction n with
  | zero =>
    intro f i hi hf
    obtain ⟨f, rfl⟩ : ∃ g, f = g + 1 := ⟨f - 1, by omega⟩
    rw [f_L_strokesOfAll_L4, h.2.2.1, if_pos (nI_le (by omega) (by omega)), ← hi]
    rfl
  | succ n ih =>
    intro f i hi hf
    obtain ⟨f, rfl⟩ : ∃ g, f = g + 1 := ⟨f - 1, by omega⟩
    rw [f_L_strokesOfAll_L4, h.2.2.1, if_neg (nI_ge (by omega) (by omega)), grd_h (inb_nI (by omega) (by decide)), hnd_o (by omega), (h.2.2.2.1 i (by omega)).1.2.2.2.2.1, nI_add, nI_1]
    exact ih f (i + 1) (by omega) (by omega)
theorem p_strokesOfAll {d : Nat} {t : St} (hw : Wf t) {M : Nm} (h : LandR d M t) : f_L_strokesOfAll d M = some (nI (sm nsH t (nS t)), M) :=
  p_ssL d hw M h (nS t) FU 0 (by omega) (FU_gt (by have := hw.1; omega))
theorem p_cosL (d : Nat) {t : St} (hw : Wf t) (M : Nm) (h : LandR d M t) : ∀ (n f i : Nat), i + n = nS t → n < f → f_L_costsOfAll_L4 d f (nI (sm cst t i)) (nI i) M = some (nI (sm cst t (nS t)), M) := by
  have h6 := hw.1
  intro n
  induction n with
  | zero =>
    intro f i hi hf
    obtain ⟨f, rfl⟩ : ∃ g, f = g + 1 := ⟨f - 1, by omega⟩
    rw [f_L_costsOfAll_L4, h.2.2.1, if_pos (nI_le (by omega) (by omega)), ← hi]
    rfl
  | succ n ih =>
    intro f i hi hf
    obtain ⟨f, rfl⟩ : ∃ g, f = g + 1 := ⟨f - 1, by omega⟩
    rw [f_L_costsOfAll_L4, h.2.2.1, if_neg (nI_ge (by omega) (by omega)), grd_h (inb_nI (by omega) (by decide)), hnd_o (by omega), (h.2.2.2.1 i (by omega)).2.2.1, nI_add, nI_1]
    exact ih f (i + 1) (by omega) (by omega)
theorem p_costsOfAll {d : Nat} {t : St} (hw : Wf t) {M : Nm} (h : LandR d M t) : f_L_costsOfAll d M = some (nI (sm cst t (nS t)), M) :=
  p_cosL d hw M h (nS t) FU 0 (by omega) (FU_gt (by have := hw.1; omega))
theorem sh_b (b : Bool) (i : Nat) : bI b <<< (nI i &&& 31) = if b then 1 <<< (nI i &&& 31) else 0 := by
  cases b with
  | true => rfl
  | false => simp [bI]
theorem p_lcL (d : Nat) {t : St} (hw : Wf t) {c : Nat} (hc : c < 48) (M : Nm) (h : LandR d M t) : ∀ (n f i : Nat), i + n = nS t → n < f → f_L_handsOnWhoseLines_L4 d (nI c) f (hb (fun h => tb (lnS t h) c) i) (nI i) M = some (hb (fun h => tb (lnS t h) c) (nS t), M) := by
  have h6 := hw.1
  intro n
  induction n with
  | zero =>
    intro f i hi hf
    obtain ⟨f, rfl⟩ : ∃ g, f = g + 1 := ⟨f - 1, by omega⟩
    rw [f_L_handsOnWhoseLines_L4, h.2.2.1, if_pos (nI_le (by omega) (by omega)), ← hi]
    rfl
  | succ n ih =>
    intro f i hi hf
    obtain ⟨f, rfl⟩ : ∃ g, f = g + 1 := ⟨f - 1, by omega⟩
    rw [f_L_handsOnWhoseLines_L4, h.2.2.1, if_neg (nI_ge (by omega) (by omega)), grd_h (inb_nI (by omega) (by decide)), hnd_o (by omega), h.1, p_lineUnder (h.2.2.2.1 i (by omega)), bnd_s, p_bitOf (by omega), bnd_s, bl_e, sh_b, nI_1]
    exact ih f (i + 1) (by omega) (by omega)
theorem p_handsOnWhoseLines {d : Nat} {t : St} (hw : Wf t) {c : Nat} (hc : c < 48) {M : Nm} (h : LandR d M t) : f_L_handsOnWhoseLines d (nI c) M = some (hb (fun h => tb (lnS t h) c) (nS t), M) :=
  p_lcL d hw hc M h (nS t) FU 0 (by omega) (FU_gt (by have := hw.1; omega))
theorem p_haL (d : Nat) {t : St} (hw : Wf t) {c : Nat} (hc : c < 48) : ∀ (n f i : Nat) (M : Nm), LandR d M t → i + n = nS t → n < f → ∃ M', f_L_handsAround_L4 d (nI c) f (hb (fun h => tb (inS t h) c) i) (nI i) M = some (hb (fun h => tb (inS t h) c) (nS t), M') ∧ Fl d M M' ∧ LandR d M' t := by
  have h6 := hw.1
  intro n
  induction n with
  | zero =>
    intro f i M h hi hf
    obtain ⟨f, rfl⟩ : ∃ g, f = g + 1 := ⟨f - 1, by omega⟩
    refine ⟨M, ?_, Fl.rf d M, h⟩
    rw [f_L_handsAround_L4, h.2.2.1, if_pos (nI_le (by omega) (by omega)), ← hi]
    rfl
  | succ n ih =>
    intro f i M h hi hf
    obtain ⟨f, rfl⟩ : ∃ g, f = g + 1 := ⟨f - 1, by omega⟩
    obtain ⟨M1, a1, a2, a3⟩ := p_insideUnder (h.2.2.2.1 i (by omega)) (sS t)
    obtain ⟨M', b1, b2, b3⟩ := ih f (i + 1) M1 (h.i a2 a3) (by omega) (by omega)
    refine ⟨M', ?_, Fl.tr (a2.fl (by omega)) b2, b3⟩
    rw [f_L_handsAround_L4, h.2.2.1, if_neg (nI_ge (by omega) (by omega)), grd_h (inb_nI (by omega) (by decide)), hnd_o (by omega), h.1, a1, bnd_s, p_bitOf (by omega), bnd_s, bl_e, sh_b, nI_1]
    exact b1
theorem p_handsAround {d : Nat} {t : St} (hw : Wf t) {c : Nat} (hc : c < 48) {M : Nm} (h : LandR d M t) : ∃ M', f_L_handsAround d (nI c) M = some (hb (fun h => tb (inS t h) c) (nS t), M') ∧ Fl d M M' ∧ LandR d M' t :=
  p_haL d hw hc (nS t) FU 0 M h (by omega) (FU_gt (by have := hw.1; omega))
theorem p_hwL (d : Nat) {t : St} (hw : Wf t) (M : Nm) (h : LandR d M t) : ∀ (n f i : Nat), i + n = nS t → n < f → f_L_handsThatWrite_L4 d f (hb (wrS t) i) (nI i) M = some (hb (wrS t) (nS t), M) := by
  have h6 := hw.1
  intro n
  induction n with
  | zero =>
    intro f i hi hf
    obtain ⟨f, rfl⟩ : ∃ g, f = g + 1 := ⟨f - 1, by omega⟩
    rw [f_L_handsThatWrite_L4, h.2.2.1, if_pos (nI_le (by omega) (by omega)), ← hi]
    rfl
  | succ n ih =>
    intro f i hi hf
    obtain ⟨f, rfl⟩ : ∃ g, f = g + 1 := ⟨f - 1, by omega⟩
    have key := ih f (i + 1) (by omega) (by omega)
    have hz : hb (wrS t) (i + 1) = hb (wrS t) i ||| (if wrS t i then 1 <<< (nI i &&& 31) else 0) := rfl
    have hwr : decide (cst (hS t i) ≤ ikH (hS t i)) = wrS t i := rfl
    rw [hz] at key
    rw [f_L_handsThatWrite_L4, h.2.2.1, if_neg (nI_ge (by omega) (by omega)), grd_h (inb_nI (by omega) (by decide)), hnd_o (by omega), p_Hwrites (hw.2.2 i (by omega)) (h.2.2.2.1 i (by omega)), bnd_s, nI_1, hwr]
    by_cases e : wrS t i = true
    · rw [if_pos e] at key
      rw [if_neg (bI_t e), bl_e]; exact key
    · rw [if_neg e, or00] at key
      rw [if_pos (bI_f (nf e))]; exact key
theorem p_handsThatWrite {d : Nat} {t : St} (hw : Wf t) {M : Nm} (h : LandR d M t) : f_L_handsThatWrite d M = some (hb (wrS t) (nS t), M) :=
  p_hwL d hw M h (nS t) FU 0 (by omega) (FU_gt (by have := hw.1; omega))
/-! cells that are owned, that are disputed -/
theorem wi_hi (t : St) (h c : Nat) (hc : 48 ≤ c) : wi t h c = false := by
  unfold wi
  rw [lo_inS t h c hc]
  cases wrS t h <;> rfl
theorem ct_hi (t : St) (c : Nat) (hc : 48 ≤ c) : ∀ n, fb_ct (fun h => wi t h c) n = 0 := by
  intro n
  induction n with
  | zero => rfl
  | succ n ih => rw [fb_ct_succ, ih, wi_hi t n c hc]; rfl
theorem mor_of {t : St} {k : Nat} {v : Int64} (h : ∀ c, c < 64 → tb v c = decide (k < fb_ct (fun h => wi t h c) (nS t))) : v = mor t k := by
  apply tb_ext
  intro c hc
  unfold mor
  rw [tb_cs _ 48 c (Nat.le_refl _), h c hc]
  by_cases e : c < 48
  · simp [e]
  · rw [ct_hi t c (by omega)]; simp [e]
theorem p_owL8 (d : Nat) {t : St} (hw : Wf t) (M : Nm) (h : LandR d M t) (hc : ∀ k, k < nS t → M.2.1 (d + 20) k = cl t k) : ∀ (n f i : Nat) (v : Int64), (∀ c, c < 64 → tb v c = decide (0 < fb_ct (fun h => wi t h c) i)) → i + n = nS t → n < f → f_L_owned_L8 d f v (nI i) M = some (mor t 0, M) := by
  have h6 := hw.1
  intro n
  induction n with
  | zero =>
    intro f i v hv hi hf
    obtain ⟨f, rfl⟩ : ∃ g, f = g + 1 := ⟨f - 1, by omega⟩
    have q : i = nS t := by omega
    subst q
    rw [f_L_owned_L8, h.2.2.1, if_pos (nI_le (by omega) (by omega)), mor_of hv]
  | succ n ih =>
    intro f i v hv hi hf
    obtain ⟨f, rfl⟩ : ∃ g, f = g + 1 := ⟨f - 1, by omega⟩
    rw [f_L_owned_L8, h.2.2.1, if_neg (nI_ge (by omega) (by omega)), grd_h (inb_nI (by omega) (by decide)), ix_nI (by omega), hc i (by omega), bl_e, nI_1]
    refine ih f (i + 1) _ (fun c hc64 => ?_) (by omega) (by omega)
    rw [tb_or, hv c hc64, tb_cl, fb_ct_succ]
    cases wi t i c with
    | true => simp
    | false => simp
theorem p_owned {d : Nat} {t : St} (hw : Wf t) {M : Nm} (h : LandR d M t) : ∃ M', f_L_owned d M = some (mor t 0, M') ∧ Fl d M M' ∧ LandR d M' t := by
  obtain ⟨M1, a1, a2, a3, a4⟩ := p_stakeClaims hw h
  unfold f_L_owned
  rw [a1, bnd_s]
  exact ⟨M1, p_owL8 d hw M1 a3 a4 (nS t) FU 0 0 (fun c _ => tb_0 c) (by omega) (FU_gt (by have := hw.1; omega)), a2, a3⟩
theorem p_diL (d : Nat) {t : St} (hw : Wf t) (M : Nm) (h : LandR d M t) (hc : ∀ k, k < nS t → M.2.1 (d + 20) k = cl t k) : ∀ (n f i : Nat) (v w : Int64), (∀ c, c < 64 → tb v c = decide (0 < fb_ct (fun h => wi t h c) i)) → (∀ c, c < 64 → tb w c = decide (1 < fb_ct (fun h => wi t h c) i)) → i + n = nS t → n < f → f_L_disputed_L11 d f v w (nI i) M = some (mor t 1, M) := by
  have h6 := hw.1
  intro n
  induction n with
  | zero =>
    intro f i v w hv hv2 hi hf
    obtain ⟨f, rfl⟩ : ∃ g, f = g + 1 := ⟨f - 1, by omega⟩
    have q : i = nS t := by omega
    subst q
    rw [f_L_disputed_L11, h.2.2.1, if_pos (nI_le (by omega) (by omega)), mor_of hv2]
  | succ n ih =>
    intro f i v w hv hv2 hi hf
    obtain ⟨f, rfl⟩ : ∃ g, f = g + 1 := ⟨f - 1, by omega⟩
    rw [f_L_disputed_L11, h.2.2.1, if_neg (nI_ge (by omega) (by omega)), grd_h (inb_nI (by omega) (by decide)), bl_e, grd_h (inb_nI (by omega) (by decide)), bl_e, ix_nI (by omega), hc i (by omega), nI_1]
    refine ih f (i + 1) _ _ (fun c hc64 => ?_) (fun c hc64 => ?_) (by omega) (by omega)
    · rw [tb_or, hv c hc64, tb_cl, fb_ct_succ]
      cases wi t i c with
      | true => simp
      | false => simp
    · rw [tb_or, tb_and, hv c hc64, hv2 c hc64, tb_cl, fb_ct_succ]
      cases wi t i c with
      | true =>
        simp only [Bool.and_true, if_true]
        by_cases q : 0 < fb_ct (fun h => wi t h c) i
        · have : 1 < fb_ct (fun h => wi t h c) i + 1 := by omega
          simp [q]
        · have : ¬ 1 < fb_ct (fun h => wi t h c) i := by omega
          have : ¬ 1 < fb_ct (fun h => wi t h c) i + 1 := by omega
          simp [q, *]
      | false => simp
theorem p_disputed {d : Nat} {t : St} (hw : Wf t) {M : Nm} (h : LandR d M t) : ∃ M', f_L_disputed d M = some (mor t 1, M') ∧ Fl d M M' ∧ LandR d M' t := by
  obtain ⟨M1, a1, a2, a3, a4⟩ := p_stakeClaims hw h
  unfold f_L_disputed
  rw [a1, bnd_s]
  exact ⟨M1, p_diL d hw M1 a3 a4 (nS t) FU 0 0 0 (fun c _ => tb_0 c) (fun c _ => tb_0 c) (by omega) (FU_gt (by have := hw.1; omega)), a2, a3⟩
/-! the richest -/
theorem p_LriL (d : Nat) {t : St} (hw : Wf t) (M : Nm) (h : LandR d M t) : ∀ (n f i : Nat), 0 < i → i + n = nS t → n < f → f_L_richest_L6 d f (nI (rcN t i)) (nI (cnH (hS t (rcN t i)))) (nI i) M = some (nI (rcN t (nS t)), M) := by
  have h6 := hw.1
  intro n
  induction n with
  | zero =>
    intro f i h0 hi hf
    obtain ⟨f, rfl⟩ : ∃ g, f = g + 1 := ⟨f - 1, by omega⟩
    rw [f_L_richest_L6, h.2.2.1, if_pos (nI_le (by omega) (by omega)), ← hi]
    rfl
  | succ n ih =>
    intro f i h0 hi hf
    obtain ⟨f, rfl⟩ : ∃ g, f = g + 1 := ⟨f - 1, by omega⟩
    have key := ih f (i + 1) (by omega) (by omega) (by omega)
    have c1 := (hw.2.2 i (by omega)).2.2.2.1
    have c2 := (hw.2.2 (rcN t i) (by have := rcN_lt t i h0; omega)).2.2.2.1
    rw [rcN_s] at key
    rw [f_L_richest_L6, h.2.2.1, if_neg (nI_ge (by omega) (by omega)), grd_h (inb_nI (by omega) (by decide)), grd_h (inb_nI (by omega) (by decide)), hnd_o (by omega), (h.2.2.2.1 i (by omega)).1.2.2.2.1, nI_1]
    by_cases q : cnH (hS t (rcN t i)) < cnH (hS t i)
    · rw [if_pos q] at key
      rw [if_neg (nI_ge q (by omega))]; exact key
    · rw [if_neg q] at key
      rw [if_pos (nI_le (by omega) (by omega))]; exact key
theorem p_Lrichest {d : Nat} {t : St} (hw : Wf t) {M : Nm} (h : LandR d M t) : f_L_richest d M = some (if nS t = 0 then -1 else nI (rcN t (nS t)), M) := by
  have h6 := hw.1
  unfold f_L_richest
  by_cases q : nS t = 0
  · rw [if_pos q, show FU = 999999 + 1 from rfl, f_L_richest_L6, h.2.2.1, q, if_pos (by decide)]
  · have c1 := (hw.2.2 0 (by omega)).2.2.2.1
    have key := p_LriL d hw M h (nS t - 1) 999999 1 (by omega) (by omega) (by omega)
    have e1 : rcN t 1 = 0 := by rw [rcN_s]; exact if_neg (Nat.lt_irrefl _)
    rw [e1] at key
    rw [if_neg q, show FU = 999999 + 1 from rfl, f_L_richest_L6, h.2.2.1, if_neg (show ¬ nI (nS t) ≤ 0 from nI_nle (by omega) (by omega)), grd_h (by decide), grd_h (by decide), show (0 : Int32) = nI 0 from rfl, hnd_o (by omega), (h.2.2.2.1 0 (by omega)).1.2.2.2.1, if_neg (show ¬ nI (cnH (hS t 0)) ≤ -1 by
      intro z
      have := nI_pos' (n := cnH (hS t 0)) (by omega)
      exact absurd (Int32.le_trans this z) (by decide)), nI_1]
    exact key
