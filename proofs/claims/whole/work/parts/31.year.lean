/-! the reference: a year -/
theorem ex_tr {α : Type} {a b : Option (α × Nm)} {v : α} {P : Nm → Prop} (h : a = b) (g : ∃ M', b = some (v, M') ∧ P M') : ∃ M', a = some (v, M') ∧ P M' := by rw [h]; exact g
def inkY (t : St) (h : Nat) : Nat := if wrS t h then ikH (hS t h) - cst (hS t h) + owc t h else ikH (hS t h) + 5
def cornY (t : St) (h : Nat) : Nat := cnH (hS t h) + (if wrS t h then owc t h * cr (kdH (hS t h)) else 0)
def yh (t : St) (h : Nat) : HS := scn (sik (hS t h) (if inkY t h ≤ 999 then inkY t h else 999)) (if cornY t h ≤ 99999 then cornY t h else 99999)
def yP (t : St) (i : Nat) : St := (nS t, yS t, sS t, fun k => if k < i then yh t k else hS t k)
def yr (t : St) : St := (nS t, yS t + 1, sS t &&& (sS t - 1), fun k => if k < nS t then yh t k else hS t k)
theorem inkY_le {t : St} (hw : Wf t) {h : Nat} (hh : h < nS t) : inkY t h ≤ 2000 := by
  have h1 := (hw.2.2 h hh).2.2.1
  have h2 := owc_le t h
  unfold inkY
  split <;> omega
theorem cornY_le {t : St} (hw : Wf t) {h : Nat} (hh : h < nS t) : cornY t h ≤ 200000 := by
  have h1 := (hw.2.2 h hh).2.2.2.1
  have h2 := owc_le t h
  have h3 := cr_le _ (hw.2.2 h hh).1
  have h4 := Nat.mul_le_mul h2 h3
  unfold cornY
  split <;> omega
theorem wf_yh {t : St} (hw : Wf t) {h : Nat} (hh : h < nS t) : WfH (yh t h) := by
  apply WfH.scn
  · apply WfH.sik (hw.2.2 h hh)
    split <;> omega
  · split <;> omega
theorem wf_yP {t : St} (hw : Wf t) (i : Nat) : Wf (yP t i) := ⟨hw.1, hw.2.1, fun h hh => by
  show WfH (if h < i then yh t h else hS t h)
  split
  · exact wf_yh hw hh
  · exact hw.2.2 h hh⟩
theorem wf_yr {t : St} (hw : Wf t) : Wf (yr t) := ⟨hw.1, lo48_and hw.2.1, (wf_yP hw (nS t)).2.2⟩
theorem yP_0 (t : St) : yP t 0 = t := rfl
theorem yP_s (t : St) (i : Nat) : upH (yP t i) i (yh t i) = yP t (i + 1) := by
  unfold upH yP
  refine congrArg (fun g => (nS t, yS t, sS t, g)) (funext fun k => ?_)
  show (if k = i then yh t i else if k < i then yh t k else hS t k) = if k < i + 1 then yh t k else hS t k
  by_cases e : k = i
  · subst e; rw [if_pos rfl, if_pos (by omega)]
  · rw [if_neg e]
    by_cases q : k < i
    · rw [if_pos q, if_pos (by omega)]
    · rw [if_neg q, if_neg (by omega)]
/-- owned, or -1 of a hand that does not write -/
def ownI (t : St) (h : Nat) : Int32 := if wrS t h then nI (owc t h) else -1
theorem p_y6 (kk : Nm → Option (Unit × Nm)) {t : St} (hw : Wf t) : ∀ (n f i : Nat) (M : Nm), Rn M t → (∀ h, h < i → M.1 95 h = ownI t h) → i + n = nS t → n < f → ∃ M', f_M_year_L6 kk f (nI i) M = kk M' ∧ Sc M M' ∧ Rn M' t ∧ ∀ h, h < nS t → M'.1 95 h = ownI t h := by
  have hn := hw.1
  intro n
  induction n with
  | zero =>
    intro f i M hR ho hi hf
    obtain ⟨f, rfl⟩ : ∃ g, f = g + 1 := ⟨f - 1, by omega⟩
    refine ⟨M, ?_, Sc.rf M, hR, fun h hh => ho h (by omega)⟩
    rw [f_M_year_L6, g0, ix0, hR.1.1, if_pos (nI_le (by omega) (by omega))]
  | succ n ih =>
    intro f i M hR ho hi hf
    obtain ⟨f, rfl⟩ : ∃ g, f = g + 1 := ⟨f - 1, by omega⟩
    obtain ⟨n1, n2, n3⟩ := hR.2 i (by omega)
    have key : ∃ M', f_M_year_L6 kk f (nI (i + 1)) (mI M 95 i (ownI t i)) = kk M' ∧ Sc (mI M 95 i (ownI t i)) M' ∧ Rn M' t ∧ ∀ h, h < nS t → M'.1 95 h = ownI t h := by
      refine ih f (i + 1) (mI M 95 i (ownI t i)) ⟨?_, fun h hh => ?_⟩ (fun h hh => ?_) (by omega) (by omega)
      · rw [mI_o (by decide)]; exact hR.1
      · obtain ⟨a, b, c⟩ := hR.2 h hh
        exact ⟨a, b, by rw [mI_o (by decide)]; exact c⟩
      · rw [mI_s]
        by_cases e : h = i
        · rw [if_pos e, e]
        · rw [if_neg e]; exact ho h (by omega)
    obtain ⟨M', k1, k2, k3, k4⟩ := key
    refine ⟨M', ?_, Sc.tr Sc.o k2, k3, k4⟩
    rw [← k1, f_M_year_L6, g0, ix0, hR.1.1, if_neg (nI_ge (by omega) (by omega)), p_writes hw (by omega) M hR.1 n3, bnd_s]
    by_cases e : wrS t i = true
    · rw [if_neg (bI_t e), p_ownedBy hw (by omega) M hR, bnd_s, grd_h (inb_nI (by omega) (by decide)), bl_e, ix_nI (by omega), nI_1]
      unfold ownI
      rw [if_pos e]
    · have e2 : wrS t i = false := by simpa using e
      rw [if_pos (bI_f e2), grd_h (inb_nI (by omega) (by decide)), bl_e, ix_nI (by omega), nI_1]
      unfold ownI
      rw [if_neg e]
theorem p_y147 (kk : Int32 → Nm → Option (Unit × Nm)) {h : Nat} (hh : h < 6) (b a : Nat) (hb : b < 2 ^ 31) (s0 : Int32) (hs : s0 = nI a) (M : Nm) : f_M_year_B147 kk (nI h) (nI b) s0 (nI (50 + 21 * h + 2)) M = kk (nI (h + 1)) (mI (mI M 87 (50 + 21 * h + 2) (nI a)) 87 (50 + 21 * h + 3) (nI (if b ≤ 99999 then b else 99999))) := by
  unfold f_M_year_B147
  rw [grd_h (inb_nI (by omega) (by decide)), bl_e, ix_nI (by omega), show ∀ M, f_M_spot (nI h) 3 M = some (nI (50 + 21 * h + 3), M) from fun M => p_spot h 3 M, bnd_s, grd_h (inb_nI (by omega) (by decide)), bl_e, grd_h (inb_nI (by omega) (by decide)), bl_e, ix_nI (by omega), nI_1, hs]
  by_cases e : b ≤ 99999
  · rw [if_pos (show nI b ≤ (99999 : Int32) from nI_le (b := 99999) e (by decide)), if_pos e]
  · rw [if_neg (show ¬ nI b ≤ (99999 : Int32) from nI_ge (a := 99999) (by omega) hb), if_neg e]
    rfl
theorem p_y122 (kk : Int32 → Nm → Option (Unit × Nm)) {h : Nat} (hh : h < 6) (a b0 b1 : Nat) (ha : a < 2 ^ 31) (hb : b1 + b0 < 2 ^ 31) (M : Nm) : f_M_year_B122 kk (nI h) (nI a) (nI b0) (nI b1) M = kk (nI (h + 1)) (mI (mI M 87 (50 + 21 * h + 2) (nI (if a ≤ 999 then a else 999))) 87 (50 + 21 * h + 3) (nI (if b1 + b0 ≤ 99999 then b1 + b0 else 99999))) := by
  unfold f_M_year_B122
  rw [show ∀ M, f_M_spot (nI h) 2 M = some (nI (50 + 21 * h + 2), M) from fun M => p_spot h 2 M, bnd_s, nI_add]
  by_cases e : a ≤ 999
  · rw [if_pos (show nI a ≤ (999 : Int32) from nI_le (b := 999) e (by decide)), p_y147 kk hh _ a hb _ rfl, if_pos e]
  · rw [if_neg (show ¬ nI a ≤ (999 : Int32) from nI_ge (a := 999) (by omega) ha), p_y147 kk hh _ 999 hb 999 (show (999 : Int32) = nI 999 from rfl), if_neg e]
theorem sub_nI {a b c : Nat} (h : b ≤ a) : nI a + (nI c - nI b) = nI (a - b + c) := by
  have e : nI a = nI (a - b) + nI b := by rw [nI_add]; congr 1; omega
  rw [e, Int32.add_assoc, Int32.add_comm (nI b), Int32.sub_add_cancel, nI_add]
theorem p_y89 (kk : Int32 → Nm → Option (Unit × Nm)) {t : St} {i : Nat} (hi : i < 6) (s0 s1 : Int32) (M : Nm) (hr : RwH (M.1 87) i (hS t i)) (hk : kdH (hS t i) < 6) (ho : M.1 95 i = ownI t i) : f_M_year_B89 kk (nI i) s0 s1 M = f_M_year_B122 kk (nI i) (s1 + s0) (if wrS t i then nI (owc t i * cr (kdH (hS t i))) else nI 0) (nI (cnH (hS t i))) M := by
  have q3 := owc_le t i
  unfold f_M_year_B89
  rw [p_its3 hi, bnd_s, hr.2.2.2.1, grd_h (inb_nI hi (by decide)), grd_h (inb_nI hi (by decide)), ix_nI (by omega), ho, p_cropOf hi M hk hr.1, bnd_s]
  by_cases e : wrS t i = true
  · have eo : ownI t i = nI (owc t i) := if_pos e
    rw [eo, if_pos (nI_pos' (by omega)), if_pos e, pk_mul]
  · have eo : ownI t i = -1 := if_neg e
    rw [eo, if_neg (by decide), if_neg e]
    rfl
theorem p_y47 (kk : Nm → Option (Unit × Nm)) {t : St} (hw : Wf t) : ∀ (n f i : Nat) (M : Nm), Rw (M.1 87) (yP t i) → (∀ h, h < nS t → M.1 95 h = ownI t h) → (∀ h, h < nS t → M.1 94 h = nI (cst (hS t h))) → i + n = nS t → n < f → ∃ M', f_M_year_L47 kk f (nI i) M = kk M' ∧ Sd M M' ∧ Rw (M'.1 87) (yP t (nS t)) := by
  have hn := hw.1
  intro n
  induction n with
  | zero =>
    intro f i M hR ho hc hi hf
    obtain ⟨f, rfl⟩ : ∃ g, f = g + 1 := ⟨f - 1, by omega⟩
    refine ⟨M, ?_, Sd.rf M, by rw [← hi]; exact hR⟩
    rw [f_M_year_L47, g0, ix0, show M.1 87 0 = nI (nS t) from hR.1, if_pos (nI_le (show nS t ≤ i by omega) (by omega))]
  | succ n ih =>
    intro f i M hR ho hc hi hf
    obtain ⟨f, rfl⟩ : ∃ g, f = g + 1 := ⟨f - 1, by omega⟩
    have hx : hS (yP t i) i = hS t i := if_neg (Nat.lt_irrefl i)
    have hr : RwH (M.1 87) i (hS t i) := by have := hR.2.2.2 i (show i < nS t by omega); rw [hx] at this; exact this
    have hwf := hw.2.2 i (by omega)
    have q1 := inkY_le hw (show i < nS t by omega)
    have q2 := cornY_le hw (show i < nS t by omega)
    have q3 := owc_le t i
    have fin : f_M_year_L47 kk (f + 1) (nI i) M = f_M_year_L47 kk f (nI (i + 1)) (mI (mI M 87 (50 + 21 * i + 2) (nI (if inkY t i ≤ 999 then inkY t i else 999))) 87 (50 + 21 * i + 3) (nI (if cornY t i ≤ 99999 then cornY t i else 99999))) := by
      rw [f_M_year_L47, g0, ix0, show M.1 87 0 = nI (nS t) from hR.1, if_neg (nI_ge (show i < nS t by omega) (by omega)), p_its2 (by omega), bnd_s, hr.2.2.1, grd_h (inb_nI (by omega) (by decide)), grd_h (inb_nI (by omega) (by decide)), grd_h (inb_nI (by omega) (by decide)), ix_nI (by omega), ho i (by omega), hc i (by omega)]
      rw [p_y89 _ (by omega) _ _ M hr hwf.1 (ho i (by omega)), p_y89 _ (by omega) _ _ M hr hwf.1 (ho i (by omega))]
      by_cases e : wrS t i = true
      · have e2 : cst (hS t i) ≤ ikH (hS t i) := by simpa [wrS] using e
        have eo : ownI t i = nI (owc t i) := if_pos e
        have ei : inkY t i = ikH (hS t i) - cst (hS t i) + owc t i := if_pos e
        have ec : cornY t i = cnH (hS t i) + owc t i * cr (kdH (hS t i)) := by unfold cornY; rw [if_pos e]
        rw [eo, if_pos (nI_pos' (by omega)), if_pos e, sub_nI e2, p_y122 _ (by omega) _ _ _ (by omega) (by omega), ei, ec]
      · have eo : ownI t i = -1 := if_neg e
        have ei : inkY t i = ikH (hS t i) + 5 := if_neg e
        have ec : cornY t i = cnH (hS t i) + 0 := by unfold cornY; rw [if_neg e]
        rw [eo, if_neg (show ¬ (0 : Int32) ≤ -1 by decide), if_neg e, show (5 : Int32) = nI 5 from rfl, nI_add, p_y122 _ (by omega) _ _ _ (by omega) (by omega), ei, ec]
    rw [fin]
    obtain ⟨M', k1, k2, k3⟩ := ih f (i + 1) (mI (mI M 87 (50 + 21 * i + 2) (nI (if inkY t i ≤ 999 then inkY t i else 999))) 87 (50 + 21 * i + 3) (nI (if cornY t i ≤ 99999 then cornY t i else 99999))) (by
      rw [mI_u, mI_u, ← yP_s]
      exact Rw_h (wf_yP hw i) hR (fun j hj => by rw [uw_n (by omega), uw_n (by omega)]) (RwH.scn (RwH.sik hr _) _)) (fun h hh => by rw [mI_o (by decide), mI_o (by decide)]; exact ho h hh) (fun h hh => by rw [mI_o (by decide), mI_o (by decide)]; exact hc h hh) (by omega) (by omega)
    exact ⟨M', k1, Sd.tr Sd.p (Sd.tr Sd.p k2), k3⟩
theorem p_y178 (kk : Int32 → Nm → Option (Unit × Nm)) {x : Int64} (M : Nm) (hs : ∀ c, c < 48 → M.1 87 (2 + c) = bI (tb x c)) : ∀ (n f i : Nat), i + n = 48 → n < f → (∀ j, j < i → tb x j = false) → ∃ k, k ≤ 48 ∧ (∀ j, j < k → tb x j = false) ∧ (k < 48 → tb x k = true) ∧ f_M_year_L178 kk f (nI i) M = kk (nI k) M := by
  intro n
  induction n with
  | zero =>
    intro f i hi hf h0
    obtain ⟨f, rfl⟩ : ∃ g, f = g + 1 := ⟨f - 1, by omega⟩
    have : i = 48 := by omega
    subst this
    exact ⟨48, Nat.le_refl _, h0, fun q => by omega, by rw [f_M_year_L178, if_pos (by decide)]⟩
  | succ n ih =>
    intro f i hi hf h0
    obtain ⟨f, rfl⟩ : ∃ g, f = g + 1 := ⟨f - 1, by omega⟩
    have e2 : (2 : Int32) + nI i = nI (2 + i) := nI_add 2 i
    by_cases e : tb x i = true
    · refine ⟨i, by omega, h0, fun _ => e, ?_⟩
      rw [f_M_year_L178, if_neg (show ¬ (48 : Int32) ≤ nI i from nI_ge (b := 48) (by omega) (by decide)), e2, grd_h (inb_nI (by omega) (by decide)), ix_nI (by omega), hs i (by omega), if_neg (bI_t e)]
    · have e3 : tb x i = false := by simpa using e
      obtain ⟨k, k1, k2, k3, k4⟩ := ih f (i + 1) (by omega) (by omega) (fun j hj => by
        by_cases q : j = i
        · rw [q]; exact e3
        · exact h0 j (by omega))
      refine ⟨k, k1, k2, k3, ?_⟩
      rw [f_M_year_L178, if_neg (show ¬ (48 : Int32) ≤ nI i from nI_ge (b := 48) (by omega) (by decide)), e2, grd_h (inb_nI (by omega) (by decide)), ix_nI (by omega), hs i (by omega), if_pos (bI_f e3), nI_1]
      exact k4
theorem p_year {t : St} (hw : Wf t) (M : Nm) (hR : Rw (M.1 87) t) : ∃ M', f_M_year M = some ((), M') ∧ Sd M M' ∧ Rw (M'.1 87) (yr t) := by
  have hn := hw.1
  obtain ⟨M1, a1, a2, a3⟩ := p_writeAll hw M hR
  have hR1 := Rn.of hR a2 a3
  unfold f_M_year
  rw [a1, bnd_s]
  obtain ⟨M2, b1, b2, b3, b4⟩ := p_y6 (fun M9 => f_M_year_L47 (fun M23 => f_M_year_L178 (fun y25 M24 => if 48 ≤ y25 then (grd (inb 1 176) <| grd (inb 1 176) <| bl (mI M24 87 (ix 1) ((M24.1 87 (ix 1)) + 1)) fun M26 => some ((), M26)) else (grd (inb (2 + y25) 176) <| bl (mI M24 87 (ix (2 + y25)) 0) fun M27 => grd (inb 1 176) <| grd (inb 1 176) <| bl (mI M27 87 (ix 1) ((M27.1 87 (ix 1)) + 1)) fun M28 => some ((), M28))) FU 0 M23) FU 0 M9) hw (nS t) FU 0 M1 hR1 (fun h hh => by omega) (by omega) (FU_gt (by omega))
  obtain ⟨M3, c1, c2, c3⟩ := p_y47 (fun M23 => f_M_year_L178 (fun y25 M24 => if 48 ≤ y25 then (grd (inb 1 176) <| grd (inb 1 176) <| bl (mI M24 87 (ix 1) ((M24.1 87 (ix 1)) + 1)) fun M26 => some ((), M26)) else (grd (inb (2 + y25) 176) <| bl (mI M24 87 (ix (2 + y25)) 0) fun M27 => grd (inb 1 176) <| grd (inb 1 176) <| bl (mI M27 87 (ix 1) ((M27.1 87 (ix 1)) + 1)) fun M28 => some ((), M28))) FU 0 M23) hw (nS t) FU 0 M2 (by rw [yP_0]; exact b3.1) b4 (fun h hh => (b3.2 h hh).2.2) (by omega) (FU_gt (by omega))
  obtain ⟨k, k1, k2, k3, k4⟩ := p_y178 (fun y25 M24 => if 48 ≤ y25 then (grd (inb 1 176) <| grd (inb 1 176) <| bl (mI M24 87 (ix 1) ((M24.1 87 (ix 1)) + 1)) fun M26 => some ((), M26)) else (grd (inb (2 + y25) 176) <| bl (mI M24 87 (ix (2 + y25)) 0) fun M27 => grd (inb 1 176) <| grd (inb 1 176) <| bl (mI M27 87 (ix 1) ((M27.1 87 (ix 1)) + 1)) fun M28 => some ((), M28))) (x := sS t) M3 c3.2.2.1 48 FU 0 rfl (FU_gt (by decide)) (fun j hj => by omega)
  refine ex_tr (b1.trans (c1.trans k4)) ?_
  have hs3 : Sd M M3 := Sd.tr a2.sd (Sd.tr b2.sd c2)
  by_cases e : k = 48
  · subst e
    rw [if_pos (by decide), g1, g1, bl_e, ix1]
    refine ⟨_, rfl, Sd.tr hs3 Sd.p, ?_⟩
    rw [mI_u]
    have h0 : sS t = 0 := tb_ext fun c hc => by
      rw [tb_0]
      by_cases q : c < 48
      · exact k2 c q
      · exact hw.2.1 c (by omega)
    refine ⟨?_, ?_, fun c hc => ?_, fun h hh => ?_⟩
    · rw [uw_n (by decide)]; exact c3.1
    · rw [uw_s, c3.2.1]; rfl
    · rw [uw_n (by omega), c3.2.2.1 c hc]
      show bI (tb (sS t) c) = bI (tb (sS t &&& (sS t - 1)) c)
      rw [tb_and, h0, tb_0]; rfl
    · exact RwH_f (c3.2.2.2 h hh) ((wf_yP hw (nS t)).2.2 h hh).2.2.2.2.1 (fun j h1 h2 => uw_n (by omega))
  · have e2 : (2 : Int32) + nI k = nI (2 + k) := nI_add 2 k
    rw [if_neg (show ¬ (48 : Int32) ≤ nI k from nI_ge (b := 48) (by omega) (by decide)), e2, grd_h (inb_nI (by omega) (by decide)), bl_e, ix_nI (by omega), g1, g1, bl_e, ix1]
    refine ⟨_, rfl, Sd.tr hs3 (Sd.tr Sd.p Sd.p), ?_⟩
    rw [mI_u, mI_u]
    refine ⟨?_, ?_, fun c hc => ?_, fun h hh => ?_⟩
    · rw [uw_n (by decide), uw_n (by omega)]; exact c3.1
    · rw [uw_s, uw_n (by omega), c3.2.1]; rfl
    · show _ = bI (tb (sS t &&& (sS t - 1)) c)
      rw [uw_n (by omega), low_off (k3 (by omega)) k2]
      by_cases q : c = k
      · subst q
        rw [uw_s]
        simp [bI]
      · rw [uw_n (by omega), c3.2.2.1 c hc]
        show bI (tb (sS t) c) = _
        simp [q]
    · exact RwH_f (c3.2.2.2 h hh) ((wf_yP hw (nS t)).2.2 h hh).2.2.2.2.1 (fun j h1 h2 => by rw [uw_n (by omega), uw_n (by omega)])
/-- years -/
def yrs : Nat → St → St
  | 0, t => t
  | n + 1, t => yrs n (yr t)
theorem wf_yrs : ∀ (n : Nat) {t : St}, Wf t → Wf (yrs n t)
  | 0, _, h => h
  | n + 1, _, h => wf_yrs n (wf_yr h)
theorem nS_yrs : ∀ (n : Nat) (t : St), nS (yrs n t) = nS t
  | 0, _ => rfl
  | n + 1, t => (nS_yrs n (yr t)).trans rfl
theorem p_goL {m : Nat} (hm : m < 100) : ∀ (n f i : Nat) {t : St} (M : Nm), Wf t → Rw (M.1 87) t → i + n = m → n < f → ∃ M', f_M_goesOn_L2 (nI m) f (nI i) M = some ((), M') ∧ Sd M M' ∧ Rw (M'.1 87) (yrs n t) := by
  intro n
  induction n with
  | zero =>
    intro f i t M hw hR hi hf
    obtain ⟨f, rfl⟩ : ∃ g, f = g + 1 := ⟨f - 1, by omega⟩
    exact ⟨M, by rw [f_M_goesOn_L2, if_pos (nI_le (by omega) (by omega))], Sd.rf M, hR⟩
  | succ n ih =>
    intro f i t M hw hR hi hf
    obtain ⟨f, rfl⟩ : ∃ g, f = g + 1 := ⟨f - 1, by omega⟩
    obtain ⟨M1, a1, a2, a3⟩ := p_year hw M hR
    obtain ⟨M2, b1, b2, b3⟩ := ih f (i + 1) M1 (wf_yr hw) a3 (by omega) (by omega)
    refine ⟨M2, ?_, Sd.tr a2 b2, b3⟩
    rw [f_M_goesOn_L2, if_neg (nI_ge (by omega) (by omega)), a1, bnd_s, nI_1]
    exact b1
theorem p_goesOn {n : Nat} (hn : n < 100) {t : St} (hw : Wf t) (M : Nm) (hR : Rw (M.1 87) t) : ∃ M', f_M_goesOn (nI n) M = some ((), M') ∧ Sd M M' ∧ Rw (M'.1 87) (yrs n t) :=
  p_goL hn n FU 0 M hw hR (by omega) (FU_gt (by omega))
