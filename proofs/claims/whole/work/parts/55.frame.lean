/-! the class: which cells a step changes; a land's hands, its year -/
def Fr (a b : Nat) (M M' : Nm) : Prop := ∀ c, (c < a ∨ b ≤ c) → M'.1 c = M.1 c ∧ M'.2.1 c = M.2.1 c ∧ M'.2.2 c = M.2.2 c
theorem Fr.rf (a b : Nat) (M : Nm) : Fr a b M M := fun _ _ => ⟨rfl, rfl, rfl⟩
theorem Fr.tr {a b : Nat} {M M1 M2 : Nm} (h1 : Fr a b M M1) (h2 : Fr a b M1 M2) : Fr a b M M2 := fun c hc => ⟨(h2 c hc).1.trans (h1 c hc).1, (h2 c hc).2.1.trans (h1 c hc).2.1, (h2 c hc).2.2.trans (h1 c hc).2.2⟩
theorem Fr.w {a b a' b' : Nat} {M M' : Nm} (h : Fr a b M M') (h1 : a' ≤ a) (h2 : b ≤ b') : Fr a' b' M M' := fun c hc => h c (by omega)
theorem Fr.i {a b c : Nat} {M : Nm} {j : Nat} {v : Int32} (h1 : a ≤ c) (h2 : c < b) : Fr a b M (mI M c j v) := fun e he => ⟨mI_o (by omega), rfl, rfl⟩
theorem Fr.l {a b c : Nat} {M : Nm} {j : Nat} {v : Int64} (h1 : a ≤ c) (h2 : c < b) : Fr a b M (mL M c j v) := fun e he => ⟨rfl, mL_o (by omega), rfl⟩
theorem Fr.k {a b c : Nat} {M : Nm} {v : Nat} (h1 : a ≤ c) (h2 : c < b) : Fr a b M (mK M c v) := fun e he => ⟨rfl, rfl, va_up_ne _ _ (by omega)⟩
theorem Fr.t {a b c : Nat} {M : Nm} {s : Int64} {n : Nat} (h1 : a ≤ c) (h2 : c < b) : Fr a b M (tM M c s n) := Fr.tr (Fr.l h1 h2) (Fr.i h1 h2)
theorem Fl.fr {d : Nat} {M M' : Nm} (h : Fl d M M') : Fr d (d + 22) M M' := fun c hc => ⟨by rw [h.1], h.2.2 c (by omega), by rw [h.2.1]⟩
theorem Fi.fr {o : Nat} {M M' : Nm} (h : Fi o M M') : Fr o (o + 3) M M' := fun c hc => ⟨by rw [h.1], h.2.2.1 c (by omega), by rw [h.2.1]⟩
theorem Fr.hd {d h : Nat} {M M' : Nm} (hh : h < 6) (hf : Fr (ho d h) (ho d h + 3) M M') : Fr d (d + 22) M M' := hf.w (by unfold ho; omega) (by unfold ho; omega)
theorem HR.r {o a b : Nat} {M M' : Nm} {x : HS} (h : HR o M x) (hf : Fr a b M M') (hd : o + 3 ≤ a ∨ b ≤ o) : HR o M' x := h.f (fun c h1 h2 => (hf c (by omega)).1) (hf o (by omega)).2.1 (hf o (by omega)).2.2
/-- what the hands of a land have seen last is right -/
def Ca (d : Nat) (M : Nm) : Prop := ∀ h, h < 6 → M.2.1 (ho d h) 10 = encl (M.2.1 (ho d h) 9)
theorem LandR.ca {d : Nat} {M : Nm} {t : St} (h : LandR d M t) : Ca d M := h.2.2.2.2
theorem Ca.r {d a b : Nat} {M M' : Nm} (h : Ca d M) (hf : Fr a b M M') (hd : d + 20 ≤ a ∨ b ≤ d) : Ca d M' := fun k hk => by
  have e := (hf (ho d k) (by unfold ho; omega)).2.1
  rw [e]; exact h k hk
theorem LandR.r {d a b : Nat} {M M' : Nm} {t : St} (hn : nS t ≤ 6) (h : LandR d M t) (hf : Fr a b M M') (hd : d + 20 ≤ a ∨ b ≤ d) : LandR d M' t := by
  obtain ⟨p, q, r, s, u⟩ := h
  have e := hf d (by omega)
  refine ⟨by rw [e.2.1]; exact p, by rw [e.1]; exact q, by rw [e.1]; exact r, fun k hk => (s k hk).r hf (by unfold ho; omega), Ca.r u hf hd⟩
theorem LandR.up {d : Nat} {M M' : Nm} {t : St} (h : LandR d M t) {i : Nat} {x : HS} (hf : Fr (ho d i) (ho d i + 3) M M') (hr : HR (ho d i) M' x) : LandR d M' (upH t i x) := by
  obtain ⟨p, q, r, s, u⟩ := h
  have e := hf d (by unfold ho; omega)
  refine ⟨by rw [e.2.1]; exact p, by rw [e.1]; exact q, by rw [e.1]; exact r, fun k hk => ?_, fun k hk => ?_⟩
  · by_cases z : k = i
    · rw [z, upH_s]; exact hr
    · rw [upH_n z]; exact (s k hk).r hf (by unfold ho; omega)
  · by_cases z : k = i
    · rw [z]; exact hr.2.2.2
    · rw [(hf (ho d k) (by unfold ho; omega)).2.1]; exact u k hk
theorem p_gy6 (kk : Nm → Option (Unit × Nm)) {d : Nat} {t : St} (hw : Wf t) : ∀ (n f i : Nat) (M : Nm), LandR d M t → (∀ k, k < nS t → M.2.1 (d + 20) k = cl t k) → (∀ k, k < i → M.1 (d + 21) k = nI (owc t k)) → i + n = nS t → n < f → ∃ M', f_L_goYear_L6 kk d f (nI i) M = kk M' ∧ Fr d (d + 22) M M' ∧ LandR d M' t ∧ ∀ k, k < nS t → M'.1 (d + 21) k = nI (owc t k) := by
  have h6 := hw.1
  intro n
  induction n with
  | zero =>
    intro f i M h hc h0 hi hf
    obtain ⟨f, rfl⟩ : ∃ g, f = g + 1 := ⟨f - 1, by omega⟩
    exact ⟨M, by rw [f_L_goYear_L6, h.2.2.1, if_pos (nI_le (by omega) (by omega))], Fr.rf _ _ M, h, fun k hk => h0 k (by omega)⟩
  | succ n ih =>
    intro f i M h hc h0 hi hf
    obtain ⟨f, rfl⟩ : ∃ g, f = g + 1 := ⟨f - 1, by omega⟩
    have hF : Fr (d + 21) (d + 22) M (mI M (d + 21) i (nI (owc t i))) := Fr.i (Nat.le_refl _) (by omega)
    obtain ⟨M', b1, b2, b3, b4⟩ := ih f (i + 1) (mI M (d + 21) i (nI (owc t i))) (h.r h6 hF (by omega)) (fun k hk => hc k hk) (fun k hk => by
      rw [mI_u]
      by_cases q : k = i
      · rw [q, uw_s]
      · rw [uw_n q]; exact h0 k (by omega)) (by omega) (by omega)
    refine ⟨M', ?_, Fr.tr (hF.w (by omega) (by omega)) b2, b3, b4⟩
    rw [f_L_goYear_L6, h.2.2.1, if_neg (nI_ge (by omega) (by omega)), p_shareOf hw h hc (by omega), bnd_s, p_bitCount, bnd_s, grd_h (inb_nI (by omega) (by decide)), bl_e, ix_nI (by omega), nI_1]
    exact b1
theorem yP_i (t : St) (i : Nat) : hS (yP t i) i = hS t i := if_neg (Nat.lt_irrefl i)
theorem p_gy36 (kk : Nm → Option (Unit × Nm)) {d : Nat} {t : St} (hw : Wf t) : ∀ (n f i : Nat) (M : Nm), LandR d M (yP t i) → (∀ k, k < nS t → M.1 (d + 21) k = nI (owc t k)) → i + n = nS t → n < f → ∃ M', f_L_goYear_L36 kk d f (nI i) M = kk M' ∧ Fr d (d + 22) M M' ∧ LandR d M' (yP t (nS t)) := by
  have h6 := hw.1
  intro n
  induction n with
  | zero =>
    intro f i M h hc hi hf
    obtain ⟨f, rfl⟩ : ∃ g, f = g + 1 := ⟨f - 1, by omega⟩
    have e : i = nS t := by omega
    subst e
    have hz : M.1 d 2 = nI (nS t) := h.2.2.1
    exact ⟨M, by rw [f_L_goYear_L36, hz, if_pos (nI_le (by omega) (by omega))], Fr.rf _ _ M, h⟩
  | succ n ih =>
    intro f i M h hc hi hf
    obtain ⟨f, rfl⟩ : ∃ g, f = g + 1 := ⟨f - 1, by omega⟩
    have hz : M.1 d 2 = nI (nS t) := h.2.2.1
    have hr : HR (ho d i) M (hS (yP t i) i) := h.2.2.2.1 i (show i < nS t by omega)
    rw [yP_i] at hr
    obtain ⟨a, b, g1, g2⟩ := p_HgoYear (hw.2.2 i (by omega)) hr (owc_le t i)
    rw [yhx_e] at g2
    have hF : Fr (ho d i) (ho d i + 3) M (mI (mI M (ho d i) 2 a) (ho d i) 3 b) := Fr.tr (Fr.i (Nat.le_refl _) (by omega)) (Fr.i (Nat.le_refl _) (by omega))
    have hu := h.up hF g2
    rw [yP_s] at hu
    obtain ⟨M', b1, b2, b3⟩ := ih f (i + 1) _ hu (fun k hk => by rw [(hF (d + 21) (by unfold ho; omega)).1]; exact hc k hk) (by omega) (by omega)
    refine ⟨M', ?_, Fr.tr (Fr.hd (by omega) hF) b2, b3⟩
    rw [f_L_goYear_L36, hz, if_neg (nI_ge (by omega) (by omega)), grd_h (inb_nI (by omega) (by decide)), grd_h (inb_nI (by omega) (by decide)), hnd_o (by omega), ix_nI (by omega), hc i (by omega), g1, bnd_s, nI_1]
    exact b1
theorem p_LgoYear {d : Nat} {t : St} (hw : Wf t) {M : Nm} (h : LandR d M t) : ∃ M', f_L_goYear d M = some ((), M') ∧ Fr d (d + 22) M M' ∧ LandR d M' (yr t) := by
  have h6 := hw.1
  obtain ⟨M1, a1, a2, a3, a4⟩ := p_stakeClaims hw h
  obtain ⟨M2, b1, b2, b3, b4⟩ := p_gy6 (fun M8 => f_L_goYear_L36 (fun M12 => bl (mL M12 d 0 ((M12.2.1 d 0) &&& ((M12.2.1 d 0) - 1))) fun M13 => bl (mI M13 d 1 ((M13.1 d 1) + 1)) fun M14 => some ((), M14)) d FU 0 M8) hw (nS t) FU 0 M1 a3 a4 (fun k hk => by omega) (by omega) (FU_gt (by omega))
  obtain ⟨M3, c1, c2, c3⟩ := p_gy36 (fun M12 => bl (mL M12 d 0 ((M12.2.1 d 0) &&& ((M12.2.1 d 0) - 1))) fun M13 => bl (mI M13 d 1 ((M13.1 d 1) + 1)) fun M14 => some ((), M14)) hw (nS t) FU 0 M2 (by rw [yP_0]; exact b3) b4 (by omega) (FU_gt (by omega))
  have hF : Fr d (d + 1) M3 (mI (mL M3 d 0 (sS t &&& (sS t - 1))) d 1 (yS t + 1)) := Fr.tr (Fr.l (Nat.le_refl _) (by omega)) (Fr.i (Nat.le_refl _) (by omega))
  obtain ⟨p, q, r, s, u⟩ := c3
  have hp : M3.2.1 d 0 = sS t := p
  have hq : M3.1 d 1 = yS t := q
  refine ⟨mI (mL M3 d 0 (sS t &&& (sS t - 1))) d 1 (yS t + 1), ?_, Fr.tr a2.fr (Fr.tr b2 (Fr.tr c2 (hF.w (by omega) (by omega)))), ?_, ?_, ?_, fun k hk => (s k hk).r hF (by unfold ho; omega), fun k hk => ?_⟩
  · unfold f_L_goYear
    rw [a1, bnd_s]
    refine Eq.trans b1 (Eq.trans c1 ?_)
    rw [bl_e, bl_e, hp, mL_I, hq]
  · rw [mI_L, mL_s, if_pos rfl]; rfl
  · rw [mI_u, uw_s]; rfl
  · rw [mI_u, uw_n (by decide), mL_I]; exact r
  · rw [(hF (ho d k) (by unfold ho; omega)).2.1]; exact u k hk
theorem p_gysL {d m : Nat} (hm : m < 100) : ∀ (n f i : Nat) {t : St} (M : Nm), Wf t → LandR d M t → i + n = m → n < f → ∃ M', f_L_goYears_L2 d (nI m) f (nI i) M = some ((), M') ∧ Fr d (d + 22) M M' ∧ LandR d M' (yrs n t) := by
  intro n
  induction n with
  | zero =>
    intro f i t M hw h hi hf
    obtain ⟨f, rfl⟩ : ∃ g, f = g + 1 := ⟨f - 1, by omega⟩
    exact ⟨M, by rw [f_L_goYears_L2, if_pos (nI_le (by omega) (by omega))], Fr.rf _ _ M, h⟩
  | succ n ih =>
    intro f i t M hw h hi hf
    obtain ⟨f, rfl⟩ : ∃ g, f = g + 1 := ⟨f - 1, by omega⟩
    obtain ⟨M1, a1, a2, a3⟩ := p_LgoYear hw h
    obtain ⟨M', b1, b2, b3⟩ := ih f (i + 1) M1 (wf_yr hw) a3 (by omega) (by omega)
    refine ⟨M', ?_, Fr.tr a2 b2, b3⟩
    rw [f_L_goYears_L2, if_neg (nI_ge (by omega) (by omega)), a1, bnd_s, nI_1]
    exact b1
theorem p_goYears {d n : Nat} (hn : n < 100) {t : St} (hw : Wf t) {M : Nm} (h : LandR d M t) : ∃ M', f_L_goYears d (nI n) M = some ((), M') ∧ Fr d (d + 22) M M' ∧ LandR d M' (yrs n t) :=
  p_gysL hn n FU 0 M hw h (by omega) (FU_gt (by omega))
