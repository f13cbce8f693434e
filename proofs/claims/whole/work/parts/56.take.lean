/-! the class: a land taken over, a new hand, a stroke -/
theorem ix8 : ix 8 = 8 := by decide
theorem mCi_o {M : Nm} {a b c : Nat} {s u n : Int32} (h : c ≠ b) : (mCi M a s b u n).1 c = M.1 c := va_up_ne _ _ h
theorem mCi_s {M : Nm} {a b i : Nat} (h : i < 8) : (mCi M a 0 b 0 8).1 b i = M.1 a i := by
  show va_up M.1 b (va_cpy (M.1 a) (M.1 b) (ix 0) (ix 0) (ix 8)) b i = _
  rw [va_up_self, ix0, ix8]
  simp [va_cpy, h]
theorem Fr.c {a b c e : Nat} {M : Nm} {s u n : Int32} (h1 : a ≤ c) (h2 : c < b) : Fr a b M (mCi M e s c u n) := fun k hk => ⟨mCi_o (by omega), rfl, rfl⟩
theorem p_HtakeFrom {o c1 : Nat} (hd : o + 3 ≤ c1 ∨ c1 + 3 ≤ o) {M : Nm} {x : HS} (hx : nsH x ≤ 8) (h : HR c1 M x) : ∃ M', f_H_takeFrom o c1 M = some ((), M') ∧ Fr o (o + 3) M M' ∧ HR o M' x := by
  obtain ⟨⟨a, b, c, d, e, f⟩, g, i, j⟩ := h
  unfold f_H_takeFrom
  rw [bl_e, bl_e, bl_e, bl_e, bl_e, grd_h (show (inc 0 8 8 && inc 0 8 8) = true by decide), bl_e, grd_h (show (inc 0 8 8 && inc 0 8 8) = true by decide), bl_e, bl_e, bl_e, bl_e, bl_e]
  have n1 : c1 ≠ o := by omega
  have n2 : c1 ≠ o + 1 := by omega
  have n3 : c1 ≠ o + 2 := by omega
  have n4 : c1 + 1 ≠ o := by omega
  have n5 : c1 + 1 ≠ o + 1 := by omega
  have n6 : c1 + 1 ≠ o + 2 := by omega
  have n7 : c1 + 2 ≠ o := by omega
  have n8 : c1 + 2 ≠ o + 1 := by omega
  have n9 : c1 + 2 ≠ o + 2 := by omega
  have n10 : o ≠ o + 1 := by omega
  have n11 : o ≠ o + 2 := by omega
  have n12 : o + 1 ≠ o := by omega
  have n13 : o + 2 ≠ o := by omega
  have n14 : o + 1 ≠ o + 2 := by omega
  have n15 : o + 2 ≠ o + 1 := by omega
  refine ⟨_, rfl, ?_, ⟨?_, ?_, ?_, ?_, ?_, fun k hk => ⟨?_, ?_⟩⟩, ?_, ?_, ?_⟩
  · refine Fr.tr (Fr.k (Nat.le_refl _) (by omega)) (Fr.tr (Fr.i (Nat.le_refl _) (by omega)) (Fr.tr (Fr.i (Nat.le_refl _) (by omega)) (Fr.tr (Fr.i (Nat.le_refl _) (by omega)) (Fr.tr (Fr.i (Nat.le_refl _) (by omega)) (Fr.tr (Fr.c (by omega) (by omega)) (Fr.tr (Fr.c (by omega) (by omega)) (Fr.tr (Fr.l (Nat.le_refl _) (by omega)) (Fr.tr (Fr.i (Nat.le_refl _) (by omega)) (Fr.tr (Fr.l (Nat.le_refl _) (by omega)) (Fr.l (Nat.le_refl _) (by omega)))))))))))
  · show va_up M.2.2 o (M.2.2 c1) o = _
    rw [va_up_self]; exact a
  · rw [mL_I, mL_I, mI_s, if_neg (by decide), mL_I, mCi_o n11, mCi_o n10, mI_s, if_neg (by decide), mI_s, if_neg (by decide), mI_s, if_neg (by decide), mI_s, if_pos rfl]; exact b
  · rw [mL_I, mL_I, mI_s, if_neg (by decide), mL_I, mCi_o n11, mCi_o n10, mI_s, if_neg (by decide), mI_s, if_neg (by decide), mI_s, if_pos rfl, mI_o n1]; exact c
  · rw [mL_I, mL_I, mI_s, if_neg (by decide), mL_I, mCi_o n11, mCi_o n10, mI_s, if_neg (by decide), mI_s, if_pos rfl, mI_o n1, mI_o n1]; exact d
  · rw [mL_I, mL_I, mI_s, if_neg (by decide), mL_I, mCi_o n11, mCi_o n10, mI_s, if_pos rfl, mI_o n1, mI_o n1, mI_o n1]; exact e
  · rw [mL_I, mL_I, mI_o n12, mL_I, mCi_o n14, mCi_s (by omega), mI_o n4, mI_o n4, mI_o n4, mI_o n4]; exact (f k hk).1
  · rw [mL_I, mL_I, mI_o n13, mL_I, mCi_s (by omega), mCi_o n8, mI_o n7, mI_o n7, mI_o n7, mI_o n7]; exact (f k hk).2
  · rw [mL_s, if_neg (by decide), mL_s, if_neg (by decide), mI_L, mL_s, if_pos rfl]; exact g
  · rw [mL_I, mL_I, mI_s, if_pos rfl, mL_I, mCi_o n3, mCi_o n2, mI_o n1, mI_o n1, mI_o n1, mI_o n1]; exact i
  · rw [mL_s, if_pos rfl, mL_o n1, mI_L, mL_o n1, mL_s, if_neg (by decide), mL_s, if_pos rfl]; exact j
/-- the first i hands are taken over -/
def LandI (d i : Nat) (M : Nm) (t : St) : Prop := M.2.1 d 0 = sS t ∧ M.1 d 1 = yS t ∧ M.1 d 2 = nI (nS t) ∧ (∀ h, h < i → HR (ho d h) M (hS t h)) ∧ Ca d M
theorem p_tkL {d e : Nat} (hde : d + 22 ≤ e ∨ e + 22 ≤ d) {t : St} (hw : Wf t) : ∀ (n f i : Nat) (M : Nm), LandI d i M t → LandR e M t → i + n = nS t → n < f → ∃ M', f_L_takeFrom_L26 (fun M8 => some ((), M8)) d e f (nI i) M = some ((), M') ∧ Fr d (d + 22) M M' ∧ LandR d M' t := by
  have h6 := hw.1
  intro n
  induction n with
  | zero =>
    intro f i M h he hi hf
    obtain ⟨f, rfl⟩ : ∃ g, f = g + 1 := ⟨f - 1, by omega⟩
    have q : i = nS t := by omega
    subst q
    exact ⟨M, by rw [f_L_takeFrom_L26, h.2.2.1, if_pos (nI_le (by omega) (by omega))], Fr.rf _ _ M, h⟩
  | succ n ih =>
    intro f i M h he hi hf
    obtain ⟨f, rfl⟩ : ∃ g, f = g + 1 := ⟨f - 1, by omega⟩
    obtain ⟨M1, a1, a2, a3⟩ := p_HtakeFrom (o := ho d i) (c1 := ho e i) (by unfold ho; omega) (hw.2.2 i (by omega)).2.2.2.2.1 (he.2.2.2.1 i (by omega))
    have hF := Fr.hd (d := d) (h := i) (by omega) a2
    obtain ⟨p, q, r, s, u⟩ := h
    have e0 := a2 d (by unfold ho; omega)
    obtain ⟨M', b1, b2, b3⟩ := ih f (i + 1) M1 ⟨by rw [e0.2.1]; exact p, by rw [e0.1]; exact q, by rw [e0.1]; exact r, fun k hk => by
      by_cases z : k = i
      · rw [z]; exact a3
      · exact (s k (by omega)).r a2 (by unfold ho; omega), fun k hk => by
      by_cases z : k = i
      · rw [z]; exact a3.2.2.2
      · rw [(a2 (ho d k) (by unfold ho; omega)).2.1]; exact u k hk⟩ (he.r h6 hF (by omega)) (by omega) (by omega)
    refine ⟨M', ?_, Fr.tr hF b2, b3⟩
    rw [f_L_takeFrom_L26, r, if_neg (nI_ge (by omega) (by omega)), if_neg (nI_ge (by omega) (by decide)), grd_h (inb_nI (by omega) (by decide)), grd_h (inb_nI (by omega) (by decide)), hnd_o (by omega), hnd_o (by omega), a1, bnd_s, nI_1]
    exact b1
theorem p_LtakeFrom {d e : Nat} (hde : d + 22 ≤ e ∨ e + 22 ≤ d) {t : St} (hw : Wf t) {M : Nm} (hc : Ca d M) (h : LandR e M t) : ∃ M', f_L_takeFrom d e M = some ((), M') ∧ Fr d (d + 22) M M' ∧ LandR d M' t := by
  have h6 := hw.1
  have hF : Fr d (d + 1) M (mI (mI (mL M d 0 (sS t)) d 1 (yS t)) d 2 (nI (nS t))) := Fr.tr (Fr.l (Nat.le_refl _) (by omega)) (Fr.tr (Fr.i (Nat.le_refl _) (by omega)) (Fr.i (Nat.le_refl _) (by omega)))
  obtain ⟨M', b1, b2, b3⟩ := p_tkL hde hw (nS t) FU 0 (mI (mI (mL M d 0 (sS t)) d 1 (yS t)) d 2 (nI (nS t))) ⟨by rw [mI_L, mI_L, mL_s, if_pos rfl], by rw [mI_s, if_neg (by decide), mI_s, if_pos rfl], by rw [mI_s, if_pos rfl], fun k hk => by omega, fun k hk => by rw [(hF (ho d k) (by unfold ho; omega)).2.1]; exact hc k hk⟩ (h.r h6 hF (by omega)) (by omega) (FU_gt (by omega))
  refine ⟨M', ?_, Fr.tr (hF.w (by omega) (by omega)) b2, b3⟩
  unfold f_L_takeFrom
  have ne : e ≠ d := by omega
  rw [bl_e, bl_e, bl_e, mI_o ne, mL_I, h.1, h.2.1, h.2.2.1]
  exact b1
/-! a hand begun anew -/
theorem HF.n {o : Nat} (M : Nm) (k c : Nat) : HF o (mI (mI (mI (mI (mK M o (kc k)) o 1 (nI c)) o 2 30) o 3 0) o 4 0) (nH k c) := by
  refine ⟨?_, ?_, ?_, ?_, ?_, fun i hi => absurd hi (Nat.not_lt_zero _)⟩
  · show va_up M.2.2 o (kc k) o = _
    rw [va_up_self]; rfl
  · rw [mI_s, if_neg (by decide), mI_s, if_neg (by decide), mI_s, if_neg (by decide), mI_s, if_pos rfl]; rfl
  · rw [mI_s, if_neg (by decide), mI_s, if_neg (by decide), mI_s, if_pos rfl]; rfl
  · rw [mI_s, if_neg (by decide), mI_s, if_pos rfl]; rfl
  · rw [mI_s, if_pos rfl]; rfl
theorem p_startAnew {o : Nat} {M : Nm} {k c : Nat} (hk : k < 6) (hc : c < 48) (hj : M.2.1 o 10 = encl (M.2.1 o 9)) : ∃ M', f_H_startAnew o (kc k) (nI c) M = some ((), M') ∧ Fr o (o + 3) M M' ∧ HR o M' (nH k c) := by
  have a2 := (p_traced (WfH.n hk hc) (HF.n (o := o) M k c) hj).2
  unfold f_H_startAnew
  rw [bl_e, bl_e, bl_e, bl_e, bl_e, p_bit, bnd_s, bl_e, bl_e]
  exact ⟨_, rfl, Fr.tr (Fr.k (Nat.le_refl _) (by omega)) (Fr.tr (Fr.i (Nat.le_refl _) (by omega)) (Fr.tr (Fr.i (Nat.le_refl _) (by omega)) (Fr.tr (Fr.i (Nat.le_refl _) (by omega)) (Fr.tr (Fr.i (Nat.le_refl _) (by omega)) (Fr.t (s := bit1 c) (n := 0) (Nat.le_refl _) (by omega)))))), a2⟩
theorem p_isFull {d : Nat} {t : St} (hw : Wf t) {M : Nm} (h : LandR d M t) : f_L_isFull d M = some (bI (decide (nS t = 6)), M) := by
  have h6 := hw.1
  unfold f_L_isFull
  rw [h.2.2.1]
  by_cases q : nS t = 6
  · rw [if_neg (show ¬ nI (nS t) < 6 from nI_nlt (b := 6) (by omega) (by omega)), decide_eq_true q]; rfl
  · rw [if_pos (show nI (nS t) < 6 from nI_lt (b := 6) (by omega) (by decide)), decide_eq_false q]; rfl
theorem p_newHand {d : Nat} {t : St} (hw : Wf t) {M : Nm} (h : LandR d M t) (hn : nS t < 6) {k c : Nat} (hk : k < 6) (hc : c < 48) : ∃ M', f_L_newHand d (kc k) (nI c) M = some (some (ho d (nS t)), M') ∧ Fr d (d + 22) M M' ∧ LandR d M' (adH t (nH k c)) := by
  obtain ⟨M1, a1, a2, a3⟩ := p_startAnew (o := ho d (nS t)) hk hc (h.2.2.2.2 (nS t) hn)
  have e0 := a2 d (by unfold ho; omega)
  obtain ⟨p, q, r, s, u⟩ := h
  have hF : Fr d (d + 1) M1 (mI M1 d 2 (nI (nS t + 1))) := Fr.i (Nat.le_refl _) (by omega)
  unfold f_L_newHand
  rw [p_isFull hw ⟨p, q, r, s, u⟩, bnd_s, decide_eq_false (by omega), if_pos (show bI false = 0 from rfl), r, grd_h (inb_nI hn (by decide)), hnd_o hn, a1, bnd_s, bl_e, e0.1, r, nI_1]
  refine ⟨_, rfl, Fr.tr (Fr.hd hn a2) (hF.w (by omega) (by omega)), ?_, ?_, ?_, fun k' hk' => ?_, fun k' hk' => ?_⟩
  · rw [mI_L, e0.2.1]; exact p
  · rw [mI_s, if_neg (by decide), e0.1]; exact q
  · rw [mI_s, if_pos rfl]; rfl
  · refine HR.r ?_ hF (by unfold ho; omega)
    show HR (ho d k') M1 (if k' = nS t then nH k c else hS t k')
    by_cases z : k' = nS t
    · rw [if_pos z, z]; exact a3
    · rw [if_neg z]
      have hk2 : k' < nS t + 1 := hk'
      exact (s k' (by omega)).r a2 (by unfold ho; omega)
  · rw [mI_L]
    by_cases z : k' = nS t
    · rw [z]; exact a3.2.2.2
    · rw [(a2 (ho d k') (by unfold ho; omega)).2.1]; exact u k' hk'
theorem p_newFull {d : Nat} {t : St} (hw : Wf t) {M : Nm} (h : LandR d M t) (hn : nS t = 6) (c1 : Nat) (v : Int32) : f_L_newHand d c1 v M = some (none, M) := by
  unfold f_L_newHand
  rw [p_isFull hw h, bnd_s, decide_eq_true hn, if_neg (show ¬ bI true = 0 by decide)]
/-! a hand changed and traced anew -/
theorem p_addStroke {o : Nat} {M : Nm} {x : HS} (h : HF o M x) (hn : nsH x < 8) (w l : Nat) : ∃ M', f_H_addStroke o (nI w) (nI l) M = some (1, M') ∧ Fr o (o + 3) M M' ∧ HF o M' (adS x w l) ∧ M'.2.1 = M.2.1 := by
  have n10 : o ≠ o + 1 := by omega
  have n11 : o ≠ o + 2 := by omega
  have hF : HF o (mI (mI (mI M (o + 1) (nsH x) (nI w)) (o + 2) (nsH x) (nI l)) o 4 (nI (nsH x + 1))) (adS x w l) := by
    obtain ⟨a, b, c, d, e, f⟩ := id h
    refine ⟨a, ?_, ?_, ?_, ?_, fun i hi => ⟨?_, ?_⟩⟩
    · rw [mI_s, if_neg (by decide), mI_o n11, mI_o n10]; exact b
    · rw [mI_s, if_neg (by decide), mI_o n11, mI_o n10]; exact c
    · rw [mI_s, if_neg (by decide), mI_o n11, mI_o n10]; exact d
    · rw [mI_s, if_pos rfl]; rfl
    · show _ = nI (if i = nsH x then w else wyH x i)
      have hi2 : i < nsH x + 1 := hi
      rw [mI_o (by omega), mI_o (by omega), mI_s]
      by_cases q : i = nsH x
      · rw [if_pos q, if_pos q]
      · rw [if_neg q, if_neg q]; exact (f i (by omega)).1
    · show _ = nI (if i = nsH x then l else lnH x i)
      have hi2 : i < nsH x + 1 := hi
      rw [mI_o (by omega), mI_s]
      by_cases q : i = nsH x
      · rw [if_pos q, if_pos q]
      · rw [if_neg q, if_neg q, mI_o (by omega)]; exact (f i (by omega)).2
  unfold f_H_addStroke
  rw [h.2.2.2.2.1, if_neg (nI_pos (by omega)), if_pos (show nI (nsH x) < 8 from nI_lt (b := 8) hn (by decide)), grd_h (inb_nI hn (by decide)), bl_e, ix_nI (by omega), mI_o n10, h.2.2.2.2.1, grd_h (inb_nI hn (by decide)), bl_e, ix_nI (by omega), mI_o n11, mI_o n10, h.2.2.2.2.1, bl_e, nI_1]
  exact ⟨_, rfl, Fr.tr (Fr.i (by omega) (by omega)) (Fr.tr (Fr.i (by omega) (by omega)) (Fr.i (by omega) (by omega))), hF, rfl⟩
theorem p_addTraced {o : Nat} {M : Nm} {x : HS} (hx : WfH x) (h : HR o M x) (hn : nsH x < 8) {w l : Nat} (hw : w < 4) (hl : 1 ≤ l ∧ l ≤ 7) : ∃ M1 M', f_H_addStroke o (nI w) (nI l) M = some (1, M1) ∧ f_H_trace o M1 = some ((), M') ∧ Fr o (o + 3) M M' ∧ HR o M' (adS x w l) := by
  obtain ⟨M1, a1, a2, a3, a4⟩ := p_addStroke h.1 hn w l
  obtain ⟨b1, b2⟩ := p_traced (hx.ad hn hw hl) a3 (by rw [a4]; exact h.2.2.2)
  exact ⟨M1, _, a1, b1, Fr.tr a2 (Fr.t (Nat.le_refl _) (by omega)), b2⟩
theorem p_addFull {o : Nat} {M : Nm} {x : HS} (h : HR o M x) (hn : nsH x = 8) (v1 v2 : Int32) : f_H_addStroke o v1 v2 M = some (0, M) := by
  unfold f_H_addStroke
  rw [h.1.2.2.2.2.1, hn, if_neg (by decide), if_neg (by decide)]
theorem p_moveTo {o : Nat} {M : Nm} {x : HS} (hx : WfH x) (h : HF o M x) (hc : M.2.1 o 10 = encl (M.2.1 o 9)) {c : Nat} (h48 : c < 48) : ∃ M', f_H_moveTo o (nI c) M = some ((), M') ∧ Fr o (o + 3) M M' ∧ HR o M' (sat x c) := by
  obtain ⟨a1, a2⟩ := p_traced (hx.sat h48) (h.at c) hc
  unfold f_H_moveTo
  rw [bl_e, a1, bnd_s]
  exact ⟨_, rfl, Fr.tr (Fr.i (Nat.le_refl _) (by omega)) (Fr.t (Nat.le_refl _) (by omega)), a2⟩
theorem p_become {o : Nat} {M : Nm} {x : HS} (hx : WfH x) (h : HR o M x) {k : Nat} (hk : k < 6) : ∃ M', f_H_become o (kc k) M = some ((), M') ∧ Fr o (o + 3) M M' ∧ HR o M' (skd x k) := by
  obtain ⟨a1, a2⟩ := p_traced (hx.skd hk) (h.1.kd k) h.2.2.2
  unfold f_H_become
  rw [bl_e, a1, bnd_s]
  exact ⟨_, rfl, Fr.tr (Fr.k (Nat.le_refl _) (by omega)) (Fr.t (Nat.le_refl _) (by omega)), a2⟩
theorem tra_ik (x : HS) (v : Nat) : tra (sik x v) = tra x := rfl
theorem p_setInk {o : Nat} {M : Nm} {x : HS} (h : HR o M x) (v : Nat) : HR o (mI M o 2 (nI v)) (sik x v) := h.put (h.1.ik v) rfl (by rw [mI_s, if_neg (by decide)]) rfl
