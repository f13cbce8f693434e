/-! the reference: items of a field's text -/
def nx (z : Nat) (p : Nat → Nat) (a : Nat) : Nat := tkA z p (tkB z p a)
theorem nx_le {z : Nat} {p : Nat → Nat} {a : Nat} (h : a ≤ z) : nx z p a ≤ z := (tkA_le (tkB_le h).2).2
/-- what the text's reading may change -/
def Gx (M M' : Nm) : Prop := (∀ c, c ≠ 86 → c ≠ 87 → c ≠ 94 → c ≠ 95 → M'.1 c = M.1 c) ∧ (∀ j, j < 12 → M'.1 86 j = M.1 86 j) ∧ (∀ c, c ≠ 92 → c ≠ 93 → M'.2.1 c = M.2.1 c) ∧ M'.2.2 = M.2.2
theorem Gx.rf (M : Nm) : Gx M M := ⟨fun _ _ _ _ _ => rfl, fun _ _ => rfl, fun _ _ _ => rfl, rfl⟩
theorem Gx.tr {M M1 M2 : Nm} (h1 : Gx M M1) (h2 : Gx M1 M2) : Gx M M2 := ⟨fun c a b d e => (h2.1 c a b d e).trans (h1.1 c a b d e), fun j h => (h2.2.1 j h).trans (h1.2.1 j h), fun c a b => (h2.2.2.1 c a b).trans (h1.2.2.1 c a b), h2.2.2.2.trans h1.2.2.2⟩
theorem Gx.i {M : Nm} {j : Nat} {v : Int32} (h : 12 ≤ j) : Gx M (mI M 86 j v) := ⟨fun c a _ _ _ => mI_o a, fun k hk => by rw [mI_u, uw_n (by omega)], fun _ _ _ => rfl, rfl⟩
theorem Gx.s {M M' : Nm} (h : Sd M M') : Gx M M' := ⟨fun c _ b d e => h.1 c b d e, fun j _ => by rw [h.1 86 (by decide) (by decide) (by decide)], h.2.1, h.2.2⟩
theorem Gx.k {M : Nm} {a b : Nat} : Gx M (tkM M a b) := Gx.tr (Gx.i (by decide)) (Gx.i (by decide))
theorem Lk.s {z : Nat} {p : Nat → Nat} {M M' : Nm} {a : Nat} (hL : Lk z p M a) (h : Sd M M') : Lk z p M' a := by
  have h86 := h.1 86 (by decide) (by decide) (by decide)
  have h96 := h.1 96 (by decide) (by decide) (by decide)
  obtain ⟨⟨t1, t2, t3, t4⟩, b, c, d⟩ := hL
  exact ⟨⟨t1, t2, by rw [h86]; exact t3, fun i hi => by rw [h96]; exact t4 i hi⟩, b, by rw [h86]; exact c, by rw [h86]; exact d⟩
theorem Lk.n {z : Nat} {p : Nat → Nat} {M : Nm} {a b : Nat} (hT : Tp z p M) (hb : b ≤ z) (ha : a = tkA z p b) : Lk z p (tkM M a (tkB z p a)) a := by
  subst ha
  refine ⟨(hT.i (by decide)).i (by decide), (tkA_le hb).2, ?_, ?_⟩
  · unfold tkM; rw [mI_u, uw_n (by decide), mI_u, uw_s]
  · unfold tkM; rw [mI_u, uw_s]
theorem Lk.i {z : Nat} {p : Nat → Nat} {M : Nm} {a j : Nat} {v : Int32} (hL : Lk z p M a) (hj : 14 ≤ j) : Lk z p (mI M 86 j v) a := ⟨hL.1.i (by omega), hL.2.1, by rw [mI_u, uw_n (by omega)]; exact hL.2.2.1, by rw [mI_u, uw_n (by omega)]; exact hL.2.2.2⟩
theorem tk15 {M : Nm} {a b : Nat} {j : Nat} (h : 14 ≤ j) : (tkM M a b).1 86 j = M.1 86 j := by
  unfold tkM
  rw [mI_u, uw_n (by omega), mI_u, uw_n (by omega)]
theorem tk87 {M : Nm} {a b : Nat} : (tkM M a b).1 87 = M.1 87 := by
  unfold tkM
  rw [mI_o (by decide), mI_o (by decide)]
theorem p_mustY {z : Nat} {p : Nat → Nat} {a : Nat} {M : Nm} (hL : Lk z p M a) (h15 : M.1 86 15 = 0) : f_M_must 1 M = some ((), tkM M (nx z p a) (tkB z p (nx z p a))) ∧ Lk z p (tkM M (nx z p a) (tkB z p (nx z p a))) (nx z p a) :=
  ⟨p_must_y h15 (tkB_le hL.2.1).2 hL.1 hL.2.2.2, Lk.n hL.1 (tkB_le hL.2.1).2 rfl⟩
theorem p_number_w {M : Nm} (h : M.1 86 15 = 1) (v1 v2 : Int32) : f_M_number v1 v2 M = some ((), M) := by
  unfold f_M_number
  rw [h, if_neg (by decide)]
theorem nuV_le {z : Nat} {p : Nat → Nat} {a : Nat} : nuV z p a ≤ 9999 := by
  unfold nuV
  split
  · rename_i h
    exact nmN_le _ (fun i hi => (tk_dig h i hi).2)
  · omega
theorem p_number {z : Nat} {p : Nat → Nat} {a : Nat} {M : Nm} (hL : Lk z p M a) (h15 : M.1 86 15 = 0) {lo hi : Nat} (hlo : lo < 10000) (hhi : hi < 10000) : f_M_number (nI lo) (nI hi) M = some ((), if nuO z p a lo hi then tkM (mI M 86 14 (nI (nuV z p a))) (nx z p a) (tkB z p (nx z p a)) else mI (mI M 86 14 (nI (nuV z p a))) 86 15 1) := by
  have h0 := hL.1.1
  have ha := hL.2.1
  have hb := tkB_le (p := p) ha
  have hv := nuV_le (z := z) (p := p) (a := a)
  have hL1 : Lk z p (mI M 86 14 (nI (nuV z p a))) a := hL.i (by decide)
  have h151 : (mI M 86 14 (nI (nuV z p a))).1 86 15 = 0 := by rw [mI_u, uw_n (by decide)]; exact h15
  unfold f_M_number
  rw [h15, if_pos rfl, hL.2.2.1, hL.1.b (by omega), bnd_s, p_isDigit hL.1.2.1, bnd_s, hL.2.2.1]
  by_cases hd : isD z p a = true
  · have hnv : nuV z p a = nmN p a (tkB z p a - a) := if_pos hd
    have e := p_nuL (fun y7 M6 => bl (mI M6 86 14 y7) fun M8 => if bI (isD z p a) = 0 then (bnd (f_M_must 0 M8) fun r9 M10 => some ((), M10)) else (bnd (f_M_in y7.toInt64 (nI lo).toInt64 (nI hi).toInt64 M8) fun r11 M12 => if r11 = 0 then (bnd (f_M_must 0 M12) fun r13 M14 => some ((), M14)) else (bnd (f_M_must 1 M12) fun r15 M16 => some ((), M16)))) (nI lo) (nI hi) hL hd (tkB z p a - a) FU 0 (by omega) (FU_gt (by omega))
    rw [hd] at e ⊢
    refine Eq.trans e ?_
    rw [← hnv, bl_e, if_neg (by decide), p_inI, bnd_s, nI_toInt (by omega), nI_toInt (by omega)]
    have hr : rg (nI (nuV z p a)) lo hi = nuO z p a lo hi := by
      unfold rg nuO
      rw [nI_toInt (by omega), hd, Bool.true_and]
      congr 1 <;> exact decide_eq_decide.mpr (by omega)
    rw [hr]
    by_cases q : nuO z p a lo hi = true
    · rw [if_neg (bI_t q), if_pos q, (p_mustY hL1 h151).1, bnd_s]
    · rw [if_pos (bI_f (nf q)), if_neg q, p_must_n h151, bnd_s]
  · have hnv : nuV z p a = 0 := if_neg hd
    have q : nuO z p a lo hi = false := by unfold nuO; rw [nf hd]; rfl
    have e : ∀ kk : Int32 → Nm → Option (Unit × Nm), f_M_number_L29 kk (nI lo) (nI hi) 0 FU 0 (nI a) M = kk 0 M := by
      intro kk
      show f_M_number_L29 kk (nI lo) (nI hi) 0 (999999 + 1) 0 (nI a) M = kk 0 M
      rw [f_M_number_L29, if_pos rfl]
      split <;> rfl
    rw [nf hd, show bI false = 0 from rfl, e, bl_e, if_pos rfl, q]
    rw [hnv] at h151 ⊢
    rw [show mI M 86 14 0 = mI M 86 14 (nI 0) from rfl, p_must_n h151, bnd_s]
    rfl
/-- a step of the reading: a state and the next token, or the place of a fault -/
def PR (z : Nat) (p : Nat → Nat) (M : Nm) (r : Option (Unit × Nm)) : (St × Nat) ⊕ Nat → Prop
  | .inl (t, a) => ∃ M', r = some ((), M') ∧ Gx M M' ∧ Lk z p M' a ∧ M'.1 86 15 = 0 ∧ Rw (M'.1 87) t
  | .inr e => ∃ M', r = some ((), M') ∧ Gx M M' ∧ Lk z p M' e ∧ M'.1 86 15 = 1
theorem PR.f {z : Nat} {p : Nat → Nat} {M M1 : Nm} {r : Option (Unit × Nm)} {o : (St × Nat) ⊕ Nat} (h : Gx M M1) (hr : PR z p M1 r o) : PR z p M r o := by
  cases o with
  | inl q =>
    obtain ⟨t, a⟩ := q
    obtain ⟨M', h1, h2, h3⟩ := hr
    exact ⟨M', h1, Gx.tr h h2, h3⟩
  | inr e =>
    obtain ⟨M', h1, h2, h3⟩ := hr
    exact ⟨M', h1, Gx.tr h h2, h3⟩
/-- smudge, dry -/
def smF (z : Nat) (p : Nat → Nat) (b : Bool) (t : St) (a : Nat) : (St × Nat) ⊕ Nat := if nuO z p a 0 47 then .inl (smS t (nuV z p a) b, nx z p a) else .inr a
def smW : List Nat := [115, 109, 117, 100, 103, 101]
def drW : List Nat := [100, 114, 121]
def siF (z : Nat) (p : Nat → Nat) (t : St) (a : Nat) : (St × Nat) ⊕ Nat := if isW z p a smW then smF z p true t (nx z p a) else if isW z p a drW then smF z p false t (nx z p a) else .inr a
theorem nuO_le {z : Nat} {p : Nat → Nat} {a lo hi : Nat} (h : nuO z p a lo hi = true) : lo ≤ nuV z p a ∧ nuV z p a ≤ hi := by
  simp [nuO] at h
  omega
theorem p_itB1 {z : Nat} {p : Nat → Nat} {t : St} (hw : Wf t) {a : Nat} {M : Nm} (hL : Lk z p M a) (h15 : M.1 86 15 = 0) (hR : Rw (M.1 87) t) (v2 : Int64) (b : Bool) (hv : (lg_cmp v2 651858149 = 0) ↔ b = true) : PR z p M (f_M_item_B42 v2 1 M) (smF z p b t (nx z p a)) := by
  obtain ⟨m1, m2⟩ := p_mustY hL h15
  unfold f_M_item_B42
  rw [m1, bnd_s]
  have e15 : (tkM M (nx z p a) (tkB z p (nx z p a))).1 86 15 = 0 := by rw [tk15 (by decide)]; exact h15
  have e87 : Rw ((tkM M (nx z p a) (tkB z p (nx z p a))).1 87) t := by rw [tk87]; exact hR
  generalize hM1 : tkM M (nx z p a) (tkB z p (nx z p a)) = M1 at m2 e15 e87
  have hg : Gx M M1 := by rw [← hM1]; exact Gx.k
  refine PR.f hg ?_
  have hn := p_number (lo := 0) (hi := 47) m2 e15 (by decide) (by decide)
  have hn' : f_M_number 0 47 M1 = _ := hn
  rw [hn', bnd_s]
  unfold smF
  by_cases q : nuO z p (nx z p a) 0 47 = true
  · have hvl := (nuO_le q).2
    rw [if_pos q, if_pos q, tk15 (by decide), mI_u, uw_n (by decide), e15, if_pos rfl, tk15 (by decide), mI_u, uw_s, show (2 : Int32) + nI (nuV z p (nx z p a)) = nI (2 + nuV z p (nx z p a)) from nI_add 2 _, grd_h (inb_nI (by omega) (by decide)), bl_e, grd_h (inb_nI (by omega) (by decide)), bl_e, ix_nI (by omega)]
    have hL2 : Lk z p (tkM (mI M1 86 14 (nI (nuV z p (nx z p a)))) (nx z p (nx z p a)) (tkB z p (nx z p (nx z p a)))) (nx z p (nx z p a)) := Lk.n (m2.1.i (by decide)) (tkB_le m2.2.1).2 rfl
    have fin : ∀ v : Int32, v = bI b → PR z p M1 (some ((), mI (tkM (mI M1 86 14 (nI (nuV z p (nx z p a)))) (nx z p (nx z p a)) (tkB z p (nx z p (nx z p a)))) 87 (2 + nuV z p (nx z p a)) v)) (.inl (smS t (nuV z p (nx z p a)) b, nx z p (nx z p a))) := by
      intro v hv
      refine ⟨_, rfl, Gx.tr (Gx.i (by decide)) (Gx.tr Gx.k (Gx.s Sd.p)), hL2.s Sd.p, ?_, ?_⟩
      · rw [mI_o (by decide), tk15 (by decide), mI_u, uw_n (by decide)]; exact e15
      · rw [mI_u, tk87, mI_o (by decide), hv]
        exact Rw_sm hw e87 (by omega) b
    by_cases qv : lg_cmp v2 651858149 = 0
    · rw [if_pos qv]; exact fin 1 (by rw [hv.mp qv]; rfl)
    · rw [if_neg qv]; exact fin 0 (by rw [nf (fun y => qv (hv.mpr y))]; rfl)
  · rw [if_neg q, if_neg q, mI_u, uw_s, if_neg (by decide)]
    exact ⟨_, rfl, Gx.tr (Gx.i (by decide)) (Gx.i (by decide)), (m2.i (by decide)).i (by decide), by rw [mI_u, uw_s]⟩
