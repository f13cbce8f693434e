/-! the class: tokens of the tape -/
def Tc (z : Nat) (p : Nat → Nat) (M : Nm) : Prop := z ≤ 120 ∧ (∀ i, i < z → p i < 256) ∧ M.1 74 0 = nI z ∧ ∀ i, i < z → M.1 75 i = nI (p i)
theorem Tc.i {z : Nat} {p : Nat → Nat} {M : Nm} (h : Tc z p M) {j : Nat} {v : Int32} (hj : j ≠ 0) : Tc z p (mI M 74 j v) := ⟨h.1, h.2.1, by rw [mI_s, if_neg (Ne.symm hj)]; exact h.2.2.1, fun i hi => by rw [mI_o (by decide)]; exact h.2.2.2 i hi⟩
theorem nar_c : ∀ b, b < 256 → decide (narrow .char (.int (nI b)) = .int (nI b)) = true := by decide +kernel
def chC (z : Nat) (p : Nat → Nat) (i : Nat) : Int32 := if i < z then nI (p i) else 0
theorem Tc.b {z : Nat} {p : Nat → Nat} {M : Nm} (h : Tc z p M) {i : Nat} (hi : i < 1000) : f_T_byteAt (nI i) M = some (chC z p i, M) := by
  obtain ⟨h1, h2, h3, h4⟩ := h
  unfold f_T_byteAt chC
  rw [if_neg (nI_pos (by omega)), h3]
  by_cases q : i < z
  · rw [if_neg (nI_ge q (by omega)), if_neg (nI_ge (show i < 120 by omega) (by decide)), grd_h (inb_nI (by omega) (by decide)), ix_nI (by omega), h4 i q, grd_h (nar_c _ (h2 i q)), if_pos q]
  · rw [if_pos (nI_le (by omega) (by omega)), grd_h (by decide), if_neg q]
theorem p_TisLetter {z : Nat} {p : Nat → Nat} (hp : ∀ i, i < z → p i < 256) (i : Nat) (M : Nm) : f_T_isLetter (chC z p i) M = some (bI (isL z p i), M) := by
  unfold f_T_isLetter chC isL
  by_cases q : i < z
  · have := hp i q
    rw [if_pos q]
    by_cases q1 : p i < 97
    · have : ¬ 97 ≤ p i := by omega
      rw [if_pos (show nI (p i) < 97 from nI_lt (b := 97) q1 (by decide))]
      simp [this, bI]
    · rw [if_neg (show ¬ nI (p i) < 97 from nI_nlt (b := 97) (by omega) (by omega))]
      by_cases q2 : 122 < p i
      · have : ¬ p i ≤ 122 := by omega
        rw [if_pos (show 122 < nI (p i) from nI_lt (a := 122) q2 (by omega))]
        simp [this, bI]
      · have h1 : 97 ≤ p i := by omega
        have h2 : p i ≤ 122 := by omega
        rw [if_neg (show ¬ 122 < nI (p i) from nI_nlt (a := 122) (by omega) (by decide))]
        simp [q, h1, h2, bI]
  · rw [if_neg q, if_pos (by decide)]
    simp [q, bI]
theorem p_TisDigit {z : Nat} {p : Nat → Nat} (hp : ∀ i, i < z → p i < 256) (i : Nat) (M : Nm) : f_T_isDigit (chC z p i) M = some (bI (isD z p i), M) := by
  unfold f_T_isDigit chC isD
  by_cases q : i < z
  · have := hp i q
    rw [if_pos q]
    by_cases q1 : p i < 48
    · have : ¬ 48 ≤ p i := by omega
      rw [if_pos (show nI (p i) < 48 from nI_lt (b := 48) q1 (by decide))]
      simp [this, bI]
    · rw [if_neg (show ¬ nI (p i) < 48 from nI_nlt (b := 48) (by omega) (by omega))]
      by_cases q2 : 57 < p i
      · have : ¬ p i ≤ 57 := by omega
        rw [if_pos (show 57 < nI (p i) from nI_lt (a := 57) q2 (by omega))]
        simp [this, bI]
      · have h1 : 48 ≤ p i := by omega
        have h2 : p i ≤ 57 := by omega
        rw [if_neg (show ¬ 57 < nI (p i) from nI_nlt (a := 57) (by omega) (by decide))]
        simp [q, h1, h2, bI]
  · rw [if_neg q, if_pos (by decide)]
    simp [q, bI]
theorem chC_k {z : Nat} {p : Nat → Nat} (hp : ∀ i, i < z → p i < 256) {i k : Nat} (hk : 0 < k) (hk2 : k < 256) : chC z p i = nI k ↔ (i < z ∧ p i = k) := by
  unfold chC
  by_cases q : i < z
  · have := hp i q
    rw [if_pos q, nI_eq (by omega) (by omega)]
    simp [q]
  · rw [if_neg q]
    refine ⟨fun y => absurd y.symm (nI_ne0 hk (by omega)), fun y => absurd y.1 q⟩
theorem p_go8 (kk : Nm → Option (Unit × Nm)) {z : Nat} {p : Nat → Nat} : ∀ (n f i : Nat) (M : Nm), Tc z p M → M.1 74 3 = nI i → i + n = z → n < f → f_T_goOn_L8 kk f M = kk (mI M 74 3 (nI (sk z (isS z p) i))) := by
  intro n
  induction n with
  | zero =>
    intro f i M hT h3 hi hf
    obtain ⟨f, rfl⟩ : ∃ g, f = g + 1 := ⟨f - 1, by omega⟩
    have h0 := hT.1
    have hs : isS z p i = false := nf (fun q => by have := isS_z q; omega)
    rw [f_T_goOn_L8, h3, hT.2.2.1, if_pos (nI_le (by omega) (by omega)), sk_n hs, mI_id h3]
  | succ n ih =>
    intro f i M hT h3 hi hf
    obtain ⟨f, rfl⟩ : ∃ g, f = g + 1 := ⟨f - 1, by omega⟩
    have h0 := hT.1
    have h32 : chC z p i = 32 ↔ (i < z ∧ p i = 32) := chC_k hT.2.1 (k := 32) (by decide) (by decide)
    rw [f_T_goOn_L8, h3, hT.2.2.1, if_neg (nI_ge (by omega) (by omega)), hT.b (by omega), bnd_s]
    by_cases q : isS z p i = true
    · have q' : i < z ∧ p i = 32 := by simpa [isS] using q
      have key := ih f (i + 1) (mI M 74 3 (nI (i + 1))) (hT.i (by decide)) (by rw [mI_s, if_pos rfl]) (by omega) (by omega)
      rw [mI_mI] at key
      rw [if_pos (h32.mpr q'), bl_e, h3, nI_1, sk_y (by omega) q]
      exact key
    · rw [if_neg (fun y => q (by have := h32.mp y; simp [isS, this])), sk_n (nf q), mI_id h3]
theorem p_go5 (kk : Nm → Option (Unit × Nm)) {z : Nat} {p : Nat → Nat} : ∀ (n f i : Nat) (M : Nm), Tc z p M → M.1 74 4 = nI i → i + n = z → n < f → f_T_goOverWord_L5 kk f M = kk (mI M 74 4 (nI (sk z (isL z p) i))) := by
  intro n
  induction n with
  | zero =>
    intro f i M hT h3 hi hf
    obtain ⟨f, rfl⟩ : ∃ g, f = g + 1 := ⟨f - 1, by omega⟩
    have h0 := hT.1
    have hs : isL z p i = false := nf (fun q => by have := isL_z q; omega)
    rw [f_T_goOverWord_L5, h3, hT.2.2.1, if_pos (nI_le (by omega) (by omega)), sk_n hs, mI_id h3]
  | succ n ih =>
    intro f i M hT h3 hi hf
    obtain ⟨f, rfl⟩ : ∃ g, f = g + 1 := ⟨f - 1, by omega⟩
    have h0 := hT.1
    rw [f_T_goOverWord_L5, h3, hT.2.2.1, if_neg (nI_ge (by omega) (by omega)), hT.b (by omega), bnd_s, p_TisLetter hT.2.1, bnd_s]
    by_cases q : isL z p i = true
    · have key := ih f (i + 1) (mI M 74 4 (nI (i + 1))) (hT.i (by decide)) (by rw [mI_s, if_pos rfl]) (by omega) (by omega)
      rw [mI_mI] at key
      rw [if_neg (bI_t q), bl_e, h3, nI_1, sk_y (by omega) q]
      exact key
    · rw [if_pos (bI_f (nf q)), sk_n (nf q), mI_id h3]
/-- a number as the class holds it -/
def vlN (p : Nat → Nat) (a : Nat) : Nat → Nat
  | 0 => 0
  | n + 1 => if 10 * vlN p a n + (p (a + n) - 48) ≤ 1000 then 10 * vlN p a n + (p (a + n) - 48) else 1000
theorem vlN_s (p : Nat → Nat) (a n : Nat) : vlN p a (n + 1) = if 10 * vlN p a n + (p (a + n) - 48) ≤ 1000 then 10 * vlN p a n + (p (a + n) - 48) else 1000 := rfl
theorem vlN_le (p : Nat → Nat) (a : Nat) : ∀ n, vlN p a n ≤ 1000 := by
  intro n
  cases n with
  | zero => exact Nat.zero_le _
  | succ n => rw [vlN_s]; split <;> omega
theorem vlN_nm (p : Nat → Nat) (a : Nat) : ∀ n, vlN p a n = if nmN p a n ≤ 999 then nmN p a n else 1000 := by
  intro n
  induction n with
  | zero => rfl
  | succ n ih =>
    rw [vlN_s, ih, nmN_s]
    by_cases q : nmN p a n ≤ 999
    · rw [if_pos q, if_neg (show ¬ 999 < nmN p a n by omega)]
      split <;> split <;> omega
    · rw [if_neg q, if_pos (show 999 < nmN p a n by omega), if_neg q, if_neg (by omega)]
theorem p_go10 (kk : Nm → Option (Unit × Nm)) {z : Nat} {p : Nat → Nat} {a : Nat} : ∀ (n f k : Nat) (M : Nm), Tc z p M → M.1 74 4 = nI (a + k) → M.1 74 5 = nI (vlN p a k) → a + k + n = z → n < f → ∃ M', f_T_goOverNumber_L10 kk f M = kk M' ∧ Fr 74 75 M M' ∧ (∀ j, j ≠ 4 → j ≠ 5 → M'.1 74 j = M.1 74 j) ∧ M'.1 74 4 = nI (sk z (isD z p) (a + k)) ∧ M'.1 74 5 = nI (vlN p a (sk z (isD z p) (a + k) - a)) := by
  intro n
  induction n with
  | zero =>
    intro f k M hT h3 h5 hi hf
    obtain ⟨f, rfl⟩ : ∃ g, f = g + 1 := ⟨f - 1, by omega⟩
    have h0 := hT.1
    have hs : isD z p (a + k) = false := nf (fun q => by have := isD_z q; omega)
    refine ⟨M, ?_, Fr.rf _ _ M, fun _ _ _ => rfl, by rw [sk_n hs]; exact h3, by rw [sk_n hs, show a + k - a = k by omega]; exact h5⟩
    rw [f_T_goOverNumber_L10, h3, hT.2.2.1, if_pos (nI_le (by omega) (by omega))]
  | succ n ih =>
    intro f k M hT h3 h5 hi hf
    obtain ⟨f, rfl⟩ : ∃ g, f = g + 1 := ⟨f - 1, by omega⟩
    have h0 := hT.1
    rw [f_T_goOverNumber_L10, h3, hT.2.2.1, if_neg (nI_ge (by omega) (by omega)), hT.b (by omega), bnd_s, p_TisDigit hT.2.1, bnd_s]
    by_cases q : isD z p (a + k) = true
    · have q' : a + k < z ∧ 48 ≤ p (a + k) ∧ p (a + k) ≤ 57 := by simpa [isD] using q
      have hv := vlN_le p a k
      have e1 : chC z p (a + k) - 48 = nI (p (a + k) - 48) := by
        unfold chC
        rw [if_pos q'.1, show nI (p (a + k)) = nI (p (a + k) - 48) + 48 by rw [show (48 : Int32) = nI 48 from rfl, nI_add]; congr 1; omega, Int32.add_sub_cancel]
      have e2 : (if ((10 * (nI (vlN p a k))) + (chC z p (a + k) - 48)) < (1000 : Int32) then ((10 * (nI (vlN p a k))) + (chC z p (a + k) - 48)) else 1000) = nI (vlN p a (k + 1)) := by
        rw [e1, show (10 : Int32) * nI (vlN p a k) = nI (10 * vlN p a k) from pk_mul 10 _, nI_add, nI_min (n := 1000) (v := 1000) (by omega) (by decide) rfl, vlN_s]
      obtain ⟨M', b1, b2, b3, b4, b5⟩ := ih f (k + 1) (mI (mI M 74 5 (nI (vlN p a (k + 1)))) 74 4 (nI (a + k + 1))) ((hT.i (by decide)).i (by decide)) (by rw [mI_s, if_pos rfl, Nat.add_assoc]) (by rw [mI_s, if_neg (by decide), mI_s, if_pos rfl]) (by omega) (by omega)
      refine ⟨M', ?_, Fr.tr (Fr.tr (Fr.i (by omega) (by omega)) (Fr.i (by omega) (by omega))) b2, fun j j1 j2 => by rw [b3 j j1 j2, mI_s, if_neg j1, mI_s, if_neg j2], ?_, ?_⟩
      · rw [if_neg (bI_t q), h3, hT.b (by omega), bnd_s, h5, e2, bl_e, mI_s, if_neg (by decide), h3, nI_1, bl_e]
        exact b1
      · rw [b4, sk_y q'.1 q, Nat.add_assoc]
      · rw [b5, sk_y q'.1 q, Nat.add_assoc]
    · refine ⟨M, ?_, Fr.rf _ _ M, fun _ _ _ => rfl, by rw [sk_n (nf q)]; exact h3, by rw [sk_n (nf q), show a + k - a = k by omega]; exact h5⟩
      rw [if_pos (bI_f (nf q))]
/-- the sort of the token from a on -/
def srt (z : Nat) (p : Nat → Nat) (a : Nat) : Nat := if a < z then (if isL z p a then 1 else if isD z p a then 2 else if p a = 59 then 3 else 4) else 0
/-- the class looks at the token from a on -/
def Lc (z : Nat) (p : Nat → Nat) (M : Nm) (a : Nat) : Prop := Tc z p M ∧ a ≤ z ∧ M.1 74 3 = nI a ∧ M.1 74 4 = nI (tkB z p a) ∧ M.1 74 2 = nI (srt z p a) ∧ (isD z p a = true → M.1 74 5 = nI (vlN p a (tkB z p a - a)))
theorem p_goOn {z : Nat} {p : Nat → Nat} {b : Nat} (hb : b ≤ z) {M : Nm} (hT : Tc z p M) (h4 : M.1 74 4 = nI b) : ∃ M', f_T_goOn M = some ((), M') ∧ Fr 74 75 M M' ∧ Lc z p M' (tkA z p b) := by
  have h0 := hT.1
  have ha := (tkA_le (p := p) hb).2
  unfold f_T_goOn
  rw [bl_e, h4, p_go8 _ (z - b) FU b (mI M 74 3 (nI b)) (hT.i (by decide)) (by rw [mI_s, if_pos rfl]) (by omega) (FU_gt (by omega)), mI_mI]
  rw [show nI (sk z (isS z p) b) = nI (tkA z p b) from rfl]
  generalize tkA z p b = a at ha
  rw [bl_e, show (mI M 74 3 (nI a)).1 74 3 = nI a by rw [mI_s, if_pos rfl]]
  have hT1 : Tc z p (mI (mI M 74 3 (nI a)) 74 4 (nI a)) := (hT.i (by decide)).i (by decide)
  have g3 : (mI (mI M 74 3 (nI a)) 74 4 (nI a)).1 74 3 = nI a := by rw [mI_s, if_neg (by decide), mI_s, if_pos rfl]
  have g4 : (mI (mI M 74 3 (nI a)) 74 4 (nI a)).1 74 4 = nI a := by rw [mI_s, if_pos rfl]
  have hF1 : Fr 74 75 M (mI (mI M 74 3 (nI a)) 74 4 (nI a)) := Fr.tr (Fr.i (by omega) (by omega)) (Fr.i (by omega) (by omega))
  generalize mI (mI M 74 3 (nI a)) 74 4 (nI a) = M1 at hT1 g3 g4 hF1
  rw [g3, hT1.2.2.1]
  by_cases q : a < z
  · rw [if_pos (nI_lt q (by omega)), hT1.b (by omega), bnd_s, p_TisLetter hT1.2.1, bnd_s]
    by_cases q1 : isL z p a = true
    · rw [if_neg (bI_t q1)]
      unfold f_T_goOverWord
      rw [bl_e, p_go5 _ (z - a) FU a (mI M1 74 2 1) (hT1.i (by decide)) (by rw [mI_s, if_neg (by decide)]; exact g4) (by omega) (FU_gt (by omega)), bnd_s]
      refine ⟨_, rfl, Fr.tr hF1 (Fr.tr (Fr.i (by omega) (by omega)) (Fr.i (by omega) (by omega))), (hT1.i (by decide)).i (by decide), ha, ?_, ?_, ?_, fun y => ?_⟩
      · rw [mI_s, if_neg (by decide), mI_s, if_neg (by decide)]; exact g3
      · rw [mI_s, if_pos rfl]; unfold tkB; rw [if_pos q1, sk_y q q1]
      · rw [mI_s, if_neg (by decide), mI_s, if_pos rfl]; unfold srt; rw [if_pos q, if_pos q1]; rfl
      · rw [isLD q1] at y; exact absurd y (by decide)
    · rw [if_pos (bI_f (nf q1)), g3, hT1.b (by omega), bnd_s, p_TisDigit hT1.2.1, bnd_s]
      by_cases q2 : isD z p a = true
      · rw [if_neg (bI_t q2)]
        unfold f_T_goOverNumber
        obtain ⟨M', b1, b2, b3, b4, b5⟩ := p_go10 (fun M11 => some ((), M11)) (z := z) (p := p) (a := a) (z - a) FU 0 (mI (mI M1 74 2 2) 74 5 0) ((hT1.i (by decide)).i (by decide)) (by rw [mI_s, if_neg (by decide), mI_s, if_neg (by decide)]; exact g4) (by rw [mI_s, if_pos rfl]; rfl) (by omega) (FU_gt (by omega))
        have e : sk z (isD z p) (a + 0) = tkB z p a := by unfold tkB; rw [if_neg q1, if_pos q2, Nat.add_zero, sk_y q q2]
        rw [e] at b4 b5
        rw [bl_e, bl_e, b1, bnd_s]
        have hF2 : Fr 74 75 M1 M' := Fr.tr (Fr.tr (Fr.i (by omega) (by omega)) (Fr.i (by omega) (by omega))) b2
        refine ⟨M', rfl, Fr.tr hF1 hF2, ⟨h0, hT1.2.1, ?_, fun i hi => ?_⟩, ha, ?_, b4, ?_, fun _ => b5⟩
        · rw [b3 0 (by decide) (by decide), mI_s, if_neg (by decide), mI_s, if_neg (by decide)]; exact hT1.2.2.1
        · rw [(hF2 75 (by omega)).1]; exact hT1.2.2.2 i hi
        · rw [b3 3 (by decide) (by decide), mI_s, if_neg (by decide), mI_s, if_neg (by decide)]; exact g3
        · rw [b3 2 (by decide) (by decide), mI_s, if_neg (by decide), mI_s, if_pos rfl]; unfold srt; rw [if_pos q, if_neg q1, if_pos q2]; rfl
      · rw [if_pos (bI_f (nf q2)), g3, hT1.b (by omega), bnd_s]
        have hB : tkB z p a = a + 1 := by unfold tkB; rw [if_neg q1, if_neg q2, if_pos q]
        have h59 : chC z p a = 59 ↔ (a < z ∧ p a = 59) := chC_k hT1.2.1 (k := 59) (by decide) (by decide)
        have fin : ∀ k : Nat, srt z p a = k → Lc z p (mI (mI M1 74 2 (nI k)) 74 4 (nI (a + 1))) a := by
          intro k hk
          refine ⟨(hT1.i (by decide)).i (by decide), ha, ?_, ?_, ?_, fun y => absurd y q2⟩
          · rw [mI_s, if_neg (by decide), mI_s, if_neg (by decide)]; exact g3
          · rw [mI_s, if_pos rfl, hB]
          · rw [mI_s, if_neg (by decide), mI_s, if_pos rfl, hk]
        have hF2 : ∀ v w, Fr 74 75 M (mI (mI M1 74 2 v) 74 4 w) := fun v w => Fr.tr hF1 (Fr.tr (Fr.i (by omega) (by omega)) (Fr.i (by omega) (by omega)))
        by_cases q3 : p a = 59
        · rw [if_pos (h59.mpr ⟨q, q3⟩), bl_e, mI_s, if_neg (by decide), g3, nI_1, bl_e]
          exact ⟨_, rfl, hF2 _ _, fin 3 (by unfold srt; rw [if_pos q, if_neg q1, if_neg q2, if_pos q3])⟩
        · rw [if_neg (fun y => q3 (h59.mp y).2), bl_e, mI_s, if_neg (by decide), g3, nI_1, bl_e]
          exact ⟨_, rfl, hF2 _ _, fin 4 (by unfold srt; rw [if_pos q, if_neg q1, if_neg q2, if_neg q3])⟩
  · rw [if_neg (nI_nlt (by omega) (by omega)), bl_e]
    have nl : isL z p a = false := nf (fun y => q (isL_z y))
    have nd : isD z p a = false := nf (fun y => q (isD_z y))
    refine ⟨_, rfl, Fr.tr hF1 (Fr.i (by omega) (by omega)), hT1.i (by decide), ha, ?_, ?_, ?_, fun y => by rw [nd] at y; exact absurd y (by decide)⟩
    · rw [mI_s, if_neg (by decide)]; exact g3
    · rw [mI_s, if_neg (by decide), g4]; unfold tkB; rw [nl, nd]; simp [q]
    · rw [mI_s, if_pos rfl]; unfold srt; rw [if_neg q]; rfl
