/-! the reference: the tape -/
theorem and255 (x : Int32) : x &&& 255 = nI (x.toBitVec.toNat % 256) := by
  apply Int32.toBitVec_inj.mp
  apply BitVec.eq_of_toNat_eq
  rw [Int32.toBitVec_and, BitVec.toNat_and]
  show x.toBitVec.toNat &&& 255 = (BitVec.ofNat 32 (x.toBitVec.toNat % 256)).toNat
  rw [BitVec.toNat_ofNat, show (255 : Nat) = 2 ^ 8 - 1 from rfl, Nat.and_two_pow_sub_one_eq_mod]
  have : x.toBitVec.toNat % 2 ^ 8 < 2 ^ 8 := Nat.mod_lt _ (by decide)
  omega
/-- byte k of an int -/
def byN (v : Int32) (k : Nat) : Nat := (v >>> ((8 * nI k) &&& 31)).toBitVec.toNat % 256
theorem byN_lt (v : Int32) (k : Nat) : byN v k < 256 := Nat.mod_lt _ (by decide)
def fdF (v : Int32) : Nat → Nat × (Nat → Nat) → Nat × (Nat → Nat)
  | 0, q => q
  | k + 1, q => fdF v k (q.1 + 1, un q.2 q.1 (byN v k))
theorem fdF_1 (v : Int32) : ∀ k q, (fdF v k q).1 = q.1 + k := by
  intro k
  induction k with
  | zero => intro q; rfl
  | succ k ih => intro q; show (fdF v k _).1 = _; rw [ih]; show q.1 + 1 + k = _; omega
def o_feed (v1 v2 : Int32) (A : Ab) : (Int32 × Ab) ⊕ Nat := if rg v2 1 4 then (if zA A + ix v2 ≤ 120 then .inl (nI (zA A + ix v2), spA A (zA A + ix v2) (fdF v1 (ix v2) (zA A, pA A)).2) else .inr 1) else .inr 0
theorem RA.p {M : Nm} {A : Ab} (hR : RA M A) {z : Nat} {p : Nat → Nat} (hz : z = zA A) (hp : p = pA A) {b : Nat} : RA (mI (mI M 96 z (nI b)) 86 11 (nI (z + 1))) (spA A (z + 1) (un p z b)) := by
  subst hz
  subst hp
  obtain ⟨r1, r2, r3, r4, r5, r6, r7⟩ := hR
  refine ⟨by rw [mI_o (by decide), mI_o (by decide)]; exact r1, fun i hi => by rw [mI_o (by decide), mI_o (by decide)]; exact r2 i hi, ?_, fun q => by rw [mI_o (by decide), mI_o (by decide)]; exact r4 q, ?_, fun i hi => ?_, fun s hs => ?_⟩
  · rw [mI_u, uw_n (by decide), mI_o (by decide)]; exact r3
  · rw [mI_u, uw_s]; rfl
  · rw [mI_o (by decide), mI_u]
    show uw (M.1 96) (zA A) (nI b) i = nI (un (pA A) (zA A) b i)
    by_cases q : i = zA A
    · rw [q, uw_s, un_s]
    · have hi2 : i < zA A + 1 := hi
      rw [uw_n q, un_n q]; exact r6 i (by omega)
  · rw [mI_o (by decide), mI_o (by decide), mI_o (by decide), mI_o (by decide), mI_L, mI_L]; exact r7 s hs
theorem p_fdL (v1 : Int32) (A0 : Ab) : ∀ (k f : Nat) (A : Ab) (M : Nm), RA M A → zA A + k ≤ 120 → k < f → k ≤ 4 → ∃ M', f_M_feed_L41 v1 f (nI k + (-1)) M = some (nI (zA A + k), M') ∧ Fk M M' ∧ RA M' (spA A (zA A + k) (fdF v1 k (zA A, pA A)).2) := by
  intro k
  induction k with
  | zero =>
    intro f A M hR hz hf h4
    obtain ⟨f, rfl⟩ : ∃ g, f = g + 1 := ⟨f - 1, by omega⟩
    refine ⟨M, ?_, Fk.rf M, hR⟩
    rw [f_M_feed_L41, if_pos (by decide), hR.2.2.2.2.1]
    rfl
  | succ k ih =>
    intro f A M hR hz hf h4
    obtain ⟨f, rfl⟩ : ∃ g, f = g + 1 := ⟨f - 1, by omega⟩
    have hR1 := hR.p (z := zA A) (p := pA A) rfl rfl (b := byN v1 k)
    obtain ⟨M', e1, e2, e3⟩ := ih f (spA A (zA A + 1) (un (pA A) (zA A) (byN v1 k))) _ hR1 (show zA A + 1 + k ≤ 120 by omega) (by omega) (by omega)
    refine ⟨M', ?_, Fk.tr (Fk.i (by decide)) (Fk.tr (Fk.i (by decide)) e2), ?_⟩
    · have h255 : (v1 >>> ((8 * nI k) &&& 31)) &&& 255 = nI (byN v1 k) := and255 _
      rw [pk_m1, f_M_feed_L41, if_neg (nI_pos (by omega)), hR.2.2.2.2.1, grd_h (inb_nI (by omega) (by decide)), bl_e, ix_nI (by omega), h255, bl_e, mI_o (by decide), hR.2.2.2.2.1, nI_1, e1]
      show some (nI (zA A + 1 + k), M') = some (nI (zA A + (k + 1)), M')
      rw [show zA A + 1 + k = zA A + (k + 1) by omega]
    · have e3' : RA M' (spA A (zA A + 1 + k) (fdF v1 k (zA A + 1, un (pA A) (zA A) (byN v1 k))).2) := e3
      rw [show zA A + 1 + k = zA A + (k + 1) by omega] at e3'
      exact e3'
theorem q_feed {A : Ab} (v1 v2 : Int32) (hz : zA A ≤ 120) (M : Nm) (hR : RA M A) : QA id A M (f_M_feed v1 v2 M) (o_feed v1 v2 A) := by
  unfold f_M_feed o_feed
  rw [show f_M_in v2.toInt64 1 4 M = some (bI (rg v2 1 4), M) from p_inI v2 1 4 M, bnd_s]
  by_cases e : rg v2 1 4 = true
  · obtain ⟨n, n1, n2, n3, n4⟩ := rgM (a := 1) (b := 4) (by decide) e
    rw [if_neg (bI_t e), if_pos e, n4, n3, hR.2.2.2.2.1, nI_add]
    by_cases q : zA A + n ≤ 120
    · rw [if_pos (show nI (zA A + n) ≤ (120 : Int32) from nI_le (b := 120) q (by decide)), if_pos q, Int32.sub_eq_add_neg]
      obtain ⟨M', e1, e2, e3⟩ := p_fdL v1 A n FU A M hR q (FU_gt (by omega)) n2
      exact ⟨M', e1, e2, e3⟩
    · rw [if_neg (show ¬ nI (zA A + n) ≤ (120 : Int32) from nI_ge (a := 120) (by omega) (by omega)), if_neg q]
      exact qa_fd (cv := id) hR (by decide) (by decide)
  · rw [if_pos (bI_f (nf e)), if_neg e]
    exact qa_fd (cv := id) hR (by decide) (by decide)
/-! tokens -/
def isS (z : Nat) (p : Nat → Nat) (i : Nat) : Bool := decide (i < z) && decide (p i = 32)
def isL (z : Nat) (p : Nat → Nat) (i : Nat) : Bool := decide (i < z) && (decide (97 ≤ p i) && decide (p i ≤ 122))
def isD (z : Nat) (p : Nat → Nat) (i : Nat) : Bool := decide (i < z) && (decide (48 ≤ p i) && decide (p i ≤ 57))
def chI (z : Nat) (p : Nat → Nat) (i : Nat) : Int32 := if i < z then nI (p i) else -1
def skF (q : Nat → Bool) : Nat → Nat → Nat
  | 0, i => i
  | n + 1, i => if q i then skF q n (i + 1) else i
theorem skF_s (q : Nat → Bool) (n i : Nat) : skF q (n + 1) i = if q i then skF q n (i + 1) else i := rfl
/-- the first place from i on where it is not so -/
def sk (z : Nat) (q : Nat → Bool) (i : Nat) : Nat := skF q (z - i) i
theorem sk_y {z : Nat} {q : Nat → Bool} {i : Nat} (hi : i < z) (h : q i = true) : sk z q i = sk z q (i + 1) := by
  unfold sk
  rw [show z - i = (z - (i + 1)) + 1 by omega, skF_s, if_pos h]
theorem sk_n {z : Nat} {q : Nat → Bool} {i : Nat} (h : q i = false) : sk z q i = i := by
  unfold sk
  cases e : z - i with
  | zero => rfl
  | succ n => rw [skF_s, if_neg (by simp [h])]
theorem skF_b (q : Nat → Bool) : ∀ n i, i ≤ skF q n i ∧ skF q n i ≤ i + n := by
  intro n
  induction n with
  | zero => intro i; exact ⟨Nat.le_refl _, Nat.le_refl _⟩
  | succ n ih =>
    intro i
    rw [skF_s]
    split
    · have := ih (i + 1); omega
    · omega
theorem sk_le {z : Nat} {q : Nat → Bool} {i : Nat} (hi : i ≤ z) : i ≤ sk z q i ∧ sk z q i ≤ z := by
  have := skF_b q (z - i) i
  unfold sk
  omega
theorem p_byteAt {z : Nat} {p : Nat → Nat} (hz : z ≤ 120) {i : Nat} (hi : i < 1000) (M : Nm) (h11 : M.1 86 11 = nI z) (h96 : ∀ i, i < z → M.1 96 i = nI (p i)) : f_M_byteAt (nI i) M = some (chI z p i, M) := by
  unfold f_M_byteAt chI
  rw [h11]
  by_cases q : i < z
  · rw [if_neg (nI_ge q (by omega)), if_pos q, grd_h (inb_nI (by omega) (by decide)), ix_nI (by omega), h96 i q]
  · rw [if_pos (nI_le (by omega) (by omega)), if_neg q]
theorem p_isLetter {z : Nat} {p : Nat → Nat} (hp : ∀ i, i < z → p i < 256) (i : Nat) (M : Nm) : f_M_isLetter (chI z p i) M = some (bI (isL z p i), M) := by
  unfold f_M_isLetter
  rw [show ∀ v : Int32, f_M_in v.toInt64 97 122 M = some (bI (rg v 97 122), M) from fun v => p_inI v 97 122 M, bnd_s, grd_h (bI_g _)]
  congr 3
  unfold chI isL
  by_cases q : i < z
  · have := hp i q
    rw [if_pos q]
    unfold rg
    rw [nI_toInt (by omega)]
    simp only [q, decide_true, Bool.true_and]
    congr 1 <;> exact decide_eq_decide.mpr (by omega)
  · rw [if_neg q]
    simp only [q, decide_false, Bool.false_and]
    decide
theorem p_isDigit {z : Nat} {p : Nat → Nat} (hp : ∀ i, i < z → p i < 256) (i : Nat) (M : Nm) : f_M_isDigit (chI z p i) M = some (bI (isD z p i), M) := by
  unfold f_M_isDigit
  rw [show ∀ v : Int32, f_M_in v.toInt64 48 57 M = some (bI (rg v 48 57), M) from fun v => p_inI v 48 57 M, bnd_s, grd_h (bI_g _)]
  congr 3
  unfold chI isD
  by_cases q : i < z
  · have := hp i q
    rw [if_pos q]
    unfold rg
    rw [nI_toInt (by omega)]
    simp only [q, decide_true, Bool.true_and]
    congr 1 <;> exact decide_eq_decide.mpr (by omega)
  · rw [if_neg q]
    simp only [q, decide_false, Bool.false_and]
    decide
theorem chI_32 {z : Nat} {p : Nat → Nat} (hp : ∀ i, i < z → p i < 256) (i : Nat) : chI z p i = 32 ↔ isS z p i = true := by
  unfold chI isS
  by_cases q : i < z
  · have := hp i q
    rw [if_pos q, show (32 : Int32) = nI 32 from rfl, nI_eq (by omega) (by decide)]
    simp [q]
  · rw [if_neg q]
    simp only [q, decide_false, Bool.false_and]
    decide
