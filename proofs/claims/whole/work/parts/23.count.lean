/-! how many bits: the loop that takes the lowest off, and Long.bitCount -/
def pc (x : Int64) : Nat := fb_ct (tb x) 64
theorem tb_uN (x : Int64) (c : Nat) : tb x c = (uN x).testBit c := rfl
theorem pc_le (x : Int64) : pc x ≤ 64 := fb_ct_le _ _
theorem pc_0 : pc 0 = 0 := fb_ct_zero.mpr (fun k _ => tb_0 k)
theorem ne0_bit {x : Int64} (h : x ≠ 0) : ∃ k, k < 64 ∧ tb x k = true ∧ ∀ j, j < k → tb x j = false := by
  have h1 : ∃ i, i < 64 ∧ tb x i = true := by
    apply Classical.byContradiction
    intro q
    apply h
    apply tb_ext
    intro c hc
    rw [tb_0]
    cases e : tb x c with
    | false => rfl
    | true => exact absurd ⟨c, hc, e⟩ q
  obtain ⟨i, h2, h3, h4⟩ := fb_first (p := fun i => tb x i = true) h1
  exact ⟨i, h2, h3, fun j hj => by cases e : tb x j with
    | false => rfl
    | true => exact absurd e (h4 j hj)⟩
theorem nat_low {n k c : Nat} (hk : n.testBit k = true) (hl : ∀ j, j < k → n.testBit j = false) : (n &&& (n - 1)).testBit c = (n.testBit c && decide (c ≠ k)) := by
  have hm : n % 2 ^ k = 0 := by
    apply Nat.eq_of_testBit_eq
    intro i
    rw [Nat.testBit_mod_two_pow, Nat.zero_testBit]
    by_cases h : i < k
    · rw [hl i h]; simp
    · simp [h]
  rw [Nat.testBit_and]
  rcases Nat.lt_trichotomy c k with h | h | h
  · rw [hl c h]; simp
  · subst h
    have hq : n / 2 ^ c % 2 = 1 := by
      have := hk
      rw [Nat.testBit_eq_decide_div_mod_eq] at this
      simpa using this
    have hpos : 0 < 2 ^ c := Nat.pow_pos (by decide)
    have e1 : (n - 1) / 2 ^ c = n / 2 ^ c - 1 := by
      have e2 := Nat.div_add_mod n (2 ^ c)
      rw [hm, Nat.add_zero] at e2
      have h1 : 1 ≤ n / 2 ^ c := by
        rcases Nat.eq_zero_or_pos (n / 2 ^ c) with q | q
        · rw [q] at hq; cases hq
        · exact q
      obtain ⟨q, hq2⟩ : ∃ q, n / 2 ^ c = q + 1 := ⟨n / 2 ^ c - 1, by omega⟩
      rw [hq2] at e2 ⊢
      rw [Nat.mul_succ] at e2
      have e3 : n - 1 = (2 ^ c - 1) + 2 ^ c * q := by omega
      rw [e3, Nat.add_mul_div_left _ _ hpos, Nat.div_eq_of_lt (by omega)]
      omega
    rw [Nat.testBit_eq_decide_div_mod_eq (x := n - 1), e1]
    have : ¬ (n / 2 ^ c - 1) % 2 = 1 := by omega
    simp [this]
  · have hne : n % 2 ^ c ≠ 0 := by
      intro q
      have := Nat.testBit_mod_two_pow n c k
      rw [q, Nat.zero_testBit, hk] at this
      simp [h] at this
    have hpos : 0 < 2 ^ c := Nat.pow_pos (by decide)
    have e1 : (n - 1) / 2 ^ c = n / 2 ^ c := by
      have e2 := Nat.div_add_mod n (2 ^ c)
      have hlt := Nat.mod_lt n hpos
      have e3 : n - 1 = (n % 2 ^ c - 1) + 2 ^ c * (n / 2 ^ c) := by omega
      rw [e3, Nat.add_mul_div_left _ _ hpos, Nat.div_eq_of_lt (by omega)]
      omega
    have hck : c ≠ k := by omega
    rw [Nat.testBit_eq_decide_div_mod_eq (x := n - 1), e1, ← Nat.testBit_eq_decide_div_mod_eq]
    simp [hck]
theorem uN_sub1 {x : Int64} (h : x ≠ 0) : uN (x - 1) = uN x - 1 := by
  have h0 : uN x ≠ 0 := fun q => h (uN_inj (q.trans (by decide)))
  have hl := uN_lt x
  have e : uN (x - 1) = (18446744073709551616 - 1 + uN x) % 18446744073709551616 := by
    show (x - 1).toBitVec.toNat = _
    rw [Int64.toBitVec_sub, BitVec.toNat_sub]
    rfl
  rw [e]
  omega
theorem low_off {x : Int64} {k : Nat} (hk : tb x k = true) (hl : ∀ j, j < k → tb x j = false) (c : Nat) : tb (x &&& (x - 1)) c = (tb x c && decide (c ≠ k)) := by
  have h : x ≠ 0 := fun q => by rw [q, tb_0] at hk; cases hk
  rw [tb_uN]
  have e : uN (x &&& (x - 1)) = uN x &&& uN (x - 1) := by
    show (x &&& (x - 1)).toBitVec.toNat = _
    rw [Int64.toBitVec_and, BitVec.toNat_and]
    rfl
  rw [e, uN_sub1 h]
  exact nat_low hk hl
theorem pc_low {x : Int64} (h : x ≠ 0) : pc (x &&& (x - 1)) + 1 = pc x := by
  obtain ⟨k, h1, h2, h3⟩ := ne0_bit h
  have e : pc (x &&& (x - 1)) = fb_ct (fun c => if c = k then false else tb x c) 64 := by
    apply fb_ct_cong
    intro c hc
    rw [low_off h2 h3]
    by_cases q : c = k
    · simp [q]
    · simp [q]
  have e2 := fb_ct_upd (tb x) false (i := k) (n := 64) h1
  rw [h2] at e2
  simp only [if_true] at e2
  rw [e]
  unfold pc
  have e3 : (if false = true then 1 else 0) = 0 := rfl
  rw [e3] at e2
  omega
theorem p_onesL : ∀ (n f : Nat) (k : Nat) (x : Int64) (M : Nm), pc x = n → n < f → f_M_ones_L4 f (nI k) x M = some (nI (k + n), M) := by
  intro n
  induction n with
  | zero =>
    intro f k x M h hf
    obtain ⟨f, rfl⟩ : ∃ g, f = g + 1 := ⟨f - 1, by omega⟩
    have hx : x = 0 := by
      apply Classical.byContradiction
      intro q
      have := pc_low q
      omega
    rw [f_M_ones_L4, if_pos (lg0.mpr hx)]
    rfl
  | succ n ih =>
    intro f k x M h hf
    obtain ⟨f, rfl⟩ : ∃ g, f = g + 1 := ⟨f - 1, by omega⟩
    have hx : x ≠ 0 := fun q => by rw [q, pc_0] at h; omega
    rw [f_M_ones_L4, if_neg (fun q => hx (lg0.mp q)), nI_1, ih f (k + 1) _ M (by have := pc_low hx; omega) (by omega)]
    rw [show k + 1 + n = k + (n + 1) by omega]
theorem FU_gt {n : Nat} (h : n < 1000000) : n < FU := h
theorem p_ones (x : Int64) (M : Nm) : f_M_ones x M = some (nI (pc x), M) := by
  unfold f_M_ones
  have h := p_onesL (pc x) FU 0 x M rfl (FU_gt (by have := pc_le x; omega))
  rw [Nat.zero_add] at h
  exact h
/-! Long.bitCount -/
theorem and_sp (k a b x y : Nat) (ha : a < 2 ^ k) (hb : b < 2 ^ k) : (a + 2 ^ k * x) &&& (b + 2 ^ k * y) = (a &&& b) + 2 ^ k * (x &&& y) := by
  apply Nat.eq_of_testBit_eq
  intro i
  have hab : a &&& b < 2 ^ k := Nat.lt_of_le_of_lt Nat.and_le_left ha
  rw [Nat.testBit_and, Nat.add_comm a, Nat.add_comm b, Nat.add_comm (a &&& b), Nat.testBit_two_pow_mul_add _ ha, Nat.testBit_two_pow_mul_add _ hb, Nat.testBit_two_pow_mul_add _ hab]
  by_cases h : i < k
  · simp [h]
  · simp [h]
def bm1 : Nat → Nat
  | 0 => 0
  | n + 1 => 1 + 4 * bm1 n
def bm2 : Nat → Nat
  | 0 => 0
  | n + 1 => 3 + 16 * bm2 n
def bm4 : Nat → Nat
  | 0 => 0
  | n + 1 => 15 + 256 * bm4 n
/-- digits to a base: each at most m; their sum -/
def dgs (b m : Nat) : Nat → Nat → Prop
  | 0, y => y = 0
  | n + 1, y => y % b ≤ m ∧ dgs b m n (y / b)
def dsum (b : Nat) : Nat → Nat → Nat
  | 0, _ => 0
  | n + 1, y => y % b + dsum b n (y / b)
theorem and3 : ∀ b, b < 4 → ∀ q, q < 4 → (b + 4 * q) &&& 3 = b := by decide
theorem and1 : ∀ b, b < 2 → ∀ q, q < 2 → (b + 2 * q) &&& 1 = b := by decide
theorem and15 : ∀ b, b < 16 → ∀ q, q < 16 → (b + 16 * q) &&& 15 = b := by decide
theorem bcA : ∀ n x, x < 4 ^ n → (x / 2 &&& bm1 n ≤ x) ∧ dgs 4 2 n (x - (x / 2 &&& bm1 n)) ∧ dsum 4 n (x - (x / 2 &&& bm1 n)) = dsum 2 (2 * n) x := by
  intro n
  induction n with
  | zero =>
    intro x hx
    have : x = 0 := by simpa using hx
    subst this
    simp [bm1, dgs, dsum]
  | succ n ih =>
    intro x hx
    have hx' : x / 4 < 4 ^ n := by
      rw [Nat.pow_succ] at hx
      omega
    obtain ⟨h1, h2, h3⟩ := ih (x / 4) hx'
    have e1 : x / 2 &&& bm1 (n + 1) = x % 4 / 2 + 4 * (x / 4 / 2 &&& bm1 n) := by
      have hd : x / 2 = (x % 4 / 2 + 2 * (x / 4 % 2)) + 2 ^ 2 * (x / 4 / 2) := by omega
      have hm : bm1 (n + 1) = 1 + 2 ^ 2 * bm1 n := rfl
      rw [hd, hm, and_sp 2 _ _ _ _ (by omega) (by omega), and1 _ (by omega) _ (by omega)]
    have e2 : x - (x / 2 &&& bm1 (n + 1)) = (x % 4 - x % 4 / 2) + 4 * (x / 4 - (x / 4 / 2 &&& bm1 n)) := by
      rw [e1]; omega
    have e3 : (x - (x / 2 &&& bm1 (n + 1))) % 4 = x % 4 - x % 4 / 2 := by rw [e2]; omega
    have e4 : (x - (x / 2 &&& bm1 (n + 1))) / 4 = x / 4 - (x / 4 / 2 &&& bm1 n) := by rw [e2]; omega
    refine ⟨by rw [e1]; omega, ⟨by rw [e3]; omega, by rw [e4]; exact h2⟩, ?_⟩
    show (x - (x / 2 &&& bm1 (n + 1))) % 4 + dsum 4 n ((x - (x / 2 &&& bm1 (n + 1))) / 4) = x % 2 + (x / 2 % 2 + dsum 2 (2 * n) (x / 2 / 2))
    rw [e3, e4, h3, show x / 2 / 2 = x / 4 by omega]
    omega
theorem bcB : ∀ n y, dgs 4 2 (2 * n) y → dgs 16 4 n ((y &&& bm2 n) + (y / 4 &&& bm2 n)) ∧ dsum 16 n ((y &&& bm2 n) + (y / 4 &&& bm2 n)) = dsum 4 (2 * n) y := by
  intro n
  induction n with
  | zero =>
    intro y hy
    have : y = 0 := hy
    subst this
    simp [bm2, dgs, dsum]
  | succ n ih =>
    intro y hy
    obtain ⟨a1, a2, a3⟩ := hy
    rw [Nat.div_div_eq_div_mul] at a3
    obtain ⟨h1, h2⟩ := ih (y / 16) a3
    have e1 : y &&& bm2 (n + 1) = y % 4 + 16 * (y / 16 &&& bm2 n) := by
      have hd : y = (y % 4 + 4 * (y / 4 % 4)) + 2 ^ 4 * (y / 16) := by omega
      have hm : bm2 (n + 1) = 3 + 2 ^ 4 * bm2 n := rfl
      rw [hm]
      conv => lhs; rw [hd]
      rw [and_sp 4 _ _ _ _ (by omega) (by omega), and3 _ (by omega) _ (by omega)]
    have e2 : y / 4 &&& bm2 (n + 1) = y / 4 % 4 + 16 * (y / 16 / 4 &&& bm2 n) := by
      have hd : y / 4 = (y / 4 % 4 + 4 * (y / 16 % 4)) + 2 ^ 4 * (y / 16 / 4) := by omega
      have hm : bm2 (n + 1) = 3 + 2 ^ 4 * bm2 n := rfl
      rw [hm]
      conv => lhs; rw [hd]
      rw [and_sp 4 _ _ _ _ (by omega) (by omega), and3 _ (by omega) _ (by omega)]
    have e5 : (y &&& bm2 (n + 1)) + (y / 4 &&& bm2 (n + 1)) = (y % 4 + y / 4 % 4) + 16 * ((y / 16 &&& bm2 n) + (y / 16 / 4 &&& bm2 n)) := by rw [e1, e2]; omega
    have e3 : ((y &&& bm2 (n + 1)) + (y / 4 &&& bm2 (n + 1))) % 16 = y % 4 + y / 4 % 4 := by rw [e5]; omega
    have e4 : ((y &&& bm2 (n + 1)) + (y / 4 &&& bm2 (n + 1))) / 16 = (y / 16 &&& bm2 n) + (y / 16 / 4 &&& bm2 n) := by rw [e5]; omega
    refine ⟨⟨by rw [e3]; omega, by rw [e4]; exact h1⟩, ?_⟩
    show ((y &&& bm2 (n + 1)) + (y / 4 &&& bm2 (n + 1))) % 16 + dsum 16 n (((y &&& bm2 (n + 1)) + (y / 4 &&& bm2 (n + 1))) / 16) = y % 4 + (y / 4 % 4 + dsum 4 (2 * n) (y / 4 / 4))
    rw [e3, e4, h2, show y / 4 / 4 = y / 16 by omega]
    omega
theorem dgs_mod {b m n y : Nat} (h : dgs b m n y) : y % b ≤ m := by
  cases n with
  | zero => rw [show y = 0 from h]; simp
  | succ n => exact h.1
theorem bcC : ∀ n z, dgs 16 4 (2 * n) z → dgs 256 8 n ((z + z / 16) &&& bm4 n) ∧ dsum 256 n ((z + z / 16) &&& bm4 n) = dsum 16 (2 * n) z := by
  intro n
  induction n with
  | zero =>
    intro z hz
    have : z = 0 := hz
    subst this
    simp [bm4, dgs, dsum]
  | succ n ih =>
    intro z hz
    obtain ⟨a1, a2, a3⟩ := hz
    rw [Nat.div_div_eq_div_mul] at a3
    obtain ⟨h1, h2⟩ := ih (z / 256) a3
    have hm0 := dgs_mod a3
    have e1 : (z + z / 16) &&& bm4 (n + 1) = (z % 16 + z / 16 % 16) + 256 * ((z / 256 + z / 256 / 16) &&& bm4 n) := by
      have hd : z + z / 16 = ((z % 16 + z / 16 % 16) + 16 * ((z / 16 % 16 + z / 256 % 16))) + 2 ^ 8 * (z / 256 + z / 256 / 16) := by omega
      have hm : bm4 (n + 1) = 15 + 2 ^ 8 * bm4 n := rfl
      rw [hm, hd, and_sp 8 _ _ _ _ (by omega) (by omega), and15 _ (by omega) _ (by omega)]
    have e3 : ((z + z / 16) &&& bm4 (n + 1)) % 256 = z % 16 + z / 16 % 16 := by rw [e1]; omega
    have e4 : ((z + z / 16) &&& bm4 (n + 1)) / 256 = ((z / 256 + z / 256 / 16) &&& bm4 n) := by rw [e1]; omega
    refine ⟨⟨by rw [e3]; omega, by rw [e4]; exact h1⟩, ?_⟩
    show ((z + z / 16) &&& bm4 (n + 1)) % 256 + dsum 256 n (((z + z / 16) &&& bm4 (n + 1)) / 256) = z % 16 + (z / 16 % 16 + dsum 16 (2 * n) (z / 16 / 16))
    rw [e3, e4, h2, show z / 16 / 16 = z / 256 by omega]
    omega
theorem dsum2 : ∀ n x, dsum 2 n x = fb_ct (fun c => x.testBit c) n := by
  intro n
  induction n with
  | zero => intro x; rfl
  | succ n ih =>
    intro x
    have h := fb_ct_split (fun c => x.testBit c) 1 n
    rw [Nat.add_comm 1 n] at h
    rw [h]
    show x % 2 + dsum 2 n (x / 2) = _
    rw [ih]
    have e : fb_ct (fun c => x.testBit c) 1 = x % 2 := by
      show 0 + (if x.testBit 0 = true then 1 else 0) = x % 2
      rw [Nat.testBit_zero]
      by_cases q : x % 2 = 1
      · simp [q]
      · have : x % 2 = 0 := by omega
        simp [this]
    rw [e]
    congr 1
    apply fb_ct_cong
    intro k _
    rw [Nat.add_comm 1 k, Nat.testBit_succ]
theorem uN_and (x y : Int64) : uN (x &&& y) = uN x &&& uN y := by
  show (x &&& y).toBitVec.toNat = _
  rw [Int64.toBitVec_and, BitVec.toNat_and]
  rfl
theorem uN_sub {x y : Int64} (h : uN y ≤ uN x) : uN (x - y) = uN x - uN y := by
  have e : uN (x - y) = (18446744073709551616 - uN y + uN x) % 18446744073709551616 := by
    show (x - y).toBitVec.toNat = _
    rw [Int64.toBitVec_sub, BitVec.toNat_sub]
    rfl
  have h1 := uN_lt x
  have h2 := uN_lt y
  rw [e]
  omega
theorem uN_sh (x : Int64) (k : Nat) (hk : k < 64) {s : Int32} (hs : s = nI k) : uN (x.toUInt64 >>> (s.toInt64.toUInt64 &&& Int64.toUInt64 63)).toInt64 = uN x / 2 ^ k := by
  subst hs
  exact uN_sk x hk
theorem dgs_lt {b m : Nat} (hm : m < b) : ∀ n y, dgs b m n y → y < b ^ n := by
  intro n
  induction n with
  | zero => intro y h; rw [show y = 0 from h]; exact Nat.pow_pos (by omega)
  | succ n ih =>
    intro y h
    have h1 := ih _ h.2
    rw [Nat.pow_succ, Nat.mul_comm]
    have hb : 0 < b := by omega
    have := Nat.div_add_mod y b
    have h2 := Nat.mod_lt y hb
    calc y = b * (y / b) + y % b := this.symm
      _ < b * (y / b) + b := by omega
      _ = b * (y / b + 1) := by rw [Nat.mul_succ]
      _ ≤ b * b ^ n := Nat.mul_le_mul_left b h1
theorem bc_u {w0 w1 w2 w3 : Nat} (h0 : w0 % 256 ≤ 8) (h1 : w1 % 256 ≤ 8) (h2 : w2 % 256 ≤ 8) (e0 : w0 / 256 = w1) (e1 : w1 / 256 = w2) (e2 : w2 / 256 = w3) : (w0 + w1) / 65536 = w2 + w3 := by
  have a0 : w0 = w0 % 256 + 256 * w1 := by omega
  have a1 : w1 = w1 % 256 + 256 * w2 := by omega
  have a2 : w2 = w2 % 256 + 256 * w3 := by omega
  omega
theorem bc_4 {w0 w1 w2 w3 w4 : Nat} (h0 : w0 % 256 ≤ 8) (h1 : w1 % 256 ≤ 8) (h2 : w2 % 256 ≤ 8) (h3 : w3 % 256 ≤ 8) (e0 : w0 / 256 = w1) (e1 : w1 / 256 = w2) (e2 : w2 / 256 = w3) (e3 : w3 / 256 = w4) : ∃ L, L < 150000000 ∧ w0 = L + 4294967296 * w4 := by
  have a0 : w0 = w0 % 256 + 256 * w1 := by omega
  have a1 : w1 = w1 % 256 + 256 * w2 := by omega
  have a2 : w2 = w2 % 256 + 256 * w3 := by omega
  have a3 : w3 = w3 % 256 + 256 * w4 := by omega
  exact ⟨w0 % 256 + 256 * (w1 % 256) + 65536 * (w2 % 256) + 16777216 * (w3 % 256), by omega, by omega⟩
theorem bc_end {w0 w1 w2 w3 w4 w5 w6 w7 : Nat} (h0 : w0 % 256 ≤ 8) (h1 : w1 % 256 ≤ 8) (h2 : w2 % 256 ≤ 8) (h3 : w3 % 256 ≤ 8) (h4 : w4 % 256 ≤ 8) (h5 : w5 % 256 ≤ 8) (h6 : w6 % 256 ≤ 8) (h7 : w7 % 256 ≤ 8) (e0 : w0 / 256 = w1) (e1 : w1 / 256 = w2) (e2 : w2 / 256 = w3) (e3 : w3 / 256 = w4) (e4 : w4 / 256 = w5) (e5 : w5 / 256 = w6) (e6 : w6 / 256 = w7) (e7 : w7 / 256 = 0) : (w0 + w1 + (w0 + w1) / 65536 + (w0 + w1 + (w0 + w1) / 65536) / 4294967296) % 128 = w0 % 256 + w1 % 256 + w2 % 256 + w3 % 256 + w4 % 256 + w5 % 256 + w6 % 256 + w7 % 256 := by
  rw [bc_u h0 h1 h2 e0 e1 e2]
  obtain ⟨L0, l0, q0⟩ := bc_4 h0 h1 h2 h3 e0 e1 e2 e3
  obtain ⟨L1, l1, q1⟩ := bc_4 h1 h2 h3 h4 e1 e2 e3 e4
  obtain ⟨L2, l2, q2⟩ := bc_4 h2 h3 h4 h5 e2 e3 e4 e5
  obtain ⟨L3, l3, q3⟩ := bc_4 h3 h4 h5 h6 e3 e4 e5 e6
  have e : (w0 + w1 + (w2 + w3)) / 4294967296 = w4 + w5 + w6 + w7 := by
    rw [q0, q1, q2, q3]
    have : L0 + 4294967296 * w4 + (L1 + 4294967296 * w5) + (L2 + 4294967296 * w6 + (L3 + 4294967296 * w7)) = (L0 + L1 + L2 + L3) + 4294967296 * (w4 + w5 + w6 + w7) := by omega
    rw [this, Nat.add_mul_div_left _ _ (by decide), Nat.div_eq_of_lt (by omega), Nat.zero_add]
  rw [e]
  clear q0 q1 q2 q3 e e0 e1 e2 e3 e4 e5 e6 e7
  have z : ∀ w : Nat, ∃ k, w = w % 256 + 256 * k := fun w => ⟨w / 256, by omega⟩
  obtain ⟨k0, z0⟩ := z w0
  obtain ⟨k1, z1⟩ := z w1
  obtain ⟨k2, z2⟩ := z w2
  obtain ⟨k3, z3⟩ := z w3
  obtain ⟨k4, z4⟩ := z w4
  obtain ⟨k5, z5⟩ := z w5
  obtain ⟨k6, z6⟩ := z w6
  obtain ⟨k7, z7⟩ := z w7
  have s : w0 + w1 + (w2 + w3) + (w4 + w5 + w6 + w7) = (w0 % 256 + w1 % 256 + w2 % 256 + w3 % 256 + w4 % 256 + w5 % 256 + w6 % 256 + w7 % 256) + 128 * (2 * (k0 + k1 + k2 + k3 + k4 + k5 + k6 + k7)) := by
    conv => lhs; rw [z0, z1, z2, z3, z4, z5, z6, z7]
    generalize w0 % 256 = c0
    generalize w1 % 256 = c1
    generalize w2 % 256 = c2
    generalize w3 % 256 = c3
    generalize w4 % 256 = c4
    generalize w5 % 256 = c5
    generalize w6 % 256 = c6
    generalize w7 % 256 = c7
    omega
  rw [s, Nat.add_mul_mod_self_left, Nat.mod_eq_of_lt]
  omega
theorem p_bitCount (x : Int64) (M : Nm) : f_Jl_bitCount x M = some (nI (pc x), M) := by
  unfold f_Jl_bitCount
  simp only [bl_e]
  have hx : uN x < 4 ^ 32 := uN_lt x
  obtain ⟨a1, a2, a3⟩ := bcA 32 (uN x) hx
  have m1 : bm1 32 = 6148914691236517205 := by decide +kernel
  have m2 : bm2 16 = 3689348814741910323 := by decide +kernel
  have m4 : bm4 8 = 1085102592571150095 := by decide +kernel
  -- first
  generalize hy : x - (((x.toUInt64 >>> ((1 : Int32).toInt64.toUInt64 &&& Int64.toUInt64 63)).toInt64) &&& 6148914691236517205) = y
  have ey : uN y = uN x - (uN x / 2 &&& bm1 32) := by
    have e : uN (((x.toUInt64 >>> ((1 : Int32).toInt64.toUInt64 &&& Int64.toUInt64 63)).toInt64) &&& 6148914691236517205) = uN x / 2 &&& bm1 32 := by
      rw [uN_and, uN_sh x 1 (by decide) (s := 1) rfl, m1]
      rfl
    rw [← hy, uN_sub (by rw [e]; exact a1), e]
  rw [← ey] at a2 a3
  obtain ⟨b1, b2⟩ := bcB 16 (uN y) a2
  generalize hz : (y &&& 3689348814741910323) + (((y.toUInt64 >>> ((2 : Int32).toInt64.toUInt64 &&& Int64.toUInt64 63)).toInt64) &&& 3689348814741910323) = z
  have ez : uN z = (uN y &&& bm2 16) + (uN y / 4 &&& bm2 16) := by
    have hl := dgs_lt (by decide) _ _ b1
    have h16 : (16 : Nat) ^ 16 = 18446744073709551616 := by decide
    rw [h16] at hl
    rw [← hz, uN_add, uN_and, uN_and, uN_sh y 2 (by decide) (s := 2) rfl]
    have e9 : uN 3689348814741910323 = bm2 16 := by rw [m2]; rfl
    rw [e9]
    exact Nat.mod_eq_of_lt hl
  rw [← ez] at b1 b2
  obtain ⟨c1, c2⟩ := bcC 8 (uN z) b1
  generalize hw : (z + ((z.toUInt64 >>> ((4 : Int32).toInt64.toUInt64 &&& Int64.toUInt64 63)).toInt64)) &&& 1085102592571150095 = w
  have hz1 : uN z + uN z / 16 < 18446744073709551616 := by
    have hlz : uN z < 5 * 16 ^ 15 := by
      have hb := b1.1
      have key : ∀ n y, dgs 16 4 (n + 1) y → y < 5 * 16 ^ n := by
        intro n
        induction n with
        | zero =>
          intro y h
          have e0 : y / 16 = 0 := h.2
          have := h.1
          omega
        | succ n ih =>
          intro y h
          have h1 := ih _ h.2
          have h2 := h.1
          rw [Nat.pow_succ]
          omega
      exact key 15 _ b1
    have h15 : (16 : Nat) ^ 15 = 1152921504606846976 := by decide
    omega
  have ew : uN w = (uN z + uN z / 16) &&& bm4 8 := by
    rw [← hw, uN_and, uN_add, uN_sh z 4 (by decide) (s := 4) rfl, m4, Nat.mod_eq_of_lt hz1]
    rfl
  rw [← ew] at c1 c2
  obtain ⟨d0, d1, d2, d3, d4, d5, d6, d7, d8⟩ := c1
  have hsum : dsum 256 8 (uN w) = pc x := by
    rw [c2, b2, a3, dsum2]
    rfl
  have hend := bc_end d0 d1 d2 d3 d4 d5 d6 d7 rfl rfl rfl rfl rfl rfl rfl d8
  have hs2 : dsum 256 8 (uN w) = uN w % 256 + uN w / 256 % 256 + uN w / 256 / 256 % 256 + uN w / 256 / 256 / 256 % 256 + uN w / 256 / 256 / 256 / 256 % 256 + uN w / 256 / 256 / 256 / 256 / 256 % 256 + uN w / 256 / 256 / 256 / 256 / 256 / 256 % 256 + uN w / 256 / 256 / 256 / 256 / 256 / 256 / 256 % 256 := by
    simp only [dsum, Nat.add_zero, Nat.add_assoc]
  have hw60 : uN w < 9 * 256 ^ 7 := by
    have h256 : (256 : Nat) ^ 7 = 72057594037927936 := by decide
    have key : ∀ n y, dgs 256 8 (n + 1) y → y < 9 * 256 ^ n := by
      intro n
      induction n with
      | zero =>
        intro y h
        have e0 : y / 256 = 0 := h.2
        have := h.1
        omega
      | succ n ih =>
        intro y h
        have h1 := ih _ h.2
        have h2 := h.1
        rw [Nat.pow_succ]
        omega
    exact key 7 _ ⟨d0, d1, d2, d3, d4, d5, d6, d7, d8⟩
  have h256 : (256 : Nat) ^ 7 = 72057594037927936 := by decide
  generalize hu : w + ((w.toUInt64 >>> ((8 : Int32).toInt64.toUInt64 &&& Int64.toUInt64 63)).toInt64) = u
  have eu : uN u = uN w + uN w / 256 := by
    rw [← hu, uN_add, uN_sh w 8 (by decide) (s := 8) rfl]
    exact Nat.mod_eq_of_lt (by omega)
  generalize hv : u + ((u.toUInt64 >>> ((16 : Int32).toInt64.toUInt64 &&& Int64.toUInt64 63)).toInt64) = v
  have ev : uN v = uN u + uN u / 65536 := by
    rw [← hv, uN_add, uN_sh u 16 (by decide) (s := 16) rfl]
    exact Nat.mod_eq_of_lt (by omega)
  generalize hq : v + ((v.toUInt64 >>> ((32 : Int32).toInt64.toUInt64 &&& Int64.toUInt64 63)).toInt64) = q
  have eq2 : uN q = uN v + uN v / 4294967296 := by
    rw [← hq, uN_add, uN_sh v 32 (by decide) (s := 32) rfl]
    exact Nat.mod_eq_of_lt (by omega)
  have efin : uN q % 128 = pc x := by
    rw [← hsum, hs2, eq2, ev, eu, hend]
  have e3 : q.toInt32 &&& 127 = nI (uN q % 128) := by
    have h1 : q.toInt32 = nI (uN q) := by
      have hq9 : lN (uN q) = q := by
        apply wb_inj
        rw [wb_tb]
        apply BitVec.eq_of_toNat_eq
        rw [BitVec.toNat_ofNat]
        exact Nat.mod_eq_of_lt (uN_lt q)
      calc q.toInt32 = (lN (uN q)).toInt32 := by rw [hq9]
        _ = nI (uN q) := lN_i _
    rw [h1, show (127 : Int32) = nI (2 ^ 7 - 1) from rfl, fa_mask]
  rw [e3, efin]
