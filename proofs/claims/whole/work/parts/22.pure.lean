/-! small things: steps of the functions; numbers -/
theorem bnd_s {α β μ : Type} (a : α) (m : μ) (f : α → μ → Option β) : bnd (some (a, m)) f = f a m := rfl
theorem bnd_n {α β μ : Type} (f : α → μ → Option β) : bnd none f = none := rfl
theorem bl_e {α β : Type} (x : α) (f : α → Option β) : bl x f = f x := rfl
theorem grd_t {β : Type} (t : Option β) : grd true t = t := rfl
theorem grd_h {β : Type} {b : Bool} (h : b = true) (t : Option β) : grd b t = t := by rw [h]; rfl
theorem ifn_n {β : Type} (t : Option β) (f : Nat → Option β) : ifn none t f = t := rfl
theorem ifn_s {β : Type} (c : Nat) (t : Option β) (f : Nat → Option β) : ifn (some c) t f = f c := rfl
theorem ix_nI {j : Nat} (h : j < 2 ^ 31) : ix (nI j) = j := nI_clamp h
theorem inb_nI {j n : Nat} (h : j < n) (hn : n < 2 ^ 31) : inb (nI j) n = true := by
  unfold inb
  rw [ix_nI (by omega)]
  simp only [Bool.and_eq_true, decide_eq_true_eq]
  exact ⟨nI_pos' (by omega), h⟩
theorem lg0 {x y : Int64} : lg_cmp x y = 0 ↔ x = y := by
  unfold lg_cmp
  by_cases h : x > y
  · rw [if_pos h]
    constructor
    · intro q; exact absurd q (by decide)
    · intro q; subst q; exact absurd h (Int64.lt_irrefl)
  · rw [if_neg h]
    by_cases e : x = y
    · simp [e]
    · rw [if_neg e]
      constructor
      · intro q; exact absurd q (by decide)
      · intro q; exact absurd q e
theorem lgl {x y : Int64} : lg_cmp x y < 0 ↔ x < y := by
  unfold lg_cmp
  by_cases h : x > y
  · rw [if_pos h]
    constructor
    · intro q; exact absurd q (by decide)
    · intro q; exact absurd (Int64.lt_trans q h) (Int64.lt_irrefl)
  · rw [if_neg h]
    by_cases e : x = y
    · rw [if_pos e]
      constructor
      · intro q; exact absurd q (by decide)
      · intro q; rw [e] at q; exact absurd q (Int64.lt_irrefl)
    · rw [if_neg e]
      refine ⟨fun _ => ?_, fun _ => by decide⟩
      rcases Int64.lt_or_lt_of_ne e with q | q
      · exact q
      · exact absurd q h
theorem lgg {x y : Int64} : 0 < lg_cmp x y ↔ y < x := by
  unfold lg_cmp
  by_cases h : x > y
  · rw [if_pos h]
    exact ⟨fun _ => h, fun _ => by decide⟩
  · rw [if_neg h]
    by_cases e : x = y
    · rw [if_pos e]
      exact ⟨fun q => absurd q (by decide), fun q => absurd q h⟩
    · rw [if_neg e]
      exact ⟨fun q => absurd q (by decide), fun q => absurd q h⟩
/-- truth as an int -/
def bI (b : Bool) : Int32 := if b then 1 else 0
theorem bI_0 {b : Bool} : bI b = 0 ↔ b = false := by cases b <;> simp [bI]
theorem bI_g (b : Bool) : (decide (bI b = 0) || decide (bI b = 1)) = true := by cases b <;> decide
/-- within a range -/
def rg (v : Int32) (lo hi : Int) : Bool := decide (lo ≤ v.toInt) && decide (v.toInt ≤ hi)
theorem rg_1 {v : Int32} {lo hi : Int} : rg v lo hi = true ↔ lo ≤ v.toInt ∧ v.toInt ≤ hi := by simp [rg]
theorem rg_nI {v : Int32} {n : Nat} (h : rg v 0 n = true) : ∃ j : Nat, j ≤ n ∧ v = nI j := by
  obtain ⟨h1, h2⟩ := rg_1.mp h
  refine ⟨v.toInt.toNat, by omega, ?_⟩
  apply Int32.toInt_inj.mp
  rw [nI_toInt (by have := fb_rng v; omega)]
  omega
theorem rg_of {j n : Nat} (h : j ≤ n) (hn : n < 2 ^ 31) : rg (nI j) 0 n = true := by
  rw [rg_1, nI_toInt (by omega)]
  omega
theorem rg_not {v : Int32} {n : Nat} (hn : n < 2 ^ 31) (h : ¬ rg v 0 n = true) : ∀ j : Nat, j ≤ n → v ≠ nI j := fun j hj e => h (by rw [e]; exact rg_of hj hn)
theorem p_in (a b c : Int64) (M : Nm) : f_M_in a b c M = some (bI (decide (b ≤ a) && decide (a ≤ c)), M) := by
  unfold f_M_in
  by_cases h : a < b
  · rw [if_pos (lgl.mpr h)]
    have : ¬ b ≤ a := Int64.not_le.mpr h
    simp [bI, this]
  · rw [if_neg (fun q => h (lgl.mp q))]
    have h1 : b ≤ a := Int64.not_lt.mp h
    by_cases g : c < a
    · rw [if_pos (lgg.mpr g)]
      have : ¬ a ≤ c := Int64.not_le.mpr g
      simp [bI, this]
    · rw [if_neg (fun q => g (lgg.mp q))]
      have h2 : a ≤ c := Int64.not_lt.mp g
      simp [bI, h1, h2]
theorem le_w {x y : Int32} : x.toInt64 ≤ y.toInt64 ↔ x.toInt ≤ y.toInt := by rw [fa_wide_le, fa_le]
theorem p_inI (v lo hi : Int32) (M : Nm) : f_M_in v.toInt64 lo.toInt64 hi.toInt64 M = some (bI (rg v lo.toInt hi.toInt), M) := by
  rw [p_in]
  simp only [rg, le_w]
theorem p_within (v lo hi : Int32) (M : Nm) : f_P_within v lo hi M = some (bI (rg v lo.toInt hi.toInt), M) := by
  unfold f_P_within
  by_cases h : v < lo
  · rw [if_pos h]
    have h2 : ¬ lo.toInt ≤ v.toInt := by rw [fa_lt] at h; omega
    simp [bI, rg, h2]
  · rw [if_neg h]
    have h2 : lo.toInt ≤ v.toInt := by rw [fa_lt] at h; omega
    by_cases g : hi < v
    · rw [if_pos g]
      have h3 : ¬ v.toInt ≤ hi.toInt := by rw [fa_lt] at g; omega
      simp [bI, rg, h3]
    · rw [if_neg g]
      have h3 : v.toInt ≤ hi.toInt := by rw [fa_lt] at g; omega
      simp [bI, rg, h2, h3]
theorem p_M_isCell (v : Int32) (M : Nm) : f_M_isCell v M = some (bI (rg v 0 47), M) := by
  unfold f_M_isCell
  rw [show (0 : Int64) = (0 : Int32).toInt64 from rfl, show (47 : Int64) = (47 : Int32).toInt64 from rfl, p_inI, bnd_s, grd_h (bI_g _)]
  rfl
theorem p_M_isKind (v : Int32) (M : Nm) : f_M_isKind v M = some (bI (rg v 0 5), M) := by
  unfold f_M_isKind
  rw [show (0 : Int64) = (0 : Int32).toInt64 from rfl, show (5 : Int64) = (5 : Int32).toInt64 from rfl, p_inI, bnd_s, grd_h (bI_g _)]
  rfl
theorem p_M_isWay (v : Int32) (M : Nm) : f_M_isWay v M = some (bI (rg v 0 3), M) := by
  unfold f_M_isWay
  rw [show (0 : Int64) = (0 : Int32).toInt64 from rfl, show (3 : Int64) = (3 : Int32).toInt64 from rfl, p_inI, bnd_s, grd_h (bI_g _)]
  rfl
theorem p_M_isOne (v : Int32) (M : Nm) : f_M_isOne v M = some (bI (rg v 0 3), M) := by
  unfold f_M_isOne
  rw [show (0 : Int64) = (0 : Int32).toInt64 from rfl, show (3 : Int64) = (3 : Int32).toInt64 from rfl, p_inI, bnd_s, grd_h (bI_g _)]
  rfl
theorem p_P_isCell (v : Int32) (M : Nm) : f_P_isCell v M = some (bI (rg v 0 47), M) := by
  unfold f_P_isCell
  rw [p_within, bnd_s, grd_h (bI_g _)]
  rfl
theorem p_P_isKind (v : Int32) (M : Nm) : f_P_isKind v M = some (bI (rg v 0 5), M) := by
  unfold f_P_isKind
  rw [p_within, bnd_s, grd_h (bI_g _)]
  rfl
theorem p_P_isWay (v : Int32) (M : Nm) : f_P_isWay v M = some (bI (rg v 0 3), M) := by
  unfold f_P_isWay
  rw [p_within, bnd_s, grd_h (bI_g _)]
  rfl
theorem p_P_isLength (v : Int32) (M : Nm) : f_P_isLength v M = some (bI (rg v 1 7), M) := by
  unfold f_P_isLength
  rw [p_within, bnd_s, grd_h (bI_g _)]
  rfl
theorem p_P_isInk (v : Int32) (M : Nm) : f_P_isInk v M = some (bI (rg v 0 999), M) := by
  unfold f_P_isInk
  rw [p_within, bnd_s, grd_h (bI_g _)]
  rfl
theorem p_P_isYearsOn (v : Int32) (M : Nm) : f_P_isYearsOn v M = some (bI (rg v 0 60), M) := by
  unfold f_P_isYearsOn
  rw [p_within, bnd_s, grd_h (bI_g _)]
  rfl
/-! bits again: shifts, has -/
theorem tb_sshr {x : Int64} {j : Nat} (hj : j < 64) {c : Nat} (hc : j + c < 64) : tb (x >>> ((nI j).toInt64 &&& 63)) c = tb x (j + c) := by
  unfold tb
  rw [Int64.toBitVec_shiftRight, BitVec.sshiftRight_eq', wb_sm2 j hj, BitVec.getLsbD_sshiftRight]
  simp [hc]
  omega
theorem wb_cu2 : ∀ k, k < 64 → (((nI k).toInt64.toUInt64 &&& Int64.toUInt64 63).toBitVec % 64).toNat = k := by decide +kernel
theorem tb_ushr {x : Int64} {j : Nat} (hj : j < 64) (c : Nat) : tb (x.toUInt64 >>> ((nI j).toInt64.toUInt64 &&& Int64.toUInt64 63)).toInt64 c = tb x (j + c) := by
  unfold tb
  rw [UInt64.toBitVec_toInt64, UInt64.toBitVec_shiftRight, BitVec.ushiftRight_eq', wb_cu2 j hj, BitVec.getLsbD_ushiftRight]
  rfl
theorem tb_shl {x : Int64} {j : Nat} (hj : j < 64) {c : Nat} (hc : c < 64) : tb (x <<< ((nI j).toInt64 &&& 63)) c = (decide (j ≤ c) && tb x (c - j)) := by
  unfold tb
  rw [Int64.toBitVec_shiftLeft, BitVec.shiftLeft_eq', wb_sm2 j hj, BitVec.getLsbD_shiftLeft]
  by_cases h : c < j
  · have : ¬ j ≤ c := by omega
    simp [h, hc, this]
  · have : j ≤ c := by omega
    simp [h, hc, this]
theorem tb_1 (c : Nat) : tb 1 c = decide (c = 0) := by
  have e : (1 : Int64).toBitVec = BitVec.twoPow 64 0 := by decide
  rw [tb, e, BitVec.getLsbD_twoPow]
  by_cases h : c = 0
  · subst h; simp
  · have h2 : ¬ 0 = c := fun q => h q.symm
    simp [h, h2]
theorem has_v {x : Int64} {j : Nat} (hj : j < 64) : (x >>> ((nI j).toInt64 &&& 63)) &&& 1 = if tb x j then 1 else 0 := by
  apply tb_ext
  intro c hc
  rw [tb_and, tb_1]
  by_cases h : c = 0
  · subst h
    rw [tb_sshr hj (by omega)]
    cases hx : tb x (j + 0) with
    | true => rw [Nat.add_zero] at hx; simp [hx, tb_1]
    | false => rw [Nat.add_zero] at hx; simp [hx, tb_0]
  · cases hx : tb x j with
    | true => simp [h, tb_1]
    | false => simp [h, tb_0]
theorem bit_v {x : Int64} {j : Nat} (hj : j < 64) : ((x.toUInt64 >>> ((nI j).toInt64.toUInt64 &&& Int64.toUInt64 63)).toInt64) &&& 1 = if tb x j then 1 else 0 := by
  apply tb_ext
  intro c hc
  rw [tb_and, tb_1]
  by_cases h : c = 0
  · subst h
    rw [tb_ushr hj, Nat.add_zero]
    cases hx : tb x j with
    | true => simp [tb_1]
    | false => simp [tb_0]
  · cases hx : tb x j with
    | true => simp [h, tb_1]
    | false => simp [h, tb_0]
theorem p_has {x : Int64} {j : Nat} (hj : j < 64) (M : Nm) : f_M_has x (nI j) M = some (bI (tb x j), M) := by
  unfold f_M_has
  rw [has_v hj]
  cases tb x j with
  | true => rw [if_pos (by decide)]; rfl
  | false => rw [if_neg (by decide)]; rfl
theorem p_bitOf {x : Int64} {j : Nat} (hj : j < 64) (M : Nm) : f_P_bitOf x (nI j) M = some (bI (tb x j), M) := by
  unfold f_P_bitOf
  rw [bit_v hj]
  cases tb x j <;> rfl
theorem p_bit (j : Nat) (M : Nm) : f_G_bit (nI j) M = some (bit1 j, M) := rfl
