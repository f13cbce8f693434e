/-! sets of cells: bits of a long -/
def tb (x : Int64) (c : Nat) : Bool := x.toBitVec.getLsbD c
theorem tb_ext {x y : Int64} (h : ∀ c, c < 64 → tb x c = tb y c) : x = y := by
  apply Int64.toBitVec_inj.mp
  apply BitVec.eq_of_getLsbD_eq
  intro i hi
  exact h i hi
theorem tb_big {x : Int64} {c : Nat} (h : 64 ≤ c) : tb x c = false := BitVec.getLsbD_of_ge _ _ h
theorem tb_and (x y : Int64) (c : Nat) : tb (x &&& y) c = (tb x c && tb y c) := by simp [tb]
theorem tb_or (x y : Int64) (c : Nat) : tb (x ||| y) c = (tb x c || tb y c) := by simp [tb]
theorem tb_xor (x y : Int64) (c : Nat) : tb (x ^^^ y) c = (tb x c ^^ tb y c) := by simp [tb]
theorem tb_m1 {c : Nat} (h : c < 64) : tb (-1) c = true := by
  have e : (-1 : Int64).toBitVec = BitVec.allOnes 64 := by decide
  rw [tb, e, BitVec.getLsbD_allOnes]
  simp [h]
theorem tb_not {x : Int64} {c : Nat} (h : c < 64) : tb (x ^^^ (-1)) c = !tb x c := by
  rw [tb_xor, tb_m1 h]
  cases tb x c <;> rfl
theorem tb_0 (c : Nat) : tb 0 c = false := by
  have e : (0 : Int64).toBitVec = 0#64 := by decide
  rw [tb, e]
  simp
/-- the lowest 48 -/
def lo48 (x : Int64) : Prop := ∀ c, 48 ≤ c → tb x c = false
theorem wb_sm2 : ∀ k, k < 64 → (((nI k).toInt64 &&& 63).toBitVec.smod 64).toNat = k := by decide +kernel
/-- one cell -/
def bit1 (c : Nat) : Int64 := 1 <<< ((nI c).toInt64 &&& 63)
theorem tb_bit {k : Nat} (hk : k < 64) (c : Nat) : tb (bit1 k) c = decide (c = k) := by
  have e : (bit1 k).toBitVec = BitVec.twoPow 64 k := by
    unfold bit1
    rw [Int64.toBitVec_shiftLeft]
    show (1 : Int64).toBitVec <<< _ = _
    have h2 := wb_sm2 k hk
    rw [BitVec.shiftLeft_eq', h2]
    exact (BitVec.twoPow_eq 64 k).symm
  rw [tb, e, BitVec.getLsbD_twoPow]
  by_cases h : c = k
  · subst h
    simp [hk]
  · have h2 : ¬ k = c := fun q => h q.symm
    simp [h, h2]
