/-! the field: steps, sets that spread, what lies inside -/
def stp (c w : Nat) : Option Nat := if w = 0 then (if c < 8 then none else some (c - 8)) else if w = 1 then (if c % 8 = 7 then none else some (c + 1)) else if w = 2 then (if 40 ≤ c then none else some (c + 8)) else (if c % 8 = 0 then none else some (c - 1))
def stI (c w : Nat) : Int32 := match stp c w with
  | none => -1
  | some d => nI d
theorem stp_lt {c w d : Nat} (hc : c < 48) (h : stp c w = some d) : d < 48 ∧ d ≠ c := by
  unfold stp at h
  split at h
  · split at h
    · cases h
    · cases h; omega
  · split at h
    · split at h
      · cases h
      · cases h; omega
    · split at h
      · split at h
        · cases h
        · cases h; omega
      · split at h
        · cases h
        · cases h; omega
def bsI (v0 v1 : Int32) : Int32 := if v1 = 0 then (if (v0 / 8) = 0 then -1 else v0 - 8) else if v1 = 1 then (if (v0 - v0 / 8 * 8) = 7 then -1 else v0 + 1) else if v1 = 2 then (if (v0 / 8) = 5 then -1 else v0 + 8) else (if (v0 - v0 / 8 * 8) = 0 then -1 else v0 - 1)
def sfI (v0 v1 : Int32) : Int32 := if v1 = 0 then (if v0 < 8 then -1 else v0 - 8) else if v1 = 1 then (if 7 ≤ (v0 - v0 / 8 * 8) then -1 else v0 + 1) else if v1 = 2 then (if 40 ≤ v0 then -1 else v0 + 8) else if v1 = 3 then (if (v0 - v0 / 8 * 8) ≤ 0 then -1 else v0 - 1) else -1
theorem bs_all : ∀ c, c < 48 → ∀ w, w < 4 → bsI (nI c) (nI w) = stI c w := by decide +kernel
theorem sf_all : ∀ c, c < 48 → ∀ w, w < 4 → sfI (nI c) (nI w) = stI c w := by decide +kernel
theorem p_beside {c w : Nat} (hc : c < 48) (hw : w < 4) (M : Nm) : f_M_beside (nI c) (nI w) M = some (stI c w, M) := by
  rw [← bs_all c hc w hw]
  unfold f_M_beside bsI
  split
  · split <;> rfl
  · split
    · split <;> rfl
    · split
      · split <;> rfl
      · split <;> rfl
theorem p_stepFrom {c w : Nat} (hc : c < 48) (hw : w < 4) (M : Nm) : f_G_stepFrom (nI c) (nI w) M = some (stI c w, M) := by
  rw [← sf_all c hc w hw]
  unfold f_G_stepFrom sfI
  split
  · split <;> rfl
  · split
    · split <;> rfl
    · split
      · split <;> rfl
      · split
        · split <;> rfl
        · rfl
def edge (c : Nat) : Bool := decide (c < 8) || decide (40 ≤ c) || decide (c % 8 = 0) || decide (c % 8 = 7)
def egI (v0 : Int32) : Int32 := if (v0 / 8) = 0 then 1 else if (v0 / 8) = 5 then 1 else if (v0 - v0 / 8 * 8) = 0 then 1 else if (v0 - v0 / 8 * 8) = 7 then 1 else 0
theorem eg_all : ∀ c, c < 48 → egI (nI c) = bI (edge c) := by decide +kernel
theorem p_isEdge {c : Nat} (hc : c < 48) (M : Nm) : f_M_isEdge (nI c) M = some (bI (edge c), M) := by
  rw [← eg_all c hc]
  unfold f_M_isEdge egI
  split
  · rfl
  · split
    · rfl
    · split
      · rfl
      · split <;> rfl
/-- a cell has one beside it, by the ways from w on, in a set -/
def nbB (x : Int64) (c w : Nat) : Bool := match stp c w with
  | none => false
  | some d => tb x d
def nbw (x : Int64) (c : Nat) : Nat → Nat → Bool
  | 0, _ => false
  | n + 1, w => nbB x c w || nbw x c n (w + 1)
def ALL : Int64 := 281474976710655
def EDG : Int64 := 280931688612351
theorem tb_ALL : ∀ c, c < 64 → tb ALL c = decide (c < 48) := by decide +kernel
theorem tb_EDG : ∀ c, c < 64 → tb EDG c = (decide (c < 48) && edge c) := by decide +kernel
theorem tb_NLC : ∀ c, c < 64 → tb (-141289400074369) c = !(decide (c < 48) && decide (c % 8 = 7)) := by decide +kernel
theorem tb_NFC : ∀ c, c < 64 → tb (-1103823438082) c = !(decide (c < 48) && decide (c % 8 = 0)) := by decide +kernel
def nb (v0 : Int64) : Int64 := (((v0 ||| (((v0.toUInt64 >>> ((8 : Int32).toInt64.toUInt64 &&& Int64.toUInt64 63)).toInt64) ||| (v0 <<< ((8 : Int32).toInt64 &&& 63)))) ||| ((v0 &&& (-141289400074369)) <<< ((1 : Int32).toInt64 &&& 63))) ||| (((v0 &&& (-1103823438082)).toUInt64 >>> ((1 : Int32).toInt64.toUInt64 &&& Int64.toUInt64 63)).toInt64)) &&& 281474976710655
theorem p_withBeside (x : Int64) (M : Nm) : f_G_withBeside x M = some (nb x, M) := rfl
theorem nb_tb {x : Int64} (hx : lo48 x) {c : Nat} (hc : c < 64) : tb (nb x) c = (decide (c < 48) && (tb x c || nbw x c 4 0)) := by
  have e1 : tb (x.toUInt64 >>> ((8 : Int32).toInt64.toUInt64 &&& Int64.toUInt64 63)).toInt64 c = tb x (8 + c) := tb_ushr (j := 8) (by decide) c
  have e2 : tb (x <<< ((8 : Int32).toInt64 &&& 63)) c = (decide (8 ≤ c) && tb x (c - 8)) := tb_shl (j := 8) (by decide) hc
  have e3 : tb ((x &&& (-141289400074369)) <<< ((1 : Int32).toInt64 &&& 63)) c = (decide (1 ≤ c) && tb (x &&& (-141289400074369)) (c - 1)) := tb_shl (j := 1) (by decide) hc
  have e4 : tb ((x &&& (-1103823438082)).toUInt64 >>> ((1 : Int32).toInt64.toUInt64 &&& Int64.toUInt64 63)).toInt64 c = tb (x &&& (-1103823438082)) (1 + c) := tb_ushr (j := 1) (by decide) c
  unfold nb
  rw [tb_and, tb_or, tb_or, tb_or, tb_or, e1, e2, e3, e4, tb_and, tb_and]
  have ea : tb 281474976710655 c = decide (c < 48) := tb_ALL c hc
  rw [ea]
  by_cases h48 : c < 48
  · rw [tb_NLC (c - 1) (by omega)]
    have n4 : (tb x (1 + c) && tb (-1103823438082) (1 + c)) = (tb x (c + 1) && !(decide (c % 8 = 7))) := by
      rw [Nat.add_comm 1 c]
      by_cases h47 : c + 1 < 48
      · rw [tb_NFC (c + 1) (by omega)]
        have : ((c + 1) % 8 = 0) ↔ (c % 8 = 7) := by omega
        simp [h47, this]
      · rw [hx (c + 1) (by omega)]
        simp
    rw [n4]
    simp only [nbw, nbB, stp]
    by_cases h8 : c < 8
    · by_cases h0 : c = 0
      · subst h0
        simp [Bool.or_comm, Bool.or_assoc, Bool.or_left_comm]
      · by_cases h7 : c % 8 = 7
        · have a1 : ¬ 8 ≤ c := by omega
          have a2 : ¬ 40 ≤ c := by omega
          have a3 : 1 ≤ c := by omega
          have a4 : ¬ (c - 1) % 8 = 7 := by omega
          have a5 : ¬ c % 8 = 0 := by omega
          simp [h8, h7, a1, a2, a3, a4, h48, Nat.add_comm 8 c, Bool.or_comm, Bool.or_assoc, Bool.or_left_comm]
        · have a1 : ¬ 8 ≤ c := by omega
          have a2 : ¬ 40 ≤ c := by omega
          have a3 : 1 ≤ c := by omega
          have a4 : ¬ (c - 1) % 8 = 7 := by omega
          have a5 : ¬ c % 8 = 0 := by omega
          simp [h8, h7, a1, a2, a3, a4, a5, h48, Nat.add_comm 8 c, Bool.or_comm, Bool.or_assoc, Bool.or_left_comm]
    · have a1 : 8 ≤ c := by omega
      have a3 : 1 ≤ c := by omega
      have aw : ((c - 1) % 8 = 7) ↔ (c % 8 = 0) := by omega
      have a6 : c - 1 < 48 := by omega
      by_cases h40 : 40 ≤ c
      · have b1 : tb x (8 + c) = false := hx _ (by omega)
        by_cases h7 : c % 8 = 7
        · have a5 : ¬ c % 8 = 0 := by omega
          simp [h8, h7, a1, a3, aw, a6, h40, b1, h48, a5, Bool.or_comm, Bool.or_assoc, Bool.or_left_comm]
        · by_cases h0 : c % 8 = 0
          · simp [h8, h0, a1, a3, aw, a6, h40, b1, h48, Bool.or_comm, Bool.or_assoc, Bool.or_left_comm]
          · simp [h8, h7, h0, a1, a3, aw, a6, h40, b1, h48, Bool.or_comm, Bool.or_assoc, Bool.or_left_comm]
      · by_cases h7 : c % 8 = 7
        · have a5 : ¬ c % 8 = 0 := by omega
          simp [h8, h7, a1, a3, aw, a6, h40, h48, a5, Nat.add_comm 8 c, Bool.or_comm, Bool.or_assoc, Bool.or_left_comm]
        · by_cases h0 : c % 8 = 0
          · simp [h8, h0, a1, a3, aw, a6, h40, h48, Nat.add_comm 8 c, Bool.or_comm, Bool.or_assoc, Bool.or_left_comm]
          · simp [h8, h7, h0, a1, a3, aw, a6, h40, h48, Nat.add_comm 8 c, Bool.or_comm, Bool.or_assoc, Bool.or_left_comm]
  · simp [h48]
