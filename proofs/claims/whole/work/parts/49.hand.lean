/-! the class: a hand's line, what is inside of it, its year -/
def HR (o : Nat) (M : Nm) (x : HS) : Prop := HF o M x ∧ M.2.1 o 7 = pth x ∧ M.1 o 8 = nI (cst x) ∧ M.2.1 o 10 = encl (M.2.1 o 9)
/-- only what a hand has seen last changes -/
def Fi (o : Nat) (M M' : Nm) : Prop := M'.1 = M.1 ∧ M'.2.2 = M.2.2 ∧ (∀ c, c ≠ o → M'.2.1 c = M.2.1 c) ∧ ∀ j, j ≠ 9 → j ≠ 10 → M'.2.1 o j = M.2.1 o j
theorem Fi.rf (o : Nat) (M : Nm) : Fi o M M := ⟨rfl, rfl, fun _ _ => rfl, fun _ _ _ => rfl⟩
theorem HF.f {o : Nat} {M M' : Nm} {x : HS} (h : HF o M x) (h1 : M'.1 = M.1) (h2 : M'.2.2 = M.2.2) : HF o M' x := by
  unfold HF
  rw [h1, h2]
  exact h
theorem p_lineUnder {o : Nat} {M : Nm} {x : HS} (h : HR o M x) (sm : Int64) : f_H_lineUnder o sm M = some (pth x &&& (sm ^^^ (-1)), M) := by
  unfold f_H_lineUnder
  rw [h.2.1]
theorem p_insideUnder {o : Nat} {M : Nm} {x : HS} (h : HR o M x) (sm : Int64) : ∃ M', f_H_insideUnder o sm M = some (encl (pth x &&& (sm ^^^ (-1))), M') ∧ Fi o M M' ∧ HR o M' x := by
  unfold f_H_insideUnder
  rw [p_lineUnder h sm, bnd_s]
  by_cases e : pth x &&& (sm ^^^ (-1)) = M.2.1 o 9
  · rw [if_pos (lg0.mpr e), h.2.2.2, ← e]
    exact ⟨M, rfl, Fi.rf o M, h⟩
  · rw [if_neg (fun q => e (lg0.mp q)), bl_e, p_enclosedBy, bnd_s, bl_e]
    have e10 : (mL (mL M o 9 (pth x &&& (sm ^^^ (-1)))) o 10 (encl (pth x &&& (sm ^^^ (-1))))).2.1 o 10 = encl (pth x &&& (sm ^^^ (-1))) := by rw [mL_s, if_pos rfl]
    have e9 : (mL (mL M o 9 (pth x &&& (sm ^^^ (-1)))) o 10 (encl (pth x &&& (sm ^^^ (-1))))).2.1 o 9 = pth x &&& (sm ^^^ (-1)) := by rw [mL_s, if_neg (by decide), mL_s, if_pos rfl]
    rw [e10]
    refine ⟨_, rfl, ⟨rfl, rfl, fun c hc => by rw [mL_o hc, mL_o hc], fun j h1 h2 => by rw [mL_s, if_neg h2, mL_s, if_neg h1]⟩, h.1.f rfl rfl, ?_, h.2.2.1, by rw [e10, e9]⟩
    rw [mL_s, if_neg (by decide), mL_s, if_neg (by decide)]
    exact h.2.1
theorem p_howManyInside {o : Nat} {M : Nm} {x : HS} (h : HR o M x) (sm : Int64) : ∃ M', f_H_howManyInside o sm M = some (nI (pc (encl (pth x &&& (sm ^^^ (-1))))), M') ∧ Fi o M M' ∧ HR o M' x := by
  obtain ⟨M', h1, h2, h3⟩ := p_insideUnder h sm
  unfold f_H_howManyInside
  rw [h1, bnd_s, p_bitCount, bnd_s]
  exact ⟨M', rfl, h2, h3⟩
theorem p_Hwrites {o : Nat} {M : Nm} {x : HS} (hx : WfH x) (h : HR o M x) : f_H_writes o M = some (bI (decide (cst x ≤ ikH x)), M) := by
  have h1 := (tra_ok hx).2
  have h2 := hx.2.2.1
  unfold f_H_writes
  rw [h.1.2.2.1, h.2.2.1]
  by_cases e : cst x ≤ ikH x
  · rw [if_neg (nI_nlt e (by omega))]
    simp [e, bI]
  · rw [if_pos (nI_lt (by omega) (by omega))]
    simp [e, bI]
theorem nI_min {a n : Nat} (ha : a < 2 ^ 31) (hn : n < 2 ^ 31) {v : Int32} (hv : v = nI n) : (if nI a < v then nI a else v) = nI (if a ≤ n then a else n) := by
  rw [hv]
  by_cases e : a < n
  · rw [if_pos (nI_lt e hn), if_pos (by omega)]
  · rw [if_neg (nI_nlt (by omega) ha)]
    by_cases q : a ≤ n
    · rw [if_pos q, show a = n by omega]
    · rw [if_neg q]
theorem HR.put {o : Nat} {M M' : Nm} {x x' : HS} (h : HR o M x) (hF : HF o M' x') (hl : M'.2.1 = M.2.1) (h8 : M'.1 o 8 = M.1 o 8) (hp : tra x' = tra x) : HR o M' x' := by
  refine ⟨hF, ?_, ?_, ?_⟩
  · rw [hl, h.2.1]; unfold pth; rw [hp]
  · rw [h8, h.2.2.1]; unfold cst; rw [hp]
  · rw [hl]; exact h.2.2.2
/-- a hand's year -/
def yhx (x : HS) (n : Nat) : HS := scn (sik x (if (if cst x ≤ ikH x then ikH x - cst x + n else ikH x + 5) ≤ 999 then (if cst x ≤ ikH x then ikH x - cst x + n else ikH x + 5) else 999)) (if cnH x + (if cst x ≤ ikH x then n * cr (kdH x) else 0) ≤ 99999 then cnH x + (if cst x ≤ ikH x then n * cr (kdH x) else 0) else 99999)
theorem yhx_e (t : St) (h : Nat) : yhx (hS t h) (owc t h) = yh t h := by
  unfold yhx yh inkY cornY wrS
  by_cases e : cst (hS t h) ≤ ikH (hS t h)
  · simp only [e, decide_true, if_true]
  · simp only [e, decide_false, if_false, Bool.false_eq_true]
theorem sub_nI2 {a b c : Nat} (h : b ≤ a) : nI a - nI b + nI c = nI (a - b + c) := by
  have e : nI a = nI (a - b) + nI b := by rw [nI_add]; congr 1; omega
  rw [e, Int32.add_sub_cancel, nI_add]
