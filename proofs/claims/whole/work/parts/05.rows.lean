/-! one row an instruction: those that touch no memory -/
abbrev ix (i : Int32) : Nat := i.toNatClampNeg
def inb (i : Int32) (n : Nat) : Bool := decide (0 ≤ i) && decide (ix i < n)
theorem inb_in {i : Int32} {n : Nat} (h : inb i n = true) : vp_in i n := by
  simp only [inb, Bool.and_eq_true, decide_eq_true_eq] at h
  rintro (q | q)
  · exact absurd (Int32.lt_of_lt_of_le q h.1) (fun z => Int32.lt_irrefl z)
  · exact absurd h.2 (Nat.not_lt.mpr q)
theorem grd_some {β : Type} {c : Bool} {t : Option β} {r : β} (h : grd c t = some r) : c = true ∧ t = some r := by
  cases c with
  | true => exact ⟨rfl, h⟩
  | false => cases h
section SR
variable {l : Launch} {G : Gl} {Y : My} {R : Room} {Nf : Nat} {α μ : Type} {ε : α → Option Value} {vw : μ → Mm} {N cells slots pc : Nat} {lv : List (Nat × Value)} {st : List Value} {M : μ} {t t1 t2 : Option (α × μ)}
theorem SJ.stp {pc' : Nat} {st' : List Value} (w : ∀ (p : Program) (e : Env) (s : State) (m : MethodId) (args : Array Value) (below : List Frame) (meth : Method) (c : Code) (H : Heap) (locs : List Loc) (ls : Array Slot) (Q : State → Prop), CX G Y p s m args meth c → lv_has ls Y.2.2.1 lv → W p l e R s m args below meth c H locs cells slots Q (F0 m pc' ls st') → W p l e R s m args below meth c H locs cells slots Q (F0 m pc ls st)) (k : SJ l G Y R Nf ε vw N cells slots pc' lv st' M t) : SJ l G Y R Nf ε vw N cells slots pc lv st M t :=
  fun a Mf h p e s m args below meth c H locs ls C hl hR hS => w p e s m args below meth c H locs ls _ C hl (k a Mf h p e s m args below meth c H locs ls C hl hR hS)
theorem SJ.stpL {pc' : Nat} {st' : List Value} {lv' : List (Nat × Value)} (w : ∀ (p : Program) (e : Env) (s : State) (m : MethodId) (args : Array Value) (below : List Frame) (meth : Method) (c : Code) (H : Heap) (locs : List Loc) (ls : Array Slot) (Q : State → Prop), CX G Y p s m args meth c → lv_has ls Y.2.2.1 lv → (∀ ls' : Array Slot, lv_has ls' Y.2.2.1 lv' → W p l e R s m args below meth c H locs cells slots Q (F0 m pc' ls' st')) → W p l e R s m args below meth c H locs cells slots Q (F0 m pc ls st)) (k : SJ l G Y R Nf ε vw N cells slots pc' lv' st' M t) : SJ l G Y R Nf ε vw N cells slots pc lv st M t :=
  fun a Mf h p e s m args below meth c H locs ls C hl hR hS => w p e s m args below meth c H locs ls _ C hl (fun ls' hl' => k a Mf h p e s m args below meth c H locs ls' C hl' hR hS)
/-- fewer locals, in another order -/
theorem s_lv {lv' : List (Nat × Value)} (ks : List Nat) (h : lv_pick lv ks = lv') (k : SJ l G Y R Nf ε vw N cells slots pc lv' st M t) : SJ l G Y R Nf ε vw N cells slots pc lv st M t :=
  fun a Mf h0 p e s m args below meth c H locs ls C hl hR hS => k a Mf h0 p e s m args below meth c H locs ls C (lv_sub hl ks h) hR hS
theorem s_none : SJ l G Y R Nf ε vw N cells slots pc lv st M none := fun a Mf h => by cases h
theorem s_ite {P : Prop} {d : Decidable P} (k1 : P → SJ l G Y R Nf ε vw N cells slots pc lv st M t1) (k2 : ¬ P → SJ l G Y R Nf ε vw N cells slots pc lv st M t2) : SJ l G Y R Nf ε vw N cells slots pc lv st M (if P then t1 else t2) := by
  by_cases h : P
  · rw [if_pos h]; exact k1 h
  · rw [if_neg h]; exact k2 h
theorem s_grd {b : Bool} (k : b = true → SJ l G Y R Nf ε vw N cells slots pc lv st M t) : SJ l G Y R Nf ε vw N cells slots pc lv st M (grd b t) := by
  cases b with
  | true => exact k rfl
  | false => exact s_none
theorem s_bl {β : Type} {x : β} {f : β → Option (α × μ)} (k : SJ l G Y R Nf ε vw N cells slots pc lv st M (f x)) : SJ l G Y R Nf ε vw N cells slots pc lv st M (bl x f) := k
theorem s_topi {x : Int32} {f : Int32 → Option (α × μ)} (k : ∀ y : Int32, SJ l G Y R Nf ε vw N cells slots pc lv (.int y :: st) M (f y)) : SJ l G Y R Nf ε vw N cells slots pc lv (.int x :: st) M (bl x f) := k x
theorem s_topl {x : Int64} {f : Int64 → Option (α × μ)} (k : ∀ y : Int64, SJ l G Y R Nf ε vw N cells slots pc lv (.long y :: st) M (f y)) : SJ l G Y R Nf ε vw N cells slots pc lv (.long x :: st) M (bl x f) := k x
theorem s_topM {f : μ → Option (α × μ)} (k : ∀ M' : μ, SJ l G Y R Nf ε vw N cells slots pc lv st M' (f M')) : SJ l G Y R Nf ε vw N cells slots pc lv st M (bl M f) := k M
theorem s_iconst {n : Int} {v : Int32} (hd : decode Y.2.1 pc = .ok (.iconst n, 1)) (hv : Int32.ofInt n = v) (k : SJ l G Y R Nf ε vw N cells slots (pc + 1) lv (.int v :: st) M t) : SJ l G Y R Nf ε vw N cells slots pc lv (st) M t :=
  SJ.stp (fun p e s m args below meth c H locs ls Q C hl w => lv_iconst C.1 C.2.1 hd hv w) k
theorem s_bipush {n : Int} {v : Int32} (hd : decode Y.2.1 pc = .ok (.bipush n, 2)) (hv : (Int8.ofInt n).toInt32 = v) (k : SJ l G Y R Nf ε vw N cells slots (pc + 2) lv (.int v :: st) M t) : SJ l G Y R Nf ε vw N cells slots pc lv (st) M t :=
  SJ.stp (fun p e s m args below meth c H locs ls Q C hl w => lv_bipush C.1 C.2.1 hd hv w) k
theorem s_sipush {n : Int} {v : Int32} (hd : decode Y.2.1 pc = .ok (.sipush n, 3)) (hv : (Int16.ofInt n).toInt32 = v) (k : SJ l G Y R Nf ε vw N cells slots (pc + 3) lv (.int v :: st) M t) : SJ l G Y R Nf ε vw N cells slots pc lv (st) M t :=
  SJ.stp (fun p e s m args below meth c H locs ls Q C hl w => lv_sipush C.1 C.2.1 hd hv w) k
theorem s_lconst {n : Fin 2} {v : Int64} (hd : decode Y.2.1 pc = .ok (.lconst n, 1)) (hv : Int64.ofNat (n : Nat) = v) (k : SJ l G Y R Nf ε vw N cells slots (pc + 1) lv (.long v :: st) M t) : SJ l G Y R Nf ε vw N cells slots pc lv (st) M t :=
  SJ.stp (fun p e s m args below meth c H locs ls Q C hl w => lv_lconst C.1 C.2.1 hd hv w) k
theorem s_iadd {x y : Int32} (hd : decode Y.2.1 pc = .ok (.iadd, 1)) (k : SJ l G Y R Nf ε vw N cells slots (pc + 1) lv (.int (x + y) :: st) M t) : SJ l G Y R Nf ε vw N cells slots pc lv (.int y :: .int x :: st) M t :=
  SJ.stp (fun p e s m args below meth c H locs ls Q C hl w => lv_iadd C.1 C.2.1 hd w) k
theorem s_isub {x y : Int32} (hd : decode Y.2.1 pc = .ok (.isub, 1)) (k : SJ l G Y R Nf ε vw N cells slots (pc + 1) lv (.int (x - y) :: st) M t) : SJ l G Y R Nf ε vw N cells slots pc lv (.int y :: .int x :: st) M t :=
  SJ.stp (fun p e s m args below meth c H locs ls Q C hl w => lv_isub C.1 C.2.1 hd w) k
theorem s_imul {x y : Int32} (hd : decode Y.2.1 pc = .ok (.imul, 1)) (k : SJ l G Y R Nf ε vw N cells slots (pc + 1) lv (.int (x * y) :: st) M t) : SJ l G Y R Nf ε vw N cells slots pc lv (.int y :: .int x :: st) M t :=
  SJ.stp (fun p e s m args below meth c H locs ls Q C hl w => lv_imul C.1 C.2.1 hd w) k
theorem s_iand {x y : Int32} (hd : decode Y.2.1 pc = .ok (.iand, 1)) (k : SJ l G Y R Nf ε vw N cells slots (pc + 1) lv (.int (x &&& y) :: st) M t) : SJ l G Y R Nf ε vw N cells slots pc lv (.int y :: .int x :: st) M t :=
  SJ.stp (fun p e s m args below meth c H locs ls Q C hl w => lv_iand C.1 C.2.1 hd w) k
theorem s_ior {x y : Int32} (hd : decode Y.2.1 pc = .ok (.ior, 1)) (k : SJ l G Y R Nf ε vw N cells slots (pc + 1) lv (.int (x ||| y) :: st) M t) : SJ l G Y R Nf ε vw N cells slots pc lv (.int y :: .int x :: st) M t :=
  SJ.stp (fun p e s m args below meth c H locs ls Q C hl w => lv_ior C.1 C.2.1 hd w) k
theorem s_ixor {x y : Int32} (hd : decode Y.2.1 pc = .ok (.ixor, 1)) (k : SJ l G Y R Nf ε vw N cells slots (pc + 1) lv (.int (x ^^^ y) :: st) M t) : SJ l G Y R Nf ε vw N cells slots pc lv (.int y :: .int x :: st) M t :=
  SJ.stp (fun p e s m args below meth c H locs ls Q C hl w => lv_ixor C.1 C.2.1 hd w) k
theorem s_ladd {x y : Int64} (hd : decode Y.2.1 pc = .ok (.ladd, 1)) (k : SJ l G Y R Nf ε vw N cells slots (pc + 1) lv (.long (x + y) :: st) M t) : SJ l G Y R Nf ε vw N cells slots pc lv (.long y :: .long x :: st) M t :=
  SJ.stp (fun p e s m args below meth c H locs ls Q C hl w => lv_ladd C.1 C.2.1 hd w) k
theorem s_lsub {x y : Int64} (hd : decode Y.2.1 pc = .ok (.lsub, 1)) (k : SJ l G Y R Nf ε vw N cells slots (pc + 1) lv (.long (x - y) :: st) M t) : SJ l G Y R Nf ε vw N cells slots pc lv (.long y :: .long x :: st) M t :=
  SJ.stp (fun p e s m args below meth c H locs ls Q C hl w => lv_lsub C.1 C.2.1 hd w) k
theorem s_lmul {x y : Int64} (hd : decode Y.2.1 pc = .ok (.lmul, 1)) (k : SJ l G Y R Nf ε vw N cells slots (pc + 1) lv (.long (x * y) :: st) M t) : SJ l G Y R Nf ε vw N cells slots pc lv (.long y :: .long x :: st) M t :=
  SJ.stp (fun p e s m args below meth c H locs ls Q C hl w => lv_lmul C.1 C.2.1 hd w) k
theorem s_land {x y : Int64} (hd : decode Y.2.1 pc = .ok (.land, 1)) (k : SJ l G Y R Nf ε vw N cells slots (pc + 1) lv (.long (x &&& y) :: st) M t) : SJ l G Y R Nf ε vw N cells slots pc lv (.long y :: .long x :: st) M t :=
  SJ.stp (fun p e s m args below meth c H locs ls Q C hl w => lv_land C.1 C.2.1 hd w) k
theorem s_lor {x y : Int64} (hd : decode Y.2.1 pc = .ok (.lor, 1)) (k : SJ l G Y R Nf ε vw N cells slots (pc + 1) lv (.long (x ||| y) :: st) M t) : SJ l G Y R Nf ε vw N cells slots pc lv (.long y :: .long x :: st) M t :=
  SJ.stp (fun p e s m args below meth c H locs ls Q C hl w => lv_lor C.1 C.2.1 hd w) k
theorem s_lxor {x y : Int64} (hd : decode Y.2.1 pc = .ok (.lxor, 1)) (k : SJ l G Y R Nf ε vw N cells slots (pc + 1) lv (.long (x ^^^ y) :: st) M t) : SJ l G Y R Nf ε vw N cells slots pc lv (.long y :: .long x :: st) M t :=
  SJ.stp (fun p e s m args below meth c H locs ls Q C hl w => lv_lxor C.1 C.2.1 hd w) k
theorem s_idiv {x y : Int32} (hd : decode Y.2.1 pc = .ok (.idiv, 1)) (hne : ¬ y = 0) (k : SJ l G Y R Nf ε vw N cells slots (pc + 1) lv (.int (x / y) :: st) M t) : SJ l G Y R Nf ε vw N cells slots pc lv (.int y :: .int x :: st) M t :=
  SJ.stp (fun p e s m args below meth c H locs ls Q C hl w => lv_idiv C.1 C.2.1 hd hne w) k
theorem s_irem {x y : Int32} (hd : decode Y.2.1 pc = .ok (.irem, 1)) (hne : ¬ y = 0) (k : SJ l G Y R Nf ε vw N cells slots (pc + 1) lv (.int (x - x / y * y) :: st) M t) : SJ l G Y R Nf ε vw N cells slots pc lv (.int y :: .int x :: st) M t :=
  SJ.stp (fun p e s m args below meth c H locs ls Q C hl w => lv_irem C.1 C.2.1 hd hne w) k
theorem s_ishl {x y : Int32} (hd : decode Y.2.1 pc = .ok (.ishl, 1)) (k : SJ l G Y R Nf ε vw N cells slots (pc + 1) lv (.int (x <<< (y &&& 31)) :: st) M t) : SJ l G Y R Nf ε vw N cells slots pc lv (.int y :: .int x :: st) M t :=
  SJ.stp (fun p e s m args below meth c H locs ls Q C hl w => lv_ishl C.1 C.2.1 hd w) k
theorem s_ishr {x y : Int32} (hd : decode Y.2.1 pc = .ok (.ishr, 1)) (k : SJ l G Y R Nf ε vw N cells slots (pc + 1) lv (.int (x >>> (y &&& 31)) :: st) M t) : SJ l G Y R Nf ε vw N cells slots pc lv (.int y :: .int x :: st) M t :=
  SJ.stp (fun p e s m args below meth c H locs ls Q C hl w => lv_ishr C.1 C.2.1 hd w) k
theorem s_iushr {x y : Int32} (hd : decode Y.2.1 pc = .ok (.iushr, 1)) (k : SJ l G Y R Nf ε vw N cells slots (pc + 1) lv (.int (x.toUInt32 >>> (y.toUInt32 &&& Int32.toUInt32 31)).toInt32 :: st) M t) : SJ l G Y R Nf ε vw N cells slots pc lv (.int y :: .int x :: st) M t :=
  SJ.stp (fun p e s m args below meth c H locs ls Q C hl w => lv_iushr C.1 C.2.1 hd rfl w) k
theorem s_lushr {x : Int64} {y : Int32} (hd : decode Y.2.1 pc = .ok (.lushr, 1)) (k : SJ l G Y R Nf ε vw N cells slots (pc + 1) lv (.long ((x.toUInt64 >>> (y.toInt64.toUInt64 &&& Int64.toUInt64 63)).toInt64) :: st) M t) : SJ l G Y R Nf ε vw N cells slots pc lv (.int y :: .long x :: st) M t :=
  SJ.stp (fun p e s m args below meth c H locs ls Q C hl w => lv_lushr C.1 C.2.1 hd rfl w) k
theorem s_lshl {x : Int64} {y : Int32} (hd : decode Y.2.1 pc = .ok (.lshl, 1)) (k : SJ l G Y R Nf ε vw N cells slots (pc + 1) lv (.long (x <<< (y.toInt64 &&& 63)) :: st) M t) : SJ l G Y R Nf ε vw N cells slots pc lv (.int y :: .long x :: st) M t :=
  SJ.stp (fun p e s m args below meth c H locs ls Q C hl w => lv_lshl C.1 C.2.1 hd rfl w) k
theorem s_lshr {x : Int64} {y : Int32} (hd : decode Y.2.1 pc = .ok (.lshr, 1)) (k : SJ l G Y R Nf ε vw N cells slots (pc + 1) lv (.long (x >>> (y.toInt64 &&& 63)) :: st) M t) : SJ l G Y R Nf ε vw N cells slots pc lv (.int y :: .long x :: st) M t :=
  SJ.stp (fun p e s m args below meth c H locs ls Q C hl w => lv_lshr C.1 C.2.1 hd rfl w) k
theorem s_i2l {x : Int32} (hd : decode Y.2.1 pc = .ok (.i2l, 1)) (k : SJ l G Y R Nf ε vw N cells slots (pc + 1) lv (.long (x.toInt64) :: st) M t) : SJ l G Y R Nf ε vw N cells slots pc lv (.int x :: st) M t :=
  SJ.stp (fun p e s m args below meth c H locs ls Q C hl w => lv_i2l C.1 C.2.1 hd rfl w) k
theorem s_l2i {x : Int64} (hd : decode Y.2.1 pc = .ok (.l2i, 1)) (k : SJ l G Y R Nf ε vw N cells slots (pc + 1) lv (.int (x.toInt32) :: st) M t) : SJ l G Y R Nf ε vw N cells slots pc lv (.long x :: st) M t :=
  SJ.stp (fun p e s m args below meth c H locs ls Q C hl w => lv_l2i C.1 C.2.1 hd rfl w) k
theorem s_i2b {x : Int32} (hd : decode Y.2.1 pc = .ok (.i2b, 1)) (k : SJ l G Y R Nf ε vw N cells slots (pc + 1) lv (.int (x.toInt8.toInt32) :: st) M t) : SJ l G Y R Nf ε vw N cells slots pc lv (.int x :: st) M t :=
  SJ.stp (fun p e s m args below meth c H locs ls Q C hl w => lv_i2b C.1 C.2.1 hd rfl w) k
theorem s_i2s {x : Int32} (hd : decode Y.2.1 pc = .ok (.i2s, 1)) (k : SJ l G Y R Nf ε vw N cells slots (pc + 1) lv (.int (x.toInt16.toInt32) :: st) M t) : SJ l G Y R Nf ε vw N cells slots pc lv (.int x :: st) M t :=
  SJ.stp (fun p e s m args below meth c H locs ls Q C hl w => lv_i2s C.1 C.2.1 hd rfl w) k
theorem s_i2c {x : Int32} (hd : decode Y.2.1 pc = .ok (.i2c, 1)) (k : SJ l G Y R Nf ε vw N cells slots (pc + 1) lv (.int ((x.toUInt32 % 65536).toInt32) :: st) M t) : SJ l G Y R Nf ε vw N cells slots pc lv (.int x :: st) M t :=
  SJ.stp (fun p e s m args below meth c H locs ls Q C hl w => lv_i2c C.1 C.2.1 hd rfl w) k
theorem s_dup {va : Value} (hd : decode Y.2.1 pc = .ok (.dup, 1)) (hva : va.category = 1) (k : SJ l G Y R Nf ε vw N cells slots (pc + 1) lv (va :: va :: st) M t) : SJ l G Y R Nf ε vw N cells slots pc lv (va :: st) M t :=
  SJ.stp (fun p e s m args below meth c H locs ls Q C hl w => lv_dup C.1 C.2.1 hd hva w) k
theorem s_pop {va : Value} (hd : decode Y.2.1 pc = .ok (.pop, 1)) (hva : va.category = 1) (k : SJ l G Y R Nf ε vw N cells slots (pc + 1) lv (st) M t) : SJ l G Y R Nf ε vw N cells slots pc lv (va :: st) M t :=
  SJ.stp (fun p e s m args below meth c H locs ls Q C hl w => lv_pop C.1 C.2.1 hd hva w) k
theorem s_dup_x1 {va vb : Value} (hd : decode Y.2.1 pc = .ok (.dup_x1, 1)) (hva : va.category = 1) (hvb : vb.category = 1) (k : SJ l G Y R Nf ε vw N cells slots (pc + 1) lv (va :: vb :: va :: st) M t) : SJ l G Y R Nf ε vw N cells slots pc lv (va :: vb :: st) M t :=
  SJ.stp (fun p e s m args below meth c H locs ls Q C hl w => lv_dup_x1 C.1 C.2.1 hd hva hvb w) k
theorem s_dup2 {va vb : Value} (hd : decode Y.2.1 pc = .ok (.dup2, 1)) (hva : va.category = 1) (hvb : vb.category = 1) (k : SJ l G Y R Nf ε vw N cells slots (pc + 1) lv (va :: vb :: va :: vb :: st) M t) : SJ l G Y R Nf ε vw N cells slots pc lv (va :: vb :: st) M t :=
  SJ.stp (fun p e s m args below meth c H locs ls Q C hl w => lv_dup2_11 C.1 C.2.1 hd hva hvb w) k
theorem s_ldc {index : Nat} {v : Int32} (hd : decode Y.2.1 pc = .ok (.ldc index, 2)) (hw : Cond.constant Y.1.cls index v ∈ wG) (k : SJ l G Y R Nf ε vw N cells slots (pc + 2) lv (.int v :: st) M t) : SJ l G Y R Nf ε vw N cells slots pc lv st M t :=
  SJ.stp (fun p e s m args below meth c H locs ls Q C hl w => lv_ldc C.1 C.2.1 C.2.2.2.2.1 (C.2.2.2.2.2.1 _ hw) hd w) k
theorem s_ldcw {index : Nat} {v : Int32} (hd : decode Y.2.1 pc = .ok (.ldc_w index, 3)) (hw : Cond.constant Y.1.cls index v ∈ wG) (k : SJ l G Y R Nf ε vw N cells slots (pc + 3) lv (.int v :: st) M t) : SJ l G Y R Nf ε vw N cells slots pc lv st M t :=
  SJ.stp (fun p e s m args below meth c H locs ls Q C hl w => lv_ldcw C.1 C.2.1 C.2.2.2.2.1 (C.2.2.2.2.2.1 _ hw) hd w) k
theorem s_ldc2 {index : Nat} {v : Int64} (hd : decode Y.2.1 pc = .ok (.ldc2_w index, 3)) (hw : Cond.constantLong Y.1.cls index v ∈ wG) (k : SJ l G Y R Nf ε vw N cells slots (pc + 3) lv (.long v :: st) M t) : SJ l G Y R Nf ε vw N cells slots pc lv st M t :=
  SJ.stp (fun p e s m args below meth c H locs ls Q C hl w => lv_ldc2 C.1 C.2.1 C.2.2.2.2.1 (C.2.2.2.2.2.1 _ hw) hd w) k
theorem s_ldcS {index : Nat} {tx : String} (i : Nat) (hd : decode Y.2.1 pc = .ok (.ldc index, 2)) (hi : stL[i]? = some (Y.1.cls, index, tx)) (k : SJ l G Y R Nf ε vw N cells slots (pc + 2) lv (aR G (1000 + i) :: st) M t) : SJ l G Y R Nf ε vw N cells slots pc lv st M t :=
  SJ.stp (fun p e s m args below meth c H locs ls Q C hl w => va_ldcS C.1 C.2.1 C.2.2.2.2.1 (C.2.2.2.2.2.2.2.2.2.2.1 i _ hi) hd (by
    have e1 : ad G (1000 + i) = G.2.2.2.1 i := by
      unfold ad
      rw [if_neg (by omega), Nat.add_sub_cancel_left]
    rw [aR, e1] at w
    exact w)) k
theorem s_iload_n {q : Fin 4} {x : Int32} (kk : Nat) (hd : decode Y.2.1 pc = .ok (.iload_n q, 1)) (hk : lv[kk]? = some ((q : Nat), .int x)) (k : SJ l G Y R Nf ε vw N cells slots (pc + 1) lv (.int x :: st) M t) : SJ l G Y R Nf ε vw N cells slots pc lv st M t :=
  SJ.stp (fun p e s m args below meth c H locs ls Q C hl w => lv_iload_n C.1 C.2.1 hd rfl (lv_at hl kk hk) w) k
theorem s_iload {i : Nat} {x : Int32} (kk : Nat) (hd : decode Y.2.1 pc = .ok (.iload i, 2)) (hk : lv[kk]? = some (i, .int x)) (k : SJ l G Y R Nf ε vw N cells slots (pc + 2) lv (.int x :: st) M t) : SJ l G Y R Nf ε vw N cells slots pc lv st M t :=
  SJ.stp (fun p e s m args below meth c H locs ls Q C hl w => lv_iload C.1 C.2.1 hd (lv_at hl kk hk) w) k
theorem s_lload_n {q : Fin 4} {x : Int64} (kk : Nat) (hd : decode Y.2.1 pc = .ok (.lload_n q, 1)) (hk : lv[kk]? = some ((q : Nat), .long x)) (k : SJ l G Y R Nf ε vw N cells slots (pc + 1) lv (.long x :: st) M t) : SJ l G Y R Nf ε vw N cells slots pc lv st M t :=
  SJ.stp (fun p e s m args below meth c H locs ls Q C hl w => lv_lload_n C.1 C.2.1 hd rfl (lv_at hl kk hk) w) k
theorem s_lload {i : Nat} {x : Int64} (kk : Nat) (hd : decode Y.2.1 pc = .ok (.lload i, 2)) (hk : lv[kk]? = some (i, .long x)) (k : SJ l G Y R Nf ε vw N cells slots (pc + 2) lv (.long x :: st) M t) : SJ l G Y R Nf ε vw N cells slots pc lv st M t :=
  SJ.stp (fun p e s m args below meth c H locs ls Q C hl w => lv_lload C.1 C.2.1 hd (lv_at hl kk hk) w) k
theorem s_aload_n {q : Fin 4} {x : Nat} (kk : Nat) (hd : decode Y.2.1 pc = .ok (.aload_n q, 1)) (hk : lv[kk]? = some ((q : Nat), .ref x)) (k : SJ l G Y R Nf ε vw N cells slots (pc + 1) lv (.ref x :: st) M t) : SJ l G Y R Nf ε vw N cells slots pc lv st M t :=
  SJ.stp (fun p e s m args below meth c H locs ls Q C hl w => lv_aload_n C.1 C.2.1 hd rfl (lv_at hl kk hk) w) k
theorem s_aload {i : Nat} {x : Nat} (kk : Nat) (hd : decode Y.2.1 pc = .ok (.aload i, 2)) (hk : lv[kk]? = some (i, .ref x)) (k : SJ l G Y R Nf ε vw N cells slots (pc + 2) lv (.ref x :: st) M t) : SJ l G Y R Nf ε vw N cells slots pc lv st M t :=
  SJ.stp (fun p e s m args below meth c H locs ls Q C hl w => lv_aload C.1 C.2.1 hd (lv_at hl kk hk) w) k
theorem s_aload_nN {q : Fin 4} (kk : Nat) (hd : decode Y.2.1 pc = .ok (.aload_n q, 1)) (hk : lv[kk]? = some ((q : Nat), .null)) (k : SJ l G Y R Nf ε vw N cells slots (pc + 1) lv (.null :: st) M t) : SJ l G Y R Nf ε vw N cells slots pc lv st M t :=
  SJ.stp (fun p e s m args below meth c H locs ls Q C hl w => lv_aload_nN C.1 C.2.1 hd rfl (lv_at hl kk hk) w) k
theorem s_aloadN {i : Nat} (kk : Nat) (hd : decode Y.2.1 pc = .ok (.aload i, 2)) (hk : lv[kk]? = some (i, .null)) (k : SJ l G Y R Nf ε vw N cells slots (pc + 2) lv (.null :: st) M t) : SJ l G Y R Nf ε vw N cells slots pc lv st M t :=
  SJ.stp (fun p e s m args below meth c H locs ls Q C hl w => lv_aloadN C.1 C.2.1 hd (lv_at hl kk hk) w) k
theorem s_istore_n {q : Fin 4} {i : Nat} {x : Int32} {lv' : List (Nat × Value)} (hd : decode Y.2.1 pc = .ok (.istore_n q, 1)) (hi : (q : Nat) = i) (hn : Nat.blt (i) Y.2.2.1 = true) (hl : (i, Value.int x) :: lv.filter (fun q => !(q.1 == i) && !(q.1 + 1 == i && q.2.category == 2)) = lv') (k : SJ l G Y R Nf ε vw N cells slots (pc + 1) lv' st M t) : SJ l G Y R Nf ε vw N cells slots pc lv (.int x :: st) M t :=
  SJ.stpL (fun p e s m args below meth c H locs ls Q C h w => lv_istore_n C.1 C.2.1 hd hi h (Nat.le_of_ble_eq_true hn) hl w) k
theorem s_istore {i : Nat} {x : Int32} {lv' : List (Nat × Value)} (hd : decode Y.2.1 pc = .ok (.istore i, 2)) (hn : Nat.blt (i) Y.2.2.1 = true) (hl : (i, Value.int x) :: lv.filter (fun q => !(q.1 == i) && !(q.1 + 1 == i && q.2.category == 2)) = lv') (k : SJ l G Y R Nf ε vw N cells slots (pc + 2) lv' st M t) : SJ l G Y R Nf ε vw N cells slots pc lv (.int x :: st) M t :=
  SJ.stpL (fun p e s m args below meth c H locs ls Q C h w => lv_istore C.1 C.2.1 hd h (Nat.le_of_ble_eq_true hn) hl w) k
theorem s_lstore_n {q : Fin 4} {i : Nat} {x : Int64} {lv' : List (Nat × Value)} (hd : decode Y.2.1 pc = .ok (.lstore_n q, 1)) (hi : (q : Nat) = i) (hn : Nat.blt (i + 1) Y.2.2.1 = true) (hl : (i, Value.long x) :: lv.filter (fun q => !(q.1 == i) && (!(q.1 == i + 1) && !(q.1 + 1 == i && q.2.category == 2))) = lv') (k : SJ l G Y R Nf ε vw N cells slots (pc + 1) lv' st M t) : SJ l G Y R Nf ε vw N cells slots pc lv (.long x :: st) M t :=
  SJ.stpL (fun p e s m args below meth c H locs ls Q C h w => lv_lstore_n C.1 C.2.1 hd hi h (Nat.le_of_ble_eq_true hn) hl w) k
theorem s_lstore {i : Nat} {x : Int64} {lv' : List (Nat × Value)} (hd : decode Y.2.1 pc = .ok (.lstore i, 2)) (hn : Nat.blt (i + 1) Y.2.2.1 = true) (hl : (i, Value.long x) :: lv.filter (fun q => !(q.1 == i) && (!(q.1 == i + 1) && !(q.1 + 1 == i && q.2.category == 2))) = lv') (k : SJ l G Y R Nf ε vw N cells slots (pc + 2) lv' st M t) : SJ l G Y R Nf ε vw N cells slots pc lv (.long x :: st) M t :=
  SJ.stpL (fun p e s m args below meth c H locs ls Q C h w => lv_lstore C.1 C.2.1 hd h (Nat.le_of_ble_eq_true hn) hl w) k
theorem s_astore_n {q : Fin 4} {i : Nat} {x : Nat} {lv' : List (Nat × Value)} (hd : decode Y.2.1 pc = .ok (.astore_n q, 1)) (hi : (q : Nat) = i) (hn : Nat.blt (i) Y.2.2.1 = true) (hl : (i, Value.ref x) :: lv.filter (fun q => !(q.1 == i) && !(q.1 + 1 == i && q.2.category == 2)) = lv') (k : SJ l G Y R Nf ε vw N cells slots (pc + 1) lv' st M t) : SJ l G Y R Nf ε vw N cells slots pc lv (.ref x :: st) M t :=
  SJ.stpL (fun p e s m args below meth c H locs ls Q C h w => lv_astore_n C.1 C.2.1 hd hi h (Nat.le_of_ble_eq_true hn) hl w) k
theorem s_astore {i : Nat} {x : Nat} {lv' : List (Nat × Value)} (hd : decode Y.2.1 pc = .ok (.astore i, 2)) (hn : Nat.blt (i) Y.2.2.1 = true) (hl : (i, Value.ref x) :: lv.filter (fun q => !(q.1 == i) && !(q.1 + 1 == i && q.2.category == 2)) = lv') (k : SJ l G Y R Nf ε vw N cells slots (pc + 2) lv' st M t) : SJ l G Y R Nf ε vw N cells slots pc lv (.ref x :: st) M t :=
  SJ.stpL (fun p e s m args below meth c H locs ls Q C h w => lv_astore C.1 C.2.1 hd h (Nat.le_of_ble_eq_true hn) hl w) k
theorem s_astore_nN {q : Fin 4} {i : Nat} {lv' : List (Nat × Value)} (hd : decode Y.2.1 pc = .ok (.astore_n q, 1)) (hi : (q : Nat) = i) (hn : Nat.blt (i) Y.2.2.1 = true) (hl : (i, Value.null) :: lv.filter (fun q => !(q.1 == i) && !(q.1 + 1 == i && q.2.category == 2)) = lv') (k : SJ l G Y R Nf ε vw N cells slots (pc + 1) lv' st M t) : SJ l G Y R Nf ε vw N cells slots pc lv (.null :: st) M t :=
  SJ.stpL (fun p e s m args below meth c H locs ls Q C h w => lv_astore_nN C.1 C.2.1 hd hi h (Nat.le_of_ble_eq_true hn) hl w) k
theorem s_astoreN {i : Nat} {lv' : List (Nat × Value)} (hd : decode Y.2.1 pc = .ok (.astore i, 2)) (hn : Nat.blt (i) Y.2.2.1 = true) (hl : (i, Value.null) :: lv.filter (fun q => !(q.1 == i) && !(q.1 + 1 == i && q.2.category == 2)) = lv') (k : SJ l G Y R Nf ε vw N cells slots (pc + 2) lv' st M t) : SJ l G Y R Nf ε vw N cells slots pc lv (.null :: st) M t :=
  SJ.stpL (fun p e s m args below meth c H locs ls Q C h w => lv_astoreN C.1 C.2.1 hd h (Nat.le_of_ble_eq_true hn) hl w) k
theorem s_iinc {i : Nat} {n : Int} {x v : Int32} {lv' : List (Nat × Value)} (kk : Nat) (hd : decode Y.2.1 pc = .ok (.iinc i n, 3)) (hk : lv[kk]? = some (i, .int x)) (hv : Int32.ofInt n = v) (hn : Nat.blt i Y.2.2.1 = true) (hl : (i, Value.int (x + v)) :: lv.filter (fun q => !(q.1 == i) && !(q.1 + 1 == i && q.2.category == 2)) = lv') (k : SJ l G Y R Nf ε vw N cells slots (pc + 3) lv' st M t) : SJ l G Y R Nf ε vw N cells slots pc lv st M t :=
  SJ.stpL (fun p e s m args below meth c H locs ls Q C h w => lv_iinc C.1 C.2.1 hd h hk (by rw [hv]) (Nat.le_of_ble_eq_true hn) hl w) k
theorem s_split {r : Option Nat} {f : Nat → Option (α × μ)} (k1 : SJ l G Y R Nf ε vw N cells slots pc lv (.null :: st) M t) (k2 : ∀ c, SJ l G Y R Nf ε vw N cells slots pc lv (aR G c :: st) M (f c)) : SJ l G Y R Nf ε vw N cells slots pc lv (rO G r :: st) M (ifn r t f) := by
  cases r with
  | none => exact k1
  | some c => exact k2 c
theorem s_goto {off : Int} {tgt : Nat} (hd : decode Y.2.1 pc = .ok (.goto off, 3)) (ht : (pc : Int) + off = (tgt : Int)) (k : SJ l G Y R Nf ε vw N cells slots tgt lv st M t) : SJ l G Y R Nf ε vw N cells slots pc lv st M t :=
  SJ.stp (fun p e s m args below meth c H locs ls Q C hl w => lv_goto C.1 C.2.1 hd ht w) k
theorem s_if_eq {x : Int32} {off : Int} {tgt : Nat} (hd : decode Y.2.1 pc = .ok (.ifCond .eq off, 3)) (ht : (pc : Int) + off = (tgt : Int)) (k1 : x = 0 → SJ l G Y R Nf ε vw N cells slots tgt lv st M t1) (k2 : ¬ x = 0 → SJ l G Y R Nf ε vw N cells slots (pc + 3) lv st M t2) : SJ l G Y R Nf ε vw N cells slots pc lv (.int x :: st) M (if x = 0 then t1 else t2) := by
  refine s_ite (fun h => ?_) (fun h => ?_)
  · exact SJ.stp (fun p e s m args below meth c H locs ls Q C hl w => lv_if_eq C.1 C.2.1 hd ht (fun _ => w) (fun q => absurd h q)) (k1 h)
  · exact SJ.stp (fun p e s m args below meth c H locs ls Q C hl w => lv_if_eq C.1 C.2.1 hd ht (fun q => absurd q h) (fun _ => w)) (k2 h)
theorem s_icmp_eq {x y : Int32} {off : Int} {tgt : Nat} (hd : decode Y.2.1 pc = .ok (.if_icmp .eq off, 3)) (ht : (pc : Int) + off = (tgt : Int)) (k1 : x = y → SJ l G Y R Nf ε vw N cells slots tgt lv st M t1) (k2 : ¬ x = y → SJ l G Y R Nf ε vw N cells slots (pc + 3) lv st M t2) : SJ l G Y R Nf ε vw N cells slots pc lv (.int y :: .int x :: st) M (if x = y then t1 else t2) := by
  refine s_ite (fun h => ?_) (fun h => ?_)
  · exact SJ.stp (fun p e s m args below meth c H locs ls Q C hl w => lv_icmp_eq C.1 C.2.1 hd ht (fun _ => w) (fun q => absurd h q)) (k1 h)
  · exact SJ.stp (fun p e s m args below meth c H locs ls Q C hl w => lv_icmp_eq C.1 C.2.1 hd ht (fun q => absurd q h) (fun _ => w)) (k2 h)
theorem s_if_ne {x : Int32} {off : Int} {tgt : Nat} (hd : decode Y.2.1 pc = .ok (.ifCond .ne off, 3)) (ht : (pc : Int) + off = (tgt : Int)) (k1 : x = 0 → SJ l G Y R Nf ε vw N cells slots (pc + 3) lv st M t1) (k2 : ¬ x = 0 → SJ l G Y R Nf ε vw N cells slots tgt lv st M t2) : SJ l G Y R Nf ε vw N cells slots pc lv (.int x :: st) M (if x = 0 then t1 else t2) := by
  refine s_ite (fun h => ?_) (fun h => ?_)
  · exact SJ.stp (fun p e s m args below meth c H locs ls Q C hl w => lv_if_ne C.1 C.2.1 hd ht (fun q => absurd h q) (fun _ => w)) (k1 h)
  · exact SJ.stp (fun p e s m args below meth c H locs ls Q C hl w => lv_if_ne C.1 C.2.1 hd ht (fun _ => w) (fun q => absurd q h)) (k2 h)
theorem s_icmp_ne {x y : Int32} {off : Int} {tgt : Nat} (hd : decode Y.2.1 pc = .ok (.if_icmp .ne off, 3)) (ht : (pc : Int) + off = (tgt : Int)) (k1 : x = y → SJ l G Y R Nf ε vw N cells slots (pc + 3) lv st M t1) (k2 : ¬ x = y → SJ l G Y R Nf ε vw N cells slots tgt lv st M t2) : SJ l G Y R Nf ε vw N cells slots pc lv (.int y :: .int x :: st) M (if x = y then t1 else t2) := by
  refine s_ite (fun h => ?_) (fun h => ?_)
  · exact SJ.stp (fun p e s m args below meth c H locs ls Q C hl w => lv_icmp_ne C.1 C.2.1 hd ht (fun q => absurd h q) (fun _ => w)) (k1 h)
  · exact SJ.stp (fun p e s m args below meth c H locs ls Q C hl w => lv_icmp_ne C.1 C.2.1 hd ht (fun _ => w) (fun q => absurd q h)) (k2 h)
theorem s_if_lt {x : Int32} {off : Int} {tgt : Nat} (hd : decode Y.2.1 pc = .ok (.ifCond .lt off, 3)) (ht : (pc : Int) + off = (tgt : Int)) (k1 : x < 0 → SJ l G Y R Nf ε vw N cells slots tgt lv st M t1) (k2 : ¬ x < 0 → SJ l G Y R Nf ε vw N cells slots (pc + 3) lv st M t2) : SJ l G Y R Nf ε vw N cells slots pc lv (.int x :: st) M (if x < 0 then t1 else t2) := by
  refine s_ite (fun h => ?_) (fun h => ?_)
  · exact SJ.stp (fun p e s m args below meth c H locs ls Q C hl w => lv_if_lt C.1 C.2.1 hd ht (fun _ => w) (fun q => absurd h q)) (k1 h)
  · exact SJ.stp (fun p e s m args below meth c H locs ls Q C hl w => lv_if_lt C.1 C.2.1 hd ht (fun q => absurd q h) (fun _ => w)) (k2 h)
theorem s_icmp_lt {x y : Int32} {off : Int} {tgt : Nat} (hd : decode Y.2.1 pc = .ok (.if_icmp .lt off, 3)) (ht : (pc : Int) + off = (tgt : Int)) (k1 : x < y → SJ l G Y R Nf ε vw N cells slots tgt lv st M t1) (k2 : ¬ x < y → SJ l G Y R Nf ε vw N cells slots (pc + 3) lv st M t2) : SJ l G Y R Nf ε vw N cells slots pc lv (.int y :: .int x :: st) M (if x < y then t1 else t2) := by
  refine s_ite (fun h => ?_) (fun h => ?_)
  · exact SJ.stp (fun p e s m args below meth c H locs ls Q C hl w => lv_icmp_lt C.1 C.2.1 hd ht (fun _ => w) (fun q => absurd h q)) (k1 h)
  · exact SJ.stp (fun p e s m args below meth c H locs ls Q C hl w => lv_icmp_lt C.1 C.2.1 hd ht (fun q => absurd q h) (fun _ => w)) (k2 h)
theorem s_if_ge {x : Int32} {off : Int} {tgt : Nat} (hd : decode Y.2.1 pc = .ok (.ifCond .ge off, 3)) (ht : (pc : Int) + off = (tgt : Int)) (k1 : 0 ≤ x → SJ l G Y R Nf ε vw N cells slots tgt lv st M t1) (k2 : ¬ 0 ≤ x → SJ l G Y R Nf ε vw N cells slots (pc + 3) lv st M t2) : SJ l G Y R Nf ε vw N cells slots pc lv (.int x :: st) M (if 0 ≤ x then t1 else t2) := by
  refine s_ite (fun h => ?_) (fun h => ?_)
  · exact SJ.stp (fun p e s m args below meth c H locs ls Q C hl w => lv_if_ge C.1 C.2.1 hd ht (fun _ => w) (fun q => absurd h q)) (k1 h)
  · exact SJ.stp (fun p e s m args below meth c H locs ls Q C hl w => lv_if_ge C.1 C.2.1 hd ht (fun q => absurd q h) (fun _ => w)) (k2 h)
theorem s_icmp_ge {x y : Int32} {off : Int} {tgt : Nat} (hd : decode Y.2.1 pc = .ok (.if_icmp .ge off, 3)) (ht : (pc : Int) + off = (tgt : Int)) (k1 : y ≤ x → SJ l G Y R Nf ε vw N cells slots tgt lv st M t1) (k2 : ¬ y ≤ x → SJ l G Y R Nf ε vw N cells slots (pc + 3) lv st M t2) : SJ l G Y R Nf ε vw N cells slots pc lv (.int y :: .int x :: st) M (if y ≤ x then t1 else t2) := by
  refine s_ite (fun h => ?_) (fun h => ?_)
  · exact SJ.stp (fun p e s m args below meth c H locs ls Q C hl w => lv_icmp_ge C.1 C.2.1 hd ht (fun _ => w) (fun q => absurd h q)) (k1 h)
  · exact SJ.stp (fun p e s m args below meth c H locs ls Q C hl w => lv_icmp_ge C.1 C.2.1 hd ht (fun q => absurd q h) (fun _ => w)) (k2 h)
theorem s_if_gt {x : Int32} {off : Int} {tgt : Nat} (hd : decode Y.2.1 pc = .ok (.ifCond .gt off, 3)) (ht : (pc : Int) + off = (tgt : Int)) (k1 : 0 < x → SJ l G Y R Nf ε vw N cells slots tgt lv st M t1) (k2 : ¬ 0 < x → SJ l G Y R Nf ε vw N cells slots (pc + 3) lv st M t2) : SJ l G Y R Nf ε vw N cells slots pc lv (.int x :: st) M (if 0 < x then t1 else t2) := by
  refine s_ite (fun h => ?_) (fun h => ?_)
  · exact SJ.stp (fun p e s m args below meth c H locs ls Q C hl w => lv_if_gt C.1 C.2.1 hd ht (fun _ => w) (fun q => absurd h q)) (k1 h)
  · exact SJ.stp (fun p e s m args below meth c H locs ls Q C hl w => lv_if_gt C.1 C.2.1 hd ht (fun q => absurd q h) (fun _ => w)) (k2 h)
theorem s_icmp_gt {x y : Int32} {off : Int} {tgt : Nat} (hd : decode Y.2.1 pc = .ok (.if_icmp .gt off, 3)) (ht : (pc : Int) + off = (tgt : Int)) (k1 : y < x → SJ l G Y R Nf ε vw N cells slots tgt lv st M t1) (k2 : ¬ y < x → SJ l G Y R Nf ε vw N cells slots (pc + 3) lv st M t2) : SJ l G Y R Nf ε vw N cells slots pc lv (.int y :: .int x :: st) M (if y < x then t1 else t2) := by
  refine s_ite (fun h => ?_) (fun h => ?_)
  · exact SJ.stp (fun p e s m args below meth c H locs ls Q C hl w => lv_icmp_gt C.1 C.2.1 hd ht (fun _ => w) (fun q => absurd h q)) (k1 h)
  · exact SJ.stp (fun p e s m args below meth c H locs ls Q C hl w => lv_icmp_gt C.1 C.2.1 hd ht (fun q => absurd q h) (fun _ => w)) (k2 h)
theorem s_if_le {x : Int32} {off : Int} {tgt : Nat} (hd : decode Y.2.1 pc = .ok (.ifCond .le off, 3)) (ht : (pc : Int) + off = (tgt : Int)) (k1 : x ≤ 0 → SJ l G Y R Nf ε vw N cells slots tgt lv st M t1) (k2 : ¬ x ≤ 0 → SJ l G Y R Nf ε vw N cells slots (pc + 3) lv st M t2) : SJ l G Y R Nf ε vw N cells slots pc lv (.int x :: st) M (if x ≤ 0 then t1 else t2) := by
  refine s_ite (fun h => ?_) (fun h => ?_)
  · exact SJ.stp (fun p e s m args below meth c H locs ls Q C hl w => lv_if_le C.1 C.2.1 hd ht (fun _ => w) (fun q => absurd h q)) (k1 h)
  · exact SJ.stp (fun p e s m args below meth c H locs ls Q C hl w => lv_if_le C.1 C.2.1 hd ht (fun q => absurd q h) (fun _ => w)) (k2 h)
theorem s_icmp_le {x y : Int32} {off : Int} {tgt : Nat} (hd : decode Y.2.1 pc = .ok (.if_icmp .le off, 3)) (ht : (pc : Int) + off = (tgt : Int)) (k1 : x ≤ y → SJ l G Y R Nf ε vw N cells slots tgt lv st M t1) (k2 : ¬ x ≤ y → SJ l G Y R Nf ε vw N cells slots (pc + 3) lv st M t2) : SJ l G Y R Nf ε vw N cells slots pc lv (.int y :: .int x :: st) M (if x ≤ y then t1 else t2) := by
  refine s_ite (fun h => ?_) (fun h => ?_)
  · exact SJ.stp (fun p e s m args below meth c H locs ls Q C hl w => lv_icmp_le C.1 C.2.1 hd ht (fun _ => w) (fun q => absurd h q)) (k1 h)
  · exact SJ.stp (fun p e s m args below meth c H locs ls Q C hl w => lv_icmp_le C.1 C.2.1 hd ht (fun q => absurd q h) (fun _ => w)) (k2 h)
theorem s_ifnullN {off : Int} {tgt : Nat} (hd : decode Y.2.1 pc = .ok (.ifnull off, 3)) (ht : (pc : Int) + off = (tgt : Int)) (k : SJ l G Y R Nf ε vw N cells slots tgt lv st M t) : SJ l G Y R Nf ε vw N cells slots pc lv (.null :: st) M t :=
  SJ.stp (fun p e s m args below meth c' H locs ls Q C hl w => lv_ifnullN C.1 C.2.1 hd ht w) k
theorem s_ifnonnullN {off : Int} (hd : decode Y.2.1 pc = .ok (.ifnonnull off, 3)) (k : SJ l G Y R Nf ε vw N cells slots (pc + 3) lv st M t) : SJ l G Y R Nf ε vw N cells slots pc lv (.null :: st) M t :=
  SJ.stp (fun p e s m args below meth c' H locs ls Q C hl w => lv_ifnonnullN C.1 C.2.1 hd w) k
theorem s_ifnullS {off : Int} {c : Nat} (hd : decode Y.2.1 pc = .ok (.ifnull off, 3)) (k : SJ l G Y R Nf ε vw N cells slots (pc + 3) lv st M t) : SJ l G Y R Nf ε vw N cells slots pc lv (aR G c :: st) M t :=
  SJ.stp (fun p e s m args below meth c' H locs ls Q C hl w => lv_ifnull (x := ad G c) C.1 C.2.1 hd w) k
theorem s_ifnonnullS {off : Int} {tgt c : Nat} (hd : decode Y.2.1 pc = .ok (.ifnonnull off, 3)) (ht : (pc : Int) + off = (tgt : Int)) (k : SJ l G Y R Nf ε vw N cells slots tgt lv st M t) : SJ l G Y R Nf ε vw N cells slots pc lv (aR G c :: st) M t :=
  SJ.stp (fun p e s m args below meth c' H locs ls Q C hl w => lv_ifnonnull (x := ad G c) C.1 C.2.1 hd ht w) k
theorem s_tin {dflt lo hi off : Int} {offs : Array Int} {len tgt : Nat} {x : Int32} (hd : decode Y.2.1 pc = .ok (.tableswitch dflt lo hi offs, len)) (h1 : ¬ x.toInt < lo) (h2 : ¬ hi < x.toInt) (ho : offs[(x.toInt - lo).toNat]? = some off) (ht : (pc : Int) + off = (tgt : Int)) (k : SJ l G Y R Nf ε vw N cells slots tgt lv st M t) : SJ l G Y R Nf ε vw N cells slots pc lv (.int x :: st) M t :=
  SJ.stp (fun p e s m args below meth c H locs ls Q C hl w => lv_tableIn C.1 C.2.1 hd h1 h2 ho ht w) k
theorem s_tout {dflt lo hi : Int} {offs : Array Int} {len tgt : Nat} {x : Int32} (hd : decode Y.2.1 pc = .ok (.tableswitch dflt lo hi offs, len)) (h : x.toInt < lo ∨ hi < x.toInt) (ht : (pc : Int) + dflt = (tgt : Int)) (k : SJ l G Y R Nf ε vw N cells slots tgt lv st M t) : SJ l G Y R Nf ε vw N cells slots pc lv (.int x :: st) M t :=
  SJ.stp (fun p e s m args below meth c H locs ls Q C hl w => lv_tableOut C.1 C.2.1 hd h ht w) k
theorem s_lcmp {x y : Int64} (hd : decode Y.2.1 pc = .ok (.lcmp, 1)) (k : SJ l G Y R Nf ε vw N cells slots (pc + 1) lv (.int (lg_cmp x y) :: st) M t) : SJ l G Y R Nf ε vw N cells slots pc lv (.long y :: .long x :: st) M t :=
  SJ.stp (fun p e s m args below meth c H locs ls Q C hl w => W.lcmp C.1 C.2.1 hd w) k
theorem s_null (hd : decode Y.2.1 pc = .ok (.aconst_null, 1)) (k : SJ l G Y R Nf ε vw N cells slots (pc + 1) lv (.null :: st) M t) : SJ l G Y R Nf ε vw N cells slots pc lv st M t :=
  SJ.stp (fun p e s m args below meth c H locs ls Q C hl w => lv_null C.1 C.2.1 hd w) k
end SR
/-! the answers -/
section SE
variable {l : Launch} {G : Gl} {Y : My} {R : Room} {μ : Type} {vw : μ → Mm} {N pc : Nat} {lv : List (Nat × Value)} {M : μ}
abbrev eI : Int32 → Option Value := fun x => some (.int x)
abbrev eL : Int64 → Option Value := fun x => some (.long x)
abbrev eU : Unit → Option Value := fun _ => none
def eR (G : Gl) : Option Nat → Option Value := fun r => some (rO G r)
theorem s_iret {v : Int32} (hd : decode Y.2.1 pc = .ok (.ireturn, 1)) (hr : Y.2.2.2 = some .int) : SJ l G Y R N eI vw N R.cells R.slots pc lv [.int v] M (some (v, M)) := by
  intro a Mf h p e s m args below meth c H locs ls C hl hR hS
  cases h
  exact W.iret C.1 C.2.1 (C.2.2.2.1.trans hr) (fun t ht hW => ⟨rfl, by rw [ht]; exact hR, hS.F ht⟩) hS.2.2 hd C.2.2.2.2.2.2.1
theorem s_zret {v : Int32} {ty : FieldType} (hd : decode Y.2.1 pc = .ok (.ireturn, 1)) (hr : Y.2.2.2 = some ty) (hn : narrow ty (.int v) = .int v) : SJ l G Y R N eI vw N R.cells R.slots pc lv [.int v] M (some (v, M)) := by
  intro a Mf h p e s m args below meth c H locs ls C hl hR hS
  cases h
  exact W.zret C.1 C.2.1 (C.2.2.2.1.trans hr) hn (fun t ht hW => ⟨rfl, by rw [ht]; exact hR, hS.F ht⟩) hS.2.2 hd C.2.2.2.2.2.2.1
theorem s_lret {v : Int64} (hd : decode Y.2.1 pc = .ok (.lreturn, 1)) (hr : Y.2.2.2 = some .long) : SJ l G Y R N eL vw N R.cells R.slots pc lv [.long v] M (some (v, M)) := by
  intro a Mf h p e s m args below meth c H locs ls C hl hR hS
  cases h
  exact W.lret C.1 C.2.1 (C.2.2.2.1.trans hr) (fun t ht hW => ⟨rfl, by rw [ht]; exact hR, hS.F ht⟩) hS.2.2 hd C.2.2.2.2.2.2.1
theorem s_vret (hd : decode Y.2.1 pc = .ok (.return_, 1)) (hr : Y.2.2.2 = none) : SJ l G Y R N eU vw N R.cells R.slots pc lv [] M (some ((), M)) := by
  intro a Mf h p e s m args below meth c H locs ls C hl hR hS
  cases h
  exact W.vret C.1 C.2.1 (C.2.2.2.1.trans hr) (fun t ht hW => ⟨rfl, by rw [ht]; exact hR, hS.F ht⟩) hS.2.2 hd C.2.2.2.2.2.2.1
theorem s_aret {r : Option Nat} {cn : String} (hd : decode Y.2.1 pc = .ok (.areturn, 1)) (hr : Y.2.2.2 = some (.object cn)) : SJ l G Y R N (eR G) vw N R.cells R.slots pc lv [rO G r] M (some (r, M)) := by
  intro a Mf h p e s m args below meth c H locs ls C hl hR hS
  cases h
  exact W.aret C.1 C.2.1 (C.2.2.2.1.trans hr) (Or.inl ⟨cn, rfl⟩) (va_rf_or _) (fun t ht hW => ⟨rfl, by rw [ht]; exact hR, hS.F ht⟩) hS.2.2 hd C.2.2.2.2.2.2.1
end SE
