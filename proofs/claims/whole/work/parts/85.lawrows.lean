/-! the law's own steps -/
def LW (p : Program) (l : Launch) (e : Env) (s : State) (m : MethodId) (below : List Frame) (meth : Method) (c : Code) (b : Nat) (G : Gl) (N cells slots pc : Nat) (lv : List (Nat × Value)) (st : List Value) (M : Mm) : Prop :=
  ∀ (H : Heap) (locs : List Loc) (ls : Array Slot), lv_has ls 4 lv → Rl G M N H → va_S (gA G) s.heap H locs → W p l e room_1 s m #[Value.ref b] below meth c H locs cells slots (lw_Z below #[Value.ref b] s) (F0 m pc ls st)
def LX (p : Program) (s : State) (m : MethodId) (meth : Method) (c : Code) (b : Nat) (G : Gl) (L : Nat) (xs : Nat → Int32) : Prop := CX G Y_law p s m #[Value.ref b] meth c ∧ va_X b L xs s s.heap ∧ b < s.heap.size ∧ G.2.2.1 = s.heap.size
section LR
variable {p : Program} {l : Launch} {e : Env} {s : State} {m : MethodId} {below : List Frame} {meth : Method} {c : Code} {b : Nat} {G : Gl} {L : Nat} {xs : Nat → Int32} {N cells slots pc : Nat} {lv lv' : List (Nat × Value)} {st : List Value} {M : Mm}
theorem L_iconst {n : Int} {v : Int32} (X : LX p s m meth c b G L xs) (hd : decode cL_law pc = .ok (.iconst n, 1)) (hv : Int32.ofInt n = v) (k : LW p l e s m below meth c b G N cells slots (pc + 1) lv (.int v :: st) M) : LW p l e s m below meth c b G N cells slots pc lv st M :=
  fun H locs ls hl hR hS => lv_iconst X.1.1 X.1.2.1 hd hv (k H locs ls hl hR hS)
theorem L_bipush {n : Int} {v : Int32} (X : LX p s m meth c b G L xs) (hd : decode cL_law pc = .ok (.bipush n, 2)) (hv : (Int8.ofInt n).toInt32 = v) (k : LW p l e s m below meth c b G N cells slots (pc + 2) lv (.int v :: st) M) : LW p l e s m below meth c b G N cells slots pc lv st M :=
  fun H locs ls hl hR hS => lv_bipush X.1.1 X.1.2.1 hd hv (k H locs ls hl hR hS)
theorem L_iadd {x y : Int32} (X : LX p s m meth c b G L xs) (hd : decode cL_law pc = .ok (.iadd, 1)) (k : LW p l e s m below meth c b G N cells slots (pc + 1) lv (.int (x + y) :: st) M) : LW p l e s m below meth c b G N cells slots pc lv (.int y :: .int x :: st) M :=
  fun H locs ls hl hR hS => lv_iadd X.1.1 X.1.2.1 hd (k H locs ls hl hR hS)
theorem L_isub {x y : Int32} (X : LX p s m meth c b G L xs) (hd : decode cL_law pc = .ok (.isub, 1)) (k : LW p l e s m below meth c b G N cells slots (pc + 1) lv (.int (x - y) :: st) M) : LW p l e s m below meth c b G N cells slots pc lv (.int y :: .int x :: st) M :=
  fun H locs ls hl hR hS => lv_isub X.1.1 X.1.2.1 hd (k H locs ls hl hR hS)
theorem L_iand {x y : Int32} (X : LX p s m meth c b G L xs) (hd : decode cL_law pc = .ok (.iand, 1)) (k : LW p l e s m below meth c b G N cells slots (pc + 1) lv (.int (x &&& y) :: st) M) : LW p l e s m below meth c b G N cells slots pc lv (.int y :: .int x :: st) M :=
  fun H locs ls hl hR hS => lv_iand X.1.1 X.1.2.1 hd (k H locs ls hl hR hS)
theorem L_land {x y : Int64} (X : LX p s m meth c b G L xs) (hd : decode cL_law pc = .ok (.land, 1)) (k : LW p l e s m below meth c b G N cells slots (pc + 1) lv (.long (x &&& y) :: st) M) : LW p l e s m below meth c b G N cells slots pc lv (.long y :: .long x :: st) M :=
  fun H locs ls hl hR hS => lv_land X.1.1 X.1.2.1 hd (k H locs ls hl hR hS)
theorem L_lor {x y : Int64} (X : LX p s m meth c b G L xs) (hd : decode cL_law pc = .ok (.lor, 1)) (k : LW p l e s m below meth c b G N cells slots (pc + 1) lv (.long (x ||| y) :: st) M) : LW p l e s m below meth c b G N cells slots pc lv (.long y :: .long x :: st) M :=
  fun H locs ls hl hR hS => lv_lor X.1.1 X.1.2.1 hd (k H locs ls hl hR hS)
theorem L_dup {va : Value} (X : LX p s m meth c b G L xs) (hd : decode cL_law pc = .ok (.dup, 1)) (hva : va.category = 1) (k : LW p l e s m below meth c b G N cells slots (pc + 1) lv (va :: va :: st) M) : LW p l e s m below meth c b G N cells slots pc lv (va :: st) M :=
  fun H locs ls hl hR hS => lv_dup X.1.1 X.1.2.1 hd hva (k H locs ls hl hR hS)
theorem L_iload_n {q : Fin 4} {x : Int32} (kk : Nat) (X : LX p s m meth c b G L xs) (hd : decode cL_law pc = .ok (.iload_n q, 1)) (hk : lv[kk]? = some ((q : Nat), .int x)) (k : LW p l e s m below meth c b G N cells slots (pc + 1) lv (.int x :: st) M) : LW p l e s m below meth c b G N cells slots pc lv st M :=
  fun H locs ls hl hR hS => lv_iload_n X.1.1 X.1.2.1 hd rfl (lv_at hl kk hk) (k H locs ls hl hR hS)
theorem L_aload_n {q : Fin 4} {x : Nat} (kk : Nat) (X : LX p s m meth c b G L xs) (hd : decode cL_law pc = .ok (.aload_n q, 1)) (hk : lv[kk]? = some ((q : Nat), .ref x)) (k : LW p l e s m below meth c b G N cells slots (pc + 1) lv (.ref x :: st) M) : LW p l e s m below meth c b G N cells slots pc lv st M :=
  fun H locs ls hl hR hS => lv_aload_n X.1.1 X.1.2.1 hd rfl (lv_at hl kk hk) (k H locs ls hl hR hS)
theorem L_istore_n {q : Fin 4} {i : Nat} {x : Int32} (X : LX p s m meth c b G L xs) (hd : decode cL_law pc = .ok (.istore_n q, 1)) (hi : (q : Nat) = i) (hn : Nat.blt i 4 = true) (hlv : (i, Value.int x) :: lv.filter (fun q => !(q.1 == i) && !(q.1 + 1 == i && q.2.category == 2)) = lv') (k : LW p l e s m below meth c b G N cells slots (pc + 1) lv' st M) : LW p l e s m below meth c b G N cells slots pc lv (.int x :: st) M :=
  fun H locs ls hl hR hS => lv_istore_n X.1.1 X.1.2.1 hd hi hl (Nat.le_of_ble_eq_true hn) hlv (fun ls2 hl2 => k H locs ls2 hl2 hR hS)
theorem L_astore_n {q : Fin 4} {i : Nat} {x : Nat} (X : LX p s m meth c b G L xs) (hd : decode cL_law pc = .ok (.astore_n q, 1)) (hi : (q : Nat) = i) (hn : Nat.blt i 4 = true) (hlv : (i, Value.ref x) :: lv.filter (fun q => !(q.1 == i) && !(q.1 + 1 == i && q.2.category == 2)) = lv') (k : LW p l e s m below meth c b G N cells slots (pc + 1) lv' st M) : LW p l e s m below meth c b G N cells slots pc lv (.ref x :: st) M :=
  fun H locs ls hl hR hS => lv_astore_n X.1.1 X.1.2.1 hd hi hl (Nat.le_of_ble_eq_true hn) hlv (fun ls2 hl2 => k H locs ls2 hl2 hR hS)
theorem L_iinc {i : Nat} {n : Int} {x v : Int32} (kk : Nat) (X : LX p s m meth c b G L xs) (hd : decode cL_law pc = .ok (.iinc i n, 3)) (hk : lv[kk]? = some (i, .int x)) (hv : Int32.ofInt n = v) (hn : Nat.blt i 4 = true) (hlv : (i, Value.int (x + v)) :: lv.filter (fun q => !(q.1 == i) && !(q.1 + 1 == i && q.2.category == 2)) = lv') (k : LW p l e s m below meth c b G N cells slots (pc + 3) lv' st M) : LW p l e s m below meth c b G N cells slots pc lv st M :=
  fun H locs ls hl hR hS => lv_iinc X.1.1 X.1.2.1 hd hl hk (by rw [hv]) (Nat.le_of_ble_eq_true hn) hlv (fun ls2 hl2 => k H locs ls2 hl2 hR hS)
theorem L_goto {off : Int} {tgt : Nat} (X : LX p s m meth c b G L xs) (hd : decode cL_law pc = .ok (.goto off, 3)) (ht : (pc : Int) + off = (tgt : Int)) (k : LW p l e s m below meth c b G N cells slots tgt lv st M) : LW p l e s m below meth c b G N cells slots pc lv st M :=
  fun H locs ls hl hR hS => lv_goto X.1.1 X.1.2.1 hd ht (k H locs ls hl hR hS)
theorem L_gtY {x y : Int32} {off : Int} {tgt : Nat} (X : LX p s m meth c b G L xs) (hd : decode cL_law pc = .ok (.if_icmp .gt off, 3)) (ht : (pc : Int) + off = (tgt : Int)) (h : y < x) (k : LW p l e s m below meth c b G N cells slots tgt lv st M) : LW p l e s m below meth c b G N cells slots pc lv (.int y :: .int x :: st) M :=
  fun H locs ls hl hR hS => (fun w => lv_icmp_gt X.1.1 X.1.2.1 hd ht (fun _ => w) (fun q => absurd h q)) (k H locs ls hl hR hS)
theorem L_gtN {x y : Int32} {off : Int} {tgt : Nat} (X : LX p s m meth c b G L xs) (hd : decode cL_law pc = .ok (.if_icmp .gt off, 3)) (ht : (pc : Int) + off = (tgt : Int)) (h : ¬ y < x) (k : LW p l e s m below meth c b G N cells slots (pc + 3) lv st M) : LW p l e s m below meth c b G N cells slots pc lv (.int y :: .int x :: st) M :=
  fun H locs ls hl hR hS => (fun w => lv_icmp_gt X.1.1 X.1.2.1 hd ht (fun q => absurd q h) (fun _ => w)) (k H locs ls hl hR hS)
theorem L_eqY {x : Int32} {off : Int} {tgt : Nat} (X : LX p s m meth c b G L xs) (hd : decode cL_law pc = .ok (.if_icmp .eq off, 3)) (ht : (pc : Int) + off = (tgt : Int)) (k : LW p l e s m below meth c b G N cells slots tgt lv st M) : LW p l e s m below meth c b G N cells slots pc lv (.int x :: .int x :: st) M :=
  fun H locs ls hl hR hS => (fun w => lv_icmp_eq X.1.1 X.1.2.1 hd ht (fun _ => w) (fun q => absurd rfl q)) (k H locs ls hl hR hS)
theorem L_ifeqY {x : Int32} {off : Int} {tgt : Nat} (X : LX p s m meth c b G L xs) (hd : decode cL_law pc = .ok (.ifCond .eq off, 3)) (ht : (pc : Int) + off = (tgt : Int)) (h : x = 0) (k : LW p l e s m below meth c b G N cells slots tgt lv st M) : LW p l e s m below meth c b G N cells slots pc lv (.int x :: st) M :=
  fun H locs ls hl hR hS => (fun w => lv_if_eq X.1.1 X.1.2.1 hd ht (fun _ => w) (fun q => absurd h q)) (k H locs ls hl hR hS)
theorem L_lcmp {x y : Int64} (X : LX p s m meth c b G L xs) (hd : decode cL_law pc = .ok (.lcmp, 1)) (k : LW p l e s m below meth c b G N cells slots (pc + 1) lv (.int (lg_cmp x y) :: st) M) : LW p l e s m below meth c b G N cells slots pc lv (.long y :: .long x :: st) M :=
  fun H locs ls hl hR hS => W.lcmp X.1.1 X.1.2.1 hd (k H locs ls hl hR hS)
theorem L_i2l {x : Int32} (X : LX p s m meth c b G L xs) (hd : decode cL_law pc = .ok (.i2l, 1)) (k : LW p l e s m below meth c b G N cells slots (pc + 1) lv (.long x.toInt64 :: st) M) : LW p l e s m below meth c b G N cells slots pc lv (.int x :: st) M :=
  fun H locs ls hl hR hS => lv_i2l X.1.1 X.1.2.1 hd rfl (k H locs ls hl hR hS)
theorem L_lshl {x : Int64} {y : Int32} (X : LX p s m meth c b G L xs) (hd : decode cL_law pc = .ok (.lshl, 1)) (k : LW p l e s m below meth c b G N cells slots (pc + 1) lv (.long (x <<< (y.toInt64 &&& 63)) :: st) M) : LW p l e s m below meth c b G N cells slots pc lv (.int y :: .long x :: st) M :=
  fun H locs ls hl hR hS => lv_lshl X.1.1 X.1.2.1 hd rfl (k H locs ls hl hR hS)
theorem L_ldc2 {idx : Nat} {v : Int64} (X : LX p s m meth c b G L xs) (hd : decode cL_law pc = .ok (.ldc2_w idx, 3)) (hw : Cond.constantLong Y_law.1.cls idx v ∈ wG) (k : LW p l e s m below meth c b G N cells slots (pc + 3) lv (.long v :: st) M) : LW p l e s m below meth c b G N cells slots pc lv st M :=
  fun H locs ls hl hR hS => lv_ldc2 X.1.1 X.1.2.1 X.1.2.2.2.2.1 (X.1.2.2.2.2.2.1 _ hw) hd (k H locs ls hl hR hS)
theorem L_tin {dflt lo hi off : Int} {offs : Array Int} {len tgt : Nat} {x : Int32} (X : LX p s m meth c b G L xs) (hd : decode cL_law pc = .ok (.tableswitch dflt lo hi offs, len)) (h1 : ¬ x.toInt < lo) (h2 : ¬ hi < x.toInt) (ho : offs[(x.toInt - lo).toNat]? = some off) (ht : (pc : Int) + off = (tgt : Int)) (k : LW p l e s m below meth c b G N cells slots tgt lv st M) : LW p l e s m below meth c b G N cells slots pc lv (.int x :: st) M :=
  fun H locs ls hl hR hS => lv_tableIn X.1.1 X.1.2.1 hd h1 h2 ho ht (k H locs ls hl hR hS)
theorem L_tout {dflt lo hi : Int} {offs : Array Int} {len tgt : Nat} {x : Int32} (X : LX p s m meth c b G L xs) (hd : decode cL_law pc = .ok (.tableswitch dflt lo hi offs, len)) (h : x.toInt < lo ∨ hi < x.toInt) (ht : (pc : Int) + dflt = (tgt : Int)) (k : LW p l e s m below meth c b G N cells slots tgt lv st M) : LW p l e s m below meth c b G N cells slots pc lv (.int x :: st) M :=
  fun H locs ls hl hR hS => lv_tableOut X.1.1 X.1.2.1 hd h ht (k H locs ls hl hR hS)
theorem LX.na (X : LX p s m meth c b G L xs) : ¬ gA G b := fun h => by
  have h1 := X.2.2.1
  have h2 := X.2.2.2
  have h3 : G.2.2.1 ≤ b := h
  omega
theorem L_len (X : LX p s m meth c b G L xs) (hd : decode cL_law pc = .ok (.arraylength, 1)) (k : LW p l e s m below meth c b G N cells slots (pc + 1) lv (.int (nI L) :: st) M) : LW p l e s m below meth c b G N cells slots pc lv (.ref b :: st) M :=
  fun H locs ls hl hR hS => va_slen X.1.1 X.1.2.1 X.2.1 X.2.2.1 X.na hS hd (k H locs ls hl hR hS)
theorem L_ld {i : Nat} {v : Int32} (X : LX p s m meth c b G L xs) (hd : decode cL_law pc = .ok (.iaload, 1)) (hi : i < L) (hL : L < 2 ^ 31) (hv : v = nI i) (k : LW p l e s m below meth c b G N cells slots (pc + 1) lv (.int (xs i) :: st) M) : LW p l e s m below meth c b G N cells slots pc lv (.int v :: .ref b :: st) M := by
  intro H locs ls hl hR hS
  subst hv
  refine va_sld X.1.1 X.1.2.1 X.2.1 X.2.2.1 X.na hS (nI_in hi hL) hd ?_
  rw [nI_clamp (by omega)]
  exact k H locs ls hl hR hS
theorem L_new {ci nf idx : Nat} (X : LX p s m meth c b G L xs) (hd : decode cL_law pc = .ok (.new idx, 3)) (hk : okN ci nf) (hcl : ∀ Cn, (kcl[ci]?).map (fun q => q.1) = some Cn → Cond.classLink Y_law.1.cls idx Cn ∈ wG) (hs : (sh N).1 = ci) (hci : Nat.blt ci 20 = true) (hN : N < 101) (hD : Dz N M) (hrm : Nat.ble (cells + 1) 600000 = true ∧ Nat.ble (slots + nf) 7302250 = true) (k : LW p l e s m below meth c b G (N + 1) (cells + 1) (slots + nf) (pc + 3) lv (aR G N :: st) M) : LW p l e s m below meth c b G N cells slots pc lv st M := by
  intro H locs ls hl hR hS
  exact w_new (Y := Y_law) (R := room_1) X.1 hR hS hD hN hd hk hcl hs hci hrm (fun H1 h1 h2 => k H1 locs ls hl h1 h2)
/-- a constructor is called -/
theorem L_invI {Z : My} {Rc : Room} {o Nc n idx : Nat} {M1 : Mm} {st0 : List Value} (X : LX p s m meth c b G L xs) (hd : decode cL_law pc = .ok (.invokespecial idx, 3)) (hZ : okY Z n) (hR : okR room_1 Rc Z = true) (hlk : Cond.methodLink Y_law.1.cls idx Z.1 ∈ wG) (hin : Cond.instanceMethod Z.1 ∈ wG) (hinit : Z.1.name = "<init>") (hret : Z.2.2.2 = none) (vs : List Value) (hn : vs.length = n) (hlen : Nat.ble (lg_sl (aR G o :: vs)).length Z.2.2.1 = true) (hst : st0 = vs.reverse ++ aR G o :: st) (hcat : Nat.ble (st.map fun v => v.category).sum 8 = true) (hrm : Nat.ble (cells + Rc.cells) 600000 = true ∧ Nat.ble (slots + Rc.slots) 7302250 = true)
    (kc : SJ l G Z Rc Nc eU vI N 0 0 0 (lv_args 0 (aR G o :: vs)) [] M (some ((), M1))) (k : LW p l e s m below meth c b G Nc (cells + Rc.cells) (slots + Rc.slots) (pc + 3) lv st M1) : LW p l e s m below meth c b G N cells slots pc lv st0 M := by
  intro H locs ls hl hRl hS
  obtain ⟨hx, hb, hml, hr, ho, hw, hlk2, hnm, hE⟩ := id X.1
  subst hst
  have hB := call_B (Y := Y_law) (R := room_1) (Rc := Rc) hw hZ hR hlk
  rw [hret] at hB
  exact w_run (va_runI (As := vs) (rest := st) (n := n) ⟨hx, hb, hml, ho, hw⟩ (met_of (aR G o :: vs) hZ.2.2.1 (Nat.le_of_ble_eq_true hlen) kc rfl) ⟨hB, hinit, hw _ hin⟩ ⟨pre_blind, pre_at hE hRl hS⟩ rfl hn hl.1 rfl (lv_room (Nat.le_of_ble_eq_true hcat)) hd ⟨Nat.le_of_ble_eq_true hrm.1, Nat.le_of_ble_eq_true hrm.2⟩) hS
    (fun H1 locs1 hR1 hS1 => k H1 locs1 ls hl hR1 hS1)
/-- a method of the class or of the reference is called; its end is known -/
theorem L_inv {Z : My} {f q o ci n idx : Nat} {γ : Type} {εc : γ → Option Value} {a : γ} {Ma M1 : Nm} {tc : Option (γ × Nm)} {C : String} {T : u_T} {nf : Nat} {st0 : List Value} (X : LX p s m meth c b G L xs) (htc : tc = some (a, M1)) (hd : decode cL_law pc = .ok (.invokevirtual idx, 3)) (hZ : okY Z n) (hR : okR room_1 (zR f q) Z = true) (hlk : Cond.methodLink Y_law.1.cls idx Z.1 ∈ wG) (hin : Cond.instanceMethod Z.1 ∈ wG) (hse : Cond.selects C Z.1 Z.1 ∈ wG) (hk : kcl[ci]? = some (C, T, nf)) (hci : Nat.blt ci 20 = true) (hs : (sh o).1 = ci) (ho1 : o < 101) (vs : List Value) (hn : vs.length = n) (hlen : Nat.ble (lg_sl (aR G o :: vs)).length Z.2.2.1 = true) (hst : st0 = vs.reverse ++ aR G o :: st) (hcat : Nat.ble (st.map fun v => v.category).sum 8 = true) (hrm : Nat.ble cells 600000 = true ∧ Nat.ble slots 7302250 = true)
    (kc : NJ l G Z (zR f q) εc 0 (lv_args 0 (aR G o :: vs)) [] Ma tc) (k : LW p l e s m below meth c b G 101 cells slots (pc + 3) lv ((εc a).toList ++ st) (toM M1)) : LW p l e s m below meth c b G 101 cells slots pc lv st0 (toM Ma) := by
  intro H locs ls hl hRl hS
  obtain ⟨hx, hb, hml, hr, ho, hw, hlk2, hnm, hE⟩ := id X.1
  subst hst
  exact w_run (va_runV (As := vs) (rest := st) (n := n) ⟨hx, hb, hml, ho, hw⟩ (met_of (aR G o :: vs) hZ.2.2.1 (Nat.le_of_ble_eq_true hlen) kc htc) ⟨call_B (Y := Y_law) (R := room_1) hw hZ hR hlk, hw _ hin, hw _ hse⟩ ⟨pre_blind, rcv hE hRl ho1 hs hci hk, pre_at hE hRl hS⟩ rfl hn hl.1 rfl (lv_room (Nat.le_of_ble_eq_true hcat)) hd ⟨Nat.le_of_ble_eq_true hrm.1, Nat.le_of_ble_eq_true hrm.2⟩) hS
    (fun H1 locs1 hR1 hS1 => k H1 locs1 ls hl hR1 hS1)
/-- the law's end -/
theorem L_ret (X : LX p s m meth c b G L xs) (hd : decode cL_law pc = .ok (.ireturn, 1)) (h1 : cells ≤ 600000) (h2 : slots ≤ 7302250) : LW p l e s m below meth c b G N cells slots pc lv [.int 1] M := by
  intro H locs ls hl hR hS
  refine va_forget (fun q hq => ?_) (W.widen h1 h2 (lw_ret X.1.1 X.1.2.1 X.1.2.2.2.1 X.1.2.2.2.2.2.2.1 hd))
  have h := hS.2.2 q hq
  have h3 : G.2.2.1 ≤ q.base := h
  have h4 := X.2.2.2
  omega
end LR
