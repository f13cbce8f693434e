/-! arrays; calls on objects -/
theorem aE_i {G : Gl} {M : Mm} {c n : Nat} : aE G M c 0 n = .inl (G.2.1 0, n, .inl (M.1 c)) := rfl
theorem aE_l {G : Gl} {M : Mm} {c n : Nat} : aE G M c 1 n = .inl (G.2.1 1, n, .inr (.inl (M.2.1 c))) := rfl
theorem aE_c {G : Gl} {M : Mm} {c n : Nat} : aE G M c 2 n = .inl (G.2.1 2, n, .inl (M.1 c)) := rfl
theorem aE_q {G : Gl} {M : Mm} {c k n : Nat} (h : 3 ≤ k) : aE G M c k n = .inl (G.2.1 k, n, .inr (.inr (.inr (.inr (fun j => (M.2.2 c j).map (ad G)))))) := by
  unfold aE
  rw [if_neg (by omega), if_neg (by omega)]
theorem ar_k {k n c : Nat} (hk : Nat.blt k 10 = true) (hs : sh c = (20 + k, n)) : c < 1000 := by
  have h9 : k < 10 := Nat.le_of_ble_eq_true hk
  have := sh_lt (c := c) (ci := 20 + k) (by rw [hs]) (nb99 (by omega))
  omega
theorem ar_n {k n c : Nat} (hk : Nat.blt k 10 = true) (hs : sh c = (20 + k, n)) : c < 101 := by
  have h9 : k < 10 := Nat.le_of_ble_eq_true hk
  exact sh_lt (c := c) (ci := 20 + k) (by rw [hs]) (nb99 (by omega))
section SA
variable {l : Launch} {G : Gl} {Y : My} {R : Room} {Nf : Nat} {α μ : Type} {ε : α → Option Value} {vw : μ → Mm} {N cells slots pc : Nat} {lv : List (Nat × Value)} {st : List Value} {M M' : μ} {t : Option (α × μ)} {c ci k n idx : Nat}
theorem s_ial {i : Int32} {x : Int32} (hd : decode Y.2.1 pc = .ok (.iaload, 1)) (hs : sh c = (20, n)) (hc : c < N) (hx : (vw M).1 c (ix i) = x) (kk : SJ l G Y R Nf ε vw N cells slots (pc + 1) lv (.int x :: st) M t) : SJ l G Y R Nf ε vw N cells slots pc lv (.int i :: aR G c :: st) M (grd (inb i n) t) := by
  subst hx
  refine s_grd (fun hi => ?_)
  intro a Mf h p e s m args below meth co H locs ls C hl hR hS
  exact va_iald (tys := tyG G) C.1 C.2.1 C.2.2.2.2.2.2.2.2.1 hR.1 c 0 (rl_arr (k := 0) hc hs rfl) rfl (inb_in hi) hd (kk a Mf h p e s m args below meth co H locs ls C hl hR hS)
theorem s_cal {i : Int32} {x : Int32} (hd : decode Y.2.1 pc = .ok (.caload, 1)) (hs : sh c = (22, n)) (hc : c < N) (hx : (vw M).1 c (ix i) = x) (kk : SJ l G Y R Nf ε vw N cells slots (pc + 1) lv (.int x :: st) M t) : SJ l G Y R Nf ε vw N cells slots pc lv (.int i :: aR G c :: st) M (grd (inb i n) t) := by
  subst hx
  refine s_grd (fun hi => ?_)
  intro a Mf h p e s m args below meth co H locs ls C hl hR hS
  exact va_cald (tys := tyG G) C.1 C.2.1 C.2.2.2.2.2.2.2.2.1 hR.1 c 2 (rl_arr (k := 2) hc hs rfl) rfl (inb_in hi) hd (kk a Mf h p e s m args below meth co H locs ls C hl hR hS)
theorem s_lal {i : Int32} {x : Int64} (hd : decode Y.2.1 pc = .ok (.laload, 1)) (hs : sh c = (21, n)) (hc : c < N) (hx : (vw M).2.1 c (ix i) = x) (kk : SJ l G Y R Nf ε vw N cells slots (pc + 1) lv (.long x :: st) M t) : SJ l G Y R Nf ε vw N cells slots pc lv (.int i :: aR G c :: st) M (grd (inb i n) t) := by
  subst hx
  refine s_grd (fun hi => ?_)
  intro a Mf h p e s m args below meth co H locs ls C hl hR hS
  exact va_lald (tys := tyG G) C.1 C.2.1 C.2.2.2.2.2.2.2.2.1 hR.1 c 1 (rl_arr (k := 1) hc hs rfl) rfl (inb_in hi) hd (kk a Mf h p e s m args below meth co H locs ls C hl hR hS)
theorem s_aal {i : Int32} {x : Nat} (hd : decode Y.2.1 pc = .ok (.aaload, 1)) (hk : Nat.ble 3 k = true ∧ Nat.blt k 6 = true) (hs : sh c = (20 + k, n)) (hc : c < N) (hx : inb i n = true → (vw M).2.2 c (ix i) = some x) (kk : SJ l G Y R Nf ε vw N cells slots (pc + 1) lv (aR G x :: st) M t) : SJ l G Y R Nf ε vw N cells slots pc lv (.int i :: aR G c :: st) M (grd (inb i n) t) := by
  refine s_grd (fun hi => ?_)
  intro a Mf h p e s m args below meth co H locs ls C hl hR hS
  have h3 : 3 ≤ k := Nat.le_of_ble_eq_true hk.1
  have h6 : k < 6 := Nat.le_of_ble_eq_true hk.2
  have hget := rl_arr (G := G) (M := vw M) (N := N) (k := k) hc hs (by rcases (show k = 3 ∨ k = 4 ∨ k = 5 by omega) with rfl | rfl | rfl <;> rfl)
  rw [aE_q h3] at hget
  have key : ∃ Cn : String, (tyG G)[k]? = some (G.2.1 k, .object Cn) := by
    rcases (show k = 3 ∨ k = 4 ∨ k = 5 by omega) with rfl | rfl | rfl
    · exact ⟨_, rfl⟩
    · exact ⟨_, rfl⟩
    · exact ⟨_, rfl⟩
  obtain ⟨Cn, hCn⟩ := key
  refine va_aldq (tys := tyG G) (C := Cn) C.1 C.2.1 C.2.2.2.2.2.2.2.2.1 hR.1 c k hget hCn (inb_in hi) hd ?_
  have e1 : (vw M).2.2 c (Int32.toNatClampNeg i) = some x := hx hi
  show W _ _ _ _ _ _ _ _ _ _ _ _ _ _ _ (F0 m (pc + 1) ls (va_rf (((vw M).2.2 c (Int32.toNatClampNeg i)).map (ad G)) :: st))
  rw [e1]
  exact kk a Mf h p e s m args below meth co H locs ls C hl hR hS
theorem s_len (hd : decode Y.2.1 pc = .ok (.arraylength, 1)) (hk : Nat.blt k 6 = true) (hs : sh c = (20 + k, n)) (hc : c < N) (kk : SJ l G Y R Nf ε vw N cells slots (pc + 1) lv (.int (nI n) :: st) M t) : SJ l G Y R Nf ε vw N cells slots pc lv (aR G c :: st) M t := by
  intro a Mf h p e s m args below meth co H locs ls C hl hR hS
  have h6 : k < 6 := Nat.le_of_ble_eq_true hk
  have hget := rl_arr (G := G) (M := vw M) (N := N) (k := k) hc hs (by rcases (show k = 0 ∨ k = 1 ∨ k = 2 ∨ k = 3 ∨ k = 4 ∨ k = 5 by omega) with rfl | rfl | rfl | rfl | rfl | rfl <;> rfl)
  have key : ∃ ty, (tyG G)[k]? = some (G.2.1 k, ty) := by
    rcases (show k = 0 ∨ k = 1 ∨ k = 2 ∨ k = 3 ∨ k = 4 ∨ k = 5 by omega) with rfl | rfl | rfl | rfl | rfl | rfl <;> exact ⟨_, rfl⟩
  obtain ⟨ty, hty⟩ := key
  exact va_alen (tys := tyG G) C.1 C.2.1 C.2.2.2.2.2.2.2.2.1 hR.1 c k hget hty rfl hd (kk a Mf h p e s m args below meth co H locs ls C hl hR hS)
theorem s_ias {i v : Int32} (hd : decode Y.2.1 pc = .ok (.iastore, 1)) (hs : sh c = (20, n)) (hM : vw M' = setI (vw M) c (ix i) v) (kk : SJ l G Y R Nf ε vw 101 cells slots (pc + 1) lv st M' t) : SJ l G Y R Nf ε vw 101 cells slots pc lv (.int v :: .int i :: aR G c :: st) M (grd (inb i n) t) := by
  refine s_grd (fun hi => ?_)
  intro a Mf h p e s m args below meth co H locs ls C hl hR hS
  refine va_iast (tys := tyG G) C.1 C.2.1 C.2.2.2.2.2.2.2.2.1 hR.1 (wl_D _ _ _) hS c 0 (rl_arr (k := 0) (ar_n (k := 0) rfl hs) hs rfl) rfl (inb_in hi) hd (fun H1 locs1 hP1 hD1 hS1 => ?_)
  rw [ad_lt (ar_k (k := 0) rfl hs), wl_set (M' := vw M') (by rw [hM, hs]; simp [cE, aE, setI, va_up_self]; rfl) (by rw [hM]; exact setI_o)] at hP1
  exact kk a Mf h p e s m args below meth co H1 locs1 ls C hl ⟨hP1, fun h => absurd h (Nat.lt_irrefl _)⟩ hS1
theorem s_cas {i v : Int32} (hd : decode Y.2.1 pc = .ok (.castore, 1)) (hs : sh c = (22, n)) (hM : vw M' = setI (vw M) c (ix i) (vp_nar .char v)) (kk : SJ l G Y R Nf ε vw 101 cells slots (pc + 1) lv st M' t) : SJ l G Y R Nf ε vw 101 cells slots pc lv (.int v :: .int i :: aR G c :: st) M (grd (inb i n) t) := by
  refine s_grd (fun hi => ?_)
  intro a Mf h p e s m args below meth co H locs ls C hl hR hS
  refine va_cast (tys := tyG G) C.1 C.2.1 C.2.2.2.2.2.2.2.2.1 hR.1 (wl_D _ _ _) hS c 2 (rl_arr (k := 2) (ar_n (k := 2) rfl hs) hs rfl) rfl (inb_in hi) hd (fun H1 locs1 hP1 hD1 hS1 => ?_)
  rw [ad_lt (ar_k (k := 2) rfl hs), wl_set (M' := vw M') (by rw [hM, hs]; simp [cE, aE, setI, va_up_self]; rfl) (by rw [hM]; exact setI_o)] at hP1
  exact kk a Mf h p e s m args below meth co H1 locs1 ls C hl ⟨hP1, fun h => absurd h (Nat.lt_irrefl _)⟩ hS1
theorem s_las {i : Int32} {v : Int64} (hd : decode Y.2.1 pc = .ok (.lastore, 1)) (hs : sh c = (21, n)) (hM : vw M' = setL (vw M) c (ix i) v) (kk : SJ l G Y R Nf ε vw 101 cells slots (pc + 1) lv st M' t) : SJ l G Y R Nf ε vw 101 cells slots pc lv (.long v :: .int i :: aR G c :: st) M (grd (inb i n) t) := by
  refine s_grd (fun hi => ?_)
  intro a Mf h p e s m args below meth co H locs ls C hl hR hS
  refine va_last (tys := tyG G) C.1 C.2.1 C.2.2.2.2.2.2.2.2.1 hR.1 (wl_D _ _ _) hS c 1 (rl_arr (k := 1) (ar_n (k := 1) rfl hs) hs rfl) rfl (inb_in hi) hd (fun H1 locs1 hP1 hD1 hS1 => ?_)
  rw [ad_lt (ar_k (k := 1) rfl hs), wl_set (M' := vw M') (by rw [hM, hs]; simp [cE, aE, setL, va_up_self]; rfl) (by rw [hM]; exact setL_o)] at hP1
  exact kk a Mf h p e s m args below meth co H1 locs1 ls C hl ⟨hP1, fun h => absurd h (Nat.lt_irrefl _)⟩ hS1
end SA
section SV
variable {l : Launch} {G : Gl} {Y Z : My} {R Rc : Room} {Nf Nc : Nat} {α γ μ : Type} {ε : α → Option Value} {εc : γ → Option Value} {vw : μ → Mm} {N cells slots pc index n c ci : Nat} {lv : List (Nat × Value)} {st st0 : List Value} {M : μ} {tc : Option (γ × μ)} {t : γ → μ → Option (α × μ)}
theorem rcv {s : State} {H : Heap} {M : Mm} {C : String} {T : u_T} {nf : Nat} (hE : En G s) (hR : Rl G M N H) (hc : c < N) (hs : (sh c).1 = ci) (hci : Nat.blt ci 20 = true) (hk : kcl[ci]? = some (C, T, nf)) : ∃ cell : Cell, H[ad G c]? = some cell ∧ cell.vm.isStatics = false ∧ s.vm.findClass C = some cell.cls :=
  va_recv hE.1 hR.1 hk (rl_obj hc hs hci)
/-- invokevirtual of a method that the receiver's own class declares, by that class's name -/
theorem s_invV {C : String} {T : u_T} {nf : Nat} (hd : decode Y.2.1 pc = .ok (.invokevirtual index, 3)) (hZ : okY Z n) (hR : okR R Rc Z = true) (hlk : Cond.methodLink Y.1.cls index Z.1 ∈ wG) (hin : Cond.instanceMethod Z.1 ∈ wG) (hse : Cond.selects C Z.1 Z.1 ∈ wG) (hk : kcl[ci]? = some (C, T, nf)) (hci : Nat.blt ci 20 = true) (hs : (sh c).1 = ci) (hc : c < N) (vs : List Value) (hn : vs.length = n) (hl : Nat.ble (lg_sl (aR G c :: vs)).length Z.2.2.1 = true) (hst : st0 = vs.reverse ++ aR G c :: st) (hcat : Nat.ble (st.map fun v => v.category).sum 8 = true) (hrm : Nat.ble (cells + Rc.cells) R.cells = true ∧ Nat.ble (slots + Rc.slots) R.slots = true)
    (kc : SJ l G Z Rc Nc εc vw N 0 0 0 (lv_args 0 (aR G c :: vs)) [] M tc) (k : ∀ a M', SJ l G Y R Nf ε vw Nc (cells + Rc.cells) (slots + Rc.slots) (pc + 3) lv ((εc a).toList ++ st) M' (t a M')) : SJ l G Y R Nf ε vw N cells slots pc lv st0 M (bnd tc t) := by
  intro a Mf h p e s m args below meth co H locs ls C hlv hRl hS
  obtain ⟨a1, M1, h1, h2⟩ := bnd_some h
  obtain ⟨hx, hb, hml, hr, ho, hw, hlk2, hnm, hE⟩ := id C
  subst hst
  exact w_run (va_runV (As := vs) (rest := st) (n := n) ⟨hx, hb, hml, ho, hw⟩ (met_of (aR G c :: vs) hZ.2.2.1 (Nat.le_of_ble_eq_true hl) kc h1) ⟨call_B hw hZ hR hlk, hw _ hin, hw _ hse⟩ ⟨pre_blind, rcv hE hRl hc hs hci hk, pre_at hE hRl hS⟩ rfl hn hlv.1 rfl (lv_room (Nat.le_of_ble_eq_true hcat)) hd ⟨Nat.le_of_ble_eq_true hrm.1, Nat.le_of_ble_eq_true hrm.2⟩) hS
    (fun H1 locs1 hR1 hS1 => k a1 M1 a Mf h2 p e s m args below meth co H1 locs1 ls C hlv hR1 hS1)
/-- invokespecial of a constructor -/
theorem s_invI (hd : decode Y.2.1 pc = .ok (.invokespecial index, 3)) (hZ : okY Z n) (hR : okR R Rc Z = true) (hlk : Cond.methodLink Y.1.cls index Z.1 ∈ wG) (hin : Cond.instanceMethod Z.1 ∈ wG) (hinit : Z.1.name = "<init>") (hret : Z.2.2.2 = none) (vs : List Value) (hn : vs.length = n) (hl : Nat.ble (lg_sl (aR G c :: vs)).length Z.2.2.1 = true) (hst : st0 = vs.reverse ++ aR G c :: st) (hcat : Nat.ble (st.map fun v => v.category).sum 8 = true) (hrm : Nat.ble (cells + Rc.cells) R.cells = true ∧ Nat.ble (slots + Rc.slots) R.slots = true)
    (kc : SJ l G Z Rc Nc εc vw N 0 0 0 (lv_args 0 (aR G c :: vs)) [] M tc) (k : ∀ a M', SJ l G Y R Nf ε vw Nc (cells + Rc.cells) (slots + Rc.slots) (pc + 3) lv ((εc a).toList ++ st) M' (t a M')) : SJ l G Y R Nf ε vw N cells slots pc lv st0 M (bnd tc t) := by
  intro a Mf h p e s m args below meth co H locs ls C hlv hRl hS
  obtain ⟨a1, M1, h1, h2⟩ := bnd_some h
  obtain ⟨hx, hb, hml, hr, ho, hw, hlk2, hnm, hE⟩ := id C
  subst hst
  have hB := call_B (R := R) (Rc := Rc) hw hZ hR hlk
  rw [hret] at hB
  exact w_run (va_runI (As := vs) (rest := st) (n := n) ⟨hx, hb, hml, ho, hw⟩ (met_of (aR G c :: vs) hZ.2.2.1 (Nat.le_of_ble_eq_true hl) kc h1) ⟨hB, hinit, hw _ hin⟩ ⟨pre_blind, pre_at hE hRl hS⟩ rfl hn hlv.1 rfl (lv_room (Nat.le_of_ble_eq_true hcat)) hd ⟨Nat.le_of_ble_eq_true hrm.1, Nat.le_of_ble_eq_true hrm.2⟩) hS
    (fun H1 locs1 hR1 hS1 => k a1 M1 a Mf h2 p e s m args below meth co H1 locs1 ls C hlv hR1 hS1)
/-- invokestatic of a nest mate's private method -/
theorem s_invSN (hown : Y.1.cls = RX5) (hidx : index = 66) (hZy : Z.1 = yX11_bitOf) (hd : decode Y.2.1 pc = .ok (.invokestatic index, 3)) (hZ : okY Z n) (hR : okR R Rc Z = true) (hsx : Cond.static Z.1 ∈ wG) (vs : List Value) (hn : vs.length = n) (hl : Nat.ble (lg_sl vs).length Z.2.2.1 = true) (hst : st0 = vs.reverse ++ st) (hcat : Nat.ble (st.map fun v => v.category).sum 8 = true) (hrm : Nat.ble (cells + Rc.cells) R.cells = true ∧ Nat.ble (slots + Rc.slots) R.slots = true)
    (kc : SJ l G Z Rc Nc εc vw N 0 0 0 (lv_args 0 vs) [] M tc) (k : ∀ a M', SJ l G Y R Nf ε vw Nc (cells + Rc.cells) (slots + Rc.slots) (pc + 3) lv ((εc a).toList ++ st) M' (t a M')) : SJ l G Y R Nf ε vw N cells slots pc lv st0 M (bnd tc t) := by
  intro a Mf h p e s m args below meth co H locs ls C hlv hRl hS
  obtain ⟨a1, M1, h1, h2⟩ := bnd_some h
  obtain ⟨hx, hb, hml, hr, ho, hw, hlk2, hnm, hE⟩ := id C
  subst hst
  have hN : va_Nw (.methodLinkNest Y.1.cls index Z.1 RX11) s := by
    rw [hown, hidx, hZy]; exact hE.2.2.2.2.2.2.2
  obtain ⟨z1, z2, z3, z4, z5⟩ := id hZ
  have hB : va_CN R s args Y.1.cls index Z.1 RX11 Z.2.1 Z.2.2.1 Z.2.2.2 (wsY Z) Rc Rc.cells Rc.slots n := va_cnB (Ts := wG) (ws' := wG) n hw (fun w hw => by
    rcases List.mem_cons.mp hw with rfl | hw
    · exact ⟨z1, (wG_good _ z1).2⟩
    · exact wG_good _ hw) rfl rfl rfl hN (hw _ z2) ⟨z4.1, z4.2, z5⟩ (okR_1 hR)
  exact w_run (va_runSN (As := vs) (rest := st) (n := n) ⟨hx, hb, hml, ho, hw⟩ (met_of vs hZ.2.2.1 (Nat.le_of_ble_eq_true hl) kc h1) ⟨hB, hw _ hsx, trivial⟩ ⟨pre_blind, pre_at hE hRl hS⟩ rfl hn hlv.1 rfl (lv_room (Nat.le_of_ble_eq_true hcat)) hd ⟨Nat.le_of_ble_eq_true hrm.1, Nat.le_of_ble_eq_true hrm.2⟩) hS
    (fun H1 locs1 hR1 hS1 => k a1 M1 a Mf h2 p e s m args below meth co H1 locs1 ls C hlv hR1 hS1)
/-- invokespecial of the class above's method -/
theorem s_invSU {C : String} {T : u_T} {nf : Nat} (hd : decode Y.2.1 pc = .ok (.invokespecial index, 3)) (hZ : okY Z n) (hR : okR R Rc Z = true) (hlk : Cond.methodLink Y.1.cls index Z.1 ∈ wG) (hin : Cond.instanceMethod Z.1 ∈ wG) (hsm : Cond.sameMethod Z.1.cls Z.1.cls Z.1.name Z.1.desc ∈ wG) (hsu : Cond.superclass Y.1.cls Z.1.cls ∈ wG) (hni : Z.1.name ≠ "<init>") (hk : kcl[ci]? = some (C, T, nf)) (hci : Nat.blt ci 20 = true) (hs : (sh c).1 = ci) (hc : c < N) (vs : List Value) (hn : vs.length = n) (hl : Nat.ble (lg_sl (aR G c :: vs)).length Z.2.2.1 = true) (hst : st0 = vs.reverse ++ aR G c :: st) (hcat : Nat.ble (st.map fun v => v.category).sum 8 = true) (hrm : Nat.ble (cells + Rc.cells) R.cells = true ∧ Nat.ble (slots + Rc.slots) R.slots = true)
    (kc : SJ l G Z Rc Nc εc vw N 0 0 0 (lv_args 0 (aR G c :: vs)) [] M tc) (k : ∀ a M', SJ l G Y R Nf ε vw Nc (cells + Rc.cells) (slots + Rc.slots) (pc + 3) lv ((εc a).toList ++ st) M' (t a M')) : SJ l G Y R Nf ε vw N cells slots pc lv st0 M (bnd tc t) := by
  intro a Mf h p e s m args below meth co H locs ls C hlv hRl hS
  obtain ⟨a1, M1, h1, h2⟩ := bnd_some h
  obtain ⟨hx, hb, hml, hr, ho, hw, hlk2, hnm, hE⟩ := id C
  subst hst
  obtain ⟨z1, z2, z3, z4, z5⟩ := id hZ
  have hat := (hE.1.1 ci _ hk).2
  have hr1 := okR_1 hR
  have hB := call_B (R := R) (Rc := Rc) hw hZ hR hlk
  have hB2 : va_CS R s args Y.1.cls index Z.1 Z.2.1 Z.2.2.1 Z.2.2.2 (wsY Z) Rc Rc.cells Rc.slots n := ⟨⟨hB.1, hB.2.1, hB.2.2.1, hB.2.2.2.1, hB.2.2.2.2.1, hB.2.2.2.2.2.1⟩, hw _ hlk, hw _ hsm, hw _ hsu, hw _ hin, hw _ z2, hB.2.2.2.2.2.2.1, hni, hB.2.2.2.2.2.2.2.2.2.1⟩
  exact w_run (va_runSU hat (As := vs) (rest := st) (n := n) ⟨hx, hb, hml, ho, hw⟩ (met_of (aR G c :: vs) hZ.2.2.1 (Nat.le_of_ble_eq_true hl) kc h1) hB2 ⟨pre_blind, rcv hE hRl hc hs hci hk, pre_at hE hRl hS⟩ rfl hn hlv.1 rfl (lv_room (Nat.le_of_ble_eq_true hcat)) hd ⟨Nat.le_of_ble_eq_true hrm.1, Nat.le_of_ble_eq_true hrm.2⟩) hS
    (fun H1 locs1 hR1 hS1 => k a1 M1 a Mf h2 p e s m args below meth co H1 locs1 ls C hlv hR1 hS1)
/-- invokevirtual that comes to a method of another class: x is the link's, y what the receiver's class C has (owner: where x stands) -/
theorem s_invU {C owner : String} {x : MethodName} {T : u_T} {nf : Nat} (hd : decode Y.2.1 pc = .ok (.invokevirtual index, 3)) (hZ : okY Z n) (hR : okR R Rc Z = true) (hlk : Cond.methodLink Y.1.cls index x ∈ wG) (hsm : Cond.sameMethod x.cls owner x.name x.desc ∈ wG) (hio : Cond.instanceMethod ⟨owner, x.name, x.desc⟩ ∈ wG) (hco : ∃ b mx rt, Cond.code ⟨owner, x.name, x.desc⟩ b mx rt ∈ wG) (hmh : owner ≠ "java/lang/invoke/MethodHandle" ∧ owner ≠ "java/lang/invoke/VarHandle") (hpd : (parseMethodDescriptor x.desc).map (fun d => d.parameters.length) = some n) (hse : Cond.selects C x Z.1 ∈ wG) (hin : Cond.instanceMethod Z.1 ∈ wG) (hk : kcl[ci]? = some (C, T, nf)) (hci : Nat.blt ci 20 = true) (hs : (sh c).1 = ci) (hc : c < N) (vs : List Value) (hn : vs.length = n) (hl : Nat.ble (lg_sl (aR G c :: vs)).length Z.2.2.1 = true) (hst : st0 = vs.reverse ++ aR G c :: st) (hcat : Nat.ble (st.map fun v => v.category).sum 8 = true) (hrm : Nat.ble (cells + Rc.cells) R.cells = true ∧ Nat.ble (slots + Rc.slots) R.slots = true)
    (kc : SJ l G Z Rc Nc εc vw N 0 0 0 (lv_args 0 (aR G c :: vs)) [] M tc) (k : ∀ a M', SJ l G Y R Nf ε vw Nc (cells + Rc.cells) (slots + Rc.slots) (pc + 3) lv ((εc a).toList ++ st) M' (t a M')) : SJ l G Y R Nf ε vw N cells slots pc lv st0 M (bnd tc t) := by
  intro a Mf h p e s m args below meth co H locs ls C hlv hRl hS
  obtain ⟨a1, M1, h1, h2⟩ := bnd_some h
  obtain ⟨hx, hb, hml, hr, ho, hw, hlk2, hnm, hE⟩ := id C
  subst hst
  obtain ⟨z1, z2, z3, z4, z5⟩ := id hZ
  obtain ⟨b9, mx9, rt9, hco⟩ := hco
  have hr1 := okR_1 hR
  have hpay : ∀ w ∈ wsY Z, ∀ (a' : Array Value) (U : State), s.WarmedH U.vm → w.before a' U = true := pay_in hw (fun w hw => by
    rcases List.mem_cons.mp hw with rfl | hw
    · exact ⟨z1, (wG_good _ z1).2⟩
    · exact wG_good _ hw)
  have hlen : ∀ sig, parseMethodDescriptor x.desc = some sig → n = sig.parameters.length := fun sig hs => by
    rw [hs] at hpd
    exact (Option.some.inj hpd).symm
  exact w_run (va_runU (owner := owner) (x := x) (As := vs) (rest := st) (n := n) ⟨hx, hb, hml, ho, hw⟩ (met_of (aR G c :: vs) hZ.2.2.1 (Nat.le_of_ble_eq_true hl) kc h1) ⟨⟨rfl, rfl, hr1.1, hr1.2, hpay, List.mem_cons_self⟩, hw _ z1, hw _ z2, hmh, hlen, hw _ hlk, hw _ hsm, va_Decl.of (hw _ hio) (hw _ hco), hw _ hse, hw _ hin⟩ ⟨pre_blind, rcv hE hRl hc hs hci hk, pre_at hE hRl hS⟩ rfl hn hlv.1 rfl (lv_room (Nat.le_of_ble_eq_true hcat)) hd ⟨Nat.le_of_ble_eq_true hrm.1, Nat.le_of_ble_eq_true hrm.2⟩) hS
    (fun H1 locs1 hR1 hS1 => k a1 M1 a Mf h2 p e s m args below meth co H1 locs1 ls C hlv hR1 hS1)
end SV
