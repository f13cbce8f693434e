/-! making, as steps of a method -/
abbrev vI : Mm → Mm := fun M => M
section SK
variable {l : Launch} {G : Gl} {Y Z : My} {R Rc : Room} {Nf Nc : Nat} {α γ μ : Type} {ε : α → Option Value} {εc : γ → Option Value} {vw : μ → Mm} {N cells slots pc k n ci nf idx : Nat} {lv : List (Nat × Value)} {st st0 : List Value} {M : Mm} {t : Option (α × Mm)}
theorem s_new (hd : decode Y.2.1 pc = .ok (.new idx, 3)) (hk : okN ci nf) (hcl : ∀ Cn, (kcl[ci]?).map (fun q => q.1) = some Cn → Cond.classLink Y.1.cls idx Cn ∈ wG) (hs : (sh N).1 = ci) (hci : Nat.blt ci 20 = true) (hN : N < 101) (hD : Dz N M) (hrm : Nat.ble (cells + 1) R.cells = true ∧ Nat.ble (slots + nf) R.slots = true) (kk : SJ l G Y R Nf ε vI (N + 1) (cells + 1) (slots + nf) (pc + 3) lv (aR G N :: st) M t) : SJ l G Y R Nf ε vI N cells slots pc lv st M t := by
  intro a Mf h p e s m args below meth c H locs ls C hlv hR hS
  exact w_new C hR hS hD hN hd hk hcl hs hci hrm (fun H1 h1 h2 => kk a Mf h p e s m args below meth c H1 locs ls C hlv h1 h2)
theorem s_newI {v : Int32} (hd : decode Y.2.1 pc = .ok (.newarray .int, 2)) (harr : Cond.arrayClass .int ∈ wG) (hv : v = nI n) (hn : n < 1000) (hs : sh N = (20, n)) (hN : N < 101) (hD : Dz N M) (hrm : Nat.ble (cells + 1) R.cells = true ∧ Nat.ble (slots + n) R.slots = true) (kk : SJ l G Y R Nf ε vI (N + 1) (cells + 1) (slots + n) (pc + 2) lv (aR G N :: st) M t) : SJ l G Y R Nf ε vI N cells slots pc lv (.int v :: st) M t := by
  intro a Mf h p e s m args below meth c H locs ls C hlv hR hS
  have hf : M.1 N = fun _ => 0 := funext fun j => (hD N j (Nat.le_refl _)).1
  exact w_newa (k := 0) (a0 := .inl (fun _ => 0)) C hR hS hN hd hv hn (by show n * 4 ≤ _; omega) harr (C.2.2.2.2.2.2.2.2.1.2 0 _ rfl).2 (by rw [hs]; show aE G M N 0 n = _; rw [aE_i, hf]) rfl hrm (fun H1 h1 h2 => kk a Mf h p e s m args below meth c H1 locs ls C hlv h1 h2)
theorem s_newL {v : Int32} (hd : decode Y.2.1 pc = .ok (.newarray .long, 2)) (harr : Cond.arrayClass .long ∈ wG) (hv : v = nI n) (hn : n < 1000) (hs : sh N = (21, n)) (hN : N < 101) (hD : Dz N M) (hrm : Nat.ble (cells + 1) R.cells = true ∧ Nat.ble (slots + n) R.slots = true) (kk : SJ l G Y R Nf ε vI (N + 1) (cells + 1) (slots + n) (pc + 2) lv (aR G N :: st) M t) : SJ l G Y R Nf ε vI N cells slots pc lv (.int v :: st) M t := by
  intro a Mf h p e s m args below meth c H locs ls C hlv hR hS
  have hf : M.2.1 N = fun _ => 0 := funext fun j => (hD N j (Nat.le_refl _)).2.1
  exact w_newa (k := 1) (a0 := .inr (.inl (fun _ => 0))) C hR hS hN hd hv hn (by show n * 8 ≤ _; omega) harr (C.2.2.2.2.2.2.2.2.1.2 1 _ rfl).2 (by rw [hs]; show aE G M N 1 n = _; rw [aE_l, hf]) rfl hrm (fun H1 h1 h2 => kk a Mf h p e s m args below meth c H1 locs ls C hlv h1 h2)
theorem s_newC {v : Int32} (hd : decode Y.2.1 pc = .ok (.newarray .char, 2)) (harr : Cond.arrayClass .char ∈ wG) (hv : v = nI n) (hn : n < 1000) (hs : sh N = (22, n)) (hN : N < 101) (hD : Dz N M) (hrm : Nat.ble (cells + 1) R.cells = true ∧ Nat.ble (slots + n) R.slots = true) (kk : SJ l G Y R Nf ε vI (N + 1) (cells + 1) (slots + n) (pc + 2) lv (aR G N :: st) M t) : SJ l G Y R Nf ε vI N cells slots pc lv (.int v :: st) M t := by
  intro a Mf h p e s m args below meth c H locs ls C hlv hR hS
  have hf : M.1 N = fun _ => 0 := funext fun j => (hD N j (Nat.le_refl _)).1
  exact w_newa (k := 2) (a0 := .inl (fun _ => 0)) C hR hS hN hd hv hn (by show n * 2 ≤ _; omega) harr (C.2.2.2.2.2.2.2.2.1.2 2 _ rfl).2 (by rw [hs]; show aE G M N 2 n = _; rw [aE_c, hf]) rfl hrm (fun H1 h1 h2 => kk a Mf h p e s m args below meth c H1 locs ls C hlv h1 h2)
theorem s_anew {Cn : String} {v : Int32} (hd : decode Y.2.1 pc = .ok (.anewarray idx, 3)) (hcl : Cond.classLink Y.1.cls idx Cn ∈ wG) (hCn : Cn ∈ [RX2, RX3, RX9]) (h3 : 3 ≤ k) (hty : (tyG G)[k]? = some (G.2.1 k, .object Cn)) (hv : v = nI n) (hn : n < 1000) (hs : sh N = (20 + k, n)) (hN : N < 101) (hD : Dz N M) (hrm : Nat.ble (cells + 1) R.cells = true ∧ Nat.ble (slots + n) R.slots = true) (kk : SJ l G Y R Nf ε vI (N + 1) (cells + 1) (slots + n) (pc + 3) lv (aR G N :: st) M t) : SJ l G Y R Nf ε vI N cells slots pc lv (.int v :: st) M t := by
  intro a Mf h p e s m args below meth c H locs ls C hlv hR hS
  exact w_anew C hR hS hD hN hd hv hn hcl hCn h3 hty hs hrm (fun H1 h1 h2 => kk a Mf h p e s m args below meth c H1 locs ls C hlv h1 h2)
theorem s_aas {cc x i : Nat} {v : Int32} {E : String} {r : vw_C} (hd : decode Y.2.1 pc = .ok (.aastore, 1)) (h3 : 3 ≤ k) (h6 : k < 6) (hty : (tyG G)[k]? = some (G.2.1 k, .object E)) (hs : sh cc = (20 + k, n)) (hc : cc < N) (hxN : x < N) (hsx : (sh x).1 = ci) (hci : Nat.blt ci 20 = true) (hk : kcl[ci]? = some r) (hv : v = nI i) (hi : i < n) (hn : n < 1000) (hcast : r.1 = E ∨ (E = RX3 ∧ r.1 ∈ [RX7, RX0, RX8, RX4, RX6])) (kk : SJ l G Y R Nf ε vI N cells slots (pc + 1) lv st (setR M cc i (some x)) t) : SJ l G Y R Nf ε vI N cells slots pc lv (aR G x :: .int v :: aR G cc :: st) M t := by
  intro a Mf h p e s m args below meth c H locs ls C hlv hR hS
  exact w_aas C hR hS hd h3 h6 hty hs hc hxN hsx hci hk hv hi hn (by
    rcases hcast with q | ⟨q1, q2⟩
    · exact Or.inl q
    · rw [q1]
      exact Or.inr (C.2.2.2.2.2.2.2.2.2.2.2.2.2.2.1 _ q2)) (fun H1 locs1 h1 h2 => kk a Mf h p e s m args below meth c H1 locs1 ls C hlv h1 h2)
theorem s_obj {o : Nat} (hd : decode Y.2.1 pc = .ok (.invokespecial idx, 3)) (hlk : Cond.methodLink Y.1.cls idx Lib.objectInit ∈ wG) (hin : Cond.instanceMethod Lib.objectInit ∈ wG) (hco : Cond.code Lib.objectInit ⟨#[0xb1]⟩ 1 none ∈ wG) (hfr : Nat.ble 1 R.frames = true) (hlo : Nat.ble ((st.map fun v => v.category).sum + 12) R.locals = true) (kk : SJ l G Y R Nf ε vI N cells slots (pc + 3) lv st M t) : SJ l G Y R Nf ε vI N cells slots pc lv (aR G o :: st) M t := by
  intro a Mf h p e s m args below meth c H locs ls C hlv hR hS
  obtain ⟨hx, hb, hml, hr, ho, hw, hlk2, hnm, hE⟩ := id C
  refine W.objInit hx hb ho (hw _ hlk) (hw _ hin) (hw _ hco) rfl (by rw [hml]; exact hlv.1) rfl hd (Nat.le_of_ble_eq_true hfr) ?_ (kk a Mf h p e s m args below meth c H locs ls C hlv hR hS)
  have := Nat.le_of_ble_eq_true hlo
  show 2 * 0 + _ + 12 ≤ _
  omega
/-- invokespecial of a constructor whose end is known -/
theorem s_invI2 {c : Nat} {M1 : Mm} {M : Mm} {u : γ} (hd : decode Y.2.1 pc = .ok (.invokespecial idx, 3)) (hZ : okY Z n) (hR : okR R Rc Z = true) (hlk : Cond.methodLink Y.1.cls idx Z.1 ∈ wG) (hin : Cond.instanceMethod Z.1 ∈ wG) (hinit : Z.1.name = "<init>") (hret : Z.2.2.2 = none) (vs : List Value) (hn : vs.length = n) (hl : Nat.ble (lg_sl (aR G c :: vs)).length Z.2.2.1 = true) (hst : st0 = vs.reverse ++ aR G c :: st) (hcat : Nat.ble (st.map fun v => v.category).sum 8 = true) (hrm : Nat.ble (cells + Rc.cells) R.cells = true ∧ Nat.ble (slots + Rc.slots) R.slots = true)
    (kc : SJ l G Z Rc Nc εc vI N 0 0 0 (lv_args 0 (aR G c :: vs)) [] M (some (u, M1))) (kk : SJ l G Y R Nf ε vI Nc (cells + Rc.cells) (slots + Rc.slots) (pc + 3) lv ((εc u).toList ++ st) M1 t) : SJ l G Y R Nf ε vI N cells slots pc lv st0 M t := by
  intro a Mf h p e s m args below meth co H locs ls C hlv hRl hS
  obtain ⟨hx, hb, hml, hr, ho, hw, hlk2, hnm, hE⟩ := id C
  subst hst
  have hB := call_B (R := R) (Rc := Rc) hw hZ hR hlk
  rw [hret] at hB
  exact w_run (va_runI (As := vs) (rest := st) (n := n) ⟨hx, hb, hml, ho, hw⟩ (met_of (aR G c :: vs) hZ.2.2.1 (Nat.le_of_ble_eq_true hl) kc rfl) ⟨hB, hinit, hw _ hin⟩ ⟨pre_blind, pre_at hE hRl hS⟩ rfl hn hlv.1 rfl (lv_room (Nat.le_of_ble_eq_true hcat)) hd ⟨Nat.le_of_ble_eq_true hrm.1, Nat.le_of_ble_eq_true hrm.2⟩) hS
    (fun H1 locs1 hR1 hS1 => kk a Mf h p e s m args below meth co H1 locs1 ls C hlv hR1 hS1)
theorem s_geY {x y : Int32} {off : Int} {tgt : Nat} (hd : decode Y.2.1 pc = .ok (.if_icmp .ge off, 3)) (ht : (pc : Int) + off = (tgt : Int)) (h : y ≤ x) (kk : SJ l G Y R Nf ε vI N cells slots tgt lv st M t) : SJ l G Y R Nf ε vI N cells slots pc lv (.int y :: .int x :: st) M t := by
  have := s_icmp_ge (l := l) (G := G) (Y := Y) (R := R) (Nf := Nf) (ε := ε) (vw := vI) (N := N) (cells := cells) (slots := slots) (lv := lv) (st := st) (M := M) (t1 := t) (t2 := t) (x := x) (y := y) hd ht (fun _ => kk) (fun q => absurd h q)
  rw [ite_self] at this
  exact this
theorem s_geN {x y : Int32} {off : Int} {tgt : Nat} (hd : decode Y.2.1 pc = .ok (.if_icmp .ge off, 3)) (ht : (pc : Int) + off = (tgt : Int)) (h : ¬ y ≤ x) (kk : SJ l G Y R Nf ε vI N cells slots (pc + 3) lv st M t) : SJ l G Y R Nf ε vI N cells slots pc lv (.int y :: .int x :: st) M t := by
  have := s_icmp_ge (l := l) (G := G) (Y := Y) (R := R) (Nf := Nf) (ε := ε) (vw := vI) (N := N) (cells := cells) (slots := slots) (lv := lv) (st := st) (M := M) (t1 := t) (t2 := t) (x := x) (y := y) hd ht (fun q => absurd q h) (fun _ => kk)
  rw [ite_self] at this
  exact this
end SK
