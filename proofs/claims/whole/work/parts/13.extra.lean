/-! kinds' fields; super calls that come higher up; texts; array copies -/
theorem isK_6 {k : Nat} (h : isK k) : (sh k).1 = 1 ∨ (sh k).1 = 2 ∨ (sh k).1 = 3 ∨ (sh k).1 = 4 ∨ (sh k).1 = 5 ∨ (sh k).1 = 6 := by
  obtain ⟨h1, h2⟩ := h
  omega
theorem isK_str {k : Nat} (h : isK k) : (sh k).1 - 1 < 14 := by
  obtain ⟨h1, h2⟩ := h
  omega
section XK
variable {l : Launch} {G : Gl} {Y : My} {R : Room} {α : Type} {ε : α → Option Value} {pc : Nat} {lv : List (Nat × Value)} {st : List Value} {M : Nm} {t : Option (α × Nm)} {c idx : Nat}
theorem n_getNum (hd : decode Y.2.1 pc = .ok (.getfield idx, 3)) (hF : ∀ ci, 1 ≤ ci → ci ≤ 6 → okF Y.1.cls idx ci 0) (h : isK c) (kk : NJ l G Y R ε (pc + 3) lv (.int (M.1 c 0) :: st) M t) : NJ l G Y R ε pc lv (aR G c :: st) M t :=
  s_getI hd (hF _ h.1 h.2) (by rcases isK_6 h with e | e | e | e | e | e <;> rw [e] <;> rfl) (isK_blt h) rfl (isK_n h) rfl kk
theorem n_getWord (hd : decode Y.2.1 pc = .ok (.getfield idx, 3)) (hF : ∀ ci, 1 ≤ ci → ci ≤ 6 → okF Y.1.cls idx ci 1) (h : isK c) (kk : NJ l G Y R ε (pc + 3) lv (aR G (1000 + ((sh c).1 - 1)) :: st) M t) : NJ l G Y R ε pc lv (aR G c :: st) M t :=
  s_getR hd (hF _ h.1 h.2) (by rcases isK_6 h with e | e | e | e | e | e <;> rw [e] <;> rfl) (isK_blt h) rfl (isK_n h) (r_word h) kk
end XK
section XU
variable {p : Program} {l : Launch} {e : Env} {R : Room} {s : State} {m : MethodId} {args : Array Value} {below : List Frame} {meth : Method} {c : Code}
/-- super.m() where the class above inherits m from the one above it -/
theorem w_callSU2 {T : State} {locs : List Loc} {cells slots : Nat} (X : Stand p l e R s m args below meth c T locs cells slots) (hexec : p.tables.exec = Jvm.exec) {own : String} {index : Nat} {x y : MethodName} {bytes : ByteArray} {maxL : Nat} {ret : Option FieldType}
    (hown : s.vm.findClass own = some m.cls) (hlink : (Cond.methodLink own index x).before args s = true) (hsame : (Cond.sameMethod x.cls y.cls x.name x.desc).before args s = true) (hsup : (Cond.superclass own x.cls).before args s = true) (hsup2 : (Cond.superclass x.cls y.cls).before args s = true) (hxn : x.name = y.name) (hxd : x.desc = y.desc)
    (hinst : (Cond.instanceMethod y).before args s = true) (hcode : (Cond.code y bytes maxL ret).before args s = true) (hno : y.name ≠ "<init>")
    {W : Nat} {Pre : Pt → Array Value → Prop} {Post : Pt → Array Value → Option Value → Pt → Prop} (hK : Back l R p e below s args y 3 W Pre Post)
    {b : Addr} {cellB : Cell} {kB : Class} (hcell : T.heap[b]? = some cellB) (hobj : cellB.vm.isStatics = false) (hkB : s.vm.classes[cellB.cls]? = some kB)
    {g : JFrame} (hg : g.method = m) (hsize : g.locals.size = c.maxLocals) {argsL rest : List Value} (hlen : ∀ sig, parseMethodDescriptor y.desc = some sig → argsL.length = sig.parameters.length)
    (hstack : g.stack = argsL.reverse ++ .ref b :: rest) (hW : 2 * g.monitorRoom + (rest.map fun v => v.category).sum ≤ W) (hdg : decode c.code g.pc = .ok (.invokespecial index, 3))
    (hpre : ∀ vm₁, s.WarmedH vm₁ → Pre ⟨T.setVm vm₁, locs, cells, slots⟩ (Value.ref b :: argsL).toArray) :
    ∃ (v : Option Value) (vm₁ : Vm) (B : Pt), s.WarmedH vm₁ ∧ Stand p l e R s m args below meth c B.U B.locs B.cells B.slots ∧ Post ⟨T.setVm vm₁, locs, cells, slots⟩ (Value.ref b :: argsL).toArray v B ∧
      ∀ target, Steps p.tables e below (B.U.setTop { g with pc := g.pc + 3, stack := v.toList ++ rest }) target → Steps p.tables e below (T.setTop g) target := by
  obtain ⟨mk, methM, hnamed, hmethM, hstM, habM⟩ := Cond.instanceMethod_spec hinst
  obtain ⟨methM', cM, hmethM', -, -, -, -, -, -, hsigM⟩ := Cond.code_spec hnamed hcode
  cases hmethM.symm.trans hmethM'
  obtain ⟨ps, dk, kp, hps, hdk, hkp, hsuper, -, -, hnid⟩ := Cond.superclass_spec hown hsup
  obtain ⟨ps2, dk2, kp2, hps2, hdk2, hkp2, hsuper2, -, -, -⟩ := Cond.superclass_spec hps hsup2
  have hn : s.methodNamed? ⟨y.cls, x.name, x.desc⟩ = some mk := by rw [hxn, hxd]; exact hnamed
  have hpm : ps2 = mk.cls := Option.some.inj (hps2.symm.trans (findClass_of_methodNamed hnamed))
  have hsub : s.vm.isSubclass ps mk.cls = true := by
    have hz : 0 < s.vm.classes.size := Nat.lt_of_le_of_lt (Nat.zero_le _) (Array.getElem?_eq_some_iff.mp hdk2).1
    obtain ⟨n, hn'⟩ : ∃ n, s.vm.classes.size = n + 1 := ⟨s.vm.classes.size - 1, by omega⟩
    rw [← hpm]
    simp [Vm.isSubclass, hn', Vm.isSubclassAux, hdk2, hsuper2]
  obtain ⟨vm₁, X₁, hstep₁⟩ := X.invokespecialUp hexec hown hlink hsame hn hmethM hstM habM (by rw [hxn]; exact hno) hdk hnid hps hsuper hsub (a := b) (cell := cellB) hcell
    (fun z h => by rw [h] at hobj; cases hobj) hkB (g := g) hg (argsL := argsL) (rest := rest) (hlen _ hsigM) hstack hdg
  obtain ⟨v, B, X', hpost, hsteps⟩ := hK m meth c ⟨T.setVm vm₁, locs, cells, slots⟩ { g with stack := rest } (.invokespecial index) mk (Value.ref b :: argsL).toArray X₁ hg hsize hdg hW (X₁.named hnamed) (hpre vm₁ X₁.warmed)
  exact ⟨v, vm₁, B, X₁.warmed, X', hpost, fun target h => hstep₁ _ (by rw [doInvoke_state]; exact hsteps.trans h)⟩
variable {H : Heap} {locs : List Loc} {cells slots : Nat}
theorem w_runSU2 {x y : MethodName} {bytes cc : ByteArray} {maxL nL mc ms n index : Nat} {ret : Option FieldType} {ws : List Cond} {rm : Room} {Pc : Array Value → State → Prop} {Qc : Array Value → State → Outcome → State → Prop} {free : Addr → Prop} {Ts : List Cond} {own C : String} {cC : ClassId} {b : Addr} {As rest : List Value} {g : JFrame}
    (hat : ClassAt s C cC) (S : CallFix p m c cc nL s args Ts own) (hM : Met l y ws rm Pc Qc mc ms free) (hbk : rm.cells = mc ∧ rm.slots = ms ∧ rm.frames + 1 ≤ R.frames ∧ 8 + (maxL + 11) + rm.locals ≤ R.locals ∧ (∀ w ∈ ws, ∀ (a' : Array Value) (U : State), s.WarmedH U.vm → w.before a' U = true) ∧ Cond.code y bytes maxL ret ∈ ws)
    (hl1 : (Cond.methodLink own index x).before args s = true) (hl2 : (Cond.sameMethod x.cls y.cls x.name x.desc).before args s = true) (hl3 : (Cond.superclass own x.cls).before args s = true) (hl3b : (Cond.superclass x.cls y.cls).before args s = true) (hxn : x.name = y.name) (hxd : x.desc = y.desc) (hl4 : (Cond.instanceMethod y).before args s = true) (hini : (Cond.initialized y.cls).before args s = true) (hcode : (Cond.code y bytes maxL ret).before args s = true) (hno : y.name ≠ "<init>") (hlen : ∀ sig, parseMethodDescriptor y.desc = some sig → n = sig.parameters.length) (hp : PreV s H C b Pc As)
    (hg : g.method = m) (hn : As.length = n) (hsize : g.locals.size = nL) (hstack : g.stack = As.reverse ++ .ref b :: rest) (hW : 2 * g.monitorRoom + (rest.map fun v => v.category).sum ≤ 8) (hdg : decode cc g.pc = .ok (.invokespecial index, 3)) (hf : cells + mc ≤ R.cells ∧ slots + ms ≤ R.slots) :
    va_Run p l e R s m args below meth c H locs cells slots mc ms g rest (Qc (Value.ref b :: As).toArray) (free) := by
  obtain ⟨hrc, hrs, hfr, hlo, hws, hcw⟩ := hbk
  have hK : Back l R p e below s args y 3 8 (PreOf R mc ms Pc) (PostOf Qc mc ms free) := back_of (bytes := bytes) (maxL := maxL) (ret := ret) hM hp.1 hrc hrs hfr hlo hws hcw (fun a' U hW => word_at hW (Or.inl (by first | rfl | simp [Cond.onTables, Cond.keeps, Cond.steady])) hini)
  obtain ⟨hx, hb, hml, ho, -⟩ := S
  obtain ⟨-, ⟨cellB, hcB, hoB, hclB⟩, hPc⟩ := hp
  obtain ⟨hfc, kB, hkB, -⟩ := hat
  cases hfc.symm.trans hclB
  intro T hT X
  obtain ⟨v, vm₁, ⟨U', l2, c2, s2⟩, hW₁, X', ⟨g', mk, t, L, e1, e2, hq, h1, hL, h2, h3⟩, st⟩ := w_callSU2 X hx (bytes := bytes) (maxL := maxL) (ret := ret) ho hl1 hl2 hl3 hl3b hxn hxd hl4 hcode hno hK (by rw [hT]; exact hcB) hoB hkB hg (hsize.trans hml.symm) (argsL := As) (rest := rest) (fun sig h => hn.trans (hlen sig h)) hstack hW (by rw [hb]; exact hdg)
    (fun vm₁ hW₁ => ⟨hf.1, hf.2, hPc (T.setVm vm₁) hT hW₁⟩)
  dsimp only [Pt.U, Pt.locs, Pt.cells, Pt.slots] at X' e1 e2 h1 h2 h3 st
  subst h1; subst h2; subst h3
  exact ⟨v, (T.setVm vm₁).calling g' mk (Value.ref b :: As).toArray, t, U', L, hT, X', hL, e1, e2, hq, st⟩
end XU
section XN
variable {l : Launch} {G : Gl} {Y Z : My} {f q f1 q1 : Nat} {α : Type} {ε : α → Option Value} {pc index n c ci : Nat} {lv : List (Nat × Value)} {st st0 : List Value} {M : Nm}
theorem n_invSU2_i {tc : Option (Int32 × Nm)} {t : Int32 → Nm → Option (α × Nm)} {C : String} {T : u_T} {nf : Nat} {x : MethodName} (hd : decode Y.2.1 pc = .ok (.invokespecial index, 3)) (hZ : okY Z n) (hR : okR (zR f q) (zR f1 q1) Z = true) (hlk : Cond.methodLink Y.1.cls index x ∈ wG) (hin : Cond.instanceMethod Z.1 ∈ wG) (hsm : Cond.sameMethod x.cls Z.1.cls x.name x.desc ∈ wG) (hsu : Cond.superclass Y.1.cls x.cls ∈ wG) (hsu2 : Cond.superclass x.cls Z.1.cls ∈ wG) (hxn : x.name = Z.1.name) (hxd : x.desc = Z.1.desc) (hni : Z.1.name ≠ "<init>") (hk : kcl[ci]? = some (C, T, nf)) (hci : Nat.blt ci 20 = true) (hs : (sh c).1 = ci) (hc : c < 101) (vs : List Value) (hn : vs.length = n) (hl : Nat.ble (lg_sl (aR G c :: vs)).length Z.2.2.1 = true) (hst : st0 = vs.reverse ++ aR G c :: st) (hcat : Nat.ble (st.map fun v => v.category).sum 8 = true)
    (kc : NJ l G Z (zR f1 q1) eI 0 (lv_args 0 (aR G c :: vs)) [] M tc) (k : ∀ a M', NJ l G Y (zR f q) ε (pc + 3) lv (.int a :: st) M' (t a M')) : NJ l G Y (zR f q) ε pc lv st0 M (bnd tc t) := by
  intro a Mf h p e s m args below meth co H locs ls C hlv hRl hS
  obtain ⟨a1, M1, h1, h2⟩ := bnd_some h
  obtain ⟨hx, hb, hml, hr, ho, hw, hlk2, hnm, hE⟩ := id C
  subst hst
  obtain ⟨z1, z2, z3, z4, z5⟩ := id hZ
  have hat := (hE.1.1 ci _ hk).2
  have hr1 := okR_1 hR
  have hpay : ∀ w ∈ wsY Z, ∀ (a' : Array Value) (U : State), s.WarmedH U.vm → w.before a' U = true := pay_in hw (fun w hw => by
    rcases List.mem_cons.mp hw with rfl | hw
    · exact ⟨z1, (wG_good _ z1).2⟩
    · exact wG_good _ hw)
  have hlen : ∀ sig, parseMethodDescriptor Z.1.desc = some sig → n = sig.parameters.length := fun sig hs => by
    rw [hs] at z5
    exact (Option.some.inj z5).symm
  exact w_run (w_runSU2 hat (As := vs) (rest := st) (n := n) ⟨hx, hb, hml, ho, hw⟩ (met_of (aR G c :: vs) hZ.2.2.1 (Nat.le_of_ble_eq_true hl) kc h1) ⟨rfl, rfl, hr1.1, hr1.2, hpay, List.mem_cons_self⟩ (hw _ hlk) (hw _ hsm) (hw _ hsu) (hw _ hsu2) hxn hxd (hw _ hin) (hw _ z2) (hw _ z1) hni hlen ⟨pre_blind, rcv hE hRl hc hs hci hk, pre_at hE hRl hS⟩ rfl hn hlv.1 rfl (lv_room (Nat.le_of_ble_eq_true hcat)) hd ⟨Nat.le_refl _, Nat.le_refl _⟩) hS
    (fun H1 locs1 hR1 hS1 => k a1 M1 a Mf h2 p e s m args below meth co H1 locs1 ls C hlv hR1 hS1)
/-- invokevirtual on a receiver that isn't ours -/
theorem n_invVr_i {tc : Option (Int32 × Nm)} {t : Int32 → Nm → Option (α × Nm)} {C : String} {b : Nat} (hd : decode Y.2.1 pc = .ok (.invokevirtual index, 3)) (hZ : okY Z n) (hR : okR (zR f q) (zR f1 q1) Z = true) (hlk : Cond.methodLink Y.1.cls index Z.1 ∈ wG) (hin : Cond.instanceMethod Z.1 ∈ wG) (hse : Cond.selects C Z.1 Z.1 ∈ wG) (hrc : ∀ (s : State) (H : Heap) (locs : List Loc), En G s → va_S (gA G) s.heap H locs → ∃ cell : Cell, H[b]? = some cell ∧ cell.vm.isStatics = false ∧ s.vm.findClass C = some cell.cls) (vs : List Value) (hn : vs.length = n) (hl : Nat.ble (lg_sl (.ref b :: vs)).length Z.2.2.1 = true) (hst : st0 = vs.reverse ++ .ref b :: st) (hcat : Nat.ble (st.map fun v => v.category).sum 8 = true)
    (kc : NJ l G Z (zR f1 q1) eI 0 (lv_args 0 (.ref b :: vs)) [] M tc) (k : ∀ a M', NJ l G Y (zR f q) ε (pc + 3) lv (.int a :: st) M' (t a M')) : NJ l G Y (zR f q) ε pc lv st0 M (bnd tc t) := by
  intro a Mf h p e s m args below meth co H locs ls C hlv hRl hS
  obtain ⟨a1, M1, h1, h2⟩ := bnd_some h
  obtain ⟨hx, hb, hml, hr, ho, hw, hlk2, hnm, hE⟩ := id C
  subst hst
  exact w_run (va_runV (As := vs) (rest := st) (n := n) ⟨hx, hb, hml, ho, hw⟩ (met_of (.ref b :: vs) hZ.2.2.1 (Nat.le_of_ble_eq_true hl) kc h1) ⟨call_B hw hZ hR hlk, hw _ hin, hw _ hse⟩ ⟨pre_blind, hrc s H locs hE hS, pre_at hE hRl hS⟩ rfl hn hlv.1 rfl (lv_room (Nat.le_of_ble_eq_true hcat)) hd ⟨Nat.le_refl _, Nat.le_refl _⟩) hS
    (fun H1 locs1 hR1 hS1 => k a1 M1 a Mf h2 p e s m args below meth co H1 locs1 ls C hlv hR1 hS1)
end XN
/-! array copies -/
def inc (sp n : Int32) (len : Nat) : Bool := decide (0 ≤ sp) && decide (0 ≤ n) && decide (ix sp + ix n ≤ len)
def mCi (M : Nm) (a : Nat) (sp : Int32) (b : Nat) (dp n : Int32) : Nm := (va_up M.1 b (va_cpy (M.1 a) (M.1 b) (ix sp) (ix dp) (ix n)), M.2.1, M.2.2)
def mCl (M : Nm) (a : Nat) (sp : Int32) (b : Nat) (dp n : Int32) : Nm := (M.1, va_up M.2.1 b (va_cpy (M.2.1 a) (M.2.1 b) (ix sp) (ix dp) (ix n)), M.2.2)
theorem inc_1 {sp n : Int32} {len : Nat} (h : inc sp n len = true) : ¬ sp < 0 ∧ ¬ n < 0 ∧ ix sp + ix n ≤ len := by
  simp only [inc, Bool.and_eq_true, decide_eq_true_eq] at h
  exact ⟨fun q => Int32.lt_irrefl (Int32.lt_of_lt_of_le q h.1.1), fun q => Int32.lt_irrefl (Int32.lt_of_lt_of_le q h.1.2), h.2⟩
section XC
variable {l : Launch} {G : Gl} {Y : My} {f q : Nat} {α : Type} {ε : α → Option Value} {pc index n0 n1 a b : Nat} {lv : List (Nat × Value)} {st : List Value} {M : Nm} {t : Option (α × Nm)} {sp dp n : Int32}
theorem n_copyi (hd : decode Y.2.1 pc = .ok (.invokestatic index, 3)) (hlk : Cond.methodLink Y.1.cls index arraycopyName ∈ wG) (hnt : Cond.native arraycopyName ∈ wG) (hsx : Cond.static arraycopyName ∈ wG) (hi : Cond.initialized "java/lang/System" ∈ wG) (hs0 : sh a = (20, n0)) (hs1 : sh b = (20, n1)) (hcat : Nat.ble (st.map fun v => v.category).sum 8 = true) (hrm : 1 ≤ f ∧ 40 ≤ q) (kk : NJ l G Y (zR f q) ε (pc + 3) lv st (mCi M a sp b dp n) t) : NJ l G Y (zR f q) ε pc lv (.int n :: .int dp :: aR G b :: .int sp :: aR G a :: st) M (grd (inc sp n n0 && inc dp n n1) t) := by
  refine s_grd (fun hg => ?_)
  rw [Bool.and_eq_true] at hg
  obtain ⟨g1, g2, g3⟩ := inc_1 hg.1
  obtain ⟨g4, g5, g6⟩ := inc_1 hg.2
  intro a' Mf h p e s m args below meth co H locs ls C hl hR hS
  have hc1 := Nat.le_of_ble_eq_true hcat
  have hnw : nativeFrameWords "java/lang/System" "arraycopy" 5 + 11 ≤ 32 := by decide
  refine va_copyi (tys := tyG G) C.1 C.2.1 (C.2.2.1.trans hl.1.symm) C.2.2.2.2.1 (C.2.2.2.2.2.1 _ hlk) (C.2.2.2.2.2.1 _ hnt) (C.2.2.2.2.2.1 _ hsx) (C.2.2.2.2.2.1 _ hi) C.2.2.2.2.2.2.2.2.1 hR.1 (wl_D _ _ _) hS a b 0 0 (rl_arr (k := 0) (ar_n (k := 0) rfl hs0) hs0 rfl) (rl_arr (k := 0) (ar_n (k := 0) rfl hs1) hs1 rfl) rfl rfl rfl g1 g4 g2 g3 g6 (fun i _ => rfl) hrm.1 (show _ ≤ q by have := hrm.2; omega) hd (fun H1 locs1 hP1 hD1 hS1 => ?_)
  rw [ad_lt (ar_k (k := 0) rfl hs1), wl_set (M' := toM (mCi M a sp b dp n)) (by rw [hs1]; simp [cE, aE, mCi, toM, va_up_self]) (fun c' hc' => cE_row (M := toM M) (M' := toM (mCi M a sp b dp n)) (by simp [toM, mCi, va_up, hc']) rfl rfl _)] at hP1
  exact kk a' Mf h p e s m args below meth co H1 locs1 ls C hl ⟨hP1, fun h => absurd h (Nat.lt_irrefl _)⟩ hS1
theorem n_copyl (hd : decode Y.2.1 pc = .ok (.invokestatic index, 3)) (hlk : Cond.methodLink Y.1.cls index arraycopyName ∈ wG) (hnt : Cond.native arraycopyName ∈ wG) (hsx : Cond.static arraycopyName ∈ wG) (hi : Cond.initialized "java/lang/System" ∈ wG) (hs0 : sh a = (21, n0)) (hs1 : sh b = (21, n1)) (hcat : Nat.ble (st.map fun v => v.category).sum 8 = true) (hrm : 1 ≤ f ∧ 40 ≤ q) (kk : NJ l G Y (zR f q) ε (pc + 3) lv st (mCl M a sp b dp n) t) : NJ l G Y (zR f q) ε pc lv (.int n :: .int dp :: aR G b :: .int sp :: aR G a :: st) M (grd (inc sp n n0 && inc dp n n1) t) := by
  refine s_grd (fun hg => ?_)
  rw [Bool.and_eq_true] at hg
  obtain ⟨g1, g2, g3⟩ := inc_1 hg.1
  obtain ⟨g4, g5, g6⟩ := inc_1 hg.2
  intro a' Mf h p e s m args below meth co H locs ls C hl hR hS
  have hc1 := Nat.le_of_ble_eq_true hcat
  have hnw : nativeFrameWords "java/lang/System" "arraycopy" 5 + 11 ≤ 32 := by decide
  refine va_copyl (tys := tyG G) C.1 C.2.1 (C.2.2.1.trans hl.1.symm) C.2.2.2.2.1 (C.2.2.2.2.2.1 _ hlk) (C.2.2.2.2.2.1 _ hnt) (C.2.2.2.2.2.1 _ hsx) (C.2.2.2.2.2.1 _ hi) C.2.2.2.2.2.2.2.2.1 hR.1 (wl_D _ _ _) hS a b 1 1 (rl_arr (k := 1) (ar_n (k := 1) rfl hs0) hs0 rfl) (rl_arr (k := 1) (ar_n (k := 1) rfl hs1) hs1 rfl) rfl rfl rfl g1 g4 g2 g3 g6 (fun i _ => rfl) hrm.1 (show _ ≤ q by have := hrm.2; omega) hd (fun H1 locs1 hP1 hD1 hS1 => ?_)
  rw [ad_lt (ar_k (k := 1) rfl hs1), wl_set (M' := toM (mCl M a sp b dp n)) (by rw [hs1]; simp [cE, aE, mCl, toM, va_up_self]) (fun c' hc' => cE_row (M := toM M) (M' := toM (mCl M a sp b dp n)) rfl (by simp [toM, mCl, va_up, hc']) rfl _)] at hP1
  exact kk a' Mf h p e s m args below meth co H1 locs1 ls C hl ⟨hP1, fun h => absurd h (Nat.lt_irrefl _)⟩ hS1
end XC
section XM
variable {l : Launch} {G : Gl} {Y : My} {f q : Nat} {α : Type} {ε : α → Option Value} {pc index : Nat} {lv : List (Nat × Value)} {st : List Value} {M : Nm} {t : Option (α × Nm)} {x y : Int32}
theorem n_mmax (hd : decode Y.2.1 pc = .ok (.invokestatic index, 3)) (hlk : Cond.methodLink Y.1.cls index Lib.Math.max.name ∈ wG) (hsx : Cond.static Lib.Math.max.name ∈ wG) (hi : Cond.initialized "java/lang/Math" ∈ wG) (hco : Cond.code Lib.Math.max.name Lib.Math.max.code 2 (some .int) ∈ wG) (hcat : Nat.ble (st.map fun v => v.category).sum 8 = true) (hR : (Nat.ble 1 f && Nat.ble 30 q) = true) (kk : NJ l G Y (zR f q) ε (pc + 3) lv (.int (if x < y then y else x) :: st) M t) : NJ l G Y (zR f q) ε pc lv (.int y :: .int x :: st) M t := by
  intro a Mf h p e s m args below meth co H locs ls C hl hRl hS
  rw [Bool.and_eq_true] at hR
  have h1 := Nat.le_of_ble_eq_true hR.1
  have h2 := Nat.le_of_ble_eq_true hR.2
  have h3 := Nat.le_of_ble_eq_true hcat
  exact va_mmax C.1 C.2.1 (C.2.2.1.trans hl.1.symm) C.2.2.2.2.1 (C.2.2.2.2.2.1 _ hlk) (C.2.2.2.2.2.1 _ hsx) (C.2.2.2.2.2.1 _ hi) (C.2.2.2.2.2.1 _ hco) h1 (show _ ≤ q by omega) (Nat.zero_le _) (Nat.zero_le _) hd (kk a Mf h p e s m args below meth co H locs ls C hl hRl hS)
theorem n_mmin (hd : decode Y.2.1 pc = .ok (.invokestatic index, 3)) (hlk : Cond.methodLink Y.1.cls index Lib.Math.min.name ∈ wG) (hsx : Cond.static Lib.Math.min.name ∈ wG) (hi : Cond.initialized "java/lang/Math" ∈ wG) (hco : Cond.code Lib.Math.min.name Lib.Math.min.code 2 (some .int) ∈ wG) (hcat : Nat.ble (st.map fun v => v.category).sum 8 = true) (hR : (Nat.ble 1 f && Nat.ble 30 q) = true) (kk : NJ l G Y (zR f q) ε (pc + 3) lv (.int (if y < x then y else x) :: st) M t) : NJ l G Y (zR f q) ε pc lv (.int y :: .int x :: st) M t := by
  intro a Mf h p e s m args below meth co H locs ls C hl hRl hS
  rw [Bool.and_eq_true] at hR
  have h1 := Nat.le_of_ble_eq_true hR.1
  have h2 := Nat.le_of_ble_eq_true hR.2
  have h3 := Nat.le_of_ble_eq_true hcat
  exact va_mmin C.1 C.2.1 (C.2.2.1.trans hl.1.symm) C.2.2.2.2.1 (C.2.2.2.2.2.1 _ hlk) (C.2.2.2.2.2.1 _ hsx) (C.2.2.2.2.2.1 _ hi) (C.2.2.2.2.2.1 _ hco) h1 (show _ ≤ q by omega) (Nat.zero_le _) (Nat.zero_le _) hd (kk a Mf h p e s m args below meth co H locs ls C hl hRl hS)
end XM
