/-! what holds around our cells; the judgement; calls -/
def stL : List (String × Nat × String) := [(RX11, 11, "hand"), (RX11, 18, "miser"), (RX11, 23, "duke"), (RX11, 28, "shaky"), (RX11, 33, "heir"), (RX11, 38, "left"), (RX10, 35, "smudge"), (RX10, 45, "dry"), (RX10, 72, "at"), (RX10, 85, "ink"), (RX10, 104, "up"), (RX10, 106, "right"), (RX10, 108, "down"), (RX10, 110, "back")]
def lenS : List Nat := [4, 5, 4, 5, 4, 4, 6, 3, 2, 3, 2, 5, 4, 4]
def bytS : List (List Int32) := [[104, 97, 110, 100], [109, 105, 115, 101, 114], [100, 117, 107, 101], [115, 104, 97, 107, 121], [104, 101, 105, 114], [108, 101, 102, 116], [115, 109, 117, 100, 103, 101], [100, 114, 121], [97, 116], [105, 110, 107], [117, 112], [114, 105, 103, 104, 116], [100, 111, 119, 110], [98, 97, 99, 107]]
def En (G : Gl) (U : State) : Prop := va_K G.1 kcl (tyG G) U ∧ vk_S 14 lenS bytS G.2.2.2.1 G.2.2.2.2 (gA G) U U.heap ∧ (∀ (i : Nat) (q : String × Nat × String), stL[i]? = some q → vk_R q.1 q.2.1 q.2.2 (G.2.2.2.1 i) U) ∧ va_Z "java/lang/String" "COMPACT_STRINGS" "Z" (.int 1) (gA G) U U.heap ∧ va_Zq "jdk/internal/util/Preconditions" "SIOOBE_FORMATTER" "Ljava/util/function/BiFunction;" (gA G) U U.heap ∧ (∀ C ∈ [RX2, RX3, RX9], va_AO C U) ∧ (∀ C ∈ [RX7, RX0, RX8, RX4, RX6], va_Nw (.castable C RX3) U) ∧ va_Nw (.methodLinkNest RX5 66 yX11_bitOf RX11) U
theorem En.at {G : Gl} {s U : State} {locs : List Loc} (h : En G s) (hW : s.WarmedH U.vm) (hS : va_S (gA G) s.heap U.heap locs) : En G U := by
  obtain ⟨h1, h2, h3, h4, h5, h6, h7, h8⟩ := h
  exact ⟨va_K.moved hW.alike h1, (h2.moved hW.alike).kept hS.2.1, fun i q hq => (h3 i q hq).warm hW, (h4.moved hW.alike).kept hS.2.1, (h5.moved hW.alike).kept hS.2.1, fun C hC => (h6 C hC).moved hW.alike, fun C hC => va_Nw.warmC hW (h7 C hC), va_Nw.warmM hW h8⟩
theorem En.same {G : Gl} {s U : State} (h : En G s) (hv : s.vm = U.vm) (hh : U.heap = s.heap) : En G U := by
  obtain ⟨h1, h2, h3, h4, h5, h6, h7, h8⟩ := h
  have ha : s.vm.Alike U.vm := by rw [hv]; exact Vm.Alike.refl _
  refine ⟨va_K.moved ha h1, ?_, fun i q hq => (h3 i q hq).same hv.symm, ?_, ?_, fun C hC => (h6 C hC).moved ha, fun C hC => (h7 C hC).same rfl hv, h8.same rfl hv⟩
  · rw [hh]; exact h2.moved ha
  · rw [hh]; exact h4.moved ha
  · rw [hh]; exact h5.moved ha
/-- the words that a method may use -/
def wG : List Cond := lw_tbl.filter goodWord
theorem wG_mem {w : Cond} (h : w ∈ tables_1) (hg : goodWord w = true) : w ∈ wG := List.mem_filter.mpr ⟨List.mem_append_right _ h, hg⟩
theorem wG_sel {w : Cond} (h : w ∈ k2_sels lw_privs) (hg : goodWord w = true) : w ∈ wG := List.mem_filter.mpr ⟨List.mem_append_left _ h, hg⟩
theorem wG_good : GoodIn wG wG := fun w h => ⟨h, good_of_word (List.mem_filter.mp h).2⟩
/-- a method: name, bytes, locals, answer -/
abbrev My : Type := MethodName × ByteArray × Nat × Option FieldType
def wsY (Y : My) : List Cond := .code Y.1 Y.2.1 Y.2.2.1 Y.2.2.2 :: wG
theorem wsY_good {Y Z : My} (h : Cond.code Z.1 Z.2.1 Z.2.2.1 Z.2.2.2 ∈ wG) : GoodIn (wsY Y) (wsY Z) := by
  intro w hw
  rcases List.mem_cons.mp hw with rfl | hw
  · exact ⟨List.mem_cons_of_mem _ h, (wG_good _ h).2⟩
  · exact ⟨List.mem_cons_of_mem _ hw, (wG_good _ hw).2⟩
def QQ (G : Gl) (ov : Option Value) (M : Mm) (N : Nat) : Array Value → State → Outcome → State → Prop := fun _ st oc t => oc = .returned ov ∧ Rl G M N t.heap ∧ va_F (gA G) st t
/-- a method's own facts as it runs -/
def CX (G : Gl) (Y : My) (p : Program) (s : State) (m : MethodId) (args : Array Value) (meth : Method) (c : Code) : Prop :=
  p.tables.exec = Jvm.exec ∧ c.code = Y.2.1 ∧ c.maxLocals = Y.2.2.1 ∧ meth.sig.returnType = Y.2.2.2 ∧ s.vm.findClass Y.1.cls = some m.cls ∧ (∀ w ∈ wG, w.before args s = true) ∧ meth.locks = false ∧ meth.name = Y.1.name ∧ En G s
def SJ (l : Launch) (G : Gl) (Y : My) (R : Room) (Nf : Nat) {α μ : Type} (ε : α → Option Value) (vw : μ → Mm) (N cells slots pc : Nat) (lv : List (Nat × Value)) (st : List Value) (M : μ) (t : Option (α × μ)) : Prop :=
  ∀ (a : α) (Mf : μ), t = some (a, Mf) → ∀ (p : Program) (e : Env) (s : State) (m : MethodId) (args : Array Value) (below : List Frame) (meth : Method) (c : Code) (H : Heap) (locs : List Loc) (ls : Array Slot), CX G Y p s m args meth c → lv_has ls Y.2.2.1 lv → Rl G (vw M) N H → va_S (gA G) s.heap H locs →
    W p l e R s m args below meth c H locs cells slots (MQ below (QQ G (ε a) (vw Mf) Nf) args s R.cells R.slots (gA G)) (F0 m pc ls st)
theorem met_of {l : Launch} {G : Gl} {Y : My} {R : Room} {Nf : Nat} {α μ : Type} {ε : α → Option Value} {vw : μ → Mm} {N : Nat} {M Mf : μ} {a : α} {t : Option (α × μ)} (vs : List Value) (hy : plainName Y.1.cls = true) (hl : (lg_sl vs).length ≤ Y.2.2.1) (k : SJ l G Y R Nf ε vw N 0 0 0 (lv_args 0 vs) [] M t) (ht : t = some (a, Mf)) :
    Met l Y.1 (wsY Y) R (va_Pc vs (fun U => En G U ∧ Rl G (vw M) N U.heap)) (QQ G (ε a) (vw Mf) Nf) R.cells R.slots (gA G) := by
  refine Met.ofW (cc := Y.2.1) (maxL := Y.2.2.1) (ret := Y.2.2.2) hy rfl ?_
  intro p e s m args below meth c s₁ B hml hv
  obtain ⟨rfl, hE, hR⟩ := hv
  have hts := atoms_spec (ws := wsY Y) B.pre
  rw [lg_entry_eq]
  exact k a Mf ht p e s m _ below meth c s.heap [] _ ⟨B.exec, B.bytes, hml, B.returns, findClass_of_methodNamed B.named, fun w hw => hts w (List.mem_cons_of_mem _ hw), B.notSynchronized, (name_of_methodNamed B.named B.method).1, hE⟩ (lv_entry vs hl) hR va_S.rf
section SJK
variable {p : Program} {l : Launch} {e : Env} {R : Room} {s : State} {m : MethodId} {args : Array Value} {below : List Frame} {meth : Method} {c : Code} {H : Heap} {locs : List Loc} {cells slots : Nat} {Q : State → Prop}
theorem w_run {G : Gl} {ov : Option Value} {M : Mm} {N mc ms pc : Nat} {ls : Array Slot} {st0 rest : List Value} {a : Array Value} (hr : va_Run p l e R s m args below meth c H locs cells slots mc ms (F0 m pc ls st0) rest (QQ G ov M N a) (gA G)) (hS : va_S (gA G) s.heap H locs)
    (kk : ∀ (H1 : Heap) (locs1 : List Loc), Rl G M N H1 → va_S (gA G) s.heap H1 locs1 → W p l e R s m args below meth c H1 locs1 (cells + mc) (slots + ms) Q (F0 m (pc + 3) ls (ov.toList ++ rest))) : W p l e R s m args below meth c H locs cells slots Q (F0 m pc ls st0) := by
  intro T hT X
  obtain ⟨v, st₀, t, T', L, h0, X', hL, e1, e2, ⟨hv, hR, hz, hk⟩, st⟩ := hr T hT X
  cases hv
  rw [h0] at hz hk
  obtain ⟨t2, a1, b1⟩ := kk T'.heap (locs ++ L) (by rw [e1]; exact hR) ⟨Nat.le_trans hS.1 (by rw [e1]; exact hz), fun q h1 h2 => by rw [e1, hk q (Nat.lt_of_lt_of_le h1 hS.1) h2]; exact hS.2.1 q h1 h2, fun q hq => by
      rcases List.mem_append.mp hq with h | h
      · exact hS.2.2 q h
      · exact hL q h⟩ T' rfl X'
  exact ⟨t2, st t2 a1, b1⟩
theorem pre_blind {G : Gl} {M : Mm} {N : Nat} {vs : List Value} : FrameBlind (va_Pc vs (fun U => En G U ∧ Rl G M N U.heap)) := by
  intro a U g mk h
  obtain ⟨h1, h2, h3⟩ := h
  exact ⟨h1, h2.same rfl rfl, h3⟩
theorem pre_at {G : Gl} {M : Mm} {N : Nat} {vs : List Value} (hE : En G s) (hR : Rl G M N H) (hS : va_S (gA G) s.heap H locs) : ∀ U : State, U.heap = H → s.WarmedH U.vm → va_Pc vs (fun U => En G U ∧ Rl G M N U.heap) vs.toArray U := by
  intro U hU hW
  refine ⟨rfl, hE.at (locs := locs) hW (by rw [hU]; exact hS), by rw [hU]; exact hR⟩
end SJK
def bnd {α β μ : Type} (x : Option (α × μ)) (f : α → μ → Option β) : Option β := match x with
  | none => none
  | some q => f q.1 q.2
theorem bnd_some {α β μ : Type} {x : Option (α × μ)} {f : α → μ → Option β} {r : β} (h : bnd x f = some r) : ∃ a m, x = some (a, m) ∧ f a m = some r := by
  cases x with
  | none => cases h
  | some q => exact ⟨q.1, q.2, rfl, h⟩
def grd {β : Type} (c : Bool) (t : Option β) : Option β := if c then t else none
def bl {α β : Type} (x : α) (f : α → Option β) : Option β := f x
def ifn {β : Type} (r : Option Nat) (t : Option β) (f : Nat → Option β) : Option β := match r with
  | none => t
  | some c => f c
/-- room and words of a call -/
def okR (R Rc : Room) (Z : My) : Bool := decide (Rc.frames + 1 ≤ R.frames) && decide (8 + (Z.2.2.1 + 11) + Rc.locals ≤ R.locals)
theorem okR_1 {R Rc : Room} {Z : My} (h : okR R Rc Z = true) : Rc.frames + 1 ≤ R.frames ∧ 8 + (Z.2.2.1 + 11) + Rc.locals ≤ R.locals := by
  simpa [okR] using h
/-- a method as a callee: a plain class, its code among the words, how many parameters -/
def okY (Z : My) (n : Nat) : Prop := Cond.code Z.1 Z.2.1 Z.2.2.1 Z.2.2.2 ∈ wG ∧ Cond.initialized Z.1.cls ∈ wG ∧ plainName Z.1.cls = true ∧ (Z.1.cls ≠ "java/lang/invoke/MethodHandle" ∧ Z.1.cls ≠ "java/lang/invoke/VarHandle") ∧ (parseMethodDescriptor Z.1.desc).map (fun d => d.parameters.length) = some n
section SJC
variable {l : Launch} {G : Gl} {Y Z : My} {R Rc : Room} {Nf Nc : Nat} {α γ μ : Type} {ε : α → Option Value} {εc : γ → Option Value} {vw : μ → Mm} {N cells slots pc index n : Nat} {lv : List (Nat × Value)} {st st0 vs : List Value} {M : μ} {tc : Option (γ × μ)} {t : γ → μ → Option (α × μ)}
theorem call_B {s : State} {args : Array Value} (hw : ∀ w ∈ wG, w.before args s = true) (hZ : okY Z n) (hR : okR R Rc Z = true) (hlk : Cond.methodLink Y.1.cls index Z.1 ∈ wG) : CallB R s args Y.1.cls index Z.1 Z.2.1 Z.2.2.1 Z.2.2.2 (wsY Z) Rc Rc.cells Rc.slots n := by
  obtain ⟨h1, h2, h3, h4, h5⟩ := hZ
  refine callB_of (Ts := wG) (ws' := wG) n hw (fun w hw => ?_) rfl rfl rfl (hw _ h2) (hw _ hlk) ⟨h4.1, h4.2, h5⟩ (okR_1 hR)
  rcases List.mem_cons.mp hw with rfl | hw
  · exact ⟨h1, (wG_good _ h1).2⟩
  · exact wG_good _ hw
/-- invokestatic -/
theorem s_invS (hd : decode Y.2.1 pc = .ok (.invokestatic index, 3)) (hZ : okY Z n) (hR : okR R Rc Z = true) (hlk : Cond.methodLink Y.1.cls index Z.1 ∈ wG) (hsx : Cond.static Z.1 ∈ wG) (vs : List Value) (hn : vs.length = n) (hl : Nat.ble (lg_sl vs).length Z.2.2.1 = true) (hst : st0 = vs.reverse ++ st) (hcat : Nat.ble (st.map fun v => v.category).sum 8 = true) (hrm : Nat.ble (cells + Rc.cells) R.cells = true ∧ Nat.ble (slots + Rc.slots) R.slots = true)
    (kc : SJ l G Z Rc Nc εc vw N 0 0 0 (lv_args 0 vs) [] M tc) (k : ∀ a M', SJ l G Y R Nf ε vw Nc (cells + Rc.cells) (slots + Rc.slots) (pc + 3) lv ((εc a).toList ++ st) M' (t a M')) : SJ l G Y R Nf ε vw N cells slots pc lv st0 M (bnd tc t) := by
  intro a Mf h p e s m args below meth c H locs ls C hlv hRl hS
  obtain ⟨a1, M1, h1, h2⟩ := bnd_some h
  obtain ⟨hx, hb, hml, hr, ho, hw, hlk2, hnm, hE⟩ := id C
  subst hst
  exact w_run (va_runS (As := vs) (rest := st) (n := n) ⟨hx, hb, hml, ho, hw⟩ (met_of vs hZ.2.2.1 (Nat.le_of_ble_eq_true hl) kc h1) ⟨call_B hw hZ hR hlk, hw _ hsx⟩ ⟨pre_blind, pre_at hE hRl hS⟩ rfl hn hlv.1 rfl (lv_room (Nat.le_of_ble_eq_true hcat)) hd ⟨Nat.le_of_ble_eq_true hrm.1, Nat.le_of_ble_eq_true hrm.2⟩) hS
    (fun H1 locs1 hR1 hS1 => k a1 M1 a Mf h2 p e s m args below meth c H1 locs1 ls C hlv hR1 hS1)
end SJC
