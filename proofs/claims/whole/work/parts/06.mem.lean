/-! rows that touch memory -/
def setI (M : Mm) (c k : Nat) (v : Int32) : Mm := (va_up M.1 c (va_up (M.1 c) k v), M.2.1, M.2.2)
def setL (M : Mm) (c k : Nat) (v : Int64) : Mm := (M.1, va_up M.2.1 c (va_up (M.2.1 c) k v), M.2.2)
def setR (M : Mm) (c k : Nat) (v : Option Nat) : Mm := (M.1, M.2.1, va_up M.2.2 c (va_up (M.2.2 c) k v))
theorem nb99 {n : Nat} (h : n ≠ 99) : Nat.beq n 99 = false := by
  cases q : Nat.beq n 99 with
  | false => rfl
  | true => exact absurd (Nat.eq_of_beq_eq_true q) h
theorem sh_lt {c ci : Nat} (h : (sh c).1 = ci) (hc : Nat.beq ci 99 = false) : c < 101 := by
  rcases Nat.lt_or_ge c 101 with q | q
  · exact q
  · have : sh c = (99, 0) := by
      unfold sh
      rw [List.getD_eq_getElem?_getD, List.getElem?_eq_none (by exact q)]
      rfl
    rw [this] at h
    subst h
    cases hc
theorem ad_lt {G : Gl} {c : Nat} (h : c < 1000) : ad G c = G.2.2.1 + c := by unfold ad; rw [if_pos h]
theorem fV_get {G : Gl} {M : Mm} {ci c k f : Nat} (h : (ftL.getD ci [])[k]? = some f) : (fL G M ci c)[k]? = some (fV G M c (f, k)) := by
  unfold fL
  rw [List.getElem?_map, List.getElem?_zipIdx, h]
  simp
theorem fL_len {G : Gl} {M : Mm} {ci c : Nat} : (fL G M ci c).length = (ftL.getD ci []).length := by
  unfold fL
  rw [List.length_map, List.length_zipIdx]
theorem fL_set {G : Gl} {M M' : Mm} {ci c k : Nat} {v : Value} (hv : ∀ f, (ftL.getD ci [])[k]? = some f → fV G M' c (f, k) = v) (ho : ∀ j f, j ≠ k → (ftL.getD ci [])[j]? = some f → fV G M' c (f, j) = fV G M c (f, j)) : (fL G M ci c).set k v = fL G M' ci c := by
  apply List.ext_getElem?
  intro j
  by_cases hj : j < (ftL.getD ci []).length
  · have hf : (ftL.getD ci [])[j]? = some (ftL.getD ci [])[j] := List.getElem?_eq_getElem hj
    by_cases hk : j = k
    · subst hk
      rw [List.getElem?_set_self (by rw [fL_len]; exact hj), fV_get hf, hv _ hf]
    · rw [List.getElem?_set_ne (Ne.symm hk), fV_get hf, fV_get hf, ho j _ hk hf]
  · rw [List.getElem?_eq_none (by rw [List.length_set, fL_len]; omega), List.getElem?_eq_none (by rw [fL_len]; omega)]
theorem cE_row {G : Gl} {M M' : Mm} {c : Nat} (h1 : M'.1 c = M.1 c) (h2 : M'.2.1 c = M.2.1 c) (h3 : M'.2.2 c = M.2.2 c) (s : Nat × Nat) : cE G M' c s = cE G M c s := by
  have hf : ∀ q, fV G M' c q = fV G M c q := fun q => by simp only [fV, h1, h2, h3]
  simp only [cE, aE, fL, h1, h2, h3]
  split
  · rfl
  · congr 2
    exact List.map_congr_left (fun q _ => hf q)
theorem setI_o {G : Gl} {M : Mm} {c k : Nat} {v : Int32} : ∀ c', c' ≠ c → cE G (setI M c k v) c' (sh c') = cE G M c' (sh c') := fun c' h => cE_row (M := M) (show (setI M c k v).1 c' = M.1 c' by simp [setI, va_up, h]) rfl rfl _
theorem setL_o {G : Gl} {M : Mm} {c k : Nat} {v : Int64} : ∀ c', c' ≠ c → cE G (setL M c k v) c' (sh c') = cE G M c' (sh c') := fun c' h => cE_row (M := M) (M' := setL M c k v) rfl (show (setL M c k v).2.1 c' = M.2.1 c' by simp [setL, va_up, h]) rfl _
theorem setR_o {G : Gl} {M : Mm} {c k : Nat} {v : Option Nat} : ∀ c', c' ≠ c → cE G (setR M c k v) c' (sh c') = cE G M c' (sh c') := fun c' h => cE_row (M := M) (M' := setR M c k v) rfl rfl (show (setR M c k v).2.2 c' = M.2.2 c' by simp [setR, va_up, h]) _
theorem cE_obj {G : Gl} {M : Mm} {c ci : Nat} (hs : (sh c).1 = ci) (hci : Nat.blt ci 20 = true) : cE G M c (sh c) = .inr (ci, fL G M ci c) := by
  have h : ci < 20 := Nat.le_of_ble_eq_true hci
  unfold cE
  rw [hs, if_neg (by omega)]
theorem rl_obj {G : Gl} {M : Mm} {N c ci : Nat} (hc : c < N) (hs : (sh c).1 = ci) (hci : Nat.blt ci 20 = true) : (WL G M N)[c]? = some (ad G c, .inr (ci, fL G M ci c)) := by
  have h : ci < 20 := Nat.le_of_ble_eq_true hci
  have h1 : c < 101 := sh_lt hs (nb99 (by omega))
  rw [wl_get hc, cE_obj hs hci, ad_lt (by omega)]
theorem rl_arr {G : Gl} {M : Mm} {N c k n : Nat} (hc : c < N) (hs : sh c = (20 + k, n)) (hk : Nat.blt k 10 = true) : (WL G M N)[c]? = some (ad G c, aE G M c k n) := by
  have h : k < 10 := Nat.le_of_ble_eq_true hk
  have h1 : c < 101 := sh_lt (ci := 20 + k) (by rw [hs]) (nb99 (by omega))
  rw [wl_get hc, ad_lt (by omega), hs]
  simp [cE]
/-- a field by its link; a field that may be written; a final one in its constructor -/
def okF (own : String) (idx ci k : Nat) : Prop := ∃ (C : String) (T : u_T) (n : Nat), kcl[ci]? = some (C, T, n) ∧ k < n ∧ (∀ w ∈ u_ws C T n, w ∈ wG) ∧ Cond.fieldLink own idx (T k).1 (T k).2.1 (T k).2.2.1 ∈ wG
def okP (own : String) (idx ci k : Nat) (ty : FieldType) (fin : Bool) : Prop := ∃ (C : String) (T : u_T) (n : Nat) (ty0 : Nat → FieldType), kcl[ci]? = some (C, T, n) ∧ k < n ∧ (∀ w ∈ u_ws C T n, w ∈ wG) ∧ Cond.fieldLink own idx (T k).1 (T k).2.1 (T k).2.2.1 ∈ wG ∧ (∀ j, j < n → parseFieldDescriptor (T j).2.2.1 = some (ty0 j)) ∧ (∀ a, a < n → ∀ b, b < n → a ≠ b → (T a).2.1 ≠ (T b).2.1) ∧ (T k).2.2.2 = fin ∧ parseFieldDescriptor (T k).2.2.1 = some ty ∧ (fin = true → (T k).1 = own)
section SM
variable {l : Launch} {G : Gl} {Y : My} {R : Room} {Nf : Nat} {α μ : Type} {ε : α → Option Value} {vw : μ → Mm} {N cells slots pc : Nat} {lv : List (Nat × Value)} {st : List Value} {M M' : μ} {t : Option (α × μ)} {c ci k n idx : Nat}
theorem s_get {f : Nat} {v : Value} (hd : decode Y.2.1 pc = .ok (.getfield idx, 3)) (hF : okF Y.1.cls idx ci k) (hf : (ftL.getD ci [])[k]? = some f) (hci : Nat.blt ci 20 = true) (hs : (sh c).1 = ci) (hc : c < N) (hv : fV G (vw M) c (f, k) = v) (kk : SJ l G Y R Nf ε vw N cells slots (pc + 3) lv (v :: st) M t) : SJ l G Y R Nf ε vw N cells slots pc lv (aR G c :: st) M t := by
  intro a Mf h p e s m args below meth co H locs ls C hl hR hS
  obtain ⟨Cn, T, n, h1, h2, h3, h4⟩ := hF
  refine va_get (D := G.1) (cl := kcl) (tys := tyG G) (C := Cn) (T := T) (N := n) (ci := ci) C.1 C.2.1 C.2.2.2.2.2.1 h3 C.2.2.2.2.1 C.2.2.2.2.2.2.2.2.1 hR.1 c (rl_obj hc hs hci) h1 k h2 (C.2.2.2.2.2.1 _ h4) (fun _ h9 => h9) (v := v) ?_ hd (kk a Mf h p e s m args below meth co H locs ls C hl hR hS)
  rw [fV_get hf, hv]
end SM
section WM
variable {p : Program} {l : Launch} {e : Env} {R : Room} {s : State} {m : MethodId} {args : Array Value} {below : List Frame} {meth : Method} {c : Code} {H : Heap} {locs : List Loc} {cells slots : Nat} {Q : State → Prop}
variable {cc : ByteArray} {pc : Nat} {ls : Array Slot} {rest : List Value} {D : va_G} {cl : List vw_C} {A : Nat → Prop} {a : Nat} {tys : List (ClassId × FieldType)} {ws : va_W} {H0 : Heap}
/-- a field is written (fin: a final one, in its constructor); how large the heap is stays -/
theorem w_put (hexec : p.tables.exec = Jvm.exec) (hb : c.code = cc) {own C : String} {T : u_T} {N ci index : Nat} {Ts : List Cond} (hts : ∀ w ∈ Ts, w.before args s = true) (hin : ∀ w ∈ u_ws C T N, w ∈ Ts) (ty0 : Nat → FieldType) (hty : ∀ k, k < N → parseFieldDescriptor (T k).2.2.1 = some (ty0 k)) (hnm : ∀ a, a < N → ∀ b, b < N → a ≠ b → (T a).2.1 ≠ (T b).2.1) (hown : s.vm.findClass own = some m.cls) (hK : va_K D cl tys s) (hP : va_P D cl ws H) (hD : va_D A ws) (hS0 : va_S A H0 H locs) (q0 : Nat) {fs : List Value} (he : ws[q0]? = some (a, .inr (ci, fs))) (hc : cl[ci]? = some (C, T, N)) (k : Nat) (hk : k < N) (hlink : (Cond.fieldLink own index (T k).1 (T k).2.1 (T k).2.2.1).before args s = true) (hfin : (T k).2.2.2 = false ∨ ((T k).2.2.2 = true ∧ meth.name = "<init>" ∧ (T k).1 = own)) {ty : FieldType} {v : Value} (hd : parseFieldDescriptor (T k).2.2.1 = some ty) (hn : narrow ty v = v) (hfit : fits ty v = true) (hl : k < fs.length)
    (hdg : decode cc pc = .ok (.putfield index, 3)) (kk : ∀ (H1 : Heap) (locs1 : List Loc), va_P D cl (ws.set q0 (a, .inr (ci, fs.set k v))) H1 → va_S A H0 H1 locs1 → H1.size = H.size → W p l e R s m args below meth c H1 locs1 cells slots Q (F0 m (pc + 3) ls rest)) : W p l e R s m args below meth c H locs cells slots Q (F0 m pc ls (v :: .ref a :: rest)) := by
  have hap := va_apart (own := own) hts hin ty0 hty hnm hK hc
  obtain ⟨r, h1, cell, q1, q2, q3, q4⟩ := hP q0 _ he
  have hr : r = (C, T, N) := Option.some.inj (h1.symm.trans hc)
  subst hr
  obtain ⟨hS, hfc, kC, hkC, hkind⟩ := hK.1 ci _ hc
  obtain ⟨cf, kf, fi, f, hi, hsl⟩ := hS k hk
  have hlay := hts _ (hin _ (u_in_lay hk))
  have hst := (u_facts hfc hkC (u_lays hts hin hk) hi).1
  unfold u_lay at hlay
  rcases hfin with hfin | ⟨hfin, hin2, hdecl⟩
  · rw [if_neg (by rw [hfin]; decide)] at hlay
    have h6 := u_store hfc hkC hkind hlay hi hd hn hfit
    refine W.putK hexec hb (f := f) ⟨hown, hlink, ⟨_, _, _, hi⟩, hst⟩ (by rw [q2]; exact h6) q1 q3 (by rw [hsl]; exact k2_hasslot (q4 k hk)) rfl rfl hdg fun H' e1 e2 e3 => ?_
    rw [hsl] at e1 ⊢
    exact kk H' _ (hP.set hD he ⟨_, hc, t_OB.to (V := updV (vp_V fs) k v) ⟨_, e1, q2, q3, t_set q4 hap hk v⟩ (fun j _ => vp_updV_set hl v j)⟩ e3) (hS0.put e2 e3 (hD.2 q0 _ he)) e2
  · rw [if_pos hfin] at hlay
    have hcf : m.cls = cf := by
      obtain ⟨_, _, c', _, _, _, -, -, hf', -, -, -, hown2, -⟩ := Cond.laysFinal_spec hlay
      have e1 : c' = cf := by have := hi.symm.trans hf'; simp at this; exact this.1.symm
      rw [hdecl] at hown2
      rw [← e1]; exact Option.some.inj (hown.symm.trans hown2)
    have h6 := u_fits hfc hkC hkind (Or.inr hlay) hi hd hn hfit
    refine W.putFinK hexec hb hown hlink hi hst hcf hin2 (by rw [q2]; exact h6) q1 q3 (by rw [hsl]; exact k2_hasslot (q4 k hk)) rfl rfl hdg fun H' e1 e2 e3 => ?_
    rw [hsl] at e1 ⊢
    exact kk H' _ (hP.set hD he ⟨_, hc, t_OB.to (V := updV (vp_V fs) k v) ⟨_, e1, q2, q3, t_set q4 hap hk v⟩ (fun j _ => vp_updV_set hl v j)⟩ e3) (hS0.put e2 e3 (hD.2 q0 _ he)) e2
end WM
section SN
variable {l : Launch} {G : Gl} {Y : My} {R : Room} {Nf : Nat} {α μ : Type} {ε : α → Option Value} {vw : μ → Mm} {N cells slots pc : Nat} {lv : List (Nat × Value)} {st : List Value} {M M' : μ} {t : Option (α × μ)} {c ci k n idx : Nat}
theorem lt_k {ci c : Nat} (hci : Nat.blt ci 20 = true) (hs : (sh c).1 = ci) : c < 1000 := by
  have h9 : ci < 20 := Nat.le_of_ble_eq_true hci
  have := sh_lt hs (nb99 (by omega))
  omega
theorem s_put {f : Nat} {v : Value} {ty : FieldType} {fin : Bool} (hd : decode Y.2.1 pc = .ok (.putfield idx, 3)) (hP : okP Y.1.cls idx ci k ty fin) (hfi : fin = true → Y.1.name = "<init>") (hf : (ftL.getD ci [])[k]? = some f) (hci : Nat.blt ci 20 = true) (hs : (sh c).1 = ci) (hc : c < N) (hn : narrow ty v = v) (hft : fits ty v = true) (h1 : (fL G (vw M) ci c).set k v = fL G (vw M') ci c) (h2 : ∀ c', c' ≠ c → cE G (vw M') c' (sh c') = cE G (vw M) c' (sh c'))
    (kk : SJ l G Y R Nf ε vw N cells slots (pc + 3) lv st M' t) : SJ l G Y R Nf ε vw N cells slots pc lv (v :: aR G c :: st) M t := by
  intro a Mf h p e s m args below meth co H locs ls C hl hR hS
  obtain ⟨Cn, T, n, ty0, g1, g2, g3, g4, g5, g6, g7, g8, g9⟩ := hP
  have hk : k < (fL G (vw M) ci c).length := by
    rw [fL_len]; exact (List.getElem?_eq_some_iff.mp hf).1
  have hfin : (T k).2.2.2 = false ∨ ((T k).2.2.2 = true ∧ meth.name = "<init>" ∧ (T k).1 = Y.1.cls) := by
    cases fin with
    | false => exact Or.inl g7
    | true => exact Or.inr ⟨g7, C.2.2.2.2.2.2.2.1.trans (hfi rfl), g9 rfl⟩
  refine w_put (D := G.1) (cl := kcl) (tys := tyG G) (C := Cn) (T := T) (N := n) (ci := ci) (A := gA G) C.1 C.2.1 C.2.2.2.2.2.1 g3 ty0 g5 g6 C.2.2.2.2.1 C.2.2.2.2.2.2.2.2.1 hR.1 (wl_D _ _ _) hS c (rl_obj hc hs hci) g1 k g2 (C.2.2.2.2.2.1 _ g4) hfin g8 hn hft hk hd (fun H1 locs1 hP1 hS1 hz => ?_)
  rw [ad_lt (lt_k hci hs), wl_set (M' := vw M') (by rw [cE_obj hs hci, h1]) h2] at hP1
  exact kk a Mf h p e s m args below meth co H1 locs1 ls C hl ⟨hP1, fun hN => by rw [hz]; exact hR.2 hN⟩ hS1
theorem s_getI (hd : decode Y.2.1 pc = .ok (.getfield idx, 3)) (hF : okF Y.1.cls idx ci k) (hf : (ftL.getD ci [])[k]? = some 0) (hci : Nat.blt ci 20 = true) (hs : (sh c).1 = ci) (hc : c < N) {x : Int32} (hx : (vw M).1 c k = x) (kk : SJ l G Y R Nf ε vw N cells slots (pc + 3) lv (.int x :: st) M t) : SJ l G Y R Nf ε vw N cells slots pc lv (aR G c :: st) M t :=
  s_get hd hF hf hci hs hc (by rw [← hx]; rfl) kk
theorem s_getL (hd : decode Y.2.1 pc = .ok (.getfield idx, 3)) (hF : okF Y.1.cls idx ci k) (hf : (ftL.getD ci [])[k]? = some 1) (hci : Nat.blt ci 20 = true) (hs : (sh c).1 = ci) (hc : c < N) {x : Int64} (hx : (vw M).2.1 c k = x) (kk : SJ l G Y R Nf ε vw N cells slots (pc + 3) lv (.long x :: st) M t) : SJ l G Y R Nf ε vw N cells slots pc lv (aR G c :: st) M t :=
  s_get hd hF hf hci hs hc (by rw [← hx]; rfl) kk
theorem s_getR (hd : decode Y.2.1 pc = .ok (.getfield idx, 3)) (hF : okF Y.1.cls idx ci k) (hf : (ftL.getD ci [])[k]? = some 2) (hci : Nat.blt ci 20 = true) (hs : (sh c).1 = ci) (hc : c < N) {x : Nat} (hx : (vw M).2.2 c k = some x) (kk : SJ l G Y R Nf ε vw N cells slots (pc + 3) lv (aR G x :: st) M t) : SJ l G Y R Nf ε vw N cells slots pc lv (aR G c :: st) M t :=
  s_get hd hF hf hci hs hc (v := aR G x) (by show rO G ((vw M).2.2 c k) = _; rw [hx]; rfl) kk
theorem s_putI {v : Int32} {ty : FieldType} {fin : Bool} (hd : decode Y.2.1 pc = .ok (.putfield idx, 3)) (hP : okP Y.1.cls idx ci k ty fin) (hfi : fin = true → Y.1.name = "<init>") (hf : (ftL.getD ci [])[k]? = some 0) (hci : Nat.blt ci 20 = true) (hs : (sh c).1 = ci) (hc : c < N) (hn : narrow ty (.int v) = .int v) (hft : fits ty (.int v) = true) (hM : vw M' = setI (vw M) c k v)
    (kk : SJ l G Y R Nf ε vw N cells slots (pc + 3) lv st M' t) : SJ l G Y R Nf ε vw N cells slots pc lv (.int v :: aR G c :: st) M t :=
  s_put (M' := M') hd hP hfi hf hci hs hc hn hft (by
    rw [hM]
    refine fL_set (fun f h => ?_) (fun j f hj h => ?_)
    · have e : f = 0 := Option.some.inj (h.symm.trans hf)
      subst e
      simp [fV, setI, va_up]
    · simp [fV, setI, va_up, hj]) (by rw [hM]; exact setI_o) kk
theorem s_putL {v : Int64} {ty : FieldType} {fin : Bool} (hd : decode Y.2.1 pc = .ok (.putfield idx, 3)) (hP : okP Y.1.cls idx ci k ty fin) (hfi : fin = true → Y.1.name = "<init>") (hf : (ftL.getD ci [])[k]? = some 1) (hci : Nat.blt ci 20 = true) (hs : (sh c).1 = ci) (hc : c < N) (hn : narrow ty (.long v) = .long v) (hft : fits ty (.long v) = true) (hM : vw M' = setL (vw M) c k v)
    (kk : SJ l G Y R Nf ε vw N cells slots (pc + 3) lv st M' t) : SJ l G Y R Nf ε vw N cells slots pc lv (.long v :: aR G c :: st) M t :=
  s_put (M' := M') hd hP hfi hf hci hs hc hn hft (by
    rw [hM]
    refine fL_set (fun f h => ?_) (fun j f hj h => ?_)
    · have e : f = 1 := Option.some.inj (h.symm.trans hf)
      subst e
      simp [fV, setL, va_up]
    · simp [fV, setL, va_up, hj]) (by rw [hM]; exact setL_o) kk
theorem s_putR {v : Nat} {ty : FieldType} {fin : Bool} (hd : decode Y.2.1 pc = .ok (.putfield idx, 3)) (hP : okP Y.1.cls idx ci k ty fin) (hfi : fin = true → Y.1.name = "<init>") (hf : (ftL.getD ci [])[k]? = some 2) (hci : Nat.blt ci 20 = true) (hs : (sh c).1 = ci) (hc : c < N) (hn : narrow ty (aR G v) = aR G v) (hft : fits ty (aR G v) = true) (hM : vw M' = setR (vw M) c k (some v))
    (kk : SJ l G Y R Nf ε vw N cells slots (pc + 3) lv st M' t) : SJ l G Y R Nf ε vw N cells slots pc lv (aR G v :: aR G c :: st) M t :=
  s_put (M' := M') hd hP hfi hf hci hs hc hn hft (by
    rw [hM]
    refine fL_set (fun f h => ?_) (fun j f hj h => ?_)
    · have e : f = 2 := Option.some.inj (h.symm.trans hf)
      subst e
      simp [fV, setR, va_up, rO, va_rf]
    · simp [fV, setR, va_up, hj]) (by rw [hM]; exact setR_o) kk
end SN
