/-! the constructors -/
def kiM (o : Nat) (n : Int32) (w : Nat) (M : Mm) : Mm := setR (setI M o 0 n) o 1 (some (1000 + w))
def haM (o pl : Nat) (M : Mm) : Mm := setR (setR (setR M o 0 (some pl)) o 5 (some (o + 1))) o 6 (some (o + 2))
theorem kiM_z {N o w : Nat} {n : Int32} {M : Mm} (h : Dz N M) (ho : o < N) : Dz N (kiM o n w M) := (h.i ho).q ho
theorem haM_z {o pl : Nat} {M : Mm} (h : Dz (o + 1) M) : Dz (o + 3) (haM o pl M) := (((h.up (by omega)).q (by omega)).q (by omega)).q (by omega)
theorem s_cs {l : Launch} {G : Gl} {Y : My} {R : Room} {Nf : Nat} {α : Type} {ε : α → Option Value} {N cells slots pc N' cells' slots' : Nat} {lv : List (Nat × Value)} {st : List Value} {M : Mm} {t : Option (α × Mm)} (h1 : N = N') (h2 : cells = cells') (h3 : slots = slots') (k : SJ l G Y R Nf ε vI N' cells' slots' pc lv st M t) : SJ l G Y R Nf ε vI N cells slots pc lv st M t := by
  subst h1 h2 h3
  exact k
abbrev rm_X3 : Room := (({ frames := 1, cells := 0, slots := 0, locals := 12 }) : Room)
abbrev rm_X7 : Room := (({ frames := 2, cells := 0, slots := 0, locals := 34 }) : Room)
abbrev rm_X0 : Room := (({ frames := 2, cells := 0, slots := 0, locals := 34 }) : Room)
abbrev rm_X8 : Room := (({ frames := 2, cells := 0, slots := 0, locals := 34 }) : Room)
abbrev rm_X4 : Room := (({ frames := 3, cells := 0, slots := 0, locals := 56 }) : Room)
abbrev rm_X6 : Room := (({ frames := 3, cells := 0, slots := 0, locals := 56 }) : Room)
abbrev rm_X2 : Room := (({ frames := 1, cells := 2, slots := 16, locals := 12 }) : Room)
abbrev rm_X5 : Room := (({ frames := 2, cells := 21, slots := 180, locals := 33 }) : Room)
abbrev rm_X10 : Room := (({ frames := 1, cells := 1, slots := 120, locals := 12 }) : Room)
abbrev rm_X9 : Room := (({ frames := 1, cells := 1, slots := 40, locals := 12 }) : Room)
abbrev rm_X11 : Room := (({ frames := 4, cells := 85, slots := 885, locals := 78 }) : Room)
abbrev rm_X12 : Room := (({ frames := 1, cells := 14, slots := 1063, locals := 12 }) : Room)
theorem i_X3 (l : Launch) (G : Gl) {N o w ci : Nat} (n : Int32) (hs : (sh o).1 = ci) (hci : Nat.blt ci 20 = true) (ho : o < N) (hf1 : (ftL.getD ci [])[0]? = some 0) (hf2 : (ftL.getD ci [])[1]? = some 2) (hp1 : okP "PenAcres$HandKind" 7 ci 0 .int true) (hp2 : okP "PenAcres$HandKind" 13 ci 1 (.object "java/lang/String") true) (M : Mm) : SJ l G Y_X3_init rm_X3 N eU vI N 0 0 0 (lv_args 0 [aR G o, .int n, aR G (1000 + w)]) [] M (some ((), kiM o n w M)) := by
  show SJ l G Y_X3_init rm_X3 N eU vI N 0 0 0 [(0, aR G o), (1, .int n), (2, aR G (1000 + w))] [] M _
  refine s_aload_n 0 dX3_init_0 rfl ?_
  refine s_obj dX3_init_1 wt_35 wt_27 wt_28 rfl rfl ?_
  refine s_aload_n 0 dX3_init_4 rfl ?_
  refine s_iload_n 1 dX3_init_5 rfl ?_
  refine s_putI (M' := setI M o 0 n) dX3_init_6 hp1 (fun _ => rfl) hf1 hci hs ho rfl rfl rfl ?_
  refine s_aload_n 0 dX3_init_9 rfl ?_
  refine s_aload_n 2 dX3_init_10 rfl ?_
  refine s_putR (v := 1000 + w) (M' := kiM o n w M) dX3_init_11 hp2 (fun _ => rfl) hf2 hci hs ho rfl rfl rfl ?_
  exact s_vret dX3_init_14 rfl
theorem i_X7 (l : Launch) (G : Gl) {N o w ci : Nat} (n : Int32) (hs : (sh o).1 = ci) (hci : Nat.blt ci 20 = true) (ho : o < N) (hf1 : (ftL.getD ci [])[0]? = some 0) (hf2 : (ftL.getD ci [])[1]? = some 2) (hp1 : okP "PenAcres$HandKind" 7 ci 0 .int true) (hp2 : okP "PenAcres$HandKind" 13 ci 1 (.object "java/lang/String") true) (M : Mm) : SJ l G Y_X7_init rm_X7 N eU vI N 0 0 0 (lv_args 0 [aR G o, .int n, aR G (1000 + w)]) [] M (some ((), kiM o n w M)) := by
  show SJ l G Y_X7_init rm_X7 N eU vI N 0 0 0 [(0, aR G o), (1, .int n), (2, aR G (1000 + w))] [] M _
  refine s_aload_n 0 dX7_init_0 rfl ?_
  refine s_iload_n 1 dX7_init_1 rfl ?_
  refine s_aload_n 2 dX7_init_2 rfl ?_
  refine s_invI2 (Rc := rm_X3) (Z := Y_X3_init) (st := []) dX7_init_3 ok_X3_init rfl wt_53 wt_33 rfl rfl [.int n, aR G (1000 + w)] rfl rfl rfl rfl ⟨rfl, rfl⟩ (i_X3 l G n hs hci ho hf1 hf2 hp1 hp2 M) ?_
  exact s_vret dX7_init_6 rfl
theorem i_X0 (l : Launch) (G : Gl) {N o w ci : Nat} (n : Int32) (hs : (sh o).1 = ci) (hci : Nat.blt ci 20 = true) (ho : o < N) (hf1 : (ftL.getD ci [])[0]? = some 0) (hf2 : (ftL.getD ci [])[1]? = some 2) (hp1 : okP "PenAcres$HandKind" 7 ci 0 .int true) (hp2 : okP "PenAcres$HandKind" 13 ci 1 (.object "java/lang/String") true) (M : Mm) : SJ l G Y_X0_init rm_X0 N eU vI N 0 0 0 (lv_args 0 [aR G o, .int n, aR G (1000 + w)]) [] M (some ((), kiM o n w M)) := by
  show SJ l G Y_X0_init rm_X0 N eU vI N 0 0 0 [(0, aR G o), (1, .int n), (2, aR G (1000 + w))] [] M _
  refine s_aload_n 0 dX0_init_0 rfl ?_
  refine s_iload_n 1 dX0_init_1 rfl ?_
  refine s_aload_n 2 dX0_init_2 rfl ?_
  refine s_invI2 (Rc := rm_X3) (Z := Y_X3_init) (st := []) dX0_init_3 ok_X3_init rfl wt_63 wt_33 rfl rfl [.int n, aR G (1000 + w)] rfl rfl rfl rfl ⟨rfl, rfl⟩ (i_X3 l G n hs hci ho hf1 hf2 hp1 hp2 M) ?_
  exact s_vret dX0_init_6 rfl
theorem i_X8 (l : Launch) (G : Gl) {N o w ci : Nat} (n : Int32) (hs : (sh o).1 = ci) (hci : Nat.blt ci 20 = true) (ho : o < N) (hf1 : (ftL.getD ci [])[0]? = some 0) (hf2 : (ftL.getD ci [])[1]? = some 2) (hp1 : okP "PenAcres$HandKind" 7 ci 0 .int true) (hp2 : okP "PenAcres$HandKind" 13 ci 1 (.object "java/lang/String") true) (M : Mm) : SJ l G Y_X8_init rm_X8 N eU vI N 0 0 0 (lv_args 0 [aR G o, .int n, aR G (1000 + w)]) [] M (some ((), kiM o n w M)) := by
  show SJ l G Y_X8_init rm_X8 N eU vI N 0 0 0 [(0, aR G o), (1, .int n), (2, aR G (1000 + w))] [] M _
  refine s_aload_n 0 dX8_init_0 rfl ?_
  refine s_iload_n 1 dX8_init_1 rfl ?_
  refine s_aload_n 2 dX8_init_2 rfl ?_
  refine s_invI2 (Rc := rm_X3) (Z := Y_X3_init) (st := []) dX8_init_3 ok_X3_init rfl wt_73 wt_33 rfl rfl [.int n, aR G (1000 + w)] rfl rfl rfl rfl ⟨rfl, rfl⟩ (i_X3 l G n hs hci ho hf1 hf2 hp1 hp2 M) ?_
  exact s_vret dX8_init_6 rfl
theorem i_X4 (l : Launch) (G : Gl) {N o w ci : Nat} (n : Int32) (hs : (sh o).1 = ci) (hci : Nat.blt ci 20 = true) (ho : o < N) (hf1 : (ftL.getD ci [])[0]? = some 0) (hf2 : (ftL.getD ci [])[1]? = some 2) (hp1 : okP "PenAcres$HandKind" 7 ci 0 .int true) (hp2 : okP "PenAcres$HandKind" 13 ci 1 (.object "java/lang/String") true) (M : Mm) : SJ l G Y_X4_init rm_X4 N eU vI N 0 0 0 (lv_args 0 [aR G o, .int n, aR G (1000 + w)]) [] M (some ((), kiM o n w M)) := by
  show SJ l G Y_X4_init rm_X4 N eU vI N 0 0 0 [(0, aR G o), (1, .int n), (2, aR G (1000 + w))] [] M _
  refine s_aload_n 0 dX4_init_0 rfl ?_
  refine s_iload_n 1 dX4_init_1 rfl ?_
  refine s_aload_n 2 dX4_init_2 rfl ?_
  refine s_invI2 (Rc := rm_X7) (Z := Y_X7_init) (st := []) dX4_init_3 ok_X7_init rfl wt_83 wt_51 rfl rfl [.int n, aR G (1000 + w)] rfl rfl rfl rfl ⟨rfl, rfl⟩ (i_X7 l G n hs hci ho hf1 hf2 hp1 hp2 M) ?_
  exact s_vret dX4_init_6 rfl
theorem i_X6 (l : Launch) (G : Gl) {N o w ci : Nat} (n : Int32) (hs : (sh o).1 = ci) (hci : Nat.blt ci 20 = true) (ho : o < N) (hf1 : (ftL.getD ci [])[0]? = some 0) (hf2 : (ftL.getD ci [])[1]? = some 2) (hp1 : okP "PenAcres$HandKind" 7 ci 0 .int true) (hp2 : okP "PenAcres$HandKind" 13 ci 1 (.object "java/lang/String") true) (M : Mm) : SJ l G Y_X6_init rm_X6 N eU vI N 0 0 0 (lv_args 0 [aR G o, .int n, aR G (1000 + w)]) [] M (some ((), kiM o n w M)) := by
  show SJ l G Y_X6_init rm_X6 N eU vI N 0 0 0 [(0, aR G o), (1, .int n), (2, aR G (1000 + w))] [] M _
  refine s_aload_n 0 dX6_init_0 rfl ?_
  refine s_iload_n 1 dX6_init_1 rfl ?_
  refine s_aload_n 2 dX6_init_2 rfl ?_
  refine s_invI2 (Rc := rm_X0) (Z := Y_X0_init) (st := []) dX6_init_3 ok_X0_init rfl wt_93 wt_61 rfl rfl [.int n, aR G (1000 + w)] rfl rfl rfl rfl ⟨rfl, rfl⟩ (i_X0 l G n hs hci ho hf1 hf2 hp1 hp2 M) ?_
  exact s_vret dX6_init_6 rfl
theorem i_X2 (l : Launch) (G : Gl) {o pl : Nat} (hs : (sh o).1 = 7) (h1 : sh (o + 1) = (20, 8)) (h2 : sh (o + 2) = (20, 8)) (ho : o + 2 < 101) {M : Mm} (hz : Dz (o + 1) M) : SJ l G Y_X2_init rm_X2 (o + 3) eU vI (o + 1) 0 0 0 (lv_args 0 [aR G o, aR G pl]) [] M (some ((), haM o pl M)) := by
  show SJ l G Y_X2_init rm_X2 (o + 3) eU vI (o + 1) 0 0 0 [(0, aR G o), (1, aR G pl)] [] M _
  refine s_aload_n 0 dX2_init_0 rfl ?_
  refine s_obj dX2_init_1 wt_109 wt_27 wt_28 rfl rfl ?_
  refine s_aload_n 0 dX2_init_4 rfl ?_
  refine s_aload_n 1 dX2_init_5 rfl ?_
  refine s_putR (M' := setR M o 0 (some pl)) dX2_init_6 okp_H_9_7 (fun h => by cases h) rfl rfl hs (by omega) rfl rfl rfl ?_
  refine s_aload_n 0 dX2_init_9 rfl ?_
  refine s_bipush (v := 8) dX2_init_10 (by decide) ?_
  refine s_newI (n := 8) dX2_init_12 wt_157 rfl (by decide) h1 (by omega) (hz.q (by omega)) ⟨rfl, rfl⟩ ?_
  refine s_putR (M' := setR (setR M o 0 (some pl)) o 5 (some (o + 1))) dX2_init_14 okp_H_15_7 (fun _ => rfl) rfl rfl hs (by omega) rfl rfl rfl ?_
  refine s_aload_n 0 dX2_init_17 rfl ?_
  refine s_bipush (v := 8) dX2_init_18 (by decide) ?_
  refine s_newI (n := 8) dX2_init_20 wt_157 rfl (by decide) h2 (by omega) (((hz.up (by omega)).q (by omega)).q (by omega)) ⟨rfl, rfl⟩ ?_
  refine s_putR (M' := haM o pl M) dX2_init_22 okp_H_19_7 (fun _ => rfl) rfl rfl hs (by omega) rfl rfl rfl ?_
  exact s_vret (R := rm_X2) dX2_init_25 rfl
theorem i_X10 (l : Launch) (G : Gl) {o : Nat} (hs : (sh o).1 = 9) (h1 : sh (o + 1) = (22, 120)) (ho : o + 1 < 101) {M : Mm} (hz : Dz (o + 1) M) : SJ l G Y_X10_init rm_X10 (o + 2) eU vI (o + 1) 0 0 0 (lv_args 0 [aR G o]) [] M (some ((), setR M o 1 (some (o + 1)))) := by
  show SJ l G Y_X10_init rm_X10 (o + 2) eU vI (o + 1) 0 0 0 [(0, aR G o)] [] M _
  refine s_aload_n 0 dX10_init_0 rfl ?_
  refine s_obj dX10_init_1 wt_186 wt_27 wt_28 rfl rfl ?_
  refine s_aload_n 0 dX10_init_4 rfl ?_
  refine s_bipush (v := 120) dX10_init_5 (by decide) ?_
  refine s_newC (n := 120) dX10_init_7 wt_207 rfl (by decide) h1 (by omega) hz ⟨rfl, rfl⟩ ?_
  refine s_putR (M' := setR M o 1 (some (o + 1))) dX10_init_9 okp_T_9_9 (fun _ => rfl) rfl rfl hs (by omega) rfl rfl rfl ?_
  exact s_vret (R := rm_X10) dX10_init_12 rfl
theorem i_X9 (l : Launch) (G : Gl) {o : Nat} (hs : (sh o).1 = 10) (h1 : sh (o + 1) = (21, 40)) (ho : o + 1 < 101) {M : Mm} (hz : Dz (o + 1) M) : SJ l G Y_X9_init rm_X9 (o + 2) eU vI (o + 1) 0 0 0 (lv_args 0 [aR G o]) [] M (some ((), setR M o 2 (some (o + 1)))) := by
  show SJ l G Y_X9_init rm_X9 (o + 2) eU vI (o + 1) 0 0 0 [(0, aR G o)] [] M _
  refine s_aload_n 0 dX9_init_0 rfl ?_
  refine s_obj dX9_init_1 wt_214 wt_27 wt_28 rfl rfl ?_
  refine s_aload_n 0 dX9_init_4 rfl ?_
  refine s_bipush (v := 40) dX9_init_5 (by decide) ?_
  refine s_newL (n := 40) dX9_init_7 wt_180 rfl (by decide) h1 (by omega) hz ⟨rfl, rfl⟩ ?_
  refine s_putR (M' := setR M o 2 (some (o + 1))) dX9_init_9 okp_S_9_10 (fun _ => rfl) rfl rfl hs (by omega) rfl rfl rfl ?_
  exact s_vret (R := rm_X9) dX9_init_12 rfl
