/-! the constructor of the class -/
def shF : Nat → Nat → Mm → Mm
  | 0, _, M => M
  | n + 1, i, M => shF n (i + 1) (setR (setR M (77 + 2 * i) 2 (some (77 + 2 * i + 1))) 76 i (some (77 + 2 * i)))
theorem shF_s (n i : Nat) (M : Mm) : shF (n + 1) i M = shF n (i + 1) (setR (setR M (77 + 2 * i) 2 (some (77 + 2 * i + 1))) 76 i (some (77 + 2 * i))) := rfl
theorem sh_sh : ∀ i, i < 4 → (sh (77 + 2 * i)).1 = 10 ∧ sh (77 + 2 * i + 1) = (21, 40) := by decide
theorem i_X11L (l : Launch) (G : Gl) : ∀ (n i : Nat) (M : Mm), i + n = 4 → Dz (77 + 2 * i) M → M.2.2 0 6 = some 76 → SJ l G Y_X11_init rm_X11 86 eU vI (77 + 2 * i) (76 + 2 * i) (706 + 43 * i) 150 [(2, .int (nI i)), (1, aR G 1), (0, aR G 0)] [] M (some ((), setR (shF n i M) 0 7 (some 85))) := by
  intro n
  induction n with
  | zero =>
    intro i M hi hz hg
    have e : i = 4 := by omega
    subst e
    refine s_iload_n 0 dX11_init_150 rfl ?_
    refine s_iconst (v := 4) dX11_init_151 (by decide) ?_
    refine s_geY dX11_init_152 (tgt := 174) rfl (by decide) ?_
    refine s_cs (N' := 85) (cells' := 84) (slots' := 878) rfl rfl rfl ?_
    refine s_aload_n 2 dX11_init_174 rfl ?_
    refine s_bipush (v := 7) dX11_init_175 (by decide) ?_
    refine s_newI (n := 7) dX11_init_177 wt_157 rfl (by decide) rfl (by decide) (hz.up (by decide)) ⟨rfl, rfl⟩ ?_
    refine s_putR (c := 0) (M' := setR M 0 7 (some 85)) dX11_init_179 okp_P_74_0 (fun _ => rfl) rfl rfl rfl (by decide) rfl rfl rfl ?_
    exact s_vret (R := rm_X11) dX11_init_182 rfl
  | succ n ih =>
    intro i M hi hz hg
    obtain ⟨t1, t2⟩ := sh_sh i (by omega)
    rw [shF_s]
    refine s_iload_n 0 dX11_init_150 rfl ?_
    refine s_iconst (v := 4) dX11_init_151 (by decide) ?_
    refine s_geN dX11_init_152 (tgt := 174) rfl (show ¬ (4 : Int32) ≤ nI i from nI_ge (b := 4) (by omega) (by decide)) ?_
    refine s_aload_n 2 dX11_init_155 rfl ?_
    refine s_getR (c := 0) (x := 76) dX11_init_156 okf_P_69_0 rfl rfl rfl (by omega) hg ?_
    refine s_iload_n 0 dX11_init_159 rfl ?_
    refine s_new (ci := 10) (nf := 3) dX11_init_160 okn_10 (fun Cn h => by cases h; exact wt_208) t1 rfl (by omega) hz ⟨Nat.ble_eq_true_of_le (show 76 + 2 * i + 1 ≤ 85 by omega), Nat.ble_eq_true_of_le (show 706 + 43 * i + 3 ≤ 885 by omega)⟩ ?_
    refine s_dup dX11_init_163 rfl ?_
    refine s_invI2 (Rc := rm_X9) (Z := Y_X9_init) (st := [aR G (77 + 2 * i), .int (nI i), aR G 76]) dX11_init_164 ok_X9_init rfl wt_211 wt_212 rfl rfl [] rfl rfl rfl rfl ⟨Nat.ble_eq_true_of_le (show 76 + 2 * i + 1 + 1 ≤ 85 by omega), Nat.ble_eq_true_of_le (show 706 + 43 * i + 3 + 40 ≤ 885 by omega)⟩ (i_X9 l G t1 t2 (by omega) (hz.up (by omega))) ?_
    refine s_aas (k := 5) (n := 4) (cc := 76) (x := 77 + 2 * i) (i := i) (ci := 10) (E := RX9) dX11_init_167 (by decide) (by decide) rfl rfl (by omega) (by omega) t1 rfl rfl rfl (by omega) (by decide) (Or.inl rfl) ?_
    refine s_iinc (n := 1) (v := 1) 0 dX11_init_168 rfl (by decide) rfl rfl ?_
    refine s_goto dX11_init_171 (tgt := 150) rfl ?_
    refine s_cs (N' := 77 + 2 * (i + 1)) (cells' := 76 + 2 * (i + 1)) (slots' := 706 + 43 * (i + 1)) (by omega) (show 76 + 2 * i + 1 + 1 = _ by omega) (show 706 + 43 * i + 3 + 40 = _ by omega) ?_
    rw [nI_1]
    exact ih (i + 1) _ (by omega) (((hz.up (by omega)).q (by omega)).q (by omega)) (by rw [setR_n (Or.inl (by omega)), setR_n (Or.inl (by omega))]; exact hg)
def pa1 (M : Mm) : Mm := kiM 1 0 0 (M)
def pa2 (M : Mm) : Mm := setR (pa1 M) 2 0 (some 1)
def pa3 (M : Mm) : Mm := kiM 3 1 1 (pa2 M)
def pa4 (M : Mm) : Mm := setR (pa3 M) 2 1 (some 3)
def pa5 (M : Mm) : Mm := kiM 4 2 2 (pa4 M)
def pa6 (M : Mm) : Mm := setR (pa5 M) 2 2 (some 4)
def pa7 (M : Mm) : Mm := kiM 5 3 3 (pa6 M)
def pa8 (M : Mm) : Mm := setR (pa7 M) 2 3 (some 5)
def pa9 (M : Mm) : Mm := kiM 6 4 4 (pa8 M)
def pa10 (M : Mm) : Mm := setR (pa9 M) 2 4 (some 6)
def pa11 (M : Mm) : Mm := kiM 7 5 5 (pa10 M)
def pa12 (M : Mm) : Mm := setR (pa11 M) 2 5 (some 7)
def pa13 (M : Mm) : Mm := setR (pa12 M) 0 0 (some 2)
def pa14 (M : Mm) : Mm := laM 8 1 (pa13 M)
def pa15 (M : Mm) : Mm := setR (pa14 M) 0 1 (some 8)
def pa16 (M : Mm) : Mm := laM 30 1 (pa15 M)
def pa17 (M : Mm) : Mm := setR (pa16 M) 0 2 (some 30)
def pa18 (M : Mm) : Mm := laM 52 1 (pa17 M)
def pa19 (M : Mm) : Mm := setR (pa18 M) 0 3 (some 52)
def pa20 (M : Mm) : Mm := setR (pa19 M) 74 1 (some 75)
def pa21 (M : Mm) : Mm := setR (pa20 M) 0 5 (some 74)
def pa22 (M : Mm) : Mm := setR (pa21 M) 0 6 (some 76)
def paM (M : Mm) : Mm := setR (shF 4 0 (pa22 M)) 0 7 (some 85)
theorem i_X11 (l : Launch) (G : Gl) {M : Mm} (hz0 : Dz 1 M) : SJ l G Y_X11_init rm_X11 86 eU vI 1 0 0 0 (lv_args 0 [aR G 0]) [] M (some ((), paM M)) := by
  show SJ l G Y_X11_init rm_X11 86 eU vI 1 0 0 0 [(0, aR G 0)] [] M _
  refine s_aload_n 0 dX11_init_0 rfl ?_
  refine s_obj dX11_init_1 wt_26 wt_27 wt_28 rfl rfl ?_
  refine s_new (ci := 1) (nf := 2) dX11_init_4 okn_1 (fun Cn h => by cases h; exact wt_29) rfl rfl (by decide) hz0 ⟨rfl, rfl⟩ ?_
  have hz1 : Dz 2 (M) := hz0.up (by decide)
  refine s_dup dX11_init_7 rfl ?_
  refine s_iconst (v := 0) dX11_init_8 (by decide) ?_
  refine s_ldcS 0 dX11_init_9 rfl ?_
  refine s_invI2 (c := 1) (Rc := rm_X3) (Z := Y_X3_init) (st := [aR G 1]) dX11_init_11 ok_X3_init rfl wt_32 wt_33 rfl rfl [.int 0, aR G (1000 + 0)] rfl rfl rfl rfl ⟨rfl, rfl⟩ (i_X3 l G (N := 2) (o := 1) (w := 0) (ci := 1) 0 rfl rfl (by decide) rfl rfl okp_K0_7_1 okp_K0_13_1 (M)) ?_
  have hz2 : Dz 2 (pa1 M) := kiM_z hz1 (by decide)
  show SJ _ _ _ _ _ _ _ _ _ _ _ _ _ (pa1 M) _
  refine s_astore_n dX11_init_14 (i := 1) rfl rfl rfl ?_
  refine s_aload_n 1 dX11_init_15 rfl ?_
  refine s_bipush (v := 6) dX11_init_16 (by decide) ?_
  refine s_anew (k := 4) (n := 6) (Cn := RX3) dX11_init_18 wt_29 (by decide) (by decide) rfl rfl (by decide) rfl (by decide) hz2 ⟨rfl, rfl⟩ ?_
  have hz3 : Dz 3 (pa1 M) := hz2.up (by decide)
  refine s_dup dX11_init_21 rfl ?_
  refine s_iconst (v := 0) dX11_init_22 (by decide) ?_
  refine s_aload_n 0 dX11_init_23 rfl ?_
  refine s_aas (k := 4) (n := 6) (cc := 2) (x := 1) (i := 0) (ci := 1) (E := RX3) dX11_init_24 (by decide) (by decide) rfl rfl (by decide) (by decide) rfl rfl rfl rfl (by decide) (by decide) (Or.inl rfl) ?_
  have hz4 : Dz 3 (pa2 M) := hz3.q (by decide)
  show SJ _ _ _ _ _ _ _ _ _ _ _ _ _ (pa2 M) _
  refine s_dup dX11_init_25 rfl ?_
  refine s_iconst (v := 1) dX11_init_26 (by decide) ?_
  refine s_new (ci := 2) (nf := 2) dX11_init_27 okn_2 (fun Cn h => by cases h; exact wt_47) rfl rfl (by decide) hz4 ⟨rfl, rfl⟩ ?_
  have hz5 : Dz 4 (pa2 M) := hz4.up (by decide)
  refine s_dup dX11_init_30 rfl ?_
  refine s_iconst (v := 1) dX11_init_31 (by decide) ?_
  refine s_ldcS 1 dX11_init_32 rfl ?_
  refine s_invI2 (c := 3) (Rc := rm_X7) (Z := Y_X7_init) (st := [aR G 3, .int 1, aR G 2, aR G 2, aR G 0]) dX11_init_34 ok_X7_init rfl wt_50 wt_51 rfl rfl [.int 1, aR G (1000 + 1)] rfl rfl rfl rfl ⟨rfl, rfl⟩ (i_X7 l G (N := 4) (o := 3) (w := 1) (ci := 2) 1 rfl rfl (by decide) rfl rfl okp_K0_7_2 okp_K0_13_2 (pa2 M)) ?_
  have hz6 : Dz 4 (pa3 M) := kiM_z hz5 (by decide)
  show SJ _ _ _ _ _ _ _ _ _ _ _ _ _ (pa3 M) _
  refine s_aas (k := 4) (n := 6) (cc := 2) (x := 3) (i := 1) (ci := 2) (E := RX3) dX11_init_37 (by decide) (by decide) rfl rfl (by decide) (by decide) rfl rfl rfl rfl (by decide) (by decide) (Or.inr ⟨rfl, by decide⟩) ?_
  have hz7 : Dz 4 (pa4 M) := hz6.q (by decide)
  show SJ _ _ _ _ _ _ _ _ _ _ _ _ _ (pa4 M) _
  refine s_dup dX11_init_38 rfl ?_
  refine s_iconst (v := 2) dX11_init_39 (by decide) ?_
  refine s_new (ci := 3) (nf := 2) dX11_init_40 okn_3 (fun Cn h => by cases h; exact wt_57) rfl rfl (by decide) hz7 ⟨rfl, rfl⟩ ?_
  have hz8 : Dz 5 (pa4 M) := hz7.up (by decide)
  refine s_dup dX11_init_43 rfl ?_
  refine s_iconst (v := 2) dX11_init_44 (by decide) ?_
  refine s_ldcS 2 dX11_init_45 rfl ?_
  refine s_invI2 (c := 4) (Rc := rm_X0) (Z := Y_X0_init) (st := [aR G 4, .int 2, aR G 2, aR G 2, aR G 0]) dX11_init_47 ok_X0_init rfl wt_60 wt_61 rfl rfl [.int 2, aR G (1000 + 2)] rfl rfl rfl rfl ⟨rfl, rfl⟩ (i_X0 l G (N := 5) (o := 4) (w := 2) (ci := 3) 2 rfl rfl (by decide) rfl rfl okp_K0_7_3 okp_K0_13_3 (pa4 M)) ?_
  have hz9 : Dz 5 (pa5 M) := kiM_z hz8 (by decide)
  show SJ _ _ _ _ _ _ _ _ _ _ _ _ _ (pa5 M) _
  refine s_aas (k := 4) (n := 6) (cc := 2) (x := 4) (i := 2) (ci := 3) (E := RX3) dX11_init_50 (by decide) (by decide) rfl rfl (by decide) (by decide) rfl rfl rfl rfl (by decide) (by decide) (Or.inr ⟨rfl, by decide⟩) ?_
  have hz10 : Dz 5 (pa6 M) := hz9.q (by decide)
  show SJ _ _ _ _ _ _ _ _ _ _ _ _ _ (pa6 M) _
  refine s_dup dX11_init_51 rfl ?_
  refine s_iconst (v := 3) dX11_init_52 (by decide) ?_
  refine s_new (ci := 4) (nf := 2) dX11_init_53 okn_4 (fun Cn h => by cases h; exact wt_67) rfl rfl (by decide) hz10 ⟨rfl, rfl⟩ ?_
  have hz11 : Dz 6 (pa6 M) := hz10.up (by decide)
  refine s_dup dX11_init_56 rfl ?_
  refine s_iconst (v := 3) dX11_init_57 (by decide) ?_
  refine s_ldcS 3 dX11_init_58 rfl ?_
  refine s_invI2 (c := 5) (Rc := rm_X8) (Z := Y_X8_init) (st := [aR G 5, .int 3, aR G 2, aR G 2, aR G 0]) dX11_init_60 ok_X8_init rfl wt_70 wt_71 rfl rfl [.int 3, aR G (1000 + 3)] rfl rfl rfl rfl ⟨rfl, rfl⟩ (i_X8 l G (N := 6) (o := 5) (w := 3) (ci := 4) 3 rfl rfl (by decide) rfl rfl okp_K0_7_4 okp_K0_13_4 (pa6 M)) ?_
  have hz12 : Dz 6 (pa7 M) := kiM_z hz11 (by decide)
  show SJ _ _ _ _ _ _ _ _ _ _ _ _ _ (pa7 M) _
  refine s_aas (k := 4) (n := 6) (cc := 2) (x := 5) (i := 3) (ci := 4) (E := RX3) dX11_init_63 (by decide) (by decide) rfl rfl (by decide) (by decide) rfl rfl rfl rfl (by decide) (by decide) (Or.inr ⟨rfl, by decide⟩) ?_
  have hz13 : Dz 6 (pa8 M) := hz12.q (by decide)
  show SJ _ _ _ _ _ _ _ _ _ _ _ _ _ (pa8 M) _
  refine s_dup dX11_init_64 rfl ?_
  refine s_iconst (v := 4) dX11_init_65 (by decide) ?_
  refine s_new (ci := 5) (nf := 2) dX11_init_66 okn_5 (fun Cn h => by cases h; exact wt_77) rfl rfl (by decide) hz13 ⟨rfl, rfl⟩ ?_
  have hz14 : Dz 7 (pa8 M) := hz13.up (by decide)
  refine s_dup dX11_init_69 rfl ?_
  refine s_iconst (v := 4) dX11_init_70 (by decide) ?_
  refine s_ldcS 4 dX11_init_71 rfl ?_
  refine s_invI2 (c := 6) (Rc := rm_X4) (Z := Y_X4_init) (st := [aR G 6, .int 4, aR G 2, aR G 2, aR G 0]) dX11_init_73 ok_X4_init rfl wt_80 wt_81 rfl rfl [.int 4, aR G (1000 + 4)] rfl rfl rfl rfl ⟨rfl, rfl⟩ (i_X4 l G (N := 7) (o := 6) (w := 4) (ci := 5) 4 rfl rfl (by decide) rfl rfl okp_K0_7_5 okp_K0_13_5 (pa8 M)) ?_
  have hz15 : Dz 7 (pa9 M) := kiM_z hz14 (by decide)
  show SJ _ _ _ _ _ _ _ _ _ _ _ _ _ (pa9 M) _
  refine s_aas (k := 4) (n := 6) (cc := 2) (x := 6) (i := 4) (ci := 5) (E := RX3) dX11_init_76 (by decide) (by decide) rfl rfl (by decide) (by decide) rfl rfl rfl rfl (by decide) (by decide) (Or.inr ⟨rfl, by decide⟩) ?_
  have hz16 : Dz 7 (pa10 M) := hz15.q (by decide)
  show SJ _ _ _ _ _ _ _ _ _ _ _ _ _ (pa10 M) _
  refine s_dup dX11_init_77 rfl ?_
  refine s_iconst (v := 5) dX11_init_78 (by decide) ?_
  refine s_new (ci := 6) (nf := 2) dX11_init_79 okn_6 (fun Cn h => by cases h; exact wt_87) rfl rfl (by decide) hz16 ⟨rfl, rfl⟩ ?_
  have hz17 : Dz 8 (pa10 M) := hz16.up (by decide)
  refine s_dup dX11_init_82 rfl ?_
  refine s_iconst (v := 5) dX11_init_83 (by decide) ?_
  refine s_ldcS 5 dX11_init_84 rfl ?_
  refine s_invI2 (c := 7) (Rc := rm_X6) (Z := Y_X6_init) (st := [aR G 7, .int 5, aR G 2, aR G 2, aR G 0]) dX11_init_86 ok_X6_init rfl wt_90 wt_91 rfl rfl [.int 5, aR G (1000 + 5)] rfl rfl rfl rfl ⟨rfl, rfl⟩ (i_X6 l G (N := 8) (o := 7) (w := 5) (ci := 6) 5 rfl rfl (by decide) rfl rfl okp_K0_7_6 okp_K0_13_6 (pa10 M)) ?_
  have hz18 : Dz 8 (pa11 M) := kiM_z hz17 (by decide)
  show SJ _ _ _ _ _ _ _ _ _ _ _ _ _ (pa11 M) _
  refine s_aas (k := 4) (n := 6) (cc := 2) (x := 7) (i := 5) (ci := 6) (E := RX3) dX11_init_89 (by decide) (by decide) rfl rfl (by decide) (by decide) rfl rfl rfl rfl (by decide) (by decide) (Or.inr ⟨rfl, by decide⟩) ?_
  have hz19 : Dz 8 (pa12 M) := hz18.q (by decide)
  show SJ _ _ _ _ _ _ _ _ _ _ _ _ _ (pa12 M) _
  refine s_putR (c := 0) (v := 2) (M' := setR (pa12 M) 0 0 (some 2)) dX11_init_90 okp_P_41_0 (fun _ => rfl) rfl rfl rfl (by decide) rfl rfl rfl ?_
  have hz20 : Dz 8 (pa13 M) := hz19.q (by decide)
  show SJ _ _ _ _ _ _ _ _ _ _ _ _ _ (pa13 M) _
  refine s_aload_n 1 dX11_init_93 rfl ?_
  refine s_new (ci := 8) (nf := 6) dX11_init_94 okn_8 (fun Cn h => by cases h; exact wt_97) rfl rfl (by decide) hz20 ⟨rfl, rfl⟩ ?_
  have hz21 : Dz 9 (pa13 M) := hz20.up (by decide)
  refine s_dup dX11_init_97 rfl ?_
  refine s_aload_n 0 dX11_init_98 rfl ?_
  refine s_invI2 (c := 8) (Rc := rm_X5) (Z := Y_X5_init) (st := [aR G 8, aR G 0]) dX11_init_99 ok_X5_init rfl wt_99 wt_100 rfl rfl [aR G 1] rfl rfl rfl rfl ⟨rfl, rfl⟩ (i_X5 l G isLd_8 hz21) ?_
  have hz22 : Dz 30 (pa14 M) := laM_z hz21
  show SJ _ _ _ _ _ _ _ _ _ _ _ _ _ (pa14 M) _
  refine s_putR (c := 0) (v := 8) (M' := setR (pa14 M) 0 1 (some 8)) dX11_init_102 okp_P_50_0 (fun _ => rfl) rfl rfl rfl (by decide) rfl rfl rfl ?_
  have hz23 : Dz 30 (pa15 M) := hz22.q (by decide)
  show SJ _ _ _ _ _ _ _ _ _ _ _ _ _ (pa15 M) _
  refine s_aload_n 1 dX11_init_105 rfl ?_
  refine s_new (ci := 8) (nf := 6) dX11_init_106 okn_8 (fun Cn h => by cases h; exact wt_97) rfl rfl (by decide) hz23 ⟨rfl, rfl⟩ ?_
  have hz24 : Dz 31 (pa15 M) := hz23.up (by decide)
  refine s_dup dX11_init_109 rfl ?_
  refine s_aload_n 0 dX11_init_110 rfl ?_
  refine s_invI2 (c := 30) (Rc := rm_X5) (Z := Y_X5_init) (st := [aR G 30, aR G 0]) dX11_init_111 ok_X5_init rfl wt_99 wt_100 rfl rfl [aR G 1] rfl rfl rfl rfl ⟨rfl, rfl⟩ (i_X5 l G isLd_30 hz24) ?_
  have hz25 : Dz 52 (pa16 M) := laM_z hz24
  show SJ _ _ _ _ _ _ _ _ _ _ _ _ _ (pa16 M) _
  refine s_putR (c := 0) (v := 30) (M' := setR (pa16 M) 0 2 (some 30)) dX11_init_114 okp_P_54_0 (fun _ => rfl) rfl rfl rfl (by decide) rfl rfl rfl ?_
  have hz26 : Dz 52 (pa17 M) := hz25.q (by decide)
  show SJ _ _ _ _ _ _ _ _ _ _ _ _ _ (pa17 M) _
  refine s_aload_n 1 dX11_init_117 rfl ?_
  refine s_new (ci := 8) (nf := 6) dX11_init_118 okn_8 (fun Cn h => by cases h; exact wt_97) rfl rfl (by decide) hz26 ⟨rfl, rfl⟩ ?_
  have hz27 : Dz 53 (pa17 M) := hz26.up (by decide)
  refine s_dup dX11_init_121 rfl ?_
  refine s_aload_n 0 dX11_init_122 rfl ?_
  refine s_invI2 (c := 52) (Rc := rm_X5) (Z := Y_X5_init) (st := [aR G 52, aR G 0]) dX11_init_123 ok_X5_init rfl wt_99 wt_100 rfl rfl [aR G 1] rfl rfl rfl rfl ⟨rfl, rfl⟩ (i_X5 l G isLd_52 hz27) ?_
  have hz28 : Dz 74 (pa18 M) := laM_z hz27
  show SJ _ _ _ _ _ _ _ _ _ _ _ _ _ (pa18 M) _
  refine s_putR (c := 0) (v := 52) (M' := setR (pa18 M) 0 3 (some 52)) dX11_init_126 okp_P_57_0 (fun _ => rfl) rfl rfl rfl (by decide) rfl rfl rfl ?_
  have hz29 : Dz 74 (pa19 M) := hz28.q (by decide)
  show SJ _ _ _ _ _ _ _ _ _ _ _ _ _ (pa19 M) _
  refine s_aload_n 1 dX11_init_129 rfl ?_
  refine s_new (ci := 9) (nf := 6) dX11_init_130 okn_9 (fun Cn h => by cases h; exact wt_181) rfl rfl (by decide) hz29 ⟨rfl, rfl⟩ ?_
  have hz30 : Dz 75 (pa19 M) := hz29.up (by decide)
  refine s_dup dX11_init_133 rfl ?_
  refine s_invI2 (c := 74) (Rc := rm_X10) (Z := Y_X10_init) (st := [aR G 74, aR G 0]) dX11_init_134 ok_X10_init rfl wt_183 wt_184 rfl rfl [] rfl rfl rfl rfl ⟨rfl, rfl⟩ (i_X10 l G (o := 74) rfl rfl (by decide) hz30) ?_
  have hz31 : Dz 76 (pa20 M) := (hz30.up (by decide)).q (by decide)
  show SJ _ _ _ _ _ _ _ _ _ _ _ _ _ (pa20 M) _
  refine s_putR (c := 0) (v := 74) (M' := setR (pa20 M) 0 5 (some 74)) dX11_init_137 okp_P_63_0 (fun _ => rfl) rfl rfl rfl (by decide) rfl rfl rfl ?_
  have hz32 : Dz 76 (pa21 M) := hz31.q (by decide)
  show SJ _ _ _ _ _ _ _ _ _ _ _ _ _ (pa21 M) _
  refine s_aload_n 1 dX11_init_140 rfl ?_
  refine s_iconst (v := 4) dX11_init_141 (by decide) ?_
  refine s_anew (k := 5) (n := 4) (Cn := RX9) dX11_init_142 wt_208 (by decide) (by decide) rfl rfl (by decide) rfl (by decide) hz32 ⟨rfl, rfl⟩ ?_
  have hz33 : Dz 77 (pa21 M) := hz32.up (by decide)
  refine s_putR (c := 0) (v := 76) (M' := setR (pa21 M) 0 6 (some 76)) dX11_init_145 okp_P_69_0 (fun _ => rfl) rfl rfl rfl (by decide) rfl rfl rfl ?_
  have hz34 : Dz 77 (pa22 M) := hz33.q (by decide)
  show SJ _ _ _ _ _ _ _ _ _ _ _ _ _ (pa22 M) _
  refine s_iconst (v := 0) dX11_init_148 (by decide) ?_
  refine s_istore_n dX11_init_149 (i := 2) rfl rfl rfl ?_
  exact i_X11L l G 4 0 (pa22 M) rfl hz34 setR_g
