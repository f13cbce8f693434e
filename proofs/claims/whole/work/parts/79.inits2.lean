/-! the constructors of a land, of the class, of the reference -/
def laL (d pl : Nat) : Nat → Nat → Mm → Mm
  | 0, _, M => M
  | n + 1, i, M => laL d pl n (i + 1) (setR (haM (ho d i) pl M) (d + 1) i (some (ho d i)))
theorem laL_s (d pl n i : Nat) (M : Mm) : laL d pl (n + 1) i M = laL d pl n (i + 1) (setR (haM (ho d i) pl M) (d + 1) i (some (ho d i))) := rfl
def laE (d : Nat) (M : Mm) : Mm := setR (setR M d 4 (some (d + 20))) d 5 (some (d + 21))
def laM (d pl : Nat) (M : Mm) : Mm := laE d (laL d pl 6 0 (setR M d 3 (some (d + 1))))
theorem laL_z {d pl : Nat} : ∀ (n i : Nat) (M : Mm), Dz (d + 2 + 3 * i) M → Dz (d + 2 + 3 * (i + n)) (laL d pl n i M) := by
  intro n
  induction n with
  | zero => intro i M h; exact h
  | succ n ih =>
    intro i M h
    rw [laL_s, show i + (n + 1) = i + 1 + n by omega]
    refine ih (i + 1) _ (Dz.q ?_ (by omega))
    have : Dz (ho d i + 1) M := h.up (by unfold ho; omega)
    exact (haM_z this).up (by unfold ho; omega)
theorem laM_z {d pl : Nat} {M : Mm} (h : Dz (d + 1) M) : Dz (d + 22) (laM d pl M) := by
  have h1 : Dz (d + 2 + 3 * 0) (setR M d 3 (some (d + 1))) := (h.up (by omega)).q (by omega)
  have h2 := laL_z (pl := pl) 6 0 _ h1
  exact ((h2.up (by omega)).q (by omega)).q (by omega)
/-- a land's cells -/
def isLd (d : Nat) : Prop := (sh d).1 = 8 ∧ sh (d + 1) = (23, 6) ∧ (∀ i, i < 6 → (sh (ho d i)).1 = 7 ∧ sh (ho d i + 1) = (20, 8) ∧ sh (ho d i + 2) = (20, 8)) ∧ sh (d + 20) = (21, 6) ∧ sh (d + 21) = (20, 6) ∧ d + 21 < 101
theorem isLd_8 : isLd 8 := ⟨rfl, rfl, by decide, rfl, rfl, by decide⟩
theorem isLd_30 : isLd 30 := ⟨rfl, rfl, by decide, rfl, rfl, by decide⟩
theorem isLd_52 : isLd 52 := ⟨rfl, rfl, by decide, rfl, rfl, by decide⟩
theorem setR_g {M : Mm} {c k : Nat} {v : Option Nat} : (setR M c k v).2.2 c k = v := by simp [setR, va_up]
theorem setR_n {M : Mm} {c k c' k' : Nat} {v : Option Nat} (h : c' ≠ c ∨ k' ≠ k) : (setR M c k v).2.2 c' k' = M.2.2 c' k' := by
  by_cases q : c' = c
  · subst q
    have : k' ≠ k := by rcases h with h | h; exact absurd rfl h; exact h
    simp [setR, va_up, this]
  · simp [setR, va_up, q]
theorem haM_n {o pl c k : Nat} {M : Mm} (h : c ≠ o) : (haM o pl M).2.2 c k = M.2.2 c k := by
  unfold haM
  rw [setR_n (Or.inl h), setR_n (Or.inl h), setR_n (Or.inl h)]
theorem i_X5L (l : Launch) (G : Gl) {d pl : Nat} (hd : isLd d) : ∀ (n i : Nat) (M : Mm), i + n = 6 → Dz (d + 2 + 3 * i) M → M.2.2 d 3 = some (d + 1) → SJ l G Y_X5_init rm_X5 (d + 22) eU vI (d + 2 + 3 * i) (1 + 3 * i) (6 + 27 * i) 15 [(2, .int (nI i)), (0, aR G d), (1, aR G pl)] [] M (some ((), laE d (laL d pl n i M))) := by
  obtain ⟨s0, s1, s2, s3, s4, s5⟩ := hd
  intro n
  induction n with
  | zero =>
    intro i M hi hz hg
    have e : i = 6 := by omega
    subst e
    refine s_iload_n 0 dX5_init_15 rfl ?_
    refine s_bipush (v := 6) dX5_init_16 (by decide) ?_
    refine s_geY dX5_init_18 (tgt := 41) rfl (by decide) ?_
    refine s_cs (N' := d + 20) (cells' := 19) (slots' := 168) (by omega) rfl rfl ?_
    refine s_aload_n 1 dX5_init_41 rfl ?_
    refine s_bipush (v := 6) dX5_init_42 (by decide) ?_
    refine s_newL (n := 6) dX5_init_44 wt_180 rfl (by decide) s3 (by omega) (hz.up (by omega)) ⟨rfl, rfl⟩ ?_
    refine s_putR (M' := setR M d 4 (some (d + 20))) dX5_init_46 okp_L_20_8 (fun _ => rfl) rfl rfl s0 (by omega) rfl rfl rfl ?_
    refine s_aload_n 1 dX5_init_49 rfl ?_
    refine s_bipush (v := 6) dX5_init_50 (by decide) ?_
    refine s_newI (n := 6) dX5_init_52 wt_157 rfl (by decide) s4 (by omega) ((hz.up (by omega)).q (by omega)) ⟨rfl, rfl⟩ ?_
    refine s_putR (M' := laE d M) dX5_init_54 okp_L_24_8 (fun _ => rfl) rfl rfl s0 (by omega) rfl rfl rfl ?_
    exact s_vret (R := rm_X5) dX5_init_57 rfl
  | succ n ih =>
    intro i M hi hz hg
    obtain ⟨t1, t2, t3⟩ := s2 i (by omega)
    have ho1 : ho d i = d + 2 + 3 * i := by unfold ho; omega
    rw [laL_s]
    refine s_iload_n 0 dX5_init_15 rfl ?_
    refine s_bipush (v := 6) dX5_init_16 (by decide) ?_
    refine s_geN dX5_init_18 (tgt := 41) rfl (show ¬ (6 : Int32) ≤ nI i from nI_ge (b := 6) (by omega) (by decide)) ?_
    refine s_aload_n 1 dX5_init_21 rfl ?_
    refine s_getR (x := d + 1) dX5_init_22 okf_L_11_8 rfl rfl s0 (by omega) hg ?_
    refine s_iload_n 0 dX5_init_25 rfl ?_
    refine s_cs (N' := ho d i) (cells' := 1 + 3 * i) (slots' := 6 + 27 * i) ho1.symm rfl rfl ?_
    refine s_new (ci := 7) (nf := 11) dX5_init_26 okn_7 (fun Cn h => by cases h; exact wt_103) t1 rfl (by omega) (hz.up (by omega)) ⟨Nat.ble_eq_true_of_le (show 1 + 3 * i + 1 ≤ 21 by omega), Nat.ble_eq_true_of_le (show 6 + 27 * i + 11 ≤ 180 by omega)⟩ ?_
    refine s_dup dX5_init_29 rfl ?_
    refine s_aload_n 2 dX5_init_30 rfl ?_
    refine s_invI2 (Rc := rm_X2) (Z := Y_X2_init) (st := [aR G (ho d i), .int (nI i), aR G (d + 1)]) dX5_init_31 ok_X2_init rfl wt_106 wt_107 rfl rfl [aR G pl] rfl rfl rfl rfl ⟨Nat.ble_eq_true_of_le (show 1 + 3 * i + 1 + 2 ≤ 21 by omega), Nat.ble_eq_true_of_le (show 6 + 27 * i + 11 + 16 ≤ 180 by omega)⟩ (i_X2 l G t1 t2 t3 (by omega) (hz.up (by omega))) ?_
    refine s_aas (k := 3) (n := 6) (cc := d + 1) (x := ho d i) (i := i) (ci := 7) (E := RX2) dX5_init_34 (by decide) (by decide) rfl s1 (by omega) (by omega) t1 rfl rfl rfl (by omega) (by decide) (Or.inl rfl) ?_
    refine s_iinc (n := 1) (v := 1) 0 dX5_init_35 rfl (by decide) rfl rfl ?_
    refine s_goto dX5_init_38 (tgt := 15) rfl ?_
    refine s_cs (N' := d + 2 + 3 * (i + 1)) (cells' := 1 + 3 * (i + 1)) (slots' := 6 + 27 * (i + 1)) (by omega) (show 1 + 3 * i + 1 + 2 = _ by omega) (show 6 + 27 * i + 11 + 16 = _ by omega) ?_
    rw [nI_1]
    exact ih (i + 1) _ (by omega) (Dz.q ((haM_z (hz.up (by omega))).up (by omega)) (by omega)) (by rw [setR_n (Or.inl (by omega)), haM_n (by omega)]; exact hg)
theorem i_X5 (l : Launch) (G : Gl) {d pl : Nat} (hd : isLd d) {M : Mm} (hz : Dz (d + 1) M) : SJ l G Y_X5_init rm_X5 (d + 22) eU vI (d + 1) 0 0 0 (lv_args 0 [aR G d, aR G pl]) [] M (some ((), laM d pl M)) := by
  obtain ⟨s0, s1, s2, s3, s4, s5⟩ := id hd
  show SJ l G Y_X5_init rm_X5 (d + 22) eU vI (d + 1) 0 0 0 [(0, aR G d), (1, aR G pl)] [] M _
  refine s_aload_n 0 dX5_init_0 rfl ?_
  refine s_obj dX5_init_1 wt_102 wt_27 wt_28 rfl rfl ?_
  refine s_aload_n 0 dX5_init_4 rfl ?_
  refine s_bipush (v := 6) dX5_init_5 (by decide) ?_
  refine s_anew (k := 3) (n := 6) (Cn := RX2) dX5_init_7 wt_103 (by decide) (by decide) rfl rfl (by decide) s1 (by omega) hz ⟨rfl, rfl⟩ ?_
  refine s_putR (M' := setR M d 3 (some (d + 1))) dX5_init_10 okp_L_11_8 (fun _ => rfl) rfl rfl s0 (by omega) rfl rfl rfl ?_
  refine s_iconst (v := 0) dX5_init_13 (by decide) ?_
  refine s_istore_n dX5_init_14 (i := 2) rfl rfl rfl ?_
  exact i_X5L l G hd 6 0 _ rfl ((hz.up (by omega)).q (by omega)) setR_g
def moK : List Nat := [0, 1, 2, 3, 4, 6, 7, 8, 9, 10, 16, 17, 18, 19]
def moM : Nat → Mm → Mm
  | 0, M => M
  | n + 1, M => setR (moM n M) 86 (moK.getD n 0) (some (87 + n))
theorem i_X12 (l : Launch) (G : Gl) {M : Mm} (hz : Dz 87 M) : SJ l G Y_X12_init rm_X12 101 eU vI 87 0 0 0 (lv_args 0 [aR G 86]) [] M (some ((), moM 14 M)) := by
  show SJ l G Y_X12_init rm_X12 101 eU vI 87 0 0 0 [(0, aR G 86)] [] M _
  have hz0 : Dz 87 (moM 0 M) := hz
  show SJ l G Y_X12_init rm_X12 101 eU vI 87 0 0 0 [(0, aR G 86)] [] (moM 0 M) _
  refine s_aload_n 0 dX12_init_0 rfl ?_
  refine s_obj dX12_init_1 wt_914 wt_27 wt_28 rfl rfl ?_
  refine s_aload_n 0 dX12_init_4 rfl ?_
  refine s_sipush (v := 176) dX12_init_5 (by decide) ?_
  refine s_newI (n := 176) dX12_init_8 wt_157 rfl (by decide) rfl (by decide) hz0 ⟨rfl, rfl⟩ ?_
  refine s_putR (c := 86) (k := 0) (M' := moM 1 M) dX12_init_10 okp_M_7_11 (fun _ => rfl) rfl rfl rfl (by decide) rfl rfl rfl ?_
  have hz1 : Dz 88 (moM 1 M) := Dz.q (hz0.up (by decide)) (by decide)
  refine s_aload_n 0 dX12_init_13 rfl ?_
  refine s_sipush (v := 176) dX12_init_14 (by decide) ?_
  refine s_newI (n := 176) dX12_init_17 wt_157 rfl (by decide) rfl (by decide) hz1 ⟨rfl, rfl⟩ ?_
  refine s_putR (c := 86) (k := 1) (M' := moM 2 M) dX12_init_19 okp_M_13_11 (fun _ => rfl) rfl rfl rfl (by decide) rfl rfl rfl ?_
  have hz2 : Dz 89 (moM 2 M) := Dz.q (hz1.up (by decide)) (by decide)
  refine s_aload_n 0 dX12_init_22 rfl ?_
  refine s_sipush (v := 176) dX12_init_23 (by decide) ?_
  refine s_newI (n := 176) dX12_init_26 wt_157 rfl (by decide) rfl (by decide) hz2 ⟨rfl, rfl⟩ ?_
  refine s_putR (c := 86) (k := 2) (M' := moM 3 M) dX12_init_28 okp_M_16_11 (fun _ => rfl) rfl rfl rfl (by decide) rfl rfl rfl ?_
  have hz3 : Dz 90 (moM 3 M) := Dz.q (hz2.up (by decide)) (by decide)
  refine s_aload_n 0 dX12_init_31 rfl ?_
  refine s_sipush (v := 176) dX12_init_32 (by decide) ?_
  refine s_newI (n := 176) dX12_init_35 wt_157 rfl (by decide) rfl (by decide) hz3 ⟨rfl, rfl⟩ ?_
  refine s_putR (c := 86) (k := 3) (M' := moM 4 M) dX12_init_37 okp_M_19_11 (fun _ => rfl) rfl rfl rfl (by decide) rfl rfl rfl ?_
  have hz4 : Dz 91 (moM 4 M) := Dz.q (hz3.up (by decide)) (by decide)
  refine s_aload_n 0 dX12_init_40 rfl ?_
  refine s_bipush (v := 7) dX12_init_41 (by decide) ?_
  refine s_newI (n := 7) dX12_init_43 wt_157 rfl (by decide) rfl (by decide) hz4 ⟨rfl, rfl⟩ ?_
  refine s_putR (c := 86) (k := 4) (M' := moM 5 M) dX12_init_45 okp_M_22_11 (fun _ => rfl) rfl rfl rfl (by decide) rfl rfl rfl ?_
  have hz5 : Dz 92 (moM 5 M) := Dz.q (hz4.up (by decide)) (by decide)
  refine s_aload_n 0 dX12_init_48 rfl ?_
  refine s_bipush (v := 6) dX12_init_49 (by decide) ?_
  refine s_newL (n := 6) dX12_init_51 wt_180 rfl (by decide) rfl (by decide) hz5 ⟨rfl, rfl⟩ ?_
  refine s_putR (c := 86) (k := 6) (M' := moM 6 M) dX12_init_53 okp_M_25_11 (fun _ => rfl) rfl rfl rfl (by decide) rfl rfl rfl ?_
  have hz6 : Dz 93 (moM 6 M) := Dz.q (hz5.up (by decide)) (by decide)
  refine s_aload_n 0 dX12_init_56 rfl ?_
  refine s_bipush (v := 6) dX12_init_57 (by decide) ?_
  refine s_newL (n := 6) dX12_init_59 wt_180 rfl (by decide) rfl (by decide) hz6 ⟨rfl, rfl⟩ ?_
  refine s_putR (c := 86) (k := 7) (M' := moM 7 M) dX12_init_61 okp_M_29_11 (fun _ => rfl) rfl rfl rfl (by decide) rfl rfl rfl ?_
  have hz7 : Dz 94 (moM 7 M) := Dz.q (hz6.up (by decide)) (by decide)
  refine s_aload_n 0 dX12_init_64 rfl ?_
  refine s_bipush (v := 6) dX12_init_65 (by decide) ?_
  refine s_newI (n := 6) dX12_init_67 wt_157 rfl (by decide) rfl (by decide) hz7 ⟨rfl, rfl⟩ ?_
  refine s_putR (c := 86) (k := 8) (M' := moM 8 M) dX12_init_69 okp_M_32_11 (fun _ => rfl) rfl rfl rfl (by decide) rfl rfl rfl ?_
  have hz8 : Dz 95 (moM 8 M) := Dz.q (hz7.up (by decide)) (by decide)
  refine s_aload_n 0 dX12_init_72 rfl ?_
  refine s_bipush (v := 6) dX12_init_73 (by decide) ?_
  refine s_newI (n := 6) dX12_init_75 wt_157 rfl (by decide) rfl (by decide) hz8 ⟨rfl, rfl⟩ ?_
  refine s_putR (c := 86) (k := 9) (M' := moM 9 M) dX12_init_77 okp_M_35_11 (fun _ => rfl) rfl rfl rfl (by decide) rfl rfl rfl ?_
  have hz9 : Dz 96 (moM 9 M) := Dz.q (hz8.up (by decide)) (by decide)
  refine s_aload_n 0 dX12_init_80 rfl ?_
  refine s_bipush (v := 120) dX12_init_81 (by decide) ?_
  refine s_newI (n := 120) dX12_init_83 wt_157 rfl (by decide) rfl (by decide) hz9 ⟨rfl, rfl⟩ ?_
  refine s_putR (c := 86) (k := 10) (M' := moM 10 M) dX12_init_85 okp_M_38_11 (fun _ => rfl) rfl rfl rfl (by decide) rfl rfl rfl ?_
  have hz10 : Dz 97 (moM 10 M) := Dz.q (hz9.up (by decide)) (by decide)
  refine s_aload_n 0 dX12_init_88 rfl ?_
  refine s_iconst (v := 4) dX12_init_89 (by decide) ?_
  refine s_newI (n := 4) dX12_init_90 wt_157 rfl (by decide) rfl (by decide) hz10 ⟨rfl, rfl⟩ ?_
  refine s_putR (c := 86) (k := 16) (M' := moM 11 M) dX12_init_92 okp_M_41_11 (fun _ => rfl) rfl rfl rfl (by decide) rfl rfl rfl ?_
  have hz11 : Dz 98 (moM 11 M) := Dz.q (hz10.up (by decide)) (by decide)
  refine s_aload_n 0 dX12_init_95 rfl ?_
  refine s_iconst (v := 4) dX12_init_96 (by decide) ?_
  refine s_newI (n := 4) dX12_init_97 wt_157 rfl (by decide) rfl (by decide) hz11 ⟨rfl, rfl⟩ ?_
  refine s_putR (c := 86) (k := 17) (M' := moM 12 M) dX12_init_99 okp_M_44_11 (fun _ => rfl) rfl rfl rfl (by decide) rfl rfl rfl ?_
  have hz12 : Dz 99 (moM 12 M) := Dz.q (hz11.up (by decide)) (by decide)
  refine s_aload_n 0 dX12_init_102 rfl ?_
  refine s_sipush (v := 160) dX12_init_103 (by decide) ?_
  refine s_newL (n := 160) dX12_init_106 wt_180 rfl (by decide) rfl (by decide) hz12 ⟨rfl, rfl⟩ ?_
  refine s_putR (c := 86) (k := 18) (M' := moM 13 M) dX12_init_108 okp_M_47_11 (fun _ => rfl) rfl rfl rfl (by decide) rfl rfl rfl ?_
  have hz13 : Dz 100 (moM 13 M) := Dz.q (hz12.up (by decide)) (by decide)
  refine s_aload_n 0 dX12_init_111 rfl ?_
  refine s_bipush (v := 40) dX12_init_112 (by decide) ?_
  refine s_newL (n := 40) dX12_init_114 wt_180 rfl (by decide) rfl (by decide) hz13 ⟨rfl, rfl⟩ ?_
  refine s_putR (c := 86) (k := 19) (M' := moM 14 M) dX12_init_116 okp_M_50_11 (fun _ => rfl) rfl rfl rfl (by decide) rfl rfl rfl ?_
  have hz14 : Dz 101 (moM 14 M) := Dz.q (hz13.up (by decide)) (by decide)
  exact s_vret (R := rm_X12) dX12_init_119 rfl
