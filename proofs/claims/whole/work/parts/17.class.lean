def f_P_within (v0 : Int32) (v1 : Int32) (v2 : Int32) (M : Nm) : Option (Int32 × Nm) := if v0 < v1 then (some (0, M)) else (if v2 < v0 then (some (0, M)) else (some (1, M)))
theorem c_P_within (l : Launch) (G : Gl) (v0 : Int32) (v1 : Int32) (v2 : Int32)  (M : Nm) : NJ l G Y_X11_within (zR 0 0) eI 0 (lv_args 0 [.int v0, .int v1, .int v2]) [] M (f_P_within v0 v1 v2 M) := by
  unfold f_P_within
  show NJ l G Y_X11_within (zR 0 0) eI 0 [(0, .int v0), (1, .int v1), (2, .int v2)] [] M _
  refine s_iload_n 0 dX11_within_0 rfl ?_
  refine s_iload_n 1 dX11_within_1 rfl ?_
  refine s_icmp_lt (tgt := 14) dX11_within_2 (by decide) (fun _ => ?_) (fun _ => ?_)
  · refine s_iconst (v := 0) dX11_within_14 (by decide) ?_
    exact n_zret0 dX11_within_15 rfl
  · refine s_iload_n 0 dX11_within_5 rfl ?_
    refine s_iload_n 2 dX11_within_6 rfl ?_
    refine s_icmp_gt (tgt := 14) dX11_within_7 (by decide) (fun _ => ?_) (fun _ => ?_)
    · refine s_iconst (v := 0) dX11_within_14 (by decide) ?_
      exact n_zret0 dX11_within_15 rfl
    · refine s_iconst (v := 1) dX11_within_10 (by decide) ?_
      refine s_goto (tgt := 15) dX11_within_11 (by decide) ?_
      exact n_zret1 dX11_within_15 rfl
def f_P_isCell (v0 : Int32) (M : Nm) : Option (Int32 × Nm) := bnd (f_P_within v0 0 47 M) fun r1 M2 => grd (decide (r1 = 0) || decide (r1 = 1)) (some (r1, M2))
theorem c_P_isCell (l : Launch) (G : Gl) (v0 : Int32)  (M : Nm) : NJ l G Y_X11_isCell (zR 1 22) eI 0 (lv_args 0 [.int v0]) [] M (f_P_isCell v0 M) := by
  unfold f_P_isCell
  show NJ l G Y_X11_isCell (zR 1 22) eI 0 [(0, .int v0)] [] M _
  refine s_iload_n 0 dX11_isCell_0 rfl ?_
  refine s_iconst (v := 0) dX11_isCell_1 (by decide) ?_
  refine s_bipush (v := 47) dX11_isCell_2 (by decide) ?_
  refine n_invS_i dX11_isCell_4 ok_X11_within rfl wt_260 wt_261 [.int v0, .int 0, .int 47] rfl rfl rfl rfl (c_P_within l G _ _ _ _) (fun r1 M2 => ?_)
  exact n_zretB dX11_isCell_7 rfl
def f_P_finding (v1 : Int32) (M : Nm) : Option (Int32 × Nm) := if ((-1000000001) - v1) < 0 then (some (v1, M)) else (if (nI 7) ≤ ((-1000000001) - v1) then (some (v1, M)) else (bl ((-1000000001) - v1) fun x1 => grd (inb x1 7) <| grd (inb x1 7) <| bl (mI M 85 (ix x1) ((M.1 85 (ix x1)) + 1)) fun M2 => some (v1, M2)))
theorem c_P_finding (l : Launch) (G : Gl) (v1 : Int32)  (M : Nm) : NJ l G Y_X11_finding (zR 0 0) eI 0 (lv_args 0 [aR G 0, .int v1]) [] M (f_P_finding v1 M) := by
  unfold f_P_finding
  show NJ l G Y_X11_finding (zR 0 0) eI 0 [(0, aR G 0), (1, .int v1)] [] M _
  refine s_ldc (v := (-1000000001)) dX11_finding_0 wt_263 ?_
  refine s_iload_n 1 dX11_finding_2 rfl ?_
  refine s_isub dX11_finding_3 ?_
  refine s_istore_n (i := 2) (lv' := [(2, .int ((-1000000001) - v1)), (0, aR G 0), (1, .int v1)]) dX11_finding_4 rfl rfl rfl ?_
  refine s_iload_n 0 dX11_finding_5 rfl ?_
  refine s_if_lt (tgt := 28) dX11_finding_6 (by decide) (fun _ => ?_) (fun _ => ?_)
  · refine s_iload_n 2 dX11_finding_28 rfl ?_
    exact n_iret dX11_finding_29 rfl
  · refine s_iload_n 0 dX11_finding_9 rfl ?_
    refine s_aload_n 1 dX11_finding_10 rfl ?_
    refine n_getR (x := 85) dX11_finding_11 okf_P_74_0 rfl rfl so_0 (sh_lt so_0 rfl) rfl ?_
    refine n_len 0 dX11_finding_14 rfl sa_85 ?_
    refine s_icmp_ge (tgt := 28) dX11_finding_15 (by decide) (fun _ => ?_) (fun _ => ?_)
    · refine s_iload_n 2 dX11_finding_28 rfl ?_
      exact n_iret dX11_finding_29 rfl
    · refine s_aload_n 1 dX11_finding_18 rfl ?_
      refine n_getR (x := 85) dX11_finding_19 okf_P_74_0 rfl rfl so_0 (sh_lt so_0 rfl) rfl ?_
      refine s_iload_n 0 dX11_finding_22 rfl ?_
      refine s_topi (fun x1 => ?_)
      refine s_dup2 dX11_finding_23 rfl rfl ?_
      refine n_ial dX11_finding_24 sa_85 ?_
      refine s_iconst (v := 1) dX11_finding_25 (by decide) ?_
      refine s_iadd dX11_finding_26 ?_
      refine n_ias dX11_finding_27 sa_85 ?_
      refine s_topM (fun M2 => ?_)
      refine s_iload_n 2 dX11_finding_28 rfl ?_
      exact n_iret dX11_finding_29 rfl
def f_P_bitOf (v0 : Int64) (v2 : Int32) (M : Nm) : Option (Int32 × Nm) := some ((((v0.toUInt64 >>> (v2.toInt64.toUInt64 &&& Int64.toUInt64 63)).toInt64) &&& 1).toInt32, M)
theorem c_P_bitOf (l : Launch) (G : Gl) (v0 : Int64) (v2 : Int32)  (M : Nm) : NJ l G Y_X11_bitOf (zR 0 0) eI 0 (lv_args 0 [.long v0, .int v2]) [] M (f_P_bitOf v0 v2 M) := by
  unfold f_P_bitOf
  show NJ l G Y_X11_bitOf (zR 0 0) eI 0 [(0, .long v0), (2, .int v2)] [] M _
  refine s_lload_n 0 dX11_bitOf_0 rfl ?_
  refine s_iload_n 1 dX11_bitOf_1 rfl ?_
  refine s_lushr dX11_bitOf_2 ?_
  refine s_lconst (v := 1) dX11_bitOf_3 (by decide) ?_
  refine s_land dX11_bitOf_4 ?_
  refine s_l2i dX11_bitOf_5 ?_
  exact n_iret dX11_bitOf_6 rfl
def f_L_makeSmudged (o : Nat) (v1 : Int32) (v2 : Int32) (M : Nm) : Option (Unit × Nm) := if v2 = 0 then (bnd (f_G_bit v1 M) fun r1 M2 => bl (mL M2 o 0 ((M.2.1 o 0) &&& (r1 ^^^ (-1)))) fun M3 => some ((), M3)) else (bnd (f_G_bit v1 M) fun r4 M5 => bl (mL M5 o 0 ((M.2.1 o 0) ||| r4)) fun M6 => some ((), M6))
theorem c_L_makeSmudged (l : Launch) (G : Gl) (o : Nat) (v1 : Int32) (v2 : Int32) (ho : (sh o).1 = 8) (M : Nm) : NJ l G Y_X5_makeSmudged (zR 1 20) eU 0 (lv_args 0 [aR G o, .int v1, .int v2]) [] M (f_L_makeSmudged o v1 v2 M) := by
  unfold f_L_makeSmudged
  show NJ l G Y_X5_makeSmudged (zR 1 20) eU 0 [(0, aR G o), (1, .int v1), (2, .int v2)] [] M _
  refine s_aload_n 0 dX5_makeSmudged_0 rfl ?_
  refine s_iload_n 2 dX5_makeSmudged_1 rfl ?_
  refine s_if_eq (tgt := 17) dX5_makeSmudged_2 (by decide) (fun _ => ?_) (fun _ => ?_)
  · refine s_aload_n 0 dX5_makeSmudged_17 rfl ?_
    refine n_getL dX5_makeSmudged_18 okf_L_28_8 rfl rfl ho (sh_lt ho rfl) ?_
    refine s_iload_n 1 dX5_makeSmudged_21 rfl ?_
    refine n_invS_l dX5_makeSmudged_22 ok_X1_bit rfl wt_275 wt_276 [.int v1] rfl rfl rfl rfl (c_G_bit l G _ _) (fun r1 M2 => ?_)
    refine s_ldc2 (v := (-1)) dX5_makeSmudged_25 wt_278 ?_
    refine s_lxor dX5_makeSmudged_28 ?_
    refine s_land dX5_makeSmudged_29 ?_
    refine n_putL dX5_makeSmudged_30 okp_L_28_8 rfl rfl ho (sh_lt ho rfl) ?_
    refine s_topM (fun M3 => ?_)
    exact n_vret dX5_makeSmudged_33 rfl
  · refine s_aload_n 0 dX5_makeSmudged_5 rfl ?_
    refine n_getL dX5_makeSmudged_6 okf_L_28_8 rfl rfl ho (sh_lt ho rfl) ?_
    refine s_iload_n 1 dX5_makeSmudged_9 rfl ?_
    refine n_invS_l dX5_makeSmudged_10 ok_X1_bit rfl wt_275 wt_276 [.int v1] rfl rfl rfl rfl (c_G_bit l G _ _) (fun r4 M5 => ?_)
    refine s_lor dX5_makeSmudged_13 ?_
    refine s_goto (tgt := 30) dX5_makeSmudged_14 (by decide) ?_
    refine n_putL dX5_makeSmudged_30 okp_L_28_8 rfl rfl ho (sh_lt ho rfl) ?_
    refine s_topM (fun M6 => ?_)
    exact n_vret dX5_makeSmudged_33 rfl
def f_P_smudge (v1 : Int32) (v2 : Int32) (M : Nm) : Option (Int32 × Nm) := bnd (f_P_isCell v1 M) fun r1 M2 => if r1 = 0 then (bnd (f_P_finding (-1000000001) M2) fun r3 M4 => some (r3, M4)) else (bnd (f_P_within v2 0 1 M2) fun r5 M6 => if r5 = 0 then (bnd (f_P_finding (-1000000001) M6) fun r7 M8 => some (r7, M8)) else (bnd (f_P_bitOf (M6.2.1 8 0) v1 M6) fun r9 M10 => if v2 = 1 then (bnd (f_L_makeSmudged 8 v1 1 M10) fun r11 M12 => some (r9, M12)) else (bnd (f_L_makeSmudged 8 v1 0 M10) fun r13 M14 => some (r9, M14))))
theorem c_P_smudge (l : Launch) (G : Gl) (v1 : Int32) (v2 : Int32)  (M : Nm) : NJ l G Y_X11_smudge (zR 2 42) eI 0 (lv_args 0 [aR G 0, .int v1, .int v2]) [] M (f_P_smudge v1 v2 M) := by
  unfold f_P_smudge
  show NJ l G Y_X11_smudge (zR 2 42) eI 0 [(0, aR G 0), (1, .int v1), (2, .int v2)] [] M _
  refine s_iload_n 1 dX11_smudge_0 rfl ?_
  refine n_invS_i dX11_smudge_1 ok_X11_isCell rfl wt_257 wt_258 [.int v1] rfl rfl rfl rfl (c_P_isCell l G _ _) (fun r1 M2 => ?_)
  refine s_if_eq (tgt := 16) dX11_smudge_4 (by decide) (fun _ => ?_) (fun _ => ?_)
  · refine s_aload_n 0 dX11_smudge_16 rfl ?_
    refine s_ldc (v := (-1000000001)) dX11_smudge_17 wt_263 ?_
    refine n_invV_i dX11_smudge_19 ok_X11_finding rfl wt_264 wt_266 ws_0 (ci := 0) rfl rfl so_0 (sh_lt so_0 rfl) [.int (-1000000001)] rfl rfl rfl rfl (c_P_finding l G _ _) (fun r3 M4 => ?_)
    exact n_iret dX11_smudge_22 rfl
  · refine s_iload_n 2 dX11_smudge_7 rfl ?_
    refine s_iconst (v := 0) dX11_smudge_8 (by decide) ?_
    refine s_iconst (v := 1) dX11_smudge_9 (by decide) ?_
    refine n_invS_i dX11_smudge_10 ok_X11_within rfl wt_260 wt_261 [.int v2, .int 0, .int 1] rfl rfl rfl rfl (c_P_within l G _ _ _ _) (fun r5 M6 => ?_)
    refine s_if_ne (tgt := 23) dX11_smudge_13 (by decide) (fun _ => ?_) (fun _ => ?_)
    · refine s_aload_n 0 dX11_smudge_16 rfl ?_
      refine s_ldc (v := (-1000000001)) dX11_smudge_17 wt_263 ?_
      refine n_invV_i dX11_smudge_19 ok_X11_finding rfl wt_264 wt_266 ws_0 (ci := 0) rfl rfl so_0 (sh_lt so_0 rfl) [.int (-1000000001)] rfl rfl rfl rfl (c_P_finding l G _ _) (fun r7 M8 => ?_)
      exact n_iret dX11_smudge_22 rfl
    · refine s_aload_n 0 dX11_smudge_23 rfl ?_
      refine n_getR (x := 8) dX11_smudge_24 okf_P_50_0 rfl rfl so_0 (sh_lt so_0 rfl) rfl ?_
      refine n_getL dX11_smudge_27 okf_P_91_8 rfl rfl so_8 (sh_lt so_8 rfl) ?_
      refine s_iload_n 1 dX11_smudge_30 rfl ?_
      refine n_invS_i dX11_smudge_31 ok_X11_bitOf rfl wt_268 wt_269 [.long (M6.2.1 8 0), .int v1] rfl rfl rfl rfl (c_P_bitOf l G _ _ _) (fun r9 M10 => ?_)
      refine s_istore_n (i := 3) (lv' := [(3, .int r9), (0, aR G 0), (1, .int v1), (2, .int v2)]) dX11_smudge_34 rfl rfl rfl ?_
      refine s_aload_n 1 dX11_smudge_35 rfl ?_
      refine n_getR (x := 8) dX11_smudge_36 okf_P_50_0 rfl rfl so_0 (sh_lt so_0 rfl) rfl ?_
      refine s_iload_n 2 dX11_smudge_39 rfl ?_
      refine s_iload_n 3 dX11_smudge_40 rfl ?_
      refine s_iconst (v := 1) dX11_smudge_41 (by decide) ?_
      refine s_icmp_ne (tgt := 49) dX11_smudge_42 (by decide) (fun _ => ?_) (fun _ => ?_)
      · refine s_iconst (v := 1) dX11_smudge_45 (by decide) ?_
        refine s_goto (tgt := 50) dX11_smudge_46 (by decide) ?_
        refine n_invV_u dX11_smudge_50 ok_X5_makeSmudged rfl wt_271 wt_272 wt_273 (ci := 8) rfl rfl so_8 (sh_lt so_8 rfl) [.int v1, .int 1] rfl rfl rfl rfl (c_L_makeSmudged l G _ _ _ so_8 _) (fun r11 M12 => ?_)
        refine s_iload_n 0 dX11_smudge_53 rfl ?_
        exact n_iret dX11_smudge_54 rfl
      · refine s_iconst (v := 0) dX11_smudge_49 (by decide) ?_
        refine n_invV_u dX11_smudge_50 ok_X5_makeSmudged rfl wt_271 wt_272 wt_273 (ci := 8) rfl rfl so_8 (sh_lt so_8 rfl) [.int v1, .int 0] rfl rfl rfl rfl (c_L_makeSmudged l G _ _ _ so_8 _) (fun r13 M14 => ?_)
        refine s_iload_n 0 dX11_smudge_53 rfl ?_
        exact n_iret dX11_smudge_54 rfl
def f_H_lineUnder (o : Nat) (v1 : Int64) (M : Nm) : Option (Int64 × Nm) := some ((M.2.1 o 7) &&& (v1 ^^^ (-1)), M)
theorem c_H_lineUnder (l : Launch) (G : Gl) (o : Nat) (v1 : Int64) (ho : (sh o).1 = 7) (M : Nm) : NJ l G Y_X2_lineUnder (zR 0 0) eL 0 (lv_args 0 [aR G o, .long v1]) [] M (f_H_lineUnder o v1 M) := by
  unfold f_H_lineUnder
  show NJ l G Y_X2_lineUnder (zR 0 0) eL 0 [(0, aR G o), (1, .long v1)] [] M _
  refine s_aload_n 0 dX2_lineUnder_0 rfl ?_
  refine n_getL dX2_lineUnder_1 okf_H_41_7 rfl rfl ho (sh_lt ho rfl) ?_
  refine s_lload_n 1 dX2_lineUnder_4 rfl ?_
  refine s_ldc2 (v := (-1)) dX2_lineUnder_5 wt_291 ?_
  refine s_lxor dX2_lineUnder_8 ?_
  refine s_land dX2_lineUnder_9 ?_
  exact n_lret dX2_lineUnder_10 rfl
def f_L_handsOnWhoseLines_L4  (c0 : Nat) (v1 : Int32) : Nat → Int32 → Int32 → Nm → Option (Int32 × Nm)
  | 0, _, _, _ => none
  | f + 1, v2, v3, M => if (M.1 c0 2) ≤ v3 then (some (v2, M)) else (grd (inb v3 6) <| bnd (f_H_lineUnder (hnd c0 v3) (M.2.1 c0 0) M) fun r2 M3 => bnd (f_P_bitOf r2 v1 M3) fun r4 M5 => bl (v2 ||| (r4 <<< (v3 &&& 31))) fun x6 => f_L_handsOnWhoseLines_L4 c0 v1 f x6 (v3 + 1) M5)
theorem c_L_handsOnWhoseLines_L4 (l : Launch) (G : Gl)  (c0 : Nat) (v1 : Int32) (hc0 : (sh c0).1 = 8)  : ∀ (f : Nat) (v2 : Int32) (v3 : Int32)  (M : Nm), NJ l G Y_X5_handsOnWhoseLines (zR 1 22) eI 4 [(0, aR G c0), (1, .int v1), (2, .int v2), (3, .int v3)] [] M (f_L_handsOnWhoseLines_L4 c0 v1 f v2 v3 M) := by
  intro f
  induction f with
  | zero => intro v2 v3 M; exact s_none
  | succ f ih =>
    intro v2 v3 M
    rw [f_L_handsOnWhoseLines_L4]
    refine s_iload_n 3 dX5_handsOnWhoseLines_4 rfl ?_
    refine s_aload_n 0 dX5_handsOnWhoseLines_5 rfl ?_
    refine n_getI dX5_handsOnWhoseLines_6 okf_L_36_8 rfl rfl hc0 (sh_lt hc0 rfl) ?_
    refine s_icmp_ge (tgt := 40) dX5_handsOnWhoseLines_9 (by decide) (fun _ => ?_) (fun _ => ?_)
    · refine s_iload_n 2 dX5_handsOnWhoseLines_40 rfl ?_
      exact n_iret dX5_handsOnWhoseLines_41 rfl
    · refine s_iload_n 2 dX5_handsOnWhoseLines_12 rfl ?_
      refine s_aload_n 0 dX5_handsOnWhoseLines_13 rfl ?_
      refine n_getR (x := (c0 + 1)) dX5_handsOnWhoseLines_14 okf_L_11_8 rfl rfl hc0 (sh_lt hc0 rfl) (r_rows hc0) ?_
      refine s_iload_n 3 dX5_handsOnWhoseLines_17 rfl ?_
      refine n_aal (x := (hnd c0 v3)) 3 ⟨rfl, rfl⟩ dX5_handsOnWhoseLines_18 (ly_rows hc0) (r_hnd hc0) (fun h1 => ?_)
      refine s_aload_n 0 dX5_handsOnWhoseLines_19 rfl ?_
      refine n_getL dX5_handsOnWhoseLines_20 okf_L_28_8 rfl rfl hc0 (sh_lt hc0 rfl) ?_
      refine n_invV_l dX5_handsOnWhoseLines_23 ok_X2_lineUnder rfl wt_287 wt_288 wt_289 (ci := 7) rfl rfl (ly_hnd hc0 h1) (sh_lt (ly_hnd hc0 h1) rfl) [.long (M.2.1 c0 0)] rfl rfl rfl rfl (c_H_lineUnder l G _ _ (ly_hnd hc0 h1) _) (fun r2 M3 => ?_)
      refine s_iload_n 1 dX5_handsOnWhoseLines_26 rfl ?_
      refine n_invSN_i rfl rfl rfl dX5_handsOnWhoseLines_27 ok_X11_bitOf rfl wt_269 [.long r2, .int v1] rfl rfl rfl rfl (c_P_bitOf l G _ _ _) (fun r4 M5 => ?_)
      refine s_iload_n 3 dX5_handsOnWhoseLines_30 rfl ?_
      refine s_ishl dX5_handsOnWhoseLines_31 ?_
      refine s_ior dX5_handsOnWhoseLines_32 ?_
      refine s_topi (fun x6 => ?_)
      refine s_istore_n (i := 2) (lv' := [(2, .int x6), (0, aR G c0), (1, .int v1), (3, .int v3)]) dX5_handsOnWhoseLines_33 rfl rfl rfl ?_
      refine s_iinc (v := 1) (lv' := [(3, .int (v3 + 1)), (2, .int x6), (0, aR G c0), (1, .int v1)]) 3 dX5_handsOnWhoseLines_34 rfl (by decide) rfl rfl ?_
      refine s_goto (tgt := 4) dX5_handsOnWhoseLines_37 (by decide) ?_
      refine s_lv [2, 3, 1, 0] (lv' := [(0, aR G c0), (1, .int v1), (2, .int x6), (3, .int (v3 + 1))]) rfl ?_
      exact ih _ _ _
def f_L_handsOnWhoseLines (o : Nat) (v1 : Int32) (M : Nm) : Option (Int32 × Nm) := f_L_handsOnWhoseLines_L4 o v1 FU 0 0 M
theorem c_L_handsOnWhoseLines (l : Launch) (G : Gl) (o : Nat) (v1 : Int32) (ho : (sh o).1 = 8) (M : Nm) : NJ l G Y_X5_handsOnWhoseLines (zR 1 22) eI 0 (lv_args 0 [aR G o, .int v1]) [] M (f_L_handsOnWhoseLines o v1 M) := by
  unfold f_L_handsOnWhoseLines
  show NJ l G Y_X5_handsOnWhoseLines (zR 1 22) eI 0 [(0, aR G o), (1, .int v1)] [] M _
  refine s_iconst (v := 0) dX5_handsOnWhoseLines_0 (by decide) ?_
  refine s_istore_n (i := 2) (lv' := [(2, .int 0), (0, aR G o), (1, .int v1)]) dX5_handsOnWhoseLines_1 rfl rfl rfl ?_
  refine s_iconst (v := 0) dX5_handsOnWhoseLines_2 (by decide) ?_
  refine s_istore_n (i := 3) (lv' := [(3, .int 0), (2, .int 0), (0, aR G o), (1, .int v1)]) dX5_handsOnWhoseLines_3 rfl rfl rfl ?_
  refine s_lv [2, 3, 1, 0] (lv' := [(0, aR G o), (1, .int v1), (2, .int 0), (3, .int 0)]) rfl ?_
  refine c_L_handsOnWhoseLines_L4 l G _ _ ho FU _ _ _
def f_H_insideUnder (o : Nat) (v1 : Int64) (M : Nm) : Option (Int64 × Nm) := bnd (f_H_lineUnder o v1 M) fun r1 M2 => if (lg_cmp r1 (M2.2.1 o 9)) = 0 then (some (M2.2.1 o 10, M2)) else (bl (mL M2 o 9 r1) fun M3 => bnd (f_G_enclosedBy r1 M3) fun r4 M5 => bl (mL M5 o 10 r4) fun M6 => some (M6.2.1 o 10, M6))
theorem c_H_insideUnder (l : Launch) (G : Gl) (o : Nat) (v1 : Int64) (ho : (sh o).1 = 7) (M : Nm) : NJ l G Y_X2_insideUnder (zR 2 55) eL 0 (lv_args 0 [aR G o, .long v1]) [] M (f_H_insideUnder o v1 M) := by
  unfold f_H_insideUnder
  show NJ l G Y_X2_insideUnder (zR 2 55) eL 0 [(0, aR G o), (1, .long v1)] [] M _
  refine s_aload_n 0 dX2_insideUnder_0 rfl ?_
  refine s_lload_n 1 dX2_insideUnder_1 rfl ?_
  refine n_invV_l dX2_insideUnder_2 ok_X2_lineUnder rfl wt_301 wt_288 wt_289 (ci := 7) rfl rfl ho (sh_lt ho rfl) [.long v1] rfl rfl rfl rfl (c_H_lineUnder l G _ _ ho _) (fun r1 M2 => ?_)
  refine s_lstore_n (i := 3) (lv' := [(3, .long r1), (0, aR G o), (1, .long v1)]) dX2_insideUnder_5 rfl rfl rfl ?_
  refine s_lload_n 0 dX2_insideUnder_6 rfl ?_
  refine s_aload_n 1 dX2_insideUnder_7 rfl ?_
  refine n_getL dX2_insideUnder_8 okf_H_54_7 rfl rfl ho (sh_lt ho rfl) ?_
  refine s_lcmp dX2_insideUnder_11 ?_
  refine s_if_eq (tgt := 28) dX2_insideUnder_12 (by decide) (fun _ => ?_) (fun _ => ?_)
  · refine s_aload_n 1 dX2_insideUnder_28 rfl ?_
    refine n_getL dX2_insideUnder_29 okf_H_57_7 rfl rfl ho (sh_lt ho rfl) ?_
    exact n_lret dX2_insideUnder_32 rfl
  · refine s_aload_n 1 dX2_insideUnder_15 rfl ?_
    refine s_lload_n 0 dX2_insideUnder_16 rfl ?_
    refine n_putL dX2_insideUnder_17 okp_H_54_7 rfl rfl ho (sh_lt ho rfl) ?_
    refine s_topM (fun M3 => ?_)
    refine s_aload_n 1 dX2_insideUnder_20 rfl ?_
    refine s_lload_n 0 dX2_insideUnder_21 rfl ?_
    refine n_invS_l dX2_insideUnder_22 ok_X1_enclosedBy rfl wt_302 wt_303 [.long r1] rfl rfl rfl rfl (c_G_enclosedBy l G _ _) (fun r4 M5 => ?_)
    refine n_putL dX2_insideUnder_25 okp_H_57_7 rfl rfl ho (sh_lt ho rfl) ?_
    refine s_topM (fun M6 => ?_)
    refine s_aload_n 1 dX2_insideUnder_28 rfl ?_
    refine n_getL dX2_insideUnder_29 okf_H_57_7 rfl rfl ho (sh_lt ho rfl) ?_
    exact n_lret dX2_insideUnder_32 rfl
def f_L_handsAround_L4  (c0 : Nat) (v1 : Int32) : Nat → Int32 → Int32 → Nm → Option (Int32 × Nm)
  | 0, _, _, _ => none
  | f + 1, v2, v3, M => if (M.1 c0 2) ≤ v3 then (some (v2, M)) else (grd (inb v3 6) <| bnd (f_H_insideUnder (hnd c0 v3) (M.2.1 c0 0) M) fun r2 M3 => bnd (f_P_bitOf r2 v1 M3) fun r4 M5 => bl (v2 ||| (r4 <<< (v3 &&& 31))) fun x6 => f_L_handsAround_L4 c0 v1 f x6 (v3 + 1) M5)
theorem c_L_handsAround_L4 (l : Launch) (G : Gl)  (c0 : Nat) (v1 : Int32) (hc0 : (sh c0).1 = 8)  : ∀ (f : Nat) (v2 : Int32) (v3 : Int32)  (M : Nm), NJ l G Y_X5_handsAround (zR 3 79) eI 4 [(0, aR G c0), (1, .int v1), (2, .int v2), (3, .int v3)] [] M (f_L_handsAround_L4 c0 v1 f v2 v3 M) := by
  intro f
  induction f with
  | zero => intro v2 v3 M; exact s_none
  | succ f ih =>
    intro v2 v3 M
    rw [f_L_handsAround_L4]
    refine s_iload_n 3 dX5_handsAround_4 rfl ?_
    refine s_aload_n 0 dX5_handsAround_5 rfl ?_
    refine n_getI dX5_handsAround_6 okf_L_36_8 rfl rfl hc0 (sh_lt hc0 rfl) ?_
    refine s_icmp_ge (tgt := 40) dX5_handsAround_9 (by decide) (fun _ => ?_) (fun _ => ?_)
    · refine s_iload_n 2 dX5_handsAround_40 rfl ?_
      exact n_iret dX5_handsAround_41 rfl
    · refine s_iload_n 2 dX5_handsAround_12 rfl ?_
      refine s_aload_n 0 dX5_handsAround_13 rfl ?_
      refine n_getR (x := (c0 + 1)) dX5_handsAround_14 okf_L_11_8 rfl rfl hc0 (sh_lt hc0 rfl) (r_rows hc0) ?_
      refine s_iload_n 3 dX5_handsAround_17 rfl ?_
      refine n_aal (x := (hnd c0 v3)) 3 ⟨rfl, rfl⟩ dX5_handsAround_18 (ly_rows hc0) (r_hnd hc0) (fun h1 => ?_)
      refine s_aload_n 0 dX5_handsAround_19 rfl ?_
      refine n_getL dX5_handsAround_20 okf_L_28_8 rfl rfl hc0 (sh_lt hc0 rfl) ?_
      refine n_invV_l dX5_handsAround_23 ok_X2_insideUnder rfl wt_297 wt_298 wt_299 (ci := 7) rfl rfl (ly_hnd hc0 h1) (sh_lt (ly_hnd hc0 h1) rfl) [.long (M.2.1 c0 0)] rfl rfl rfl rfl (c_H_insideUnder l G _ _ (ly_hnd hc0 h1) _) (fun r2 M3 => ?_)
      refine s_iload_n 1 dX5_handsAround_26 rfl ?_
      refine n_invSN_i rfl rfl rfl dX5_handsAround_27 ok_X11_bitOf rfl wt_269 [.long r2, .int v1] rfl rfl rfl rfl (c_P_bitOf l G _ _ _) (fun r4 M5 => ?_)
      refine s_iload_n 3 dX5_handsAround_30 rfl ?_
      refine s_ishl dX5_handsAround_31 ?_
      refine s_ior dX5_handsAround_32 ?_
      refine s_topi (fun x6 => ?_)
      refine s_istore_n (i := 2) (lv' := [(2, .int x6), (0, aR G c0), (1, .int v1), (3, .int v3)]) dX5_handsAround_33 rfl rfl rfl ?_
      refine s_iinc (v := 1) (lv' := [(3, .int (v3 + 1)), (2, .int x6), (0, aR G c0), (1, .int v1)]) 3 dX5_handsAround_34 rfl (by decide) rfl rfl ?_
      refine s_goto (tgt := 4) dX5_handsAround_37 (by decide) ?_
      refine s_lv [2, 3, 1, 0] (lv' := [(0, aR G c0), (1, .int v1), (2, .int x6), (3, .int (v3 + 1))]) rfl ?_
      exact ih _ _ _
def f_L_handsAround (o : Nat) (v1 : Int32) (M : Nm) : Option (Int32 × Nm) := f_L_handsAround_L4 o v1 FU 0 0 M
theorem c_L_handsAround (l : Launch) (G : Gl) (o : Nat) (v1 : Int32) (ho : (sh o).1 = 8) (M : Nm) : NJ l G Y_X5_handsAround (zR 3 79) eI 0 (lv_args 0 [aR G o, .int v1]) [] M (f_L_handsAround o v1 M) := by
  unfold f_L_handsAround
  show NJ l G Y_X5_handsAround (zR 3 79) eI 0 [(0, aR G o), (1, .int v1)] [] M _
  refine s_iconst (v := 0) dX5_handsAround_0 (by decide) ?_
  refine s_istore_n (i := 2) (lv' := [(2, .int 0), (0, aR G o), (1, .int v1)]) dX5_handsAround_1 rfl rfl rfl ?_
  refine s_iconst (v := 0) dX5_handsAround_2 (by decide) ?_
  refine s_istore_n (i := 3) (lv' := [(3, .int 0), (2, .int 0), (0, aR G o), (1, .int v1)]) dX5_handsAround_3 rfl rfl rfl ?_
  refine s_lv [2, 3, 1, 0] (lv' := [(0, aR G o), (1, .int v1), (2, .int 0), (3, .int 0)]) rfl ?_
  refine c_L_handsAround_L4 l G _ _ ho FU _ _ _
def f_H_writes (o : Nat) (M : Nm) : Option (Int32 × Nm) := if (M.1 o 2) < (M.1 o 8) then (some (0, M)) else (some (1, M))
theorem c_H_writes (l : Launch) (G : Gl) (o : Nat) (ho : (sh o).1 = 7) (M : Nm) : NJ l G Y_X2_writes (zR 0 0) eI 0 (lv_args 0 [aR G o]) [] M (f_H_writes o M) := by
  unfold f_H_writes
  show NJ l G Y_X2_writes (zR 0 0) eI 0 [(0, aR G o)] [] M _
  refine s_aload_n 0 dX2_writes_0 rfl ?_
  refine n_getI dX2_writes_1 okf_H_26_7 rfl rfl ho (sh_lt ho rfl) ?_
  refine s_aload_n 0 dX2_writes_4 rfl ?_
  refine n_getI dX2_writes_5 okf_H_45_7 rfl rfl ho (sh_lt ho rfl) ?_
  refine s_icmp_lt (tgt := 15) dX2_writes_8 (by decide) (fun _ => ?_) (fun _ => ?_)
  · refine s_iconst (v := 0) dX2_writes_15 (by decide) ?_
    exact n_zret0 dX2_writes_16 rfl
  · refine s_iconst (v := 1) dX2_writes_11 (by decide) ?_
    refine s_goto (tgt := 16) dX2_writes_12 (by decide) ?_
    exact n_zret1 dX2_writes_16 rfl
def f_L_stakeClaims_L2  (c0 : Nat) : Nat → Int32 → Nm → Option (Unit × Nm)
  | 0, _, _ => none
  | f + 1, v1, M => if (M.1 c0 2) ≤ v1 then (some ((), M)) else (grd (inb v1 6) <| bnd (f_H_writes (hnd c0 v1) M) fun r2 M3 => if r2 = 0 then (grd (inb v1 6) <| bl (mL M3 (c0 + 20) (ix v1) 0) fun M4 => f_L_stakeClaims_L2 c0 f (v1 + 1) M4) else (grd (inb v1 6) <| bnd (f_H_insideUnder (hnd c0 v1) (M3.2.1 c0 0) M3) fun r6 M7 => grd (inb v1 6) <| bl (mL M7 (c0 + 20) (ix v1) r6) fun M8 => f_L_stakeClaims_L2 c0 f (v1 + 1) M8))
theorem c_L_stakeClaims_L2 (l : Launch) (G : Gl)  (c0 : Nat) (hc0 : (sh c0).1 = 8)  : ∀ (f : Nat) (v1 : Int32)  (M : Nm), NJ l G Y_X5_stakeClaims (zR 3 79) eU 2 [(0, aR G c0), (1, .int v1)] [] M (f_L_stakeClaims_L2 c0 f v1 M) := by
  intro f
  induction f with
  | zero => intro v1 M; exact s_none
  | succ f ih =>
    intro v1 M
    rw [f_L_stakeClaims_L2]
    refine s_iload_n 1 dX5_stakeClaims_2 rfl ?_
    refine s_aload_n 0 dX5_stakeClaims_3 rfl ?_
    refine n_getI dX5_stakeClaims_4 okf_L_36_8 rfl rfl hc0 (sh_lt hc0 rfl) ?_
    refine s_icmp_ge (tgt := 51) dX5_stakeClaims_7 (by decide) (fun _ => ?_) (fun _ => ?_)
    · exact n_vret dX5_stakeClaims_51 rfl
    · refine s_aload_n 0 dX5_stakeClaims_10 rfl ?_
      refine n_getR (x := (c0 + 20)) dX5_stakeClaims_11 okf_L_20_8 rfl rfl hc0 (sh_lt hc0 rfl) (r_clms hc0) ?_
      refine s_iload_n 1 dX5_stakeClaims_14 rfl ?_
      refine s_aload_n 0 dX5_stakeClaims_15 rfl ?_
      refine n_getR (x := (c0 + 1)) dX5_stakeClaims_16 okf_L_11_8 rfl rfl hc0 (sh_lt hc0 rfl) (r_rows hc0) ?_
      refine s_iload_n 1 dX5_stakeClaims_19 rfl ?_
      refine n_aal (x := (hnd c0 v1)) 3 ⟨rfl, rfl⟩ dX5_stakeClaims_20 (ly_rows hc0) (r_hnd hc0) (fun h1 => ?_)
      refine n_invV_i dX5_stakeClaims_21 ok_X2_writes rfl wt_321 wt_322 wt_323 (ci := 7) rfl rfl (ly_hnd hc0 h1) (sh_lt (ly_hnd hc0 h1) rfl) [] rfl rfl rfl rfl (c_H_writes l G _ (ly_hnd hc0 h1) _) (fun r2 M3 => ?_)
      refine s_if_eq (tgt := 43) dX5_stakeClaims_24 (by decide) (fun _ => ?_) (fun _ => ?_)
      · refine s_lconst (v := 0) dX5_stakeClaims_43 (by decide) ?_
        refine n_las dX5_stakeClaims_44 (ly_clms hc0) ?_
        refine s_topM (fun M4 => ?_)
        refine s_iinc (v := 1) (lv' := [(1, .int (v1 + 1)), (0, aR G c0)]) 1 dX5_stakeClaims_45 rfl (by decide) rfl rfl ?_
        refine s_goto (tgt := 2) dX5_stakeClaims_48 (by decide) ?_
        refine s_lv [1, 0] (lv' := [(0, aR G c0), (1, .int (v1 + 1))]) rfl ?_
        exact ih _ _
      · refine s_aload_n 0 dX5_stakeClaims_27 rfl ?_
        refine n_getR (x := (c0 + 1)) dX5_stakeClaims_28 okf_L_11_8 rfl rfl hc0 (sh_lt hc0 rfl) (r_rows hc0) ?_
        refine s_iload_n 1 dX5_stakeClaims_31 rfl ?_
        refine n_aal (x := (hnd c0 v1)) 3 ⟨rfl, rfl⟩ dX5_stakeClaims_32 (ly_rows hc0) (r_hnd hc0) (fun h5 => ?_)
        refine s_aload_n 0 dX5_stakeClaims_33 rfl ?_
        refine n_getL dX5_stakeClaims_34 okf_L_28_8 rfl rfl hc0 (sh_lt hc0 rfl) ?_
        refine n_invV_l dX5_stakeClaims_37 ok_X2_insideUnder rfl wt_297 wt_298 wt_299 (ci := 7) rfl rfl (ly_hnd hc0 h5) (sh_lt (ly_hnd hc0 h5) rfl) [.long (M3.2.1 c0 0)] rfl rfl rfl rfl (c_H_insideUnder l G _ _ (ly_hnd hc0 h5) _) (fun r6 M7 => ?_)
        refine s_goto (tgt := 44) dX5_stakeClaims_40 (by decide) ?_
        refine n_las dX5_stakeClaims_44 (ly_clms hc0) ?_
        refine s_topM (fun M8 => ?_)
        refine s_iinc (v := 1) (lv' := [(1, .int (v1 + 1)), (0, aR G c0)]) 1 dX5_stakeClaims_45 rfl (by decide) rfl rfl ?_
        refine s_goto (tgt := 2) dX5_stakeClaims_48 (by decide) ?_
        refine s_lv [1, 0] (lv' := [(0, aR G c0), (1, .int (v1 + 1))]) rfl ?_
        exact ih _ _
def f_L_stakeClaims (o : Nat) (M : Nm) : Option (Unit × Nm) := f_L_stakeClaims_L2 o FU 0 M
theorem c_L_stakeClaims (l : Launch) (G : Gl) (o : Nat) (ho : (sh o).1 = 8) (M : Nm) : NJ l G Y_X5_stakeClaims (zR 3 79) eU 0 (lv_args 0 [aR G o]) [] M (f_L_stakeClaims o M) := by
  unfold f_L_stakeClaims
  show NJ l G Y_X5_stakeClaims (zR 3 79) eU 0 [(0, aR G o)] [] M _
  refine s_iconst (v := 0) dX5_stakeClaims_0 (by decide) ?_
  refine s_istore_n (i := 1) (lv' := [(1, .int 0), (0, aR G o)]) dX5_stakeClaims_1 rfl rfl rfl ?_
  refine s_lv [1, 0] (lv' := [(0, aR G o), (1, .int 0)]) rfl ?_
  refine c_L_stakeClaims_L2 l G _ ho FU _ _
def f_L_goesBefore (o : Nat) (v1 : Int32) (v2 : Int32) (M : Nm) : Option (Int32 × Nm) := grd (inb v1 6) <| grd (inb v2 6) <| if (M.1 (hnd o v2) 2) < (M.1 (hnd o v1) 2) then (some (1, M)) else (if (M.1 (hnd o v1) 2) = (M.1 (hnd o v2) 2) then (if v2 ≤ v1 then (some (0, M)) else (some (1, M))) else (some (0, M)))
theorem c_L_goesBefore (l : Launch) (G : Gl) (o : Nat) (v1 : Int32) (v2 : Int32) (ho : (sh o).1 = 8) (M : Nm) : NJ l G Y_X5_goesBefore (zR 0 0) eI 0 (lv_args 0 [aR G o, .int v1, .int v2]) [] M (f_L_goesBefore o v1 v2 M) := by
  unfold f_L_goesBefore
  show NJ l G Y_X5_goesBefore (zR 0 0) eI 0 [(0, aR G o), (1, .int v1), (2, .int v2)] [] M _
  refine s_aload_n 0 dX5_goesBefore_0 rfl ?_
  refine n_getR (x := (o + 1)) dX5_goesBefore_1 okf_L_11_8 rfl rfl ho (sh_lt ho rfl) (r_rows ho) ?_
  refine s_iload_n 1 dX5_goesBefore_4 rfl ?_
  refine n_aal (x := (hnd o v1)) 3 ⟨rfl, rfl⟩ dX5_goesBefore_5 (ly_rows ho) (r_hnd ho) (fun h1 => ?_)
  refine n_getI dX5_goesBefore_6 okf_L_76_7 rfl rfl (ly_hnd ho h1) (sh_lt (ly_hnd ho h1) rfl) ?_
  refine s_istore_n (i := 3) (lv' := [(3, .int (M.1 (hnd o v1) 2)), (0, aR G o), (1, .int v1), (2, .int v2)]) dX5_goesBefore_9 rfl rfl rfl ?_
  refine s_aload_n 1 dX5_goesBefore_10 rfl ?_
  refine n_getR (x := (o + 1)) dX5_goesBefore_11 okf_L_11_8 rfl rfl ho (sh_lt ho rfl) (r_rows ho) ?_
  refine s_iload_n 3 dX5_goesBefore_14 rfl ?_
  refine n_aal (x := (hnd o v2)) 3 ⟨rfl, rfl⟩ dX5_goesBefore_15 (ly_rows ho) (r_hnd ho) (fun h2 => ?_)
  refine n_getI dX5_goesBefore_16 okf_L_76_7 rfl rfl (ly_hnd ho h2) (sh_lt (ly_hnd ho h2) rfl) ?_
  refine s_istore (lv' := [(4, .int (M.1 (hnd o v2) 2)), (3, .int (M.1 (hnd o v1) 2)), (0, aR G o), (1, .int v1), (2, .int v2)]) dX5_goesBefore_19 rfl rfl ?_
  refine s_iload_n 1 dX5_goesBefore_21 rfl ?_
  refine s_iload 0 dX5_goesBefore_22 rfl ?_
  refine s_icmp_gt (tgt := 38) dX5_goesBefore_24 (by decide) (fun _ => ?_) (fun _ => ?_)
  · refine s_iconst (v := 1) dX5_goesBefore_38 (by decide) ?_
    refine s_goto (tgt := 43) dX5_goesBefore_39 (by decide) ?_
    exact n_zret1 dX5_goesBefore_43 rfl
  · refine s_iload_n 1 dX5_goesBefore_27 rfl ?_
    refine s_iload 0 dX5_goesBefore_28 rfl ?_
    refine s_icmp_ne (tgt := 42) dX5_goesBefore_30 (by decide) (fun _ => ?_) (fun _ => ?_)
    · refine s_iload_n 3 dX5_goesBefore_33 rfl ?_
      refine s_iload_n 4 dX5_goesBefore_34 rfl ?_
      refine s_icmp_ge (tgt := 42) dX5_goesBefore_35 (by decide) (fun _ => ?_) (fun _ => ?_)
      · refine s_iconst (v := 0) dX5_goesBefore_42 (by decide) ?_
        exact n_zret0 dX5_goesBefore_43 rfl
      · refine s_iconst (v := 1) dX5_goesBefore_38 (by decide) ?_
        refine s_goto (tgt := 43) dX5_goesBefore_39 (by decide) ?_
        exact n_zret1 dX5_goesBefore_43 rfl
    · refine s_iconst (v := 0) dX5_goesBefore_42 (by decide) ?_
      exact n_zret0 dX5_goesBefore_43 rfl
def f_L_shareOf_L10 (k69 : Int64 → Nm → Option (Int64 × Nm)) (c0 : Nat) (v1 : Int32) : Nat → Int64 → Int32 → Nm → Option (Int64 × Nm)
  | 0, _, _, _ => none
  | f + 1, v2, v4, M => if (M.1 c0 2) ≤ v4 then (k69 v2 M) else (if (lg_cmp v2 0) = 0 then (k69 v2 M) else (grd (inb v4 6) <| if (lg_cmp (v2 &&& (M.2.1 (c0 + 20) (ix v4))) 0) = 0 then (f_L_shareOf_L10 k69 c0 v1 f v2 (v4 + 1) M) else (bnd (f_L_goesBefore c0 v4 v1 M) fun r1 M2 => if r1 = 0 then (f_L_shareOf_L10 k69 c0 v1 f v2 (v4 + 1) M2) else (grd (inb v4 6) <| bl (v2 &&& ((M2.2.1 (c0 + 20) (ix v4)) ^^^ (-1))) fun x3 => f_L_shareOf_L10 k69 c0 v1 f x3 (v4 + 1) M2))))
theorem c_L_shareOf_L10 (l : Launch) (G : Gl) {k69 : Int64 → Nm → Option (Int64 × Nm)} (c0 : Nat) (v1 : Int32) (hc0 : (sh c0).1 = 8) (hk69 : ∀ (v2 : Int64)  (M : Nm), NJ l G Y_X5_shareOf (zR 1 24) eL 69 [(2, .long v2)] [] M (k69 v2 M)) : ∀ (f : Nat) (v2 : Int64) (v4 : Int32)  (M : Nm), NJ l G Y_X5_shareOf (zR 1 24) eL 10 [(0, aR G c0), (1, .int v1), (2, .long v2), (4, .int v4)] [] M (f_L_shareOf_L10 k69 c0 v1 f v2 v4 M) := by
  intro f
  induction f with
  | zero => intro v2 v4 M; exact s_none
  | succ f ih =>
    intro v2 v4 M
    rw [f_L_shareOf_L10]
    refine s_iload 3 dX5_shareOf_10 rfl ?_
    refine s_aload_n 0 dX5_shareOf_12 rfl ?_
    refine n_getI dX5_shareOf_13 okf_L_36_8 rfl rfl hc0 (sh_lt hc0 rfl) ?_
    refine s_icmp_ge (tgt := 69) dX5_shareOf_16 (by decide) (fun _ => ?_) (fun _ => ?_)
    · refine s_lv [2] (lv' := [(2, .long v2)]) rfl ?_
      exact hk69 _ _
    · refine s_lload_n 2 dX5_shareOf_19 rfl ?_
      refine s_lconst (v := 0) dX5_shareOf_20 (by decide) ?_
      refine s_lcmp dX5_shareOf_21 ?_
      refine s_if_eq (tgt := 69) dX5_shareOf_22 (by decide) (fun _ => ?_) (fun _ => ?_)
      · refine s_lv [2] (lv' := [(2, .long v2)]) rfl ?_
        exact hk69 _ _
      · refine s_lload_n 2 dX5_shareOf_25 rfl ?_
        refine s_aload_n 0 dX5_shareOf_26 rfl ?_
        refine n_getR (x := (c0 + 20)) dX5_shareOf_27 okf_L_20_8 rfl rfl hc0 (sh_lt hc0 rfl) (r_clms hc0) ?_
        refine s_iload 3 dX5_shareOf_30 rfl ?_
        refine n_lal dX5_shareOf_32 (ly_clms hc0) ?_
        refine s_land dX5_shareOf_33 ?_
        refine s_lconst (v := 0) dX5_shareOf_34 (by decide) ?_
        refine s_lcmp dX5_shareOf_35 ?_
        refine s_if_eq (tgt := 63) dX5_shareOf_36 (by decide) (fun _ => ?_) (fun _ => ?_)
        · refine s_iinc (v := 1) (lv' := [(4, .int (v4 + 1)), (0, aR G c0), (1, .int v1), (2, .long v2)]) 3 dX5_shareOf_63 rfl (by decide) rfl rfl ?_
          refine s_goto (tgt := 10) dX5_shareOf_66 (by decide) ?_
          refine s_lv [1, 2, 3, 0] (lv' := [(0, aR G c0), (1, .int v1), (2, .long v2), (4, .int (v4 + 1))]) rfl ?_
          exact ih _ _ _
        · refine s_aload_n 0 dX5_shareOf_39 rfl ?_
          refine s_iload 3 dX5_shareOf_40 rfl ?_
          refine s_iload_n 1 dX5_shareOf_42 rfl ?_
          refine n_invV_i dX5_shareOf_43 ok_X5_goesBefore rfl wt_329 wt_331 ws_3 (ci := 8) rfl rfl hc0 (sh_lt hc0 rfl) [.int v4, .int v1] rfl rfl rfl rfl (c_L_goesBefore l G _ _ _ hc0 _) (fun r1 M2 => ?_)
          refine s_if_eq (tgt := 63) dX5_shareOf_46 (by decide) (fun _ => ?_) (fun _ => ?_)
          · refine s_iinc (v := 1) (lv' := [(4, .int (v4 + 1)), (0, aR G c0), (1, .int v1), (2, .long v2)]) 3 dX5_shareOf_63 rfl (by decide) rfl rfl ?_
            refine s_goto (tgt := 10) dX5_shareOf_66 (by decide) ?_
            refine s_lv [1, 2, 3, 0] (lv' := [(0, aR G c0), (1, .int v1), (2, .long v2), (4, .int (v4 + 1))]) rfl ?_
            exact ih _ _ _
          · refine s_lload_n 2 dX5_shareOf_49 rfl ?_
            refine s_aload_n 0 dX5_shareOf_50 rfl ?_
            refine n_getR (x := (c0 + 20)) dX5_shareOf_51 okf_L_20_8 rfl rfl hc0 (sh_lt hc0 rfl) (r_clms hc0) ?_
            refine s_iload 3 dX5_shareOf_54 rfl ?_
            refine n_lal dX5_shareOf_56 (ly_clms hc0) ?_
            refine s_ldc2 (v := (-1)) dX5_shareOf_57 wt_278 ?_
            refine s_lxor dX5_shareOf_60 ?_
            refine s_land dX5_shareOf_61 ?_
            refine s_topl (fun x3 => ?_)
            refine s_lstore_n (i := 2) (lv' := [(2, .long x3), (0, aR G c0), (1, .int v1), (4, .int v4)]) dX5_shareOf_62 rfl rfl rfl ?_
            refine s_iinc (v := 1) (lv' := [(4, .int (v4 + 1)), (2, .long x3), (0, aR G c0), (1, .int v1)]) 3 dX5_shareOf_63 rfl (by decide) rfl rfl ?_
            refine s_goto (tgt := 10) dX5_shareOf_66 (by decide) ?_
            refine s_lv [2, 3, 1, 0] (lv' := [(0, aR G c0), (1, .int v1), (2, .long x3), (4, .int (v4 + 1))]) rfl ?_
            exact ih _ _ _
def f_L_shareOf (o : Nat) (v1 : Int32) (M : Nm) : Option (Int64 × Nm) := grd (inb v1 6) <| f_L_shareOf_L10 (fun y5 M4 => some (y5, M4)) o v1 FU (M.2.1 (o + 20) (ix v1)) 0 M
theorem c_L_shareOf (l : Launch) (G : Gl) (o : Nat) (v1 : Int32) (ho : (sh o).1 = 8) (M : Nm) : NJ l G Y_X5_shareOf (zR 1 24) eL 0 (lv_args 0 [aR G o, .int v1]) [] M (f_L_shareOf o v1 M) := by
  unfold f_L_shareOf
  show NJ l G Y_X5_shareOf (zR 1 24) eL 0 [(0, aR G o), (1, .int v1)] [] M _
  refine s_aload_n 0 dX5_shareOf_0 rfl ?_
  refine n_getR (x := (o + 20)) dX5_shareOf_1 okf_L_20_8 rfl rfl ho (sh_lt ho rfl) (r_clms ho) ?_
  refine s_iload_n 1 dX5_shareOf_4 rfl ?_
  refine n_lal dX5_shareOf_5 (ly_clms ho) ?_
  refine s_lstore_n (i := 2) (lv' := [(2, .long (M.2.1 (o + 20) (ix v1))), (0, aR G o), (1, .int v1)]) dX5_shareOf_6 rfl rfl rfl ?_
  refine s_iconst (v := 0) dX5_shareOf_7 (by decide) ?_
  refine s_istore (lv' := [(4, .int 0), (2, .long (M.2.1 (o + 20) (ix v1))), (0, aR G o), (1, .int v1)]) dX5_shareOf_8 rfl rfl ?_
  refine s_lv [2, 3, 1, 0] (lv' := [(0, aR G o), (1, .int v1), (2, .long (M.2.1 (o + 20) (ix v1))), (4, .int 0)]) rfl ?_
  refine c_L_shareOf_L10 l G _ _ ho (fun y5 M4 => ?_) FU _ _ _
  refine s_lload_n 0 dX5_shareOf_69 rfl ?_
  exact n_lret dX5_shareOf_70 rfl
def f_L_ownerOf_L6  (c0 : Nat) (v1 : Int32) : Nat → Int32 → Nm → Option (Int32 × Nm)
  | 0, _, _ => none
  | f + 1, v2, M => if (M.1 c0 2) ≤ v2 then (some ((-1), M)) else (bnd (f_L_shareOf c0 v2 M) fun r3 M4 => bnd (f_P_bitOf r3 v1 M4) fun r5 M6 => if r5 = 1 then (some (v2, M6)) else (f_L_ownerOf_L6 c0 v1 f (v2 + 1) M6))
theorem c_L_ownerOf_L6 (l : Launch) (G : Gl)  (c0 : Nat) (v1 : Int32) (hc0 : (sh c0).1 = 8)  : ∀ (f : Nat) (v2 : Int32)  (M : Nm), NJ l G Y_X5_ownerOf (zR 4 100) eI 6 [(0, aR G c0), (1, .int v1), (2, .int v2)] [] M (f_L_ownerOf_L6 c0 v1 f v2 M) := by
  intro f
  induction f with
  | zero => intro v2 M; exact s_none
  | succ f ih =>
    intro v2 M
    rw [f_L_ownerOf_L6]
    refine s_iload_n 2 dX5_ownerOf_6 rfl ?_
    refine s_aload_n 0 dX5_ownerOf_7 rfl ?_
    refine n_getI dX5_ownerOf_8 okf_L_36_8 rfl rfl hc0 (sh_lt hc0 rfl) ?_
    refine s_icmp_ge (tgt := 35) dX5_ownerOf_11 (by decide) (fun _ => ?_) (fun _ => ?_)
    · refine s_iconst (v := (-1)) dX5_ownerOf_35 (by decide) ?_
      exact n_iret dX5_ownerOf_36 rfl
    · refine s_aload_n 0 dX5_ownerOf_14 rfl ?_
      refine s_iload_n 2 dX5_ownerOf_15 rfl ?_
      refine n_invV_l dX5_ownerOf_16 ok_X5_shareOf rfl wt_325 wt_327 ws_2 (ci := 8) rfl rfl hc0 (sh_lt hc0 rfl) [.int v2] rfl rfl rfl rfl (c_L_shareOf l G _ _ hc0 _) (fun r3 M4 => ?_)
      refine s_iload_n 1 dX5_ownerOf_19 rfl ?_
      refine n_invSN_i rfl rfl rfl dX5_ownerOf_20 ok_X11_bitOf rfl wt_269 [.long r3, .int v1] rfl rfl rfl rfl (c_P_bitOf l G _ _ _) (fun r5 M6 => ?_)
      refine s_iconst (v := 1) dX5_ownerOf_23 (by decide) ?_
      refine s_icmp_ne (tgt := 29) dX5_ownerOf_24 (by decide) (fun _ => ?_) (fun _ => ?_)
      · refine s_iload_n 2 dX5_ownerOf_27 rfl ?_
        exact n_iret dX5_ownerOf_28 rfl
      · refine s_iinc (v := 1) (lv' := [(2, .int (v2 + 1)), (0, aR G c0), (1, .int v1)]) 2 dX5_ownerOf_29 rfl (by decide) rfl rfl ?_
        refine s_goto (tgt := 6) dX5_ownerOf_32 (by decide) ?_
        refine s_lv [1, 2, 0] (lv' := [(0, aR G c0), (1, .int v1), (2, .int (v2 + 1))]) rfl ?_
        exact ih _ _
def f_L_ownerOf (o : Nat) (v1 : Int32) (M : Nm) : Option (Int32 × Nm) := bnd (f_L_stakeClaims o M) fun r1 M2 => f_L_ownerOf_L6 o v1 FU 0 M2
theorem c_L_ownerOf (l : Launch) (G : Gl) (o : Nat) (v1 : Int32) (ho : (sh o).1 = 8) (M : Nm) : NJ l G Y_X5_ownerOf (zR 4 100) eI 0 (lv_args 0 [aR G o, .int v1]) [] M (f_L_ownerOf o v1 M) := by
  unfold f_L_ownerOf
  show NJ l G Y_X5_ownerOf (zR 4 100) eI 0 [(0, aR G o), (1, .int v1)] [] M _
  refine s_aload_n 0 dX5_ownerOf_0 rfl ?_
  refine n_invV_u dX5_ownerOf_1 ok_X5_stakeClaims rfl wt_317 wt_319 ws_1 (ci := 8) rfl rfl ho (sh_lt ho rfl) [] rfl rfl rfl rfl (c_L_stakeClaims l G _ ho _) (fun r1 M2 => ?_)
  refine s_iconst (v := 0) dX5_ownerOf_4 (by decide) ?_
  refine s_istore_n (i := 2) (lv' := [(2, .int 0), (0, aR G o), (1, .int v1)]) dX5_ownerOf_5 rfl rfl rfl ?_
  refine s_lv [1, 2, 0] (lv' := [(0, aR G o), (1, .int v1), (2, .int 0)]) rfl ?_
  refine c_L_ownerOf_L6 l G _ _ ho FU _ _
def f_P_cell (v1 : Int32) (v2 : Int32) (M : Nm) : Option (Int32 × Nm) := bnd (f_P_isCell v1 M) fun r1 M2 => if r1 = 0 then (bnd (f_P_finding (-1000000001) M2) fun r3 M4 => some (r3, M4)) else (if v2 = 0 then (bnd (f_P_bitOf (M2.2.1 8 0) v1 M2) fun r6 M7 => some (r6, M7)) else if v2 = 1 then (bnd (f_L_handsOnWhoseLines 8 v1 M2) fun r9 M10 => some (r9, M10)) else if v2 = 2 then (bnd (f_L_handsAround 8 v1 M2) fun r12 M13 => some (r12, M13)) else if v2 = 3 then (bnd (f_L_ownerOf 8 v1 M2) fun r15 M16 => some (r15, M16)) else (bnd (f_P_finding (-1000000001) M2) fun r17 M18 => some (r17, M18)))
theorem c_P_cell (l : Launch) (G : Gl) (v1 : Int32) (v2 : Int32)  (M : Nm) : NJ l G Y_X11_cell (zR 5 122) eI 0 (lv_args 0 [aR G 0, .int v1, .int v2]) [] M (f_P_cell v1 v2 M) := by
  unfold f_P_cell
  show NJ l G Y_X11_cell (zR 5 122) eI 0 [(0, aR G 0), (1, .int v1), (2, .int v2)] [] M _
  refine s_iload_n 1 dX11_cell_0 rfl ?_
  refine n_invS_i dX11_cell_1 ok_X11_isCell rfl wt_257 wt_258 [.int v1] rfl rfl rfl rfl (c_P_isCell l G _ _) (fun r1 M2 => ?_)
  refine s_if_ne (tgt := 14) dX11_cell_4 (by decide) (fun _ => ?_) (fun _ => ?_)
  · refine s_aload_n 0 dX11_cell_7 rfl ?_
    refine s_ldc (v := (-1000000001)) dX11_cell_8 wt_263 ?_
    refine n_invV_i dX11_cell_10 ok_X11_finding rfl wt_264 wt_266 ws_0 (ci := 0) rfl rfl so_0 (sh_lt so_0 rfl) [.int (-1000000001)] rfl rfl rfl rfl (c_P_finding l G _ _) (fun r3 M4 => ?_)
    exact n_iret dX11_cell_13 rfl
  · refine s_iload_n 2 dX11_cell_14 rfl ?_
    refine s_ite (fun h5 => ?_) (fun h5 => ?_)
    · refine s_tin (tgt := 44) dX11_cell_15 (by rw [h5]; decide) (by rw [h5]; decide) (by rw [h5]; rfl) (by decide) ?_
      refine s_aload_n 0 dX11_cell_44 rfl ?_
      refine n_getR (x := 8) dX11_cell_45 okf_P_50_0 rfl rfl so_0 (sh_lt so_0 rfl) rfl ?_
      refine n_getL dX11_cell_48 okf_P_91_8 rfl rfl so_8 (sh_lt so_8 rfl) ?_
      refine s_iload_n 1 dX11_cell_51 rfl ?_
      refine n_invS_i dX11_cell_52 ok_X11_bitOf rfl wt_268 wt_269 [.long (M2.2.1 8 0), .int v1] rfl rfl rfl rfl (c_P_bitOf l G _ _ _) (fun r6 M7 => ?_)
      exact n_iret dX11_cell_55 rfl
    refine s_ite (fun h8 => ?_) (fun h8 => ?_)
    · refine s_tin (tgt := 56) dX11_cell_15 (by rw [h8]; decide) (by rw [h8]; decide) (by rw [h8]; rfl) (by decide) ?_
      refine s_aload_n 0 dX11_cell_56 rfl ?_
      refine n_getR (x := 8) dX11_cell_57 okf_P_50_0 rfl rfl so_0 (sh_lt so_0 rfl) rfl ?_
      refine s_iload_n 1 dX11_cell_60 rfl ?_
      refine n_invV_i dX11_cell_61 ok_X5_handsOnWhoseLines rfl wt_283 wt_284 wt_285 (ci := 8) rfl rfl so_8 (sh_lt so_8 rfl) [.int v1] rfl rfl rfl rfl (c_L_handsOnWhoseLines l G _ _ so_8 _) (fun r9 M10 => ?_)
      exact n_iret dX11_cell_64 rfl
    refine s_ite (fun h11 => ?_) (fun h11 => ?_)
    · refine s_tin (tgt := 65) dX11_cell_15 (by rw [h11]; decide) (by rw [h11]; decide) (by rw [h11]; rfl) (by decide) ?_
      refine s_aload_n 0 dX11_cell_65 rfl ?_
      refine n_getR (x := 8) dX11_cell_66 okf_P_50_0 rfl rfl so_0 (sh_lt so_0 rfl) rfl ?_
      refine s_iload_n 1 dX11_cell_69 rfl ?_
      refine n_invV_i dX11_cell_70 ok_X5_handsAround rfl wt_293 wt_294 wt_295 (ci := 8) rfl rfl so_8 (sh_lt so_8 rfl) [.int v1] rfl rfl rfl rfl (c_L_handsAround l G _ _ so_8 _) (fun r12 M13 => ?_)
      exact n_iret dX11_cell_73 rfl
    refine s_ite (fun h14 => ?_) (fun h14 => ?_)
    · refine s_tin (tgt := 74) dX11_cell_15 (by rw [h14]; decide) (by rw [h14]; decide) (by rw [h14]; rfl) (by decide) ?_
      refine s_aload_n 0 dX11_cell_74 rfl ?_
      refine n_getR (x := 8) dX11_cell_75 okf_P_50_0 rfl rfl so_0 (sh_lt so_0 rfl) rfl ?_
      refine s_iload_n 1 dX11_cell_78 rfl ?_
      refine n_invV_i dX11_cell_79 ok_X5_ownerOf rfl wt_313 wt_314 wt_315 (ci := 8) rfl rfl so_8 (sh_lt so_8 rfl) [.int v1] rfl rfl rfl rfl (c_L_ownerOf l G _ _ so_8 _) (fun r15 M16 => ?_)
      exact n_iret dX11_cell_82 rfl
    refine s_tout (tgt := 83) dX11_cell_15 (sw_out (fun k h1 h2 => by rcases (show k = 0 ∨ k = 1 ∨ k = 2 ∨ k = 3 by omega) with rfl | rfl | rfl | rfl <;> assumption)) (by decide) ?_
    refine s_aload_n 0 dX11_cell_83 rfl ?_
    refine s_ldc (v := (-1000000001)) dX11_cell_84 wt_263 ?_
    refine n_invV_i dX11_cell_86 ok_X11_finding rfl wt_264 wt_266 ws_0 (ci := 0) rfl rfl so_0 (sh_lt so_0 rfl) [.int (-1000000001)] rfl rfl rfl rfl (c_P_finding l G _ _) (fun r17 M18 => ?_)
    exact n_iret dX11_cell_89 rfl
def f_L_disputed_L11  (c0 : Nat) : Nat → Int64 → Int64 → Int32 → Nm → Option (Int64 × Nm)
  | 0, _, _, _, _ => none
  | f + 1, v1, v3, v5, M => if (M.1 c0 2) ≤ v5 then (some (v3, M)) else (grd (inb v5 6) <| bl (v3 ||| (v1 &&& (M.2.1 (c0 + 20) (ix v5)))) fun x3 => grd (inb v5 6) <| bl (v1 ||| (M.2.1 (c0 + 20) (ix v5))) fun x4 => f_L_disputed_L11 c0 f x4 x3 (v5 + 1) M)
theorem c_L_disputed_L11 (l : Launch) (G : Gl)  (c0 : Nat) (hc0 : (sh c0).1 = 8)  : ∀ (f : Nat) (v1 : Int64) (v3 : Int64) (v5 : Int32)  (M : Nm), NJ l G Y_X5_disputed (zR 4 100) eL 11 [(0, aR G c0), (1, .long v1), (3, .long v3), (5, .int v5)] [] M (f_L_disputed_L11 c0 f v1 v3 v5 M) := by
  intro f
  induction f with
  | zero => intro v1 v3 v5 M; exact s_none
  | succ f ih =>
    intro v1 v3 v5 M
    rw [f_L_disputed_L11]
    refine s_iload 3 dX5_disputed_11 rfl ?_
    refine s_aload_n 0 dX5_disputed_13 rfl ?_
    refine n_getI dX5_disputed_14 okf_L_36_8 rfl rfl hc0 (sh_lt hc0 rfl) ?_
    refine s_icmp_ge (tgt := 48) dX5_disputed_17 (by decide) (fun _ => ?_) (fun _ => ?_)
    · refine s_lload_n 2 dX5_disputed_48 rfl ?_
      exact n_lret dX5_disputed_49 rfl
    · refine s_lload_n 2 dX5_disputed_20 rfl ?_
      refine s_lload_n 1 dX5_disputed_21 rfl ?_
      refine s_aload_n 0 dX5_disputed_22 rfl ?_
      refine n_getR (x := (c0 + 20)) dX5_disputed_23 okf_L_20_8 rfl rfl hc0 (sh_lt hc0 rfl) (r_clms hc0) ?_
      refine s_iload 3 dX5_disputed_26 rfl ?_
      refine n_lal dX5_disputed_28 (ly_clms hc0) ?_
      refine s_land dX5_disputed_29 ?_
      refine s_lor dX5_disputed_30 ?_
      refine s_topl (fun x3 => ?_)
      refine s_lstore_n (i := 3) (lv' := [(3, .long x3), (0, aR G c0), (1, .long v1), (5, .int v5)]) dX5_disputed_31 rfl rfl rfl ?_
      refine s_lload_n 2 dX5_disputed_32 rfl ?_
      refine s_aload_n 1 dX5_disputed_33 rfl ?_
      refine n_getR (x := (c0 + 20)) dX5_disputed_34 okf_L_20_8 rfl rfl hc0 (sh_lt hc0 rfl) (r_clms hc0) ?_
      refine s_iload 3 dX5_disputed_37 rfl ?_
      refine n_lal dX5_disputed_39 (ly_clms hc0) ?_
      refine s_lor dX5_disputed_40 ?_
      refine s_topl (fun x4 => ?_)
      refine s_lstore_n (i := 1) (lv' := [(1, .long x4), (3, .long x3), (0, aR G c0), (5, .int v5)]) dX5_disputed_41 rfl rfl rfl ?_
      refine s_iinc (v := 1) (lv' := [(5, .int (v5 + 1)), (1, .long x4), (3, .long x3), (0, aR G c0)]) 3 dX5_disputed_42 rfl (by decide) rfl rfl ?_
      refine s_goto (tgt := 11) dX5_disputed_45 (by decide) ?_
      refine s_lv [3, 1, 2, 0] (lv' := [(0, aR G c0), (1, .long x4), (3, .long x3), (5, .int (v5 + 1))]) rfl ?_
      exact ih _ _ _ _
def f_L_disputed (o : Nat) (M : Nm) : Option (Int64 × Nm) := bnd (f_L_stakeClaims o M) fun r1 M2 => f_L_disputed_L11 o FU 0 0 0 M2
theorem c_L_disputed (l : Launch) (G : Gl) (o : Nat) (ho : (sh o).1 = 8) (M : Nm) : NJ l G Y_X5_disputed (zR 4 100) eL 0 (lv_args 0 [aR G o]) [] M (f_L_disputed o M) := by
  unfold f_L_disputed
  show NJ l G Y_X5_disputed (zR 4 100) eL 0 [(0, aR G o)] [] M _
  refine s_aload_n 0 dX5_disputed_0 rfl ?_
  refine n_invV_u dX5_disputed_1 ok_X5_stakeClaims rfl wt_317 wt_319 ws_1 (ci := 8) rfl rfl ho (sh_lt ho rfl) [] rfl rfl rfl rfl (c_L_stakeClaims l G _ ho _) (fun r1 M2 => ?_)
  refine s_lconst (v := 0) dX5_disputed_4 (by decide) ?_
  refine s_lstore_n (i := 1) (lv' := [(1, .long 0), (0, aR G o)]) dX5_disputed_5 rfl rfl rfl ?_
  refine s_lconst (v := 0) dX5_disputed_6 (by decide) ?_
  refine s_lstore_n (i := 3) (lv' := [(3, .long 0), (1, .long 0), (0, aR G o)]) dX5_disputed_7 rfl rfl rfl ?_
  refine s_iconst (v := 0) dX5_disputed_8 (by decide) ?_
  refine s_istore (lv' := [(5, .int 0), (3, .long 0), (1, .long 0), (0, aR G o)]) dX5_disputed_9 rfl rfl ?_
  refine s_lv [3, 2, 1, 0] (lv' := [(0, aR G o), (1, .long 0), (3, .long 0), (5, .int 0)]) rfl ?_
  refine c_L_disputed_L11 l G _ ho FU _ _ _ _
def f_L_owned_L8  (c0 : Nat) : Nat → Int64 → Int32 → Nm → Option (Int64 × Nm)
  | 0, _, _, _ => none
  | f + 1, v1, v3, M => if (M.1 c0 2) ≤ v3 then (some (v1, M)) else (grd (inb v3 6) <| bl (v1 ||| (M.2.1 (c0 + 20) (ix v3))) fun x3 => f_L_owned_L8 c0 f x3 (v3 + 1) M)
theorem c_L_owned_L8 (l : Launch) (G : Gl)  (c0 : Nat) (hc0 : (sh c0).1 = 8)  : ∀ (f : Nat) (v1 : Int64) (v3 : Int32)  (M : Nm), NJ l G Y_X5_owned (zR 4 100) eL 8 [(0, aR G c0), (1, .long v1), (3, .int v3)] [] M (f_L_owned_L8 c0 f v1 v3 M) := by
  intro f
  induction f with
  | zero => intro v1 v3 M; exact s_none
  | succ f ih =>
    intro v1 v3 M
    rw [f_L_owned_L8]
    refine s_iload_n 2 dX5_owned_8 rfl ?_
    refine s_aload_n 0 dX5_owned_9 rfl ?_
    refine n_getI dX5_owned_10 okf_L_36_8 rfl rfl hc0 (sh_lt hc0 rfl) ?_
    refine s_icmp_ge (tgt := 31) dX5_owned_13 (by decide) (fun _ => ?_) (fun _ => ?_)
    · refine s_lload_n 1 dX5_owned_31 rfl ?_
      exact n_lret dX5_owned_32 rfl
    · refine s_lload_n 1 dX5_owned_16 rfl ?_
      refine s_aload_n 0 dX5_owned_17 rfl ?_
      refine n_getR (x := (c0 + 20)) dX5_owned_18 okf_L_20_8 rfl rfl hc0 (sh_lt hc0 rfl) (r_clms hc0) ?_
      refine s_iload_n 2 dX5_owned_21 rfl ?_
      refine n_lal dX5_owned_22 (ly_clms hc0) ?_
      refine s_lor dX5_owned_23 ?_
      refine s_topl (fun x3 => ?_)
      refine s_lstore_n (i := 1) (lv' := [(1, .long x3), (0, aR G c0), (3, .int v3)]) dX5_owned_24 rfl rfl rfl ?_
      refine s_iinc (v := 1) (lv' := [(3, .int (v3 + 1)), (1, .long x3), (0, aR G c0)]) 2 dX5_owned_25 rfl (by decide) rfl rfl ?_
      refine s_goto (tgt := 8) dX5_owned_28 (by decide) ?_
      refine s_lv [2, 1, 0] (lv' := [(0, aR G c0), (1, .long x3), (3, .int (v3 + 1))]) rfl ?_
      exact ih _ _ _
def f_L_owned (o : Nat) (M : Nm) : Option (Int64 × Nm) := bnd (f_L_stakeClaims o M) fun r1 M2 => f_L_owned_L8 o FU 0 0 M2
theorem c_L_owned (l : Launch) (G : Gl) (o : Nat) (ho : (sh o).1 = 8) (M : Nm) : NJ l G Y_X5_owned (zR 4 100) eL 0 (lv_args 0 [aR G o]) [] M (f_L_owned o M) := by
  unfold f_L_owned
  show NJ l G Y_X5_owned (zR 4 100) eL 0 [(0, aR G o)] [] M _
  refine s_aload_n 0 dX5_owned_0 rfl ?_
  refine n_invV_u dX5_owned_1 ok_X5_stakeClaims rfl wt_317 wt_319 ws_1 (ci := 8) rfl rfl ho (sh_lt ho rfl) [] rfl rfl rfl rfl (c_L_stakeClaims l G _ ho _) (fun r1 M2 => ?_)
  refine s_lconst (v := 0) dX5_owned_4 (by decide) ?_
  refine s_lstore_n (i := 1) (lv' := [(1, .long 0), (0, aR G o)]) dX5_owned_5 rfl rfl rfl ?_
  refine s_iconst (v := 0) dX5_owned_6 (by decide) ?_
  refine s_istore_n (i := 3) (lv' := [(3, .int 0), (1, .long 0), (0, aR G o)]) dX5_owned_7 rfl rfl rfl ?_
  refine s_lv [2, 1, 0] (lv' := [(0, aR G o), (1, .long 0), (3, .int 0)]) rfl ?_
  refine c_L_owned_L8 l G _ ho FU _ _ _
def f_P_cells (v1 : Int32) (M : Nm) : Option (Int64 × Nm) := if v1 = 0 then (some (M.2.1 8 0, M)) else if v1 = 1 then (bnd (f_L_disputed 8 M) fun r3 M4 => some (r3, M4)) else if v1 = 2 then (bnd (f_L_owned 8 M) fun r6 M7 => some (r6, M7)) else (bnd (f_P_finding (-1000000001) M) fun r8 M9 => some (r8.toInt64, M9))
theorem c_P_cells (l : Launch) (G : Gl) (v1 : Int32)  (M : Nm) : NJ l G Y_X11_cells (zR 5 125) eL 0 (lv_args 0 [aR G 0, .int v1]) [] M (f_P_cells v1 M) := by
  unfold f_P_cells
  show NJ l G Y_X11_cells (zR 5 125) eL 0 [(0, aR G 0), (1, .int v1)] [] M _
  refine s_iload_n 1 dX11_cells_0 rfl ?_
  refine s_ite (fun h1 => ?_) (fun h1 => ?_)
  · refine s_tin (tgt := 28) dX11_cells_1 (by rw [h1]; decide) (by rw [h1]; decide) (by rw [h1]; rfl) (by decide) ?_
    refine s_aload_n 0 dX11_cells_28 rfl ?_
    refine n_getR (x := 8) dX11_cells_29 okf_P_50_0 rfl rfl so_0 (sh_lt so_0 rfl) rfl ?_
    refine n_getL dX11_cells_32 okf_P_91_8 rfl rfl so_8 (sh_lt so_8 rfl) ?_
    exact n_lret dX11_cells_35 rfl
  refine s_ite (fun h2 => ?_) (fun h2 => ?_)
  · refine s_tin (tgt := 36) dX11_cells_1 (by rw [h2]; decide) (by rw [h2]; decide) (by rw [h2]; rfl) (by decide) ?_
    refine s_aload_n 0 dX11_cells_36 rfl ?_
    refine n_getR (x := 8) dX11_cells_37 okf_P_50_0 rfl rfl so_0 (sh_lt so_0 rfl) rfl ?_
    refine n_invV_l dX11_cells_40 ok_X5_disputed rfl wt_337 wt_338 wt_339 (ci := 8) rfl rfl so_8 (sh_lt so_8 rfl) [] rfl rfl rfl rfl (c_L_disputed l G _ so_8 _) (fun r3 M4 => ?_)
    exact n_lret dX11_cells_43 rfl
  refine s_ite (fun h5 => ?_) (fun h5 => ?_)
  · refine s_tin (tgt := 44) dX11_cells_1 (by rw [h5]; decide) (by rw [h5]; decide) (by rw [h5]; rfl) (by decide) ?_
    refine s_aload_n 0 dX11_cells_44 rfl ?_
    refine n_getR (x := 8) dX11_cells_45 okf_P_50_0 rfl rfl so_0 (sh_lt so_0 rfl) rfl ?_
    refine n_invV_l dX11_cells_48 ok_X5_owned rfl wt_341 wt_342 wt_343 (ci := 8) rfl rfl so_8 (sh_lt so_8 rfl) [] rfl rfl rfl rfl (c_L_owned l G _ so_8 _) (fun r6 M7 => ?_)
    exact n_lret dX11_cells_51 rfl
  refine s_tout (tgt := 52) dX11_cells_1 (sw_out (fun k h1 h2 => by rcases (show k = 0 ∨ k = 1 ∨ k = 2 by omega) with rfl | rfl | rfl <;> assumption)) (by decide) ?_
  refine s_aload_n 0 dX11_cells_52 rfl ?_
  refine s_ldc (v := (-1000000001)) dX11_cells_53 wt_263 ?_
  refine n_invV_i dX11_cells_55 ok_X11_finding rfl wt_264 wt_266 ws_0 (ci := 0) rfl rfl so_0 (sh_lt so_0 rfl) [.int (-1000000001)] rfl rfl rfl rfl (c_P_finding l G _ _) (fun r8 M9 => ?_)
  refine s_i2l dX11_cells_58 ?_
  exact n_lret dX11_cells_59 rfl
def f_P_isKind (v0 : Int32) (M : Nm) : Option (Int32 × Nm) := bnd (f_P_within v0 0 5 M) fun r1 M2 => grd (decide (r1 = 0) || decide (r1 = 1)) (some (r1, M2))
theorem c_P_isKind (l : Launch) (G : Gl) (v0 : Int32)  (M : Nm) : NJ l G Y_X11_isKind (zR 1 22) eI 0 (lv_args 0 [.int v0]) [] M (f_P_isKind v0 M) := by
  unfold f_P_isKind
  show NJ l G Y_X11_isKind (zR 1 22) eI 0 [(0, .int v0)] [] M _
  refine s_iload_n 0 dX11_isKind_0 rfl ?_
  refine s_iconst (v := 0) dX11_isKind_1 (by decide) ?_
  refine s_iconst (v := 5) dX11_isKind_2 (by decide) ?_
  refine n_invS_i dX11_isKind_3 ok_X11_within rfl wt_260 wt_261 [.int v0, .int 0, .int 5] rfl rfl rfl rfl (c_P_within l G _ _ _ _) (fun r1 M2 => ?_)
  exact n_zretB dX11_isKind_6 rfl
def f_L_isFull (o : Nat) (M : Nm) : Option (Int32 × Nm) := if (M.1 o 2) < 6 then (some (0, M)) else (some (1, M))
theorem c_L_isFull (l : Launch) (G : Gl) (o : Nat) (ho : (sh o).1 = 8) (M : Nm) : NJ l G Y_X5_isFull (zR 0 0) eI 0 (lv_args 0 [aR G o]) [] M (f_L_isFull o M) := by
  unfold f_L_isFull
  show NJ l G Y_X5_isFull (zR 0 0) eI 0 [(0, aR G o)] [] M _
  refine s_aload_n 0 dX5_isFull_0 rfl ?_
  refine n_getI dX5_isFull_1 okf_L_36_8 rfl rfl ho (sh_lt ho rfl) ?_
  refine s_bipush (v := 6) dX5_isFull_4 (by decide) ?_
  refine s_icmp_lt (tgt := 13) dX5_isFull_6 (by decide) (fun _ => ?_) (fun _ => ?_)
  · refine s_iconst (v := 0) dX5_isFull_13 (by decide) ?_
    exact n_zret0 dX5_isFull_14 rfl
  · refine s_iconst (v := 1) dX5_isFull_9 (by decide) ?_
    refine s_goto (tgt := 14) dX5_isFull_10 (by decide) ?_
    exact n_zret1 dX5_isFull_14 rfl
def f_H_startAnew (o : Nat) (c1 : Nat) (v2 : Int32) (M : Nm) : Option (Unit × Nm) := bl (mK M o c1) fun M1 => bl (mI M1 o 1 v2) fun M2 => bl (mI M2 o 2 30) fun M3 => bl (mI M3 o 3 0) fun M4 => bl (mI M4 o 4 0) fun M5 => bnd (f_G_bit v2 M5) fun r6 M7 => bl (mL M7 o 7 r6) fun M8 => bl (mI M8 o 8 0) fun M9 => some ((), M9)
theorem c_H_startAnew (l : Launch) (G : Gl) (o : Nat) (c1 : Nat) (v2 : Int32) (ho : (sh o).1 = 7) (hc1 : isK c1) (M : Nm) : NJ l G Y_X2_startAnew (zR 1 20) eU 0 (lv_args 0 [aR G o, aR G c1, .int v2]) [] M (f_H_startAnew o c1 v2 M) := by
  unfold f_H_startAnew
  show NJ l G Y_X2_startAnew (zR 1 20) eU 0 [(0, aR G o), (1, aR G c1), (2, .int v2)] [] M _
  refine s_aload_n 0 dX2_startAnew_0 rfl ?_
  refine s_aload_n 1 dX2_startAnew_1 rfl ?_
  refine n_putK dX2_startAnew_2 okp_H_9_7 ho ?_
  refine s_topM (fun M1 => ?_)
  refine s_aload_n 0 dX2_startAnew_5 rfl ?_
  refine s_iload_n 2 dX2_startAnew_6 rfl ?_
  refine n_putI dX2_startAnew_7 okp_H_22_7 rfl rfl ho (sh_lt ho rfl) ?_
  refine s_topM (fun M2 => ?_)
  refine s_aload_n 0 dX2_startAnew_10 rfl ?_
  refine s_bipush (v := 30) dX2_startAnew_11 (by decide) ?_
  refine n_putI dX2_startAnew_13 okp_H_26_7 rfl rfl ho (sh_lt ho rfl) ?_
  refine s_topM (fun M3 => ?_)
  refine s_aload_n 0 dX2_startAnew_16 rfl ?_
  refine s_iconst (v := 0) dX2_startAnew_17 (by decide) ?_
  refine n_putI dX2_startAnew_18 okp_H_29_7 rfl rfl ho (sh_lt ho rfl) ?_
  refine s_topM (fun M4 => ?_)
  refine s_aload_n 0 dX2_startAnew_21 rfl ?_
  refine s_iconst (v := 0) dX2_startAnew_22 (by decide) ?_
  refine n_putI dX2_startAnew_23 okp_H_32_7 rfl rfl ho (sh_lt ho rfl) ?_
  refine s_topM (fun M5 => ?_)
  refine s_aload_n 0 dX2_startAnew_26 rfl ?_
  refine s_iload_n 2 dX2_startAnew_27 rfl ?_
  refine n_invS_l dX2_startAnew_28 ok_X1_bit rfl wt_364 wt_276 [.int v2] rfl rfl rfl rfl (c_G_bit l G _ _) (fun r6 M7 => ?_)
  refine n_putL dX2_startAnew_31 okp_H_41_7 rfl rfl ho (sh_lt ho rfl) ?_
  refine s_topM (fun M8 => ?_)
  refine s_aload_n 0 dX2_startAnew_34 rfl ?_
  refine s_iconst (v := 0) dX2_startAnew_35 (by decide) ?_
  refine n_putI dX2_startAnew_36 okp_H_45_7 rfl rfl ho (sh_lt ho rfl) ?_
  refine s_topM (fun M9 => ?_)
  exact n_vret dX2_startAnew_39 rfl
def f_L_newHand (o : Nat) (c1 : Nat) (v2 : Int32) (M : Nm) : Option ((Option Nat) × Nm) := bnd (f_L_isFull o M) fun r1 M2 => if r1 = 0 then (grd (inb (M2.1 o 2) 6) <| bnd (f_H_startAnew (hnd o (M2.1 o 2)) c1 v2 M2) fun r4 M5 => bl (mI M5 o 2 ((M5.1 o 2) + 1)) fun M6 => some (some (hnd o (M2.1 o 2)), M6)) else (some (none, M2))
theorem c_L_newHand (l : Launch) (G : Gl) (o : Nat) (c1 : Nat) (v2 : Int32) (ho : (sh o).1 = 8) (hc1 : isK c1) (M : Nm) : NJ l G Y_X5_newHand (zR 2 42) (eR G) 0 (lv_args 0 [aR G o, aR G c1, .int v2]) [] M (f_L_newHand o c1 v2 M) := by
  unfold f_L_newHand
  show NJ l G Y_X5_newHand (zR 2 42) (eR G) 0 [(0, aR G o), (1, aR G c1), (2, .int v2)] [] M _
  refine s_aload_n 0 dX5_newHand_0 rfl ?_
  refine n_invV_i dX5_newHand_1 ok_X5_isFull rfl wt_356 wt_357 wt_358 (ci := 8) rfl rfl ho (sh_lt ho rfl) [] rfl rfl rfl rfl (c_L_isFull l G _ ho _) (fun r1 M2 => ?_)
  refine s_if_eq (tgt := 9) dX5_newHand_4 (by decide) (fun _ => ?_) (fun _ => ?_)
  · refine s_aload_n 0 dX5_newHand_9 rfl ?_
    refine n_getR (x := (o + 1)) dX5_newHand_10 okf_L_11_8 rfl rfl ho (sh_lt ho rfl) (r_rows ho) ?_
    refine s_aload_n 0 dX5_newHand_13 rfl ?_
    refine n_getI dX5_newHand_14 okf_L_36_8 rfl rfl ho (sh_lt ho rfl) ?_
    refine n_aal (x := (hnd o (M2.1 o 2))) 3 ⟨rfl, rfl⟩ dX5_newHand_17 (ly_rows ho) (r_hnd ho) (fun h3 => ?_)
    refine s_astore_n (i := 3) (lv' := [(3, aR G (hnd o (M2.1 o 2))), (0, aR G o), (1, aR G c1), (2, .int v2)]) dX5_newHand_18 rfl rfl rfl ?_
    refine s_aload_n 0 dX5_newHand_19 rfl ?_
    refine s_aload_n 2 dX5_newHand_20 rfl ?_
    refine s_iload_n 3 dX5_newHand_21 rfl ?_
    refine n_invV_u dX5_newHand_22 ok_X2_startAnew rfl wt_360 wt_361 wt_362 (ci := 7) rfl rfl (ly_hnd ho h3) (sh_lt (ly_hnd ho h3) rfl) [aR G c1, .int v2] rfl rfl rfl rfl (c_H_startAnew l G _ _ _ (ly_hnd ho h3) hc1 _) (fun r4 M5 => ?_)
    refine s_aload_n 1 dX5_newHand_25 rfl ?_
    refine s_dup dX5_newHand_26 rfl ?_
    refine n_getI dX5_newHand_27 okf_L_36_8 rfl rfl ho (sh_lt ho rfl) ?_
    refine s_iconst (v := 1) dX5_newHand_30 (by decide) ?_
    refine s_iadd dX5_newHand_31 ?_
    refine n_putI dX5_newHand_32 okp_L_36_8 rfl rfl ho (sh_lt ho rfl) ?_
    refine s_topM (fun M6 => ?_)
    refine s_aload_n 0 dX5_newHand_35 rfl ?_
    exact n_aret dX5_newHand_36 rfl
  · refine s_null dX5_newHand_7 ?_
    exact n_aretN dX5_newHand_8 rfl
def f_P_hand (v1 : Int32) (v2 : Int32) (M : Nm) : Option (Int32 × Nm) := bnd (f_P_isKind v1 M) fun r1 M2 => if r1 = 0 then (bnd (f_P_finding (-1000000001) M2) fun r3 M4 => some (r3, M4)) else (bnd (f_P_isCell v2 M2) fun r5 M6 => if r5 = 0 then (bnd (f_P_finding (-1000000001) M6) fun r7 M8 => some (r7, M8)) else (grd (inb v1 6) <| bnd (f_L_newHand 8 (knd v1) v2 M6) fun r10 M11 => ifn r10 (bnd (f_P_finding (-1000000002) M11) fun r14 M15 => some (r14, M15)) fun p12 => grd (isb 7 p12) <| some ((M11.1 8 2) - 1, M11)))
theorem c_P_hand (l : Launch) (G : Gl) (v1 : Int32) (v2 : Int32)  (M : Nm) : NJ l G Y_X11_hand (zR 3 65) eI 0 (lv_args 0 [aR G 0, .int v1, .int v2]) [] M (f_P_hand v1 v2 M) := by
  unfold f_P_hand
  show NJ l G Y_X11_hand (zR 3 65) eI 0 [(0, aR G 0), (1, .int v1), (2, .int v2)] [] M _
  refine s_iload_n 1 dX11_hand_0 rfl ?_
  refine n_invS_i dX11_hand_1 ok_X11_isKind rfl wt_349 wt_350 [.int v1] rfl rfl rfl rfl (c_P_isKind l G _ _) (fun r1 M2 => ?_)
  refine s_if_eq (tgt := 14) dX11_hand_4 (by decide) (fun _ => ?_) (fun _ => ?_)
  · refine s_aload_n 0 dX11_hand_14 rfl ?_
    refine s_ldc (v := (-1000000001)) dX11_hand_15 wt_263 ?_
    refine n_invV_i dX11_hand_17 ok_X11_finding rfl wt_264 wt_266 ws_0 (ci := 0) rfl rfl so_0 (sh_lt so_0 rfl) [.int (-1000000001)] rfl rfl rfl rfl (c_P_finding l G _ _) (fun r3 M4 => ?_)
    exact n_iret dX11_hand_20 rfl
  · refine s_iload_n 2 dX11_hand_7 rfl ?_
    refine n_invS_i dX11_hand_8 ok_X11_isCell rfl wt_257 wt_258 [.int v2] rfl rfl rfl rfl (c_P_isCell l G _ _) (fun r5 M6 => ?_)
    refine s_if_ne (tgt := 21) dX11_hand_11 (by decide) (fun _ => ?_) (fun _ => ?_)
    · refine s_aload_n 0 dX11_hand_14 rfl ?_
      refine s_ldc (v := (-1000000001)) dX11_hand_15 wt_263 ?_
      refine n_invV_i dX11_hand_17 ok_X11_finding rfl wt_264 wt_266 ws_0 (ci := 0) rfl rfl so_0 (sh_lt so_0 rfl) [.int (-1000000001)] rfl rfl rfl rfl (c_P_finding l G _ _) (fun r7 M8 => ?_)
      exact n_iret dX11_hand_20 rfl
    · refine s_aload_n 0 dX11_hand_21 rfl ?_
      refine n_getR (x := 8) dX11_hand_22 okf_P_50_0 rfl rfl so_0 (sh_lt so_0 rfl) rfl ?_
      refine s_aload_n 0 dX11_hand_25 rfl ?_
      refine n_getR (x := 2) dX11_hand_26 okf_P_41_0 rfl rfl so_0 (sh_lt so_0 rfl) rfl ?_
      refine s_iload_n 1 dX11_hand_29 rfl ?_
      refine n_aal (x := (knd v1)) 4 ⟨rfl, rfl⟩ dX11_hand_30 sa_2 r_knd (fun h9 => ?_)
      refine s_iload_n 2 dX11_hand_31 rfl ?_
      refine n_invV_r dX11_hand_32 ok_X5_newHand rfl wt_352 wt_353 wt_354 (ci := 8) rfl rfl so_8 (sh_lt so_8 rfl) [aR G (knd v1), .int v2] rfl rfl rfl rfl (c_L_newHand l G _ _ _ so_8 (ly_knd h9) _) (fun r10 M11 => ?_)
      refine s_split ?_ (fun p12 => ?_)
      · refine s_astore_nN (i := 3) (lv' := [(3, .null), (0, aR G 0), (1, .int v1), (2, .int v2)]) dX11_hand_35 rfl rfl rfl ?_
        refine s_aload_nN 0 dX11_hand_36 rfl ?_
        refine s_ifnonnullN dX11_hand_37 ?_
        refine s_aload_n 1 dX11_hand_40 rfl ?_
        refine s_ldc (v := (-1000000002)) dX11_hand_41 wt_365 ?_
        refine n_invV_i dX11_hand_43 ok_X11_finding rfl wt_264 wt_266 ws_0 (ci := 0) rfl rfl so_0 (sh_lt so_0 rfl) [.int (-1000000002)] rfl rfl rfl rfl (c_P_finding l G _ _) (fun r14 M15 => ?_)
        refine s_goto (tgt := 58) dX11_hand_46 (by decide) ?_
        exact n_iret dX11_hand_58 rfl
      · refine s_grd (fun h13 => ?_)
        refine s_astore_n (i := 3) (lv' := [(3, aR G p12), (0, aR G 0), (1, .int v1), (2, .int v2)]) dX11_hand_35 rfl rfl rfl ?_
        refine s_aload_n 0 dX11_hand_36 rfl ?_
        refine s_ifnonnullS (tgt := 49) dX11_hand_37 (by decide) ?_
        refine s_aload_n 1 dX11_hand_49 rfl ?_
        refine n_getR (x := 8) dX11_hand_50 okf_P_50_0 rfl rfl so_0 (sh_lt so_0 rfl) rfl ?_
        refine n_getI dX11_hand_53 okf_P_127_8 rfl rfl so_8 (sh_lt so_8 rfl) ?_
        refine s_iconst (v := 1) dX11_hand_56 (by decide) ?_
        refine s_isub dX11_hand_57 ?_
        exact n_iret dX11_hand_58 rfl
def f_L_handOf (o : Nat) (v1 : Int32) (M : Nm) : Option ((Option Nat) × Nm) := if v1 < 0 then (some (none, M)) else (if (M.1 o 2) ≤ v1 then (some (none, M)) else (if (nI 6) ≤ v1 then (some (none, M)) else (grd (inb v1 6) <| some (some (hnd o v1), M))))
theorem c_L_handOf (l : Launch) (G : Gl) (o : Nat) (v1 : Int32) (ho : (sh o).1 = 8) (M : Nm) : NJ l G Y_X5_handOf (zR 0 0) (eR G) 0 (lv_args 0 [aR G o, .int v1]) [] M (f_L_handOf o v1 M) := by
  unfold f_L_handOf
  show NJ l G Y_X5_handOf (zR 0 0) (eR G) 0 [(0, aR G o), (1, .int v1)] [] M _
  refine s_iload_n 1 dX5_handOf_0 rfl ?_
  refine s_if_lt (tgt := 30) dX5_handOf_1 (by decide) (fun _ => ?_) (fun _ => ?_)
  · refine s_null dX5_handOf_30 ?_
    exact n_aretN dX5_handOf_31 rfl
  · refine s_iload_n 1 dX5_handOf_4 rfl ?_
    refine s_aload_n 0 dX5_handOf_5 rfl ?_
    refine n_getI dX5_handOf_6 okf_L_36_8 rfl rfl ho (sh_lt ho rfl) ?_
    refine s_icmp_ge (tgt := 30) dX5_handOf_9 (by decide) (fun _ => ?_) (fun _ => ?_)
    · refine s_null dX5_handOf_30 ?_
      exact n_aretN dX5_handOf_31 rfl
    · refine s_iload_n 1 dX5_handOf_12 rfl ?_
      refine s_aload_n 0 dX5_handOf_13 rfl ?_
      refine n_getR (x := (o + 1)) dX5_handOf_14 okf_L_11_8 rfl rfl ho (sh_lt ho rfl) (r_rows ho) ?_
      refine n_len 3 dX5_handOf_17 rfl (ly_rows ho) ?_
      refine s_icmp_ge (tgt := 30) dX5_handOf_18 (by decide) (fun _ => ?_) (fun _ => ?_)
      · refine s_null dX5_handOf_30 ?_
        exact n_aretN dX5_handOf_31 rfl
      · refine s_aload_n 0 dX5_handOf_21 rfl ?_
        refine n_getR (x := (o + 1)) dX5_handOf_22 okf_L_11_8 rfl rfl ho (sh_lt ho rfl) (r_rows ho) ?_
        refine s_iload_n 1 dX5_handOf_25 rfl ?_
        refine n_aal (x := (hnd o v1)) 3 ⟨rfl, rfl⟩ dX5_handOf_26 (ly_rows ho) (r_hnd ho) (fun h1 => ?_)
        refine s_goto (tgt := 31) dX5_handOf_27 (by decide) ?_
        exact n_aret dX5_handOf_31 rfl
def f_P_isWay (v0 : Int32) (M : Nm) : Option (Int32 × Nm) := bnd (f_P_within v0 0 3 M) fun r1 M2 => grd (decide (r1 = 0) || decide (r1 = 1)) (some (r1, M2))
theorem c_P_isWay (l : Launch) (G : Gl) (v0 : Int32)  (M : Nm) : NJ l G Y_X11_isWay (zR 1 22) eI 0 (lv_args 0 [.int v0]) [] M (f_P_isWay v0 M) := by
  unfold f_P_isWay
  show NJ l G Y_X11_isWay (zR 1 22) eI 0 [(0, .int v0)] [] M _
  refine s_iload_n 0 dX11_isWay_0 rfl ?_
  refine s_iconst (v := 0) dX11_isWay_1 (by decide) ?_
  refine s_iconst (v := 3) dX11_isWay_2 (by decide) ?_
  refine n_invS_i dX11_isWay_3 ok_X11_within rfl wt_260 wt_261 [.int v0, .int 0, .int 3] rfl rfl rfl rfl (c_P_within l G _ _ _ _) (fun r1 M2 => ?_)
  exact n_zretB dX11_isWay_6 rfl
def f_P_isLength (v0 : Int32) (M : Nm) : Option (Int32 × Nm) := bnd (f_P_within v0 1 7 M) fun r1 M2 => grd (decide (r1 = 0) || decide (r1 = 1)) (some (r1, M2))
theorem c_P_isLength (l : Launch) (G : Gl) (v0 : Int32)  (M : Nm) : NJ l G Y_X11_isLength (zR 1 22) eI 0 (lv_args 0 [.int v0]) [] M (f_P_isLength v0 M) := by
  unfold f_P_isLength
  show NJ l G Y_X11_isLength (zR 1 22) eI 0 [(0, .int v0)] [] M _
  refine s_iload_n 0 dX11_isLength_0 rfl ?_
  refine s_iconst (v := 1) dX11_isLength_1 (by decide) ?_
  refine s_bipush (v := 7) dX11_isLength_2 (by decide) ?_
  refine n_invS_i dX11_isLength_4 ok_X11_within rfl wt_260 wt_261 [.int v0, .int 1, .int 7] rfl rfl rfl rfl (c_P_within l G _ _ _ _) (fun r1 M2 => ?_)
  exact n_zretB dX11_isLength_7 rfl
def f_H_addStroke (o : Nat) (v1 : Int32) (v2 : Int32) (M : Nm) : Option (Int32 × Nm) := if (M.1 o 4) < 0 then (some (0, M)) else (if (M.1 o 4) < 8 then (grd (inb (M.1 o 4) 8) <| bl (mI M (o + 1) (ix (M.1 o 4)) v1) fun M1 => grd (inb (M1.1 o 4) 8) <| bl (mI M1 (o + 2) (ix (M1.1 o 4)) v2) fun M2 => bl (mI M2 o 4 ((M2.1 o 4) + 1)) fun M3 => some (1, M3)) else (some (0, M)))
theorem c_H_addStroke (l : Launch) (G : Gl) (o : Nat) (v1 : Int32) (v2 : Int32) (ho : (sh o).1 = 7) (M : Nm) : NJ l G Y_X2_addStroke (zR 0 0) eI 0 (lv_args 0 [aR G o, .int v1, .int v2]) [] M (f_H_addStroke o v1 v2 M) := by
  unfold f_H_addStroke
  show NJ l G Y_X2_addStroke (zR 0 0) eI 0 [(0, aR G o), (1, .int v1), (2, .int v2)] [] M _
  refine s_aload_n 0 dX2_addStroke_0 rfl ?_
  refine n_getI dX2_addStroke_1 okf_H_32_7 rfl rfl ho (sh_lt ho rfl) ?_
  refine s_if_lt (tgt := 16) dX2_addStroke_4 (by decide) (fun _ => ?_) (fun _ => ?_)
  · refine s_iconst (v := 0) dX2_addStroke_16 (by decide) ?_
    exact n_zret0 dX2_addStroke_17 rfl
  · refine s_aload_n 0 dX2_addStroke_7 rfl ?_
    refine n_getI dX2_addStroke_8 okf_H_32_7 rfl rfl ho (sh_lt ho rfl) ?_
    refine s_bipush (v := 8) dX2_addStroke_11 (by decide) ?_
    refine s_icmp_lt (tgt := 18) dX2_addStroke_13 (by decide) (fun _ => ?_) (fun _ => ?_)
    · refine s_aload_n 0 dX2_addStroke_18 rfl ?_
      refine n_getR (x := (o + 1)) dX2_addStroke_19 okf_H_15_7 rfl rfl ho (sh_lt ho rfl) (r_ways ho) ?_
      refine s_aload_n 0 dX2_addStroke_22 rfl ?_
      refine n_getI dX2_addStroke_23 okf_H_32_7 rfl rfl ho (sh_lt ho rfl) ?_
      refine s_iload_n 1 dX2_addStroke_26 rfl ?_
      refine n_ias dX2_addStroke_27 (ly_ways ho) ?_
      refine s_topM (fun M1 => ?_)
      refine s_aload_n 0 dX2_addStroke_28 rfl ?_
      refine n_getR (x := (o + 2)) dX2_addStroke_29 okf_H_19_7 rfl rfl ho (sh_lt ho rfl) (r_lens ho) ?_
      refine s_aload_n 0 dX2_addStroke_32 rfl ?_
      refine n_getI dX2_addStroke_33 okf_H_32_7 rfl rfl ho (sh_lt ho rfl) ?_
      refine s_iload_n 2 dX2_addStroke_36 rfl ?_
      refine n_ias dX2_addStroke_37 (ly_lens ho) ?_
      refine s_topM (fun M2 => ?_)
      refine s_aload_n 0 dX2_addStroke_38 rfl ?_
      refine s_dup dX2_addStroke_39 rfl ?_
      refine n_getI dX2_addStroke_40 okf_H_32_7 rfl rfl ho (sh_lt ho rfl) ?_
      refine s_iconst (v := 1) dX2_addStroke_43 (by decide) ?_
      refine s_iadd dX2_addStroke_44 ?_
      refine n_putI dX2_addStroke_45 okp_H_32_7 rfl rfl ho (sh_lt ho rfl) ?_
      refine s_topM (fun M3 => ?_)
      refine s_iconst (v := 1) dX2_addStroke_48 (by decide) ?_
      exact n_zret1 dX2_addStroke_49 rfl
    · refine s_iconst (v := 0) dX2_addStroke_16 (by decide) ?_
      exact n_zret0 dX2_addStroke_17 rfl
def f_H_trace_L67 (k121 : Int32 → Nm → Option (Unit × Nm)) (k86 : Int32 → Nm → Option (Unit × Nm)) (c0 : Nat) (v2 : Int32) (v3 : Int32) (v4 : Int32) : Nat → Int32 → Int32 → Nm → Option (Unit × Nm)
  | 0, _, _, _ => none
  | f + 1, v1, v5, M => if v4 ≤ v5 then (k121 v1 M) else (bnd (f_G_stepFrom v1 v3 M) fun r13 M14 => if 0 ≤ r13 then (bnd (f_G_bit r13 M14) fun r15 M16 => bl (mL M16 c0 7 ((M14.2.1 c0 7) ||| r15)) fun M17 => bl (mI M17 c0 8 ((M17.1 c0 8) + 1)) fun M18 => f_H_trace_L67 k121 k86 c0 v2 v3 v4 f r13 (v5 + 1) M18) else (k86 v1 M14))
theorem c_H_trace_L67 (l : Launch) (G : Gl) {k121 : Int32 → Nm → Option (Unit × Nm)} {k86 : Int32 → Nm → Option (Unit × Nm)} (c0 : Nat) (v2 : Int32) (v3 : Int32) (v4 : Int32) (hc0 : (sh c0).1 = 7) (hk121 : ∀ (v1 : Int32)  (M : Nm), NJ l G Y_X2_trace (zR 3 75) eU 121 [(0, aR G c0), (1, .int v1), (2, .int v2)] [] M (k121 v1 M)) (hk86 : ∀ (v1 : Int32)  (M : Nm), NJ l G Y_X2_trace (zR 3 75) eU 86 [(0, aR G c0), (1, .int v1), (2, .int v2)] [] M (k86 v1 M)) : ∀ (f : Nat) (v1 : Int32) (v5 : Int32)  (M : Nm), NJ l G Y_X2_trace (zR 3 75) eU 67 [(0, aR G c0), (1, .int v1), (2, .int v2), (3, .int v3), (4, .int v4), (5, .int v5)] [] M (f_H_trace_L67 k121 k86 c0 v2 v3 v4 f v1 v5 M) := by
  intro f
  induction f with
  | zero => intro v1 v5 M; exact s_none
  | succ f ih =>
    intro v1 v5 M
    rw [f_H_trace_L67]
    refine s_iload 5 dX2_trace_67 rfl ?_
    refine s_iload 4 dX2_trace_69 rfl ?_
    refine s_icmp_ge (tgt := 121) dX2_trace_71 (by decide) (fun _ => ?_) (fun _ => ?_)
    · refine s_lv [0, 1, 2] (lv' := [(0, aR G c0), (1, .int v1), (2, .int v2)]) rfl ?_
      exact hk121 _ _
    · refine s_iload_n 1 dX2_trace_74 rfl ?_
      refine s_iload_n 3 dX2_trace_75 rfl ?_
      refine n_invS_i dX2_trace_76 ok_X1_stepFrom rfl wt_429 wt_430 [.int v1, .int v3] rfl rfl rfl rfl (c_G_stepFrom l G _ _ _) (fun r13 M14 => ?_)
      refine s_istore (lv' := [(6, .int r13), (0, aR G c0), (1, .int v1), (2, .int v2), (3, .int v3), (4, .int v4), (5, .int v5)]) dX2_trace_79 rfl rfl ?_
      refine s_iload 0 dX2_trace_81 rfl ?_
      refine s_if_ge (tgt := 89) dX2_trace_83 (by decide) (fun _ => ?_) (fun _ => ?_)
      · refine s_iload 0 dX2_trace_89 rfl ?_
        refine s_istore_n (i := 1) (lv' := [(1, .int r13), (6, .int r13), (0, aR G c0), (2, .int v2), (3, .int v3), (4, .int v4), (5, .int v5)]) dX2_trace_91 rfl rfl rfl ?_
        refine s_aload_n 2 dX2_trace_92 rfl ?_
        refine s_dup dX2_trace_93 rfl ?_
        refine n_getL dX2_trace_94 okf_H_41_7 rfl rfl hc0 (sh_lt hc0 rfl) ?_
        refine s_iload_n 0 dX2_trace_97 rfl ?_
        refine n_invS_l dX2_trace_98 ok_X1_bit rfl wt_364 wt_276 [.int r13] rfl rfl rfl rfl (c_G_bit l G _ _) (fun r15 M16 => ?_)
        refine s_lor dX2_trace_101 ?_
        refine n_putL dX2_trace_102 okp_H_41_7 rfl rfl hc0 (sh_lt hc0 rfl) ?_
        refine s_topM (fun M17 => ?_)
        refine s_aload_n 2 dX2_trace_105 rfl ?_
        refine s_dup dX2_trace_106 rfl ?_
        refine n_getI dX2_trace_107 okf_H_45_7 rfl rfl hc0 (sh_lt hc0 rfl) ?_
        refine s_iconst (v := 1) dX2_trace_110 (by decide) ?_
        refine s_iadd dX2_trace_111 ?_
        refine n_putI dX2_trace_112 okp_H_45_7 rfl rfl hc0 (sh_lt hc0 rfl) ?_
        refine s_topM (fun M18 => ?_)
        refine s_iinc (v := 1) (lv' := [(5, .int (v5 + 1)), (1, .int r13), (6, .int r13), (0, aR G c0), (2, .int v2), (3, .int v3), (4, .int v4)]) 6 dX2_trace_115 rfl (by decide) rfl rfl ?_
        refine s_goto (tgt := 67) dX2_trace_118 (by decide) ?_
        refine s_lv [3, 1, 4, 5, 6, 0] (lv' := [(0, aR G c0), (1, .int r13), (2, .int v2), (3, .int v3), (4, .int v4), (5, .int (v5 + 1))]) rfl ?_
        exact ih _ _ _
      · refine s_lv [1, 2, 3] (lv' := [(0, aR G c0), (1, .int v1), (2, .int v2)]) rfl ?_
        exact hk86 _ _
def f_H_trace_L20 (k127 : Nm → Option (Unit × Nm)) (c0 : Nat) : Nat → Int32 → Int32 → Nm → Option (Unit × Nm)
  | 0, _, _, _ => none
  | f + 1, v1, v2, M => if (M.1 c0 4) ≤ v2 then (k127 M) else (if 8 ≤ v2 then (k127 M) else (grd (inb v2 8) <| grd (isKb (M.2.2 c0)) <| bnd (v_turns (M.2.2 c0) (M.1 (c0 + 1) (ix v2)) M) fun r6 M7 => grd (inb v2 8) <| grd (isKb (M7.2.2 c0)) <| bnd (v_steps (M7.2.2 c0) v2 (M7.1 (c0 + 2) (ix v2)) M7) fun r10 M11 => f_H_trace_L67 (fun y20 M19 => f_H_trace_L20 k127 c0 f y20 (v2 + 1) M19) (fun y22 M21 => f_H_trace_L20 k127 c0 f y22 (v2 + 1) M21) c0 v2 r6 r10 FU v1 0 M11))
theorem c_H_trace_L20 (l : Launch) (G : Gl) {k127 : Nm → Option (Unit × Nm)} (c0 : Nat) (hc0 : (sh c0).1 = 7) (hk127 : ∀   (M : Nm), NJ l G Y_X2_trace (zR 3 75) eU 127 [] [] M (k127 M)) : ∀ (f : Nat) (v1 : Int32) (v2 : Int32)  (M : Nm), NJ l G Y_X2_trace (zR 3 75) eU 20 [(0, aR G c0), (1, .int v1), (2, .int v2)] [] M (f_H_trace_L20 k127 c0 f v1 v2 M) := by
  intro f
  induction f with
  | zero => intro v1 v2 M; exact s_none
  | succ f ih =>
    intro v1 v2 M
    rw [f_H_trace_L20]
    refine s_iload_n 2 dX2_trace_20 rfl ?_
    refine s_aload_n 0 dX2_trace_21 rfl ?_
    refine n_getI dX2_trace_22 okf_H_32_7 rfl rfl hc0 (sh_lt hc0 rfl) ?_
    refine s_icmp_ge (tgt := 127) dX2_trace_25 (by decide) (fun _ => ?_) (fun _ => ?_)
    · refine s_lv [] (lv' := []) rfl ?_
      exact hk127 _
    · refine s_iload_n 2 dX2_trace_28 rfl ?_
      refine s_bipush (v := 8) dX2_trace_29 (by decide) ?_
      refine s_icmp_ge (tgt := 127) dX2_trace_31 (by decide) (fun _ => ?_) (fun _ => ?_)
      · refine s_lv [] (lv' := []) rfl ?_
        exact hk127 _
      · refine s_aload_n 0 dX2_trace_34 rfl ?_
        refine n_getR (x := (M.2.2 c0)) dX2_trace_35 okf_H_9_7 rfl rfl hc0 (sh_lt hc0 rfl) (r_kind hc0) ?_
        refine s_aload_n 0 dX2_trace_38 rfl ?_
        refine n_getR (x := (c0 + 1)) dX2_trace_39 okf_H_15_7 rfl rfl hc0 (sh_lt hc0 rfl) (r_ways hc0) ?_
        refine s_iload_n 2 dX2_trace_42 rfl ?_
        refine n_ial dX2_trace_43 (ly_ways hc0) ?_
        refine s_grd (fun h5 => ?_)
        refine n_virt_turns (Y := Y_X2_trace) (pc := 44) dX2_trace_44 wt_388 (by decide) (isKb_1 h5) rfl rfl (fun r6 M7 => ?_)
        refine s_istore_n (i := 3) (lv' := [(3, .int r6), (0, aR G c0), (1, .int v1), (2, .int v2)]) dX2_trace_47 rfl rfl rfl ?_
        refine s_aload_n 1 dX2_trace_48 rfl ?_
        refine n_getR (x := (M7.2.2 c0)) dX2_trace_49 okf_H_9_7 rfl rfl hc0 (sh_lt hc0 rfl) (r_kind hc0) ?_
        refine s_iload_n 3 dX2_trace_52 rfl ?_
        refine s_aload_n 1 dX2_trace_53 rfl ?_
        refine n_getR (x := (c0 + 2)) dX2_trace_54 okf_H_19_7 rfl rfl hc0 (sh_lt hc0 rfl) (r_lens hc0) ?_
        refine s_iload_n 3 dX2_trace_57 rfl ?_
        refine n_ial dX2_trace_58 (ly_lens hc0) ?_
        refine s_grd (fun h9 => ?_)
        refine n_virt_steps (Y := Y_X2_trace) (pc := 59) dX2_trace_59 wt_403 (by decide) (isKb_1 h9) rfl rfl (fun r10 M11 => ?_)
        refine s_istore (lv' := [(4, .int r10), (3, .int r6), (0, aR G c0), (1, .int v1), (2, .int v2)]) dX2_trace_62 rfl rfl ?_
        refine s_iconst (v := 0) dX2_trace_64 (by decide) ?_
        refine s_istore (lv' := [(5, .int 0), (4, .int r10), (3, .int r6), (0, aR G c0), (1, .int v1), (2, .int v2)]) dX2_trace_65 rfl rfl ?_
        refine s_lv [3, 4, 5, 2, 1, 0] (lv' := [(0, aR G c0), (1, .int v1), (2, .int v2), (3, .int r6), (4, .int r10), (5, .int 0)]) rfl ?_
        refine c_H_trace_L67 l G _ _ _ _ hc0 (fun y20 M19 => ?_) (fun y22 M21 => ?_) FU _ _ _
        · refine s_iinc (v := 1) (lv' := [(2, .int (v2 + 1)), (0, aR G c0), (1, .int y20)]) 2 dX2_trace_121 rfl (by decide) rfl rfl ?_
          refine s_goto (tgt := 20) dX2_trace_124 (by decide) ?_
          refine s_lv [1, 2, 0] (lv' := [(0, aR G c0), (1, .int y20), (2, .int (v2 + 1))]) rfl ?_
          exact ih _ _ _
        · refine s_goto (tgt := 121) dX2_trace_86 (by decide) ?_
          refine s_iinc (v := 1) (lv' := [(2, .int (v2 + 1)), (0, aR G c0), (1, .int y22)]) 2 dX2_trace_121 rfl (by decide) rfl rfl ?_
          refine s_goto (tgt := 20) dX2_trace_124 (by decide) ?_
          refine s_lv [1, 2, 0] (lv' := [(0, aR G c0), (1, .int y22), (2, .int (v2 + 1))]) rfl ?_
          exact ih _ _ _
def f_H_trace (o : Nat) (M : Nm) : Option (Unit × Nm) := bnd (f_G_bit (M.1 o 1) M) fun r1 M2 => bl (mL M2 o 7 r1) fun M3 => bl (mI M3 o 8 0) fun M4 => f_H_trace_L20 (fun M23 => some ((), M23)) o FU (M.1 o 1) 0 M4
theorem c_H_trace (l : Launch) (G : Gl) (o : Nat) (ho : (sh o).1 = 7) (M : Nm) : NJ l G Y_X2_trace (zR 3 75) eU 0 (lv_args 0 [aR G o]) [] M (f_H_trace o M) := by
  unfold f_H_trace
  show NJ l G Y_X2_trace (zR 3 75) eU 0 [(0, aR G o)] [] M _
  refine s_aload_n 0 dX2_trace_0 rfl ?_
  refine n_getI dX2_trace_1 okf_H_22_7 rfl rfl ho (sh_lt ho rfl) ?_
  refine s_istore_n (i := 1) (lv' := [(1, .int (M.1 o 1)), (0, aR G o)]) dX2_trace_4 rfl rfl rfl ?_
  refine s_aload_n 1 dX2_trace_5 rfl ?_
  refine s_iload_n 0 dX2_trace_6 rfl ?_
  refine n_invS_l dX2_trace_7 ok_X1_bit rfl wt_364 wt_276 [.int (M.1 o 1)] rfl rfl rfl rfl (c_G_bit l G _ _) (fun r1 M2 => ?_)
  refine n_putL dX2_trace_10 okp_H_41_7 rfl rfl ho (sh_lt ho rfl) ?_
  refine s_topM (fun M3 => ?_)
  refine s_aload_n 1 dX2_trace_13 rfl ?_
  refine s_iconst (v := 0) dX2_trace_14 (by decide) ?_
  refine n_putI dX2_trace_15 okp_H_45_7 rfl rfl ho (sh_lt ho rfl) ?_
  refine s_topM (fun M4 => ?_)
  refine s_iconst (v := 0) dX2_trace_18 (by decide) ?_
  refine s_istore_n (i := 2) (lv' := [(2, .int 0), (1, .int (M.1 o 1)), (0, aR G o)]) dX2_trace_19 rfl rfl rfl ?_
  refine s_lv [2, 1, 0] (lv' := [(0, aR G o), (1, .int (M.1 o 1)), (2, .int 0)]) rfl ?_
  refine c_H_trace_L20 l G _ ho (fun M23 => ?_) FU _ _ _
  exact n_vret dX2_trace_127 rfl
def f_P_stroke (v1 : Int32) (v2 : Int32) (v3 : Int32) (M : Nm) : Option (Int32 × Nm) := bnd (f_L_handOf 8 v1 M) fun r1 M2 => ifn r1 (bnd (f_P_finding (-1000000001) M2) fun r5 M6 => some (r5, M6)) fun p3 => grd (isb 7 p3) <| bnd (f_P_isWay v2 M2) fun r7 M8 => if r7 = 0 then (bnd (f_P_finding (-1000000001) M8) fun r9 M10 => some (r9, M10)) else (bnd (f_P_isLength v3 M8) fun r11 M12 => if r11 = 0 then (bnd (f_P_finding (-1000000001) M12) fun r13 M14 => some (r13, M14)) else (bnd (f_H_addStroke p3 v2 v3 M12) fun r15 M16 => if r15 = 0 then (bnd (f_P_finding (-1000000002) M16) fun r17 M18 => some (r17, M18)) else (bnd (f_H_trace p3 M16) fun r19 M20 => some (M20.1 p3 4, M20))))
theorem c_P_stroke (l : Launch) (G : Gl) (v1 : Int32) (v2 : Int32) (v3 : Int32)  (M : Nm) : NJ l G Y_X11_stroke (zR 4 101) eI 0 (lv_args 0 [aR G 0, .int v1, .int v2, .int v3]) [] M (f_P_stroke v1 v2 v3 M) := by
  unfold f_P_stroke
  show NJ l G Y_X11_stroke (zR 4 101) eI 0 [(0, aR G 0), (1, .int v1), (2, .int v2), (3, .int v3)] [] M _
  refine s_aload_n 0 dX11_stroke_0 rfl ?_
  refine n_getR (x := 8) dX11_stroke_1 okf_P_50_0 rfl rfl so_0 (sh_lt so_0 rfl) rfl ?_
  refine s_iload_n 1 dX11_stroke_4 rfl ?_
  refine n_invV_r dX11_stroke_5 ok_X5_handOf rfl wt_370 wt_371 wt_372 (ci := 8) rfl rfl so_8 (sh_lt so_8 rfl) [.int v1] rfl rfl rfl rfl (c_L_handOf l G _ _ so_8 _) (fun r1 M2 => ?_)
  refine s_split ?_ (fun p3 => ?_)
  · refine s_astoreN (lv' := [(4, .null), (0, aR G 0), (1, .int v1), (2, .int v2), (3, .int v3)]) dX11_stroke_8 rfl rfl ?_
    refine s_aloadN 0 dX11_stroke_10 rfl ?_
    refine s_ifnullN (tgt := 29) dX11_stroke_12 (by decide) ?_
    refine s_aload_n 1 dX11_stroke_29 rfl ?_
    refine s_ldc (v := (-1000000001)) dX11_stroke_30 wt_263 ?_
    refine n_invV_i dX11_stroke_32 ok_X11_finding rfl wt_264 wt_266 ws_0 (ci := 0) rfl rfl so_0 (sh_lt so_0 rfl) [.int (-1000000001)] rfl rfl rfl rfl (c_P_finding l G _ _) (fun r5 M6 => ?_)
    exact n_iret dX11_stroke_35 rfl
  · refine s_grd (fun h4 => ?_)
    refine s_astore (lv' := [(4, aR G p3), (0, aR G 0), (1, .int v1), (2, .int v2), (3, .int v3)]) dX11_stroke_8 rfl rfl ?_
    refine s_aload 0 dX11_stroke_10 rfl ?_
    refine s_ifnullS dX11_stroke_12 ?_
    refine s_iload_n 3 dX11_stroke_15 rfl ?_
    refine n_invS_i dX11_stroke_16 ok_X11_isWay rfl wt_374 wt_375 [.int v2] rfl rfl rfl rfl (c_P_isWay l G _ _) (fun r7 M8 => ?_)
    refine s_if_eq (tgt := 29) dX11_stroke_19 (by decide) (fun _ => ?_) (fun _ => ?_)
    · refine s_aload_n 1 dX11_stroke_29 rfl ?_
      refine s_ldc (v := (-1000000001)) dX11_stroke_30 wt_263 ?_
      refine n_invV_i dX11_stroke_32 ok_X11_finding rfl wt_264 wt_266 ws_0 (ci := 0) rfl rfl so_0 (sh_lt so_0 rfl) [.int (-1000000001)] rfl rfl rfl rfl (c_P_finding l G _ _) (fun r9 M10 => ?_)
      exact n_iret dX11_stroke_35 rfl
    · refine s_iload_n 4 dX11_stroke_22 rfl ?_
      refine n_invS_i dX11_stroke_23 ok_X11_isLength rfl wt_377 wt_378 [.int v3] rfl rfl rfl rfl (c_P_isLength l G _ _) (fun r11 M12 => ?_)
      refine s_if_ne (tgt := 36) dX11_stroke_26 (by decide) (fun _ => ?_) (fun _ => ?_)
      · refine s_aload_n 1 dX11_stroke_29 rfl ?_
        refine s_ldc (v := (-1000000001)) dX11_stroke_30 wt_263 ?_
        refine n_invV_i dX11_stroke_32 ok_X11_finding rfl wt_264 wt_266 ws_0 (ci := 0) rfl rfl so_0 (sh_lt so_0 rfl) [.int (-1000000001)] rfl rfl rfl rfl (c_P_finding l G _ _) (fun r13 M14 => ?_)
        exact n_iret dX11_stroke_35 rfl
      · refine s_aload 0 dX11_stroke_36 rfl ?_
        refine s_iload_n 3 dX11_stroke_38 rfl ?_
        refine s_iload_n 4 dX11_stroke_39 rfl ?_
        refine n_invV_i dX11_stroke_40 ok_X2_addStroke rfl wt_380 wt_381 wt_382 (ci := 7) rfl rfl (isb_1 h4) (sh_lt (isb_1 h4) rfl) [.int v2, .int v3] rfl rfl rfl rfl (c_H_addStroke l G _ _ _ (isb_1 h4) _) (fun r15 M16 => ?_)
        refine s_if_ne (tgt := 53) dX11_stroke_43 (by decide) (fun _ => ?_) (fun _ => ?_)
        · refine s_aload_n 1 dX11_stroke_46 rfl ?_
          refine s_ldc (v := (-1000000002)) dX11_stroke_47 wt_365 ?_
          refine n_invV_i dX11_stroke_49 ok_X11_finding rfl wt_264 wt_266 ws_0 (ci := 0) rfl rfl so_0 (sh_lt so_0 rfl) [.int (-1000000002)] rfl rfl rfl rfl (c_P_finding l G _ _) (fun r17 M18 => ?_)
          exact n_iret dX11_stroke_52 rfl
        · refine s_aload 0 dX11_stroke_53 rfl ?_
          refine n_invV_u dX11_stroke_55 ok_X2_trace rfl wt_384 wt_385 wt_386 (ci := 7) rfl rfl (isb_1 h4) (sh_lt (isb_1 h4) rfl) [] rfl rfl rfl rfl (c_H_trace l G _ (isb_1 h4) _) (fun r19 M20 => ?_)
          refine s_aload 0 dX11_stroke_58 rfl ?_
          refine n_getI dX11_stroke_60 okf_P_150_7 rfl rfl (isb_1 h4) (sh_lt (isb_1 h4) rfl) ?_
          exact n_iret dX11_stroke_63 rfl
def f_H_howManyInside (o : Nat) (v1 : Int64) (M : Nm) : Option (Int32 × Nm) := bnd (f_H_insideUnder o v1 M) fun r1 M2 => bnd (f_Jl_bitCount r1 M2) fun r3 M4 => some (r3, M4)
theorem c_H_howManyInside (l : Launch) (G : Gl) (o : Nat) (v1 : Int64) (ho : (sh o).1 = 7) (M : Nm) : NJ l G Y_X2_howManyInside (zR 3 79) eI 0 (lv_args 0 [aR G o, .long v1]) [] M (f_H_howManyInside o v1 M) := by
  unfold f_H_howManyInside
  show NJ l G Y_X2_howManyInside (zR 3 79) eI 0 [(0, aR G o), (1, .long v1)] [] M _
  refine s_aload_n 0 dX2_howManyInside_0 rfl ?_
  refine s_lload_n 1 dX2_howManyInside_1 rfl ?_
  refine n_invV_l dX2_howManyInside_2 ok_X2_insideUnder rfl wt_441 wt_298 wt_299 (ci := 7) rfl rfl ho (sh_lt ho rfl) [.long v1] rfl rfl rfl rfl (c_H_insideUnder l G _ _ ho _) (fun r1 M2 => ?_)
  refine n_invS_i dX2_howManyInside_5 ok_J13_bitCount_95d88 rfl wt_442 wt_443 [.long r1] rfl rfl rfl rfl (c_Jl_bitCount l G _ _) (fun r3 M4 => ?_)
  exact n_iret dX2_howManyInside_8 rfl
def f_L_howManyOwnedBy (o : Nat) (v1 : Int32) (M : Nm) : Option (Int32 × Nm) := bnd (f_L_handOf o v1 M) fun r1 M2 => ifn r1 (some (0, M2)) fun p3 => grd (isb 7 p3) <| bnd (f_L_stakeClaims o M2) fun r5 M6 => bnd (f_L_shareOf o v1 M6) fun r7 M8 => bnd (f_Jl_bitCount r7 M8) fun r9 M10 => some (r9, M10)
theorem c_L_howManyOwnedBy (l : Launch) (G : Gl) (o : Nat) (v1 : Int32) (ho : (sh o).1 = 8) (M : Nm) : NJ l G Y_X5_howManyOwnedBy (zR 4 100) eI 0 (lv_args 0 [aR G o, .int v1]) [] M (f_L_howManyOwnedBy o v1 M) := by
  unfold f_L_howManyOwnedBy
  show NJ l G Y_X5_howManyOwnedBy (zR 4 100) eI 0 [(0, aR G o), (1, .int v1)] [] M _
  refine s_aload_n 0 dX5_howManyOwnedBy_0 rfl ?_
  refine s_iload_n 1 dX5_howManyOwnedBy_1 rfl ?_
  refine n_invV_r dX5_howManyOwnedBy_2 ok_X5_handOf rfl wt_452 wt_371 wt_372 (ci := 8) rfl rfl ho (sh_lt ho rfl) [.int v1] rfl rfl rfl rfl (c_L_handOf l G _ _ ho _) (fun r1 M2 => ?_)
  refine s_split ?_ (fun p3 => ?_)
  · refine s_ifnonnullN dX5_howManyOwnedBy_5 ?_
    refine s_iconst (v := 0) dX5_howManyOwnedBy_8 (by decide) ?_
    exact n_iret dX5_howManyOwnedBy_9 rfl
  · refine s_grd (fun h4 => ?_)
    refine s_ifnonnullS (tgt := 10) dX5_howManyOwnedBy_5 (by decide) ?_
    refine s_aload_n 0 dX5_howManyOwnedBy_10 rfl ?_
    refine n_invV_u dX5_howManyOwnedBy_11 ok_X5_stakeClaims rfl wt_317 wt_319 ws_1 (ci := 8) rfl rfl ho (sh_lt ho rfl) [] rfl rfl rfl rfl (c_L_stakeClaims l G _ ho _) (fun r5 M6 => ?_)
    refine s_aload_n 0 dX5_howManyOwnedBy_14 rfl ?_
    refine s_iload_n 1 dX5_howManyOwnedBy_15 rfl ?_
    refine n_invV_l dX5_howManyOwnedBy_16 ok_X5_shareOf rfl wt_325 wt_327 ws_2 (ci := 8) rfl rfl ho (sh_lt ho rfl) [.int v1] rfl rfl rfl rfl (c_L_shareOf l G _ _ ho _) (fun r7 M8 => ?_)
    refine n_invS_i dX5_howManyOwnedBy_19 ok_J13_bitCount_95d88 rfl wt_453 wt_443 [.long r7] rfl rfl rfl rfl (c_Jl_bitCount l G _ _) (fun r9 M10 => ?_)
    exact n_iret dX5_howManyOwnedBy_22 rfl
def f_P_of (v1 : Int32) (v2 : Int32) (M : Nm) : Option (Int32 × Nm) := bnd (f_L_handOf 8 v1 M) fun r1 M2 => ifn r1 (bnd (f_P_finding (-1000000001) M2) fun r5 M6 => some (r5, M6)) fun p3 => grd (isb 7 p3) <| if v2 = 0 then (grd (isKb (M2.2.2 p3)) <| some (M2.1 (M2.2.2 p3) 0, M2)) else if v2 = 1 then (some (M2.1 p3 1, M2)) else if v2 = 2 then (some (M2.1 p3 2, M2)) else if v2 = 3 then (some (M2.1 p3 3, M2)) else if v2 = 4 then (some (M2.1 p3 4, M2)) else if v2 = 5 then (some (M2.1 p3 8, M2)) else if v2 = 6 then (bnd (f_H_writes p3 M2) fun r15 M16 => if r15 = 0 then (some (0, M16)) else (some (1, M16))) else if v2 = 7 then (bnd (f_H_howManyInside p3 (M2.2.1 8 0) M2) fun r18 M19 => some (r18, M19)) else if v2 = 8 then (bnd (f_L_howManyOwnedBy 8 v1 M2) fun r21 M22 => some (r21, M22)) else if v2 = 9 then (grd (isKb (M2.2.2 p3)) <| bnd (v_crop (M2.2.2 p3) M2) fun r25 M26 => some (r25, M26)) else (bnd (f_P_finding (-1000000001) M2) fun r28 M29 => some (r28, M29))
theorem c_P_of (l : Launch) (G : Gl) (v1 : Int32) (v2 : Int32)  (M : Nm) : NJ l G Y_X11_of (zR 5 121) eI 0 (lv_args 0 [aR G 0, .int v1, .int v2]) [] M (f_P_of v1 v2 M) := by
  unfold f_P_of
  show NJ l G Y_X11_of (zR 5 121) eI 0 [(0, aR G 0), (1, .int v1), (2, .int v2)] [] M _
  refine s_aload_n 0 dX11_of_0 rfl ?_
  refine n_getR (x := 8) dX11_of_1 okf_P_50_0 rfl rfl so_0 (sh_lt so_0 rfl) rfl ?_
  refine s_iload_n 1 dX11_of_4 rfl ?_
  refine n_invV_r dX11_of_5 ok_X5_handOf rfl wt_370 wt_371 wt_372 (ci := 8) rfl rfl so_8 (sh_lt so_8 rfl) [.int v1] rfl rfl rfl rfl (c_L_handOf l G _ _ so_8 _) (fun r1 M2 => ?_)
  refine s_split ?_ (fun p3 => ?_)
  · refine s_astore_nN (i := 3) (lv' := [(3, .null), (0, aR G 0), (1, .int v1), (2, .int v2)]) dX11_of_8 rfl rfl rfl ?_
    refine s_aload_nN 0 dX11_of_9 rfl ?_
    refine s_ifnonnullN dX11_of_10 ?_
    refine s_aload_n 1 dX11_of_13 rfl ?_
    refine s_ldc (v := (-1000000001)) dX11_of_14 wt_263 ?_
    refine n_invV_i dX11_of_16 ok_X11_finding rfl wt_264 wt_266 ws_0 (ci := 0) rfl rfl so_0 (sh_lt so_0 rfl) [.int (-1000000001)] rfl rfl rfl rfl (c_P_finding l G _ _) (fun r5 M6 => ?_)
    exact n_iret dX11_of_19 rfl
  · refine s_grd (fun h4 => ?_)
    refine s_astore_n (i := 3) (lv' := [(3, aR G p3), (0, aR G 0), (1, .int v1), (2, .int v2)]) dX11_of_8 rfl rfl rfl ?_
    refine s_aload_n 0 dX11_of_9 rfl ?_
    refine s_ifnonnullS (tgt := 20) dX11_of_10 (by decide) ?_
    refine s_iload_n 3 dX11_of_20 rfl ?_
    refine s_ite (fun h7 => ?_) (fun h7 => ?_)
    · refine s_tin (tgt := 76) dX11_of_21 (by rw [h7]; decide) (by rw [h7]; decide) (by rw [h7]; rfl) (by decide) ?_
      refine s_aload_n 0 dX11_of_76 rfl ?_
      refine n_getR (x := (M2.2.2 p3)) dX11_of_77 okf_P_153_7 rfl rfl (isb_1 h4) (sh_lt (isb_1 h4) rfl) (r_kind (isb_1 h4)) ?_
      refine s_grd (fun h8 => ?_)
      refine n_getNum dX11_of_80 okfK_P_157 (isKb_1 h8) ?_
      exact n_iret dX11_of_83 rfl
    refine s_ite (fun h9 => ?_) (fun h9 => ?_)
    · refine s_tin (tgt := 84) dX11_of_21 (by rw [h9]; decide) (by rw [h9]; decide) (by rw [h9]; rfl) (by decide) ?_
      refine s_aload_n 0 dX11_of_84 rfl ?_
      refine n_getI dX11_of_85 okf_P_160_7 rfl rfl (isb_1 h4) (sh_lt (isb_1 h4) rfl) ?_
      exact n_iret dX11_of_88 rfl
    refine s_ite (fun h10 => ?_) (fun h10 => ?_)
    · refine s_tin (tgt := 89) dX11_of_21 (by rw [h10]; decide) (by rw [h10]; decide) (by rw [h10]; rfl) (by decide) ?_
      refine s_aload_n 0 dX11_of_89 rfl ?_
      refine n_getI dX11_of_90 okf_P_163_7 rfl rfl (isb_1 h4) (sh_lt (isb_1 h4) rfl) ?_
      exact n_iret dX11_of_93 rfl
    refine s_ite (fun h11 => ?_) (fun h11 => ?_)
    · refine s_tin (tgt := 94) dX11_of_21 (by rw [h11]; decide) (by rw [h11]; decide) (by rw [h11]; rfl) (by decide) ?_
      refine s_aload_n 0 dX11_of_94 rfl ?_
      refine n_getI dX11_of_95 okf_P_166_7 rfl rfl (isb_1 h4) (sh_lt (isb_1 h4) rfl) ?_
      exact n_iret dX11_of_98 rfl
    refine s_ite (fun h12 => ?_) (fun h12 => ?_)
    · refine s_tin (tgt := 99) dX11_of_21 (by rw [h12]; decide) (by rw [h12]; decide) (by rw [h12]; rfl) (by decide) ?_
      refine s_aload_n 0 dX11_of_99 rfl ?_
      refine n_getI dX11_of_100 okf_P_150_7 rfl rfl (isb_1 h4) (sh_lt (isb_1 h4) rfl) ?_
      exact n_iret dX11_of_103 rfl
    refine s_ite (fun h13 => ?_) (fun h13 => ?_)
    · refine s_tin (tgt := 104) dX11_of_21 (by rw [h13]; decide) (by rw [h13]; decide) (by rw [h13]; rfl) (by decide) ?_
      refine s_aload_n 0 dX11_of_104 rfl ?_
      refine n_getI dX11_of_105 okf_P_169_7 rfl rfl (isb_1 h4) (sh_lt (isb_1 h4) rfl) ?_
      exact n_iret dX11_of_108 rfl
    refine s_ite (fun h14 => ?_) (fun h14 => ?_)
    · refine s_tin (tgt := 109) dX11_of_21 (by rw [h14]; decide) (by rw [h14]; decide) (by rw [h14]; rfl) (by decide) ?_
      refine s_aload_n 0 dX11_of_109 rfl ?_
      refine n_invV_i dX11_of_110 ok_X2_writes rfl wt_436 wt_322 wt_323 (ci := 7) rfl rfl (isb_1 h4) (sh_lt (isb_1 h4) rfl) [] rfl rfl rfl rfl (c_H_writes l G _ (isb_1 h4) _) (fun r15 M16 => ?_)
      refine s_if_eq (tgt := 120) dX11_of_113 (by decide) (fun _ => ?_) (fun _ => ?_)
      · refine s_iconst (v := 0) dX11_of_120 (by decide) ?_
        exact n_iret dX11_of_121 rfl
      · refine s_iconst (v := 1) dX11_of_116 (by decide) ?_
        refine s_goto (tgt := 121) dX11_of_117 (by decide) ?_
        exact n_iret dX11_of_121 rfl
    refine s_ite (fun h17 => ?_) (fun h17 => ?_)
    · refine s_tin (tgt := 122) dX11_of_21 (by rw [h17]; decide) (by rw [h17]; decide) (by rw [h17]; rfl) (by decide) ?_
      refine s_aload_n 0 dX11_of_122 rfl ?_
      refine s_aload_n 1 dX11_of_123 rfl ?_
      refine n_getR (x := 8) dX11_of_124 okf_P_50_0 rfl rfl so_0 (sh_lt so_0 rfl) rfl ?_
      refine n_getL dX11_of_127 okf_P_91_8 rfl rfl so_8 (sh_lt so_8 rfl) ?_
      refine n_invV_i dX11_of_130 ok_X2_howManyInside rfl wt_437 wt_438 wt_439 (ci := 7) rfl rfl (isb_1 h4) (sh_lt (isb_1 h4) rfl) [.long (M2.2.1 8 0)] rfl rfl rfl rfl (c_H_howManyInside l G _ _ (isb_1 h4) _) (fun r18 M19 => ?_)
      exact n_iret dX11_of_133 rfl
    refine s_ite (fun h20 => ?_) (fun h20 => ?_)
    · refine s_tin (tgt := 134) dX11_of_21 (by rw [h20]; decide) (by rw [h20]; decide) (by rw [h20]; rfl) (by decide) ?_
      refine s_aload_n 1 dX11_of_134 rfl ?_
      refine n_getR (x := 8) dX11_of_135 okf_P_50_0 rfl rfl so_0 (sh_lt so_0 rfl) rfl ?_
      refine s_iload_n 2 dX11_of_138 rfl ?_
      refine n_invV_i dX11_of_139 ok_X5_howManyOwnedBy rfl wt_448 wt_449 wt_450 (ci := 8) rfl rfl so_8 (sh_lt so_8 rfl) [.int v1] rfl rfl rfl rfl (c_L_howManyOwnedBy l G _ _ so_8 _) (fun r21 M22 => ?_)
      exact n_iret dX11_of_142 rfl
    refine s_ite (fun h23 => ?_) (fun h23 => ?_)
    · refine s_tin (tgt := 143) dX11_of_21 (by rw [h23]; decide) (by rw [h23]; decide) (by rw [h23]; rfl) (by decide) ?_
      refine s_aload_n 0 dX11_of_143 rfl ?_
      refine n_getR (x := (M2.2.2 p3)) dX11_of_144 okf_P_153_7 rfl rfl (isb_1 h4) (sh_lt (isb_1 h4) rfl) (r_kind (isb_1 h4)) ?_
      refine s_grd (fun h24 => ?_)
      refine n_virt_crop (Y := Y_X11_of) (pc := 147) dX11_of_147 wt_454 (by decide) (isKb_1 h24) rfl rfl (fun r25 M26 => ?_)
      exact n_iret dX11_of_150 rfl
    refine s_tout (tgt := 151) dX11_of_21 (sw_out (fun k h1 h2 => by rcases (show k = 0 ∨ k = 1 ∨ k = 2 ∨ k = 3 ∨ k = 4 ∨ k = 5 ∨ k = 6 ∨ k = 7 ∨ k = 8 ∨ k = 9 by omega) with rfl | rfl | rfl | rfl | rfl | rfl | rfl | rfl | rfl | rfl <;> assumption)) (by decide) ?_
    refine s_aload_n 1 dX11_of_151 rfl ?_
    refine s_ldc (v := (-1000000001)) dX11_of_152 wt_263 ?_
    refine n_invV_i dX11_of_154 ok_X11_finding rfl wt_264 wt_266 ws_0 (ci := 0) rfl rfl so_0 (sh_lt so_0 rfl) [.int (-1000000001)] rfl rfl rfl rfl (c_P_finding l G _ _) (fun r28 M29 => ?_)
    exact n_iret dX11_of_157 rfl
def f_H_hasStroke (o : Nat) (v1 : Int32) (M : Nm) : Option (Int32 × Nm) := if v1 < 0 then (some (0, M)) else (if (M.1 o 4) ≤ v1 then (some (0, M)) else (if 8 ≤ v1 then (some (0, M)) else (some (1, M))))
theorem c_H_hasStroke (l : Launch) (G : Gl) (o : Nat) (v1 : Int32) (ho : (sh o).1 = 7) (M : Nm) : NJ l G Y_X2_hasStroke (zR 0 0) eI 0 (lv_args 0 [aR G o, .int v1]) [] M (f_H_hasStroke o v1 M) := by
  unfold f_H_hasStroke
  show NJ l G Y_X2_hasStroke (zR 0 0) eI 0 [(0, aR G o), (1, .int v1)] [] M _
  refine s_iload_n 1 dX2_hasStroke_0 rfl ?_
  refine s_if_lt (tgt := 22) dX2_hasStroke_1 (by decide) (fun _ => ?_) (fun _ => ?_)
  · refine s_iconst (v := 0) dX2_hasStroke_22 (by decide) ?_
    exact n_zret0 dX2_hasStroke_23 rfl
  · refine s_iload_n 1 dX2_hasStroke_4 rfl ?_
    refine s_aload_n 0 dX2_hasStroke_5 rfl ?_
    refine n_getI dX2_hasStroke_6 okf_H_32_7 rfl rfl ho (sh_lt ho rfl) ?_
    refine s_icmp_ge (tgt := 22) dX2_hasStroke_9 (by decide) (fun _ => ?_) (fun _ => ?_)
    · refine s_iconst (v := 0) dX2_hasStroke_22 (by decide) ?_
      exact n_zret0 dX2_hasStroke_23 rfl
    · refine s_iload_n 1 dX2_hasStroke_12 rfl ?_
      refine s_bipush (v := 8) dX2_hasStroke_13 (by decide) ?_
      refine s_icmp_ge (tgt := 22) dX2_hasStroke_15 (by decide) (fun _ => ?_) (fun _ => ?_)
      · refine s_iconst (v := 0) dX2_hasStroke_22 (by decide) ?_
        exact n_zret0 dX2_hasStroke_23 rfl
      · refine s_iconst (v := 1) dX2_hasStroke_18 (by decide) ?_
        refine s_goto (tgt := 23) dX2_hasStroke_19 (by decide) ?_
        exact n_zret1 dX2_hasStroke_23 rfl
def f_P_told (v1 : Int32) (v2 : Int32) (v3 : Int32) (M : Nm) : Option (Int32 × Nm) := bnd (f_L_handOf 8 v1 M) fun r1 M2 => ifn r1 (bnd (f_P_finding (-1000000001) M2) fun r5 M6 => some (r5, M6)) fun p3 => grd (isb 7 p3) <| bnd (f_H_hasStroke p3 v2 M2) fun r7 M8 => if r7 = 0 then (bnd (f_P_finding (-1000000001) M8) fun r9 M10 => some (r9, M10)) else (if v3 = 0 then (grd (inb v2 8) <| some (M8.1 (p3 + 1) (ix v2), M8)) else if v3 = 1 then (grd (inb v2 8) <| some (M8.1 (p3 + 2) (ix v2), M8)) else if v3 = 2 then (grd (inb v2 8) <| grd (isKb (M8.2.2 p3)) <| bnd (v_steps (M8.2.2 p3) v2 (M8.1 (p3 + 2) (ix v2)) M8) fun r15 M16 => some (r15, M16)) else if v3 = 3 then (grd (inb v2 8) <| grd (isKb (M8.2.2 p3)) <| bnd (v_turns (M8.2.2 p3) (M8.1 (p3 + 1) (ix v2)) M8) fun r20 M21 => some (r20, M21)) else (bnd (f_P_finding (-1000000001) M8) fun r23 M24 => some (r23, M24)))
theorem c_P_told (l : Launch) (G : Gl) (v1 : Int32) (v2 : Int32) (v3 : Int32)  (M : Nm) : NJ l G Y_X11_told (zR 3 75) eI 0 (lv_args 0 [aR G 0, .int v1, .int v2, .int v3]) [] M (f_P_told v1 v2 v3 M) := by
  unfold f_P_told
  show NJ l G Y_X11_told (zR 3 75) eI 0 [(0, aR G 0), (1, .int v1), (2, .int v2), (3, .int v3)] [] M _
  refine s_aload_n 0 dX11_told_0 rfl ?_
  refine n_getR (x := 8) dX11_told_1 okf_P_50_0 rfl rfl so_0 (sh_lt so_0 rfl) rfl ?_
  refine s_iload_n 1 dX11_told_4 rfl ?_
  refine n_invV_r dX11_told_5 ok_X5_handOf rfl wt_370 wt_371 wt_372 (ci := 8) rfl rfl so_8 (sh_lt so_8 rfl) [.int v1] rfl rfl rfl rfl (c_L_handOf l G _ _ so_8 _) (fun r1 M2 => ?_)
  refine s_split ?_ (fun p3 => ?_)
  · refine s_astoreN (lv' := [(4, .null), (0, aR G 0), (1, .int v1), (2, .int v2), (3, .int v3)]) dX11_told_8 rfl rfl ?_
    refine s_aloadN 0 dX11_told_10 rfl ?_
    refine s_ifnullN (tgt := 24) dX11_told_12 (by decide) ?_
    refine s_aload_n 1 dX11_told_24 rfl ?_
    refine s_ldc (v := (-1000000001)) dX11_told_25 wt_263 ?_
    refine n_invV_i dX11_told_27 ok_X11_finding rfl wt_264 wt_266 ws_0 (ci := 0) rfl rfl so_0 (sh_lt so_0 rfl) [.int (-1000000001)] rfl rfl rfl rfl (c_P_finding l G _ _) (fun r5 M6 => ?_)
    exact n_iret dX11_told_30 rfl
  · refine s_grd (fun h4 => ?_)
    refine s_astore (lv' := [(4, aR G p3), (0, aR G 0), (1, .int v1), (2, .int v2), (3, .int v3)]) dX11_told_8 rfl rfl ?_
    refine s_aload 0 dX11_told_10 rfl ?_
    refine s_ifnullS dX11_told_12 ?_
    refine s_aload 0 dX11_told_15 rfl ?_
    refine s_iload_n 3 dX11_told_17 rfl ?_
    refine n_invV_i dX11_told_18 ok_X2_hasStroke rfl wt_482 wt_483 wt_484 (ci := 7) rfl rfl (isb_1 h4) (sh_lt (isb_1 h4) rfl) [.int v2] rfl rfl rfl rfl (c_H_hasStroke l G _ _ (isb_1 h4) _) (fun r7 M8 => ?_)
    refine s_if_ne (tgt := 31) dX11_told_21 (by decide) (fun _ => ?_) (fun _ => ?_)
    · refine s_aload_n 1 dX11_told_24 rfl ?_
      refine s_ldc (v := (-1000000001)) dX11_told_25 wt_263 ?_
      refine n_invV_i dX11_told_27 ok_X11_finding rfl wt_264 wt_266 ws_0 (ci := 0) rfl rfl so_0 (sh_lt so_0 rfl) [.int (-1000000001)] rfl rfl rfl rfl (c_P_finding l G _ _) (fun r9 M10 => ?_)
      exact n_iret dX11_told_30 rfl
    · refine s_iload_n 4 dX11_told_31 rfl ?_
      refine s_ite (fun h11 => ?_) (fun h11 => ?_)
      · refine s_tin (tgt := 64) dX11_told_32 (by rw [h11]; decide) (by rw [h11]; decide) (by rw [h11]; rfl) (by decide) ?_
        refine s_aload 0 dX11_told_64 rfl ?_
        refine n_getR (x := (p3 + 1)) dX11_told_66 okf_P_190_7 rfl rfl (isb_1 h4) (sh_lt (isb_1 h4) rfl) (r_ways (isb_1 h4)) ?_
        refine s_iload_n 3 dX11_told_69 rfl ?_
        refine n_ial dX11_told_70 (ly_ways (isb_1 h4)) ?_
        exact n_iret dX11_told_71 rfl
      refine s_ite (fun h12 => ?_) (fun h12 => ?_)
      · refine s_tin (tgt := 72) dX11_told_32 (by rw [h12]; decide) (by rw [h12]; decide) (by rw [h12]; rfl) (by decide) ?_
        refine s_aload 0 dX11_told_72 rfl ?_
        refine n_getR (x := (p3 + 2)) dX11_told_74 okf_P_193_7 rfl rfl (isb_1 h4) (sh_lt (isb_1 h4) rfl) (r_lens (isb_1 h4)) ?_
        refine s_iload_n 3 dX11_told_77 rfl ?_
        refine n_ial dX11_told_78 (ly_lens (isb_1 h4)) ?_
        exact n_iret dX11_told_79 rfl
      refine s_ite (fun h13 => ?_) (fun h13 => ?_)
      · refine s_tin (tgt := 80) dX11_told_32 (by rw [h13]; decide) (by rw [h13]; decide) (by rw [h13]; rfl) (by decide) ?_
        refine s_aload 0 dX11_told_80 rfl ?_
        refine n_getR (x := (M8.2.2 p3)) dX11_told_82 okf_P_153_7 rfl rfl (isb_1 h4) (sh_lt (isb_1 h4) rfl) (r_kind (isb_1 h4)) ?_
        refine s_iload_n 3 dX11_told_85 rfl ?_
        refine s_aload 0 dX11_told_86 rfl ?_
        refine n_getR (x := (p3 + 2)) dX11_told_88 okf_P_193_7 rfl rfl (isb_1 h4) (sh_lt (isb_1 h4) rfl) (r_lens (isb_1 h4)) ?_
        refine s_iload_n 3 dX11_told_91 rfl ?_
        refine n_ial dX11_told_92 (ly_lens (isb_1 h4)) ?_
        refine s_grd (fun h14 => ?_)
        refine n_virt_steps (Y := Y_X11_told) (pc := 93) dX11_told_93 wt_486 (by decide) (isKb_1 h14) rfl rfl (fun r15 M16 => ?_)
        exact n_iret dX11_told_96 rfl
      refine s_ite (fun h18 => ?_) (fun h18 => ?_)
      · refine s_tin (tgt := 97) dX11_told_32 (by rw [h18]; decide) (by rw [h18]; decide) (by rw [h18]; rfl) (by decide) ?_
        refine s_aload 0 dX11_told_97 rfl ?_
        refine n_getR (x := (M8.2.2 p3)) dX11_told_99 okf_P_153_7 rfl rfl (isb_1 h4) (sh_lt (isb_1 h4) rfl) (r_kind (isb_1 h4)) ?_
        refine s_aload 0 dX11_told_102 rfl ?_
        refine n_getR (x := (p3 + 1)) dX11_told_104 okf_P_190_7 rfl rfl (isb_1 h4) (sh_lt (isb_1 h4) rfl) (r_ways (isb_1 h4)) ?_
        refine s_iload_n 3 dX11_told_107 rfl ?_
        refine n_ial dX11_told_108 (ly_ways (isb_1 h4)) ?_
        refine s_grd (fun h19 => ?_)
        refine n_virt_turns (Y := Y_X11_told) (pc := 109) dX11_told_109 wt_487 (by decide) (isKb_1 h19) rfl rfl (fun r20 M21 => ?_)
        exact n_iret dX11_told_112 rfl
      refine s_tout (tgt := 113) dX11_told_32 (sw_out (fun k h1 h2 => by rcases (show k = 0 ∨ k = 1 ∨ k = 2 ∨ k = 3 by omega) with rfl | rfl | rfl | rfl <;> assumption)) (by decide) ?_
      refine s_aload_n 1 dX11_told_113 rfl ?_
      refine s_ldc (v := (-1000000001)) dX11_told_114 wt_263 ?_
      refine n_invV_i dX11_told_116 ok_X11_finding rfl wt_264 wt_266 ws_0 (ci := 0) rfl rfl so_0 (sh_lt so_0 rfl) [.int (-1000000001)] rfl rfl rfl rfl (c_P_finding l G _ _) (fun r23 M24 => ?_)
      exact n_iret dX11_told_119 rfl
def f_H_moveTo (o : Nat) (v1 : Int32) (M : Nm) : Option (Unit × Nm) := bl (mI M o 1 v1) fun M1 => bnd (f_H_trace o M1) fun r2 M3 => some ((), M3)
theorem c_H_moveTo (l : Launch) (G : Gl) (o : Nat) (v1 : Int32) (ho : (sh o).1 = 7) (M : Nm) : NJ l G Y_X2_moveTo (zR 4 101) eU 0 (lv_args 0 [aR G o, .int v1]) [] M (f_H_moveTo o v1 M) := by
  unfold f_H_moveTo
  show NJ l G Y_X2_moveTo (zR 4 101) eU 0 [(0, aR G o), (1, .int v1)] [] M _
  refine s_aload_n 0 dX2_moveTo_0 rfl ?_
  refine s_iload_n 1 dX2_moveTo_1 rfl ?_
  refine n_putI dX2_moveTo_2 okp_H_22_7 rfl rfl ho (sh_lt ho rfl) ?_
  refine s_topM (fun M1 => ?_)
  refine s_aload_n 0 dX2_moveTo_5 rfl ?_
  refine n_invV_u dX2_moveTo_6 ok_X2_trace rfl wt_496 wt_385 wt_386 (ci := 7) rfl rfl ho (sh_lt ho rfl) [] rfl rfl rfl rfl (c_H_trace l G _ ho _) (fun r2 M3 => ?_)
  exact n_vret dX2_moveTo_9 rfl
def f_P_isInk (v0 : Int32) (M : Nm) : Option (Int32 × Nm) := bnd (f_P_within v0 0 999 M) fun r1 M2 => grd (decide (r1 = 0) || decide (r1 = 1)) (some (r1, M2))
theorem c_P_isInk (l : Launch) (G : Gl) (v0 : Int32)  (M : Nm) : NJ l G Y_X11_isInk (zR 1 22) eI 0 (lv_args 0 [.int v0]) [] M (f_P_isInk v0 M) := by
  unfold f_P_isInk
  show NJ l G Y_X11_isInk (zR 1 22) eI 0 [(0, .int v0)] [] M _
  refine s_iload_n 0 dX11_isInk_0 rfl ?_
  refine s_iconst (v := 0) dX11_isInk_1 (by decide) ?_
  refine s_sipush (v := 999) dX11_isInk_2 (by decide) ?_
  refine n_invS_i dX11_isInk_5 ok_X11_within rfl wt_260 wt_261 [.int v0, .int 0, .int 999] rfl rfl rfl rfl (c_P_within l G _ _ _ _) (fun r1 M2 => ?_)
  exact n_zretB dX11_isInk_8 rfl
def f_P_set_B43  (v2 : Int32) (v3 : Int32) (M : Nm) : Option (Int32 × Nm) := bnd (f_P_finding (-1000000001) M) fun r5 M6 => some (r5, M6)
theorem c_P_set_B43 (l : Launch) (G : Gl)  (v2 : Int32) (v3 : Int32)   (M : Nm) : NJ l G Y_X11_set (zR 5 122) eI 43 [(0, aR G 0), (2, .int v2), (3, .int v3), (4, .null)] [] M (f_P_set_B43 v2 v3 M) := by
  unfold f_P_set_B43
  refine s_aloadN 3 dX11_set_43 rfl ?_
  refine s_ifnullN (tgt := 76) dX11_set_45 (by decide) ?_
  refine s_aload_n 0 dX11_set_76 rfl ?_
  refine s_ldc (v := (-1000000001)) dX11_set_77 wt_263 ?_
  refine n_invV_i dX11_set_79 ok_X11_finding rfl wt_264 wt_266 ws_0 (ci := 0) rfl rfl so_0 (sh_lt so_0 rfl) [.int (-1000000001)] rfl rfl rfl rfl (c_P_finding l G _ _) (fun r5 M6 => ?_)
  exact n_iret dX11_set_82 rfl
def f_P_set (v1 : Int32) (v2 : Int32) (v3 : Int32) (M : Nm) : Option (Int32 × Nm) := bnd (f_L_handOf 8 v1 M) fun r1 M2 => ifn r1 (f_P_set_B43 v2 v3 M2) fun p3 => grd (isb 7 p3) <| if v2 = 1 then (bnd (f_P_isCell v3 M2) fun r7 M8 => if r7 = 0 then (if v2 = 2 then (bnd (f_P_isInk v3 M8) fun r9 M10 => if r9 = 0 then (bnd (f_P_finding (-1000000001) M10) fun r11 M12 => some (r11, M12)) else (bl (mI M10 p3 2 v3) fun M13 => some (M10.1 p3 2, M13))) else (bnd (f_P_finding (-1000000001) M8) fun r14 M15 => some (r14, M15))) else (bnd (f_H_moveTo p3 v3 M8) fun r16 M17 => some (M8.1 p3 1, M17))) else (if v2 = 2 then (bnd (f_P_isInk v3 M2) fun r18 M19 => if r18 = 0 then (bnd (f_P_finding (-1000000001) M19) fun r20 M21 => some (r20, M21)) else (bl (mI M19 p3 2 v3) fun M22 => some (M19.1 p3 2, M22))) else (bnd (f_P_finding (-1000000001) M2) fun r23 M24 => some (r23, M24)))
theorem c_P_set (l : Launch) (G : Gl) (v1 : Int32) (v2 : Int32) (v3 : Int32)  (M : Nm) : NJ l G Y_X11_set (zR 5 122) eI 0 (lv_args 0 [aR G 0, .int v1, .int v2, .int v3]) [] M (f_P_set v1 v2 v3 M) := by
  unfold f_P_set
  show NJ l G Y_X11_set (zR 5 122) eI 0 [(0, aR G 0), (1, .int v1), (2, .int v2), (3, .int v3)] [] M _
  refine s_aload_n 0 dX11_set_0 rfl ?_
  refine n_getR (x := 8) dX11_set_1 okf_P_50_0 rfl rfl so_0 (sh_lt so_0 rfl) rfl ?_
  refine s_iload_n 1 dX11_set_4 rfl ?_
  refine n_invV_r dX11_set_5 ok_X5_handOf rfl wt_370 wt_371 wt_372 (ci := 8) rfl rfl so_8 (sh_lt so_8 rfl) [.int v1] rfl rfl rfl rfl (c_L_handOf l G _ _ so_8 _) (fun r1 M2 => ?_)
  refine s_split ?_ (fun p3 => ?_)
  · refine s_astoreN (lv' := [(4, .null), (0, aR G 0), (1, .int v1), (2, .int v2), (3, .int v3)]) dX11_set_8 rfl rfl ?_
    refine s_aloadN 0 dX11_set_10 rfl ?_
    refine s_ifnullN (tgt := 43) dX11_set_12 (by decide) ?_
    refine s_lv [1, 3, 4, 0] (lv' := [(0, aR G 0), (2, .int v2), (3, .int v3), (4, .null)]) rfl ?_
    exact c_P_set_B43 l G _ _ _
  · refine s_grd (fun h4 => ?_)
    refine s_astore (lv' := [(4, aR G p3), (0, aR G 0), (1, .int v1), (2, .int v2), (3, .int v3)]) dX11_set_8 rfl rfl ?_
    refine s_aload 0 dX11_set_10 rfl ?_
    refine s_ifnullS dX11_set_12 ?_
    refine s_iload_n 3 dX11_set_15 rfl ?_
    refine s_iconst (v := 1) dX11_set_16 (by decide) ?_
    refine s_icmp_ne (tgt := 43) dX11_set_17 (by decide) (fun _ => ?_) (fun _ => ?_)
    · refine s_iload_n 4 dX11_set_20 rfl ?_
      refine n_invS_i dX11_set_21 ok_X11_isCell rfl wt_257 wt_258 [.int v3] rfl rfl rfl rfl (c_P_isCell l G _ _) (fun r7 M8 => ?_)
      refine s_if_eq (tgt := 43) dX11_set_24 (by decide) (fun _ => ?_) (fun _ => ?_)
      · refine s_aload 0 dX11_set_43 rfl ?_
        refine s_ifnullS dX11_set_45 ?_
        refine s_iload_n 3 dX11_set_48 rfl ?_
        refine s_iconst (v := 2) dX11_set_49 (by decide) ?_
        refine s_icmp_ne (tgt := 76) dX11_set_50 (by decide) (fun _ => ?_) (fun _ => ?_)
        · refine s_iload_n 4 dX11_set_53 rfl ?_
          refine n_invS_i dX11_set_54 ok_X11_isInk rfl wt_497 wt_498 [.int v3] rfl rfl rfl rfl (c_P_isInk l G _ _) (fun r9 M10 => ?_)
          refine s_if_eq (tgt := 76) dX11_set_57 (by decide) (fun _ => ?_) (fun _ => ?_)
          · refine s_aload_n 1 dX11_set_76 rfl ?_
            refine s_ldc (v := (-1000000001)) dX11_set_77 wt_263 ?_
            refine n_invV_i dX11_set_79 ok_X11_finding rfl wt_264 wt_266 ws_0 (ci := 0) rfl rfl so_0 (sh_lt so_0 rfl) [.int (-1000000001)] rfl rfl rfl rfl (c_P_finding l G _ _) (fun r11 M12 => ?_)
            exact n_iret dX11_set_82 rfl
          · refine s_aload 0 dX11_set_60 rfl ?_
            refine n_getI dX11_set_62 okf_P_163_7 rfl rfl (isb_1 h4) (sh_lt (isb_1 h4) rfl) ?_
            refine s_istore (lv' := [(5, .int (M10.1 p3 2)), (4, aR G p3), (0, aR G 0), (1, .int v1), (2, .int v2), (3, .int v3)]) dX11_set_65 rfl rfl ?_
            refine s_aload 1 dX11_set_67 rfl ?_
            refine s_iload_n 5 dX11_set_69 rfl ?_
            refine n_putI dX11_set_70 okp_P_163_7 rfl rfl (isb_1 h4) (sh_lt (isb_1 h4) rfl) ?_
            refine s_topM (fun M13 => ?_)
            refine s_iload 0 dX11_set_73 rfl ?_
            exact n_iret dX11_set_75 rfl
        · refine s_aload_n 1 dX11_set_76 rfl ?_
          refine s_ldc (v := (-1000000001)) dX11_set_77 wt_263 ?_
          refine n_invV_i dX11_set_79 ok_X11_finding rfl wt_264 wt_266 ws_0 (ci := 0) rfl rfl so_0 (sh_lt so_0 rfl) [.int (-1000000001)] rfl rfl rfl rfl (c_P_finding l G _ _) (fun r14 M15 => ?_)
          exact n_iret dX11_set_82 rfl
      · refine s_aload 0 dX11_set_27 rfl ?_
        refine n_getI dX11_set_29 okf_P_160_7 rfl rfl (isb_1 h4) (sh_lt (isb_1 h4) rfl) ?_
        refine s_istore (lv' := [(5, .int (M8.1 p3 1)), (4, aR G p3), (0, aR G 0), (1, .int v1), (2, .int v2), (3, .int v3)]) dX11_set_32 rfl rfl ?_
        refine s_aload 1 dX11_set_34 rfl ?_
        refine s_iload_n 5 dX11_set_36 rfl ?_
        refine n_invV_u dX11_set_37 ok_X2_moveTo rfl wt_492 wt_493 wt_494 (ci := 7) rfl rfl (isb_1 h4) (sh_lt (isb_1 h4) rfl) [.int v3] rfl rfl rfl rfl (c_H_moveTo l G _ _ (isb_1 h4) _) (fun r16 M17 => ?_)
        refine s_iload 0 dX11_set_40 rfl ?_
        exact n_iret dX11_set_42 rfl
    · refine s_aload 0 dX11_set_43 rfl ?_
      refine s_ifnullS dX11_set_45 ?_
      refine s_iload_n 3 dX11_set_48 rfl ?_
      refine s_iconst (v := 2) dX11_set_49 (by decide) ?_
      refine s_icmp_ne (tgt := 76) dX11_set_50 (by decide) (fun _ => ?_) (fun _ => ?_)
      · refine s_iload_n 4 dX11_set_53 rfl ?_
        refine n_invS_i dX11_set_54 ok_X11_isInk rfl wt_497 wt_498 [.int v3] rfl rfl rfl rfl (c_P_isInk l G _ _) (fun r18 M19 => ?_)
        refine s_if_eq (tgt := 76) dX11_set_57 (by decide) (fun _ => ?_) (fun _ => ?_)
        · refine s_aload_n 1 dX11_set_76 rfl ?_
          refine s_ldc (v := (-1000000001)) dX11_set_77 wt_263 ?_
          refine n_invV_i dX11_set_79 ok_X11_finding rfl wt_264 wt_266 ws_0 (ci := 0) rfl rfl so_0 (sh_lt so_0 rfl) [.int (-1000000001)] rfl rfl rfl rfl (c_P_finding l G _ _) (fun r20 M21 => ?_)
          exact n_iret dX11_set_82 rfl
        · refine s_aload 0 dX11_set_60 rfl ?_
          refine n_getI dX11_set_62 okf_P_163_7 rfl rfl (isb_1 h4) (sh_lt (isb_1 h4) rfl) ?_
          refine s_istore (lv' := [(5, .int (M19.1 p3 2)), (4, aR G p3), (0, aR G 0), (1, .int v1), (2, .int v2), (3, .int v3)]) dX11_set_65 rfl rfl ?_
          refine s_aload 1 dX11_set_67 rfl ?_
          refine s_iload_n 5 dX11_set_69 rfl ?_
          refine n_putI dX11_set_70 okp_P_163_7 rfl rfl (isb_1 h4) (sh_lt (isb_1 h4) rfl) ?_
          refine s_topM (fun M22 => ?_)
          refine s_iload 0 dX11_set_73 rfl ?_
          exact n_iret dX11_set_75 rfl
      · refine s_aload_n 1 dX11_set_76 rfl ?_
        refine s_ldc (v := (-1000000001)) dX11_set_77 wt_263 ?_
        refine n_invV_i dX11_set_79 ok_X11_finding rfl wt_264 wt_266 ws_0 (ci := 0) rfl rfl so_0 (sh_lt so_0 rfl) [.int (-1000000001)] rfl rfl rfl rfl (c_P_finding l G _ _) (fun r23 M24 => ?_)
        exact n_iret dX11_set_82 rfl
def f_P_alter (v1 : Int32) (v2 : Int32) (v3 : Int32) (v4 : Int32) (M : Nm) : Option (Int32 × Nm) := bnd (f_L_handOf 8 v1 M) fun r1 M2 => ifn r1 (bnd (f_P_finding (-1000000001) M2) fun r5 M6 => some (r5, M6)) fun p3 => grd (isb 7 p3) <| bnd (f_H_hasStroke p3 v2 M2) fun r7 M8 => if r7 = 0 then (bnd (f_P_finding (-1000000001) M8) fun r9 M10 => some (r9, M10)) else (if v3 = 0 then (bnd (f_P_isWay v4 M8) fun r11 M12 => if r11 = 0 then (if v3 = 1 then (bnd (f_P_isLength v4 M12) fun r13 M14 => if r13 = 0 then (bnd (f_P_finding (-1000000001) M14) fun r15 M16 => some (r15, M16)) else (grd (inb v2 8) <| grd (inb v2 8) <| bl (mI M14 (p3 + 2) (ix v2) v4) fun M17 => bnd (f_H_trace p3 M17) fun r18 M19 => some (M14.1 (p3 + 2) (ix v2), M19))) else (bnd (f_P_finding (-1000000001) M12) fun r20 M21 => some (r20, M21))) else (grd (inb v2 8) <| grd (inb v2 8) <| bl (mI M12 (p3 + 1) (ix v2) v4) fun M22 => bnd (f_H_trace p3 M22) fun r23 M24 => some (M12.1 (p3 + 1) (ix v2), M24))) else (if v3 = 1 then (bnd (f_P_isLength v4 M8) fun r25 M26 => if r25 = 0 then (bnd (f_P_finding (-1000000001) M26) fun r27 M28 => some (r27, M28)) else (grd (inb v2 8) <| grd (inb v2 8) <| bl (mI M26 (p3 + 2) (ix v2) v4) fun M29 => bnd (f_H_trace p3 M29) fun r30 M31 => some (M26.1 (p3 + 2) (ix v2), M31))) else (bnd (f_P_finding (-1000000001) M8) fun r32 M33 => some (r32, M33))))
theorem c_P_alter (l : Launch) (G : Gl) (v1 : Int32) (v2 : Int32) (v3 : Int32) (v4 : Int32)  (M : Nm) : NJ l G Y_X11_alter (zR 4 101) eI 0 (lv_args 0 [aR G 0, .int v1, .int v2, .int v3, .int v4]) [] M (f_P_alter v1 v2 v3 v4 M) := by
  unfold f_P_alter
  show NJ l G Y_X11_alter (zR 4 101) eI 0 [(0, aR G 0), (1, .int v1), (2, .int v2), (3, .int v3), (4, .int v4)] [] M _
  refine s_aload_n 0 dX11_alter_0 rfl ?_
  refine n_getR (x := 8) dX11_alter_1 okf_P_50_0 rfl rfl so_0 (sh_lt so_0 rfl) rfl ?_
  refine s_iload_n 1 dX11_alter_4 rfl ?_
  refine n_invV_r dX11_alter_5 ok_X5_handOf rfl wt_370 wt_371 wt_372 (ci := 8) rfl rfl so_8 (sh_lt so_8 rfl) [.int v1] rfl rfl rfl rfl (c_L_handOf l G _ _ so_8 _) (fun r1 M2 => ?_)
  refine s_split ?_ (fun p3 => ?_)
  · refine s_astoreN (lv' := [(5, .null), (0, aR G 0), (1, .int v1), (2, .int v2), (3, .int v3), (4, .int v4)]) dX11_alter_8 rfl rfl ?_
    refine s_aloadN 0 dX11_alter_10 rfl ?_
    refine s_ifnullN (tgt := 24) dX11_alter_12 (by decide) ?_
    refine s_aload_n 1 dX11_alter_24 rfl ?_
    refine s_ldc (v := (-1000000001)) dX11_alter_25 wt_263 ?_
    refine n_invV_i dX11_alter_27 ok_X11_finding rfl wt_264 wt_266 ws_0 (ci := 0) rfl rfl so_0 (sh_lt so_0 rfl) [.int (-1000000001)] rfl rfl rfl rfl (c_P_finding l G _ _) (fun r5 M6 => ?_)
    exact n_iret dX11_alter_30 rfl
  · refine s_grd (fun h4 => ?_)
    refine s_astore (lv' := [(5, aR G p3), (0, aR G 0), (1, .int v1), (2, .int v2), (3, .int v3), (4, .int v4)]) dX11_alter_8 rfl rfl ?_
    refine s_aload 0 dX11_alter_10 rfl ?_
    refine s_ifnullS dX11_alter_12 ?_
    refine s_aload 0 dX11_alter_15 rfl ?_
    refine s_iload_n 3 dX11_alter_17 rfl ?_
    refine n_invV_i dX11_alter_18 ok_X2_hasStroke rfl wt_482 wt_483 wt_484 (ci := 7) rfl rfl (isb_1 h4) (sh_lt (isb_1 h4) rfl) [.int v2] rfl rfl rfl rfl (c_H_hasStroke l G _ _ (isb_1 h4) _) (fun r7 M8 => ?_)
    refine s_if_ne (tgt := 31) dX11_alter_21 (by decide) (fun _ => ?_) (fun _ => ?_)
    · refine s_aload_n 1 dX11_alter_24 rfl ?_
      refine s_ldc (v := (-1000000001)) dX11_alter_25 wt_263 ?_
      refine n_invV_i dX11_alter_27 ok_X11_finding rfl wt_264 wt_266 ws_0 (ci := 0) rfl rfl so_0 (sh_lt so_0 rfl) [.int (-1000000001)] rfl rfl rfl rfl (c_P_finding l G _ _) (fun r9 M10 => ?_)
      exact n_iret dX11_alter_30 rfl
    · refine s_iload_n 4 dX11_alter_31 rfl ?_
      refine s_if_ne (tgt := 69) dX11_alter_32 (by decide) (fun _ => ?_) (fun _ => ?_)
      · refine s_iload 5 dX11_alter_35 rfl ?_
        refine n_invS_i dX11_alter_37 ok_X11_isWay rfl wt_374 wt_375 [.int v4] rfl rfl rfl rfl (c_P_isWay l G _ _) (fun r11 M12 => ?_)
        refine s_if_eq (tgt := 69) dX11_alter_40 (by decide) (fun _ => ?_) (fun _ => ?_)
        · refine s_iload_n 4 dX11_alter_69 rfl ?_
          refine s_iconst (v := 1) dX11_alter_70 (by decide) ?_
          refine s_icmp_ne (tgt := 108) dX11_alter_71 (by decide) (fun _ => ?_) (fun _ => ?_)
          · refine s_iload 5 dX11_alter_74 rfl ?_
            refine n_invS_i dX11_alter_76 ok_X11_isLength rfl wt_377 wt_378 [.int v4] rfl rfl rfl rfl (c_P_isLength l G _ _) (fun r13 M14 => ?_)
            refine s_if_eq (tgt := 108) dX11_alter_79 (by decide) (fun _ => ?_) (fun _ => ?_)
            · refine s_aload_n 1 dX11_alter_108 rfl ?_
              refine s_ldc (v := (-1000000001)) dX11_alter_109 wt_263 ?_
              refine n_invV_i dX11_alter_111 ok_X11_finding rfl wt_264 wt_266 ws_0 (ci := 0) rfl rfl so_0 (sh_lt so_0 rfl) [.int (-1000000001)] rfl rfl rfl rfl (c_P_finding l G _ _) (fun r15 M16 => ?_)
              exact n_iret dX11_alter_114 rfl
            · refine s_aload 0 dX11_alter_82 rfl ?_
              refine n_getR (x := (p3 + 2)) dX11_alter_84 okf_P_193_7 rfl rfl (isb_1 h4) (sh_lt (isb_1 h4) rfl) (r_lens (isb_1 h4)) ?_
              refine s_iload_n 3 dX11_alter_87 rfl ?_
              refine n_ial dX11_alter_88 (ly_lens (isb_1 h4)) ?_
              refine s_istore (lv' := [(6, .int (M14.1 (p3 + 2) (ix v2))), (5, aR G p3), (0, aR G 0), (1, .int v1), (2, .int v2), (3, .int v3), (4, .int v4)]) dX11_alter_89 rfl rfl ?_
              refine s_aload 1 dX11_alter_91 rfl ?_
              refine n_getR (x := (p3 + 2)) dX11_alter_93 okf_P_193_7 rfl rfl (isb_1 h4) (sh_lt (isb_1 h4) rfl) (r_lens (isb_1 h4)) ?_
              refine s_iload_n 4 dX11_alter_96 rfl ?_
              refine s_iload 6 dX11_alter_97 rfl ?_
              refine n_ias dX11_alter_99 (ly_lens (isb_1 h4)) ?_
              refine s_topM (fun M17 => ?_)
              refine s_aload 1 dX11_alter_100 rfl ?_
              refine n_invV_u dX11_alter_102 ok_X2_trace rfl wt_384 wt_385 wt_386 (ci := 7) rfl rfl (isb_1 h4) (sh_lt (isb_1 h4) rfl) [] rfl rfl rfl rfl (c_H_trace l G _ (isb_1 h4) _) (fun r18 M19 => ?_)
              refine s_iload 0 dX11_alter_105 rfl ?_
              exact n_iret dX11_alter_107 rfl
          · refine s_aload_n 1 dX11_alter_108 rfl ?_
            refine s_ldc (v := (-1000000001)) dX11_alter_109 wt_263 ?_
            refine n_invV_i dX11_alter_111 ok_X11_finding rfl wt_264 wt_266 ws_0 (ci := 0) rfl rfl so_0 (sh_lt so_0 rfl) [.int (-1000000001)] rfl rfl rfl rfl (c_P_finding l G _ _) (fun r20 M21 => ?_)
            exact n_iret dX11_alter_114 rfl
        · refine s_aload 0 dX11_alter_43 rfl ?_
          refine n_getR (x := (p3 + 1)) dX11_alter_45 okf_P_190_7 rfl rfl (isb_1 h4) (sh_lt (isb_1 h4) rfl) (r_ways (isb_1 h4)) ?_
          refine s_iload_n 3 dX11_alter_48 rfl ?_
          refine n_ial dX11_alter_49 (ly_ways (isb_1 h4)) ?_
          refine s_istore (lv' := [(6, .int (M12.1 (p3 + 1) (ix v2))), (5, aR G p3), (0, aR G 0), (1, .int v1), (2, .int v2), (3, .int v3), (4, .int v4)]) dX11_alter_50 rfl rfl ?_
          refine s_aload 1 dX11_alter_52 rfl ?_
          refine n_getR (x := (p3 + 1)) dX11_alter_54 okf_P_190_7 rfl rfl (isb_1 h4) (sh_lt (isb_1 h4) rfl) (r_ways (isb_1 h4)) ?_
          refine s_iload_n 4 dX11_alter_57 rfl ?_
          refine s_iload 6 dX11_alter_58 rfl ?_
          refine n_ias dX11_alter_60 (ly_ways (isb_1 h4)) ?_
          refine s_topM (fun M22 => ?_)
          refine s_aload 1 dX11_alter_61 rfl ?_
          refine n_invV_u dX11_alter_63 ok_X2_trace rfl wt_384 wt_385 wt_386 (ci := 7) rfl rfl (isb_1 h4) (sh_lt (isb_1 h4) rfl) [] rfl rfl rfl rfl (c_H_trace l G _ (isb_1 h4) _) (fun r23 M24 => ?_)
          refine s_iload 0 dX11_alter_66 rfl ?_
          exact n_iret dX11_alter_68 rfl
      · refine s_iload_n 4 dX11_alter_69 rfl ?_
        refine s_iconst (v := 1) dX11_alter_70 (by decide) ?_
        refine s_icmp_ne (tgt := 108) dX11_alter_71 (by decide) (fun _ => ?_) (fun _ => ?_)
        · refine s_iload 5 dX11_alter_74 rfl ?_
          refine n_invS_i dX11_alter_76 ok_X11_isLength rfl wt_377 wt_378 [.int v4] rfl rfl rfl rfl (c_P_isLength l G _ _) (fun r25 M26 => ?_)
          refine s_if_eq (tgt := 108) dX11_alter_79 (by decide) (fun _ => ?_) (fun _ => ?_)
          · refine s_aload_n 1 dX11_alter_108 rfl ?_
            refine s_ldc (v := (-1000000001)) dX11_alter_109 wt_263 ?_
            refine n_invV_i dX11_alter_111 ok_X11_finding rfl wt_264 wt_266 ws_0 (ci := 0) rfl rfl so_0 (sh_lt so_0 rfl) [.int (-1000000001)] rfl rfl rfl rfl (c_P_finding l G _ _) (fun r27 M28 => ?_)
            exact n_iret dX11_alter_114 rfl
          · refine s_aload 0 dX11_alter_82 rfl ?_
            refine n_getR (x := (p3 + 2)) dX11_alter_84 okf_P_193_7 rfl rfl (isb_1 h4) (sh_lt (isb_1 h4) rfl) (r_lens (isb_1 h4)) ?_
            refine s_iload_n 3 dX11_alter_87 rfl ?_
            refine n_ial dX11_alter_88 (ly_lens (isb_1 h4)) ?_
            refine s_istore (lv' := [(6, .int (M26.1 (p3 + 2) (ix v2))), (5, aR G p3), (0, aR G 0), (1, .int v1), (2, .int v2), (3, .int v3), (4, .int v4)]) dX11_alter_89 rfl rfl ?_
            refine s_aload 1 dX11_alter_91 rfl ?_
            refine n_getR (x := (p3 + 2)) dX11_alter_93 okf_P_193_7 rfl rfl (isb_1 h4) (sh_lt (isb_1 h4) rfl) (r_lens (isb_1 h4)) ?_
            refine s_iload_n 4 dX11_alter_96 rfl ?_
            refine s_iload 6 dX11_alter_97 rfl ?_
            refine n_ias dX11_alter_99 (ly_lens (isb_1 h4)) ?_
            refine s_topM (fun M29 => ?_)
            refine s_aload 1 dX11_alter_100 rfl ?_
            refine n_invV_u dX11_alter_102 ok_X2_trace rfl wt_384 wt_385 wt_386 (ci := 7) rfl rfl (isb_1 h4) (sh_lt (isb_1 h4) rfl) [] rfl rfl rfl rfl (c_H_trace l G _ (isb_1 h4) _) (fun r30 M31 => ?_)
            refine s_iload 0 dX11_alter_105 rfl ?_
            exact n_iret dX11_alter_107 rfl
        · refine s_aload_n 1 dX11_alter_108 rfl ?_
          refine s_ldc (v := (-1000000001)) dX11_alter_109 wt_263 ?_
          refine n_invV_i dX11_alter_111 ok_X11_finding rfl wt_264 wt_266 ws_0 (ci := 0) rfl rfl so_0 (sh_lt so_0 rfl) [.int (-1000000001)] rfl rfl rfl rfl (c_P_finding l G _ _) (fun r32 M33 => ?_)
          exact n_iret dX11_alter_114 rfl
def f_P_cut (v1 : Int32) (v2 : Int32) (M : Nm) : Option (Int32 × Nm) := bnd (f_L_handOf 8 v1 M) fun r1 M2 => ifn r1 (bnd (f_P_finding (-1000000001) M2) fun r5 M6 => some (r5, M6)) fun p3 => grd (isb 7 p3) <| bnd (f_P_within v2 0 (M2.1 p3 4) M2) fun r7 M8 => if r7 = 0 then (bnd (f_P_finding (-1000000001) M8) fun r9 M10 => some (r9, M10)) else (bl (mI M8 p3 4 v2) fun M11 => bnd (f_H_trace p3 M11) fun r12 M13 => some (M8.1 p3 4, M13))
theorem c_P_cut (l : Launch) (G : Gl) (v1 : Int32) (v2 : Int32)  (M : Nm) : NJ l G Y_X11_cut (zR 4 101) eI 0 (lv_args 0 [aR G 0, .int v1, .int v2]) [] M (f_P_cut v1 v2 M) := by
  unfold f_P_cut
  show NJ l G Y_X11_cut (zR 4 101) eI 0 [(0, aR G 0), (1, .int v1), (2, .int v2)] [] M _
  refine s_aload_n 0 dX11_cut_0 rfl ?_
  refine n_getR (x := 8) dX11_cut_1 okf_P_50_0 rfl rfl so_0 (sh_lt so_0 rfl) rfl ?_
  refine s_iload_n 1 dX11_cut_4 rfl ?_
  refine n_invV_r dX11_cut_5 ok_X5_handOf rfl wt_370 wt_371 wt_372 (ci := 8) rfl rfl so_8 (sh_lt so_8 rfl) [.int v1] rfl rfl rfl rfl (c_L_handOf l G _ _ so_8 _) (fun r1 M2 => ?_)
  refine s_split ?_ (fun p3 => ?_)
  · refine s_astore_nN (i := 3) (lv' := [(3, .null), (0, aR G 0), (1, .int v1), (2, .int v2)]) dX11_cut_8 rfl rfl rfl ?_
    refine s_aload_nN 0 dX11_cut_9 rfl ?_
    refine s_ifnullN (tgt := 25) dX11_cut_10 (by decide) ?_
    refine s_aload_n 1 dX11_cut_25 rfl ?_
    refine s_ldc (v := (-1000000001)) dX11_cut_26 wt_263 ?_
    refine n_invV_i dX11_cut_28 ok_X11_finding rfl wt_264 wt_266 ws_0 (ci := 0) rfl rfl so_0 (sh_lt so_0 rfl) [.int (-1000000001)] rfl rfl rfl rfl (c_P_finding l G _ _) (fun r5 M6 => ?_)
    exact n_iret dX11_cut_31 rfl
  · refine s_grd (fun h4 => ?_)
    refine s_astore_n (i := 3) (lv' := [(3, aR G p3), (0, aR G 0), (1, .int v1), (2, .int v2)]) dX11_cut_8 rfl rfl rfl ?_
    refine s_aload_n 0 dX11_cut_9 rfl ?_
    refine s_ifnullS dX11_cut_10 ?_
    refine s_iload_n 3 dX11_cut_13 rfl ?_
    refine s_iconst (v := 0) dX11_cut_14 (by decide) ?_
    refine s_aload_n 0 dX11_cut_15 rfl ?_
    refine n_getI dX11_cut_16 okf_P_150_7 rfl rfl (isb_1 h4) (sh_lt (isb_1 h4) rfl) ?_
    refine n_invS_i dX11_cut_19 ok_X11_within rfl wt_260 wt_261 [.int v2, .int 0, .int (M2.1 p3 4)] rfl rfl rfl rfl (c_P_within l G _ _ _ _) (fun r7 M8 => ?_)
    refine s_if_ne (tgt := 32) dX11_cut_22 (by decide) (fun _ => ?_) (fun _ => ?_)
    · refine s_aload_n 1 dX11_cut_25 rfl ?_
      refine s_ldc (v := (-1000000001)) dX11_cut_26 wt_263 ?_
      refine n_invV_i dX11_cut_28 ok_X11_finding rfl wt_264 wt_266 ws_0 (ci := 0) rfl rfl so_0 (sh_lt so_0 rfl) [.int (-1000000001)] rfl rfl rfl rfl (c_P_finding l G _ _) (fun r9 M10 => ?_)
      exact n_iret dX11_cut_31 rfl
    · refine s_aload_n 0 dX11_cut_32 rfl ?_
      refine n_getI dX11_cut_33 okf_P_150_7 rfl rfl (isb_1 h4) (sh_lt (isb_1 h4) rfl) ?_
      refine s_istore (lv' := [(4, .int (M8.1 p3 4)), (3, aR G p3), (0, aR G 0), (1, .int v1), (2, .int v2)]) dX11_cut_36 rfl rfl ?_
      refine s_aload_n 1 dX11_cut_38 rfl ?_
      refine s_iload_n 4 dX11_cut_39 rfl ?_
      refine n_putI dX11_cut_40 okp_P_150_7 rfl rfl (isb_1 h4) (sh_lt (isb_1 h4) rfl) ?_
      refine s_topM (fun M11 => ?_)
      refine s_aload_n 1 dX11_cut_43 rfl ?_
      refine n_invV_u dX11_cut_44 ok_X2_trace rfl wt_384 wt_385 wt_386 (ci := 7) rfl rfl (isb_1 h4) (sh_lt (isb_1 h4) rfl) [] rfl rfl rfl rfl (c_H_trace l G _ (isb_1 h4) _) (fun r12 M13 => ?_)
      refine s_iload 0 dX11_cut_47 rfl ?_
      exact n_iret dX11_cut_49 rfl
def f_H_become (o : Nat) (c1 : Nat) (M : Nm) : Option (Unit × Nm) := bl (mK M o c1) fun M1 => bnd (f_H_trace o M1) fun r2 M3 => some ((), M3)
theorem c_H_become (l : Launch) (G : Gl) (o : Nat) (c1 : Nat) (ho : (sh o).1 = 7) (hc1 : isK c1) (M : Nm) : NJ l G Y_X2_become (zR 4 101) eU 0 (lv_args 0 [aR G o, aR G c1]) [] M (f_H_become o c1 M) := by
  unfold f_H_become
  show NJ l G Y_X2_become (zR 4 101) eU 0 [(0, aR G o), (1, aR G c1)] [] M _
  refine s_aload_n 0 dX2_become_0 rfl ?_
  refine s_aload_n 1 dX2_become_1 rfl ?_
  refine n_putK dX2_become_2 okp_H_9_7 ho ?_
  refine s_topM (fun M1 => ?_)
  refine s_aload_n 0 dX2_become_5 rfl ?_
  refine n_invV_u dX2_become_6 ok_X2_trace rfl wt_496 wt_385 wt_386 (ci := 7) rfl rfl ho (sh_lt ho rfl) [] rfl rfl rfl rfl (c_H_trace l G _ ho _) (fun r2 M3 => ?_)
  exact n_vret dX2_become_9 rfl
def f_P_turn (v1 : Int32) (v2 : Int32) (M : Nm) : Option (Int32 × Nm) := bnd (f_L_handOf 8 v1 M) fun r1 M2 => ifn r1 (bnd (f_P_finding (-1000000001) M2) fun r5 M6 => some (r5, M6)) fun p3 => grd (isb 7 p3) <| bnd (f_P_isKind v2 M2) fun r7 M8 => if r7 = 0 then (bnd (f_P_finding (-1000000001) M8) fun r9 M10 => some (r9, M10)) else (grd (isKb (M8.2.2 p3)) <| grd (inb v2 6) <| bnd (f_H_become p3 (knd v2) M8) fun r13 M14 => some (M8.1 (M8.2.2 p3) 0, M14))
theorem c_P_turn (l : Launch) (G : Gl) (v1 : Int32) (v2 : Int32)  (M : Nm) : NJ l G Y_X11_turn (zR 5 122) eI 0 (lv_args 0 [aR G 0, .int v1, .int v2]) [] M (f_P_turn v1 v2 M) := by
  unfold f_P_turn
  show NJ l G Y_X11_turn (zR 5 122) eI 0 [(0, aR G 0), (1, .int v1), (2, .int v2)] [] M _
  refine s_aload_n 0 dX11_turn_0 rfl ?_
  refine n_getR (x := 8) dX11_turn_1 okf_P_50_0 rfl rfl so_0 (sh_lt so_0 rfl) rfl ?_
  refine s_iload_n 1 dX11_turn_4 rfl ?_
  refine n_invV_r dX11_turn_5 ok_X5_handOf rfl wt_370 wt_371 wt_372 (ci := 8) rfl rfl so_8 (sh_lt so_8 rfl) [.int v1] rfl rfl rfl rfl (c_L_handOf l G _ _ so_8 _) (fun r1 M2 => ?_)
  refine s_split ?_ (fun p3 => ?_)
  · refine s_astore_nN (i := 3) (lv' := [(3, .null), (0, aR G 0), (1, .int v1), (2, .int v2)]) dX11_turn_8 rfl rfl rfl ?_
    refine s_aload_nN 0 dX11_turn_9 rfl ?_
    refine s_ifnullN (tgt := 20) dX11_turn_10 (by decide) ?_
    refine s_aload_n 1 dX11_turn_20 rfl ?_
    refine s_ldc (v := (-1000000001)) dX11_turn_21 wt_263 ?_
    refine n_invV_i dX11_turn_23 ok_X11_finding rfl wt_264 wt_266 ws_0 (ci := 0) rfl rfl so_0 (sh_lt so_0 rfl) [.int (-1000000001)] rfl rfl rfl rfl (c_P_finding l G _ _) (fun r5 M6 => ?_)
    exact n_iret dX11_turn_26 rfl
  · refine s_grd (fun h4 => ?_)
    refine s_astore_n (i := 3) (lv' := [(3, aR G p3), (0, aR G 0), (1, .int v1), (2, .int v2)]) dX11_turn_8 rfl rfl rfl ?_
    refine s_aload_n 0 dX11_turn_9 rfl ?_
    refine s_ifnullS dX11_turn_10 ?_
    refine s_iload_n 3 dX11_turn_13 rfl ?_
    refine n_invS_i dX11_turn_14 ok_X11_isKind rfl wt_349 wt_350 [.int v2] rfl rfl rfl rfl (c_P_isKind l G _ _) (fun r7 M8 => ?_)
    refine s_if_ne (tgt := 27) dX11_turn_17 (by decide) (fun _ => ?_) (fun _ => ?_)
    · refine s_aload_n 1 dX11_turn_20 rfl ?_
      refine s_ldc (v := (-1000000001)) dX11_turn_21 wt_263 ?_
      refine n_invV_i dX11_turn_23 ok_X11_finding rfl wt_264 wt_266 ws_0 (ci := 0) rfl rfl so_0 (sh_lt so_0 rfl) [.int (-1000000001)] rfl rfl rfl rfl (c_P_finding l G _ _) (fun r9 M10 => ?_)
      exact n_iret dX11_turn_26 rfl
    · refine s_aload_n 0 dX11_turn_27 rfl ?_
      refine n_getR (x := (M8.2.2 p3)) dX11_turn_28 okf_P_153_7 rfl rfl (isb_1 h4) (sh_lt (isb_1 h4) rfl) (r_kind (isb_1 h4)) ?_
      refine s_grd (fun h11 => ?_)
      refine n_getNum dX11_turn_31 okfK_P_157 (isKb_1 h11) ?_
      refine s_istore (lv' := [(4, .int (M8.1 (M8.2.2 p3) 0)), (3, aR G p3), (0, aR G 0), (1, .int v1), (2, .int v2)]) dX11_turn_34 rfl rfl ?_
      refine s_aload_n 1 dX11_turn_36 rfl ?_
      refine s_aload_n 2 dX11_turn_37 rfl ?_
      refine n_getR (x := 2) dX11_turn_38 okf_P_41_0 rfl rfl so_0 (sh_lt so_0 rfl) rfl ?_
      refine s_iload_n 4 dX11_turn_41 rfl ?_
      refine n_aal (x := (knd v2)) 4 ⟨rfl, rfl⟩ dX11_turn_42 sa_2 r_knd (fun h12 => ?_)
      refine n_invV_u dX11_turn_43 ok_X2_become rfl wt_512 wt_513 wt_514 (ci := 7) rfl rfl (isb_1 h4) (sh_lt (isb_1 h4) rfl) [aR G (knd v2)] rfl rfl rfl rfl (c_H_become l G _ _ (isb_1 h4) (ly_knd h12) _) (fun r13 M14 => ?_)
      refine s_iload 0 dX11_turn_46 rfl ?_
      exact n_iret dX11_turn_48 rfl
def f_P_as (v1 : Int32) (v2 : Int32) (M : Nm) : Option (Int32 × Nm) := bnd (f_L_handOf 8 v1 M) fun r1 M2 => ifn r1 (bnd (f_P_finding (-1000000001) M2) fun r5 M6 => some (r5, M6)) fun p3 => grd (isb 7 p3) <| bnd (f_P_isKind v2 M2) fun r7 M8 => if r7 = 0 then (bnd (f_P_finding (-1000000001) M8) fun r9 M10 => some (r9, M10)) else (grd (isKb (M8.2.2 p3)) <| bnd (v_isOf (M8.2.2 p3) v2 M8) fun r12 M13 => if r12 = 0 then (bnd (f_P_finding (-1000000003) M13) fun r15 M16 => some (r15, M16)) else (some (M13.1 p3 2, M13)))
theorem c_P_as (l : Launch) (G : Gl) (v1 : Int32) (v2 : Int32)  (M : Nm) : NJ l G Y_X11_as (zR 3 63) eI 0 (lv_args 0 [aR G 0, .int v1, .int v2]) [] M (f_P_as v1 v2 M) := by
  unfold f_P_as
  show NJ l G Y_X11_as (zR 3 63) eI 0 [(0, aR G 0), (1, .int v1), (2, .int v2)] [] M _
  refine s_aload_n 0 dX11_as_0 rfl ?_
  refine n_getR (x := 8) dX11_as_1 okf_P_50_0 rfl rfl so_0 (sh_lt so_0 rfl) rfl ?_
  refine s_iload_n 1 dX11_as_4 rfl ?_
  refine n_invV_r dX11_as_5 ok_X5_handOf rfl wt_370 wt_371 wt_372 (ci := 8) rfl rfl so_8 (sh_lt so_8 rfl) [.int v1] rfl rfl rfl rfl (c_L_handOf l G _ _ so_8 _) (fun r1 M2 => ?_)
  refine s_split ?_ (fun p3 => ?_)
  · refine s_astore_nN (i := 3) (lv' := [(3, .null), (0, aR G 0), (1, .int v1), (2, .int v2)]) dX11_as_8 rfl rfl rfl ?_
    refine s_aload_nN 0 dX11_as_9 rfl ?_
    refine s_ifnullN (tgt := 20) dX11_as_10 (by decide) ?_
    refine s_aload_n 1 dX11_as_20 rfl ?_
    refine s_ldc (v := (-1000000001)) dX11_as_21 wt_263 ?_
    refine n_invV_i dX11_as_23 ok_X11_finding rfl wt_264 wt_266 ws_0 (ci := 0) rfl rfl so_0 (sh_lt so_0 rfl) [.int (-1000000001)] rfl rfl rfl rfl (c_P_finding l G _ _) (fun r5 M6 => ?_)
    exact n_iret dX11_as_26 rfl
  · refine s_grd (fun h4 => ?_)
    refine s_astore_n (i := 3) (lv' := [(3, aR G p3), (0, aR G 0), (1, .int v1), (2, .int v2)]) dX11_as_8 rfl rfl rfl ?_
    refine s_aload_n 0 dX11_as_9 rfl ?_
    refine s_ifnullS dX11_as_10 ?_
    refine s_iload_n 3 dX11_as_13 rfl ?_
    refine n_invS_i dX11_as_14 ok_X11_isKind rfl wt_349 wt_350 [.int v2] rfl rfl rfl rfl (c_P_isKind l G _ _) (fun r7 M8 => ?_)
    refine s_if_ne (tgt := 27) dX11_as_17 (by decide) (fun _ => ?_) (fun _ => ?_)
    · refine s_aload_n 1 dX11_as_20 rfl ?_
      refine s_ldc (v := (-1000000001)) dX11_as_21 wt_263 ?_
      refine n_invV_i dX11_as_23 ok_X11_finding rfl wt_264 wt_266 ws_0 (ci := 0) rfl rfl so_0 (sh_lt so_0 rfl) [.int (-1000000001)] rfl rfl rfl rfl (c_P_finding l G _ _) (fun r9 M10 => ?_)
      exact n_iret dX11_as_26 rfl
    · refine s_aload_n 0 dX11_as_27 rfl ?_
      refine n_getR (x := (M8.2.2 p3)) dX11_as_28 okf_P_153_7 rfl rfl (isb_1 h4) (sh_lt (isb_1 h4) rfl) (r_kind (isb_1 h4)) ?_
      refine s_iload_n 3 dX11_as_31 rfl ?_
      refine s_grd (fun h11 => ?_)
      refine n_virt_isOf (Y := Y_X11_as) (pc := 32) dX11_as_32 wt_520 (by decide) (isKb_1 h11) rfl rfl (fun r12 M13 => ?_)
      refine s_if_eq (tgt := 45) dX11_as_35 (by decide) (fun _ => ?_) (fun _ => ?_)
      · refine s_aload_n 1 dX11_as_45 rfl ?_
        refine s_ldc (v := (-1000000003)) dX11_as_46 wt_545 ?_
        refine n_invV_i dX11_as_48 ok_X11_finding rfl wt_264 wt_266 ws_0 (ci := 0) rfl rfl so_0 (sh_lt so_0 rfl) [.int (-1000000003)] rfl rfl rfl rfl (c_P_finding l G _ _) (fun r15 M16 => ?_)
        exact n_iret dX11_as_51 rfl
      · refine s_aload_n 0 dX11_as_38 rfl ?_
        refine n_getI dX11_as_39 okf_P_163_7 rfl rfl (isb_1 h4) (sh_lt (isb_1 h4) rfl) ?_
        refine s_goto (tgt := 51) dX11_as_42 (by decide) ?_
        exact n_iret dX11_as_51 rfl
def f_P_line (v1 : Int32) (M : Nm) : Option (Int64 × Nm) := bnd (f_L_handOf 8 v1 M) fun r1 M2 => ifn r1 (bnd (f_P_finding (-1000000001) M2) fun r5 M6 => some (r5.toInt64, M6)) fun p3 => grd (isb 7 p3) <| bnd (f_H_lineUnder p3 (M2.2.1 8 0) M2) fun r7 M8 => some (r7, M8)
theorem c_P_line (l : Launch) (G : Gl) (v1 : Int32)  (M : Nm) : NJ l G Y_X11_line (zR 1 22) eL 0 (lv_args 0 [aR G 0, .int v1]) [] M (f_P_line v1 M) := by
  unfold f_P_line
  show NJ l G Y_X11_line (zR 1 22) eL 0 [(0, aR G 0), (1, .int v1)] [] M _
  refine s_aload_n 0 dX11_line_0 rfl ?_
  refine n_getR (x := 8) dX11_line_1 okf_P_50_0 rfl rfl so_0 (sh_lt so_0 rfl) rfl ?_
  refine s_iload_n 1 dX11_line_4 rfl ?_
  refine n_invV_r dX11_line_5 ok_X5_handOf rfl wt_370 wt_371 wt_372 (ci := 8) rfl rfl so_8 (sh_lt so_8 rfl) [.int v1] rfl rfl rfl rfl (c_L_handOf l G _ _ so_8 _) (fun r1 M2 => ?_)
  refine s_split ?_ (fun p3 => ?_)
  · refine s_astore_nN (i := 2) (lv' := [(2, .null), (0, aR G 0), (1, .int v1)]) dX11_line_8 rfl rfl rfl ?_
    refine s_aload_nN 0 dX11_line_9 rfl ?_
    refine s_ifnonnullN dX11_line_10 ?_
    refine s_aload_n 1 dX11_line_13 rfl ?_
    refine s_ldc (v := (-1000000001)) dX11_line_14 wt_263 ?_
    refine n_invV_i dX11_line_16 ok_X11_finding rfl wt_264 wt_266 ws_0 (ci := 0) rfl rfl so_0 (sh_lt so_0 rfl) [.int (-1000000001)] rfl rfl rfl rfl (c_P_finding l G _ _) (fun r5 M6 => ?_)
    refine s_i2l dX11_line_19 ?_
    refine s_goto (tgt := 34) dX11_line_20 (by decide) ?_
    exact n_lret dX11_line_34 rfl
  · refine s_grd (fun h4 => ?_)
    refine s_astore_n (i := 2) (lv' := [(2, aR G p3), (0, aR G 0), (1, .int v1)]) dX11_line_8 rfl rfl rfl ?_
    refine s_aload_n 0 dX11_line_9 rfl ?_
    refine s_ifnonnullS (tgt := 23) dX11_line_10 (by decide) ?_
    refine s_aload_n 0 dX11_line_23 rfl ?_
    refine s_aload_n 1 dX11_line_24 rfl ?_
    refine n_getR (x := 8) dX11_line_25 okf_P_50_0 rfl rfl so_0 (sh_lt so_0 rfl) rfl ?_
    refine n_getL dX11_line_28 okf_P_91_8 rfl rfl so_8 (sh_lt so_8 rfl) ?_
    refine n_invV_l dX11_line_31 ok_X2_lineUnder rfl wt_550 wt_288 wt_289 (ci := 7) rfl rfl (isb_1 h4) (sh_lt (isb_1 h4) rfl) [.long (M2.2.1 8 0)] rfl rfl rfl rfl (c_H_lineUnder l G _ _ (isb_1 h4) _) (fun r7 M8 => ?_)
    exact n_lret dX11_line_34 rfl
def f_P_inside (v1 : Int32) (M : Nm) : Option (Int64 × Nm) := bnd (f_L_handOf 8 v1 M) fun r1 M2 => ifn r1 (bnd (f_P_finding (-1000000001) M2) fun r5 M6 => some (r5.toInt64, M6)) fun p3 => grd (isb 7 p3) <| bnd (f_H_insideUnder p3 (M2.2.1 8 0) M2) fun r7 M8 => some (r7, M8)
theorem c_P_inside (l : Launch) (G : Gl) (v1 : Int32)  (M : Nm) : NJ l G Y_X11_inside (zR 3 79) eL 0 (lv_args 0 [aR G 0, .int v1]) [] M (f_P_inside v1 M) := by
  unfold f_P_inside
  show NJ l G Y_X11_inside (zR 3 79) eL 0 [(0, aR G 0), (1, .int v1)] [] M _
  refine s_aload_n 0 dX11_inside_0 rfl ?_
  refine n_getR (x := 8) dX11_inside_1 okf_P_50_0 rfl rfl so_0 (sh_lt so_0 rfl) rfl ?_
  refine s_iload_n 1 dX11_inside_4 rfl ?_
  refine n_invV_r dX11_inside_5 ok_X5_handOf rfl wt_370 wt_371 wt_372 (ci := 8) rfl rfl so_8 (sh_lt so_8 rfl) [.int v1] rfl rfl rfl rfl (c_L_handOf l G _ _ so_8 _) (fun r1 M2 => ?_)
  refine s_split ?_ (fun p3 => ?_)
  · refine s_astore_nN (i := 2) (lv' := [(2, .null), (0, aR G 0), (1, .int v1)]) dX11_inside_8 rfl rfl rfl ?_
    refine s_aload_nN 0 dX11_inside_9 rfl ?_
    refine s_ifnonnullN dX11_inside_10 ?_
    refine s_aload_n 1 dX11_inside_13 rfl ?_
    refine s_ldc (v := (-1000000001)) dX11_inside_14 wt_263 ?_
    refine n_invV_i dX11_inside_16 ok_X11_finding rfl wt_264 wt_266 ws_0 (ci := 0) rfl rfl so_0 (sh_lt so_0 rfl) [.int (-1000000001)] rfl rfl rfl rfl (c_P_finding l G _ _) (fun r5 M6 => ?_)
    refine s_i2l dX11_inside_19 ?_
    refine s_goto (tgt := 34) dX11_inside_20 (by decide) ?_
    exact n_lret dX11_inside_34 rfl
  · refine s_grd (fun h4 => ?_)
    refine s_astore_n (i := 2) (lv' := [(2, aR G p3), (0, aR G 0), (1, .int v1)]) dX11_inside_8 rfl rfl rfl ?_
    refine s_aload_n 0 dX11_inside_9 rfl ?_
    refine s_ifnonnullS (tgt := 23) dX11_inside_10 (by decide) ?_
    refine s_aload_n 0 dX11_inside_23 rfl ?_
    refine s_aload_n 1 dX11_inside_24 rfl ?_
    refine n_getR (x := 8) dX11_inside_25 okf_P_50_0 rfl rfl so_0 (sh_lt so_0 rfl) rfl ?_
    refine n_getL dX11_inside_28 okf_P_91_8 rfl rfl so_8 (sh_lt so_8 rfl) ?_
    refine n_invV_l dX11_inside_31 ok_X2_insideUnder rfl wt_555 wt_298 wt_299 (ci := 7) rfl rfl (isb_1 h4) (sh_lt (isb_1 h4) rfl) [.long (M2.2.1 8 0)] rfl rfl rfl rfl (c_H_insideUnder l G _ _ (isb_1 h4) _) (fun r7 M8 => ?_)
    exact n_lret dX11_inside_34 rfl
def f_H_goYear (o : Nat) (v1 : Int32) (M : Nm) : Option (Unit × Nm) := bnd (f_H_writes o M) fun r1 M2 => if r1 = 0 then (bl (mI M2 o 2 (if ((M2.1 o 2) + 5) < (999 : Int32) then ((M2.1 o 2) + 5) else 999)) fun M3 => some ((), M3)) else (bl (mI M2 o 2 (if (((M2.1 o 2) - (M2.1 o 8)) + v1) < (999 : Int32) then (((M2.1 o 2) - (M2.1 o 8)) + v1) else 999)) fun M4 => grd (isKb (M4.2.2 o)) <| bnd (v_crop (M4.2.2 o) M4) fun r6 M7 => bl (mI M7 o 3 (if ((M4.1 o 3) + (r6 * v1)) < (99999 : Int32) then ((M4.1 o 3) + (r6 * v1)) else 99999)) fun M9 => some ((), M9))
theorem c_H_goYear (l : Launch) (G : Gl) (o : Nat) (v1 : Int32) (ho : (sh o).1 = 7) (M : Nm) : NJ l G Y_X2_goYear (zR 3 60) eU 0 (lv_args 0 [aR G o, .int v1]) [] M (f_H_goYear o v1 M) := by
  unfold f_H_goYear
  show NJ l G Y_X2_goYear (zR 3 60) eU 0 [(0, aR G o), (1, .int v1)] [] M _
  refine s_aload_n 0 dX2_goYear_0 rfl ?_
  refine n_invV_i dX2_goYear_1 ok_X2_writes rfl wt_573 wt_322 wt_323 (ci := 7) rfl rfl ho (sh_lt ho rfl) [] rfl rfl rfl rfl (c_H_writes l G _ ho _) (fun r1 M2 => ?_)
  refine s_if_eq (tgt := 54) dX2_goYear_4 (by decide) (fun _ => ?_) (fun _ => ?_)
  · refine s_aload_n 0 dX2_goYear_54 rfl ?_
    refine s_sipush (v := 999) dX2_goYear_55 (by decide) ?_
    refine s_aload_n 0 dX2_goYear_58 rfl ?_
    refine n_getI dX2_goYear_59 okf_H_26_7 rfl rfl ho (sh_lt ho rfl) ?_
    refine s_iconst (v := 5) dX2_goYear_62 (by decide) ?_
    refine s_iadd dX2_goYear_63 ?_
    refine n_mmin dX2_goYear_64 wt_574 wt_575 wt_14 wt_576 rfl (by decide) ?_
    refine n_putI dX2_goYear_67 okp_H_26_7 rfl rfl ho (sh_lt ho rfl) ?_
    refine s_topM (fun M3 => ?_)
    exact n_vret dX2_goYear_70 rfl
  · refine s_aload_n 0 dX2_goYear_7 rfl ?_
    refine s_sipush (v := 999) dX2_goYear_8 (by decide) ?_
    refine s_aload_n 0 dX2_goYear_11 rfl ?_
    refine n_getI dX2_goYear_12 okf_H_26_7 rfl rfl ho (sh_lt ho rfl) ?_
    refine s_aload_n 0 dX2_goYear_15 rfl ?_
    refine n_getI dX2_goYear_16 okf_H_45_7 rfl rfl ho (sh_lt ho rfl) ?_
    refine s_isub dX2_goYear_19 ?_
    refine s_iload_n 1 dX2_goYear_20 rfl ?_
    refine s_iadd dX2_goYear_21 ?_
    refine n_mmin dX2_goYear_22 wt_574 wt_575 wt_14 wt_576 rfl (by decide) ?_
    refine n_putI dX2_goYear_25 okp_H_26_7 rfl rfl ho (sh_lt ho rfl) ?_
    refine s_topM (fun M4 => ?_)
    refine s_aload_n 0 dX2_goYear_28 rfl ?_
    refine s_ldc (v := 99999) dX2_goYear_29 wt_577 ?_
    refine s_aload_n 0 dX2_goYear_31 rfl ?_
    refine n_getI dX2_goYear_32 okf_H_29_7 rfl rfl ho (sh_lt ho rfl) ?_
    refine s_aload_n 0 dX2_goYear_35 rfl ?_
    refine n_getR (x := (M4.2.2 o)) dX2_goYear_36 okf_H_9_7 rfl rfl ho (sh_lt ho rfl) (r_kind ho) ?_
    refine s_grd (fun h5 => ?_)
    refine n_virt_crop (Y := Y_X2_goYear) (pc := 39) dX2_goYear_39 wt_578 (by decide) (isKb_1 h5) rfl rfl (fun r6 M7 => ?_)
    refine s_iload_n 1 dX2_goYear_42 rfl ?_
    refine s_imul dX2_goYear_43 ?_
    refine s_iadd dX2_goYear_44 ?_
    refine n_mmin dX2_goYear_45 wt_574 wt_575 wt_14 wt_576 rfl (by decide) ?_
    refine n_putI dX2_goYear_48 okp_H_29_7 rfl rfl ho (sh_lt ho rfl) ?_
    refine s_topM (fun M9 => ?_)
    refine s_goto (tgt := 70) dX2_goYear_51 (by decide) ?_
    exact n_vret dX2_goYear_70 rfl
def f_L_goYear_L6 (k34 : Nm → Option (Unit × Nm)) (c0 : Nat) : Nat → Int32 → Nm → Option (Unit × Nm)
  | 0, _, _ => none
  | f + 1, v1, M => if (M.1 c0 2) ≤ v1 then (k34 M) else (bnd (f_L_shareOf c0 v1 M) fun r3 M4 => bnd (f_Jl_bitCount r3 M4) fun r5 M6 => grd (inb v1 6) <| bl (mI M6 (c0 + 21) (ix v1) r5) fun M7 => f_L_goYear_L6 k34 c0 f (v1 + 1) M7)
theorem c_L_goYear_L6 (l : Launch) (G : Gl) {k34 : Nm → Option (Unit × Nm)} (c0 : Nat) (hc0 : (sh c0).1 = 8) (hk34 : ∀   (M : Nm), NJ l G Y_X5_goYear (zR 4 100) eU 34 [(0, aR G c0)] [] M (k34 M)) : ∀ (f : Nat) (v1 : Int32)  (M : Nm), NJ l G Y_X5_goYear (zR 4 100) eU 6 [(0, aR G c0), (1, .int v1)] [] M (f_L_goYear_L6 k34 c0 f v1 M) := by
  intro f
  induction f with
  | zero => intro v1 M; exact s_none
  | succ f ih =>
    intro v1 M
    rw [f_L_goYear_L6]
    refine s_iload_n 1 dX5_goYear_6 rfl ?_
    refine s_aload_n 0 dX5_goYear_7 rfl ?_
    refine n_getI dX5_goYear_8 okf_L_36_8 rfl rfl hc0 (sh_lt hc0 rfl) ?_
    refine s_icmp_ge (tgt := 34) dX5_goYear_11 (by decide) (fun _ => ?_) (fun _ => ?_)
    · refine s_lv [0] (lv' := [(0, aR G c0)]) rfl ?_
      exact hk34 _
    · refine s_aload_n 0 dX5_goYear_14 rfl ?_
      refine n_getR (x := (c0 + 21)) dX5_goYear_15 okf_L_24_8 rfl rfl hc0 (sh_lt hc0 rfl) (r_ownd hc0) ?_
      refine s_iload_n 1 dX5_goYear_18 rfl ?_
      refine s_aload_n 0 dX5_goYear_19 rfl ?_
      refine s_iload_n 1 dX5_goYear_20 rfl ?_
      refine n_invV_l dX5_goYear_21 ok_X5_shareOf rfl wt_325 wt_327 ws_2 (ci := 8) rfl rfl hc0 (sh_lt hc0 rfl) [.int v1] rfl rfl rfl rfl (c_L_shareOf l G _ _ hc0 _) (fun r3 M4 => ?_)
      refine n_invS_i dX5_goYear_24 ok_J13_bitCount_95d88 rfl wt_453 wt_443 [.long r3] rfl rfl rfl rfl (c_Jl_bitCount l G _ _) (fun r5 M6 => ?_)
      refine n_ias dX5_goYear_27 (ly_ownd hc0) ?_
      refine s_topM (fun M7 => ?_)
      refine s_iinc (v := 1) (lv' := [(1, .int (v1 + 1)), (0, aR G c0)]) 1 dX5_goYear_28 rfl (by decide) rfl rfl ?_
      refine s_goto (tgt := 6) dX5_goYear_31 (by decide) ?_
      refine s_lv [1, 0] (lv' := [(0, aR G c0), (1, .int (v1 + 1))]) rfl ?_
      exact ih _ _
def f_L_goYear_L36 (k65 : Nm → Option (Unit × Nm)) (c0 : Nat) : Nat → Int32 → Nm → Option (Unit × Nm)
  | 0, _, _ => none
  | f + 1, v1, M => if (M.1 c0 2) ≤ v1 then (k65 M) else (grd (inb v1 6) <| grd (inb v1 6) <| bnd (f_H_goYear (hnd c0 v1) (M.1 (c0 + 21) (ix v1)) M) fun r10 M11 => f_L_goYear_L36 k65 c0 f (v1 + 1) M11)
theorem c_L_goYear_L36 (l : Launch) (G : Gl) {k65 : Nm → Option (Unit × Nm)} (c0 : Nat) (hc0 : (sh c0).1 = 8) (hk65 : ∀   (M : Nm), NJ l G Y_X5_goYear (zR 4 100) eU 65 [(0, aR G c0)] [] M (k65 M)) : ∀ (f : Nat) (v1 : Int32)  (M : Nm), NJ l G Y_X5_goYear (zR 4 100) eU 36 [(0, aR G c0), (1, .int v1)] [] M (f_L_goYear_L36 k65 c0 f v1 M) := by
  intro f
  induction f with
  | zero => intro v1 M; exact s_none
  | succ f ih =>
    intro v1 M
    rw [f_L_goYear_L36]
    refine s_iload_n 1 dX5_goYear_36 rfl ?_
    refine s_aload_n 0 dX5_goYear_37 rfl ?_
    refine n_getI dX5_goYear_38 okf_L_36_8 rfl rfl hc0 (sh_lt hc0 rfl) ?_
    refine s_icmp_ge (tgt := 65) dX5_goYear_41 (by decide) (fun _ => ?_) (fun _ => ?_)
    · refine s_lv [0] (lv' := [(0, aR G c0)]) rfl ?_
      exact hk65 _
    · refine s_aload_n 0 dX5_goYear_44 rfl ?_
      refine n_getR (x := (c0 + 1)) dX5_goYear_45 okf_L_11_8 rfl rfl hc0 (sh_lt hc0 rfl) (r_rows hc0) ?_
      refine s_iload_n 1 dX5_goYear_48 rfl ?_
      refine n_aal (x := (hnd c0 v1)) 3 ⟨rfl, rfl⟩ dX5_goYear_49 (ly_rows hc0) (r_hnd hc0) (fun h9 => ?_)
      refine s_aload_n 0 dX5_goYear_50 rfl ?_
      refine n_getR (x := (c0 + 21)) dX5_goYear_51 okf_L_24_8 rfl rfl hc0 (sh_lt hc0 rfl) (r_ownd hc0) ?_
      refine s_iload_n 1 dX5_goYear_54 rfl ?_
      refine n_ial dX5_goYear_55 (ly_ownd hc0) ?_
      refine n_invV_u dX5_goYear_56 ok_X2_goYear rfl wt_569 wt_570 wt_571 (ci := 7) rfl rfl (ly_hnd hc0 h9) (sh_lt (ly_hnd hc0 h9) rfl) [.int (M.1 (c0 + 21) (ix v1))] rfl rfl rfl rfl (c_H_goYear l G _ _ (ly_hnd hc0 h9) _) (fun r10 M11 => ?_)
      refine s_iinc (v := 1) (lv' := [(1, .int (v1 + 1)), (0, aR G c0)]) 1 dX5_goYear_59 rfl (by decide) rfl rfl ?_
      refine s_goto (tgt := 36) dX5_goYear_62 (by decide) ?_
      refine s_lv [1, 0] (lv' := [(0, aR G c0), (1, .int (v1 + 1))]) rfl ?_
      exact ih _ _
def f_L_goYear (o : Nat) (M : Nm) : Option (Unit × Nm) := bnd (f_L_stakeClaims o M) fun r1 M2 => f_L_goYear_L6 (fun M8 => f_L_goYear_L36 (fun M12 => bl (mL M12 o 0 ((M12.2.1 o 0) &&& ((M12.2.1 o 0) - 1))) fun M13 => bl (mI M13 o 1 ((M13.1 o 1) + 1)) fun M14 => some ((), M14)) o FU 0 M8) o FU 0 M2
theorem c_L_goYear (l : Launch) (G : Gl) (o : Nat) (ho : (sh o).1 = 8) (M : Nm) : NJ l G Y_X5_goYear (zR 4 100) eU 0 (lv_args 0 [aR G o]) [] M (f_L_goYear o M) := by
  unfold f_L_goYear
  show NJ l G Y_X5_goYear (zR 4 100) eU 0 [(0, aR G o)] [] M _
  refine s_aload_n 0 dX5_goYear_0 rfl ?_
  refine n_invV_u dX5_goYear_1 ok_X5_stakeClaims rfl wt_317 wt_319 ws_1 (ci := 8) rfl rfl ho (sh_lt ho rfl) [] rfl rfl rfl rfl (c_L_stakeClaims l G _ ho _) (fun r1 M2 => ?_)
  refine s_iconst (v := 0) dX5_goYear_4 (by decide) ?_
  refine s_istore_n (i := 1) (lv' := [(1, .int 0), (0, aR G o)]) dX5_goYear_5 rfl rfl rfl ?_
  refine s_lv [1, 0] (lv' := [(0, aR G o), (1, .int 0)]) rfl ?_
  refine c_L_goYear_L6 l G _ ho (fun M8 => ?_) FU _ _
  refine s_iconst (v := 0) dX5_goYear_34 (by decide) ?_
  refine s_istore_n (i := 1) (lv' := [(1, .int 0), (0, aR G o)]) dX5_goYear_35 rfl rfl rfl ?_
  refine s_lv [1, 0] (lv' := [(0, aR G o), (1, .int 0)]) rfl ?_
  refine c_L_goYear_L36 l G _ ho (fun M12 => ?_) FU _ _
  refine s_aload_n 0 dX5_goYear_65 rfl ?_
  refine s_dup dX5_goYear_66 rfl ?_
  refine n_getL dX5_goYear_67 okf_L_28_8 rfl rfl ho (sh_lt ho rfl) ?_
  refine s_aload_n 0 dX5_goYear_70 rfl ?_
  refine n_getL dX5_goYear_71 okf_L_28_8 rfl rfl ho (sh_lt ho rfl) ?_
  refine s_lconst (v := 1) dX5_goYear_74 (by decide) ?_
  refine s_lsub dX5_goYear_75 ?_
  refine s_land dX5_goYear_76 ?_
  refine n_putL dX5_goYear_77 okp_L_28_8 rfl rfl ho (sh_lt ho rfl) ?_
  refine s_topM (fun M13 => ?_)
  refine s_aload_n 0 dX5_goYear_80 rfl ?_
  refine s_dup dX5_goYear_81 rfl ?_
  refine n_getI dX5_goYear_82 okf_L_32_8 rfl rfl ho (sh_lt ho rfl) ?_
  refine s_iconst (v := 1) dX5_goYear_85 (by decide) ?_
  refine s_iadd dX5_goYear_86 ?_
  refine n_putI dX5_goYear_87 okp_L_32_8 rfl rfl ho (sh_lt ho rfl) ?_
  refine s_topM (fun M14 => ?_)
  exact n_vret dX5_goYear_90 rfl
def f_L_goYears_L2  (c0 : Nat) (v1 : Int32) : Nat → Int32 → Nm → Option (Unit × Nm)
  | 0, _, _ => none
  | f + 1, v2, M => if v1 ≤ v2 then (some ((), M)) else (bnd (f_L_goYear c0 M) fun r1 M2 => f_L_goYears_L2 c0 v1 f (v2 + 1) M2)
theorem c_L_goYears_L2 (l : Launch) (G : Gl)  (c0 : Nat) (v1 : Int32) (hc0 : (sh c0).1 = 8)  : ∀ (f : Nat) (v2 : Int32)  (M : Nm), NJ l G Y_X5_goYears (zR 5 121) eU 2 [(0, aR G c0), (1, .int v1), (2, .int v2)] [] M (f_L_goYears_L2 c0 v1 f v2 M) := by
  intro f
  induction f with
  | zero => intro v2 M; exact s_none
  | succ f ih =>
    intro v2 M
    rw [f_L_goYears_L2]
    refine s_iload_n 2 dX5_goYears_2 rfl ?_
    refine s_iload_n 1 dX5_goYears_3 rfl ?_
    refine s_icmp_ge (tgt := 17) dX5_goYears_4 (by decide) (fun _ => ?_) (fun _ => ?_)
    · exact n_vret dX5_goYears_17 rfl
    · refine s_aload_n 0 dX5_goYears_7 rfl ?_
      refine n_invV_u dX5_goYears_8 ok_X5_goYear rfl wt_565 wt_566 wt_567 (ci := 8) rfl rfl hc0 (sh_lt hc0 rfl) [] rfl rfl rfl rfl (c_L_goYear l G _ hc0 _) (fun r1 M2 => ?_)
      refine s_iinc (v := 1) (lv' := [(2, .int (v2 + 1)), (0, aR G c0), (1, .int v1)]) 2 dX5_goYears_11 rfl (by decide) rfl rfl ?_
      refine s_goto (tgt := 2) dX5_goYears_14 (by decide) ?_
      refine s_lv [1, 2, 0] (lv' := [(0, aR G c0), (1, .int v1), (2, .int (v2 + 1))]) rfl ?_
      exact ih _ _
def f_L_goYears (o : Nat) (v1 : Int32) (M : Nm) : Option (Unit × Nm) := f_L_goYears_L2 o v1 FU 0 M
theorem c_L_goYears (l : Launch) (G : Gl) (o : Nat) (v1 : Int32) (ho : (sh o).1 = 8) (M : Nm) : NJ l G Y_X5_goYears (zR 5 121) eU 0 (lv_args 0 [aR G o, .int v1]) [] M (f_L_goYears o v1 M) := by
  unfold f_L_goYears
  show NJ l G Y_X5_goYears (zR 5 121) eU 0 [(0, aR G o), (1, .int v1)] [] M _
  refine s_iconst (v := 0) dX5_goYears_0 (by decide) ?_
  refine s_istore_n (i := 2) (lv' := [(2, .int 0), (0, aR G o), (1, .int v1)]) dX5_goYears_1 rfl rfl rfl ?_
  refine s_lv [1, 2, 0] (lv' := [(0, aR G o), (1, .int v1), (2, .int 0)]) rfl ?_
  refine c_L_goYears_L2 l G _ _ ho FU _ _
def f_L_cornOfAll_L4  (c0 : Nat) : Nat → Int32 → Int32 → Nm → Option (Int32 × Nm)
  | 0, _, _, _ => none
  | f + 1, v1, v2, M => if (M.1 c0 2) ≤ v2 then (some (v1, M)) else (grd (inb v2 6) <| f_L_cornOfAll_L4 c0 f (v1 + (M.1 (hnd c0 v2) 3)) (v2 + 1) M)
theorem c_L_cornOfAll_L4 (l : Launch) (G : Gl)  (c0 : Nat) (hc0 : (sh c0).1 = 8)  : ∀ (f : Nat) (v1 : Int32) (v2 : Int32)  (M : Nm), NJ l G Y_X5_cornOfAll (zR 0 0) eI 4 [(0, aR G c0), (1, .int v1), (2, .int v2)] [] M (f_L_cornOfAll_L4 c0 f v1 v2 M) := by
  intro f
  induction f with
  | zero => intro v1 v2 M; exact s_none
  | succ f ih =>
    intro v1 v2 M
    rw [f_L_cornOfAll_L4]
    refine s_iload_n 2 dX5_cornOfAll_4 rfl ?_
    refine s_aload_n 0 dX5_cornOfAll_5 rfl ?_
    refine n_getI dX5_cornOfAll_6 okf_L_36_8 rfl rfl hc0 (sh_lt hc0 rfl) ?_
    refine s_icmp_ge (tgt := 30) dX5_cornOfAll_9 (by decide) (fun _ => ?_) (fun _ => ?_)
    · refine s_iload_n 1 dX5_cornOfAll_30 rfl ?_
      exact n_iret dX5_cornOfAll_31 rfl
    · refine s_iload_n 1 dX5_cornOfAll_12 rfl ?_
      refine s_aload_n 0 dX5_cornOfAll_13 rfl ?_
      refine n_getR (x := (c0 + 1)) dX5_cornOfAll_14 okf_L_11_8 rfl rfl hc0 (sh_lt hc0 rfl) (r_rows hc0) ?_
      refine s_iload_n 2 dX5_cornOfAll_17 rfl ?_
      refine n_aal (x := (hnd c0 v2)) 3 ⟨rfl, rfl⟩ dX5_cornOfAll_18 (ly_rows hc0) (r_hnd hc0) (fun h1 => ?_)
      refine n_getI dX5_cornOfAll_19 okf_L_105_7 rfl rfl (ly_hnd hc0 h1) (sh_lt (ly_hnd hc0 h1) rfl) ?_
      refine s_iadd dX5_cornOfAll_22 ?_
      refine s_istore_n (i := 1) (lv' := [(1, .int (v1 + (M.1 (hnd c0 v2) 3))), (0, aR G c0), (2, .int v2)]) dX5_cornOfAll_23 rfl rfl rfl ?_
      refine s_iinc (v := 1) (lv' := [(2, .int (v2 + 1)), (1, .int (v1 + (M.1 (hnd c0 v2) 3))), (0, aR G c0)]) 2 dX5_cornOfAll_24 rfl (by decide) rfl rfl ?_
      refine s_goto (tgt := 4) dX5_cornOfAll_27 (by decide) ?_
      refine s_lv [2, 1, 0] (lv' := [(0, aR G c0), (1, .int (v1 + (M.1 (hnd c0 v2) 3))), (2, .int (v2 + 1))]) rfl ?_
      exact ih _ _ _
def f_L_cornOfAll (o : Nat) (M : Nm) : Option (Int32 × Nm) := f_L_cornOfAll_L4 o FU 0 0 M
theorem c_L_cornOfAll (l : Launch) (G : Gl) (o : Nat) (ho : (sh o).1 = 8) (M : Nm) : NJ l G Y_X5_cornOfAll (zR 0 0) eI 0 (lv_args 0 [aR G o]) [] M (f_L_cornOfAll o M) := by
  unfold f_L_cornOfAll
  show NJ l G Y_X5_cornOfAll (zR 0 0) eI 0 [(0, aR G o)] [] M _
  refine s_iconst (v := 0) dX5_cornOfAll_0 (by decide) ?_
  refine s_istore_n (i := 1) (lv' := [(1, .int 0), (0, aR G o)]) dX5_cornOfAll_1 rfl rfl rfl ?_
  refine s_iconst (v := 0) dX5_cornOfAll_2 (by decide) ?_
  refine s_istore_n (i := 2) (lv' := [(2, .int 0), (1, .int 0), (0, aR G o)]) dX5_cornOfAll_3 rfl rfl rfl ?_
  refine s_lv [2, 1, 0] (lv' := [(0, aR G o), (1, .int 0), (2, .int 0)]) rfl ?_
  refine c_L_cornOfAll_L4 l G _ ho FU _ _ _
def f_P_years (v1 : Int32) (M : Nm) : Option (Int32 × Nm) := bnd (f_P_within v1 1 60 M) fun r1 M2 => if r1 = 0 then (bnd (f_P_finding (-1000000001) M2) fun r3 M4 => some (r3, M4)) else (if ((M2.1 8 1) + v1) ≤ 9999 then (bnd (f_L_goYears 8 v1 M2) fun r5 M6 => bnd (f_L_cornOfAll 8 M6) fun r7 M8 => some (r7, M8)) else (bnd (f_P_finding (-1000000005) M2) fun r9 M10 => some (r9, M10)))
theorem c_P_years (l : Launch) (G : Gl) (v1 : Int32)  (M : Nm) : NJ l G Y_X11_years (zR 6 143) eI 0 (lv_args 0 [aR G 0, .int v1]) [] M (f_P_years v1 M) := by
  unfold f_P_years
  show NJ l G Y_X11_years (zR 6 143) eI 0 [(0, aR G 0), (1, .int v1)] [] M _
  refine s_iload_n 1 dX11_years_0 rfl ?_
  refine s_iconst (v := 1) dX11_years_1 (by decide) ?_
  refine s_bipush (v := 60) dX11_years_2 (by decide) ?_
  refine n_invS_i dX11_years_4 ok_X11_within rfl wt_260 wt_261 [.int v1, .int 1, .int 60] rfl rfl rfl rfl (c_P_within l G _ _ _ _) (fun r1 M2 => ?_)
  refine s_if_ne (tgt := 17) dX11_years_7 (by decide) (fun _ => ?_) (fun _ => ?_)
  · refine s_aload_n 0 dX11_years_10 rfl ?_
    refine s_ldc (v := (-1000000001)) dX11_years_11 wt_263 ?_
    refine n_invV_i dX11_years_13 ok_X11_finding rfl wt_264 wt_266 ws_0 (ci := 0) rfl rfl so_0 (sh_lt so_0 rfl) [.int (-1000000001)] rfl rfl rfl rfl (c_P_finding l G _ _) (fun r3 M4 => ?_)
    exact n_iret dX11_years_16 rfl
  · refine s_aload_n 0 dX11_years_17 rfl ?_
    refine n_getR (x := 8) dX11_years_18 okf_P_50_0 rfl rfl so_0 (sh_lt so_0 rfl) rfl ?_
    refine n_getI dX11_years_21 okf_P_224_8 rfl rfl so_8 (sh_lt so_8 rfl) ?_
    refine s_iload_n 1 dX11_years_24 rfl ?_
    refine s_iadd dX11_years_25 ?_
    refine s_sipush (v := 9999) dX11_years_26 (by decide) ?_
    refine s_icmp_le (tgt := 39) dX11_years_29 (by decide) (fun _ => ?_) (fun _ => ?_)
    · refine s_aload_n 0 dX11_years_39 rfl ?_
      refine n_getR (x := 8) dX11_years_40 okf_P_50_0 rfl rfl so_0 (sh_lt so_0 rfl) rfl ?_
      refine s_iload_n 1 dX11_years_43 rfl ?_
      refine n_invV_u dX11_years_44 ok_X5_goYears rfl wt_561 wt_562 wt_563 (ci := 8) rfl rfl so_8 (sh_lt so_8 rfl) [.int v1] rfl rfl rfl rfl (c_L_goYears l G _ _ so_8 _) (fun r5 M6 => ?_)
      refine s_aload_n 0 dX11_years_47 rfl ?_
      refine n_getR (x := 8) dX11_years_48 okf_P_50_0 rfl rfl so_0 (sh_lt so_0 rfl) rfl ?_
      refine n_invV_i dX11_years_51 ok_X5_cornOfAll rfl wt_579 wt_580 wt_581 (ci := 8) rfl rfl so_8 (sh_lt so_8 rfl) [] rfl rfl rfl rfl (c_L_cornOfAll l G _ so_8 _) (fun r7 M8 => ?_)
      exact n_iret dX11_years_54 rfl
    · refine s_aload_n 0 dX11_years_32 rfl ?_
      refine s_ldc (v := (-1000000005)) dX11_years_33 wt_560 ?_
      refine n_invV_i dX11_years_35 ok_X11_finding rfl wt_264 wt_266 ws_0 (ci := 0) rfl rfl so_0 (sh_lt so_0 rfl) [.int (-1000000005)] rfl rfl rfl rfl (c_P_finding l G _ _) (fun r9 M10 => ?_)
      exact n_iret dX11_years_38 rfl
def f_L_inkOfAll_L4  (c0 : Nat) : Nat → Int32 → Int32 → Nm → Option (Int32 × Nm)
  | 0, _, _, _ => none
  | f + 1, v1, v2, M => if (M.1 c0 2) ≤ v2 then (some (v1, M)) else (grd (inb v2 6) <| f_L_inkOfAll_L4 c0 f (v1 + (M.1 (hnd c0 v2) 2)) (v2 + 1) M)
theorem c_L_inkOfAll_L4 (l : Launch) (G : Gl)  (c0 : Nat) (hc0 : (sh c0).1 = 8)  : ∀ (f : Nat) (v1 : Int32) (v2 : Int32)  (M : Nm), NJ l G Y_X5_inkOfAll (zR 0 0) eI 4 [(0, aR G c0), (1, .int v1), (2, .int v2)] [] M (f_L_inkOfAll_L4 c0 f v1 v2 M) := by
  intro f
  induction f with
  | zero => intro v1 v2 M; exact s_none
  | succ f ih =>
    intro v1 v2 M
    rw [f_L_inkOfAll_L4]
    refine s_iload_n 2 dX5_inkOfAll_4 rfl ?_
    refine s_aload_n 0 dX5_inkOfAll_5 rfl ?_
    refine n_getI dX5_inkOfAll_6 okf_L_36_8 rfl rfl hc0 (sh_lt hc0 rfl) ?_
    refine s_icmp_ge (tgt := 30) dX5_inkOfAll_9 (by decide) (fun _ => ?_) (fun _ => ?_)
    · refine s_iload_n 1 dX5_inkOfAll_30 rfl ?_
      exact n_iret dX5_inkOfAll_31 rfl
    · refine s_iload_n 1 dX5_inkOfAll_12 rfl ?_
      refine s_aload_n 0 dX5_inkOfAll_13 rfl ?_
      refine n_getR (x := (c0 + 1)) dX5_inkOfAll_14 okf_L_11_8 rfl rfl hc0 (sh_lt hc0 rfl) (r_rows hc0) ?_
      refine s_iload_n 2 dX5_inkOfAll_17 rfl ?_
      refine n_aal (x := (hnd c0 v2)) 3 ⟨rfl, rfl⟩ dX5_inkOfAll_18 (ly_rows hc0) (r_hnd hc0) (fun h1 => ?_)
      refine n_getI dX5_inkOfAll_19 okf_L_76_7 rfl rfl (ly_hnd hc0 h1) (sh_lt (ly_hnd hc0 h1) rfl) ?_
      refine s_iadd dX5_inkOfAll_22 ?_
      refine s_istore_n (i := 1) (lv' := [(1, .int (v1 + (M.1 (hnd c0 v2) 2))), (0, aR G c0), (2, .int v2)]) dX5_inkOfAll_23 rfl rfl rfl ?_
      refine s_iinc (v := 1) (lv' := [(2, .int (v2 + 1)), (1, .int (v1 + (M.1 (hnd c0 v2) 2))), (0, aR G c0)]) 2 dX5_inkOfAll_24 rfl (by decide) rfl rfl ?_
      refine s_goto (tgt := 4) dX5_inkOfAll_27 (by decide) ?_
      refine s_lv [2, 1, 0] (lv' := [(0, aR G c0), (1, .int (v1 + (M.1 (hnd c0 v2) 2))), (2, .int (v2 + 1))]) rfl ?_
      exact ih _ _ _
def f_L_inkOfAll (o : Nat) (M : Nm) : Option (Int32 × Nm) := f_L_inkOfAll_L4 o FU 0 0 M
theorem c_L_inkOfAll (l : Launch) (G : Gl) (o : Nat) (ho : (sh o).1 = 8) (M : Nm) : NJ l G Y_X5_inkOfAll (zR 0 0) eI 0 (lv_args 0 [aR G o]) [] M (f_L_inkOfAll o M) := by
  unfold f_L_inkOfAll
  show NJ l G Y_X5_inkOfAll (zR 0 0) eI 0 [(0, aR G o)] [] M _
  refine s_iconst (v := 0) dX5_inkOfAll_0 (by decide) ?_
  refine s_istore_n (i := 1) (lv' := [(1, .int 0), (0, aR G o)]) dX5_inkOfAll_1 rfl rfl rfl ?_
  refine s_iconst (v := 0) dX5_inkOfAll_2 (by decide) ?_
  refine s_istore_n (i := 2) (lv' := [(2, .int 0), (1, .int 0), (0, aR G o)]) dX5_inkOfAll_3 rfl rfl rfl ?_
  refine s_lv [2, 1, 0] (lv' := [(0, aR G o), (1, .int 0), (2, .int 0)]) rfl ?_
  refine c_L_inkOfAll_L4 l G _ ho FU _ _ _
def f_L_handsThatWrite_L4  (c0 : Nat) : Nat → Int32 → Int32 → Nm → Option (Int32 × Nm)
  | 0, _, _, _ => none
  | f + 1, v1, v2, M => if (M.1 c0 2) ≤ v2 then (some (v1, M)) else (grd (inb v2 6) <| bnd (f_H_writes (hnd c0 v2) M) fun r2 M3 => if r2 = 0 then (f_L_handsThatWrite_L4 c0 f v1 (v2 + 1) M3) else (bl (v1 ||| (1 <<< (v2 &&& 31))) fun x4 => f_L_handsThatWrite_L4 c0 f x4 (v2 + 1) M3))
theorem c_L_handsThatWrite_L4 (l : Launch) (G : Gl)  (c0 : Nat) (hc0 : (sh c0).1 = 8)  : ∀ (f : Nat) (v1 : Int32) (v2 : Int32)  (M : Nm), NJ l G Y_X5_handsThatWrite (zR 1 20) eI 4 [(0, aR G c0), (1, .int v1), (2, .int v2)] [] M (f_L_handsThatWrite_L4 c0 f v1 v2 M) := by
  intro f
  induction f with
  | zero => intro v1 v2 M; exact s_none
  | succ f ih =>
    intro v1 v2 M
    rw [f_L_handsThatWrite_L4]
    refine s_iload_n 2 dX5_handsThatWrite_4 rfl ?_
    refine s_aload_n 0 dX5_handsThatWrite_5 rfl ?_
    refine n_getI dX5_handsThatWrite_6 okf_L_36_8 rfl rfl hc0 (sh_lt hc0 rfl) ?_
    refine s_icmp_ge (tgt := 36) dX5_handsThatWrite_9 (by decide) (fun _ => ?_) (fun _ => ?_)
    · refine s_iload_n 1 dX5_handsThatWrite_36 rfl ?_
      exact n_iret dX5_handsThatWrite_37 rfl
    · refine s_aload_n 0 dX5_handsThatWrite_12 rfl ?_
      refine n_getR (x := (c0 + 1)) dX5_handsThatWrite_13 okf_L_11_8 rfl rfl hc0 (sh_lt hc0 rfl) (r_rows hc0) ?_
      refine s_iload_n 2 dX5_handsThatWrite_16 rfl ?_
      refine n_aal (x := (hnd c0 v2)) 3 ⟨rfl, rfl⟩ dX5_handsThatWrite_17 (ly_rows hc0) (r_hnd hc0) (fun h1 => ?_)
      refine n_invV_i dX5_handsThatWrite_18 ok_X2_writes rfl wt_321 wt_322 wt_323 (ci := 7) rfl rfl (ly_hnd hc0 h1) (sh_lt (ly_hnd hc0 h1) rfl) [] rfl rfl rfl rfl (c_H_writes l G _ (ly_hnd hc0 h1) _) (fun r2 M3 => ?_)
      refine s_if_eq (tgt := 30) dX5_handsThatWrite_21 (by decide) (fun _ => ?_) (fun _ => ?_)
      · refine s_iinc (v := 1) (lv' := [(2, .int (v2 + 1)), (0, aR G c0), (1, .int v1)]) 2 dX5_handsThatWrite_30 rfl (by decide) rfl rfl ?_
        refine s_goto (tgt := 4) dX5_handsThatWrite_33 (by decide) ?_
        refine s_lv [1, 2, 0] (lv' := [(0, aR G c0), (1, .int v1), (2, .int (v2 + 1))]) rfl ?_
        exact ih _ _ _
      · refine s_iload_n 1 dX5_handsThatWrite_24 rfl ?_
        refine s_iconst (v := 1) dX5_handsThatWrite_25 (by decide) ?_
        refine s_iload_n 2 dX5_handsThatWrite_26 rfl ?_
        refine s_ishl dX5_handsThatWrite_27 ?_
        refine s_ior dX5_handsThatWrite_28 ?_
        refine s_topi (fun x4 => ?_)
        refine s_istore_n (i := 1) (lv' := [(1, .int x4), (0, aR G c0), (2, .int v2)]) dX5_handsThatWrite_29 rfl rfl rfl ?_
        refine s_iinc (v := 1) (lv' := [(2, .int (v2 + 1)), (1, .int x4), (0, aR G c0)]) 2 dX5_handsThatWrite_30 rfl (by decide) rfl rfl ?_
        refine s_goto (tgt := 4) dX5_handsThatWrite_33 (by decide) ?_
        refine s_lv [2, 1, 0] (lv' := [(0, aR G c0), (1, .int x4), (2, .int (v2 + 1))]) rfl ?_
        exact ih _ _ _
def f_L_handsThatWrite (o : Nat) (M : Nm) : Option (Int32 × Nm) := f_L_handsThatWrite_L4 o FU 0 0 M
theorem c_L_handsThatWrite (l : Launch) (G : Gl) (o : Nat) (ho : (sh o).1 = 8) (M : Nm) : NJ l G Y_X5_handsThatWrite (zR 1 20) eI 0 (lv_args 0 [aR G o]) [] M (f_L_handsThatWrite o M) := by
  unfold f_L_handsThatWrite
  show NJ l G Y_X5_handsThatWrite (zR 1 20) eI 0 [(0, aR G o)] [] M _
  refine s_iconst (v := 0) dX5_handsThatWrite_0 (by decide) ?_
  refine s_istore_n (i := 1) (lv' := [(1, .int 0), (0, aR G o)]) dX5_handsThatWrite_1 rfl rfl rfl ?_
  refine s_iconst (v := 0) dX5_handsThatWrite_2 (by decide) ?_
  refine s_istore_n (i := 2) (lv' := [(2, .int 0), (1, .int 0), (0, aR G o)]) dX5_handsThatWrite_3 rfl rfl rfl ?_
  refine s_lv [2, 1, 0] (lv' := [(0, aR G o), (1, .int 0), (2, .int 0)]) rfl ?_
  refine c_L_handsThatWrite_L4 l G _ ho FU _ _ _
def f_P_now (v1 : Int32) (M : Nm) : Option (Int32 × Nm) := if v1 = 0 then (some (M.1 8 1, M)) else if v1 = 1 then (bnd (f_L_cornOfAll 8 M) fun r3 M4 => some (r3, M4)) else if v1 = 2 then (bnd (f_L_inkOfAll 8 M) fun r6 M7 => some (r6, M7)) else if v1 = 3 then (bnd (f_L_handsThatWrite 8 M) fun r9 M10 => some (r9, M10)) else if v1 = 4 then (bnd (f_Jl_bitCount (M.2.1 8 0) M) fun r12 M13 => some (r12, M13)) else (bnd (f_P_finding (-1000000001) M) fun r14 M15 => some (r14, M15))
theorem c_P_now (l : Launch) (G : Gl) (v1 : Int32)  (M : Nm) : NJ l G Y_X11_now (zR 2 42) eI 0 (lv_args 0 [aR G 0, .int v1]) [] M (f_P_now v1 M) := by
  unfold f_P_now
  show NJ l G Y_X11_now (zR 2 42) eI 0 [(0, aR G 0), (1, .int v1)] [] M _
  refine s_iload_n 1 dX11_now_0 rfl ?_
  refine s_ite (fun h1 => ?_) (fun h1 => ?_)
  · refine s_tin (tgt := 36) dX11_now_1 (by rw [h1]; decide) (by rw [h1]; decide) (by rw [h1]; rfl) (by decide) ?_
    refine s_aload_n 0 dX11_now_36 rfl ?_
    refine n_getR (x := 8) dX11_now_37 okf_P_50_0 rfl rfl so_0 (sh_lt so_0 rfl) rfl ?_
    refine n_getI dX11_now_40 okf_P_224_8 rfl rfl so_8 (sh_lt so_8 rfl) ?_
    exact n_iret dX11_now_43 rfl
  refine s_ite (fun h2 => ?_) (fun h2 => ?_)
  · refine s_tin (tgt := 44) dX11_now_1 (by rw [h2]; decide) (by rw [h2]; decide) (by rw [h2]; rfl) (by decide) ?_
    refine s_aload_n 0 dX11_now_44 rfl ?_
    refine n_getR (x := 8) dX11_now_45 okf_P_50_0 rfl rfl so_0 (sh_lt so_0 rfl) rfl ?_
    refine n_invV_i dX11_now_48 ok_X5_cornOfAll rfl wt_579 wt_580 wt_581 (ci := 8) rfl rfl so_8 (sh_lt so_8 rfl) [] rfl rfl rfl rfl (c_L_cornOfAll l G _ so_8 _) (fun r3 M4 => ?_)
    exact n_iret dX11_now_51 rfl
  refine s_ite (fun h5 => ?_) (fun h5 => ?_)
  · refine s_tin (tgt := 52) dX11_now_1 (by rw [h5]; decide) (by rw [h5]; decide) (by rw [h5]; rfl) (by decide) ?_
    refine s_aload_n 0 dX11_now_52 rfl ?_
    refine n_getR (x := 8) dX11_now_53 okf_P_50_0 rfl rfl so_0 (sh_lt so_0 rfl) rfl ?_
    refine n_invV_i dX11_now_56 ok_X5_inkOfAll rfl wt_587 wt_588 wt_589 (ci := 8) rfl rfl so_8 (sh_lt so_8 rfl) [] rfl rfl rfl rfl (c_L_inkOfAll l G _ so_8 _) (fun r6 M7 => ?_)
    exact n_iret dX11_now_59 rfl
  refine s_ite (fun h8 => ?_) (fun h8 => ?_)
  · refine s_tin (tgt := 60) dX11_now_1 (by rw [h8]; decide) (by rw [h8]; decide) (by rw [h8]; rfl) (by decide) ?_
    refine s_aload_n 0 dX11_now_60 rfl ?_
    refine n_getR (x := 8) dX11_now_61 okf_P_50_0 rfl rfl so_0 (sh_lt so_0 rfl) rfl ?_
    refine n_invV_i dX11_now_64 ok_X5_handsThatWrite rfl wt_591 wt_592 wt_593 (ci := 8) rfl rfl so_8 (sh_lt so_8 rfl) [] rfl rfl rfl rfl (c_L_handsThatWrite l G _ so_8 _) (fun r9 M10 => ?_)
    exact n_iret dX11_now_67 rfl
  refine s_ite (fun h11 => ?_) (fun h11 => ?_)
  · refine s_tin (tgt := 68) dX11_now_1 (by rw [h11]; decide) (by rw [h11]; decide) (by rw [h11]; rfl) (by decide) ?_
    refine s_aload_n 0 dX11_now_68 rfl ?_
    refine n_getR (x := 8) dX11_now_69 okf_P_50_0 rfl rfl so_0 (sh_lt so_0 rfl) rfl ?_
    refine n_getL dX11_now_72 okf_P_91_8 rfl rfl so_8 (sh_lt so_8 rfl) ?_
    refine n_invS_i dX11_now_75 ok_J13_bitCount_95d88 rfl wt_595 wt_443 [.long (M.2.1 8 0)] rfl rfl rfl rfl (c_Jl_bitCount l G _ _) (fun r12 M13 => ?_)
    exact n_iret dX11_now_78 rfl
  refine s_tout (tgt := 79) dX11_now_1 (sw_out (fun k h1 h2 => by rcases (show k = 0 ∨ k = 1 ∨ k = 2 ∨ k = 3 ∨ k = 4 by omega) with rfl | rfl | rfl | rfl | rfl <;> assumption)) (by decide) ?_
  refine s_aload_n 0 dX11_now_79 rfl ?_
  refine s_ldc (v := (-1000000001)) dX11_now_80 wt_263 ?_
  refine n_invV_i dX11_now_82 ok_X11_finding rfl wt_264 wt_266 ws_0 (ci := 0) rfl rfl so_0 (sh_lt so_0 rfl) [.int (-1000000001)] rfl rfl rfl rfl (c_P_finding l G _ _) (fun r14 M15 => ?_)
  exact n_iret dX11_now_85 rfl
def f_H_takeFrom (o : Nat) (c1 : Nat) (M : Nm) : Option (Unit × Nm) := bl (mK M o (M.2.2 c1)) fun M1 => bl (mI M1 o 1 (M1.1 c1 1)) fun M2 => bl (mI M2 o 2 (M2.1 c1 2)) fun M3 => bl (mI M3 o 3 (M3.1 c1 3)) fun M4 => bl (mI M4 o 4 (M4.1 c1 4)) fun M5 => grd (inc 0 8 8 && inc 0 8 8) <| bl (mCi M5 (c1 + 1) 0 (o + 1) 0 8) fun M6 => grd (inc 0 8 8 && inc 0 8 8) <| bl (mCi M6 (c1 + 2) 0 (o + 2) 0 8) fun M7 => bl (mL M7 o 7 (M7.2.1 c1 7)) fun M8 => bl (mI M8 o 8 (M8.1 c1 8)) fun M9 => bl (mL M9 o 9 (M9.2.1 c1 9)) fun M10 => bl (mL M10 o 10 (M10.2.1 c1 10)) fun M11 => some ((), M11)
theorem c_H_takeFrom (l : Launch) (G : Gl) (o : Nat) (c1 : Nat) (ho : (sh o).1 = 7) (hc1 : (sh c1).1 = 7) (M : Nm) : NJ l G Y_X2_takeFrom (zR 1 40) eU 0 (lv_args 0 [aR G o, aR G c1]) [] M (f_H_takeFrom o c1 M) := by
  unfold f_H_takeFrom
  show NJ l G Y_X2_takeFrom (zR 1 40) eU 0 [(0, aR G o), (1, aR G c1)] [] M _
  refine s_aload_n 0 dX2_takeFrom_0 rfl ?_
  refine s_aload_n 1 dX2_takeFrom_1 rfl ?_
  refine n_getR (x := (M.2.2 c1)) dX2_takeFrom_2 okf_H_9_7 rfl rfl hc1 (sh_lt hc1 rfl) (r_kind hc1) ?_
  refine n_putK dX2_takeFrom_5 okp_H_9_7 ho ?_
  refine s_topM (fun M1 => ?_)
  refine s_aload_n 0 dX2_takeFrom_8 rfl ?_
  refine s_aload_n 1 dX2_takeFrom_9 rfl ?_
  refine n_getI dX2_takeFrom_10 okf_H_22_7 rfl rfl hc1 (sh_lt hc1 rfl) ?_
  refine n_putI dX2_takeFrom_13 okp_H_22_7 rfl rfl ho (sh_lt ho rfl) ?_
  refine s_topM (fun M2 => ?_)
  refine s_aload_n 0 dX2_takeFrom_16 rfl ?_
  refine s_aload_n 1 dX2_takeFrom_17 rfl ?_
  refine n_getI dX2_takeFrom_18 okf_H_26_7 rfl rfl hc1 (sh_lt hc1 rfl) ?_
  refine n_putI dX2_takeFrom_21 okp_H_26_7 rfl rfl ho (sh_lt ho rfl) ?_
  refine s_topM (fun M3 => ?_)
  refine s_aload_n 0 dX2_takeFrom_24 rfl ?_
  refine s_aload_n 1 dX2_takeFrom_25 rfl ?_
  refine n_getI dX2_takeFrom_26 okf_H_29_7 rfl rfl hc1 (sh_lt hc1 rfl) ?_
  refine n_putI dX2_takeFrom_29 okp_H_29_7 rfl rfl ho (sh_lt ho rfl) ?_
  refine s_topM (fun M4 => ?_)
  refine s_aload_n 0 dX2_takeFrom_32 rfl ?_
  refine s_aload_n 1 dX2_takeFrom_33 rfl ?_
  refine n_getI dX2_takeFrom_34 okf_H_32_7 rfl rfl hc1 (sh_lt hc1 rfl) ?_
  refine n_putI dX2_takeFrom_37 okp_H_32_7 rfl rfl ho (sh_lt ho rfl) ?_
  refine s_topM (fun M5 => ?_)
  refine s_aload_n 1 dX2_takeFrom_40 rfl ?_
  refine n_getR (x := (c1 + 1)) dX2_takeFrom_41 okf_H_15_7 rfl rfl hc1 (sh_lt hc1 rfl) (r_ways hc1) ?_
  refine s_iconst (v := 0) dX2_takeFrom_44 (by decide) ?_
  refine s_aload_n 0 dX2_takeFrom_45 rfl ?_
  refine n_getR (x := (o + 1)) dX2_takeFrom_46 okf_H_15_7 rfl rfl ho (sh_lt ho rfl) (r_ways ho) ?_
  refine s_iconst (v := 0) dX2_takeFrom_49 (by decide) ?_
  refine s_bipush (v := 8) dX2_takeFrom_50 (by decide) ?_
  refine n_copyi dX2_takeFrom_52 wt_612 wt_614 wt_613 wt_16 (ly_ways hc1) (ly_ways ho) rfl ⟨by decide, by decide⟩ ?_
  refine s_topM (fun M6 => ?_)
  refine s_aload_n 1 dX2_takeFrom_55 rfl ?_
  refine n_getR (x := (c1 + 2)) dX2_takeFrom_56 okf_H_19_7 rfl rfl hc1 (sh_lt hc1 rfl) (r_lens hc1) ?_
  refine s_iconst (v := 0) dX2_takeFrom_59 (by decide) ?_
  refine s_aload_n 0 dX2_takeFrom_60 rfl ?_
  refine n_getR (x := (o + 2)) dX2_takeFrom_61 okf_H_19_7 rfl rfl ho (sh_lt ho rfl) (r_lens ho) ?_
  refine s_iconst (v := 0) dX2_takeFrom_64 (by decide) ?_
  refine s_bipush (v := 8) dX2_takeFrom_65 (by decide) ?_
  refine n_copyi dX2_takeFrom_67 wt_612 wt_614 wt_613 wt_16 (ly_lens hc1) (ly_lens ho) rfl ⟨by decide, by decide⟩ ?_
  refine s_topM (fun M7 => ?_)
  refine s_aload_n 0 dX2_takeFrom_70 rfl ?_
  refine s_aload_n 1 dX2_takeFrom_71 rfl ?_
  refine n_getL dX2_takeFrom_72 okf_H_41_7 rfl rfl hc1 (sh_lt hc1 rfl) ?_
  refine n_putL dX2_takeFrom_75 okp_H_41_7 rfl rfl ho (sh_lt ho rfl) ?_
  refine s_topM (fun M8 => ?_)
  refine s_aload_n 0 dX2_takeFrom_78 rfl ?_
  refine s_aload_n 1 dX2_takeFrom_79 rfl ?_
  refine n_getI dX2_takeFrom_80 okf_H_45_7 rfl rfl hc1 (sh_lt hc1 rfl) ?_
  refine n_putI dX2_takeFrom_83 okp_H_45_7 rfl rfl ho (sh_lt ho rfl) ?_
  refine s_topM (fun M9 => ?_)
  refine s_aload_n 0 dX2_takeFrom_86 rfl ?_
  refine s_aload_n 1 dX2_takeFrom_87 rfl ?_
  refine n_getL dX2_takeFrom_88 okf_H_54_7 rfl rfl hc1 (sh_lt hc1 rfl) ?_
  refine n_putL dX2_takeFrom_91 okp_H_54_7 rfl rfl ho (sh_lt ho rfl) ?_
  refine s_topM (fun M10 => ?_)
  refine s_aload_n 0 dX2_takeFrom_94 rfl ?_
  refine s_aload_n 1 dX2_takeFrom_95 rfl ?_
  refine n_getL dX2_takeFrom_96 okf_H_57_7 rfl rfl hc1 (sh_lt hc1 rfl) ?_
  refine n_putL dX2_takeFrom_99 okp_H_57_7 rfl rfl ho (sh_lt ho rfl) ?_
  refine s_topM (fun M11 => ?_)
  exact n_vret dX2_takeFrom_102 rfl
def f_L_takeFrom_L26 (k64 : Nm → Option (Unit × Nm)) (c0 : Nat) (c1 : Nat) : Nat → Int32 → Nm → Option (Unit × Nm)
  | 0, _, _ => none
  | f + 1, v2, M => if (M.1 c0 2) ≤ v2 then (k64 M) else (if (nI 6) ≤ v2 then (k64 M) else (grd (inb v2 6) <| grd (inb v2 6) <| bnd (f_H_takeFrom (hnd c0 v2) (hnd c1 v2) M) fun r6 M7 => f_L_takeFrom_L26 k64 c0 c1 f (v2 + 1) M7))
theorem c_L_takeFrom_L26 (l : Launch) (G : Gl) {k64 : Nm → Option (Unit × Nm)} (c0 : Nat) (c1 : Nat) (hc0 : (sh c0).1 = 8) (hc1 : (sh c1).1 = 8) (hk64 : ∀   (M : Nm), NJ l G Y_X5_takeFrom (zR 2 61) eU 64 [] [] M (k64 M)) : ∀ (f : Nat) (v2 : Int32)  (M : Nm), NJ l G Y_X5_takeFrom (zR 2 61) eU 26 [(0, aR G c0), (1, aR G c1), (2, .int v2)] [] M (f_L_takeFrom_L26 k64 c0 c1 f v2 M) := by
  intro f
  induction f with
  | zero => intro v2 M; exact s_none
  | succ f ih =>
    intro v2 M
    rw [f_L_takeFrom_L26]
    refine s_iload_n 2 dX5_takeFrom_26 rfl ?_
    refine s_aload_n 0 dX5_takeFrom_27 rfl ?_
    refine n_getI dX5_takeFrom_28 okf_L_36_8 rfl rfl hc0 (sh_lt hc0 rfl) ?_
    refine s_icmp_ge (tgt := 64) dX5_takeFrom_31 (by decide) (fun _ => ?_) (fun _ => ?_)
    · refine s_lv [] (lv' := []) rfl ?_
      exact hk64 _
    · refine s_iload_n 2 dX5_takeFrom_34 rfl ?_
      refine s_aload_n 0 dX5_takeFrom_35 rfl ?_
      refine n_getR (x := (c0 + 1)) dX5_takeFrom_36 okf_L_11_8 rfl rfl hc0 (sh_lt hc0 rfl) (r_rows hc0) ?_
      refine n_len 3 dX5_takeFrom_39 rfl (ly_rows hc0) ?_
      refine s_icmp_ge (tgt := 64) dX5_takeFrom_40 (by decide) (fun _ => ?_) (fun _ => ?_)
      · refine s_lv [] (lv' := []) rfl ?_
        exact hk64 _
      · refine s_aload_n 0 dX5_takeFrom_43 rfl ?_
        refine n_getR (x := (c0 + 1)) dX5_takeFrom_44 okf_L_11_8 rfl rfl hc0 (sh_lt hc0 rfl) (r_rows hc0) ?_
        refine s_iload_n 2 dX5_takeFrom_47 rfl ?_
        refine n_aal (x := (hnd c0 v2)) 3 ⟨rfl, rfl⟩ dX5_takeFrom_48 (ly_rows hc0) (r_hnd hc0) (fun h4 => ?_)
        refine s_aload_n 1 dX5_takeFrom_49 rfl ?_
        refine n_getR (x := (c1 + 1)) dX5_takeFrom_50 okf_L_11_8 rfl rfl hc1 (sh_lt hc1 rfl) (r_rows hc1) ?_
        refine s_iload_n 2 dX5_takeFrom_53 rfl ?_
        refine n_aal (x := (hnd c1 v2)) 3 ⟨rfl, rfl⟩ dX5_takeFrom_54 (ly_rows hc1) (r_hnd hc1) (fun h5 => ?_)
        refine n_invV_u dX5_takeFrom_55 ok_X2_takeFrom rfl wt_608 wt_609 wt_610 (ci := 7) rfl rfl (ly_hnd hc0 h4) (sh_lt (ly_hnd hc0 h4) rfl) [aR G (hnd c1 v2)] rfl rfl rfl rfl (c_H_takeFrom l G _ _ (ly_hnd hc0 h4) (ly_hnd hc1 h5) _) (fun r6 M7 => ?_)
        refine s_iinc (v := 1) (lv' := [(2, .int (v2 + 1)), (0, aR G c0), (1, aR G c1)]) 2 dX5_takeFrom_58 rfl (by decide) rfl rfl ?_
        refine s_goto (tgt := 26) dX5_takeFrom_61 (by decide) ?_
        refine s_lv [1, 2, 0] (lv' := [(0, aR G c0), (1, aR G c1), (2, .int (v2 + 1))]) rfl ?_
        exact ih _ _
def f_L_takeFrom (o : Nat) (c1 : Nat) (M : Nm) : Option (Unit × Nm) := bl (mL M o 0 (M.2.1 c1 0)) fun M1 => bl (mI M1 o 1 (M1.1 c1 1)) fun M2 => bl (mI M2 o 2 (M2.1 c1 2)) fun M3 => f_L_takeFrom_L26 (fun M8 => some ((), M8)) o c1 FU 0 M3
theorem c_L_takeFrom (l : Launch) (G : Gl) (o : Nat) (c1 : Nat) (ho : (sh o).1 = 8) (hc1 : (sh c1).1 = 8) (M : Nm) : NJ l G Y_X5_takeFrom (zR 2 61) eU 0 (lv_args 0 [aR G o, aR G c1]) [] M (f_L_takeFrom o c1 M) := by
  unfold f_L_takeFrom
  show NJ l G Y_X5_takeFrom (zR 2 61) eU 0 [(0, aR G o), (1, aR G c1)] [] M _
  refine s_aload_n 0 dX5_takeFrom_0 rfl ?_
  refine s_aload_n 1 dX5_takeFrom_1 rfl ?_
  refine n_getL dX5_takeFrom_2 okf_L_28_8 rfl rfl hc1 (sh_lt hc1 rfl) ?_
  refine n_putL dX5_takeFrom_5 okp_L_28_8 rfl rfl ho (sh_lt ho rfl) ?_
  refine s_topM (fun M1 => ?_)
  refine s_aload_n 0 dX5_takeFrom_8 rfl ?_
  refine s_aload_n 1 dX5_takeFrom_9 rfl ?_
  refine n_getI dX5_takeFrom_10 okf_L_32_8 rfl rfl hc1 (sh_lt hc1 rfl) ?_
  refine n_putI dX5_takeFrom_13 okp_L_32_8 rfl rfl ho (sh_lt ho rfl) ?_
  refine s_topM (fun M2 => ?_)
  refine s_aload_n 0 dX5_takeFrom_16 rfl ?_
  refine s_aload_n 1 dX5_takeFrom_17 rfl ?_
  refine n_getI dX5_takeFrom_18 okf_L_36_8 rfl rfl hc1 (sh_lt hc1 rfl) ?_
  refine n_putI dX5_takeFrom_21 okp_L_36_8 rfl rfl ho (sh_lt ho rfl) ?_
  refine s_topM (fun M3 => ?_)
  refine s_iconst (v := 0) dX5_takeFrom_24 (by decide) ?_
  refine s_istore_n (i := 2) (lv' := [(2, .int 0), (0, aR G o), (1, aR G c1)]) dX5_takeFrom_25 rfl rfl rfl ?_
  refine s_lv [1, 2, 0] (lv' := [(0, aR G o), (1, aR G c1), (2, .int 0)]) rfl ?_
  refine c_L_takeFrom_L26 l G _ _ ho hc1 (fun M8 => ?_) FU _ _
  exact n_vret dX5_takeFrom_64 rfl
def f_P_onTrial (v1 : Int32) (M : Nm) : Option ((Option Nat) × Nm) := bnd (f_L_handOf 8 v1 M) fun r1 M2 => ifn r1 (some (none, M2)) fun p3 => grd (isb 7 p3) <| bnd (f_L_takeFrom 30 8 M2) fun r5 M6 => bnd (f_L_handOf 30 v1 M6) fun r7 M8 => ifn r7 (some (none, M8)) fun p9 => grd (isb 7 p9) <| some (some p9, M8)
theorem c_P_onTrial (l : Launch) (G : Gl) (v1 : Int32)  (M : Nm) : NJ l G Y_X11_onTrial (zR 3 83) (eR G) 0 (lv_args 0 [aR G 0, .int v1]) [] M (f_P_onTrial v1 M) := by
  unfold f_P_onTrial
  show NJ l G Y_X11_onTrial (zR 3 83) (eR G) 0 [(0, aR G 0), (1, .int v1)] [] M _
  refine s_aload_n 0 dX11_onTrial_0 rfl ?_
  refine n_getR (x := 8) dX11_onTrial_1 okf_P_50_0 rfl rfl so_0 (sh_lt so_0 rfl) rfl ?_
  refine s_iload_n 1 dX11_onTrial_4 rfl ?_
  refine n_invV_r dX11_onTrial_5 ok_X5_handOf rfl wt_370 wt_371 wt_372 (ci := 8) rfl rfl so_8 (sh_lt so_8 rfl) [.int v1] rfl rfl rfl rfl (c_L_handOf l G _ _ so_8 _) (fun r1 M2 => ?_)
  refine s_split ?_ (fun p3 => ?_)
  · refine s_ifnonnullN dX11_onTrial_8 ?_
    refine s_null dX11_onTrial_11 ?_
    exact n_aretN dX11_onTrial_12 rfl
  · refine s_grd (fun h4 => ?_)
    refine s_ifnonnullS (tgt := 13) dX11_onTrial_8 (by decide) ?_
    refine s_aload_n 0 dX11_onTrial_13 rfl ?_
    refine n_getR (x := 30) dX11_onTrial_14 okf_P_54_0 rfl rfl so_0 (sh_lt so_0 rfl) rfl ?_
    refine s_aload_n 0 dX11_onTrial_17 rfl ?_
    refine n_getR (x := 8) dX11_onTrial_18 okf_P_50_0 rfl rfl so_0 (sh_lt so_0 rfl) rfl ?_
    refine n_invV_u dX11_onTrial_21 ok_X5_takeFrom rfl wt_604 wt_605 wt_606 (ci := 8) rfl rfl so_30 (sh_lt so_30 rfl) [aR G 8] rfl rfl rfl rfl (c_L_takeFrom l G _ _ so_30 so_8 _) (fun r5 M6 => ?_)
    refine s_aload_n 0 dX11_onTrial_24 rfl ?_
    refine n_getR (x := 30) dX11_onTrial_25 okf_P_54_0 rfl rfl so_0 (sh_lt so_0 rfl) rfl ?_
    refine s_iload_n 1 dX11_onTrial_28 rfl ?_
    refine n_invV_r dX11_onTrial_29 ok_X5_handOf rfl wt_370 wt_371 wt_372 (ci := 8) rfl rfl so_30 (sh_lt so_30 rfl) [.int v1] rfl rfl rfl rfl (c_L_handOf l G _ _ so_30 _) (fun r7 M8 => ?_)
    refine s_split ?_ (fun p9 => ?_)
    · exact n_aretN dX11_onTrial_32 rfl
    · refine s_grd (fun h10 => ?_)
      exact n_aret dX11_onTrial_32 rfl
def f_P_isYearsOn (v0 : Int32) (M : Nm) : Option (Int32 × Nm) := bnd (f_P_within v0 0 60 M) fun r1 M2 => grd (decide (r1 = 0) || decide (r1 = 1)) (some (r1, M2))
theorem c_P_isYearsOn (l : Launch) (G : Gl) (v0 : Int32)  (M : Nm) : NJ l G Y_X11_isYearsOn (zR 1 22) eI 0 (lv_args 0 [.int v0]) [] M (f_P_isYearsOn v0 M) := by
  unfold f_P_isYearsOn
  show NJ l G Y_X11_isYearsOn (zR 1 22) eI 0 [(0, .int v0)] [] M _
  refine s_iload_n 0 dX11_isYearsOn_0 rfl ?_
  refine s_iconst (v := 0) dX11_isYearsOn_1 (by decide) ?_
  refine s_bipush (v := 60) dX11_isYearsOn_2 (by decide) ?_
  refine n_invS_i dX11_isYearsOn_4 ok_X11_within rfl wt_260 wt_261 [.int v0, .int 0, .int 60] rfl rfl rfl rfl (c_P_within l G _ _ _ _) (fun r1 M2 => ?_)
  exact n_zretB dX11_isYearsOn_7 rfl
def f_P_on (v1 : Int32) (v2 : Int32) (v3 : Int32) (M : Nm) : Option (Int32 × Nm) := bnd (f_P_onTrial v1 M) fun r1 M2 => ifn r1 (bnd (f_P_finding (-1000000001) M2) fun r5 M6 => some (r5, M6)) fun p3 => grd (isb 7 p3) <| bnd (f_P_isYearsOn v2 M2) fun r7 M8 => if r7 = 0 then (bnd (f_P_finding (-1000000001) M8) fun r9 M10 => some (r9, M10)) else (bnd (f_P_within v3 0 2 M8) fun r11 M12 => if r11 = 0 then (bnd (f_P_finding (-1000000001) M12) fun r13 M14 => some (r13, M14)) else (bnd (f_L_goYears 30 v2 M12) fun r15 M16 => if v3 = 0 then (some (M16.1 p3 2, M16)) else (if v3 = 1 then (some (M16.1 p3 3, M16)) else (bnd (f_L_howManyOwnedBy 30 v1 M16) fun r17 M18 => some (r17, M18)))))
theorem c_P_on (l : Launch) (G : Gl) (v1 : Int32) (v2 : Int32) (v3 : Int32)  (M : Nm) : NJ l G Y_X11_on (zR 6 143) eI 0 (lv_args 0 [aR G 0, .int v1, .int v2, .int v3]) [] M (f_P_on v1 v2 v3 M) := by
  unfold f_P_on
  show NJ l G Y_X11_on (zR 6 143) eI 0 [(0, aR G 0), (1, .int v1), (2, .int v2), (3, .int v3)] [] M _
  refine s_aload_n 0 dX11_on_0 rfl ?_
  refine s_iload_n 1 dX11_on_1 rfl ?_
  refine n_invV_r dX11_on_2 ok_X11_onTrial rfl wt_600 wt_602 ws_4 (ci := 0) rfl rfl so_0 (sh_lt so_0 rfl) [.int v1] rfl rfl rfl rfl (c_P_onTrial l G _ _) (fun r1 M2 => ?_)
  refine s_split ?_ (fun p3 => ?_)
  · refine s_astoreN (lv' := [(4, .null), (0, aR G 0), (1, .int v1), (2, .int v2), (3, .int v3)]) dX11_on_5 rfl rfl ?_
    refine s_aloadN 0 dX11_on_7 rfl ?_
    refine s_ifnullN (tgt := 28) dX11_on_9 (by decide) ?_
    refine s_aload_n 1 dX11_on_28 rfl ?_
    refine s_ldc (v := (-1000000001)) dX11_on_29 wt_263 ?_
    refine n_invV_i dX11_on_31 ok_X11_finding rfl wt_264 wt_266 ws_0 (ci := 0) rfl rfl so_0 (sh_lt so_0 rfl) [.int (-1000000001)] rfl rfl rfl rfl (c_P_finding l G _ _) (fun r5 M6 => ?_)
    exact n_iret dX11_on_34 rfl
  · refine s_grd (fun h4 => ?_)
    refine s_astore (lv' := [(4, aR G p3), (0, aR G 0), (1, .int v1), (2, .int v2), (3, .int v3)]) dX11_on_5 rfl rfl ?_
    refine s_aload 0 dX11_on_7 rfl ?_
    refine s_ifnullS dX11_on_9 ?_
    refine s_iload_n 3 dX11_on_12 rfl ?_
    refine n_invS_i dX11_on_13 ok_X11_isYearsOn rfl wt_615 wt_616 [.int v2] rfl rfl rfl rfl (c_P_isYearsOn l G _ _) (fun r7 M8 => ?_)
    refine s_if_eq (tgt := 28) dX11_on_16 (by decide) (fun _ => ?_) (fun _ => ?_)
    · refine s_aload_n 1 dX11_on_28 rfl ?_
      refine s_ldc (v := (-1000000001)) dX11_on_29 wt_263 ?_
      refine n_invV_i dX11_on_31 ok_X11_finding rfl wt_264 wt_266 ws_0 (ci := 0) rfl rfl so_0 (sh_lt so_0 rfl) [.int (-1000000001)] rfl rfl rfl rfl (c_P_finding l G _ _) (fun r9 M10 => ?_)
      exact n_iret dX11_on_34 rfl
    · refine s_iload_n 4 dX11_on_19 rfl ?_
      refine s_iconst (v := 0) dX11_on_20 (by decide) ?_
      refine s_iconst (v := 2) dX11_on_21 (by decide) ?_
      refine n_invS_i dX11_on_22 ok_X11_within rfl wt_260 wt_261 [.int v3, .int 0, .int 2] rfl rfl rfl rfl (c_P_within l G _ _ _ _) (fun r11 M12 => ?_)
      refine s_if_ne (tgt := 35) dX11_on_25 (by decide) (fun _ => ?_) (fun _ => ?_)
      · refine s_aload_n 1 dX11_on_28 rfl ?_
        refine s_ldc (v := (-1000000001)) dX11_on_29 wt_263 ?_
        refine n_invV_i dX11_on_31 ok_X11_finding rfl wt_264 wt_266 ws_0 (ci := 0) rfl rfl so_0 (sh_lt so_0 rfl) [.int (-1000000001)] rfl rfl rfl rfl (c_P_finding l G _ _) (fun r13 M14 => ?_)
        exact n_iret dX11_on_34 rfl
      · refine s_aload_n 1 dX11_on_35 rfl ?_
        refine n_getR (x := 30) dX11_on_36 okf_P_54_0 rfl rfl so_0 (sh_lt so_0 rfl) rfl ?_
        refine s_iload_n 3 dX11_on_39 rfl ?_
        refine n_invV_u dX11_on_40 ok_X5_goYears rfl wt_561 wt_562 wt_563 (ci := 8) rfl rfl so_30 (sh_lt so_30 rfl) [.int v2] rfl rfl rfl rfl (c_L_goYears l G _ _ so_30 _) (fun r15 M16 => ?_)
        refine s_iload_n 4 dX11_on_43 rfl ?_
        refine s_if_ne (tgt := 53) dX11_on_44 (by decide) (fun _ => ?_) (fun _ => ?_)
        · refine s_aload 0 dX11_on_47 rfl ?_
          refine n_getI dX11_on_49 okf_P_163_7 rfl rfl (isb_1 h4) (sh_lt (isb_1 h4) rfl) ?_
          exact n_iret dX11_on_52 rfl
        · refine s_iload_n 4 dX11_on_53 rfl ?_
          refine s_iconst (v := 1) dX11_on_54 (by decide) ?_
          refine s_icmp_ne (tgt := 66) dX11_on_55 (by decide) (fun _ => ?_) (fun _ => ?_)
          · refine s_aload 0 dX11_on_58 rfl ?_
            refine n_getI dX11_on_60 okf_P_166_7 rfl rfl (isb_1 h4) (sh_lt (isb_1 h4) rfl) ?_
            refine s_goto (tgt := 74) dX11_on_63 (by decide) ?_
            exact n_iret dX11_on_74 rfl
          · refine s_aload_n 1 dX11_on_66 rfl ?_
            refine n_getR (x := 30) dX11_on_67 okf_P_54_0 rfl rfl so_0 (sh_lt so_0 rfl) rfl ?_
            refine s_iload_n 2 dX11_on_70 rfl ?_
            refine n_invV_i dX11_on_71 ok_X5_howManyOwnedBy rfl wt_448 wt_449 wt_450 (ci := 8) rfl rfl so_30 (sh_lt so_30 rfl) [.int v1] rfl rfl rfl rfl (c_L_howManyOwnedBy l G _ _ so_30 _) (fun r17 M18 => ?_)
            exact n_iret dX11_on_74 rfl
def f_P_dry_L19  (c2 : Nat) : Nat → Int32 → Nm → Option (Int32 × Nm)
  | 0, _, _ => none
  | f + 1, v3, M => if 60 < v3 then (bnd (f_P_finding (-1000000004) M) fun r7 M8 => some (r7, M8)) else (bnd (f_H_writes c2 M) fun r9 M10 => if r9 = 0 then (some (v3, M10)) else (bnd (f_L_goYear 30 M10) fun r11 M12 => f_P_dry_L19 c2 f (v3 + 1) M12))
theorem c_P_dry_L19 (l : Launch) (G : Gl)  (c2 : Nat) (hc2 : (sh c2).1 = 7)  : ∀ (f : Nat) (v3 : Int32)  (M : Nm), NJ l G Y_X11_dry (zR 5 121) eI 19 [(0, aR G 0), (2, aR G c2), (3, .int v3)] [] M (f_P_dry_L19 c2 f v3 M) := by
  intro f
  induction f with
  | zero => intro v3 M; exact s_none
  | succ f ih =>
    intro v3 M
    rw [f_P_dry_L19]
    refine s_iload_n 2 dX11_dry_19 rfl ?_
    refine s_bipush (v := 60) dX11_dry_20 (by decide) ?_
    refine s_icmp_gt (tgt := 47) dX11_dry_22 (by decide) (fun _ => ?_) (fun _ => ?_)
    · refine s_aload_n 0 dX11_dry_47 rfl ?_
      refine s_ldc (v := (-1000000004)) dX11_dry_48 wt_623 ?_
      refine n_invV_i dX11_dry_50 ok_X11_finding rfl wt_264 wt_266 ws_0 (ci := 0) rfl rfl so_0 (sh_lt so_0 rfl) [.int (-1000000004)] rfl rfl rfl rfl (c_P_finding l G _ _) (fun r7 M8 => ?_)
      exact n_iret dX11_dry_53 rfl
    · refine s_aload_n 1 dX11_dry_25 rfl ?_
      refine n_invV_i dX11_dry_26 ok_X2_writes rfl wt_436 wt_322 wt_323 (ci := 7) rfl rfl hc2 (sh_lt hc2 rfl) [] rfl rfl rfl rfl (c_H_writes l G _ hc2 _) (fun r9 M10 => ?_)
      refine s_if_ne (tgt := 34) dX11_dry_29 (by decide) (fun _ => ?_) (fun _ => ?_)
      · refine s_iload_n 2 dX11_dry_32 rfl ?_
        exact n_iret dX11_dry_33 rfl
      · refine s_aload_n 0 dX11_dry_34 rfl ?_
        refine n_getR (x := 30) dX11_dry_35 okf_P_54_0 rfl rfl so_0 (sh_lt so_0 rfl) rfl ?_
        refine n_invV_u dX11_dry_38 ok_X5_goYear rfl wt_622 wt_566 wt_567 (ci := 8) rfl rfl so_30 (sh_lt so_30 rfl) [] rfl rfl rfl rfl (c_L_goYear l G _ so_30 _) (fun r11 M12 => ?_)
        refine s_iinc (v := 1) (lv' := [(3, .int (v3 + 1)), (0, aR G 0), (2, aR G c2)]) 2 dX11_dry_41 rfl (by decide) rfl rfl ?_
        refine s_goto (tgt := 19) dX11_dry_44 (by decide) ?_
        refine s_lv [1, 2, 0] (lv' := [(0, aR G 0), (2, aR G c2), (3, .int (v3 + 1))]) rfl ?_
        exact ih _ _
def f_P_dry (v1 : Int32) (M : Nm) : Option (Int32 × Nm) := bnd (f_P_onTrial v1 M) fun r1 M2 => ifn r1 (bnd (f_P_finding (-1000000001) M2) fun r5 M6 => some (r5, M6)) fun p3 => grd (isb 7 p3) <| f_P_dry_L19 p3 FU 0 M2
theorem c_P_dry (l : Launch) (G : Gl) (v1 : Int32)  (M : Nm) : NJ l G Y_X11_dry (zR 5 121) eI 0 (lv_args 0 [aR G 0, .int v1]) [] M (f_P_dry v1 M) := by
  unfold f_P_dry
  show NJ l G Y_X11_dry (zR 5 121) eI 0 [(0, aR G 0), (1, .int v1)] [] M _
  refine s_aload_n 0 dX11_dry_0 rfl ?_
  refine s_iload_n 1 dX11_dry_1 rfl ?_
  refine n_invV_r dX11_dry_2 ok_X11_onTrial rfl wt_600 wt_602 ws_4 (ci := 0) rfl rfl so_0 (sh_lt so_0 rfl) [.int v1] rfl rfl rfl rfl (c_P_onTrial l G _ _) (fun r1 M2 => ?_)
  refine s_split ?_ (fun p3 => ?_)
  · refine s_astore_nN (i := 2) (lv' := [(2, .null), (0, aR G 0), (1, .int v1)]) dX11_dry_5 rfl rfl rfl ?_
    refine s_aload_nN 0 dX11_dry_6 rfl ?_
    refine s_ifnonnullN dX11_dry_7 ?_
    refine s_aload_n 1 dX11_dry_10 rfl ?_
    refine s_ldc (v := (-1000000001)) dX11_dry_11 wt_263 ?_
    refine n_invV_i dX11_dry_13 ok_X11_finding rfl wt_264 wt_266 ws_0 (ci := 0) rfl rfl so_0 (sh_lt so_0 rfl) [.int (-1000000001)] rfl rfl rfl rfl (c_P_finding l G _ _) (fun r5 M6 => ?_)
    exact n_iret dX11_dry_16 rfl
  · refine s_grd (fun h4 => ?_)
    refine s_astore_n (i := 2) (lv' := [(2, aR G p3), (0, aR G 0), (1, .int v1)]) dX11_dry_5 rfl rfl rfl ?_
    refine s_aload_n 0 dX11_dry_6 rfl ?_
    refine s_ifnonnullS (tgt := 17) dX11_dry_7 (by decide) ?_
    refine s_iconst (v := 0) dX11_dry_17 (by decide) ?_
    refine s_istore_n (i := 3) (lv' := [(3, .int 0), (2, aR G p3), (0, aR G 0), (1, .int v1)]) dX11_dry_18 rfl rfl rfl ?_
    refine s_lv [2, 1, 0] (lv' := [(0, aR G 0), (2, aR G p3), (3, .int 0)]) rfl ?_
    refine c_P_dry_L19 l G _ (isb_1 h4) FU _ _
def f_L_richest_L6  (c0 : Nat) : Nat → Int32 → Int32 → Int32 → Nm → Option (Int32 × Nm)
  | 0, _, _, _, _ => none
  | f + 1, v1, v2, v3, M => if (M.1 c0 2) ≤ v3 then (some (v1, M)) else (grd (inb v3 6) <| if (M.1 (hnd c0 v3) 3) ≤ v2 then (f_L_richest_L6 c0 f v1 v2 (v3 + 1) M) else (grd (inb v3 6) <| f_L_richest_L6 c0 f v3 (M.1 (hnd c0 v3) 3) (v3 + 1) M))
theorem c_L_richest_L6 (l : Launch) (G : Gl)  (c0 : Nat) (hc0 : (sh c0).1 = 8)  : ∀ (f : Nat) (v1 : Int32) (v2 : Int32) (v3 : Int32)  (M : Nm), NJ l G Y_X5_richest (zR 0 0) eI 6 [(0, aR G c0), (1, .int v1), (2, .int v2), (3, .int v3)] [] M (f_L_richest_L6 c0 f v1 v2 v3 M) := by
  intro f
  induction f with
  | zero => intro v1 v2 v3 M; exact s_none
  | succ f ih =>
    intro v1 v2 v3 M
    rw [f_L_richest_L6]
    refine s_iload_n 3 dX5_richest_6 rfl ?_
    refine s_aload_n 0 dX5_richest_7 rfl ?_
    refine n_getI dX5_richest_8 okf_L_36_8 rfl rfl hc0 (sh_lt hc0 rfl) ?_
    refine s_icmp_ge (tgt := 45) dX5_richest_11 (by decide) (fun _ => ?_) (fun _ => ?_)
    · refine s_iload_n 1 dX5_richest_45 rfl ?_
      exact n_iret dX5_richest_46 rfl
    · refine s_aload_n 0 dX5_richest_14 rfl ?_
      refine n_getR (x := (c0 + 1)) dX5_richest_15 okf_L_11_8 rfl rfl hc0 (sh_lt hc0 rfl) (r_rows hc0) ?_
      refine s_iload_n 3 dX5_richest_18 rfl ?_
      refine n_aal (x := (hnd c0 v3)) 3 ⟨rfl, rfl⟩ dX5_richest_19 (ly_rows hc0) (r_hnd hc0) (fun h1 => ?_)
      refine n_getI dX5_richest_20 okf_L_105_7 rfl rfl (ly_hnd hc0 h1) (sh_lt (ly_hnd hc0 h1) rfl) ?_
      refine s_iload_n 2 dX5_richest_23 rfl ?_
      refine s_icmp_le (tgt := 39) dX5_richest_24 (by decide) (fun _ => ?_) (fun _ => ?_)
      · refine s_iinc (v := 1) (lv' := [(3, .int (v3 + 1)), (0, aR G c0), (1, .int v1), (2, .int v2)]) 3 dX5_richest_39 rfl (by decide) rfl rfl ?_
        refine s_goto (tgt := 6) dX5_richest_42 (by decide) ?_
        refine s_lv [1, 2, 3, 0] (lv' := [(0, aR G c0), (1, .int v1), (2, .int v2), (3, .int (v3 + 1))]) rfl ?_
        exact ih _ _ _ _
      · refine s_aload_n 0 dX5_richest_27 rfl ?_
        refine n_getR (x := (c0 + 1)) dX5_richest_28 okf_L_11_8 rfl rfl hc0 (sh_lt hc0 rfl) (r_rows hc0) ?_
        refine s_iload_n 3 dX5_richest_31 rfl ?_
        refine n_aal (x := (hnd c0 v3)) 3 ⟨rfl, rfl⟩ dX5_richest_32 (ly_rows hc0) (r_hnd hc0) (fun h2 => ?_)
        refine n_getI dX5_richest_33 okf_L_105_7 rfl rfl (ly_hnd hc0 h2) (sh_lt (ly_hnd hc0 h2) rfl) ?_
        refine s_istore_n (i := 2) (lv' := [(2, .int (M.1 (hnd c0 v3) 3)), (0, aR G c0), (1, .int v1), (3, .int v3)]) dX5_richest_36 rfl rfl rfl ?_
        refine s_iload_n 3 dX5_richest_37 rfl ?_
        refine s_istore_n (i := 1) (lv' := [(1, .int v3), (2, .int (M.1 (hnd c0 v3) 3)), (0, aR G c0), (3, .int v3)]) dX5_richest_38 rfl rfl rfl ?_
        refine s_iinc (v := 1) (lv' := [(3, .int (v3 + 1)), (1, .int v3), (2, .int (M.1 (hnd c0 v3) 3)), (0, aR G c0)]) 3 dX5_richest_39 rfl (by decide) rfl rfl ?_
        refine s_goto (tgt := 6) dX5_richest_42 (by decide) ?_
        refine s_lv [3, 1, 2, 0] (lv' := [(0, aR G c0), (1, .int v3), (2, .int (M.1 (hnd c0 v3) 3)), (3, .int (v3 + 1))]) rfl ?_
        exact ih _ _ _ _
def f_L_richest (o : Nat) (M : Nm) : Option (Int32 × Nm) := f_L_richest_L6 o FU (-1) (-1) 0 M
theorem c_L_richest (l : Launch) (G : Gl) (o : Nat) (ho : (sh o).1 = 8) (M : Nm) : NJ l G Y_X5_richest (zR 0 0) eI 0 (lv_args 0 [aR G o]) [] M (f_L_richest o M) := by
  unfold f_L_richest
  show NJ l G Y_X5_richest (zR 0 0) eI 0 [(0, aR G o)] [] M _
  refine s_iconst (v := (-1)) dX5_richest_0 (by decide) ?_
  refine s_istore_n (i := 1) (lv' := [(1, .int (-1)), (0, aR G o)]) dX5_richest_1 rfl rfl rfl ?_
  refine s_iconst (v := (-1)) dX5_richest_2 (by decide) ?_
  refine s_istore_n (i := 2) (lv' := [(2, .int (-1)), (1, .int (-1)), (0, aR G o)]) dX5_richest_3 rfl rfl rfl ?_
  refine s_iconst (v := 0) dX5_richest_4 (by decide) ?_
  refine s_istore_n (i := 3) (lv' := [(3, .int 0), (2, .int (-1)), (1, .int (-1)), (0, aR G o)]) dX5_richest_5 rfl rfl rfl ?_
  refine s_lv [3, 2, 1, 0] (lv' := [(0, aR G o), (1, .int (-1)), (2, .int (-1)), (3, .int 0)]) rfl ?_
  refine c_L_richest_L6 l G _ ho FU _ _ _ _
def f_P_rich (v1 : Int32) (M : Nm) : Option (Int32 × Nm) := bnd (f_P_isYearsOn v1 M) fun r1 M2 => if r1 = 0 then (bnd (f_P_finding (-1000000001) M2) fun r3 M4 => some (r3, M4)) else (bnd (f_L_takeFrom 30 8 M2) fun r5 M6 => bnd (f_L_goYears 30 v1 M6) fun r7 M8 => bnd (f_L_richest 30 M8) fun r9 M10 => if 0 ≤ r9 then (some (r9, M10)) else (bnd (f_P_finding (-1000000004) M10) fun r11 M12 => some (r11, M12)))
theorem c_P_rich (l : Launch) (G : Gl) (v1 : Int32)  (M : Nm) : NJ l G Y_X11_rich (zR 6 143) eI 0 (lv_args 0 [aR G 0, .int v1]) [] M (f_P_rich v1 M) := by
  unfold f_P_rich
  show NJ l G Y_X11_rich (zR 6 143) eI 0 [(0, aR G 0), (1, .int v1)] [] M _
  refine s_iload_n 1 dX11_rich_0 rfl ?_
  refine n_invS_i dX11_rich_1 ok_X11_isYearsOn rfl wt_615 wt_616 [.int v1] rfl rfl rfl rfl (c_P_isYearsOn l G _ _) (fun r1 M2 => ?_)
  refine s_if_ne (tgt := 14) dX11_rich_4 (by decide) (fun _ => ?_) (fun _ => ?_)
  · refine s_aload_n 0 dX11_rich_7 rfl ?_
    refine s_ldc (v := (-1000000001)) dX11_rich_8 wt_263 ?_
    refine n_invV_i dX11_rich_10 ok_X11_finding rfl wt_264 wt_266 ws_0 (ci := 0) rfl rfl so_0 (sh_lt so_0 rfl) [.int (-1000000001)] rfl rfl rfl rfl (c_P_finding l G _ _) (fun r3 M4 => ?_)
    exact n_iret dX11_rich_13 rfl
  · refine s_aload_n 0 dX11_rich_14 rfl ?_
    refine n_getR (x := 30) dX11_rich_15 okf_P_54_0 rfl rfl so_0 (sh_lt so_0 rfl) rfl ?_
    refine s_aload_n 0 dX11_rich_18 rfl ?_
    refine n_getR (x := 8) dX11_rich_19 okf_P_50_0 rfl rfl so_0 (sh_lt so_0 rfl) rfl ?_
    refine n_invV_u dX11_rich_22 ok_X5_takeFrom rfl wt_604 wt_605 wt_606 (ci := 8) rfl rfl so_30 (sh_lt so_30 rfl) [aR G 8] rfl rfl rfl rfl (c_L_takeFrom l G _ _ so_30 so_8 _) (fun r5 M6 => ?_)
    refine s_aload_n 0 dX11_rich_25 rfl ?_
    refine n_getR (x := 30) dX11_rich_26 okf_P_54_0 rfl rfl so_0 (sh_lt so_0 rfl) rfl ?_
    refine s_iload_n 1 dX11_rich_29 rfl ?_
    refine n_invV_u dX11_rich_30 ok_X5_goYears rfl wt_561 wt_562 wt_563 (ci := 8) rfl rfl so_30 (sh_lt so_30 rfl) [.int v1] rfl rfl rfl rfl (c_L_goYears l G _ _ so_30 _) (fun r7 M8 => ?_)
    refine s_aload_n 0 dX11_rich_33 rfl ?_
    refine n_getR (x := 30) dX11_rich_34 okf_P_54_0 rfl rfl so_0 (sh_lt so_0 rfl) rfl ?_
    refine n_invV_i dX11_rich_37 ok_X5_richest rfl wt_628 wt_629 wt_630 (ci := 8) rfl rfl so_30 (sh_lt so_30 rfl) [] rfl rfl rfl rfl (c_L_richest l G _ so_30 _) (fun r9 M10 => ?_)
    refine s_istore_n (i := 2) (lv' := [(2, .int r9), (0, aR G 0), (1, .int v1)]) dX11_rich_40 rfl rfl rfl ?_
    refine s_iload_n 0 dX11_rich_41 rfl ?_
    refine s_if_ge (tgt := 54) dX11_rich_42 (by decide) (fun _ => ?_) (fun _ => ?_)
    · refine s_iload_n 0 dX11_rich_54 rfl ?_
      exact n_iret dX11_rich_55 rfl
    · refine s_aload_n 1 dX11_rich_45 rfl ?_
      refine s_ldc (v := (-1000000004)) dX11_rich_46 wt_623 ?_
      refine n_invV_i dX11_rich_48 ok_X11_finding rfl wt_264 wt_266 ws_0 (ci := 0) rfl rfl so_0 (sh_lt so_0 rfl) [.int (-1000000004)] rfl rfl rfl rfl (c_P_finding l G _ _) (fun r11 M12 => ?_)
      refine s_goto (tgt := 55) dX11_rich_51 (by decide) ?_
      exact n_iret dX11_rich_55 rfl
def f_P_rain_L52  (v3 : Int64) : Nat → Int32 → Int32 → Int32 → Nm → Option (Int32 × Nm)
  | 0, _, _, _, _ => none
  | f + 1, v5, v6, v7, M => if 48 ≤ v7 then (if v6 = (-1000000004) then (bnd (f_P_finding (-1000000004) M) fun r11 M12 => some (r11, M12)) else (some (v6, M))) else (bnd (f_P_bitOf v3 v7 M) fun r13 M14 => if r13 = 1 then (bnd (f_G_bit v7 M14) fun r15 M16 => bnd (f_G_enclosedBy (v3 &&& (r15 ^^^ (-1))) M16) fun r17 M18 => bnd (f_Jl_bitCount r17 M18) fun r19 M20 => if v5 ≤ r19 then (f_P_rain_L52 v3 f v5 v6 (v7 + 1) M20) else (f_P_rain_L52 v3 f r19 v7 (v7 + 1) M20)) else (f_P_rain_L52 v3 f v5 v6 (v7 + 1) M14))
theorem c_P_rain_L52 (l : Launch) (G : Gl)  (v3 : Int64)   : ∀ (f : Nat) (v5 : Int32) (v6 : Int32) (v7 : Int32)  (M : Nm), NJ l G Y_X11_rain (zR 4 101) eI 52 [(0, aR G 0), (3, .long v3), (5, .int v5), (6, .int v6), (7, .int v7)] [] M (f_P_rain_L52 v3 f v5 v6 v7 M) := by
  intro f
  induction f with
  | zero => intro v5 v6 v7 M; exact s_none
  | succ f ih =>
    intro v5 v6 v7 M
    rw [f_P_rain_L52]
    refine s_iload 4 dX11_rain_52 rfl ?_
    refine s_bipush (v := 48) dX11_rain_54 (by decide) ?_
    refine s_icmp_ge (tgt := 109) dX11_rain_56 (by decide) (fun _ => ?_) (fun _ => ?_)
    · refine s_iload 3 dX11_rain_109 rfl ?_
      refine s_ldc (v := (-1000000004)) dX11_rain_111 wt_623 ?_
      refine s_icmp_ne (tgt := 125) dX11_rain_113 (by decide) (fun _ => ?_) (fun _ => ?_)
      · refine s_aload_n 0 dX11_rain_116 rfl ?_
        refine s_ldc (v := (-1000000004)) dX11_rain_117 wt_623 ?_
        refine n_invV_i dX11_rain_119 ok_X11_finding rfl wt_264 wt_266 ws_0 (ci := 0) rfl rfl so_0 (sh_lt so_0 rfl) [.int (-1000000004)] rfl rfl rfl rfl (c_P_finding l G _ _) (fun r11 M12 => ?_)
        refine s_goto (tgt := 127) dX11_rain_122 (by decide) ?_
        exact n_iret dX11_rain_127 rfl
      · refine s_iload 3 dX11_rain_125 rfl ?_
        exact n_iret dX11_rain_127 rfl
    · refine s_lload_n 1 dX11_rain_59 rfl ?_
      refine s_iload 4 dX11_rain_60 rfl ?_
      refine n_invS_i dX11_rain_62 ok_X11_bitOf rfl wt_268 wt_269 [.long v3, .int v7] rfl rfl rfl rfl (c_P_bitOf l G _ _ _) (fun r13 M14 => ?_)
      refine s_iconst (v := 1) dX11_rain_65 (by decide) ?_
      refine s_icmp_ne (tgt := 103) dX11_rain_66 (by decide) (fun _ => ?_) (fun _ => ?_)
      · refine s_lload_n 1 dX11_rain_69 rfl ?_
        refine s_iload 4 dX11_rain_70 rfl ?_
        refine n_invS_l dX11_rain_72 ok_X1_bit rfl wt_636 wt_276 [.int v7] rfl rfl rfl rfl (c_G_bit l G _ _) (fun r15 M16 => ?_)
        refine s_ldc2 (v := (-1)) dX11_rain_75 wt_637 ?_
        refine s_lxor dX11_rain_78 ?_
        refine s_land dX11_rain_79 ?_
        refine n_invS_l dX11_rain_80 ok_X1_enclosedBy rfl wt_638 wt_303 [.long (v3 &&& (r15 ^^^ (-1)))] rfl rfl rfl rfl (c_G_enclosedBy l G _ _) (fun r17 M18 => ?_)
        refine n_invS_i dX11_rain_83 ok_J13_bitCount_95d88 rfl wt_595 wt_443 [.long r17] rfl rfl rfl rfl (c_Jl_bitCount l G _ _) (fun r19 M20 => ?_)
        refine s_istore (lv' := [(8, .int r19), (0, aR G 0), (3, .long v3), (5, .int v5), (6, .int v6), (7, .int v7)]) dX11_rain_86 rfl rfl ?_
        refine s_iload 0 dX11_rain_88 rfl ?_
        refine s_iload 3 dX11_rain_90 rfl ?_
        refine s_icmp_ge (tgt := 103) dX11_rain_92 (by decide) (fun _ => ?_) (fun _ => ?_)
        · refine s_iinc (v := 1) (lv' := [(7, .int (v7 + 1)), (8, .int r19), (0, aR G 0), (3, .long v3), (5, .int v5), (6, .int v6)]) 5 dX11_rain_103 rfl (by decide) rfl rfl ?_
          refine s_goto (tgt := 52) dX11_rain_106 (by decide) ?_
          refine s_lv [2, 3, 4, 5, 0] (lv' := [(0, aR G 0), (3, .long v3), (5, .int v5), (6, .int v6), (7, .int (v7 + 1))]) rfl ?_
          exact ih _ _ _ _
        · refine s_iload 0 dX11_rain_95 rfl ?_
          refine s_istore (lv' := [(5, .int r19), (8, .int r19), (0, aR G 0), (3, .long v3), (6, .int v6), (7, .int v7)]) dX11_rain_97 rfl rfl ?_
          refine s_iload 5 dX11_rain_99 rfl ?_
          refine s_istore (lv' := [(6, .int v7), (5, .int r19), (8, .int r19), (0, aR G 0), (3, .long v3), (7, .int v7)]) dX11_rain_101 rfl rfl ?_
          refine s_iinc (v := 1) (lv' := [(7, .int (v7 + 1)), (6, .int v7), (5, .int r19), (8, .int r19), (0, aR G 0), (3, .long v3)]) 5 dX11_rain_103 rfl (by decide) rfl rfl ?_
          refine s_goto (tgt := 52) dX11_rain_106 (by decide) ?_
          refine s_lv [4, 5, 2, 1, 0] (lv' := [(0, aR G 0), (3, .long v3), (5, .int r19), (6, .int v7), (7, .int (v7 + 1))]) rfl ?_
          exact ih _ _ _ _
      · refine s_iinc (v := 1) (lv' := [(7, .int (v7 + 1)), (0, aR G 0), (3, .long v3), (5, .int v5), (6, .int v6)]) 4 dX11_rain_103 rfl (by decide) rfl rfl ?_
        refine s_goto (tgt := 52) dX11_rain_106 (by decide) ?_
        refine s_lv [1, 2, 3, 4, 0] (lv' := [(0, aR G 0), (3, .long v3), (5, .int v5), (6, .int v6), (7, .int (v7 + 1))]) rfl ?_
        exact ih _ _ _ _
def f_P_rain (v1 : Int32) (M : Nm) : Option (Int32 × Nm) := bnd (f_L_handOf 8 v1 M) fun r1 M2 => ifn r1 (bnd (f_P_finding (-1000000001) M2) fun r5 M6 => some (r5, M6)) fun p3 => grd (isb 7 p3) <| bnd (f_H_lineUnder p3 (M2.2.1 8 0) M2) fun r7 M8 => bnd (f_H_howManyInside p3 (M8.2.1 8 0) M8) fun r9 M10 => f_P_rain_L52 r7 FU r9 (-1000000004) 0 M10
theorem c_P_rain (l : Launch) (G : Gl) (v1 : Int32)  (M : Nm) : NJ l G Y_X11_rain (zR 4 101) eI 0 (lv_args 0 [aR G 0, .int v1]) [] M (f_P_rain v1 M) := by
  unfold f_P_rain
  show NJ l G Y_X11_rain (zR 4 101) eI 0 [(0, aR G 0), (1, .int v1)] [] M _
  refine s_aload_n 0 dX11_rain_0 rfl ?_
  refine n_getR (x := 8) dX11_rain_1 okf_P_50_0 rfl rfl so_0 (sh_lt so_0 rfl) rfl ?_
  refine s_iload_n 1 dX11_rain_4 rfl ?_
  refine n_invV_r dX11_rain_5 ok_X5_handOf rfl wt_370 wt_371 wt_372 (ci := 8) rfl rfl so_8 (sh_lt so_8 rfl) [.int v1] rfl rfl rfl rfl (c_L_handOf l G _ _ so_8 _) (fun r1 M2 => ?_)
  refine s_split ?_ (fun p3 => ?_)
  · refine s_astore_nN (i := 2) (lv' := [(2, .null), (0, aR G 0), (1, .int v1)]) dX11_rain_8 rfl rfl rfl ?_
    refine s_aload_nN 0 dX11_rain_9 rfl ?_
    refine s_ifnonnullN dX11_rain_10 ?_
    refine s_aload_n 1 dX11_rain_13 rfl ?_
    refine s_ldc (v := (-1000000001)) dX11_rain_14 wt_263 ?_
    refine n_invV_i dX11_rain_16 ok_X11_finding rfl wt_264 wt_266 ws_0 (ci := 0) rfl rfl so_0 (sh_lt so_0 rfl) [.int (-1000000001)] rfl rfl rfl rfl (c_P_finding l G _ _) (fun r5 M6 => ?_)
    exact n_iret dX11_rain_19 rfl
  · refine s_grd (fun h4 => ?_)
    refine s_astore_n (i := 2) (lv' := [(2, aR G p3), (0, aR G 0), (1, .int v1)]) dX11_rain_8 rfl rfl rfl ?_
    refine s_aload_n 0 dX11_rain_9 rfl ?_
    refine s_ifnonnullS (tgt := 20) dX11_rain_10 (by decide) ?_
    refine s_aload_n 0 dX11_rain_20 rfl ?_
    refine s_aload_n 1 dX11_rain_21 rfl ?_
    refine n_getR (x := 8) dX11_rain_22 okf_P_50_0 rfl rfl so_0 (sh_lt so_0 rfl) rfl ?_
    refine n_getL dX11_rain_25 okf_P_91_8 rfl rfl so_8 (sh_lt so_8 rfl) ?_
    refine n_invV_l dX11_rain_28 ok_X2_lineUnder rfl wt_550 wt_288 wt_289 (ci := 7) rfl rfl (isb_1 h4) (sh_lt (isb_1 h4) rfl) [.long (M2.2.1 8 0)] rfl rfl rfl rfl (c_H_lineUnder l G _ _ (isb_1 h4) _) (fun r7 M8 => ?_)
    refine s_lstore_n (i := 3) (lv' := [(3, .long r7), (2, aR G p3), (0, aR G 0), (1, .int v1)]) dX11_rain_31 rfl rfl rfl ?_
    refine s_aload_n 1 dX11_rain_32 rfl ?_
    refine s_aload_n 2 dX11_rain_33 rfl ?_
    refine n_getR (x := 8) dX11_rain_34 okf_P_50_0 rfl rfl so_0 (sh_lt so_0 rfl) rfl ?_
    refine n_getL dX11_rain_37 okf_P_91_8 rfl rfl so_8 (sh_lt so_8 rfl) ?_
    refine n_invV_i dX11_rain_40 ok_X2_howManyInside rfl wt_437 wt_438 wt_439 (ci := 7) rfl rfl (isb_1 h4) (sh_lt (isb_1 h4) rfl) [.long (M8.2.1 8 0)] rfl rfl rfl rfl (c_H_howManyInside l G _ _ (isb_1 h4) _) (fun r9 M10 => ?_)
    refine s_istore (lv' := [(5, .int r9), (3, .long r7), (2, aR G p3), (0, aR G 0), (1, .int v1)]) dX11_rain_43 rfl rfl ?_
    refine s_ldc (v := (-1000000004)) dX11_rain_45 wt_623 ?_
    refine s_istore (lv' := [(6, .int (-1000000004)), (5, .int r9), (3, .long r7), (2, aR G p3), (0, aR G 0), (1, .int v1)]) dX11_rain_47 rfl rfl ?_
    refine s_iconst (v := 0) dX11_rain_49 (by decide) ?_
    refine s_istore (lv' := [(7, .int 0), (6, .int (-1000000004)), (5, .int r9), (3, .long r7), (2, aR G p3), (0, aR G 0), (1, .int v1)]) dX11_rain_50 rfl rfl ?_
    refine s_lv [5, 3, 2, 1, 0] (lv' := [(0, aR G 0), (3, .long r7), (5, .int r9), (6, .int (-1000000004)), (7, .int 0)]) rfl ?_
    refine c_P_rain_L52 l G _ FU _ _ _ _
def f_H_howManyInsideWithLonger (o : Nat) (v1 : Int32) (v2 : Int64) (M : Nm) : Option (Int32 × Nm) := bnd (f_H_hasStroke o v1 M) fun r1 M2 => if r1 = 0 then (bnd (f_H_howManyInside o v2 M2) fun r3 M4 => some (r3, M4)) else (grd (inb v1 8) <| if (M2.1 (o + 2) (ix v1)) < 7 then (grd (inb v1 8) <| grd (inb v1 8) <| bl (mI M2 (o + 2) (ix v1) ((M2.1 (o + 2) (ix v1)) + 1)) fun M5 => bnd (f_H_trace o M5) fun r6 M7 => bnd (f_H_howManyInside o v2 M7) fun r8 M9 => grd (inb v1 8) <| grd (inb v1 8) <| bl (mI M9 (o + 2) (ix v1) ((M9.1 (o + 2) (ix v1)) - 1)) fun M10 => bnd (f_H_trace o M10) fun r11 M12 => some (r8, M12)) else (bnd (f_H_howManyInside o v2 M2) fun r13 M14 => some (r13, M14)))
theorem c_H_howManyInsideWithLonger (l : Launch) (G : Gl) (o : Nat) (v1 : Int32) (v2 : Int64) (ho : (sh o).1 = 7) (M : Nm) : NJ l G Y_X2_howManyInsideWithLonger (zR 4 101) eI 0 (lv_args 0 [aR G o, .int v1, .long v2]) [] M (f_H_howManyInsideWithLonger o v1 v2 M) := by
  unfold f_H_howManyInsideWithLonger
  show NJ l G Y_X2_howManyInsideWithLonger (zR 4 101) eI 0 [(0, aR G o), (1, .int v1), (2, .long v2)] [] M _
  refine s_aload_n 0 dX2_howManyInsideWithLonger_0 rfl ?_
  refine s_iload_n 1 dX2_howManyInsideWithLonger_1 rfl ?_
  refine n_invV_i dX2_howManyInsideWithLonger_2 ok_X2_hasStroke rfl wt_647 wt_483 wt_484 (ci := 7) rfl rfl ho (sh_lt ho rfl) [.int v1] rfl rfl rfl rfl (c_H_hasStroke l G _ _ ho _) (fun r1 M2 => ?_)
  refine s_if_eq (tgt := 19) dX2_howManyInsideWithLonger_5 (by decide) (fun _ => ?_) (fun _ => ?_)
  · refine s_aload_n 0 dX2_howManyInsideWithLonger_19 rfl ?_
    refine s_lload_n 2 dX2_howManyInsideWithLonger_20 rfl ?_
    refine n_invV_i dX2_howManyInsideWithLonger_21 ok_X2_howManyInside rfl wt_648 wt_438 wt_439 (ci := 7) rfl rfl ho (sh_lt ho rfl) [.long v2] rfl rfl rfl rfl (c_H_howManyInside l G _ _ ho _) (fun r3 M4 => ?_)
    exact n_iret dX2_howManyInsideWithLonger_24 rfl
  · refine s_aload_n 0 dX2_howManyInsideWithLonger_8 rfl ?_
    refine n_getR (x := (o + 2)) dX2_howManyInsideWithLonger_9 okf_H_19_7 rfl rfl ho (sh_lt ho rfl) (r_lens ho) ?_
    refine s_iload_n 1 dX2_howManyInsideWithLonger_12 rfl ?_
    refine n_ial dX2_howManyInsideWithLonger_13 (ly_lens ho) ?_
    refine s_bipush (v := 7) dX2_howManyInsideWithLonger_14 (by decide) ?_
    refine s_icmp_lt (tgt := 25) dX2_howManyInsideWithLonger_16 (by decide) (fun _ => ?_) (fun _ => ?_)
    · refine s_aload_n 0 dX2_howManyInsideWithLonger_25 rfl ?_
      refine n_getR (x := (o + 2)) dX2_howManyInsideWithLonger_26 okf_H_19_7 rfl rfl ho (sh_lt ho rfl) (r_lens ho) ?_
      refine s_iload_n 1 dX2_howManyInsideWithLonger_29 rfl ?_
      refine s_dup2 dX2_howManyInsideWithLonger_30 rfl rfl ?_
      refine n_ial dX2_howManyInsideWithLonger_31 (ly_lens ho) ?_
      refine s_iconst (v := 1) dX2_howManyInsideWithLonger_32 (by decide) ?_
      refine s_iadd dX2_howManyInsideWithLonger_33 ?_
      refine n_ias dX2_howManyInsideWithLonger_34 (ly_lens ho) ?_
      refine s_topM (fun M5 => ?_)
      refine s_aload_n 0 dX2_howManyInsideWithLonger_35 rfl ?_
      refine n_invV_u dX2_howManyInsideWithLonger_36 ok_X2_trace rfl wt_496 wt_385 wt_386 (ci := 7) rfl rfl ho (sh_lt ho rfl) [] rfl rfl rfl rfl (c_H_trace l G _ ho _) (fun r6 M7 => ?_)
      refine s_aload_n 0 dX2_howManyInsideWithLonger_39 rfl ?_
      refine s_lload_n 2 dX2_howManyInsideWithLonger_40 rfl ?_
      refine n_invV_i dX2_howManyInsideWithLonger_41 ok_X2_howManyInside rfl wt_648 wt_438 wt_439 (ci := 7) rfl rfl ho (sh_lt ho rfl) [.long v2] rfl rfl rfl rfl (c_H_howManyInside l G _ _ ho _) (fun r8 M9 => ?_)
      refine s_istore (lv' := [(4, .int r8), (0, aR G o), (1, .int v1), (2, .long v2)]) dX2_howManyInsideWithLonger_44 rfl rfl ?_
      refine s_aload_n 1 dX2_howManyInsideWithLonger_46 rfl ?_
      refine n_getR (x := (o + 2)) dX2_howManyInsideWithLonger_47 okf_H_19_7 rfl rfl ho (sh_lt ho rfl) (r_lens ho) ?_
      refine s_iload_n 2 dX2_howManyInsideWithLonger_50 rfl ?_
      refine s_dup2 dX2_howManyInsideWithLonger_51 rfl rfl ?_
      refine n_ial dX2_howManyInsideWithLonger_52 (ly_lens ho) ?_
      refine s_iconst (v := 1) dX2_howManyInsideWithLonger_53 (by decide) ?_
      refine s_isub dX2_howManyInsideWithLonger_54 ?_
      refine n_ias dX2_howManyInsideWithLonger_55 (ly_lens ho) ?_
      refine s_topM (fun M10 => ?_)
      refine s_aload_n 1 dX2_howManyInsideWithLonger_56 rfl ?_
      refine n_invV_u dX2_howManyInsideWithLonger_57 ok_X2_trace rfl wt_496 wt_385 wt_386 (ci := 7) rfl rfl ho (sh_lt ho rfl) [] rfl rfl rfl rfl (c_H_trace l G _ ho _) (fun r11 M12 => ?_)
      refine s_iload 0 dX2_howManyInsideWithLonger_60 rfl ?_
      exact n_iret dX2_howManyInsideWithLonger_62 rfl
    · refine s_aload_n 0 dX2_howManyInsideWithLonger_19 rfl ?_
      refine s_lload_n 2 dX2_howManyInsideWithLonger_20 rfl ?_
      refine n_invV_i dX2_howManyInsideWithLonger_21 ok_X2_howManyInside rfl wt_648 wt_438 wt_439 (ci := 7) rfl rfl ho (sh_lt ho rfl) [.long v2] rfl rfl rfl rfl (c_H_howManyInside l G _ _ ho _) (fun r13 M14 => ?_)
      exact n_iret dX2_howManyInsideWithLonger_24 rfl
def f_P_longer_L36  (c2 : Nat) : Nat → Int32 → Int32 → Int32 → Nm → Option (Int32 × Nm)
  | 0, _, _, _, _ => none
  | f + 1, v3, v4, v5, M => if (M.1 c2 4) ≤ v5 then (if v4 = (-1000000004) then (bnd (f_P_finding (-1000000004) M) fun r9 M10 => some (r9, M10)) else (some (v4, M))) else (bnd (f_H_howManyInsideWithLonger c2 v5 (M.2.1 30 0) M) fun r11 M12 => if r11 ≤ v3 then (f_P_longer_L36 c2 f v3 v4 (v5 + 1) M12) else (f_P_longer_L36 c2 f r11 v5 (v5 + 1) M12))
theorem c_P_longer_L36 (l : Launch) (G : Gl)  (c2 : Nat) (hc2 : (sh c2).1 = 7)  : ∀ (f : Nat) (v3 : Int32) (v4 : Int32) (v5 : Int32)  (M : Nm), NJ l G Y_X11_longer (zR 5 125) eI 36 [(0, aR G 0), (2, aR G c2), (3, .int v3), (4, .int v4), (5, .int v5)] [] M (f_P_longer_L36 c2 f v3 v4 v5 M) := by
  intro f
  induction f with
  | zero => intro v3 v4 v5 M; exact s_none
  | succ f ih =>
    intro v3 v4 v5 M
    rw [f_P_longer_L36]
    refine s_iload 4 dX11_longer_36 rfl ?_
    refine s_aload_n 1 dX11_longer_38 rfl ?_
    refine n_getI dX11_longer_39 okf_P_150_7 rfl rfl hc2 (sh_lt hc2 rfl) ?_
    refine s_icmp_ge (tgt := 79) dX11_longer_42 (by decide) (fun _ => ?_) (fun _ => ?_)
    · refine s_iload 3 dX11_longer_79 rfl ?_
      refine s_ldc (v := (-1000000004)) dX11_longer_81 wt_623 ?_
      refine s_icmp_ne (tgt := 95) dX11_longer_83 (by decide) (fun _ => ?_) (fun _ => ?_)
      · refine s_aload_n 0 dX11_longer_86 rfl ?_
        refine s_ldc (v := (-1000000004)) dX11_longer_87 wt_623 ?_
        refine n_invV_i dX11_longer_89 ok_X11_finding rfl wt_264 wt_266 ws_0 (ci := 0) rfl rfl so_0 (sh_lt so_0 rfl) [.int (-1000000004)] rfl rfl rfl rfl (c_P_finding l G _ _) (fun r9 M10 => ?_)
        refine s_goto (tgt := 97) dX11_longer_92 (by decide) ?_
        exact n_iret dX11_longer_97 rfl
      · refine s_iload 3 dX11_longer_95 rfl ?_
        exact n_iret dX11_longer_97 rfl
    · refine s_aload_n 1 dX11_longer_45 rfl ?_
      refine s_iload 4 dX11_longer_46 rfl ?_
      refine s_aload_n 0 dX11_longer_48 rfl ?_
      refine n_getR (x := 30) dX11_longer_49 okf_P_54_0 rfl rfl so_0 (sh_lt so_0 rfl) rfl ?_
      refine n_getL dX11_longer_52 okf_P_91_8 rfl rfl so_30 (sh_lt so_30 rfl) ?_
      refine n_invV_i dX11_longer_55 ok_X2_howManyInsideWithLonger rfl wt_643 wt_644 wt_645 (ci := 7) rfl rfl hc2 (sh_lt hc2 rfl) [.int v5, .long (M.2.1 30 0)] rfl rfl rfl rfl (c_H_howManyInsideWithLonger l G _ _ _ hc2 _) (fun r11 M12 => ?_)
      refine s_istore (lv' := [(6, .int r11), (0, aR G 0), (2, aR G c2), (3, .int v3), (4, .int v4), (5, .int v5)]) dX11_longer_58 rfl rfl ?_
      refine s_iload 0 dX11_longer_60 rfl ?_
      refine s_iload_n 3 dX11_longer_62 rfl ?_
      refine s_icmp_le (tgt := 73) dX11_longer_63 (by decide) (fun _ => ?_) (fun _ => ?_)
      · refine s_iinc (v := 1) (lv' := [(5, .int (v5 + 1)), (6, .int r11), (0, aR G 0), (2, aR G c2), (3, .int v3), (4, .int v4)]) 5 dX11_longer_73 rfl (by decide) rfl rfl ?_
        refine s_goto (tgt := 36) dX11_longer_76 (by decide) ?_
        refine s_lv [2, 3, 4, 5, 0] (lv' := [(0, aR G 0), (2, aR G c2), (3, .int v3), (4, .int v4), (5, .int (v5 + 1))]) rfl ?_
        exact ih _ _ _ _
      · refine s_iload 0 dX11_longer_66 rfl ?_
        refine s_istore_n (i := 3) (lv' := [(3, .int r11), (6, .int r11), (0, aR G 0), (2, aR G c2), (4, .int v4), (5, .int v5)]) dX11_longer_68 rfl rfl rfl ?_
        refine s_iload 5 dX11_longer_69 rfl ?_
        refine s_istore (lv' := [(4, .int v5), (3, .int r11), (6, .int r11), (0, aR G 0), (2, aR G c2), (5, .int v5)]) dX11_longer_71 rfl rfl ?_
        refine s_iinc (v := 1) (lv' := [(5, .int (v5 + 1)), (4, .int v5), (3, .int r11), (6, .int r11), (0, aR G 0), (2, aR G c2)]) 5 dX11_longer_73 rfl (by decide) rfl rfl ?_
        refine s_goto (tgt := 36) dX11_longer_76 (by decide) ?_
        refine s_lv [4, 5, 2, 1, 0] (lv' := [(0, aR G 0), (2, aR G c2), (3, .int r11), (4, .int v5), (5, .int (v5 + 1))]) rfl ?_
        exact ih _ _ _ _
def f_P_longer (v1 : Int32) (M : Nm) : Option (Int32 × Nm) := bnd (f_P_onTrial v1 M) fun r1 M2 => ifn r1 (bnd (f_P_finding (-1000000001) M2) fun r5 M6 => some (r5, M6)) fun p3 => grd (isb 7 p3) <| bnd (f_H_howManyInside p3 (M2.2.1 30 0) M2) fun r7 M8 => f_P_longer_L36 p3 FU r7 (-1000000004) 0 M8
theorem c_P_longer (l : Launch) (G : Gl) (v1 : Int32)  (M : Nm) : NJ l G Y_X11_longer (zR 5 125) eI 0 (lv_args 0 [aR G 0, .int v1]) [] M (f_P_longer v1 M) := by
  unfold f_P_longer
  show NJ l G Y_X11_longer (zR 5 125) eI 0 [(0, aR G 0), (1, .int v1)] [] M _
  refine s_aload_n 0 dX11_longer_0 rfl ?_
  refine s_iload_n 1 dX11_longer_1 rfl ?_
  refine n_invV_r dX11_longer_2 ok_X11_onTrial rfl wt_600 wt_602 ws_4 (ci := 0) rfl rfl so_0 (sh_lt so_0 rfl) [.int v1] rfl rfl rfl rfl (c_P_onTrial l G _ _) (fun r1 M2 => ?_)
  refine s_split ?_ (fun p3 => ?_)
  · refine s_astore_nN (i := 2) (lv' := [(2, .null), (0, aR G 0), (1, .int v1)]) dX11_longer_5 rfl rfl rfl ?_
    refine s_aload_nN 0 dX11_longer_6 rfl ?_
    refine s_ifnonnullN dX11_longer_7 ?_
    refine s_aload_n 1 dX11_longer_10 rfl ?_
    refine s_ldc (v := (-1000000001)) dX11_longer_11 wt_263 ?_
    refine n_invV_i dX11_longer_13 ok_X11_finding rfl wt_264 wt_266 ws_0 (ci := 0) rfl rfl so_0 (sh_lt so_0 rfl) [.int (-1000000001)] rfl rfl rfl rfl (c_P_finding l G _ _) (fun r5 M6 => ?_)
    exact n_iret dX11_longer_16 rfl
  · refine s_grd (fun h4 => ?_)
    refine s_astore_n (i := 2) (lv' := [(2, aR G p3), (0, aR G 0), (1, .int v1)]) dX11_longer_5 rfl rfl rfl ?_
    refine s_aload_n 0 dX11_longer_6 rfl ?_
    refine s_ifnonnullS (tgt := 17) dX11_longer_7 (by decide) ?_
    refine s_aload_n 0 dX11_longer_17 rfl ?_
    refine s_aload_n 1 dX11_longer_18 rfl ?_
    refine n_getR (x := 30) dX11_longer_19 okf_P_54_0 rfl rfl so_0 (sh_lt so_0 rfl) rfl ?_
    refine n_getL dX11_longer_22 okf_P_91_8 rfl rfl so_30 (sh_lt so_30 rfl) ?_
    refine n_invV_i dX11_longer_25 ok_X2_howManyInside rfl wt_437 wt_438 wt_439 (ci := 7) rfl rfl (isb_1 h4) (sh_lt (isb_1 h4) rfl) [.long (M2.2.1 30 0)] rfl rfl rfl rfl (c_H_howManyInside l G _ _ (isb_1 h4) _) (fun r7 M8 => ?_)
    refine s_istore_n (i := 3) (lv' := [(3, .int r7), (2, aR G p3), (0, aR G 0), (1, .int v1)]) dX11_longer_28 rfl rfl rfl ?_
    refine s_ldc (v := (-1000000004)) dX11_longer_29 wt_623 ?_
    refine s_istore (lv' := [(4, .int (-1000000004)), (3, .int r7), (2, aR G p3), (0, aR G 0), (1, .int v1)]) dX11_longer_31 rfl rfl ?_
    refine s_iconst (v := 0) dX11_longer_33 (by decide) ?_
    refine s_istore (lv' := [(5, .int 0), (4, .int (-1000000004)), (3, .int r7), (2, aR G p3), (0, aR G 0), (1, .int v1)]) dX11_longer_34 rfl rfl ?_
    refine s_lv [4, 3, 2, 1, 0] (lv' := [(0, aR G 0), (2, aR G p3), (3, .int r7), (4, .int (-1000000004)), (5, .int 0)]) rfl ?_
    refine c_P_longer_L36 l G _ (isb_1 h4) FU _ _ _ _
def f_P_begin_L25  (c2 : Nat) : Nat → Int32 → Int32 → Int32 → Nm → Option (Int32 × Nm)
  | 0, _, _, _, _ => none
  | f + 1, v3, v4, v5, M => if 48 ≤ v5 then (some (v4, M)) else (bnd (f_H_moveTo c2 v5 M) fun r7 M8 => bnd (f_H_howManyInside c2 (M8.2.1 30 0) M8) fun r9 M10 => if r9 ≤ v3 then (f_P_begin_L25 c2 f v3 v4 (v5 + 1) M10) else (f_P_begin_L25 c2 f r9 v5 (v5 + 1) M10))
theorem c_P_begin_L25 (l : Launch) (G : Gl)  (c2 : Nat) (hc2 : (sh c2).1 = 7)  : ∀ (f : Nat) (v3 : Int32) (v4 : Int32) (v5 : Int32)  (M : Nm), NJ l G Y_X11_begin (zR 5 122) eI 25 [(0, aR G 0), (2, aR G c2), (3, .int v3), (4, .int v4), (5, .int v5)] [] M (f_P_begin_L25 c2 f v3 v4 v5 M) := by
  intro f
  induction f with
  | zero => intro v3 v4 v5 M; exact s_none
  | succ f ih =>
    intro v3 v4 v5 M
    rw [f_P_begin_L25]
    refine s_iload 4 dX11_begin_25 rfl ?_
    refine s_bipush (v := 48) dX11_begin_27 (by decide) ?_
    refine s_icmp_ge (tgt := 70) dX11_begin_29 (by decide) (fun _ => ?_) (fun _ => ?_)
    · refine s_iload 3 dX11_begin_70 rfl ?_
      exact n_iret dX11_begin_72 rfl
    · refine s_aload_n 1 dX11_begin_32 rfl ?_
      refine s_iload 4 dX11_begin_33 rfl ?_
      refine n_invV_u dX11_begin_35 ok_X2_moveTo rfl wt_492 wt_493 wt_494 (ci := 7) rfl rfl hc2 (sh_lt hc2 rfl) [.int v5] rfl rfl rfl rfl (c_H_moveTo l G _ _ hc2 _) (fun r7 M8 => ?_)
      refine s_aload_n 1 dX11_begin_38 rfl ?_
      refine s_aload_n 0 dX11_begin_39 rfl ?_
      refine n_getR (x := 30) dX11_begin_40 okf_P_54_0 rfl rfl so_0 (sh_lt so_0 rfl) rfl ?_
      refine n_getL dX11_begin_43 okf_P_91_8 rfl rfl so_30 (sh_lt so_30 rfl) ?_
      refine n_invV_i dX11_begin_46 ok_X2_howManyInside rfl wt_437 wt_438 wt_439 (ci := 7) rfl rfl hc2 (sh_lt hc2 rfl) [.long (M8.2.1 30 0)] rfl rfl rfl rfl (c_H_howManyInside l G _ _ hc2 _) (fun r9 M10 => ?_)
      refine s_istore (lv' := [(6, .int r9), (0, aR G 0), (2, aR G c2), (3, .int v3), (4, .int v4), (5, .int v5)]) dX11_begin_49 rfl rfl ?_
      refine s_iload 0 dX11_begin_51 rfl ?_
      refine s_iload_n 3 dX11_begin_53 rfl ?_
      refine s_icmp_le (tgt := 64) dX11_begin_54 (by decide) (fun _ => ?_) (fun _ => ?_)
      · refine s_iinc (v := 1) (lv' := [(5, .int (v5 + 1)), (6, .int r9), (0, aR G 0), (2, aR G c2), (3, .int v3), (4, .int v4)]) 5 dX11_begin_64 rfl (by decide) rfl rfl ?_
        refine s_goto (tgt := 25) dX11_begin_67 (by decide) ?_
        refine s_lv [2, 3, 4, 5, 0] (lv' := [(0, aR G 0), (2, aR G c2), (3, .int v3), (4, .int v4), (5, .int (v5 + 1))]) rfl ?_
        exact ih _ _ _ _
      · refine s_iload 0 dX11_begin_57 rfl ?_
        refine s_istore_n (i := 3) (lv' := [(3, .int r9), (6, .int r9), (0, aR G 0), (2, aR G c2), (4, .int v4), (5, .int v5)]) dX11_begin_59 rfl rfl rfl ?_
        refine s_iload 5 dX11_begin_60 rfl ?_
        refine s_istore (lv' := [(4, .int v5), (3, .int r9), (6, .int r9), (0, aR G 0), (2, aR G c2), (5, .int v5)]) dX11_begin_62 rfl rfl ?_
        refine s_iinc (v := 1) (lv' := [(5, .int (v5 + 1)), (4, .int v5), (3, .int r9), (6, .int r9), (0, aR G 0), (2, aR G c2)]) 5 dX11_begin_64 rfl (by decide) rfl rfl ?_
        refine s_goto (tgt := 25) dX11_begin_67 (by decide) ?_
        refine s_lv [4, 5, 2, 1, 0] (lv' := [(0, aR G 0), (2, aR G c2), (3, .int r9), (4, .int v5), (5, .int (v5 + 1))]) rfl ?_
        exact ih _ _ _ _
def f_P_begin (v1 : Int32) (M : Nm) : Option (Int32 × Nm) := bnd (f_P_onTrial v1 M) fun r1 M2 => ifn r1 (bnd (f_P_finding (-1000000001) M2) fun r5 M6 => some (r5, M6)) fun p3 => grd (isb 7 p3) <| f_P_begin_L25 p3 FU (-1) 0 0 M2
theorem c_P_begin (l : Launch) (G : Gl) (v1 : Int32)  (M : Nm) : NJ l G Y_X11_begin (zR 5 122) eI 0 (lv_args 0 [aR G 0, .int v1]) [] M (f_P_begin v1 M) := by
  unfold f_P_begin
  show NJ l G Y_X11_begin (zR 5 122) eI 0 [(0, aR G 0), (1, .int v1)] [] M _
  refine s_aload_n 0 dX11_begin_0 rfl ?_
  refine s_iload_n 1 dX11_begin_1 rfl ?_
  refine n_invV_r dX11_begin_2 ok_X11_onTrial rfl wt_600 wt_602 ws_4 (ci := 0) rfl rfl so_0 (sh_lt so_0 rfl) [.int v1] rfl rfl rfl rfl (c_P_onTrial l G _ _) (fun r1 M2 => ?_)
  refine s_split ?_ (fun p3 => ?_)
  · refine s_astore_nN (i := 2) (lv' := [(2, .null), (0, aR G 0), (1, .int v1)]) dX11_begin_5 rfl rfl rfl ?_
    refine s_aload_nN 0 dX11_begin_6 rfl ?_
    refine s_ifnonnullN dX11_begin_7 ?_
    refine s_aload_n 1 dX11_begin_10 rfl ?_
    refine s_ldc (v := (-1000000001)) dX11_begin_11 wt_263 ?_
    refine n_invV_i dX11_begin_13 ok_X11_finding rfl wt_264 wt_266 ws_0 (ci := 0) rfl rfl so_0 (sh_lt so_0 rfl) [.int (-1000000001)] rfl rfl rfl rfl (c_P_finding l G _ _) (fun r5 M6 => ?_)
    exact n_iret dX11_begin_16 rfl
  · refine s_grd (fun h4 => ?_)
    refine s_astore_n (i := 2) (lv' := [(2, aR G p3), (0, aR G 0), (1, .int v1)]) dX11_begin_5 rfl rfl rfl ?_
    refine s_aload_n 0 dX11_begin_6 rfl ?_
    refine s_ifnonnullS (tgt := 17) dX11_begin_7 (by decide) ?_
    refine s_iconst (v := (-1)) dX11_begin_17 (by decide) ?_
    refine s_istore_n (i := 3) (lv' := [(3, .int (-1)), (2, aR G p3), (0, aR G 0), (1, .int v1)]) dX11_begin_18 rfl rfl rfl ?_
    refine s_iconst (v := 0) dX11_begin_19 (by decide) ?_
    refine s_istore (lv' := [(4, .int 0), (3, .int (-1)), (2, aR G p3), (0, aR G 0), (1, .int v1)]) dX11_begin_20 rfl rfl ?_
    refine s_iconst (v := 0) dX11_begin_22 (by decide) ?_
    refine s_istore (lv' := [(5, .int 0), (4, .int 0), (3, .int (-1)), (2, aR G p3), (0, aR G 0), (1, .int v1)]) dX11_begin_23 rfl rfl ?_
    refine s_lv [4, 3, 2, 1, 0] (lv' := [(0, aR G 0), (2, aR G p3), (3, .int (-1)), (4, .int 0), (5, .int 0)]) rfl ?_
    refine c_P_begin_L25 l G _ (isb_1 h4) FU _ _ _ _
def f_P_kind_L25  (v1 : Int32) (c2 : Nat) : Nat → Int32 → Int32 → Int32 → Nm → Option (Int32 × Nm)
  | 0, _, _, _, _ => none
  | f + 1, v3, v4, v5, M => if (nI 6) ≤ v5 then (some (v4, M)) else (grd (inb v5 6) <| bnd (f_H_become c2 (knd v5) M) fun r8 M9 => bnd (f_L_howManyOwnedBy 30 v1 M9) fun r10 M11 => if r10 ≤ v3 then (f_P_kind_L25 v1 c2 f v3 v4 (v5 + 1) M11) else (f_P_kind_L25 v1 c2 f r10 v5 (v5 + 1) M11))
theorem c_P_kind_L25 (l : Launch) (G : Gl)  (v1 : Int32) (c2 : Nat) (hc2 : (sh c2).1 = 7)  : ∀ (f : Nat) (v3 : Int32) (v4 : Int32) (v5 : Int32)  (M : Nm), NJ l G Y_X11_kind (zR 5 122) eI 25 [(0, aR G 0), (1, .int v1), (2, aR G c2), (3, .int v3), (4, .int v4), (5, .int v5)] [] M (f_P_kind_L25 v1 c2 f v3 v4 v5 M) := by
  intro f
  induction f with
  | zero => intro v3 v4 v5 M; exact s_none
  | succ f ih =>
    intro v3 v4 v5 M
    rw [f_P_kind_L25]
    refine s_iload 5 dX11_kind_25 rfl ?_
    refine s_aload_n 0 dX11_kind_27 rfl ?_
    refine n_getR (x := 2) dX11_kind_28 okf_P_41_0 rfl rfl so_0 (sh_lt so_0 rfl) rfl ?_
    refine n_len 4 dX11_kind_31 rfl sa_2 ?_
    refine s_icmp_ge (tgt := 75) dX11_kind_32 (by decide) (fun _ => ?_) (fun _ => ?_)
    · refine s_iload 4 dX11_kind_75 rfl ?_
      exact n_iret dX11_kind_77 rfl
    · refine s_aload_n 2 dX11_kind_35 rfl ?_
      refine s_aload_n 0 dX11_kind_36 rfl ?_
      refine n_getR (x := 2) dX11_kind_37 okf_P_41_0 rfl rfl so_0 (sh_lt so_0 rfl) rfl ?_
      refine s_iload 5 dX11_kind_40 rfl ?_
      refine n_aal (x := (knd v5)) 4 ⟨rfl, rfl⟩ dX11_kind_42 sa_2 r_knd (fun h7 => ?_)
      refine n_invV_u dX11_kind_43 ok_X2_become rfl wt_512 wt_513 wt_514 (ci := 7) rfl rfl hc2 (sh_lt hc2 rfl) [aR G (knd v5)] rfl rfl rfl rfl (c_H_become l G _ _ hc2 (ly_knd h7) _) (fun r8 M9 => ?_)
      refine s_aload_n 0 dX11_kind_46 rfl ?_
      refine n_getR (x := 30) dX11_kind_47 okf_P_54_0 rfl rfl so_0 (sh_lt so_0 rfl) rfl ?_
      refine s_iload_n 1 dX11_kind_50 rfl ?_
      refine n_invV_i dX11_kind_51 ok_X5_howManyOwnedBy rfl wt_448 wt_449 wt_450 (ci := 8) rfl rfl so_30 (sh_lt so_30 rfl) [.int v1] rfl rfl rfl rfl (c_L_howManyOwnedBy l G _ _ so_30 _) (fun r10 M11 => ?_)
      refine s_istore (lv' := [(6, .int r10), (0, aR G 0), (1, .int v1), (2, aR G c2), (3, .int v3), (4, .int v4), (5, .int v5)]) dX11_kind_54 rfl rfl ?_
      refine s_iload 0 dX11_kind_56 rfl ?_
      refine s_iload_n 4 dX11_kind_58 rfl ?_
      refine s_icmp_le (tgt := 69) dX11_kind_59 (by decide) (fun _ => ?_) (fun _ => ?_)
      · refine s_iinc (v := 1) (lv' := [(5, .int (v5 + 1)), (6, .int r10), (0, aR G 0), (1, .int v1), (2, aR G c2), (3, .int v3), (4, .int v4)]) 6 dX11_kind_69 rfl (by decide) rfl rfl ?_
        refine s_goto (tgt := 25) dX11_kind_72 (by decide) ?_
        refine s_lv [2, 3, 4, 5, 6, 0] (lv' := [(0, aR G 0), (1, .int v1), (2, aR G c2), (3, .int v3), (4, .int v4), (5, .int (v5 + 1))]) rfl ?_
        exact ih _ _ _ _
      · refine s_iload 0 dX11_kind_62 rfl ?_
        refine s_istore_n (i := 3) (lv' := [(3, .int r10), (6, .int r10), (0, aR G 0), (1, .int v1), (2, aR G c2), (4, .int v4), (5, .int v5)]) dX11_kind_64 rfl rfl rfl ?_
        refine s_iload 6 dX11_kind_65 rfl ?_
        refine s_istore (lv' := [(4, .int v5), (3, .int r10), (6, .int r10), (0, aR G 0), (1, .int v1), (2, aR G c2), (5, .int v5)]) dX11_kind_67 rfl rfl ?_
        refine s_iinc (v := 1) (lv' := [(5, .int (v5 + 1)), (4, .int v5), (3, .int r10), (6, .int r10), (0, aR G 0), (1, .int v1), (2, aR G c2)]) 6 dX11_kind_69 rfl (by decide) rfl rfl ?_
        refine s_goto (tgt := 25) dX11_kind_72 (by decide) ?_
        refine s_lv [4, 5, 6, 2, 1, 0] (lv' := [(0, aR G 0), (1, .int v1), (2, aR G c2), (3, .int r10), (4, .int v5), (5, .int (v5 + 1))]) rfl ?_
        exact ih _ _ _ _
def f_P_kind (v1 : Int32) (M : Nm) : Option (Int32 × Nm) := bnd (f_P_onTrial v1 M) fun r1 M2 => ifn r1 (bnd (f_P_finding (-1000000001) M2) fun r5 M6 => some (r5, M6)) fun p3 => grd (isb 7 p3) <| f_P_kind_L25 v1 p3 FU (-1) 0 0 M2
theorem c_P_kind (l : Launch) (G : Gl) (v1 : Int32)  (M : Nm) : NJ l G Y_X11_kind (zR 5 122) eI 0 (lv_args 0 [aR G 0, .int v1]) [] M (f_P_kind v1 M) := by
  unfold f_P_kind
  show NJ l G Y_X11_kind (zR 5 122) eI 0 [(0, aR G 0), (1, .int v1)] [] M _
  refine s_aload_n 0 dX11_kind_0 rfl ?_
  refine s_iload_n 1 dX11_kind_1 rfl ?_
  refine n_invV_r dX11_kind_2 ok_X11_onTrial rfl wt_600 wt_602 ws_4 (ci := 0) rfl rfl so_0 (sh_lt so_0 rfl) [.int v1] rfl rfl rfl rfl (c_P_onTrial l G _ _) (fun r1 M2 => ?_)
  refine s_split ?_ (fun p3 => ?_)
  · refine s_astore_nN (i := 2) (lv' := [(2, .null), (0, aR G 0), (1, .int v1)]) dX11_kind_5 rfl rfl rfl ?_
    refine s_aload_nN 0 dX11_kind_6 rfl ?_
    refine s_ifnonnullN dX11_kind_7 ?_
    refine s_aload_n 1 dX11_kind_10 rfl ?_
    refine s_ldc (v := (-1000000001)) dX11_kind_11 wt_263 ?_
    refine n_invV_i dX11_kind_13 ok_X11_finding rfl wt_264 wt_266 ws_0 (ci := 0) rfl rfl so_0 (sh_lt so_0 rfl) [.int (-1000000001)] rfl rfl rfl rfl (c_P_finding l G _ _) (fun r5 M6 => ?_)
    exact n_iret dX11_kind_16 rfl
  · refine s_grd (fun h4 => ?_)
    refine s_astore_n (i := 2) (lv' := [(2, aR G p3), (0, aR G 0), (1, .int v1)]) dX11_kind_5 rfl rfl rfl ?_
    refine s_aload_n 0 dX11_kind_6 rfl ?_
    refine s_ifnonnullS (tgt := 17) dX11_kind_7 (by decide) ?_
    refine s_iconst (v := (-1)) dX11_kind_17 (by decide) ?_
    refine s_istore_n (i := 3) (lv' := [(3, .int (-1)), (2, aR G p3), (0, aR G 0), (1, .int v1)]) dX11_kind_18 rfl rfl rfl ?_
    refine s_iconst (v := 0) dX11_kind_19 (by decide) ?_
    refine s_istore (lv' := [(4, .int 0), (3, .int (-1)), (2, aR G p3), (0, aR G 0), (1, .int v1)]) dX11_kind_20 rfl rfl ?_
    refine s_iconst (v := 0) dX11_kind_22 (by decide) ?_
    refine s_istore (lv' := [(5, .int 0), (4, .int 0), (3, .int (-1)), (2, aR G p3), (0, aR G 0), (1, .int v1)]) dX11_kind_23 rfl rfl ?_
    refine s_lv [4, 5, 3, 2, 1, 0] (lv' := [(0, aR G 0), (1, .int v1), (2, aR G p3), (3, .int (-1)), (4, .int 0), (5, .int 0)]) rfl ?_
    refine c_P_kind_L25 l G _ _ (isb_1 h4) FU _ _ _ _
def f_P_ink_L44 (k105 : Int32 → Nm → Option (Int32 × Nm)) (v1 : Int32) (c2 : Nat) (v3 : Int32) : Nat → Int32 → Int32 → Int32 → Nm → Option (Int32 × Nm)
  | 0, _, _, _, _ => none
  | f + 1, v4, v5, v6, M => if 999 ≤ v6 then (k105 v5 M) else (if v5 ≤ v4 then (k105 v5 M) else (bl (mI M c2 2 ((v4 + v5) / 2)) fun M10 => bnd (f_L_howManyOwnedBy 30 v1 M10) fun r11 M12 => if r11 = v3 then (f_P_ink_L44 k105 v1 c2 v3 f v4 (M12.1 c2 2) (v6 + 1) M12) else (f_P_ink_L44 k105 v1 c2 v3 f ((M12.1 c2 2) + 1) v5 (v6 + 1) M12)))
theorem c_P_ink_L44 (l : Launch) (G : Gl) {k105 : Int32 → Nm → Option (Int32 × Nm)} (v1 : Int32) (c2 : Nat) (v3 : Int32) (hc2 : (sh c2).1 = 7) (hk105 : ∀ (v5 : Int32)  (M : Nm), NJ l G Y_X11_ink (zR 5 121) eI 105 [(5, .int v5)] [] M (k105 v5 M)) : ∀ (f : Nat) (v4 : Int32) (v5 : Int32) (v6 : Int32)  (M : Nm), NJ l G Y_X11_ink (zR 5 121) eI 44 [(0, aR G 0), (1, .int v1), (2, aR G c2), (3, .int v3), (4, .int v4), (5, .int v5), (6, .int v6)] [] M (f_P_ink_L44 k105 v1 c2 v3 f v4 v5 v6 M) := by
  intro f
  induction f with
  | zero => intro v4 v5 v6 M; exact s_none
  | succ f ih =>
    intro v4 v5 v6 M
    rw [f_P_ink_L44]
    refine s_iload 6 dX11_ink_44 rfl ?_
    refine s_sipush (v := 999) dX11_ink_46 (by decide) ?_
    refine s_icmp_ge (tgt := 105) dX11_ink_49 (by decide) (fun _ => ?_) (fun _ => ?_)
    · refine s_lv [5] (lv' := [(5, .int v5)]) rfl ?_
      exact hk105 _ _
    · refine s_iload 4 dX11_ink_52 rfl ?_
      refine s_iload 5 dX11_ink_54 rfl ?_
      refine s_icmp_ge (tgt := 105) dX11_ink_56 (by decide) (fun _ => ?_) (fun _ => ?_)
      · refine s_lv [5] (lv' := [(5, .int v5)]) rfl ?_
        exact hk105 _ _
      · refine s_aload_n 2 dX11_ink_59 rfl ?_
        refine s_iload 4 dX11_ink_60 rfl ?_
        refine s_iload 5 dX11_ink_62 rfl ?_
        refine s_iadd dX11_ink_64 ?_
        refine s_iconst (v := 2) dX11_ink_65 (by decide) ?_
        refine s_idiv dX11_ink_66 (by decide) ?_
        refine n_putI dX11_ink_67 okp_P_163_7 rfl rfl hc2 (sh_lt hc2 rfl) ?_
        refine s_topM (fun M10 => ?_)
        refine s_aload_n 0 dX11_ink_70 rfl ?_
        refine n_getR (x := 30) dX11_ink_71 okf_P_54_0 rfl rfl so_0 (sh_lt so_0 rfl) rfl ?_
        refine s_iload_n 1 dX11_ink_74 rfl ?_
        refine n_invV_i dX11_ink_75 ok_X5_howManyOwnedBy rfl wt_448 wt_449 wt_450 (ci := 8) rfl rfl so_30 (sh_lt so_30 rfl) [.int v1] rfl rfl rfl rfl (c_L_howManyOwnedBy l G _ _ so_30 _) (fun r11 M12 => ?_)
        refine s_iload_n 3 dX11_ink_78 rfl ?_
        refine s_icmp_ne (tgt := 91) dX11_ink_79 (by decide) (fun _ => ?_) (fun _ => ?_)
        · refine s_aload_n 2 dX11_ink_82 rfl ?_
          refine n_getI dX11_ink_83 okf_P_163_7 rfl rfl hc2 (sh_lt hc2 rfl) ?_
          refine s_istore (lv' := [(5, .int (M12.1 c2 2)), (0, aR G 0), (1, .int v1), (2, aR G c2), (3, .int v3), (4, .int v4), (6, .int v6)]) dX11_ink_86 rfl rfl ?_
          refine s_goto (tgt := 99) dX11_ink_88 (by decide) ?_
          refine s_iinc (v := 1) (lv' := [(6, .int (v6 + 1)), (5, .int (M12.1 c2 2)), (0, aR G 0), (1, .int v1), (2, aR G c2), (3, .int v3), (4, .int v4)]) 6 dX11_ink_99 rfl (by decide) rfl rfl ?_
          refine s_goto (tgt := 44) dX11_ink_102 (by decide) ?_
          refine s_lv [2, 3, 4, 5, 6, 1, 0] (lv' := [(0, aR G 0), (1, .int v1), (2, aR G c2), (3, .int v3), (4, .int v4), (5, .int (M12.1 c2 2)), (6, .int (v6 + 1))]) rfl ?_
          exact ih _ _ _ _
        · refine s_aload_n 2 dX11_ink_91 rfl ?_
          refine n_getI dX11_ink_92 okf_P_163_7 rfl rfl hc2 (sh_lt hc2 rfl) ?_
          refine s_iconst (v := 1) dX11_ink_95 (by decide) ?_
          refine s_iadd dX11_ink_96 ?_
          refine s_istore (lv' := [(4, .int ((M12.1 c2 2) + 1)), (0, aR G 0), (1, .int v1), (2, aR G c2), (3, .int v3), (5, .int v5), (6, .int v6)]) dX11_ink_97 rfl rfl ?_
          refine s_iinc (v := 1) (lv' := [(6, .int (v6 + 1)), (4, .int ((M12.1 c2 2) + 1)), (0, aR G 0), (1, .int v1), (2, aR G c2), (3, .int v3), (5, .int v5)]) 6 dX11_ink_99 rfl (by decide) rfl rfl ?_
          refine s_goto (tgt := 44) dX11_ink_102 (by decide) ?_
          refine s_lv [2, 3, 4, 5, 1, 6, 0] (lv' := [(0, aR G 0), (1, .int v1), (2, aR G c2), (3, .int v3), (4, .int ((M12.1 c2 2) + 1)), (5, .int v5), (6, .int (v6 + 1))]) rfl ?_
          exact ih _ _ _ _
def f_P_ink (v1 : Int32) (M : Nm) : Option (Int32 × Nm) := bnd (f_P_onTrial v1 M) fun r1 M2 => ifn r1 (bnd (f_P_finding (-1000000001) M2) fun r5 M6 => some (r5, M6)) fun p3 => grd (isb 7 p3) <| bl (mI M2 p3 2 999) fun M7 => bnd (f_L_howManyOwnedBy 30 v1 M7) fun r8 M9 => f_P_ink_L44 (fun y14 M13 => some (y14, M13)) v1 p3 r8 FU 0 999 0 M9
theorem c_P_ink (l : Launch) (G : Gl) (v1 : Int32)  (M : Nm) : NJ l G Y_X11_ink (zR 5 121) eI 0 (lv_args 0 [aR G 0, .int v1]) [] M (f_P_ink v1 M) := by
  unfold f_P_ink
  show NJ l G Y_X11_ink (zR 5 121) eI 0 [(0, aR G 0), (1, .int v1)] [] M _
  refine s_aload_n 0 dX11_ink_0 rfl ?_
  refine s_iload_n 1 dX11_ink_1 rfl ?_
  refine n_invV_r dX11_ink_2 ok_X11_onTrial rfl wt_600 wt_602 ws_4 (ci := 0) rfl rfl so_0 (sh_lt so_0 rfl) [.int v1] rfl rfl rfl rfl (c_P_onTrial l G _ _) (fun r1 M2 => ?_)
  refine s_split ?_ (fun p3 => ?_)
  · refine s_astore_nN (i := 2) (lv' := [(2, .null), (0, aR G 0), (1, .int v1)]) dX11_ink_5 rfl rfl rfl ?_
    refine s_aload_nN 0 dX11_ink_6 rfl ?_
    refine s_ifnonnullN dX11_ink_7 ?_
    refine s_aload_n 1 dX11_ink_10 rfl ?_
    refine s_ldc (v := (-1000000001)) dX11_ink_11 wt_263 ?_
    refine n_invV_i dX11_ink_13 ok_X11_finding rfl wt_264 wt_266 ws_0 (ci := 0) rfl rfl so_0 (sh_lt so_0 rfl) [.int (-1000000001)] rfl rfl rfl rfl (c_P_finding l G _ _) (fun r5 M6 => ?_)
    exact n_iret dX11_ink_16 rfl
  · refine s_grd (fun h4 => ?_)
    refine s_astore_n (i := 2) (lv' := [(2, aR G p3), (0, aR G 0), (1, .int v1)]) dX11_ink_5 rfl rfl rfl ?_
    refine s_aload_n 0 dX11_ink_6 rfl ?_
    refine s_ifnonnullS (tgt := 17) dX11_ink_7 (by decide) ?_
    refine s_aload_n 0 dX11_ink_17 rfl ?_
    refine s_sipush (v := 999) dX11_ink_18 (by decide) ?_
    refine n_putI dX11_ink_21 okp_P_163_7 rfl rfl (isb_1 h4) (sh_lt (isb_1 h4) rfl) ?_
    refine s_topM (fun M7 => ?_)
    refine s_aload_n 1 dX11_ink_24 rfl ?_
    refine n_getR (x := 30) dX11_ink_25 okf_P_54_0 rfl rfl so_0 (sh_lt so_0 rfl) rfl ?_
    refine s_iload_n 2 dX11_ink_28 rfl ?_
    refine n_invV_i dX11_ink_29 ok_X5_howManyOwnedBy rfl wt_448 wt_449 wt_450 (ci := 8) rfl rfl so_30 (sh_lt so_30 rfl) [.int v1] rfl rfl rfl rfl (c_L_howManyOwnedBy l G _ _ so_30 _) (fun r8 M9 => ?_)
    refine s_istore_n (i := 3) (lv' := [(3, .int r8), (2, aR G p3), (0, aR G 0), (1, .int v1)]) dX11_ink_32 rfl rfl rfl ?_
    refine s_iconst (v := 0) dX11_ink_33 (by decide) ?_
    refine s_istore (lv' := [(4, .int 0), (3, .int r8), (2, aR G p3), (0, aR G 0), (1, .int v1)]) dX11_ink_34 rfl rfl ?_
    refine s_sipush (v := 999) dX11_ink_36 (by decide) ?_
    refine s_istore (lv' := [(5, .int 999), (4, .int 0), (3, .int r8), (2, aR G p3), (0, aR G 0), (1, .int v1)]) dX11_ink_39 rfl rfl ?_
    refine s_iconst (v := 0) dX11_ink_41 (by decide) ?_
    refine s_istore (lv' := [(6, .int 0), (5, .int 999), (4, .int 0), (3, .int r8), (2, aR G p3), (0, aR G 0), (1, .int v1)]) dX11_ink_42 rfl rfl ?_
    refine s_lv [5, 6, 4, 3, 2, 1, 0] (lv' := [(0, aR G 0), (1, .int v1), (2, aR G p3), (3, .int r8), (4, .int 0), (5, .int 999), (6, .int 0)]) rfl ?_
    refine c_P_ink_L44 l G _ _ _ (isb_1 h4) (fun y14 M13 => ?_) FU _ _ _ _
    refine s_iload 0 dX11_ink_105 rfl ?_
    exact n_iret dX11_ink_107 rfl
def f_P_court (v1 : Int32) (v2 : Int32) (M : Nm) : Option (Int32 × Nm) := bnd (f_L_handOf 8 v1 M) fun r1 M2 => ifn r1 (bnd (f_L_handOf 8 v2 M2) fun r5 M6 => ifn r5 (bnd (f_P_finding (-1000000001) M6) fun r9 M10 => some (r9, M10)) fun p7 => grd (isb 7 p7) <| bnd (f_P_finding (-1000000001) M6) fun r11 M12 => some (r11, M12)) fun p3 => grd (isb 7 p3) <| bnd (f_L_handOf 8 v2 M2) fun r13 M14 => ifn r13 (bnd (f_P_finding (-1000000001) M14) fun r17 M18 => some (r17, M18)) fun p15 => grd (isb 7 p15) <| if v1 = v2 then (bnd (f_P_finding (-1000000001) M14) fun r19 M20 => some (r19, M20)) else (bnd (f_H_insideUnder p3 (M14.2.1 8 0) M14) fun r21 M22 => bnd (f_H_insideUnder p15 (M22.2.1 8 0) M22) fun r23 M24 => bnd (f_Jl_bitCount (r21 &&& r23) M24) fun r25 M26 => some (r25, M26))
theorem c_P_court (l : Launch) (G : Gl) (v1 : Int32) (v2 : Int32)  (M : Nm) : NJ l G Y_X11_court (zR 3 79) eI 0 (lv_args 0 [aR G 0, .int v1, .int v2]) [] M (f_P_court v1 v2 M) := by
  unfold f_P_court
  show NJ l G Y_X11_court (zR 3 79) eI 0 [(0, aR G 0), (1, .int v1), (2, .int v2)] [] M _
  refine s_aload_n 0 dX11_court_0 rfl ?_
  refine n_getR (x := 8) dX11_court_1 okf_P_50_0 rfl rfl so_0 (sh_lt so_0 rfl) rfl ?_
  refine s_iload_n 1 dX11_court_4 rfl ?_
  refine n_invV_r dX11_court_5 ok_X5_handOf rfl wt_370 wt_371 wt_372 (ci := 8) rfl rfl so_8 (sh_lt so_8 rfl) [.int v1] rfl rfl rfl rfl (c_L_handOf l G _ _ so_8 _) (fun r1 M2 => ?_)
  refine s_split ?_ (fun p3 => ?_)
  · refine s_astore_nN (i := 3) (lv' := [(3, .null), (0, aR G 0), (1, .int v1), (2, .int v2)]) dX11_court_8 rfl rfl rfl ?_
    refine s_aload_n 1 dX11_court_9 rfl ?_
    refine n_getR (x := 8) dX11_court_10 okf_P_50_0 rfl rfl so_0 (sh_lt so_0 rfl) rfl ?_
    refine s_iload_n 3 dX11_court_13 rfl ?_
    refine n_invV_r dX11_court_14 ok_X5_handOf rfl wt_370 wt_371 wt_372 (ci := 8) rfl rfl so_8 (sh_lt so_8 rfl) [.int v2] rfl rfl rfl rfl (c_L_handOf l G _ _ so_8 _) (fun r5 M6 => ?_)
    refine s_split ?_ (fun p7 => ?_)
    · refine s_astoreN (lv' := [(4, .null), (3, .null), (0, aR G 0), (1, .int v1), (2, .int v2)]) dX11_court_17 rfl rfl ?_
      refine s_aload_nN 1 dX11_court_19 rfl ?_
      refine s_ifnullN (tgt := 33) dX11_court_20 (by decide) ?_
      refine s_aload_n 2 dX11_court_33 rfl ?_
      refine s_ldc (v := (-1000000001)) dX11_court_34 wt_263 ?_
      refine n_invV_i dX11_court_36 ok_X11_finding rfl wt_264 wt_266 ws_0 (ci := 0) rfl rfl so_0 (sh_lt so_0 rfl) [.int (-1000000001)] rfl rfl rfl rfl (c_P_finding l G _ _) (fun r9 M10 => ?_)
      exact n_iret dX11_court_39 rfl
    · refine s_grd (fun h8 => ?_)
      refine s_astore (lv' := [(4, aR G p7), (3, .null), (0, aR G 0), (1, .int v1), (2, .int v2)]) dX11_court_17 rfl rfl ?_
      refine s_aload_nN 1 dX11_court_19 rfl ?_
      refine s_ifnullN (tgt := 33) dX11_court_20 (by decide) ?_
      refine s_aload_n 2 dX11_court_33 rfl ?_
      refine s_ldc (v := (-1000000001)) dX11_court_34 wt_263 ?_
      refine n_invV_i dX11_court_36 ok_X11_finding rfl wt_264 wt_266 ws_0 (ci := 0) rfl rfl so_0 (sh_lt so_0 rfl) [.int (-1000000001)] rfl rfl rfl rfl (c_P_finding l G _ _) (fun r11 M12 => ?_)
      exact n_iret dX11_court_39 rfl
  · refine s_grd (fun h4 => ?_)
    refine s_astore_n (i := 3) (lv' := [(3, aR G p3), (0, aR G 0), (1, .int v1), (2, .int v2)]) dX11_court_8 rfl rfl rfl ?_
    refine s_aload_n 1 dX11_court_9 rfl ?_
    refine n_getR (x := 8) dX11_court_10 okf_P_50_0 rfl rfl so_0 (sh_lt so_0 rfl) rfl ?_
    refine s_iload_n 3 dX11_court_13 rfl ?_
    refine n_invV_r dX11_court_14 ok_X5_handOf rfl wt_370 wt_371 wt_372 (ci := 8) rfl rfl so_8 (sh_lt so_8 rfl) [.int v2] rfl rfl rfl rfl (c_L_handOf l G _ _ so_8 _) (fun r13 M14 => ?_)
    refine s_split ?_ (fun p15 => ?_)
    · refine s_astoreN (lv' := [(4, .null), (3, aR G p3), (0, aR G 0), (1, .int v1), (2, .int v2)]) dX11_court_17 rfl rfl ?_
      refine s_aload_n 1 dX11_court_19 rfl ?_
      refine s_ifnullS dX11_court_20 ?_
      refine s_aloadN 0 dX11_court_23 rfl ?_
      refine s_ifnullN (tgt := 33) dX11_court_25 (by decide) ?_
      refine s_aload_n 2 dX11_court_33 rfl ?_
      refine s_ldc (v := (-1000000001)) dX11_court_34 wt_263 ?_
      refine n_invV_i dX11_court_36 ok_X11_finding rfl wt_264 wt_266 ws_0 (ci := 0) rfl rfl so_0 (sh_lt so_0 rfl) [.int (-1000000001)] rfl rfl rfl rfl (c_P_finding l G _ _) (fun r17 M18 => ?_)
      exact n_iret dX11_court_39 rfl
    · refine s_grd (fun h16 => ?_)
      refine s_astore (lv' := [(4, aR G p15), (3, aR G p3), (0, aR G 0), (1, .int v1), (2, .int v2)]) dX11_court_17 rfl rfl ?_
      refine s_aload_n 1 dX11_court_19 rfl ?_
      refine s_ifnullS dX11_court_20 ?_
      refine s_aload 0 dX11_court_23 rfl ?_
      refine s_ifnullS dX11_court_25 ?_
      refine s_iload_n 3 dX11_court_28 rfl ?_
      refine s_iload_n 4 dX11_court_29 rfl ?_
      refine s_icmp_ne (tgt := 40) dX11_court_30 (by decide) (fun _ => ?_) (fun _ => ?_)
      · refine s_aload_n 2 dX11_court_33 rfl ?_
        refine s_ldc (v := (-1000000001)) dX11_court_34 wt_263 ?_
        refine n_invV_i dX11_court_36 ok_X11_finding rfl wt_264 wt_266 ws_0 (ci := 0) rfl rfl so_0 (sh_lt so_0 rfl) [.int (-1000000001)] rfl rfl rfl rfl (c_P_finding l G _ _) (fun r19 M20 => ?_)
        exact n_iret dX11_court_39 rfl
      · refine s_aload_n 1 dX11_court_40 rfl ?_
        refine s_aload_n 2 dX11_court_41 rfl ?_
        refine n_getR (x := 8) dX11_court_42 okf_P_50_0 rfl rfl so_0 (sh_lt so_0 rfl) rfl ?_
        refine n_getL dX11_court_45 okf_P_91_8 rfl rfl so_8 (sh_lt so_8 rfl) ?_
        refine n_invV_l dX11_court_48 ok_X2_insideUnder rfl wt_555 wt_298 wt_299 (ci := 7) rfl rfl (isb_1 h4) (sh_lt (isb_1 h4) rfl) [.long (M14.2.1 8 0)] rfl rfl rfl rfl (c_H_insideUnder l G _ _ (isb_1 h4) _) (fun r21 M22 => ?_)
        refine s_aload 0 dX11_court_51 rfl ?_
        refine s_aload_n 2 dX11_court_53 rfl ?_
        refine n_getR (x := 8) dX11_court_54 okf_P_50_0 rfl rfl so_0 (sh_lt so_0 rfl) rfl ?_
        refine n_getL dX11_court_57 okf_P_91_8 rfl rfl so_8 (sh_lt so_8 rfl) ?_
        refine n_invV_l dX11_court_60 ok_X2_insideUnder rfl wt_555 wt_298 wt_299 (ci := 7) rfl rfl (isb_1 h16) (sh_lt (isb_1 h16) rfl) [.long (M22.2.1 8 0)] rfl rfl rfl rfl (c_H_insideUnder l G _ _ (isb_1 h16) _) (fun r23 M24 => ?_)
        refine s_land dX11_court_63 ?_
        refine n_invS_i dX11_court_64 ok_J13_bitCount_95d88 rfl wt_595 wt_443 [.long (r21 &&& r23)] rfl rfl rfl rfl (c_Jl_bitCount l G _ _) (fun r25 M26 => ?_)
        exact n_iret dX11_court_67 rfl
def f_P_way (v1 : Int32) (v2 : Int32) (v3 : Int32) (M : Nm) : Option (Int32 × Nm) := bnd (f_L_handOf 8 v1 M) fun r1 M2 => ifn r1 (bnd (f_P_finding (-1000000001) M2) fun r5 M6 => some (r5, M6)) fun p3 => grd (isb 7 p3) <| bnd (f_P_isCell v2 M2) fun r7 M8 => if r7 = 0 then (bnd (f_P_finding (-1000000001) M8) fun r9 M10 => some (r9, M10)) else (bnd (f_P_isCell v3 M8) fun r11 M12 => if r11 = 0 then (bnd (f_P_finding (-1000000001) M12) fun r13 M14 => some (r13, M14)) else (bnd (f_H_lineUnder p3 (M12.2.1 8 0) M12) fun r15 M16 => bnd (f_G_fewestSteps r15 v2 v3 M16) fun r17 M18 => if 0 ≤ r17 then (some (r17, M18)) else (bnd (f_P_finding (-1000000004) M18) fun r19 M20 => some (r19, M20))))
theorem c_P_way (l : Launch) (G : Gl) (v1 : Int32) (v2 : Int32) (v3 : Int32)  (M : Nm) : NJ l G Y_X11_way (zR 2 55) eI 0 (lv_args 0 [aR G 0, .int v1, .int v2, .int v3]) [] M (f_P_way v1 v2 v3 M) := by
  unfold f_P_way
  show NJ l G Y_X11_way (zR 2 55) eI 0 [(0, aR G 0), (1, .int v1), (2, .int v2), (3, .int v3)] [] M _
  refine s_aload_n 0 dX11_way_0 rfl ?_
  refine n_getR (x := 8) dX11_way_1 okf_P_50_0 rfl rfl so_0 (sh_lt so_0 rfl) rfl ?_
  refine s_iload_n 1 dX11_way_4 rfl ?_
  refine n_invV_r dX11_way_5 ok_X5_handOf rfl wt_370 wt_371 wt_372 (ci := 8) rfl rfl so_8 (sh_lt so_8 rfl) [.int v1] rfl rfl rfl rfl (c_L_handOf l G _ _ so_8 _) (fun r1 M2 => ?_)
  refine s_split ?_ (fun p3 => ?_)
  · refine s_astoreN (lv' := [(4, .null), (0, aR G 0), (1, .int v1), (2, .int v2), (3, .int v3)]) dX11_way_8 rfl rfl ?_
    refine s_aloadN 0 dX11_way_10 rfl ?_
    refine s_ifnullN (tgt := 29) dX11_way_12 (by decide) ?_
    refine s_aload_n 1 dX11_way_29 rfl ?_
    refine s_ldc (v := (-1000000001)) dX11_way_30 wt_263 ?_
    refine n_invV_i dX11_way_32 ok_X11_finding rfl wt_264 wt_266 ws_0 (ci := 0) rfl rfl so_0 (sh_lt so_0 rfl) [.int (-1000000001)] rfl rfl rfl rfl (c_P_finding l G _ _) (fun r5 M6 => ?_)
    exact n_iret dX11_way_35 rfl
  · refine s_grd (fun h4 => ?_)
    refine s_astore (lv' := [(4, aR G p3), (0, aR G 0), (1, .int v1), (2, .int v2), (3, .int v3)]) dX11_way_8 rfl rfl ?_
    refine s_aload 0 dX11_way_10 rfl ?_
    refine s_ifnullS dX11_way_12 ?_
    refine s_iload_n 3 dX11_way_15 rfl ?_
    refine n_invS_i dX11_way_16 ok_X11_isCell rfl wt_257 wt_258 [.int v2] rfl rfl rfl rfl (c_P_isCell l G _ _) (fun r7 M8 => ?_)
    refine s_if_eq (tgt := 29) dX11_way_19 (by decide) (fun _ => ?_) (fun _ => ?_)
    · refine s_aload_n 1 dX11_way_29 rfl ?_
      refine s_ldc (v := (-1000000001)) dX11_way_30 wt_263 ?_
      refine n_invV_i dX11_way_32 ok_X11_finding rfl wt_264 wt_266 ws_0 (ci := 0) rfl rfl so_0 (sh_lt so_0 rfl) [.int (-1000000001)] rfl rfl rfl rfl (c_P_finding l G _ _) (fun r9 M10 => ?_)
      exact n_iret dX11_way_35 rfl
    · refine s_iload_n 4 dX11_way_22 rfl ?_
      refine n_invS_i dX11_way_23 ok_X11_isCell rfl wt_257 wt_258 [.int v3] rfl rfl rfl rfl (c_P_isCell l G _ _) (fun r11 M12 => ?_)
      refine s_if_ne (tgt := 36) dX11_way_26 (by decide) (fun _ => ?_) (fun _ => ?_)
      · refine s_aload_n 1 dX11_way_29 rfl ?_
        refine s_ldc (v := (-1000000001)) dX11_way_30 wt_263 ?_
        refine n_invV_i dX11_way_32 ok_X11_finding rfl wt_264 wt_266 ws_0 (ci := 0) rfl rfl so_0 (sh_lt so_0 rfl) [.int (-1000000001)] rfl rfl rfl rfl (c_P_finding l G _ _) (fun r13 M14 => ?_)
        exact n_iret dX11_way_35 rfl
      · refine s_aload 0 dX11_way_36 rfl ?_
        refine s_aload_n 1 dX11_way_38 rfl ?_
        refine n_getR (x := 8) dX11_way_39 okf_P_50_0 rfl rfl so_0 (sh_lt so_0 rfl) rfl ?_
        refine n_getL dX11_way_42 okf_P_91_8 rfl rfl so_8 (sh_lt so_8 rfl) ?_
        refine n_invV_l dX11_way_45 ok_X2_lineUnder rfl wt_550 wt_288 wt_289 (ci := 7) rfl rfl (isb_1 h4) (sh_lt (isb_1 h4) rfl) [.long (M12.2.1 8 0)] rfl rfl rfl rfl (c_H_lineUnder l G _ _ (isb_1 h4) _) (fun r15 M16 => ?_)
        refine s_iload_n 3 dX11_way_48 rfl ?_
        refine s_iload_n 4 dX11_way_49 rfl ?_
        refine n_invS_i dX11_way_50 ok_X1_fewestSteps rfl wt_669 wt_670 [.long r15, .int v2, .int v3] rfl rfl rfl rfl (c_G_fewestSteps l G _ _ _ _) (fun r17 M18 => ?_)
        refine s_istore (lv' := [(5, .int r17), (4, aR G p3), (0, aR G 0), (1, .int v1), (2, .int v2), (3, .int v3)]) dX11_way_53 rfl rfl ?_
        refine s_iload 0 dX11_way_55 rfl ?_
        refine s_if_ge (tgt := 69) dX11_way_57 (by decide) (fun _ => ?_) (fun _ => ?_)
        · refine s_iload 0 dX11_way_69 rfl ?_
          exact n_iret dX11_way_71 rfl
        · refine s_aload_n 2 dX11_way_60 rfl ?_
          refine s_ldc (v := (-1000000004)) dX11_way_61 wt_623 ?_
          refine n_invV_i dX11_way_63 ok_X11_finding rfl wt_264 wt_266 ws_0 (ci := 0) rfl rfl so_0 (sh_lt so_0 rfl) [.int (-1000000004)] rfl rfl rfl rfl (c_P_finding l G _ _) (fun r19 M20 => ?_)
          refine s_goto (tgt := 71) dX11_way_66 (by decide) ?_
          exact n_iret dX11_way_71 rfl
def f_P_sea_L10  (v1 : Int64) : Nat → Int32 → Nm → Option (Int32 × Nm)
  | 0, _, _ => none
  | f + 1, v3, M => if 6 ≤ v3 then (bnd (f_P_finding (-1000000004) M) fun r3 M4 => some (r3, M4)) else (if (lg_cmp (v1 &&& (255 <<< ((v3 * 8).toInt64 &&& 63))) 0) = 0 then (some (v3, M)) else (f_P_sea_L10 v1 f (v3 + 1) M))
theorem c_P_sea_L10 (l : Launch) (G : Gl)  (v1 : Int64)   : ∀ (f : Nat) (v3 : Int32)  (M : Nm), NJ l G Y_X11_sea (zR 5 123) eI 10 [(0, aR G 0), (1, .long v1), (3, .int v3)] [] M (f_P_sea_L10 v1 f v3 M) := by
  intro f
  induction f with
  | zero => intro v3 M; exact s_none
  | succ f ih =>
    intro v3 M
    rw [f_P_sea_L10]
    refine s_iload_n 2 dX11_sea_10 rfl ?_
    refine s_bipush (v := 6) dX11_sea_11 (by decide) ?_
    refine s_icmp_ge (tgt := 39) dX11_sea_13 (by decide) (fun _ => ?_) (fun _ => ?_)
    · refine s_aload_n 0 dX11_sea_39 rfl ?_
      refine s_ldc (v := (-1000000004)) dX11_sea_40 wt_623 ?_
      refine n_invV_i dX11_sea_42 ok_X11_finding rfl wt_264 wt_266 ws_0 (ci := 0) rfl rfl so_0 (sh_lt so_0 rfl) [.int (-1000000004)] rfl rfl rfl rfl (c_P_finding l G _ _) (fun r3 M4 => ?_)
      exact n_iret dX11_sea_45 rfl
    · refine s_lload_n 1 dX11_sea_16 rfl ?_
      refine s_ldc2 (v := 255) dX11_sea_17 wt_677 ?_
      refine s_iload_n 2 dX11_sea_20 rfl ?_
      refine s_bipush (v := 8) dX11_sea_21 (by decide) ?_
      refine s_imul dX11_sea_23 ?_
      refine s_lshl dX11_sea_24 ?_
      refine s_land dX11_sea_25 ?_
      refine s_lconst (v := 0) dX11_sea_26 (by decide) ?_
      refine s_lcmp dX11_sea_27 ?_
      refine s_if_ne (tgt := 33) dX11_sea_28 (by decide) (fun _ => ?_) (fun _ => ?_)
      · refine s_iload_n 2 dX11_sea_31 rfl ?_
        exact n_iret dX11_sea_32 rfl
      · refine s_iinc (v := 1) (lv' := [(3, .int (v3 + 1)), (0, aR G 0), (1, .long v1)]) 2 dX11_sea_33 rfl (by decide) rfl rfl ?_
        refine s_goto (tgt := 10) dX11_sea_36 (by decide) ?_
        refine s_lv [1, 2, 0] (lv' := [(0, aR G 0), (1, .long v1), (3, .int (v3 + 1))]) rfl ?_
        exact ih _ _
def f_P_sea  (M : Nm) : Option (Int32 × Nm) := bnd (f_L_owned 8 M) fun r1 M2 => f_P_sea_L10 r1 FU 0 M2
theorem c_P_sea (l : Launch) (G : Gl)   (M : Nm) : NJ l G Y_X11_sea (zR 5 123) eI 0 (lv_args 0 [aR G 0]) [] M (f_P_sea  M) := by
  unfold f_P_sea
  show NJ l G Y_X11_sea (zR 5 123) eI 0 [(0, aR G 0)] [] M _
  refine s_aload_n 0 dX11_sea_0 rfl ?_
  refine n_getR (x := 8) dX11_sea_1 okf_P_50_0 rfl rfl so_0 (sh_lt so_0 rfl) rfl ?_
  refine n_invV_l dX11_sea_4 ok_X5_owned rfl wt_341 wt_342 wt_343 (ci := 8) rfl rfl so_8 (sh_lt so_8 rfl) [] rfl rfl rfl rfl (c_L_owned l G _ so_8 _) (fun r1 M2 => ?_)
  refine s_lstore_n (i := 1) (lv' := [(1, .long r1), (0, aR G 0)]) dX11_sea_7 rfl rfl rfl ?_
  refine s_iconst (v := 0) dX11_sea_8 (by decide) ?_
  refine s_istore_n (i := 3) (lv' := [(3, .int 0), (1, .long r1), (0, aR G 0)]) dX11_sea_9 rfl rfl rfl ?_
  refine s_lv [2, 1, 0] (lv' := [(0, aR G 0), (1, .long r1), (3, .int 0)]) rfl ?_
  refine c_P_sea_L10 l G _ FU _ _
def f_T_add (v1 : Int32) (M : Nm) : Option (Unit × Nm) := if (M.1 74 0) < 0 then (some ((), M)) else (if (nI 120) ≤ (M.1 74 0) then (some ((), M)) else (grd (inb (M.1 74 0) 120) <| bl (mI M 75 (ix (M.1 74 0)) (vp_nar .char ((v1.toUInt32 % 65536).toInt32))) fun M1 => bl (mI M1 74 0 ((M1.1 74 0) + 1)) fun M2 => some ((), M2)))
theorem c_T_add (l : Launch) (G : Gl) (v1 : Int32)  (M : Nm) : NJ l G Y_X10_add (zR 0 0) eU 0 (lv_args 0 [aR G 74, .int v1]) [] M (f_T_add v1 M) := by
  unfold f_T_add
  show NJ l G Y_X10_add (zR 0 0) eU 0 [(0, aR G 74), (1, .int v1)] [] M _
  refine s_aload_n 0 dX10_add_0 rfl ?_
  refine n_getI dX10_add_1 okf_T_15_9 rfl rfl so_74 (sh_lt so_74 rfl) ?_
  refine s_if_lt (tgt := 40) dX10_add_4 (by decide) (fun _ => ?_) (fun _ => ?_)
  · exact n_vret dX10_add_40 rfl
  · refine s_aload_n 0 dX10_add_7 rfl ?_
    refine n_getI dX10_add_8 okf_T_15_9 rfl rfl so_74 (sh_lt so_74 rfl) ?_
    refine s_aload_n 0 dX10_add_11 rfl ?_
    refine n_getR (x := 75) dX10_add_12 okf_T_9_9 rfl rfl so_74 (sh_lt so_74 rfl) rfl ?_
    refine n_len 2 dX10_add_15 rfl sa_75 ?_
    refine s_icmp_ge (tgt := 40) dX10_add_16 (by decide) (fun _ => ?_) (fun _ => ?_)
    · exact n_vret dX10_add_40 rfl
    · refine s_aload_n 0 dX10_add_19 rfl ?_
      refine n_getR (x := 75) dX10_add_20 okf_T_9_9 rfl rfl so_74 (sh_lt so_74 rfl) rfl ?_
      refine s_aload_n 0 dX10_add_23 rfl ?_
      refine n_getI dX10_add_24 okf_T_15_9 rfl rfl so_74 (sh_lt so_74 rfl) ?_
      refine s_iload_n 1 dX10_add_27 rfl ?_
      refine s_i2c dX10_add_28 ?_
      refine n_cas dX10_add_29 sa_75 ?_
      refine s_topM (fun M1 => ?_)
      refine s_aload_n 0 dX10_add_30 rfl ?_
      refine s_dup dX10_add_31 rfl ?_
      refine n_getI dX10_add_32 okf_T_15_9 rfl rfl so_74 (sh_lt so_74 rfl) ?_
      refine s_iconst (v := 1) dX10_add_35 (by decide) ?_
      refine s_iadd dX10_add_36 ?_
      refine n_putI dX10_add_37 okp_T_15_9 rfl rfl so_74 (sh_lt so_74 rfl) ?_
      refine s_topM (fun M2 => ?_)
      exact n_vret dX10_add_40 rfl
def f_P_feed_L41  (v1 : Int32) : Nat → Int32 → Nm → Option (Int32 × Nm)
  | 0, _, _ => none
  | f + 1, v3, M => if v3 < 0 then (some (M.1 74 0, M)) else (bnd (f_T_add (((v1.toUInt32 >>> ((8 * v3).toUInt32 &&& Int32.toUInt32 31)).toInt32) &&& 255) M) fun r5 M6 => f_P_feed_L41 v1 f (v3 + (-1)) M6)
theorem c_P_feed_L41 (l : Launch) (G : Gl)  (v1 : Int32)   : ∀ (f : Nat) (v3 : Int32)  (M : Nm), NJ l G Y_X11_feed (zR 1 22) eI 41 [(0, aR G 0), (1, .int v1), (3, .int v3)] [] M (f_P_feed_L41 v1 f v3 M) := by
  intro f
  induction f with
  | zero => intro v3 M; exact s_none
  | succ f ih =>
    intro v3 M
    rw [f_P_feed_L41]
    refine s_iload_n 2 dX11_feed_41 rfl ?_
    refine s_if_lt (tgt := 68) dX11_feed_42 (by decide) (fun _ => ?_) (fun _ => ?_)
    · refine s_aload_n 0 dX11_feed_68 rfl ?_
      refine n_getR (x := 74) dX11_feed_69 okf_P_63_0 rfl rfl so_0 (sh_lt so_0 rfl) rfl ?_
      refine n_getI dX11_feed_72 okf_P_283_9 rfl rfl so_74 (sh_lt so_74 rfl) ?_
      exact n_iret dX11_feed_75 rfl
    · refine s_aload_n 0 dX11_feed_45 rfl ?_
      refine n_getR (x := 74) dX11_feed_46 okf_P_63_0 rfl rfl so_0 (sh_lt so_0 rfl) rfl ?_
      refine s_iload_n 1 dX11_feed_49 rfl ?_
      refine s_bipush (v := 8) dX11_feed_50 (by decide) ?_
      refine s_iload_n 2 dX11_feed_52 rfl ?_
      refine s_imul dX11_feed_53 ?_
      refine s_iushr dX11_feed_54 ?_
      refine s_sipush (v := 255) dX11_feed_55 (by decide) ?_
      refine s_iand dX11_feed_58 ?_
      refine n_invV_u dX11_feed_59 ok_X10_add rfl wt_682 wt_683 wt_684 (ci := 9) rfl rfl so_74 (sh_lt so_74 rfl) [.int (((v1.toUInt32 >>> ((8 * v3).toUInt32 &&& Int32.toUInt32 31)).toInt32) &&& 255)] rfl rfl rfl rfl (c_T_add l G _ _) (fun r5 M6 => ?_)
      refine s_iinc (v := (-1)) (lv' := [(3, .int (v3 + (-1))), (0, aR G 0), (1, .int v1)]) 2 dX11_feed_62 rfl (by decide) rfl rfl ?_
      refine s_goto (tgt := 41) dX11_feed_65 (by decide) ?_
      refine s_lv [1, 2, 0] (lv' := [(0, aR G 0), (1, .int v1), (3, .int (v3 + (-1)))]) rfl ?_
      exact ih _ _
def f_P_feed (v1 : Int32) (v2 : Int32) (M : Nm) : Option (Int32 × Nm) := bnd (f_P_within v2 1 4 M) fun r1 M2 => if r1 = 0 then (bnd (f_P_finding (-1000000001) M2) fun r3 M4 => some (r3, M4)) else (if ((M2.1 74 0) + v2) ≤ 120 then (f_P_feed_L41 v1 FU (v2 - 1) M2) else (bnd (f_P_finding (-1000000002) M2) fun r7 M8 => some (r7, M8)))
theorem c_P_feed (l : Launch) (G : Gl) (v1 : Int32) (v2 : Int32)  (M : Nm) : NJ l G Y_X11_feed (zR 1 22) eI 0 (lv_args 0 [aR G 0, .int v1, .int v2]) [] M (f_P_feed v1 v2 M) := by
  unfold f_P_feed
  show NJ l G Y_X11_feed (zR 1 22) eI 0 [(0, aR G 0), (1, .int v1), (2, .int v2)] [] M _
  refine s_iload_n 2 dX11_feed_0 rfl ?_
  refine s_iconst (v := 1) dX11_feed_1 (by decide) ?_
  refine s_iconst (v := 4) dX11_feed_2 (by decide) ?_
  refine n_invS_i dX11_feed_3 ok_X11_within rfl wt_260 wt_261 [.int v2, .int 1, .int 4] rfl rfl rfl rfl (c_P_within l G _ _ _ _) (fun r1 M2 => ?_)
  refine s_if_ne (tgt := 16) dX11_feed_6 (by decide) (fun _ => ?_) (fun _ => ?_)
  · refine s_aload_n 0 dX11_feed_9 rfl ?_
    refine s_ldc (v := (-1000000001)) dX11_feed_10 wt_263 ?_
    refine n_invV_i dX11_feed_12 ok_X11_finding rfl wt_264 wt_266 ws_0 (ci := 0) rfl rfl so_0 (sh_lt so_0 rfl) [.int (-1000000001)] rfl rfl rfl rfl (c_P_finding l G _ _) (fun r3 M4 => ?_)
    exact n_iret dX11_feed_15 rfl
  · refine s_aload_n 0 dX11_feed_16 rfl ?_
    refine n_getR (x := 74) dX11_feed_17 okf_P_63_0 rfl rfl so_0 (sh_lt so_0 rfl) rfl ?_
    refine n_getI dX11_feed_20 okf_P_283_9 rfl rfl so_74 (sh_lt so_74 rfl) ?_
    refine s_iload_n 2 dX11_feed_23 rfl ?_
    refine s_iadd dX11_feed_24 ?_
    refine s_bipush (v := 120) dX11_feed_25 (by decide) ?_
    refine s_icmp_le (tgt := 37) dX11_feed_27 (by decide) (fun _ => ?_) (fun _ => ?_)
    · refine s_iload_n 2 dX11_feed_37 rfl ?_
      refine s_iconst (v := 1) dX11_feed_38 (by decide) ?_
      refine s_isub dX11_feed_39 ?_
      refine s_istore_n (i := 3) (lv' := [(3, .int (v2 - 1)), (0, aR G 0), (1, .int v1), (2, .int v2)]) dX11_feed_40 rfl rfl rfl ?_
      refine s_lv [1, 2, 0] (lv' := [(0, aR G 0), (1, .int v1), (3, .int (v2 - 1))]) rfl ?_
      refine c_P_feed_L41 l G _ FU _ _
    · refine s_aload_n 0 dX11_feed_30 rfl ?_
      refine s_ldc (v := (-1000000002)) dX11_feed_31 wt_365 ?_
      refine n_invV_i dX11_feed_33 ok_X11_finding rfl wt_264 wt_266 ws_0 (ci := 0) rfl rfl so_0 (sh_lt so_0 rfl) [.int (-1000000002)] rfl rfl rfl rfl (c_P_finding l G _ _) (fun r7 M8 => ?_)
      exact n_iret dX11_feed_36 rfl
def f_P_wipe  (M : Nm) : Option (Int32 × Nm) := bl (mI M 74 0 0) fun M1 => some (M.1 74 0, M1)
theorem c_P_wipe (l : Launch) (G : Gl)   (M : Nm) : NJ l G Y_X11_wipe (zR 0 0) eI 0 (lv_args 0 [aR G 0]) [] M (f_P_wipe  M) := by
  unfold f_P_wipe
  show NJ l G Y_X11_wipe (zR 0 0) eI 0 [(0, aR G 0)] [] M _
  refine s_aload_n 0 dX11_wipe_0 rfl ?_
  refine n_getR (x := 74) dX11_wipe_1 okf_P_63_0 rfl rfl so_0 (sh_lt so_0 rfl) rfl ?_
  refine n_getI dX11_wipe_4 okf_P_283_9 rfl rfl so_74 (sh_lt so_74 rfl) ?_
  refine s_istore_n (i := 1) (lv' := [(1, .int (M.1 74 0)), (0, aR G 0)]) dX11_wipe_7 rfl rfl rfl ?_
  refine s_aload_n 1 dX11_wipe_8 rfl ?_
  refine n_getR (x := 74) dX11_wipe_9 okf_P_63_0 rfl rfl so_0 (sh_lt so_0 rfl) rfl ?_
  refine s_iconst (v := 0) dX11_wipe_12 (by decide) ?_
  refine n_putI dX11_wipe_13 okp_P_283_9 rfl rfl so_74 (sh_lt so_74 rfl) ?_
  refine s_topM (fun M1 => ?_)
  refine s_iload_n 0 dX11_wipe_16 rfl ?_
  exact n_iret dX11_wipe_17 rfl
def f_T_byteAt (v1 : Int32) (M : Nm) : Option (Int32 × Nm) := if v1 < 0 then (grd (decide (narrow .char (.int 0) = .int 0)) (some (0, M))) else (if (M.1 74 0) ≤ v1 then (grd (decide (narrow .char (.int 0) = .int 0)) (some (0, M))) else (if (nI 120) ≤ v1 then (grd (decide (narrow .char (.int 0) = .int 0)) (some (0, M))) else (grd (inb v1 120) <| grd (decide (narrow .char (.int (M.1 75 (ix v1))) = .int (M.1 75 (ix v1)))) (some (M.1 75 (ix v1), M)))))
theorem c_T_byteAt (l : Launch) (G : Gl) (v1 : Int32)  (M : Nm) : NJ l G Y_X10_byteAt (zR 0 0) eI 0 (lv_args 0 [aR G 74, .int v1]) [] M (f_T_byteAt v1 M) := by
  unfold f_T_byteAt
  show NJ l G Y_X10_byteAt (zR 0 0) eI 0 [(0, aR G 74), (1, .int v1)] [] M _
  refine s_iload_n 1 dX10_byteAt_0 rfl ?_
  refine s_if_lt (tgt := 30) dX10_byteAt_1 (by decide) (fun _ => ?_) (fun _ => ?_)
  · refine s_iconst (v := 0) dX10_byteAt_30 (by decide) ?_
    exact n_zretC dX10_byteAt_31 rfl
  · refine s_iload_n 1 dX10_byteAt_4 rfl ?_
    refine s_aload_n 0 dX10_byteAt_5 rfl ?_
    refine n_getI dX10_byteAt_6 okf_T_15_9 rfl rfl so_74 (sh_lt so_74 rfl) ?_
    refine s_icmp_ge (tgt := 30) dX10_byteAt_9 (by decide) (fun _ => ?_) (fun _ => ?_)
    · refine s_iconst (v := 0) dX10_byteAt_30 (by decide) ?_
      exact n_zretC dX10_byteAt_31 rfl
    · refine s_iload_n 1 dX10_byteAt_12 rfl ?_
      refine s_aload_n 0 dX10_byteAt_13 rfl ?_
      refine n_getR (x := 75) dX10_byteAt_14 okf_T_9_9 rfl rfl so_74 (sh_lt so_74 rfl) rfl ?_
      refine n_len 2 dX10_byteAt_17 rfl sa_75 ?_
      refine s_icmp_ge (tgt := 30) dX10_byteAt_18 (by decide) (fun _ => ?_) (fun _ => ?_)
      · refine s_iconst (v := 0) dX10_byteAt_30 (by decide) ?_
        exact n_zretC dX10_byteAt_31 rfl
      · refine s_aload_n 0 dX10_byteAt_21 rfl ?_
        refine n_getR (x := 75) dX10_byteAt_22 okf_T_9_9 rfl rfl so_74 (sh_lt so_74 rfl) rfl ?_
        refine s_iload_n 1 dX10_byteAt_25 rfl ?_
        refine n_cal dX10_byteAt_26 sa_75 ?_
        refine s_goto (tgt := 31) dX10_byteAt_27 (by decide) ?_
        exact n_zretC dX10_byteAt_31 rfl
def f_T_isLetter (v0 : Int32) (M : Nm) : Option (Int32 × Nm) := if v0 < 97 then (some (0, M)) else (if 122 < v0 then (some (0, M)) else (some (1, M)))
theorem c_T_isLetter (l : Launch) (G : Gl) (v0 : Int32)  (M : Nm) : NJ l G Y_X10_isLetter (zR 0 0) eI 0 (lv_args 0 [.int v0]) [] M (f_T_isLetter v0 M) := by
  unfold f_T_isLetter
  show NJ l G Y_X10_isLetter (zR 0 0) eI 0 [(0, .int v0)] [] M _
  refine s_iload_n 0 dX10_isLetter_0 rfl ?_
  refine s_bipush (v := 97) dX10_isLetter_1 (by decide) ?_
  refine s_icmp_lt (tgt := 16) dX10_isLetter_3 (by decide) (fun _ => ?_) (fun _ => ?_)
  · refine s_iconst (v := 0) dX10_isLetter_16 (by decide) ?_
    exact n_zret0 dX10_isLetter_17 rfl
  · refine s_iload_n 0 dX10_isLetter_6 rfl ?_
    refine s_bipush (v := 122) dX10_isLetter_7 (by decide) ?_
    refine s_icmp_gt (tgt := 16) dX10_isLetter_9 (by decide) (fun _ => ?_) (fun _ => ?_)
    · refine s_iconst (v := 0) dX10_isLetter_16 (by decide) ?_
      exact n_zret0 dX10_isLetter_17 rfl
    · refine s_iconst (v := 1) dX10_isLetter_12 (by decide) ?_
      refine s_goto (tgt := 17) dX10_isLetter_13 (by decide) ?_
      exact n_zret1 dX10_isLetter_17 rfl
def f_T_goOverWord_L5 (k43 : Nm → Option (Unit × Nm))  : Nat → Nm → Option (Unit × Nm)
  | 0, _ => none
  | f + 1, M => if (M.1 74 0) ≤ (M.1 74 4) then (k43 M) else (bnd (f_T_byteAt (M.1 74 4) M) fun r2 M3 => bnd (f_T_isLetter r2 M3) fun r4 M5 => if r4 = 0 then (k43 M5) else (bl (mI M5 74 4 ((M5.1 74 4) + 1)) fun M6 => f_T_goOverWord_L5 k43 f M6))
theorem c_T_goOverWord_L5 (l : Launch) (G : Gl) {k43 : Nm → Option (Unit × Nm)}   (hk43 : ∀   (M : Nm), NJ l G Y_X10_goOverWord (zR 1 21) eU 43 [] [] M (k43 M)) : ∀ (f : Nat)   (M : Nm), NJ l G Y_X10_goOverWord (zR 1 21) eU 5 [(0, aR G 74)] [] M (f_T_goOverWord_L5 k43 f M) := by
  intro f
  induction f with
  | zero => intro M; exact s_none
  | succ f ih =>
    intro M
    rw [f_T_goOverWord_L5]
    refine s_aload_n 0 dX10_goOverWord_5 rfl ?_
    refine n_getI dX10_goOverWord_6 okf_T_19_9 rfl rfl so_74 (sh_lt so_74 rfl) ?_
    refine s_aload_n 0 dX10_goOverWord_9 rfl ?_
    refine n_getI dX10_goOverWord_10 okf_T_15_9 rfl rfl so_74 (sh_lt so_74 rfl) ?_
    refine s_icmp_ge (tgt := 43) dX10_goOverWord_13 (by decide) (fun _ => ?_) (fun _ => ?_)
    · refine s_lv [] (lv' := []) rfl ?_
      exact hk43 _
    · refine s_aload_n 0 dX10_goOverWord_16 rfl ?_
      refine s_aload_n 0 dX10_goOverWord_17 rfl ?_
      refine n_getI dX10_goOverWord_18 okf_T_19_9 rfl rfl so_74 (sh_lt so_74 rfl) ?_
      refine n_invV_i dX10_goOverWord_21 ok_X10_byteAt rfl wt_702 wt_704 ws_6 (ci := 9) rfl rfl so_74 (sh_lt so_74 rfl) [.int (M.1 74 4)] rfl rfl rfl rfl (c_T_byteAt l G _ _) (fun r2 M3 => ?_)
      refine n_invS_i dX10_goOverWord_24 ok_X10_isLetter rfl wt_706 wt_707 [.int r2] rfl rfl rfl rfl (c_T_isLetter l G _ _) (fun r4 M5 => ?_)
      refine s_if_eq (tgt := 43) dX10_goOverWord_27 (by decide) (fun _ => ?_) (fun _ => ?_)
      · refine s_lv [] (lv' := []) rfl ?_
        exact hk43 _
      · refine s_aload_n 0 dX10_goOverWord_30 rfl ?_
        refine s_dup dX10_goOverWord_31 rfl ?_
        refine n_getI dX10_goOverWord_32 okf_T_19_9 rfl rfl so_74 (sh_lt so_74 rfl) ?_
        refine s_iconst (v := 1) dX10_goOverWord_35 (by decide) ?_
        refine s_iadd dX10_goOverWord_36 ?_
        refine n_putI dX10_goOverWord_37 okp_T_19_9 rfl rfl so_74 (sh_lt so_74 rfl) ?_
        refine s_topM (fun M6 => ?_)
        refine s_goto (tgt := 5) dX10_goOverWord_40 (by decide) ?_
        exact ih _
def f_T_goOverWord  (M : Nm) : Option (Unit × Nm) := bl (mI M 74 2 1) fun M1 => f_T_goOverWord_L5 (fun M7 => some ((), M7)) FU M1
theorem c_T_goOverWord (l : Launch) (G : Gl)   (M : Nm) : NJ l G Y_X10_goOverWord (zR 1 21) eU 0 (lv_args 0 [aR G 74]) [] M (f_T_goOverWord  M) := by
  unfold f_T_goOverWord
  show NJ l G Y_X10_goOverWord (zR 1 21) eU 0 [(0, aR G 74)] [] M _
  refine s_aload_n 0 dX10_goOverWord_0 rfl ?_
  refine s_iconst (v := 1) dX10_goOverWord_1 (by decide) ?_
  refine n_putI dX10_goOverWord_2 okp_T_32_9 rfl rfl so_74 (sh_lt so_74 rfl) ?_
  refine s_topM (fun M1 => ?_)
  refine c_T_goOverWord_L5 l G (fun M7 => ?_) FU _
  exact n_vret dX10_goOverWord_43 rfl
def f_T_isDigit (v0 : Int32) (M : Nm) : Option (Int32 × Nm) := if v0 < 48 then (some (0, M)) else (if 57 < v0 then (some (0, M)) else (some (1, M)))
theorem c_T_isDigit (l : Launch) (G : Gl) (v0 : Int32)  (M : Nm) : NJ l G Y_X10_isDigit (zR 0 0) eI 0 (lv_args 0 [.int v0]) [] M (f_T_isDigit v0 M) := by
  unfold f_T_isDigit
  show NJ l G Y_X10_isDigit (zR 0 0) eI 0 [(0, .int v0)] [] M _
  refine s_iload_n 0 dX10_isDigit_0 rfl ?_
  refine s_bipush (v := 48) dX10_isDigit_1 (by decide) ?_
  refine s_icmp_lt (tgt := 16) dX10_isDigit_3 (by decide) (fun _ => ?_) (fun _ => ?_)
  · refine s_iconst (v := 0) dX10_isDigit_16 (by decide) ?_
    exact n_zret0 dX10_isDigit_17 rfl
  · refine s_iload_n 0 dX10_isDigit_6 rfl ?_
    refine s_bipush (v := 57) dX10_isDigit_7 (by decide) ?_
    refine s_icmp_gt (tgt := 16) dX10_isDigit_9 (by decide) (fun _ => ?_) (fun _ => ?_)
    · refine s_iconst (v := 0) dX10_isDigit_16 (by decide) ?_
      exact n_zret0 dX10_isDigit_17 rfl
    · refine s_iconst (v := 1) dX10_isDigit_12 (by decide) ?_
      refine s_goto (tgt := 17) dX10_isDigit_13 (by decide) ?_
      exact n_zret1 dX10_isDigit_17 rfl
def f_T_goOverNumber_L10 (k77 : Nm → Option (Unit × Nm))  : Nat → Nm → Option (Unit × Nm)
  | 0, _ => none
  | f + 1, M => if (M.1 74 0) ≤ (M.1 74 4) then (k77 M) else (bnd (f_T_byteAt (M.1 74 4) M) fun r3 M4 => bnd (f_T_isDigit r3 M4) fun r5 M6 => if r5 = 0 then (k77 M6) else (bnd (f_T_byteAt (M6.1 74 4) M6) fun r7 M8 => bl (mI M8 74 5 (if ((10 * (M6.1 74 5)) + (r7 - 48)) < (1000 : Int32) then ((10 * (M6.1 74 5)) + (r7 - 48)) else 1000)) fun M9 => bl (mI M9 74 4 ((M9.1 74 4) + 1)) fun M10 => f_T_goOverNumber_L10 k77 f M10))
theorem c_T_goOverNumber_L10 (l : Launch) (G : Gl) {k77 : Nm → Option (Unit × Nm)}   (hk77 : ∀   (M : Nm), NJ l G Y_X10_goOverNumber (zR 1 30) eU 77 [] [] M (k77 M)) : ∀ (f : Nat)   (M : Nm), NJ l G Y_X10_goOverNumber (zR 1 30) eU 10 [(0, aR G 74)] [] M (f_T_goOverNumber_L10 k77 f M) := by
  intro f
  induction f with
  | zero => intro M; exact s_none
  | succ f ih =>
    intro M
    rw [f_T_goOverNumber_L10]
    refine s_aload_n 0 dX10_goOverNumber_10 rfl ?_
    refine n_getI dX10_goOverNumber_11 okf_T_19_9 rfl rfl so_74 (sh_lt so_74 rfl) ?_
    refine s_aload_n 0 dX10_goOverNumber_14 rfl ?_
    refine n_getI dX10_goOverNumber_15 okf_T_15_9 rfl rfl so_74 (sh_lt so_74 rfl) ?_
    refine s_icmp_ge (tgt := 77) dX10_goOverNumber_18 (by decide) (fun _ => ?_) (fun _ => ?_)
    · refine s_lv [] (lv' := []) rfl ?_
      exact hk77 _
    · refine s_aload_n 0 dX10_goOverNumber_21 rfl ?_
      refine s_aload_n 0 dX10_goOverNumber_22 rfl ?_
      refine n_getI dX10_goOverNumber_23 okf_T_19_9 rfl rfl so_74 (sh_lt so_74 rfl) ?_
      refine n_invV_i dX10_goOverNumber_26 ok_X10_byteAt rfl wt_702 wt_704 ws_6 (ci := 9) rfl rfl so_74 (sh_lt so_74 rfl) [.int (M.1 74 4)] rfl rfl rfl rfl (c_T_byteAt l G _ _) (fun r3 M4 => ?_)
      refine n_invS_i dX10_goOverNumber_29 ok_X10_isDigit rfl wt_713 wt_714 [.int r3] rfl rfl rfl rfl (c_T_isDigit l G _ _) (fun r5 M6 => ?_)
      refine s_if_eq (tgt := 77) dX10_goOverNumber_32 (by decide) (fun _ => ?_) (fun _ => ?_)
      · refine s_lv [] (lv' := []) rfl ?_
        exact hk77 _
      · refine s_aload_n 0 dX10_goOverNumber_35 rfl ?_
        refine s_sipush (v := 1000) dX10_goOverNumber_36 (by decide) ?_
        refine s_bipush (v := 10) dX10_goOverNumber_39 (by decide) ?_
        refine s_aload_n 0 dX10_goOverNumber_41 rfl ?_
        refine n_getI dX10_goOverNumber_42 okf_T_65_9 rfl rfl so_74 (sh_lt so_74 rfl) ?_
        refine s_imul dX10_goOverNumber_45 ?_
        refine s_aload_n 0 dX10_goOverNumber_46 rfl ?_
        refine s_aload_n 0 dX10_goOverNumber_47 rfl ?_
        refine n_getI dX10_goOverNumber_48 okf_T_19_9 rfl rfl so_74 (sh_lt so_74 rfl) ?_
        refine n_invV_i dX10_goOverNumber_51 ok_X10_byteAt rfl wt_702 wt_704 ws_6 (ci := 9) rfl rfl so_74 (sh_lt so_74 rfl) [.int (M6.1 74 4)] rfl rfl rfl rfl (c_T_byteAt l G _ _) (fun r7 M8 => ?_)
        refine s_bipush (v := 48) dX10_goOverNumber_54 (by decide) ?_
        refine s_isub dX10_goOverNumber_56 ?_
        refine s_iadd dX10_goOverNumber_57 ?_
        refine n_mmin dX10_goOverNumber_58 wt_720 wt_575 wt_14 wt_576 rfl (by decide) ?_
        refine n_putI dX10_goOverNumber_61 okp_T_65_9 rfl rfl so_74 (sh_lt so_74 rfl) ?_
        refine s_topM (fun M9 => ?_)
        refine s_aload_n 0 dX10_goOverNumber_64 rfl ?_
        refine s_dup dX10_goOverNumber_65 rfl ?_
        refine n_getI dX10_goOverNumber_66 okf_T_19_9 rfl rfl so_74 (sh_lt so_74 rfl) ?_
        refine s_iconst (v := 1) dX10_goOverNumber_69 (by decide) ?_
        refine s_iadd dX10_goOverNumber_70 ?_
        refine n_putI dX10_goOverNumber_71 okp_T_19_9 rfl rfl so_74 (sh_lt so_74 rfl) ?_
        refine s_topM (fun M10 => ?_)
        refine s_goto (tgt := 10) dX10_goOverNumber_74 (by decide) ?_
        exact ih _
def f_T_goOverNumber  (M : Nm) : Option (Unit × Nm) := bl (mI M 74 2 2) fun M1 => bl (mI M1 74 5 0) fun M2 => f_T_goOverNumber_L10 (fun M11 => some ((), M11)) FU M2
theorem c_T_goOverNumber (l : Launch) (G : Gl)   (M : Nm) : NJ l G Y_X10_goOverNumber (zR 1 30) eU 0 (lv_args 0 [aR G 74]) [] M (f_T_goOverNumber  M) := by
  unfold f_T_goOverNumber
  show NJ l G Y_X10_goOverNumber (zR 1 30) eU 0 [(0, aR G 74)] [] M _
  refine s_aload_n 0 dX10_goOverNumber_0 rfl ?_
  refine s_iconst (v := 2) dX10_goOverNumber_1 (by decide) ?_
  refine n_putI dX10_goOverNumber_2 okp_T_32_9 rfl rfl so_74 (sh_lt so_74 rfl) ?_
  refine s_topM (fun M1 => ?_)
  refine s_aload_n 0 dX10_goOverNumber_5 rfl ?_
  refine s_iconst (v := 0) dX10_goOverNumber_6 (by decide) ?_
  refine n_putI dX10_goOverNumber_7 okp_T_65_9 rfl rfl so_74 (sh_lt so_74 rfl) ?_
  refine s_topM (fun M2 => ?_)
  refine c_T_goOverNumber_L10 l G (fun M11 => ?_) FU _
  exact n_vret dX10_goOverNumber_77 rfl
def f_T_goOn_L8 (k45 : Nm → Option (Unit × Nm))  : Nat → Nm → Option (Unit × Nm)
  | 0, _ => none
  | f + 1, M => if (M.1 74 0) ≤ (M.1 74 3) then (k45 M) else (bnd (f_T_byteAt (M.1 74 3) M) fun r2 M3 => if r2 = 32 then (bl (mI M3 74 3 ((M3.1 74 3) + 1)) fun M4 => f_T_goOn_L8 k45 f M4) else (k45 M3))
theorem c_T_goOn_L8 (l : Launch) (G : Gl) {k45 : Nm → Option (Unit × Nm)}   (hk45 : ∀   (M : Nm), NJ l G Y_X10_goOn (zR 2 50) eU 45 [(0, aR G 74)] [] M (k45 M)) : ∀ (f : Nat)   (M : Nm), NJ l G Y_X10_goOn (zR 2 50) eU 8 [(0, aR G 74)] [] M (f_T_goOn_L8 k45 f M) := by
  intro f
  induction f with
  | zero => intro M; exact s_none
  | succ f ih =>
    intro M
    rw [f_T_goOn_L8]
    refine s_aload_n 0 dX10_goOn_8 rfl ?_
    refine n_getI dX10_goOn_9 okf_T_29_9 rfl rfl so_74 (sh_lt so_74 rfl) ?_
    refine s_aload_n 0 dX10_goOn_12 rfl ?_
    refine n_getI dX10_goOn_13 okf_T_15_9 rfl rfl so_74 (sh_lt so_74 rfl) ?_
    refine s_icmp_ge (tgt := 45) dX10_goOn_16 (by decide) (fun _ => ?_) (fun _ => ?_)
    · exact hk45 _
    · refine s_aload_n 0 dX10_goOn_19 rfl ?_
      refine s_aload_n 0 dX10_goOn_20 rfl ?_
      refine n_getI dX10_goOn_21 okf_T_29_9 rfl rfl so_74 (sh_lt so_74 rfl) ?_
      refine n_invV_i dX10_goOn_24 ok_X10_byteAt rfl wt_702 wt_704 ws_6 (ci := 9) rfl rfl so_74 (sh_lt so_74 rfl) [.int (M.1 74 3)] rfl rfl rfl rfl (c_T_byteAt l G _ _) (fun r2 M3 => ?_)
      refine s_bipush (v := 32) dX10_goOn_27 (by decide) ?_
      refine s_icmp_ne (tgt := 45) dX10_goOn_29 (by decide) (fun _ => ?_) (fun _ => ?_)
      · refine s_aload_n 0 dX10_goOn_32 rfl ?_
        refine s_dup dX10_goOn_33 rfl ?_
        refine n_getI dX10_goOn_34 okf_T_29_9 rfl rfl so_74 (sh_lt so_74 rfl) ?_
        refine s_iconst (v := 1) dX10_goOn_37 (by decide) ?_
        refine s_iadd dX10_goOn_38 ?_
        refine n_putI dX10_goOn_39 okp_T_29_9 rfl rfl so_74 (sh_lt so_74 rfl) ?_
        refine s_topM (fun M4 => ?_)
        refine s_goto (tgt := 8) dX10_goOn_42 (by decide) ?_
        exact ih _
      · exact hk45 _
def f_T_goOn  (M : Nm) : Option (Unit × Nm) := bl (mI M 74 3 (M.1 74 4)) fun M1 => f_T_goOn_L8 (fun M5 => bl (mI M5 74 4 (M5.1 74 3)) fun M6 => if (M6.1 74 3) < (M6.1 74 0) then (bnd (f_T_byteAt (M6.1 74 3) M6) fun r7 M8 => bnd (f_T_isLetter r7 M8) fun r9 M10 => if r9 = 0 then (bnd (f_T_byteAt (M10.1 74 3) M10) fun r11 M12 => bnd (f_T_isDigit r11 M12) fun r13 M14 => if r13 = 0 then (bnd (f_T_byteAt (M14.1 74 3) M14) fun r15 M16 => if r15 = 59 then (bl (mI M16 74 2 3) fun M17 => bl (mI M17 74 4 ((M17.1 74 3) + 1)) fun M18 => some ((), M18)) else (bl (mI M16 74 2 4) fun M19 => bl (mI M19 74 4 ((M19.1 74 3) + 1)) fun M20 => some ((), M20))) else (bnd (f_T_goOverNumber M14) fun r21 M22 => some ((), M22))) else (bnd (f_T_goOverWord M10) fun r23 M24 => some ((), M24))) else (bl (mI M6 74 2 0) fun M25 => some ((), M25))) FU M1
theorem c_T_goOn (l : Launch) (G : Gl)   (M : Nm) : NJ l G Y_X10_goOn (zR 2 50) eU 0 (lv_args 0 [aR G 74]) [] M (f_T_goOn  M) := by
  unfold f_T_goOn
  show NJ l G Y_X10_goOn (zR 2 50) eU 0 [(0, aR G 74)] [] M _
  refine s_aload_n 0 dX10_goOn_0 rfl ?_
  refine s_aload_n 0 dX10_goOn_1 rfl ?_
  refine n_getI dX10_goOn_2 okf_T_19_9 rfl rfl so_74 (sh_lt so_74 rfl) ?_
  refine n_putI dX10_goOn_5 okp_T_29_9 rfl rfl so_74 (sh_lt so_74 rfl) ?_
  refine s_topM (fun M1 => ?_)
  refine c_T_goOn_L8 l G (fun M5 => ?_) FU _
  refine s_aload_n 0 dX10_goOn_45 rfl ?_
  refine s_aload_n 0 dX10_goOn_46 rfl ?_
  refine n_getI dX10_goOn_47 okf_T_29_9 rfl rfl so_74 (sh_lt so_74 rfl) ?_
  refine n_putI dX10_goOn_50 okp_T_19_9 rfl rfl so_74 (sh_lt so_74 rfl) ?_
  refine s_topM (fun M6 => ?_)
  refine s_aload_n 0 dX10_goOn_53 rfl ?_
  refine n_getI dX10_goOn_54 okf_T_29_9 rfl rfl so_74 (sh_lt so_74 rfl) ?_
  refine s_aload_n 0 dX10_goOn_57 rfl ?_
  refine n_getI dX10_goOn_58 okf_T_15_9 rfl rfl so_74 (sh_lt so_74 rfl) ?_
  refine s_icmp_lt (tgt := 72) dX10_goOn_61 (by decide) (fun _ => ?_) (fun _ => ?_)
  · refine s_aload_n 0 dX10_goOn_72 rfl ?_
    refine s_aload_n 0 dX10_goOn_73 rfl ?_
    refine n_getI dX10_goOn_74 okf_T_29_9 rfl rfl so_74 (sh_lt so_74 rfl) ?_
    refine n_invV_i dX10_goOn_77 ok_X10_byteAt rfl wt_702 wt_704 ws_6 (ci := 9) rfl rfl so_74 (sh_lt so_74 rfl) [.int (M6.1 74 3)] rfl rfl rfl rfl (c_T_byteAt l G _ _) (fun r7 M8 => ?_)
    refine n_invS_i dX10_goOn_80 ok_X10_isLetter rfl wt_706 wt_707 [.int r7] rfl rfl rfl rfl (c_T_isLetter l G _ _) (fun r9 M10 => ?_)
    refine s_if_eq (tgt := 93) dX10_goOn_83 (by decide) (fun _ => ?_) (fun _ => ?_)
    · refine s_aload_n 0 dX10_goOn_93 rfl ?_
      refine s_aload_n 0 dX10_goOn_94 rfl ?_
      refine n_getI dX10_goOn_95 okf_T_29_9 rfl rfl so_74 (sh_lt so_74 rfl) ?_
      refine n_invV_i dX10_goOn_98 ok_X10_byteAt rfl wt_702 wt_704 ws_6 (ci := 9) rfl rfl so_74 (sh_lt so_74 rfl) [.int (M10.1 74 3)] rfl rfl rfl rfl (c_T_byteAt l G _ _) (fun r11 M12 => ?_)
      refine n_invS_i dX10_goOn_101 ok_X10_isDigit rfl wt_713 wt_714 [.int r11] rfl rfl rfl rfl (c_T_isDigit l G _ _) (fun r13 M14 => ?_)
      refine s_if_eq (tgt := 114) dX10_goOn_104 (by decide) (fun _ => ?_) (fun _ => ?_)
      · refine s_aload_n 0 dX10_goOn_114 rfl ?_
        refine s_aload_n 0 dX10_goOn_115 rfl ?_
        refine s_aload_n 0 dX10_goOn_116 rfl ?_
        refine n_getI dX10_goOn_117 okf_T_29_9 rfl rfl so_74 (sh_lt so_74 rfl) ?_
        refine n_invV_i dX10_goOn_120 ok_X10_byteAt rfl wt_702 wt_704 ws_6 (ci := 9) rfl rfl so_74 (sh_lt so_74 rfl) [.int (M14.1 74 3)] rfl rfl rfl rfl (c_T_byteAt l G _ _) (fun r15 M16 => ?_)
        refine s_bipush (v := 59) dX10_goOn_123 (by decide) ?_
        refine s_icmp_ne (tgt := 132) dX10_goOn_125 (by decide) (fun _ => ?_) (fun _ => ?_)
        · refine s_iconst (v := 3) dX10_goOn_128 (by decide) ?_
          refine s_goto (tgt := 133) dX10_goOn_129 (by decide) ?_
          refine n_putI dX10_goOn_133 okp_T_32_9 rfl rfl so_74 (sh_lt so_74 rfl) ?_
          refine s_topM (fun M17 => ?_)
          refine s_aload_n 0 dX10_goOn_136 rfl ?_
          refine s_aload_n 0 dX10_goOn_137 rfl ?_
          refine n_getI dX10_goOn_138 okf_T_29_9 rfl rfl so_74 (sh_lt so_74 rfl) ?_
          refine s_iconst (v := 1) dX10_goOn_141 (by decide) ?_
          refine s_iadd dX10_goOn_142 ?_
          refine n_putI dX10_goOn_143 okp_T_19_9 rfl rfl so_74 (sh_lt so_74 rfl) ?_
          refine s_topM (fun M18 => ?_)
          exact n_vret dX10_goOn_146 rfl
        · refine s_iconst (v := 4) dX10_goOn_132 (by decide) ?_
          refine n_putI dX10_goOn_133 okp_T_32_9 rfl rfl so_74 (sh_lt so_74 rfl) ?_
          refine s_topM (fun M19 => ?_)
          refine s_aload_n 0 dX10_goOn_136 rfl ?_
          refine s_aload_n 0 dX10_goOn_137 rfl ?_
          refine n_getI dX10_goOn_138 okf_T_29_9 rfl rfl so_74 (sh_lt so_74 rfl) ?_
          refine s_iconst (v := 1) dX10_goOn_141 (by decide) ?_
          refine s_iadd dX10_goOn_142 ?_
          refine n_putI dX10_goOn_143 okp_T_19_9 rfl rfl so_74 (sh_lt so_74 rfl) ?_
          refine s_topM (fun M20 => ?_)
          exact n_vret dX10_goOn_146 rfl
      · refine s_aload_n 0 dX10_goOn_107 rfl ?_
        refine n_invV_u dX10_goOn_108 ok_X10_goOverNumber rfl wt_716 wt_718 ws_8 (ci := 9) rfl rfl so_74 (sh_lt so_74 rfl) [] rfl rfl rfl rfl (c_T_goOverNumber l G _) (fun r21 M22 => ?_)
        refine s_goto (tgt := 146) dX10_goOn_111 (by decide) ?_
        exact n_vret dX10_goOn_146 rfl
    · refine s_aload_n 0 dX10_goOn_86 rfl ?_
      refine n_invV_u dX10_goOn_87 ok_X10_goOverWord rfl wt_709 wt_711 ws_7 (ci := 9) rfl rfl so_74 (sh_lt so_74 rfl) [] rfl rfl rfl rfl (c_T_goOverWord l G _) (fun r23 M24 => ?_)
      refine s_goto (tgt := 146) dX10_goOn_90 (by decide) ?_
      exact n_vret dX10_goOn_146 rfl
  · refine s_aload_n 0 dX10_goOn_64 rfl ?_
    refine s_iconst (v := 0) dX10_goOn_65 (by decide) ?_
    refine n_putI dX10_goOn_66 okp_T_32_9 rfl rfl so_74 (sh_lt so_74 rfl) ?_
    refine s_topM (fun M25 => ?_)
    refine s_goto (tgt := 146) dX10_goOn_69 (by decide) ?_
    exact n_vret dX10_goOn_146 rfl
def f_T_isWord_L28  (c1 : Nat) : Nat → Int32 → Nm → Option (Int32 × Nm)
  | 0, _, _ => none
  | f + 1, v2, M => bnd (f_str_len c1 M) fun r3 M4 => if r3 ≤ v2 then (some (1, M4)) else (bnd (f_T_byteAt ((M4.1 74 3) + v2) M4) fun r5 M6 => bnd (f_str_at c1 v2 M6) fun r7 M8 => if r5 = r7 then (f_T_isWord_L28 c1 f (v2 + 1) M8) else (some (0, M8)))
theorem c_T_isWord_L28 (l : Launch) (G : Gl)  (c1 : Nat) (hc1 : c1 < 14)  : ∀ (f : Nat) (v2 : Int32)  (M : Nm), NJ l G Y_X10_isWord (zR 4 101) eI 28 [(0, aR G 74), (1, aR G (1000 + c1)), (2, .int v2)] [] M (f_T_isWord_L28 c1 f v2 M) := by
  intro f
  induction f with
  | zero => intro v2 M; exact s_none
  | succ f ih =>
    intro v2 M
    rw [f_T_isWord_L28]
    refine s_iload_n 2 dX10_isWord_28 rfl ?_
    refine s_aload_n 1 dX10_isWord_29 rfl ?_
    refine n_str_len dX10_isWord_30 wt_730 hc1 rfl rfl (fun r3 M4 => ?_)
    refine s_icmp_ge (tgt := 62) dX10_isWord_33 (by decide) (fun _ => ?_) (fun _ => ?_)
    · refine s_iconst (v := 1) dX10_isWord_62 (by decide) ?_
      exact n_zret1 dX10_isWord_63 rfl
    · refine s_aload_n 0 dX10_isWord_36 rfl ?_
      refine s_aload_n 0 dX10_isWord_37 rfl ?_
      refine n_getI dX10_isWord_38 okf_T_29_9 rfl rfl so_74 (sh_lt so_74 rfl) ?_
      refine s_iload_n 2 dX10_isWord_41 rfl ?_
      refine s_iadd dX10_isWord_42 ?_
      refine n_invV_i dX10_isWord_43 ok_X10_byteAt rfl wt_702 wt_704 ws_6 (ci := 9) rfl rfl so_74 (sh_lt so_74 rfl) [.int ((M4.1 74 3) + v2)] rfl rfl rfl rfl (c_T_byteAt l G _ _) (fun r5 M6 => ?_)
      refine s_aload_n 1 dX10_isWord_46 rfl ?_
      refine s_iload_n 2 dX10_isWord_47 rfl ?_
      refine n_str_at dX10_isWord_48 wt_740 hc1 rfl rfl (fun r7 M8 => ?_)
      refine s_icmp_eq (tgt := 56) dX10_isWord_51 (by decide) (fun _ => ?_) (fun _ => ?_)
      · refine s_iinc (v := 1) (lv' := [(2, .int (v2 + 1)), (0, aR G 74), (1, aR G (1000 + c1))]) 2 dX10_isWord_56 rfl (by decide) rfl rfl ?_
        refine s_goto (tgt := 28) dX10_isWord_59 (by decide) ?_
        refine s_lv [1, 2, 0] (lv' := [(0, aR G 74), (1, aR G (1000 + c1)), (2, .int (v2 + 1))]) rfl ?_
        exact ih _ _
      · refine s_iconst (v := 0) dX10_isWord_54 (by decide) ?_
        exact n_zret0 dX10_isWord_55 rfl
def f_T_isWord (c1 : Nat) (M : Nm) : Option (Int32 × Nm) := if (M.1 74 2) = 1 then (bnd (f_str_len c1 M) fun r1 M2 => if ((M.1 74 4) - (M.1 74 3)) = r1 then (f_T_isWord_L28 c1 FU 0 M2) else (some (0, M2))) else (some (0, M))
theorem c_T_isWord (l : Launch) (G : Gl) (c1 : Nat) (hc1 : c1 < 14) (M : Nm) : NJ l G Y_X10_isWord (zR 4 101) eI 0 (lv_args 0 [aR G 74, aR G (1000 + c1)]) [] M (f_T_isWord c1 M) := by
  unfold f_T_isWord
  show NJ l G Y_X10_isWord (zR 4 101) eI 0 [(0, aR G 74), (1, aR G (1000 + c1))] [] M _
  refine s_aload_n 0 dX10_isWord_0 rfl ?_
  refine n_getI dX10_isWord_1 okf_T_32_9 rfl rfl so_74 (sh_lt so_74 rfl) ?_
  refine s_iconst (v := 1) dX10_isWord_4 (by decide) ?_
  refine s_icmp_ne (tgt := 24) dX10_isWord_5 (by decide) (fun _ => ?_) (fun _ => ?_)
  · refine s_aload_n 0 dX10_isWord_8 rfl ?_
    refine n_getI dX10_isWord_9 okf_T_19_9 rfl rfl so_74 (sh_lt so_74 rfl) ?_
    refine s_aload_n 0 dX10_isWord_12 rfl ?_
    refine n_getI dX10_isWord_13 okf_T_29_9 rfl rfl so_74 (sh_lt so_74 rfl) ?_
    refine s_isub dX10_isWord_16 ?_
    refine s_aload_n 1 dX10_isWord_17 rfl ?_
    refine n_str_len dX10_isWord_18 wt_730 hc1 rfl rfl (fun r1 M2 => ?_)
    refine s_icmp_eq (tgt := 26) dX10_isWord_21 (by decide) (fun _ => ?_) (fun _ => ?_)
    · refine s_iconst (v := 0) dX10_isWord_26 (by decide) ?_
      refine s_istore_n (i := 2) (lv' := [(2, .int 0), (0, aR G 74), (1, aR G (1000 + c1))]) dX10_isWord_27 rfl rfl rfl ?_
      refine s_lv [1, 2, 0] (lv' := [(0, aR G 74), (1, aR G (1000 + c1)), (2, .int 0)]) rfl ?_
      refine c_T_isWord_L28 l G _ hc1 FU _ _
    · refine s_iconst (v := 0) dX10_isWord_24 (by decide) ?_
      exact n_zret0 dX10_isWord_25 rfl
  · refine s_iconst (v := 0) dX10_isWord_24 (by decide) ?_
    exact n_zret0 dX10_isWord_25 rfl
def f_T_isNumber (v1 : Int32) (v2 : Int32) (M : Nm) : Option (Int32 × Nm) := if (M.1 74 2) = 2 then (if (M.1 74 5) < v1 then (some (0, M)) else (if v2 < (M.1 74 5) then (some (0, M)) else (some (1, M)))) else (some (0, M))
theorem c_T_isNumber (l : Launch) (G : Gl) (v1 : Int32) (v2 : Int32)  (M : Nm) : NJ l G Y_X10_isNumber (zR 0 0) eI 0 (lv_args 0 [aR G 74, .int v1, .int v2]) [] M (f_T_isNumber v1 v2 M) := by
  unfold f_T_isNumber
  show NJ l G Y_X10_isNumber (zR 0 0) eI 0 [(0, aR G 74), (1, .int v1), (2, .int v2)] [] M _
  refine s_aload_n 0 dX10_isNumber_0 rfl ?_
  refine n_getI dX10_isNumber_1 okf_T_32_9 rfl rfl so_74 (sh_lt so_74 rfl) ?_
  refine s_iconst (v := 2) dX10_isNumber_4 (by decide) ?_
  refine s_icmp_ne (tgt := 28) dX10_isNumber_5 (by decide) (fun _ => ?_) (fun _ => ?_)
  · refine s_aload_n 0 dX10_isNumber_8 rfl ?_
    refine n_getI dX10_isNumber_9 okf_T_65_9 rfl rfl so_74 (sh_lt so_74 rfl) ?_
    refine s_iload_n 1 dX10_isNumber_12 rfl ?_
    refine s_icmp_lt (tgt := 28) dX10_isNumber_13 (by decide) (fun _ => ?_) (fun _ => ?_)
    · refine s_iconst (v := 0) dX10_isNumber_28 (by decide) ?_
      exact n_zret0 dX10_isNumber_29 rfl
    · refine s_aload_n 0 dX10_isNumber_16 rfl ?_
      refine n_getI dX10_isNumber_17 okf_T_65_9 rfl rfl so_74 (sh_lt so_74 rfl) ?_
      refine s_iload_n 2 dX10_isNumber_20 rfl ?_
      refine s_icmp_gt (tgt := 28) dX10_isNumber_21 (by decide) (fun _ => ?_) (fun _ => ?_)
      · refine s_iconst (v := 0) dX10_isNumber_28 (by decide) ?_
        exact n_zret0 dX10_isNumber_29 rfl
      · refine s_iconst (v := 1) dX10_isNumber_24 (by decide) ?_
        refine s_goto (tgt := 29) dX10_isNumber_25 (by decide) ?_
        exact n_zret1 dX10_isNumber_29 rfl
  · refine s_iconst (v := 0) dX10_isNumber_28 (by decide) ?_
    exact n_zret0 dX10_isNumber_29 rfl
def f_T_takeSmudge (c1 : Nat) (v2 : Int32) (M : Nm) : Option (Int32 × Nm) := bnd (f_T_goOn M) fun r1 M2 => bnd (f_T_isNumber 0 47 M2) fun r3 M4 => if r3 = 0 then (some (0, M4)) else (bnd (f_L_makeSmudged c1 (M4.1 74 5) v2 M4) fun r5 M6 => bnd (f_T_goOn M6) fun r7 M8 => some (1, M8))
theorem c_T_takeSmudge (l : Launch) (G : Gl) (c1 : Nat) (v2 : Int32) (hc1 : (sh c1).1 = 8) (M : Nm) : NJ l G Y_X10_takeSmudge (zR 3 70) eI 0 (lv_args 0 [aR G 74, aR G c1, .int v2]) [] M (f_T_takeSmudge c1 v2 M) := by
  unfold f_T_takeSmudge
  show NJ l G Y_X10_takeSmudge (zR 3 70) eI 0 [(0, aR G 74), (1, aR G c1), (2, .int v2)] [] M _
  refine s_aload_n 0 dX10_takeSmudge_0 rfl ?_
  refine n_invV_u dX10_takeSmudge_1 ok_X10_goOn rfl wt_698 wt_700 ws_5 (ci := 9) rfl rfl so_74 (sh_lt so_74 rfl) [] rfl rfl rfl rfl (c_T_goOn l G _) (fun r1 M2 => ?_)
  refine s_aload_n 0 dX10_takeSmudge_4 rfl ?_
  refine s_iconst (v := 0) dX10_takeSmudge_5 (by decide) ?_
  refine s_bipush (v := 47) dX10_takeSmudge_6 (by decide) ?_
  refine n_invV_i dX10_takeSmudge_8 ok_X10_isNumber rfl wt_782 wt_784 ws_12 (ci := 9) rfl rfl so_74 (sh_lt so_74 rfl) [.int 0, .int 47] rfl rfl rfl rfl (c_T_isNumber l G _ _ _) (fun r3 M4 => ?_)
  refine s_if_ne (tgt := 16) dX10_takeSmudge_11 (by decide) (fun _ => ?_) (fun _ => ?_)
  · refine s_iconst (v := 0) dX10_takeSmudge_14 (by decide) ?_
    exact n_zret0 dX10_takeSmudge_15 rfl
  · refine s_aload_n 1 dX10_takeSmudge_16 rfl ?_
    refine s_aload_n 0 dX10_takeSmudge_17 rfl ?_
    refine n_getI dX10_takeSmudge_18 okf_T_65_9 rfl rfl so_74 (sh_lt so_74 rfl) ?_
    refine s_iload_n 2 dX10_takeSmudge_21 rfl ?_
    refine n_invV_u dX10_takeSmudge_22 ok_X5_makeSmudged rfl wt_786 wt_272 wt_273 (ci := 8) rfl rfl hc1 (sh_lt hc1 rfl) [.int (M4.1 74 5), .int v2] rfl rfl rfl rfl (c_L_makeSmudged l G _ _ _ hc1 _) (fun r5 M6 => ?_)
    refine s_aload_n 0 dX10_takeSmudge_25 rfl ?_
    refine n_invV_u dX10_takeSmudge_26 ok_X10_goOn rfl wt_698 wt_700 ws_5 (ci := 9) rfl rfl so_74 (sh_lt so_74 rfl) [] rfl rfl rfl rfl (c_T_goOn l G _) (fun r7 M8 => ?_)
    refine s_iconst (v := 1) dX10_takeSmudge_29 (by decide) ?_
    exact n_zret1 dX10_takeSmudge_30 rfl
def f_T_kindNamed_L2   : Nat → Int32 → Nm → Option ((Option Nat) × Nm)
  | 0, _, _ => none
  | f + 1, v2, M => if (nI 6) ≤ v2 then (some (none, M)) else (grd (inb v2 6) <| bnd (f_T_isWord ((sh (knd v2)).1 - 1) M) fun r2 M3 => if r2 = 0 then (f_T_kindNamed_L2 f (v2 + 1) M3) else (grd (inb v2 6) <| some (some (knd v2), M3)))
theorem c_T_kindNamed_L2 (l : Launch) (G : Gl)     : ∀ (f : Nat) (v2 : Int32)  (M : Nm), NJ l G Y_X10_kindNamed (zR 5 123) (eR G) 2 [(0, aR G 74), (1, aR G 2), (2, .int v2)] [] M (f_T_kindNamed_L2 f v2 M) := by
  intro f
  induction f with
  | zero => intro v2 M; exact s_none
  | succ f ih =>
    intro v2 M
    rw [f_T_kindNamed_L2]
    refine s_iload_n 2 dX10_kindNamed_2 rfl ?_
    refine s_aload_n 1 dX10_kindNamed_3 rfl ?_
    refine n_len 4 dX10_kindNamed_4 rfl sa_2 ?_
    refine s_icmp_ge (tgt := 31) dX10_kindNamed_5 (by decide) (fun _ => ?_) (fun _ => ?_)
    · refine s_null dX10_kindNamed_31 ?_
      exact n_aretN dX10_kindNamed_32 rfl
    · refine s_aload_n 0 dX10_kindNamed_8 rfl ?_
      refine s_aload_n 1 dX10_kindNamed_9 rfl ?_
      refine s_iload_n 2 dX10_kindNamed_10 rfl ?_
      refine n_aal (x := (knd v2)) 4 ⟨rfl, rfl⟩ dX10_kindNamed_11 sa_2 r_knd (fun h1 => ?_)
      refine n_getWord dX10_kindNamed_12 okfK_T_98 (ly_knd h1) ?_
      refine n_invV_i dX10_kindNamed_15 ok_X10_isWord rfl wt_726 wt_728 ws_10 (ci := 9) rfl rfl so_74 (sh_lt so_74 rfl) [aR G (1000 + ((sh (knd v2)).1 - 1))] rfl rfl rfl rfl (c_T_isWord l G _ (isK_str (ly_knd h1)) _) (fun r2 M3 => ?_)
      refine s_if_eq (tgt := 25) dX10_kindNamed_18 (by decide) (fun _ => ?_) (fun _ => ?_)
      · refine s_iinc (v := 1) (lv' := [(2, .int (v2 + 1)), (0, aR G 74), (1, aR G 2)]) 2 dX10_kindNamed_25 rfl (by decide) rfl rfl ?_
        refine s_goto (tgt := 2) dX10_kindNamed_28 (by decide) ?_
        refine s_lv [1, 2, 0] (lv' := [(0, aR G 74), (1, aR G 2), (2, .int (v2 + 1))]) rfl ?_
        exact ih _ _
      · refine s_aload_n 1 dX10_kindNamed_21 rfl ?_
        refine s_iload_n 2 dX10_kindNamed_22 rfl ?_
        refine n_aal (x := (knd v2)) 4 ⟨rfl, rfl⟩ dX10_kindNamed_23 sa_2 r_knd (fun h4 => ?_)
        exact n_aret dX10_kindNamed_24 rfl
def f_T_kindNamed  (M : Nm) : Option ((Option Nat) × Nm) := f_T_kindNamed_L2 FU 0 M
theorem c_T_kindNamed (l : Launch) (G : Gl)   (M : Nm) : NJ l G Y_X10_kindNamed (zR 5 123) (eR G) 0 (lv_args 0 [aR G 74, aR G 2]) [] M (f_T_kindNamed  M) := by
  unfold f_T_kindNamed
  show NJ l G Y_X10_kindNamed (zR 5 123) (eR G) 0 [(0, aR G 74), (1, aR G 2)] [] M _
  refine s_iconst (v := 0) dX10_kindNamed_0 (by decide) ?_
  refine s_istore_n (i := 2) (lv' := [(2, .int 0), (0, aR G 74), (1, aR G 2)]) dX10_kindNamed_1 rfl rfl rfl ?_
  refine s_lv [1, 2, 0] (lv' := [(0, aR G 74), (1, aR G 2), (2, .int 0)]) rfl ?_
  refine c_T_kindNamed_L2 l G FU _ _
def f_T_takeInk (c1 : Nat) (M : Nm) : Option (Int32 × Nm) := bnd (f_T_isWord 9 M) fun r1 M2 => if r1 = 0 then (some (1, M2)) else (bnd (f_T_goOn M2) fun r3 M4 => bnd (f_T_isNumber 0 999 M4) fun r5 M6 => if r5 = 0 then (some (0, M6)) else (bl (mI M6 c1 2 (M6.1 74 5)) fun M7 => bnd (f_T_goOn M7) fun r8 M9 => some (1, M9)))
theorem c_T_takeInk (l : Launch) (G : Gl) (c1 : Nat) (hc1 : (sh c1).1 = 7) (M : Nm) : NJ l G Y_X10_takeInk (zR 5 123) eI 0 (lv_args 0 [aR G 74, aR G c1]) [] M (f_T_takeInk c1 M) := by
  unfold f_T_takeInk
  show NJ l G Y_X10_takeInk (zR 5 123) eI 0 [(0, aR G 74), (1, aR G c1)] [] M _
  refine s_aload_n 0 dX10_takeInk_0 rfl ?_
  refine s_ldcS (tx := "ink") 9 dX10_takeInk_1 rfl ?_
  refine n_invV_i dX10_takeInk_3 ok_X10_isWord rfl wt_726 wt_728 ws_10 (ci := 9) rfl rfl so_74 (sh_lt so_74 rfl) [aR G (1000 + 9)] rfl rfl rfl rfl (c_T_isWord l G _ (by decide) _) (fun r1 M2 => ?_)
  refine s_if_ne (tgt := 11) dX10_takeInk_6 (by decide) (fun _ => ?_) (fun _ => ?_)
  · refine s_iconst (v := 1) dX10_takeInk_9 (by decide) ?_
    exact n_zret1 dX10_takeInk_10 rfl
  · refine s_aload_n 0 dX10_takeInk_11 rfl ?_
    refine n_invV_u dX10_takeInk_12 ok_X10_goOn rfl wt_698 wt_700 ws_5 (ci := 9) rfl rfl so_74 (sh_lt so_74 rfl) [] rfl rfl rfl rfl (c_T_goOn l G _) (fun r3 M4 => ?_)
    refine s_aload_n 0 dX10_takeInk_15 rfl ?_
    refine s_iconst (v := 0) dX10_takeInk_16 (by decide) ?_
    refine s_sipush (v := 999) dX10_takeInk_17 (by decide) ?_
    refine n_invV_i dX10_takeInk_20 ok_X10_isNumber rfl wt_782 wt_784 ws_12 (ci := 9) rfl rfl so_74 (sh_lt so_74 rfl) [.int 0, .int 999] rfl rfl rfl rfl (c_T_isNumber l G _ _ _) (fun r5 M6 => ?_)
    refine s_if_ne (tgt := 28) dX10_takeInk_23 (by decide) (fun _ => ?_) (fun _ => ?_)
    · refine s_iconst (v := 0) dX10_takeInk_26 (by decide) ?_
      exact n_zret0 dX10_takeInk_27 rfl
    · refine s_aload_n 1 dX10_takeInk_28 rfl ?_
      refine s_aload_n 0 dX10_takeInk_29 rfl ?_
      refine n_getI dX10_takeInk_30 okf_T_65_9 rfl rfl so_74 (sh_lt so_74 rfl) ?_
      refine n_putI dX10_takeInk_33 okp_T_87_7 rfl rfl hc1 (sh_lt hc1 rfl) ?_
      refine s_topM (fun M7 => ?_)
      refine s_aload_n 0 dX10_takeInk_36 rfl ?_
      refine n_invV_u dX10_takeInk_37 ok_X10_goOn rfl wt_698 wt_700 ws_5 (ci := 9) rfl rfl so_74 (sh_lt so_74 rfl) [] rfl rfl rfl rfl (c_T_goOn l G _) (fun r8 M9 => ?_)
      refine s_iconst (v := 1) dX10_takeInk_40 (by decide) ?_
      exact n_zret1 dX10_takeInk_41 rfl
def f_T_wayNamed  (M : Nm) : Option (Int32 × Nm) := bnd (f_T_isWord 10 M) fun r1 M2 => if r1 = 0 then (bnd (f_T_isWord 11 M2) fun r3 M4 => if r3 = 0 then (bnd (f_T_isWord 12 M4) fun r5 M6 => if r5 = 0 then (bnd (f_T_isWord 13 M6) fun r7 M8 => if r7 = 0 then (some ((-1), M8)) else (some (3, M8))) else (some (2, M6))) else (some (1, M4))) else (some (0, M2))
theorem c_T_wayNamed (l : Launch) (G : Gl)   (M : Nm) : NJ l G Y_X10_wayNamed (zR 5 123) eI 0 (lv_args 0 [aR G 74]) [] M (f_T_wayNamed  M) := by
  unfold f_T_wayNamed
  show NJ l G Y_X10_wayNamed (zR 5 123) eI 0 [(0, aR G 74)] [] M _
  refine s_aload_n 0 dX10_wayNamed_0 rfl ?_
  refine s_ldcS (tx := "up") 10 dX10_wayNamed_1 rfl ?_
  refine n_invV_i dX10_wayNamed_3 ok_X10_isWord rfl wt_726 wt_728 ws_10 (ci := 9) rfl rfl so_74 (sh_lt so_74 rfl) [aR G (1000 + 10)] rfl rfl rfl rfl (c_T_isWord l G _ (by decide) _) (fun r1 M2 => ?_)
  refine s_if_eq (tgt := 11) dX10_wayNamed_6 (by decide) (fun _ => ?_) (fun _ => ?_)
  · refine s_aload_n 0 dX10_wayNamed_11 rfl ?_
    refine s_ldcS (tx := "right") 11 dX10_wayNamed_12 rfl ?_
    refine n_invV_i dX10_wayNamed_14 ok_X10_isWord rfl wt_726 wt_728 ws_10 (ci := 9) rfl rfl so_74 (sh_lt so_74 rfl) [aR G (1000 + 11)] rfl rfl rfl rfl (c_T_isWord l G _ (by decide) _) (fun r3 M4 => ?_)
    refine s_if_eq (tgt := 22) dX10_wayNamed_17 (by decide) (fun _ => ?_) (fun _ => ?_)
    · refine s_aload_n 0 dX10_wayNamed_22 rfl ?_
      refine s_ldcS (tx := "down") 12 dX10_wayNamed_23 rfl ?_
      refine n_invV_i dX10_wayNamed_25 ok_X10_isWord rfl wt_726 wt_728 ws_10 (ci := 9) rfl rfl so_74 (sh_lt so_74 rfl) [aR G (1000 + 12)] rfl rfl rfl rfl (c_T_isWord l G _ (by decide) _) (fun r5 M6 => ?_)
      refine s_if_eq (tgt := 33) dX10_wayNamed_28 (by decide) (fun _ => ?_) (fun _ => ?_)
      · refine s_aload_n 0 dX10_wayNamed_33 rfl ?_
        refine s_ldcS (tx := "back") 13 dX10_wayNamed_34 rfl ?_
        refine n_invV_i dX10_wayNamed_36 ok_X10_isWord rfl wt_726 wt_728 ws_10 (ci := 9) rfl rfl so_74 (sh_lt so_74 rfl) [aR G (1000 + 13)] rfl rfl rfl rfl (c_T_isWord l G _ (by decide) _) (fun r7 M8 => ?_)
        refine s_if_eq (tgt := 46) dX10_wayNamed_39 (by decide) (fun _ => ?_) (fun _ => ?_)
        · refine s_iconst (v := (-1)) dX10_wayNamed_46 (by decide) ?_
          exact n_iret dX10_wayNamed_47 rfl
        · refine s_iconst (v := 3) dX10_wayNamed_42 (by decide) ?_
          refine s_goto (tgt := 47) dX10_wayNamed_43 (by decide) ?_
          exact n_iret dX10_wayNamed_47 rfl
      · refine s_iconst (v := 2) dX10_wayNamed_31 (by decide) ?_
        exact n_iret dX10_wayNamed_32 rfl
    · refine s_iconst (v := 1) dX10_wayNamed_20 (by decide) ?_
      exact n_iret dX10_wayNamed_21 rfl
  · refine s_iconst (v := 0) dX10_wayNamed_9 (by decide) ?_
    exact n_iret dX10_wayNamed_10 rfl
def f_T_takeStrokes_L2  (c1 : Nat) : Nat → Int32 → Nm → Option (Int32 × Nm)
  | 0, _, _ => none
  | f + 1, v2, M => if 8 ≤ v2 then (some (1, M)) else (bnd (f_T_wayNamed M) fun r1 M2 => if 0 ≤ r1 then (bnd (f_T_goOn M2) fun r3 M4 => bnd (f_T_isNumber 1 7 M4) fun r5 M6 => if r5 = 0 then (some (0, M6)) else (bnd (f_H_addStroke c1 r1 (M6.1 74 5) M6) fun r7 M8 => bnd (f_T_goOn M8) fun r9 M10 => f_T_takeStrokes_L2 c1 f (v2 + 1) M10)) else (some (1, M2)))
theorem c_T_takeStrokes_L2 (l : Launch) (G : Gl)  (c1 : Nat) (hc1 : (sh c1).1 = 7)  : ∀ (f : Nat) (v2 : Int32)  (M : Nm), NJ l G Y_X10_takeStrokes (zR 6 143) eI 2 [(0, aR G 74), (1, aR G c1), (2, .int v2)] [] M (f_T_takeStrokes_L2 c1 f v2 M) := by
  intro f
  induction f with
  | zero => intro v2 M; exact s_none
  | succ f ih =>
    intro v2 M
    rw [f_T_takeStrokes_L2]
    refine s_iload_n 2 dX10_takeStrokes_2 rfl ?_
    refine s_bipush (v := 8) dX10_takeStrokes_3 (by decide) ?_
    refine s_icmp_ge (tgt := 55) dX10_takeStrokes_5 (by decide) (fun _ => ?_) (fun _ => ?_)
    · refine s_iconst (v := 1) dX10_takeStrokes_55 (by decide) ?_
      exact n_zret1 dX10_takeStrokes_56 rfl
    · refine s_aload_n 0 dX10_takeStrokes_8 rfl ?_
      refine n_invV_i dX10_takeStrokes_9 ok_X10_wayNamed rfl wt_808 wt_810 ws_17 (ci := 9) rfl rfl so_74 (sh_lt so_74 rfl) [] rfl rfl rfl rfl (c_T_wayNamed l G _) (fun r1 M2 => ?_)
      refine s_istore_n (i := 3) (lv' := [(3, .int r1), (0, aR G 74), (1, aR G c1), (2, .int v2)]) dX10_takeStrokes_12 rfl rfl rfl ?_
      refine s_iload_n 0 dX10_takeStrokes_13 rfl ?_
      refine s_if_ge (tgt := 19) dX10_takeStrokes_14 (by decide) (fun _ => ?_) (fun _ => ?_)
      · refine s_aload_n 1 dX10_takeStrokes_19 rfl ?_
        refine n_invV_u dX10_takeStrokes_20 ok_X10_goOn rfl wt_698 wt_700 ws_5 (ci := 9) rfl rfl so_74 (sh_lt so_74 rfl) [] rfl rfl rfl rfl (c_T_goOn l G _) (fun r3 M4 => ?_)
        refine s_aload_n 1 dX10_takeStrokes_23 rfl ?_
        refine s_iconst (v := 1) dX10_takeStrokes_24 (by decide) ?_
        refine s_bipush (v := 7) dX10_takeStrokes_25 (by decide) ?_
        refine n_invV_i dX10_takeStrokes_27 ok_X10_isNumber rfl wt_782 wt_784 ws_12 (ci := 9) rfl rfl so_74 (sh_lt so_74 rfl) [.int 1, .int 7] rfl rfl rfl rfl (c_T_isNumber l G _ _ _) (fun r5 M6 => ?_)
        refine s_if_ne (tgt := 35) dX10_takeStrokes_30 (by decide) (fun _ => ?_) (fun _ => ?_)
        · refine s_iconst (v := 0) dX10_takeStrokes_33 (by decide) ?_
          exact n_zret0 dX10_takeStrokes_34 rfl
        · refine s_aload_n 2 dX10_takeStrokes_35 rfl ?_
          refine s_iload_n 0 dX10_takeStrokes_36 rfl ?_
          refine s_aload_n 1 dX10_takeStrokes_37 rfl ?_
          refine n_getI dX10_takeStrokes_38 okf_T_65_9 rfl rfl so_74 (sh_lt so_74 rfl) ?_
          refine n_invV_i dX10_takeStrokes_41 ok_X2_addStroke rfl wt_816 wt_381 wt_382 (ci := 7) rfl rfl hc1 (sh_lt hc1 rfl) [.int r1, .int (M6.1 74 5)] rfl rfl rfl rfl (c_H_addStroke l G _ _ _ hc1 _) (fun r7 M8 => ?_)
          refine s_pop dX10_takeStrokes_44 rfl ?_
          refine s_aload_n 1 dX10_takeStrokes_45 rfl ?_
          refine n_invV_u dX10_takeStrokes_46 ok_X10_goOn rfl wt_698 wt_700 ws_5 (ci := 9) rfl rfl so_74 (sh_lt so_74 rfl) [] rfl rfl rfl rfl (c_T_goOn l G _) (fun r9 M10 => ?_)
          refine s_iinc (v := 1) (lv' := [(2, .int (v2 + 1)), (3, .int r1), (0, aR G 74), (1, aR G c1)]) 3 dX10_takeStrokes_49 rfl (by decide) rfl rfl ?_
          refine s_goto (tgt := 2) dX10_takeStrokes_52 (by decide) ?_
          refine s_lv [2, 3, 0] (lv' := [(0, aR G 74), (1, aR G c1), (2, .int (v2 + 1))]) rfl ?_
          exact ih _ _
      · refine s_iconst (v := 1) dX10_takeStrokes_17 (by decide) ?_
        exact n_zret1 dX10_takeStrokes_18 rfl
def f_T_takeStrokes (c1 : Nat) (M : Nm) : Option (Int32 × Nm) := f_T_takeStrokes_L2 c1 FU 0 M
theorem c_T_takeStrokes (l : Launch) (G : Gl) (c1 : Nat) (hc1 : (sh c1).1 = 7) (M : Nm) : NJ l G Y_X10_takeStrokes (zR 6 143) eI 0 (lv_args 0 [aR G 74, aR G c1]) [] M (f_T_takeStrokes c1 M) := by
  unfold f_T_takeStrokes
  show NJ l G Y_X10_takeStrokes (zR 6 143) eI 0 [(0, aR G 74), (1, aR G c1)] [] M _
  refine s_iconst (v := 0) dX10_takeStrokes_0 (by decide) ?_
  refine s_istore_n (i := 2) (lv' := [(2, .int 0), (0, aR G 74), (1, aR G c1)]) dX10_takeStrokes_1 rfl rfl rfl ?_
  refine s_lv [1, 2, 0] (lv' := [(0, aR G 74), (1, aR G c1), (2, .int 0)]) rfl ?_
  refine c_T_takeStrokes_L2 l G _ hc1 FU _ _
def f_T_takeHand (c1 : Nat) (c2 : Nat) (M : Nm) : Option (Int32 × Nm) := bnd (f_T_goOn M) fun r1 M2 => bnd (f_T_isWord 8 M2) fun r3 M4 => if r3 = 0 then (some (0, M4)) else (bnd (f_T_goOn M4) fun r5 M6 => bnd (f_T_isNumber 0 47 M6) fun r7 M8 => if r7 = 0 then (some (0, M8)) else (bnd (f_L_newHand c1 c2 (M8.1 74 5) M8) fun r9 M10 => ifn r9 (some (0, M10)) fun p11 => grd (isb 7 p11) <| bnd (f_T_goOn M10) fun r13 M14 => bnd (f_T_takeInk p11 M14) fun r15 M16 => if r15 = 0 then (some (0, M16)) else (bnd (f_T_takeStrokes p11 M16) fun r17 M18 => if r17 = 0 then (some (0, M18)) else (some (1, M18)))))
theorem c_T_takeHand (l : Launch) (G : Gl) (c1 : Nat) (c2 : Nat) (hc1 : (sh c1).1 = 8) (hc2 : isK c2) (M : Nm) : NJ l G Y_X10_takeHand (zR 7 166) eI 0 (lv_args 0 [aR G 74, aR G c1, aR G c2]) [] M (f_T_takeHand c1 c2 M) := by
  unfold f_T_takeHand
  show NJ l G Y_X10_takeHand (zR 7 166) eI 0 [(0, aR G 74), (1, aR G c1), (2, aR G c2)] [] M _
  refine s_aload_n 0 dX10_takeHand_0 rfl ?_
  refine n_invV_u dX10_takeHand_1 ok_X10_goOn rfl wt_698 wt_700 ws_5 (ci := 9) rfl rfl so_74 (sh_lt so_74 rfl) [] rfl rfl rfl rfl (c_T_goOn l G _) (fun r1 M2 => ?_)
  refine s_aload_n 0 dX10_takeHand_4 rfl ?_
  refine s_ldcS (tx := "at") 8 dX10_takeHand_5 rfl ?_
  refine n_invV_i dX10_takeHand_7 ok_X10_isWord rfl wt_726 wt_728 ws_10 (ci := 9) rfl rfl so_74 (sh_lt so_74 rfl) [aR G (1000 + 8)] rfl rfl rfl rfl (c_T_isWord l G _ (by decide) _) (fun r3 M4 => ?_)
  refine s_if_ne (tgt := 15) dX10_takeHand_10 (by decide) (fun _ => ?_) (fun _ => ?_)
  · refine s_iconst (v := 0) dX10_takeHand_13 (by decide) ?_
    exact n_zret0 dX10_takeHand_14 rfl
  · refine s_aload_n 0 dX10_takeHand_15 rfl ?_
    refine n_invV_u dX10_takeHand_16 ok_X10_goOn rfl wt_698 wt_700 ws_5 (ci := 9) rfl rfl so_74 (sh_lt so_74 rfl) [] rfl rfl rfl rfl (c_T_goOn l G _) (fun r5 M6 => ?_)
    refine s_aload_n 0 dX10_takeHand_19 rfl ?_
    refine s_iconst (v := 0) dX10_takeHand_20 (by decide) ?_
    refine s_bipush (v := 47) dX10_takeHand_21 (by decide) ?_
    refine n_invV_i dX10_takeHand_23 ok_X10_isNumber rfl wt_782 wt_784 ws_12 (ci := 9) rfl rfl so_74 (sh_lt so_74 rfl) [.int 0, .int 47] rfl rfl rfl rfl (c_T_isNumber l G _ _ _) (fun r7 M8 => ?_)
    refine s_if_ne (tgt := 31) dX10_takeHand_26 (by decide) (fun _ => ?_) (fun _ => ?_)
    · refine s_iconst (v := 0) dX10_takeHand_29 (by decide) ?_
      exact n_zret0 dX10_takeHand_30 rfl
    · refine s_aload_n 1 dX10_takeHand_31 rfl ?_
      refine s_aload_n 2 dX10_takeHand_32 rfl ?_
      refine s_aload_n 0 dX10_takeHand_33 rfl ?_
      refine n_getI dX10_takeHand_34 okf_T_65_9 rfl rfl so_74 (sh_lt so_74 rfl) ?_
      refine n_invV_r dX10_takeHand_37 ok_X5_newHand rfl wt_798 wt_353 wt_354 (ci := 8) rfl rfl hc1 (sh_lt hc1 rfl) [aR G c2, .int (M8.1 74 5)] rfl rfl rfl rfl (c_L_newHand l G _ _ _ hc1 hc2 _) (fun r9 M10 => ?_)
      refine s_split ?_ (fun p11 => ?_)
      · refine s_astore_nN (i := 3) (lv' := [(3, .null), (0, aR G 74), (1, aR G c1), (2, aR G c2)]) dX10_takeHand_40 rfl rfl rfl ?_
        refine s_aload_nN 0 dX10_takeHand_41 rfl ?_
        refine s_ifnonnullN dX10_takeHand_42 ?_
        refine s_iconst (v := 0) dX10_takeHand_45 (by decide) ?_
        exact n_zret0 dX10_takeHand_46 rfl
      · refine s_grd (fun h12 => ?_)
        refine s_astore_n (i := 3) (lv' := [(3, aR G p11), (0, aR G 74), (1, aR G c1), (2, aR G c2)]) dX10_takeHand_40 rfl rfl rfl ?_
        refine s_aload_n 0 dX10_takeHand_41 rfl ?_
        refine s_ifnonnullS (tgt := 47) dX10_takeHand_42 (by decide) ?_
        refine s_aload_n 1 dX10_takeHand_47 rfl ?_
        refine n_invV_u dX10_takeHand_48 ok_X10_goOn rfl wt_698 wt_700 ws_5 (ci := 9) rfl rfl so_74 (sh_lt so_74 rfl) [] rfl rfl rfl rfl (c_T_goOn l G _) (fun r13 M14 => ?_)
        refine s_aload_n 1 dX10_takeHand_51 rfl ?_
        refine s_aload_n 0 dX10_takeHand_52 rfl ?_
        refine n_invV_i dX10_takeHand_53 ok_X10_takeInk rfl wt_799 wt_801 ws_15 (ci := 9) rfl rfl so_74 (sh_lt so_74 rfl) [aR G p11] rfl rfl rfl rfl (c_T_takeInk l G _ (isb_1 h12) _) (fun r15 M16 => ?_)
        refine s_if_eq (tgt := 71) dX10_takeHand_56 (by decide) (fun _ => ?_) (fun _ => ?_)
        · refine s_iconst (v := 0) dX10_takeHand_71 (by decide) ?_
          exact n_zret0 dX10_takeHand_72 rfl
        · refine s_aload_n 1 dX10_takeHand_59 rfl ?_
          refine s_aload_n 0 dX10_takeHand_60 rfl ?_
          refine n_invV_i dX10_takeHand_61 ok_X10_takeStrokes rfl wt_804 wt_806 ws_16 (ci := 9) rfl rfl so_74 (sh_lt so_74 rfl) [aR G p11] rfl rfl rfl rfl (c_T_takeStrokes l G _ (isb_1 h12) _) (fun r17 M18 => ?_)
          refine s_if_eq (tgt := 71) dX10_takeHand_64 (by decide) (fun _ => ?_) (fun _ => ?_)
          · refine s_iconst (v := 0) dX10_takeHand_71 (by decide) ?_
            exact n_zret0 dX10_takeHand_72 rfl
          · refine s_iconst (v := 1) dX10_takeHand_67 (by decide) ?_
            refine s_goto (tgt := 72) dX10_takeHand_68 (by decide) ?_
            exact n_zret1 dX10_takeHand_72 rfl
def f_T_takeItem (c1 : Nat) (M : Nm) : Option (Int32 × Nm) := bnd (f_T_isWord 6 M) fun r1 M2 => if r1 = 0 then (bnd (f_T_isWord 7 M2) fun r3 M4 => if r3 = 0 then (bnd (f_T_kindNamed M4) fun r5 M6 => ifn r5 (some (0, M6)) fun p7 => grd (isKb p7) <| bnd (f_L_isFull c1 M6) fun r9 M10 => if r9 = 0 then (bnd (f_T_takeHand c1 p7 M10) fun r11 M12 => if r11 = 0 then (some (0, M12)) else (some (1, M12))) else (some (0, M10))) else (bnd (f_T_takeSmudge c1 0 M4) fun r13 M14 => grd (decide (r13 = 0) || decide (r13 = 1)) (some (r13, M14)))) else (bnd (f_T_takeSmudge c1 1 M2) fun r15 M16 => grd (decide (r15 = 0) || decide (r15 = 1)) (some (r15, M16)))
theorem c_T_takeItem (l : Launch) (G : Gl) (c1 : Nat) (hc1 : (sh c1).1 = 8) (M : Nm) : NJ l G Y_X10_takeItem (zR 8 189) eI 0 (lv_args 0 [aR G 74, aR G c1, aR G 2]) [] M (f_T_takeItem c1 M) := by
  unfold f_T_takeItem
  show NJ l G Y_X10_takeItem (zR 8 189) eI 0 [(0, aR G 74), (1, aR G c1), (2, aR G 2)] [] M _
  refine s_aload_n 0 dX10_takeItem_0 rfl ?_
  refine s_ldcS (tx := "smudge") 6 dX10_takeItem_1 rfl ?_
  refine n_invV_i dX10_takeItem_3 ok_X10_isWord rfl wt_726 wt_728 ws_10 (ci := 9) rfl rfl so_74 (sh_lt so_74 rfl) [aR G (1000 + 6)] rfl rfl rfl rfl (c_T_isWord l G _ (by decide) _) (fun r1 M2 => ?_)
  refine s_if_eq (tgt := 16) dX10_takeItem_6 (by decide) (fun _ => ?_) (fun _ => ?_)
  · refine s_aload_n 0 dX10_takeItem_16 rfl ?_
    refine s_ldcS (tx := "dry") 7 dX10_takeItem_17 rfl ?_
    refine n_invV_i dX10_takeItem_19 ok_X10_isWord rfl wt_726 wt_728 ws_10 (ci := 9) rfl rfl so_74 (sh_lt so_74 rfl) [aR G (1000 + 7)] rfl rfl rfl rfl (c_T_isWord l G _ (by decide) _) (fun r3 M4 => ?_)
    refine s_if_eq (tgt := 32) dX10_takeItem_22 (by decide) (fun _ => ?_) (fun _ => ?_)
    · refine s_aload_n 0 dX10_takeItem_32 rfl ?_
      refine s_aload_n 2 dX10_takeItem_33 rfl ?_
      refine n_invV_r dX10_takeItem_34 ok_X10_kindNamed rfl wt_788 wt_790 ws_13 (ci := 9) rfl rfl so_74 (sh_lt so_74 rfl) [aR G 2] rfl rfl rfl rfl (c_T_kindNamed l G _) (fun r5 M6 => ?_)
      refine s_split ?_ (fun p7 => ?_)
      · refine s_astore_nN (i := 3) (lv' := [(3, .null), (0, aR G 74), (1, aR G c1), (2, aR G 2)]) dX10_takeItem_37 rfl rfl rfl ?_
        refine s_aload_nN 0 dX10_takeItem_38 rfl ?_
        refine s_ifnullN (tgt := 62) dX10_takeItem_39 (by decide) ?_
        refine s_iconst (v := 0) dX10_takeItem_62 (by decide) ?_
        exact n_zret0 dX10_takeItem_63 rfl
      · refine s_grd (fun h8 => ?_)
        refine s_astore_n (i := 3) (lv' := [(3, aR G p7), (0, aR G 74), (1, aR G c1), (2, aR G 2)]) dX10_takeItem_37 rfl rfl rfl ?_
        refine s_aload_n 0 dX10_takeItem_38 rfl ?_
        refine s_ifnullS dX10_takeItem_39 ?_
        refine s_aload_n 2 dX10_takeItem_42 rfl ?_
        refine n_invV_i dX10_takeItem_43 ok_X5_isFull rfl wt_792 wt_357 wt_358 (ci := 8) rfl rfl hc1 (sh_lt hc1 rfl) [] rfl rfl rfl rfl (c_L_isFull l G _ hc1 _) (fun r9 M10 => ?_)
        refine s_if_ne (tgt := 62) dX10_takeItem_46 (by decide) (fun _ => ?_) (fun _ => ?_)
        · refine s_aload_n 1 dX10_takeItem_49 rfl ?_
          refine s_aload_n 2 dX10_takeItem_50 rfl ?_
          refine s_aload_n 0 dX10_takeItem_51 rfl ?_
          refine n_invV_i dX10_takeItem_52 ok_X10_takeHand rfl wt_793 wt_795 ws_14 (ci := 9) rfl rfl so_74 (sh_lt so_74 rfl) [aR G c1, aR G p7] rfl rfl rfl rfl (c_T_takeHand l G _ _ hc1 (isKb_1 h8) _) (fun r11 M12 => ?_)
          refine s_if_eq (tgt := 62) dX10_takeItem_55 (by decide) (fun _ => ?_) (fun _ => ?_)
          · refine s_iconst (v := 0) dX10_takeItem_62 (by decide) ?_
            exact n_zret0 dX10_takeItem_63 rfl
          · refine s_iconst (v := 1) dX10_takeItem_58 (by decide) ?_
            refine s_goto (tgt := 63) dX10_takeItem_59 (by decide) ?_
            exact n_zret1 dX10_takeItem_63 rfl
        · refine s_iconst (v := 0) dX10_takeItem_62 (by decide) ?_
          exact n_zret0 dX10_takeItem_63 rfl
    · refine s_aload_n 0 dX10_takeItem_25 rfl ?_
      refine s_aload_n 1 dX10_takeItem_26 rfl ?_
      refine s_iconst (v := 0) dX10_takeItem_27 (by decide) ?_
      refine n_invV_i dX10_takeItem_28 ok_X10_takeSmudge rfl wt_778 wt_780 ws_11 (ci := 9) rfl rfl so_74 (sh_lt so_74 rfl) [aR G c1, .int 0] rfl rfl rfl rfl (c_T_takeSmudge l G _ _ hc1 _) (fun r13 M14 => ?_)
      exact n_zretB dX10_takeItem_31 rfl
  · refine s_aload_n 0 dX10_takeItem_9 rfl ?_
    refine s_aload_n 1 dX10_takeItem_10 rfl ?_
    refine s_iconst (v := 1) dX10_takeItem_11 (by decide) ?_
    refine n_invV_i dX10_takeItem_12 ok_X10_takeSmudge rfl wt_778 wt_780 ws_11 (ci := 9) rfl rfl so_74 (sh_lt so_74 rfl) [aR G c1, .int 1] rfl rfl rfl rfl (c_T_takeSmudge l G _ _ hc1 _) (fun r15 M16 => ?_)
    exact n_zretB dX10_takeItem_15 rfl
def f_T_tellTo_L11  (c1 : Nat) : Nat → Int32 → Nm → Option (Int32 × Nm)
  | 0, _, _ => none
  | f + 1, v3, M => if 120 < v3 then (some ((-1) - (M.1 74 3), M)) else (bnd (f_T_takeItem c1 M) fun r4 M5 => if r4 = 0 then (some ((-1) - (M5.1 74 3), M5)) else (if (M5.1 74 2) = 0 then (some (v3, M5)) else (if (M5.1 74 2) = 3 then (bnd (f_T_goOn M5) fun r6 M7 => f_T_tellTo_L11 c1 f (v3 + 1) M7) else (some ((-1) - (M5.1 74 3), M5)))))
theorem c_T_tellTo_L11 (l : Launch) (G : Gl)  (c1 : Nat) (hc1 : (sh c1).1 = 8)  : ∀ (f : Nat) (v3 : Int32)  (M : Nm), NJ l G Y_X10_tellTo (zR 9 212) eI 11 [(0, aR G 74), (1, aR G c1), (2, aR G 2), (3, .int v3)] [] M (f_T_tellTo_L11 c1 f v3 M) := by
  intro f
  induction f with
  | zero => intro v3 M; exact s_none
  | succ f ih =>
    intro v3 M
    rw [f_T_tellTo_L11]
    refine s_iload_n 3 dX10_tellTo_11 rfl ?_
    refine s_bipush (v := 120) dX10_tellTo_12 (by decide) ?_
    refine s_icmp_gt (tgt := 67) dX10_tellTo_14 (by decide) (fun _ => ?_) (fun _ => ?_)
    · refine s_iconst (v := (-1)) dX10_tellTo_67 (by decide) ?_
      refine s_aload_n 0 dX10_tellTo_68 rfl ?_
      refine n_getI dX10_tellTo_69 okf_T_29_9 rfl rfl so_74 (sh_lt so_74 rfl) ?_
      refine s_isub dX10_tellTo_72 ?_
      exact n_iret dX10_tellTo_73 rfl
    · refine s_aload_n 0 dX10_tellTo_17 rfl ?_
      refine s_aload_n 1 dX10_tellTo_18 rfl ?_
      refine s_aload_n 2 dX10_tellTo_19 rfl ?_
      refine n_invV_i dX10_tellTo_20 ok_X10_takeItem rfl wt_721 wt_723 ws_9 (ci := 9) rfl rfl so_74 (sh_lt so_74 rfl) [aR G c1, aR G 2] rfl rfl rfl rfl (c_T_takeItem l G _ hc1 _) (fun r4 M5 => ?_)
      refine s_if_ne (tgt := 33) dX10_tellTo_23 (by decide) (fun _ => ?_) (fun _ => ?_)
      · refine s_iconst (v := (-1)) dX10_tellTo_26 (by decide) ?_
        refine s_aload_n 0 dX10_tellTo_27 rfl ?_
        refine n_getI dX10_tellTo_28 okf_T_29_9 rfl rfl so_74 (sh_lt so_74 rfl) ?_
        refine s_isub dX10_tellTo_31 ?_
        exact n_iret dX10_tellTo_32 rfl
      · refine s_aload_n 0 dX10_tellTo_33 rfl ?_
        refine n_getI dX10_tellTo_34 okf_T_32_9 rfl rfl so_74 (sh_lt so_74 rfl) ?_
        refine s_if_ne (tgt := 42) dX10_tellTo_37 (by decide) (fun _ => ?_) (fun _ => ?_)
        · refine s_iload_n 3 dX10_tellTo_40 rfl ?_
          exact n_iret dX10_tellTo_41 rfl
        · refine s_aload_n 0 dX10_tellTo_42 rfl ?_
          refine n_getI dX10_tellTo_43 okf_T_32_9 rfl rfl so_74 (sh_lt so_74 rfl) ?_
          refine s_iconst (v := 3) dX10_tellTo_46 (by decide) ?_
          refine s_icmp_eq (tgt := 57) dX10_tellTo_47 (by decide) (fun _ => ?_) (fun _ => ?_)
          · refine s_aload_n 0 dX10_tellTo_57 rfl ?_
            refine n_invV_u dX10_tellTo_58 ok_X10_goOn rfl wt_698 wt_700 ws_5 (ci := 9) rfl rfl so_74 (sh_lt so_74 rfl) [] rfl rfl rfl rfl (c_T_goOn l G _) (fun r6 M7 => ?_)
            refine s_iinc (v := 1) (lv' := [(3, .int (v3 + 1)), (0, aR G 74), (1, aR G c1), (2, aR G 2)]) 3 dX10_tellTo_61 rfl (by decide) rfl rfl ?_
            refine s_goto (tgt := 11) dX10_tellTo_64 (by decide) ?_
            refine s_lv [1, 2, 3, 0] (lv' := [(0, aR G 74), (1, aR G c1), (2, aR G 2), (3, .int (v3 + 1))]) rfl ?_
            exact ih _ _
          · refine s_iconst (v := (-1)) dX10_tellTo_50 (by decide) ?_
            refine s_aload_n 0 dX10_tellTo_51 rfl ?_
            refine n_getI dX10_tellTo_52 okf_T_29_9 rfl rfl so_74 (sh_lt so_74 rfl) ?_
            refine s_isub dX10_tellTo_55 ?_
            exact n_iret dX10_tellTo_56 rfl
def f_T_tellTo (c1 : Nat) (M : Nm) : Option (Int32 × Nm) := bl (mI M 74 4 0) fun M1 => bnd (f_T_goOn M1) fun r2 M3 => f_T_tellTo_L11 c1 FU 1 M3
theorem c_T_tellTo (l : Launch) (G : Gl) (c1 : Nat) (hc1 : (sh c1).1 = 8) (M : Nm) : NJ l G Y_X10_tellTo (zR 9 212) eI 0 (lv_args 0 [aR G 74, aR G c1, aR G 2]) [] M (f_T_tellTo c1 M) := by
  unfold f_T_tellTo
  show NJ l G Y_X10_tellTo (zR 9 212) eI 0 [(0, aR G 74), (1, aR G c1), (2, aR G 2)] [] M _
  refine s_aload_n 0 dX10_tellTo_0 rfl ?_
  refine s_iconst (v := 0) dX10_tellTo_1 (by decide) ?_
  refine n_putI dX10_tellTo_2 okp_T_19_9 rfl rfl so_74 (sh_lt so_74 rfl) ?_
  refine s_topM (fun M1 => ?_)
  refine s_aload_n 0 dX10_tellTo_5 rfl ?_
  refine n_invV_u dX10_tellTo_6 ok_X10_goOn rfl wt_698 wt_700 ws_5 (ci := 9) rfl rfl so_74 (sh_lt so_74 rfl) [] rfl rfl rfl rfl (c_T_goOn l G _) (fun r2 M3 => ?_)
  refine s_iconst (v := 1) dX10_tellTo_9 (by decide) ?_
  refine s_istore_n (i := 3) (lv' := [(3, .int 1), (0, aR G 74), (1, aR G c1), (2, aR G 2)]) dX10_tellTo_10 rfl rfl rfl ?_
  refine s_lv [1, 2, 3, 0] (lv' := [(0, aR G 74), (1, aR G c1), (2, aR G 2), (3, .int 1)]) rfl ?_
  refine c_T_tellTo_L11 l G _ hc1 FU _ _
def f_L_traceHands_L2  (c0 : Nat) : Nat → Int32 → Nm → Option (Unit × Nm)
  | 0, _, _ => none
  | f + 1, v1, M => if (M.1 c0 2) ≤ v1 then (some ((), M)) else (grd (inb v1 6) <| bnd (f_H_trace (hnd c0 v1) M) fun r2 M3 => f_L_traceHands_L2 c0 f (v1 + 1) M3)
theorem c_L_traceHands_L2 (l : Launch) (G : Gl)  (c0 : Nat) (hc0 : (sh c0).1 = 8)  : ∀ (f : Nat) (v1 : Int32)  (M : Nm), NJ l G Y_X5_traceHands (zR 4 101) eU 2 [(0, aR G c0), (1, .int v1)] [] M (f_L_traceHands_L2 c0 f v1 M) := by
  intro f
  induction f with
  | zero => intro v1 M; exact s_none
  | succ f ih =>
    intro v1 M
    rw [f_L_traceHands_L2]
    refine s_iload_n 1 dX5_traceHands_2 rfl ?_
    refine s_aload_n 0 dX5_traceHands_3 rfl ?_
    refine n_getI dX5_traceHands_4 okf_L_36_8 rfl rfl hc0 (sh_lt hc0 rfl) ?_
    refine s_icmp_ge (tgt := 25) dX5_traceHands_7 (by decide) (fun _ => ?_) (fun _ => ?_)
    · exact n_vret dX5_traceHands_25 rfl
    · refine s_aload_n 0 dX5_traceHands_10 rfl ?_
      refine n_getR (x := (c0 + 1)) dX5_traceHands_11 okf_L_11_8 rfl rfl hc0 (sh_lt hc0 rfl) (r_rows hc0) ?_
      refine s_iload_n 1 dX5_traceHands_14 rfl ?_
      refine n_aal (x := (hnd c0 v1)) 3 ⟨rfl, rfl⟩ dX5_traceHands_15 (ly_rows hc0) (r_hnd hc0) (fun h1 => ?_)
      refine n_invV_u dX5_traceHands_16 ok_X2_trace rfl wt_821 wt_385 wt_386 (ci := 7) rfl rfl (ly_hnd hc0 h1) (sh_lt (ly_hnd hc0 h1) rfl) [] rfl rfl rfl rfl (c_H_trace l G _ (ly_hnd hc0 h1) _) (fun r2 M3 => ?_)
      refine s_iinc (v := 1) (lv' := [(1, .int (v1 + 1)), (0, aR G c0)]) 1 dX5_traceHands_19 rfl (by decide) rfl rfl ?_
      refine s_goto (tgt := 2) dX5_traceHands_22 (by decide) ?_
      refine s_lv [1, 0] (lv' := [(0, aR G c0), (1, .int (v1 + 1))]) rfl ?_
      exact ih _ _
def f_L_traceHands (o : Nat) (M : Nm) : Option (Unit × Nm) := f_L_traceHands_L2 o FU 0 M
theorem c_L_traceHands (l : Launch) (G : Gl) (o : Nat) (ho : (sh o).1 = 8) (M : Nm) : NJ l G Y_X5_traceHands (zR 4 101) eU 0 (lv_args 0 [aR G o]) [] M (f_L_traceHands o M) := by
  unfold f_L_traceHands
  show NJ l G Y_X5_traceHands (zR 4 101) eU 0 [(0, aR G o)] [] M _
  refine s_iconst (v := 0) dX5_traceHands_0 (by decide) ?_
  refine s_istore_n (i := 1) (lv' := [(1, .int 0), (0, aR G o)]) dX5_traceHands_1 rfl rfl rfl ?_
  refine s_lv [1, 0] (lv' := [(0, aR G o), (1, .int 0)]) rfl ?_
  refine c_L_traceHands_L2 l G _ ho FU _ _
def f_P_field  (M : Nm) : Option (Int32 × Nm) := bnd (f_L_takeFrom 30 8 M) fun r1 M2 => bnd (f_T_tellTo 30 M2) fun r3 M4 => bl (mI M4 74 0 0) fun M5 => if r3 < 0 then (some (r3, M5)) else (bnd (f_L_traceHands 30 M5) fun r6 M7 => bnd (f_L_takeFrom 8 30 M7) fun r8 M9 => some (r3, M9))
theorem c_P_field (l : Launch) (G : Gl)   (M : Nm) : NJ l G Y_X11_field (zR 10 235) eI 0 (lv_args 0 [aR G 0]) [] M (f_P_field  M) := by
  unfold f_P_field
  show NJ l G Y_X11_field (zR 10 235) eI 0 [(0, aR G 0)] [] M _
  refine s_aload_n 0 dX11_field_0 rfl ?_
  refine n_getR (x := 30) dX11_field_1 okf_P_54_0 rfl rfl so_0 (sh_lt so_0 rfl) rfl ?_
  refine s_aload_n 0 dX11_field_4 rfl ?_
  refine n_getR (x := 8) dX11_field_5 okf_P_50_0 rfl rfl so_0 (sh_lt so_0 rfl) rfl ?_
  refine n_invV_u dX11_field_8 ok_X5_takeFrom rfl wt_604 wt_605 wt_606 (ci := 8) rfl rfl so_30 (sh_lt so_30 rfl) [aR G 8] rfl rfl rfl rfl (c_L_takeFrom l G _ _ so_30 so_8 _) (fun r1 M2 => ?_)
  refine s_aload_n 0 dX11_field_11 rfl ?_
  refine n_getR (x := 74) dX11_field_12 okf_P_63_0 rfl rfl so_0 (sh_lt so_0 rfl) rfl ?_
  refine s_aload_n 0 dX11_field_15 rfl ?_
  refine n_getR (x := 30) dX11_field_16 okf_P_54_0 rfl rfl so_0 (sh_lt so_0 rfl) rfl ?_
  refine s_aload_n 0 dX11_field_19 rfl ?_
  refine n_getR (x := 2) dX11_field_20 okf_P_41_0 rfl rfl so_0 (sh_lt so_0 rfl) rfl ?_
  refine n_invV_i dX11_field_23 ok_X10_tellTo rfl wt_694 wt_695 wt_696 (ci := 9) rfl rfl so_74 (sh_lt so_74 rfl) [aR G 30, aR G 2] rfl rfl rfl rfl (c_T_tellTo l G _ so_30 _) (fun r3 M4 => ?_)
  refine s_istore_n (i := 1) (lv' := [(1, .int r3), (0, aR G 0)]) dX11_field_26 rfl rfl rfl ?_
  refine s_aload_n 1 dX11_field_27 rfl ?_
  refine n_getR (x := 74) dX11_field_28 okf_P_63_0 rfl rfl so_0 (sh_lt so_0 rfl) rfl ?_
  refine s_iconst (v := 0) dX11_field_31 (by decide) ?_
  refine n_putI dX11_field_32 okp_P_283_9 rfl rfl so_74 (sh_lt so_74 rfl) ?_
  refine s_topM (fun M5 => ?_)
  refine s_iload_n 0 dX11_field_35 rfl ?_
  refine s_if_lt (tgt := 57) dX11_field_36 (by decide) (fun _ => ?_) (fun _ => ?_)
  · refine s_iload_n 0 dX11_field_57 rfl ?_
    exact n_iret dX11_field_58 rfl
  · refine s_aload_n 1 dX11_field_39 rfl ?_
    refine n_getR (x := 30) dX11_field_40 okf_P_54_0 rfl rfl so_0 (sh_lt so_0 rfl) rfl ?_
    refine n_invV_u dX11_field_43 ok_X5_traceHands rfl wt_817 wt_818 wt_819 (ci := 8) rfl rfl so_30 (sh_lt so_30 rfl) [] rfl rfl rfl rfl (c_L_traceHands l G _ so_30 _) (fun r6 M7 => ?_)
    refine s_aload_n 1 dX11_field_46 rfl ?_
    refine n_getR (x := 8) dX11_field_47 okf_P_50_0 rfl rfl so_0 (sh_lt so_0 rfl) rfl ?_
    refine s_aload_n 1 dX11_field_50 rfl ?_
    refine n_getR (x := 30) dX11_field_51 okf_P_54_0 rfl rfl so_0 (sh_lt so_0 rfl) rfl ?_
    refine n_invV_u dX11_field_54 ok_X5_takeFrom rfl wt_604 wt_605 wt_606 (ci := 8) rfl rfl so_8 (sh_lt so_8 rfl) [aR G 30] rfl rfl rfl rfl (c_L_takeFrom l G _ _ so_8 so_30 _) (fun r8 M9 => ?_)
    refine s_iload_n 0 dX11_field_57 rfl ?_
    exact n_iret dX11_field_58 rfl
def f_P_sheetOf (v1 : Int32) (M : Nm) : Option ((Option Nat) × Nm) := bnd (f_P_within v1 0 ((nI 4) - 1) M) fun r1 M2 => if r1 = 0 then (some (none, M2)) else (grd (inb v1 4) <| some (some (shc v1), M2))
theorem c_P_sheetOf (l : Launch) (G : Gl) (v1 : Int32)  (M : Nm) : NJ l G Y_X11_sheetOf (zR 1 22) (eR G) 0 (lv_args 0 [aR G 0, .int v1]) [] M (f_P_sheetOf v1 M) := by
  unfold f_P_sheetOf
  show NJ l G Y_X11_sheetOf (zR 1 22) (eR G) 0 [(0, aR G 0), (1, .int v1)] [] M _
  refine s_iload_n 1 dX11_sheetOf_0 rfl ?_
  refine s_iconst (v := 0) dX11_sheetOf_1 (by decide) ?_
  refine s_aload_n 0 dX11_sheetOf_2 rfl ?_
  refine n_getR (x := 76) dX11_sheetOf_3 okf_P_69_0 rfl rfl so_0 (sh_lt so_0 rfl) rfl ?_
  refine n_len 5 dX11_sheetOf_6 rfl sa_76 ?_
  refine s_iconst (v := 1) dX11_sheetOf_7 (by decide) ?_
  refine s_isub dX11_sheetOf_8 ?_
  refine n_invS_i dX11_sheetOf_9 ok_X11_within rfl wt_260 wt_261 [.int v1, .int 0, .int ((nI 4) - 1)] rfl rfl rfl rfl (c_P_within l G _ _ _ _) (fun r1 M2 => ?_)
  refine s_if_eq (tgt := 24) dX11_sheetOf_12 (by decide) (fun _ => ?_) (fun _ => ?_)
  · refine s_null dX11_sheetOf_24 ?_
    exact n_aretN dX11_sheetOf_25 rfl
  · refine s_aload_n 0 dX11_sheetOf_15 rfl ?_
    refine n_getR (x := 76) dX11_sheetOf_16 okf_P_69_0 rfl rfl so_0 (sh_lt so_0 rfl) rfl ?_
    refine s_iload_n 1 dX11_sheetOf_19 rfl ?_
    refine n_aal (x := (shc v1)) 5 ⟨rfl, rfl⟩ dX11_sheetOf_20 sa_76 r_shc (fun h3 => ?_)
    refine s_goto (tgt := 25) dX11_sheetOf_21 (by decide) ?_
    exact n_aret dX11_sheetOf_25 rfl
def f_P_isBits (v0 : Int32) (M : Nm) : Option (Int32 × Nm) := if v0 = 0 then (some (1, M)) else (if v0 = 8 then (some (1, M)) else (if v0 = 16 then (some (1, M)) else (if v0 = 64 then (some (1, M)) else (some (0, M)))))
theorem c_P_isBits (l : Launch) (G : Gl) (v0 : Int32)  (M : Nm) : NJ l G Y_X11_isBits (zR 0 0) eI 0 (lv_args 0 [.int v0]) [] M (f_P_isBits v0 M) := by
  unfold f_P_isBits
  show NJ l G Y_X11_isBits (zR 0 0) eI 0 [(0, .int v0)] [] M _
  refine s_iload_n 0 dX11_isBits_0 rfl ?_
  refine s_if_eq (tgt := 22) dX11_isBits_1 (by decide) (fun _ => ?_) (fun _ => ?_)
  · refine s_iconst (v := 1) dX11_isBits_22 (by decide) ?_
    refine s_goto (tgt := 27) dX11_isBits_23 (by decide) ?_
    exact n_zret1 dX11_isBits_27 rfl
  · refine s_iload_n 0 dX11_isBits_4 rfl ?_
    refine s_bipush (v := 8) dX11_isBits_5 (by decide) ?_
    refine s_icmp_eq (tgt := 22) dX11_isBits_7 (by decide) (fun _ => ?_) (fun _ => ?_)
    · refine s_iconst (v := 1) dX11_isBits_22 (by decide) ?_
      refine s_goto (tgt := 27) dX11_isBits_23 (by decide) ?_
      exact n_zret1 dX11_isBits_27 rfl
    · refine s_iload_n 0 dX11_isBits_10 rfl ?_
      refine s_bipush (v := 16) dX11_isBits_11 (by decide) ?_
      refine s_icmp_eq (tgt := 22) dX11_isBits_13 (by decide) (fun _ => ?_) (fun _ => ?_)
      · refine s_iconst (v := 1) dX11_isBits_22 (by decide) ?_
        refine s_goto (tgt := 27) dX11_isBits_23 (by decide) ?_
        exact n_zret1 dX11_isBits_27 rfl
      · refine s_iload_n 0 dX11_isBits_16 rfl ?_
        refine s_bipush (v := 64) dX11_isBits_17 (by decide) ?_
        refine s_icmp_ne (tgt := 26) dX11_isBits_19 (by decide) (fun _ => ?_) (fun _ => ?_)
        · refine s_iconst (v := 1) dX11_isBits_22 (by decide) ?_
          refine s_goto (tgt := 27) dX11_isBits_23 (by decide) ?_
          exact n_zret1 dX11_isBits_27 rfl
        · refine s_iconst (v := 0) dX11_isBits_26 (by decide) ?_
          exact n_zret0 dX11_isBits_27 rfl
def f_S_become_L12  (c0 : Nat) : Nat → Int32 → Nm → Option (Unit × Nm)
  | 0, _, _ => none
  | f + 1, v3, M => if (nI 40) ≤ v3 then (some ((), M)) else (grd (inb v3 40) <| bl (mL M (c0 + 1) (ix v3) 0) fun M3 => f_S_become_L12 c0 f (v3 + 1) M3)
theorem c_S_become_L12 (l : Launch) (G : Gl)  (c0 : Nat) (hc0 : (sh c0).1 = 10)  : ∀ (f : Nat) (v3 : Int32)  (M : Nm), NJ l G Y_X9_become (zR 0 0) eU 12 [(0, aR G c0), (3, .int v3)] [] M (f_S_become_L12 c0 f v3 M) := by
  intro f
  induction f with
  | zero => intro v3 M; exact s_none
  | succ f ih =>
    intro v3 M
    rw [f_S_become_L12]
    refine s_iload_n 1 dX9_become_12 rfl ?_
    refine s_aload_n 0 dX9_become_13 rfl ?_
    refine n_getR (x := (c0 + 1)) dX9_become_14 okf_S_9_10 rfl rfl hc0 (sh_lt hc0 rfl) (r_nums hc0) ?_
    refine n_len 1 dX9_become_17 rfl (ly_nums hc0) ?_
    refine s_icmp_ge (tgt := 34) dX9_become_18 (by decide) (fun _ => ?_) (fun _ => ?_)
    · exact n_vret dX9_become_34 rfl
    · refine s_aload_n 0 dX9_become_21 rfl ?_
      refine n_getR (x := (c0 + 1)) dX9_become_22 okf_S_9_10 rfl rfl hc0 (sh_lt hc0 rfl) (r_nums hc0) ?_
      refine s_iload_n 1 dX9_become_25 rfl ?_
      refine s_lconst (v := 0) dX9_become_26 (by decide) ?_
      refine n_las dX9_become_27 (ly_nums hc0) ?_
      refine s_topM (fun M3 => ?_)
      refine s_iinc (v := 1) (lv' := [(3, .int (v3 + 1)), (0, aR G c0)]) 1 dX9_become_28 rfl (by decide) rfl rfl ?_
      refine s_goto (tgt := 12) dX9_become_31 (by decide) ?_
      refine s_lv [1, 0] (lv' := [(0, aR G c0), (3, .int (v3 + 1))]) rfl ?_
      exact ih _ _
def f_S_become (o : Nat) (v1 : Int32) (v2 : Int32) (M : Nm) : Option (Unit × Nm) := bl (mI M o 0 v1) fun M1 => bl (mI M1 o 1 v2) fun M2 => f_S_become_L12 o FU 0 M2
theorem c_S_become (l : Launch) (G : Gl) (o : Nat) (v1 : Int32) (v2 : Int32) (ho : (sh o).1 = 10) (M : Nm) : NJ l G Y_X9_become (zR 0 0) eU 0 (lv_args 0 [aR G o, .int v1, .int v2]) [] M (f_S_become o v1 v2 M) := by
  unfold f_S_become
  show NJ l G Y_X9_become (zR 0 0) eU 0 [(0, aR G o), (1, .int v1), (2, .int v2)] [] M _
  refine s_aload_n 0 dX9_become_0 rfl ?_
  refine s_iload_n 1 dX9_become_1 rfl ?_
  refine n_putI dX9_become_2 okp_S_15_10 rfl rfl ho (sh_lt ho rfl) ?_
  refine s_topM (fun M1 => ?_)
  refine s_aload_n 0 dX9_become_5 rfl ?_
  refine s_iload_n 2 dX9_become_6 rfl ?_
  refine n_putI dX9_become_7 okp_S_19_10 rfl rfl ho (sh_lt ho rfl) ?_
  refine s_topM (fun M2 => ?_)
  refine s_iconst (v := 0) dX9_become_10 (by decide) ?_
  refine s_istore_n (i := 3) (lv' := [(3, .int 0), (0, aR G o), (1, .int v1), (2, .int v2)]) dX9_become_11 rfl rfl rfl ?_
  refine s_lv [1, 0] (lv' := [(0, aR G o), (3, .int 0)]) rfl ?_
  refine c_S_become_L12 l G _ ho FU _ _
def f_P_sheet (v1 : Int32) (v2 : Int32) (v3 : Int32) (M : Nm) : Option (Int32 × Nm) := bnd (f_P_sheetOf v1 M) fun r1 M2 => ifn r1 (bnd (f_P_finding (-1000000001) M2) fun r5 M6 => some (r5, M6)) fun p3 => grd (isb 10 p3) <| bnd (f_P_isBits v2 M2) fun r7 M8 => if r7 = 0 then (bnd (f_P_finding (-1000000001) M8) fun r9 M10 => some (r9, M10)) else (if 0 ≤ v3 then (if v3 ≤ 40 then (if v2 = 0 then (bnd (f_S_become p3 v2 0 M8) fun r11 M12 => some (M12.1 p3 1, M12)) else (bnd (f_S_become p3 v2 v3 M8) fun r13 M14 => some (M14.1 p3 1, M14))) else (bnd (f_P_finding (-1000000001) M8) fun r15 M16 => some (r15, M16))) else (bnd (f_P_finding (-1000000007) M8) fun r17 M18 => some (r17, M18)))
theorem c_P_sheet (l : Launch) (G : Gl) (v1 : Int32) (v2 : Int32) (v3 : Int32)  (M : Nm) : NJ l G Y_X11_sheet (zR 2 43) eI 0 (lv_args 0 [aR G 0, .int v1, .int v2, .int v3]) [] M (f_P_sheet v1 v2 v3 M) := by
  unfold f_P_sheet
  show NJ l G Y_X11_sheet (zR 2 43) eI 0 [(0, aR G 0), (1, .int v1), (2, .int v2), (3, .int v3)] [] M _
  refine s_aload_n 0 dX11_sheet_0 rfl ?_
  refine s_iload_n 1 dX11_sheet_1 rfl ?_
  refine n_invV_r dX11_sheet_2 ok_X11_sheetOf rfl wt_826 wt_828 ws_18 (ci := 0) rfl rfl so_0 (sh_lt so_0 rfl) [.int v1] rfl rfl rfl rfl (c_P_sheetOf l G _ _) (fun r1 M2 => ?_)
  refine s_split ?_ (fun p3 => ?_)
  · refine s_astoreN (lv' := [(4, .null), (0, aR G 0), (1, .int v1), (2, .int v2), (3, .int v3)]) dX11_sheet_5 rfl rfl ?_
    refine s_aloadN 0 dX11_sheet_7 rfl ?_
    refine s_ifnullN (tgt := 19) dX11_sheet_9 (by decide) ?_
    refine s_aload_n 1 dX11_sheet_19 rfl ?_
    refine s_ldc (v := (-1000000001)) dX11_sheet_20 wt_263 ?_
    refine n_invV_i dX11_sheet_22 ok_X11_finding rfl wt_264 wt_266 ws_0 (ci := 0) rfl rfl so_0 (sh_lt so_0 rfl) [.int (-1000000001)] rfl rfl rfl rfl (c_P_finding l G _ _) (fun r5 M6 => ?_)
    exact n_iret dX11_sheet_25 rfl
  · refine s_grd (fun h4 => ?_)
    refine s_astore (lv' := [(4, aR G p3), (0, aR G 0), (1, .int v1), (2, .int v2), (3, .int v3)]) dX11_sheet_5 rfl rfl ?_
    refine s_aload 0 dX11_sheet_7 rfl ?_
    refine s_ifnullS dX11_sheet_9 ?_
    refine s_iload_n 3 dX11_sheet_12 rfl ?_
    refine n_invS_i dX11_sheet_13 ok_X11_isBits rfl wt_830 wt_831 [.int v2] rfl rfl rfl rfl (c_P_isBits l G _ _) (fun r7 M8 => ?_)
    refine s_if_ne (tgt := 26) dX11_sheet_16 (by decide) (fun _ => ?_) (fun _ => ?_)
    · refine s_aload_n 1 dX11_sheet_19 rfl ?_
      refine s_ldc (v := (-1000000001)) dX11_sheet_20 wt_263 ?_
      refine n_invV_i dX11_sheet_22 ok_X11_finding rfl wt_264 wt_266 ws_0 (ci := 0) rfl rfl so_0 (sh_lt so_0 rfl) [.int (-1000000001)] rfl rfl rfl rfl (c_P_finding l G _ _) (fun r9 M10 => ?_)
      exact n_iret dX11_sheet_25 rfl
    · refine s_iload_n 4 dX11_sheet_26 rfl ?_
      refine s_if_ge (tgt := 38) dX11_sheet_27 (by decide) (fun _ => ?_) (fun _ => ?_)
      · refine s_iload_n 4 dX11_sheet_38 rfl ?_
        refine s_bipush (v := 40) dX11_sheet_39 (by decide) ?_
        refine s_icmp_le (tgt := 51) dX11_sheet_41 (by decide) (fun _ => ?_) (fun _ => ?_)
        · refine s_aload 0 dX11_sheet_51 rfl ?_
          refine s_iload_n 3 dX11_sheet_53 rfl ?_
          refine s_iload_n 3 dX11_sheet_54 rfl ?_
          refine s_if_ne (tgt := 62) dX11_sheet_55 (by decide) (fun _ => ?_) (fun _ => ?_)
          · refine s_iconst (v := 0) dX11_sheet_58 (by decide) ?_
            refine s_goto (tgt := 63) dX11_sheet_59 (by decide) ?_
            refine n_invV_u dX11_sheet_63 ok_X9_become rfl wt_834 wt_835 wt_836 (ci := 10) rfl rfl (isb_1 h4) (sh_lt (isb_1 h4) rfl) [.int v2, .int 0] rfl rfl rfl rfl (c_S_become l G _ _ _ (isb_1 h4) _) (fun r11 M12 => ?_)
            refine s_aload 0 dX11_sheet_66 rfl ?_
            refine n_getI dX11_sheet_68 okf_P_307_10 rfl rfl (isb_1 h4) (sh_lt (isb_1 h4) rfl) ?_
            exact n_iret dX11_sheet_71 rfl
          · refine s_iload_n 4 dX11_sheet_62 rfl ?_
            refine n_invV_u dX11_sheet_63 ok_X9_become rfl wt_834 wt_835 wt_836 (ci := 10) rfl rfl (isb_1 h4) (sh_lt (isb_1 h4) rfl) [.int v2, .int v3] rfl rfl rfl rfl (c_S_become l G _ _ _ (isb_1 h4) _) (fun r13 M14 => ?_)
            refine s_aload 0 dX11_sheet_66 rfl ?_
            refine n_getI dX11_sheet_68 okf_P_307_10 rfl rfl (isb_1 h4) (sh_lt (isb_1 h4) rfl) ?_
            exact n_iret dX11_sheet_71 rfl
        · refine s_aload_n 1 dX11_sheet_44 rfl ?_
          refine s_ldc (v := (-1000000001)) dX11_sheet_45 wt_263 ?_
          refine n_invV_i dX11_sheet_47 ok_X11_finding rfl wt_264 wt_266 ws_0 (ci := 0) rfl rfl so_0 (sh_lt so_0 rfl) [.int (-1000000001)] rfl rfl rfl rfl (c_P_finding l G _ _) (fun r15 M16 => ?_)
          exact n_iret dX11_sheet_50 rfl
      · refine s_aload_n 1 dX11_sheet_30 rfl ?_
        refine s_ldcw (v := (-1000000007)) dX11_sheet_31 wt_833 ?_
        refine n_invV_i dX11_sheet_34 ok_X11_finding rfl wt_264 wt_266 ws_0 (ci := 0) rfl rfl so_0 (sh_lt so_0 rfl) [.int (-1000000007)] rfl rfl rfl rfl (c_P_finding l G _ _) (fun r17 M18 => ?_)
        exact n_iret dX11_sheet_37 rfl
def f_S_isMissing (o : Nat) (M : Nm) : Option (Int32 × Nm) := if (M.1 o 0) = 0 then (some (1, M)) else (some (0, M))
theorem c_S_isMissing (l : Launch) (G : Gl) (o : Nat) (ho : (sh o).1 = 10) (M : Nm) : NJ l G Y_X9_isMissing (zR 0 0) eI 0 (lv_args 0 [aR G o]) [] M (f_S_isMissing o M) := by
  unfold f_S_isMissing
  show NJ l G Y_X9_isMissing (zR 0 0) eI 0 [(0, aR G o)] [] M _
  refine s_aload_n 0 dX9_isMissing_0 rfl ?_
  refine n_getI dX9_isMissing_1 okf_S_15_10 rfl rfl ho (sh_lt ho rfl) ?_
  refine s_if_ne (tgt := 11) dX9_isMissing_4 (by decide) (fun _ => ?_) (fun _ => ?_)
  · refine s_iconst (v := 1) dX9_isMissing_7 (by decide) ?_
    refine s_goto (tgt := 12) dX9_isMissing_8 (by decide) ?_
    exact n_zret1 dX9_isMissing_12 rfl
  · refine s_iconst (v := 0) dX9_isMissing_11 (by decide) ?_
    exact n_zret0 dX9_isMissing_12 rfl
def f_S_lowestBits (o : Nat) (v1 : Int64) (M : Nm) : Option (Int64 × Nm) := if (M.1 o 0) = 8 then (some (v1.toInt32.toInt8.toInt32.toInt64, M)) else (if (M.1 o 0) = 16 then (some (v1.toInt32.toInt16.toInt32.toInt64, M)) else (some (v1, M)))
theorem c_S_lowestBits (l : Launch) (G : Gl) (o : Nat) (v1 : Int64) (ho : (sh o).1 = 10) (M : Nm) : NJ l G Y_X9_lowestBits (zR 0 0) eL 0 (lv_args 0 [aR G o, .long v1]) [] M (f_S_lowestBits o v1 M) := by
  unfold f_S_lowestBits
  show NJ l G Y_X9_lowestBits (zR 0 0) eL 0 [(0, aR G o), (1, .long v1)] [] M _
  refine s_aload_n 0 dX9_lowestBits_0 rfl ?_
  refine n_getI dX9_lowestBits_1 okf_S_15_10 rfl rfl ho (sh_lt ho rfl) ?_
  refine s_bipush (v := 8) dX9_lowestBits_4 (by decide) ?_
  refine s_icmp_ne (tgt := 14) dX9_lowestBits_6 (by decide) (fun _ => ?_) (fun _ => ?_)
  · refine s_lload_n 1 dX9_lowestBits_9 rfl ?_
    refine s_l2i dX9_lowestBits_10 ?_
    refine s_i2b dX9_lowestBits_11 ?_
    refine s_i2l dX9_lowestBits_12 ?_
    exact n_lret dX9_lowestBits_13 rfl
  · refine s_aload_n 0 dX9_lowestBits_14 rfl ?_
    refine n_getI dX9_lowestBits_15 okf_S_15_10 rfl rfl ho (sh_lt ho rfl) ?_
    refine s_bipush (v := 16) dX9_lowestBits_18 (by decide) ?_
    refine s_icmp_ne (tgt := 30) dX9_lowestBits_20 (by decide) (fun _ => ?_) (fun _ => ?_)
    · refine s_lload_n 1 dX9_lowestBits_23 rfl ?_
      refine s_l2i dX9_lowestBits_24 ?_
      refine s_i2s dX9_lowestBits_25 ?_
      refine s_i2l dX9_lowestBits_26 ?_
      refine s_goto (tgt := 31) dX9_lowestBits_27 (by decide) ?_
      exact n_lret dX9_lowestBits_31 rfl
    · refine s_lload_n 1 dX9_lowestBits_30 rfl ?_
      exact n_lret dX9_lowestBits_31 rfl
def f_S_put (o : Nat) (v1 : Int32) (v2 : Int64) (M : Nm) : Option (Unit × Nm) := if v1 < 0 then (some ((), M)) else (if (M.1 o 1) ≤ v1 then (some ((), M)) else (if (nI 40) ≤ v1 then (some ((), M)) else (bnd (f_S_lowestBits o v2 M) fun r1 M2 => grd (inb v1 40) <| bl (mL M2 (o + 1) (ix v1) r1) fun M3 => some ((), M3))))
theorem c_S_put (l : Launch) (G : Gl) (o : Nat) (v1 : Int32) (v2 : Int64) (ho : (sh o).1 = 10) (M : Nm) : NJ l G Y_X9_put (zR 1 22) eU 0 (lv_args 0 [aR G o, .int v1, .long v2]) [] M (f_S_put o v1 v2 M) := by
  unfold f_S_put
  show NJ l G Y_X9_put (zR 1 22) eU 0 [(0, aR G o), (1, .int v1), (2, .long v2)] [] M _
  refine s_iload_n 1 dX9_put_0 rfl ?_
  refine s_if_lt (tgt := 32) dX9_put_1 (by decide) (fun _ => ?_) (fun _ => ?_)
  · exact n_vret dX9_put_32 rfl
  · refine s_iload_n 1 dX9_put_4 rfl ?_
    refine s_aload_n 0 dX9_put_5 rfl ?_
    refine n_getI dX9_put_6 okf_S_19_10 rfl rfl ho (sh_lt ho rfl) ?_
    refine s_icmp_ge (tgt := 32) dX9_put_9 (by decide) (fun _ => ?_) (fun _ => ?_)
    · exact n_vret dX9_put_32 rfl
    · refine s_iload_n 1 dX9_put_12 rfl ?_
      refine s_aload_n 0 dX9_put_13 rfl ?_
      refine n_getR (x := (o + 1)) dX9_put_14 okf_S_9_10 rfl rfl ho (sh_lt ho rfl) (r_nums ho) ?_
      refine n_len 1 dX9_put_17 rfl (ly_nums ho) ?_
      refine s_icmp_ge (tgt := 32) dX9_put_18 (by decide) (fun _ => ?_) (fun _ => ?_)
      · exact n_vret dX9_put_32 rfl
      · refine s_aload_n 0 dX9_put_21 rfl ?_
        refine n_getR (x := (o + 1)) dX9_put_22 okf_S_9_10 rfl rfl ho (sh_lt ho rfl) (r_nums ho) ?_
        refine s_iload_n 1 dX9_put_25 rfl ?_
        refine s_aload_n 0 dX9_put_26 rfl ?_
        refine s_lload_n 2 dX9_put_27 rfl ?_
        refine n_invV_l dX9_put_28 ok_X9_lowestBits rfl wt_851 wt_853 ws_19 (ci := 10) rfl rfl ho (sh_lt ho rfl) [.long v2] rfl rfl rfl rfl (c_S_lowestBits l G _ _ ho _) (fun r1 M2 => ?_)
        refine n_las dX9_put_31 (ly_nums ho) ?_
        refine s_topM (fun M3 => ?_)
        exact n_vret dX9_put_32 rfl
def f_P_write (v1 : Int32) (v2 : Int32) (v3 : Int64) (M : Nm) : Option (Int64 × Nm) := bnd (f_P_sheetOf v1 M) fun r1 M2 => ifn r1 (bnd (f_P_finding (-1000000001) M2) fun r5 M6 => some (r5.toInt64, M6)) fun p3 => grd (isb 10 p3) <| bnd (f_S_isMissing p3 M2) fun r7 M8 => if r7 = 0 then (bnd (f_P_within v2 0 ((M8.1 p3 1) - 1) M8) fun r9 M10 => if r9 = 0 then (bnd (f_P_finding (-1000000001) M10) fun r11 M12 => some (r11.toInt64, M12)) else (grd (inb v2 40) <| bnd (f_S_put p3 v2 v3 M10) fun r13 M14 => some (M10.2.1 (p3 + 1) (ix v2), M14))) else (bnd (f_P_finding (-1000000006) M8) fun r15 M16 => some (r15.toInt64, M16))
theorem c_P_write (l : Launch) (G : Gl) (v1 : Int32) (v2 : Int32) (v3 : Int64)  (M : Nm) : NJ l G Y_X11_write (zR 2 45) eL 0 (lv_args 0 [aR G 0, .int v1, .int v2, .long v3]) [] M (f_P_write v1 v2 v3 M) := by
  unfold f_P_write
  show NJ l G Y_X11_write (zR 2 45) eL 0 [(0, aR G 0), (1, .int v1), (2, .int v2), (3, .long v3)] [] M _
  refine s_aload_n 0 dX11_write_0 rfl ?_
  refine s_iload_n 1 dX11_write_1 rfl ?_
  refine n_invV_r dX11_write_2 ok_X11_sheetOf rfl wt_826 wt_828 ws_18 (ci := 0) rfl rfl so_0 (sh_lt so_0 rfl) [.int v1] rfl rfl rfl rfl (c_P_sheetOf l G _ _) (fun r1 M2 => ?_)
  refine s_split ?_ (fun p3 => ?_)
  · refine s_astoreN (lv' := [(5, .null), (0, aR G 0), (1, .int v1), (2, .int v2), (3, .long v3)]) dX11_write_5 rfl rfl ?_
    refine s_aloadN 0 dX11_write_7 rfl ?_
    refine s_ifnonnullN dX11_write_9 ?_
    refine s_aload_n 1 dX11_write_12 rfl ?_
    refine s_ldc (v := (-1000000001)) dX11_write_13 wt_263 ?_
    refine n_invV_i dX11_write_15 ok_X11_finding rfl wt_264 wt_266 ws_0 (ci := 0) rfl rfl so_0 (sh_lt so_0 rfl) [.int (-1000000001)] rfl rfl rfl rfl (c_P_finding l G _ _) (fun r5 M6 => ?_)
    refine s_i2l dX11_write_18 ?_
    exact n_lret dX11_write_19 rfl
  · refine s_grd (fun h4 => ?_)
    refine s_astore (lv' := [(5, aR G p3), (0, aR G 0), (1, .int v1), (2, .int v2), (3, .long v3)]) dX11_write_5 rfl rfl ?_
    refine s_aload 0 dX11_write_7 rfl ?_
    refine s_ifnonnullS (tgt := 20) dX11_write_9 (by decide) ?_
    refine s_aload 0 dX11_write_20 rfl ?_
    refine n_invV_i dX11_write_22 ok_X9_isMissing rfl wt_842 wt_843 wt_844 (ci := 10) rfl rfl (isb_1 h4) (sh_lt (isb_1 h4) rfl) [] rfl rfl rfl rfl (c_S_isMissing l G _ (isb_1 h4) _) (fun r7 M8 => ?_)
    refine s_if_eq (tgt := 37) dX11_write_25 (by decide) (fun _ => ?_) (fun _ => ?_)
    · refine s_iload_n 3 dX11_write_37 rfl ?_
      refine s_iconst (v := 0) dX11_write_38 (by decide) ?_
      refine s_aload 0 dX11_write_39 rfl ?_
      refine n_getI dX11_write_41 okf_P_307_10 rfl rfl (isb_1 h4) (sh_lt (isb_1 h4) rfl) ?_
      refine s_iconst (v := 1) dX11_write_44 (by decide) ?_
      refine s_isub dX11_write_45 ?_
      refine n_invS_i dX11_write_46 ok_X11_within rfl wt_260 wt_261 [.int v2, .int 0, .int ((M8.1 p3 1) - 1)] rfl rfl rfl rfl (c_P_within l G _ _ _ _) (fun r9 M10 => ?_)
      refine s_if_ne (tgt := 60) dX11_write_49 (by decide) (fun _ => ?_) (fun _ => ?_)
      · refine s_aload_n 1 dX11_write_52 rfl ?_
        refine s_ldc (v := (-1000000001)) dX11_write_53 wt_263 ?_
        refine n_invV_i dX11_write_55 ok_X11_finding rfl wt_264 wt_266 ws_0 (ci := 0) rfl rfl so_0 (sh_lt so_0 rfl) [.int (-1000000001)] rfl rfl rfl rfl (c_P_finding l G _ _) (fun r11 M12 => ?_)
        refine s_i2l dX11_write_58 ?_
        exact n_lret dX11_write_59 rfl
      · refine s_aload 0 dX11_write_60 rfl ?_
        refine n_getR (x := (p3 + 1)) dX11_write_62 okf_P_312_10 rfl rfl (isb_1 h4) (sh_lt (isb_1 h4) rfl) (r_nums (isb_1 h4)) ?_
        refine s_iload_n 3 dX11_write_65 rfl ?_
        refine n_lal dX11_write_66 (ly_nums (isb_1 h4)) ?_
        refine s_lstore (lv' := [(6, .long (M10.2.1 (p3 + 1) (ix v2))), (5, aR G p3), (0, aR G 0), (1, .int v1), (2, .int v2), (3, .long v3)]) dX11_write_67 rfl rfl ?_
        refine s_aload 1 dX11_write_69 rfl ?_
        refine s_iload_n 4 dX11_write_71 rfl ?_
        refine s_lload_n 5 dX11_write_72 rfl ?_
        refine n_invV_u dX11_write_73 ok_X9_put rfl wt_847 wt_848 wt_849 (ci := 10) rfl rfl (isb_1 h4) (sh_lt (isb_1 h4) rfl) [.int v2, .long v3] rfl rfl rfl rfl (c_S_put l G _ _ _ (isb_1 h4) _) (fun r13 M14 => ?_)
        refine s_lload 0 dX11_write_76 rfl ?_
        exact n_lret dX11_write_78 rfl
    · refine s_aload_n 1 dX11_write_28 rfl ?_
      refine s_ldcw (v := (-1000000006)) dX11_write_29 wt_846 ?_
      refine n_invV_i dX11_write_32 ok_X11_finding rfl wt_264 wt_266 ws_0 (ci := 0) rfl rfl so_0 (sh_lt so_0 rfl) [.int (-1000000006)] rfl rfl rfl rfl (c_P_finding l G _ _) (fun r15 M16 => ?_)
      refine s_i2l dX11_write_35 ?_
      exact n_lret dX11_write_36 rfl
def f_S_hasNumbers (o : Nat) (v1 : Int32) (v2 : Int32) (M : Nm) : Option (Int32 × Nm) := if v1 < 0 then (some (0, M)) else (if v2 < 0 then (some (0, M)) else (if (M.1 o 1) < v2 then (some (0, M)) else (if ((M.1 o 1) - v2) < v1 then (some (0, M)) else (some (1, M)))))
theorem c_S_hasNumbers (l : Launch) (G : Gl) (o : Nat) (v1 : Int32) (v2 : Int32) (ho : (sh o).1 = 10) (M : Nm) : NJ l G Y_X9_hasNumbers (zR 0 0) eI 0 (lv_args 0 [aR G o, .int v1, .int v2]) [] M (f_S_hasNumbers o v1 v2 M) := by
  unfold f_S_hasNumbers
  show NJ l G Y_X9_hasNumbers (zR 0 0) eI 0 [(0, aR G o), (1, .int v1), (2, .int v2)] [] M _
  refine s_iload_n 1 dX9_hasNumbers_0 rfl ?_
  refine s_if_lt (tgt := 30) dX9_hasNumbers_1 (by decide) (fun _ => ?_) (fun _ => ?_)
  · refine s_iconst (v := 0) dX9_hasNumbers_30 (by decide) ?_
    exact n_zret0 dX9_hasNumbers_31 rfl
  · refine s_iload_n 2 dX9_hasNumbers_4 rfl ?_
    refine s_if_lt (tgt := 30) dX9_hasNumbers_5 (by decide) (fun _ => ?_) (fun _ => ?_)
    · refine s_iconst (v := 0) dX9_hasNumbers_30 (by decide) ?_
      exact n_zret0 dX9_hasNumbers_31 rfl
    · refine s_iload_n 2 dX9_hasNumbers_8 rfl ?_
      refine s_aload_n 0 dX9_hasNumbers_9 rfl ?_
      refine n_getI dX9_hasNumbers_10 okf_S_19_10 rfl rfl ho (sh_lt ho rfl) ?_
      refine s_icmp_gt (tgt := 30) dX9_hasNumbers_13 (by decide) (fun _ => ?_) (fun _ => ?_)
      · refine s_iconst (v := 0) dX9_hasNumbers_30 (by decide) ?_
        exact n_zret0 dX9_hasNumbers_31 rfl
      · refine s_iload_n 1 dX9_hasNumbers_16 rfl ?_
        refine s_aload_n 0 dX9_hasNumbers_17 rfl ?_
        refine n_getI dX9_hasNumbers_18 okf_S_19_10 rfl rfl ho (sh_lt ho rfl) ?_
        refine s_iload_n 2 dX9_hasNumbers_21 rfl ?_
        refine s_isub dX9_hasNumbers_22 ?_
        refine s_icmp_gt (tgt := 30) dX9_hasNumbers_23 (by decide) (fun _ => ?_) (fun _ => ?_)
        · refine s_iconst (v := 0) dX9_hasNumbers_30 (by decide) ?_
          exact n_zret0 dX9_hasNumbers_31 rfl
        · refine s_iconst (v := 1) dX9_hasNumbers_26 (by decide) ?_
          refine s_goto (tgt := 31) dX9_hasNumbers_27 (by decide) ?_
          exact n_zret1 dX9_hasNumbers_31 rfl
def f_P_copy (v1 : Int32) (v2 : Int32) (v3 : Int32) (v4 : Int32) (v5 : Int32) (M : Nm) : Option (Int32 × Nm) := bnd (f_P_sheetOf v1 M) fun r1 M2 => ifn r1 (bnd (f_P_sheetOf v3 M2) fun r5 M6 => ifn r5 (bnd (f_P_finding (-1000000001) M6) fun r9 M10 => some (r9, M10)) fun p7 => grd (isb 10 p7) <| bnd (f_P_finding (-1000000001) M6) fun r11 M12 => some (r11, M12)) fun p3 => grd (isb 10 p3) <| bnd (f_P_sheetOf v3 M2) fun r13 M14 => ifn r13 (bnd (f_P_finding (-1000000001) M14) fun r17 M18 => some (r17, M18)) fun p15 => grd (isb 10 p15) <| bnd (f_S_isMissing p3 M14) fun r19 M20 => if r19 = 0 then (bnd (f_S_isMissing p15 M20) fun r21 M22 => if r21 = 0 then (if (M22.1 p3 0) = (M22.1 p15 0) then (bnd (f_S_hasNumbers p3 v2 v5 M22) fun r23 M24 => if r23 = 0 then (bnd (f_P_finding (-1000000001) M24) fun r25 M26 => some (r25, M26)) else (bnd (f_S_hasNumbers p15 v4 v5 M24) fun r27 M28 => if r27 = 0 then (bnd (f_P_finding (-1000000001) M28) fun r29 M30 => some (r29, M30)) else (grd (inc v2 v5 40 && inc v4 v5 40) <| bl (mCl M28 (p3 + 1) v2 (p15 + 1) v4 v5) fun M31 => some (v5, M31)))) else (bnd (f_P_finding (-1000000003) M22) fun r32 M33 => some (r32, M33))) else (bnd (f_P_finding (-1000000006) M22) fun r34 M35 => some (r34, M35))) else (bnd (f_P_finding (-1000000006) M20) fun r36 M37 => some (r36, M37))
theorem c_P_copy (l : Launch) (G : Gl) (v1 : Int32) (v2 : Int32) (v3 : Int32) (v4 : Int32) (v5 : Int32)  (M : Nm) : NJ l G Y_X11_copy (zR 2 43) eI 0 (lv_args 0 [aR G 0, .int v1, .int v2, .int v3, .int v4, .int v5]) [] M (f_P_copy v1 v2 v3 v4 v5 M) := by
  unfold f_P_copy
  show NJ l G Y_X11_copy (zR 2 43) eI 0 [(0, aR G 0), (1, .int v1), (2, .int v2), (3, .int v3), (4, .int v4), (5, .int v5)] [] M _
  refine s_aload_n 0 dX11_copy_0 rfl ?_
  refine s_iload_n 1 dX11_copy_1 rfl ?_
  refine n_invV_r dX11_copy_2 ok_X11_sheetOf rfl wt_826 wt_828 ws_18 (ci := 0) rfl rfl so_0 (sh_lt so_0 rfl) [.int v1] rfl rfl rfl rfl (c_P_sheetOf l G _ _) (fun r1 M2 => ?_)
  refine s_split ?_ (fun p3 => ?_)
  · refine s_astoreN (lv' := [(6, .null), (0, aR G 0), (1, .int v1), (2, .int v2), (3, .int v3), (4, .int v4), (5, .int v5)]) dX11_copy_5 rfl rfl ?_
    refine s_aload_n 1 dX11_copy_7 rfl ?_
    refine s_iload_n 4 dX11_copy_8 rfl ?_
    refine n_invV_r dX11_copy_9 ok_X11_sheetOf rfl wt_826 wt_828 ws_18 (ci := 0) rfl rfl so_0 (sh_lt so_0 rfl) [.int v3] rfl rfl rfl rfl (c_P_sheetOf l G _ _) (fun r5 M6 => ?_)
    refine s_split ?_ (fun p7 => ?_)
    · refine s_astoreN (lv' := [(7, .null), (6, .null), (0, aR G 0), (1, .int v1), (2, .int v2), (3, .int v3), (4, .int v4), (5, .int v5)]) dX11_copy_12 rfl rfl ?_
      refine s_aloadN 1 dX11_copy_14 rfl ?_
      refine s_ifnullN (tgt := 24) dX11_copy_16 (by decide) ?_
      refine s_aload_n 2 dX11_copy_24 rfl ?_
      refine s_ldc (v := (-1000000001)) dX11_copy_25 wt_263 ?_
      refine n_invV_i dX11_copy_27 ok_X11_finding rfl wt_264 wt_266 ws_0 (ci := 0) rfl rfl so_0 (sh_lt so_0 rfl) [.int (-1000000001)] rfl rfl rfl rfl (c_P_finding l G _ _) (fun r9 M10 => ?_)
      exact n_iret dX11_copy_30 rfl
    · refine s_grd (fun h8 => ?_)
      refine s_astore (lv' := [(7, aR G p7), (6, .null), (0, aR G 0), (1, .int v1), (2, .int v2), (3, .int v3), (4, .int v4), (5, .int v5)]) dX11_copy_12 rfl rfl ?_
      refine s_aloadN 1 dX11_copy_14 rfl ?_
      refine s_ifnullN (tgt := 24) dX11_copy_16 (by decide) ?_
      refine s_aload_n 2 dX11_copy_24 rfl ?_
      refine s_ldc (v := (-1000000001)) dX11_copy_25 wt_263 ?_
      refine n_invV_i dX11_copy_27 ok_X11_finding rfl wt_264 wt_266 ws_0 (ci := 0) rfl rfl so_0 (sh_lt so_0 rfl) [.int (-1000000001)] rfl rfl rfl rfl (c_P_finding l G _ _) (fun r11 M12 => ?_)
      exact n_iret dX11_copy_30 rfl
  · refine s_grd (fun h4 => ?_)
    refine s_astore (lv' := [(6, aR G p3), (0, aR G 0), (1, .int v1), (2, .int v2), (3, .int v3), (4, .int v4), (5, .int v5)]) dX11_copy_5 rfl rfl ?_
    refine s_aload_n 1 dX11_copy_7 rfl ?_
    refine s_iload_n 4 dX11_copy_8 rfl ?_
    refine n_invV_r dX11_copy_9 ok_X11_sheetOf rfl wt_826 wt_828 ws_18 (ci := 0) rfl rfl so_0 (sh_lt so_0 rfl) [.int v3] rfl rfl rfl rfl (c_P_sheetOf l G _ _) (fun r13 M14 => ?_)
    refine s_split ?_ (fun p15 => ?_)
    · refine s_astoreN (lv' := [(7, .null), (6, aR G p3), (0, aR G 0), (1, .int v1), (2, .int v2), (3, .int v3), (4, .int v4), (5, .int v5)]) dX11_copy_12 rfl rfl ?_
      refine s_aload 1 dX11_copy_14 rfl ?_
      refine s_ifnullS dX11_copy_16 ?_
      refine s_aloadN 0 dX11_copy_19 rfl ?_
      refine s_ifnonnullN dX11_copy_21 ?_
      refine s_aload_n 2 dX11_copy_24 rfl ?_
      refine s_ldc (v := (-1000000001)) dX11_copy_25 wt_263 ?_
      refine n_invV_i dX11_copy_27 ok_X11_finding rfl wt_264 wt_266 ws_0 (ci := 0) rfl rfl so_0 (sh_lt so_0 rfl) [.int (-1000000001)] rfl rfl rfl rfl (c_P_finding l G _ _) (fun r17 M18 => ?_)
      exact n_iret dX11_copy_30 rfl
    · refine s_grd (fun h16 => ?_)
      refine s_astore (lv' := [(7, aR G p15), (6, aR G p3), (0, aR G 0), (1, .int v1), (2, .int v2), (3, .int v3), (4, .int v4), (5, .int v5)]) dX11_copy_12 rfl rfl ?_
      refine s_aload 1 dX11_copy_14 rfl ?_
      refine s_ifnullS dX11_copy_16 ?_
      refine s_aload 0 dX11_copy_19 rfl ?_
      refine s_ifnonnullS (tgt := 31) dX11_copy_21 (by decide) ?_
      refine s_aload 1 dX11_copy_31 rfl ?_
      refine n_invV_i dX11_copy_33 ok_X9_isMissing rfl wt_842 wt_843 wt_844 (ci := 10) rfl rfl (isb_1 h4) (sh_lt (isb_1 h4) rfl) [] rfl rfl rfl rfl (c_S_isMissing l G _ (isb_1 h4) _) (fun r19 M20 => ?_)
      refine s_if_ne (tgt := 47) dX11_copy_36 (by decide) (fun _ => ?_) (fun _ => ?_)
      · refine s_aload 0 dX11_copy_39 rfl ?_
        refine n_invV_i dX11_copy_41 ok_X9_isMissing rfl wt_842 wt_843 wt_844 (ci := 10) rfl rfl (isb_1 h16) (sh_lt (isb_1 h16) rfl) [] rfl rfl rfl rfl (c_S_isMissing l G _ (isb_1 h16) _) (fun r21 M22 => ?_)
        refine s_if_eq (tgt := 55) dX11_copy_44 (by decide) (fun _ => ?_) (fun _ => ?_)
        · refine s_aload 1 dX11_copy_55 rfl ?_
          refine n_getI dX11_copy_57 okf_P_320_10 rfl rfl (isb_1 h4) (sh_lt (isb_1 h4) rfl) ?_
          refine s_aload 0 dX11_copy_60 rfl ?_
          refine n_getI dX11_copy_62 okf_P_320_10 rfl rfl (isb_1 h16) (sh_lt (isb_1 h16) rfl) ?_
          refine s_icmp_eq (tgt := 75) dX11_copy_65 (by decide) (fun _ => ?_) (fun _ => ?_)
          · refine s_aload 1 dX11_copy_75 rfl ?_
            refine s_iload_n 4 dX11_copy_77 rfl ?_
            refine s_iload 7 dX11_copy_78 rfl ?_
            refine n_invV_i dX11_copy_80 ok_X9_hasNumbers rfl wt_859 wt_860 wt_861 (ci := 10) rfl rfl (isb_1 h4) (sh_lt (isb_1 h4) rfl) [.int v2, .int v5] rfl rfl rfl rfl (c_S_hasNumbers l G _ _ _ (isb_1 h4) _) (fun r23 M24 => ?_)
            refine s_if_eq (tgt := 98) dX11_copy_83 (by decide) (fun _ => ?_) (fun _ => ?_)
            · refine s_aload_n 2 dX11_copy_98 rfl ?_
              refine s_ldc (v := (-1000000001)) dX11_copy_99 wt_263 ?_
              refine n_invV_i dX11_copy_101 ok_X11_finding rfl wt_264 wt_266 ws_0 (ci := 0) rfl rfl so_0 (sh_lt so_0 rfl) [.int (-1000000001)] rfl rfl rfl rfl (c_P_finding l G _ _) (fun r25 M26 => ?_)
              exact n_iret dX11_copy_104 rfl
            · refine s_aload 0 dX11_copy_86 rfl ?_
              refine s_iload 6 dX11_copy_88 rfl ?_
              refine s_iload 7 dX11_copy_90 rfl ?_
              refine n_invV_i dX11_copy_92 ok_X9_hasNumbers rfl wt_859 wt_860 wt_861 (ci := 10) rfl rfl (isb_1 h16) (sh_lt (isb_1 h16) rfl) [.int v4, .int v5] rfl rfl rfl rfl (c_S_hasNumbers l G _ _ _ (isb_1 h16) _) (fun r27 M28 => ?_)
              refine s_if_ne (tgt := 105) dX11_copy_95 (by decide) (fun _ => ?_) (fun _ => ?_)
              · refine s_aload_n 2 dX11_copy_98 rfl ?_
                refine s_ldc (v := (-1000000001)) dX11_copy_99 wt_263 ?_
                refine n_invV_i dX11_copy_101 ok_X11_finding rfl wt_264 wt_266 ws_0 (ci := 0) rfl rfl so_0 (sh_lt so_0 rfl) [.int (-1000000001)] rfl rfl rfl rfl (c_P_finding l G _ _) (fun r29 M30 => ?_)
                exact n_iret dX11_copy_104 rfl
              · refine s_aload 1 dX11_copy_105 rfl ?_
                refine n_getR (x := (p3 + 1)) dX11_copy_107 okf_P_312_10 rfl rfl (isb_1 h4) (sh_lt (isb_1 h4) rfl) (r_nums (isb_1 h4)) ?_
                refine s_iload_n 4 dX11_copy_110 rfl ?_
                refine s_aload 0 dX11_copy_111 rfl ?_
                refine n_getR (x := (p15 + 1)) dX11_copy_113 okf_P_312_10 rfl rfl (isb_1 h16) (sh_lt (isb_1 h16) rfl) (r_nums (isb_1 h16)) ?_
                refine s_iload 6 dX11_copy_116 rfl ?_
                refine s_iload 7 dX11_copy_118 rfl ?_
                refine n_copyl dX11_copy_120 wt_863 wt_614 wt_613 wt_16 (ly_nums (isb_1 h4)) (ly_nums (isb_1 h16)) rfl ⟨by decide, by decide⟩ ?_
                refine s_topM (fun M31 => ?_)
                refine s_iload 7 dX11_copy_123 rfl ?_
                exact n_iret dX11_copy_125 rfl
          · refine s_aload_n 2 dX11_copy_68 rfl ?_
            refine s_ldc (v := (-1000000003)) dX11_copy_69 wt_545 ?_
            refine n_invV_i dX11_copy_71 ok_X11_finding rfl wt_264 wt_266 ws_0 (ci := 0) rfl rfl so_0 (sh_lt so_0 rfl) [.int (-1000000003)] rfl rfl rfl rfl (c_P_finding l G _ _) (fun r32 M33 => ?_)
            exact n_iret dX11_copy_74 rfl
        · refine s_aload_n 2 dX11_copy_47 rfl ?_
          refine s_ldcw (v := (-1000000006)) dX11_copy_48 wt_846 ?_
          refine n_invV_i dX11_copy_51 ok_X11_finding rfl wt_264 wt_266 ws_0 (ci := 0) rfl rfl so_0 (sh_lt so_0 rfl) [.int (-1000000006)] rfl rfl rfl rfl (c_P_finding l G _ _) (fun r34 M35 => ?_)
          exact n_iret dX11_copy_54 rfl
      · refine s_aload_n 2 dX11_copy_47 rfl ?_
        refine s_ldcw (v := (-1000000006)) dX11_copy_48 wt_846 ?_
        refine n_invV_i dX11_copy_51 ok_X11_finding rfl wt_264 wt_266 ws_0 (ci := 0) rfl rfl so_0 (sh_lt so_0 rfl) [.int (-1000000006)] rfl rfl rfl rfl (c_P_finding l G _ _) (fun r36 M37 => ?_)
        exact n_iret dX11_copy_54 rfl
def f_P_lays_L37  (c2 : Nat) : Nat → Int32 → Int32 → Nm → Option (Int32 × Nm)
  | 0, _, _, _ => none
  | f + 1, v3, v4, M => if (M.1 c2 1) ≤ v4 then (some (v3, M)) else (bnd (f_L_handOf 8 v4 M) fun r9 M10 => ifn r9 (grd (inb v4 40) <| f_P_lays_L37 c2 f v3 (v4 + 1) M10) fun p11 => grd (isb 7 p11) <| grd (inb v4 40) <| if (lg_cmp (M10.2.1 (c2 + 1) (ix v4)) 0) < 0 then (f_P_lays_L37 c2 f v3 (v4 + 1) M10) else (if 0 < (lg_cmp (M10.2.1 (c2 + 1) (ix v4)) 999) then (f_P_lays_L37 c2 f v3 (v4 + 1) M10) else (bl (mI M10 p11 2 ((M10.2.1 (c2 + 1) (ix v4)).toInt32)) fun M13 => f_P_lays_L37 c2 f (v3 + 1) (v4 + 1) M13)))
theorem c_P_lays_L37 (l : Launch) (G : Gl)  (c2 : Nat) (hc2 : (sh c2).1 = 10)  : ∀ (f : Nat) (v3 : Int32) (v4 : Int32)  (M : Nm), NJ l G Y_X11_lays (zR 2 43) eI 37 [(0, aR G 0), (2, aR G c2), (3, .int v3), (4, .int v4)] [] M (f_P_lays_L37 c2 f v3 v4 M) := by
  intro f
  induction f with
  | zero => intro v3 v4 M; exact s_none
  | succ f ih =>
    intro v3 v4 M
    rw [f_P_lays_L37]
    refine s_iload 3 dX11_lays_37 rfl ?_
    refine s_aload_n 1 dX11_lays_39 rfl ?_
    refine n_getI dX11_lays_40 okf_P_307_10 rfl rfl hc2 (sh_lt hc2 rfl) ?_
    refine s_icmp_ge (tgt := 104) dX11_lays_43 (by decide) (fun _ => ?_) (fun _ => ?_)
    · refine s_iload_n 2 dX11_lays_104 rfl ?_
      exact n_iret dX11_lays_105 rfl
    · refine s_aload_n 0 dX11_lays_46 rfl ?_
      refine n_getR (x := 8) dX11_lays_47 okf_P_50_0 rfl rfl so_0 (sh_lt so_0 rfl) rfl ?_
      refine s_iload 3 dX11_lays_50 rfl ?_
      refine n_invV_r dX11_lays_52 ok_X5_handOf rfl wt_370 wt_371 wt_372 (ci := 8) rfl rfl so_8 (sh_lt so_8 rfl) [.int v4] rfl rfl rfl rfl (c_L_handOf l G _ _ so_8 _) (fun r9 M10 => ?_)
      refine s_split ?_ (fun p11 => ?_)
      · refine s_astoreN (lv' := [(5, .null), (0, aR G 0), (2, aR G c2), (3, .int v3), (4, .int v4)]) dX11_lays_55 rfl rfl ?_
        refine s_aload_n 2 dX11_lays_57 rfl ?_
        refine n_getR (x := (c2 + 1)) dX11_lays_58 okf_P_312_10 rfl rfl hc2 (sh_lt hc2 rfl) (r_nums hc2) ?_
        refine s_iload 4 dX11_lays_61 rfl ?_
        refine n_lal dX11_lays_63 (ly_nums hc2) ?_
        refine s_lstore (lv' := [(6, .long (M10.2.1 (c2 + 1) (ix v4))), (5, .null), (0, aR G 0), (2, aR G c2), (3, .int v3), (4, .int v4)]) dX11_lays_64 rfl rfl ?_
        refine s_aloadN 1 dX11_lays_66 rfl ?_
        refine s_ifnullN (tgt := 98) dX11_lays_68 (by decide) ?_
        refine s_iinc (v := 1) (lv' := [(4, .int (v4 + 1)), (6, .long (M10.2.1 (c2 + 1) (ix v4))), (5, .null), (0, aR G 0), (2, aR G c2), (3, .int v3)]) 5 dX11_lays_98 rfl (by decide) rfl rfl ?_
        refine s_goto (tgt := 37) dX11_lays_101 (by decide) ?_
        refine s_lv [3, 4, 5, 0] (lv' := [(0, aR G 0), (2, aR G c2), (3, .int v3), (4, .int (v4 + 1))]) rfl ?_
        exact ih _ _ _
      · refine s_grd (fun h12 => ?_)
        refine s_astore (lv' := [(5, aR G p11), (0, aR G 0), (2, aR G c2), (3, .int v3), (4, .int v4)]) dX11_lays_55 rfl rfl ?_
        refine s_aload_n 2 dX11_lays_57 rfl ?_
        refine n_getR (x := (c2 + 1)) dX11_lays_58 okf_P_312_10 rfl rfl hc2 (sh_lt hc2 rfl) (r_nums hc2) ?_
        refine s_iload 4 dX11_lays_61 rfl ?_
        refine n_lal dX11_lays_63 (ly_nums hc2) ?_
        refine s_lstore (lv' := [(6, .long (M10.2.1 (c2 + 1) (ix v4))), (5, aR G p11), (0, aR G 0), (2, aR G c2), (3, .int v3), (4, .int v4)]) dX11_lays_64 rfl rfl ?_
        refine s_aload 1 dX11_lays_66 rfl ?_
        refine s_ifnullS dX11_lays_68 ?_
        refine s_lload 0 dX11_lays_71 rfl ?_
        refine s_lconst (v := 0) dX11_lays_73 (by decide) ?_
        refine s_lcmp dX11_lays_74 ?_
        refine s_if_lt (tgt := 98) dX11_lays_75 (by decide) (fun _ => ?_) (fun _ => ?_)
        · refine s_iinc (v := 1) (lv' := [(4, .int (v4 + 1)), (6, .long (M10.2.1 (c2 + 1) (ix v4))), (5, aR G p11), (0, aR G 0), (2, aR G c2), (3, .int v3)]) 5 dX11_lays_98 rfl (by decide) rfl rfl ?_
          refine s_goto (tgt := 37) dX11_lays_101 (by decide) ?_
          refine s_lv [3, 4, 5, 0] (lv' := [(0, aR G 0), (2, aR G c2), (3, .int v3), (4, .int (v4 + 1))]) rfl ?_
          exact ih _ _ _
        · refine s_lload 0 dX11_lays_78 rfl ?_
          refine s_ldc2 (v := 999) dX11_lays_80 wt_868 ?_
          refine s_lcmp dX11_lays_83 ?_
          refine s_if_gt (tgt := 98) dX11_lays_84 (by decide) (fun _ => ?_) (fun _ => ?_)
          · refine s_iinc (v := 1) (lv' := [(4, .int (v4 + 1)), (6, .long (M10.2.1 (c2 + 1) (ix v4))), (5, aR G p11), (0, aR G 0), (2, aR G c2), (3, .int v3)]) 5 dX11_lays_98 rfl (by decide) rfl rfl ?_
            refine s_goto (tgt := 37) dX11_lays_101 (by decide) ?_
            refine s_lv [3, 4, 5, 0] (lv' := [(0, aR G 0), (2, aR G c2), (3, .int v3), (4, .int (v4 + 1))]) rfl ?_
            exact ih _ _ _
          · refine s_aload 1 dX11_lays_87 rfl ?_
            refine s_lload 0 dX11_lays_89 rfl ?_
            refine s_l2i dX11_lays_91 ?_
            refine n_putI dX11_lays_92 okp_P_163_7 rfl rfl (isb_1 h12) (sh_lt (isb_1 h12) rfl) ?_
            refine s_topM (fun M13 => ?_)
            refine s_iinc (v := 1) (lv' := [(3, .int (v3 + 1)), (6, .long (M10.2.1 (c2 + 1) (ix v4))), (5, aR G p11), (0, aR G 0), (2, aR G c2), (4, .int v4)]) 4 dX11_lays_95 rfl (by decide) rfl rfl ?_
            refine s_iinc (v := 1) (lv' := [(4, .int (v4 + 1)), (3, .int (v3 + 1)), (6, .long (M10.2.1 (c2 + 1) (ix v4))), (5, aR G p11), (0, aR G 0), (2, aR G c2)]) 5 dX11_lays_98 rfl (by decide) rfl rfl ?_
            refine s_goto (tgt := 37) dX11_lays_101 (by decide) ?_
            refine s_lv [4, 5, 1, 0] (lv' := [(0, aR G 0), (2, aR G c2), (3, .int (v3 + 1)), (4, .int (v4 + 1))]) rfl ?_
            exact ih _ _ _
def f_P_lays (v1 : Int32) (M : Nm) : Option (Int32 × Nm) := bnd (f_P_sheetOf v1 M) fun r1 M2 => ifn r1 (bnd (f_P_finding (-1000000001) M2) fun r5 M6 => some (r5, M6)) fun p3 => grd (isb 10 p3) <| bnd (f_S_isMissing p3 M2) fun r7 M8 => if r7 = 0 then (f_P_lays_L37 p3 FU 0 0 M8) else (bnd (f_P_finding (-1000000006) M8) fun r14 M15 => some (r14, M15))
theorem c_P_lays (l : Launch) (G : Gl) (v1 : Int32)  (M : Nm) : NJ l G Y_X11_lays (zR 2 43) eI 0 (lv_args 0 [aR G 0, .int v1]) [] M (f_P_lays v1 M) := by
  unfold f_P_lays
  show NJ l G Y_X11_lays (zR 2 43) eI 0 [(0, aR G 0), (1, .int v1)] [] M _
  refine s_aload_n 0 dX11_lays_0 rfl ?_
  refine s_iload_n 1 dX11_lays_1 rfl ?_
  refine n_invV_r dX11_lays_2 ok_X11_sheetOf rfl wt_826 wt_828 ws_18 (ci := 0) rfl rfl so_0 (sh_lt so_0 rfl) [.int v1] rfl rfl rfl rfl (c_P_sheetOf l G _ _) (fun r1 M2 => ?_)
  refine s_split ?_ (fun p3 => ?_)
  · refine s_astore_nN (i := 2) (lv' := [(2, .null), (0, aR G 0), (1, .int v1)]) dX11_lays_5 rfl rfl rfl ?_
    refine s_aload_nN 0 dX11_lays_6 rfl ?_
    refine s_ifnonnullN dX11_lays_7 ?_
    refine s_aload_n 1 dX11_lays_10 rfl ?_
    refine s_ldc (v := (-1000000001)) dX11_lays_11 wt_263 ?_
    refine n_invV_i dX11_lays_13 ok_X11_finding rfl wt_264 wt_266 ws_0 (ci := 0) rfl rfl so_0 (sh_lt so_0 rfl) [.int (-1000000001)] rfl rfl rfl rfl (c_P_finding l G _ _) (fun r5 M6 => ?_)
    exact n_iret dX11_lays_16 rfl
  · refine s_grd (fun h4 => ?_)
    refine s_astore_n (i := 2) (lv' := [(2, aR G p3), (0, aR G 0), (1, .int v1)]) dX11_lays_5 rfl rfl rfl ?_
    refine s_aload_n 0 dX11_lays_6 rfl ?_
    refine s_ifnonnullS (tgt := 17) dX11_lays_7 (by decide) ?_
    refine s_aload_n 0 dX11_lays_17 rfl ?_
    refine n_invV_i dX11_lays_18 ok_X9_isMissing rfl wt_842 wt_843 wt_844 (ci := 10) rfl rfl (isb_1 h4) (sh_lt (isb_1 h4) rfl) [] rfl rfl rfl rfl (c_S_isMissing l G _ (isb_1 h4) _) (fun r7 M8 => ?_)
    refine s_if_eq (tgt := 32) dX11_lays_21 (by decide) (fun _ => ?_) (fun _ => ?_)
    · refine s_iconst (v := 0) dX11_lays_32 (by decide) ?_
      refine s_istore_n (i := 3) (lv' := [(3, .int 0), (2, aR G p3), (0, aR G 0), (1, .int v1)]) dX11_lays_33 rfl rfl rfl ?_
      refine s_iconst (v := 0) dX11_lays_34 (by decide) ?_
      refine s_istore (lv' := [(4, .int 0), (3, .int 0), (2, aR G p3), (0, aR G 0), (1, .int v1)]) dX11_lays_35 rfl rfl ?_
      refine s_lv [3, 2, 1, 0] (lv' := [(0, aR G 0), (2, aR G p3), (3, .int 0), (4, .int 0)]) rfl ?_
      refine c_P_lays_L37 l G _ (isb_1 h4) FU _ _ _
    · refine s_aload_n 1 dX11_lays_24 rfl ?_
      refine s_ldcw (v := (-1000000006)) dX11_lays_25 wt_846 ?_
      refine n_invV_i dX11_lays_28 ok_X11_finding rfl wt_264 wt_266 ws_0 (ci := 0) rfl rfl so_0 (sh_lt so_0 rfl) [.int (-1000000006)] rfl rfl rfl rfl (c_P_finding l G _ _) (fun r14 M15 => ?_)
      exact n_iret dX11_lays_31 rfl
def f_P_book_L54  (c3 : Nat) (c4 : Nat) : Nat → Int32 → Nm → Option (Int32 × Nm)
  | 0, _, _ => none
  | f + 1, v5, M => if (M.1 c3 1) ≤ v5 then (some (M.1 c3 1, M)) else (bnd (f_S_put c3 v5 ((M.1 c4 3).toInt64) M) fun r15 M16 => bnd (f_L_goYear 30 M16) fun r17 M18 => f_P_book_L54 c3 c4 f (v5 + 1) M18)
theorem c_P_book_L54 (l : Launch) (G : Gl)  (c3 : Nat) (c4 : Nat) (hc3 : (sh c3).1 = 10) (hc4 : (sh c4).1 = 7)  : ∀ (f : Nat) (v5 : Int32)  (M : Nm), NJ l G Y_X11_book (zR 5 121) eI 54 [(0, aR G 0), (3, aR G c3), (4, aR G c4), (5, .int v5)] [] M (f_P_book_L54 c3 c4 f v5 M) := by
  intro f
  induction f with
  | zero => intro v5 M; exact s_none
  | succ f ih =>
    intro v5 M
    rw [f_P_book_L54]
    refine s_iload 3 dX11_book_54 rfl ?_
    refine s_aload_n 1 dX11_book_56 rfl ?_
    refine n_getI dX11_book_57 okf_P_307_10 rfl rfl hc3 (sh_lt hc3 rfl) ?_
    refine s_icmp_ge (tgt := 88) dX11_book_60 (by decide) (fun _ => ?_) (fun _ => ?_)
    · refine s_aload_n 1 dX11_book_88 rfl ?_
      refine n_getI dX11_book_89 okf_P_307_10 rfl rfl hc3 (sh_lt hc3 rfl) ?_
      exact n_iret dX11_book_92 rfl
    · refine s_aload_n 1 dX11_book_63 rfl ?_
      refine s_iload 3 dX11_book_64 rfl ?_
      refine s_aload 2 dX11_book_66 rfl ?_
      refine n_getI dX11_book_68 okf_P_166_7 rfl rfl hc4 (sh_lt hc4 rfl) ?_
      refine s_i2l dX11_book_71 ?_
      refine n_invV_u dX11_book_72 ok_X9_put rfl wt_847 wt_848 wt_849 (ci := 10) rfl rfl hc3 (sh_lt hc3 rfl) [.int v5, .long ((M.1 c4 3).toInt64)] rfl rfl rfl rfl (c_S_put l G _ _ _ hc3 _) (fun r15 M16 => ?_)
      refine s_aload_n 0 dX11_book_75 rfl ?_
      refine n_getR (x := 30) dX11_book_76 okf_P_54_0 rfl rfl so_0 (sh_lt so_0 rfl) rfl ?_
      refine n_invV_u dX11_book_79 ok_X5_goYear rfl wt_622 wt_566 wt_567 (ci := 8) rfl rfl so_30 (sh_lt so_30 rfl) [] rfl rfl rfl rfl (c_L_goYear l G _ so_30 _) (fun r17 M18 => ?_)
      refine s_iinc (v := 1) (lv' := [(5, .int (v5 + 1)), (0, aR G 0), (3, aR G c3), (4, aR G c4)]) 3 dX11_book_82 rfl (by decide) rfl rfl ?_
      refine s_goto (tgt := 54) dX11_book_85 (by decide) ?_
      refine s_lv [1, 2, 3, 0] (lv' := [(0, aR G 0), (3, aR G c3), (4, aR G c4), (5, .int (v5 + 1))]) rfl ?_
      exact ih _ _
def f_P_book (v1 : Int32) (v2 : Int32) (M : Nm) : Option (Int32 × Nm) := bnd (f_P_sheetOf v1 M) fun r1 M2 => ifn r1 (bnd (f_P_finding (-1000000001) M2) fun r5 M6 => some (r5, M6)) fun p3 => grd (isb 10 p3) <| bnd (f_S_isMissing p3 M2) fun r7 M8 => if r7 = 0 then (bnd (f_P_onTrial v2 M8) fun r9 M10 => ifn r9 (bnd (f_P_finding (-1000000001) M10) fun r13 M14 => some (r13, M14)) fun p11 => grd (isb 7 p11) <| f_P_book_L54 p3 p11 FU 0 M10) else (bnd (f_P_finding (-1000000006) M8) fun r19 M20 => some (r19, M20))
theorem c_P_book (l : Launch) (G : Gl) (v1 : Int32) (v2 : Int32)  (M : Nm) : NJ l G Y_X11_book (zR 5 121) eI 0 (lv_args 0 [aR G 0, .int v1, .int v2]) [] M (f_P_book v1 v2 M) := by
  unfold f_P_book
  show NJ l G Y_X11_book (zR 5 121) eI 0 [(0, aR G 0), (1, .int v1), (2, .int v2)] [] M _
  refine s_aload_n 0 dX11_book_0 rfl ?_
  refine s_iload_n 1 dX11_book_1 rfl ?_
  refine n_invV_r dX11_book_2 ok_X11_sheetOf rfl wt_826 wt_828 ws_18 (ci := 0) rfl rfl so_0 (sh_lt so_0 rfl) [.int v1] rfl rfl rfl rfl (c_P_sheetOf l G _ _) (fun r1 M2 => ?_)
  refine s_split ?_ (fun p3 => ?_)
  · refine s_astore_nN (i := 3) (lv' := [(3, .null), (0, aR G 0), (1, .int v1), (2, .int v2)]) dX11_book_5 rfl rfl rfl ?_
    refine s_aload_nN 0 dX11_book_6 rfl ?_
    refine s_ifnonnullN dX11_book_7 ?_
    refine s_aload_n 1 dX11_book_10 rfl ?_
    refine s_ldc (v := (-1000000001)) dX11_book_11 wt_263 ?_
    refine n_invV_i dX11_book_13 ok_X11_finding rfl wt_264 wt_266 ws_0 (ci := 0) rfl rfl so_0 (sh_lt so_0 rfl) [.int (-1000000001)] rfl rfl rfl rfl (c_P_finding l G _ _) (fun r5 M6 => ?_)
    exact n_iret dX11_book_16 rfl
  · refine s_grd (fun h4 => ?_)
    refine s_astore_n (i := 3) (lv' := [(3, aR G p3), (0, aR G 0), (1, .int v1), (2, .int v2)]) dX11_book_5 rfl rfl rfl ?_
    refine s_aload_n 0 dX11_book_6 rfl ?_
    refine s_ifnonnullS (tgt := 17) dX11_book_7 (by decide) ?_
    refine s_aload_n 0 dX11_book_17 rfl ?_
    refine n_invV_i dX11_book_18 ok_X9_isMissing rfl wt_842 wt_843 wt_844 (ci := 10) rfl rfl (isb_1 h4) (sh_lt (isb_1 h4) rfl) [] rfl rfl rfl rfl (c_S_isMissing l G _ (isb_1 h4) _) (fun r7 M8 => ?_)
    refine s_if_eq (tgt := 32) dX11_book_21 (by decide) (fun _ => ?_) (fun _ => ?_)
    · refine s_aload_n 1 dX11_book_32 rfl ?_
      refine s_iload_n 3 dX11_book_33 rfl ?_
      refine n_invV_r dX11_book_34 ok_X11_onTrial rfl wt_600 wt_602 ws_4 (ci := 0) rfl rfl so_0 (sh_lt so_0 rfl) [.int v2] rfl rfl rfl rfl (c_P_onTrial l G _ _) (fun r9 M10 => ?_)
      refine s_split ?_ (fun p11 => ?_)
      · refine s_astoreN (lv' := [(4, .null), (3, aR G p3), (0, aR G 0), (1, .int v1), (2, .int v2)]) dX11_book_37 rfl rfl ?_
        refine s_aloadN 0 dX11_book_39 rfl ?_
        refine s_ifnonnullN dX11_book_41 ?_
        refine s_aload_n 2 dX11_book_44 rfl ?_
        refine s_ldc (v := (-1000000001)) dX11_book_45 wt_263 ?_
        refine n_invV_i dX11_book_47 ok_X11_finding rfl wt_264 wt_266 ws_0 (ci := 0) rfl rfl so_0 (sh_lt so_0 rfl) [.int (-1000000001)] rfl rfl rfl rfl (c_P_finding l G _ _) (fun r13 M14 => ?_)
        exact n_iret dX11_book_50 rfl
      · refine s_grd (fun h12 => ?_)
        refine s_astore (lv' := [(4, aR G p11), (3, aR G p3), (0, aR G 0), (1, .int v1), (2, .int v2)]) dX11_book_37 rfl rfl ?_
        refine s_aload 0 dX11_book_39 rfl ?_
        refine s_ifnonnullS (tgt := 51) dX11_book_41 (by decide) ?_
        refine s_iconst (v := 0) dX11_book_51 (by decide) ?_
        refine s_istore (lv' := [(5, .int 0), (4, aR G p11), (3, aR G p3), (0, aR G 0), (1, .int v1), (2, .int v2)]) dX11_book_52 rfl rfl ?_
        refine s_lv [3, 2, 1, 0] (lv' := [(0, aR G 0), (3, aR G p3), (4, aR G p11), (5, .int 0)]) rfl ?_
        refine c_P_book_L54 l G _ _ (isb_1 h4) (isb_1 h12) FU _ _
    · refine s_aload_n 1 dX11_book_24 rfl ?_
      refine s_ldcw (v := (-1000000006)) dX11_book_25 wt_846 ?_
      refine n_invV_i dX11_book_28 ok_X11_finding rfl wt_264 wt_266 ws_0 (ci := 0) rfl rfl so_0 (sh_lt so_0 rfl) [.int (-1000000006)] rfl rfl rfl rfl (c_P_finding l G _ _) (fun r19 M20 => ?_)
      exact n_iret dX11_book_31 rfl
def f_P_tells_L30  (c1 : Nat) (c5 : Nat) : Nat → Int32 → Nm → Option (Int32 × Nm)
  | 0, _, _ => none
  | f + 1, v6, M => if (M.1 c1 1) ≤ v6 then (some (1, M)) else (grd (inb v6 40) <| if (lg_cmp (M.2.1 (c1 + 1) (ix v6)) ((M.1 c5 3).toInt64)) = 0 then (bnd (f_L_goYear 30 M) fun r8 M9 => f_P_tells_L30 c1 c5 f (v6 + 1) M9) else (some (0, M)))
theorem c_P_tells_L30 (l : Launch) (G : Gl)  (c1 : Nat) (c5 : Nat) (hc1 : (sh c1).1 = 10) (hc5 : (sh c5).1 = 7)  : ∀ (f : Nat) (v6 : Int32)  (M : Nm), NJ l G Y_X11_tells (zR 5 122) eI 30 [(0, aR G 0), (1, aR G c1), (5, aR G c5), (6, .int v6)] [] M (f_P_tells_L30 c1 c5 f v6 M) := by
  intro f
  induction f with
  | zero => intro v6 M; exact s_none
  | succ f ih =>
    intro v6 M
    rw [f_P_tells_L30]
    refine s_iload 3 dX11_tells_30 rfl ?_
    refine s_aload_n 1 dX11_tells_32 rfl ?_
    refine n_getI dX11_tells_33 okf_P_307_10 rfl rfl hc1 (sh_lt hc1 rfl) ?_
    refine s_icmp_ge (tgt := 71) dX11_tells_36 (by decide) (fun _ => ?_) (fun _ => ?_)
    · refine s_iconst (v := 1) dX11_tells_71 (by decide) ?_
      exact n_zret1 dX11_tells_72 rfl
    · refine s_aload_n 1 dX11_tells_39 rfl ?_
      refine n_getR (x := (c1 + 1)) dX11_tells_40 okf_P_312_10 rfl rfl hc1 (sh_lt hc1 rfl) (r_nums hc1) ?_
      refine s_iload 3 dX11_tells_43 rfl ?_
      refine n_lal dX11_tells_45 (ly_nums hc1) ?_
      refine s_aload 2 dX11_tells_46 rfl ?_
      refine n_getI dX11_tells_48 okf_P_166_7 rfl rfl hc5 (sh_lt hc5 rfl) ?_
      refine s_i2l dX11_tells_51 ?_
      refine s_lcmp dX11_tells_52 ?_
      refine s_if_eq (tgt := 58) dX11_tells_53 (by decide) (fun _ => ?_) (fun _ => ?_)
      · refine s_aload_n 0 dX11_tells_58 rfl ?_
        refine n_getR (x := 30) dX11_tells_59 okf_P_54_0 rfl rfl so_0 (sh_lt so_0 rfl) rfl ?_
        refine n_invV_u dX11_tells_62 ok_X5_goYear rfl wt_622 wt_566 wt_567 (ci := 8) rfl rfl so_30 (sh_lt so_30 rfl) [] rfl rfl rfl rfl (c_L_goYear l G _ so_30 _) (fun r8 M9 => ?_)
        refine s_iinc (v := 1) (lv' := [(6, .int (v6 + 1)), (0, aR G 0), (1, aR G c1), (5, aR G c5)]) 3 dX11_tells_65 rfl (by decide) rfl rfl ?_
        refine s_goto (tgt := 30) dX11_tells_68 (by decide) ?_
        refine s_lv [1, 2, 3, 0] (lv' := [(0, aR G 0), (1, aR G c1), (5, aR G c5), (6, .int (v6 + 1))]) rfl ?_
        exact ih _ _
      · refine s_iconst (v := 0) dX11_tells_56 (by decide) ?_
        exact n_zret0 dX11_tells_57 rfl
def f_P_tells (c1 : Nat) (v2 : Int32) (c3 : Nat) (v4 : Int32) (M : Nm) : Option (Int32 × Nm) := bnd (f_P_onTrial v2 M) fun r1 M2 => ifn r1 (some (0, M2)) fun p3 => grd (isb 7 p3) <| bl (mK M2 p3 c3) fun M5 => bnd (f_H_moveTo p3 v4 M5) fun r6 M7 => f_P_tells_L30 c1 p3 FU 0 M7
theorem c_P_tells (l : Launch) (G : Gl) (c1 : Nat) (v2 : Int32) (c3 : Nat) (v4 : Int32) (hc1 : (sh c1).1 = 10) (hc3 : isK c3) (M : Nm) : NJ l G Y_X11_tells (zR 5 122) eI 0 (lv_args 0 [aR G 0, aR G c1, .int v2, aR G c3, .int v4]) [] M (f_P_tells c1 v2 c3 v4 M) := by
  unfold f_P_tells
  show NJ l G Y_X11_tells (zR 5 122) eI 0 [(0, aR G 0), (1, aR G c1), (2, .int v2), (3, aR G c3), (4, .int v4)] [] M _
  refine s_aload_n 0 dX11_tells_0 rfl ?_
  refine s_iload_n 2 dX11_tells_1 rfl ?_
  refine n_invV_r dX11_tells_2 ok_X11_onTrial rfl wt_600 wt_602 ws_4 (ci := 0) rfl rfl so_0 (sh_lt so_0 rfl) [.int v2] rfl rfl rfl rfl (c_P_onTrial l G _ _) (fun r1 M2 => ?_)
  refine s_split ?_ (fun p3 => ?_)
  · refine s_astoreN (lv' := [(5, .null), (0, aR G 0), (1, aR G c1), (2, .int v2), (3, aR G c3), (4, .int v4)]) dX11_tells_5 rfl rfl ?_
    refine s_aloadN 0 dX11_tells_7 rfl ?_
    refine s_ifnonnullN dX11_tells_9 ?_
    refine s_iconst (v := 0) dX11_tells_12 (by decide) ?_
    exact n_zret0 dX11_tells_13 rfl
  · refine s_grd (fun h4 => ?_)
    refine s_astore (lv' := [(5, aR G p3), (0, aR G 0), (1, aR G c1), (2, .int v2), (3, aR G c3), (4, .int v4)]) dX11_tells_5 rfl rfl ?_
    refine s_aload 0 dX11_tells_7 rfl ?_
    refine s_ifnonnullS (tgt := 14) dX11_tells_9 (by decide) ?_
    refine s_aload 0 dX11_tells_14 rfl ?_
    refine s_aload_n 4 dX11_tells_16 rfl ?_
    refine n_putK dX11_tells_17 okp_P_153_7 (isb_1 h4) ?_
    refine s_topM (fun M5 => ?_)
    refine s_aload 0 dX11_tells_20 rfl ?_
    refine s_iload 5 dX11_tells_22 rfl ?_
    refine n_invV_u dX11_tells_24 ok_X2_moveTo rfl wt_492 wt_493 wt_494 (ci := 7) rfl rfl (isb_1 h4) (sh_lt (isb_1 h4) rfl) [.int v4] rfl rfl rfl rfl (c_H_moveTo l G _ _ (isb_1 h4) _) (fun r6 M7 => ?_)
    refine s_iconst (v := 0) dX11_tells_27 (by decide) ?_
    refine s_istore (lv' := [(6, .int 0), (5, aR G p3), (0, aR G 0), (1, aR G c1), (2, .int v2), (3, aR G c3), (4, .int v4)]) dX11_tells_28 rfl rfl ?_
    refine s_lv [2, 3, 1, 0] (lv' := [(0, aR G 0), (1, aR G c1), (5, aR G p3), (6, .int 0)]) rfl ?_
    refine c_P_tells_L30 l G _ _ hc1 (isb_1 h4) FU _ _
def f_P_read_L69 (k103 : Int32 → Nm → Option (Int32 × Nm)) (v2 : Int32) (c3 : Nat) (v5 : Int32) : Nat → Int32 → Int32 → Nm → Option (Int32 × Nm)
  | 0, _, _, _ => none
  | f + 1, v4, v6, M => if 48 ≤ v6 then (k103 v4 M) else (grd (inb v5 6) <| bnd (f_P_tells c3 v2 (knd v5) v6 M) fun r16 M17 => if r16 = 0 then (f_P_read_L69 k103 v2 c3 v5 f v4 (v6 + 1) M17) else (f_P_read_L69 k103 v2 c3 v5 f (v4 + 1) (v6 + 1) M17))
theorem c_P_read_L69 (l : Launch) (G : Gl) {k103 : Int32 → Nm → Option (Int32 × Nm)} (v2 : Int32) (c3 : Nat) (v5 : Int32) (hc3 : (sh c3).1 = 10) (hk103 : ∀ (v4 : Int32)  (M : Nm), NJ l G Y_X11_read (zR 6 148) eI 103 [(0, aR G 0), (2, .int v2), (3, aR G c3), (4, .int v4), (5, .int v5)] [] M (k103 v4 M)) : ∀ (f : Nat) (v4 : Int32) (v6 : Int32)  (M : Nm), NJ l G Y_X11_read (zR 6 148) eI 69 [(0, aR G 0), (2, .int v2), (3, aR G c3), (4, .int v4), (5, .int v5), (6, .int v6)] [] M (f_P_read_L69 k103 v2 c3 v5 f v4 v6 M) := by
  intro f
  induction f with
  | zero => intro v4 v6 M; exact s_none
  | succ f ih =>
    intro v4 v6 M
    rw [f_P_read_L69]
    refine s_iload 5 dX11_read_69 rfl ?_
    refine s_bipush (v := 48) dX11_read_71 (by decide) ?_
    refine s_icmp_ge (tgt := 103) dX11_read_73 (by decide) (fun _ => ?_) (fun _ => ?_)
    · refine s_lv [0, 1, 2, 3, 4] (lv' := [(0, aR G 0), (2, .int v2), (3, aR G c3), (4, .int v4), (5, .int v5)]) rfl ?_
      exact hk103 _ _
    · refine s_aload_n 0 dX11_read_76 rfl ?_
      refine s_aload_n 2 dX11_read_77 rfl ?_
      refine s_iload_n 1 dX11_read_78 rfl ?_
      refine s_aload_n 0 dX11_read_79 rfl ?_
      refine n_getR (x := 2) dX11_read_80 okf_P_41_0 rfl rfl so_0 (sh_lt so_0 rfl) rfl ?_
      refine s_iload 4 dX11_read_83 rfl ?_
      refine n_aal (x := (knd v5)) 4 ⟨rfl, rfl⟩ dX11_read_85 sa_2 r_knd (fun h15 => ?_)
      refine s_iload 5 dX11_read_86 rfl ?_
      refine n_invV_i dX11_read_88 ok_X11_tells rfl wt_877 wt_879 ws_20 (ci := 0) rfl rfl so_0 (sh_lt so_0 rfl) [aR G c3, .int v2, aR G (knd v5), .int v6] rfl rfl rfl rfl (c_P_tells l G _ _ _ _ hc3 (ly_knd h15) _) (fun r16 M17 => ?_)
      refine s_if_eq (tgt := 97) dX11_read_91 (by decide) (fun _ => ?_) (fun _ => ?_)
      · refine s_iinc (v := 1) (lv' := [(6, .int (v6 + 1)), (0, aR G 0), (2, .int v2), (3, aR G c3), (4, .int v4), (5, .int v5)]) 5 dX11_read_97 rfl (by decide) rfl rfl ?_
        refine s_goto (tgt := 69) dX11_read_100 (by decide) ?_
        refine s_lv [1, 2, 3, 4, 5, 0] (lv' := [(0, aR G 0), (2, .int v2), (3, aR G c3), (4, .int v4), (5, .int v5), (6, .int (v6 + 1))]) rfl ?_
        exact ih _ _ _
      · refine s_iinc (v := 1) (lv' := [(4, .int (v4 + 1)), (0, aR G 0), (2, .int v2), (3, aR G c3), (5, .int v5), (6, .int v6)]) 3 dX11_read_94 rfl (by decide) rfl rfl ?_
        refine s_iinc (v := 1) (lv' := [(6, .int (v6 + 1)), (4, .int (v4 + 1)), (0, aR G 0), (2, .int v2), (3, aR G c3), (5, .int v5)]) 5 dX11_read_97 rfl (by decide) rfl rfl ?_
        refine s_goto (tgt := 69) dX11_read_100 (by decide) ?_
        refine s_lv [2, 3, 4, 1, 5, 0] (lv' := [(0, aR G 0), (2, .int v2), (3, aR G c3), (4, .int (v4 + 1)), (5, .int v5), (6, .int (v6 + 1))]) rfl ?_
        exact ih _ _ _
def f_P_read_L56  (v2 : Int32) (c3 : Nat) : Nat → Int32 → Int32 → Nm → Option (Int32 × Nm)
  | 0, _, _, _ => none
  | f + 1, v4, v5, M => if (nI 6) ≤ v5 then (some (v4, M)) else (f_P_read_L69 (fun y19 M18 => f_P_read_L56 v2 c3 f y19 (v5 + 1) M18) v2 c3 v5 FU v4 0 M)
theorem c_P_read_L56 (l : Launch) (G : Gl)  (v2 : Int32) (c3 : Nat) (hc3 : (sh c3).1 = 10)  : ∀ (f : Nat) (v4 : Int32) (v5 : Int32)  (M : Nm), NJ l G Y_X11_read (zR 6 148) eI 56 [(0, aR G 0), (2, .int v2), (3, aR G c3), (4, .int v4), (5, .int v5)] [] M (f_P_read_L56 v2 c3 f v4 v5 M) := by
  intro f
  induction f with
  | zero => intro v4 v5 M; exact s_none
  | succ f ih =>
    intro v4 v5 M
    rw [f_P_read_L56]
    refine s_iload 4 dX11_read_56 rfl ?_
    refine s_aload_n 0 dX11_read_58 rfl ?_
    refine n_getR (x := 2) dX11_read_59 okf_P_41_0 rfl rfl so_0 (sh_lt so_0 rfl) rfl ?_
    refine n_len 4 dX11_read_62 rfl sa_2 ?_
    refine s_icmp_ge (tgt := 109) dX11_read_63 (by decide) (fun _ => ?_) (fun _ => ?_)
    · refine s_iload 3 dX11_read_109 rfl ?_
      exact n_iret dX11_read_111 rfl
    · refine s_iconst (v := 0) dX11_read_66 (by decide) ?_
      refine s_istore (lv' := [(6, .int 0), (0, aR G 0), (2, .int v2), (3, aR G c3), (4, .int v4), (5, .int v5)]) dX11_read_67 rfl rfl ?_
      refine s_lv [1, 2, 3, 4, 5, 0] (lv' := [(0, aR G 0), (2, .int v2), (3, aR G c3), (4, .int v4), (5, .int v5), (6, .int 0)]) rfl ?_
      refine c_P_read_L69 l G _ _ _ hc3 (fun y19 M18 => ?_) FU _ _ _
      refine s_iinc (v := 1) (lv' := [(5, .int (v5 + 1)), (0, aR G 0), (2, .int v2), (3, aR G c3), (4, .int y19)]) 4 dX11_read_103 rfl (by decide) rfl rfl ?_
      refine s_goto (tgt := 56) dX11_read_106 (by decide) ?_
      refine s_lv [1, 2, 3, 4, 0] (lv' := [(0, aR G 0), (2, .int v2), (3, aR G c3), (4, .int y19), (5, .int (v5 + 1))]) rfl ?_
      exact ih _ _ _
def f_P_read (v1 : Int32) (v2 : Int32) (M : Nm) : Option (Int32 × Nm) := bnd (f_P_sheetOf v1 M) fun r1 M2 => ifn r1 (bnd (f_P_finding (-1000000001) M2) fun r5 M6 => some (r5, M6)) fun p3 => grd (isb 10 p3) <| bnd (f_S_isMissing p3 M2) fun r7 M8 => if r7 = 0 then (bnd (f_L_handOf 8 v2 M8) fun r9 M10 => ifn r9 (bnd (f_P_finding (-1000000001) M10) fun r13 M14 => some (r13, M14)) fun p11 => grd (isb 7 p11) <| f_P_read_L56 v2 p3 FU 0 0 M10) else (bnd (f_P_finding (-1000000006) M8) fun r20 M21 => some (r20, M21))
theorem c_P_read (l : Launch) (G : Gl) (v1 : Int32) (v2 : Int32)  (M : Nm) : NJ l G Y_X11_read (zR 6 148) eI 0 (lv_args 0 [aR G 0, .int v1, .int v2]) [] M (f_P_read v1 v2 M) := by
  unfold f_P_read
  show NJ l G Y_X11_read (zR 6 148) eI 0 [(0, aR G 0), (1, .int v1), (2, .int v2)] [] M _
  refine s_aload_n 0 dX11_read_0 rfl ?_
  refine s_iload_n 1 dX11_read_1 rfl ?_
  refine n_invV_r dX11_read_2 ok_X11_sheetOf rfl wt_826 wt_828 ws_18 (ci := 0) rfl rfl so_0 (sh_lt so_0 rfl) [.int v1] rfl rfl rfl rfl (c_P_sheetOf l G _ _) (fun r1 M2 => ?_)
  refine s_split ?_ (fun p3 => ?_)
  · refine s_astore_nN (i := 3) (lv' := [(3, .null), (0, aR G 0), (1, .int v1), (2, .int v2)]) dX11_read_5 rfl rfl rfl ?_
    refine s_aload_nN 0 dX11_read_6 rfl ?_
    refine s_ifnonnullN dX11_read_7 ?_
    refine s_aload_n 1 dX11_read_10 rfl ?_
    refine s_ldc (v := (-1000000001)) dX11_read_11 wt_263 ?_
    refine n_invV_i dX11_read_13 ok_X11_finding rfl wt_264 wt_266 ws_0 (ci := 0) rfl rfl so_0 (sh_lt so_0 rfl) [.int (-1000000001)] rfl rfl rfl rfl (c_P_finding l G _ _) (fun r5 M6 => ?_)
    exact n_iret dX11_read_16 rfl
  · refine s_grd (fun h4 => ?_)
    refine s_astore_n (i := 3) (lv' := [(3, aR G p3), (0, aR G 0), (1, .int v1), (2, .int v2)]) dX11_read_5 rfl rfl rfl ?_
    refine s_aload_n 0 dX11_read_6 rfl ?_
    refine s_ifnonnullS (tgt := 17) dX11_read_7 (by decide) ?_
    refine s_aload_n 0 dX11_read_17 rfl ?_
    refine n_invV_i dX11_read_18 ok_X9_isMissing rfl wt_842 wt_843 wt_844 (ci := 10) rfl rfl (isb_1 h4) (sh_lt (isb_1 h4) rfl) [] rfl rfl rfl rfl (c_S_isMissing l G _ (isb_1 h4) _) (fun r7 M8 => ?_)
    refine s_if_eq (tgt := 32) dX11_read_21 (by decide) (fun _ => ?_) (fun _ => ?_)
    · refine s_aload_n 1 dX11_read_32 rfl ?_
      refine n_getR (x := 8) dX11_read_33 okf_P_50_0 rfl rfl so_0 (sh_lt so_0 rfl) rfl ?_
      refine s_iload_n 3 dX11_read_36 rfl ?_
      refine n_invV_r dX11_read_37 ok_X5_handOf rfl wt_370 wt_371 wt_372 (ci := 8) rfl rfl so_8 (sh_lt so_8 rfl) [.int v2] rfl rfl rfl rfl (c_L_handOf l G _ _ so_8 _) (fun r9 M10 => ?_)
      refine s_split ?_ (fun p11 => ?_)
      · refine s_ifnonnullN dX11_read_40 ?_
        refine s_aload_n 1 dX11_read_43 rfl ?_
        refine s_ldc (v := (-1000000001)) dX11_read_44 wt_263 ?_
        refine n_invV_i dX11_read_46 ok_X11_finding rfl wt_264 wt_266 ws_0 (ci := 0) rfl rfl so_0 (sh_lt so_0 rfl) [.int (-1000000001)] rfl rfl rfl rfl (c_P_finding l G _ _) (fun r13 M14 => ?_)
        exact n_iret dX11_read_49 rfl
      · refine s_grd (fun h12 => ?_)
        refine s_ifnonnullS (tgt := 50) dX11_read_40 (by decide) ?_
        refine s_iconst (v := 0) dX11_read_50 (by decide) ?_
        refine s_istore (lv' := [(4, .int 0), (3, aR G p3), (0, aR G 0), (1, .int v1), (2, .int v2)]) dX11_read_51 rfl rfl ?_
        refine s_iconst (v := 0) dX11_read_53 (by decide) ?_
        refine s_istore (lv' := [(5, .int 0), (4, .int 0), (3, aR G p3), (0, aR G 0), (1, .int v1), (2, .int v2)]) dX11_read_54 rfl rfl ?_
        refine s_lv [3, 5, 2, 1, 0] (lv' := [(0, aR G 0), (2, .int v2), (3, aR G p3), (4, .int 0), (5, .int 0)]) rfl ?_
        refine c_P_read_L56 l G _ _ (isb_1 h4) FU _ _ _
    · refine s_aload_n 1 dX11_read_24 rfl ?_
      refine s_ldcw (v := (-1000000006)) dX11_read_25 wt_846 ?_
      refine n_invV_i dX11_read_28 ok_X11_finding rfl wt_264 wt_266 ws_0 (ci := 0) rfl rfl so_0 (sh_lt so_0 rfl) [.int (-1000000006)] rfl rfl rfl rfl (c_P_finding l G _ _) (fun r20 M21 => ?_)
      exact n_iret dX11_read_31 rfl
def f_P_image  (M : Nm) : Option (Int32 × Nm) := bnd (f_L_takeFrom 52 8 M) fun r1 M2 => grd (decide ((1 : Int32) = 0) || decide ((1 : Int32) = 1)) <| bl (mI M2 0 4 1) fun M3 => some (1, M3)
theorem c_P_image (l : Launch) (G : Gl)   (M : Nm) : NJ l G Y_X11_image (zR 3 83) eI 0 (lv_args 0 [aR G 0]) [] M (f_P_image  M) := by
  unfold f_P_image
  show NJ l G Y_X11_image (zR 3 83) eI 0 [(0, aR G 0)] [] M _
  refine s_aload_n 0 dX11_image_0 rfl ?_
  refine n_getR (x := 52) dX11_image_1 okf_P_57_0 rfl rfl so_0 (sh_lt so_0 rfl) rfl ?_
  refine s_aload_n 0 dX11_image_4 rfl ?_
  refine n_getR (x := 8) dX11_image_5 okf_P_50_0 rfl rfl so_0 (sh_lt so_0 rfl) rfl ?_
  refine n_invV_u dX11_image_8 ok_X5_takeFrom rfl wt_604 wt_605 wt_606 (ci := 8) rfl rfl so_52 (sh_lt so_52 rfl) [aR G 8] rfl rfl rfl rfl (c_L_takeFrom l G _ _ so_52 so_8 _) (fun r1 M2 => ?_)
  refine s_aload_n 0 dX11_image_11 rfl ?_
  refine s_iconst (v := 1) dX11_image_12 (by decide) ?_
  refine n_putZ dX11_image_13 okp_P_338_0 rfl rfl so_0 (sh_lt so_0 rfl) ?_
  refine s_topM (fun M3 => ?_)
  refine s_iconst (v := 1) dX11_image_16 (by decide) ?_
  exact n_iret dX11_image_17 rfl
def f_P_undo  (M : Nm) : Option (Int32 × Nm) := if (M.1 0 4) = 0 then (bnd (f_P_finding (-1000000004) M) fun r1 M2 => some (r1, M2)) else (bnd (f_L_takeFrom 8 52 M) fun r3 M4 => some (M4.1 8 2, M4))
theorem c_P_undo (l : Launch) (G : Gl)   (M : Nm) : NJ l G Y_X11_undo (zR 3 83) eI 0 (lv_args 0 [aR G 0]) [] M (f_P_undo  M) := by
  unfold f_P_undo
  show NJ l G Y_X11_undo (zR 3 83) eI 0 [(0, aR G 0)] [] M _
  refine s_aload_n 0 dX11_undo_0 rfl ?_
  refine n_getI dX11_undo_1 okf_P_338_0 rfl rfl so_0 (sh_lt so_0 rfl) ?_
  refine s_if_ne (tgt := 14) dX11_undo_4 (by decide) (fun _ => ?_) (fun _ => ?_)
  · refine s_aload_n 0 dX11_undo_7 rfl ?_
    refine s_ldc (v := (-1000000004)) dX11_undo_8 wt_623 ?_
    refine n_invV_i dX11_undo_10 ok_X11_finding rfl wt_264 wt_266 ws_0 (ci := 0) rfl rfl so_0 (sh_lt so_0 rfl) [.int (-1000000004)] rfl rfl rfl rfl (c_P_finding l G _ _) (fun r1 M2 => ?_)
    exact n_iret dX11_undo_13 rfl
  · refine s_aload_n 0 dX11_undo_14 rfl ?_
    refine n_getR (x := 8) dX11_undo_15 okf_P_50_0 rfl rfl so_0 (sh_lt so_0 rfl) rfl ?_
    refine s_aload_n 0 dX11_undo_18 rfl ?_
    refine n_getR (x := 52) dX11_undo_19 okf_P_57_0 rfl rfl so_0 (sh_lt so_0 rfl) rfl ?_
    refine n_invV_u dX11_undo_22 ok_X5_takeFrom rfl wt_604 wt_605 wt_606 (ci := 8) rfl rfl so_8 (sh_lt so_8 rfl) [aR G 52] rfl rfl rfl rfl (c_L_takeFrom l G _ _ so_8 so_52 _) (fun r3 M4 => ?_)
    refine s_aload_n 0 dX11_undo_25 rfl ?_
    refine n_getR (x := 8) dX11_undo_26 okf_P_50_0 rfl rfl so_0 (sh_lt so_0 rfl) rfl ?_
    refine n_getI dX11_undo_29 okf_P_127_8 rfl rfl so_8 (sh_lt so_8 rfl) ?_
    exact n_iret dX11_undo_32 rfl
def f_P_tear  (M : Nm) : Option (Int32 × Nm) := if (M.1 0 4) = 0 then (grd (decide ((0 : Int32) = 0) || decide ((0 : Int32) = 1)) <| bl (mI M 0 4 0) fun M1 => some (0, M1)) else (grd (decide ((0 : Int32) = 0) || decide ((0 : Int32) = 1)) <| bl (mI M 0 4 0) fun M2 => some (1, M2))
theorem c_P_tear (l : Launch) (G : Gl)   (M : Nm) : NJ l G Y_X11_tear (zR 0 0) eI 0 (lv_args 0 [aR G 0]) [] M (f_P_tear  M) := by
  unfold f_P_tear
  show NJ l G Y_X11_tear (zR 0 0) eI 0 [(0, aR G 0)] [] M _
  refine s_aload_n 0 dX11_tear_0 rfl ?_
  refine n_getI dX11_tear_1 okf_P_338_0 rfl rfl so_0 (sh_lt so_0 rfl) ?_
  refine s_if_eq (tgt := 11) dX11_tear_4 (by decide) (fun _ => ?_) (fun _ => ?_)
  · refine s_iconst (v := 0) dX11_tear_11 (by decide) ?_
    refine s_istore_n (i := 1) (lv' := [(1, .int 0), (0, aR G 0)]) dX11_tear_12 rfl rfl rfl ?_
    refine s_aload_n 1 dX11_tear_13 rfl ?_
    refine s_iconst (v := 0) dX11_tear_14 (by decide) ?_
    refine n_putZ dX11_tear_15 okp_P_338_0 rfl rfl so_0 (sh_lt so_0 rfl) ?_
    refine s_topM (fun M1 => ?_)
    refine s_iload_n 0 dX11_tear_18 rfl ?_
    exact n_iret dX11_tear_19 rfl
  · refine s_iconst (v := 1) dX11_tear_7 (by decide) ?_
    refine s_goto (tgt := 12) dX11_tear_8 (by decide) ?_
    refine s_istore_n (i := 1) (lv' := [(1, .int 1), (0, aR G 0)]) dX11_tear_12 rfl rfl rfl ?_
    refine s_aload_n 1 dX11_tear_13 rfl ?_
    refine s_iconst (v := 0) dX11_tear_14 (by decide) ?_
    refine n_putZ dX11_tear_15 okp_P_338_0 rfl rfl so_0 (sh_lt so_0 rfl) ?_
    refine s_topM (fun M2 => ?_)
    refine s_iload_n 0 dX11_tear_18 rfl ?_
    exact n_iret dX11_tear_19 rfl
def f_L_strokesOfAll_L4  (c0 : Nat) : Nat → Int32 → Int32 → Nm → Option (Int32 × Nm)
  | 0, _, _, _ => none
  | f + 1, v1, v2, M => if (M.1 c0 2) ≤ v2 then (some (v1, M)) else (grd (inb v2 6) <| f_L_strokesOfAll_L4 c0 f (v1 + (M.1 (hnd c0 v2) 4)) (v2 + 1) M)
theorem c_L_strokesOfAll_L4 (l : Launch) (G : Gl)  (c0 : Nat) (hc0 : (sh c0).1 = 8)  : ∀ (f : Nat) (v1 : Int32) (v2 : Int32)  (M : Nm), NJ l G Y_X5_strokesOfAll (zR 0 0) eI 4 [(0, aR G c0), (1, .int v1), (2, .int v2)] [] M (f_L_strokesOfAll_L4 c0 f v1 v2 M) := by
  intro f
  induction f with
  | zero => intro v1 v2 M; exact s_none
  | succ f ih =>
    intro v1 v2 M
    rw [f_L_strokesOfAll_L4]
    refine s_iload_n 2 dX5_strokesOfAll_4 rfl ?_
    refine s_aload_n 0 dX5_strokesOfAll_5 rfl ?_
    refine n_getI dX5_strokesOfAll_6 okf_L_36_8 rfl rfl hc0 (sh_lt hc0 rfl) ?_
    refine s_icmp_ge (tgt := 30) dX5_strokesOfAll_9 (by decide) (fun _ => ?_) (fun _ => ?_)
    · refine s_iload_n 1 dX5_strokesOfAll_30 rfl ?_
      exact n_iret dX5_strokesOfAll_31 rfl
    · refine s_iload_n 1 dX5_strokesOfAll_12 rfl ?_
      refine s_aload_n 0 dX5_strokesOfAll_13 rfl ?_
      refine n_getR (x := (c0 + 1)) dX5_strokesOfAll_14 okf_L_11_8 rfl rfl hc0 (sh_lt hc0 rfl) (r_rows hc0) ?_
      refine s_iload_n 2 dX5_strokesOfAll_17 rfl ?_
      refine n_aal (x := (hnd c0 v2)) 3 ⟨rfl, rfl⟩ dX5_strokesOfAll_18 (ly_rows hc0) (r_hnd hc0) (fun h1 => ?_)
      refine n_getI dX5_strokesOfAll_19 okf_L_108_7 rfl rfl (ly_hnd hc0 h1) (sh_lt (ly_hnd hc0 h1) rfl) ?_
      refine s_iadd dX5_strokesOfAll_22 ?_
      refine s_istore_n (i := 1) (lv' := [(1, .int (v1 + (M.1 (hnd c0 v2) 4))), (0, aR G c0), (2, .int v2)]) dX5_strokesOfAll_23 rfl rfl rfl ?_
      refine s_iinc (v := 1) (lv' := [(2, .int (v2 + 1)), (1, .int (v1 + (M.1 (hnd c0 v2) 4))), (0, aR G c0)]) 2 dX5_strokesOfAll_24 rfl (by decide) rfl rfl ?_
      refine s_goto (tgt := 4) dX5_strokesOfAll_27 (by decide) ?_
      refine s_lv [2, 1, 0] (lv' := [(0, aR G c0), (1, .int (v1 + (M.1 (hnd c0 v2) 4))), (2, .int (v2 + 1))]) rfl ?_
      exact ih _ _ _
def f_L_strokesOfAll (o : Nat) (M : Nm) : Option (Int32 × Nm) := f_L_strokesOfAll_L4 o FU 0 0 M
theorem c_L_strokesOfAll (l : Launch) (G : Gl) (o : Nat) (ho : (sh o).1 = 8) (M : Nm) : NJ l G Y_X5_strokesOfAll (zR 0 0) eI 0 (lv_args 0 [aR G o]) [] M (f_L_strokesOfAll o M) := by
  unfold f_L_strokesOfAll
  show NJ l G Y_X5_strokesOfAll (zR 0 0) eI 0 [(0, aR G o)] [] M _
  refine s_iconst (v := 0) dX5_strokesOfAll_0 (by decide) ?_
  refine s_istore_n (i := 1) (lv' := [(1, .int 0), (0, aR G o)]) dX5_strokesOfAll_1 rfl rfl rfl ?_
  refine s_iconst (v := 0) dX5_strokesOfAll_2 (by decide) ?_
  refine s_istore_n (i := 2) (lv' := [(2, .int 0), (1, .int 0), (0, aR G o)]) dX5_strokesOfAll_3 rfl rfl rfl ?_
  refine s_lv [2, 1, 0] (lv' := [(0, aR G o), (1, .int 0), (2, .int 0)]) rfl ?_
  refine c_L_strokesOfAll_L4 l G _ ho FU _ _ _
def f_L_costsOfAll_L4  (c0 : Nat) : Nat → Int32 → Int32 → Nm → Option (Int32 × Nm)
  | 0, _, _, _ => none
  | f + 1, v1, v2, M => if (M.1 c0 2) ≤ v2 then (some (v1, M)) else (grd (inb v2 6) <| f_L_costsOfAll_L4 c0 f (v1 + (M.1 (hnd c0 v2) 8)) (v2 + 1) M)
theorem c_L_costsOfAll_L4 (l : Launch) (G : Gl)  (c0 : Nat) (hc0 : (sh c0).1 = 8)  : ∀ (f : Nat) (v1 : Int32) (v2 : Int32)  (M : Nm), NJ l G Y_X5_costsOfAll (zR 0 0) eI 4 [(0, aR G c0), (1, .int v1), (2, .int v2)] [] M (f_L_costsOfAll_L4 c0 f v1 v2 M) := by
  intro f
  induction f with
  | zero => intro v1 v2 M; exact s_none
  | succ f ih =>
    intro v1 v2 M
    rw [f_L_costsOfAll_L4]
    refine s_iload_n 2 dX5_costsOfAll_4 rfl ?_
    refine s_aload_n 0 dX5_costsOfAll_5 rfl ?_
    refine n_getI dX5_costsOfAll_6 okf_L_36_8 rfl rfl hc0 (sh_lt hc0 rfl) ?_
    refine s_icmp_ge (tgt := 30) dX5_costsOfAll_9 (by decide) (fun _ => ?_) (fun _ => ?_)
    · refine s_iload_n 1 dX5_costsOfAll_30 rfl ?_
      exact n_iret dX5_costsOfAll_31 rfl
    · refine s_iload_n 1 dX5_costsOfAll_12 rfl ?_
      refine s_aload_n 0 dX5_costsOfAll_13 rfl ?_
      refine n_getR (x := (c0 + 1)) dX5_costsOfAll_14 okf_L_11_8 rfl rfl hc0 (sh_lt hc0 rfl) (r_rows hc0) ?_
      refine s_iload_n 2 dX5_costsOfAll_17 rfl ?_
      refine n_aal (x := (hnd c0 v2)) 3 ⟨rfl, rfl⟩ dX5_costsOfAll_18 (ly_rows hc0) (r_hnd hc0) (fun h1 => ?_)
      refine n_getI dX5_costsOfAll_19 okf_L_111_7 rfl rfl (ly_hnd hc0 h1) (sh_lt (ly_hnd hc0 h1) rfl) ?_
      refine s_iadd dX5_costsOfAll_22 ?_
      refine s_istore_n (i := 1) (lv' := [(1, .int (v1 + (M.1 (hnd c0 v2) 8))), (0, aR G c0), (2, .int v2)]) dX5_costsOfAll_23 rfl rfl rfl ?_
      refine s_iinc (v := 1) (lv' := [(2, .int (v2 + 1)), (1, .int (v1 + (M.1 (hnd c0 v2) 8))), (0, aR G c0)]) 2 dX5_costsOfAll_24 rfl (by decide) rfl rfl ?_
      refine s_goto (tgt := 4) dX5_costsOfAll_27 (by decide) ?_
      refine s_lv [2, 1, 0] (lv' := [(0, aR G c0), (1, .int (v1 + (M.1 (hnd c0 v2) 8))), (2, .int (v2 + 1))]) rfl ?_
      exact ih _ _ _
def f_L_costsOfAll (o : Nat) (M : Nm) : Option (Int32 × Nm) := f_L_costsOfAll_L4 o FU 0 0 M
theorem c_L_costsOfAll (l : Launch) (G : Gl) (o : Nat) (ho : (sh o).1 = 8) (M : Nm) : NJ l G Y_X5_costsOfAll (zR 0 0) eI 0 (lv_args 0 [aR G o]) [] M (f_L_costsOfAll o M) := by
  unfold f_L_costsOfAll
  show NJ l G Y_X5_costsOfAll (zR 0 0) eI 0 [(0, aR G o)] [] M _
  refine s_iconst (v := 0) dX5_costsOfAll_0 (by decide) ?_
  refine s_istore_n (i := 1) (lv' := [(1, .int 0), (0, aR G o)]) dX5_costsOfAll_1 rfl rfl rfl ?_
  refine s_iconst (v := 0) dX5_costsOfAll_2 (by decide) ?_
  refine s_istore_n (i := 2) (lv' := [(2, .int 0), (1, .int 0), (0, aR G o)]) dX5_costsOfAll_3 rfl rfl rfl ?_
  refine s_lv [2, 1, 0] (lv' := [(0, aR G o), (1, .int 0), (2, .int 0)]) rfl ?_
  refine c_L_costsOfAll_L4 l G _ ho FU _ _ _
def f_P_count (v1 : Int32) (M : Nm) : Option (Int32 × Nm) := if v1 = 0 then (some (M.1 8 2, M)) else if v1 = 1 then (some (M.1 74 0, M)) else if v1 = 2 then (bnd (f_L_strokesOfAll 8 M) fun r4 M5 => some (r4, M5)) else if v1 = 3 then (bnd (f_L_costsOfAll 8 M) fun r7 M8 => some (r7, M8)) else (bnd (f_P_finding (-1000000001) M) fun r9 M10 => some (r9, M10))
theorem c_P_count (l : Launch) (G : Gl) (v1 : Int32)  (M : Nm) : NJ l G Y_X11_count (zR 1 22) eI 0 (lv_args 0 [aR G 0, .int v1]) [] M (f_P_count v1 M) := by
  unfold f_P_count
  show NJ l G Y_X11_count (zR 1 22) eI 0 [(0, aR G 0), (1, .int v1)] [] M _
  refine s_iload_n 1 dX11_count_0 rfl ?_
  refine s_ite (fun h1 => ?_) (fun h1 => ?_)
  · refine s_tin (tgt := 32) dX11_count_1 (by rw [h1]; decide) (by rw [h1]; decide) (by rw [h1]; rfl) (by decide) ?_
    refine s_aload_n 0 dX11_count_32 rfl ?_
    refine n_getR (x := 8) dX11_count_33 okf_P_50_0 rfl rfl so_0 (sh_lt so_0 rfl) rfl ?_
    refine n_getI dX11_count_36 okf_P_127_8 rfl rfl so_8 (sh_lt so_8 rfl) ?_
    exact n_iret dX11_count_39 rfl
  refine s_ite (fun h2 => ?_) (fun h2 => ?_)
  · refine s_tin (tgt := 40) dX11_count_1 (by rw [h2]; decide) (by rw [h2]; decide) (by rw [h2]; rfl) (by decide) ?_
    refine s_aload_n 0 dX11_count_40 rfl ?_
    refine n_getR (x := 74) dX11_count_41 okf_P_63_0 rfl rfl so_0 (sh_lt so_0 rfl) rfl ?_
    refine n_getI dX11_count_44 okf_P_283_9 rfl rfl so_74 (sh_lt so_74 rfl) ?_
    exact n_iret dX11_count_47 rfl
  refine s_ite (fun h3 => ?_) (fun h3 => ?_)
  · refine s_tin (tgt := 48) dX11_count_1 (by rw [h3]; decide) (by rw [h3]; decide) (by rw [h3]; rfl) (by decide) ?_
    refine s_aload_n 0 dX11_count_48 rfl ?_
    refine n_getR (x := 8) dX11_count_49 okf_P_50_0 rfl rfl so_0 (sh_lt so_0 rfl) rfl ?_
    refine n_invV_i dX11_count_52 ok_X5_strokesOfAll rfl wt_897 wt_898 wt_899 (ci := 8) rfl rfl so_8 (sh_lt so_8 rfl) [] rfl rfl rfl rfl (c_L_strokesOfAll l G _ so_8 _) (fun r4 M5 => ?_)
    exact n_iret dX11_count_55 rfl
  refine s_ite (fun h6 => ?_) (fun h6 => ?_)
  · refine s_tin (tgt := 56) dX11_count_1 (by rw [h6]; decide) (by rw [h6]; decide) (by rw [h6]; rfl) (by decide) ?_
    refine s_aload_n 0 dX11_count_56 rfl ?_
    refine n_getR (x := 8) dX11_count_57 okf_P_50_0 rfl rfl so_0 (sh_lt so_0 rfl) rfl ?_
    refine n_invV_i dX11_count_60 ok_X5_costsOfAll rfl wt_901 wt_902 wt_903 (ci := 8) rfl rfl so_8 (sh_lt so_8 rfl) [] rfl rfl rfl rfl (c_L_costsOfAll l G _ so_8 _) (fun r7 M8 => ?_)
    exact n_iret dX11_count_63 rfl
  refine s_tout (tgt := 64) dX11_count_1 (sw_out (fun k h1 h2 => by rcases (show k = 0 ∨ k = 1 ∨ k = 2 ∨ k = 3 by omega) with rfl | rfl | rfl | rfl <;> assumption)) (by decide) ?_
  refine s_aload_n 0 dX11_count_64 rfl ?_
  refine s_ldc (v := (-1000000001)) dX11_count_65 wt_263 ?_
  refine n_invV_i dX11_count_67 ok_X11_finding rfl wt_264 wt_266 ws_0 (ci := 0) rfl rfl so_0 (sh_lt so_0 rfl) [.int (-1000000001)] rfl rfl rfl rfl (c_P_finding l G _ _) (fun r9 M10 => ?_)
  exact n_iret dX11_count_70 rfl
def f_P_status_L9   : Nat → Int32 → Int32 → Nm → Option (Int32 × Nm)
  | 0, _, _, _ => none
  | f + 1, v2, v3, M => if (nI 7) ≤ v3 then (some (v2, M)) else (grd (inb v3 7) <| f_P_status_L9 f (v2 + (M.1 85 (ix v3))) (v3 + 1) M)
theorem c_P_status_L9 (l : Launch) (G : Gl)     : ∀ (f : Nat) (v2 : Int32) (v3 : Int32)  (M : Nm), NJ l G Y_X11_status (zR 1 22) eI 9 [(0, aR G 0), (2, .int v2), (3, .int v3)] [] M (f_P_status_L9 f v2 v3 M) := by
  intro f
  induction f with
  | zero => intro v2 v3 M; exact s_none
  | succ f ih =>
    intro v2 v3 M
    rw [f_P_status_L9]
    refine s_iload_n 2 dX11_status_9 rfl ?_
    refine s_aload_n 0 dX11_status_10 rfl ?_
    refine n_getR (x := 85) dX11_status_11 okf_P_74_0 rfl rfl so_0 (sh_lt so_0 rfl) rfl ?_
    refine n_len 0 dX11_status_14 rfl sa_85 ?_
    refine s_icmp_ge (tgt := 33) dX11_status_15 (by decide) (fun _ => ?_) (fun _ => ?_)
    · refine s_iload_n 1 dX11_status_33 rfl ?_
      exact n_iret dX11_status_34 rfl
    · refine s_iload_n 1 dX11_status_18 rfl ?_
      refine s_aload_n 0 dX11_status_19 rfl ?_
      refine n_getR (x := 85) dX11_status_20 okf_P_74_0 rfl rfl so_0 (sh_lt so_0 rfl) rfl ?_
      refine s_iload_n 2 dX11_status_23 rfl ?_
      refine n_ial dX11_status_24 sa_85 ?_
      refine s_iadd dX11_status_25 ?_
      refine s_istore_n (i := 2) (lv' := [(2, .int (v2 + (M.1 85 (ix v3)))), (0, aR G 0), (3, .int v3)]) dX11_status_26 rfl rfl rfl ?_
      refine s_iinc (v := 1) (lv' := [(3, .int (v3 + 1)), (2, .int (v2 + (M.1 85 (ix v3)))), (0, aR G 0)]) 2 dX11_status_27 rfl (by decide) rfl rfl ?_
      refine s_goto (tgt := 9) dX11_status_30 (by decide) ?_
      refine s_lv [2, 1, 0] (lv' := [(0, aR G 0), (2, .int (v2 + (M.1 85 (ix v3)))), (3, .int (v3 + 1))]) rfl ?_
      exact ih _ _ _
def f_P_status (v1 : Int32) (M : Nm) : Option (Int32 × Nm) := if v1 = (-1) then (f_P_status_L9 FU 0 0 M) else (if v1 < 0 then (bnd (f_P_finding (-1000000001) M) fun r1 M2 => some (r1, M2)) else (if v1 < (nI 7) then (grd (inb v1 7) <| some (M.1 85 (ix v1), M)) else (bnd (f_P_finding (-1000000001) M) fun r3 M4 => some (r3, M4))))
theorem c_P_status (l : Launch) (G : Gl) (v1 : Int32)  (M : Nm) : NJ l G Y_X11_status (zR 1 22) eI 0 (lv_args 0 [aR G 0, .int v1]) [] M (f_P_status v1 M) := by
  unfold f_P_status
  show NJ l G Y_X11_status (zR 1 22) eI 0 [(0, aR G 0), (1, .int v1)] [] M _
  refine s_iload_n 1 dX11_status_0 rfl ?_
  refine s_iconst (v := (-1)) dX11_status_1 (by decide) ?_
  refine s_icmp_ne (tgt := 35) dX11_status_2 (by decide) (fun _ => ?_) (fun _ => ?_)
  · refine s_iconst (v := 0) dX11_status_5 (by decide) ?_
    refine s_istore_n (i := 2) (lv' := [(2, .int 0), (0, aR G 0), (1, .int v1)]) dX11_status_6 rfl rfl rfl ?_
    refine s_iconst (v := 0) dX11_status_7 (by decide) ?_
    refine s_istore_n (i := 3) (lv' := [(3, .int 0), (2, .int 0), (0, aR G 0), (1, .int v1)]) dX11_status_8 rfl rfl rfl ?_
    refine s_lv [2, 1, 0] (lv' := [(0, aR G 0), (2, .int 0), (3, .int 0)]) rfl ?_
    refine c_P_status_L9 l G FU _ _ _
  · refine s_iload_n 1 dX11_status_35 rfl ?_
    refine s_if_lt (tgt := 48) dX11_status_36 (by decide) (fun _ => ?_) (fun _ => ?_)
    · refine s_aload_n 0 dX11_status_48 rfl ?_
      refine s_ldc (v := (-1000000001)) dX11_status_49 wt_263 ?_
      refine n_invV_i dX11_status_51 ok_X11_finding rfl wt_264 wt_266 ws_0 (ci := 0) rfl rfl so_0 (sh_lt so_0 rfl) [.int (-1000000001)] rfl rfl rfl rfl (c_P_finding l G _ _) (fun r1 M2 => ?_)
      exact n_iret dX11_status_54 rfl
    · refine s_iload_n 1 dX11_status_39 rfl ?_
      refine s_aload_n 0 dX11_status_40 rfl ?_
      refine n_getR (x := 85) dX11_status_41 okf_P_74_0 rfl rfl so_0 (sh_lt so_0 rfl) rfl ?_
      refine n_len 0 dX11_status_44 rfl sa_85 ?_
      refine s_icmp_lt (tgt := 55) dX11_status_45 (by decide) (fun _ => ?_) (fun _ => ?_)
      · refine s_aload_n 0 dX11_status_55 rfl ?_
        refine n_getR (x := 85) dX11_status_56 okf_P_74_0 rfl rfl so_0 (sh_lt so_0 rfl) rfl ?_
        refine s_iload_n 1 dX11_status_59 rfl ?_
        refine n_ial dX11_status_60 sa_85 ?_
        exact n_iret dX11_status_61 rfl
      · refine s_aload_n 0 dX11_status_48 rfl ?_
        refine s_ldc (v := (-1000000001)) dX11_status_49 wt_263 ?_
        refine n_invV_i dX11_status_51 ok_X11_finding rfl wt_264 wt_266 ws_0 (ci := 0) rfl rfl so_0 (sh_lt so_0 rfl) [.int (-1000000001)] rfl rfl rfl rfl (c_P_finding l G _ _) (fun r3 M4 => ?_)
        exact n_iret dX11_status_54 rfl
