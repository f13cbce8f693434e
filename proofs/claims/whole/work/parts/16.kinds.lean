def f_Jl_bitCount (v0 : Int64) (M : Nm) : Option (Int32 × Nm) := bl (v0 - (((v0.toUInt64 >>> ((1 : Int32).toInt64.toUInt64 &&& Int64.toUInt64 63)).toInt64) &&& 6148914691236517205)) fun x1 => bl ((x1 &&& 3689348814741910323) + (((x1.toUInt64 >>> ((2 : Int32).toInt64.toUInt64 &&& Int64.toUInt64 63)).toInt64) &&& 3689348814741910323)) fun x2 => bl ((x2 + ((x2.toUInt64 >>> ((4 : Int32).toInt64.toUInt64 &&& Int64.toUInt64 63)).toInt64)) &&& 1085102592571150095) fun x3 => bl (x3 + ((x3.toUInt64 >>> ((8 : Int32).toInt64.toUInt64 &&& Int64.toUInt64 63)).toInt64)) fun x4 => bl (x4 + ((x4.toUInt64 >>> ((16 : Int32).toInt64.toUInt64 &&& Int64.toUInt64 63)).toInt64)) fun x5 => bl (x5 + ((x5.toUInt64 >>> ((32 : Int32).toInt64.toUInt64 &&& Int64.toUInt64 63)).toInt64)) fun x6 => some (x6.toInt32 &&& 127, M)
theorem c_Jl_bitCount (l : Launch) (G : Gl) (v0 : Int64)  (M : Nm) : NJ l G Y_J13_bitCount_95d88 (zR 0 0) eI 0 (lv_args 0 [.long v0]) [] M (f_Jl_bitCount v0 M) := by
  unfold f_Jl_bitCount
  show NJ l G Y_J13_bitCount_95d88 (zR 0 0) eI 0 [(0, .long v0)] [] M _
  refine s_lload_n 0 dJ13_bitCount_95d88_0 rfl ?_
  refine s_lload_n 0 dJ13_bitCount_95d88_1 rfl ?_
  refine s_iconst (v := 1) dJ13_bitCount_95d88_2 (by decide) ?_
  refine s_lushr dJ13_bitCount_95d88_3 ?_
  refine s_ldc2 (v := 6148914691236517205) dJ13_bitCount_95d88_4 wt_445 ?_
  refine s_land dJ13_bitCount_95d88_7 ?_
  refine s_lsub dJ13_bitCount_95d88_8 ?_
  refine s_topl (fun x1 => ?_)
  refine s_lstore_n (i := 0) (lv' := [(0, .long x1)]) dJ13_bitCount_95d88_9 rfl rfl rfl ?_
  refine s_lload_n 0 dJ13_bitCount_95d88_10 rfl ?_
  refine s_ldc2 (v := 3689348814741910323) dJ13_bitCount_95d88_11 wt_446 ?_
  refine s_land dJ13_bitCount_95d88_14 ?_
  refine s_lload_n 0 dJ13_bitCount_95d88_15 rfl ?_
  refine s_iconst (v := 2) dJ13_bitCount_95d88_16 (by decide) ?_
  refine s_lushr dJ13_bitCount_95d88_17 ?_
  refine s_ldc2 (v := 3689348814741910323) dJ13_bitCount_95d88_18 wt_446 ?_
  refine s_land dJ13_bitCount_95d88_21 ?_
  refine s_ladd dJ13_bitCount_95d88_22 ?_
  refine s_topl (fun x2 => ?_)
  refine s_lstore_n (i := 0) (lv' := [(0, .long x2)]) dJ13_bitCount_95d88_23 rfl rfl rfl ?_
  refine s_lload_n 0 dJ13_bitCount_95d88_24 rfl ?_
  refine s_lload_n 0 dJ13_bitCount_95d88_25 rfl ?_
  refine s_iconst (v := 4) dJ13_bitCount_95d88_26 (by decide) ?_
  refine s_lushr dJ13_bitCount_95d88_27 ?_
  refine s_ladd dJ13_bitCount_95d88_28 ?_
  refine s_ldc2 (v := 1085102592571150095) dJ13_bitCount_95d88_29 wt_447 ?_
  refine s_land dJ13_bitCount_95d88_32 ?_
  refine s_topl (fun x3 => ?_)
  refine s_lstore_n (i := 0) (lv' := [(0, .long x3)]) dJ13_bitCount_95d88_33 rfl rfl rfl ?_
  refine s_lload_n 0 dJ13_bitCount_95d88_34 rfl ?_
  refine s_lload_n 0 dJ13_bitCount_95d88_35 rfl ?_
  refine s_bipush (v := 8) dJ13_bitCount_95d88_36 (by decide) ?_
  refine s_lushr dJ13_bitCount_95d88_38 ?_
  refine s_ladd dJ13_bitCount_95d88_39 ?_
  refine s_topl (fun x4 => ?_)
  refine s_lstore_n (i := 0) (lv' := [(0, .long x4)]) dJ13_bitCount_95d88_40 rfl rfl rfl ?_
  refine s_lload_n 0 dJ13_bitCount_95d88_41 rfl ?_
  refine s_lload_n 0 dJ13_bitCount_95d88_42 rfl ?_
  refine s_bipush (v := 16) dJ13_bitCount_95d88_43 (by decide) ?_
  refine s_lushr dJ13_bitCount_95d88_45 ?_
  refine s_ladd dJ13_bitCount_95d88_46 ?_
  refine s_topl (fun x5 => ?_)
  refine s_lstore_n (i := 0) (lv' := [(0, .long x5)]) dJ13_bitCount_95d88_47 rfl rfl rfl ?_
  refine s_lload_n 0 dJ13_bitCount_95d88_48 rfl ?_
  refine s_lload_n 0 dJ13_bitCount_95d88_49 rfl ?_
  refine s_bipush (v := 32) dJ13_bitCount_95d88_50 (by decide) ?_
  refine s_lushr dJ13_bitCount_95d88_52 ?_
  refine s_ladd dJ13_bitCount_95d88_53 ?_
  refine s_topl (fun x6 => ?_)
  refine s_lstore_n (i := 0) (lv' := [(0, .long x6)]) dJ13_bitCount_95d88_54 rfl rfl rfl ?_
  refine s_lload_n 0 dJ13_bitCount_95d88_55 rfl ?_
  refine s_l2i dJ13_bitCount_95d88_56 ?_
  refine s_bipush (v := 127) dJ13_bitCount_95d88_57 (by decide) ?_
  refine s_iand dJ13_bitCount_95d88_59 ?_
  exact n_iret dJ13_bitCount_95d88_60 rfl
def f_G_bit (v0 : Int32) (M : Nm) : Option (Int64 × Nm) := some (1 <<< (v0.toInt64 &&& 63), M)
theorem c_G_bit (l : Launch) (G : Gl) (v0 : Int32)  (M : Nm) : NJ l G Y_X1_bit (zR 0 0) eL 0 (lv_args 0 [.int v0]) [] M (f_G_bit v0 M) := by
  unfold f_G_bit
  show NJ l G Y_X1_bit (zR 0 0) eL 0 [(0, .int v0)] [] M _
  refine s_lconst (v := 1) dX1_bit_0 (by decide) ?_
  refine s_iload_n 0 dX1_bit_1 rfl ?_
  refine s_lshl dX1_bit_2 ?_
  exact n_lret dX1_bit_3 rfl
def f_G_stepFrom (v0 : Int32) (v1 : Int32) (M : Nm) : Option (Int32 × Nm) := if v1 = 0 then (if v0 < 8 then (some ((-1), M)) else (some (v0 - 8, M))) else if v1 = 1 then (if 7 ≤ (v0 - v0 / 8 * 8) then (some ((-1), M)) else (some (v0 + 1, M))) else if v1 = 2 then (if 40 ≤ v0 then (some ((-1), M)) else (some (v0 + 8, M))) else if v1 = 3 then (if (v0 - v0 / 8 * 8) ≤ 0 then (some ((-1), M)) else (some (v0 - 1, M))) else (some ((-1), M))
theorem c_G_stepFrom (l : Launch) (G : Gl) (v0 : Int32) (v1 : Int32)  (M : Nm) : NJ l G Y_X1_stepFrom (zR 0 0) eI 0 (lv_args 0 [.int v0, .int v1]) [] M (f_G_stepFrom v0 v1 M) := by
  unfold f_G_stepFrom
  show NJ l G Y_X1_stepFrom (zR 0 0) eI 0 [(0, .int v0), (1, .int v1)] [] M _
  refine s_iload_n 0 dX1_stepFrom_0 rfl ?_
  refine s_bipush (v := 8) dX1_stepFrom_1 (by decide) ?_
  refine s_irem dX1_stepFrom_3 (by decide) ?_
  refine s_istore_n (i := 2) (lv' := [(2, .int (v0 - v0 / 8 * 8)), (0, .int v0), (1, .int v1)]) dX1_stepFrom_4 rfl rfl rfl ?_
  refine s_iload_n 2 dX1_stepFrom_5 rfl ?_
  refine s_ite (fun h1 => ?_) (fun h1 => ?_)
  · refine s_tin (tgt := 36) dX1_stepFrom_6 (by rw [h1]; decide) (by rw [h1]; decide) (by rw [h1]; rfl) (by decide) ?_
    refine s_iload_n 1 dX1_stepFrom_36 rfl ?_
    refine s_bipush (v := 8) dX1_stepFrom_37 (by decide) ?_
    refine s_icmp_lt (tgt := 49) dX1_stepFrom_39 (by decide) (fun _ => ?_) (fun _ => ?_)
    · refine s_iconst (v := (-1)) dX1_stepFrom_49 (by decide) ?_
      exact n_iret dX1_stepFrom_50 rfl
    · refine s_iload_n 1 dX1_stepFrom_42 rfl ?_
      refine s_bipush (v := 8) dX1_stepFrom_43 (by decide) ?_
      refine s_isub dX1_stepFrom_45 ?_
      refine s_goto (tgt := 50) dX1_stepFrom_46 (by decide) ?_
      exact n_iret dX1_stepFrom_50 rfl
  refine s_ite (fun h2 => ?_) (fun h2 => ?_)
  · refine s_tin (tgt := 51) dX1_stepFrom_6 (by rw [h2]; decide) (by rw [h2]; decide) (by rw [h2]; rfl) (by decide) ?_
    refine s_iload_n 0 dX1_stepFrom_51 rfl ?_
    refine s_bipush (v := 7) dX1_stepFrom_52 (by decide) ?_
    refine s_icmp_ge (tgt := 63) dX1_stepFrom_54 (by decide) (fun _ => ?_) (fun _ => ?_)
    · refine s_iconst (v := (-1)) dX1_stepFrom_63 (by decide) ?_
      exact n_iret dX1_stepFrom_64 rfl
    · refine s_iload_n 1 dX1_stepFrom_57 rfl ?_
      refine s_iconst (v := 1) dX1_stepFrom_58 (by decide) ?_
      refine s_iadd dX1_stepFrom_59 ?_
      refine s_goto (tgt := 64) dX1_stepFrom_60 (by decide) ?_
      exact n_iret dX1_stepFrom_64 rfl
  refine s_ite (fun h3 => ?_) (fun h3 => ?_)
  · refine s_tin (tgt := 65) dX1_stepFrom_6 (by rw [h3]; decide) (by rw [h3]; decide) (by rw [h3]; rfl) (by decide) ?_
    refine s_iload_n 1 dX1_stepFrom_65 rfl ?_
    refine s_bipush (v := 40) dX1_stepFrom_66 (by decide) ?_
    refine s_icmp_ge (tgt := 78) dX1_stepFrom_68 (by decide) (fun _ => ?_) (fun _ => ?_)
    · refine s_iconst (v := (-1)) dX1_stepFrom_78 (by decide) ?_
      exact n_iret dX1_stepFrom_79 rfl
    · refine s_iload_n 1 dX1_stepFrom_71 rfl ?_
      refine s_bipush (v := 8) dX1_stepFrom_72 (by decide) ?_
      refine s_iadd dX1_stepFrom_74 ?_
      refine s_goto (tgt := 79) dX1_stepFrom_75 (by decide) ?_
      exact n_iret dX1_stepFrom_79 rfl
  refine s_ite (fun h4 => ?_) (fun h4 => ?_)
  · refine s_tin (tgt := 80) dX1_stepFrom_6 (by rw [h4]; decide) (by rw [h4]; decide) (by rw [h4]; rfl) (by decide) ?_
    refine s_iload_n 0 dX1_stepFrom_80 rfl ?_
    refine s_if_le (tgt := 90) dX1_stepFrom_81 (by decide) (fun _ => ?_) (fun _ => ?_)
    · refine s_iconst (v := (-1)) dX1_stepFrom_90 (by decide) ?_
      exact n_iret dX1_stepFrom_91 rfl
    · refine s_iload_n 1 dX1_stepFrom_84 rfl ?_
      refine s_iconst (v := 1) dX1_stepFrom_85 (by decide) ?_
      refine s_isub dX1_stepFrom_86 ?_
      refine s_goto (tgt := 91) dX1_stepFrom_87 (by decide) ?_
      exact n_iret dX1_stepFrom_91 rfl
  refine s_tout (tgt := 92) dX1_stepFrom_6 (sw_out (fun k h1 h2 => by rcases (show k = 0 ∨ k = 1 ∨ k = 2 ∨ k = 3 by omega) with rfl | rfl | rfl | rfl <;> assumption)) (by decide) ?_
  refine s_iconst (v := (-1)) dX1_stepFrom_92 (by decide) ?_
  exact n_iret dX1_stepFrom_93 rfl
def f_G_withBeside (v0 : Int64) (M : Nm) : Option (Int64 × Nm) := bl (((v0.toUInt64 >>> ((8 : Int32).toInt64.toUInt64 &&& Int64.toUInt64 63)).toInt64) ||| (v0 <<< ((8 : Int32).toInt64 &&& 63))) fun x1 => bl ((v0 &&& (-141289400074369)) <<< ((1 : Int32).toInt64 &&& 63)) fun x2 => bl (((v0 &&& (-1103823438082)).toUInt64 >>> ((1 : Int32).toInt64.toUInt64 &&& Int64.toUInt64 63)).toInt64) fun x3 => some ((((v0 ||| x1) ||| x2) ||| x3) &&& 281474976710655, M)
theorem c_G_withBeside (l : Launch) (G : Gl) (v0 : Int64)  (M : Nm) : NJ l G Y_X1_withBeside (zR 0 0) eL 0 (lv_args 0 [.long v0]) [] M (f_G_withBeside v0 M) := by
  unfold f_G_withBeside
  show NJ l G Y_X1_withBeside (zR 0 0) eL 0 [(0, .long v0)] [] M _
  refine s_lload_n 0 dX1_withBeside_0 rfl ?_
  refine s_bipush (v := 8) dX1_withBeside_1 (by decide) ?_
  refine s_lushr dX1_withBeside_3 ?_
  refine s_lload_n 0 dX1_withBeside_4 rfl ?_
  refine s_bipush (v := 8) dX1_withBeside_5 (by decide) ?_
  refine s_lshl dX1_withBeside_7 ?_
  refine s_lor dX1_withBeside_8 ?_
  refine s_topl (fun x1 => ?_)
  refine s_lstore_n (i := 2) (lv' := [(2, .long x1), (0, .long v0)]) dX1_withBeside_9 rfl rfl rfl ?_
  refine s_lload_n 1 dX1_withBeside_10 rfl ?_
  refine s_ldc2 (v := (-141289400074369)) dX1_withBeside_11 wt_311 ?_
  refine s_land dX1_withBeside_14 ?_
  refine s_iconst (v := 1) dX1_withBeside_15 (by decide) ?_
  refine s_lshl dX1_withBeside_16 ?_
  refine s_topl (fun x2 => ?_)
  refine s_lstore (lv' := [(4, .long x2), (2, .long x1), (0, .long v0)]) dX1_withBeside_17 rfl rfl ?_
  refine s_lload_n 2 dX1_withBeside_19 rfl ?_
  refine s_ldc2 (v := (-1103823438082)) dX1_withBeside_20 wt_312 ?_
  refine s_land dX1_withBeside_23 ?_
  refine s_iconst (v := 1) dX1_withBeside_24 (by decide) ?_
  refine s_lushr dX1_withBeside_25 ?_
  refine s_topl (fun x3 => ?_)
  refine s_lstore (lv' := [(6, .long x3), (4, .long x2), (2, .long x1), (0, .long v0)]) dX1_withBeside_26 rfl rfl ?_
  refine s_lload_n 3 dX1_withBeside_28 rfl ?_
  refine s_lload_n 2 dX1_withBeside_29 rfl ?_
  refine s_lor dX1_withBeside_30 ?_
  refine s_lload 1 dX1_withBeside_31 rfl ?_
  refine s_lor dX1_withBeside_33 ?_
  refine s_lload 0 dX1_withBeside_34 rfl ?_
  refine s_lor dX1_withBeside_36 ?_
  refine s_ldc2 (v := 281474976710655) dX1_withBeside_37 wt_305 ?_
  refine s_land dX1_withBeside_40 ?_
  exact n_lret dX1_withBeside_41 rfl
def f_G_enclosedBy_L20 (k57 : Int64 → Nm → Option (Int64 × Nm)) (v2 : Int64) : Nat → Int64 → Int32 → Nm → Option (Int64 × Nm)
  | 0, _, _, _ => none
  | f + 1, v4, v6, M => if 48 ≤ v6 then (k57 v4 M) else (bnd (f_G_withBeside v4 M) fun r2 M3 => if (lg_cmp (r2 &&& v2) v4) = 0 then (k57 v4 M3) else (f_G_enclosedBy_L20 k57 v2 f (r2 &&& v2) (v6 + 1) M3))
theorem c_G_enclosedBy_L20 (l : Launch) (G : Gl) {k57 : Int64 → Nm → Option (Int64 × Nm)} (v2 : Int64)  (hk57 : ∀ (v4 : Int64)  (M : Nm), NJ l G Y_X1_enclosedBy (zR 1 27) eL 57 [(2, .long v2), (4, .long v4)] [] M (k57 v4 M)) : ∀ (f : Nat) (v4 : Int64) (v6 : Int32)  (M : Nm), NJ l G Y_X1_enclosedBy (zR 1 27) eL 20 [(2, .long v2), (4, .long v4), (6, .int v6)] [] M (f_G_enclosedBy_L20 k57 v2 f v4 v6 M) := by
  intro f
  induction f with
  | zero => intro v4 v6 M; exact s_none
  | succ f ih =>
    intro v4 v6 M
    rw [f_G_enclosedBy_L20]
    refine s_iload 2 dX1_enclosedBy_20 rfl ?_
    refine s_bipush (v := 48) dX1_enclosedBy_22 (by decide) ?_
    refine s_icmp_ge (tgt := 57) dX1_enclosedBy_24 (by decide) (fun _ => ?_) (fun _ => ?_)
    · refine s_lv [0, 1] (lv' := [(2, .long v2), (4, .long v4)]) rfl ?_
      exact hk57 _ _
    · refine s_lload 1 dX1_enclosedBy_27 rfl ?_
      refine n_invS_l dX1_enclosedBy_29 ok_X1_withBeside rfl wt_308 wt_309 [.long v4] rfl rfl rfl rfl (c_G_withBeside l G _ _) (fun r2 M3 => ?_)
      refine s_lload_n 0 dX1_enclosedBy_32 rfl ?_
      refine s_land dX1_enclosedBy_33 ?_
      refine s_lstore (lv' := [(7, .long (r2 &&& v2)), (2, .long v2), (4, .long v4), (6, .int v6)]) dX1_enclosedBy_34 rfl rfl ?_
      refine s_lload 0 dX1_enclosedBy_36 rfl ?_
      refine s_lload 2 dX1_enclosedBy_38 rfl ?_
      refine s_lcmp dX1_enclosedBy_40 ?_
      refine s_if_ne (tgt := 47) dX1_enclosedBy_41 (by decide) (fun _ => ?_) (fun _ => ?_)
      · refine s_goto (tgt := 57) dX1_enclosedBy_44 (by decide) ?_
        refine s_lv [1, 2] (lv' := [(2, .long v2), (4, .long v4)]) rfl ?_
        exact hk57 _ _
      · refine s_lload 0 dX1_enclosedBy_47 rfl ?_
        refine s_lstore (lv' := [(4, .long (r2 &&& v2)), (7, .long (r2 &&& v2)), (2, .long v2), (6, .int v6)]) dX1_enclosedBy_49 rfl rfl ?_
        refine s_iinc (v := 1) (lv' := [(6, .int (v6 + 1)), (4, .long (r2 &&& v2)), (7, .long (r2 &&& v2)), (2, .long v2)]) 3 dX1_enclosedBy_51 rfl (by decide) rfl rfl ?_
        refine s_goto (tgt := 20) dX1_enclosedBy_54 (by decide) ?_
        refine s_lv [3, 1, 0] (lv' := [(2, .long v2), (4, .long (r2 &&& v2)), (6, .int (v6 + 1))]) rfl ?_
        exact ih _ _ _
def f_G_enclosedBy (v0 : Int64) (M : Nm) : Option (Int64 × Nm) := bl (281474976710655 &&& (v0 ^^^ (-1))) fun x1 => f_G_enclosedBy_L20 (fun y5 M4 => some (x1 &&& (y5 ^^^ (-1)), M4)) x1 FU (x1 &&& 280931688612351) 0 M
theorem c_G_enclosedBy (l : Launch) (G : Gl) (v0 : Int64)  (M : Nm) : NJ l G Y_X1_enclosedBy (zR 1 27) eL 0 (lv_args 0 [.long v0]) [] M (f_G_enclosedBy v0 M) := by
  unfold f_G_enclosedBy
  show NJ l G Y_X1_enclosedBy (zR 1 27) eL 0 [(0, .long v0)] [] M _
  refine s_ldc2 (v := 281474976710655) dX1_enclosedBy_0 wt_305 ?_
  refine s_lload_n 0 dX1_enclosedBy_3 rfl ?_
  refine s_ldc2 (v := (-1)) dX1_enclosedBy_4 wt_306 ?_
  refine s_lxor dX1_enclosedBy_7 ?_
  refine s_land dX1_enclosedBy_8 ?_
  refine s_topl (fun x1 => ?_)
  refine s_lstore_n (i := 2) (lv' := [(2, .long x1), (0, .long v0)]) dX1_enclosedBy_9 rfl rfl rfl ?_
  refine s_lload_n 0 dX1_enclosedBy_10 rfl ?_
  refine s_ldc2 (v := 280931688612351) dX1_enclosedBy_11 wt_307 ?_
  refine s_land dX1_enclosedBy_14 ?_
  refine s_lstore (lv' := [(4, .long (x1 &&& 280931688612351)), (2, .long x1), (0, .long v0)]) dX1_enclosedBy_15 rfl rfl ?_
  refine s_iconst (v := 0) dX1_enclosedBy_17 (by decide) ?_
  refine s_istore (lv' := [(6, .int 0), (4, .long (x1 &&& 280931688612351)), (2, .long x1), (0, .long v0)]) dX1_enclosedBy_18 rfl rfl ?_
  refine s_lv [2, 1, 0] (lv' := [(2, .long x1), (4, .long (x1 &&& 280931688612351)), (6, .int 0)]) rfl ?_
  refine c_G_enclosedBy_L20 l G _ (fun y5 M4 => ?_) FU _ _ _
  refine s_lload_n 0 dX1_enclosedBy_57 rfl ?_
  refine s_lload 1 dX1_enclosedBy_58 rfl ?_
  refine s_ldc2 (v := (-1)) dX1_enclosedBy_60 wt_306 ?_
  refine s_lxor dX1_enclosedBy_63 ?_
  refine s_land dX1_enclosedBy_64 ?_
  exact n_lret dX1_enclosedBy_65 rfl
def f_G_fewestSteps_L19  (v0 : Int64) (v6 : Int64) : Nat → Int64 → Int32 → Nm → Option (Int32 × Nm)
  | 0, _, _, _ => none
  | f + 1, v4, v8, M => if 48 ≤ v8 then (some ((-1), M)) else (if (lg_cmp (v4 &&& v6) 0) = 0 then (bnd (f_G_withBeside v4 M) fun r5 M6 => f_G_fewestSteps_L19 v0 v6 f (r5 &&& v0) (v8 + 1) M6) else (some (v8, M)))
theorem c_G_fewestSteps_L19 (l : Launch) (G : Gl)  (v0 : Int64) (v6 : Int64)   : ∀ (f : Nat) (v4 : Int64) (v8 : Int32)  (M : Nm), NJ l G Y_X1_fewestSteps (zR 1 27) eI 19 [(0, .long v0), (4, .long v4), (6, .long v6), (8, .int v8)] [] M (f_G_fewestSteps_L19 v0 v6 f v4 v8 M) := by
  intro f
  induction f with
  | zero => intro v4 v8 M; exact s_none
  | succ f ih =>
    intro v4 v8 M
    rw [f_G_fewestSteps_L19]
    refine s_iload 3 dX1_fewestSteps_19 rfl ?_
    refine s_bipush (v := 48) dX1_fewestSteps_21 (by decide) ?_
    refine s_icmp_ge (tgt := 54) dX1_fewestSteps_23 (by decide) (fun _ => ?_) (fun _ => ?_)
    · refine s_iconst (v := (-1)) dX1_fewestSteps_54 (by decide) ?_
      exact n_iret dX1_fewestSteps_55 rfl
    · refine s_lload 1 dX1_fewestSteps_26 rfl ?_
      refine s_lload 2 dX1_fewestSteps_28 rfl ?_
      refine s_land dX1_fewestSteps_30 ?_
      refine s_lconst (v := 0) dX1_fewestSteps_31 (by decide) ?_
      refine s_lcmp dX1_fewestSteps_32 ?_
      refine s_if_eq (tgt := 39) dX1_fewestSteps_33 (by decide) (fun _ => ?_) (fun _ => ?_)
      · refine s_lload 1 dX1_fewestSteps_39 rfl ?_
        refine n_invS_l dX1_fewestSteps_41 ok_X1_withBeside rfl wt_308 wt_309 [.long v4] rfl rfl rfl rfl (c_G_withBeside l G _ _) (fun r5 M6 => ?_)
        refine s_lload_n 0 dX1_fewestSteps_44 rfl ?_
        refine s_land dX1_fewestSteps_45 ?_
        refine s_lstore (lv' := [(4, .long (r5 &&& v0)), (0, .long v0), (6, .long v6), (8, .int v8)]) dX1_fewestSteps_46 rfl rfl ?_
        refine s_iinc (v := 1) (lv' := [(8, .int (v8 + 1)), (4, .long (r5 &&& v0)), (0, .long v0), (6, .long v6)]) 3 dX1_fewestSteps_48 rfl (by decide) rfl rfl ?_
        refine s_goto (tgt := 19) dX1_fewestSteps_51 (by decide) ?_
        refine s_lv [2, 1, 3, 0] (lv' := [(0, .long v0), (4, .long (r5 &&& v0)), (6, .long v6), (8, .int (v8 + 1))]) rfl ?_
        exact ih _ _ _
      · refine s_iload 3 dX1_fewestSteps_36 rfl ?_
        exact n_iret dX1_fewestSteps_38 rfl
def f_G_fewestSteps (v0 : Int64) (v2 : Int32) (v3 : Int32) (M : Nm) : Option (Int32 × Nm) := bnd (f_G_bit v2 M) fun r1 M2 => bnd (f_G_bit v3 M2) fun r3 M4 => f_G_fewestSteps_L19 v0 (v0 &&& r3) FU (v0 &&& r1) 0 M4
theorem c_G_fewestSteps (l : Launch) (G : Gl) (v0 : Int64) (v2 : Int32) (v3 : Int32)  (M : Nm) : NJ l G Y_X1_fewestSteps (zR 1 27) eI 0 (lv_args 0 [.long v0, .int v2, .int v3]) [] M (f_G_fewestSteps v0 v2 v3 M) := by
  unfold f_G_fewestSteps
  show NJ l G Y_X1_fewestSteps (zR 1 27) eI 0 [(0, .long v0), (2, .int v2), (3, .int v3)] [] M _
  refine s_lload_n 0 dX1_fewestSteps_0 rfl ?_
  refine s_iload_n 1 dX1_fewestSteps_1 rfl ?_
  refine n_invS_l dX1_fewestSteps_2 ok_X1_bit rfl wt_672 wt_276 [.int v2] rfl rfl rfl rfl (c_G_bit l G _ _) (fun r1 M2 => ?_)
  refine s_land dX1_fewestSteps_5 ?_
  refine s_lstore (lv' := [(4, .long (v0 &&& r1)), (0, .long v0), (2, .int v2), (3, .int v3)]) dX1_fewestSteps_6 rfl rfl ?_
  refine s_lload_n 1 dX1_fewestSteps_8 rfl ?_
  refine s_iload_n 3 dX1_fewestSteps_9 rfl ?_
  refine n_invS_l dX1_fewestSteps_10 ok_X1_bit rfl wt_672 wt_276 [.int v3] rfl rfl rfl rfl (c_G_bit l G _ _) (fun r3 M4 => ?_)
  refine s_land dX1_fewestSteps_13 ?_
  refine s_lstore (lv' := [(6, .long (v0 &&& r3)), (4, .long (v0 &&& r1)), (0, .long v0), (2, .int v2), (3, .int v3)]) dX1_fewestSteps_14 rfl rfl ?_
  refine s_iconst (v := 0) dX1_fewestSteps_16 (by decide) ?_
  refine s_istore (lv' := [(8, .int 0), (6, .long (v0 &&& r3)), (4, .long (v0 &&& r1)), (0, .long v0), (2, .int v2), (3, .int v3)]) dX1_fewestSteps_17 rfl rfl ?_
  refine s_lv [3, 2, 1, 0] (lv' := [(0, .long v0), (4, .long (v0 &&& r1)), (6, .long (v0 &&& r3)), (8, .int 0)]) rfl ?_
  refine c_G_fewestSteps_L19 l G _ _ FU _ _ _
def f_K0_isOf (o : Nat) (v1 : Int32) (M : Nm) : Option (Int32 × Nm) := if v1 = 0 then (some (1, M)) else (some (0, M))
theorem c_K0_isOf (l : Launch) (G : Gl) (o : Nat) (v1 : Int32) (ho : isK o) (M : Nm) : NJ l G Y_X3_isOf (zR 0 0) eI 0 (lv_args 0 [aR G o, .int v1]) [] M (f_K0_isOf o v1 M) := by
  unfold f_K0_isOf
  show NJ l G Y_X3_isOf (zR 0 0) eI 0 [(0, aR G o), (1, .int v1)] [] M _
  refine s_iload_n 1 dX3_isOf_0 rfl ?_
  refine s_if_ne (tgt := 8) dX3_isOf_1 (by decide) (fun _ => ?_) (fun _ => ?_)
  · refine s_iconst (v := 1) dX3_isOf_4 (by decide) ?_
    refine s_goto (tgt := 9) dX3_isOf_5 (by decide) ?_
    exact n_zret1 dX3_isOf_9 rfl
  · refine s_iconst (v := 0) dX3_isOf_8 (by decide) ?_
    exact n_zret0 dX3_isOf_9 rfl
def f_K2_isOf (o : Nat) (v1 : Int32) (M : Nm) : Option (Int32 × Nm) := if v1 = 2 then (some (1, M)) else (bnd (f_K0_isOf o v1 M) fun r1 M2 => if r1 = 0 then (some (0, M2)) else (some (1, M2)))
theorem c_K2_isOf (l : Launch) (G : Gl) (o : Nat) (v1 : Int32) (ho : isK o) (M : Nm) : NJ l G Y_X0_isOf (zR 1 21) eI 0 (lv_args 0 [aR G o, .int v1]) [] M (f_K2_isOf o v1 M) := by
  unfold f_K2_isOf
  show NJ l G Y_X0_isOf (zR 1 21) eI 0 [(0, aR G o), (1, .int v1)] [] M _
  refine s_iload_n 1 dX0_isOf_0 rfl ?_
  refine s_iconst (v := 2) dX0_isOf_1 (by decide) ?_
  refine s_icmp_eq (tgt := 13) dX0_isOf_2 (by decide) (fun _ => ?_) (fun _ => ?_)
  · refine s_iconst (v := 1) dX0_isOf_13 (by decide) ?_
    refine s_goto (tgt := 18) dX0_isOf_14 (by decide) ?_
    exact n_zret1 dX0_isOf_18 rfl
  · refine s_aload_n 0 dX0_isOf_5 rfl ?_
    refine s_iload_n 1 dX0_isOf_6 rfl ?_
    obtain ⟨C9, T9, n9, hk9⟩ := isK_kcl ho
    refine n_invSU_i dX0_isOf_7 ok_X3_isOf rfl wt_527 wt_521 wt_523 wt_66 (by decide) (ci := (sh o).1) hk9 (isK_blt ho) rfl (isK_n ho) [.int v1] rfl rfl rfl rfl (c_K0_isOf l G _ _ ho _) (fun r1 M2 => ?_)
    refine s_if_eq (tgt := 17) dX0_isOf_10 (by decide) (fun _ => ?_) (fun _ => ?_)
    · refine s_iconst (v := 0) dX0_isOf_17 (by decide) ?_
      exact n_zret0 dX0_isOf_18 rfl
    · refine s_iconst (v := 1) dX0_isOf_13 (by decide) ?_
      refine s_goto (tgt := 18) dX0_isOf_14 (by decide) ?_
      exact n_zret1 dX0_isOf_18 rfl
def f_K0_steps (o : Nat) (v1 : Int32) (v2 : Int32) (M : Nm) : Option (Int32 × Nm) := some (v2, M)
theorem c_K0_steps (l : Launch) (G : Gl) (o : Nat) (v1 : Int32) (v2 : Int32) (ho : isK o) (M : Nm) : NJ l G Y_X3_steps (zR 0 0) eI 0 (lv_args 0 [aR G o, .int v1, .int v2]) [] M (f_K0_steps o v1 v2 M) := by
  unfold f_K0_steps
  show NJ l G Y_X3_steps (zR 0 0) eI 0 [(0, aR G o), (1, .int v1), (2, .int v2)] [] M _
  refine s_iload_n 2 dX3_steps_0 rfl ?_
  exact n_iret dX3_steps_1 rfl
def f_K2_steps (o : Nat) (v1 : Int32) (v2 : Int32) (M : Nm) : Option (Int32 × Nm) := bnd (f_K0_steps o v1 v2 M) fun r1 M2 => some (r1 + 1, M2)
theorem c_K2_steps (l : Launch) (G : Gl) (o : Nat) (v1 : Int32) (v2 : Int32) (ho : isK o) (M : Nm) : NJ l G Y_X0_steps (zR 1 22) eI 0 (lv_args 0 [aR G o, .int v1, .int v2]) [] M (f_K2_steps o v1 v2 M) := by
  unfold f_K2_steps
  show NJ l G Y_X0_steps (zR 1 22) eI 0 [(0, aR G o), (1, .int v1), (2, .int v2)] [] M _
  refine s_aload_n 0 dX0_steps_0 rfl ?_
  refine s_iload_n 1 dX0_steps_1 rfl ?_
  refine s_iload_n 2 dX0_steps_2 rfl ?_
  obtain ⟨C9, T9, n9, hk9⟩ := isK_kcl ho
  refine n_invSU_i dX0_steps_3 ok_X3_steps rfl wt_410 wt_404 wt_406 wt_66 (by decide) (ci := (sh o).1) hk9 (isK_blt ho) rfl (isK_n ho) [.int v1, .int v2] rfl rfl rfl rfl (c_K0_steps l G _ _ _ ho _) (fun r1 M2 => ?_)
  refine s_iconst (v := 1) dX0_steps_6 (by decide) ?_
  refine s_iadd dX0_steps_7 ?_
  exact n_iret dX0_steps_8 rfl
def f_K0_turns (o : Nat) (v1 : Int32) (M : Nm) : Option (Int32 × Nm) := some (v1, M)
theorem c_K0_turns (l : Launch) (G : Gl) (o : Nat) (v1 : Int32) (ho : isK o) (M : Nm) : NJ l G Y_X3_turns (zR 0 0) eI 0 (lv_args 0 [aR G o, .int v1]) [] M (f_K0_turns o v1 M) := by
  unfold f_K0_turns
  show NJ l G Y_X3_turns (zR 0 0) eI 0 [(0, aR G o), (1, .int v1)] [] M _
  refine s_iload_n 1 dX3_turns_0 rfl ?_
  exact n_iret dX3_turns_1 rfl
def f_K0_crop (o : Nat) (M : Nm) : Option (Int32 × Nm) := some (2, M)
theorem c_K0_crop (l : Launch) (G : Gl) (o : Nat) (ho : isK o) (M : Nm) : NJ l G Y_X3_crop (zR 0 0) eI 0 (lv_args 0 [aR G o]) [] M (f_K0_crop o M) := by
  unfold f_K0_crop
  show NJ l G Y_X3_crop (zR 0 0) eI 0 [(0, aR G o)] [] M _
  refine s_iconst (v := 2) dX3_crop_0 (by decide) ?_
  exact n_iret dX3_crop_1 rfl
def f_K1_isOf (o : Nat) (v1 : Int32) (M : Nm) : Option (Int32 × Nm) := if v1 = 1 then (some (1, M)) else (bnd (f_K0_isOf o v1 M) fun r1 M2 => if r1 = 0 then (some (0, M2)) else (some (1, M2)))
theorem c_K1_isOf (l : Launch) (G : Gl) (o : Nat) (v1 : Int32) (ho : isK o) (M : Nm) : NJ l G Y_X7_isOf (zR 1 21) eI 0 (lv_args 0 [aR G o, .int v1]) [] M (f_K1_isOf o v1 M) := by
  unfold f_K1_isOf
  show NJ l G Y_X7_isOf (zR 1 21) eI 0 [(0, aR G o), (1, .int v1)] [] M _
  refine s_iload_n 1 dX7_isOf_0 rfl ?_
  refine s_iconst (v := 1) dX7_isOf_1 (by decide) ?_
  refine s_icmp_eq (tgt := 13) dX7_isOf_2 (by decide) (fun _ => ?_) (fun _ => ?_)
  · refine s_iconst (v := 1) dX7_isOf_13 (by decide) ?_
    refine s_goto (tgt := 18) dX7_isOf_14 (by decide) ?_
    exact n_zret1 dX7_isOf_18 rfl
  · refine s_aload_n 0 dX7_isOf_5 rfl ?_
    refine s_iload_n 1 dX7_isOf_6 rfl ?_
    obtain ⟨C9, T9, n9, hk9⟩ := isK_kcl ho
    refine n_invSU_i dX7_isOf_7 ok_X3_isOf rfl wt_534 wt_521 wt_523 wt_56 (by decide) (ci := (sh o).1) hk9 (isK_blt ho) rfl (isK_n ho) [.int v1] rfl rfl rfl rfl (c_K0_isOf l G _ _ ho _) (fun r1 M2 => ?_)
    refine s_if_eq (tgt := 17) dX7_isOf_10 (by decide) (fun _ => ?_) (fun _ => ?_)
    · refine s_iconst (v := 0) dX7_isOf_17 (by decide) ?_
      exact n_zret0 dX7_isOf_18 rfl
    · refine s_iconst (v := 1) dX7_isOf_13 (by decide) ?_
      refine s_goto (tgt := 18) dX7_isOf_14 (by decide) ?_
      exact n_zret1 dX7_isOf_18 rfl
def f_K4_isOf (o : Nat) (v1 : Int32) (M : Nm) : Option (Int32 × Nm) := if v1 = 4 then (some (1, M)) else (bnd (f_K1_isOf o v1 M) fun r1 M2 => if r1 = 0 then (some (0, M2)) else (some (1, M2)))
theorem c_K4_isOf (l : Launch) (G : Gl) (o : Nat) (v1 : Int32) (ho : isK o) (M : Nm) : NJ l G Y_X4_isOf (zR 2 42) eI 0 (lv_args 0 [aR G o, .int v1]) [] M (f_K4_isOf o v1 M) := by
  unfold f_K4_isOf
  show NJ l G Y_X4_isOf (zR 2 42) eI 0 [(0, aR G o), (1, .int v1)] [] M _
  refine s_iload_n 1 dX4_isOf_0 rfl ?_
  refine s_iconst (v := 4) dX4_isOf_1 (by decide) ?_
  refine s_icmp_eq (tgt := 13) dX4_isOf_2 (by decide) (fun _ => ?_) (fun _ => ?_)
  · refine s_iconst (v := 1) dX4_isOf_13 (by decide) ?_
    refine s_goto (tgt := 18) dX4_isOf_14 (by decide) ?_
    exact n_zret1 dX4_isOf_18 rfl
  · refine s_aload_n 0 dX4_isOf_5 rfl ?_
    refine s_iload_n 1 dX4_isOf_6 rfl ?_
    obtain ⟨C9, T9, n9, hk9⟩ := isK_kcl ho
    refine n_invSU_i dX4_isOf_7 ok_X7_isOf rfl wt_531 wt_532 wt_1396 wt_86 (by decide) (ci := (sh o).1) hk9 (isK_blt ho) rfl (isK_n ho) [.int v1] rfl rfl rfl rfl (c_K1_isOf l G _ _ ho _) (fun r1 M2 => ?_)
    refine s_if_eq (tgt := 17) dX4_isOf_10 (by decide) (fun _ => ?_) (fun _ => ?_)
    · refine s_iconst (v := 0) dX4_isOf_17 (by decide) ?_
      exact n_zret0 dX4_isOf_18 rfl
    · refine s_iconst (v := 1) dX4_isOf_13 (by decide) ?_
      refine s_goto (tgt := 18) dX4_isOf_14 (by decide) ?_
      exact n_zret1 dX4_isOf_18 rfl
def f_K1_steps (o : Nat) (v1 : Int32) (v2 : Int32) (M : Nm) : Option (Int32 × Nm) := bnd (f_K0_steps o v1 v2 M) fun r1 M2 => some ((if (1 : Int32) < (r1 / 2) then (r1 / 2) else 1), M2)
theorem c_K1_steps (l : Launch) (G : Gl) (o : Nat) (v1 : Int32) (v2 : Int32) (ho : isK o) (M : Nm) : NJ l G Y_X7_steps (zR 1 30) eI 0 (lv_args 0 [aR G o, .int v1, .int v2]) [] M (f_K1_steps o v1 v2 M) := by
  unfold f_K1_steps
  show NJ l G Y_X7_steps (zR 1 30) eI 0 [(0, aR G o), (1, .int v1), (2, .int v2)] [] M _
  refine s_iconst (v := 1) dX7_steps_0 (by decide) ?_
  refine s_aload_n 0 dX7_steps_1 rfl ?_
  refine s_iload_n 1 dX7_steps_2 rfl ?_
  refine s_iload_n 2 dX7_steps_3 rfl ?_
  obtain ⟨C9, T9, n9, hk9⟩ := isK_kcl ho
  refine n_invSU_i dX7_steps_4 ok_X3_steps rfl wt_417 wt_404 wt_406 wt_56 (by decide) (ci := (sh o).1) hk9 (isK_blt ho) rfl (isK_n ho) [.int v1, .int v2] rfl rfl rfl rfl (c_K0_steps l G _ _ _ ho _) (fun r1 M2 => ?_)
  refine s_iconst (v := 2) dX7_steps_7 (by decide) ?_
  refine s_idiv dX7_steps_8 (by decide) ?_
  refine n_mmax dX7_steps_9 wt_418 wt_419 wt_14 wt_420 rfl (by decide) ?_
  exact n_iret dX7_steps_12 rfl
def f_K4_steps (o : Nat) (v1 : Int32) (v2 : Int32) (M : Nm) : Option (Int32 × Nm) := bnd (f_K1_steps o v1 v2 M) fun r1 M2 => if v1 = 0 then (some (r1 + 1, M2)) else (some (r1, M2))
theorem c_K4_steps (l : Launch) (G : Gl) (o : Nat) (v1 : Int32) (v2 : Int32) (ho : isK o) (M : Nm) : NJ l G Y_X4_steps (zR 2 52) eI 0 (lv_args 0 [aR G o, .int v1, .int v2]) [] M (f_K4_steps o v1 v2 M) := by
  unfold f_K4_steps
  show NJ l G Y_X4_steps (zR 2 52) eI 0 [(0, aR G o), (1, .int v1), (2, .int v2)] [] M _
  refine s_aload_n 0 dX4_steps_0 rfl ?_
  refine s_iload_n 1 dX4_steps_1 rfl ?_
  refine s_iload_n 2 dX4_steps_2 rfl ?_
  obtain ⟨C9, T9, n9, hk9⟩ := isK_kcl ho
  refine n_invSU_i dX4_steps_3 ok_X7_steps rfl wt_414 wt_415 wt_1394 wt_86 (by decide) (ci := (sh o).1) hk9 (isK_blt ho) rfl (isK_n ho) [.int v1, .int v2] rfl rfl rfl rfl (c_K1_steps l G _ _ _ ho _) (fun r1 M2 => ?_)
  refine s_istore_n (i := 3) (lv' := [(3, .int r1), (0, aR G o), (1, .int v1), (2, .int v2)]) dX4_steps_6 rfl rfl rfl ?_
  refine s_iload_n 2 dX4_steps_7 rfl ?_
  refine s_if_ne (tgt := 17) dX4_steps_8 (by decide) (fun _ => ?_) (fun _ => ?_)
  · refine s_iload_n 0 dX4_steps_11 rfl ?_
    refine s_iconst (v := 1) dX4_steps_12 (by decide) ?_
    refine s_iadd dX4_steps_13 ?_
    refine s_goto (tgt := 18) dX4_steps_14 (by decide) ?_
    exact n_iret dX4_steps_18 rfl
  · refine s_iload_n 0 dX4_steps_17 rfl ?_
    exact n_iret dX4_steps_18 rfl
def f_K1_crop (o : Nat) (M : Nm) : Option (Int32 × Nm) := bnd (f_K0_crop o M) fun r1 M2 => some (2 * r1, M2)
theorem c_K1_crop (l : Launch) (G : Gl) (o : Nat) (ho : isK o) (M : Nm) : NJ l G Y_X7_crop (zR 1 20) eI 0 (lv_args 0 [aR G o]) [] M (f_K1_crop o M) := by
  unfold f_K1_crop
  show NJ l G Y_X7_crop (zR 1 20) eI 0 [(0, aR G o)] [] M _
  refine s_iconst (v := 2) dX7_crop_0 (by decide) ?_
  refine s_aload_n 0 dX7_crop_1 rfl ?_
  obtain ⟨C9, T9, n9, hk9⟩ := isK_kcl ho
  refine n_invSU_i dX7_crop_2 ok_X3_crop rfl wt_465 wt_455 wt_457 wt_56 (by decide) (ci := (sh o).1) hk9 (isK_blt ho) rfl (isK_n ho) [] rfl rfl rfl rfl (c_K0_crop l G _ ho _) (fun r1 M2 => ?_)
  refine s_imul dX7_crop_5 ?_
  exact n_iret dX7_crop_6 rfl
def f_K4_crop (o : Nat) (M : Nm) : Option (Int32 × Nm) := bnd (f_K1_crop o M) fun r1 M2 => some (r1 - 1, M2)
theorem c_K4_crop (l : Launch) (G : Gl) (o : Nat) (ho : isK o) (M : Nm) : NJ l G Y_X4_crop (zR 2 40) eI 0 (lv_args 0 [aR G o]) [] M (f_K4_crop o M) := by
  unfold f_K4_crop
  show NJ l G Y_X4_crop (zR 2 40) eI 0 [(0, aR G o)] [] M _
  refine s_aload_n 0 dX4_crop_0 rfl ?_
  obtain ⟨C9, T9, n9, hk9⟩ := isK_kcl ho
  refine n_invSU_i dX4_crop_1 ok_X7_crop rfl wt_462 wt_463 wt_1395 wt_86 (by decide) (ci := (sh o).1) hk9 (isK_blt ho) rfl (isK_n ho) [] rfl rfl rfl rfl (c_K1_crop l G _ ho _) (fun r1 M2 => ?_)
  refine s_iconst (v := 1) dX4_crop_4 (by decide) ?_
  refine s_isub dX4_crop_5 ?_
  exact n_iret dX4_crop_6 rfl
def f_K5_isOf (o : Nat) (v1 : Int32) (M : Nm) : Option (Int32 × Nm) := if v1 = 5 then (some (1, M)) else (bnd (f_K2_isOf o v1 M) fun r1 M2 => if r1 = 0 then (some (0, M2)) else (some (1, M2)))
theorem c_K5_isOf (l : Launch) (G : Gl) (o : Nat) (v1 : Int32) (ho : isK o) (M : Nm) : NJ l G Y_X6_isOf (zR 2 42) eI 0 (lv_args 0 [aR G o, .int v1]) [] M (f_K5_isOf o v1 M) := by
  unfold f_K5_isOf
  show NJ l G Y_X6_isOf (zR 2 42) eI 0 [(0, aR G o), (1, .int v1)] [] M _
  refine s_iload_n 1 dX6_isOf_0 rfl ?_
  refine s_iconst (v := 5) dX6_isOf_1 (by decide) ?_
  refine s_icmp_eq (tgt := 13) dX6_isOf_2 (by decide) (fun _ => ?_) (fun _ => ?_)
  · refine s_iconst (v := 1) dX6_isOf_13 (by decide) ?_
    refine s_goto (tgt := 18) dX6_isOf_14 (by decide) ?_
    exact n_zret1 dX6_isOf_18 rfl
  · refine s_aload_n 0 dX6_isOf_5 rfl ?_
    refine s_iload_n 1 dX6_isOf_6 rfl ?_
    obtain ⟨C9, T9, n9, hk9⟩ := isK_kcl ho
    refine n_invSU_i dX6_isOf_7 ok_X0_isOf rfl wt_538 wt_525 wt_1397 wt_96 (by decide) (ci := (sh o).1) hk9 (isK_blt ho) rfl (isK_n ho) [.int v1] rfl rfl rfl rfl (c_K2_isOf l G _ _ ho _) (fun r1 M2 => ?_)
    refine s_if_eq (tgt := 17) dX6_isOf_10 (by decide) (fun _ => ?_) (fun _ => ?_)
    · refine s_iconst (v := 0) dX6_isOf_17 (by decide) ?_
      exact n_zret0 dX6_isOf_18 rfl
    · refine s_iconst (v := 1) dX6_isOf_13 (by decide) ?_
      refine s_goto (tgt := 18) dX6_isOf_14 (by decide) ?_
      exact n_zret1 dX6_isOf_18 rfl
def f_K5_turns (o : Nat) (v1 : Int32) (M : Nm) : Option (Int32 × Nm) := if v1 = 1 then (some (3, M)) else (if v1 = 3 then (some (1, M)) else (bnd (f_K0_turns o v1 M) fun r1 M2 => some (r1, M2)))
theorem c_K5_turns (l : Launch) (G : Gl) (o : Nat) (v1 : Int32) (ho : isK o) (M : Nm) : NJ l G Y_X6_turns (zR 1 21) eI 0 (lv_args 0 [aR G o, .int v1]) [] M (f_K5_turns o v1 M) := by
  unfold f_K5_turns
  show NJ l G Y_X6_turns (zR 1 21) eI 0 [(0, aR G o), (1, .int v1)] [] M _
  refine s_iload_n 1 dX6_turns_0 rfl ?_
  refine s_iconst (v := 1) dX6_turns_1 (by decide) ?_
  refine s_icmp_ne (tgt := 7) dX6_turns_2 (by decide) (fun _ => ?_) (fun _ => ?_)
  · refine s_iconst (v := 3) dX6_turns_5 (by decide) ?_
    exact n_iret dX6_turns_6 rfl
  · refine s_iload_n 1 dX6_turns_7 rfl ?_
    refine s_iconst (v := 3) dX6_turns_8 (by decide) ?_
    refine s_icmp_ne (tgt := 16) dX6_turns_9 (by decide) (fun _ => ?_) (fun _ => ?_)
    · refine s_iconst (v := 1) dX6_turns_12 (by decide) ?_
      refine s_goto (tgt := 21) dX6_turns_13 (by decide) ?_
      exact n_iret dX6_turns_21 rfl
    · refine s_aload_n 0 dX6_turns_16 rfl ?_
      refine s_iload_n 1 dX6_turns_17 rfl ?_
      obtain ⟨C9, T9, n9, hk9⟩ := isK_kcl ho
      refine n_invSU2_i dX6_turns_18 ok_X3_turns rfl wt_397 wt_389 wt_398 wt_96 wt_66 rfl rfl (by decide) (ci := (sh o).1) hk9 (isK_blt ho) rfl (isK_n ho) [.int v1] rfl rfl rfl rfl (c_K0_turns l G _ _ ho _) (fun r1 M2 => ?_)
      exact n_iret dX6_turns_21 rfl
def f_K5_crop (o : Nat) (M : Nm) : Option (Int32 × Nm) := bnd (f_K0_crop o M) fun r1 M2 => some (r1 / 2, M2)
theorem c_K5_crop (l : Launch) (G : Gl) (o : Nat) (ho : isK o) (M : Nm) : NJ l G Y_X6_crop (zR 1 20) eI 0 (lv_args 0 [aR G o]) [] M (f_K5_crop o M) := by
  unfold f_K5_crop
  show NJ l G Y_X6_crop (zR 1 20) eI 0 [(0, aR G o)] [] M _
  refine s_aload_n 0 dX6_crop_0 rfl ?_
  obtain ⟨C9, T9, n9, hk9⟩ := isK_kcl ho
  refine n_invSU2_i dX6_crop_1 ok_X3_crop rfl wt_469 wt_455 wt_470 wt_96 wt_66 rfl rfl (by decide) (ci := (sh o).1) hk9 (isK_blt ho) rfl (isK_n ho) [] rfl rfl rfl rfl (c_K0_crop l G _ ho _) (fun r1 M2 => ?_)
  refine s_iconst (v := 2) dX6_crop_4 (by decide) ?_
  refine s_idiv dX6_crop_5 (by decide) ?_
  exact n_iret dX6_crop_6 rfl
def f_K3_isOf (o : Nat) (v1 : Int32) (M : Nm) : Option (Int32 × Nm) := if v1 = 3 then (some (1, M)) else (bnd (f_K0_isOf o v1 M) fun r1 M2 => if r1 = 0 then (some (0, M2)) else (some (1, M2)))
theorem c_K3_isOf (l : Launch) (G : Gl) (o : Nat) (v1 : Int32) (ho : isK o) (M : Nm) : NJ l G Y_X8_isOf (zR 1 21) eI 0 (lv_args 0 [aR G o, .int v1]) [] M (f_K3_isOf o v1 M) := by
  unfold f_K3_isOf
  show NJ l G Y_X8_isOf (zR 1 21) eI 0 [(0, aR G o), (1, .int v1)] [] M _
  refine s_iload_n 1 dX8_isOf_0 rfl ?_
  refine s_iconst (v := 3) dX8_isOf_1 (by decide) ?_
  refine s_icmp_eq (tgt := 13) dX8_isOf_2 (by decide) (fun _ => ?_) (fun _ => ?_)
  · refine s_iconst (v := 1) dX8_isOf_13 (by decide) ?_
    refine s_goto (tgt := 18) dX8_isOf_14 (by decide) ?_
    exact n_zret1 dX8_isOf_18 rfl
  · refine s_aload_n 0 dX8_isOf_5 rfl ?_
    refine s_iload_n 1 dX8_isOf_6 rfl ?_
    obtain ⟨C9, T9, n9, hk9⟩ := isK_kcl ho
    refine n_invSU_i dX8_isOf_7 ok_X3_isOf rfl wt_543 wt_521 wt_523 wt_76 (by decide) (ci := (sh o).1) hk9 (isK_blt ho) rfl (isK_n ho) [.int v1] rfl rfl rfl rfl (c_K0_isOf l G _ _ ho _) (fun r1 M2 => ?_)
    refine s_if_eq (tgt := 17) dX8_isOf_10 (by decide) (fun _ => ?_) (fun _ => ?_)
    · refine s_iconst (v := 0) dX8_isOf_17 (by decide) ?_
      exact n_zret0 dX8_isOf_18 rfl
    · refine s_iconst (v := 1) dX8_isOf_13 (by decide) ?_
      refine s_goto (tgt := 18) dX8_isOf_14 (by decide) ?_
      exact n_zret1 dX8_isOf_18 rfl
def f_K3_steps (o : Nat) (v1 : Int32) (v2 : Int32) (M : Nm) : Option (Int32 × Nm) := bnd (f_K0_steps o v1 v2 M) fun r1 M2 => some ((if (1 : Int32) < (r1 - (v1 - v1 / 2 * 2)) then (r1 - (v1 - v1 / 2 * 2)) else 1), M2)
theorem c_K3_steps (l : Launch) (G : Gl) (o : Nat) (v1 : Int32) (v2 : Int32) (ho : isK o) (M : Nm) : NJ l G Y_X8_steps (zR 1 30) eI 0 (lv_args 0 [aR G o, .int v1, .int v2]) [] M (f_K3_steps o v1 v2 M) := by
  unfold f_K3_steps
  show NJ l G Y_X8_steps (zR 1 30) eI 0 [(0, aR G o), (1, .int v1), (2, .int v2)] [] M _
  refine s_iconst (v := 1) dX8_steps_0 (by decide) ?_
  refine s_aload_n 0 dX8_steps_1 rfl ?_
  refine s_iload_n 1 dX8_steps_2 rfl ?_
  refine s_iload_n 2 dX8_steps_3 rfl ?_
  obtain ⟨C9, T9, n9, hk9⟩ := isK_kcl ho
  refine n_invSU_i dX8_steps_4 ok_X3_steps rfl wt_426 wt_404 wt_406 wt_76 (by decide) (ci := (sh o).1) hk9 (isK_blt ho) rfl (isK_n ho) [.int v1, .int v2] rfl rfl rfl rfl (c_K0_steps l G _ _ _ ho _) (fun r1 M2 => ?_)
  refine s_iload_n 1 dX8_steps_7 rfl ?_
  refine s_iconst (v := 2) dX8_steps_8 (by decide) ?_
  refine s_irem dX8_steps_9 (by decide) ?_
  refine s_isub dX8_steps_10 ?_
  refine n_mmax dX8_steps_11 wt_427 wt_419 wt_14 wt_420 rfl (by decide) ?_
  exact n_iret dX8_steps_14 rfl
def f_K3_crop (o : Nat) (M : Nm) : Option (Int32 × Nm) := bnd (f_K0_crop o M) fun r1 M2 => some (r1 + 1, M2)
theorem c_K3_crop (l : Launch) (G : Gl) (o : Nat) (ho : isK o) (M : Nm) : NJ l G Y_X8_crop (zR 1 20) eI 0 (lv_args 0 [aR G o]) [] M (f_K3_crop o M) := by
  unfold f_K3_crop
  show NJ l G Y_X8_crop (zR 1 20) eI 0 [(0, aR G o)] [] M _
  refine s_aload_n 0 dX8_crop_0 rfl ?_
  obtain ⟨C9, T9, n9, hk9⟩ := isK_kcl ho
  refine n_invSU_i dX8_crop_1 ok_X3_crop rfl wt_476 wt_455 wt_457 wt_76 (by decide) (ci := (sh o).1) hk9 (isK_blt ho) rfl (isK_n ho) [] rfl rfl rfl rfl (c_K0_crop l G _ ho _) (fun r1 M2 => ?_)
  refine s_iconst (v := 1) dX8_crop_4 (by decide) ?_
  refine s_iadd dX8_crop_5 ?_
  exact n_iret dX8_crop_6 rfl
theorem okR_of {f q f1 q1 : Nat} {Z : My} (h1 : f1 + 1 ≤ f) (h2 : 8 + (Z.2.2.1 + 11) + q1 ≤ q) : okR (zR f q) (zR f1 q1) Z = true := by
  show (decide (f1 + 1 ≤ f) && decide (8 + (Z.2.2.1 + 11) + q1 ≤ q)) = true
  rw [decide_eq_true h1, decide_eq_true h2]
  rfl
def v_steps (k : Nat) (a0 : Int32) (a1 : Int32) (M : Nm) : Option (Int32 × Nm) := if (sh k).1 = 1 then f_K0_steps k a0 a1 M else if (sh k).1 = 2 then f_K1_steps k a0 a1 M else if (sh k).1 = 3 then f_K2_steps k a0 a1 M else if (sh k).1 = 4 then f_K3_steps k a0 a1 M else if (sh k).1 = 5 then f_K4_steps k a0 a1 M else f_K2_steps k a0 a1 M
theorem n_virt_steps {l : Launch} {G : Gl} {Y : My} {f q : Nat} {α : Type} {ε : α → Option Value} {pc index k : Nat} {lv : List (Nat × Value)} {st st0 : List Value} {M : Nm} {t : Int32 → Nm → Option (α × Nm)} (hd : decode Y.2.1 pc = .ok (.invokevirtual index, 3)) (hlk : Cond.methodLink Y.1.cls index ⟨"PenAcres$HandKind", "steps", "(II)I"⟩ ∈ wG) (hR : (Nat.ble 3 f && Nat.ble 75 q) = true) (hk : isK k) {a0 : Int32} {a1 : Int32} (hst : st0 = .int a1 :: .int a0 :: aR G k :: st) (hcat : Nat.ble (st.map fun v => v.category).sum 8 = true) (kk : ∀ a M', NJ l G Y (zR f q) ε (pc + 3) lv (.int a :: st) M' (t a M')) : NJ l G Y (zR f q) ε pc lv st0 M (bnd (v_steps k a0 a1 M) t) := by
  rw [Bool.and_eq_true] at hR
  have hf := Nat.le_of_ble_eq_true hR.1
  have hq := Nat.le_of_ble_eq_true hR.2
  unfold v_steps
  refine s_bite (fun h => n_invU_i (owner := "PenAcres$HandKind") (x := ⟨"PenAcres$HandKind", "steps", "(II)I"⟩) hd ok_X3_steps (okR_of (f1 := 0) (q1 := 0) (by omega) (show 8 + (3 + 11) + 0 ≤ q by omega)) hlk wt_406 wt_404 ⟨_, _, _, wt_428⟩ ⟨by decide, by decide⟩ (by decide +kernel) wt_405 wt_404 (ci := 1) rfl rfl h (sh_lt h rfl) [.int a0, .int a1] rfl rfl hst hcat (c_K0_steps l G k a0 a1 hk M) kk) (fun h1 => ?_)
  refine s_bite (fun h => n_invU_i (owner := "PenAcres$HandKind") (x := ⟨"PenAcres$HandKind", "steps", "(II)I"⟩) hd ok_X7_steps (okR_of (f1 := 1) (q1 := 30) (by omega) (show 8 + (3 + 11) + 30 ≤ q by omega)) hlk wt_406 wt_404 ⟨_, _, _, wt_428⟩ ⟨by decide, by decide⟩ (by decide +kernel) wt_422 wt_415 (ci := 2) rfl rfl h (sh_lt h rfl) [.int a0, .int a1] rfl rfl hst hcat (c_K1_steps l G k a0 a1 hk M) kk) (fun h2 => ?_)
  refine s_bite (fun h => n_invU_i (owner := "PenAcres$HandKind") (x := ⟨"PenAcres$HandKind", "steps", "(II)I"⟩) hd ok_X0_steps (okR_of (f1 := 1) (q1 := 22) (by omega) (show 8 + (3 + 11) + 22 ≤ q by omega)) hlk wt_406 wt_404 ⟨_, _, _, wt_428⟩ ⟨by decide, by decide⟩ (by decide +kernel) wt_407 wt_408 (ci := 3) rfl rfl h (sh_lt h rfl) [.int a0, .int a1] rfl rfl hst hcat (c_K2_steps l G k a0 a1 hk M) kk) (fun h3 => ?_)
  refine s_bite (fun h => n_invU_i (owner := "PenAcres$HandKind") (x := ⟨"PenAcres$HandKind", "steps", "(II)I"⟩) hd ok_X8_steps (okR_of (f1 := 1) (q1 := 30) (by omega) (show 8 + (3 + 11) + 30 ≤ q by omega)) hlk wt_406 wt_404 ⟨_, _, _, wt_428⟩ ⟨by decide, by decide⟩ (by decide +kernel) wt_423 wt_424 (ci := 4) rfl rfl h (sh_lt h rfl) [.int a0, .int a1] rfl rfl hst hcat (c_K3_steps l G k a0 a1 hk M) kk) (fun h4 => ?_)
  refine s_bite (fun h => n_invU_i (owner := "PenAcres$HandKind") (x := ⟨"PenAcres$HandKind", "steps", "(II)I"⟩) hd ok_X4_steps (okR_of (f1 := 2) (q1 := 52) (by omega) (show 8 + (4 + 11) + 52 ≤ q by omega)) hlk wt_406 wt_404 ⟨_, _, _, wt_428⟩ ⟨by decide, by decide⟩ (by decide +kernel) wt_411 wt_412 (ci := 5) rfl rfl h (sh_lt h rfl) [.int a0, .int a1] rfl rfl hst hcat (c_K4_steps l G k a0 a1 hk M) kk) (fun h5 => ?_)
  have h : (sh k).1 = 6 := by
    obtain ⟨z1, z2⟩ := hk
    omega
  exact n_invU_i (owner := "PenAcres$HandKind") (x := ⟨"PenAcres$HandKind", "steps", "(II)I"⟩) hd ok_X0_steps (okR_of (f1 := 1) (q1 := 22) (by omega) (show 8 + (3 + 11) + 22 ≤ q by omega)) hlk wt_406 wt_404 ⟨_, _, _, wt_428⟩ ⟨by decide, by decide⟩ (by decide +kernel) wt_421 wt_408 (ci := 6) rfl rfl h (sh_lt h rfl) [.int a0, .int a1] rfl rfl hst hcat (c_K2_steps l G k a0 a1 hk M) kk
def v_turns (k : Nat) (a0 : Int32) (M : Nm) : Option (Int32 × Nm) := if (sh k).1 = 1 then f_K0_turns k a0 M else if (sh k).1 = 2 then f_K0_turns k a0 M else if (sh k).1 = 3 then f_K0_turns k a0 M else if (sh k).1 = 4 then f_K0_turns k a0 M else if (sh k).1 = 5 then f_K0_turns k a0 M else f_K5_turns k a0 M
theorem n_virt_turns {l : Launch} {G : Gl} {Y : My} {f q : Nat} {α : Type} {ε : α → Option Value} {pc index k : Nat} {lv : List (Nat × Value)} {st st0 : List Value} {M : Nm} {t : Int32 → Nm → Option (α × Nm)} (hd : decode Y.2.1 pc = .ok (.invokevirtual index, 3)) (hlk : Cond.methodLink Y.1.cls index ⟨"PenAcres$HandKind", "turns", "(I)I"⟩ ∈ wG) (hR : (Nat.ble 2 f && Nat.ble 42 q) = true) (hk : isK k) {a0 : Int32} (hst : st0 = .int a0 :: aR G k :: st) (hcat : Nat.ble (st.map fun v => v.category).sum 8 = true) (kk : ∀ a M', NJ l G Y (zR f q) ε (pc + 3) lv (.int a :: st) M' (t a M')) : NJ l G Y (zR f q) ε pc lv st0 M (bnd (v_turns k a0 M) t) := by
  rw [Bool.and_eq_true] at hR
  have hf := Nat.le_of_ble_eq_true hR.1
  have hq := Nat.le_of_ble_eq_true hR.2
  unfold v_turns
  refine s_bite (fun h => n_invU_i (owner := "PenAcres$HandKind") (x := ⟨"PenAcres$HandKind", "turns", "(I)I"⟩) hd ok_X3_turns (okR_of (f1 := 0) (q1 := 0) (by omega) (show 8 + (2 + 11) + 0 ≤ q by omega)) hlk wt_391 wt_389 ⟨_, _, _, wt_402⟩ ⟨by decide, by decide⟩ (by decide +kernel) wt_390 wt_389 (ci := 1) rfl rfl h (sh_lt h rfl) [.int a0] rfl rfl hst hcat (c_K0_turns l G k a0 hk M) kk) (fun h1 => ?_)
  refine s_bite (fun h => n_invU_i (owner := "PenAcres$HandKind") (x := ⟨"PenAcres$HandKind", "turns", "(I)I"⟩) hd ok_X3_turns (okR_of (f1 := 0) (q1 := 0) (by omega) (show 8 + (2 + 11) + 0 ≤ q by omega)) hlk wt_391 wt_389 ⟨_, _, _, wt_402⟩ ⟨by decide, by decide⟩ (by decide +kernel) wt_400 wt_389 (ci := 2) rfl rfl h (sh_lt h rfl) [.int a0] rfl rfl hst hcat (c_K0_turns l G k a0 hk M) kk) (fun h2 => ?_)
  refine s_bite (fun h => n_invU_i (owner := "PenAcres$HandKind") (x := ⟨"PenAcres$HandKind", "turns", "(I)I"⟩) hd ok_X3_turns (okR_of (f1 := 0) (q1 := 0) (by omega) (show 8 + (2 + 11) + 0 ≤ q by omega)) hlk wt_391 wt_389 ⟨_, _, _, wt_402⟩ ⟨by decide, by decide⟩ (by decide +kernel) wt_392 wt_389 (ci := 3) rfl rfl h (sh_lt h rfl) [.int a0] rfl rfl hst hcat (c_K0_turns l G k a0 hk M) kk) (fun h3 => ?_)
  refine s_bite (fun h => n_invU_i (owner := "PenAcres$HandKind") (x := ⟨"PenAcres$HandKind", "turns", "(I)I"⟩) hd ok_X3_turns (okR_of (f1 := 0) (q1 := 0) (by omega) (show 8 + (2 + 11) + 0 ≤ q by omega)) hlk wt_391 wt_389 ⟨_, _, _, wt_402⟩ ⟨by decide, by decide⟩ (by decide +kernel) wt_401 wt_389 (ci := 4) rfl rfl h (sh_lt h rfl) [.int a0] rfl rfl hst hcat (c_K0_turns l G k a0 hk M) kk) (fun h4 => ?_)
  refine s_bite (fun h => n_invU_i (owner := "PenAcres$HandKind") (x := ⟨"PenAcres$HandKind", "turns", "(I)I"⟩) hd ok_X3_turns (okR_of (f1 := 0) (q1 := 0) (by omega) (show 8 + (2 + 11) + 0 ≤ q by omega)) hlk wt_391 wt_389 ⟨_, _, _, wt_402⟩ ⟨by decide, by decide⟩ (by decide +kernel) wt_393 wt_389 (ci := 5) rfl rfl h (sh_lt h rfl) [.int a0] rfl rfl hst hcat (c_K0_turns l G k a0 hk M) kk) (fun h5 => ?_)
  have h : (sh k).1 = 6 := by
    obtain ⟨z1, z2⟩ := hk
    omega
  exact n_invU_i (owner := "PenAcres$HandKind") (x := ⟨"PenAcres$HandKind", "turns", "(I)I"⟩) hd ok_X6_turns (okR_of (f1 := 1) (q1 := 21) (by omega) (show 8 + (2 + 11) + 21 ≤ q by omega)) hlk wt_391 wt_389 ⟨_, _, _, wt_402⟩ ⟨by decide, by decide⟩ (by decide +kernel) wt_394 wt_395 (ci := 6) rfl rfl h (sh_lt h rfl) [.int a0] rfl rfl hst hcat (c_K5_turns l G k a0 hk M) kk
def v_crop (k : Nat)  (M : Nm) : Option (Int32 × Nm) := if (sh k).1 = 1 then f_K0_crop k  M else if (sh k).1 = 2 then f_K1_crop k  M else if (sh k).1 = 3 then f_K0_crop k  M else if (sh k).1 = 4 then f_K3_crop k  M else if (sh k).1 = 5 then f_K4_crop k  M else f_K5_crop k  M
theorem n_virt_crop {l : Launch} {G : Gl} {Y : My} {f q : Nat} {α : Type} {ε : α → Option Value} {pc index k : Nat} {lv : List (Nat × Value)} {st st0 : List Value} {M : Nm} {t : Int32 → Nm → Option (α × Nm)} (hd : decode Y.2.1 pc = .ok (.invokevirtual index, 3)) (hlk : Cond.methodLink Y.1.cls index ⟨"PenAcres$HandKind", "crop", "()I"⟩ ∈ wG) (hR : (Nat.ble 3 f && Nat.ble 60 q) = true) (hk : isK k)  (hst : st0 = aR G k :: st) (hcat : Nat.ble (st.map fun v => v.category).sum 8 = true) (kk : ∀ a M', NJ l G Y (zR f q) ε (pc + 3) lv (.int a :: st) M' (t a M')) : NJ l G Y (zR f q) ε pc lv st0 M (bnd (v_crop k  M) t) := by
  rw [Bool.and_eq_true] at hR
  have hf := Nat.le_of_ble_eq_true hR.1
  have hq := Nat.le_of_ble_eq_true hR.2
  unfold v_crop
  refine s_bite (fun h => n_invU_i (owner := "PenAcres$HandKind") (x := ⟨"PenAcres$HandKind", "crop", "()I"⟩) hd ok_X3_crop (okR_of (f1 := 0) (q1 := 0) (by omega) (show 8 + (1 + 11) + 0 ≤ q by omega)) hlk wt_457 wt_455 ⟨_, _, _, wt_477⟩ ⟨by decide, by decide⟩ (by decide +kernel) wt_456 wt_455 (ci := 1) rfl rfl h (sh_lt h rfl) [] rfl rfl hst hcat (c_K0_crop l G k  hk M) kk) (fun h1 => ?_)
  refine s_bite (fun h => n_invU_i (owner := "PenAcres$HandKind") (x := ⟨"PenAcres$HandKind", "crop", "()I"⟩) hd ok_X7_crop (okR_of (f1 := 1) (q1 := 20) (by omega) (show 8 + (1 + 11) + 20 ≤ q by omega)) hlk wt_457 wt_455 ⟨_, _, _, wt_477⟩ ⟨by decide, by decide⟩ (by decide +kernel) wt_472 wt_463 (ci := 2) rfl rfl h (sh_lt h rfl) [] rfl rfl hst hcat (c_K1_crop l G k  hk M) kk) (fun h2 => ?_)
  refine s_bite (fun h => n_invU_i (owner := "PenAcres$HandKind") (x := ⟨"PenAcres$HandKind", "crop", "()I"⟩) hd ok_X3_crop (okR_of (f1 := 0) (q1 := 0) (by omega) (show 8 + (1 + 11) + 0 ≤ q by omega)) hlk wt_457 wt_455 ⟨_, _, _, wt_477⟩ ⟨by decide, by decide⟩ (by decide +kernel) wt_458 wt_455 (ci := 3) rfl rfl h (sh_lt h rfl) [] rfl rfl hst hcat (c_K0_crop l G k  hk M) kk) (fun h3 => ?_)
  refine s_bite (fun h => n_invU_i (owner := "PenAcres$HandKind") (x := ⟨"PenAcres$HandKind", "crop", "()I"⟩) hd ok_X8_crop (okR_of (f1 := 1) (q1 := 20) (by omega) (show 8 + (1 + 11) + 20 ≤ q by omega)) hlk wt_457 wt_455 ⟨_, _, _, wt_477⟩ ⟨by decide, by decide⟩ (by decide +kernel) wt_473 wt_474 (ci := 4) rfl rfl h (sh_lt h rfl) [] rfl rfl hst hcat (c_K3_crop l G k  hk M) kk) (fun h4 => ?_)
  refine s_bite (fun h => n_invU_i (owner := "PenAcres$HandKind") (x := ⟨"PenAcres$HandKind", "crop", "()I"⟩) hd ok_X4_crop (okR_of (f1 := 2) (q1 := 40) (by omega) (show 8 + (1 + 11) + 40 ≤ q by omega)) hlk wt_457 wt_455 ⟨_, _, _, wt_477⟩ ⟨by decide, by decide⟩ (by decide +kernel) wt_459 wt_460 (ci := 5) rfl rfl h (sh_lt h rfl) [] rfl rfl hst hcat (c_K4_crop l G k  hk M) kk) (fun h5 => ?_)
  have h : (sh k).1 = 6 := by
    obtain ⟨z1, z2⟩ := hk
    omega
  exact n_invU_i (owner := "PenAcres$HandKind") (x := ⟨"PenAcres$HandKind", "crop", "()I"⟩) hd ok_X6_crop (okR_of (f1 := 1) (q1 := 20) (by omega) (show 8 + (1 + 11) + 20 ≤ q by omega)) hlk wt_457 wt_455 ⟨_, _, _, wt_477⟩ ⟨by decide, by decide⟩ (by decide +kernel) wt_466 wt_467 (ci := 6) rfl rfl h (sh_lt h rfl) [] rfl rfl hst hcat (c_K5_crop l G k  hk M) kk
def v_isOf (k : Nat) (a0 : Int32) (M : Nm) : Option (Int32 × Nm) := if (sh k).1 = 1 then f_K0_isOf k a0 M else if (sh k).1 = 2 then f_K1_isOf k a0 M else if (sh k).1 = 3 then f_K2_isOf k a0 M else if (sh k).1 = 4 then f_K3_isOf k a0 M else if (sh k).1 = 5 then f_K4_isOf k a0 M else f_K5_isOf k a0 M
theorem n_virt_isOf {l : Launch} {G : Gl} {Y : My} {f q : Nat} {α : Type} {ε : α → Option Value} {pc index k : Nat} {lv : List (Nat × Value)} {st st0 : List Value} {M : Nm} {t : Int32 → Nm → Option (α × Nm)} (hd : decode Y.2.1 pc = .ok (.invokevirtual index, 3)) (hlk : Cond.methodLink Y.1.cls index ⟨"PenAcres$HandKind", "isOf", "(I)Z"⟩ ∈ wG) (hR : (Nat.ble 3 f && Nat.ble 63 q) = true) (hk : isK k) {a0 : Int32} (hst : st0 = .int a0 :: aR G k :: st) (hcat : Nat.ble (st.map fun v => v.category).sum 8 = true) (kk : ∀ a M', NJ l G Y (zR f q) ε (pc + 3) lv (.int a :: st) M' (t a M')) : NJ l G Y (zR f q) ε pc lv st0 M (bnd (v_isOf k a0 M) t) := by
  rw [Bool.and_eq_true] at hR
  have hf := Nat.le_of_ble_eq_true hR.1
  have hq := Nat.le_of_ble_eq_true hR.2
  unfold v_isOf
  refine s_bite (fun h => n_invU_i (owner := "PenAcres$HandKind") (x := ⟨"PenAcres$HandKind", "isOf", "(I)Z"⟩) hd ok_X3_isOf (okR_of (f1 := 0) (q1 := 0) (by omega) (show 8 + (2 + 11) + 0 ≤ q by omega)) hlk wt_523 wt_521 ⟨_, _, _, wt_544⟩ ⟨by decide, by decide⟩ (by decide +kernel) wt_522 wt_521 (ci := 1) rfl rfl h (sh_lt h rfl) [.int a0] rfl rfl hst hcat (c_K0_isOf l G k a0 hk M) kk) (fun h1 => ?_)
  refine s_bite (fun h => n_invU_i (owner := "PenAcres$HandKind") (x := ⟨"PenAcres$HandKind", "isOf", "(I)Z"⟩) hd ok_X7_isOf (okR_of (f1 := 1) (q1 := 21) (by omega) (show 8 + (2 + 11) + 21 ≤ q by omega)) hlk wt_523 wt_521 ⟨_, _, _, wt_544⟩ ⟨by decide, by decide⟩ (by decide +kernel) wt_539 wt_532 (ci := 2) rfl rfl h (sh_lt h rfl) [.int a0] rfl rfl hst hcat (c_K1_isOf l G k a0 hk M) kk) (fun h2 => ?_)
  refine s_bite (fun h => n_invU_i (owner := "PenAcres$HandKind") (x := ⟨"PenAcres$HandKind", "isOf", "(I)Z"⟩) hd ok_X0_isOf (okR_of (f1 := 1) (q1 := 21) (by omega) (show 8 + (2 + 11) + 21 ≤ q by omega)) hlk wt_523 wt_521 ⟨_, _, _, wt_544⟩ ⟨by decide, by decide⟩ (by decide +kernel) wt_524 wt_525 (ci := 3) rfl rfl h (sh_lt h rfl) [.int a0] rfl rfl hst hcat (c_K2_isOf l G k a0 hk M) kk) (fun h3 => ?_)
  refine s_bite (fun h => n_invU_i (owner := "PenAcres$HandKind") (x := ⟨"PenAcres$HandKind", "isOf", "(I)Z"⟩) hd ok_X8_isOf (okR_of (f1 := 1) (q1 := 21) (by omega) (show 8 + (2 + 11) + 21 ≤ q by omega)) hlk wt_523 wt_521 ⟨_, _, _, wt_544⟩ ⟨by decide, by decide⟩ (by decide +kernel) wt_540 wt_541 (ci := 4) rfl rfl h (sh_lt h rfl) [.int a0] rfl rfl hst hcat (c_K3_isOf l G k a0 hk M) kk) (fun h4 => ?_)
  refine s_bite (fun h => n_invU_i (owner := "PenAcres$HandKind") (x := ⟨"PenAcres$HandKind", "isOf", "(I)Z"⟩) hd ok_X4_isOf (okR_of (f1 := 2) (q1 := 42) (by omega) (show 8 + (2 + 11) + 42 ≤ q by omega)) hlk wt_523 wt_521 ⟨_, _, _, wt_544⟩ ⟨by decide, by decide⟩ (by decide +kernel) wt_528 wt_529 (ci := 5) rfl rfl h (sh_lt h rfl) [.int a0] rfl rfl hst hcat (c_K4_isOf l G k a0 hk M) kk) (fun h5 => ?_)
  have h : (sh k).1 = 6 := by
    obtain ⟨z1, z2⟩ := hk
    omega
  exact n_invU_i (owner := "PenAcres$HandKind") (x := ⟨"PenAcres$HandKind", "isOf", "(I)Z"⟩) hd ok_X6_isOf (okR_of (f1 := 2) (q1 := 42) (by omega) (show 8 + (2 + 11) + 42 ≤ q by omega)) hlk wt_523 wt_521 ⟨_, _, _, wt_544⟩ ⟨by decide, by decide⟩ (by decide +kernel) wt_535 wt_536 (ci := 6) rfl rfl h (sh_lt h rfl) [.int a0] rfl rfl hst hcat (c_K5_isOf l G k a0 hk M) kk
