def f_M_in (v0 : Int64) (v2 : Int64) (v4 : Int64) (M : Nm) : Option (Int32 × Nm) := if (lg_cmp v0 v2) < 0 then (some (0, M)) else (if 0 < (lg_cmp v0 v4) then (some (0, M)) else (some (1, M)))
theorem c_M_in (l : Launch) (G : Gl) (v0 : Int64) (v2 : Int64) (v4 : Int64)  (M : Nm) : NJ l G Y_X12_in (zR 0 0) eI 0 (lv_args 0 [.long v0, .long v2, .long v4]) [] M (f_M_in v0 v2 v4 M) := by
  unfold f_M_in
  show NJ l G Y_X12_in (zR 0 0) eI 0 [(0, .long v0), (2, .long v2), (4, .long v4)] [] M _
  refine s_lload_n 0 dX12_in_0 rfl ?_
  refine s_lload_n 1 dX12_in_1 rfl ?_
  refine s_lcmp dX12_in_2 ?_
  refine s_if_lt (tgt := 17) dX12_in_3 (by decide) (fun _ => ?_) (fun _ => ?_)
  · refine s_iconst (v := 0) dX12_in_17 (by decide) ?_
    exact n_zret0 dX12_in_18 rfl
  · refine s_lload_n 0 dX12_in_6 rfl ?_
    refine s_lload 2 dX12_in_7 rfl ?_
    refine s_lcmp dX12_in_9 ?_
    refine s_if_gt (tgt := 17) dX12_in_10 (by decide) (fun _ => ?_) (fun _ => ?_)
    · refine s_iconst (v := 0) dX12_in_17 (by decide) ?_
      exact n_zret0 dX12_in_18 rfl
    · refine s_iconst (v := 1) dX12_in_13 (by decide) ?_
      refine s_goto (tgt := 18) dX12_in_14 (by decide) ?_
      exact n_zret1 dX12_in_18 rfl
def f_M_finds (v1 : Int32) (M : Nm) : Option (Int32 × Nm) := bl ((-1000000001) - v1) fun x1 => grd (inb x1 7) <| grd (inb x1 7) <| bl (mI M 91 (ix x1) ((M.1 91 (ix x1)) + 1)) fun M2 => some (v1, M2)
theorem c_M_finds (l : Launch) (G : Gl) (v1 : Int32)  (M : Nm) : NJ l G Y_X12_finds (zR 0 0) eI 0 (lv_args 0 [aR G 86, .int v1]) [] M (f_M_finds v1 M) := by
  unfold f_M_finds
  show NJ l G Y_X12_finds (zR 0 0) eI 0 [(0, aR G 86), (1, .int v1)] [] M _
  refine s_aload_n 0 dX12_finds_0 rfl ?_
  refine n_getR (x := 91) dX12_finds_1 okf_M_22_11 rfl rfl so_86 (sh_lt so_86 rfl) rfl ?_
  refine s_ldc (v := (-1000000001)) dX12_finds_4 wt_991 ?_
  refine s_iload_n 1 dX12_finds_6 rfl ?_
  refine s_isub dX12_finds_7 ?_
  refine s_topi (fun x1 => ?_)
  refine s_dup2 dX12_finds_8 rfl rfl ?_
  refine n_ial dX12_finds_9 sa_91 ?_
  refine s_iconst (v := 1) dX12_finds_10 (by decide) ?_
  refine s_iadd dX12_finds_11 ?_
  refine n_ias dX12_finds_12 sa_91 ?_
  refine s_topM (fun M2 => ?_)
  refine s_iload_n 1 dX12_finds_13 rfl ?_
  exact n_iret dX12_finds_14 rfl
def f_M_saves_L2   : Nat → Int32 → Nm → Option (Unit × Nm)
  | 0, _, _ => none
  | f + 1, v1, M => if 176 ≤ v1 then (some ((), M)) else (grd (inb v1 176) <| grd (inb v1 176) <| bl (mI M 89 (ix v1) (M.1 87 (ix v1))) fun M1 => f_M_saves_L2 f (v1 + 1) M1)
theorem c_M_saves_L2 (l : Launch) (G : Gl)     : ∀ (f : Nat) (v1 : Int32)  (M : Nm), NJ l G Y_X12_saves (zR 0 0) eU 2 [(0, aR G 86), (1, .int v1)] [] M (f_M_saves_L2 f v1 M) := by
  intro f
  induction f with
  | zero => intro v1 M; exact s_none
  | succ f ih =>
    intro v1 M
    rw [f_M_saves_L2]
    refine s_iload_n 1 dX12_saves_2 rfl ?_
    refine s_sipush (v := 176) dX12_saves_3 (by decide) ?_
    refine s_icmp_ge (tgt := 27) dX12_saves_6 (by decide) (fun _ => ?_) (fun _ => ?_)
    · exact n_vret dX12_saves_27 rfl
    · refine s_aload_n 0 dX12_saves_9 rfl ?_
      refine n_getR (x := 89) dX12_saves_10 okf_M_16_11 rfl rfl so_86 (sh_lt so_86 rfl) rfl ?_
      refine s_iload_n 1 dX12_saves_13 rfl ?_
      refine s_aload_n 0 dX12_saves_14 rfl ?_
      refine n_getR (x := 87) dX12_saves_15 okf_M_7_11 rfl rfl so_86 (sh_lt so_86 rfl) rfl ?_
      refine s_iload_n 1 dX12_saves_18 rfl ?_
      refine n_ial dX12_saves_19 sa_87 ?_
      refine n_ias dX12_saves_20 sa_89 ?_
      refine s_topM (fun M1 => ?_)
      refine s_iinc (v := 1) (lv' := [(1, .int (v1 + 1)), (0, aR G 86)]) 1 dX12_saves_21 rfl (by decide) rfl rfl ?_
      refine s_goto (tgt := 2) dX12_saves_24 (by decide) ?_
      refine s_lv [1, 0] (lv' := [(0, aR G 86), (1, .int (v1 + 1))]) rfl ?_
      exact ih _ _
def f_M_saves  (M : Nm) : Option (Unit × Nm) := f_M_saves_L2 FU 0 M
theorem c_M_saves (l : Launch) (G : Gl)   (M : Nm) : NJ l G Y_X12_saves (zR 0 0) eU 0 (lv_args 0 [aR G 86]) [] M (f_M_saves  M) := by
  unfold f_M_saves
  show NJ l G Y_X12_saves (zR 0 0) eU 0 [(0, aR G 86)] [] M _
  refine s_iconst (v := 0) dX12_saves_0 (by decide) ?_
  refine s_istore_n (i := 1) (lv' := [(1, .int 0), (0, aR G 86)]) dX12_saves_1 rfl rfl rfl ?_
  refine s_lv [1, 0] (lv' := [(0, aR G 86), (1, .int 0)]) rfl ?_
  refine c_M_saves_L2 l G FU _ _
def f_M_putsBack_L2   : Nat → Int32 → Nm → Option (Unit × Nm)
  | 0, _, _ => none
  | f + 1, v1, M => if 176 ≤ v1 then (some ((), M)) else (grd (inb v1 176) <| grd (inb v1 176) <| bl (mI M 87 (ix v1) (M.1 89 (ix v1))) fun M1 => f_M_putsBack_L2 f (v1 + 1) M1)
theorem c_M_putsBack_L2 (l : Launch) (G : Gl)     : ∀ (f : Nat) (v1 : Int32)  (M : Nm), NJ l G Y_X12_putsBack (zR 0 0) eU 2 [(0, aR G 86), (1, .int v1)] [] M (f_M_putsBack_L2 f v1 M) := by
  intro f
  induction f with
  | zero => intro v1 M; exact s_none
  | succ f ih =>
    intro v1 M
    rw [f_M_putsBack_L2]
    refine s_iload_n 1 dX12_putsBack_2 rfl ?_
    refine s_sipush (v := 176) dX12_putsBack_3 (by decide) ?_
    refine s_icmp_ge (tgt := 27) dX12_putsBack_6 (by decide) (fun _ => ?_) (fun _ => ?_)
    · exact n_vret dX12_putsBack_27 rfl
    · refine s_aload_n 0 dX12_putsBack_9 rfl ?_
      refine n_getR (x := 87) dX12_putsBack_10 okf_M_7_11 rfl rfl so_86 (sh_lt so_86 rfl) rfl ?_
      refine s_iload_n 1 dX12_putsBack_13 rfl ?_
      refine s_aload_n 0 dX12_putsBack_14 rfl ?_
      refine n_getR (x := 89) dX12_putsBack_15 okf_M_16_11 rfl rfl so_86 (sh_lt so_86 rfl) rfl ?_
      refine s_iload_n 1 dX12_putsBack_18 rfl ?_
      refine n_ial dX12_putsBack_19 sa_89 ?_
      refine n_ias dX12_putsBack_20 sa_87 ?_
      refine s_topM (fun M1 => ?_)
      refine s_iinc (v := 1) (lv' := [(1, .int (v1 + 1)), (0, aR G 86)]) 1 dX12_putsBack_21 rfl (by decide) rfl rfl ?_
      refine s_goto (tgt := 2) dX12_putsBack_24 (by decide) ?_
      refine s_lv [1, 0] (lv' := [(0, aR G 86), (1, .int (v1 + 1))]) rfl ?_
      exact ih _ _
def f_M_putsBack  (M : Nm) : Option (Unit × Nm) := f_M_putsBack_L2 FU 0 M
theorem c_M_putsBack (l : Launch) (G : Gl)   (M : Nm) : NJ l G Y_X12_putsBack (zR 0 0) eU 0 (lv_args 0 [aR G 86]) [] M (f_M_putsBack  M) := by
  unfold f_M_putsBack
  show NJ l G Y_X12_putsBack (zR 0 0) eU 0 [(0, aR G 86)] [] M _
  refine s_iconst (v := 0) dX12_putsBack_0 (by decide) ?_
  refine s_istore_n (i := 1) (lv' := [(1, .int 0), (0, aR G 86)]) dX12_putsBack_1 rfl rfl rfl ?_
  refine s_lv [1, 0] (lv' := [(0, aR G 86), (1, .int 0)]) rfl ?_
  refine c_M_putsBack_L2 l G FU _ _
def f_M_laysAside_L2   : Nat → Int32 → Nm → Option (Unit × Nm)
  | 0, _, _ => none
  | f + 1, v1, M => if 176 ≤ v1 then (some ((), M)) else (grd (inb v1 176) <| grd (inb v1 176) <| bl (mI M 90 (ix v1) (M.1 87 (ix v1))) fun M1 => f_M_laysAside_L2 f (v1 + 1) M1)
theorem c_M_laysAside_L2 (l : Launch) (G : Gl)     : ∀ (f : Nat) (v1 : Int32)  (M : Nm), NJ l G Y_X12_laysAside (zR 0 0) eU 2 [(0, aR G 86), (1, .int v1)] [] M (f_M_laysAside_L2 f v1 M) := by
  intro f
  induction f with
  | zero => intro v1 M; exact s_none
  | succ f ih =>
    intro v1 M
    rw [f_M_laysAside_L2]
    refine s_iload_n 1 dX12_laysAside_2 rfl ?_
    refine s_sipush (v := 176) dX12_laysAside_3 (by decide) ?_
    refine s_icmp_ge (tgt := 27) dX12_laysAside_6 (by decide) (fun _ => ?_) (fun _ => ?_)
    · exact n_vret dX12_laysAside_27 rfl
    · refine s_aload_n 0 dX12_laysAside_9 rfl ?_
      refine n_getR (x := 90) dX12_laysAside_10 okf_M_19_11 rfl rfl so_86 (sh_lt so_86 rfl) rfl ?_
      refine s_iload_n 1 dX12_laysAside_13 rfl ?_
      refine s_aload_n 0 dX12_laysAside_14 rfl ?_
      refine n_getR (x := 87) dX12_laysAside_15 okf_M_7_11 rfl rfl so_86 (sh_lt so_86 rfl) rfl ?_
      refine s_iload_n 1 dX12_laysAside_18 rfl ?_
      refine n_ial dX12_laysAside_19 sa_87 ?_
      refine n_ias dX12_laysAside_20 sa_90 ?_
      refine s_topM (fun M1 => ?_)
      refine s_iinc (v := 1) (lv' := [(1, .int (v1 + 1)), (0, aR G 86)]) 1 dX12_laysAside_21 rfl (by decide) rfl rfl ?_
      refine s_goto (tgt := 2) dX12_laysAside_24 (by decide) ?_
      refine s_lv [1, 0] (lv' := [(0, aR G 86), (1, .int (v1 + 1))]) rfl ?_
      exact ih _ _
def f_M_laysAside  (M : Nm) : Option (Unit × Nm) := f_M_laysAside_L2 FU 0 M
theorem c_M_laysAside (l : Launch) (G : Gl)   (M : Nm) : NJ l G Y_X12_laysAside (zR 0 0) eU 0 (lv_args 0 [aR G 86]) [] M (f_M_laysAside  M) := by
  unfold f_M_laysAside
  show NJ l G Y_X12_laysAside (zR 0 0) eU 0 [(0, aR G 86)] [] M _
  refine s_iconst (v := 0) dX12_laysAside_0 (by decide) ?_
  refine s_istore_n (i := 1) (lv' := [(1, .int 0), (0, aR G 86)]) dX12_laysAside_1 rfl rfl rfl ?_
  refine s_lv [1, 0] (lv' := [(0, aR G 86), (1, .int 0)]) rfl ?_
  refine c_M_laysAside_L2 l G FU _ _
def f_M_takesBack_L2  (v1 : Int32) : Nat → Int32 → Nm → Option (Int32 × Nm)
  | 0, _, _ => none
  | f + 1, v2, M => if 176 ≤ v2 then (some (v1, M)) else (grd (inb v2 176) <| grd (inb v2 176) <| bl (mI M 87 (ix v2) (M.1 90 (ix v2))) fun M1 => f_M_takesBack_L2 v1 f (v2 + 1) M1)
theorem c_M_takesBack_L2 (l : Launch) (G : Gl)  (v1 : Int32)   : ∀ (f : Nat) (v2 : Int32)  (M : Nm), NJ l G Y_X12_takesBack (zR 0 0) eI 2 [(0, aR G 86), (1, .int v1), (2, .int v2)] [] M (f_M_takesBack_L2 v1 f v2 M) := by
  intro f
  induction f with
  | zero => intro v2 M; exact s_none
  | succ f ih =>
    intro v2 M
    rw [f_M_takesBack_L2]
    refine s_iload_n 2 dX12_takesBack_2 rfl ?_
    refine s_sipush (v := 176) dX12_takesBack_3 (by decide) ?_
    refine s_icmp_ge (tgt := 27) dX12_takesBack_6 (by decide) (fun _ => ?_) (fun _ => ?_)
    · refine s_iload_n 1 dX12_takesBack_27 rfl ?_
      exact n_iret dX12_takesBack_28 rfl
    · refine s_aload_n 0 dX12_takesBack_9 rfl ?_
      refine n_getR (x := 87) dX12_takesBack_10 okf_M_7_11 rfl rfl so_86 (sh_lt so_86 rfl) rfl ?_
      refine s_iload_n 2 dX12_takesBack_13 rfl ?_
      refine s_aload_n 0 dX12_takesBack_14 rfl ?_
      refine n_getR (x := 90) dX12_takesBack_15 okf_M_19_11 rfl rfl so_86 (sh_lt so_86 rfl) rfl ?_
      refine s_iload_n 2 dX12_takesBack_18 rfl ?_
      refine n_ial dX12_takesBack_19 sa_90 ?_
      refine n_ias dX12_takesBack_20 sa_87 ?_
      refine s_topM (fun M1 => ?_)
      refine s_iinc (v := 1) (lv' := [(2, .int (v2 + 1)), (0, aR G 86), (1, .int v1)]) 2 dX12_takesBack_21 rfl (by decide) rfl rfl ?_
      refine s_goto (tgt := 2) dX12_takesBack_24 (by decide) ?_
      refine s_lv [1, 2, 0] (lv' := [(0, aR G 86), (1, .int v1), (2, .int (v2 + 1))]) rfl ?_
      exact ih _ _
def f_M_takesBack (v1 : Int32) (M : Nm) : Option (Int32 × Nm) := f_M_takesBack_L2 v1 FU 0 M
theorem c_M_takesBack (l : Launch) (G : Gl) (v1 : Int32)  (M : Nm) : NJ l G Y_X12_takesBack (zR 0 0) eI 0 (lv_args 0 [aR G 86, .int v1]) [] M (f_M_takesBack v1 M) := by
  unfold f_M_takesBack
  show NJ l G Y_X12_takesBack (zR 0 0) eI 0 [(0, aR G 86), (1, .int v1)] [] M _
  refine s_iconst (v := 0) dX12_takesBack_0 (by decide) ?_
  refine s_istore_n (i := 2) (lv' := [(2, .int 0), (0, aR G 86), (1, .int v1)]) dX12_takesBack_1 rfl rfl rfl ?_
  refine s_lv [1, 2, 0] (lv' := [(0, aR G 86), (1, .int v1), (2, .int 0)]) rfl ?_
  refine c_M_takesBack_L2 l G _ FU _ _
def f_M_becomes (v1 : Int32) (v2 : Int32) (M : Nm) : Option (Int32 × Nm) := grd (inb v1 176) <| grd (inb v1 176) <| bl (mI M 87 (ix v1) v2) fun M1 => some (M.1 87 (ix v1), M1)
theorem c_M_becomes (l : Launch) (G : Gl) (v1 : Int32) (v2 : Int32)  (M : Nm) : NJ l G Y_X12_becomes (zR 0 0) eI 0 (lv_args 0 [aR G 86, .int v1, .int v2]) [] M (f_M_becomes v1 v2 M) := by
  unfold f_M_becomes
  show NJ l G Y_X12_becomes (zR 0 0) eI 0 [(0, aR G 86), (1, .int v1), (2, .int v2)] [] M _
  refine s_aload_n 0 dX12_becomes_0 rfl ?_
  refine n_getR (x := 87) dX12_becomes_1 okf_M_7_11 rfl rfl so_86 (sh_lt so_86 rfl) rfl ?_
  refine s_iload_n 1 dX12_becomes_4 rfl ?_
  refine n_ial dX12_becomes_5 sa_87 ?_
  refine s_istore_n (i := 3) (lv' := [(3, .int (M.1 87 (ix v1))), (0, aR G 86), (1, .int v1), (2, .int v2)]) dX12_becomes_6 rfl rfl rfl ?_
  refine s_aload_n 1 dX12_becomes_7 rfl ?_
  refine n_getR (x := 87) dX12_becomes_8 okf_M_7_11 rfl rfl so_86 (sh_lt so_86 rfl) rfl ?_
  refine s_iload_n 2 dX12_becomes_11 rfl ?_
  refine s_iload_n 3 dX12_becomes_12 rfl ?_
  refine n_ias dX12_becomes_13 sa_87 ?_
  refine s_topM (fun M1 => ?_)
  refine s_iload_n 0 dX12_becomes_14 rfl ?_
  exact n_iret dX12_becomes_15 rfl
def f_M_isCell (v0 : Int32) (M : Nm) : Option (Int32 × Nm) := bnd (f_M_in v0.toInt64 0 47 M) fun r1 M2 => grd (decide (r1 = 0) || decide (r1 = 1)) (some (r1, M2))
theorem c_M_isCell (l : Launch) (G : Gl) (v0 : Int32)  (M : Nm) : NJ l G Y_X12_isCell (zR 1 25) eI 0 (lv_args 0 [.int v0]) [] M (f_M_isCell v0 M) := by
  unfold f_M_isCell
  show NJ l G Y_X12_isCell (zR 1 25) eI 0 [(0, .int v0)] [] M _
  refine s_iload_n 0 dX12_isCell_0 rfl ?_
  refine s_i2l dX12_isCell_1 ?_
  refine s_lconst (v := 0) dX12_isCell_2 (by decide) ?_
  refine s_ldc2 (v := 47) dX12_isCell_3 wt_983 ?_
  refine n_invS_i dX12_isCell_6 ok_X12_in rfl wt_984 wt_985 [.long v0.toInt64, .long 0, .long 47] rfl rfl rfl rfl (c_M_in l G _ _ _ _) (fun r1 M2 => ?_)
  exact n_zretB dX12_isCell_9 rfl
def f_M_isHand (v1 : Int32) (M : Nm) : Option (Int32 × Nm) := grd (inb 0 176) <| bnd (f_M_in v1.toInt64 0 (((M.1 87 (ix 0)) - 1).toInt64) M) fun r1 M2 => grd (decide (r1 = 0) || decide (r1 = 1)) (some (r1, M2))
theorem c_M_isHand (l : Launch) (G : Gl) (v1 : Int32)  (M : Nm) : NJ l G Y_X12_isHand (zR 1 25) eI 0 (lv_args 0 [aR G 86, .int v1]) [] M (f_M_isHand v1 M) := by
  unfold f_M_isHand
  show NJ l G Y_X12_isHand (zR 1 25) eI 0 [(0, aR G 86), (1, .int v1)] [] M _
  refine s_iload_n 1 dX12_isHand_0 rfl ?_
  refine s_i2l dX12_isHand_1 ?_
  refine s_lconst (v := 0) dX12_isHand_2 (by decide) ?_
  refine s_aload_n 0 dX12_isHand_3 rfl ?_
  refine n_getR (x := 87) dX12_isHand_4 okf_M_7_11 rfl rfl so_86 (sh_lt so_86 rfl) rfl ?_
  refine s_iconst (v := 0) dX12_isHand_7 (by decide) ?_
  refine n_ial dX12_isHand_8 sa_87 ?_
  refine s_iconst (v := 1) dX12_isHand_9 (by decide) ?_
  refine s_isub dX12_isHand_10 ?_
  refine s_i2l dX12_isHand_11 ?_
  refine n_invS_i dX12_isHand_12 ok_X12_in rfl wt_984 wt_985 [.long v1.toInt64, .long 0, .long (((M.1 87 (ix 0)) - 1).toInt64)] rfl rfl rfl rfl (c_M_in l G _ _ _ _) (fun r1 M2 => ?_)
  exact n_zretB dX12_isHand_15 rfl
def f_M_isKind (v0 : Int32) (M : Nm) : Option (Int32 × Nm) := bnd (f_M_in v0.toInt64 0 5 M) fun r1 M2 => grd (decide (r1 = 0) || decide (r1 = 1)) (some (r1, M2))
theorem c_M_isKind (l : Launch) (G : Gl) (v0 : Int32)  (M : Nm) : NJ l G Y_X12_isKind (zR 1 25) eI 0 (lv_args 0 [.int v0]) [] M (f_M_isKind v0 M) := by
  unfold f_M_isKind
  show NJ l G Y_X12_isKind (zR 1 25) eI 0 [(0, .int v0)] [] M _
  refine s_iload_n 0 dX12_isKind_0 rfl ?_
  refine s_i2l dX12_isKind_1 ?_
  refine s_lconst (v := 0) dX12_isKind_2 (by decide) ?_
  refine s_ldc2 (v := 5) dX12_isKind_3 wt_1070 ?_
  refine n_invS_i dX12_isKind_6 ok_X12_in rfl wt_984 wt_985 [.long v0.toInt64, .long 0, .long 5] rfl rfl rfl rfl (c_M_in l G _ _ _ _) (fun r1 M2 => ?_)
  exact n_zretB dX12_isKind_9 rfl
def f_M_isWay (v0 : Int32) (M : Nm) : Option (Int32 × Nm) := bnd (f_M_in v0.toInt64 0 3 M) fun r1 M2 => grd (decide (r1 = 0) || decide (r1 = 1)) (some (r1, M2))
theorem c_M_isWay (l : Launch) (G : Gl) (v0 : Int32)  (M : Nm) : NJ l G Y_X12_isWay (zR 1 25) eI 0 (lv_args 0 [.int v0]) [] M (f_M_isWay v0 M) := by
  unfold f_M_isWay
  show NJ l G Y_X12_isWay (zR 1 25) eI 0 [(0, .int v0)] [] M _
  refine s_iload_n 0 dX12_isWay_0 rfl ?_
  refine s_i2l dX12_isWay_1 ?_
  refine s_lconst (v := 0) dX12_isWay_2 (by decide) ?_
  refine s_ldc2 (v := 3) dX12_isWay_3 wt_1000 ?_
  refine n_invS_i dX12_isWay_6 ok_X12_in rfl wt_984 wt_985 [.long v0.toInt64, .long 0, .long 3] rfl rfl rfl rfl (c_M_in l G _ _ _ _) (fun r1 M2 => ?_)
  exact n_zretB dX12_isWay_9 rfl
def f_M_spot (v0 : Int32) (v1 : Int32) (M : Nm) : Option (Int32 × Nm) := some ((50 + (21 * v0)) + v1, M)
theorem c_M_spot (l : Launch) (G : Gl) (v0 : Int32) (v1 : Int32)  (M : Nm) : NJ l G Y_X12_spot (zR 0 0) eI 0 (lv_args 0 [.int v0, .int v1]) [] M (f_M_spot v0 v1 M) := by
  unfold f_M_spot
  show NJ l G Y_X12_spot (zR 0 0) eI 0 [(0, .int v0), (1, .int v1)] [] M _
  refine s_bipush (v := 50) dX12_spot_0 (by decide) ?_
  refine s_bipush (v := 21) dX12_spot_2 (by decide) ?_
  refine s_iload_n 0 dX12_spot_4 rfl ?_
  refine s_imul dX12_spot_5 ?_
  refine s_iadd dX12_spot_6 ?_
  refine s_iload_n 1 dX12_spot_7 rfl ?_
  refine s_iadd dX12_spot_8 ?_
  exact n_iret dX12_spot_9 rfl
def f_M_its (v1 : Int32) (v2 : Int32) (M : Nm) : Option (Int32 × Nm) := bnd (f_M_spot v1 v2 M) fun r1 M2 => grd (inb r1 176) <| some (M2.1 87 (ix r1), M2)
theorem c_M_its (l : Launch) (G : Gl) (v1 : Int32) (v2 : Int32)  (M : Nm) : NJ l G Y_X12_its (zR 1 21) eI 0 (lv_args 0 [aR G 86, .int v1, .int v2]) [] M (f_M_its v1 v2 M) := by
  unfold f_M_its
  show NJ l G Y_X12_its (zR 1 21) eI 0 [(0, aR G 86), (1, .int v1), (2, .int v2)] [] M _
  refine s_aload_n 0 dX12_its_0 rfl ?_
  refine n_getR (x := 87) dX12_its_1 okf_M_7_11 rfl rfl so_86 (sh_lt so_86 rfl) rfl ?_
  refine s_iload_n 1 dX12_its_4 rfl ?_
  refine s_iload_n 2 dX12_its_5 rfl ?_
  refine n_invS_i dX12_its_6 ok_X12_spot rfl wt_1017 wt_1018 [.int v1, .int v2] rfl rfl rfl rfl (c_M_spot l G _ _ _) (fun r1 M2 => ?_)
  refine n_ial dX12_its_9 sa_87 ?_
  exact n_iret dX12_its_10 rfl
def f_M_has (v0 : Int64) (v2 : Int32) (M : Nm) : Option (Int32 × Nm) := if (lg_cmp ((v0 >>> (v2.toInt64 &&& 63)) &&& 1) 1) = 0 then (some (1, M)) else (some (0, M))
theorem c_M_has (l : Launch) (G : Gl) (v0 : Int64) (v2 : Int32)  (M : Nm) : NJ l G Y_X12_has (zR 0 0) eI 0 (lv_args 0 [.long v0, .int v2]) [] M (f_M_has v0 v2 M) := by
  unfold f_M_has
  show NJ l G Y_X12_has (zR 0 0) eI 0 [(0, .long v0), (2, .int v2)] [] M _
  refine s_lload_n 0 dX12_has_0 rfl ?_
  refine s_iload_n 1 dX12_has_1 rfl ?_
  refine s_lshr dX12_has_2 ?_
  refine s_lconst (v := 1) dX12_has_3 (by decide) ?_
  refine s_land dX12_has_4 ?_
  refine s_lconst (v := 1) dX12_has_5 (by decide) ?_
  refine s_lcmp dX12_has_6 ?_
  refine s_if_ne (tgt := 14) dX12_has_7 (by decide) (fun _ => ?_) (fun _ => ?_)
  · refine s_iconst (v := 1) dX12_has_10 (by decide) ?_
    refine s_goto (tgt := 15) dX12_has_11 (by decide) ?_
    exact n_zret1 dX12_has_15 rfl
  · refine s_iconst (v := 0) dX12_has_14 (by decide) ?_
    exact n_zret0 dX12_has_15 rfl
def f_M_ones_L4   : Nat → Int32 → Int64 → Nm → Option (Int32 × Nm)
  | 0, _, _, _ => none
  | f + 1, v2, v3, M => if (lg_cmp v3 0) = 0 then (some (v2, M)) else (f_M_ones_L4 f (v2 + 1) (v3 &&& (v3 - 1)) M)
theorem c_M_ones_L4 (l : Launch) (G : Gl)     : ∀ (f : Nat) (v2 : Int32) (v3 : Int64)  (M : Nm), NJ l G Y_X12_ones (zR 0 0) eI 4 [(2, .int v2), (3, .long v3)] [] M (f_M_ones_L4 f v2 v3 M) := by
  intro f
  induction f with
  | zero => intro v2 v3 M; exact s_none
  | succ f ih =>
    intro v2 v3 M
    rw [f_M_ones_L4]
    refine s_lload_n 1 dX12_ones_4 rfl ?_
    refine s_lconst (v := 0) dX12_ones_5 (by decide) ?_
    refine s_lcmp dX12_ones_6 ?_
    refine s_if_eq (tgt := 22) dX12_ones_7 (by decide) (fun _ => ?_) (fun _ => ?_)
    · refine s_iload_n 0 dX12_ones_22 rfl ?_
      exact n_iret dX12_ones_23 rfl
    · refine s_iinc (v := 1) (lv' := [(2, .int (v2 + 1)), (3, .long v3)]) 0 dX12_ones_10 rfl (by decide) rfl rfl ?_
      refine s_lload_n 1 dX12_ones_13 rfl ?_
      refine s_lload_n 1 dX12_ones_14 rfl ?_
      refine s_lconst (v := 1) dX12_ones_15 (by decide) ?_
      refine s_lsub dX12_ones_16 ?_
      refine s_land dX12_ones_17 ?_
      refine s_lstore_n (i := 3) (lv' := [(3, .long (v3 &&& (v3 - 1))), (2, .int (v2 + 1))]) dX12_ones_18 rfl rfl rfl ?_
      refine s_goto (tgt := 4) dX12_ones_19 (by decide) ?_
      refine s_lv [1, 0] (lv' := [(2, .int (v2 + 1)), (3, .long (v3 &&& (v3 - 1)))]) rfl ?_
      exact ih _ _ _
def f_M_ones (v0 : Int64) (M : Nm) : Option (Int32 × Nm) := f_M_ones_L4 FU 0 v0 M
theorem c_M_ones (l : Launch) (G : Gl) (v0 : Int64)  (M : Nm) : NJ l G Y_X12_ones (zR 0 0) eI 0 (lv_args 0 [.long v0]) [] M (f_M_ones v0 M) := by
  unfold f_M_ones
  show NJ l G Y_X12_ones (zR 0 0) eI 0 [(0, .long v0)] [] M _
  refine s_iconst (v := 0) dX12_ones_0 (by decide) ?_
  refine s_istore_n (i := 2) (lv' := [(2, .int 0), (0, .long v0)]) dX12_ones_1 rfl rfl rfl ?_
  refine s_lload_n 1 dX12_ones_2 rfl ?_
  refine s_lstore_n (i := 3) (lv' := [(3, .long v0), (2, .int 0), (0, .long v0)]) dX12_ones_3 rfl rfl rfl ?_
  refine s_lv [1, 0] (lv' := [(2, .int 0), (3, .long v0)]) rfl ?_
  refine c_M_ones_L4 l G FU _ _ _
def f_M_stepsOf_B22  (v1 : Int32) (v2 : Int32) (v3 : Int32) (s0 : Int32) (M : Nm) : Option (Int32 × Nm) := bnd (f_M_its v1 0 M) fun r3 M4 => if r3 = 1 then (some (s0, M4)) else if r3 = 2 then (some (v3 + 1, M4)) else if r3 = 3 then (if 1 ≤ (v3 - (v2 - v2 / 2 * 2)) then (some (v3 - (v2 - v2 / 2 * 2), M4)) else (some (1, M4))) else if r3 = 4 then (if v2 = 0 then (some (s0 + 1, M4)) else (some (s0, M4))) else if r3 = 5 then (some (v3 + 1, M4)) else (some (v3, M4))
theorem c_M_stepsOf_B22 (l : Launch) (G : Gl)  (v1 : Int32) (v2 : Int32) (v3 : Int32) (s0 : Int32)   (M : Nm) : NJ l G Y_X12_stepsOf (zR 2 43) eI 22 [(0, aR G 86), (1, .int v1), (2, .int v2), (3, .int v3)] [.int s0] M (f_M_stepsOf_B22 v1 v2 v3 s0 M) := by
  unfold f_M_stepsOf_B22
  refine s_istore (lv' := [(4, .int s0), (0, aR G 86), (1, .int v1), (2, .int v2), (3, .int v3)]) dX12_stepsOf_22 rfl rfl ?_
  refine s_aload_n 1 dX12_stepsOf_24 rfl ?_
  refine s_iload_n 2 dX12_stepsOf_25 rfl ?_
  refine s_iconst (v := 0) dX12_stepsOf_26 (by decide) ?_
  refine n_invV_i dX12_stepsOf_27 ok_X12_its rfl wt_1013 wt_1015 ws_26 (ci := 11) rfl rfl so_86 (sh_lt so_86 rfl) [.int v1, .int 0] rfl rfl rfl rfl (c_M_its l G _ _ _) (fun r3 M4 => ?_)
  refine s_ite (fun h5 => ?_) (fun h5 => ?_)
  · refine s_tin (tgt := 64) dX12_stepsOf_30 (by rw [h5]; decide) (by rw [h5]; decide) (by rw [h5]; rfl) (by decide) ?_
    refine s_iload 0 dX12_stepsOf_64 rfl ?_
    exact n_iret dX12_stepsOf_66 rfl
  refine s_ite (fun h6 => ?_) (fun h6 => ?_)
  · refine s_tin (tgt := 67) dX12_stepsOf_30 (by rw [h6]; decide) (by rw [h6]; decide) (by rw [h6]; rfl) (by decide) ?_
    refine s_iload_n 4 dX12_stepsOf_67 rfl ?_
    refine s_iconst (v := 1) dX12_stepsOf_68 (by decide) ?_
    refine s_iadd dX12_stepsOf_69 ?_
    exact n_iret dX12_stepsOf_70 rfl
  refine s_ite (fun h7 => ?_) (fun h7 => ?_)
  · refine s_tin (tgt := 71) dX12_stepsOf_30 (by rw [h7]; decide) (by rw [h7]; decide) (by rw [h7]; rfl) (by decide) ?_
    refine s_iload_n 4 dX12_stepsOf_71 rfl ?_
    refine s_iload_n 3 dX12_stepsOf_72 rfl ?_
    refine s_iconst (v := 2) dX12_stepsOf_73 (by decide) ?_
    refine s_irem dX12_stepsOf_74 (by decide) ?_
    refine s_isub dX12_stepsOf_75 ?_
    refine s_iconst (v := 1) dX12_stepsOf_76 (by decide) ?_
    refine s_icmp_ge (tgt := 84) dX12_stepsOf_77 (by decide) (fun _ => ?_) (fun _ => ?_)
    · refine s_iload_n 4 dX12_stepsOf_84 rfl ?_
      refine s_iload_n 3 dX12_stepsOf_85 rfl ?_
      refine s_iconst (v := 2) dX12_stepsOf_86 (by decide) ?_
      refine s_irem dX12_stepsOf_87 (by decide) ?_
      refine s_isub dX12_stepsOf_88 ?_
      exact n_iret dX12_stepsOf_89 rfl
    · refine s_iconst (v := 1) dX12_stepsOf_80 (by decide) ?_
      refine s_goto (tgt := 89) dX12_stepsOf_81 (by decide) ?_
      exact n_iret dX12_stepsOf_89 rfl
  refine s_ite (fun h8 => ?_) (fun h8 => ?_)
  · refine s_tin (tgt := 90) dX12_stepsOf_30 (by rw [h8]; decide) (by rw [h8]; decide) (by rw [h8]; rfl) (by decide) ?_
    refine s_iload_n 3 dX12_stepsOf_90 rfl ?_
    refine s_if_ne (tgt := 101) dX12_stepsOf_91 (by decide) (fun _ => ?_) (fun _ => ?_)
    · refine s_iload 0 dX12_stepsOf_94 rfl ?_
      refine s_iconst (v := 1) dX12_stepsOf_96 (by decide) ?_
      refine s_iadd dX12_stepsOf_97 ?_
      refine s_goto (tgt := 103) dX12_stepsOf_98 (by decide) ?_
      exact n_iret dX12_stepsOf_103 rfl
    · refine s_iload 0 dX12_stepsOf_101 rfl ?_
      exact n_iret dX12_stepsOf_103 rfl
  refine s_ite (fun h9 => ?_) (fun h9 => ?_)
  · refine s_tin (tgt := 67) dX12_stepsOf_30 (by rw [h9]; decide) (by rw [h9]; decide) (by rw [h9]; rfl) (by decide) ?_
    refine s_iload_n 4 dX12_stepsOf_67 rfl ?_
    refine s_iconst (v := 1) dX12_stepsOf_68 (by decide) ?_
    refine s_iadd dX12_stepsOf_69 ?_
    exact n_iret dX12_stepsOf_70 rfl
  refine s_tout (tgt := 104) dX12_stepsOf_30 (sw_out (fun k h1 h2 => by rcases (show k = 1 ∨ k = 2 ∨ k = 3 ∨ k = 4 ∨ k = 5 by omega) with rfl | rfl | rfl | rfl | rfl <;> assumption)) (by decide) ?_
  refine s_iload_n 4 dX12_stepsOf_104 rfl ?_
  exact n_iret dX12_stepsOf_105 rfl
def f_M_stepsOf (v1 : Int32) (v2 : Int32) (M : Nm) : Option (Int32 × Nm) := bnd (f_M_its v1 (13 + v2) M) fun r1 M2 => if 2 ≤ r1 then (f_M_stepsOf_B22 v1 v2 r1 (r1 / 2) M2) else (f_M_stepsOf_B22 v1 v2 r1 1 M2)
theorem c_M_stepsOf (l : Launch) (G : Gl) (v1 : Int32) (v2 : Int32)  (M : Nm) : NJ l G Y_X12_stepsOf (zR 2 43) eI 0 (lv_args 0 [aR G 86, .int v1, .int v2]) [] M (f_M_stepsOf v1 v2 M) := by
  unfold f_M_stepsOf
  show NJ l G Y_X12_stepsOf (zR 2 43) eI 0 [(0, aR G 86), (1, .int v1), (2, .int v2)] [] M _
  refine s_aload_n 0 dX12_stepsOf_0 rfl ?_
  refine s_iload_n 1 dX12_stepsOf_1 rfl ?_
  refine s_bipush (v := 13) dX12_stepsOf_2 (by decide) ?_
  refine s_iload_n 2 dX12_stepsOf_4 rfl ?_
  refine s_iadd dX12_stepsOf_5 ?_
  refine n_invV_i dX12_stepsOf_6 ok_X12_its rfl wt_1013 wt_1015 ws_26 (ci := 11) rfl rfl so_86 (sh_lt so_86 rfl) [.int v1, .int (13 + v2)] rfl rfl rfl rfl (c_M_its l G _ _ _) (fun r1 M2 => ?_)
  refine s_istore_n (i := 3) (lv' := [(3, .int r1), (0, aR G 86), (1, .int v1), (2, .int v2)]) dX12_stepsOf_9 rfl rfl rfl ?_
  refine s_iload_n 0 dX12_stepsOf_10 rfl ?_
  refine s_iconst (v := 2) dX12_stepsOf_11 (by decide) ?_
  refine s_icmp_ge (tgt := 19) dX12_stepsOf_12 (by decide) (fun _ => ?_) (fun _ => ?_)
  · refine s_iload_n 0 dX12_stepsOf_19 rfl ?_
    refine s_iconst (v := 2) dX12_stepsOf_20 (by decide) ?_
    refine s_idiv dX12_stepsOf_21 (by decide) ?_
    refine s_lv [1, 2, 3, 0] (lv' := [(0, aR G 86), (1, .int v1), (2, .int v2), (3, .int r1)]) rfl ?_
    exact c_M_stepsOf_B22 l G _ _ _ _ _
  · refine s_iconst (v := 1) dX12_stepsOf_15 (by decide) ?_
    refine s_goto (tgt := 22) dX12_stepsOf_16 (by decide) ?_
    refine s_lv [1, 2, 3, 0] (lv' := [(0, aR G 86), (1, .int v1), (2, .int v2), (3, .int r1)]) rfl ?_
    exact c_M_stepsOf_B22 l G _ _ _ _ _
def f_M_turned (v1 : Int32) (v2 : Int32) (M : Nm) : Option (Int32 × Nm) := bnd (f_M_its v1 (5 + v2) M) fun r1 M2 => bnd (f_M_its v1 0 M2) fun r3 M4 => if r3 = 5 then (if (r1 - r1 / 2 * 2) = 1 then (some (4 - r1, M4)) else (some (r1, M4))) else (some (r1, M4))
theorem c_M_turned (l : Launch) (G : Gl) (v1 : Int32) (v2 : Int32)  (M : Nm) : NJ l G Y_X12_turned (zR 2 43) eI 0 (lv_args 0 [aR G 86, .int v1, .int v2]) [] M (f_M_turned v1 v2 M) := by
  unfold f_M_turned
  show NJ l G Y_X12_turned (zR 2 43) eI 0 [(0, aR G 86), (1, .int v1), (2, .int v2)] [] M _
  refine s_aload_n 0 dX12_turned_0 rfl ?_
  refine s_iload_n 1 dX12_turned_1 rfl ?_
  refine s_iconst (v := 5) dX12_turned_2 (by decide) ?_
  refine s_iload_n 2 dX12_turned_3 rfl ?_
  refine s_iadd dX12_turned_4 ?_
  refine n_invV_i dX12_turned_5 ok_X12_its rfl wt_1013 wt_1015 ws_26 (ci := 11) rfl rfl so_86 (sh_lt so_86 rfl) [.int v1, .int (5 + v2)] rfl rfl rfl rfl (c_M_its l G _ _ _) (fun r1 M2 => ?_)
  refine s_istore_n (i := 3) (lv' := [(3, .int r1), (0, aR G 86), (1, .int v1), (2, .int v2)]) dX12_turned_8 rfl rfl rfl ?_
  refine s_aload_n 1 dX12_turned_9 rfl ?_
  refine s_iload_n 2 dX12_turned_10 rfl ?_
  refine s_iconst (v := 0) dX12_turned_11 (by decide) ?_
  refine n_invV_i dX12_turned_12 ok_X12_its rfl wt_1013 wt_1015 ws_26 (ci := 11) rfl rfl so_86 (sh_lt so_86 rfl) [.int v1, .int 0] rfl rfl rfl rfl (c_M_its l G _ _ _) (fun r3 M4 => ?_)
  refine s_iconst (v := 5) dX12_turned_15 (by decide) ?_
  refine s_icmp_ne (tgt := 32) dX12_turned_16 (by decide) (fun _ => ?_) (fun _ => ?_)
  · refine s_iload_n 0 dX12_turned_19 rfl ?_
    refine s_iconst (v := 2) dX12_turned_20 (by decide) ?_
    refine s_irem dX12_turned_21 (by decide) ?_
    refine s_iconst (v := 1) dX12_turned_22 (by decide) ?_
    refine s_icmp_ne (tgt := 32) dX12_turned_23 (by decide) (fun _ => ?_) (fun _ => ?_)
    · refine s_iconst (v := 4) dX12_turned_26 (by decide) ?_
      refine s_iload_n 0 dX12_turned_27 rfl ?_
      refine s_isub dX12_turned_28 ?_
      refine s_goto (tgt := 33) dX12_turned_29 (by decide) ?_
      exact n_iret dX12_turned_33 rfl
    · refine s_iload_n 0 dX12_turned_32 rfl ?_
      exact n_iret dX12_turned_33 rfl
  · refine s_iload_n 0 dX12_turned_32 rfl ?_
    exact n_iret dX12_turned_33 rfl
def f_M_cropOf (v1 : Int32) (M : Nm) : Option (Int32 × Nm) := bnd (f_M_its v1 0 M) fun r1 M2 => if r1 = 1 then (some (4, M2)) else if r1 = 2 then (some (2, M2)) else if r1 = 3 then (some (3, M2)) else if r1 = 4 then (some (3, M2)) else if r1 = 5 then (some (1, M2)) else (some (2, M2))
theorem c_M_cropOf (l : Launch) (G : Gl) (v1 : Int32)  (M : Nm) : NJ l G Y_X12_cropOf (zR 2 43) eI 0 (lv_args 0 [aR G 86, .int v1]) [] M (f_M_cropOf v1 M) := by
  unfold f_M_cropOf
  show NJ l G Y_X12_cropOf (zR 2 43) eI 0 [(0, aR G 86), (1, .int v1)] [] M _
  refine s_aload_n 0 dX12_cropOf_0 rfl ?_
  refine s_iload_n 1 dX12_cropOf_1 rfl ?_
  refine s_iconst (v := 0) dX12_cropOf_2 (by decide) ?_
  refine n_invV_i dX12_cropOf_3 ok_X12_its rfl wt_1013 wt_1015 ws_26 (ci := 11) rfl rfl so_86 (sh_lt so_86 rfl) [.int v1, .int 0] rfl rfl rfl rfl (c_M_its l G _ _ _) (fun r1 M2 => ?_)
  refine s_ite (fun h3 => ?_) (fun h3 => ?_)
  · refine s_tin (tgt := 40) dX12_cropOf_6 (by rw [h3]; decide) (by rw [h3]; decide) (by rw [h3]; rfl) (by decide) ?_
    refine s_iconst (v := 4) dX12_cropOf_40 (by decide) ?_
    exact n_iret dX12_cropOf_41 rfl
  refine s_ite (fun h4 => ?_) (fun h4 => ?_)
  · refine s_tin (tgt := 46) dX12_cropOf_6 (by rw [h4]; decide) (by rw [h4]; decide) (by rw [h4]; rfl) (by decide) ?_
    refine s_iconst (v := 2) dX12_cropOf_46 (by decide) ?_
    exact n_iret dX12_cropOf_47 rfl
  refine s_ite (fun h5 => ?_) (fun h5 => ?_)
  · refine s_tin (tgt := 42) dX12_cropOf_6 (by rw [h5]; decide) (by rw [h5]; decide) (by rw [h5]; rfl) (by decide) ?_
    refine s_iconst (v := 3) dX12_cropOf_42 (by decide) ?_
    exact n_iret dX12_cropOf_43 rfl
  refine s_ite (fun h6 => ?_) (fun h6 => ?_)
  · refine s_tin (tgt := 42) dX12_cropOf_6 (by rw [h6]; decide) (by rw [h6]; decide) (by rw [h6]; rfl) (by decide) ?_
    refine s_iconst (v := 3) dX12_cropOf_42 (by decide) ?_
    exact n_iret dX12_cropOf_43 rfl
  refine s_ite (fun h7 => ?_) (fun h7 => ?_)
  · refine s_tin (tgt := 44) dX12_cropOf_6 (by rw [h7]; decide) (by rw [h7]; decide) (by rw [h7]; rfl) (by decide) ?_
    refine s_iconst (v := 1) dX12_cropOf_44 (by decide) ?_
    exact n_iret dX12_cropOf_45 rfl
  refine s_tout (tgt := 46) dX12_cropOf_6 (sw_out (fun k h1 h2 => by rcases (show k = 1 ∨ k = 2 ∨ k = 3 ∨ k = 4 ∨ k = 5 by omega) with rfl | rfl | rfl | rfl | rfl <;> assumption)) (by decide) ?_
  refine s_iconst (v := 2) dX12_cropOf_46 (by decide) ?_
  exact n_iret dX12_cropOf_47 rfl
def f_M_beside (v0 : Int32) (v1 : Int32) (M : Nm) : Option (Int32 × Nm) := if v1 = 0 then (if (v0 / 8) = 0 then (some ((-1), M)) else (some (v0 - 8, M))) else if v1 = 1 then (if (v0 - v0 / 8 * 8) = 7 then (some ((-1), M)) else (some (v0 + 1, M))) else if v1 = 2 then (if (v0 / 8) = 5 then (some ((-1), M)) else (some (v0 + 8, M))) else (if (v0 - v0 / 8 * 8) = 0 then (some ((-1), M)) else (some (v0 - 1, M)))
theorem c_M_beside (l : Launch) (G : Gl) (v0 : Int32) (v1 : Int32)  (M : Nm) : NJ l G Y_X12_beside (zR 0 0) eI 0 (lv_args 0 [.int v0, .int v1]) [] M (f_M_beside v0 v1 M) := by
  unfold f_M_beside
  show NJ l G Y_X12_beside (zR 0 0) eI 0 [(0, .int v0), (1, .int v1)] [] M _
  refine s_iload_n 0 dX12_beside_0 rfl ?_
  refine s_bipush (v := 8) dX12_beside_1 (by decide) ?_
  refine s_idiv dX12_beside_3 (by decide) ?_
  refine s_istore_n (i := 2) (lv' := [(2, .int (v0 / 8)), (0, .int v0), (1, .int v1)]) dX12_beside_4 rfl rfl rfl ?_
  refine s_iload_n 1 dX12_beside_5 rfl ?_
  refine s_bipush (v := 8) dX12_beside_6 (by decide) ?_
  refine s_irem dX12_beside_8 (by decide) ?_
  refine s_istore_n (i := 3) (lv' := [(3, .int (v0 - v0 / 8 * 8)), (2, .int (v0 / 8)), (0, .int v0), (1, .int v1)]) dX12_beside_9 rfl rfl rfl ?_
  refine s_iload_n 3 dX12_beside_10 rfl ?_
  refine s_ite (fun h1 => ?_) (fun h1 => ?_)
  · refine s_tin (tgt := 36) dX12_beside_11 (by rw [h1]; decide) (by rw [h1]; decide) (by rw [h1]; rfl) (by decide) ?_
    refine s_iload_n 1 dX12_beside_36 rfl ?_
    refine s_if_ne (tgt := 44) dX12_beside_37 (by decide) (fun _ => ?_) (fun _ => ?_)
    · refine s_iconst (v := (-1)) dX12_beside_40 (by decide) ?_
      refine s_goto (tgt := 48) dX12_beside_41 (by decide) ?_
      exact n_iret dX12_beside_48 rfl
    · refine s_iload_n 2 dX12_beside_44 rfl ?_
      refine s_bipush (v := 8) dX12_beside_45 (by decide) ?_
      refine s_isub dX12_beside_47 ?_
      exact n_iret dX12_beside_48 rfl
  refine s_ite (fun h2 => ?_) (fun h2 => ?_)
  · refine s_tin (tgt := 49) dX12_beside_11 (by rw [h2]; decide) (by rw [h2]; decide) (by rw [h2]; rfl) (by decide) ?_
    refine s_iload_n 0 dX12_beside_49 rfl ?_
    refine s_bipush (v := 7) dX12_beside_50 (by decide) ?_
    refine s_icmp_ne (tgt := 59) dX12_beside_52 (by decide) (fun _ => ?_) (fun _ => ?_)
    · refine s_iconst (v := (-1)) dX12_beside_55 (by decide) ?_
      refine s_goto (tgt := 62) dX12_beside_56 (by decide) ?_
      exact n_iret dX12_beside_62 rfl
    · refine s_iload_n 2 dX12_beside_59 rfl ?_
      refine s_iconst (v := 1) dX12_beside_60 (by decide) ?_
      refine s_iadd dX12_beside_61 ?_
      exact n_iret dX12_beside_62 rfl
  refine s_ite (fun h3 => ?_) (fun h3 => ?_)
  · refine s_tin (tgt := 63) dX12_beside_11 (by rw [h3]; decide) (by rw [h3]; decide) (by rw [h3]; rfl) (by decide) ?_
    refine s_iload_n 1 dX12_beside_63 rfl ?_
    refine s_iconst (v := 5) dX12_beside_64 (by decide) ?_
    refine s_icmp_ne (tgt := 72) dX12_beside_65 (by decide) (fun _ => ?_) (fun _ => ?_)
    · refine s_iconst (v := (-1)) dX12_beside_68 (by decide) ?_
      refine s_goto (tgt := 76) dX12_beside_69 (by decide) ?_
      exact n_iret dX12_beside_76 rfl
    · refine s_iload_n 2 dX12_beside_72 rfl ?_
      refine s_bipush (v := 8) dX12_beside_73 (by decide) ?_
      refine s_iadd dX12_beside_75 ?_
      exact n_iret dX12_beside_76 rfl
  refine s_tout (tgt := 77) dX12_beside_11 (sw_out (fun k h1 h2 => by rcases (show k = 0 ∨ k = 1 ∨ k = 2 by omega) with rfl | rfl | rfl <;> assumption)) (by decide) ?_
  refine s_iload_n 0 dX12_beside_77 rfl ?_
  refine s_if_ne (tgt := 85) dX12_beside_78 (by decide) (fun _ => ?_) (fun _ => ?_)
  · refine s_iconst (v := (-1)) dX12_beside_81 (by decide) ?_
    refine s_goto (tgt := 88) dX12_beside_82 (by decide) ?_
    exact n_iret dX12_beside_88 rfl
  · refine s_iload_n 2 dX12_beside_85 rfl ?_
    refine s_iconst (v := 1) dX12_beside_86 (by decide) ?_
    refine s_isub dX12_beside_87 ?_
    exact n_iret dX12_beside_88 rfl
def f_M_isEdge (v0 : Int32) (M : Nm) : Option (Int32 × Nm) := if (v0 / 8) = 0 then (some (1, M)) else (if (v0 / 8) = 5 then (some (1, M)) else (if (v0 - v0 / 8 * 8) = 0 then (some (1, M)) else (if (v0 - v0 / 8 * 8) = 7 then (some (1, M)) else (some (0, M)))))
theorem c_M_isEdge (l : Launch) (G : Gl) (v0 : Int32)  (M : Nm) : NJ l G Y_X12_isEdge (zR 0 0) eI 0 (lv_args 0 [.int v0]) [] M (f_M_isEdge v0 M) := by
  unfold f_M_isEdge
  show NJ l G Y_X12_isEdge (zR 0 0) eI 0 [(0, .int v0)] [] M _
  refine s_iload_n 0 dX12_isEdge_0 rfl ?_
  refine s_bipush (v := 8) dX12_isEdge_1 (by decide) ?_
  refine s_idiv dX12_isEdge_3 (by decide) ?_
  refine s_istore_n (i := 1) (lv' := [(1, .int (v0 / 8)), (0, .int v0)]) dX12_isEdge_4 rfl rfl rfl ?_
  refine s_iload_n 1 dX12_isEdge_5 rfl ?_
  refine s_bipush (v := 8) dX12_isEdge_6 (by decide) ?_
  refine s_irem dX12_isEdge_8 (by decide) ?_
  refine s_istore_n (i := 2) (lv' := [(2, .int (v0 - v0 / 8 * 8)), (1, .int (v0 / 8)), (0, .int v0)]) dX12_isEdge_9 rfl rfl rfl ?_
  refine s_iload_n 1 dX12_isEdge_10 rfl ?_
  refine s_if_eq (tgt := 29) dX12_isEdge_11 (by decide) (fun _ => ?_) (fun _ => ?_)
  · refine s_iconst (v := 1) dX12_isEdge_29 (by decide) ?_
    refine s_goto (tgt := 34) dX12_isEdge_30 (by decide) ?_
    exact n_zret1 dX12_isEdge_34 rfl
  · refine s_iload_n 1 dX12_isEdge_14 rfl ?_
    refine s_iconst (v := 5) dX12_isEdge_15 (by decide) ?_
    refine s_icmp_eq (tgt := 29) dX12_isEdge_16 (by decide) (fun _ => ?_) (fun _ => ?_)
    · refine s_iconst (v := 1) dX12_isEdge_29 (by decide) ?_
      refine s_goto (tgt := 34) dX12_isEdge_30 (by decide) ?_
      exact n_zret1 dX12_isEdge_34 rfl
    · refine s_iload_n 0 dX12_isEdge_19 rfl ?_
      refine s_if_eq (tgt := 29) dX12_isEdge_20 (by decide) (fun _ => ?_) (fun _ => ?_)
      · refine s_iconst (v := 1) dX12_isEdge_29 (by decide) ?_
        refine s_goto (tgt := 34) dX12_isEdge_30 (by decide) ?_
        exact n_zret1 dX12_isEdge_34 rfl
      · refine s_iload_n 0 dX12_isEdge_23 rfl ?_
        refine s_bipush (v := 7) dX12_isEdge_24 (by decide) ?_
        refine s_icmp_ne (tgt := 33) dX12_isEdge_26 (by decide) (fun _ => ?_) (fun _ => ?_)
        · refine s_iconst (v := 1) dX12_isEdge_29 (by decide) ?_
          refine s_goto (tgt := 34) dX12_isEdge_30 (by decide) ?_
          exact n_zret1 dX12_isEdge_34 rfl
        · refine s_iconst (v := 0) dX12_isEdge_33 (by decide) ?_
          exact n_zret0 dX12_isEdge_34 rfl
def f_M_smudges_L4   : Nat → Int64 → Int32 → Nm → Option (Int64 × Nm)
  | 0, _, _, _ => none
  | f + 1, v1, v3, M => if 48 ≤ v3 then (some (v1, M)) else (grd (inb (2 + v3) 176) <| if (M.1 87 (ix (2 + v3))) = 1 then (bl (v1 ||| (1 <<< (v3.toInt64 &&& 63))) fun x1 => f_M_smudges_L4 f x1 (v3 + 1) M) else (f_M_smudges_L4 f (v1 ||| 0) (v3 + 1) M))
theorem c_M_smudges_L4 (l : Launch) (G : Gl)     : ∀ (f : Nat) (v1 : Int64) (v3 : Int32)  (M : Nm), NJ l G Y_X12_smudges (zR 0 0) eL 4 [(0, aR G 86), (1, .long v1), (3, .int v3)] [] M (f_M_smudges_L4 f v1 v3 M) := by
  intro f
  induction f with
  | zero => intro v1 v3 M; exact s_none
  | succ f ih =>
    intro v1 v3 M
    rw [f_M_smudges_L4]
    refine s_iload_n 2 dX12_smudges_4 rfl ?_
    refine s_bipush (v := 48) dX12_smudges_5 (by decide) ?_
    refine s_icmp_ge (tgt := 38) dX12_smudges_7 (by decide) (fun _ => ?_) (fun _ => ?_)
    · refine s_lload_n 1 dX12_smudges_38 rfl ?_
      exact n_lret dX12_smudges_39 rfl
    · refine s_lload_n 1 dX12_smudges_10 rfl ?_
      refine s_aload_n 0 dX12_smudges_11 rfl ?_
      refine n_getR (x := 87) dX12_smudges_12 okf_M_7_11 rfl rfl so_86 (sh_lt so_86 rfl) rfl ?_
      refine s_iconst (v := 2) dX12_smudges_15 (by decide) ?_
      refine s_iload_n 2 dX12_smudges_16 rfl ?_
      refine s_iadd dX12_smudges_17 ?_
      refine n_ial dX12_smudges_18 sa_87 ?_
      refine s_iconst (v := 1) dX12_smudges_19 (by decide) ?_
      refine s_icmp_ne (tgt := 29) dX12_smudges_20 (by decide) (fun _ => ?_) (fun _ => ?_)
      · refine s_lconst (v := 1) dX12_smudges_23 (by decide) ?_
        refine s_iload_n 2 dX12_smudges_24 rfl ?_
        refine s_lshl dX12_smudges_25 ?_
        refine s_goto (tgt := 30) dX12_smudges_26 (by decide) ?_
        refine s_lor dX12_smudges_30 ?_
        refine s_topl (fun x1 => ?_)
        refine s_lstore_n (i := 1) (lv' := [(1, .long x1), (0, aR G 86), (3, .int v3)]) dX12_smudges_31 rfl rfl rfl ?_
        refine s_iinc (v := 1) (lv' := [(3, .int (v3 + 1)), (1, .long x1), (0, aR G 86)]) 2 dX12_smudges_32 rfl (by decide) rfl rfl ?_
        refine s_goto (tgt := 4) dX12_smudges_35 (by decide) ?_
        refine s_lv [2, 1, 0] (lv' := [(0, aR G 86), (1, .long x1), (3, .int (v3 + 1))]) rfl ?_
        exact ih _ _ _
      · refine s_lconst (v := 0) dX12_smudges_29 (by decide) ?_
        refine s_lor dX12_smudges_30 ?_
        refine s_lstore_n (i := 1) (lv' := [(1, .long (v1 ||| 0)), (0, aR G 86), (3, .int v3)]) dX12_smudges_31 rfl rfl rfl ?_
        refine s_iinc (v := 1) (lv' := [(3, .int (v3 + 1)), (1, .long (v1 ||| 0)), (0, aR G 86)]) 2 dX12_smudges_32 rfl (by decide) rfl rfl ?_
        refine s_goto (tgt := 4) dX12_smudges_35 (by decide) ?_
        refine s_lv [2, 1, 0] (lv' := [(0, aR G 86), (1, .long (v1 ||| 0)), (3, .int (v3 + 1))]) rfl ?_
        exact ih _ _ _
def f_M_smudges  (M : Nm) : Option (Int64 × Nm) := f_M_smudges_L4 FU 0 0 M
theorem c_M_smudges (l : Launch) (G : Gl)   (M : Nm) : NJ l G Y_X12_smudges (zR 0 0) eL 0 (lv_args 0 [aR G 86]) [] M (f_M_smudges  M) := by
  unfold f_M_smudges
  show NJ l G Y_X12_smudges (zR 0 0) eL 0 [(0, aR G 86)] [] M _
  refine s_lconst (v := 0) dX12_smudges_0 (by decide) ?_
  refine s_lstore_n (i := 1) (lv' := [(1, .long 0), (0, aR G 86)]) dX12_smudges_1 rfl rfl rfl ?_
  refine s_iconst (v := 0) dX12_smudges_2 (by decide) ?_
  refine s_istore_n (i := 3) (lv' := [(3, .int 0), (1, .long 0), (0, aR G 86)]) dX12_smudges_3 rfl rfl rfl ?_
  refine s_lv [2, 1, 0] (lv' := [(0, aR G 86), (1, .long 0), (3, .int 0)]) rfl ?_
  refine c_M_smudges_L4 l G FU _ _ _
def f_M_draws_L49 (k90 : Int32 → Int64 → Int32 → Nm → Option (Unit × Nm)) (v1 : Int32) (v2 : Int64) (v8 : Int32) (v9 : Int32) : Nat → Int32 → Int64 → Int32 → Int32 → Nm → Option (Unit × Nm)
  | 0, _, _, _, _, _ => none
  | f + 1, v4, v5, v7, v10, M => if v10 ≤ 0 then (k90 v4 v5 v7 M) else (bnd (f_M_beside v4 v9 M) fun r9 M10 => if r9 < 0 then (f_M_draws_L49 k90 v1 v2 v8 v9 f v4 v5 v7 (v10 + (-1)) M10) else (bl (v5 ||| (1 <<< (r9.toInt64 &&& 63))) fun x11 => f_M_draws_L49 k90 v1 v2 v8 v9 f r9 x11 (v7 + 1) (v10 + (-1)) M10))
theorem c_M_draws_L49 (l : Launch) (G : Gl) {k90 : Int32 → Int64 → Int32 → Nm → Option (Unit × Nm)} (v1 : Int32) (v2 : Int64) (v8 : Int32) (v9 : Int32)  (hk90 : ∀ (v4 : Int32) (v5 : Int64) (v7 : Int32)  (M : Nm), NJ l G Y_X12_draws (zR 3 67) eU 90 [(0, aR G 86), (1, .int v1), (2, .long v2), (4, .int v4), (5, .long v5), (7, .int v7), (8, .int v8)] [] M (k90 v4 v5 v7 M)) : ∀ (f : Nat) (v4 : Int32) (v5 : Int64) (v7 : Int32) (v10 : Int32)  (M : Nm), NJ l G Y_X12_draws (zR 3 67) eU 49 [(0, aR G 86), (1, .int v1), (2, .long v2), (4, .int v4), (5, .long v5), (7, .int v7), (8, .int v8), (9, .int v9), (10, .int v10)] [] M (f_M_draws_L49 k90 v1 v2 v8 v9 f v4 v5 v7 v10 M) := by
  intro f
  induction f with
  | zero => intro v4 v5 v7 v10 M; exact s_none
  | succ f ih =>
    intro v4 v5 v7 v10 M
    rw [f_M_draws_L49]
    refine s_iload 8 dX12_draws_49 rfl ?_
    refine s_if_le (tgt := 90) dX12_draws_51 (by decide) (fun _ => ?_) (fun _ => ?_)
    · refine s_lv [0, 1, 2, 3, 4, 5, 6] (lv' := [(0, aR G 86), (1, .int v1), (2, .long v2), (4, .int v4), (5, .long v5), (7, .int v7), (8, .int v8)]) rfl ?_
      exact hk90 _ _ _ _
    · refine s_iload 3 dX12_draws_54 rfl ?_
      refine s_iload 7 dX12_draws_56 rfl ?_
      refine n_invS_i dX12_draws_58 ok_X12_beside rfl wt_1028 wt_1029 [.int v4, .int v9] rfl rfl rfl rfl (c_M_beside l G _ _ _) (fun r9 M10 => ?_)
      refine s_istore (lv' := [(11, .int r9), (0, aR G 86), (1, .int v1), (2, .long v2), (4, .int v4), (5, .long v5), (7, .int v7), (8, .int v8), (9, .int v9), (10, .int v10)]) dX12_draws_61 rfl rfl ?_
      refine s_iload 0 dX12_draws_63 rfl ?_
      refine s_if_lt (tgt := 84) dX12_draws_65 (by decide) (fun _ => ?_) (fun _ => ?_)
      · refine s_iinc (v := (-1)) (lv' := [(10, .int (v10 + (-1))), (11, .int r9), (0, aR G 86), (1, .int v1), (2, .long v2), (4, .int v4), (5, .long v5), (7, .int v7), (8, .int v8), (9, .int v9)]) 9 dX12_draws_84 rfl (by decide) rfl rfl ?_
        refine s_goto (tgt := 49) dX12_draws_87 (by decide) ?_
        refine s_lv [2, 3, 4, 5, 6, 7, 8, 9, 0] (lv' := [(0, aR G 86), (1, .int v1), (2, .long v2), (4, .int v4), (5, .long v5), (7, .int v7), (8, .int v8), (9, .int v9), (10, .int (v10 + (-1)))]) rfl ?_
        exact ih _ _ _ _ _
      · refine s_iload 0 dX12_draws_68 rfl ?_
        refine s_istore (lv' := [(4, .int r9), (11, .int r9), (0, aR G 86), (1, .int v1), (2, .long v2), (5, .long v5), (7, .int v7), (8, .int v8), (9, .int v9), (10, .int v10)]) dX12_draws_70 rfl rfl ?_
        refine s_iinc (v := 1) (lv' := [(7, .int (v7 + 1)), (4, .int r9), (11, .int r9), (0, aR G 86), (1, .int v1), (2, .long v2), (5, .long v5), (8, .int v8), (9, .int v9), (10, .int v10)]) 6 dX12_draws_72 rfl (by decide) rfl rfl ?_
        refine s_lload 6 dX12_draws_75 rfl ?_
        refine s_lconst (v := 1) dX12_draws_77 (by decide) ?_
        refine s_iload 1 dX12_draws_78 rfl ?_
        refine s_lshl dX12_draws_80 ?_
        refine s_lor dX12_draws_81 ?_
        refine s_topl (fun x11 => ?_)
        refine s_lstore (lv' := [(5, .long x11), (7, .int (v7 + 1)), (4, .int r9), (11, .int r9), (0, aR G 86), (1, .int v1), (2, .long v2), (8, .int v8), (9, .int v9), (10, .int v10)]) dX12_draws_82 rfl rfl ?_
        refine s_iinc (v := (-1)) (lv' := [(10, .int (v10 + (-1))), (5, .long x11), (7, .int (v7 + 1)), (4, .int r9), (11, .int r9), (0, aR G 86), (1, .int v1), (2, .long v2), (8, .int v8), (9, .int v9)]) 9 dX12_draws_84 rfl (by decide) rfl rfl ?_
        refine s_goto (tgt := 49) dX12_draws_87 (by decide) ?_
        refine s_lv [5, 6, 7, 3, 1, 2, 8, 9, 0] (lv' := [(0, aR G 86), (1, .int v1), (2, .long v2), (4, .int r9), (5, .long x11), (7, .int (v7 + 1)), (8, .int v8), (9, .int v9), (10, .int (v10 + (-1)))]) rfl ?_
        exact ih _ _ _ _ _
def f_M_draws_L20 (k96 : Int64 → Int32 → Nm → Option (Unit × Nm)) (v1 : Int32) (v2 : Int64) : Nat → Int32 → Int64 → Int32 → Int32 → Nm → Option (Unit × Nm)
  | 0, _, _, _, _, _ => none
  | f + 1, v4, v5, v7, v8, M => bnd (f_M_its v1 4 M) fun r3 M4 => if r3 ≤ v8 then (k96 v5 v7 M4) else (bnd (f_M_turned v1 v8 M4) fun r5 M6 => bnd (f_M_stepsOf v1 v8 M6) fun r7 M8 => f_M_draws_L49 (fun y13 y14 y15 M12 => f_M_draws_L20 k96 v1 v2 f y13 y14 y15 (v8 + 1) M12) v1 v2 v8 r5 FU v4 v5 v7 r7 M8)
theorem c_M_draws_L20 (l : Launch) (G : Gl) {k96 : Int64 → Int32 → Nm → Option (Unit × Nm)} (v1 : Int32) (v2 : Int64)  (hk96 : ∀ (v5 : Int64) (v7 : Int32)  (M : Nm), NJ l G Y_X12_draws (zR 3 67) eU 96 [(0, aR G 86), (1, .int v1), (2, .long v2), (5, .long v5), (7, .int v7)] [] M (k96 v5 v7 M)) : ∀ (f : Nat) (v4 : Int32) (v5 : Int64) (v7 : Int32) (v8 : Int32)  (M : Nm), NJ l G Y_X12_draws (zR 3 67) eU 20 [(0, aR G 86), (1, .int v1), (2, .long v2), (4, .int v4), (5, .long v5), (7, .int v7), (8, .int v8)] [] M (f_M_draws_L20 k96 v1 v2 f v4 v5 v7 v8 M) := by
  intro f
  induction f with
  | zero => intro v4 v5 v7 v8 M; exact s_none
  | succ f ih =>
    intro v4 v5 v7 v8 M
    rw [f_M_draws_L20]
    refine s_iload 6 dX12_draws_20 rfl ?_
    refine s_aload_n 0 dX12_draws_22 rfl ?_
    refine s_iload_n 1 dX12_draws_23 rfl ?_
    refine s_iconst (v := 4) dX12_draws_24 (by decide) ?_
    refine n_invV_i dX12_draws_25 ok_X12_its rfl wt_1013 wt_1015 ws_26 (ci := 11) rfl rfl so_86 (sh_lt so_86 rfl) [.int v1, .int 4] rfl rfl rfl rfl (c_M_its l G _ _ _) (fun r3 M4 => ?_)
    refine s_icmp_ge (tgt := 96) dX12_draws_28 (by decide) (fun _ => ?_) (fun _ => ?_)
    · refine s_lv [0, 1, 2, 4, 5] (lv' := [(0, aR G 86), (1, .int v1), (2, .long v2), (5, .long v5), (7, .int v7)]) rfl ?_
      exact hk96 _ _ _
    · refine s_aload_n 0 dX12_draws_31 rfl ?_
      refine s_iload_n 1 dX12_draws_32 rfl ?_
      refine s_iload 6 dX12_draws_33 rfl ?_
      refine n_invV_i dX12_draws_35 ok_X12_turned rfl wt_1020 wt_1022 ws_27 (ci := 11) rfl rfl so_86 (sh_lt so_86 rfl) [.int v1, .int v8] rfl rfl rfl rfl (c_M_turned l G _ _ _) (fun r5 M6 => ?_)
      refine s_istore (lv' := [(9, .int r5), (0, aR G 86), (1, .int v1), (2, .long v2), (4, .int v4), (5, .long v5), (7, .int v7), (8, .int v8)]) dX12_draws_38 rfl rfl ?_
      refine s_aload_n 1 dX12_draws_40 rfl ?_
      refine s_iload_n 2 dX12_draws_41 rfl ?_
      refine s_iload 7 dX12_draws_42 rfl ?_
      refine n_invV_i dX12_draws_44 ok_X12_stepsOf rfl wt_1024 wt_1026 ws_28 (ci := 11) rfl rfl so_86 (sh_lt so_86 rfl) [.int v1, .int v8] rfl rfl rfl rfl (c_M_stepsOf l G _ _ _) (fun r7 M8 => ?_)
      refine s_istore (lv' := [(10, .int r7), (9, .int r5), (0, aR G 86), (1, .int v1), (2, .long v2), (4, .int v4), (5, .long v5), (7, .int v7), (8, .int v8)]) dX12_draws_47 rfl rfl ?_
      refine s_lv [2, 3, 4, 5, 6, 7, 8, 1, 0] (lv' := [(0, aR G 86), (1, .int v1), (2, .long v2), (4, .int v4), (5, .long v5), (7, .int v7), (8, .int v8), (9, .int r5), (10, .int r7)]) rfl ?_
      refine c_M_draws_L49 l G _ _ _ _ (fun y13 y14 y15 M12 => ?_) FU _ _ _ _ _
      refine s_iinc (v := 1) (lv' := [(8, .int (v8 + 1)), (0, aR G 86), (1, .int v1), (2, .long v2), (4, .int y13), (5, .long y14), (7, .int y15)]) 6 dX12_draws_90 rfl (by decide) rfl rfl ?_
      refine s_goto (tgt := 20) dX12_draws_93 (by decide) ?_
      refine s_lv [1, 2, 3, 4, 5, 6, 0] (lv' := [(0, aR G 86), (1, .int v1), (2, .long v2), (4, .int y13), (5, .long y14), (7, .int y15), (8, .int (v8 + 1))]) rfl ?_
      exact ih _ _ _ _ _
def f_M_draws (v1 : Int32) (v2 : Int64) (M : Nm) : Option (Unit × Nm) := bnd (f_M_its v1 1 M) fun r1 M2 => f_M_draws_L20 (fun y17 y18 M16 => grd (inb v1 6) <| bl (mL M16 92 (ix v1) (y17 &&& (v2 ^^^ (-1)))) fun M19 => grd (inb v1 6) <| bl (mI M19 94 (ix v1) y18) fun M20 => some ((), M20)) v1 v2 FU r1 (1 <<< (r1.toInt64 &&& 63)) 0 0 M2
theorem c_M_draws (l : Launch) (G : Gl) (v1 : Int32) (v2 : Int64)  (M : Nm) : NJ l G Y_X12_draws (zR 3 67) eU 0 (lv_args 0 [aR G 86, .int v1, .long v2]) [] M (f_M_draws v1 v2 M) := by
  unfold f_M_draws
  show NJ l G Y_X12_draws (zR 3 67) eU 0 [(0, aR G 86), (1, .int v1), (2, .long v2)] [] M _
  refine s_aload_n 0 dX12_draws_0 rfl ?_
  refine s_iload_n 1 dX12_draws_1 rfl ?_
  refine s_iconst (v := 1) dX12_draws_2 (by decide) ?_
  refine n_invV_i dX12_draws_3 ok_X12_its rfl wt_1013 wt_1015 ws_26 (ci := 11) rfl rfl so_86 (sh_lt so_86 rfl) [.int v1, .int 1] rfl rfl rfl rfl (c_M_its l G _ _ _) (fun r1 M2 => ?_)
  refine s_istore (lv' := [(4, .int r1), (0, aR G 86), (1, .int v1), (2, .long v2)]) dX12_draws_6 rfl rfl ?_
  refine s_lconst (v := 1) dX12_draws_8 (by decide) ?_
  refine s_iload 0 dX12_draws_9 rfl ?_
  refine s_lshl dX12_draws_11 ?_
  refine s_lstore (lv' := [(5, .long (1 <<< (r1.toInt64 &&& 63))), (4, .int r1), (0, aR G 86), (1, .int v1), (2, .long v2)]) dX12_draws_12 rfl rfl ?_
  refine s_iconst (v := 0) dX12_draws_14 (by decide) ?_
  refine s_istore (lv' := [(7, .int 0), (5, .long (1 <<< (r1.toInt64 &&& 63))), (4, .int r1), (0, aR G 86), (1, .int v1), (2, .long v2)]) dX12_draws_15 rfl rfl ?_
  refine s_iconst (v := 0) dX12_draws_17 (by decide) ?_
  refine s_istore (lv' := [(8, .int 0), (7, .int 0), (5, .long (1 <<< (r1.toInt64 &&& 63))), (4, .int r1), (0, aR G 86), (1, .int v1), (2, .long v2)]) dX12_draws_18 rfl rfl ?_
  refine s_lv [4, 5, 6, 3, 2, 1, 0] (lv' := [(0, aR G 86), (1, .int v1), (2, .long v2), (4, .int r1), (5, .long (1 <<< (r1.toInt64 &&& 63))), (7, .int 0), (8, .int 0)]) rfl ?_
  refine c_M_draws_L20 l G _ _ (fun y17 y18 M16 => ?_) FU _ _ _ _ _
  refine s_aload_n 0 dX12_draws_96 rfl ?_
  refine n_getR (x := 92) dX12_draws_97 okf_M_25_11 rfl rfl so_86 (sh_lt so_86 rfl) rfl ?_
  refine s_iload_n 1 dX12_draws_100 rfl ?_
  refine s_lload 3 dX12_draws_101 rfl ?_
  refine s_lload_n 2 dX12_draws_103 rfl ?_
  refine s_ldc2 (v := (-1)) dX12_draws_104 wt_1031 ?_
  refine s_lxor dX12_draws_107 ?_
  refine s_land dX12_draws_108 ?_
  refine n_las dX12_draws_109 sa_92 ?_
  refine s_topM (fun M19 => ?_)
  refine s_aload_n 0 dX12_draws_110 rfl ?_
  refine n_getR (x := 94) dX12_draws_111 okf_M_32_11 rfl rfl so_86 (sh_lt so_86 rfl) rfl ?_
  refine s_iload_n 1 dX12_draws_114 rfl ?_
  refine s_iload 4 dX12_draws_115 rfl ?_
  refine n_ias dX12_draws_117 sa_94 ?_
  refine s_topM (fun M20 => ?_)
  exact n_vret dX12_draws_118 rfl
def f_M_insideOf_L5 (k46 : Int64 → Nm → Option (Int64 × Nm)) (v0 : Int64) : Nat → Int64 → Int32 → Nm → Option (Int64 × Nm)
  | 0, _, _, _ => none
  | f + 1, v2, v4, M => if 48 ≤ v4 then (k46 v2 M) else (bnd (f_M_isEdge v4 M) fun r1 M2 => if r1 = 0 then (f_M_insideOf_L5 k46 v0 f (v2 ||| 0) (v4 + 1) M2) else (bnd (f_M_has v0 v4 M2) fun r3 M4 => if r3 = 0 then (bl (v2 ||| (1 <<< (v4.toInt64 &&& 63))) fun x5 => f_M_insideOf_L5 k46 v0 f x5 (v4 + 1) M4) else (f_M_insideOf_L5 k46 v0 f (v2 ||| 0) (v4 + 1) M4)))
theorem c_M_insideOf_L5 (l : Launch) (G : Gl) {k46 : Int64 → Nm → Option (Int64 × Nm)} (v0 : Int64)  (hk46 : ∀ (v2 : Int64)  (M : Nm), NJ l G Y_X12_insideOf (zR 1 23) eL 46 [(0, .long v0), (2, .long v2)] [] M (k46 v2 M)) : ∀ (f : Nat) (v2 : Int64) (v4 : Int32)  (M : Nm), NJ l G Y_X12_insideOf (zR 1 23) eL 5 [(0, .long v0), (2, .long v2), (4, .int v4)] [] M (f_M_insideOf_L5 k46 v0 f v2 v4 M) := by
  intro f
  induction f with
  | zero => intro v2 v4 M; exact s_none
  | succ f ih =>
    intro v2 v4 M
    rw [f_M_insideOf_L5]
    refine s_iload 2 dX12_insideOf_5 rfl ?_
    refine s_bipush (v := 48) dX12_insideOf_7 (by decide) ?_
    refine s_icmp_ge (tgt := 46) dX12_insideOf_9 (by decide) (fun _ => ?_) (fun _ => ?_)
    · refine s_lv [0, 1] (lv' := [(0, .long v0), (2, .long v2)]) rfl ?_
      exact hk46 _ _
    · refine s_lload_n 1 dX12_insideOf_12 rfl ?_
      refine s_iload 2 dX12_insideOf_13 rfl ?_
      refine n_invS_i dX12_insideOf_15 ok_X12_isEdge rfl wt_1035 wt_1036 [.int v4] rfl rfl rfl rfl (c_M_isEdge l G _ _) (fun r1 M2 => ?_)
      refine s_if_eq (tgt := 37) dX12_insideOf_18 (by decide) (fun _ => ?_) (fun _ => ?_)
      · refine s_lconst (v := 0) dX12_insideOf_37 (by decide) ?_
        refine s_lor dX12_insideOf_38 ?_
        refine s_lstore_n (i := 2) (lv' := [(2, .long (v2 ||| 0)), (0, .long v0), (4, .int v4)]) dX12_insideOf_39 rfl rfl rfl ?_
        refine s_iinc (v := 1) (lv' := [(4, .int (v4 + 1)), (2, .long (v2 ||| 0)), (0, .long v0)]) 2 dX12_insideOf_40 rfl (by decide) rfl rfl ?_
        refine s_goto (tgt := 5) dX12_insideOf_43 (by decide) ?_
        refine s_lv [2, 1, 0] (lv' := [(0, .long v0), (2, .long (v2 ||| 0)), (4, .int (v4 + 1))]) rfl ?_
        exact ih _ _ _
      · refine s_lload_n 0 dX12_insideOf_21 rfl ?_
        refine s_iload 2 dX12_insideOf_22 rfl ?_
        refine n_invS_i dX12_insideOf_24 ok_X12_has rfl wt_1038 wt_1039 [.long v0, .int v4] rfl rfl rfl rfl (c_M_has l G _ _ _) (fun r3 M4 => ?_)
        refine s_if_ne (tgt := 37) dX12_insideOf_27 (by decide) (fun _ => ?_) (fun _ => ?_)
        · refine s_lconst (v := 1) dX12_insideOf_30 (by decide) ?_
          refine s_iload 2 dX12_insideOf_31 rfl ?_
          refine s_lshl dX12_insideOf_33 ?_
          refine s_goto (tgt := 38) dX12_insideOf_34 (by decide) ?_
          refine s_lor dX12_insideOf_38 ?_
          refine s_topl (fun x5 => ?_)
          refine s_lstore_n (i := 2) (lv' := [(2, .long x5), (0, .long v0), (4, .int v4)]) dX12_insideOf_39 rfl rfl rfl ?_
          refine s_iinc (v := 1) (lv' := [(4, .int (v4 + 1)), (2, .long x5), (0, .long v0)]) 2 dX12_insideOf_40 rfl (by decide) rfl rfl ?_
          refine s_goto (tgt := 5) dX12_insideOf_43 (by decide) ?_
          refine s_lv [2, 1, 0] (lv' := [(0, .long v0), (2, .long x5), (4, .int (v4 + 1))]) rfl ?_
          exact ih _ _ _
        · refine s_lconst (v := 0) dX12_insideOf_37 (by decide) ?_
          refine s_lor dX12_insideOf_38 ?_
          refine s_lstore_n (i := 2) (lv' := [(2, .long (v2 ||| 0)), (0, .long v0), (4, .int v4)]) dX12_insideOf_39 rfl rfl rfl ?_
          refine s_iinc (v := 1) (lv' := [(4, .int (v4 + 1)), (2, .long (v2 ||| 0)), (0, .long v0)]) 2 dX12_insideOf_40 rfl (by decide) rfl rfl ?_
          refine s_goto (tgt := 5) dX12_insideOf_43 (by decide) ?_
          refine s_lv [2, 1, 0] (lv' := [(0, .long v0), (2, .long (v2 ||| 0)), (4, .int (v4 + 1))]) rfl ?_
          exact ih _ _ _
def f_M_insideOf_L72 (k127 : Int64 → Nm → Option (Int64 × Nm)) (v0 : Int64) (v4 : Int64) (v6 : Int32) : Nat → Int64 → Int32 → Nm → Option (Int64 × Nm)
  | 0, _, _, _ => none
  | f + 1, v2, v7, M => if 4 ≤ v7 then (k127 v2 M) else (bnd (f_M_has v0 v6 M) fun r8 M9 => if r8 = 0 then (bnd (f_M_beside v6 v7 M9) fun r10 M11 => if r10 < 0 then (f_M_insideOf_L72 k127 v0 v4 v6 f (v2 ||| 0) (v7 + 1) M11) else (bnd (f_M_has v2 r10 M11) fun r12 M13 => if r12 = 0 then (f_M_insideOf_L72 k127 v0 v4 v6 f (v2 ||| 0) (v7 + 1) M13) else (bl (v2 ||| (1 <<< (v6.toInt64 &&& 63))) fun x14 => f_M_insideOf_L72 k127 v0 v4 v6 f x14 (v7 + 1) M13))) else (k127 v2 M9))
theorem c_M_insideOf_L72 (l : Launch) (G : Gl) {k127 : Int64 → Nm → Option (Int64 × Nm)} (v0 : Int64) (v4 : Int64) (v6 : Int32)  (hk127 : ∀ (v2 : Int64)  (M : Nm), NJ l G Y_X12_insideOf (zR 1 23) eL 127 [(0, .long v0), (2, .long v2), (4, .long v4), (6, .int v6)] [] M (k127 v2 M)) : ∀ (f : Nat) (v2 : Int64) (v7 : Int32)  (M : Nm), NJ l G Y_X12_insideOf (zR 1 23) eL 72 [(0, .long v0), (2, .long v2), (4, .long v4), (6, .int v6), (7, .int v7)] [] M (f_M_insideOf_L72 k127 v0 v4 v6 f v2 v7 M) := by
  intro f
  induction f with
  | zero => intro v2 v7 M; exact s_none
  | succ f ih =>
    intro v2 v7 M
    rw [f_M_insideOf_L72]
    refine s_iload 4 dX12_insideOf_72 rfl ?_
    refine s_iconst (v := 4) dX12_insideOf_74 (by decide) ?_
    refine s_icmp_ge (tgt := 127) dX12_insideOf_75 (by decide) (fun _ => ?_) (fun _ => ?_)
    · refine s_lv [0, 1, 2, 3] (lv' := [(0, .long v0), (2, .long v2), (4, .long v4), (6, .int v6)]) rfl ?_
      exact hk127 _ _
    · refine s_lload_n 0 dX12_insideOf_78 rfl ?_
      refine s_iload 3 dX12_insideOf_79 rfl ?_
      refine n_invS_i dX12_insideOf_81 ok_X12_has rfl wt_1038 wt_1039 [.long v0, .int v6] rfl rfl rfl rfl (c_M_has l G _ _ _) (fun r8 M9 => ?_)
      refine s_if_ne (tgt := 127) dX12_insideOf_84 (by decide) (fun _ => ?_) (fun _ => ?_)
      · refine s_iload 3 dX12_insideOf_87 rfl ?_
        refine s_iload 4 dX12_insideOf_89 rfl ?_
        refine n_invS_i dX12_insideOf_91 ok_X12_beside rfl wt_1028 wt_1029 [.int v6, .int v7] rfl rfl rfl rfl (c_M_beside l G _ _ _) (fun r10 M11 => ?_)
        refine s_istore (lv' := [(8, .int r10), (0, .long v0), (2, .long v2), (4, .long v4), (6, .int v6), (7, .int v7)]) dX12_insideOf_94 rfl rfl ?_
        refine s_lload_n 2 dX12_insideOf_96 rfl ?_
        refine s_iload 0 dX12_insideOf_97 rfl ?_
        refine s_if_lt (tgt := 118) dX12_insideOf_99 (by decide) (fun _ => ?_) (fun _ => ?_)
        · refine s_lconst (v := 0) dX12_insideOf_118 (by decide) ?_
          refine s_lor dX12_insideOf_119 ?_
          refine s_lstore_n (i := 2) (lv' := [(2, .long (v2 ||| 0)), (8, .int r10), (0, .long v0), (4, .long v4), (6, .int v6), (7, .int v7)]) dX12_insideOf_120 rfl rfl rfl ?_
          refine s_iinc (v := 1) (lv' := [(7, .int (v7 + 1)), (2, .long (v2 ||| 0)), (8, .int r10), (0, .long v0), (4, .long v4), (6, .int v6)]) 5 dX12_insideOf_121 rfl (by decide) rfl rfl ?_
          refine s_goto (tgt := 72) dX12_insideOf_124 (by decide) ?_
          refine s_lv [3, 1, 4, 5, 0] (lv' := [(0, .long v0), (2, .long (v2 ||| 0)), (4, .long v4), (6, .int v6), (7, .int (v7 + 1))]) rfl ?_
          exact ih _ _ _
        · refine s_lload_n 2 dX12_insideOf_102 rfl ?_
          refine s_iload 0 dX12_insideOf_103 rfl ?_
          refine n_invS_i dX12_insideOf_105 ok_X12_has rfl wt_1038 wt_1039 [.long v2, .int r10] rfl rfl rfl rfl (c_M_has l G _ _ _) (fun r12 M13 => ?_)
          refine s_if_eq (tgt := 118) dX12_insideOf_108 (by decide) (fun _ => ?_) (fun _ => ?_)
          · refine s_lconst (v := 0) dX12_insideOf_118 (by decide) ?_
            refine s_lor dX12_insideOf_119 ?_
            refine s_lstore_n (i := 2) (lv' := [(2, .long (v2 ||| 0)), (8, .int r10), (0, .long v0), (4, .long v4), (6, .int v6), (7, .int v7)]) dX12_insideOf_120 rfl rfl rfl ?_
            refine s_iinc (v := 1) (lv' := [(7, .int (v7 + 1)), (2, .long (v2 ||| 0)), (8, .int r10), (0, .long v0), (4, .long v4), (6, .int v6)]) 5 dX12_insideOf_121 rfl (by decide) rfl rfl ?_
            refine s_goto (tgt := 72) dX12_insideOf_124 (by decide) ?_
            refine s_lv [3, 1, 4, 5, 0] (lv' := [(0, .long v0), (2, .long (v2 ||| 0)), (4, .long v4), (6, .int v6), (7, .int (v7 + 1))]) rfl ?_
            exact ih _ _ _
          · refine s_lconst (v := 1) dX12_insideOf_111 (by decide) ?_
            refine s_iload 4 dX12_insideOf_112 rfl ?_
            refine s_lshl dX12_insideOf_114 ?_
            refine s_goto (tgt := 119) dX12_insideOf_115 (by decide) ?_
            refine s_lor dX12_insideOf_119 ?_
            refine s_topl (fun x14 => ?_)
            refine s_lstore_n (i := 2) (lv' := [(2, .long x14), (8, .int r10), (0, .long v0), (4, .long v4), (6, .int v6), (7, .int v7)]) dX12_insideOf_120 rfl rfl rfl ?_
            refine s_iinc (v := 1) (lv' := [(7, .int (v7 + 1)), (2, .long x14), (8, .int r10), (0, .long v0), (4, .long v4), (6, .int v6)]) 5 dX12_insideOf_121 rfl (by decide) rfl rfl ?_
            refine s_goto (tgt := 72) dX12_insideOf_124 (by decide) ?_
            refine s_lv [3, 1, 4, 5, 0] (lv' := [(0, .long v0), (2, .long x14), (4, .long v4), (6, .int v6), (7, .int (v7 + 1))]) rfl ?_
            exact ih _ _ _
      · refine s_lv [0, 1, 2, 3] (lv' := [(0, .long v0), (2, .long v2), (4, .long v4), (6, .int v6)]) rfl ?_
        exact hk127 _ _
def f_M_insideOf_L62 (k133 : Int64 → Nm → Option (Int64 × Nm)) (v0 : Int64) (v4 : Int64) : Nat → Int64 → Int32 → Nm → Option (Int64 × Nm)
  | 0, _, _, _ => none
  | f + 1, v2, v6, M => if 48 ≤ v6 then (k133 v2 M) else (f_M_insideOf_L72 (fun y16 M15 => f_M_insideOf_L62 k133 v0 v4 f y16 (v6 + 1) M15) v0 v4 v6 FU v2 0 M)
theorem c_M_insideOf_L62 (l : Launch) (G : Gl) {k133 : Int64 → Nm → Option (Int64 × Nm)} (v0 : Int64) (v4 : Int64)  (hk133 : ∀ (v2 : Int64)  (M : Nm), NJ l G Y_X12_insideOf (zR 1 23) eL 133 [(0, .long v0), (2, .long v2), (4, .long v4)] [] M (k133 v2 M)) : ∀ (f : Nat) (v2 : Int64) (v6 : Int32)  (M : Nm), NJ l G Y_X12_insideOf (zR 1 23) eL 62 [(0, .long v0), (2, .long v2), (4, .long v4), (6, .int v6)] [] M (f_M_insideOf_L62 k133 v0 v4 f v2 v6 M) := by
  intro f
  induction f with
  | zero => intro v2 v6 M; exact s_none
  | succ f ih =>
    intro v2 v6 M
    rw [f_M_insideOf_L62]
    refine s_iload 3 dX12_insideOf_62 rfl ?_
    refine s_bipush (v := 48) dX12_insideOf_64 (by decide) ?_
    refine s_icmp_ge (tgt := 133) dX12_insideOf_66 (by decide) (fun _ => ?_) (fun _ => ?_)
    · refine s_lv [0, 1, 2] (lv' := [(0, .long v0), (2, .long v2), (4, .long v4)]) rfl ?_
      exact hk133 _ _
    · refine s_iconst (v := 0) dX12_insideOf_69 (by decide) ?_
      refine s_istore (lv' := [(7, .int 0), (0, .long v0), (2, .long v2), (4, .long v4), (6, .int v6)]) dX12_insideOf_70 rfl rfl ?_
      refine s_lv [1, 2, 3, 4, 0] (lv' := [(0, .long v0), (2, .long v2), (4, .long v4), (6, .int v6), (7, .int 0)]) rfl ?_
      refine c_M_insideOf_L72 l G _ _ _ (fun y16 M15 => ?_) FU _ _ _
      refine s_iinc (v := 1) (lv' := [(6, .int (v6 + 1)), (0, .long v0), (2, .long y16), (4, .long v4)]) 3 dX12_insideOf_127 rfl (by decide) rfl rfl ?_
      refine s_goto (tgt := 62) dX12_insideOf_130 (by decide) ?_
      refine s_lv [1, 2, 3, 0] (lv' := [(0, .long v0), (2, .long y16), (4, .long v4), (6, .int (v6 + 1))]) rfl ?_
      exact ih _ _ _
def f_M_insideOf_L49  (v0 : Int64) : Nat → Int64 → Int64 → Nm → Option (Int64 × Nm)
  | 0, _, _, _ => none
  | f + 1, v2, v4, M => if (lg_cmp v4 v2) = 0 then (some ((281474976710655 &&& (v0 ^^^ (-1))) &&& (v2 ^^^ (-1)), M)) else (f_M_insideOf_L62 (fun y18 M17 => f_M_insideOf_L49 v0 f y18 v2 M17) v0 v2 FU v2 0 M)
theorem c_M_insideOf_L49 (l : Launch) (G : Gl)  (v0 : Int64)   : ∀ (f : Nat) (v2 : Int64) (v4 : Int64)  (M : Nm), NJ l G Y_X12_insideOf (zR 1 23) eL 49 [(0, .long v0), (2, .long v2), (4, .long v4)] [] M (f_M_insideOf_L49 v0 f v2 v4 M) := by
  intro f
  induction f with
  | zero => intro v2 v4 M; exact s_none
  | succ f ih =>
    intro v2 v4 M
    rw [f_M_insideOf_L49]
    refine s_lload 2 dX12_insideOf_49 rfl ?_
    refine s_lload_n 1 dX12_insideOf_51 rfl ?_
    refine s_lcmp dX12_insideOf_52 ?_
    refine s_if_eq (tgt := 136) dX12_insideOf_53 (by decide) (fun _ => ?_) (fun _ => ?_)
    · refine s_ldc2 (v := 281474976710655) dX12_insideOf_136 wt_1041 ?_
      refine s_lload_n 0 dX12_insideOf_139 rfl ?_
      refine s_ldc2 (v := (-1)) dX12_insideOf_140 wt_1031 ?_
      refine s_lxor dX12_insideOf_143 ?_
      refine s_land dX12_insideOf_144 ?_
      refine s_lload_n 1 dX12_insideOf_145 rfl ?_
      refine s_ldc2 (v := (-1)) dX12_insideOf_146 wt_1031 ?_
      refine s_lxor dX12_insideOf_149 ?_
      refine s_land dX12_insideOf_150 ?_
      exact n_lret dX12_insideOf_151 rfl
    · refine s_lload_n 1 dX12_insideOf_56 rfl ?_
      refine s_lstore (lv' := [(4, .long v2), (0, .long v0), (2, .long v2)]) dX12_insideOf_57 rfl rfl ?_
      refine s_iconst (v := 0) dX12_insideOf_59 (by decide) ?_
      refine s_istore (lv' := [(6, .int 0), (4, .long v2), (0, .long v0), (2, .long v2)]) dX12_insideOf_60 rfl rfl ?_
      refine s_lv [2, 3, 1, 0] (lv' := [(0, .long v0), (2, .long v2), (4, .long v2), (6, .int 0)]) rfl ?_
      refine c_M_insideOf_L62 l G _ _ (fun y18 M17 => ?_) FU _ _ _
      refine s_goto (tgt := 49) dX12_insideOf_133 (by decide) ?_
      exact ih _ _ _
def f_M_insideOf (v0 : Int64) (M : Nm) : Option (Int64 × Nm) := f_M_insideOf_L5 (fun y7 M6 => f_M_insideOf_L49 v0 FU y7 0 M6) v0 FU 0 0 M
theorem c_M_insideOf (l : Launch) (G : Gl) (v0 : Int64)  (M : Nm) : NJ l G Y_X12_insideOf (zR 1 23) eL 0 (lv_args 0 [.long v0]) [] M (f_M_insideOf v0 M) := by
  unfold f_M_insideOf
  show NJ l G Y_X12_insideOf (zR 1 23) eL 0 [(0, .long v0)] [] M _
  refine s_lconst (v := 0) dX12_insideOf_0 (by decide) ?_
  refine s_lstore_n (i := 2) (lv' := [(2, .long 0), (0, .long v0)]) dX12_insideOf_1 rfl rfl rfl ?_
  refine s_iconst (v := 0) dX12_insideOf_2 (by decide) ?_
  refine s_istore (lv' := [(4, .int 0), (2, .long 0), (0, .long v0)]) dX12_insideOf_3 rfl rfl ?_
  refine s_lv [2, 1, 0] (lv' := [(0, .long v0), (2, .long 0), (4, .int 0)]) rfl ?_
  refine c_M_insideOf_L5 l G _ (fun y7 M6 => ?_) FU _ _ _
  refine s_lconst (v := 0) dX12_insideOf_46 (by decide) ?_
  refine s_lstore (lv' := [(4, .long 0), (0, .long v0), (2, .long y7)]) dX12_insideOf_47 rfl rfl ?_
  refine s_lv [1, 2, 0] (lv' := [(0, .long v0), (2, .long y7), (4, .long 0)]) rfl ?_
  refine c_M_insideOf_L49 l G _ FU _ _ _
def f_M_writeAll_L7  (v1 : Int64) : Nat → Int32 → Nm → Option (Unit × Nm)
  | 0, _, _ => none
  | f + 1, v3, M => grd (inb 0 176) <| if (M.1 87 (ix 0)) ≤ v3 then (some ((), M)) else (bnd (f_M_draws v3 v1 M) fun r3 M4 => grd (inb v3 6) <| bnd (f_M_insideOf (M4.2.1 92 (ix v3)) M4) fun r5 M6 => grd (inb v3 6) <| bl (mL M6 93 (ix v3) r5) fun M7 => f_M_writeAll_L7 v1 f (v3 + 1) M7)
theorem c_M_writeAll_L7 (l : Launch) (G : Gl)  (v1 : Int64)   : ∀ (f : Nat) (v3 : Int32)  (M : Nm), NJ l G Y_X12_writeAll (zR 4 98) eU 7 [(0, aR G 86), (1, .long v1), (3, .int v3)] [] M (f_M_writeAll_L7 v1 f v3 M) := by
  intro f
  induction f with
  | zero => intro v3 M; exact s_none
  | succ f ih =>
    intro v3 M
    rw [f_M_writeAll_L7]
    refine s_iload_n 2 dX12_writeAll_7 rfl ?_
    refine s_aload_n 0 dX12_writeAll_8 rfl ?_
    refine n_getR (x := 87) dX12_writeAll_9 okf_M_7_11 rfl rfl so_86 (sh_lt so_86 rfl) rfl ?_
    refine s_iconst (v := 0) dX12_writeAll_12 (by decide) ?_
    refine n_ial dX12_writeAll_13 sa_87 ?_
    refine s_icmp_ge (tgt := 44) dX12_writeAll_14 (by decide) (fun _ => ?_) (fun _ => ?_)
    · exact n_vret dX12_writeAll_44 rfl
    · refine s_aload_n 0 dX12_writeAll_17 rfl ?_
      refine s_iload_n 2 dX12_writeAll_18 rfl ?_
      refine s_lload_n 1 dX12_writeAll_19 rfl ?_
      refine n_invV_u dX12_writeAll_20 ok_X12_draws rfl wt_1009 wt_1011 ws_25 (ci := 11) rfl rfl so_86 (sh_lt so_86 rfl) [.int v3, .long v1] rfl rfl rfl rfl (c_M_draws l G _ _ _) (fun r3 M4 => ?_)
      refine s_aload_n 0 dX12_writeAll_23 rfl ?_
      refine n_getR (x := 93) dX12_writeAll_24 okf_M_29_11 rfl rfl so_86 (sh_lt so_86 rfl) rfl ?_
      refine s_iload_n 2 dX12_writeAll_27 rfl ?_
      refine s_aload_n 0 dX12_writeAll_28 rfl ?_
      refine n_getR (x := 92) dX12_writeAll_29 okf_M_25_11 rfl rfl so_86 (sh_lt so_86 rfl) rfl ?_
      refine s_iload_n 2 dX12_writeAll_32 rfl ?_
      refine n_lal dX12_writeAll_33 sa_92 ?_
      refine n_invS_l dX12_writeAll_34 ok_X12_insideOf rfl wt_1032 wt_1033 [.long (M4.2.1 92 (ix v3))] rfl rfl rfl rfl (c_M_insideOf l G _ _) (fun r5 M6 => ?_)
      refine n_las dX12_writeAll_37 sa_93 ?_
      refine s_topM (fun M7 => ?_)
      refine s_iinc (v := 1) (lv' := [(3, .int (v3 + 1)), (0, aR G 86), (1, .long v1)]) 2 dX12_writeAll_38 rfl (by decide) rfl rfl ?_
      refine s_goto (tgt := 7) dX12_writeAll_41 (by decide) ?_
      refine s_lv [1, 2, 0] (lv' := [(0, aR G 86), (1, .long v1), (3, .int (v3 + 1))]) rfl ?_
      exact ih _ _
def f_M_writeAll  (M : Nm) : Option (Unit × Nm) := bnd (f_M_smudges M) fun r1 M2 => f_M_writeAll_L7 r1 FU 0 M2
theorem c_M_writeAll (l : Launch) (G : Gl)   (M : Nm) : NJ l G Y_X12_writeAll (zR 4 98) eU 0 (lv_args 0 [aR G 86]) [] M (f_M_writeAll  M) := by
  unfold f_M_writeAll
  show NJ l G Y_X12_writeAll (zR 4 98) eU 0 [(0, aR G 86)] [] M _
  refine s_aload_n 0 dX12_writeAll_0 rfl ?_
  refine n_invV_l dX12_writeAll_1 ok_X12_smudges rfl wt_1005 wt_1007 ws_24 (ci := 11) rfl rfl so_86 (sh_lt so_86 rfl) [] rfl rfl rfl rfl (c_M_smudges l G _) (fun r1 M2 => ?_)
  refine s_lstore_n (i := 1) (lv' := [(1, .long r1), (0, aR G 86)]) dX12_writeAll_4 rfl rfl rfl ?_
  refine s_iconst (v := 0) dX12_writeAll_5 (by decide) ?_
  refine s_istore_n (i := 3) (lv' := [(3, .int 0), (1, .long r1), (0, aR G 86)]) dX12_writeAll_6 rfl rfl rfl ?_
  refine s_lv [2, 1, 0] (lv' := [(0, aR G 86), (1, .long r1), (3, .int 0)]) rfl ?_
  refine c_M_writeAll_L7 l G _ FU _ _
def f_M_insideMany (v1 : Int32) (M : Nm) : Option (Int32 × Nm) := bnd (f_M_smudges M) fun r1 M2 => bnd (f_M_draws v1 r1 M2) fun r3 M4 => grd (inb v1 6) <| bnd (f_M_insideOf (M4.2.1 92 (ix v1)) M4) fun r5 M6 => bnd (f_M_ones r5 M6) fun r7 M8 => some (r7, M8)
theorem c_M_insideMany (l : Launch) (G : Gl) (v1 : Int32)  (M : Nm) : NJ l G Y_X12_insideMany (zR 4 98) eI 0 (lv_args 0 [aR G 86, .int v1]) [] M (f_M_insideMany v1 M) := by
  unfold f_M_insideMany
  show NJ l G Y_X12_insideMany (zR 4 98) eI 0 [(0, aR G 86), (1, .int v1)] [] M _
  refine s_aload_n 0 dX12_insideMany_0 rfl ?_
  refine s_iload_n 1 dX12_insideMany_1 rfl ?_
  refine s_aload_n 0 dX12_insideMany_2 rfl ?_
  refine n_invV_l dX12_insideMany_3 ok_X12_smudges rfl wt_1005 wt_1007 ws_24 (ci := 11) rfl rfl so_86 (sh_lt so_86 rfl) [] rfl rfl rfl rfl (c_M_smudges l G _) (fun r1 M2 => ?_)
  refine n_invV_u dX12_insideMany_6 ok_X12_draws rfl wt_1009 wt_1011 ws_25 (ci := 11) rfl rfl so_86 (sh_lt so_86 rfl) [.int v1, .long r1] rfl rfl rfl rfl (c_M_draws l G _ _ _) (fun r3 M4 => ?_)
  refine s_aload_n 0 dX12_insideMany_9 rfl ?_
  refine n_getR (x := 92) dX12_insideMany_10 okf_M_25_11 rfl rfl so_86 (sh_lt so_86 rfl) rfl ?_
  refine s_iload_n 1 dX12_insideMany_13 rfl ?_
  refine n_lal dX12_insideMany_14 sa_92 ?_
  refine n_invS_l dX12_insideMany_15 ok_X12_insideOf rfl wt_1032 wt_1033 [.long (M4.2.1 92 (ix v1))] rfl rfl rfl rfl (c_M_insideOf l G _ _) (fun r5 M6 => ?_)
  refine n_invS_i dX12_insideMany_18 ok_X12_ones rfl wt_1097 wt_1098 [.long r5] rfl rfl rfl rfl (c_M_ones l G _ _) (fun r7 M8 => ?_)
  exact n_iret dX12_insideMany_21 rfl
def f_M_writes (v1 : Int32) (M : Nm) : Option (Int32 × Nm) := bnd (f_M_its v1 2 M) fun r1 M2 => grd (inb v1 6) <| if r1 < (M2.1 94 (ix v1)) then (some (0, M2)) else (some (1, M2))
theorem c_M_writes (l : Launch) (G : Gl) (v1 : Int32)  (M : Nm) : NJ l G Y_X12_writes (zR 2 43) eI 0 (lv_args 0 [aR G 86, .int v1]) [] M (f_M_writes v1 M) := by
  unfold f_M_writes
  show NJ l G Y_X12_writes (zR 2 43) eI 0 [(0, aR G 86), (1, .int v1)] [] M _
  refine s_aload_n 0 dX12_writes_0 rfl ?_
  refine s_iload_n 1 dX12_writes_1 rfl ?_
  refine s_iconst (v := 2) dX12_writes_2 (by decide) ?_
  refine n_invV_i dX12_writes_3 ok_X12_its rfl wt_1013 wt_1015 ws_26 (ci := 11) rfl rfl so_86 (sh_lt so_86 rfl) [.int v1, .int 2] rfl rfl rfl rfl (c_M_its l G _ _ _) (fun r1 M2 => ?_)
  refine s_aload_n 0 dX12_writes_6 rfl ?_
  refine n_getR (x := 94) dX12_writes_7 okf_M_32_11 rfl rfl so_86 (sh_lt so_86 rfl) rfl ?_
  refine s_iload_n 1 dX12_writes_10 rfl ?_
  refine n_ial dX12_writes_11 sa_94 ?_
  refine s_icmp_lt (tgt := 19) dX12_writes_12 (by decide) (fun _ => ?_) (fun _ => ?_)
  · refine s_iconst (v := 0) dX12_writes_19 (by decide) ?_
    exact n_zret0 dX12_writes_20 rfl
  · refine s_iconst (v := 1) dX12_writes_15 (by decide) ?_
    refine s_goto (tgt := 20) dX12_writes_16 (by decide) ?_
    exact n_zret1 dX12_writes_20 rfl
def f_M_ownerOf_B40 (k4 : Int32 → Int32 → Nm → Option (Int32 × Nm)) (v1 : Int32) (v2 : Int32) (v3 : Int32) (s0 : Int32) (M : Nm) : Option (Int32 × Nm) := if s0 = 0 then (k4 v2 (v3 + 1) M) else (if v2 < 0 then (k4 v3 (v3 + 1) M) else (bnd (f_M_its v3 2 M) fun r3 M4 => bnd (f_M_its v2 2 M4) fun r5 M6 => if r3 ≤ r5 then (k4 v2 (v3 + 1) M6) else (k4 v3 (v3 + 1) M6)))
theorem c_M_ownerOf_B40 (l : Launch) (G : Gl) {k4 : Int32 → Int32 → Nm → Option (Int32 × Nm)} (v1 : Int32) (v2 : Int32) (v3 : Int32) (s0 : Int32)  (hk4 : ∀ (v2 : Int32) (v3 : Int32)  (M : Nm), NJ l G Y_X12_ownerOf (zR 3 64) eI 4 [(0, aR G 86), (1, .int v1), (2, .int v2), (3, .int v3)] [] M (k4 v2 v3 M)) (M : Nm) : NJ l G Y_X12_ownerOf (zR 3 64) eI 40 [(0, aR G 86), (1, .int v1), (2, .int v2), (3, .int v3)] [.int s0] M (f_M_ownerOf_B40 k4 v1 v2 v3 s0 M) := by
  unfold f_M_ownerOf_B40
  refine s_istore (lv' := [(4, .int s0), (0, aR G 86), (1, .int v1), (2, .int v2), (3, .int v3)]) dX12_ownerOf_40 rfl rfl ?_
  refine s_iload 0 dX12_ownerOf_42 rfl ?_
  refine s_if_eq (tgt := 70) dX12_ownerOf_44 (by decide) (fun _ => ?_) (fun _ => ?_)
  · refine s_iload_n 3 dX12_ownerOf_70 rfl ?_
    refine s_istore_n (i := 2) (lv' := [(2, .int v2), (4, .int s0), (0, aR G 86), (1, .int v1), (3, .int v3)]) dX12_ownerOf_71 rfl rfl rfl ?_
    refine s_iinc (v := 1) (lv' := [(3, .int (v3 + 1)), (2, .int v2), (4, .int s0), (0, aR G 86), (1, .int v1)]) 4 dX12_ownerOf_72 rfl (by decide) rfl rfl ?_
    refine s_goto (tgt := 4) dX12_ownerOf_75 (by decide) ?_
    refine s_lv [3, 4, 1, 0] (lv' := [(0, aR G 86), (1, .int v1), (2, .int v2), (3, .int (v3 + 1))]) rfl ?_
    exact hk4 _ _ _
  · refine s_iload_n 3 dX12_ownerOf_47 rfl ?_
    refine s_if_lt (tgt := 66) dX12_ownerOf_48 (by decide) (fun _ => ?_) (fun _ => ?_)
    · refine s_iload_n 4 dX12_ownerOf_66 rfl ?_
      refine s_goto (tgt := 71) dX12_ownerOf_67 (by decide) ?_
      refine s_istore_n (i := 2) (lv' := [(2, .int v3), (4, .int s0), (0, aR G 86), (1, .int v1), (3, .int v3)]) dX12_ownerOf_71 rfl rfl rfl ?_
      refine s_iinc (v := 1) (lv' := [(3, .int (v3 + 1)), (2, .int v3), (4, .int s0), (0, aR G 86), (1, .int v1)]) 4 dX12_ownerOf_72 rfl (by decide) rfl rfl ?_
      refine s_goto (tgt := 4) dX12_ownerOf_75 (by decide) ?_
      refine s_lv [3, 4, 1, 0] (lv' := [(0, aR G 86), (1, .int v1), (2, .int v3), (3, .int (v3 + 1))]) rfl ?_
      exact hk4 _ _ _
    · refine s_aload_n 1 dX12_ownerOf_51 rfl ?_
      refine s_iload_n 4 dX12_ownerOf_52 rfl ?_
      refine s_iconst (v := 2) dX12_ownerOf_53 (by decide) ?_
      refine n_invV_i dX12_ownerOf_54 ok_X12_its rfl wt_1013 wt_1015 ws_26 (ci := 11) rfl rfl so_86 (sh_lt so_86 rfl) [.int v3, .int 2] rfl rfl rfl rfl (c_M_its l G _ _ _) (fun r3 M4 => ?_)
      refine s_aload_n 1 dX12_ownerOf_57 rfl ?_
      refine s_iload_n 3 dX12_ownerOf_58 rfl ?_
      refine s_iconst (v := 2) dX12_ownerOf_59 (by decide) ?_
      refine n_invV_i dX12_ownerOf_60 ok_X12_its rfl wt_1013 wt_1015 ws_26 (ci := 11) rfl rfl so_86 (sh_lt so_86 rfl) [.int v2, .int 2] rfl rfl rfl rfl (c_M_its l G _ _ _) (fun r5 M6 => ?_)
      refine s_icmp_le (tgt := 70) dX12_ownerOf_63 (by decide) (fun _ => ?_) (fun _ => ?_)
      · refine s_iload_n 3 dX12_ownerOf_70 rfl ?_
        refine s_istore_n (i := 2) (lv' := [(2, .int v2), (4, .int s0), (0, aR G 86), (1, .int v1), (3, .int v3)]) dX12_ownerOf_71 rfl rfl rfl ?_
        refine s_iinc (v := 1) (lv' := [(3, .int (v3 + 1)), (2, .int v2), (4, .int s0), (0, aR G 86), (1, .int v1)]) 4 dX12_ownerOf_72 rfl (by decide) rfl rfl ?_
        refine s_goto (tgt := 4) dX12_ownerOf_75 (by decide) ?_
        refine s_lv [3, 4, 1, 0] (lv' := [(0, aR G 86), (1, .int v1), (2, .int v2), (3, .int (v3 + 1))]) rfl ?_
        exact hk4 _ _ _
      · refine s_iload_n 4 dX12_ownerOf_66 rfl ?_
        refine s_goto (tgt := 71) dX12_ownerOf_67 (by decide) ?_
        refine s_istore_n (i := 2) (lv' := [(2, .int v3), (4, .int s0), (0, aR G 86), (1, .int v1), (3, .int v3)]) dX12_ownerOf_71 rfl rfl rfl ?_
        refine s_iinc (v := 1) (lv' := [(3, .int (v3 + 1)), (2, .int v3), (4, .int s0), (0, aR G 86), (1, .int v1)]) 4 dX12_ownerOf_72 rfl (by decide) rfl rfl ?_
        refine s_goto (tgt := 4) dX12_ownerOf_75 (by decide) ?_
        refine s_lv [3, 4, 1, 0] (lv' := [(0, aR G 86), (1, .int v1), (2, .int v3), (3, .int (v3 + 1))]) rfl ?_
        exact hk4 _ _ _
def f_M_ownerOf_L4  (v1 : Int32) : Nat → Int32 → Int32 → Nm → Option (Int32 × Nm)
  | 0, _, _, _ => none
  | f + 1, v2, v3, M => grd (inb 0 176) <| if (M.1 87 (ix 0)) ≤ v3 then (some (v2, M)) else (bnd (f_M_writes v3 M) fun r1 M2 => if r1 = 0 then (f_M_ownerOf_B40 (f_M_ownerOf_L4 v1 f) v1 v2 v3 0 M2) else (grd (inb v3 6) <| bnd (f_M_has (M2.2.1 93 (ix v3)) v1 M2) fun r7 M8 => if r7 = 0 then (f_M_ownerOf_B40 (f_M_ownerOf_L4 v1 f) v1 v2 v3 0 M8) else (f_M_ownerOf_B40 (f_M_ownerOf_L4 v1 f) v1 v2 v3 1 M8)))
theorem c_M_ownerOf_L4 (l : Launch) (G : Gl)  (v1 : Int32)   : ∀ (f : Nat) (v2 : Int32) (v3 : Int32)  (M : Nm), NJ l G Y_X12_ownerOf (zR 3 64) eI 4 [(0, aR G 86), (1, .int v1), (2, .int v2), (3, .int v3)] [] M (f_M_ownerOf_L4 v1 f v2 v3 M) := by
  intro f
  induction f with
  | zero => intro v2 v3 M; exact s_none
  | succ f ih =>
    intro v2 v3 M
    rw [f_M_ownerOf_L4]
    refine s_iload_n 3 dX12_ownerOf_4 rfl ?_
    refine s_aload_n 0 dX12_ownerOf_5 rfl ?_
    refine n_getR (x := 87) dX12_ownerOf_6 okf_M_7_11 rfl rfl so_86 (sh_lt so_86 rfl) rfl ?_
    refine s_iconst (v := 0) dX12_ownerOf_9 (by decide) ?_
    refine n_ial dX12_ownerOf_10 sa_87 ?_
    refine s_icmp_ge (tgt := 78) dX12_ownerOf_11 (by decide) (fun _ => ?_) (fun _ => ?_)
    · refine s_iload_n 2 dX12_ownerOf_78 rfl ?_
      exact n_iret dX12_ownerOf_79 rfl
    · refine s_aload_n 0 dX12_ownerOf_14 rfl ?_
      refine s_iload_n 3 dX12_ownerOf_15 rfl ?_
      refine n_invV_i dX12_ownerOf_16 ok_X12_writes rfl wt_1046 wt_1048 ws_30 (ci := 11) rfl rfl so_86 (sh_lt so_86 rfl) [.int v3] rfl rfl rfl rfl (c_M_writes l G _ _) (fun r1 M2 => ?_)
      refine s_if_eq (tgt := 39) dX12_ownerOf_19 (by decide) (fun _ => ?_) (fun _ => ?_)
      · refine s_iconst (v := 0) dX12_ownerOf_39 (by decide) ?_
        exact c_M_ownerOf_B40 l G _ _ _ _ ih _
      · refine s_aload_n 0 dX12_ownerOf_22 rfl ?_
        refine n_getR (x := 93) dX12_ownerOf_23 okf_M_29_11 rfl rfl so_86 (sh_lt so_86 rfl) rfl ?_
        refine s_iload_n 3 dX12_ownerOf_26 rfl ?_
        refine n_lal dX12_ownerOf_27 sa_93 ?_
        refine s_iload_n 1 dX12_ownerOf_28 rfl ?_
        refine n_invS_i dX12_ownerOf_29 ok_X12_has rfl wt_1038 wt_1039 [.long (M2.2.1 93 (ix v3)), .int v1] rfl rfl rfl rfl (c_M_has l G _ _ _) (fun r7 M8 => ?_)
        refine s_if_eq (tgt := 39) dX12_ownerOf_32 (by decide) (fun _ => ?_) (fun _ => ?_)
        · refine s_iconst (v := 0) dX12_ownerOf_39 (by decide) ?_
          exact c_M_ownerOf_B40 l G _ _ _ _ ih _
        · refine s_iconst (v := 1) dX12_ownerOf_35 (by decide) ?_
          refine s_goto (tgt := 40) dX12_ownerOf_36 (by decide) ?_
          exact c_M_ownerOf_B40 l G _ _ _ _ ih _
def f_M_ownerOf (v1 : Int32) (M : Nm) : Option (Int32 × Nm) := f_M_ownerOf_L4 v1 FU (-1) 0 M
theorem c_M_ownerOf (l : Launch) (G : Gl) (v1 : Int32)  (M : Nm) : NJ l G Y_X12_ownerOf (zR 3 64) eI 0 (lv_args 0 [aR G 86, .int v1]) [] M (f_M_ownerOf v1 M) := by
  unfold f_M_ownerOf
  show NJ l G Y_X12_ownerOf (zR 3 64) eI 0 [(0, aR G 86), (1, .int v1)] [] M _
  refine s_iconst (v := (-1)) dX12_ownerOf_0 (by decide) ?_
  refine s_istore_n (i := 2) (lv' := [(2, .int (-1)), (0, aR G 86), (1, .int v1)]) dX12_ownerOf_1 rfl rfl rfl ?_
  refine s_iconst (v := 0) dX12_ownerOf_2 (by decide) ?_
  refine s_istore_n (i := 3) (lv' := [(3, .int 0), (2, .int (-1)), (0, aR G 86), (1, .int v1)]) dX12_ownerOf_3 rfl rfl rfl ?_
  refine s_lv [2, 3, 1, 0] (lv' := [(0, aR G 86), (1, .int v1), (2, .int (-1)), (3, .int 0)]) rfl ?_
  refine c_M_ownerOf_L4 l G _ FU _ _ _
def f_M_ownedBy_L4  (v1 : Int32) : Nat → Int32 → Int32 → Nm → Option (Int32 × Nm)
  | 0, _, _, _ => none
  | f + 1, v2, v3, M => if 48 ≤ v3 then (some (v2, M)) else (grd (inb v1 6) <| bnd (f_M_has (M.2.1 93 (ix v1)) v3 M) fun r1 M2 => if r1 = 0 then (f_M_ownedBy_L4 v1 f (v2 + 0) (v3 + 1) M2) else (bnd (f_M_ownerOf v3 M2) fun r3 M4 => if r3 = v1 then (f_M_ownedBy_L4 v1 f (v2 + 1) (v3 + 1) M4) else (f_M_ownedBy_L4 v1 f (v2 + 0) (v3 + 1) M4)))
theorem c_M_ownedBy_L4 (l : Launch) (G : Gl)  (v1 : Int32)   : ∀ (f : Nat) (v2 : Int32) (v3 : Int32)  (M : Nm), NJ l G Y_X12_ownedBy (zR 4 88) eI 4 [(0, aR G 86), (1, .int v1), (2, .int v2), (3, .int v3)] [] M (f_M_ownedBy_L4 v1 f v2 v3 M) := by
  intro f
  induction f with
  | zero => intro v2 v3 M; exact s_none
  | succ f ih =>
    intro v2 v3 M
    rw [f_M_ownedBy_L4]
    refine s_iload_n 3 dX12_ownedBy_4 rfl ?_
    refine s_bipush (v := 48) dX12_ownedBy_5 (by decide) ?_
    refine s_icmp_ge (tgt := 46) dX12_ownedBy_7 (by decide) (fun _ => ?_) (fun _ => ?_)
    · refine s_iload_n 2 dX12_ownedBy_46 rfl ?_
      exact n_iret dX12_ownedBy_47 rfl
    · refine s_iload_n 2 dX12_ownedBy_10 rfl ?_
      refine s_aload_n 0 dX12_ownedBy_11 rfl ?_
      refine n_getR (x := 93) dX12_ownedBy_12 okf_M_29_11 rfl rfl so_86 (sh_lt so_86 rfl) rfl ?_
      refine s_iload_n 1 dX12_ownedBy_15 rfl ?_
      refine n_lal dX12_ownedBy_16 sa_93 ?_
      refine s_iload_n 3 dX12_ownedBy_17 rfl ?_
      refine n_invS_i dX12_ownedBy_18 ok_X12_has rfl wt_1038 wt_1039 [.long (M.2.1 93 (ix v1)), .int v3] rfl rfl rfl rfl (c_M_has l G _ _ _) (fun r1 M2 => ?_)
      refine s_if_eq (tgt := 37) dX12_ownedBy_21 (by decide) (fun _ => ?_) (fun _ => ?_)
      · refine s_iconst (v := 0) dX12_ownedBy_37 (by decide) ?_
        refine s_iadd dX12_ownedBy_38 ?_
        refine s_istore_n (i := 2) (lv' := [(2, .int (v2 + 0)), (0, aR G 86), (1, .int v1), (3, .int v3)]) dX12_ownedBy_39 rfl rfl rfl ?_
        refine s_iinc (v := 1) (lv' := [(3, .int (v3 + 1)), (2, .int (v2 + 0)), (0, aR G 86), (1, .int v1)]) 3 dX12_ownedBy_40 rfl (by decide) rfl rfl ?_
        refine s_goto (tgt := 4) dX12_ownedBy_43 (by decide) ?_
        refine s_lv [2, 3, 1, 0] (lv' := [(0, aR G 86), (1, .int v1), (2, .int (v2 + 0)), (3, .int (v3 + 1))]) rfl ?_
        exact ih _ _ _
      · refine s_aload_n 0 dX12_ownedBy_24 rfl ?_
        refine s_iload_n 3 dX12_ownedBy_25 rfl ?_
        refine n_invV_i dX12_ownedBy_26 ok_X12_ownerOf rfl wt_1042 wt_1044 ws_29 (ci := 11) rfl rfl so_86 (sh_lt so_86 rfl) [.int v3] rfl rfl rfl rfl (c_M_ownerOf l G _ _) (fun r3 M4 => ?_)
        refine s_iload_n 1 dX12_ownedBy_29 rfl ?_
        refine s_icmp_ne (tgt := 37) dX12_ownedBy_30 (by decide) (fun _ => ?_) (fun _ => ?_)
        · refine s_iconst (v := 1) dX12_ownedBy_33 (by decide) ?_
          refine s_goto (tgt := 38) dX12_ownedBy_34 (by decide) ?_
          refine s_iadd dX12_ownedBy_38 ?_
          refine s_istore_n (i := 2) (lv' := [(2, .int (v2 + 1)), (0, aR G 86), (1, .int v1), (3, .int v3)]) dX12_ownedBy_39 rfl rfl rfl ?_
          refine s_iinc (v := 1) (lv' := [(3, .int (v3 + 1)), (2, .int (v2 + 1)), (0, aR G 86), (1, .int v1)]) 3 dX12_ownedBy_40 rfl (by decide) rfl rfl ?_
          refine s_goto (tgt := 4) dX12_ownedBy_43 (by decide) ?_
          refine s_lv [2, 3, 1, 0] (lv' := [(0, aR G 86), (1, .int v1), (2, .int (v2 + 1)), (3, .int (v3 + 1))]) rfl ?_
          exact ih _ _ _
        · refine s_iconst (v := 0) dX12_ownedBy_37 (by decide) ?_
          refine s_iadd dX12_ownedBy_38 ?_
          refine s_istore_n (i := 2) (lv' := [(2, .int (v2 + 0)), (0, aR G 86), (1, .int v1), (3, .int v3)]) dX12_ownedBy_39 rfl rfl rfl ?_
          refine s_iinc (v := 1) (lv' := [(3, .int (v3 + 1)), (2, .int (v2 + 0)), (0, aR G 86), (1, .int v1)]) 3 dX12_ownedBy_40 rfl (by decide) rfl rfl ?_
          refine s_goto (tgt := 4) dX12_ownedBy_43 (by decide) ?_
          refine s_lv [2, 3, 1, 0] (lv' := [(0, aR G 86), (1, .int v1), (2, .int (v2 + 0)), (3, .int (v3 + 1))]) rfl ?_
          exact ih _ _ _
def f_M_ownedBy (v1 : Int32) (M : Nm) : Option (Int32 × Nm) := f_M_ownedBy_L4 v1 FU 0 0 M
theorem c_M_ownedBy (l : Launch) (G : Gl) (v1 : Int32)  (M : Nm) : NJ l G Y_X12_ownedBy (zR 4 88) eI 0 (lv_args 0 [aR G 86, .int v1]) [] M (f_M_ownedBy v1 M) := by
  unfold f_M_ownedBy
  show NJ l G Y_X12_ownedBy (zR 4 88) eI 0 [(0, aR G 86), (1, .int v1)] [] M _
  refine s_iconst (v := 0) dX12_ownedBy_0 (by decide) ?_
  refine s_istore_n (i := 2) (lv' := [(2, .int 0), (0, aR G 86), (1, .int v1)]) dX12_ownedBy_1 rfl rfl rfl ?_
  refine s_iconst (v := 0) dX12_ownedBy_2 (by decide) ?_
  refine s_istore_n (i := 3) (lv' := [(3, .int 0), (2, .int 0), (0, aR G 86), (1, .int v1)]) dX12_ownedBy_3 rfl rfl rfl ?_
  refine s_lv [2, 3, 1, 0] (lv' := [(0, aR G 86), (1, .int v1), (2, .int 0), (3, .int 0)]) rfl ?_
  refine c_M_ownedBy_L4 l G _ FU _ _ _
def f_M_smudge (v1 : Int32) (v2 : Int32) (M : Nm) : Option (Int32 × Nm) := bnd (f_M_isCell v1 M) fun r1 M2 => if r1 = 0 then (bnd (f_M_finds (-1000000001) M2) fun r3 M4 => some (r3, M4)) else (bnd (f_M_in v2.toInt64 0 1 M2) fun r5 M6 => if r5 = 0 then (bnd (f_M_finds (-1000000001) M6) fun r7 M8 => some (r7, M8)) else (bnd (f_M_becomes (2 + v1) v2 M6) fun r9 M10 => some (r9, M10)))
theorem c_M_smudge (l : Launch) (G : Gl) (v1 : Int32) (v2 : Int32)  (M : Nm) : NJ l G Y_X12_smudge (zR 2 45) eI 0 (lv_args 0 [aR G 86, .int v1, .int v2]) [] M (f_M_smudge v1 v2 M) := by
  unfold f_M_smudge
  show NJ l G Y_X12_smudge (zR 2 45) eI 0 [(0, aR G 86), (1, .int v1), (2, .int v2)] [] M _
  refine s_iload_n 1 dX12_smudge_0 rfl ?_
  refine n_invS_i dX12_smudge_1 ok_X12_isCell rfl wt_980 wt_981 [.int v1] rfl rfl rfl rfl (c_M_isCell l G _ _) (fun r1 M2 => ?_)
  refine s_if_eq (tgt := 28) dX12_smudge_4 (by decide) (fun _ => ?_) (fun _ => ?_)
  · refine s_aload_n 0 dX12_smudge_28 rfl ?_
    refine s_ldc (v := (-1000000001)) dX12_smudge_29 wt_991 ?_
    refine n_invV_i dX12_smudge_31 ok_X12_finds rfl wt_992 wt_994 ws_22 (ci := 11) rfl rfl so_86 (sh_lt so_86 rfl) [.int (-1000000001)] rfl rfl rfl rfl (c_M_finds l G _ _) (fun r3 M4 => ?_)
    exact n_iret dX12_smudge_34 rfl
  · refine s_iload_n 2 dX12_smudge_7 rfl ?_
    refine s_i2l dX12_smudge_8 ?_
    refine s_lconst (v := 0) dX12_smudge_9 (by decide) ?_
    refine s_lconst (v := 1) dX12_smudge_10 (by decide) ?_
    refine n_invS_i dX12_smudge_11 ok_X12_in rfl wt_984 wt_985 [.long v2.toInt64, .long 0, .long 1] rfl rfl rfl rfl (c_M_in l G _ _ _ _) (fun r5 M6 => ?_)
    refine s_if_eq (tgt := 28) dX12_smudge_14 (by decide) (fun _ => ?_) (fun _ => ?_)
    · refine s_aload_n 0 dX12_smudge_28 rfl ?_
      refine s_ldc (v := (-1000000001)) dX12_smudge_29 wt_991 ?_
      refine n_invV_i dX12_smudge_31 ok_X12_finds rfl wt_992 wt_994 ws_22 (ci := 11) rfl rfl so_86 (sh_lt so_86 rfl) [.int (-1000000001)] rfl rfl rfl rfl (c_M_finds l G _ _) (fun r7 M8 => ?_)
      exact n_iret dX12_smudge_34 rfl
    · refine s_aload_n 0 dX12_smudge_17 rfl ?_
      refine s_iconst (v := 2) dX12_smudge_18 (by decide) ?_
      refine s_iload_n 1 dX12_smudge_19 rfl ?_
      refine s_iadd dX12_smudge_20 ?_
      refine s_iload_n 2 dX12_smudge_21 rfl ?_
      refine n_invV_i dX12_smudge_22 ok_X12_becomes rfl wt_987 wt_989 ws_21 (ci := 11) rfl rfl so_86 (sh_lt so_86 rfl) [.int (2 + v1), .int v2] rfl rfl rfl rfl (c_M_becomes l G _ _ _) (fun r9 M10 => ?_)
      refine s_goto (tgt := 34) dX12_smudge_25 (by decide) ?_
      exact n_iret dX12_smudge_34 rfl
def f_M_thoseWith_B38 (k5 : Int32 → Int32 → Nm → Option (Int32 × Nm)) (v1 : Int32) (v2 : Int32) (v4 : Int32) (s0 : Int64) (s1 : Int32) (M : Nm) : Option (Int32 × Nm) := bnd (f_M_has s0 v1 M) fun r1 M2 => if r1 = 0 then (k5 (s1 ||| 0) (v4 + 1) M2) else (bl (s1 ||| (1 <<< (v4 &&& 31))) fun x3 => k5 x3 (v4 + 1) M2)
theorem c_M_thoseWith_B38 (l : Launch) (G : Gl) {k5 : Int32 → Int32 → Nm → Option (Int32 × Nm)} (v1 : Int32) (v2 : Int32) (v4 : Int32) (s0 : Int64) (s1 : Int32)  (hk5 : ∀ (v3 : Int32) (v4 : Int32)  (M : Nm), NJ l G Y_X12_thoseWith (zR 1 22) eI 5 [(0, aR G 86), (1, .int v1), (2, .int v2), (3, .int v3), (4, .int v4)] [] M (k5 v3 v4 M)) (M : Nm) : NJ l G Y_X12_thoseWith (zR 1 22) eI 38 [(0, aR G 86), (1, .int v1), (2, .int v2), (4, .int v4)] [.long s0, .int s1] M (f_M_thoseWith_B38 k5 v1 v2 v4 s0 s1 M) := by
  unfold f_M_thoseWith_B38
  refine s_iload_n 1 dX12_thoseWith_38 rfl ?_
  refine n_invS_i dX12_thoseWith_39 ok_X12_has rfl wt_1038 wt_1039 [.long s0, .int v1] rfl rfl rfl rfl (c_M_has l G _ _ _) (fun r1 M2 => ?_)
  refine s_if_eq (tgt := 52) dX12_thoseWith_42 (by decide) (fun _ => ?_) (fun _ => ?_)
  · refine s_iconst (v := 0) dX12_thoseWith_52 (by decide) ?_
    refine s_ior dX12_thoseWith_53 ?_
    refine s_istore_n (i := 3) (lv' := [(3, .int (s1 ||| 0)), (0, aR G 86), (1, .int v1), (2, .int v2), (4, .int v4)]) dX12_thoseWith_54 rfl rfl rfl ?_
    refine s_iinc (v := 1) (lv' := [(4, .int (v4 + 1)), (3, .int (s1 ||| 0)), (0, aR G 86), (1, .int v1), (2, .int v2)]) 4 dX12_thoseWith_55 rfl (by decide) rfl rfl ?_
    refine s_goto (tgt := 5) dX12_thoseWith_58 (by decide) ?_
    refine s_lv [2, 3, 4, 1, 0] (lv' := [(0, aR G 86), (1, .int v1), (2, .int v2), (3, .int (s1 ||| 0)), (4, .int (v4 + 1))]) rfl ?_
    exact hk5 _ _ _
  · refine s_iconst (v := 1) dX12_thoseWith_45 (by decide) ?_
    refine s_iload 3 dX12_thoseWith_46 rfl ?_
    refine s_ishl dX12_thoseWith_48 ?_
    refine s_goto (tgt := 53) dX12_thoseWith_49 (by decide) ?_
    refine s_ior dX12_thoseWith_53 ?_
    refine s_topi (fun x3 => ?_)
    refine s_istore_n (i := 3) (lv' := [(3, .int x3), (0, aR G 86), (1, .int v1), (2, .int v2), (4, .int v4)]) dX12_thoseWith_54 rfl rfl rfl ?_
    refine s_iinc (v := 1) (lv' := [(4, .int (v4 + 1)), (3, .int x3), (0, aR G 86), (1, .int v1), (2, .int v2)]) 4 dX12_thoseWith_55 rfl (by decide) rfl rfl ?_
    refine s_goto (tgt := 5) dX12_thoseWith_58 (by decide) ?_
    refine s_lv [2, 3, 4, 1, 0] (lv' := [(0, aR G 86), (1, .int v1), (2, .int v2), (3, .int x3), (4, .int (v4 + 1))]) rfl ?_
    exact hk5 _ _ _
def f_M_thoseWith_L5  (v1 : Int32) (v2 : Int32) : Nat → Int32 → Int32 → Nm → Option (Int32 × Nm)
  | 0, _, _, _ => none
  | f + 1, v3, v4, M => grd (inb 0 176) <| if (M.1 87 (ix 0)) ≤ v4 then (some (v3, M)) else (if v2 = 0 then (grd (inb v4 6) <| f_M_thoseWith_B38 (f_M_thoseWith_L5 v1 v2 f) v1 v2 v4 (M.2.1 92 (ix v4)) v3 M) else (grd (inb v4 6) <| f_M_thoseWith_B38 (f_M_thoseWith_L5 v1 v2 f) v1 v2 v4 (M.2.1 93 (ix v4)) v3 M))
theorem c_M_thoseWith_L5 (l : Launch) (G : Gl)  (v1 : Int32) (v2 : Int32)   : ∀ (f : Nat) (v3 : Int32) (v4 : Int32)  (M : Nm), NJ l G Y_X12_thoseWith (zR 1 22) eI 5 [(0, aR G 86), (1, .int v1), (2, .int v2), (3, .int v3), (4, .int v4)] [] M (f_M_thoseWith_L5 v1 v2 f v3 v4 M) := by
  intro f
  induction f with
  | zero => intro v3 v4 M; exact s_none
  | succ f ih =>
    intro v3 v4 M
    rw [f_M_thoseWith_L5]
    refine s_iload 4 dX12_thoseWith_5 rfl ?_
    refine s_aload_n 0 dX12_thoseWith_7 rfl ?_
    refine n_getR (x := 87) dX12_thoseWith_8 okf_M_7_11 rfl rfl so_86 (sh_lt so_86 rfl) rfl ?_
    refine s_iconst (v := 0) dX12_thoseWith_11 (by decide) ?_
    refine n_ial dX12_thoseWith_12 sa_87 ?_
    refine s_icmp_ge (tgt := 61) dX12_thoseWith_13 (by decide) (fun _ => ?_) (fun _ => ?_)
    · refine s_iload_n 3 dX12_thoseWith_61 rfl ?_
      exact n_iret dX12_thoseWith_62 rfl
    · refine s_iload_n 3 dX12_thoseWith_16 rfl ?_
      refine s_iload_n 2 dX12_thoseWith_17 rfl ?_
      refine s_if_eq (tgt := 31) dX12_thoseWith_18 (by decide) (fun _ => ?_) (fun _ => ?_)
      · refine s_aload_n 0 dX12_thoseWith_31 rfl ?_
        refine n_getR (x := 92) dX12_thoseWith_32 okf_M_25_11 rfl rfl so_86 (sh_lt so_86 rfl) rfl ?_
        refine s_iload 4 dX12_thoseWith_35 rfl ?_
        refine n_lal dX12_thoseWith_37 sa_92 ?_
        refine s_lv [0, 1, 2, 4] (lv' := [(0, aR G 86), (1, .int v1), (2, .int v2), (4, .int v4)]) rfl ?_
        exact c_M_thoseWith_B38 l G _ _ _ _ _ ih _
      · refine s_aload_n 0 dX12_thoseWith_21 rfl ?_
        refine n_getR (x := 93) dX12_thoseWith_22 okf_M_29_11 rfl rfl so_86 (sh_lt so_86 rfl) rfl ?_
        refine s_iload 4 dX12_thoseWith_25 rfl ?_
        refine n_lal dX12_thoseWith_27 sa_93 ?_
        refine s_goto (tgt := 38) dX12_thoseWith_28 (by decide) ?_
        refine s_lv [0, 1, 2, 4] (lv' := [(0, aR G 86), (1, .int v1), (2, .int v2), (4, .int v4)]) rfl ?_
        exact c_M_thoseWith_B38 l G _ _ _ _ _ ih _
def f_M_thoseWith (v1 : Int32) (v2 : Int32) (M : Nm) : Option (Int32 × Nm) := f_M_thoseWith_L5 v1 v2 FU 0 0 M
theorem c_M_thoseWith (l : Launch) (G : Gl) (v1 : Int32) (v2 : Int32)  (M : Nm) : NJ l G Y_X12_thoseWith (zR 1 22) eI 0 (lv_args 0 [aR G 86, .int v1, .int v2]) [] M (f_M_thoseWith v1 v2 M) := by
  unfold f_M_thoseWith
  show NJ l G Y_X12_thoseWith (zR 1 22) eI 0 [(0, aR G 86), (1, .int v1), (2, .int v2)] [] M _
  refine s_iconst (v := 0) dX12_thoseWith_0 (by decide) ?_
  refine s_istore_n (i := 3) (lv' := [(3, .int 0), (0, aR G 86), (1, .int v1), (2, .int v2)]) dX12_thoseWith_1 rfl rfl rfl ?_
  refine s_iconst (v := 0) dX12_thoseWith_2 (by decide) ?_
  refine s_istore (lv' := [(4, .int 0), (3, .int 0), (0, aR G 86), (1, .int v1), (2, .int v2)]) dX12_thoseWith_3 rfl rfl ?_
  refine s_lv [2, 3, 4, 1, 0] (lv' := [(0, aR G 86), (1, .int v1), (2, .int v2), (3, .int 0), (4, .int 0)]) rfl ?_
  refine c_M_thoseWith_L5 l G _ _ FU _ _ _
def f_M_cell (v1 : Int32) (v2 : Int32) (M : Nm) : Option (Int32 × Nm) := bnd (f_M_isCell v1 M) fun r1 M2 => if r1 = 0 then (bnd (f_M_finds (-1000000001) M2) fun r3 M4 => some (r3, M4)) else (bnd (f_M_in v2.toInt64 0 3 M2) fun r5 M6 => if r5 = 0 then (bnd (f_M_finds (-1000000001) M6) fun r7 M8 => some (r7, M8)) else (bnd (f_M_writeAll M6) fun r9 M10 => if v2 = 0 then (grd (inb (2 + v1) 176) <| some (M10.1 87 (ix (2 + v1)), M10)) else (if v2 = 3 then (bnd (f_M_ownerOf v1 M10) fun r11 M12 => some (r11, M12)) else (if v2 = 2 then (bnd (f_M_thoseWith v1 1 M10) fun r13 M14 => some (r13, M14)) else (bnd (f_M_thoseWith v1 0 M10) fun r15 M16 => some (r15, M16))))))
theorem c_M_cell (l : Launch) (G : Gl) (v1 : Int32) (v2 : Int32)  (M : Nm) : NJ l G Y_X12_cell (zR 5 121) eI 0 (lv_args 0 [aR G 86, .int v1, .int v2]) [] M (f_M_cell v1 v2 M) := by
  unfold f_M_cell
  show NJ l G Y_X12_cell (zR 5 121) eI 0 [(0, aR G 86), (1, .int v1), (2, .int v2)] [] M _
  refine s_iload_n 1 dX12_cell_0 rfl ?_
  refine n_invS_i dX12_cell_1 ok_X12_isCell rfl wt_980 wt_981 [.int v1] rfl rfl rfl rfl (c_M_isCell l G _ _) (fun r1 M2 => ?_)
  refine s_if_eq (tgt := 19) dX12_cell_4 (by decide) (fun _ => ?_) (fun _ => ?_)
  · refine s_aload_n 0 dX12_cell_19 rfl ?_
    refine s_ldc (v := (-1000000001)) dX12_cell_20 wt_991 ?_
    refine n_invV_i dX12_cell_22 ok_X12_finds rfl wt_992 wt_994 ws_22 (ci := 11) rfl rfl so_86 (sh_lt so_86 rfl) [.int (-1000000001)] rfl rfl rfl rfl (c_M_finds l G _ _) (fun r3 M4 => ?_)
    exact n_iret dX12_cell_25 rfl
  · refine s_iload_n 2 dX12_cell_7 rfl ?_
    refine s_i2l dX12_cell_8 ?_
    refine s_lconst (v := 0) dX12_cell_9 (by decide) ?_
    refine s_ldc2 (v := 3) dX12_cell_10 wt_1000 ?_
    refine n_invS_i dX12_cell_13 ok_X12_in rfl wt_984 wt_985 [.long v2.toInt64, .long 0, .long 3] rfl rfl rfl rfl (c_M_in l G _ _ _ _) (fun r5 M6 => ?_)
    refine s_if_ne (tgt := 26) dX12_cell_16 (by decide) (fun _ => ?_) (fun _ => ?_)
    · refine s_aload_n 0 dX12_cell_19 rfl ?_
      refine s_ldc (v := (-1000000001)) dX12_cell_20 wt_991 ?_
      refine n_invV_i dX12_cell_22 ok_X12_finds rfl wt_992 wt_994 ws_22 (ci := 11) rfl rfl so_86 (sh_lt so_86 rfl) [.int (-1000000001)] rfl rfl rfl rfl (c_M_finds l G _ _) (fun r7 M8 => ?_)
      exact n_iret dX12_cell_25 rfl
    · refine s_aload_n 0 dX12_cell_26 rfl ?_
      refine n_invV_u dX12_cell_27 ok_X12_writeAll rfl wt_1001 wt_1003 ws_23 (ci := 11) rfl rfl so_86 (sh_lt so_86 rfl) [] rfl rfl rfl rfl (c_M_writeAll l G _) (fun r9 M10 => ?_)
      refine s_iload_n 2 dX12_cell_30 rfl ?_
      refine s_if_ne (tgt := 45) dX12_cell_31 (by decide) (fun _ => ?_) (fun _ => ?_)
      · refine s_aload_n 0 dX12_cell_34 rfl ?_
        refine n_getR (x := 87) dX12_cell_35 okf_M_7_11 rfl rfl so_86 (sh_lt so_86 rfl) rfl ?_
        refine s_iconst (v := 2) dX12_cell_38 (by decide) ?_
        refine s_iload_n 1 dX12_cell_39 rfl ?_
        refine s_iadd dX12_cell_40 ?_
        refine n_ial dX12_cell_41 sa_87 ?_
        refine s_goto (tgt := 73) dX12_cell_42 (by decide) ?_
        exact n_iret dX12_cell_73 rfl
      · refine s_iload_n 2 dX12_cell_45 rfl ?_
        refine s_iconst (v := 3) dX12_cell_46 (by decide) ?_
        refine s_icmp_ne (tgt := 58) dX12_cell_47 (by decide) (fun _ => ?_) (fun _ => ?_)
        · refine s_aload_n 0 dX12_cell_50 rfl ?_
          refine s_iload_n 1 dX12_cell_51 rfl ?_
          refine n_invV_i dX12_cell_52 ok_X12_ownerOf rfl wt_1042 wt_1044 ws_29 (ci := 11) rfl rfl so_86 (sh_lt so_86 rfl) [.int v1] rfl rfl rfl rfl (c_M_ownerOf l G _ _) (fun r11 M12 => ?_)
          refine s_goto (tgt := 73) dX12_cell_55 (by decide) ?_
          exact n_iret dX12_cell_73 rfl
        · refine s_aload_n 0 dX12_cell_58 rfl ?_
          refine s_iload_n 1 dX12_cell_59 rfl ?_
          refine s_iload_n 2 dX12_cell_60 rfl ?_
          refine s_iconst (v := 2) dX12_cell_61 (by decide) ?_
          refine s_icmp_ne (tgt := 69) dX12_cell_62 (by decide) (fun _ => ?_) (fun _ => ?_)
          · refine s_iconst (v := 1) dX12_cell_65 (by decide) ?_
            refine s_goto (tgt := 70) dX12_cell_66 (by decide) ?_
            refine n_invV_i dX12_cell_70 ok_X12_thoseWith rfl wt_1050 wt_1052 ws_31 (ci := 11) rfl rfl so_86 (sh_lt so_86 rfl) [.int v1, .int 1] rfl rfl rfl rfl (c_M_thoseWith l G _ _ _) (fun r13 M14 => ?_)
            exact n_iret dX12_cell_73 rfl
          · refine s_iconst (v := 0) dX12_cell_69 (by decide) ?_
            refine n_invV_i dX12_cell_70 ok_X12_thoseWith rfl wt_1050 wt_1052 ws_31 (ci := 11) rfl rfl so_86 (sh_lt so_86 rfl) [.int v1, .int 0] rfl rfl rfl rfl (c_M_thoseWith l G _ _ _) (fun r15 M16 => ?_)
            exact n_iret dX12_cell_73 rfl
def f_M_writersInside_L4  (v1 : Int32) : Nat → Int32 → Int32 → Nm → Option (Int32 × Nm)
  | 0, _, _, _ => none
  | f + 1, v2, v3, M => grd (inb 0 176) <| if (M.1 87 (ix 0)) ≤ v3 then (some (v2, M)) else (bnd (f_M_writes v3 M) fun r1 M2 => if r1 = 0 then (f_M_writersInside_L4 v1 f (v2 + 0) (v3 + 1) M2) else (grd (inb v3 6) <| bnd (f_M_has (M2.2.1 93 (ix v3)) v1 M2) fun r3 M4 => if r3 = 0 then (f_M_writersInside_L4 v1 f (v2 + 0) (v3 + 1) M4) else (f_M_writersInside_L4 v1 f (v2 + 1) (v3 + 1) M4)))
theorem c_M_writersInside_L4 (l : Launch) (G : Gl)  (v1 : Int32)   : ∀ (f : Nat) (v2 : Int32) (v3 : Int32)  (M : Nm), NJ l G Y_X12_writersInside (zR 3 64) eI 4 [(0, aR G 86), (1, .int v1), (2, .int v2), (3, .int v3)] [] M (f_M_writersInside_L4 v1 f v2 v3 M) := by
  intro f
  induction f with
  | zero => intro v2 v3 M; exact s_none
  | succ f ih =>
    intro v2 v3 M
    rw [f_M_writersInside_L4]
    refine s_iload_n 3 dX12_writersInside_4 rfl ?_
    refine s_aload_n 0 dX12_writersInside_5 rfl ?_
    refine n_getR (x := 87) dX12_writersInside_6 okf_M_7_11 rfl rfl so_86 (sh_lt so_86 rfl) rfl ?_
    refine s_iconst (v := 0) dX12_writersInside_9 (by decide) ?_
    refine n_ial dX12_writersInside_10 sa_87 ?_
    refine s_icmp_ge (tgt := 49) dX12_writersInside_11 (by decide) (fun _ => ?_) (fun _ => ?_)
    · refine s_iload_n 2 dX12_writersInside_49 rfl ?_
      exact n_iret dX12_writersInside_50 rfl
    · refine s_iload_n 2 dX12_writersInside_14 rfl ?_
      refine s_aload_n 0 dX12_writersInside_15 rfl ?_
      refine s_iload_n 3 dX12_writersInside_16 rfl ?_
      refine n_invV_i dX12_writersInside_17 ok_X12_writes rfl wt_1046 wt_1048 ws_30 (ci := 11) rfl rfl so_86 (sh_lt so_86 rfl) [.int v3] rfl rfl rfl rfl (c_M_writes l G _ _) (fun r1 M2 => ?_)
      refine s_if_eq (tgt := 40) dX12_writersInside_20 (by decide) (fun _ => ?_) (fun _ => ?_)
      · refine s_iconst (v := 0) dX12_writersInside_40 (by decide) ?_
        refine s_iadd dX12_writersInside_41 ?_
        refine s_istore_n (i := 2) (lv' := [(2, .int (v2 + 0)), (0, aR G 86), (1, .int v1), (3, .int v3)]) dX12_writersInside_42 rfl rfl rfl ?_
        refine s_iinc (v := 1) (lv' := [(3, .int (v3 + 1)), (2, .int (v2 + 0)), (0, aR G 86), (1, .int v1)]) 3 dX12_writersInside_43 rfl (by decide) rfl rfl ?_
        refine s_goto (tgt := 4) dX12_writersInside_46 (by decide) ?_
        refine s_lv [2, 3, 1, 0] (lv' := [(0, aR G 86), (1, .int v1), (2, .int (v2 + 0)), (3, .int (v3 + 1))]) rfl ?_
        exact ih _ _ _
      · refine s_aload_n 0 dX12_writersInside_23 rfl ?_
        refine n_getR (x := 93) dX12_writersInside_24 okf_M_29_11 rfl rfl so_86 (sh_lt so_86 rfl) rfl ?_
        refine s_iload_n 3 dX12_writersInside_27 rfl ?_
        refine n_lal dX12_writersInside_28 sa_93 ?_
        refine s_iload_n 1 dX12_writersInside_29 rfl ?_
        refine n_invS_i dX12_writersInside_30 ok_X12_has rfl wt_1038 wt_1039 [.long (M2.2.1 93 (ix v3)), .int v1] rfl rfl rfl rfl (c_M_has l G _ _ _) (fun r3 M4 => ?_)
        refine s_if_eq (tgt := 40) dX12_writersInside_33 (by decide) (fun _ => ?_) (fun _ => ?_)
        · refine s_iconst (v := 0) dX12_writersInside_40 (by decide) ?_
          refine s_iadd dX12_writersInside_41 ?_
          refine s_istore_n (i := 2) (lv' := [(2, .int (v2 + 0)), (0, aR G 86), (1, .int v1), (3, .int v3)]) dX12_writersInside_42 rfl rfl rfl ?_
          refine s_iinc (v := 1) (lv' := [(3, .int (v3 + 1)), (2, .int (v2 + 0)), (0, aR G 86), (1, .int v1)]) 3 dX12_writersInside_43 rfl (by decide) rfl rfl ?_
          refine s_goto (tgt := 4) dX12_writersInside_46 (by decide) ?_
          refine s_lv [2, 3, 1, 0] (lv' := [(0, aR G 86), (1, .int v1), (2, .int (v2 + 0)), (3, .int (v3 + 1))]) rfl ?_
          exact ih _ _ _
        · refine s_iconst (v := 1) dX12_writersInside_36 (by decide) ?_
          refine s_goto (tgt := 41) dX12_writersInside_37 (by decide) ?_
          refine s_iadd dX12_writersInside_41 ?_
          refine s_istore_n (i := 2) (lv' := [(2, .int (v2 + 1)), (0, aR G 86), (1, .int v1), (3, .int v3)]) dX12_writersInside_42 rfl rfl rfl ?_
          refine s_iinc (v := 1) (lv' := [(3, .int (v3 + 1)), (2, .int (v2 + 1)), (0, aR G 86), (1, .int v1)]) 3 dX12_writersInside_43 rfl (by decide) rfl rfl ?_
          refine s_goto (tgt := 4) dX12_writersInside_46 (by decide) ?_
          refine s_lv [2, 3, 1, 0] (lv' := [(0, aR G 86), (1, .int v1), (2, .int (v2 + 1)), (3, .int (v3 + 1))]) rfl ?_
          exact ih _ _ _
def f_M_writersInside (v1 : Int32) (M : Nm) : Option (Int32 × Nm) := f_M_writersInside_L4 v1 FU 0 0 M
theorem c_M_writersInside (l : Launch) (G : Gl) (v1 : Int32)  (M : Nm) : NJ l G Y_X12_writersInside (zR 3 64) eI 0 (lv_args 0 [aR G 86, .int v1]) [] M (f_M_writersInside v1 M) := by
  unfold f_M_writersInside
  show NJ l G Y_X12_writersInside (zR 3 64) eI 0 [(0, aR G 86), (1, .int v1)] [] M _
  refine s_iconst (v := 0) dX12_writersInside_0 (by decide) ?_
  refine s_istore_n (i := 2) (lv' := [(2, .int 0), (0, aR G 86), (1, .int v1)]) dX12_writersInside_1 rfl rfl rfl ?_
  refine s_iconst (v := 0) dX12_writersInside_2 (by decide) ?_
  refine s_istore_n (i := 3) (lv' := [(3, .int 0), (2, .int 0), (0, aR G 86), (1, .int v1)]) dX12_writersInside_3 rfl rfl rfl ?_
  refine s_lv [2, 3, 1, 0] (lv' := [(0, aR G 86), (1, .int v1), (2, .int 0), (3, .int 0)]) rfl ?_
  refine c_M_writersInside_L4 l G _ FU _ _ _
def f_M_cells_B62 (k38 : Int64 → Int32 → Nm → Option (Int64 × Nm)) (v1 : Int32) (v4 : Int32) (s0 : Int32) (s1 : Int32) (s2 : Int64) (M : Nm) : Option (Int64 × Nm) := if s1 ≤ s0 then (k38 (s2 ||| 0) (v4 + 1) M) else (bl (s2 ||| (1 <<< (v4.toInt64 &&& 63))) fun x11 => k38 x11 (v4 + 1) M)
theorem c_M_cells_B62 (l : Launch) (G : Gl) {k38 : Int64 → Int32 → Nm → Option (Int64 × Nm)} (v1 : Int32) (v4 : Int32) (s0 : Int32) (s1 : Int32) (s2 : Int64)  (hk38 : ∀ (v2 : Int64) (v4 : Int32)  (M : Nm), NJ l G Y_X12_cells (zR 5 121) eL 38 [(0, aR G 86), (1, .int v1), (2, .long v2), (4, .int v4)] [] M (k38 v2 v4 M)) (M : Nm) : NJ l G Y_X12_cells (zR 5 121) eL 62 [(0, aR G 86), (1, .int v1), (4, .int v4)] [.int s0, .int s1, .long s2] M (f_M_cells_B62 k38 v1 v4 s0 s1 s2 M) := by
  unfold f_M_cells_B62
  refine s_icmp_le (tgt := 72) dX12_cells_62 (by decide) (fun _ => ?_) (fun _ => ?_)
  · refine s_lconst (v := 0) dX12_cells_72 (by decide) ?_
    refine s_lor dX12_cells_73 ?_
    refine s_lstore_n (i := 2) (lv' := [(2, .long (s2 ||| 0)), (0, aR G 86), (1, .int v1), (4, .int v4)]) dX12_cells_74 rfl rfl rfl ?_
    refine s_iinc (v := 1) (lv' := [(4, .int (v4 + 1)), (2, .long (s2 ||| 0)), (0, aR G 86), (1, .int v1)]) 3 dX12_cells_75 rfl (by decide) rfl rfl ?_
    refine s_goto (tgt := 38) dX12_cells_78 (by decide) ?_
    refine s_lv [2, 3, 1, 0] (lv' := [(0, aR G 86), (1, .int v1), (2, .long (s2 ||| 0)), (4, .int (v4 + 1))]) rfl ?_
    exact hk38 _ _ _
  · refine s_lconst (v := 1) dX12_cells_65 (by decide) ?_
    refine s_iload 2 dX12_cells_66 rfl ?_
    refine s_lshl dX12_cells_68 ?_
    refine s_goto (tgt := 73) dX12_cells_69 (by decide) ?_
    refine s_lor dX12_cells_73 ?_
    refine s_topl (fun x11 => ?_)
    refine s_lstore_n (i := 2) (lv' := [(2, .long x11), (0, aR G 86), (1, .int v1), (4, .int v4)]) dX12_cells_74 rfl rfl rfl ?_
    refine s_iinc (v := 1) (lv' := [(4, .int (v4 + 1)), (2, .long x11), (0, aR G 86), (1, .int v1)]) 3 dX12_cells_75 rfl (by decide) rfl rfl ?_
    refine s_goto (tgt := 38) dX12_cells_78 (by decide) ?_
    refine s_lv [2, 3, 1, 0] (lv' := [(0, aR G 86), (1, .int v1), (2, .long x11), (4, .int (v4 + 1))]) rfl ?_
    exact hk38 _ _ _
def f_M_cells_L38  (v1 : Int32) : Nat → Int64 → Int32 → Nm → Option (Int64 × Nm)
  | 0, _, _, _ => none
  | f + 1, v2, v4, M => if 48 ≤ v4 then (some (v2, M)) else (bnd (f_M_writersInside v4 M) fun r9 M10 => if v1 = 1 then (f_M_cells_B62 (f_M_cells_L38 v1 f) v1 v4 1 r9 v2 M10) else (f_M_cells_B62 (f_M_cells_L38 v1 f) v1 v4 0 r9 v2 M10))
theorem c_M_cells_L38 (l : Launch) (G : Gl)  (v1 : Int32)   : ∀ (f : Nat) (v2 : Int64) (v4 : Int32)  (M : Nm), NJ l G Y_X12_cells (zR 5 121) eL 38 [(0, aR G 86), (1, .int v1), (2, .long v2), (4, .int v4)] [] M (f_M_cells_L38 v1 f v2 v4 M) := by
  intro f
  induction f with
  | zero => intro v2 v4 M; exact s_none
  | succ f ih =>
    intro v2 v4 M
    rw [f_M_cells_L38]
    refine s_iload 3 dX12_cells_38 rfl ?_
    refine s_bipush (v := 48) dX12_cells_40 (by decide) ?_
    refine s_icmp_ge (tgt := 81) dX12_cells_42 (by decide) (fun _ => ?_) (fun _ => ?_)
    · refine s_lload_n 2 dX12_cells_81 rfl ?_
      exact n_lret dX12_cells_82 rfl
    · refine s_lload_n 2 dX12_cells_45 rfl ?_
      refine s_aload_n 0 dX12_cells_46 rfl ?_
      refine s_iload 3 dX12_cells_47 rfl ?_
      refine n_invV_i dX12_cells_49 ok_X12_writersInside rfl wt_1059 wt_1061 ws_32 (ci := 11) rfl rfl so_86 (sh_lt so_86 rfl) [.int v4] rfl rfl rfl rfl (c_M_writersInside l G _ _) (fun r9 M10 => ?_)
      refine s_iload_n 1 dX12_cells_52 rfl ?_
      refine s_iconst (v := 1) dX12_cells_53 (by decide) ?_
      refine s_icmp_ne (tgt := 61) dX12_cells_54 (by decide) (fun _ => ?_) (fun _ => ?_)
      · refine s_iconst (v := 1) dX12_cells_57 (by decide) ?_
        refine s_goto (tgt := 62) dX12_cells_58 (by decide) ?_
        refine s_lv [0, 1, 3] (lv' := [(0, aR G 86), (1, .int v1), (4, .int v4)]) rfl ?_
        exact c_M_cells_B62 l G _ _ _ _ _ ih _
      · refine s_iconst (v := 0) dX12_cells_61 (by decide) ?_
        refine s_lv [0, 1, 3] (lv' := [(0, aR G 86), (1, .int v1), (4, .int v4)]) rfl ?_
        exact c_M_cells_B62 l G _ _ _ _ _ ih _
def f_M_cells (v1 : Int32) (M : Nm) : Option (Int64 × Nm) := bnd (f_M_in v1.toInt64 0 2 M) fun r1 M2 => if r1 = 0 then (bnd (f_M_finds (-1000000001) M2) fun r3 M4 => some (r3.toInt64, M4)) else (if v1 = 0 then (bnd (f_M_smudges M2) fun r5 M6 => some (r5, M6)) else (bnd (f_M_writeAll M2) fun r7 M8 => f_M_cells_L38 v1 FU 0 0 M8))
theorem c_M_cells (l : Launch) (G : Gl) (v1 : Int32)  (M : Nm) : NJ l G Y_X12_cells (zR 5 121) eL 0 (lv_args 0 [aR G 86, .int v1]) [] M (f_M_cells v1 M) := by
  unfold f_M_cells
  show NJ l G Y_X12_cells (zR 5 121) eL 0 [(0, aR G 86), (1, .int v1)] [] M _
  refine s_iload_n 1 dX12_cells_0 rfl ?_
  refine s_i2l dX12_cells_1 ?_
  refine s_lconst (v := 0) dX12_cells_2 (by decide) ?_
  refine s_ldc2 (v := 2) dX12_cells_3 wt_1058 ?_
  refine n_invS_i dX12_cells_6 ok_X12_in rfl wt_984 wt_985 [.long v1.toInt64, .long 0, .long 2] rfl rfl rfl rfl (c_M_in l G _ _ _ _) (fun r1 M2 => ?_)
  refine s_if_ne (tgt := 20) dX12_cells_9 (by decide) (fun _ => ?_) (fun _ => ?_)
  · refine s_aload_n 0 dX12_cells_12 rfl ?_
    refine s_ldc (v := (-1000000001)) dX12_cells_13 wt_991 ?_
    refine n_invV_i dX12_cells_15 ok_X12_finds rfl wt_992 wt_994 ws_22 (ci := 11) rfl rfl so_86 (sh_lt so_86 rfl) [.int (-1000000001)] rfl rfl rfl rfl (c_M_finds l G _ _) (fun r3 M4 => ?_)
    refine s_i2l dX12_cells_18 ?_
    exact n_lret dX12_cells_19 rfl
  · refine s_iload_n 1 dX12_cells_20 rfl ?_
    refine s_if_ne (tgt := 29) dX12_cells_21 (by decide) (fun _ => ?_) (fun _ => ?_)
    · refine s_aload_n 0 dX12_cells_24 rfl ?_
      refine n_invV_l dX12_cells_25 ok_X12_smudges rfl wt_1005 wt_1007 ws_24 (ci := 11) rfl rfl so_86 (sh_lt so_86 rfl) [] rfl rfl rfl rfl (c_M_smudges l G _) (fun r5 M6 => ?_)
      exact n_lret dX12_cells_28 rfl
    · refine s_aload_n 0 dX12_cells_29 rfl ?_
      refine n_invV_u dX12_cells_30 ok_X12_writeAll rfl wt_1001 wt_1003 ws_23 (ci := 11) rfl rfl so_86 (sh_lt so_86 rfl) [] rfl rfl rfl rfl (c_M_writeAll l G _) (fun r7 M8 => ?_)
      refine s_lconst (v := 0) dX12_cells_33 (by decide) ?_
      refine s_lstore_n (i := 2) (lv' := [(2, .long 0), (0, aR G 86), (1, .int v1)]) dX12_cells_34 rfl rfl rfl ?_
      refine s_iconst (v := 0) dX12_cells_35 (by decide) ?_
      refine s_istore (lv' := [(4, .int 0), (2, .long 0), (0, aR G 86), (1, .int v1)]) dX12_cells_36 rfl rfl ?_
      refine s_lv [2, 3, 1, 0] (lv' := [(0, aR G 86), (1, .int v1), (2, .long 0), (4, .int 0)]) rfl ?_
      refine c_M_cells_L38 l G _ FU _ _ _
def f_M_adds_L10 (k35 : Nm → Option (Int32 × Nm)) (v1 : Int32) (v2 : Int32) (v3 : Int32) : Nat → Int32 → Nm → Option (Int32 × Nm)
  | 0, _, _ => none
  | f + 1, v4, M => if 21 ≤ v4 then (k35 M) else (bnd (f_M_spot v3 v4 M) fun r1 M2 => grd (inb r1 176) <| bl (mI M2 87 (ix r1) 0) fun M3 => f_M_adds_L10 k35 v1 v2 v3 f (v4 + 1) M3)
theorem c_M_adds_L10 (l : Launch) (G : Gl) {k35 : Nm → Option (Int32 × Nm)} (v1 : Int32) (v2 : Int32) (v3 : Int32)  (hk35 : ∀   (M : Nm), NJ l G Y_X12_adds (zR 1 21) eI 35 [(0, aR G 86), (1, .int v1), (2, .int v2), (3, .int v3)] [] M (k35 M)) : ∀ (f : Nat) (v4 : Int32)  (M : Nm), NJ l G Y_X12_adds (zR 1 21) eI 10 [(0, aR G 86), (1, .int v1), (2, .int v2), (3, .int v3), (4, .int v4)] [] M (f_M_adds_L10 k35 v1 v2 v3 f v4 M) := by
  intro f
  induction f with
  | zero => intro v4 M; exact s_none
  | succ f ih =>
    intro v4 M
    rw [f_M_adds_L10]
    refine s_iload 4 dX12_adds_10 rfl ?_
    refine s_bipush (v := 21) dX12_adds_12 (by decide) ?_
    refine s_icmp_ge (tgt := 35) dX12_adds_14 (by decide) (fun _ => ?_) (fun _ => ?_)
    · refine s_lv [0, 1, 2, 3] (lv' := [(0, aR G 86), (1, .int v1), (2, .int v2), (3, .int v3)]) rfl ?_
      exact hk35 _
    · refine s_aload_n 0 dX12_adds_17 rfl ?_
      refine n_getR (x := 87) dX12_adds_18 okf_M_7_11 rfl rfl so_86 (sh_lt so_86 rfl) rfl ?_
      refine s_iload_n 3 dX12_adds_21 rfl ?_
      refine s_iload 4 dX12_adds_22 rfl ?_
      refine n_invS_i dX12_adds_24 ok_X12_spot rfl wt_1017 wt_1018 [.int v3, .int v4] rfl rfl rfl rfl (c_M_spot l G _ _ _) (fun r1 M2 => ?_)
      refine s_iconst (v := 0) dX12_adds_27 (by decide) ?_
      refine n_ias dX12_adds_28 sa_87 ?_
      refine s_topM (fun M3 => ?_)
      refine s_iinc (v := 1) (lv' := [(4, .int (v4 + 1)), (0, aR G 86), (1, .int v1), (2, .int v2), (3, .int v3)]) 4 dX12_adds_29 rfl (by decide) rfl rfl ?_
      refine s_goto (tgt := 10) dX12_adds_32 (by decide) ?_
      refine s_lv [1, 2, 3, 4, 0] (lv' := [(0, aR G 86), (1, .int v1), (2, .int v2), (3, .int v3), (4, .int (v4 + 1))]) rfl ?_
      exact ih _ _
def f_M_adds (v1 : Int32) (v2 : Int32) (M : Nm) : Option (Int32 × Nm) := grd (inb 0 176) <| f_M_adds_L10 (fun M4 => bnd (f_M_spot (M.1 87 (ix 0)) 0 M4) fun r5 M6 => grd (inb r5 176) <| bl (mI M6 87 (ix r5) v1) fun M7 => bnd (f_M_spot (M.1 87 (ix 0)) 1 M7) fun r8 M9 => grd (inb r8 176) <| bl (mI M9 87 (ix r8) v2) fun M10 => bnd (f_M_spot (M.1 87 (ix 0)) 2 M10) fun r11 M12 => grd (inb r11 176) <| bl (mI M12 87 (ix r11) 30) fun M13 => grd (inb 0 176) <| grd (inb 0 176) <| bl (mI M13 87 (ix 0) ((M13.1 87 (ix 0)) + 1)) fun M14 => some (M.1 87 (ix 0), M14)) v1 v2 (M.1 87 (ix 0)) FU 0 M
theorem c_M_adds (l : Launch) (G : Gl) (v1 : Int32) (v2 : Int32)  (M : Nm) : NJ l G Y_X12_adds (zR 1 21) eI 0 (lv_args 0 [aR G 86, .int v1, .int v2]) [] M (f_M_adds v1 v2 M) := by
  unfold f_M_adds
  show NJ l G Y_X12_adds (zR 1 21) eI 0 [(0, aR G 86), (1, .int v1), (2, .int v2)] [] M _
  refine s_aload_n 0 dX12_adds_0 rfl ?_
  refine n_getR (x := 87) dX12_adds_1 okf_M_7_11 rfl rfl so_86 (sh_lt so_86 rfl) rfl ?_
  refine s_iconst (v := 0) dX12_adds_4 (by decide) ?_
  refine n_ial dX12_adds_5 sa_87 ?_
  refine s_istore_n (i := 3) (lv' := [(3, .int (M.1 87 (ix 0))), (0, aR G 86), (1, .int v1), (2, .int v2)]) dX12_adds_6 rfl rfl rfl ?_
  refine s_iconst (v := 0) dX12_adds_7 (by decide) ?_
  refine s_istore (lv' := [(4, .int 0), (3, .int (M.1 87 (ix 0))), (0, aR G 86), (1, .int v1), (2, .int v2)]) dX12_adds_8 rfl rfl ?_
  refine s_lv [2, 3, 4, 1, 0] (lv' := [(0, aR G 86), (1, .int v1), (2, .int v2), (3, .int (M.1 87 (ix 0))), (4, .int 0)]) rfl ?_
  refine c_M_adds_L10 l G _ _ _ (fun M4 => ?_) FU _ _
  refine s_aload_n 0 dX12_adds_35 rfl ?_
  refine n_getR (x := 87) dX12_adds_36 okf_M_7_11 rfl rfl so_86 (sh_lt so_86 rfl) rfl ?_
  refine s_iload_n 3 dX12_adds_39 rfl ?_
  refine s_iconst (v := 0) dX12_adds_40 (by decide) ?_
  refine n_invS_i dX12_adds_41 ok_X12_spot rfl wt_1017 wt_1018 [.int (M.1 87 (ix 0)), .int 0] rfl rfl rfl rfl (c_M_spot l G _ _ _) (fun r5 M6 => ?_)
  refine s_iload_n 1 dX12_adds_44 rfl ?_
  refine n_ias dX12_adds_45 sa_87 ?_
  refine s_topM (fun M7 => ?_)
  refine s_aload_n 0 dX12_adds_46 rfl ?_
  refine n_getR (x := 87) dX12_adds_47 okf_M_7_11 rfl rfl so_86 (sh_lt so_86 rfl) rfl ?_
  refine s_iload_n 3 dX12_adds_50 rfl ?_
  refine s_iconst (v := 1) dX12_adds_51 (by decide) ?_
  refine n_invS_i dX12_adds_52 ok_X12_spot rfl wt_1017 wt_1018 [.int (M.1 87 (ix 0)), .int 1] rfl rfl rfl rfl (c_M_spot l G _ _ _) (fun r8 M9 => ?_)
  refine s_iload_n 2 dX12_adds_55 rfl ?_
  refine n_ias dX12_adds_56 sa_87 ?_
  refine s_topM (fun M10 => ?_)
  refine s_aload_n 0 dX12_adds_57 rfl ?_
  refine n_getR (x := 87) dX12_adds_58 okf_M_7_11 rfl rfl so_86 (sh_lt so_86 rfl) rfl ?_
  refine s_iload_n 3 dX12_adds_61 rfl ?_
  refine s_iconst (v := 2) dX12_adds_62 (by decide) ?_
  refine n_invS_i dX12_adds_63 ok_X12_spot rfl wt_1017 wt_1018 [.int (M.1 87 (ix 0)), .int 2] rfl rfl rfl rfl (c_M_spot l G _ _ _) (fun r11 M12 => ?_)
  refine s_bipush (v := 30) dX12_adds_66 (by decide) ?_
  refine n_ias dX12_adds_68 sa_87 ?_
  refine s_topM (fun M13 => ?_)
  refine s_aload_n 0 dX12_adds_69 rfl ?_
  refine n_getR (x := 87) dX12_adds_70 okf_M_7_11 rfl rfl so_86 (sh_lt so_86 rfl) rfl ?_
  refine s_iconst (v := 0) dX12_adds_73 (by decide) ?_
  refine s_dup2 dX12_adds_74 rfl rfl ?_
  refine n_ial dX12_adds_75 sa_87 ?_
  refine s_iconst (v := 1) dX12_adds_76 (by decide) ?_
  refine s_iadd dX12_adds_77 ?_
  refine n_ias dX12_adds_78 sa_87 ?_
  refine s_topM (fun M14 => ?_)
  refine s_iload_n 3 dX12_adds_79 rfl ?_
  exact n_iret dX12_adds_80 rfl
def f_M_hand (v1 : Int32) (v2 : Int32) (M : Nm) : Option (Int32 × Nm) := bnd (f_M_isKind v1 M) fun r1 M2 => if r1 = 0 then (bnd (f_M_finds (-1000000001) M2) fun r3 M4 => some (r3, M4)) else (bnd (f_M_isCell v2 M2) fun r5 M6 => if r5 = 0 then (bnd (f_M_finds (-1000000001) M6) fun r7 M8 => some (r7, M8)) else (grd (inb 0 176) <| if (M6.1 87 (ix 0)) = 6 then (bnd (f_M_finds (-1000000002) M6) fun r9 M10 => some (r9, M10)) else (bnd (f_M_adds v1 v2 M6) fun r11 M12 => some (r11, M12))))
theorem c_M_hand (l : Launch) (G : Gl) (v1 : Int32) (v2 : Int32)  (M : Nm) : NJ l G Y_X12_hand (zR 2 45) eI 0 (lv_args 0 [aR G 86, .int v1, .int v2]) [] M (f_M_hand v1 v2 M) := by
  unfold f_M_hand
  show NJ l G Y_X12_hand (zR 2 45) eI 0 [(0, aR G 86), (1, .int v1), (2, .int v2)] [] M _
  refine s_iload_n 1 dX12_hand_0 rfl ?_
  refine n_invS_i dX12_hand_1 ok_X12_isKind rfl wt_1067 wt_1068 [.int v1] rfl rfl rfl rfl (c_M_isKind l G _ _) (fun r1 M2 => ?_)
  refine s_if_eq (tgt := 14) dX12_hand_4 (by decide) (fun _ => ?_) (fun _ => ?_)
  · refine s_aload_n 0 dX12_hand_14 rfl ?_
    refine s_ldc (v := (-1000000001)) dX12_hand_15 wt_991 ?_
    refine n_invV_i dX12_hand_17 ok_X12_finds rfl wt_992 wt_994 ws_22 (ci := 11) rfl rfl so_86 (sh_lt so_86 rfl) [.int (-1000000001)] rfl rfl rfl rfl (c_M_finds l G _ _) (fun r3 M4 => ?_)
    exact n_iret dX12_hand_20 rfl
  · refine s_iload_n 2 dX12_hand_7 rfl ?_
    refine n_invS_i dX12_hand_8 ok_X12_isCell rfl wt_980 wt_981 [.int v2] rfl rfl rfl rfl (c_M_isCell l G _ _) (fun r5 M6 => ?_)
    refine s_if_ne (tgt := 21) dX12_hand_11 (by decide) (fun _ => ?_) (fun _ => ?_)
    · refine s_aload_n 0 dX12_hand_14 rfl ?_
      refine s_ldc (v := (-1000000001)) dX12_hand_15 wt_991 ?_
      refine n_invV_i dX12_hand_17 ok_X12_finds rfl wt_992 wt_994 ws_22 (ci := 11) rfl rfl so_86 (sh_lt so_86 rfl) [.int (-1000000001)] rfl rfl rfl rfl (c_M_finds l G _ _) (fun r7 M8 => ?_)
      exact n_iret dX12_hand_20 rfl
    · refine s_aload_n 0 dX12_hand_21 rfl ?_
      refine n_getR (x := 87) dX12_hand_22 okf_M_7_11 rfl rfl so_86 (sh_lt so_86 rfl) rfl ?_
      refine s_iconst (v := 0) dX12_hand_25 (by decide) ?_
      refine n_ial dX12_hand_26 sa_87 ?_
      refine s_bipush (v := 6) dX12_hand_27 (by decide) ?_
      refine s_icmp_ne (tgt := 41) dX12_hand_29 (by decide) (fun _ => ?_) (fun _ => ?_)
      · refine s_aload_n 0 dX12_hand_32 rfl ?_
        refine s_ldc (v := (-1000000002)) dX12_hand_33 wt_1071 ?_
        refine n_invV_i dX12_hand_35 ok_X12_finds rfl wt_992 wt_994 ws_22 (ci := 11) rfl rfl so_86 (sh_lt so_86 rfl) [.int (-1000000002)] rfl rfl rfl rfl (c_M_finds l G _ _) (fun r9 M10 => ?_)
        refine s_goto (tgt := 47) dX12_hand_38 (by decide) ?_
        exact n_iret dX12_hand_47 rfl
      · refine s_aload_n 0 dX12_hand_41 rfl ?_
        refine s_iload_n 1 dX12_hand_42 rfl ?_
        refine s_iload_n 2 dX12_hand_43 rfl ?_
        refine n_invV_i dX12_hand_44 ok_X12_adds rfl wt_1072 wt_1074 ws_33 (ci := 11) rfl rfl so_86 (sh_lt so_86 rfl) [.int v1, .int v2] rfl rfl rfl rfl (c_M_adds l G _ _ _) (fun r11 M12 => ?_)
        exact n_iret dX12_hand_47 rfl
def f_M_strokes (v1 : Int32) (v2 : Int32) (v3 : Int32) (M : Nm) : Option (Int32 × Nm) := bnd (f_M_its v1 4 M) fun r1 M2 => bnd (f_M_spot v1 (5 + r1) M2) fun r3 M4 => grd (inb r3 176) <| bl (mI M4 87 (ix r3) v2) fun M5 => bnd (f_M_spot v1 (13 + r1) M5) fun r6 M7 => grd (inb r6 176) <| bl (mI M7 87 (ix r6) v3) fun M8 => bnd (f_M_spot v1 4 M8) fun r9 M10 => grd (inb r9 176) <| grd (inb r9 176) <| bl (mI M10 87 (ix r9) ((M10.1 87 (ix r9)) + 1)) fun M11 => some (r1 + 1, M11)
theorem c_M_strokes (l : Launch) (G : Gl) (v1 : Int32) (v2 : Int32) (v3 : Int32)  (M : Nm) : NJ l G Y_X12_strokes (zR 2 43) eI 0 (lv_args 0 [aR G 86, .int v1, .int v2, .int v3]) [] M (f_M_strokes v1 v2 v3 M) := by
  unfold f_M_strokes
  show NJ l G Y_X12_strokes (zR 2 43) eI 0 [(0, aR G 86), (1, .int v1), (2, .int v2), (3, .int v3)] [] M _
  refine s_aload_n 0 dX12_strokes_0 rfl ?_
  refine s_iload_n 1 dX12_strokes_1 rfl ?_
  refine s_iconst (v := 4) dX12_strokes_2 (by decide) ?_
  refine n_invV_i dX12_strokes_3 ok_X12_its rfl wt_1013 wt_1015 ws_26 (ci := 11) rfl rfl so_86 (sh_lt so_86 rfl) [.int v1, .int 4] rfl rfl rfl rfl (c_M_its l G _ _ _) (fun r1 M2 => ?_)
  refine s_istore (lv' := [(4, .int r1), (0, aR G 86), (1, .int v1), (2, .int v2), (3, .int v3)]) dX12_strokes_6 rfl rfl ?_
  refine s_aload_n 1 dX12_strokes_8 rfl ?_
  refine n_getR (x := 87) dX12_strokes_9 okf_M_7_11 rfl rfl so_86 (sh_lt so_86 rfl) rfl ?_
  refine s_iload_n 2 dX12_strokes_12 rfl ?_
  refine s_iconst (v := 5) dX12_strokes_13 (by decide) ?_
  refine s_iload 0 dX12_strokes_14 rfl ?_
  refine s_iadd dX12_strokes_16 ?_
  refine n_invS_i dX12_strokes_17 ok_X12_spot rfl wt_1017 wt_1018 [.int v1, .int (5 + r1)] rfl rfl rfl rfl (c_M_spot l G _ _ _) (fun r3 M4 => ?_)
  refine s_iload_n 3 dX12_strokes_20 rfl ?_
  refine n_ias dX12_strokes_21 sa_87 ?_
  refine s_topM (fun M5 => ?_)
  refine s_aload_n 1 dX12_strokes_22 rfl ?_
  refine n_getR (x := 87) dX12_strokes_23 okf_M_7_11 rfl rfl so_86 (sh_lt so_86 rfl) rfl ?_
  refine s_iload_n 2 dX12_strokes_26 rfl ?_
  refine s_bipush (v := 13) dX12_strokes_27 (by decide) ?_
  refine s_iload 0 dX12_strokes_29 rfl ?_
  refine s_iadd dX12_strokes_31 ?_
  refine n_invS_i dX12_strokes_32 ok_X12_spot rfl wt_1017 wt_1018 [.int v1, .int (13 + r1)] rfl rfl rfl rfl (c_M_spot l G _ _ _) (fun r6 M7 => ?_)
  refine s_iload_n 4 dX12_strokes_35 rfl ?_
  refine n_ias dX12_strokes_36 sa_87 ?_
  refine s_topM (fun M8 => ?_)
  refine s_aload_n 1 dX12_strokes_37 rfl ?_
  refine n_getR (x := 87) dX12_strokes_38 okf_M_7_11 rfl rfl so_86 (sh_lt so_86 rfl) rfl ?_
  refine s_iload_n 2 dX12_strokes_41 rfl ?_
  refine s_iconst (v := 4) dX12_strokes_42 (by decide) ?_
  refine n_invS_i dX12_strokes_43 ok_X12_spot rfl wt_1017 wt_1018 [.int v1, .int 4] rfl rfl rfl rfl (c_M_spot l G _ _ _) (fun r9 M10 => ?_)
  refine s_dup2 dX12_strokes_46 rfl rfl ?_
  refine n_ial dX12_strokes_47 sa_87 ?_
  refine s_iconst (v := 1) dX12_strokes_48 (by decide) ?_
  refine s_iadd dX12_strokes_49 ?_
  refine n_ias dX12_strokes_50 sa_87 ?_
  refine s_topM (fun M11 => ?_)
  refine s_iload 0 dX12_strokes_51 rfl ?_
  refine s_iconst (v := 1) dX12_strokes_53 (by decide) ?_
  refine s_iadd dX12_strokes_54 ?_
  exact n_iret dX12_strokes_55 rfl
def f_M_stroke (v1 : Int32) (v2 : Int32) (v3 : Int32) (M : Nm) : Option (Int32 × Nm) := bnd (f_M_isHand v1 M) fun r1 M2 => if r1 = 0 then (bnd (f_M_finds (-1000000001) M2) fun r3 M4 => some (r3, M4)) else (bnd (f_M_isWay v2 M2) fun r5 M6 => if r5 = 0 then (bnd (f_M_finds (-1000000001) M6) fun r7 M8 => some (r7, M8)) else (bnd (f_M_in v3.toInt64 1 7 M6) fun r9 M10 => if r9 = 0 then (bnd (f_M_finds (-1000000001) M10) fun r11 M12 => some (r11, M12)) else (bnd (f_M_its v1 4 M10) fun r13 M14 => if r13 = 8 then (bnd (f_M_finds (-1000000002) M14) fun r15 M16 => some (r15, M16)) else (bnd (f_M_strokes v1 v2 v3 M14) fun r17 M18 => some (r17, M18)))))
theorem c_M_stroke (l : Launch) (G : Gl) (v1 : Int32) (v2 : Int32) (v3 : Int32)  (M : Nm) : NJ l G Y_X12_stroke (zR 3 67) eI 0 (lv_args 0 [aR G 86, .int v1, .int v2, .int v3]) [] M (f_M_stroke v1 v2 v3 M) := by
  unfold f_M_stroke
  show NJ l G Y_X12_stroke (zR 3 67) eI 0 [(0, aR G 86), (1, .int v1), (2, .int v2), (3, .int v3)] [] M _
  refine s_aload_n 0 dX12_stroke_0 rfl ?_
  refine s_iload_n 1 dX12_stroke_1 rfl ?_
  refine n_invV_i dX12_stroke_2 ok_X12_isHand rfl wt_1080 wt_1082 ws_34 (ci := 11) rfl rfl so_86 (sh_lt so_86 rfl) [.int v1] rfl rfl rfl rfl (c_M_isHand l G _ _) (fun r1 M2 => ?_)
  refine s_if_eq (tgt := 27) dX12_stroke_5 (by decide) (fun _ => ?_) (fun _ => ?_)
  · refine s_aload_n 0 dX12_stroke_27 rfl ?_
    refine s_ldc (v := (-1000000001)) dX12_stroke_28 wt_991 ?_
    refine n_invV_i dX12_stroke_30 ok_X12_finds rfl wt_992 wt_994 ws_22 (ci := 11) rfl rfl so_86 (sh_lt so_86 rfl) [.int (-1000000001)] rfl rfl rfl rfl (c_M_finds l G _ _) (fun r3 M4 => ?_)
    exact n_iret dX12_stroke_33 rfl
  · refine s_iload_n 2 dX12_stroke_8 rfl ?_
    refine n_invS_i dX12_stroke_9 ok_X12_isWay rfl wt_1084 wt_1085 [.int v2] rfl rfl rfl rfl (c_M_isWay l G _ _) (fun r5 M6 => ?_)
    refine s_if_eq (tgt := 27) dX12_stroke_12 (by decide) (fun _ => ?_) (fun _ => ?_)
    · refine s_aload_n 0 dX12_stroke_27 rfl ?_
      refine s_ldc (v := (-1000000001)) dX12_stroke_28 wt_991 ?_
      refine n_invV_i dX12_stroke_30 ok_X12_finds rfl wt_992 wt_994 ws_22 (ci := 11) rfl rfl so_86 (sh_lt so_86 rfl) [.int (-1000000001)] rfl rfl rfl rfl (c_M_finds l G _ _) (fun r7 M8 => ?_)
      exact n_iret dX12_stroke_33 rfl
    · refine s_iload_n 3 dX12_stroke_15 rfl ?_
      refine s_i2l dX12_stroke_16 ?_
      refine s_lconst (v := 1) dX12_stroke_17 (by decide) ?_
      refine s_ldc2 (v := 7) dX12_stroke_18 wt_1087 ?_
      refine n_invS_i dX12_stroke_21 ok_X12_in rfl wt_984 wt_985 [.long v3.toInt64, .long 1, .long 7] rfl rfl rfl rfl (c_M_in l G _ _ _ _) (fun r9 M10 => ?_)
      refine s_if_ne (tgt := 34) dX12_stroke_24 (by decide) (fun _ => ?_) (fun _ => ?_)
      · refine s_aload_n 0 dX12_stroke_27 rfl ?_
        refine s_ldc (v := (-1000000001)) dX12_stroke_28 wt_991 ?_
        refine n_invV_i dX12_stroke_30 ok_X12_finds rfl wt_992 wt_994 ws_22 (ci := 11) rfl rfl so_86 (sh_lt so_86 rfl) [.int (-1000000001)] rfl rfl rfl rfl (c_M_finds l G _ _) (fun r11 M12 => ?_)
        exact n_iret dX12_stroke_33 rfl
      · refine s_aload_n 0 dX12_stroke_34 rfl ?_
        refine s_iload_n 1 dX12_stroke_35 rfl ?_
        refine s_iconst (v := 4) dX12_stroke_36 (by decide) ?_
        refine n_invV_i dX12_stroke_37 ok_X12_its rfl wt_1013 wt_1015 ws_26 (ci := 11) rfl rfl so_86 (sh_lt so_86 rfl) [.int v1, .int 4] rfl rfl rfl rfl (c_M_its l G _ _ _) (fun r13 M14 => ?_)
        refine s_bipush (v := 8) dX12_stroke_40 (by decide) ?_
        refine s_icmp_ne (tgt := 54) dX12_stroke_42 (by decide) (fun _ => ?_) (fun _ => ?_)
        · refine s_aload_n 0 dX12_stroke_45 rfl ?_
          refine s_ldc (v := (-1000000002)) dX12_stroke_46 wt_1071 ?_
          refine n_invV_i dX12_stroke_48 ok_X12_finds rfl wt_992 wt_994 ws_22 (ci := 11) rfl rfl so_86 (sh_lt so_86 rfl) [.int (-1000000002)] rfl rfl rfl rfl (c_M_finds l G _ _) (fun r15 M16 => ?_)
          refine s_goto (tgt := 61) dX12_stroke_51 (by decide) ?_
          exact n_iret dX12_stroke_61 rfl
        · refine s_aload_n 0 dX12_stroke_54 rfl ?_
          refine s_iload_n 1 dX12_stroke_55 rfl ?_
          refine s_iload_n 2 dX12_stroke_56 rfl ?_
          refine s_iload_n 3 dX12_stroke_57 rfl ?_
          refine n_invV_i dX12_stroke_58 ok_X12_strokes rfl wt_1088 wt_1090 ws_35 (ci := 11) rfl rfl so_86 (sh_lt so_86 rfl) [.int v1, .int v2, .int v3] rfl rfl rfl rfl (c_M_strokes l G _ _ _ _) (fun r17 M18 => ?_)
          exact n_iret dX12_stroke_61 rfl
def f_M_of (v1 : Int32) (v2 : Int32) (M : Nm) : Option (Int32 × Nm) := bnd (f_M_isHand v1 M) fun r1 M2 => if r1 = 0 then (bnd (f_M_finds (-1000000001) M2) fun r3 M4 => some (r3, M4)) else (bnd (f_M_in v2.toInt64 0 9 M2) fun r5 M6 => if r5 = 0 then (bnd (f_M_finds (-1000000001) M6) fun r7 M8 => some (r7, M8)) else (bnd (f_M_writeAll M6) fun r9 M10 => if v2 = 5 then (grd (inb v1 6) <| some (M10.1 94 (ix v1), M10)) else if v2 = 6 then (bnd (f_M_writes v1 M10) fun r13 M14 => if r13 = 0 then (some (0, M14)) else (some (1, M14))) else if v2 = 7 then (grd (inb v1 6) <| bnd (f_M_ones (M10.2.1 93 (ix v1)) M10) fun r16 M17 => some (r16, M17)) else if v2 = 8 then (bnd (f_M_ownedBy v1 M10) fun r19 M20 => some (r19, M20)) else if v2 = 9 then (bnd (f_M_cropOf v1 M10) fun r22 M23 => some (r22, M23)) else (bnd (f_M_its v1 v2 M10) fun r24 M25 => some (r24, M25))))
theorem c_M_of (l : Launch) (G : Gl) (v1 : Int32) (v2 : Int32)  (M : Nm) : NJ l G Y_X12_of (zR 5 121) eI 0 (lv_args 0 [aR G 86, .int v1, .int v2]) [] M (f_M_of v1 v2 M) := by
  unfold f_M_of
  show NJ l G Y_X12_of (zR 5 121) eI 0 [(0, aR G 86), (1, .int v1), (2, .int v2)] [] M _
  refine s_aload_n 0 dX12_of_0 rfl ?_
  refine s_iload_n 1 dX12_of_1 rfl ?_
  refine n_invV_i dX12_of_2 ok_X12_isHand rfl wt_1080 wt_1082 ws_34 (ci := 11) rfl rfl so_86 (sh_lt so_86 rfl) [.int v1] rfl rfl rfl rfl (c_M_isHand l G _ _) (fun r1 M2 => ?_)
  refine s_if_eq (tgt := 20) dX12_of_5 (by decide) (fun _ => ?_) (fun _ => ?_)
  · refine s_aload_n 0 dX12_of_20 rfl ?_
    refine s_ldc (v := (-1000000001)) dX12_of_21 wt_991 ?_
    refine n_invV_i dX12_of_23 ok_X12_finds rfl wt_992 wt_994 ws_22 (ci := 11) rfl rfl so_86 (sh_lt so_86 rfl) [.int (-1000000001)] rfl rfl rfl rfl (c_M_finds l G _ _) (fun r3 M4 => ?_)
    exact n_iret dX12_of_26 rfl
  · refine s_iload_n 2 dX12_of_8 rfl ?_
    refine s_i2l dX12_of_9 ?_
    refine s_lconst (v := 0) dX12_of_10 (by decide) ?_
    refine s_ldc2 (v := 9) dX12_of_11 wt_1096 ?_
    refine n_invS_i dX12_of_14 ok_X12_in rfl wt_984 wt_985 [.long v2.toInt64, .long 0, .long 9] rfl rfl rfl rfl (c_M_in l G _ _ _ _) (fun r5 M6 => ?_)
    refine s_if_ne (tgt := 27) dX12_of_17 (by decide) (fun _ => ?_) (fun _ => ?_)
    · refine s_aload_n 0 dX12_of_20 rfl ?_
      refine s_ldc (v := (-1000000001)) dX12_of_21 wt_991 ?_
      refine n_invV_i dX12_of_23 ok_X12_finds rfl wt_992 wt_994 ws_22 (ci := 11) rfl rfl so_86 (sh_lt so_86 rfl) [.int (-1000000001)] rfl rfl rfl rfl (c_M_finds l G _ _) (fun r7 M8 => ?_)
      exact n_iret dX12_of_26 rfl
    · refine s_aload_n 0 dX12_of_27 rfl ?_
      refine n_invV_u dX12_of_28 ok_X12_writeAll rfl wt_1001 wt_1003 ws_23 (ci := 11) rfl rfl so_86 (sh_lt so_86 rfl) [] rfl rfl rfl rfl (c_M_writeAll l G _) (fun r9 M10 => ?_)
      refine s_iload_n 2 dX12_of_31 rfl ?_
      refine s_ite (fun h11 => ?_) (fun h11 => ?_)
      · refine s_tin (tgt := 68) dX12_of_32 (by rw [h11]; decide) (by rw [h11]; decide) (by rw [h11]; rfl) (by decide) ?_
        refine s_aload_n 0 dX12_of_68 rfl ?_
        refine n_getR (x := 94) dX12_of_69 okf_M_32_11 rfl rfl so_86 (sh_lt so_86 rfl) rfl ?_
        refine s_iload_n 1 dX12_of_72 rfl ?_
        refine n_ial dX12_of_73 sa_94 ?_
        exact n_iret dX12_of_74 rfl
      refine s_ite (fun h12 => ?_) (fun h12 => ?_)
      · refine s_tin (tgt := 75) dX12_of_32 (by rw [h12]; decide) (by rw [h12]; decide) (by rw [h12]; rfl) (by decide) ?_
        refine s_aload_n 0 dX12_of_75 rfl ?_
        refine s_iload_n 1 dX12_of_76 rfl ?_
        refine n_invV_i dX12_of_77 ok_X12_writes rfl wt_1046 wt_1048 ws_30 (ci := 11) rfl rfl so_86 (sh_lt so_86 rfl) [.int v1] rfl rfl rfl rfl (c_M_writes l G _ _) (fun r13 M14 => ?_)
        refine s_if_eq (tgt := 87) dX12_of_80 (by decide) (fun _ => ?_) (fun _ => ?_)
        · refine s_iconst (v := 0) dX12_of_87 (by decide) ?_
          exact n_iret dX12_of_88 rfl
        · refine s_iconst (v := 1) dX12_of_83 (by decide) ?_
          refine s_goto (tgt := 88) dX12_of_84 (by decide) ?_
          exact n_iret dX12_of_88 rfl
      refine s_ite (fun h15 => ?_) (fun h15 => ?_)
      · refine s_tin (tgt := 89) dX12_of_32 (by rw [h15]; decide) (by rw [h15]; decide) (by rw [h15]; rfl) (by decide) ?_
        refine s_aload_n 0 dX12_of_89 rfl ?_
        refine n_getR (x := 93) dX12_of_90 okf_M_29_11 rfl rfl so_86 (sh_lt so_86 rfl) rfl ?_
        refine s_iload_n 1 dX12_of_93 rfl ?_
        refine n_lal dX12_of_94 sa_93 ?_
        refine n_invS_i dX12_of_95 ok_X12_ones rfl wt_1097 wt_1098 [.long (M10.2.1 93 (ix v1))] rfl rfl rfl rfl (c_M_ones l G _ _) (fun r16 M17 => ?_)
        exact n_iret dX12_of_98 rfl
      refine s_ite (fun h18 => ?_) (fun h18 => ?_)
      · refine s_tin (tgt := 99) dX12_of_32 (by rw [h18]; decide) (by rw [h18]; decide) (by rw [h18]; rfl) (by decide) ?_
        refine s_aload_n 0 dX12_of_99 rfl ?_
        refine s_iload_n 1 dX12_of_100 rfl ?_
        refine n_invV_i dX12_of_101 ok_X12_ownedBy rfl wt_1100 wt_1102 ws_36 (ci := 11) rfl rfl so_86 (sh_lt so_86 rfl) [.int v1] rfl rfl rfl rfl (c_M_ownedBy l G _ _) (fun r19 M20 => ?_)
        exact n_iret dX12_of_104 rfl
      refine s_ite (fun h21 => ?_) (fun h21 => ?_)
      · refine s_tin (tgt := 105) dX12_of_32 (by rw [h21]; decide) (by rw [h21]; decide) (by rw [h21]; rfl) (by decide) ?_
        refine s_aload_n 0 dX12_of_105 rfl ?_
        refine s_iload_n 1 dX12_of_106 rfl ?_
        refine n_invV_i dX12_of_107 ok_X12_cropOf rfl wt_1104 wt_1106 ws_37 (ci := 11) rfl rfl so_86 (sh_lt so_86 rfl) [.int v1] rfl rfl rfl rfl (c_M_cropOf l G _ _) (fun r22 M23 => ?_)
        exact n_iret dX12_of_110 rfl
      refine s_tout (tgt := 111) dX12_of_32 (sw_out (fun k h1 h2 => by rcases (show k = 5 ∨ k = 6 ∨ k = 7 ∨ k = 8 ∨ k = 9 by omega) with rfl | rfl | rfl | rfl | rfl <;> assumption)) (by decide) ?_
      refine s_aload_n 0 dX12_of_111 rfl ?_
      refine s_iload_n 1 dX12_of_112 rfl ?_
      refine s_iload_n 2 dX12_of_113 rfl ?_
      refine n_invV_i dX12_of_114 ok_X12_its rfl wt_1013 wt_1015 ws_26 (ci := 11) rfl rfl so_86 (sh_lt so_86 rfl) [.int v1, .int v2] rfl rfl rfl rfl (c_M_its l G _ _ _) (fun r24 M25 => ?_)
      exact n_iret dX12_of_117 rfl
def f_M_isStroke (v1 : Int32) (v2 : Int32) (M : Nm) : Option (Int32 × Nm) := bnd (f_M_isHand v1 M) fun r1 M2 => if r1 = 0 then (some (0, M2)) else (bnd (f_M_its v1 4 M2) fun r3 M4 => bnd (f_M_in v2.toInt64 0 ((r3 - 1).toInt64) M4) fun r5 M6 => if r5 = 0 then (some (0, M6)) else (some (1, M6)))
theorem c_M_isStroke (l : Launch) (G : Gl) (v1 : Int32) (v2 : Int32)  (M : Nm) : NJ l G Y_X12_isStroke (zR 2 46) eI 0 (lv_args 0 [aR G 86, .int v1, .int v2]) [] M (f_M_isStroke v1 v2 M) := by
  unfold f_M_isStroke
  show NJ l G Y_X12_isStroke (zR 2 46) eI 0 [(0, aR G 86), (1, .int v1), (2, .int v2)] [] M _
  refine s_aload_n 0 dX12_isStroke_0 rfl ?_
  refine s_iload_n 1 dX12_isStroke_1 rfl ?_
  refine n_invV_i dX12_isStroke_2 ok_X12_isHand rfl wt_1080 wt_1082 ws_34 (ci := 11) rfl rfl so_86 (sh_lt so_86 rfl) [.int v1] rfl rfl rfl rfl (c_M_isHand l G _ _) (fun r1 M2 => ?_)
  refine s_if_eq (tgt := 30) dX12_isStroke_5 (by decide) (fun _ => ?_) (fun _ => ?_)
  · refine s_iconst (v := 0) dX12_isStroke_30 (by decide) ?_
    exact n_zret0 dX12_isStroke_31 rfl
  · refine s_iload_n 2 dX12_isStroke_8 rfl ?_
    refine s_i2l dX12_isStroke_9 ?_
    refine s_lconst (v := 0) dX12_isStroke_10 (by decide) ?_
    refine s_aload_n 0 dX12_isStroke_11 rfl ?_
    refine s_iload_n 1 dX12_isStroke_12 rfl ?_
    refine s_iconst (v := 4) dX12_isStroke_13 (by decide) ?_
    refine n_invV_i dX12_isStroke_14 ok_X12_its rfl wt_1013 wt_1015 ws_26 (ci := 11) rfl rfl so_86 (sh_lt so_86 rfl) [.int v1, .int 4] rfl rfl rfl rfl (c_M_its l G _ _ _) (fun r3 M4 => ?_)
    refine s_iconst (v := 1) dX12_isStroke_17 (by decide) ?_
    refine s_isub dX12_isStroke_18 ?_
    refine s_i2l dX12_isStroke_19 ?_
    refine n_invS_i dX12_isStroke_20 ok_X12_in rfl wt_984 wt_985 [.long v2.toInt64, .long 0, .long ((r3 - 1).toInt64)] rfl rfl rfl rfl (c_M_in l G _ _ _ _) (fun r5 M6 => ?_)
    refine s_if_eq (tgt := 30) dX12_isStroke_23 (by decide) (fun _ => ?_) (fun _ => ?_)
    · refine s_iconst (v := 0) dX12_isStroke_30 (by decide) ?_
      exact n_zret0 dX12_isStroke_31 rfl
    · refine s_iconst (v := 1) dX12_isStroke_26 (by decide) ?_
      refine s_goto (tgt := 31) dX12_isStroke_27 (by decide) ?_
      exact n_zret1 dX12_isStroke_31 rfl
def f_M_told (v1 : Int32) (v2 : Int32) (v3 : Int32) (M : Nm) : Option (Int32 × Nm) := bnd (f_M_isStroke v1 v2 M) fun r1 M2 => if r1 = 0 then (bnd (f_M_finds (-1000000001) M2) fun r3 M4 => some (r3, M4)) else (bnd (f_M_in v3.toInt64 0 3 M2) fun r5 M6 => if r5 = 0 then (bnd (f_M_finds (-1000000001) M6) fun r7 M8 => some (r7, M8)) else (if v3 = 0 then (bnd (f_M_its v1 (5 + v2) M6) fun r9 M10 => some (r9, M10)) else (if v3 = 1 then (bnd (f_M_its v1 (13 + v2) M6) fun r11 M12 => some (r11, M12)) else (if v3 = 2 then (bnd (f_M_stepsOf v1 v2 M6) fun r13 M14 => some (r13, M14)) else (bnd (f_M_turned v1 v2 M6) fun r15 M16 => some (r15, M16))))))
theorem c_M_told (l : Launch) (G : Gl) (v1 : Int32) (v2 : Int32) (v3 : Int32)  (M : Nm) : NJ l G Y_X12_told (zR 3 68) eI 0 (lv_args 0 [aR G 86, .int v1, .int v2, .int v3]) [] M (f_M_told v1 v2 v3 M) := by
  unfold f_M_told
  show NJ l G Y_X12_told (zR 3 68) eI 0 [(0, aR G 86), (1, .int v1), (2, .int v2), (3, .int v3)] [] M _
  refine s_aload_n 0 dX12_told_0 rfl ?_
  refine s_iload_n 1 dX12_told_1 rfl ?_
  refine s_iload_n 2 dX12_told_2 rfl ?_
  refine n_invV_i dX12_told_3 ok_X12_isStroke rfl wt_1112 wt_1114 ws_38 (ci := 11) rfl rfl so_86 (sh_lt so_86 rfl) [.int v1, .int v2] rfl rfl rfl rfl (c_M_isStroke l G _ _ _) (fun r1 M2 => ?_)
  refine s_if_eq (tgt := 21) dX12_told_6 (by decide) (fun _ => ?_) (fun _ => ?_)
  · refine s_aload_n 0 dX12_told_21 rfl ?_
    refine s_ldc (v := (-1000000001)) dX12_told_22 wt_991 ?_
    refine n_invV_i dX12_told_24 ok_X12_finds rfl wt_992 wt_994 ws_22 (ci := 11) rfl rfl so_86 (sh_lt so_86 rfl) [.int (-1000000001)] rfl rfl rfl rfl (c_M_finds l G _ _) (fun r3 M4 => ?_)
    exact n_iret dX12_told_27 rfl
  · refine s_iload_n 3 dX12_told_9 rfl ?_
    refine s_i2l dX12_told_10 ?_
    refine s_lconst (v := 0) dX12_told_11 (by decide) ?_
    refine s_ldc2 (v := 3) dX12_told_12 wt_1000 ?_
    refine n_invS_i dX12_told_15 ok_X12_in rfl wt_984 wt_985 [.long v3.toInt64, .long 0, .long 3] rfl rfl rfl rfl (c_M_in l G _ _ _ _) (fun r5 M6 => ?_)
    refine s_if_ne (tgt := 28) dX12_told_18 (by decide) (fun _ => ?_) (fun _ => ?_)
    · refine s_aload_n 0 dX12_told_21 rfl ?_
      refine s_ldc (v := (-1000000001)) dX12_told_22 wt_991 ?_
      refine n_invV_i dX12_told_24 ok_X12_finds rfl wt_992 wt_994 ws_22 (ci := 11) rfl rfl so_86 (sh_lt so_86 rfl) [.int (-1000000001)] rfl rfl rfl rfl (c_M_finds l G _ _) (fun r7 M8 => ?_)
      exact n_iret dX12_told_27 rfl
    · refine s_iload_n 3 dX12_told_28 rfl ?_
      refine s_if_ne (tgt := 43) dX12_told_29 (by decide) (fun _ => ?_) (fun _ => ?_)
      · refine s_aload_n 0 dX12_told_32 rfl ?_
        refine s_iload_n 1 dX12_told_33 rfl ?_
        refine s_iconst (v := 5) dX12_told_34 (by decide) ?_
        refine s_iload_n 2 dX12_told_35 rfl ?_
        refine s_iadd dX12_told_36 ?_
        refine n_invV_i dX12_told_37 ok_X12_its rfl wt_1013 wt_1015 ws_26 (ci := 11) rfl rfl so_86 (sh_lt so_86 rfl) [.int v1, .int (5 + v2)] rfl rfl rfl rfl (c_M_its l G _ _ _) (fun r9 M10 => ?_)
        refine s_goto (tgt := 80) dX12_told_40 (by decide) ?_
        exact n_iret dX12_told_80 rfl
      · refine s_iload_n 3 dX12_told_43 rfl ?_
        refine s_iconst (v := 1) dX12_told_44 (by decide) ?_
        refine s_icmp_ne (tgt := 60) dX12_told_45 (by decide) (fun _ => ?_) (fun _ => ?_)
        · refine s_aload_n 0 dX12_told_48 rfl ?_
          refine s_iload_n 1 dX12_told_49 rfl ?_
          refine s_bipush (v := 13) dX12_told_50 (by decide) ?_
          refine s_iload_n 2 dX12_told_52 rfl ?_
          refine s_iadd dX12_told_53 ?_
          refine n_invV_i dX12_told_54 ok_X12_its rfl wt_1013 wt_1015 ws_26 (ci := 11) rfl rfl so_86 (sh_lt so_86 rfl) [.int v1, .int (13 + v2)] rfl rfl rfl rfl (c_M_its l G _ _ _) (fun r11 M12 => ?_)
          refine s_goto (tgt := 80) dX12_told_57 (by decide) ?_
          exact n_iret dX12_told_80 rfl
        · refine s_iload_n 3 dX12_told_60 rfl ?_
          refine s_iconst (v := 2) dX12_told_61 (by decide) ?_
          refine s_icmp_ne (tgt := 74) dX12_told_62 (by decide) (fun _ => ?_) (fun _ => ?_)
          · refine s_aload_n 0 dX12_told_65 rfl ?_
            refine s_iload_n 1 dX12_told_66 rfl ?_
            refine s_iload_n 2 dX12_told_67 rfl ?_
            refine n_invV_i dX12_told_68 ok_X12_stepsOf rfl wt_1024 wt_1026 ws_28 (ci := 11) rfl rfl so_86 (sh_lt so_86 rfl) [.int v1, .int v2] rfl rfl rfl rfl (c_M_stepsOf l G _ _ _) (fun r13 M14 => ?_)
            refine s_goto (tgt := 80) dX12_told_71 (by decide) ?_
            exact n_iret dX12_told_80 rfl
          · refine s_aload_n 0 dX12_told_74 rfl ?_
            refine s_iload_n 1 dX12_told_75 rfl ?_
            refine s_iload_n 2 dX12_told_76 rfl ?_
            refine n_invV_i dX12_told_77 ok_X12_turned rfl wt_1020 wt_1022 ws_27 (ci := 11) rfl rfl so_86 (sh_lt so_86 rfl) [.int v1, .int v2] rfl rfl rfl rfl (c_M_turned l G _ _ _) (fun r15 M16 => ?_)
            exact n_iret dX12_told_80 rfl
def f_M_set_B34  (v1 : Int32) (v2 : Int32) (v3 : Int32) (s0 : Int32) (M : Nm) : Option (Int32 × Nm) := bnd (f_M_isHand v1 M) fun r3 M4 => if r3 = 0 then (bnd (f_M_finds (-1000000001) M4) fun r5 M6 => some (r5, M6)) else (if s0 = 0 then (bnd (f_M_finds (-1000000001) M4) fun r7 M8 => some (r7, M8)) else (bnd (f_M_spot v1 v2 M4) fun r9 M10 => bnd (f_M_becomes r9 v3 M10) fun r11 M12 => some (r11, M12)))
theorem c_M_set_B34 (l : Launch) (G : Gl)  (v1 : Int32) (v2 : Int32) (v3 : Int32) (s0 : Int32)   (M : Nm) : NJ l G Y_X12_set (zR 2 46) eI 34 [(0, aR G 86), (1, .int v1), (2, .int v2), (3, .int v3)] [.int s0] M (f_M_set_B34 v1 v2 v3 s0 M) := by
  unfold f_M_set_B34
  refine s_istore (lv' := [(4, .int s0), (0, aR G 86), (1, .int v1), (2, .int v2), (3, .int v3)]) dX12_set_34 rfl rfl ?_
  refine s_aload_n 1 dX12_set_36 rfl ?_
  refine s_iload_n 2 dX12_set_37 rfl ?_
  refine n_invV_i dX12_set_38 ok_X12_isHand rfl wt_1080 wt_1082 ws_34 (ci := 11) rfl rfl so_86 (sh_lt so_86 rfl) [.int v1] rfl rfl rfl rfl (c_M_isHand l G _ _) (fun r3 M4 => ?_)
  refine s_if_eq (tgt := 62) dX12_set_41 (by decide) (fun _ => ?_) (fun _ => ?_)
  · refine s_aload_n 1 dX12_set_62 rfl ?_
    refine s_ldc (v := (-1000000001)) dX12_set_63 wt_991 ?_
    refine n_invV_i dX12_set_65 ok_X12_finds rfl wt_992 wt_994 ws_22 (ci := 11) rfl rfl so_86 (sh_lt so_86 rfl) [.int (-1000000001)] rfl rfl rfl rfl (c_M_finds l G _ _) (fun r5 M6 => ?_)
    exact n_iret dX12_set_68 rfl
  · refine s_iload 0 dX12_set_44 rfl ?_
    refine s_if_eq (tgt := 62) dX12_set_46 (by decide) (fun _ => ?_) (fun _ => ?_)
    · refine s_aload_n 1 dX12_set_62 rfl ?_
      refine s_ldc (v := (-1000000001)) dX12_set_63 wt_991 ?_
      refine n_invV_i dX12_set_65 ok_X12_finds rfl wt_992 wt_994 ws_22 (ci := 11) rfl rfl so_86 (sh_lt so_86 rfl) [.int (-1000000001)] rfl rfl rfl rfl (c_M_finds l G _ _) (fun r7 M8 => ?_)
      exact n_iret dX12_set_68 rfl
    · refine s_aload_n 1 dX12_set_49 rfl ?_
      refine s_iload_n 2 dX12_set_50 rfl ?_
      refine s_iload_n 3 dX12_set_51 rfl ?_
      refine n_invS_i dX12_set_52 ok_X12_spot rfl wt_1017 wt_1018 [.int v1, .int v2] rfl rfl rfl rfl (c_M_spot l G _ _ _) (fun r9 M10 => ?_)
      refine s_iload_n 4 dX12_set_55 rfl ?_
      refine n_invV_i dX12_set_56 ok_X12_becomes rfl wt_987 wt_989 ws_21 (ci := 11) rfl rfl so_86 (sh_lt so_86 rfl) [.int r9, .int v3] rfl rfl rfl rfl (c_M_becomes l G _ _ _) (fun r11 M12 => ?_)
      refine s_goto (tgt := 68) dX12_set_59 (by decide) ?_
      exact n_iret dX12_set_68 rfl
def f_M_set (v1 : Int32) (v2 : Int32) (v3 : Int32) (M : Nm) : Option (Int32 × Nm) := if v2 = 1 then (bnd (f_M_isCell v3 M) fun r1 M2 => f_M_set_B34 v1 v2 v3 r1 M2) else (if v2 = 2 then (bnd (f_M_in v3.toInt64 0 999 M) fun r13 M14 => if r13 = 0 then (f_M_set_B34 v1 v2 v3 0 M14) else (f_M_set_B34 v1 v2 v3 1 M14)) else (f_M_set_B34 v1 v2 v3 0 M))
theorem c_M_set (l : Launch) (G : Gl) (v1 : Int32) (v2 : Int32) (v3 : Int32)  (M : Nm) : NJ l G Y_X12_set (zR 2 46) eI 0 (lv_args 0 [aR G 86, .int v1, .int v2, .int v3]) [] M (f_M_set v1 v2 v3 M) := by
  unfold f_M_set
  show NJ l G Y_X12_set (zR 2 46) eI 0 [(0, aR G 86), (1, .int v1), (2, .int v2), (3, .int v3)] [] M _
  refine s_iload_n 2 dX12_set_0 rfl ?_
  refine s_iconst (v := 1) dX12_set_1 (by decide) ?_
  refine s_icmp_ne (tgt := 12) dX12_set_2 (by decide) (fun _ => ?_) (fun _ => ?_)
  · refine s_iload_n 3 dX12_set_5 rfl ?_
    refine n_invS_i dX12_set_6 ok_X12_isCell rfl wt_980 wt_981 [.int v3] rfl rfl rfl rfl (c_M_isCell l G _ _) (fun r1 M2 => ?_)
    refine s_goto (tgt := 34) dX12_set_9 (by decide) ?_
    exact c_M_set_B34 l G _ _ _ _ _
  · refine s_iload_n 2 dX12_set_12 rfl ?_
    refine s_iconst (v := 2) dX12_set_13 (by decide) ?_
    refine s_icmp_ne (tgt := 33) dX12_set_14 (by decide) (fun _ => ?_) (fun _ => ?_)
    · refine s_iload_n 3 dX12_set_17 rfl ?_
      refine s_i2l dX12_set_18 ?_
      refine s_lconst (v := 0) dX12_set_19 (by decide) ?_
      refine s_ldc2 (v := 999) dX12_set_20 wt_1120 ?_
      refine n_invS_i dX12_set_23 ok_X12_in rfl wt_984 wt_985 [.long v3.toInt64, .long 0, .long 999] rfl rfl rfl rfl (c_M_in l G _ _ _ _) (fun r13 M14 => ?_)
      refine s_if_eq (tgt := 33) dX12_set_26 (by decide) (fun _ => ?_) (fun _ => ?_)
      · refine s_iconst (v := 0) dX12_set_33 (by decide) ?_
        exact c_M_set_B34 l G _ _ _ _ _
      · refine s_iconst (v := 1) dX12_set_29 (by decide) ?_
        refine s_goto (tgt := 34) dX12_set_30 (by decide) ?_
        exact c_M_set_B34 l G _ _ _ _ _
    · refine s_iconst (v := 0) dX12_set_33 (by decide) ?_
      exact c_M_set_B34 l G _ _ _ _ _
def f_M_alter_B35  (v1 : Int32) (v2 : Int32) (v3 : Int32) (v4 : Int32) (s0 : Int32) (M : Nm) : Option (Int32 × Nm) := bnd (f_M_isStroke v1 v2 M) fun r3 M4 => if r3 = 0 then (bnd (f_M_finds (-1000000001) M4) fun r5 M6 => some (r5, M6)) else (if s0 = 0 then (bnd (f_M_finds (-1000000001) M4) fun r7 M8 => some (r7, M8)) else (if v3 = 0 then (bnd (f_M_spot v1 (5 + v2) M4) fun r9 M10 => bnd (f_M_becomes r9 v4 M10) fun r11 M12 => some (r11, M12)) else (bnd (f_M_spot v1 (13 + v2) M4) fun r13 M14 => bnd (f_M_becomes r13 v4 M14) fun r15 M16 => some (r15, M16))))
theorem c_M_alter_B35 (l : Launch) (G : Gl)  (v1 : Int32) (v2 : Int32) (v3 : Int32) (v4 : Int32) (s0 : Int32)   (M : Nm) : NJ l G Y_X12_alter (zR 3 68) eI 35 [(0, aR G 86), (1, .int v1), (2, .int v2), (3, .int v3), (4, .int v4)] [.int s0] M (f_M_alter_B35 v1 v2 v3 v4 s0 M) := by
  unfold f_M_alter_B35
  refine s_istore (lv' := [(5, .int s0), (0, aR G 86), (1, .int v1), (2, .int v2), (3, .int v3), (4, .int v4)]) dX12_alter_35 rfl rfl ?_
  refine s_aload_n 1 dX12_alter_37 rfl ?_
  refine s_iload_n 2 dX12_alter_38 rfl ?_
  refine s_iload_n 3 dX12_alter_39 rfl ?_
  refine n_invV_i dX12_alter_40 ok_X12_isStroke rfl wt_1112 wt_1114 ws_38 (ci := 11) rfl rfl so_86 (sh_lt so_86 rfl) [.int v1, .int v2] rfl rfl rfl rfl (c_M_isStroke l G _ _ _) (fun r3 M4 => ?_)
  refine s_if_eq (tgt := 76) dX12_alter_43 (by decide) (fun _ => ?_) (fun _ => ?_)
  · refine s_aload_n 1 dX12_alter_76 rfl ?_
    refine s_ldc (v := (-1000000001)) dX12_alter_77 wt_991 ?_
    refine n_invV_i dX12_alter_79 ok_X12_finds rfl wt_992 wt_994 ws_22 (ci := 11) rfl rfl so_86 (sh_lt so_86 rfl) [.int (-1000000001)] rfl rfl rfl rfl (c_M_finds l G _ _) (fun r5 M6 => ?_)
    exact n_iret dX12_alter_82 rfl
  · refine s_iload 0 dX12_alter_46 rfl ?_
    refine s_if_eq (tgt := 76) dX12_alter_48 (by decide) (fun _ => ?_) (fun _ => ?_)
    · refine s_aload_n 1 dX12_alter_76 rfl ?_
      refine s_ldc (v := (-1000000001)) dX12_alter_77 wt_991 ?_
      refine n_invV_i dX12_alter_79 ok_X12_finds rfl wt_992 wt_994 ws_22 (ci := 11) rfl rfl so_86 (sh_lt so_86 rfl) [.int (-1000000001)] rfl rfl rfl rfl (c_M_finds l G _ _) (fun r7 M8 => ?_)
      exact n_iret dX12_alter_82 rfl
    · refine s_aload_n 1 dX12_alter_51 rfl ?_
      refine s_iload_n 2 dX12_alter_52 rfl ?_
      refine s_iload_n 4 dX12_alter_53 rfl ?_
      refine s_if_ne (tgt := 61) dX12_alter_54 (by decide) (fun _ => ?_) (fun _ => ?_)
      · refine s_iconst (v := 5) dX12_alter_57 (by decide) ?_
        refine s_goto (tgt := 63) dX12_alter_58 (by decide) ?_
        refine s_iload_n 3 dX12_alter_63 rfl ?_
        refine s_iadd dX12_alter_64 ?_
        refine n_invS_i dX12_alter_65 ok_X12_spot rfl wt_1017 wt_1018 [.int v1, .int (5 + v2)] rfl rfl rfl rfl (c_M_spot l G _ _ _) (fun r9 M10 => ?_)
        refine s_iload 5 dX12_alter_68 rfl ?_
        refine n_invV_i dX12_alter_70 ok_X12_becomes rfl wt_987 wt_989 ws_21 (ci := 11) rfl rfl so_86 (sh_lt so_86 rfl) [.int r9, .int v4] rfl rfl rfl rfl (c_M_becomes l G _ _ _) (fun r11 M12 => ?_)
        refine s_goto (tgt := 82) dX12_alter_73 (by decide) ?_
        exact n_iret dX12_alter_82 rfl
      · refine s_bipush (v := 13) dX12_alter_61 (by decide) ?_
        refine s_iload_n 3 dX12_alter_63 rfl ?_
        refine s_iadd dX12_alter_64 ?_
        refine n_invS_i dX12_alter_65 ok_X12_spot rfl wt_1017 wt_1018 [.int v1, .int (13 + v2)] rfl rfl rfl rfl (c_M_spot l G _ _ _) (fun r13 M14 => ?_)
        refine s_iload 5 dX12_alter_68 rfl ?_
        refine n_invV_i dX12_alter_70 ok_X12_becomes rfl wt_987 wt_989 ws_21 (ci := 11) rfl rfl so_86 (sh_lt so_86 rfl) [.int r13, .int v4] rfl rfl rfl rfl (c_M_becomes l G _ _ _) (fun r15 M16 => ?_)
        refine s_goto (tgt := 82) dX12_alter_73 (by decide) ?_
        exact n_iret dX12_alter_82 rfl
def f_M_alter (v1 : Int32) (v2 : Int32) (v3 : Int32) (v4 : Int32) (M : Nm) : Option (Int32 × Nm) := if v3 = 0 then (bnd (f_M_isWay v4 M) fun r1 M2 => f_M_alter_B35 v1 v2 v3 v4 r1 M2) else (if v3 = 1 then (bnd (f_M_in v4.toInt64 1 7 M) fun r17 M18 => if r17 = 0 then (f_M_alter_B35 v1 v2 v3 v4 0 M18) else (f_M_alter_B35 v1 v2 v3 v4 1 M18)) else (f_M_alter_B35 v1 v2 v3 v4 0 M))
theorem c_M_alter (l : Launch) (G : Gl) (v1 : Int32) (v2 : Int32) (v3 : Int32) (v4 : Int32)  (M : Nm) : NJ l G Y_X12_alter (zR 3 68) eI 0 (lv_args 0 [aR G 86, .int v1, .int v2, .int v3, .int v4]) [] M (f_M_alter v1 v2 v3 v4 M) := by
  unfold f_M_alter
  show NJ l G Y_X12_alter (zR 3 68) eI 0 [(0, aR G 86), (1, .int v1), (2, .int v2), (3, .int v3), (4, .int v4)] [] M _
  refine s_iload_n 3 dX12_alter_0 rfl ?_
  refine s_if_ne (tgt := 12) dX12_alter_1 (by decide) (fun _ => ?_) (fun _ => ?_)
  · refine s_iload 4 dX12_alter_4 rfl ?_
    refine n_invS_i dX12_alter_6 ok_X12_isWay rfl wt_1084 wt_1085 [.int v4] rfl rfl rfl rfl (c_M_isWay l G _ _) (fun r1 M2 => ?_)
    refine s_goto (tgt := 35) dX12_alter_9 (by decide) ?_
    exact c_M_alter_B35 l G _ _ _ _ _ _
  · refine s_iload_n 3 dX12_alter_12 rfl ?_
    refine s_iconst (v := 1) dX12_alter_13 (by decide) ?_
    refine s_icmp_ne (tgt := 34) dX12_alter_14 (by decide) (fun _ => ?_) (fun _ => ?_)
    · refine s_iload 4 dX12_alter_17 rfl ?_
      refine s_i2l dX12_alter_19 ?_
      refine s_lconst (v := 1) dX12_alter_20 (by decide) ?_
      refine s_ldc2 (v := 7) dX12_alter_21 wt_1087 ?_
      refine n_invS_i dX12_alter_24 ok_X12_in rfl wt_984 wt_985 [.long v4.toInt64, .long 1, .long 7] rfl rfl rfl rfl (c_M_in l G _ _ _ _) (fun r17 M18 => ?_)
      refine s_if_eq (tgt := 34) dX12_alter_27 (by decide) (fun _ => ?_) (fun _ => ?_)
      · refine s_iconst (v := 0) dX12_alter_34 (by decide) ?_
        exact c_M_alter_B35 l G _ _ _ _ _ _
      · refine s_iconst (v := 1) dX12_alter_30 (by decide) ?_
        refine s_goto (tgt := 35) dX12_alter_31 (by decide) ?_
        exact c_M_alter_B35 l G _ _ _ _ _ _
    · refine s_iconst (v := 0) dX12_alter_34 (by decide) ?_
      exact c_M_alter_B35 l G _ _ _ _ _ _
def f_M_cut (v1 : Int32) (v2 : Int32) (M : Nm) : Option (Int32 × Nm) := bnd (f_M_isHand v1 M) fun r1 M2 => if r1 = 0 then (bnd (f_M_finds (-1000000001) M2) fun r3 M4 => some (r3, M4)) else (bnd (f_M_its v1 4 M2) fun r5 M6 => bnd (f_M_in v2.toInt64 0 r5.toInt64 M6) fun r7 M8 => if r7 = 0 then (bnd (f_M_finds (-1000000001) M8) fun r9 M10 => some (r9, M10)) else (bnd (f_M_spot v1 4 M8) fun r11 M12 => bnd (f_M_becomes r11 v2 M12) fun r13 M14 => some (r13, M14)))
theorem c_M_cut (l : Launch) (G : Gl) (v1 : Int32) (v2 : Int32)  (M : Nm) : NJ l G Y_X12_cut (zR 2 46) eI 0 (lv_args 0 [aR G 86, .int v1, .int v2]) [] M (f_M_cut v1 v2 M) := by
  unfold f_M_cut
  show NJ l G Y_X12_cut (zR 2 46) eI 0 [(0, aR G 86), (1, .int v1), (2, .int v2)] [] M _
  refine s_aload_n 0 dX12_cut_0 rfl ?_
  refine s_iload_n 1 dX12_cut_1 rfl ?_
  refine n_invV_i dX12_cut_2 ok_X12_isHand rfl wt_1080 wt_1082 ws_34 (ci := 11) rfl rfl so_86 (sh_lt so_86 rfl) [.int v1] rfl rfl rfl rfl (c_M_isHand l G _ _) (fun r1 M2 => ?_)
  refine s_if_eq (tgt := 37) dX12_cut_5 (by decide) (fun _ => ?_) (fun _ => ?_)
  · refine s_aload_n 0 dX12_cut_37 rfl ?_
    refine s_ldc (v := (-1000000001)) dX12_cut_38 wt_991 ?_
    refine n_invV_i dX12_cut_40 ok_X12_finds rfl wt_992 wt_994 ws_22 (ci := 11) rfl rfl so_86 (sh_lt so_86 rfl) [.int (-1000000001)] rfl rfl rfl rfl (c_M_finds l G _ _) (fun r3 M4 => ?_)
    exact n_iret dX12_cut_43 rfl
  · refine s_iload_n 2 dX12_cut_8 rfl ?_
    refine s_i2l dX12_cut_9 ?_
    refine s_lconst (v := 0) dX12_cut_10 (by decide) ?_
    refine s_aload_n 0 dX12_cut_11 rfl ?_
    refine s_iload_n 1 dX12_cut_12 rfl ?_
    refine s_iconst (v := 4) dX12_cut_13 (by decide) ?_
    refine n_invV_i dX12_cut_14 ok_X12_its rfl wt_1013 wt_1015 ws_26 (ci := 11) rfl rfl so_86 (sh_lt so_86 rfl) [.int v1, .int 4] rfl rfl rfl rfl (c_M_its l G _ _ _) (fun r5 M6 => ?_)
    refine s_i2l dX12_cut_17 ?_
    refine n_invS_i dX12_cut_18 ok_X12_in rfl wt_984 wt_985 [.long v2.toInt64, .long 0, .long r5.toInt64] rfl rfl rfl rfl (c_M_in l G _ _ _ _) (fun r7 M8 => ?_)
    refine s_if_eq (tgt := 37) dX12_cut_21 (by decide) (fun _ => ?_) (fun _ => ?_)
    · refine s_aload_n 0 dX12_cut_37 rfl ?_
      refine s_ldc (v := (-1000000001)) dX12_cut_38 wt_991 ?_
      refine n_invV_i dX12_cut_40 ok_X12_finds rfl wt_992 wt_994 ws_22 (ci := 11) rfl rfl so_86 (sh_lt so_86 rfl) [.int (-1000000001)] rfl rfl rfl rfl (c_M_finds l G _ _) (fun r9 M10 => ?_)
      exact n_iret dX12_cut_43 rfl
    · refine s_aload_n 0 dX12_cut_24 rfl ?_
      refine s_iload_n 1 dX12_cut_25 rfl ?_
      refine s_iconst (v := 4) dX12_cut_26 (by decide) ?_
      refine n_invS_i dX12_cut_27 ok_X12_spot rfl wt_1017 wt_1018 [.int v1, .int 4] rfl rfl rfl rfl (c_M_spot l G _ _ _) (fun r11 M12 => ?_)
      refine s_iload_n 2 dX12_cut_30 rfl ?_
      refine n_invV_i dX12_cut_31 ok_X12_becomes rfl wt_987 wt_989 ws_21 (ci := 11) rfl rfl so_86 (sh_lt so_86 rfl) [.int r11, .int v2] rfl rfl rfl rfl (c_M_becomes l G _ _ _) (fun r13 M14 => ?_)
      refine s_goto (tgt := 43) dX12_cut_34 (by decide) ?_
      exact n_iret dX12_cut_43 rfl
def f_M_turn (v1 : Int32) (v2 : Int32) (M : Nm) : Option (Int32 × Nm) := bnd (f_M_isHand v1 M) fun r1 M2 => if r1 = 0 then (bnd (f_M_finds (-1000000001) M2) fun r3 M4 => some (r3, M4)) else (bnd (f_M_isKind v2 M2) fun r5 M6 => if r5 = 0 then (bnd (f_M_finds (-1000000001) M6) fun r7 M8 => some (r7, M8)) else (bnd (f_M_spot v1 0 M6) fun r9 M10 => bnd (f_M_becomes r9 v2 M10) fun r11 M12 => some (r11, M12)))
theorem c_M_turn (l : Launch) (G : Gl) (v1 : Int32) (v2 : Int32)  (M : Nm) : NJ l G Y_X12_turn (zR 2 46) eI 0 (lv_args 0 [aR G 86, .int v1, .int v2]) [] M (f_M_turn v1 v2 M) := by
  unfold f_M_turn
  show NJ l G Y_X12_turn (zR 2 46) eI 0 [(0, aR G 86), (1, .int v1), (2, .int v2)] [] M _
  refine s_aload_n 0 dX12_turn_0 rfl ?_
  refine s_iload_n 1 dX12_turn_1 rfl ?_
  refine n_invV_i dX12_turn_2 ok_X12_isHand rfl wt_1080 wt_1082 ws_34 (ci := 11) rfl rfl so_86 (sh_lt so_86 rfl) [.int v1] rfl rfl rfl rfl (c_M_isHand l G _ _) (fun r1 M2 => ?_)
  refine s_if_eq (tgt := 28) dX12_turn_5 (by decide) (fun _ => ?_) (fun _ => ?_)
  · refine s_aload_n 0 dX12_turn_28 rfl ?_
    refine s_ldc (v := (-1000000001)) dX12_turn_29 wt_991 ?_
    refine n_invV_i dX12_turn_31 ok_X12_finds rfl wt_992 wt_994 ws_22 (ci := 11) rfl rfl so_86 (sh_lt so_86 rfl) [.int (-1000000001)] rfl rfl rfl rfl (c_M_finds l G _ _) (fun r3 M4 => ?_)
    exact n_iret dX12_turn_34 rfl
  · refine s_iload_n 2 dX12_turn_8 rfl ?_
    refine n_invS_i dX12_turn_9 ok_X12_isKind rfl wt_1067 wt_1068 [.int v2] rfl rfl rfl rfl (c_M_isKind l G _ _) (fun r5 M6 => ?_)
    refine s_if_eq (tgt := 28) dX12_turn_12 (by decide) (fun _ => ?_) (fun _ => ?_)
    · refine s_aload_n 0 dX12_turn_28 rfl ?_
      refine s_ldc (v := (-1000000001)) dX12_turn_29 wt_991 ?_
      refine n_invV_i dX12_turn_31 ok_X12_finds rfl wt_992 wt_994 ws_22 (ci := 11) rfl rfl so_86 (sh_lt so_86 rfl) [.int (-1000000001)] rfl rfl rfl rfl (c_M_finds l G _ _) (fun r7 M8 => ?_)
      exact n_iret dX12_turn_34 rfl
    · refine s_aload_n 0 dX12_turn_15 rfl ?_
      refine s_iload_n 1 dX12_turn_16 rfl ?_
      refine s_iconst (v := 0) dX12_turn_17 (by decide) ?_
      refine n_invS_i dX12_turn_18 ok_X12_spot rfl wt_1017 wt_1018 [.int v1, .int 0] rfl rfl rfl rfl (c_M_spot l G _ _ _) (fun r9 M10 => ?_)
      refine s_iload_n 2 dX12_turn_21 rfl ?_
      refine n_invV_i dX12_turn_22 ok_X12_becomes rfl wt_987 wt_989 ws_21 (ci := 11) rfl rfl so_86 (sh_lt so_86 rfl) [.int r9, .int v2] rfl rfl rfl rfl (c_M_becomes l G _ _ _) (fun r11 M12 => ?_)
      refine s_goto (tgt := 34) dX12_turn_25 (by decide) ?_
      exact n_iret dX12_turn_34 rfl
def f_M_isUnder (v0 : Int32) (v1 : Int32) (M : Nm) : Option (Int32 × Nm) := if v1 = 0 then (some (1, M)) else (if v0 = v1 then (some (1, M)) else (if v0 ≤ 3 then (some (0, M)) else (if (v0 - 3) = v1 then (some (1, M)) else (some (0, M)))))
theorem c_M_isUnder (l : Launch) (G : Gl) (v0 : Int32) (v1 : Int32)  (M : Nm) : NJ l G Y_X12_isUnder (zR 0 0) eI 0 (lv_args 0 [.int v0, .int v1]) [] M (f_M_isUnder v0 v1 M) := by
  unfold f_M_isUnder
  show NJ l G Y_X12_isUnder (zR 0 0) eI 0 [(0, .int v0), (1, .int v1)] [] M _
  refine s_iload_n 1 dX12_isUnder_0 rfl ?_
  refine s_if_eq (tgt := 21) dX12_isUnder_1 (by decide) (fun _ => ?_) (fun _ => ?_)
  · refine s_iconst (v := 1) dX12_isUnder_21 (by decide) ?_
    refine s_goto (tgt := 26) dX12_isUnder_22 (by decide) ?_
    exact n_zret1 dX12_isUnder_26 rfl
  · refine s_iload_n 0 dX12_isUnder_4 rfl ?_
    refine s_iload_n 1 dX12_isUnder_5 rfl ?_
    refine s_icmp_eq (tgt := 21) dX12_isUnder_6 (by decide) (fun _ => ?_) (fun _ => ?_)
    · refine s_iconst (v := 1) dX12_isUnder_21 (by decide) ?_
      refine s_goto (tgt := 26) dX12_isUnder_22 (by decide) ?_
      exact n_zret1 dX12_isUnder_26 rfl
    · refine s_iload_n 0 dX12_isUnder_9 rfl ?_
      refine s_iconst (v := 3) dX12_isUnder_10 (by decide) ?_
      refine s_icmp_le (tgt := 25) dX12_isUnder_11 (by decide) (fun _ => ?_) (fun _ => ?_)
      · refine s_iconst (v := 0) dX12_isUnder_25 (by decide) ?_
        exact n_zret0 dX12_isUnder_26 rfl
      · refine s_iload_n 0 dX12_isUnder_14 rfl ?_
        refine s_iconst (v := 3) dX12_isUnder_15 (by decide) ?_
        refine s_isub dX12_isUnder_16 ?_
        refine s_iload_n 1 dX12_isUnder_17 rfl ?_
        refine s_icmp_ne (tgt := 25) dX12_isUnder_18 (by decide) (fun _ => ?_) (fun _ => ?_)
        · refine s_iconst (v := 1) dX12_isUnder_21 (by decide) ?_
          refine s_goto (tgt := 26) dX12_isUnder_22 (by decide) ?_
          exact n_zret1 dX12_isUnder_26 rfl
        · refine s_iconst (v := 0) dX12_isUnder_25 (by decide) ?_
          exact n_zret0 dX12_isUnder_26 rfl
def f_M_as (v1 : Int32) (v2 : Int32) (M : Nm) : Option (Int32 × Nm) := bnd (f_M_isHand v1 M) fun r1 M2 => if r1 = 0 then (bnd (f_M_finds (-1000000001) M2) fun r3 M4 => some (r3, M4)) else (bnd (f_M_isKind v2 M2) fun r5 M6 => if r5 = 0 then (bnd (f_M_finds (-1000000001) M6) fun r7 M8 => some (r7, M8)) else (bnd (f_M_its v1 0 M6) fun r9 M10 => bnd (f_M_isUnder r9 v2 M10) fun r11 M12 => if r11 = 0 then (bnd (f_M_finds (-1000000003) M12) fun r13 M14 => some (r13, M14)) else (bnd (f_M_its v1 2 M12) fun r15 M16 => some (r15, M16))))
theorem c_M_as (l : Launch) (G : Gl) (v1 : Int32) (v2 : Int32)  (M : Nm) : NJ l G Y_X12_as (zR 2 46) eI 0 (lv_args 0 [aR G 86, .int v1, .int v2]) [] M (f_M_as v1 v2 M) := by
  unfold f_M_as
  show NJ l G Y_X12_as (zR 2 46) eI 0 [(0, aR G 86), (1, .int v1), (2, .int v2)] [] M _
  refine s_aload_n 0 dX12_as_0 rfl ?_
  refine s_iload_n 1 dX12_as_1 rfl ?_
  refine n_invV_i dX12_as_2 ok_X12_isHand rfl wt_1080 wt_1082 ws_34 (ci := 11) rfl rfl so_86 (sh_lt so_86 rfl) [.int v1] rfl rfl rfl rfl (c_M_isHand l G _ _) (fun r1 M2 => ?_)
  refine s_if_eq (tgt := 15) dX12_as_5 (by decide) (fun _ => ?_) (fun _ => ?_)
  · refine s_aload_n 0 dX12_as_15 rfl ?_
    refine s_ldc (v := (-1000000001)) dX12_as_16 wt_991 ?_
    refine n_invV_i dX12_as_18 ok_X12_finds rfl wt_992 wt_994 ws_22 (ci := 11) rfl rfl so_86 (sh_lt so_86 rfl) [.int (-1000000001)] rfl rfl rfl rfl (c_M_finds l G _ _) (fun r3 M4 => ?_)
    exact n_iret dX12_as_21 rfl
  · refine s_iload_n 2 dX12_as_8 rfl ?_
    refine n_invS_i dX12_as_9 ok_X12_isKind rfl wt_1067 wt_1068 [.int v2] rfl rfl rfl rfl (c_M_isKind l G _ _) (fun r5 M6 => ?_)
    refine s_if_ne (tgt := 22) dX12_as_12 (by decide) (fun _ => ?_) (fun _ => ?_)
    · refine s_aload_n 0 dX12_as_15 rfl ?_
      refine s_ldc (v := (-1000000001)) dX12_as_16 wt_991 ?_
      refine n_invV_i dX12_as_18 ok_X12_finds rfl wt_992 wt_994 ws_22 (ci := 11) rfl rfl so_86 (sh_lt so_86 rfl) [.int (-1000000001)] rfl rfl rfl rfl (c_M_finds l G _ _) (fun r7 M8 => ?_)
      exact n_iret dX12_as_21 rfl
    · refine s_aload_n 0 dX12_as_22 rfl ?_
      refine s_iload_n 1 dX12_as_23 rfl ?_
      refine s_iconst (v := 0) dX12_as_24 (by decide) ?_
      refine n_invV_i dX12_as_25 ok_X12_its rfl wt_1013 wt_1015 ws_26 (ci := 11) rfl rfl so_86 (sh_lt so_86 rfl) [.int v1, .int 0] rfl rfl rfl rfl (c_M_its l G _ _ _) (fun r9 M10 => ?_)
      refine s_iload_n 2 dX12_as_28 rfl ?_
      refine n_invS_i dX12_as_29 ok_X12_isUnder rfl wt_1137 wt_1138 [.int r9, .int v2] rfl rfl rfl rfl (c_M_isUnder l G _ _ _) (fun r11 M12 => ?_)
      refine s_if_eq (tgt := 44) dX12_as_32 (by decide) (fun _ => ?_) (fun _ => ?_)
      · refine s_aload_n 0 dX12_as_44 rfl ?_
        refine s_ldc (v := (-1000000003)) dX12_as_45 wt_1140 ?_
        refine n_invV_i dX12_as_47 ok_X12_finds rfl wt_992 wt_994 ws_22 (ci := 11) rfl rfl so_86 (sh_lt so_86 rfl) [.int (-1000000003)] rfl rfl rfl rfl (c_M_finds l G _ _) (fun r13 M14 => ?_)
        exact n_iret dX12_as_50 rfl
      · refine s_aload_n 0 dX12_as_35 rfl ?_
        refine s_iload_n 1 dX12_as_36 rfl ?_
        refine s_iconst (v := 2) dX12_as_37 (by decide) ?_
        refine n_invV_i dX12_as_38 ok_X12_its rfl wt_1013 wt_1015 ws_26 (ci := 11) rfl rfl so_86 (sh_lt so_86 rfl) [.int v1, .int 2] rfl rfl rfl rfl (c_M_its l G _ _ _) (fun r15 M16 => ?_)
        refine s_goto (tgt := 50) dX12_as_41 (by decide) ?_
        exact n_iret dX12_as_50 rfl
def f_M_line (v1 : Int32) (M : Nm) : Option (Int64 × Nm) := bnd (f_M_isHand v1 M) fun r1 M2 => if r1 = 0 then (bnd (f_M_finds (-1000000001) M2) fun r3 M4 => some (r3.toInt64, M4)) else (bnd (f_M_writeAll M2) fun r5 M6 => grd (inb v1 6) <| some (M6.2.1 92 (ix v1), M6))
theorem c_M_line (l : Launch) (G : Gl) (v1 : Int32)  (M : Nm) : NJ l G Y_X12_line (zR 5 121) eL 0 (lv_args 0 [aR G 86, .int v1]) [] M (f_M_line v1 M) := by
  unfold f_M_line
  show NJ l G Y_X12_line (zR 5 121) eL 0 [(0, aR G 86), (1, .int v1)] [] M _
  refine s_aload_n 0 dX12_line_0 rfl ?_
  refine s_iload_n 1 dX12_line_1 rfl ?_
  refine n_invV_i dX12_line_2 ok_X12_isHand rfl wt_1080 wt_1082 ws_34 (ci := 11) rfl rfl so_86 (sh_lt so_86 rfl) [.int v1] rfl rfl rfl rfl (c_M_isHand l G _ _) (fun r1 M2 => ?_)
  refine s_if_ne (tgt := 16) dX12_line_5 (by decide) (fun _ => ?_) (fun _ => ?_)
  · refine s_aload_n 0 dX12_line_8 rfl ?_
    refine s_ldc (v := (-1000000001)) dX12_line_9 wt_991 ?_
    refine n_invV_i dX12_line_11 ok_X12_finds rfl wt_992 wt_994 ws_22 (ci := 11) rfl rfl so_86 (sh_lt so_86 rfl) [.int (-1000000001)] rfl rfl rfl rfl (c_M_finds l G _ _) (fun r3 M4 => ?_)
    refine s_i2l dX12_line_14 ?_
    exact n_lret dX12_line_15 rfl
  · refine s_aload_n 0 dX12_line_16 rfl ?_
    refine n_invV_u dX12_line_17 ok_X12_writeAll rfl wt_1001 wt_1003 ws_23 (ci := 11) rfl rfl so_86 (sh_lt so_86 rfl) [] rfl rfl rfl rfl (c_M_writeAll l G _) (fun r5 M6 => ?_)
    refine s_aload_n 0 dX12_line_20 rfl ?_
    refine n_getR (x := 92) dX12_line_21 okf_M_25_11 rfl rfl so_86 (sh_lt so_86 rfl) rfl ?_
    refine s_iload_n 1 dX12_line_24 rfl ?_
    refine n_lal dX12_line_25 sa_92 ?_
    exact n_lret dX12_line_26 rfl
def f_M_inside (v1 : Int32) (M : Nm) : Option (Int64 × Nm) := bnd (f_M_isHand v1 M) fun r1 M2 => if r1 = 0 then (bnd (f_M_finds (-1000000001) M2) fun r3 M4 => some (r3.toInt64, M4)) else (bnd (f_M_writeAll M2) fun r5 M6 => grd (inb v1 6) <| some (M6.2.1 93 (ix v1), M6))
theorem c_M_inside (l : Launch) (G : Gl) (v1 : Int32)  (M : Nm) : NJ l G Y_X12_inside (zR 5 121) eL 0 (lv_args 0 [aR G 86, .int v1]) [] M (f_M_inside v1 M) := by
  unfold f_M_inside
  show NJ l G Y_X12_inside (zR 5 121) eL 0 [(0, aR G 86), (1, .int v1)] [] M _
  refine s_aload_n 0 dX12_inside_0 rfl ?_
  refine s_iload_n 1 dX12_inside_1 rfl ?_
  refine n_invV_i dX12_inside_2 ok_X12_isHand rfl wt_1080 wt_1082 ws_34 (ci := 11) rfl rfl so_86 (sh_lt so_86 rfl) [.int v1] rfl rfl rfl rfl (c_M_isHand l G _ _) (fun r1 M2 => ?_)
  refine s_if_ne (tgt := 16) dX12_inside_5 (by decide) (fun _ => ?_) (fun _ => ?_)
  · refine s_aload_n 0 dX12_inside_8 rfl ?_
    refine s_ldc (v := (-1000000001)) dX12_inside_9 wt_991 ?_
    refine n_invV_i dX12_inside_11 ok_X12_finds rfl wt_992 wt_994 ws_22 (ci := 11) rfl rfl so_86 (sh_lt so_86 rfl) [.int (-1000000001)] rfl rfl rfl rfl (c_M_finds l G _ _) (fun r3 M4 => ?_)
    refine s_i2l dX12_inside_14 ?_
    exact n_lret dX12_inside_15 rfl
  · refine s_aload_n 0 dX12_inside_16 rfl ?_
    refine n_invV_u dX12_inside_17 ok_X12_writeAll rfl wt_1001 wt_1003 ws_23 (ci := 11) rfl rfl so_86 (sh_lt so_86 rfl) [] rfl rfl rfl rfl (c_M_writeAll l G _) (fun r5 M6 => ?_)
    refine s_aload_n 0 dX12_inside_20 rfl ?_
    refine n_getR (x := 93) dX12_inside_21 okf_M_29_11 rfl rfl so_86 (sh_lt so_86 rfl) rfl ?_
    refine s_iload_n 1 dX12_inside_24 rfl ?_
    refine n_lal dX12_inside_25 sa_93 ?_
    exact n_lret dX12_inside_26 rfl
def f_M_year_L6 (k45 : Nm → Option (Unit × Nm))  : Nat → Int32 → Nm → Option (Unit × Nm)
  | 0, _, _ => none
  | f + 1, v1, M => grd (inb 0 176) <| if (M.1 87 (ix 0)) ≤ v1 then (k45 M) else (bnd (f_M_writes v1 M) fun r3 M4 => if r3 = 0 then (grd (inb v1 6) <| bl (mI M4 95 (ix v1) (-1)) fun M5 => f_M_year_L6 k45 f (v1 + 1) M5) else (bnd (f_M_ownedBy v1 M4) fun r6 M7 => grd (inb v1 6) <| bl (mI M7 95 (ix v1) r6) fun M8 => f_M_year_L6 k45 f (v1 + 1) M8))
theorem c_M_year_L6 (l : Launch) (G : Gl) {k45 : Nm → Option (Unit × Nm)}   (hk45 : ∀   (M : Nm), NJ l G Y_X12_year (zR 5 121) eU 45 [(0, aR G 86)] [] M (k45 M)) : ∀ (f : Nat) (v1 : Int32)  (M : Nm), NJ l G Y_X12_year (zR 5 121) eU 6 [(0, aR G 86), (1, .int v1)] [] M (f_M_year_L6 k45 f v1 M) := by
  intro f
  induction f with
  | zero => intro v1 M; exact s_none
  | succ f ih =>
    intro v1 M
    rw [f_M_year_L6]
    refine s_iload_n 1 dX12_year_6 rfl ?_
    refine s_aload_n 0 dX12_year_7 rfl ?_
    refine n_getR (x := 87) dX12_year_8 okf_M_7_11 rfl rfl so_86 (sh_lt so_86 rfl) rfl ?_
    refine s_iconst (v := 0) dX12_year_11 (by decide) ?_
    refine n_ial dX12_year_12 sa_87 ?_
    refine s_icmp_ge (tgt := 45) dX12_year_13 (by decide) (fun _ => ?_) (fun _ => ?_)
    · refine s_lv [0] (lv' := [(0, aR G 86)]) rfl ?_
      exact hk45 _
    · refine s_aload_n 0 dX12_year_16 rfl ?_
      refine n_getR (x := 95) dX12_year_17 okf_M_35_11 rfl rfl so_86 (sh_lt so_86 rfl) rfl ?_
      refine s_iload_n 1 dX12_year_20 rfl ?_
      refine s_aload_n 0 dX12_year_21 rfl ?_
      refine s_iload_n 1 dX12_year_22 rfl ?_
      refine n_invV_i dX12_year_23 ok_X12_writes rfl wt_1046 wt_1048 ws_30 (ci := 11) rfl rfl so_86 (sh_lt so_86 rfl) [.int v1] rfl rfl rfl rfl (c_M_writes l G _ _) (fun r3 M4 => ?_)
      refine s_if_eq (tgt := 37) dX12_year_26 (by decide) (fun _ => ?_) (fun _ => ?_)
      · refine s_iconst (v := (-1)) dX12_year_37 (by decide) ?_
        refine n_ias dX12_year_38 sa_95 ?_
        refine s_topM (fun M5 => ?_)
        refine s_iinc (v := 1) (lv' := [(1, .int (v1 + 1)), (0, aR G 86)]) 1 dX12_year_39 rfl (by decide) rfl rfl ?_
        refine s_goto (tgt := 6) dX12_year_42 (by decide) ?_
        refine s_lv [1, 0] (lv' := [(0, aR G 86), (1, .int (v1 + 1))]) rfl ?_
        exact ih _ _
      · refine s_aload_n 0 dX12_year_29 rfl ?_
        refine s_iload_n 1 dX12_year_30 rfl ?_
        refine n_invV_i dX12_year_31 ok_X12_ownedBy rfl wt_1100 wt_1102 ws_36 (ci := 11) rfl rfl so_86 (sh_lt so_86 rfl) [.int v1] rfl rfl rfl rfl (c_M_ownedBy l G _ _) (fun r6 M7 => ?_)
        refine s_goto (tgt := 38) dX12_year_34 (by decide) ?_
        refine n_ias dX12_year_38 sa_95 ?_
        refine s_topM (fun M8 => ?_)
        refine s_iinc (v := 1) (lv' := [(1, .int (v1 + 1)), (0, aR G 86)]) 1 dX12_year_39 rfl (by decide) rfl rfl ?_
        refine s_goto (tgt := 6) dX12_year_42 (by decide) ?_
        refine s_lv [1, 0] (lv' := [(0, aR G 86), (1, .int (v1 + 1))]) rfl ?_
        exact ih _ _
def f_M_year_B147 (k47 : Int32 → Nm → Option (Unit × Nm)) (v1 : Int32) (v3 : Int32) (s0 : Int32) (s1 : Int32) (M : Nm) : Option (Unit × Nm) := grd (inb s1 176) <| bl (mI M 87 (ix s1) s0) fun M18 => bnd (f_M_spot v1 3 M18) fun r19 M20 => if v3 ≤ 99999 then (grd (inb r19 176) <| bl (mI M20 87 (ix r19) v3) fun M21 => k47 (v1 + 1) M21) else (grd (inb r19 176) <| bl (mI M20 87 (ix r19) 99999) fun M22 => k47 (v1 + 1) M22)
theorem c_M_year_B147 (l : Launch) (G : Gl) {k47 : Int32 → Nm → Option (Unit × Nm)} (v1 : Int32) (v3 : Int32) (s0 : Int32) (s1 : Int32)  (hk47 : ∀ (v1 : Int32)  (M : Nm), NJ l G Y_X12_year (zR 5 121) eU 47 [(0, aR G 86), (1, .int v1)] [] M (k47 v1 M)) (M : Nm) : NJ l G Y_X12_year (zR 5 121) eU 147 [(0, aR G 86), (1, .int v1), (3, .int v3)] [.int s0, .int s1, aR G 87] M (f_M_year_B147 k47 v1 v3 s0 s1 M) := by
  unfold f_M_year_B147
  refine n_ias dX12_year_147 sa_87 ?_
  refine s_topM (fun M18 => ?_)
  refine s_aload_n 0 dX12_year_148 rfl ?_
  refine n_getR (x := 87) dX12_year_149 okf_M_7_11 rfl rfl so_86 (sh_lt so_86 rfl) rfl ?_
  refine s_iload_n 1 dX12_year_152 rfl ?_
  refine s_iconst (v := 3) dX12_year_153 (by decide) ?_
  refine n_invS_i dX12_year_154 ok_X12_spot rfl wt_1017 wt_1018 [.int v1, .int 3] rfl rfl rfl rfl (c_M_spot l G _ _ _) (fun r19 M20 => ?_)
  refine s_iload_n 2 dX12_year_157 rfl ?_
  refine s_ldc (v := 99999) dX12_year_158 wt_1163 ?_
  refine s_icmp_le (tgt := 168) dX12_year_160 (by decide) (fun _ => ?_) (fun _ => ?_)
  · refine s_iload_n 2 dX12_year_168 rfl ?_
    refine n_ias dX12_year_169 sa_87 ?_
    refine s_topM (fun M21 => ?_)
    refine s_iinc (v := 1) (lv' := [(1, .int (v1 + 1)), (0, aR G 86), (3, .int v3)]) 1 dX12_year_170 rfl (by decide) rfl rfl ?_
    refine s_goto (tgt := 47) dX12_year_173 (by decide) ?_
    refine s_lv [1, 0] (lv' := [(0, aR G 86), (1, .int (v1 + 1))]) rfl ?_
    exact hk47 _ _
  · refine s_ldc (v := 99999) dX12_year_163 wt_1163 ?_
    refine s_goto (tgt := 169) dX12_year_165 (by decide) ?_
    refine n_ias dX12_year_169 sa_87 ?_
    refine s_topM (fun M22 => ?_)
    refine s_iinc (v := 1) (lv' := [(1, .int (v1 + 1)), (0, aR G 86), (3, .int v3)]) 1 dX12_year_170 rfl (by decide) rfl rfl ?_
    refine s_goto (tgt := 47) dX12_year_173 (by decide) ?_
    refine s_lv [1, 0] (lv' := [(0, aR G 86), (1, .int (v1 + 1))]) rfl ?_
    exact hk47 _ _
def f_M_year_B122 (k47 : Int32 → Nm → Option (Unit × Nm)) (v1 : Int32) (v2 : Int32) (s0 : Int32) (s1 : Int32) (M : Nm) : Option (Unit × Nm) := bnd (f_M_spot v1 2 M) fun r16 M17 => if v2 ≤ 999 then (f_M_year_B147 k47 v1 (s1 + s0) v2 r16 M17) else (f_M_year_B147 k47 v1 (s1 + s0) 999 r16 M17)
theorem c_M_year_B122 (l : Launch) (G : Gl) {k47 : Int32 → Nm → Option (Unit × Nm)} (v1 : Int32) (v2 : Int32) (s0 : Int32) (s1 : Int32)  (hk47 : ∀ (v1 : Int32)  (M : Nm), NJ l G Y_X12_year (zR 5 121) eU 47 [(0, aR G 86), (1, .int v1)] [] M (k47 v1 M)) (M : Nm) : NJ l G Y_X12_year (zR 5 121) eU 122 [(0, aR G 86), (1, .int v1), (2, .int v2)] [.int s0, .int s1] M (f_M_year_B122 k47 v1 v2 s0 s1 M) := by
  unfold f_M_year_B122
  refine s_iadd dX12_year_122 ?_
  refine s_istore_n (i := 3) (lv' := [(3, .int (s1 + s0)), (0, aR G 86), (1, .int v1), (2, .int v2)]) dX12_year_123 rfl rfl rfl ?_
  refine s_aload_n 1 dX12_year_124 rfl ?_
  refine n_getR (x := 87) dX12_year_125 okf_M_7_11 rfl rfl so_86 (sh_lt so_86 rfl) rfl ?_
  refine s_iload_n 2 dX12_year_128 rfl ?_
  refine s_iconst (v := 2) dX12_year_129 (by decide) ?_
  refine n_invS_i dX12_year_130 ok_X12_spot rfl wt_1017 wt_1018 [.int v1, .int 2] rfl rfl rfl rfl (c_M_spot l G _ _ _) (fun r16 M17 => ?_)
  refine s_iload_n 3 dX12_year_133 rfl ?_
  refine s_sipush (v := 999) dX12_year_134 (by decide) ?_
  refine s_icmp_le (tgt := 146) dX12_year_137 (by decide) (fun _ => ?_) (fun _ => ?_)
  · refine s_iload_n 3 dX12_year_146 rfl ?_
    refine s_lv [1, 2, 0] (lv' := [(0, aR G 86), (1, .int v1), (3, .int (s1 + s0))]) rfl ?_
    exact c_M_year_B147 l G _ _ _ _ hk47 _
  · refine s_sipush (v := 999) dX12_year_140 (by decide) ?_
    refine s_goto (tgt := 147) dX12_year_143 (by decide) ?_
    refine s_lv [1, 2, 0] (lv' := [(0, aR G 86), (1, .int v1), (3, .int (s1 + s0))]) rfl ?_
    exact c_M_year_B147 l G _ _ _ _ hk47 _
def f_M_year_B89 (k47 : Int32 → Nm → Option (Unit × Nm)) (v1 : Int32) (s0 : Int32) (s1 : Int32) (M : Nm) : Option (Unit × Nm) := bnd (f_M_its v1 3 M) fun r12 M13 => grd (inb v1 6) <| if 0 ≤ (M13.1 95 (ix v1)) then (grd (inb v1 6) <| bnd (f_M_cropOf v1 M13) fun r14 M15 => f_M_year_B122 k47 v1 (s1 + s0) ((M13.1 95 (ix v1)) * r14) r12 M15) else (f_M_year_B122 k47 v1 (s1 + s0) 0 r12 M13)
theorem c_M_year_B89 (l : Launch) (G : Gl) {k47 : Int32 → Nm → Option (Unit × Nm)} (v1 : Int32) (s0 : Int32) (s1 : Int32)  (hk47 : ∀ (v1 : Int32)  (M : Nm), NJ l G Y_X12_year (zR 5 121) eU 47 [(0, aR G 86), (1, .int v1)] [] M (k47 v1 M)) (M : Nm) : NJ l G Y_X12_year (zR 5 121) eU 89 [(0, aR G 86), (1, .int v1)] [.int s0, .int s1] M (f_M_year_B89 k47 v1 s0 s1 M) := by
  unfold f_M_year_B89
  refine s_iadd dX12_year_89 ?_
  refine s_istore_n (i := 2) (lv' := [(2, .int (s1 + s0)), (0, aR G 86), (1, .int v1)]) dX12_year_90 rfl rfl rfl ?_
  refine s_aload_n 1 dX12_year_91 rfl ?_
  refine s_iload_n 2 dX12_year_92 rfl ?_
  refine s_iconst (v := 3) dX12_year_93 (by decide) ?_
  refine n_invV_i dX12_year_94 ok_X12_its rfl wt_1013 wt_1015 ws_26 (ci := 11) rfl rfl so_86 (sh_lt so_86 rfl) [.int v1, .int 3] rfl rfl rfl rfl (c_M_its l G _ _ _) (fun r12 M13 => ?_)
  refine s_aload_n 1 dX12_year_97 rfl ?_
  refine n_getR (x := 95) dX12_year_98 okf_M_35_11 rfl rfl so_86 (sh_lt so_86 rfl) rfl ?_
  refine s_iload_n 2 dX12_year_101 rfl ?_
  refine n_ial dX12_year_102 sa_95 ?_
  refine s_if_ge (tgt := 110) dX12_year_103 (by decide) (fun _ => ?_) (fun _ => ?_)
  · refine s_aload_n 1 dX12_year_110 rfl ?_
    refine n_getR (x := 95) dX12_year_111 okf_M_35_11 rfl rfl so_86 (sh_lt so_86 rfl) rfl ?_
    refine s_iload_n 2 dX12_year_114 rfl ?_
    refine n_ial dX12_year_115 sa_95 ?_
    refine s_aload_n 1 dX12_year_116 rfl ?_
    refine s_iload_n 2 dX12_year_117 rfl ?_
    refine n_invV_i dX12_year_118 ok_X12_cropOf rfl wt_1104 wt_1106 ws_37 (ci := 11) rfl rfl so_86 (sh_lt so_86 rfl) [.int v1] rfl rfl rfl rfl (c_M_cropOf l G _ _) (fun r14 M15 => ?_)
    refine s_imul dX12_year_121 ?_
    refine s_lv [1, 2, 0] (lv' := [(0, aR G 86), (1, .int v1), (2, .int (s1 + s0))]) rfl ?_
    exact c_M_year_B122 l G _ _ _ _ hk47 _
  · refine s_iconst (v := 0) dX12_year_106 (by decide) ?_
    refine s_goto (tgt := 122) dX12_year_107 (by decide) ?_
    refine s_lv [1, 2, 0] (lv' := [(0, aR G 86), (1, .int v1), (2, .int (s1 + s0))]) rfl ?_
    exact c_M_year_B122 l G _ _ _ _ hk47 _
def f_M_year_L47 (k176 : Nm → Option (Unit × Nm))  : Nat → Int32 → Nm → Option (Unit × Nm)
  | 0, _, _ => none
  | f + 1, v1, M => grd (inb 0 176) <| if (M.1 87 (ix 0)) ≤ v1 then (k176 M) else (bnd (f_M_its v1 2 M) fun r10 M11 => grd (inb v1 6) <| if 0 ≤ (M11.1 95 (ix v1)) then (grd (inb v1 6) <| grd (inb v1 6) <| f_M_year_B89 (f_M_year_L47 k176 f) v1 ((M11.1 95 (ix v1)) - (M11.1 94 (ix v1))) r10 M11) else (f_M_year_B89 (f_M_year_L47 k176 f) v1 5 r10 M11))
theorem c_M_year_L47 (l : Launch) (G : Gl) {k176 : Nm → Option (Unit × Nm)}   (hk176 : ∀   (M : Nm), NJ l G Y_X12_year (zR 5 121) eU 176 [(0, aR G 86)] [] M (k176 M)) : ∀ (f : Nat) (v1 : Int32)  (M : Nm), NJ l G Y_X12_year (zR 5 121) eU 47 [(0, aR G 86), (1, .int v1)] [] M (f_M_year_L47 k176 f v1 M) := by
  intro f
  induction f with
  | zero => intro v1 M; exact s_none
  | succ f ih =>
    intro v1 M
    rw [f_M_year_L47]
    refine s_iload_n 1 dX12_year_47 rfl ?_
    refine s_aload_n 0 dX12_year_48 rfl ?_
    refine n_getR (x := 87) dX12_year_49 okf_M_7_11 rfl rfl so_86 (sh_lt so_86 rfl) rfl ?_
    refine s_iconst (v := 0) dX12_year_52 (by decide) ?_
    refine n_ial dX12_year_53 sa_87 ?_
    refine s_icmp_ge (tgt := 176) dX12_year_54 (by decide) (fun _ => ?_) (fun _ => ?_)
    · refine s_lv [0] (lv' := [(0, aR G 86)]) rfl ?_
      exact hk176 _
    · refine s_aload_n 0 dX12_year_57 rfl ?_
      refine s_iload_n 1 dX12_year_58 rfl ?_
      refine s_iconst (v := 2) dX12_year_59 (by decide) ?_
      refine n_invV_i dX12_year_60 ok_X12_its rfl wt_1013 wt_1015 ws_26 (ci := 11) rfl rfl so_86 (sh_lt so_86 rfl) [.int v1, .int 2] rfl rfl rfl rfl (c_M_its l G _ _ _) (fun r10 M11 => ?_)
      refine s_aload_n 0 dX12_year_63 rfl ?_
      refine n_getR (x := 95) dX12_year_64 okf_M_35_11 rfl rfl so_86 (sh_lt so_86 rfl) rfl ?_
      refine s_iload_n 1 dX12_year_67 rfl ?_
      refine n_ial dX12_year_68 sa_95 ?_
      refine s_if_ge (tgt := 76) dX12_year_69 (by decide) (fun _ => ?_) (fun _ => ?_)
      · refine s_aload_n 0 dX12_year_76 rfl ?_
        refine n_getR (x := 95) dX12_year_77 okf_M_35_11 rfl rfl so_86 (sh_lt so_86 rfl) rfl ?_
        refine s_iload_n 1 dX12_year_80 rfl ?_
        refine n_ial dX12_year_81 sa_95 ?_
        refine s_aload_n 0 dX12_year_82 rfl ?_
        refine n_getR (x := 94) dX12_year_83 okf_M_32_11 rfl rfl so_86 (sh_lt so_86 rfl) rfl ?_
        refine s_iload_n 1 dX12_year_86 rfl ?_
        refine n_ial dX12_year_87 sa_94 ?_
        refine s_isub dX12_year_88 ?_
        exact c_M_year_B89 l G _ _ _ ih _
      · refine s_iconst (v := 5) dX12_year_72 (by decide) ?_
        refine s_goto (tgt := 89) dX12_year_73 (by decide) ?_
        exact c_M_year_B89 l G _ _ _ ih _
def f_M_year_L178 (k201 : Int32 → Nm → Option (Unit × Nm))  : Nat → Int32 → Nm → Option (Unit × Nm)
  | 0, _, _ => none
  | f + 1, v1, M => if 48 ≤ v1 then (k201 v1 M) else (grd (inb (2 + v1) 176) <| if (M.1 87 (ix (2 + v1))) = 0 then (f_M_year_L178 k201 f (v1 + 1) M) else (k201 v1 M))
theorem c_M_year_L178 (l : Launch) (G : Gl) {k201 : Int32 → Nm → Option (Unit × Nm)}   (hk201 : ∀ (v1 : Int32)  (M : Nm), NJ l G Y_X12_year (zR 5 121) eU 201 [(0, aR G 86), (1, .int v1)] [] M (k201 v1 M)) : ∀ (f : Nat) (v1 : Int32)  (M : Nm), NJ l G Y_X12_year (zR 5 121) eU 178 [(0, aR G 86), (1, .int v1)] [] M (f_M_year_L178 k201 f v1 M) := by
  intro f
  induction f with
  | zero => intro v1 M; exact s_none
  | succ f ih =>
    intro v1 M
    rw [f_M_year_L178]
    refine s_iload_n 1 dX12_year_178 rfl ?_
    refine s_bipush (v := 48) dX12_year_179 (by decide) ?_
    refine s_icmp_ge (tgt := 201) dX12_year_181 (by decide) (fun _ => ?_) (fun _ => ?_)
    · exact hk201 _ _
    · refine s_aload_n 0 dX12_year_184 rfl ?_
      refine n_getR (x := 87) dX12_year_185 okf_M_7_11 rfl rfl so_86 (sh_lt so_86 rfl) rfl ?_
      refine s_iconst (v := 2) dX12_year_188 (by decide) ?_
      refine s_iload_n 1 dX12_year_189 rfl ?_
      refine s_iadd dX12_year_190 ?_
      refine n_ial dX12_year_191 sa_87 ?_
      refine s_if_ne (tgt := 201) dX12_year_192 (by decide) (fun _ => ?_) (fun _ => ?_)
      · refine s_iinc (v := 1) (lv' := [(1, .int (v1 + 1)), (0, aR G 86)]) 1 dX12_year_195 rfl (by decide) rfl rfl ?_
        refine s_goto (tgt := 178) dX12_year_198 (by decide) ?_
        refine s_lv [1, 0] (lv' := [(0, aR G 86), (1, .int (v1 + 1))]) rfl ?_
        exact ih _ _
      · exact hk201 _ _
def f_M_year  (M : Nm) : Option (Unit × Nm) := bnd (f_M_writeAll M) fun r1 M2 => f_M_year_L6 (fun M9 => f_M_year_L47 (fun M23 => f_M_year_L178 (fun y25 M24 => if 48 ≤ y25 then (grd (inb 1 176) <| grd (inb 1 176) <| bl (mI M24 87 (ix 1) ((M24.1 87 (ix 1)) + 1)) fun M26 => some ((), M26)) else (grd (inb (2 + y25) 176) <| bl (mI M24 87 (ix (2 + y25)) 0) fun M27 => grd (inb 1 176) <| grd (inb 1 176) <| bl (mI M27 87 (ix 1) ((M27.1 87 (ix 1)) + 1)) fun M28 => some ((), M28))) FU 0 M23) FU 0 M9) FU 0 M2
theorem c_M_year (l : Launch) (G : Gl)   (M : Nm) : NJ l G Y_X12_year (zR 5 121) eU 0 (lv_args 0 [aR G 86]) [] M (f_M_year  M) := by
  unfold f_M_year
  show NJ l G Y_X12_year (zR 5 121) eU 0 [(0, aR G 86)] [] M _
  refine s_aload_n 0 dX12_year_0 rfl ?_
  refine n_invV_u dX12_year_1 ok_X12_writeAll rfl wt_1001 wt_1003 ws_23 (ci := 11) rfl rfl so_86 (sh_lt so_86 rfl) [] rfl rfl rfl rfl (c_M_writeAll l G _) (fun r1 M2 => ?_)
  refine s_iconst (v := 0) dX12_year_4 (by decide) ?_
  refine s_istore_n (i := 1) (lv' := [(1, .int 0), (0, aR G 86)]) dX12_year_5 rfl rfl rfl ?_
  refine s_lv [1, 0] (lv' := [(0, aR G 86), (1, .int 0)]) rfl ?_
  refine c_M_year_L6 l G (fun M9 => ?_) FU _ _
  refine s_iconst (v := 0) dX12_year_45 (by decide) ?_
  refine s_istore_n (i := 1) (lv' := [(1, .int 0), (0, aR G 86)]) dX12_year_46 rfl rfl rfl ?_
  refine s_lv [1, 0] (lv' := [(0, aR G 86), (1, .int 0)]) rfl ?_
  refine c_M_year_L47 l G (fun M23 => ?_) FU _ _
  refine s_iconst (v := 0) dX12_year_176 (by decide) ?_
  refine s_istore_n (i := 1) (lv' := [(1, .int 0), (0, aR G 86)]) dX12_year_177 rfl rfl rfl ?_
  refine s_lv [1, 0] (lv' := [(0, aR G 86), (1, .int 0)]) rfl ?_
  refine c_M_year_L178 l G (fun y25 M24 => ?_) FU _ _
  refine s_iload_n 1 dX12_year_201 rfl ?_
  refine s_bipush (v := 48) dX12_year_202 (by decide) ?_
  refine s_icmp_ge (tgt := 216) dX12_year_204 (by decide) (fun _ => ?_) (fun _ => ?_)
  · refine s_aload_n 0 dX12_year_216 rfl ?_
    refine n_getR (x := 87) dX12_year_217 okf_M_7_11 rfl rfl so_86 (sh_lt so_86 rfl) rfl ?_
    refine s_iconst (v := 1) dX12_year_220 (by decide) ?_
    refine s_dup2 dX12_year_221 rfl rfl ?_
    refine n_ial dX12_year_222 sa_87 ?_
    refine s_iconst (v := 1) dX12_year_223 (by decide) ?_
    refine s_iadd dX12_year_224 ?_
    refine n_ias dX12_year_225 sa_87 ?_
    refine s_topM (fun M26 => ?_)
    exact n_vret dX12_year_226 rfl
  · refine s_aload_n 0 dX12_year_207 rfl ?_
    refine n_getR (x := 87) dX12_year_208 okf_M_7_11 rfl rfl so_86 (sh_lt so_86 rfl) rfl ?_
    refine s_iconst (v := 2) dX12_year_211 (by decide) ?_
    refine s_iload_n 1 dX12_year_212 rfl ?_
    refine s_iadd dX12_year_213 ?_
    refine s_iconst (v := 0) dX12_year_214 (by decide) ?_
    refine n_ias dX12_year_215 sa_87 ?_
    refine s_topM (fun M27 => ?_)
    refine s_aload_n 0 dX12_year_216 rfl ?_
    refine n_getR (x := 87) dX12_year_217 okf_M_7_11 rfl rfl so_86 (sh_lt so_86 rfl) rfl ?_
    refine s_iconst (v := 1) dX12_year_220 (by decide) ?_
    refine s_dup2 dX12_year_221 rfl rfl ?_
    refine n_ial dX12_year_222 sa_87 ?_
    refine s_iconst (v := 1) dX12_year_223 (by decide) ?_
    refine s_iadd dX12_year_224 ?_
    refine n_ias dX12_year_225 sa_87 ?_
    refine s_topM (fun M28 => ?_)
    exact n_vret dX12_year_226 rfl
def f_M_goesOn_L2  (v1 : Int32) : Nat → Int32 → Nm → Option (Unit × Nm)
  | 0, _, _ => none
  | f + 1, v2, M => if v1 ≤ v2 then (some ((), M)) else (bnd (f_M_year M) fun r1 M2 => f_M_goesOn_L2 v1 f (v2 + 1) M2)
theorem c_M_goesOn_L2 (l : Launch) (G : Gl)  (v1 : Int32)   : ∀ (f : Nat) (v2 : Int32)  (M : Nm), NJ l G Y_X12_goesOn (zR 6 144) eU 2 [(0, aR G 86), (1, .int v1), (2, .int v2)] [] M (f_M_goesOn_L2 v1 f v2 M) := by
  intro f
  induction f with
  | zero => intro v2 M; exact s_none
  | succ f ih =>
    intro v2 M
    rw [f_M_goesOn_L2]
    refine s_iload_n 2 dX12_goesOn_2 rfl ?_
    refine s_iload_n 1 dX12_goesOn_3 rfl ?_
    refine s_icmp_ge (tgt := 17) dX12_goesOn_4 (by decide) (fun _ => ?_) (fun _ => ?_)
    · exact n_vret dX12_goesOn_17 rfl
    · refine s_aload_n 0 dX12_goesOn_7 rfl ?_
      refine n_invV_u dX12_goesOn_8 ok_X12_year rfl wt_1159 wt_1161 ws_40 (ci := 11) rfl rfl so_86 (sh_lt so_86 rfl) [] rfl rfl rfl rfl (c_M_year l G _) (fun r1 M2 => ?_)
      refine s_iinc (v := 1) (lv' := [(2, .int (v2 + 1)), (0, aR G 86), (1, .int v1)]) 2 dX12_goesOn_11 rfl (by decide) rfl rfl ?_
      refine s_goto (tgt := 2) dX12_goesOn_14 (by decide) ?_
      refine s_lv [1, 2, 0] (lv' := [(0, aR G 86), (1, .int v1), (2, .int (v2 + 1))]) rfl ?_
      exact ih _ _
def f_M_goesOn (v1 : Int32) (M : Nm) : Option (Unit × Nm) := f_M_goesOn_L2 v1 FU 0 M
theorem c_M_goesOn (l : Launch) (G : Gl) (v1 : Int32)  (M : Nm) : NJ l G Y_X12_goesOn (zR 6 144) eU 0 (lv_args 0 [aR G 86, .int v1]) [] M (f_M_goesOn v1 M) := by
  unfold f_M_goesOn
  show NJ l G Y_X12_goesOn (zR 6 144) eU 0 [(0, aR G 86), (1, .int v1)] [] M _
  refine s_iconst (v := 0) dX12_goesOn_0 (by decide) ?_
  refine s_istore_n (i := 2) (lv' := [(2, .int 0), (0, aR G 86), (1, .int v1)]) dX12_goesOn_1 rfl rfl rfl ?_
  refine s_lv [1, 2, 0] (lv' := [(0, aR G 86), (1, .int v1), (2, .int 0)]) rfl ?_
  refine c_M_goesOn_L2 l G _ FU _ _
def f_M_together_L4  (v1 : Int32) : Nat → Int32 → Int32 → Nm → Option (Int32 × Nm)
  | 0, _, _, _ => none
  | f + 1, v2, v3, M => grd (inb 0 176) <| if (M.1 87 (ix 0)) ≤ v3 then (some (v2, M)) else (bnd (f_M_its v3 v1 M) fun r1 M2 => f_M_together_L4 v1 f (v2 + r1) (v3 + 1) M2)
theorem c_M_together_L4 (l : Launch) (G : Gl)  (v1 : Int32)   : ∀ (f : Nat) (v2 : Int32) (v3 : Int32)  (M : Nm), NJ l G Y_X12_together (zR 2 43) eI 4 [(0, aR G 86), (1, .int v1), (2, .int v2), (3, .int v3)] [] M (f_M_together_L4 v1 f v2 v3 M) := by
  intro f
  induction f with
  | zero => intro v2 v3 M; exact s_none
  | succ f ih =>
    intro v2 v3 M
    rw [f_M_together_L4]
    refine s_iload_n 3 dX12_together_4 rfl ?_
    refine s_aload_n 0 dX12_together_5 rfl ?_
    refine n_getR (x := 87) dX12_together_6 okf_M_7_11 rfl rfl so_86 (sh_lt so_86 rfl) rfl ?_
    refine s_iconst (v := 0) dX12_together_9 (by decide) ?_
    refine n_ial dX12_together_10 sa_87 ?_
    refine s_icmp_ge (tgt := 29) dX12_together_11 (by decide) (fun _ => ?_) (fun _ => ?_)
    · refine s_iload_n 2 dX12_together_29 rfl ?_
      exact n_iret dX12_together_30 rfl
    · refine s_iload_n 2 dX12_together_14 rfl ?_
      refine s_aload_n 0 dX12_together_15 rfl ?_
      refine s_iload_n 3 dX12_together_16 rfl ?_
      refine s_iload_n 1 dX12_together_17 rfl ?_
      refine n_invV_i dX12_together_18 ok_X12_its rfl wt_1013 wt_1015 ws_26 (ci := 11) rfl rfl so_86 (sh_lt so_86 rfl) [.int v3, .int v1] rfl rfl rfl rfl (c_M_its l G _ _ _) (fun r1 M2 => ?_)
      refine s_iadd dX12_together_21 ?_
      refine s_istore_n (i := 2) (lv' := [(2, .int (v2 + r1)), (0, aR G 86), (1, .int v1), (3, .int v3)]) dX12_together_22 rfl rfl rfl ?_
      refine s_iinc (v := 1) (lv' := [(3, .int (v3 + 1)), (2, .int (v2 + r1)), (0, aR G 86), (1, .int v1)]) 3 dX12_together_23 rfl (by decide) rfl rfl ?_
      refine s_goto (tgt := 4) dX12_together_26 (by decide) ?_
      refine s_lv [2, 3, 1, 0] (lv' := [(0, aR G 86), (1, .int v1), (2, .int (v2 + r1)), (3, .int (v3 + 1))]) rfl ?_
      exact ih _ _ _
def f_M_together (v1 : Int32) (M : Nm) : Option (Int32 × Nm) := f_M_together_L4 v1 FU 0 0 M
theorem c_M_together (l : Launch) (G : Gl) (v1 : Int32)  (M : Nm) : NJ l G Y_X12_together (zR 2 43) eI 0 (lv_args 0 [aR G 86, .int v1]) [] M (f_M_together v1 M) := by
  unfold f_M_together
  show NJ l G Y_X12_together (zR 2 43) eI 0 [(0, aR G 86), (1, .int v1)] [] M _
  refine s_iconst (v := 0) dX12_together_0 (by decide) ?_
  refine s_istore_n (i := 2) (lv' := [(2, .int 0), (0, aR G 86), (1, .int v1)]) dX12_together_1 rfl rfl rfl ?_
  refine s_iconst (v := 0) dX12_together_2 (by decide) ?_
  refine s_istore_n (i := 3) (lv' := [(3, .int 0), (2, .int 0), (0, aR G 86), (1, .int v1)]) dX12_together_3 rfl rfl rfl ?_
  refine s_lv [2, 3, 1, 0] (lv' := [(0, aR G 86), (1, .int v1), (2, .int 0), (3, .int 0)]) rfl ?_
  refine c_M_together_L4 l G _ FU _ _ _
def f_M_years (v1 : Int32) (M : Nm) : Option (Int32 × Nm) := bnd (f_M_in v1.toInt64 1 60 M) fun r1 M2 => if r1 = 0 then (bnd (f_M_finds (-1000000001) M2) fun r3 M4 => some (r3, M4)) else (grd (inb 1 176) <| if ((M2.1 87 (ix 1)) + v1) ≤ 9999 then (bnd (f_M_goesOn v1 M2) fun r5 M6 => bnd (f_M_together 3 M6) fun r7 M8 => some (r7, M8)) else (bnd (f_M_finds (-1000000005) M2) fun r9 M10 => some (r9, M10)))
theorem c_M_years (l : Launch) (G : Gl) (v1 : Int32)  (M : Nm) : NJ l G Y_X12_years (zR 7 166) eI 0 (lv_args 0 [aR G 86, .int v1]) [] M (f_M_years v1 M) := by
  unfold f_M_years
  show NJ l G Y_X12_years (zR 7 166) eI 0 [(0, aR G 86), (1, .int v1)] [] M _
  refine s_iload_n 1 dX12_years_0 rfl ?_
  refine s_i2l dX12_years_1 ?_
  refine s_lconst (v := 1) dX12_years_2 (by decide) ?_
  refine s_ldc2 (v := 60) dX12_years_3 wt_1153 ?_
  refine n_invS_i dX12_years_6 ok_X12_in rfl wt_984 wt_985 [.long v1.toInt64, .long 1, .long 60] rfl rfl rfl rfl (c_M_in l G _ _ _ _) (fun r1 M2 => ?_)
  refine s_if_ne (tgt := 19) dX12_years_9 (by decide) (fun _ => ?_) (fun _ => ?_)
  · refine s_aload_n 0 dX12_years_12 rfl ?_
    refine s_ldc (v := (-1000000001)) dX12_years_13 wt_991 ?_
    refine n_invV_i dX12_years_15 ok_X12_finds rfl wt_992 wt_994 ws_22 (ci := 11) rfl rfl so_86 (sh_lt so_86 rfl) [.int (-1000000001)] rfl rfl rfl rfl (c_M_finds l G _ _) (fun r3 M4 => ?_)
    exact n_iret dX12_years_18 rfl
  · refine s_aload_n 0 dX12_years_19 rfl ?_
    refine n_getR (x := 87) dX12_years_20 okf_M_7_11 rfl rfl so_86 (sh_lt so_86 rfl) rfl ?_
    refine s_iconst (v := 1) dX12_years_23 (by decide) ?_
    refine n_ial dX12_years_24 sa_87 ?_
    refine s_iload_n 1 dX12_years_25 rfl ?_
    refine s_iadd dX12_years_26 ?_
    refine s_sipush (v := 9999) dX12_years_27 (by decide) ?_
    refine s_icmp_le (tgt := 40) dX12_years_30 (by decide) (fun _ => ?_) (fun _ => ?_)
    · refine s_aload_n 0 dX12_years_40 rfl ?_
      refine s_iload_n 1 dX12_years_41 rfl ?_
      refine n_invV_u dX12_years_42 ok_X12_goesOn rfl wt_1155 wt_1157 ws_39 (ci := 11) rfl rfl so_86 (sh_lt so_86 rfl) [.int v1] rfl rfl rfl rfl (c_M_goesOn l G _ _) (fun r5 M6 => ?_)
      refine s_aload_n 0 dX12_years_45 rfl ?_
      refine s_iconst (v := 3) dX12_years_46 (by decide) ?_
      refine n_invV_i dX12_years_47 ok_X12_together rfl wt_1164 wt_1166 ws_41 (ci := 11) rfl rfl so_86 (sh_lt so_86 rfl) [.int 3] rfl rfl rfl rfl (c_M_together l G _ _) (fun r7 M8 => ?_)
      exact n_iret dX12_years_50 rfl
    · refine s_aload_n 0 dX12_years_33 rfl ?_
      refine s_ldc (v := (-1000000005)) dX12_years_34 wt_1154 ?_
      refine n_invV_i dX12_years_36 ok_X12_finds rfl wt_992 wt_994 ws_22 (ci := 11) rfl rfl so_86 (sh_lt so_86 rfl) [.int (-1000000005)] rfl rfl rfl rfl (c_M_finds l G _ _) (fun r9 M10 => ?_)
      exact n_iret dX12_years_39 rfl
def f_M_thoseThatWrite_L8   : Nat → Int32 → Int32 → Nm → Option (Int32 × Nm)
  | 0, _, _, _ => none
  | f + 1, v1, v2, M => grd (inb 0 176) <| if (M.1 87 (ix 0)) ≤ v2 then (some (v1, M)) else (bnd (f_M_writes v2 M) fun r3 M4 => if r3 = 0 then (f_M_thoseThatWrite_L8 f (v1 ||| 0) (v2 + 1) M4) else (bl (v1 ||| (1 <<< (v2 &&& 31))) fun x5 => f_M_thoseThatWrite_L8 f x5 (v2 + 1) M4))
theorem c_M_thoseThatWrite_L8 (l : Launch) (G : Gl)     : ∀ (f : Nat) (v1 : Int32) (v2 : Int32)  (M : Nm), NJ l G Y_X12_thoseThatWrite (zR 5 121) eI 8 [(0, aR G 86), (1, .int v1), (2, .int v2)] [] M (f_M_thoseThatWrite_L8 f v1 v2 M) := by
  intro f
  induction f with
  | zero => intro v1 v2 M; exact s_none
  | succ f ih =>
    intro v1 v2 M
    rw [f_M_thoseThatWrite_L8]
    refine s_iload_n 2 dX12_thoseThatWrite_8 rfl ?_
    refine s_aload_n 0 dX12_thoseThatWrite_9 rfl ?_
    refine n_getR (x := 87) dX12_thoseThatWrite_10 okf_M_7_11 rfl rfl so_86 (sh_lt so_86 rfl) rfl ?_
    refine s_iconst (v := 0) dX12_thoseThatWrite_13 (by decide) ?_
    refine n_ial dX12_thoseThatWrite_14 sa_87 ?_
    refine s_icmp_ge (tgt := 42) dX12_thoseThatWrite_15 (by decide) (fun _ => ?_) (fun _ => ?_)
    · refine s_iload_n 1 dX12_thoseThatWrite_42 rfl ?_
      exact n_iret dX12_thoseThatWrite_43 rfl
    · refine s_iload_n 1 dX12_thoseThatWrite_18 rfl ?_
      refine s_aload_n 0 dX12_thoseThatWrite_19 rfl ?_
      refine s_iload_n 2 dX12_thoseThatWrite_20 rfl ?_
      refine n_invV_i dX12_thoseThatWrite_21 ok_X12_writes rfl wt_1046 wt_1048 ws_30 (ci := 11) rfl rfl so_86 (sh_lt so_86 rfl) [.int v2] rfl rfl rfl rfl (c_M_writes l G _ _) (fun r3 M4 => ?_)
      refine s_if_eq (tgt := 33) dX12_thoseThatWrite_24 (by decide) (fun _ => ?_) (fun _ => ?_)
      · refine s_iconst (v := 0) dX12_thoseThatWrite_33 (by decide) ?_
        refine s_ior dX12_thoseThatWrite_34 ?_
        refine s_istore_n (i := 1) (lv' := [(1, .int (v1 ||| 0)), (0, aR G 86), (2, .int v2)]) dX12_thoseThatWrite_35 rfl rfl rfl ?_
        refine s_iinc (v := 1) (lv' := [(2, .int (v2 + 1)), (1, .int (v1 ||| 0)), (0, aR G 86)]) 2 dX12_thoseThatWrite_36 rfl (by decide) rfl rfl ?_
        refine s_goto (tgt := 8) dX12_thoseThatWrite_39 (by decide) ?_
        refine s_lv [2, 1, 0] (lv' := [(0, aR G 86), (1, .int (v1 ||| 0)), (2, .int (v2 + 1))]) rfl ?_
        exact ih _ _ _
      · refine s_iconst (v := 1) dX12_thoseThatWrite_27 (by decide) ?_
        refine s_iload_n 2 dX12_thoseThatWrite_28 rfl ?_
        refine s_ishl dX12_thoseThatWrite_29 ?_
        refine s_goto (tgt := 34) dX12_thoseThatWrite_30 (by decide) ?_
        refine s_ior dX12_thoseThatWrite_34 ?_
        refine s_topi (fun x5 => ?_)
        refine s_istore_n (i := 1) (lv' := [(1, .int x5), (0, aR G 86), (2, .int v2)]) dX12_thoseThatWrite_35 rfl rfl rfl ?_
        refine s_iinc (v := 1) (lv' := [(2, .int (v2 + 1)), (1, .int x5), (0, aR G 86)]) 2 dX12_thoseThatWrite_36 rfl (by decide) rfl rfl ?_
        refine s_goto (tgt := 8) dX12_thoseThatWrite_39 (by decide) ?_
        refine s_lv [2, 1, 0] (lv' := [(0, aR G 86), (1, .int x5), (2, .int (v2 + 1))]) rfl ?_
        exact ih _ _ _
def f_M_thoseThatWrite  (M : Nm) : Option (Int32 × Nm) := bnd (f_M_writeAll M) fun r1 M2 => f_M_thoseThatWrite_L8 FU 0 0 M2
theorem c_M_thoseThatWrite (l : Launch) (G : Gl)   (M : Nm) : NJ l G Y_X12_thoseThatWrite (zR 5 121) eI 0 (lv_args 0 [aR G 86]) [] M (f_M_thoseThatWrite  M) := by
  unfold f_M_thoseThatWrite
  show NJ l G Y_X12_thoseThatWrite (zR 5 121) eI 0 [(0, aR G 86)] [] M _
  refine s_aload_n 0 dX12_thoseThatWrite_0 rfl ?_
  refine n_invV_u dX12_thoseThatWrite_1 ok_X12_writeAll rfl wt_1001 wt_1003 ws_23 (ci := 11) rfl rfl so_86 (sh_lt so_86 rfl) [] rfl rfl rfl rfl (c_M_writeAll l G _) (fun r1 M2 => ?_)
  refine s_iconst (v := 0) dX12_thoseThatWrite_4 (by decide) ?_
  refine s_istore_n (i := 1) (lv' := [(1, .int 0), (0, aR G 86)]) dX12_thoseThatWrite_5 rfl rfl rfl ?_
  refine s_iconst (v := 0) dX12_thoseThatWrite_6 (by decide) ?_
  refine s_istore_n (i := 2) (lv' := [(2, .int 0), (1, .int 0), (0, aR G 86)]) dX12_thoseThatWrite_7 rfl rfl rfl ?_
  refine s_lv [2, 1, 0] (lv' := [(0, aR G 86), (1, .int 0), (2, .int 0)]) rfl ?_
  refine c_M_thoseThatWrite_L8 l G FU _ _ _
def f_M_now (v1 : Int32) (M : Nm) : Option (Int32 × Nm) := if v1 = 0 then (grd (inb 1 176) <| some (M.1 87 (ix 1), M)) else if v1 = 1 then (bnd (f_M_together 3 M) fun r3 M4 => some (r3, M4)) else if v1 = 2 then (bnd (f_M_together 2 M) fun r6 M7 => some (r6, M7)) else if v1 = 3 then (bnd (f_M_thoseThatWrite M) fun r9 M10 => some (r9, M10)) else if v1 = 4 then (bnd (f_M_smudges M) fun r12 M13 => bnd (f_M_ones r12 M13) fun r14 M15 => some (r14, M15)) else (bnd (f_M_finds (-1000000001) M) fun r16 M17 => some (r16, M17))
theorem c_M_now (l : Launch) (G : Gl) (v1 : Int32)  (M : Nm) : NJ l G Y_X12_now (zR 6 143) eI 0 (lv_args 0 [aR G 86, .int v1]) [] M (f_M_now v1 M) := by
  unfold f_M_now
  show NJ l G Y_X12_now (zR 6 143) eI 0 [(0, aR G 86), (1, .int v1)] [] M _
  refine s_iload_n 1 dX12_now_0 rfl ?_
  refine s_ite (fun h1 => ?_) (fun h1 => ?_)
  · refine s_tin (tgt := 36) dX12_now_1 (by rw [h1]; decide) (by rw [h1]; decide) (by rw [h1]; rfl) (by decide) ?_
    refine s_aload_n 0 dX12_now_36 rfl ?_
    refine n_getR (x := 87) dX12_now_37 okf_M_7_11 rfl rfl so_86 (sh_lt so_86 rfl) rfl ?_
    refine s_iconst (v := 1) dX12_now_40 (by decide) ?_
    refine n_ial dX12_now_41 sa_87 ?_
    exact n_iret dX12_now_42 rfl
  refine s_ite (fun h2 => ?_) (fun h2 => ?_)
  · refine s_tin (tgt := 43) dX12_now_1 (by rw [h2]; decide) (by rw [h2]; decide) (by rw [h2]; rfl) (by decide) ?_
    refine s_aload_n 0 dX12_now_43 rfl ?_
    refine s_iconst (v := 3) dX12_now_44 (by decide) ?_
    refine n_invV_i dX12_now_45 ok_X12_together rfl wt_1164 wt_1166 ws_41 (ci := 11) rfl rfl so_86 (sh_lt so_86 rfl) [.int 3] rfl rfl rfl rfl (c_M_together l G _ _) (fun r3 M4 => ?_)
    exact n_iret dX12_now_48 rfl
  refine s_ite (fun h5 => ?_) (fun h5 => ?_)
  · refine s_tin (tgt := 49) dX12_now_1 (by rw [h5]; decide) (by rw [h5]; decide) (by rw [h5]; rfl) (by decide) ?_
    refine s_aload_n 0 dX12_now_49 rfl ?_
    refine s_iconst (v := 2) dX12_now_50 (by decide) ?_
    refine n_invV_i dX12_now_51 ok_X12_together rfl wt_1164 wt_1166 ws_41 (ci := 11) rfl rfl so_86 (sh_lt so_86 rfl) [.int 2] rfl rfl rfl rfl (c_M_together l G _ _) (fun r6 M7 => ?_)
    exact n_iret dX12_now_54 rfl
  refine s_ite (fun h8 => ?_) (fun h8 => ?_)
  · refine s_tin (tgt := 55) dX12_now_1 (by rw [h8]; decide) (by rw [h8]; decide) (by rw [h8]; rfl) (by decide) ?_
    refine s_aload_n 0 dX12_now_55 rfl ?_
    refine n_invV_i dX12_now_56 ok_X12_thoseThatWrite rfl wt_1172 wt_1174 ws_42 (ci := 11) rfl rfl so_86 (sh_lt so_86 rfl) [] rfl rfl rfl rfl (c_M_thoseThatWrite l G _) (fun r9 M10 => ?_)
    exact n_iret dX12_now_59 rfl
  refine s_ite (fun h11 => ?_) (fun h11 => ?_)
  · refine s_tin (tgt := 60) dX12_now_1 (by rw [h11]; decide) (by rw [h11]; decide) (by rw [h11]; rfl) (by decide) ?_
    refine s_aload_n 0 dX12_now_60 rfl ?_
    refine n_invV_l dX12_now_61 ok_X12_smudges rfl wt_1005 wt_1007 ws_24 (ci := 11) rfl rfl so_86 (sh_lt so_86 rfl) [] rfl rfl rfl rfl (c_M_smudges l G _) (fun r12 M13 => ?_)
    refine n_invS_i dX12_now_64 ok_X12_ones rfl wt_1097 wt_1098 [.long r12] rfl rfl rfl rfl (c_M_ones l G _ _) (fun r14 M15 => ?_)
    exact n_iret dX12_now_67 rfl
  refine s_tout (tgt := 68) dX12_now_1 (sw_out (fun k h1 h2 => by rcases (show k = 0 ∨ k = 1 ∨ k = 2 ∨ k = 3 ∨ k = 4 by omega) with rfl | rfl | rfl | rfl | rfl <;> assumption)) (by decide) ?_
  refine s_aload_n 0 dX12_now_68 rfl ?_
  refine s_ldc (v := (-1000000001)) dX12_now_69 wt_991 ?_
  refine n_invV_i dX12_now_71 ok_X12_finds rfl wt_992 wt_994 ws_22 (ci := 11) rfl rfl so_86 (sh_lt so_86 rfl) [.int (-1000000001)] rfl rfl rfl rfl (c_M_finds l G _ _) (fun r16 M17 => ?_)
  exact n_iret dX12_now_74 rfl
def f_M_ownsNow (v1 : Int32) (M : Nm) : Option (Int32 × Nm) := bnd (f_M_writeAll M) fun r1 M2 => bnd (f_M_writes v1 M2) fun r3 M4 => if r3 = 0 then (some (0, M4)) else (bnd (f_M_ownedBy v1 M4) fun r5 M6 => some (r5, M6))
theorem c_M_ownsNow (l : Launch) (G : Gl) (v1 : Int32)  (M : Nm) : NJ l G Y_X12_ownsNow (zR 5 121) eI 0 (lv_args 0 [aR G 86, .int v1]) [] M (f_M_ownsNow v1 M) := by
  unfold f_M_ownsNow
  show NJ l G Y_X12_ownsNow (zR 5 121) eI 0 [(0, aR G 86), (1, .int v1)] [] M _
  refine s_aload_n 0 dX12_ownsNow_0 rfl ?_
  refine n_invV_u dX12_ownsNow_1 ok_X12_writeAll rfl wt_1001 wt_1003 ws_23 (ci := 11) rfl rfl so_86 (sh_lt so_86 rfl) [] rfl rfl rfl rfl (c_M_writeAll l G _) (fun r1 M2 => ?_)
  refine s_aload_n 0 dX12_ownsNow_4 rfl ?_
  refine s_iload_n 1 dX12_ownsNow_5 rfl ?_
  refine n_invV_i dX12_ownsNow_6 ok_X12_writes rfl wt_1046 wt_1048 ws_30 (ci := 11) rfl rfl so_86 (sh_lt so_86 rfl) [.int v1] rfl rfl rfl rfl (c_M_writes l G _ _) (fun r3 M4 => ?_)
  refine s_if_eq (tgt := 20) dX12_ownsNow_9 (by decide) (fun _ => ?_) (fun _ => ?_)
  · refine s_iconst (v := 0) dX12_ownsNow_20 (by decide) ?_
    exact n_iret dX12_ownsNow_21 rfl
  · refine s_aload_n 0 dX12_ownsNow_12 rfl ?_
    refine s_iload_n 1 dX12_ownsNow_13 rfl ?_
    refine n_invV_i dX12_ownsNow_14 ok_X12_ownedBy rfl wt_1100 wt_1102 ws_36 (ci := 11) rfl rfl so_86 (sh_lt so_86 rfl) [.int v1] rfl rfl rfl rfl (c_M_ownedBy l G _ _) (fun r5 M6 => ?_)
    refine s_goto (tgt := 21) dX12_ownsNow_17 (by decide) ?_
    exact n_iret dX12_ownsNow_21 rfl
def f_M_on (v1 : Int32) (v2 : Int32) (v3 : Int32) (M : Nm) : Option (Int32 × Nm) := bnd (f_M_isHand v1 M) fun r1 M2 => if r1 = 0 then (bnd (f_M_finds (-1000000001) M2) fun r3 M4 => some (r3, M4)) else (bnd (f_M_in v2.toInt64 0 60 M2) fun r5 M6 => if r5 = 0 then (bnd (f_M_finds (-1000000001) M6) fun r7 M8 => some (r7, M8)) else (bnd (f_M_in v3.toInt64 0 2 M6) fun r9 M10 => if r9 = 0 then (bnd (f_M_finds (-1000000001) M10) fun r11 M12 => some (r11, M12)) else (bnd (f_M_laysAside M10) fun r13 M14 => bnd (f_M_goesOn v2 M14) fun r15 M16 => if v3 = 2 then (bnd (f_M_ownsNow v1 M16) fun r17 M18 => bnd (f_M_takesBack r17 M18) fun r19 M20 => some (r19, M20)) else (bnd (f_M_its v1 (2 + v3) M16) fun r21 M22 => bnd (f_M_takesBack r21 M22) fun r23 M24 => some (r23, M24)))))
theorem c_M_on (l : Launch) (G : Gl) (v1 : Int32) (v2 : Int32) (v3 : Int32)  (M : Nm) : NJ l G Y_X12_on (zR 7 166) eI 0 (lv_args 0 [aR G 86, .int v1, .int v2, .int v3]) [] M (f_M_on v1 v2 v3 M) := by
  unfold f_M_on
  show NJ l G Y_X12_on (zR 7 166) eI 0 [(0, aR G 86), (1, .int v1), (2, .int v2), (3, .int v3)] [] M _
  refine s_aload_n 0 dX12_on_0 rfl ?_
  refine s_iload_n 1 dX12_on_1 rfl ?_
  refine n_invV_i dX12_on_2 ok_X12_isHand rfl wt_1080 wt_1082 ws_34 (ci := 11) rfl rfl so_86 (sh_lt so_86 rfl) [.int v1] rfl rfl rfl rfl (c_M_isHand l G _ _) (fun r1 M2 => ?_)
  refine s_if_eq (tgt := 32) dX12_on_5 (by decide) (fun _ => ?_) (fun _ => ?_)
  · refine s_aload_n 0 dX12_on_32 rfl ?_
    refine s_ldc (v := (-1000000001)) dX12_on_33 wt_991 ?_
    refine n_invV_i dX12_on_35 ok_X12_finds rfl wt_992 wt_994 ws_22 (ci := 11) rfl rfl so_86 (sh_lt so_86 rfl) [.int (-1000000001)] rfl rfl rfl rfl (c_M_finds l G _ _) (fun r3 M4 => ?_)
    exact n_iret dX12_on_38 rfl
  · refine s_iload_n 2 dX12_on_8 rfl ?_
    refine s_i2l dX12_on_9 ?_
    refine s_lconst (v := 0) dX12_on_10 (by decide) ?_
    refine s_ldc2 (v := 60) dX12_on_11 wt_1153 ?_
    refine n_invS_i dX12_on_14 ok_X12_in rfl wt_984 wt_985 [.long v2.toInt64, .long 0, .long 60] rfl rfl rfl rfl (c_M_in l G _ _ _ _) (fun r5 M6 => ?_)
    refine s_if_eq (tgt := 32) dX12_on_17 (by decide) (fun _ => ?_) (fun _ => ?_)
    · refine s_aload_n 0 dX12_on_32 rfl ?_
      refine s_ldc (v := (-1000000001)) dX12_on_33 wt_991 ?_
      refine n_invV_i dX12_on_35 ok_X12_finds rfl wt_992 wt_994 ws_22 (ci := 11) rfl rfl so_86 (sh_lt so_86 rfl) [.int (-1000000001)] rfl rfl rfl rfl (c_M_finds l G _ _) (fun r7 M8 => ?_)
      exact n_iret dX12_on_38 rfl
    · refine s_iload_n 3 dX12_on_20 rfl ?_
      refine s_i2l dX12_on_21 ?_
      refine s_lconst (v := 0) dX12_on_22 (by decide) ?_
      refine s_ldc2 (v := 2) dX12_on_23 wt_1058 ?_
      refine n_invS_i dX12_on_26 ok_X12_in rfl wt_984 wt_985 [.long v3.toInt64, .long 0, .long 2] rfl rfl rfl rfl (c_M_in l G _ _ _ _) (fun r9 M10 => ?_)
      refine s_if_ne (tgt := 39) dX12_on_29 (by decide) (fun _ => ?_) (fun _ => ?_)
      · refine s_aload_n 0 dX12_on_32 rfl ?_
        refine s_ldc (v := (-1000000001)) dX12_on_33 wt_991 ?_
        refine n_invV_i dX12_on_35 ok_X12_finds rfl wt_992 wt_994 ws_22 (ci := 11) rfl rfl so_86 (sh_lt so_86 rfl) [.int (-1000000001)] rfl rfl rfl rfl (c_M_finds l G _ _) (fun r11 M12 => ?_)
        exact n_iret dX12_on_38 rfl
      · refine s_aload_n 0 dX12_on_39 rfl ?_
        refine n_invV_u dX12_on_40 ok_X12_laysAside rfl wt_1180 wt_1182 ws_43 (ci := 11) rfl rfl so_86 (sh_lt so_86 rfl) [] rfl rfl rfl rfl (c_M_laysAside l G _) (fun r13 M14 => ?_)
        refine s_aload_n 0 dX12_on_43 rfl ?_
        refine s_iload_n 2 dX12_on_44 rfl ?_
        refine n_invV_u dX12_on_45 ok_X12_goesOn rfl wt_1155 wt_1157 ws_39 (ci := 11) rfl rfl so_86 (sh_lt so_86 rfl) [.int v2] rfl rfl rfl rfl (c_M_goesOn l G _ _) (fun r15 M16 => ?_)
        refine s_aload_n 0 dX12_on_48 rfl ?_
        refine s_iload_n 3 dX12_on_49 rfl ?_
        refine s_iconst (v := 2) dX12_on_50 (by decide) ?_
        refine s_icmp_ne (tgt := 62) dX12_on_51 (by decide) (fun _ => ?_) (fun _ => ?_)
        · refine s_aload_n 0 dX12_on_54 rfl ?_
          refine s_iload_n 1 dX12_on_55 rfl ?_
          refine n_invV_i dX12_on_56 ok_X12_ownsNow rfl wt_1184 wt_1186 ws_44 (ci := 11) rfl rfl so_86 (sh_lt so_86 rfl) [.int v1] rfl rfl rfl rfl (c_M_ownsNow l G _ _) (fun r17 M18 => ?_)
          refine s_goto (tgt := 70) dX12_on_59 (by decide) ?_
          refine n_invV_i dX12_on_70 ok_X12_takesBack rfl wt_1188 wt_1190 ws_45 (ci := 11) rfl rfl so_86 (sh_lt so_86 rfl) [.int r17] rfl rfl rfl rfl (c_M_takesBack l G _ _) (fun r19 M20 => ?_)
          exact n_iret dX12_on_73 rfl
        · refine s_aload_n 0 dX12_on_62 rfl ?_
          refine s_iload_n 1 dX12_on_63 rfl ?_
          refine s_iconst (v := 2) dX12_on_64 (by decide) ?_
          refine s_iload_n 3 dX12_on_65 rfl ?_
          refine s_iadd dX12_on_66 ?_
          refine n_invV_i dX12_on_67 ok_X12_its rfl wt_1013 wt_1015 ws_26 (ci := 11) rfl rfl so_86 (sh_lt so_86 rfl) [.int v1, .int (2 + v3)] rfl rfl rfl rfl (c_M_its l G _ _ _) (fun r21 M22 => ?_)
          refine n_invV_i dX12_on_70 ok_X12_takesBack rfl wt_1188 wt_1190 ws_45 (ci := 11) rfl rfl so_86 (sh_lt so_86 rfl) [.int r21] rfl rfl rfl rfl (c_M_takesBack l G _ _) (fun r23 M24 => ?_)
          exact n_iret dX12_on_73 rfl
def f_M_isDry (v1 : Int32) (M : Nm) : Option (Int32 × Nm) := bnd (f_M_smudges M) fun r1 M2 => bnd (f_M_draws v1 r1 M2) fun r3 M4 => bnd (f_M_writes v1 M4) fun r5 M6 => if r5 = 0 then (some (1, M6)) else (some (0, M6))
theorem c_M_isDry (l : Launch) (G : Gl) (v1 : Int32)  (M : Nm) : NJ l G Y_X12_isDry (zR 4 98) eI 0 (lv_args 0 [aR G 86, .int v1]) [] M (f_M_isDry v1 M) := by
  unfold f_M_isDry
  show NJ l G Y_X12_isDry (zR 4 98) eI 0 [(0, aR G 86), (1, .int v1)] [] M _
  refine s_aload_n 0 dX12_isDry_0 rfl ?_
  refine s_iload_n 1 dX12_isDry_1 rfl ?_
  refine s_aload_n 0 dX12_isDry_2 rfl ?_
  refine n_invV_l dX12_isDry_3 ok_X12_smudges rfl wt_1005 wt_1007 ws_24 (ci := 11) rfl rfl so_86 (sh_lt so_86 rfl) [] rfl rfl rfl rfl (c_M_smudges l G _) (fun r1 M2 => ?_)
  refine n_invV_u dX12_isDry_6 ok_X12_draws rfl wt_1009 wt_1011 ws_25 (ci := 11) rfl rfl so_86 (sh_lt so_86 rfl) [.int v1, .long r1] rfl rfl rfl rfl (c_M_draws l G _ _ _) (fun r3 M4 => ?_)
  refine s_aload_n 0 dX12_isDry_9 rfl ?_
  refine s_iload_n 1 dX12_isDry_10 rfl ?_
  refine n_invV_i dX12_isDry_11 ok_X12_writes rfl wt_1046 wt_1048 ws_30 (ci := 11) rfl rfl so_86 (sh_lt so_86 rfl) [.int v1] rfl rfl rfl rfl (c_M_writes l G _ _) (fun r5 M6 => ?_)
  refine s_if_ne (tgt := 21) dX12_isDry_14 (by decide) (fun _ => ?_) (fun _ => ?_)
  · refine s_iconst (v := 1) dX12_isDry_17 (by decide) ?_
    refine s_goto (tgt := 22) dX12_isDry_18 (by decide) ?_
    exact n_zret1 dX12_isDry_22 rfl
  · refine s_iconst (v := 0) dX12_isDry_21 (by decide) ?_
    exact n_zret0 dX12_isDry_22 rfl
def f_M_dry_L21 (k45 : Int32 → Nm → Option (Int32 × Nm)) (v1 : Int32) : Nat → Int32 → Nm → Option (Int32 × Nm)
  | 0, _, _ => none
  | f + 1, v2, M => if 60 < v2 then (k45 v2 M) else (bnd (f_M_isDry v1 M) fun r7 M8 => if r7 = 0 then (bnd (f_M_year M8) fun r9 M10 => f_M_dry_L21 k45 v1 f (v2 + 1) M10) else (k45 v2 M8))
theorem c_M_dry_L21 (l : Launch) (G : Gl) {k45 : Int32 → Nm → Option (Int32 × Nm)} (v1 : Int32)  (hk45 : ∀ (v2 : Int32)  (M : Nm), NJ l G Y_X12_dry (zR 6 144) eI 45 [(0, aR G 86), (2, .int v2)] [] M (k45 v2 M)) : ∀ (f : Nat) (v2 : Int32)  (M : Nm), NJ l G Y_X12_dry (zR 6 144) eI 21 [(0, aR G 86), (1, .int v1), (2, .int v2)] [] M (f_M_dry_L21 k45 v1 f v2 M) := by
  intro f
  induction f with
  | zero => intro v2 M; exact s_none
  | succ f ih =>
    intro v2 M
    rw [f_M_dry_L21]
    refine s_iload_n 2 dX12_dry_21 rfl ?_
    refine s_bipush (v := 60) dX12_dry_22 (by decide) ?_
    refine s_icmp_gt (tgt := 45) dX12_dry_24 (by decide) (fun _ => ?_) (fun _ => ?_)
    · refine s_lv [0, 2] (lv' := [(0, aR G 86), (2, .int v2)]) rfl ?_
      exact hk45 _ _
    · refine s_aload_n 0 dX12_dry_27 rfl ?_
      refine s_iload_n 1 dX12_dry_28 rfl ?_
      refine n_invV_i dX12_dry_29 ok_X12_isDry rfl wt_1196 wt_1198 ws_46 (ci := 11) rfl rfl so_86 (sh_lt so_86 rfl) [.int v1] rfl rfl rfl rfl (c_M_isDry l G _ _) (fun r7 M8 => ?_)
      refine s_if_ne (tgt := 45) dX12_dry_32 (by decide) (fun _ => ?_) (fun _ => ?_)
      · refine s_aload_n 0 dX12_dry_35 rfl ?_
        refine n_invV_u dX12_dry_36 ok_X12_year rfl wt_1159 wt_1161 ws_40 (ci := 11) rfl rfl so_86 (sh_lt so_86 rfl) [] rfl rfl rfl rfl (c_M_year l G _) (fun r9 M10 => ?_)
        refine s_iinc (v := 1) (lv' := [(2, .int (v2 + 1)), (0, aR G 86), (1, .int v1)]) 2 dX12_dry_39 rfl (by decide) rfl rfl ?_
        refine s_goto (tgt := 21) dX12_dry_42 (by decide) ?_
        refine s_lv [1, 2, 0] (lv' := [(0, aR G 86), (1, .int v1), (2, .int (v2 + 1))]) rfl ?_
        exact ih _ _
      · refine s_lv [0, 2] (lv' := [(0, aR G 86), (2, .int v2)]) rfl ?_
        exact hk45 _ _
def f_M_dry (v1 : Int32) (M : Nm) : Option (Int32 × Nm) := bnd (f_M_isHand v1 M) fun r1 M2 => if r1 = 0 then (bnd (f_M_finds (-1000000001) M2) fun r3 M4 => some (r3, M4)) else (bnd (f_M_laysAside M2) fun r5 M6 => f_M_dry_L21 (fun y12 M11 => bnd (f_M_takesBack y12 M11) fun r13 M14 => if r13 ≤ 60 then (some (r13, M14)) else (bnd (f_M_finds (-1000000004) M14) fun r15 M16 => some (r15, M16))) v1 FU 0 M6)
theorem c_M_dry (l : Launch) (G : Gl) (v1 : Int32)  (M : Nm) : NJ l G Y_X12_dry (zR 6 144) eI 0 (lv_args 0 [aR G 86, .int v1]) [] M (f_M_dry v1 M) := by
  unfold f_M_dry
  show NJ l G Y_X12_dry (zR 6 144) eI 0 [(0, aR G 86), (1, .int v1)] [] M _
  refine s_aload_n 0 dX12_dry_0 rfl ?_
  refine s_iload_n 1 dX12_dry_1 rfl ?_
  refine n_invV_i dX12_dry_2 ok_X12_isHand rfl wt_1080 wt_1082 ws_34 (ci := 11) rfl rfl so_86 (sh_lt so_86 rfl) [.int v1] rfl rfl rfl rfl (c_M_isHand l G _ _) (fun r1 M2 => ?_)
  refine s_if_ne (tgt := 15) dX12_dry_5 (by decide) (fun _ => ?_) (fun _ => ?_)
  · refine s_aload_n 0 dX12_dry_8 rfl ?_
    refine s_ldc (v := (-1000000001)) dX12_dry_9 wt_991 ?_
    refine n_invV_i dX12_dry_11 ok_X12_finds rfl wt_992 wt_994 ws_22 (ci := 11) rfl rfl so_86 (sh_lt so_86 rfl) [.int (-1000000001)] rfl rfl rfl rfl (c_M_finds l G _ _) (fun r3 M4 => ?_)
    exact n_iret dX12_dry_14 rfl
  · refine s_aload_n 0 dX12_dry_15 rfl ?_
    refine n_invV_u dX12_dry_16 ok_X12_laysAside rfl wt_1180 wt_1182 ws_43 (ci := 11) rfl rfl so_86 (sh_lt so_86 rfl) [] rfl rfl rfl rfl (c_M_laysAside l G _) (fun r5 M6 => ?_)
    refine s_iconst (v := 0) dX12_dry_19 (by decide) ?_
    refine s_istore_n (i := 2) (lv' := [(2, .int 0), (0, aR G 86), (1, .int v1)]) dX12_dry_20 rfl rfl rfl ?_
    refine s_lv [1, 2, 0] (lv' := [(0, aR G 86), (1, .int v1), (2, .int 0)]) rfl ?_
    refine c_M_dry_L21 l G _ (fun y12 M11 => ?_) FU _ _
    refine s_aload_n 0 dX12_dry_45 rfl ?_
    refine s_iload_n 1 dX12_dry_46 rfl ?_
    refine n_invV_i dX12_dry_47 ok_X12_takesBack rfl wt_1188 wt_1190 ws_45 (ci := 11) rfl rfl so_86 (sh_lt so_86 rfl) [.int y12] rfl rfl rfl rfl (c_M_takesBack l G _ _) (fun r13 M14 => ?_)
    refine s_istore_n (i := 3) (lv' := [(3, .int r13), (0, aR G 86), (2, .int y12)]) dX12_dry_50 rfl rfl rfl ?_
    refine s_iload_n 0 dX12_dry_51 rfl ?_
    refine s_bipush (v := 60) dX12_dry_52 (by decide) ?_
    refine s_icmp_le (tgt := 66) dX12_dry_54 (by decide) (fun _ => ?_) (fun _ => ?_)
    · refine s_iload_n 0 dX12_dry_66 rfl ?_
      exact n_iret dX12_dry_67 rfl
    · refine s_aload_n 1 dX12_dry_57 rfl ?_
      refine s_ldc (v := (-1000000004)) dX12_dry_58 wt_1200 ?_
      refine n_invV_i dX12_dry_60 ok_X12_finds rfl wt_992 wt_994 ws_22 (ci := 11) rfl rfl so_86 (sh_lt so_86 rfl) [.int (-1000000004)] rfl rfl rfl rfl (c_M_finds l G _ _) (fun r15 M16 => ?_)
      refine s_goto (tgt := 67) dX12_dry_63 (by decide) ?_
      exact n_iret dX12_dry_67 rfl
def f_M_richest_L4   : Nat → Int32 → Int32 → Nm → Option (Int32 × Nm)
  | 0, _, _, _ => none
  | f + 1, v1, v2, M => grd (inb 0 176) <| if (M.1 87 (ix 0)) ≤ v2 then (some (v1, M)) else (bnd (f_M_its v2 3 M) fun r1 M2 => bnd (f_M_its v1 3 M2) fun r3 M4 => if r1 ≤ r3 then (f_M_richest_L4 f v1 (v2 + 1) M4) else (f_M_richest_L4 f v2 (v2 + 1) M4))
theorem c_M_richest_L4 (l : Launch) (G : Gl)     : ∀ (f : Nat) (v1 : Int32) (v2 : Int32)  (M : Nm), NJ l G Y_X12_richest (zR 2 43) eI 4 [(0, aR G 86), (1, .int v1), (2, .int v2)] [] M (f_M_richest_L4 f v1 v2 M) := by
  intro f
  induction f with
  | zero => intro v1 v2 M; exact s_none
  | succ f ih =>
    intro v1 v2 M
    rw [f_M_richest_L4]
    refine s_iload_n 2 dX12_richest_4 rfl ?_
    refine s_aload_n 0 dX12_richest_5 rfl ?_
    refine n_getR (x := 87) dX12_richest_6 okf_M_7_11 rfl rfl so_86 (sh_lt so_86 rfl) rfl ?_
    refine s_iconst (v := 0) dX12_richest_9 (by decide) ?_
    refine n_ial dX12_richest_10 sa_87 ?_
    refine s_icmp_ge (tgt := 41) dX12_richest_11 (by decide) (fun _ => ?_) (fun _ => ?_)
    · refine s_iload_n 1 dX12_richest_41 rfl ?_
      exact n_iret dX12_richest_42 rfl
    · refine s_aload_n 0 dX12_richest_14 rfl ?_
      refine s_iload_n 2 dX12_richest_15 rfl ?_
      refine s_iconst (v := 3) dX12_richest_16 (by decide) ?_
      refine n_invV_i dX12_richest_17 ok_X12_its rfl wt_1013 wt_1015 ws_26 (ci := 11) rfl rfl so_86 (sh_lt so_86 rfl) [.int v2, .int 3] rfl rfl rfl rfl (c_M_its l G _ _ _) (fun r1 M2 => ?_)
      refine s_aload_n 0 dX12_richest_20 rfl ?_
      refine s_iload_n 1 dX12_richest_21 rfl ?_
      refine s_iconst (v := 3) dX12_richest_22 (by decide) ?_
      refine n_invV_i dX12_richest_23 ok_X12_its rfl wt_1013 wt_1015 ws_26 (ci := 11) rfl rfl so_86 (sh_lt so_86 rfl) [.int v1, .int 3] rfl rfl rfl rfl (c_M_its l G _ _ _) (fun r3 M4 => ?_)
      refine s_icmp_le (tgt := 33) dX12_richest_26 (by decide) (fun _ => ?_) (fun _ => ?_)
      · refine s_iload_n 1 dX12_richest_33 rfl ?_
        refine s_istore_n (i := 1) (lv' := [(1, .int v1), (0, aR G 86), (2, .int v2)]) dX12_richest_34 rfl rfl rfl ?_
        refine s_iinc (v := 1) (lv' := [(2, .int (v2 + 1)), (1, .int v1), (0, aR G 86)]) 2 dX12_richest_35 rfl (by decide) rfl rfl ?_
        refine s_goto (tgt := 4) dX12_richest_38 (by decide) ?_
        refine s_lv [2, 1, 0] (lv' := [(0, aR G 86), (1, .int v1), (2, .int (v2 + 1))]) rfl ?_
        exact ih _ _ _
      · refine s_iload_n 2 dX12_richest_29 rfl ?_
        refine s_goto (tgt := 34) dX12_richest_30 (by decide) ?_
        refine s_istore_n (i := 1) (lv' := [(1, .int v2), (0, aR G 86), (2, .int v2)]) dX12_richest_34 rfl rfl rfl ?_
        refine s_iinc (v := 1) (lv' := [(2, .int (v2 + 1)), (1, .int v2), (0, aR G 86)]) 2 dX12_richest_35 rfl (by decide) rfl rfl ?_
        refine s_goto (tgt := 4) dX12_richest_38 (by decide) ?_
        refine s_lv [2, 1, 0] (lv' := [(0, aR G 86), (1, .int v2), (2, .int (v2 + 1))]) rfl ?_
        exact ih _ _ _
def f_M_richest  (M : Nm) : Option (Int32 × Nm) := f_M_richest_L4 FU 0 1 M
theorem c_M_richest (l : Launch) (G : Gl)   (M : Nm) : NJ l G Y_X12_richest (zR 2 43) eI 0 (lv_args 0 [aR G 86]) [] M (f_M_richest  M) := by
  unfold f_M_richest
  show NJ l G Y_X12_richest (zR 2 43) eI 0 [(0, aR G 86)] [] M _
  refine s_iconst (v := 0) dX12_richest_0 (by decide) ?_
  refine s_istore_n (i := 1) (lv' := [(1, .int 0), (0, aR G 86)]) dX12_richest_1 rfl rfl rfl ?_
  refine s_iconst (v := 1) dX12_richest_2 (by decide) ?_
  refine s_istore_n (i := 2) (lv' := [(2, .int 1), (1, .int 0), (0, aR G 86)]) dX12_richest_3 rfl rfl rfl ?_
  refine s_lv [2, 1, 0] (lv' := [(0, aR G 86), (1, .int 0), (2, .int 1)]) rfl ?_
  refine c_M_richest_L4 l G FU _ _ _
def f_M_rich (v1 : Int32) (M : Nm) : Option (Int32 × Nm) := bnd (f_M_in v1.toInt64 0 60 M) fun r1 M2 => if r1 = 0 then (bnd (f_M_finds (-1000000001) M2) fun r3 M4 => some (r3, M4)) else (grd (inb 0 176) <| if (M2.1 87 (ix 0)) = 0 then (bnd (f_M_finds (-1000000004) M2) fun r5 M6 => some (r5, M6)) else (bnd (f_M_laysAside M2) fun r7 M8 => bnd (f_M_goesOn v1 M8) fun r9 M10 => bnd (f_M_richest M10) fun r11 M12 => bnd (f_M_takesBack r11 M12) fun r13 M14 => some (r13, M14)))
theorem c_M_rich (l : Launch) (G : Gl) (v1 : Int32)  (M : Nm) : NJ l G Y_X12_rich (zR 7 166) eI 0 (lv_args 0 [aR G 86, .int v1]) [] M (f_M_rich v1 M) := by
  unfold f_M_rich
  show NJ l G Y_X12_rich (zR 7 166) eI 0 [(0, aR G 86), (1, .int v1)] [] M _
  refine s_iload_n 1 dX12_rich_0 rfl ?_
  refine s_i2l dX12_rich_1 ?_
  refine s_lconst (v := 0) dX12_rich_2 (by decide) ?_
  refine s_ldc2 (v := 60) dX12_rich_3 wt_1153 ?_
  refine n_invS_i dX12_rich_6 ok_X12_in rfl wt_984 wt_985 [.long v1.toInt64, .long 0, .long 60] rfl rfl rfl rfl (c_M_in l G _ _ _ _) (fun r1 M2 => ?_)
  refine s_if_ne (tgt := 19) dX12_rich_9 (by decide) (fun _ => ?_) (fun _ => ?_)
  · refine s_aload_n 0 dX12_rich_12 rfl ?_
    refine s_ldc (v := (-1000000001)) dX12_rich_13 wt_991 ?_
    refine n_invV_i dX12_rich_15 ok_X12_finds rfl wt_992 wt_994 ws_22 (ci := 11) rfl rfl so_86 (sh_lt so_86 rfl) [.int (-1000000001)] rfl rfl rfl rfl (c_M_finds l G _ _) (fun r3 M4 => ?_)
    exact n_iret dX12_rich_18 rfl
  · refine s_aload_n 0 dX12_rich_19 rfl ?_
    refine n_getR (x := 87) dX12_rich_20 okf_M_7_11 rfl rfl so_86 (sh_lt so_86 rfl) rfl ?_
    refine s_iconst (v := 0) dX12_rich_23 (by decide) ?_
    refine n_ial dX12_rich_24 sa_87 ?_
    refine s_if_ne (tgt := 35) dX12_rich_25 (by decide) (fun _ => ?_) (fun _ => ?_)
    · refine s_aload_n 0 dX12_rich_28 rfl ?_
      refine s_ldc (v := (-1000000004)) dX12_rich_29 wt_1200 ?_
      refine n_invV_i dX12_rich_31 ok_X12_finds rfl wt_992 wt_994 ws_22 (ci := 11) rfl rfl so_86 (sh_lt so_86 rfl) [.int (-1000000004)] rfl rfl rfl rfl (c_M_finds l G _ _) (fun r5 M6 => ?_)
      exact n_iret dX12_rich_34 rfl
    · refine s_aload_n 0 dX12_rich_35 rfl ?_
      refine n_invV_u dX12_rich_36 ok_X12_laysAside rfl wt_1180 wt_1182 ws_43 (ci := 11) rfl rfl so_86 (sh_lt so_86 rfl) [] rfl rfl rfl rfl (c_M_laysAside l G _) (fun r7 M8 => ?_)
      refine s_aload_n 0 dX12_rich_39 rfl ?_
      refine s_iload_n 1 dX12_rich_40 rfl ?_
      refine n_invV_u dX12_rich_41 ok_X12_goesOn rfl wt_1155 wt_1157 ws_39 (ci := 11) rfl rfl so_86 (sh_lt so_86 rfl) [.int v1] rfl rfl rfl rfl (c_M_goesOn l G _ _) (fun r9 M10 => ?_)
      refine s_aload_n 0 dX12_rich_44 rfl ?_
      refine s_aload_n 0 dX12_rich_45 rfl ?_
      refine n_invV_i dX12_rich_46 ok_X12_richest rfl wt_1205 wt_1207 ws_47 (ci := 11) rfl rfl so_86 (sh_lt so_86 rfl) [] rfl rfl rfl rfl (c_M_richest l G _) (fun r11 M12 => ?_)
      refine n_invV_i dX12_rich_49 ok_X12_takesBack rfl wt_1188 wt_1190 ws_45 (ci := 11) rfl rfl so_86 (sh_lt so_86 rfl) [.int r11] rfl rfl rfl rfl (c_M_takesBack l G _ _) (fun r13 M14 => ?_)
      exact n_iret dX12_rich_52 rfl
def f_M_rain_B86 (k34 : Int32 → Int32 → Int32 → Nm → Option (Int32 × Nm)) (v2 : Int32) (v3 : Int64) (v6 : Int32) (v7 : Int32) (s0 : Int32) (M : Nm) : Option (Int32 × Nm) := if v2 ≤ v7 then (k34 v2 s0 (v6 + 1) M) else (k34 v7 s0 (v6 + 1) M)
theorem c_M_rain_B86 (l : Launch) (G : Gl) {k34 : Int32 → Int32 → Int32 → Nm → Option (Int32 × Nm)} (v2 : Int32) (v3 : Int64) (v6 : Int32) (v7 : Int32) (s0 : Int32)  (hk34 : ∀ (v2 : Int32) (v5 : Int32) (v6 : Int32)  (M : Nm), NJ l G Y_X12_rain (zR 5 119) eI 34 [(0, aR G 86), (2, .int v2), (3, .long v3), (5, .int v5), (6, .int v6)] [] M (k34 v2 v5 v6 M)) (M : Nm) : NJ l G Y_X12_rain (zR 5 119) eI 86 [(0, aR G 86), (2, .int v2), (3, .long v3), (6, .int v6), (7, .int v7)] [.int s0] M (f_M_rain_B86 k34 v2 v3 v6 v7 s0 M) := by
  unfold f_M_rain_B86
  refine s_istore (lv' := [(5, .int s0), (0, aR G 86), (2, .int v2), (3, .long v3), (6, .int v6), (7, .int v7)]) dX12_rain_86 rfl rfl ?_
  refine s_iload 5 dX12_rain_88 rfl ?_
  refine s_iload_n 2 dX12_rain_90 rfl ?_
  refine s_icmp_ge (tgt := 99) dX12_rain_91 (by decide) (fun _ => ?_) (fun _ => ?_)
  · refine s_iload_n 2 dX12_rain_99 rfl ?_
    refine s_istore_n (i := 2) (lv' := [(2, .int v2), (5, .int s0), (0, aR G 86), (3, .long v3), (6, .int v6), (7, .int v7)]) dX12_rain_100 rfl rfl rfl ?_
    refine s_iinc (v := 1) (lv' := [(6, .int (v6 + 1)), (2, .int v2), (5, .int s0), (0, aR G 86), (3, .long v3), (7, .int v7)]) 4 dX12_rain_101 rfl (by decide) rfl rfl ?_
    refine s_goto (tgt := 34) dX12_rain_104 (by decide) ?_
    refine s_lv [3, 1, 4, 2, 0] (lv' := [(0, aR G 86), (2, .int v2), (3, .long v3), (5, .int s0), (6, .int (v6 + 1))]) rfl ?_
    exact hk34 _ _ _ _
  · refine s_iload 5 dX12_rain_94 rfl ?_
    refine s_goto (tgt := 100) dX12_rain_96 (by decide) ?_
    refine s_istore_n (i := 2) (lv' := [(2, .int v7), (5, .int s0), (0, aR G 86), (3, .long v3), (6, .int v6), (7, .int v7)]) dX12_rain_100 rfl rfl rfl ?_
    refine s_iinc (v := 1) (lv' := [(6, .int (v6 + 1)), (2, .int v7), (5, .int s0), (0, aR G 86), (3, .long v3), (7, .int v7)]) 4 dX12_rain_101 rfl (by decide) rfl rfl ?_
    refine s_goto (tgt := 34) dX12_rain_104 (by decide) ?_
    refine s_lv [3, 1, 4, 2, 0] (lv' := [(0, aR G 86), (2, .int v7), (3, .long v3), (5, .int s0), (6, .int (v6 + 1))]) rfl ?_
    exact hk34 _ _ _ _
def f_M_rain_B71 (k34 : Int32 → Int32 → Int32 → Nm → Option (Int32 × Nm)) (v2 : Int32) (v3 : Int64) (v5 : Int32) (v6 : Int32) (s0 : Int32) (M : Nm) : Option (Int32 × Nm) := if v2 ≤ s0 then (f_M_rain_B86 k34 v2 v3 v6 s0 v5 M) else (f_M_rain_B86 k34 v2 v3 v6 s0 v6 M)
theorem c_M_rain_B71 (l : Launch) (G : Gl) {k34 : Int32 → Int32 → Int32 → Nm → Option (Int32 × Nm)} (v2 : Int32) (v3 : Int64) (v5 : Int32) (v6 : Int32) (s0 : Int32)  (hk34 : ∀ (v2 : Int32) (v5 : Int32) (v6 : Int32)  (M : Nm), NJ l G Y_X12_rain (zR 5 119) eI 34 [(0, aR G 86), (2, .int v2), (3, .long v3), (5, .int v5), (6, .int v6)] [] M (k34 v2 v5 v6 M)) (M : Nm) : NJ l G Y_X12_rain (zR 5 119) eI 71 [(0, aR G 86), (2, .int v2), (3, .long v3), (5, .int v5), (6, .int v6)] [.int s0] M (f_M_rain_B71 k34 v2 v3 v5 v6 s0 M) := by
  unfold f_M_rain_B71
  refine s_istore (lv' := [(7, .int s0), (0, aR G 86), (2, .int v2), (3, .long v3), (5, .int v5), (6, .int v6)]) dX12_rain_71 rfl rfl ?_
  refine s_iload 0 dX12_rain_73 rfl ?_
  refine s_iload_n 2 dX12_rain_75 rfl ?_
  refine s_icmp_ge (tgt := 84) dX12_rain_76 (by decide) (fun _ => ?_) (fun _ => ?_)
  · refine s_iload 4 dX12_rain_84 rfl ?_
    refine s_lv [1, 2, 3, 5, 0] (lv' := [(0, aR G 86), (2, .int v2), (3, .long v3), (6, .int v6), (7, .int s0)]) rfl ?_
    exact c_M_rain_B86 l G _ _ _ _ _ hk34 _
  · refine s_iload 5 dX12_rain_79 rfl ?_
    refine s_goto (tgt := 86) dX12_rain_81 (by decide) ?_
    refine s_lv [1, 2, 3, 5, 0] (lv' := [(0, aR G 86), (2, .int v2), (3, .long v3), (6, .int v6), (7, .int s0)]) rfl ?_
    exact c_M_rain_B86 l G _ _ _ _ _ hk34 _
def f_M_rain_L34  (v3 : Int64) : Nat → Int32 → Int32 → Int32 → Nm → Option (Int32 × Nm)
  | 0, _, _, _, _ => none
  | f + 1, v2, v5, v6, M => if 48 ≤ v6 then (if 0 ≤ v5 then (some (v5, M)) else (bnd (f_M_finds (-1000000004) M) fun r7 M8 => some (r7, M8))) else (bnd (f_M_has v3 v6 M) fun r9 M10 => if r9 = 0 then (f_M_rain_B71 (f_M_rain_L34 v3 f) v2 v3 v5 v6 48 M10) else (bnd (f_M_insideOf (v3 &&& ((1 <<< (v6.toInt64 &&& 63)) ^^^ (-1))) M10) fun r11 M12 => bnd (f_M_ones r11 M12) fun r13 M14 => f_M_rain_B71 (f_M_rain_L34 v3 f) v2 v3 v5 v6 r13 M14))
theorem c_M_rain_L34 (l : Launch) (G : Gl)  (v3 : Int64)   : ∀ (f : Nat) (v2 : Int32) (v5 : Int32) (v6 : Int32)  (M : Nm), NJ l G Y_X12_rain (zR 5 119) eI 34 [(0, aR G 86), (2, .int v2), (3, .long v3), (5, .int v5), (6, .int v6)] [] M (f_M_rain_L34 v3 f v2 v5 v6 M) := by
  intro f
  induction f with
  | zero => intro v2 v5 v6 M; exact s_none
  | succ f ih =>
    intro v2 v5 v6 M
    rw [f_M_rain_L34]
    refine s_iload 4 dX12_rain_34 rfl ?_
    refine s_bipush (v := 48) dX12_rain_36 (by decide) ?_
    refine s_icmp_ge (tgt := 107) dX12_rain_38 (by decide) (fun _ => ?_) (fun _ => ?_)
    · refine s_iload 3 dX12_rain_107 rfl ?_
      refine s_if_ge (tgt := 121) dX12_rain_109 (by decide) (fun _ => ?_) (fun _ => ?_)
      · refine s_iload 3 dX12_rain_121 rfl ?_
        exact n_iret dX12_rain_123 rfl
      · refine s_aload_n 0 dX12_rain_112 rfl ?_
        refine s_ldc (v := (-1000000004)) dX12_rain_113 wt_1200 ?_
        refine n_invV_i dX12_rain_115 ok_X12_finds rfl wt_992 wt_994 ws_22 (ci := 11) rfl rfl so_86 (sh_lt so_86 rfl) [.int (-1000000004)] rfl rfl rfl rfl (c_M_finds l G _ _) (fun r7 M8 => ?_)
        refine s_goto (tgt := 123) dX12_rain_118 (by decide) ?_
        exact n_iret dX12_rain_123 rfl
    · refine s_lload_n 2 dX12_rain_41 rfl ?_
      refine s_iload 4 dX12_rain_42 rfl ?_
      refine n_invS_i dX12_rain_44 ok_X12_has rfl wt_1038 wt_1039 [.long v3, .int v6] rfl rfl rfl rfl (c_M_has l G _ _ _) (fun r9 M10 => ?_)
      refine s_if_eq (tgt := 69) dX12_rain_47 (by decide) (fun _ => ?_) (fun _ => ?_)
      · refine s_bipush (v := 48) dX12_rain_69 (by decide) ?_
        exact c_M_rain_B71 l G _ _ _ _ _ ih _
      · refine s_lload_n 2 dX12_rain_50 rfl ?_
        refine s_lconst (v := 1) dX12_rain_51 (by decide) ?_
        refine s_iload 4 dX12_rain_52 rfl ?_
        refine s_lshl dX12_rain_54 ?_
        refine s_ldc2 (v := (-1)) dX12_rain_55 wt_1031 ?_
        refine s_lxor dX12_rain_58 ?_
        refine s_land dX12_rain_59 ?_
        refine n_invS_l dX12_rain_60 ok_X12_insideOf rfl wt_1032 wt_1033 [.long (v3 &&& ((1 <<< (v6.toInt64 &&& 63)) ^^^ (-1)))] rfl rfl rfl rfl (c_M_insideOf l G _ _) (fun r11 M12 => ?_)
        refine n_invS_i dX12_rain_63 ok_X12_ones rfl wt_1097 wt_1098 [.long r11] rfl rfl rfl rfl (c_M_ones l G _ _) (fun r13 M14 => ?_)
        refine s_goto (tgt := 71) dX12_rain_66 (by decide) ?_
        exact c_M_rain_B71 l G _ _ _ _ _ ih _
def f_M_rain (v1 : Int32) (M : Nm) : Option (Int32 × Nm) := bnd (f_M_isHand v1 M) fun r1 M2 => if r1 = 0 then (bnd (f_M_finds (-1000000001) M2) fun r3 M4 => some (r3, M4)) else (bnd (f_M_insideMany v1 M2) fun r5 M6 => grd (inb v1 6) <| f_M_rain_L34 (M6.2.1 92 (ix v1)) FU r5 (-1) 0 M6)
theorem c_M_rain (l : Launch) (G : Gl) (v1 : Int32)  (M : Nm) : NJ l G Y_X12_rain (zR 5 119) eI 0 (lv_args 0 [aR G 86, .int v1]) [] M (f_M_rain v1 M) := by
  unfold f_M_rain
  show NJ l G Y_X12_rain (zR 5 119) eI 0 [(0, aR G 86), (1, .int v1)] [] M _
  refine s_aload_n 0 dX12_rain_0 rfl ?_
  refine s_iload_n 1 dX12_rain_1 rfl ?_
  refine n_invV_i dX12_rain_2 ok_X12_isHand rfl wt_1080 wt_1082 ws_34 (ci := 11) rfl rfl so_86 (sh_lt so_86 rfl) [.int v1] rfl rfl rfl rfl (c_M_isHand l G _ _) (fun r1 M2 => ?_)
  refine s_if_ne (tgt := 15) dX12_rain_5 (by decide) (fun _ => ?_) (fun _ => ?_)
  · refine s_aload_n 0 dX12_rain_8 rfl ?_
    refine s_ldc (v := (-1000000001)) dX12_rain_9 wt_991 ?_
    refine n_invV_i dX12_rain_11 ok_X12_finds rfl wt_992 wt_994 ws_22 (ci := 11) rfl rfl so_86 (sh_lt so_86 rfl) [.int (-1000000001)] rfl rfl rfl rfl (c_M_finds l G _ _) (fun r3 M4 => ?_)
    exact n_iret dX12_rain_14 rfl
  · refine s_aload_n 0 dX12_rain_15 rfl ?_
    refine s_iload_n 1 dX12_rain_16 rfl ?_
    refine n_invV_i dX12_rain_17 ok_X12_insideMany rfl wt_1213 wt_1215 ws_48 (ci := 11) rfl rfl so_86 (sh_lt so_86 rfl) [.int v1] rfl rfl rfl rfl (c_M_insideMany l G _ _) (fun r5 M6 => ?_)
    refine s_istore_n (i := 2) (lv' := [(2, .int r5), (0, aR G 86), (1, .int v1)]) dX12_rain_20 rfl rfl rfl ?_
    refine s_aload_n 1 dX12_rain_21 rfl ?_
    refine n_getR (x := 92) dX12_rain_22 okf_M_25_11 rfl rfl so_86 (sh_lt so_86 rfl) rfl ?_
    refine s_iload_n 2 dX12_rain_25 rfl ?_
    refine n_lal dX12_rain_26 sa_92 ?_
    refine s_lstore_n (i := 3) (lv' := [(3, .long (M6.2.1 92 (ix v1))), (2, .int r5), (0, aR G 86), (1, .int v1)]) dX12_rain_27 rfl rfl rfl ?_
    refine s_iconst (v := (-1)) dX12_rain_28 (by decide) ?_
    refine s_istore (lv' := [(5, .int (-1)), (3, .long (M6.2.1 92 (ix v1))), (2, .int r5), (0, aR G 86), (1, .int v1)]) dX12_rain_29 rfl rfl ?_
    refine s_iconst (v := 0) dX12_rain_31 (by decide) ?_
    refine s_istore (lv' := [(6, .int 0), (5, .int (-1)), (3, .long (M6.2.1 92 (ix v1))), (2, .int r5), (0, aR G 86), (1, .int v1)]) dX12_rain_32 rfl rfl ?_
    refine s_lv [4, 3, 2, 1, 0] (lv' := [(0, aR G 86), (2, .int r5), (3, .long (M6.2.1 92 (ix v1))), (5, .int (-1)), (6, .int 0)]) rfl ?_
    refine c_M_rain_L34 l G _ FU _ _ _ _
def f_M_longer_B114 (k26 : Int32 → Int32 → Int32 → Nm → Option (Int32 × Nm)) (v1 : Int32) (v2 : Int32) (v4 : Int32) (v6 : Int32) (s0 : Int32) (M : Nm) : Option (Int32 × Nm) := if v6 ≤ v2 then (k26 v2 s0 (v4 + 1) M) else (k26 v6 s0 (v4 + 1) M)
theorem c_M_longer_B114 (l : Launch) (G : Gl) {k26 : Int32 → Int32 → Int32 → Nm → Option (Int32 × Nm)} (v1 : Int32) (v2 : Int32) (v4 : Int32) (v6 : Int32) (s0 : Int32)  (hk26 : ∀ (v2 : Int32) (v3 : Int32) (v4 : Int32)  (M : Nm), NJ l G Y_X12_longer (zR 5 119) eI 26 [(0, aR G 86), (1, .int v1), (2, .int v2), (3, .int v3), (4, .int v4)] [] M (k26 v2 v3 v4 M)) (M : Nm) : NJ l G Y_X12_longer (zR 5 119) eI 114 [(0, aR G 86), (1, .int v1), (2, .int v2), (4, .int v4), (6, .int v6)] [.int s0] M (f_M_longer_B114 k26 v1 v2 v4 v6 s0 M) := by
  unfold f_M_longer_B114
  refine s_istore_n (i := 3) (lv' := [(3, .int s0), (0, aR G 86), (1, .int v1), (2, .int v2), (4, .int v4), (6, .int v6)]) dX12_longer_114 rfl rfl rfl ?_
  refine s_iload 5 dX12_longer_115 rfl ?_
  refine s_iload_n 3 dX12_longer_117 rfl ?_
  refine s_icmp_le (tgt := 126) dX12_longer_118 (by decide) (fun _ => ?_) (fun _ => ?_)
  · refine s_iload_n 3 dX12_longer_126 rfl ?_
    refine s_istore_n (i := 2) (lv' := [(2, .int v2), (3, .int s0), (0, aR G 86), (1, .int v1), (4, .int v4), (6, .int v6)]) dX12_longer_127 rfl rfl rfl ?_
    refine s_iinc (v := 1) (lv' := [(4, .int (v4 + 1)), (2, .int v2), (3, .int s0), (0, aR G 86), (1, .int v1), (6, .int v6)]) 4 dX12_longer_128 rfl (by decide) rfl rfl ?_
    refine s_goto (tgt := 26) dX12_longer_131 (by decide) ?_
    refine s_lv [3, 4, 1, 2, 0] (lv' := [(0, aR G 86), (1, .int v1), (2, .int v2), (3, .int s0), (4, .int (v4 + 1))]) rfl ?_
    exact hk26 _ _ _ _
  · refine s_iload 5 dX12_longer_121 rfl ?_
    refine s_goto (tgt := 127) dX12_longer_123 (by decide) ?_
    refine s_istore_n (i := 2) (lv' := [(2, .int v6), (3, .int s0), (0, aR G 86), (1, .int v1), (4, .int v4), (6, .int v6)]) dX12_longer_127 rfl rfl rfl ?_
    refine s_iinc (v := 1) (lv' := [(4, .int (v4 + 1)), (2, .int v6), (3, .int s0), (0, aR G 86), (1, .int v1), (6, .int v6)]) 4 dX12_longer_128 rfl (by decide) rfl rfl ?_
    refine s_goto (tgt := 26) dX12_longer_131 (by decide) ?_
    refine s_lv [3, 4, 1, 2, 0] (lv' := [(0, aR G 86), (1, .int v1), (2, .int v6), (3, .int s0), (4, .int (v4 + 1))]) rfl ?_
    exact hk26 _ _ _ _
def f_M_longer_B78 (k26 : Int32 → Int32 → Int32 → Nm → Option (Int32 × Nm)) (v1 : Int32) (v2 : Int32) (v3 : Int32) (v4 : Int32) (v5 : Int32) (s0 : Int32) (s1 : Int32) (M : Nm) : Option (Int32 × Nm) := grd (inb s1 176) <| bl (mI M 87 (ix s1) s0) fun M15 => bnd (f_M_insideMany v1 M15) fun r16 M17 => bnd (f_M_spot v1 (13 + v4) M17) fun r18 M19 => grd (inb r18 176) <| bl (mI M19 87 (ix r18) v5) fun M20 => if r16 ≤ v2 then (f_M_longer_B114 k26 v1 v2 v4 r16 v3 M20) else (f_M_longer_B114 k26 v1 v2 v4 r16 v4 M20)
theorem c_M_longer_B78 (l : Launch) (G : Gl) {k26 : Int32 → Int32 → Int32 → Nm → Option (Int32 × Nm)} (v1 : Int32) (v2 : Int32) (v3 : Int32) (v4 : Int32) (v5 : Int32) (s0 : Int32) (s1 : Int32)  (hk26 : ∀ (v2 : Int32) (v3 : Int32) (v4 : Int32)  (M : Nm), NJ l G Y_X12_longer (zR 5 119) eI 26 [(0, aR G 86), (1, .int v1), (2, .int v2), (3, .int v3), (4, .int v4)] [] M (k26 v2 v3 v4 M)) (M : Nm) : NJ l G Y_X12_longer (zR 5 119) eI 78 [(0, aR G 86), (1, .int v1), (2, .int v2), (3, .int v3), (4, .int v4), (5, .int v5)] [.int s0, .int s1, aR G 87] M (f_M_longer_B78 k26 v1 v2 v3 v4 v5 s0 s1 M) := by
  unfold f_M_longer_B78
  refine n_ias dX12_longer_78 sa_87 ?_
  refine s_topM (fun M15 => ?_)
  refine s_aload_n 0 dX12_longer_79 rfl ?_
  refine s_iload_n 1 dX12_longer_80 rfl ?_
  refine n_invV_i dX12_longer_81 ok_X12_insideMany rfl wt_1213 wt_1215 ws_48 (ci := 11) rfl rfl so_86 (sh_lt so_86 rfl) [.int v1] rfl rfl rfl rfl (c_M_insideMany l G _ _) (fun r16 M17 => ?_)
  refine s_istore (lv' := [(6, .int r16), (0, aR G 86), (1, .int v1), (2, .int v2), (3, .int v3), (4, .int v4), (5, .int v5)]) dX12_longer_84 rfl rfl ?_
  refine s_aload_n 1 dX12_longer_86 rfl ?_
  refine n_getR (x := 87) dX12_longer_87 okf_M_7_11 rfl rfl so_86 (sh_lt so_86 rfl) rfl ?_
  refine s_iload_n 2 dX12_longer_90 rfl ?_
  refine s_bipush (v := 13) dX12_longer_91 (by decide) ?_
  refine s_iload 5 dX12_longer_93 rfl ?_
  refine s_iadd dX12_longer_95 ?_
  refine n_invS_i dX12_longer_96 ok_X12_spot rfl wt_1017 wt_1018 [.int v1, .int (13 + v4)] rfl rfl rfl rfl (c_M_spot l G _ _ _) (fun r18 M19 => ?_)
  refine s_iload 6 dX12_longer_99 rfl ?_
  refine n_ias dX12_longer_101 sa_87 ?_
  refine s_topM (fun M20 => ?_)
  refine s_iload 0 dX12_longer_102 rfl ?_
  refine s_iload_n 3 dX12_longer_104 rfl ?_
  refine s_icmp_le (tgt := 113) dX12_longer_105 (by decide) (fun _ => ?_) (fun _ => ?_)
  · refine s_iload_n 4 dX12_longer_113 rfl ?_
    refine s_lv [1, 2, 3, 5, 0] (lv' := [(0, aR G 86), (1, .int v1), (2, .int v2), (4, .int v4), (6, .int r16)]) rfl ?_
    exact c_M_longer_B114 l G _ _ _ _ _ hk26 _
  · refine s_iload 5 dX12_longer_108 rfl ?_
    refine s_goto (tgt := 114) dX12_longer_110 (by decide) ?_
    refine s_lv [1, 2, 3, 5, 0] (lv' := [(0, aR G 86), (1, .int v1), (2, .int v2), (4, .int v4), (6, .int r16)]) rfl ?_
    exact c_M_longer_B114 l G _ _ _ _ _ hk26 _
def f_M_longer_L26  (v1 : Int32) : Nat → Int32 → Int32 → Int32 → Nm → Option (Int32 × Nm)
  | 0, _, _, _, _ => none
  | f + 1, v2, v3, v4, M => bnd (f_M_its v1 4 M) fun r7 M8 => if r7 ≤ v4 then (if 0 ≤ v3 then (some (v3, M8)) else (bnd (f_M_finds (-1000000004) M8) fun r9 M10 => some (r9, M10))) else (bnd (f_M_its v1 (13 + v4) M8) fun r11 M12 => bnd (f_M_spot v1 (13 + v4) M12) fun r13 M14 => if 7 ≤ r11 then (f_M_longer_B78 (f_M_longer_L26 v1 f) v1 v2 v3 v4 r11 r11 r13 M14) else (f_M_longer_B78 (f_M_longer_L26 v1 f) v1 v2 v3 v4 r11 (r11 + 1) r13 M14))
theorem c_M_longer_L26 (l : Launch) (G : Gl)  (v1 : Int32)   : ∀ (f : Nat) (v2 : Int32) (v3 : Int32) (v4 : Int32)  (M : Nm), NJ l G Y_X12_longer (zR 5 119) eI 26 [(0, aR G 86), (1, .int v1), (2, .int v2), (3, .int v3), (4, .int v4)] [] M (f_M_longer_L26 v1 f v2 v3 v4 M) := by
  intro f
  induction f with
  | zero => intro v2 v3 v4 M; exact s_none
  | succ f ih =>
    intro v2 v3 v4 M
    rw [f_M_longer_L26]
    refine s_iload 4 dX12_longer_26 rfl ?_
    refine s_aload_n 0 dX12_longer_28 rfl ?_
    refine s_iload_n 1 dX12_longer_29 rfl ?_
    refine s_iconst (v := 4) dX12_longer_30 (by decide) ?_
    refine n_invV_i dX12_longer_31 ok_X12_its rfl wt_1013 wt_1015 ws_26 (ci := 11) rfl rfl so_86 (sh_lt so_86 rfl) [.int v1, .int 4] rfl rfl rfl rfl (c_M_its l G _ _ _) (fun r7 M8 => ?_)
    refine s_icmp_ge (tgt := 134) dX12_longer_34 (by decide) (fun _ => ?_) (fun _ => ?_)
    · refine s_iload_n 3 dX12_longer_134 rfl ?_
      refine s_if_ge (tgt := 147) dX12_longer_135 (by decide) (fun _ => ?_) (fun _ => ?_)
      · refine s_iload_n 3 dX12_longer_147 rfl ?_
        exact n_iret dX12_longer_148 rfl
      · refine s_aload_n 0 dX12_longer_138 rfl ?_
        refine s_ldc (v := (-1000000004)) dX12_longer_139 wt_1200 ?_
        refine n_invV_i dX12_longer_141 ok_X12_finds rfl wt_992 wt_994 ws_22 (ci := 11) rfl rfl so_86 (sh_lt so_86 rfl) [.int (-1000000004)] rfl rfl rfl rfl (c_M_finds l G _ _) (fun r9 M10 => ?_)
        refine s_goto (tgt := 148) dX12_longer_144 (by decide) ?_
        exact n_iret dX12_longer_148 rfl
    · refine s_aload_n 0 dX12_longer_37 rfl ?_
      refine s_iload_n 1 dX12_longer_38 rfl ?_
      refine s_bipush (v := 13) dX12_longer_39 (by decide) ?_
      refine s_iload 4 dX12_longer_41 rfl ?_
      refine s_iadd dX12_longer_43 ?_
      refine n_invV_i dX12_longer_44 ok_X12_its rfl wt_1013 wt_1015 ws_26 (ci := 11) rfl rfl so_86 (sh_lt so_86 rfl) [.int v1, .int (13 + v4)] rfl rfl rfl rfl (c_M_its l G _ _ _) (fun r11 M12 => ?_)
      refine s_istore (lv' := [(5, .int r11), (0, aR G 86), (1, .int v1), (2, .int v2), (3, .int v3), (4, .int v4)]) dX12_longer_47 rfl rfl ?_
      refine s_aload_n 1 dX12_longer_49 rfl ?_
      refine n_getR (x := 87) dX12_longer_50 okf_M_7_11 rfl rfl so_86 (sh_lt so_86 rfl) rfl ?_
      refine s_iload_n 2 dX12_longer_53 rfl ?_
      refine s_bipush (v := 13) dX12_longer_54 (by decide) ?_
      refine s_iload 5 dX12_longer_56 rfl ?_
      refine s_iadd dX12_longer_58 ?_
      refine n_invS_i dX12_longer_59 ok_X12_spot rfl wt_1017 wt_1018 [.int v1, .int (13 + v4)] rfl rfl rfl rfl (c_M_spot l G _ _ _) (fun r13 M14 => ?_)
      refine s_iload 0 dX12_longer_62 rfl ?_
      refine s_bipush (v := 7) dX12_longer_64 (by decide) ?_
      refine s_icmp_ge (tgt := 76) dX12_longer_66 (by decide) (fun _ => ?_) (fun _ => ?_)
      · refine s_iload 0 dX12_longer_76 rfl ?_
        refine s_lv [1, 2, 3, 4, 5, 0] (lv' := [(0, aR G 86), (1, .int v1), (2, .int v2), (3, .int v3), (4, .int v4), (5, .int r11)]) rfl ?_
        exact c_M_longer_B78 l G _ _ _ _ _ _ _ ih _
      · refine s_iload 0 dX12_longer_69 rfl ?_
        refine s_iconst (v := 1) dX12_longer_71 (by decide) ?_
        refine s_iadd dX12_longer_72 ?_
        refine s_goto (tgt := 78) dX12_longer_73 (by decide) ?_
        refine s_lv [1, 2, 3, 4, 5, 0] (lv' := [(0, aR G 86), (1, .int v1), (2, .int v2), (3, .int v3), (4, .int v4), (5, .int r11)]) rfl ?_
        exact c_M_longer_B78 l G _ _ _ _ _ _ _ ih _
def f_M_longer (v1 : Int32) (M : Nm) : Option (Int32 × Nm) := bnd (f_M_isHand v1 M) fun r1 M2 => if r1 = 0 then (bnd (f_M_finds (-1000000001) M2) fun r3 M4 => some (r3, M4)) else (bnd (f_M_insideMany v1 M2) fun r5 M6 => f_M_longer_L26 v1 FU r5 (-1) 0 M6)
theorem c_M_longer (l : Launch) (G : Gl) (v1 : Int32)  (M : Nm) : NJ l G Y_X12_longer (zR 5 119) eI 0 (lv_args 0 [aR G 86, .int v1]) [] M (f_M_longer v1 M) := by
  unfold f_M_longer
  show NJ l G Y_X12_longer (zR 5 119) eI 0 [(0, aR G 86), (1, .int v1)] [] M _
  refine s_aload_n 0 dX12_longer_0 rfl ?_
  refine s_iload_n 1 dX12_longer_1 rfl ?_
  refine n_invV_i dX12_longer_2 ok_X12_isHand rfl wt_1080 wt_1082 ws_34 (ci := 11) rfl rfl so_86 (sh_lt so_86 rfl) [.int v1] rfl rfl rfl rfl (c_M_isHand l G _ _) (fun r1 M2 => ?_)
  refine s_if_ne (tgt := 15) dX12_longer_5 (by decide) (fun _ => ?_) (fun _ => ?_)
  · refine s_aload_n 0 dX12_longer_8 rfl ?_
    refine s_ldc (v := (-1000000001)) dX12_longer_9 wt_991 ?_
    refine n_invV_i dX12_longer_11 ok_X12_finds rfl wt_992 wt_994 ws_22 (ci := 11) rfl rfl so_86 (sh_lt so_86 rfl) [.int (-1000000001)] rfl rfl rfl rfl (c_M_finds l G _ _) (fun r3 M4 => ?_)
    exact n_iret dX12_longer_14 rfl
  · refine s_aload_n 0 dX12_longer_15 rfl ?_
    refine s_iload_n 1 dX12_longer_16 rfl ?_
    refine n_invV_i dX12_longer_17 ok_X12_insideMany rfl wt_1213 wt_1215 ws_48 (ci := 11) rfl rfl so_86 (sh_lt so_86 rfl) [.int v1] rfl rfl rfl rfl (c_M_insideMany l G _ _) (fun r5 M6 => ?_)
    refine s_istore_n (i := 2) (lv' := [(2, .int r5), (0, aR G 86), (1, .int v1)]) dX12_longer_20 rfl rfl rfl ?_
    refine s_iconst (v := (-1)) dX12_longer_21 (by decide) ?_
    refine s_istore_n (i := 3) (lv' := [(3, .int (-1)), (2, .int r5), (0, aR G 86), (1, .int v1)]) dX12_longer_22 rfl rfl rfl ?_
    refine s_iconst (v := 0) dX12_longer_23 (by decide) ?_
    refine s_istore (lv' := [(4, .int 0), (3, .int (-1)), (2, .int r5), (0, aR G 86), (1, .int v1)]) dX12_longer_24 rfl rfl ?_
    refine s_lv [3, 4, 2, 1, 0] (lv' := [(0, aR G 86), (1, .int v1), (2, .int r5), (3, .int (-1)), (4, .int 0)]) rfl ?_
    refine c_M_longer_L26 l G _ FU _ _ _ _
def f_M_begin_B69 (k30 : Int32 → Int32 → Int32 → Nm → Option (Int32 × Nm)) (v1 : Int32) (v2 : Int32) (v4 : Int32) (v5 : Int32) (v6 : Int32) (s0 : Int32) (M : Nm) : Option (Int32 × Nm) := if v6 ≤ v4 then (k30 s0 v4 (v5 + 1) M) else (k30 s0 v6 (v5 + 1) M)
theorem c_M_begin_B69 (l : Launch) (G : Gl) {k30 : Int32 → Int32 → Int32 → Nm → Option (Int32 × Nm)} (v1 : Int32) (v2 : Int32) (v4 : Int32) (v5 : Int32) (v6 : Int32) (s0 : Int32)  (hk30 : ∀ (v3 : Int32) (v4 : Int32) (v5 : Int32)  (M : Nm), NJ l G Y_X12_begin (zR 5 119) eI 30 [(0, aR G 86), (1, .int v1), (2, .int v2), (3, .int v3), (4, .int v4), (5, .int v5)] [] M (k30 v3 v4 v5 M)) (M : Nm) : NJ l G Y_X12_begin (zR 5 119) eI 69 [(0, aR G 86), (1, .int v1), (2, .int v2), (4, .int v4), (5, .int v5), (6, .int v6)] [.int s0] M (f_M_begin_B69 k30 v1 v2 v4 v5 v6 s0 M) := by
  unfold f_M_begin_B69
  refine s_istore_n (i := 3) (lv' := [(3, .int s0), (0, aR G 86), (1, .int v1), (2, .int v2), (4, .int v4), (5, .int v5), (6, .int v6)]) dX12_begin_69 rfl rfl rfl ?_
  refine s_iload 6 dX12_begin_70 rfl ?_
  refine s_iload 4 dX12_begin_72 rfl ?_
  refine s_icmp_le (tgt := 82) dX12_begin_74 (by decide) (fun _ => ?_) (fun _ => ?_)
  · refine s_iload 4 dX12_begin_82 rfl ?_
    refine s_istore (lv' := [(4, .int v4), (3, .int s0), (0, aR G 86), (1, .int v1), (2, .int v2), (5, .int v5), (6, .int v6)]) dX12_begin_84 rfl rfl ?_
    refine s_iinc (v := 1) (lv' := [(5, .int (v5 + 1)), (4, .int v4), (3, .int s0), (0, aR G 86), (1, .int v1), (2, .int v2), (6, .int v6)]) 5 dX12_begin_86 rfl (by decide) rfl rfl ?_
    refine s_goto (tgt := 30) dX12_begin_89 (by decide) ?_
    refine s_lv [3, 4, 5, 2, 1, 0] (lv' := [(0, aR G 86), (1, .int v1), (2, .int v2), (3, .int s0), (4, .int v4), (5, .int (v5 + 1))]) rfl ?_
    exact hk30 _ _ _ _
  · refine s_iload 6 dX12_begin_77 rfl ?_
    refine s_goto (tgt := 84) dX12_begin_79 (by decide) ?_
    refine s_istore (lv' := [(4, .int v6), (3, .int s0), (0, aR G 86), (1, .int v1), (2, .int v2), (5, .int v5), (6, .int v6)]) dX12_begin_84 rfl rfl ?_
    refine s_iinc (v := 1) (lv' := [(5, .int (v5 + 1)), (4, .int v6), (3, .int s0), (0, aR G 86), (1, .int v1), (2, .int v2), (6, .int v6)]) 5 dX12_begin_86 rfl (by decide) rfl rfl ?_
    refine s_goto (tgt := 30) dX12_begin_89 (by decide) ?_
    refine s_lv [3, 4, 5, 2, 1, 0] (lv' := [(0, aR G 86), (1, .int v1), (2, .int v2), (3, .int s0), (4, .int v6), (5, .int (v5 + 1))]) rfl ?_
    exact hk30 _ _ _ _
def f_M_begin_L30  (v1 : Int32) (v2 : Int32) : Nat → Int32 → Int32 → Int32 → Nm → Option (Int32 × Nm)
  | 0, _, _, _, _ => none
  | f + 1, v3, v4, v5, M => if 48 ≤ v5 then (bnd (f_M_spot v1 1 M) fun r7 M8 => grd (inb r7 176) <| bl (mI M8 87 (ix r7) v2) fun M9 => some (v3, M9)) else (bnd (f_M_spot v1 1 M) fun r10 M11 => grd (inb r10 176) <| bl (mI M11 87 (ix r10) v5) fun M12 => bnd (f_M_insideMany v1 M12) fun r13 M14 => if r13 ≤ v4 then (f_M_begin_B69 (f_M_begin_L30 v1 v2 f) v1 v2 v4 v5 r13 v3 M14) else (f_M_begin_B69 (f_M_begin_L30 v1 v2 f) v1 v2 v4 v5 r13 v5 M14))
theorem c_M_begin_L30 (l : Launch) (G : Gl)  (v1 : Int32) (v2 : Int32)   : ∀ (f : Nat) (v3 : Int32) (v4 : Int32) (v5 : Int32)  (M : Nm), NJ l G Y_X12_begin (zR 5 119) eI 30 [(0, aR G 86), (1, .int v1), (2, .int v2), (3, .int v3), (4, .int v4), (5, .int v5)] [] M (f_M_begin_L30 v1 v2 f v3 v4 v5 M) := by
  intro f
  induction f with
  | zero => intro v3 v4 v5 M; exact s_none
  | succ f ih =>
    intro v3 v4 v5 M
    rw [f_M_begin_L30]
    refine s_iload 5 dX12_begin_30 rfl ?_
    refine s_bipush (v := 48) dX12_begin_32 (by decide) ?_
    refine s_icmp_ge (tgt := 92) dX12_begin_34 (by decide) (fun _ => ?_) (fun _ => ?_)
    · refine s_aload_n 0 dX12_begin_92 rfl ?_
      refine n_getR (x := 87) dX12_begin_93 okf_M_7_11 rfl rfl so_86 (sh_lt so_86 rfl) rfl ?_
      refine s_iload_n 1 dX12_begin_96 rfl ?_
      refine s_iconst (v := 1) dX12_begin_97 (by decide) ?_
      refine n_invS_i dX12_begin_98 ok_X12_spot rfl wt_1017 wt_1018 [.int v1, .int 1] rfl rfl rfl rfl (c_M_spot l G _ _ _) (fun r7 M8 => ?_)
      refine s_iload_n 2 dX12_begin_101 rfl ?_
      refine n_ias dX12_begin_102 sa_87 ?_
      refine s_topM (fun M9 => ?_)
      refine s_iload_n 3 dX12_begin_103 rfl ?_
      exact n_iret dX12_begin_104 rfl
    · refine s_aload_n 0 dX12_begin_37 rfl ?_
      refine n_getR (x := 87) dX12_begin_38 okf_M_7_11 rfl rfl so_86 (sh_lt so_86 rfl) rfl ?_
      refine s_iload_n 1 dX12_begin_41 rfl ?_
      refine s_iconst (v := 1) dX12_begin_42 (by decide) ?_
      refine n_invS_i dX12_begin_43 ok_X12_spot rfl wt_1017 wt_1018 [.int v1, .int 1] rfl rfl rfl rfl (c_M_spot l G _ _ _) (fun r10 M11 => ?_)
      refine s_iload 5 dX12_begin_46 rfl ?_
      refine n_ias dX12_begin_48 sa_87 ?_
      refine s_topM (fun M12 => ?_)
      refine s_aload_n 0 dX12_begin_49 rfl ?_
      refine s_iload_n 1 dX12_begin_50 rfl ?_
      refine n_invV_i dX12_begin_51 ok_X12_insideMany rfl wt_1213 wt_1215 ws_48 (ci := 11) rfl rfl so_86 (sh_lt so_86 rfl) [.int v1] rfl rfl rfl rfl (c_M_insideMany l G _ _) (fun r13 M14 => ?_)
      refine s_istore (lv' := [(6, .int r13), (0, aR G 86), (1, .int v1), (2, .int v2), (3, .int v3), (4, .int v4), (5, .int v5)]) dX12_begin_54 rfl rfl ?_
      refine s_iload 0 dX12_begin_56 rfl ?_
      refine s_iload 5 dX12_begin_58 rfl ?_
      refine s_icmp_le (tgt := 68) dX12_begin_60 (by decide) (fun _ => ?_) (fun _ => ?_)
      · refine s_iload_n 4 dX12_begin_68 rfl ?_
        refine s_lv [1, 2, 3, 5, 6, 0] (lv' := [(0, aR G 86), (1, .int v1), (2, .int v2), (4, .int v4), (5, .int v5), (6, .int r13)]) rfl ?_
        exact c_M_begin_B69 l G _ _ _ _ _ _ ih _
      · refine s_iload 6 dX12_begin_63 rfl ?_
        refine s_goto (tgt := 69) dX12_begin_65 (by decide) ?_
        refine s_lv [1, 2, 3, 5, 6, 0] (lv' := [(0, aR G 86), (1, .int v1), (2, .int v2), (4, .int v4), (5, .int v5), (6, .int r13)]) rfl ?_
        exact c_M_begin_B69 l G _ _ _ _ _ _ ih _
def f_M_begin (v1 : Int32) (M : Nm) : Option (Int32 × Nm) := bnd (f_M_isHand v1 M) fun r1 M2 => if r1 = 0 then (bnd (f_M_finds (-1000000001) M2) fun r3 M4 => some (r3, M4)) else (bnd (f_M_its v1 1 M2) fun r5 M6 => f_M_begin_L30 v1 r5 FU 0 (-1) 0 M6)
theorem c_M_begin (l : Launch) (G : Gl) (v1 : Int32)  (M : Nm) : NJ l G Y_X12_begin (zR 5 119) eI 0 (lv_args 0 [aR G 86, .int v1]) [] M (f_M_begin v1 M) := by
  unfold f_M_begin
  show NJ l G Y_X12_begin (zR 5 119) eI 0 [(0, aR G 86), (1, .int v1)] [] M _
  refine s_aload_n 0 dX12_begin_0 rfl ?_
  refine s_iload_n 1 dX12_begin_1 rfl ?_
  refine n_invV_i dX12_begin_2 ok_X12_isHand rfl wt_1080 wt_1082 ws_34 (ci := 11) rfl rfl so_86 (sh_lt so_86 rfl) [.int v1] rfl rfl rfl rfl (c_M_isHand l G _ _) (fun r1 M2 => ?_)
  refine s_if_ne (tgt := 15) dX12_begin_5 (by decide) (fun _ => ?_) (fun _ => ?_)
  · refine s_aload_n 0 dX12_begin_8 rfl ?_
    refine s_ldc (v := (-1000000001)) dX12_begin_9 wt_991 ?_
    refine n_invV_i dX12_begin_11 ok_X12_finds rfl wt_992 wt_994 ws_22 (ci := 11) rfl rfl so_86 (sh_lt so_86 rfl) [.int (-1000000001)] rfl rfl rfl rfl (c_M_finds l G _ _) (fun r3 M4 => ?_)
    exact n_iret dX12_begin_14 rfl
  · refine s_aload_n 0 dX12_begin_15 rfl ?_
    refine s_iload_n 1 dX12_begin_16 rfl ?_
    refine s_iconst (v := 1) dX12_begin_17 (by decide) ?_
    refine n_invV_i dX12_begin_18 ok_X12_its rfl wt_1013 wt_1015 ws_26 (ci := 11) rfl rfl so_86 (sh_lt so_86 rfl) [.int v1, .int 1] rfl rfl rfl rfl (c_M_its l G _ _ _) (fun r5 M6 => ?_)
    refine s_istore_n (i := 2) (lv' := [(2, .int r5), (0, aR G 86), (1, .int v1)]) dX12_begin_21 rfl rfl rfl ?_
    refine s_iconst (v := 0) dX12_begin_22 (by decide) ?_
    refine s_istore_n (i := 3) (lv' := [(3, .int 0), (2, .int r5), (0, aR G 86), (1, .int v1)]) dX12_begin_23 rfl rfl rfl ?_
    refine s_iconst (v := (-1)) dX12_begin_24 (by decide) ?_
    refine s_istore (lv' := [(4, .int (-1)), (3, .int 0), (2, .int r5), (0, aR G 86), (1, .int v1)]) dX12_begin_25 rfl rfl ?_
    refine s_iconst (v := 0) dX12_begin_27 (by decide) ?_
    refine s_istore (lv' := [(5, .int 0), (4, .int (-1)), (3, .int 0), (2, .int r5), (0, aR G 86), (1, .int v1)]) dX12_begin_28 rfl rfl ?_
    refine s_lv [4, 5, 3, 2, 1, 0] (lv' := [(0, aR G 86), (1, .int v1), (2, .int r5), (3, .int 0), (4, .int (-1)), (5, .int 0)]) rfl ?_
    refine c_M_begin_L30 l G _ _ FU _ _ _ _
def f_M_kind_B68 (k30 : Int32 → Int32 → Int32 → Nm → Option (Int32 × Nm)) (v1 : Int32) (v2 : Int32) (v4 : Int32) (v5 : Int32) (v6 : Int32) (s0 : Int32) (M : Nm) : Option (Int32 × Nm) := if v6 ≤ v4 then (k30 s0 v4 (v5 + 1) M) else (k30 s0 v6 (v5 + 1) M)
theorem c_M_kind_B68 (l : Launch) (G : Gl) {k30 : Int32 → Int32 → Int32 → Nm → Option (Int32 × Nm)} (v1 : Int32) (v2 : Int32) (v4 : Int32) (v5 : Int32) (v6 : Int32) (s0 : Int32)  (hk30 : ∀ (v3 : Int32) (v4 : Int32) (v5 : Int32)  (M : Nm), NJ l G Y_X12_kind (zR 6 142) eI 30 [(0, aR G 86), (1, .int v1), (2, .int v2), (3, .int v3), (4, .int v4), (5, .int v5)] [] M (k30 v3 v4 v5 M)) (M : Nm) : NJ l G Y_X12_kind (zR 6 142) eI 68 [(0, aR G 86), (1, .int v1), (2, .int v2), (4, .int v4), (5, .int v5), (6, .int v6)] [.int s0] M (f_M_kind_B68 k30 v1 v2 v4 v5 v6 s0 M) := by
  unfold f_M_kind_B68
  refine s_istore_n (i := 3) (lv' := [(3, .int s0), (0, aR G 86), (1, .int v1), (2, .int v2), (4, .int v4), (5, .int v5), (6, .int v6)]) dX12_kind_68 rfl rfl rfl ?_
  refine s_iload 6 dX12_kind_69 rfl ?_
  refine s_iload 4 dX12_kind_71 rfl ?_
  refine s_icmp_le (tgt := 81) dX12_kind_73 (by decide) (fun _ => ?_) (fun _ => ?_)
  · refine s_iload 4 dX12_kind_81 rfl ?_
    refine s_istore (lv' := [(4, .int v4), (3, .int s0), (0, aR G 86), (1, .int v1), (2, .int v2), (5, .int v5), (6, .int v6)]) dX12_kind_83 rfl rfl ?_
    refine s_iinc (v := 1) (lv' := [(5, .int (v5 + 1)), (4, .int v4), (3, .int s0), (0, aR G 86), (1, .int v1), (2, .int v2), (6, .int v6)]) 5 dX12_kind_85 rfl (by decide) rfl rfl ?_
    refine s_goto (tgt := 30) dX12_kind_88 (by decide) ?_
    refine s_lv [3, 4, 5, 2, 1, 0] (lv' := [(0, aR G 86), (1, .int v1), (2, .int v2), (3, .int s0), (4, .int v4), (5, .int (v5 + 1))]) rfl ?_
    exact hk30 _ _ _ _
  · refine s_iload 6 dX12_kind_76 rfl ?_
    refine s_goto (tgt := 83) dX12_kind_78 (by decide) ?_
    refine s_istore (lv' := [(4, .int v6), (3, .int s0), (0, aR G 86), (1, .int v1), (2, .int v2), (5, .int v5), (6, .int v6)]) dX12_kind_83 rfl rfl ?_
    refine s_iinc (v := 1) (lv' := [(5, .int (v5 + 1)), (4, .int v6), (3, .int s0), (0, aR G 86), (1, .int v1), (2, .int v2), (6, .int v6)]) 5 dX12_kind_85 rfl (by decide) rfl rfl ?_
    refine s_goto (tgt := 30) dX12_kind_88 (by decide) ?_
    refine s_lv [3, 4, 5, 2, 1, 0] (lv' := [(0, aR G 86), (1, .int v1), (2, .int v2), (3, .int s0), (4, .int v6), (5, .int (v5 + 1))]) rfl ?_
    exact hk30 _ _ _ _
def f_M_kind_L30  (v1 : Int32) (v2 : Int32) : Nat → Int32 → Int32 → Int32 → Nm → Option (Int32 × Nm)
  | 0, _, _, _, _ => none
  | f + 1, v3, v4, v5, M => if 5 < v5 then (bnd (f_M_spot v1 0 M) fun r7 M8 => grd (inb r7 176) <| bl (mI M8 87 (ix r7) v2) fun M9 => some (v3, M9)) else (bnd (f_M_spot v1 0 M) fun r10 M11 => grd (inb r10 176) <| bl (mI M11 87 (ix r10) v5) fun M12 => bnd (f_M_ownsNow v1 M12) fun r13 M14 => if r13 ≤ v4 then (f_M_kind_B68 (f_M_kind_L30 v1 v2 f) v1 v2 v4 v5 r13 v3 M14) else (f_M_kind_B68 (f_M_kind_L30 v1 v2 f) v1 v2 v4 v5 r13 v5 M14))
theorem c_M_kind_L30 (l : Launch) (G : Gl)  (v1 : Int32) (v2 : Int32)   : ∀ (f : Nat) (v3 : Int32) (v4 : Int32) (v5 : Int32)  (M : Nm), NJ l G Y_X12_kind (zR 6 142) eI 30 [(0, aR G 86), (1, .int v1), (2, .int v2), (3, .int v3), (4, .int v4), (5, .int v5)] [] M (f_M_kind_L30 v1 v2 f v3 v4 v5 M) := by
  intro f
  induction f with
  | zero => intro v3 v4 v5 M; exact s_none
  | succ f ih =>
    intro v3 v4 v5 M
    rw [f_M_kind_L30]
    refine s_iload 5 dX12_kind_30 rfl ?_
    refine s_iconst (v := 5) dX12_kind_32 (by decide) ?_
    refine s_icmp_gt (tgt := 91) dX12_kind_33 (by decide) (fun _ => ?_) (fun _ => ?_)
    · refine s_aload_n 0 dX12_kind_91 rfl ?_
      refine n_getR (x := 87) dX12_kind_92 okf_M_7_11 rfl rfl so_86 (sh_lt so_86 rfl) rfl ?_
      refine s_iload_n 1 dX12_kind_95 rfl ?_
      refine s_iconst (v := 0) dX12_kind_96 (by decide) ?_
      refine n_invS_i dX12_kind_97 ok_X12_spot rfl wt_1017 wt_1018 [.int v1, .int 0] rfl rfl rfl rfl (c_M_spot l G _ _ _) (fun r7 M8 => ?_)
      refine s_iload_n 2 dX12_kind_100 rfl ?_
      refine n_ias dX12_kind_101 sa_87 ?_
      refine s_topM (fun M9 => ?_)
      refine s_iload_n 3 dX12_kind_102 rfl ?_
      exact n_iret dX12_kind_103 rfl
    · refine s_aload_n 0 dX12_kind_36 rfl ?_
      refine n_getR (x := 87) dX12_kind_37 okf_M_7_11 rfl rfl so_86 (sh_lt so_86 rfl) rfl ?_
      refine s_iload_n 1 dX12_kind_40 rfl ?_
      refine s_iconst (v := 0) dX12_kind_41 (by decide) ?_
      refine n_invS_i dX12_kind_42 ok_X12_spot rfl wt_1017 wt_1018 [.int v1, .int 0] rfl rfl rfl rfl (c_M_spot l G _ _ _) (fun r10 M11 => ?_)
      refine s_iload 5 dX12_kind_45 rfl ?_
      refine n_ias dX12_kind_47 sa_87 ?_
      refine s_topM (fun M12 => ?_)
      refine s_aload_n 0 dX12_kind_48 rfl ?_
      refine s_iload_n 1 dX12_kind_49 rfl ?_
      refine n_invV_i dX12_kind_50 ok_X12_ownsNow rfl wt_1184 wt_1186 ws_44 (ci := 11) rfl rfl so_86 (sh_lt so_86 rfl) [.int v1] rfl rfl rfl rfl (c_M_ownsNow l G _ _) (fun r13 M14 => ?_)
      refine s_istore (lv' := [(6, .int r13), (0, aR G 86), (1, .int v1), (2, .int v2), (3, .int v3), (4, .int v4), (5, .int v5)]) dX12_kind_53 rfl rfl ?_
      refine s_iload 0 dX12_kind_55 rfl ?_
      refine s_iload 5 dX12_kind_57 rfl ?_
      refine s_icmp_le (tgt := 67) dX12_kind_59 (by decide) (fun _ => ?_) (fun _ => ?_)
      · refine s_iload_n 4 dX12_kind_67 rfl ?_
        refine s_lv [1, 2, 3, 5, 6, 0] (lv' := [(0, aR G 86), (1, .int v1), (2, .int v2), (4, .int v4), (5, .int v5), (6, .int r13)]) rfl ?_
        exact c_M_kind_B68 l G _ _ _ _ _ _ ih _
      · refine s_iload 6 dX12_kind_62 rfl ?_
        refine s_goto (tgt := 68) dX12_kind_64 (by decide) ?_
        refine s_lv [1, 2, 3, 5, 6, 0] (lv' := [(0, aR G 86), (1, .int v1), (2, .int v2), (4, .int v4), (5, .int v5), (6, .int r13)]) rfl ?_
        exact c_M_kind_B68 l G _ _ _ _ _ _ ih _
def f_M_kind (v1 : Int32) (M : Nm) : Option (Int32 × Nm) := bnd (f_M_isHand v1 M) fun r1 M2 => if r1 = 0 then (bnd (f_M_finds (-1000000001) M2) fun r3 M4 => some (r3, M4)) else (bnd (f_M_its v1 0 M2) fun r5 M6 => f_M_kind_L30 v1 r5 FU 0 (-1) 0 M6)
theorem c_M_kind (l : Launch) (G : Gl) (v1 : Int32)  (M : Nm) : NJ l G Y_X12_kind (zR 6 142) eI 0 (lv_args 0 [aR G 86, .int v1]) [] M (f_M_kind v1 M) := by
  unfold f_M_kind
  show NJ l G Y_X12_kind (zR 6 142) eI 0 [(0, aR G 86), (1, .int v1)] [] M _
  refine s_aload_n 0 dX12_kind_0 rfl ?_
  refine s_iload_n 1 dX12_kind_1 rfl ?_
  refine n_invV_i dX12_kind_2 ok_X12_isHand rfl wt_1080 wt_1082 ws_34 (ci := 11) rfl rfl so_86 (sh_lt so_86 rfl) [.int v1] rfl rfl rfl rfl (c_M_isHand l G _ _) (fun r1 M2 => ?_)
  refine s_if_ne (tgt := 15) dX12_kind_5 (by decide) (fun _ => ?_) (fun _ => ?_)
  · refine s_aload_n 0 dX12_kind_8 rfl ?_
    refine s_ldc (v := (-1000000001)) dX12_kind_9 wt_991 ?_
    refine n_invV_i dX12_kind_11 ok_X12_finds rfl wt_992 wt_994 ws_22 (ci := 11) rfl rfl so_86 (sh_lt so_86 rfl) [.int (-1000000001)] rfl rfl rfl rfl (c_M_finds l G _ _) (fun r3 M4 => ?_)
    exact n_iret dX12_kind_14 rfl
  · refine s_aload_n 0 dX12_kind_15 rfl ?_
    refine s_iload_n 1 dX12_kind_16 rfl ?_
    refine s_iconst (v := 0) dX12_kind_17 (by decide) ?_
    refine n_invV_i dX12_kind_18 ok_X12_its rfl wt_1013 wt_1015 ws_26 (ci := 11) rfl rfl so_86 (sh_lt so_86 rfl) [.int v1, .int 0] rfl rfl rfl rfl (c_M_its l G _ _ _) (fun r5 M6 => ?_)
    refine s_istore_n (i := 2) (lv' := [(2, .int r5), (0, aR G 86), (1, .int v1)]) dX12_kind_21 rfl rfl rfl ?_
    refine s_iconst (v := 0) dX12_kind_22 (by decide) ?_
    refine s_istore_n (i := 3) (lv' := [(3, .int 0), (2, .int r5), (0, aR G 86), (1, .int v1)]) dX12_kind_23 rfl rfl rfl ?_
    refine s_iconst (v := (-1)) dX12_kind_24 (by decide) ?_
    refine s_istore (lv' := [(4, .int (-1)), (3, .int 0), (2, .int r5), (0, aR G 86), (1, .int v1)]) dX12_kind_25 rfl rfl ?_
    refine s_iconst (v := 0) dX12_kind_27 (by decide) ?_
    refine s_istore (lv' := [(5, .int 0), (4, .int (-1)), (3, .int 0), (2, .int r5), (0, aR G 86), (1, .int v1)]) dX12_kind_28 rfl rfl ?_
    refine s_lv [4, 5, 3, 2, 1, 0] (lv' := [(0, aR G 86), (1, .int v1), (2, .int r5), (3, .int 0), (4, .int (-1)), (5, .int 0)]) rfl ?_
    refine c_M_kind_L30 l G _ _ FU _ _ _ _
def f_M_ink_B86 (k34 : Int32 → Int32 → Int32 → Nm → Option (Int32 × Nm)) (v1 : Int32) (v2 : Int32) (v4 : Int32) (v5 : Int32) (v6 : Int32) (s0 : Int32) (M : Nm) : Option (Int32 × Nm) := if v6 ≤ v4 then (k34 s0 v4 (v5 + 1) M) else (k34 s0 v6 (v5 + 1) M)
theorem c_M_ink_B86 (l : Launch) (G : Gl) {k34 : Int32 → Int32 → Int32 → Nm → Option (Int32 × Nm)} (v1 : Int32) (v2 : Int32) (v4 : Int32) (v5 : Int32) (v6 : Int32) (s0 : Int32)  (hk34 : ∀ (v3 : Int32) (v4 : Int32) (v5 : Int32)  (M : Nm), NJ l G Y_X12_ink (zR 5 121) eI 34 [(0, aR G 86), (1, .int v1), (2, .int v2), (3, .int v3), (4, .int v4), (5, .int v5)] [] M (k34 v3 v4 v5 M)) (M : Nm) : NJ l G Y_X12_ink (zR 5 121) eI 86 [(0, aR G 86), (1, .int v1), (2, .int v2), (4, .int v4), (5, .int v5), (6, .int v6)] [.int s0] M (f_M_ink_B86 k34 v1 v2 v4 v5 v6 s0 M) := by
  unfold f_M_ink_B86
  refine s_istore_n (i := 3) (lv' := [(3, .int s0), (0, aR G 86), (1, .int v1), (2, .int v2), (4, .int v4), (5, .int v5), (6, .int v6)]) dX12_ink_86 rfl rfl rfl ?_
  refine s_iload 6 dX12_ink_87 rfl ?_
  refine s_iload 4 dX12_ink_89 rfl ?_
  refine s_icmp_le (tgt := 99) dX12_ink_91 (by decide) (fun _ => ?_) (fun _ => ?_)
  · refine s_iload 4 dX12_ink_99 rfl ?_
    refine s_istore (lv' := [(4, .int v4), (3, .int s0), (0, aR G 86), (1, .int v1), (2, .int v2), (5, .int v5), (6, .int v6)]) dX12_ink_101 rfl rfl ?_
    refine s_iinc (v := 1) (lv' := [(5, .int (v5 + 1)), (4, .int v4), (3, .int s0), (0, aR G 86), (1, .int v1), (2, .int v2), (6, .int v6)]) 5 dX12_ink_103 rfl (by decide) rfl rfl ?_
    refine s_goto (tgt := 34) dX12_ink_106 (by decide) ?_
    refine s_lv [3, 4, 5, 2, 1, 0] (lv' := [(0, aR G 86), (1, .int v1), (2, .int v2), (3, .int s0), (4, .int v4), (5, .int (v5 + 1))]) rfl ?_
    exact hk34 _ _ _ _
  · refine s_iload 6 dX12_ink_94 rfl ?_
    refine s_goto (tgt := 101) dX12_ink_96 (by decide) ?_
    refine s_istore (lv' := [(4, .int v6), (3, .int s0), (0, aR G 86), (1, .int v1), (2, .int v2), (5, .int v5), (6, .int v6)]) dX12_ink_101 rfl rfl ?_
    refine s_iinc (v := 1) (lv' := [(5, .int (v5 + 1)), (4, .int v6), (3, .int s0), (0, aR G 86), (1, .int v1), (2, .int v2), (6, .int v6)]) 5 dX12_ink_103 rfl (by decide) rfl rfl ?_
    refine s_goto (tgt := 34) dX12_ink_106 (by decide) ?_
    refine s_lv [3, 4, 5, 2, 1, 0] (lv' := [(0, aR G 86), (1, .int v1), (2, .int v2), (3, .int s0), (4, .int v6), (5, .int (v5 + 1))]) rfl ?_
    exact hk34 _ _ _ _
def f_M_ink_B71 (k34 : Int32 → Int32 → Int32 → Nm → Option (Int32 × Nm)) (v1 : Int32) (v2 : Int32) (v3 : Int32) (v4 : Int32) (v5 : Int32) (s0 : Int32) (M : Nm) : Option (Int32 × Nm) := if s0 ≤ v4 then (f_M_ink_B86 k34 v1 v2 v4 v5 s0 v3 M) else (f_M_ink_B86 k34 v1 v2 v4 v5 s0 v5 M)
theorem c_M_ink_B71 (l : Launch) (G : Gl) {k34 : Int32 → Int32 → Int32 → Nm → Option (Int32 × Nm)} (v1 : Int32) (v2 : Int32) (v3 : Int32) (v4 : Int32) (v5 : Int32) (s0 : Int32)  (hk34 : ∀ (v3 : Int32) (v4 : Int32) (v5 : Int32)  (M : Nm), NJ l G Y_X12_ink (zR 5 121) eI 34 [(0, aR G 86), (1, .int v1), (2, .int v2), (3, .int v3), (4, .int v4), (5, .int v5)] [] M (k34 v3 v4 v5 M)) (M : Nm) : NJ l G Y_X12_ink (zR 5 121) eI 71 [(0, aR G 86), (1, .int v1), (2, .int v2), (3, .int v3), (4, .int v4), (5, .int v5)] [.int s0] M (f_M_ink_B71 k34 v1 v2 v3 v4 v5 s0 M) := by
  unfold f_M_ink_B71
  refine s_istore (lv' := [(6, .int s0), (0, aR G 86), (1, .int v1), (2, .int v2), (3, .int v3), (4, .int v4), (5, .int v5)]) dX12_ink_71 rfl rfl ?_
  refine s_iload 0 dX12_ink_73 rfl ?_
  refine s_iload 5 dX12_ink_75 rfl ?_
  refine s_icmp_le (tgt := 85) dX12_ink_77 (by decide) (fun _ => ?_) (fun _ => ?_)
  · refine s_iload_n 4 dX12_ink_85 rfl ?_
    refine s_lv [1, 2, 3, 5, 6, 0] (lv' := [(0, aR G 86), (1, .int v1), (2, .int v2), (4, .int v4), (5, .int v5), (6, .int s0)]) rfl ?_
    exact c_M_ink_B86 l G _ _ _ _ _ _ hk34 _
  · refine s_iload 6 dX12_ink_80 rfl ?_
    refine s_goto (tgt := 86) dX12_ink_82 (by decide) ?_
    refine s_lv [1, 2, 3, 5, 6, 0] (lv' := [(0, aR G 86), (1, .int v1), (2, .int v2), (4, .int v4), (5, .int v5), (6, .int s0)]) rfl ?_
    exact c_M_ink_B86 l G _ _ _ _ _ _ hk34 _
def f_M_ink_L34  (v1 : Int32) (v2 : Int32) : Nat → Int32 → Int32 → Int32 → Nm → Option (Int32 × Nm)
  | 0, _, _, _, _ => none
  | f + 1, v3, v4, v5, M => if 999 < v5 then (bnd (f_M_spot v1 2 M) fun r9 M10 => grd (inb r9 176) <| bl (mI M10 87 (ix r9) v2) fun M11 => some (v3, M11)) else (bnd (f_M_spot v1 2 M) fun r12 M13 => grd (inb r12 176) <| bl (mI M13 87 (ix r12) v5) fun M14 => bnd (f_M_writes v1 M14) fun r15 M16 => if r15 = 0 then (f_M_ink_B71 (f_M_ink_L34 v1 v2 f) v1 v2 v3 v4 v5 0 M16) else (bnd (f_M_ownedBy v1 M16) fun r17 M18 => f_M_ink_B71 (f_M_ink_L34 v1 v2 f) v1 v2 v3 v4 v5 r17 M18))
theorem c_M_ink_L34 (l : Launch) (G : Gl)  (v1 : Int32) (v2 : Int32)   : ∀ (f : Nat) (v3 : Int32) (v4 : Int32) (v5 : Int32)  (M : Nm), NJ l G Y_X12_ink (zR 5 121) eI 34 [(0, aR G 86), (1, .int v1), (2, .int v2), (3, .int v3), (4, .int v4), (5, .int v5)] [] M (f_M_ink_L34 v1 v2 f v3 v4 v5 M) := by
  intro f
  induction f with
  | zero => intro v3 v4 v5 M; exact s_none
  | succ f ih =>
    intro v3 v4 v5 M
    rw [f_M_ink_L34]
    refine s_iload 5 dX12_ink_34 rfl ?_
    refine s_sipush (v := 999) dX12_ink_36 (by decide) ?_
    refine s_icmp_gt (tgt := 109) dX12_ink_39 (by decide) (fun _ => ?_) (fun _ => ?_)
    · refine s_aload_n 0 dX12_ink_109 rfl ?_
      refine n_getR (x := 87) dX12_ink_110 okf_M_7_11 rfl rfl so_86 (sh_lt so_86 rfl) rfl ?_
      refine s_iload_n 1 dX12_ink_113 rfl ?_
      refine s_iconst (v := 2) dX12_ink_114 (by decide) ?_
      refine n_invS_i dX12_ink_115 ok_X12_spot rfl wt_1017 wt_1018 [.int v1, .int 2] rfl rfl rfl rfl (c_M_spot l G _ _ _) (fun r9 M10 => ?_)
      refine s_iload_n 2 dX12_ink_118 rfl ?_
      refine n_ias dX12_ink_119 sa_87 ?_
      refine s_topM (fun M11 => ?_)
      refine s_iload_n 3 dX12_ink_120 rfl ?_
      exact n_iret dX12_ink_121 rfl
    · refine s_aload_n 0 dX12_ink_42 rfl ?_
      refine n_getR (x := 87) dX12_ink_43 okf_M_7_11 rfl rfl so_86 (sh_lt so_86 rfl) rfl ?_
      refine s_iload_n 1 dX12_ink_46 rfl ?_
      refine s_iconst (v := 2) dX12_ink_47 (by decide) ?_
      refine n_invS_i dX12_ink_48 ok_X12_spot rfl wt_1017 wt_1018 [.int v1, .int 2] rfl rfl rfl rfl (c_M_spot l G _ _ _) (fun r12 M13 => ?_)
      refine s_iload 5 dX12_ink_51 rfl ?_
      refine n_ias dX12_ink_53 sa_87 ?_
      refine s_topM (fun M14 => ?_)
      refine s_aload_n 0 dX12_ink_54 rfl ?_
      refine s_iload_n 1 dX12_ink_55 rfl ?_
      refine n_invV_i dX12_ink_56 ok_X12_writes rfl wt_1046 wt_1048 ws_30 (ci := 11) rfl rfl so_86 (sh_lt so_86 rfl) [.int v1] rfl rfl rfl rfl (c_M_writes l G _ _) (fun r15 M16 => ?_)
      refine s_if_eq (tgt := 70) dX12_ink_59 (by decide) (fun _ => ?_) (fun _ => ?_)
      · refine s_iconst (v := 0) dX12_ink_70 (by decide) ?_
        exact c_M_ink_B71 l G _ _ _ _ _ _ ih _
      · refine s_aload_n 0 dX12_ink_62 rfl ?_
        refine s_iload_n 1 dX12_ink_63 rfl ?_
        refine n_invV_i dX12_ink_64 ok_X12_ownedBy rfl wt_1100 wt_1102 ws_36 (ci := 11) rfl rfl so_86 (sh_lt so_86 rfl) [.int v1] rfl rfl rfl rfl (c_M_ownedBy l G _ _) (fun r17 M18 => ?_)
        refine s_goto (tgt := 71) dX12_ink_67 (by decide) ?_
        exact c_M_ink_B71 l G _ _ _ _ _ _ ih _
def f_M_ink (v1 : Int32) (M : Nm) : Option (Int32 × Nm) := bnd (f_M_isHand v1 M) fun r1 M2 => if r1 = 0 then (bnd (f_M_finds (-1000000001) M2) fun r3 M4 => some (r3, M4)) else (bnd (f_M_its v1 2 M2) fun r5 M6 => bnd (f_M_writeAll M6) fun r7 M8 => f_M_ink_L34 v1 r5 FU 0 (-1) 0 M8)
theorem c_M_ink (l : Launch) (G : Gl) (v1 : Int32)  (M : Nm) : NJ l G Y_X12_ink (zR 5 121) eI 0 (lv_args 0 [aR G 86, .int v1]) [] M (f_M_ink v1 M) := by
  unfold f_M_ink
  show NJ l G Y_X12_ink (zR 5 121) eI 0 [(0, aR G 86), (1, .int v1)] [] M _
  refine s_aload_n 0 dX12_ink_0 rfl ?_
  refine s_iload_n 1 dX12_ink_1 rfl ?_
  refine n_invV_i dX12_ink_2 ok_X12_isHand rfl wt_1080 wt_1082 ws_34 (ci := 11) rfl rfl so_86 (sh_lt so_86 rfl) [.int v1] rfl rfl rfl rfl (c_M_isHand l G _ _) (fun r1 M2 => ?_)
  refine s_if_ne (tgt := 15) dX12_ink_5 (by decide) (fun _ => ?_) (fun _ => ?_)
  · refine s_aload_n 0 dX12_ink_8 rfl ?_
    refine s_ldc (v := (-1000000001)) dX12_ink_9 wt_991 ?_
    refine n_invV_i dX12_ink_11 ok_X12_finds rfl wt_992 wt_994 ws_22 (ci := 11) rfl rfl so_86 (sh_lt so_86 rfl) [.int (-1000000001)] rfl rfl rfl rfl (c_M_finds l G _ _) (fun r3 M4 => ?_)
    exact n_iret dX12_ink_14 rfl
  · refine s_aload_n 0 dX12_ink_15 rfl ?_
    refine s_iload_n 1 dX12_ink_16 rfl ?_
    refine s_iconst (v := 2) dX12_ink_17 (by decide) ?_
    refine n_invV_i dX12_ink_18 ok_X12_its rfl wt_1013 wt_1015 ws_26 (ci := 11) rfl rfl so_86 (sh_lt so_86 rfl) [.int v1, .int 2] rfl rfl rfl rfl (c_M_its l G _ _ _) (fun r5 M6 => ?_)
    refine s_istore_n (i := 2) (lv' := [(2, .int r5), (0, aR G 86), (1, .int v1)]) dX12_ink_21 rfl rfl rfl ?_
    refine s_aload_n 1 dX12_ink_22 rfl ?_
    refine n_invV_u dX12_ink_23 ok_X12_writeAll rfl wt_1001 wt_1003 ws_23 (ci := 11) rfl rfl so_86 (sh_lt so_86 rfl) [] rfl rfl rfl rfl (c_M_writeAll l G _) (fun r7 M8 => ?_)
    refine s_iconst (v := 0) dX12_ink_26 (by decide) ?_
    refine s_istore_n (i := 3) (lv' := [(3, .int 0), (2, .int r5), (0, aR G 86), (1, .int v1)]) dX12_ink_27 rfl rfl rfl ?_
    refine s_iconst (v := (-1)) dX12_ink_28 (by decide) ?_
    refine s_istore (lv' := [(4, .int (-1)), (3, .int 0), (2, .int r5), (0, aR G 86), (1, .int v1)]) dX12_ink_29 rfl rfl ?_
    refine s_iconst (v := 0) dX12_ink_31 (by decide) ?_
    refine s_istore (lv' := [(5, .int 0), (4, .int (-1)), (3, .int 0), (2, .int r5), (0, aR G 86), (1, .int v1)]) dX12_ink_32 rfl rfl ?_
    refine s_lv [4, 5, 3, 2, 1, 0] (lv' := [(0, aR G 86), (1, .int v1), (2, .int r5), (3, .int 0), (4, .int (-1)), (5, .int 0)]) rfl ?_
    refine c_M_ink_L34 l G _ _ FU _ _ _ _
def f_M_court (v1 : Int32) (v2 : Int32) (M : Nm) : Option (Int32 × Nm) := bnd (f_M_isHand v1 M) fun r1 M2 => if r1 = 0 then (bnd (f_M_finds (-1000000001) M2) fun r3 M4 => some (r3, M4)) else (bnd (f_M_isHand v2 M2) fun r5 M6 => if r5 = 0 then (bnd (f_M_finds (-1000000001) M6) fun r7 M8 => some (r7, M8)) else (if v1 = v2 then (bnd (f_M_finds (-1000000001) M6) fun r9 M10 => some (r9, M10)) else (bnd (f_M_writeAll M6) fun r11 M12 => grd (inb v1 6) <| grd (inb v2 6) <| bnd (f_M_ones ((M12.2.1 93 (ix v1)) &&& (M12.2.1 93 (ix v2))) M12) fun r13 M14 => some (r13, M14))))
theorem c_M_court (l : Launch) (G : Gl) (v1 : Int32) (v2 : Int32)  (M : Nm) : NJ l G Y_X12_court (zR 5 121) eI 0 (lv_args 0 [aR G 86, .int v1, .int v2]) [] M (f_M_court v1 v2 M) := by
  unfold f_M_court
  show NJ l G Y_X12_court (zR 5 121) eI 0 [(0, aR G 86), (1, .int v1), (2, .int v2)] [] M _
  refine s_aload_n 0 dX12_court_0 rfl ?_
  refine s_iload_n 1 dX12_court_1 rfl ?_
  refine n_invV_i dX12_court_2 ok_X12_isHand rfl wt_1080 wt_1082 ws_34 (ci := 11) rfl rfl so_86 (sh_lt so_86 rfl) [.int v1] rfl rfl rfl rfl (c_M_isHand l G _ _) (fun r1 M2 => ?_)
  refine s_if_eq (tgt := 21) dX12_court_5 (by decide) (fun _ => ?_) (fun _ => ?_)
  · refine s_aload_n 0 dX12_court_21 rfl ?_
    refine s_ldc (v := (-1000000001)) dX12_court_22 wt_991 ?_
    refine n_invV_i dX12_court_24 ok_X12_finds rfl wt_992 wt_994 ws_22 (ci := 11) rfl rfl so_86 (sh_lt so_86 rfl) [.int (-1000000001)] rfl rfl rfl rfl (c_M_finds l G _ _) (fun r3 M4 => ?_)
    exact n_iret dX12_court_27 rfl
  · refine s_aload_n 0 dX12_court_8 rfl ?_
    refine s_iload_n 2 dX12_court_9 rfl ?_
    refine n_invV_i dX12_court_10 ok_X12_isHand rfl wt_1080 wt_1082 ws_34 (ci := 11) rfl rfl so_86 (sh_lt so_86 rfl) [.int v2] rfl rfl rfl rfl (c_M_isHand l G _ _) (fun r5 M6 => ?_)
    refine s_if_eq (tgt := 21) dX12_court_13 (by decide) (fun _ => ?_) (fun _ => ?_)
    · refine s_aload_n 0 dX12_court_21 rfl ?_
      refine s_ldc (v := (-1000000001)) dX12_court_22 wt_991 ?_
      refine n_invV_i dX12_court_24 ok_X12_finds rfl wt_992 wt_994 ws_22 (ci := 11) rfl rfl so_86 (sh_lt so_86 rfl) [.int (-1000000001)] rfl rfl rfl rfl (c_M_finds l G _ _) (fun r7 M8 => ?_)
      exact n_iret dX12_court_27 rfl
    · refine s_iload_n 1 dX12_court_16 rfl ?_
      refine s_iload_n 2 dX12_court_17 rfl ?_
      refine s_icmp_ne (tgt := 28) dX12_court_18 (by decide) (fun _ => ?_) (fun _ => ?_)
      · refine s_aload_n 0 dX12_court_21 rfl ?_
        refine s_ldc (v := (-1000000001)) dX12_court_22 wt_991 ?_
        refine n_invV_i dX12_court_24 ok_X12_finds rfl wt_992 wt_994 ws_22 (ci := 11) rfl rfl so_86 (sh_lt so_86 rfl) [.int (-1000000001)] rfl rfl rfl rfl (c_M_finds l G _ _) (fun r9 M10 => ?_)
        exact n_iret dX12_court_27 rfl
      · refine s_aload_n 0 dX12_court_28 rfl ?_
        refine n_invV_u dX12_court_29 ok_X12_writeAll rfl wt_1001 wt_1003 ws_23 (ci := 11) rfl rfl so_86 (sh_lt so_86 rfl) [] rfl rfl rfl rfl (c_M_writeAll l G _) (fun r11 M12 => ?_)
        refine s_aload_n 0 dX12_court_32 rfl ?_
        refine n_getR (x := 93) dX12_court_33 okf_M_29_11 rfl rfl so_86 (sh_lt so_86 rfl) rfl ?_
        refine s_iload_n 1 dX12_court_36 rfl ?_
        refine n_lal dX12_court_37 sa_93 ?_
        refine s_aload_n 0 dX12_court_38 rfl ?_
        refine n_getR (x := 93) dX12_court_39 okf_M_29_11 rfl rfl so_86 (sh_lt so_86 rfl) rfl ?_
        refine s_iload_n 2 dX12_court_42 rfl ?_
        refine n_lal dX12_court_43 sa_93 ?_
        refine s_land dX12_court_44 ?_
        refine n_invS_i dX12_court_45 ok_X12_ones rfl wt_1097 wt_1098 [.long ((M12.2.1 93 (ix v1)) &&& (M12.2.1 93 (ix v2)))] rfl rfl rfl rfl (c_M_ones l G _ _) (fun r13 M14 => ?_)
        exact n_iret dX12_court_48 rfl
def f_M_way_L94 (k153 : Int64 → Nm → Option (Int32 × Nm)) (v3 : Int32) (v4 : Int64) (v8 : Int32) (v9 : Int64) (v11 : Int32) : Nat → Int64 → Int32 → Nm → Option (Int32 × Nm)
  | 0, _, _, _ => none
  | f + 1, v6, v12, M => if 4 ≤ v12 then (k153 v6 M) else (bnd (f_M_has v9 v11 M) fun r20 M21 => if r20 = 0 then (k153 v6 M21) else (bnd (f_M_beside v11 v12 M21) fun r22 M23 => if r22 < 0 then (f_M_way_L94 k153 v3 v4 v8 v9 v11 f (v6 ||| 0) (v12 + 1) M23) else (bnd (f_M_has v4 r22 M23) fun r24 M25 => if r24 = 0 then (f_M_way_L94 k153 v3 v4 v8 v9 v11 f (v6 ||| 0) (v12 + 1) M25) else (bl (v6 ||| (1 <<< (r22.toInt64 &&& 63))) fun x26 => f_M_way_L94 k153 v3 v4 v8 v9 v11 f x26 (v12 + 1) M25))))
theorem c_M_way_L94 (l : Launch) (G : Gl) {k153 : Int64 → Nm → Option (Int32 × Nm)} (v3 : Int32) (v4 : Int64) (v8 : Int32) (v9 : Int64) (v11 : Int32)  (hk153 : ∀ (v6 : Int64)  (M : Nm), NJ l G Y_X12_way (zR 4 98) eI 153 [(0, aR G 86), (3, .int v3), (4, .long v4), (6, .long v6), (8, .int v8), (9, .long v9), (11, .int v11)] [] M (k153 v6 M)) : ∀ (f : Nat) (v6 : Int64) (v12 : Int32)  (M : Nm), NJ l G Y_X12_way (zR 4 98) eI 94 [(0, aR G 86), (3, .int v3), (4, .long v4), (6, .long v6), (8, .int v8), (9, .long v9), (11, .int v11), (12, .int v12)] [] M (f_M_way_L94 k153 v3 v4 v8 v9 v11 f v6 v12 M) := by
  intro f
  induction f with
  | zero => intro v6 v12 M; exact s_none
  | succ f ih =>
    intro v6 v12 M
    rw [f_M_way_L94]
    refine s_iload 7 dX12_way_94 rfl ?_
    refine s_iconst (v := 4) dX12_way_96 (by decide) ?_
    refine s_icmp_ge (tgt := 153) dX12_way_97 (by decide) (fun _ => ?_) (fun _ => ?_)
    · refine s_lv [0, 1, 2, 3, 4, 5, 6] (lv' := [(0, aR G 86), (3, .int v3), (4, .long v4), (6, .long v6), (8, .int v8), (9, .long v9), (11, .int v11)]) rfl ?_
      exact hk153 _ _
    · refine s_lload 5 dX12_way_100 rfl ?_
      refine s_iload 6 dX12_way_102 rfl ?_
      refine n_invS_i dX12_way_104 ok_X12_has rfl wt_1038 wt_1039 [.long v9, .int v11] rfl rfl rfl rfl (c_M_has l G _ _ _) (fun r20 M21 => ?_)
      refine s_if_eq (tgt := 153) dX12_way_107 (by decide) (fun _ => ?_) (fun _ => ?_)
      · refine s_lv [0, 1, 2, 3, 4, 5, 6] (lv' := [(0, aR G 86), (3, .int v3), (4, .long v4), (6, .long v6), (8, .int v8), (9, .long v9), (11, .int v11)]) rfl ?_
        exact hk153 _ _
      · refine s_iload 6 dX12_way_110 rfl ?_
        refine s_iload 7 dX12_way_112 rfl ?_
        refine n_invS_i dX12_way_114 ok_X12_beside rfl wt_1028 wt_1029 [.int v11, .int v12] rfl rfl rfl rfl (c_M_beside l G _ _ _) (fun r22 M23 => ?_)
        refine s_istore (lv' := [(13, .int r22), (0, aR G 86), (3, .int v3), (4, .long v4), (6, .long v6), (8, .int v8), (9, .long v9), (11, .int v11), (12, .int v12)]) dX12_way_117 rfl rfl ?_
        refine s_lload 4 dX12_way_119 rfl ?_
        refine s_iload 0 dX12_way_121 rfl ?_
        refine s_if_lt (tgt := 143) dX12_way_123 (by decide) (fun _ => ?_) (fun _ => ?_)
        · refine s_lconst (v := 0) dX12_way_143 (by decide) ?_
          refine s_lor dX12_way_144 ?_
          refine s_lstore (lv' := [(6, .long (v6 ||| 0)), (13, .int r22), (0, aR G 86), (3, .int v3), (4, .long v4), (8, .int v8), (9, .long v9), (11, .int v11), (12, .int v12)]) dX12_way_145 rfl rfl ?_
          refine s_iinc (v := 1) (lv' := [(12, .int (v12 + 1)), (6, .long (v6 ||| 0)), (13, .int r22), (0, aR G 86), (3, .int v3), (4, .long v4), (8, .int v8), (9, .long v9), (11, .int v11)]) 8 dX12_way_147 rfl (by decide) rfl rfl ?_
          refine s_goto (tgt := 94) dX12_way_150 (by decide) ?_
          refine s_lv [3, 4, 5, 1, 6, 7, 8, 0] (lv' := [(0, aR G 86), (3, .int v3), (4, .long v4), (6, .long (v6 ||| 0)), (8, .int v8), (9, .long v9), (11, .int v11), (12, .int (v12 + 1))]) rfl ?_
          exact ih _ _ _
        · refine s_lload 3 dX12_way_126 rfl ?_
          refine s_iload 0 dX12_way_128 rfl ?_
          refine n_invS_i dX12_way_130 ok_X12_has rfl wt_1038 wt_1039 [.long v4, .int r22] rfl rfl rfl rfl (c_M_has l G _ _ _) (fun r24 M25 => ?_)
          refine s_if_eq (tgt := 143) dX12_way_133 (by decide) (fun _ => ?_) (fun _ => ?_)
          · refine s_lconst (v := 0) dX12_way_143 (by decide) ?_
            refine s_lor dX12_way_144 ?_
            refine s_lstore (lv' := [(6, .long (v6 ||| 0)), (13, .int r22), (0, aR G 86), (3, .int v3), (4, .long v4), (8, .int v8), (9, .long v9), (11, .int v11), (12, .int v12)]) dX12_way_145 rfl rfl ?_
            refine s_iinc (v := 1) (lv' := [(12, .int (v12 + 1)), (6, .long (v6 ||| 0)), (13, .int r22), (0, aR G 86), (3, .int v3), (4, .long v4), (8, .int v8), (9, .long v9), (11, .int v11)]) 8 dX12_way_147 rfl (by decide) rfl rfl ?_
            refine s_goto (tgt := 94) dX12_way_150 (by decide) ?_
            refine s_lv [3, 4, 5, 1, 6, 7, 8, 0] (lv' := [(0, aR G 86), (3, .int v3), (4, .long v4), (6, .long (v6 ||| 0)), (8, .int v8), (9, .long v9), (11, .int v11), (12, .int (v12 + 1))]) rfl ?_
            exact ih _ _ _
          · refine s_lconst (v := 1) dX12_way_136 (by decide) ?_
            refine s_iload 0 dX12_way_137 rfl ?_
            refine s_lshl dX12_way_139 ?_
            refine s_goto (tgt := 144) dX12_way_140 (by decide) ?_
            refine s_lor dX12_way_144 ?_
            refine s_topl (fun x26 => ?_)
            refine s_lstore (lv' := [(6, .long x26), (13, .int r22), (0, aR G 86), (3, .int v3), (4, .long v4), (8, .int v8), (9, .long v9), (11, .int v11), (12, .int v12)]) dX12_way_145 rfl rfl ?_
            refine s_iinc (v := 1) (lv' := [(12, .int (v12 + 1)), (6, .long x26), (13, .int r22), (0, aR G 86), (3, .int v3), (4, .long v4), (8, .int v8), (9, .long v9), (11, .int v11)]) 8 dX12_way_147 rfl (by decide) rfl rfl ?_
            refine s_goto (tgt := 94) dX12_way_150 (by decide) ?_
            refine s_lv [3, 4, 5, 1, 6, 7, 8, 0] (lv' := [(0, aR G 86), (3, .int v3), (4, .long v4), (6, .long x26), (8, .int v8), (9, .long v9), (11, .int v11), (12, .int (v12 + 1))]) rfl ?_
            exact ih _ _ _
def f_M_way_L84 (k159 : Int64 → Nm → Option (Int32 × Nm)) (v3 : Int32) (v4 : Int64) (v8 : Int32) (v9 : Int64) : Nat → Int64 → Int32 → Nm → Option (Int32 × Nm)
  | 0, _, _, _ => none
  | f + 1, v6, v11, M => if 48 ≤ v11 then (k159 v6 M) else (f_M_way_L94 (fun y28 M27 => f_M_way_L84 k159 v3 v4 v8 v9 f y28 (v11 + 1) M27) v3 v4 v8 v9 v11 FU v6 0 M)
theorem c_M_way_L84 (l : Launch) (G : Gl) {k159 : Int64 → Nm → Option (Int32 × Nm)} (v3 : Int32) (v4 : Int64) (v8 : Int32) (v9 : Int64)  (hk159 : ∀ (v6 : Int64)  (M : Nm), NJ l G Y_X12_way (zR 4 98) eI 159 [(0, aR G 86), (3, .int v3), (4, .long v4), (6, .long v6), (8, .int v8), (9, .long v9)] [] M (k159 v6 M)) : ∀ (f : Nat) (v6 : Int64) (v11 : Int32)  (M : Nm), NJ l G Y_X12_way (zR 4 98) eI 84 [(0, aR G 86), (3, .int v3), (4, .long v4), (6, .long v6), (8, .int v8), (9, .long v9), (11, .int v11)] [] M (f_M_way_L84 k159 v3 v4 v8 v9 f v6 v11 M) := by
  intro f
  induction f with
  | zero => intro v6 v11 M; exact s_none
  | succ f ih =>
    intro v6 v11 M
    rw [f_M_way_L84]
    refine s_iload 6 dX12_way_84 rfl ?_
    refine s_bipush (v := 48) dX12_way_86 (by decide) ?_
    refine s_icmp_ge (tgt := 159) dX12_way_88 (by decide) (fun _ => ?_) (fun _ => ?_)
    · refine s_lv [0, 1, 2, 3, 4, 5] (lv' := [(0, aR G 86), (3, .int v3), (4, .long v4), (6, .long v6), (8, .int v8), (9, .long v9)]) rfl ?_
      exact hk159 _ _
    · refine s_iconst (v := 0) dX12_way_91 (by decide) ?_
      refine s_istore (lv' := [(12, .int 0), (0, aR G 86), (3, .int v3), (4, .long v4), (6, .long v6), (8, .int v8), (9, .long v9), (11, .int v11)]) dX12_way_92 rfl rfl ?_
      refine s_lv [1, 2, 3, 4, 5, 6, 7, 0] (lv' := [(0, aR G 86), (3, .int v3), (4, .long v4), (6, .long v6), (8, .int v8), (9, .long v9), (11, .int v11), (12, .int 0)]) rfl ?_
      refine c_M_way_L94 l G _ _ _ _ _ (fun y28 M27 => ?_) FU _ _ _
      refine s_iinc (v := 1) (lv' := [(11, .int (v11 + 1)), (0, aR G 86), (3, .int v3), (4, .long v4), (6, .long y28), (8, .int v8), (9, .long v9)]) 6 dX12_way_153 rfl (by decide) rfl rfl ?_
      refine s_goto (tgt := 84) dX12_way_156 (by decide) ?_
      refine s_lv [1, 2, 3, 4, 5, 6, 0] (lv' := [(0, aR G 86), (3, .int v3), (4, .long v4), (6, .long y28), (8, .int v8), (9, .long v9), (11, .int (v11 + 1))]) rfl ?_
      exact ih _ _ _
def f_M_way_L60 (k165 : Int64 → Int32 → Nm → Option (Int32 × Nm)) (v3 : Int32) (v4 : Int64) : Nat → Int64 → Int32 → Int64 → Nm → Option (Int32 × Nm)
  | 0, _, _, _, _ => none
  | f + 1, v6, v8, v9, M => if (lg_cmp v9 v6) = 0 then (k165 v6 v8 M) else (bnd (f_M_has v6 v3 M) fun r18 M19 => if r18 = 0 then (f_M_way_L84 (fun y30 M29 => f_M_way_L60 k165 v3 v4 f y30 (v8 + 1) v6 M29) v3 v4 v8 v6 FU v6 0 M19) else (k165 v6 v8 M19))
theorem c_M_way_L60 (l : Launch) (G : Gl) {k165 : Int64 → Int32 → Nm → Option (Int32 × Nm)} (v3 : Int32) (v4 : Int64)  (hk165 : ∀ (v6 : Int64) (v8 : Int32)  (M : Nm), NJ l G Y_X12_way (zR 4 98) eI 165 [(0, aR G 86), (3, .int v3), (6, .long v6), (8, .int v8)] [] M (k165 v6 v8 M)) : ∀ (f : Nat) (v6 : Int64) (v8 : Int32) (v9 : Int64)  (M : Nm), NJ l G Y_X12_way (zR 4 98) eI 60 [(0, aR G 86), (3, .int v3), (4, .long v4), (6, .long v6), (8, .int v8), (9, .long v9)] [] M (f_M_way_L60 k165 v3 v4 f v6 v8 v9 M) := by
  intro f
  induction f with
  | zero => intro v6 v8 v9 M; exact s_none
  | succ f ih =>
    intro v6 v8 v9 M
    rw [f_M_way_L60]
    refine s_lload 5 dX12_way_60 rfl ?_
    refine s_lload 3 dX12_way_62 rfl ?_
    refine s_lcmp dX12_way_64 ?_
    refine s_if_eq (tgt := 165) dX12_way_65 (by decide) (fun _ => ?_) (fun _ => ?_)
    · refine s_lv [0, 1, 3, 4] (lv' := [(0, aR G 86), (3, .int v3), (6, .long v6), (8, .int v8)]) rfl ?_
      exact hk165 _ _ _
    · refine s_lload 3 dX12_way_68 rfl ?_
      refine s_iload_n 1 dX12_way_70 rfl ?_
      refine n_invS_i dX12_way_71 ok_X12_has rfl wt_1038 wt_1039 [.long v6, .int v3] rfl rfl rfl rfl (c_M_has l G _ _ _) (fun r18 M19 => ?_)
      refine s_if_ne (tgt := 165) dX12_way_74 (by decide) (fun _ => ?_) (fun _ => ?_)
      · refine s_lload 3 dX12_way_77 rfl ?_
        refine s_lstore (lv' := [(9, .long v6), (0, aR G 86), (3, .int v3), (4, .long v4), (6, .long v6), (8, .int v8)]) dX12_way_79 rfl rfl ?_
        refine s_iconst (v := 0) dX12_way_81 (by decide) ?_
        refine s_istore (lv' := [(11, .int 0), (9, .long v6), (0, aR G 86), (3, .int v3), (4, .long v4), (6, .long v6), (8, .int v8)]) dX12_way_82 rfl rfl ?_
        refine s_lv [2, 3, 4, 5, 6, 1, 0] (lv' := [(0, aR G 86), (3, .int v3), (4, .long v4), (6, .long v6), (8, .int v8), (9, .long v6), (11, .int 0)]) rfl ?_
        refine c_M_way_L84 l G _ _ _ _ (fun y30 M29 => ?_) FU _ _ _
        refine s_iinc (v := 1) (lv' := [(8, .int (v8 + 1)), (0, aR G 86), (3, .int v3), (4, .long v4), (6, .long y30), (9, .long v6)]) 4 dX12_way_159 rfl (by decide) rfl rfl ?_
        refine s_goto (tgt := 60) dX12_way_162 (by decide) ?_
        refine s_lv [1, 2, 3, 4, 0, 5] (lv' := [(0, aR G 86), (3, .int v3), (4, .long v4), (6, .long y30), (8, .int (v8 + 1)), (9, .long v6)]) rfl ?_
        exact ih _ _ _ _
      · refine s_lv [0, 1, 3, 4] (lv' := [(0, aR G 86), (3, .int v3), (6, .long v6), (8, .int v8)]) rfl ?_
        exact hk165 _ _ _
def f_M_way (v1 : Int32) (v2 : Int32) (v3 : Int32) (M : Nm) : Option (Int32 × Nm) := bnd (f_M_isHand v1 M) fun r1 M2 => if r1 = 0 then (bnd (f_M_finds (-1000000001) M2) fun r3 M4 => some (r3, M4)) else (bnd (f_M_isCell v2 M2) fun r5 M6 => if r5 = 0 then (bnd (f_M_finds (-1000000001) M6) fun r7 M8 => some (r7, M8)) else (bnd (f_M_isCell v3 M6) fun r9 M10 => if r9 = 0 then (bnd (f_M_finds (-1000000001) M10) fun r11 M12 => some (r11, M12)) else (bnd (f_M_smudges M10) fun r13 M14 => bnd (f_M_draws v1 r13 M14) fun r15 M16 => grd (inb v1 6) <| bl ((M16.2.1 92 (ix v1)) &&& (1 <<< (v2.toInt64 &&& 63))) fun x17 => f_M_way_L60 (fun y32 y33 M31 => bnd (f_M_has y32 v3 M31) fun r34 M35 => if r34 = 0 then (bnd (f_M_finds (-1000000004) M35) fun r36 M37 => some (r36, M37)) else (some (y33, M35))) v3 (M16.2.1 92 (ix v1)) FU x17 0 0 M16)))
theorem c_M_way (l : Launch) (G : Gl) (v1 : Int32) (v2 : Int32) (v3 : Int32)  (M : Nm) : NJ l G Y_X12_way (zR 4 98) eI 0 (lv_args 0 [aR G 86, .int v1, .int v2, .int v3]) [] M (f_M_way v1 v2 v3 M) := by
  unfold f_M_way
  show NJ l G Y_X12_way (zR 4 98) eI 0 [(0, aR G 86), (1, .int v1), (2, .int v2), (3, .int v3)] [] M _
  refine s_aload_n 0 dX12_way_0 rfl ?_
  refine s_iload_n 1 dX12_way_1 rfl ?_
  refine n_invV_i dX12_way_2 ok_X12_isHand rfl wt_1080 wt_1082 ws_34 (ci := 11) rfl rfl so_86 (sh_lt so_86 rfl) [.int v1] rfl rfl rfl rfl (c_M_isHand l G _ _) (fun r1 M2 => ?_)
  refine s_if_eq (tgt := 22) dX12_way_5 (by decide) (fun _ => ?_) (fun _ => ?_)
  · refine s_aload_n 0 dX12_way_22 rfl ?_
    refine s_ldc (v := (-1000000001)) dX12_way_23 wt_991 ?_
    refine n_invV_i dX12_way_25 ok_X12_finds rfl wt_992 wt_994 ws_22 (ci := 11) rfl rfl so_86 (sh_lt so_86 rfl) [.int (-1000000001)] rfl rfl rfl rfl (c_M_finds l G _ _) (fun r3 M4 => ?_)
    exact n_iret dX12_way_28 rfl
  · refine s_iload_n 2 dX12_way_8 rfl ?_
    refine n_invS_i dX12_way_9 ok_X12_isCell rfl wt_980 wt_981 [.int v2] rfl rfl rfl rfl (c_M_isCell l G _ _) (fun r5 M6 => ?_)
    refine s_if_eq (tgt := 22) dX12_way_12 (by decide) (fun _ => ?_) (fun _ => ?_)
    · refine s_aload_n 0 dX12_way_22 rfl ?_
      refine s_ldc (v := (-1000000001)) dX12_way_23 wt_991 ?_
      refine n_invV_i dX12_way_25 ok_X12_finds rfl wt_992 wt_994 ws_22 (ci := 11) rfl rfl so_86 (sh_lt so_86 rfl) [.int (-1000000001)] rfl rfl rfl rfl (c_M_finds l G _ _) (fun r7 M8 => ?_)
      exact n_iret dX12_way_28 rfl
    · refine s_iload_n 3 dX12_way_15 rfl ?_
      refine n_invS_i dX12_way_16 ok_X12_isCell rfl wt_980 wt_981 [.int v3] rfl rfl rfl rfl (c_M_isCell l G _ _) (fun r9 M10 => ?_)
      refine s_if_ne (tgt := 29) dX12_way_19 (by decide) (fun _ => ?_) (fun _ => ?_)
      · refine s_aload_n 0 dX12_way_22 rfl ?_
        refine s_ldc (v := (-1000000001)) dX12_way_23 wt_991 ?_
        refine n_invV_i dX12_way_25 ok_X12_finds rfl wt_992 wt_994 ws_22 (ci := 11) rfl rfl so_86 (sh_lt so_86 rfl) [.int (-1000000001)] rfl rfl rfl rfl (c_M_finds l G _ _) (fun r11 M12 => ?_)
        exact n_iret dX12_way_28 rfl
      · refine s_aload_n 0 dX12_way_29 rfl ?_
        refine s_iload_n 1 dX12_way_30 rfl ?_
        refine s_aload_n 0 dX12_way_31 rfl ?_
        refine n_invV_l dX12_way_32 ok_X12_smudges rfl wt_1005 wt_1007 ws_24 (ci := 11) rfl rfl so_86 (sh_lt so_86 rfl) [] rfl rfl rfl rfl (c_M_smudges l G _) (fun r13 M14 => ?_)
        refine n_invV_u dX12_way_35 ok_X12_draws rfl wt_1009 wt_1011 ws_25 (ci := 11) rfl rfl so_86 (sh_lt so_86 rfl) [.int v1, .long r13] rfl rfl rfl rfl (c_M_draws l G _ _ _) (fun r15 M16 => ?_)
        refine s_aload_n 0 dX12_way_38 rfl ?_
        refine n_getR (x := 92) dX12_way_39 okf_M_25_11 rfl rfl so_86 (sh_lt so_86 rfl) rfl ?_
        refine s_iload_n 1 dX12_way_42 rfl ?_
        refine n_lal dX12_way_43 sa_92 ?_
        refine s_lstore (lv' := [(4, .long (M16.2.1 92 (ix v1))), (0, aR G 86), (1, .int v1), (2, .int v2), (3, .int v3)]) dX12_way_44 rfl rfl ?_
        refine s_lload 0 dX12_way_46 rfl ?_
        refine s_lconst (v := 1) dX12_way_48 (by decide) ?_
        refine s_iload_n 3 dX12_way_49 rfl ?_
        refine s_lshl dX12_way_50 ?_
        refine s_land dX12_way_51 ?_
        refine s_topl (fun x17 => ?_)
        refine s_lstore (lv' := [(6, .long x17), (4, .long (M16.2.1 92 (ix v1))), (0, aR G 86), (1, .int v1), (2, .int v2), (3, .int v3)]) dX12_way_52 rfl rfl ?_
        refine s_iconst (v := 0) dX12_way_54 (by decide) ?_
        refine s_istore (lv' := [(8, .int 0), (6, .long x17), (4, .long (M16.2.1 92 (ix v1))), (0, aR G 86), (1, .int v1), (2, .int v2), (3, .int v3)]) dX12_way_55 rfl rfl ?_
        refine s_lconst (v := 0) dX12_way_57 (by decide) ?_
        refine s_lstore (lv' := [(9, .long 0), (8, .int 0), (6, .long x17), (4, .long (M16.2.1 92 (ix v1))), (0, aR G 86), (1, .int v1), (2, .int v2), (3, .int v3)]) dX12_way_58 rfl rfl ?_
        refine s_lv [4, 7, 3, 2, 1, 0] (lv' := [(0, aR G 86), (3, .int v3), (4, .long (M16.2.1 92 (ix v1))), (6, .long x17), (8, .int 0), (9, .long 0)]) rfl ?_
        refine c_M_way_L60 l G _ _ (fun y32 y33 M31 => ?_) FU _ _ _ _
        refine s_lload 2 dX12_way_165 rfl ?_
        refine s_iload_n 1 dX12_way_167 rfl ?_
        refine n_invS_i dX12_way_168 ok_X12_has rfl wt_1038 wt_1039 [.long y32, .int v3] rfl rfl rfl rfl (c_M_has l G _ _ _) (fun r34 M35 => ?_)
        refine s_if_eq (tgt := 179) dX12_way_171 (by decide) (fun _ => ?_) (fun _ => ?_)
        · refine s_aload_n 0 dX12_way_179 rfl ?_
          refine s_ldc (v := (-1000000004)) dX12_way_180 wt_1200 ?_
          refine n_invV_i dX12_way_182 ok_X12_finds rfl wt_992 wt_994 ws_22 (ci := 11) rfl rfl so_86 (sh_lt so_86 rfl) [.int (-1000000004)] rfl rfl rfl rfl (c_M_finds l G _ _) (fun r36 M37 => ?_)
          exact n_iret dX12_way_185 rfl
        · refine s_iload 3 dX12_way_174 rfl ?_
          refine s_goto (tgt := 185) dX12_way_176 (by decide) ?_
          exact n_iret dX12_way_185 rfl
def f_M_sea_L16 (k49 : Int32 → Nm → Option (Int32 × Nm)) (v1 : Int32) : Nat → Int32 → Int32 → Nm → Option (Int32 × Nm)
  | 0, _, _, _ => none
  | f + 1, v2, v3, M => if 8 ≤ v3 then (k49 v2 M) else (bnd (f_M_ownerOf ((8 * v1) + v3) M) fun r5 M6 => if r5 < 0 then (f_M_sea_L16 k49 v1 f (v2 + 0) (v3 + 1) M6) else (f_M_sea_L16 k49 v1 f (v2 + 1) (v3 + 1) M6))
theorem c_M_sea_L16 (l : Launch) (G : Gl) {k49 : Int32 → Nm → Option (Int32 × Nm)} (v1 : Int32)  (hk49 : ∀ (v2 : Int32)  (M : Nm), NJ l G Y_X12_sea (zR 5 121) eI 49 [(0, aR G 86), (1, .int v1), (2, .int v2)] [] M (k49 v2 M)) : ∀ (f : Nat) (v2 : Int32) (v3 : Int32)  (M : Nm), NJ l G Y_X12_sea (zR 5 121) eI 16 [(0, aR G 86), (1, .int v1), (2, .int v2), (3, .int v3)] [] M (f_M_sea_L16 k49 v1 f v2 v3 M) := by
  intro f
  induction f with
  | zero => intro v2 v3 M; exact s_none
  | succ f ih =>
    intro v2 v3 M
    rw [f_M_sea_L16]
    refine s_iload_n 3 dX12_sea_16 rfl ?_
    refine s_bipush (v := 8) dX12_sea_17 (by decide) ?_
    refine s_icmp_ge (tgt := 49) dX12_sea_19 (by decide) (fun _ => ?_) (fun _ => ?_)
    · refine s_lv [0, 1, 2] (lv' := [(0, aR G 86), (1, .int v1), (2, .int v2)]) rfl ?_
      exact hk49 _ _
    · refine s_iload_n 2 dX12_sea_22 rfl ?_
      refine s_aload_n 0 dX12_sea_23 rfl ?_
      refine s_bipush (v := 8) dX12_sea_24 (by decide) ?_
      refine s_iload_n 1 dX12_sea_26 rfl ?_
      refine s_imul dX12_sea_27 ?_
      refine s_iload_n 3 dX12_sea_28 rfl ?_
      refine s_iadd dX12_sea_29 ?_
      refine n_invV_i dX12_sea_30 ok_X12_ownerOf rfl wt_1042 wt_1044 ws_29 (ci := 11) rfl rfl so_86 (sh_lt so_86 rfl) [.int ((8 * v1) + v3)] rfl rfl rfl rfl (c_M_ownerOf l G _ _) (fun r5 M6 => ?_)
      refine s_if_lt (tgt := 40) dX12_sea_33 (by decide) (fun _ => ?_) (fun _ => ?_)
      · refine s_iconst (v := 0) dX12_sea_40 (by decide) ?_
        refine s_iadd dX12_sea_41 ?_
        refine s_istore_n (i := 2) (lv' := [(2, .int (v2 + 0)), (0, aR G 86), (1, .int v1), (3, .int v3)]) dX12_sea_42 rfl rfl rfl ?_
        refine s_iinc (v := 1) (lv' := [(3, .int (v3 + 1)), (2, .int (v2 + 0)), (0, aR G 86), (1, .int v1)]) 3 dX12_sea_43 rfl (by decide) rfl rfl ?_
        refine s_goto (tgt := 16) dX12_sea_46 (by decide) ?_
        refine s_lv [2, 3, 1, 0] (lv' := [(0, aR G 86), (1, .int v1), (2, .int (v2 + 0)), (3, .int (v3 + 1))]) rfl ?_
        exact ih _ _ _
      · refine s_iconst (v := 1) dX12_sea_36 (by decide) ?_
        refine s_goto (tgt := 41) dX12_sea_37 (by decide) ?_
        refine s_iadd dX12_sea_41 ?_
        refine s_istore_n (i := 2) (lv' := [(2, .int (v2 + 1)), (0, aR G 86), (1, .int v1), (3, .int v3)]) dX12_sea_42 rfl rfl rfl ?_
        refine s_iinc (v := 1) (lv' := [(3, .int (v3 + 1)), (2, .int (v2 + 1)), (0, aR G 86), (1, .int v1)]) 3 dX12_sea_43 rfl (by decide) rfl rfl ?_
        refine s_goto (tgt := 16) dX12_sea_46 (by decide) ?_
        refine s_lv [2, 3, 1, 0] (lv' := [(0, aR G 86), (1, .int v1), (2, .int (v2 + 1)), (3, .int (v3 + 1))]) rfl ?_
        exact ih _ _ _
def f_M_sea_L6   : Nat → Int32 → Nm → Option (Int32 × Nm)
  | 0, _, _ => none
  | f + 1, v1, M => if 6 ≤ v1 then (bnd (f_M_finds (-1000000004) M) fun r3 M4 => some (r3, M4)) else (f_M_sea_L16 (fun y8 M7 => if y8 = 0 then (some (v1, M7)) else (f_M_sea_L6 f (v1 + 1) M7)) v1 FU 0 0 M)
theorem c_M_sea_L6 (l : Launch) (G : Gl)     : ∀ (f : Nat) (v1 : Int32)  (M : Nm), NJ l G Y_X12_sea (zR 5 121) eI 6 [(0, aR G 86), (1, .int v1)] [] M (f_M_sea_L6 f v1 M) := by
  intro f
  induction f with
  | zero => intro v1 M; exact s_none
  | succ f ih =>
    intro v1 M
    rw [f_M_sea_L6]
    refine s_iload_n 1 dX12_sea_6 rfl ?_
    refine s_bipush (v := 6) dX12_sea_7 (by decide) ?_
    refine s_icmp_ge (tgt := 61) dX12_sea_9 (by decide) (fun _ => ?_) (fun _ => ?_)
    · refine s_aload_n 0 dX12_sea_61 rfl ?_
      refine s_ldc (v := (-1000000004)) dX12_sea_62 wt_1200 ?_
      refine n_invV_i dX12_sea_64 ok_X12_finds rfl wt_992 wt_994 ws_22 (ci := 11) rfl rfl so_86 (sh_lt so_86 rfl) [.int (-1000000004)] rfl rfl rfl rfl (c_M_finds l G _ _) (fun r3 M4 => ?_)
      exact n_iret dX12_sea_67 rfl
    · refine s_iconst (v := 0) dX12_sea_12 (by decide) ?_
      refine s_istore_n (i := 2) (lv' := [(2, .int 0), (0, aR G 86), (1, .int v1)]) dX12_sea_13 rfl rfl rfl ?_
      refine s_iconst (v := 0) dX12_sea_14 (by decide) ?_
      refine s_istore_n (i := 3) (lv' := [(3, .int 0), (2, .int 0), (0, aR G 86), (1, .int v1)]) dX12_sea_15 rfl rfl rfl ?_
      refine s_lv [2, 3, 1, 0] (lv' := [(0, aR G 86), (1, .int v1), (2, .int 0), (3, .int 0)]) rfl ?_
      refine c_M_sea_L16 l G _ (fun y8 M7 => ?_) FU _ _ _
      refine s_iload_n 2 dX12_sea_49 rfl ?_
      refine s_if_ne (tgt := 55) dX12_sea_50 (by decide) (fun _ => ?_) (fun _ => ?_)
      · refine s_iload_n 1 dX12_sea_53 rfl ?_
        exact n_iret dX12_sea_54 rfl
      · refine s_iinc (v := 1) (lv' := [(1, .int (v1 + 1)), (0, aR G 86), (2, .int y8)]) 1 dX12_sea_55 rfl (by decide) rfl rfl ?_
        refine s_goto (tgt := 6) dX12_sea_58 (by decide) ?_
        refine s_lv [1, 0] (lv' := [(0, aR G 86), (1, .int (v1 + 1))]) rfl ?_
        exact ih _ _
def f_M_sea  (M : Nm) : Option (Int32 × Nm) := bnd (f_M_writeAll M) fun r1 M2 => f_M_sea_L6 FU 0 M2
theorem c_M_sea (l : Launch) (G : Gl)   (M : Nm) : NJ l G Y_X12_sea (zR 5 121) eI 0 (lv_args 0 [aR G 86]) [] M (f_M_sea  M) := by
  unfold f_M_sea
  show NJ l G Y_X12_sea (zR 5 121) eI 0 [(0, aR G 86)] [] M _
  refine s_aload_n 0 dX12_sea_0 rfl ?_
  refine n_invV_u dX12_sea_1 ok_X12_writeAll rfl wt_1001 wt_1003 ws_23 (ci := 11) rfl rfl so_86 (sh_lt so_86 rfl) [] rfl rfl rfl rfl (c_M_writeAll l G _) (fun r1 M2 => ?_)
  refine s_iconst (v := 0) dX12_sea_4 (by decide) ?_
  refine s_istore_n (i := 1) (lv' := [(1, .int 0), (0, aR G 86)]) dX12_sea_5 rfl rfl rfl ?_
  refine s_lv [1, 0] (lv' := [(0, aR G 86), (1, .int 0)]) rfl ?_
  refine c_M_sea_L6 l G FU _ _
def f_M_feed_L41  (v1 : Int32) : Nat → Int32 → Nm → Option (Int32 × Nm)
  | 0, _, _ => none
  | f + 1, v3, M => if v3 < 0 then (some (M.1 86 11, M)) else (grd (inb (M.1 86 11) 120) <| bl (mI M 96 (ix (M.1 86 11)) ((v1 >>> ((8 * v3) &&& 31)) &&& 255)) fun M5 => bl (mI M5 86 11 ((M5.1 86 11) + 1)) fun M6 => f_M_feed_L41 v1 f (v3 + (-1)) M6)
theorem c_M_feed_L41 (l : Launch) (G : Gl)  (v1 : Int32)   : ∀ (f : Nat) (v3 : Int32)  (M : Nm), NJ l G Y_X12_feed (zR 1 25) eI 41 [(0, aR G 86), (1, .int v1), (3, .int v3)] [] M (f_M_feed_L41 v1 f v3 M) := by
  intro f
  induction f with
  | zero => intro v3 M; exact s_none
  | succ f ih =>
    intro v3 M
    rw [f_M_feed_L41]
    refine s_iload_n 2 dX12_feed_41 rfl ?_
    refine s_if_lt (tgt := 80) dX12_feed_42 (by decide) (fun _ => ?_) (fun _ => ?_)
    · refine s_aload_n 0 dX12_feed_80 rfl ?_
      refine n_getI dX12_feed_81 okf_M_212_11 rfl rfl so_86 (sh_lt so_86 rfl) ?_
      exact n_iret dX12_feed_84 rfl
    · refine s_aload_n 0 dX12_feed_45 rfl ?_
      refine n_getR (x := 96) dX12_feed_46 okf_M_38_11 rfl rfl so_86 (sh_lt so_86 rfl) rfl ?_
      refine s_aload_n 0 dX12_feed_49 rfl ?_
      refine n_getI dX12_feed_50 okf_M_212_11 rfl rfl so_86 (sh_lt so_86 rfl) ?_
      refine s_iload_n 1 dX12_feed_53 rfl ?_
      refine s_bipush (v := 8) dX12_feed_54 (by decide) ?_
      refine s_iload_n 2 dX12_feed_56 rfl ?_
      refine s_imul dX12_feed_57 ?_
      refine s_ishr dX12_feed_58 ?_
      refine s_sipush (v := 255) dX12_feed_59 (by decide) ?_
      refine s_iand dX12_feed_62 ?_
      refine n_ias dX12_feed_63 sa_96 ?_
      refine s_topM (fun M5 => ?_)
      refine s_aload_n 0 dX12_feed_64 rfl ?_
      refine s_dup dX12_feed_65 rfl ?_
      refine n_getI dX12_feed_66 okf_M_212_11 rfl rfl so_86 (sh_lt so_86 rfl) ?_
      refine s_iconst (v := 1) dX12_feed_69 (by decide) ?_
      refine s_iadd dX12_feed_70 ?_
      refine n_putI dX12_feed_71 okp_M_212_11 rfl rfl so_86 (sh_lt so_86 rfl) ?_
      refine s_topM (fun M6 => ?_)
      refine s_iinc (v := (-1)) (lv' := [(3, .int (v3 + (-1))), (0, aR G 86), (1, .int v1)]) 2 dX12_feed_74 rfl (by decide) rfl rfl ?_
      refine s_goto (tgt := 41) dX12_feed_77 (by decide) ?_
      refine s_lv [1, 2, 0] (lv' := [(0, aR G 86), (1, .int v1), (3, .int (v3 + (-1)))]) rfl ?_
      exact ih _ _
def f_M_feed (v1 : Int32) (v2 : Int32) (M : Nm) : Option (Int32 × Nm) := bnd (f_M_in v2.toInt64 1 4 M) fun r1 M2 => if r1 = 0 then (bnd (f_M_finds (-1000000001) M2) fun r3 M4 => some (r3, M4)) else (if ((M2.1 86 11) + v2) ≤ 120 then (f_M_feed_L41 v1 FU (v2 - 1) M2) else (bnd (f_M_finds (-1000000002) M2) fun r7 M8 => some (r7, M8)))
theorem c_M_feed (l : Launch) (G : Gl) (v1 : Int32) (v2 : Int32)  (M : Nm) : NJ l G Y_X12_feed (zR 1 25) eI 0 (lv_args 0 [aR G 86, .int v1, .int v2]) [] M (f_M_feed v1 v2 M) := by
  unfold f_M_feed
  show NJ l G Y_X12_feed (zR 1 25) eI 0 [(0, aR G 86), (1, .int v1), (2, .int v2)] [] M _
  refine s_iload_n 2 dX12_feed_0 rfl ?_
  refine s_i2l dX12_feed_1 ?_
  refine s_lconst (v := 1) dX12_feed_2 (by decide) ?_
  refine s_ldc2 (v := 4) dX12_feed_3 wt_1249 ?_
  refine n_invS_i dX12_feed_6 ok_X12_in rfl wt_984 wt_985 [.long v2.toInt64, .long 1, .long 4] rfl rfl rfl rfl (c_M_in l G _ _ _ _) (fun r1 M2 => ?_)
  refine s_if_ne (tgt := 19) dX12_feed_9 (by decide) (fun _ => ?_) (fun _ => ?_)
  · refine s_aload_n 0 dX12_feed_12 rfl ?_
    refine s_ldc (v := (-1000000001)) dX12_feed_13 wt_991 ?_
    refine n_invV_i dX12_feed_15 ok_X12_finds rfl wt_992 wt_994 ws_22 (ci := 11) rfl rfl so_86 (sh_lt so_86 rfl) [.int (-1000000001)] rfl rfl rfl rfl (c_M_finds l G _ _) (fun r3 M4 => ?_)
    exact n_iret dX12_feed_18 rfl
  · refine s_aload_n 0 dX12_feed_19 rfl ?_
    refine n_getI dX12_feed_20 okf_M_212_11 rfl rfl so_86 (sh_lt so_86 rfl) ?_
    refine s_iload_n 2 dX12_feed_23 rfl ?_
    refine s_iadd dX12_feed_24 ?_
    refine s_bipush (v := 120) dX12_feed_25 (by decide) ?_
    refine s_icmp_le (tgt := 37) dX12_feed_27 (by decide) (fun _ => ?_) (fun _ => ?_)
    · refine s_iload_n 2 dX12_feed_37 rfl ?_
      refine s_iconst (v := 1) dX12_feed_38 (by decide) ?_
      refine s_isub dX12_feed_39 ?_
      refine s_istore_n (i := 3) (lv' := [(3, .int (v2 - 1)), (0, aR G 86), (1, .int v1), (2, .int v2)]) dX12_feed_40 rfl rfl rfl ?_
      refine s_lv [1, 2, 0] (lv' := [(0, aR G 86), (1, .int v1), (3, .int (v2 - 1))]) rfl ?_
      refine c_M_feed_L41 l G _ FU _ _
    · refine s_aload_n 0 dX12_feed_30 rfl ?_
      refine s_ldc (v := (-1000000002)) dX12_feed_31 wt_1071 ?_
      refine n_invV_i dX12_feed_33 ok_X12_finds rfl wt_992 wt_994 ws_22 (ci := 11) rfl rfl so_86 (sh_lt so_86 rfl) [.int (-1000000002)] rfl rfl rfl rfl (c_M_finds l G _ _) (fun r7 M8 => ?_)
      exact n_iret dX12_feed_36 rfl
def f_M_wipe  (M : Nm) : Option (Int32 × Nm) := bl (mI M 86 11 0) fun M1 => some (M.1 86 11, M1)
theorem c_M_wipe (l : Launch) (G : Gl)   (M : Nm) : NJ l G Y_X12_wipe (zR 0 0) eI 0 (lv_args 0 [aR G 86]) [] M (f_M_wipe  M) := by
  unfold f_M_wipe
  show NJ l G Y_X12_wipe (zR 0 0) eI 0 [(0, aR G 86)] [] M _
  refine s_aload_n 0 dX12_wipe_0 rfl ?_
  refine n_getI dX12_wipe_1 okf_M_212_11 rfl rfl so_86 (sh_lt so_86 rfl) ?_
  refine s_istore_n (i := 1) (lv' := [(1, .int (M.1 86 11)), (0, aR G 86)]) dX12_wipe_4 rfl rfl rfl ?_
  refine s_aload_n 1 dX12_wipe_5 rfl ?_
  refine s_iconst (v := 0) dX12_wipe_6 (by decide) ?_
  refine n_putI dX12_wipe_7 okp_M_212_11 rfl rfl so_86 (sh_lt so_86 rfl) ?_
  refine s_topM (fun M1 => ?_)
  refine s_iload_n 0 dX12_wipe_10 rfl ?_
  exact n_iret dX12_wipe_11 rfl
def f_M_byteAt (v1 : Int32) (M : Nm) : Option (Int32 × Nm) := if (M.1 86 11) ≤ v1 then (some ((-1), M)) else (grd (inb v1 120) <| some (M.1 96 (ix v1), M))
theorem c_M_byteAt (l : Launch) (G : Gl) (v1 : Int32)  (M : Nm) : NJ l G Y_X12_byteAt (zR 0 0) eI 0 (lv_args 0 [aR G 86, .int v1]) [] M (f_M_byteAt v1 M) := by
  unfold f_M_byteAt
  show NJ l G Y_X12_byteAt (zR 0 0) eI 0 [(0, aR G 86), (1, .int v1)] [] M _
  refine s_iload_n 1 dX12_byteAt_0 rfl ?_
  refine s_aload_n 0 dX12_byteAt_1 rfl ?_
  refine n_getI dX12_byteAt_2 okf_M_212_11 rfl rfl so_86 (sh_lt so_86 rfl) ?_
  refine s_icmp_ge (tgt := 17) dX12_byteAt_5 (by decide) (fun _ => ?_) (fun _ => ?_)
  · refine s_iconst (v := (-1)) dX12_byteAt_17 (by decide) ?_
    exact n_iret dX12_byteAt_18 rfl
  · refine s_aload_n 0 dX12_byteAt_8 rfl ?_
    refine n_getR (x := 96) dX12_byteAt_9 okf_M_38_11 rfl rfl so_86 (sh_lt so_86 rfl) rfl ?_
    refine s_iload_n 1 dX12_byteAt_12 rfl ?_
    refine n_ial dX12_byteAt_13 sa_96 ?_
    refine s_goto (tgt := 18) dX12_byteAt_14 (by decide) ?_
    exact n_iret dX12_byteAt_18 rfl
def f_M_isLetter (v0 : Int32) (M : Nm) : Option (Int32 × Nm) := bnd (f_M_in v0.toInt64 97 122 M) fun r1 M2 => grd (decide (r1 = 0) || decide (r1 = 1)) (some (r1, M2))
theorem c_M_isLetter (l : Launch) (G : Gl) (v0 : Int32)  (M : Nm) : NJ l G Y_X12_isLetter (zR 1 25) eI 0 (lv_args 0 [.int v0]) [] M (f_M_isLetter v0 M) := by
  unfold f_M_isLetter
  show NJ l G Y_X12_isLetter (zR 1 25) eI 0 [(0, .int v0)] [] M _
  refine s_iload_n 0 dX12_isLetter_0 rfl ?_
  refine s_i2l dX12_isLetter_1 ?_
  refine s_ldc2 (v := 97) dX12_isLetter_2 wt_1273 ?_
  refine s_ldc2 (v := 122) dX12_isLetter_5 wt_1274 ?_
  refine n_invS_i dX12_isLetter_8 ok_X12_in rfl wt_984 wt_985 [.long v0.toInt64, .long 97, .long 122] rfl rfl rfl rfl (c_M_in l G _ _ _ _) (fun r1 M2 => ?_)
  exact n_zretB dX12_isLetter_11 rfl
def f_M_isDigit (v0 : Int32) (M : Nm) : Option (Int32 × Nm) := bnd (f_M_in v0.toInt64 48 57 M) fun r1 M2 => grd (decide (r1 = 0) || decide (r1 = 1)) (some (r1, M2))
theorem c_M_isDigit (l : Launch) (G : Gl) (v0 : Int32)  (M : Nm) : NJ l G Y_X12_isDigit (zR 1 25) eI 0 (lv_args 0 [.int v0]) [] M (f_M_isDigit v0 M) := by
  unfold f_M_isDigit
  show NJ l G Y_X12_isDigit (zR 1 25) eI 0 [(0, .int v0)] [] M _
  refine s_iload_n 0 dX12_isDigit_0 rfl ?_
  refine s_i2l dX12_isDigit_1 ?_
  refine s_ldc2 (v := 48) dX12_isDigit_2 wt_1278 ?_
  refine s_ldc2 (v := 57) dX12_isDigit_5 wt_1279 ?_
  refine n_invS_i dX12_isDigit_8 ok_X12_in rfl wt_984 wt_985 [.long v0.toInt64, .long 48, .long 57] rfl rfl rfl rfl (c_M_in l G _ _ _ _) (fun r1 M2 => ?_)
  exact n_zretB dX12_isDigit_11 rfl
def f_M_token_L8 (k34 : Nm → Option (Unit × Nm))  : Nat → Nm → Option (Unit × Nm)
  | 0, _ => none
  | f + 1, M => bnd (f_M_byteAt (M.1 86 12) M) fun r2 M3 => if r2 = 32 then (bl (mI M3 86 12 ((M3.1 86 12) + 1)) fun M4 => f_M_token_L8 k34 f M4) else (k34 M3)
theorem c_M_token_L8 (l : Launch) (G : Gl) {k34 : Nm → Option (Unit × Nm)}   (hk34 : ∀   (M : Nm), NJ l G Y_X12_token (zR 2 45) eU 34 [(0, aR G 86)] [] M (k34 M)) : ∀ (f : Nat)   (M : Nm), NJ l G Y_X12_token (zR 2 45) eU 8 [(0, aR G 86)] [] M (f_M_token_L8 k34 f M) := by
  intro f
  induction f with
  | zero => intro M; exact s_none
  | succ f ih =>
    intro M
    rw [f_M_token_L8]
    refine s_aload_n 0 dX12_token_8 rfl ?_
    refine s_aload_n 0 dX12_token_9 rfl ?_
    refine n_getI dX12_token_10 okf_M_227_11 rfl rfl so_86 (sh_lt so_86 rfl) ?_
    refine n_invV_i dX12_token_13 ok_X12_byteAt rfl wt_1266 wt_1268 ws_51 (ci := 11) rfl rfl so_86 (sh_lt so_86 rfl) [.int (M.1 86 12)] rfl rfl rfl rfl (c_M_byteAt l G _ _) (fun r2 M3 => ?_)
    refine s_bipush (v := 32) dX12_token_16 (by decide) ?_
    refine s_icmp_ne (tgt := 34) dX12_token_18 (by decide) (fun _ => ?_) (fun _ => ?_)
    · refine s_aload_n 0 dX12_token_21 rfl ?_
      refine s_dup dX12_token_22 rfl ?_
      refine n_getI dX12_token_23 okf_M_227_11 rfl rfl so_86 (sh_lt so_86 rfl) ?_
      refine s_iconst (v := 1) dX12_token_26 (by decide) ?_
      refine s_iadd dX12_token_27 ?_
      refine n_putI dX12_token_28 okp_M_227_11 rfl rfl so_86 (sh_lt so_86 rfl) ?_
      refine s_topM (fun M4 => ?_)
      refine s_goto (tgt := 8) dX12_token_31 (by decide) ?_
      exact ih _
    · exact hk34 _
def f_M_token_L86 (k135 : Nm → Option (Unit × Nm)) (v1 : Int32) (v2 : Int32) : Nat → Nm → Option (Unit × Nm)
  | 0, _ => none
  | f + 1, M => if v1 = 0 then (if v2 = 0 then (k135 M) else (bnd (f_M_byteAt (M.1 86 13) M) fun r15 M16 => bnd (f_M_isDigit r15 M16) fun r17 M18 => if r17 = 0 then (k135 M18) else (bl (mI M18 86 13 ((M18.1 86 13) + 1)) fun M19 => f_M_token_L86 k135 v1 v2 f M19))) else (bnd (f_M_byteAt (M.1 86 13) M) fun r20 M21 => bnd (f_M_isLetter r20 M21) fun r22 M23 => if r22 = 0 then (if v2 = 0 then (k135 M23) else (bnd (f_M_byteAt (M23.1 86 13) M23) fun r24 M25 => bnd (f_M_isDigit r24 M25) fun r26 M27 => if r26 = 0 then (k135 M27) else (bl (mI M27 86 13 ((M27.1 86 13) + 1)) fun M28 => f_M_token_L86 k135 v1 v2 f M28))) else (bl (mI M23 86 13 ((M23.1 86 13) + 1)) fun M29 => f_M_token_L86 k135 v1 v2 f M29))
theorem c_M_token_L86 (l : Launch) (G : Gl) {k135 : Nm → Option (Unit × Nm)} (v1 : Int32) (v2 : Int32)  (hk135 : ∀   (M : Nm), NJ l G Y_X12_token (zR 2 45) eU 135 [] [] M (k135 M)) : ∀ (f : Nat)   (M : Nm), NJ l G Y_X12_token (zR 2 45) eU 86 [(0, aR G 86), (1, .int v1), (2, .int v2)] [] M (f_M_token_L86 k135 v1 v2 f M) := by
  intro f
  induction f with
  | zero => intro M; exact s_none
  | succ f ih =>
    intro M
    rw [f_M_token_L86]
    refine s_iload_n 1 dX12_token_86 rfl ?_
    refine s_if_eq (tgt := 104) dX12_token_87 (by decide) (fun _ => ?_) (fun _ => ?_)
    · refine s_iload_n 2 dX12_token_104 rfl ?_
      refine s_if_eq (tgt := 135) dX12_token_105 (by decide) (fun _ => ?_) (fun _ => ?_)
      · refine s_lv [] (lv' := []) rfl ?_
        exact hk135 _
      · refine s_aload_n 0 dX12_token_108 rfl ?_
        refine s_aload_n 0 dX12_token_109 rfl ?_
        refine n_getI dX12_token_110 okf_M_224_11 rfl rfl so_86 (sh_lt so_86 rfl) ?_
        refine n_invV_i dX12_token_113 ok_X12_byteAt rfl wt_1266 wt_1268 ws_51 (ci := 11) rfl rfl so_86 (sh_lt so_86 rfl) [.int (M.1 86 13)] rfl rfl rfl rfl (c_M_byteAt l G _ _) (fun r15 M16 => ?_)
        refine n_invS_i dX12_token_116 ok_X12_isDigit rfl wt_1275 wt_1276 [.int r15] rfl rfl rfl rfl (c_M_isDigit l G _ _) (fun r17 M18 => ?_)
        refine s_if_eq (tgt := 135) dX12_token_119 (by decide) (fun _ => ?_) (fun _ => ?_)
        · refine s_lv [] (lv' := []) rfl ?_
          exact hk135 _
        · refine s_aload_n 0 dX12_token_122 rfl ?_
          refine s_dup dX12_token_123 rfl ?_
          refine n_getI dX12_token_124 okf_M_224_11 rfl rfl so_86 (sh_lt so_86 rfl) ?_
          refine s_iconst (v := 1) dX12_token_127 (by decide) ?_
          refine s_iadd dX12_token_128 ?_
          refine n_putI dX12_token_129 okp_M_224_11 rfl rfl so_86 (sh_lt so_86 rfl) ?_
          refine s_topM (fun M19 => ?_)
          refine s_goto (tgt := 86) dX12_token_132 (by decide) ?_
          exact ih _
    · refine s_aload_n 0 dX12_token_90 rfl ?_
      refine s_aload_n 0 dX12_token_91 rfl ?_
      refine n_getI dX12_token_92 okf_M_224_11 rfl rfl so_86 (sh_lt so_86 rfl) ?_
      refine n_invV_i dX12_token_95 ok_X12_byteAt rfl wt_1266 wt_1268 ws_51 (ci := 11) rfl rfl so_86 (sh_lt so_86 rfl) [.int (M.1 86 13)] rfl rfl rfl rfl (c_M_byteAt l G _ _) (fun r20 M21 => ?_)
      refine n_invS_i dX12_token_98 ok_X12_isLetter rfl wt_1270 wt_1271 [.int r20] rfl rfl rfl rfl (c_M_isLetter l G _ _) (fun r22 M23 => ?_)
      refine s_if_ne (tgt := 122) dX12_token_101 (by decide) (fun _ => ?_) (fun _ => ?_)
      · refine s_iload_n 2 dX12_token_104 rfl ?_
        refine s_if_eq (tgt := 135) dX12_token_105 (by decide) (fun _ => ?_) (fun _ => ?_)
        · refine s_lv [] (lv' := []) rfl ?_
          exact hk135 _
        · refine s_aload_n 0 dX12_token_108 rfl ?_
          refine s_aload_n 0 dX12_token_109 rfl ?_
          refine n_getI dX12_token_110 okf_M_224_11 rfl rfl so_86 (sh_lt so_86 rfl) ?_
          refine n_invV_i dX12_token_113 ok_X12_byteAt rfl wt_1266 wt_1268 ws_51 (ci := 11) rfl rfl so_86 (sh_lt so_86 rfl) [.int (M23.1 86 13)] rfl rfl rfl rfl (c_M_byteAt l G _ _) (fun r24 M25 => ?_)
          refine n_invS_i dX12_token_116 ok_X12_isDigit rfl wt_1275 wt_1276 [.int r24] rfl rfl rfl rfl (c_M_isDigit l G _ _) (fun r26 M27 => ?_)
          refine s_if_eq (tgt := 135) dX12_token_119 (by decide) (fun _ => ?_) (fun _ => ?_)
          · refine s_lv [] (lv' := []) rfl ?_
            exact hk135 _
          · refine s_aload_n 0 dX12_token_122 rfl ?_
            refine s_dup dX12_token_123 rfl ?_
            refine n_getI dX12_token_124 okf_M_224_11 rfl rfl so_86 (sh_lt so_86 rfl) ?_
            refine s_iconst (v := 1) dX12_token_127 (by decide) ?_
            refine s_iadd dX12_token_128 ?_
            refine n_putI dX12_token_129 okp_M_224_11 rfl rfl so_86 (sh_lt so_86 rfl) ?_
            refine s_topM (fun M28 => ?_)
            refine s_goto (tgt := 86) dX12_token_132 (by decide) ?_
            exact ih _
      · refine s_aload_n 0 dX12_token_122 rfl ?_
        refine s_dup dX12_token_123 rfl ?_
        refine n_getI dX12_token_124 okf_M_224_11 rfl rfl so_86 (sh_lt so_86 rfl) ?_
        refine s_iconst (v := 1) dX12_token_127 (by decide) ?_
        refine s_iadd dX12_token_128 ?_
        refine n_putI dX12_token_129 okp_M_224_11 rfl rfl so_86 (sh_lt so_86 rfl) ?_
        refine s_topM (fun M29 => ?_)
        refine s_goto (tgt := 86) dX12_token_132 (by decide) ?_
        exact ih _
def f_M_token  (M : Nm) : Option (Unit × Nm) := bl (mI M 86 12 (M.1 86 13)) fun M1 => f_M_token_L8 (fun M5 => bnd (f_M_byteAt (M5.1 86 12) M5) fun r6 M7 => bnd (f_M_isLetter r6 M7) fun r8 M9 => bnd (f_M_byteAt (M9.1 86 12) M9) fun r10 M11 => bnd (f_M_isDigit r10 M11) fun r12 M13 => if (M13.1 86 11) ≤ (M13.1 86 12) then (bl (mI M13 86 13 (M13.1 86 12)) fun M14 => f_M_token_L86 (fun M30 => some ((), M30)) r8 r12 FU M14) else (bl (mI M13 86 13 ((M13.1 86 12) + 1)) fun M31 => f_M_token_L86 (fun M32 => some ((), M32)) r8 r12 FU M31)) FU M1
theorem c_M_token (l : Launch) (G : Gl)   (M : Nm) : NJ l G Y_X12_token (zR 2 45) eU 0 (lv_args 0 [aR G 86]) [] M (f_M_token  M) := by
  unfold f_M_token
  show NJ l G Y_X12_token (zR 2 45) eU 0 [(0, aR G 86)] [] M _
  refine s_aload_n 0 dX12_token_0 rfl ?_
  refine s_aload_n 0 dX12_token_1 rfl ?_
  refine n_getI dX12_token_2 okf_M_224_11 rfl rfl so_86 (sh_lt so_86 rfl) ?_
  refine n_putI dX12_token_5 okp_M_227_11 rfl rfl so_86 (sh_lt so_86 rfl) ?_
  refine s_topM (fun M1 => ?_)
  refine c_M_token_L8 l G (fun M5 => ?_) FU _
  refine s_aload_n 0 dX12_token_34 rfl ?_
  refine s_aload_n 0 dX12_token_35 rfl ?_
  refine n_getI dX12_token_36 okf_M_227_11 rfl rfl so_86 (sh_lt so_86 rfl) ?_
  refine n_invV_i dX12_token_39 ok_X12_byteAt rfl wt_1266 wt_1268 ws_51 (ci := 11) rfl rfl so_86 (sh_lt so_86 rfl) [.int (M5.1 86 12)] rfl rfl rfl rfl (c_M_byteAt l G _ _) (fun r6 M7 => ?_)
  refine n_invS_i dX12_token_42 ok_X12_isLetter rfl wt_1270 wt_1271 [.int r6] rfl rfl rfl rfl (c_M_isLetter l G _ _) (fun r8 M9 => ?_)
  refine s_istore_n (i := 1) (lv' := [(1, .int r8), (0, aR G 86)]) dX12_token_45 rfl rfl rfl ?_
  refine s_aload_n 1 dX12_token_46 rfl ?_
  refine s_aload_n 1 dX12_token_47 rfl ?_
  refine n_getI dX12_token_48 okf_M_227_11 rfl rfl so_86 (sh_lt so_86 rfl) ?_
  refine n_invV_i dX12_token_51 ok_X12_byteAt rfl wt_1266 wt_1268 ws_51 (ci := 11) rfl rfl so_86 (sh_lt so_86 rfl) [.int (M9.1 86 12)] rfl rfl rfl rfl (c_M_byteAt l G _ _) (fun r10 M11 => ?_)
  refine n_invS_i dX12_token_54 ok_X12_isDigit rfl wt_1275 wt_1276 [.int r10] rfl rfl rfl rfl (c_M_isDigit l G _ _) (fun r12 M13 => ?_)
  refine s_istore_n (i := 2) (lv' := [(2, .int r12), (1, .int r8), (0, aR G 86)]) dX12_token_57 rfl rfl rfl ?_
  refine s_aload_n 2 dX12_token_58 rfl ?_
  refine s_aload_n 2 dX12_token_59 rfl ?_
  refine n_getI dX12_token_60 okf_M_227_11 rfl rfl so_86 (sh_lt so_86 rfl) ?_
  refine s_aload_n 2 dX12_token_63 rfl ?_
  refine n_getI dX12_token_64 okf_M_212_11 rfl rfl so_86 (sh_lt so_86 rfl) ?_
  refine s_icmp_ge (tgt := 79) dX12_token_67 (by decide) (fun _ => ?_) (fun _ => ?_)
  · refine s_aload_n 2 dX12_token_79 rfl ?_
    refine n_getI dX12_token_80 okf_M_227_11 rfl rfl so_86 (sh_lt so_86 rfl) ?_
    refine n_putI dX12_token_83 okp_M_224_11 rfl rfl so_86 (sh_lt so_86 rfl) ?_
    refine s_topM (fun M14 => ?_)
    refine s_lv [2, 1, 0] (lv' := [(0, aR G 86), (1, .int r8), (2, .int r12)]) rfl ?_
    refine c_M_token_L86 l G _ _ (fun M30 => ?_) FU _
    exact n_vret dX12_token_135 rfl
  · refine s_aload_n 2 dX12_token_70 rfl ?_
    refine n_getI dX12_token_71 okf_M_227_11 rfl rfl so_86 (sh_lt so_86 rfl) ?_
    refine s_iconst (v := 1) dX12_token_74 (by decide) ?_
    refine s_iadd dX12_token_75 ?_
    refine s_goto (tgt := 83) dX12_token_76 (by decide) ?_
    refine n_putI dX12_token_83 okp_M_224_11 rfl rfl so_86 (sh_lt so_86 rfl) ?_
    refine s_topM (fun M31 => ?_)
    refine s_lv [2, 1, 0] (lv' := [(0, aR G 86), (1, .int r8), (2, .int r12)]) rfl ?_
    refine c_M_token_L86 l G _ _ (fun M32 => ?_) FU _
    exact n_vret dX12_token_135 rfl
def f_M_must (v1 : Int32) (M : Nm) : Option (Unit × Nm) := if (M.1 86 15) = 0 then (if v1 = 0 then (grd (decide ((1 : Int32) = 0) || decide ((1 : Int32) = 1)) <| bl (mI M 86 15 1) fun M1 => if (M1.1 86 15) = 0 then (bnd (f_M_token M1) fun r2 M3 => some ((), M3)) else (some ((), M1))) else (grd (decide ((0 : Int32) = 0) || decide ((0 : Int32) = 1)) <| bl (mI M 86 15 0) fun M4 => if (M4.1 86 15) = 0 then (bnd (f_M_token M4) fun r5 M6 => some ((), M6)) else (some ((), M4)))) else (grd (decide ((1 : Int32) = 0) || decide ((1 : Int32) = 1)) <| bl (mI M 86 15 1) fun M7 => if (M7.1 86 15) = 0 then (bnd (f_M_token M7) fun r8 M9 => some ((), M9)) else (some ((), M7)))
theorem c_M_must (l : Launch) (G : Gl) (v1 : Int32)  (M : Nm) : NJ l G Y_X12_must (zR 3 67) eU 0 (lv_args 0 [aR G 86, .int v1]) [] M (f_M_must v1 M) := by
  unfold f_M_must
  show NJ l G Y_X12_must (zR 3 67) eU 0 [(0, aR G 86), (1, .int v1)] [] M _
  refine s_aload_n 0 dX12_must_0 rfl ?_
  refine s_aload_n 0 dX12_must_1 rfl ?_
  refine n_getI dX12_must_2 okf_M_239_11 rfl rfl so_86 (sh_lt so_86 rfl) ?_
  refine s_if_ne (tgt := 12) dX12_must_5 (by decide) (fun _ => ?_) (fun _ => ?_)
  · refine s_iload_n 1 dX12_must_8 rfl ?_
    refine s_if_ne (tgt := 16) dX12_must_9 (by decide) (fun _ => ?_) (fun _ => ?_)
    · refine s_iconst (v := 1) dX12_must_12 (by decide) ?_
      refine s_goto (tgt := 17) dX12_must_13 (by decide) ?_
      refine n_putZ dX12_must_17 okp_M_239_11 rfl rfl so_86 (sh_lt so_86 rfl) ?_
      refine s_topM (fun M1 => ?_)
      refine s_aload_n 0 dX12_must_20 rfl ?_
      refine n_getI dX12_must_21 okf_M_239_11 rfl rfl so_86 (sh_lt so_86 rfl) ?_
      refine s_if_ne (tgt := 31) dX12_must_24 (by decide) (fun _ => ?_) (fun _ => ?_)
      · refine s_aload_n 0 dX12_must_27 rfl ?_
        refine n_invV_u dX12_must_28 ok_X12_token rfl wt_1262 wt_1264 ws_50 (ci := 11) rfl rfl so_86 (sh_lt so_86 rfl) [] rfl rfl rfl rfl (c_M_token l G _) (fun r2 M3 => ?_)
        exact n_vret dX12_must_31 rfl
      · exact n_vret dX12_must_31 rfl
    · refine s_iconst (v := 0) dX12_must_16 (by decide) ?_
      refine n_putZ dX12_must_17 okp_M_239_11 rfl rfl so_86 (sh_lt so_86 rfl) ?_
      refine s_topM (fun M4 => ?_)
      refine s_aload_n 0 dX12_must_20 rfl ?_
      refine n_getI dX12_must_21 okf_M_239_11 rfl rfl so_86 (sh_lt so_86 rfl) ?_
      refine s_if_ne (tgt := 31) dX12_must_24 (by decide) (fun _ => ?_) (fun _ => ?_)
      · refine s_aload_n 0 dX12_must_27 rfl ?_
        refine n_invV_u dX12_must_28 ok_X12_token rfl wt_1262 wt_1264 ws_50 (ci := 11) rfl rfl so_86 (sh_lt so_86 rfl) [] rfl rfl rfl rfl (c_M_token l G _) (fun r5 M6 => ?_)
        exact n_vret dX12_must_31 rfl
      · exact n_vret dX12_must_31 rfl
  · refine s_iconst (v := 1) dX12_must_12 (by decide) ?_
    refine s_goto (tgt := 17) dX12_must_13 (by decide) ?_
    refine n_putZ dX12_must_17 okp_M_239_11 rfl rfl so_86 (sh_lt so_86 rfl) ?_
    refine s_topM (fun M7 => ?_)
    refine s_aload_n 0 dX12_must_20 rfl ?_
    refine n_getI dX12_must_21 okf_M_239_11 rfl rfl so_86 (sh_lt so_86 rfl) ?_
    refine s_if_ne (tgt := 31) dX12_must_24 (by decide) (fun _ => ?_) (fun _ => ?_)
    · refine s_aload_n 0 dX12_must_27 rfl ?_
      refine n_invV_u dX12_must_28 ok_X12_token rfl wt_1262 wt_1264 ws_50 (ci := 11) rfl rfl so_86 (sh_lt so_86 rfl) [] rfl rfl rfl rfl (c_M_token l G _) (fun r8 M9 => ?_)
      exact n_vret dX12_must_31 rfl
    · exact n_vret dX12_must_31 rfl
def f_M_word_L7   : Nat → Int64 → Int32 → Nm → Option (Int64 × Nm)
  | 0, _, _, _ => none
  | f + 1, v1, v3, M => if (M.1 86 13) ≤ v3 then (if (M.1 86 15) = 0 then (bnd (f_M_byteAt (M.1 86 12) M) fun r1 M2 => bnd (f_M_isLetter r1 M2) fun r3 M4 => if r3 = 0 then (some (0, M4)) else (some (v1, M4))) else (some (0, M))) else (if (lg_cmp v1 36028797018963967) ≤ 0 then (grd (inb v3 120) <| bl ((32 * v1) + (((M.1 96 (ix v3)) - 96).toInt64)) fun x5 => f_M_word_L7 f x5 (v3 + 1) M) else (f_M_word_L7 f v1 (v3 + 1) M))
theorem c_M_word_L7 (l : Launch) (G : Gl)     : ∀ (f : Nat) (v1 : Int64) (v3 : Int32)  (M : Nm), NJ l G Y_X12_word (zR 2 45) eL 7 [(0, aR G 86), (1, .long v1), (3, .int v3)] [] M (f_M_word_L7 f v1 v3 M) := by
  intro f
  induction f with
  | zero => intro v1 v3 M; exact s_none
  | succ f ih =>
    intro v1 v3 M
    rw [f_M_word_L7]
    refine s_iload_n 2 dX12_word_7 rfl ?_
    refine s_aload_n 0 dX12_word_8 rfl ?_
    refine n_getI dX12_word_9 okf_M_224_11 rfl rfl so_86 (sh_lt so_86 rfl) ?_
    refine s_icmp_ge (tgt := 50) dX12_word_12 (by decide) (fun _ => ?_) (fun _ => ?_)
    · refine s_aload_n 0 dX12_word_50 rfl ?_
      refine n_getI dX12_word_51 okf_M_239_11 rfl rfl so_86 (sh_lt so_86 rfl) ?_
      refine s_if_ne (tgt := 71) dX12_word_54 (by decide) (fun _ => ?_) (fun _ => ?_)
      · refine s_aload_n 0 dX12_word_57 rfl ?_
        refine s_aload_n 0 dX12_word_58 rfl ?_
        refine n_getI dX12_word_59 okf_M_227_11 rfl rfl so_86 (sh_lt so_86 rfl) ?_
        refine n_invV_i dX12_word_62 ok_X12_byteAt rfl wt_1266 wt_1268 ws_51 (ci := 11) rfl rfl so_86 (sh_lt so_86 rfl) [.int (M.1 86 12)] rfl rfl rfl rfl (c_M_byteAt l G _ _) (fun r1 M2 => ?_)
        refine n_invS_i dX12_word_65 ok_X12_isLetter rfl wt_1270 wt_1271 [.int r1] rfl rfl rfl rfl (c_M_isLetter l G _ _) (fun r3 M4 => ?_)
        refine s_if_ne (tgt := 75) dX12_word_68 (by decide) (fun _ => ?_) (fun _ => ?_)
        · refine s_lconst (v := 0) dX12_word_71 (by decide) ?_
          refine s_goto (tgt := 76) dX12_word_72 (by decide) ?_
          exact n_lret dX12_word_76 rfl
        · refine s_lload_n 1 dX12_word_75 rfl ?_
          exact n_lret dX12_word_76 rfl
      · refine s_lconst (v := 0) dX12_word_71 (by decide) ?_
        refine s_goto (tgt := 76) dX12_word_72 (by decide) ?_
        exact n_lret dX12_word_76 rfl
    · refine s_lload_n 1 dX12_word_15 rfl ?_
      refine s_ldc2 (v := 36028797018963967) dX12_word_16 wt_1292 ?_
      refine s_lcmp dX12_word_19 ?_
      refine s_if_le (tgt := 27) dX12_word_20 (by decide) (fun _ => ?_) (fun _ => ?_)
      · refine s_ldc2 (v := 32) dX12_word_27 wt_1293 ?_
        refine s_lload_n 1 dX12_word_30 rfl ?_
        refine s_lmul dX12_word_31 ?_
        refine s_aload_n 0 dX12_word_32 rfl ?_
        refine n_getR (x := 96) dX12_word_33 okf_M_38_11 rfl rfl so_86 (sh_lt so_86 rfl) rfl ?_
        refine s_iload_n 2 dX12_word_36 rfl ?_
        refine n_ial dX12_word_37 sa_96 ?_
        refine s_bipush (v := 96) dX12_word_38 (by decide) ?_
        refine s_isub dX12_word_40 ?_
        refine s_i2l dX12_word_41 ?_
        refine s_ladd dX12_word_42 ?_
        refine s_topl (fun x5 => ?_)
        refine s_lstore_n (i := 1) (lv' := [(1, .long x5), (0, aR G 86), (3, .int v3)]) dX12_word_43 rfl rfl rfl ?_
        refine s_iinc (v := 1) (lv' := [(3, .int (v3 + 1)), (1, .long x5), (0, aR G 86)]) 2 dX12_word_44 rfl (by decide) rfl rfl ?_
        refine s_goto (tgt := 7) dX12_word_47 (by decide) ?_
        refine s_lv [2, 1, 0] (lv' := [(0, aR G 86), (1, .long x5), (3, .int (v3 + 1))]) rfl ?_
        exact ih _ _ _
      · refine s_lload_n 1 dX12_word_23 rfl ?_
        refine s_goto (tgt := 43) dX12_word_24 (by decide) ?_
        refine s_lstore_n (i := 1) (lv' := [(1, .long v1), (0, aR G 86), (3, .int v3)]) dX12_word_43 rfl rfl rfl ?_
        refine s_iinc (v := 1) (lv' := [(3, .int (v3 + 1)), (1, .long v1), (0, aR G 86)]) 2 dX12_word_44 rfl (by decide) rfl rfl ?_
        refine s_goto (tgt := 7) dX12_word_47 (by decide) ?_
        refine s_lv [2, 1, 0] (lv' := [(0, aR G 86), (1, .long v1), (3, .int (v3 + 1))]) rfl ?_
        exact ih _ _ _
def f_M_word  (M : Nm) : Option (Int64 × Nm) := f_M_word_L7 FU 0 (M.1 86 12) M
theorem c_M_word (l : Launch) (G : Gl)   (M : Nm) : NJ l G Y_X12_word (zR 2 45) eL 0 (lv_args 0 [aR G 86]) [] M (f_M_word  M) := by
  unfold f_M_word
  show NJ l G Y_X12_word (zR 2 45) eL 0 [(0, aR G 86)] [] M _
  refine s_lconst (v := 0) dX12_word_0 (by decide) ?_
  refine s_lstore_n (i := 1) (lv' := [(1, .long 0), (0, aR G 86)]) dX12_word_1 rfl rfl rfl ?_
  refine s_aload_n 1 dX12_word_2 rfl ?_
  refine n_getI dX12_word_3 okf_M_227_11 rfl rfl so_86 (sh_lt so_86 rfl) ?_
  refine s_istore_n (i := 3) (lv' := [(3, .int (M.1 86 12)), (1, .long 0), (0, aR G 86)]) dX12_word_6 rfl rfl rfl ?_
  refine s_lv [2, 1, 0] (lv' := [(0, aR G 86), (1, .long 0), (3, .int (M.1 86 12))]) rfl ?_
  refine c_M_word_L7 l G FU _ _ _
def f_M_number_L29 (k79 : Int32 → Nm → Option (Unit × Nm)) (v1 : Int32) (v2 : Int32) (v3 : Int32) : Nat → Int32 → Int32 → Nm → Option (Unit × Nm)
  | 0, _, _, _ => none
  | f + 1, v4, v5, M => if (M.1 86 13) ≤ v5 then (k79 v4 M) else (if v3 = 0 then (k79 v4 M) else (if v4 ≤ 999 then (grd (inb v5 120) <| bl (((10 * v4) + (M.1 96 (ix v5))) - 48) fun x5 => f_M_number_L29 k79 v1 v2 v3 f x5 (v5 + 1) M) else (f_M_number_L29 k79 v1 v2 v3 f v4 (v5 + 1) M)))
theorem c_M_number_L29 (l : Launch) (G : Gl) {k79 : Int32 → Nm → Option (Unit × Nm)} (v1 : Int32) (v2 : Int32) (v3 : Int32)  (hk79 : ∀ (v4 : Int32)  (M : Nm), NJ l G Y_X12_number (zR 4 88) eU 79 [(0, aR G 86), (1, .int v1), (2, .int v2), (3, .int v3), (4, .int v4)] [] M (k79 v4 M)) : ∀ (f : Nat) (v4 : Int32) (v5 : Int32)  (M : Nm), NJ l G Y_X12_number (zR 4 88) eU 29 [(0, aR G 86), (1, .int v1), (2, .int v2), (3, .int v3), (4, .int v4), (5, .int v5)] [] M (f_M_number_L29 k79 v1 v2 v3 f v4 v5 M) := by
  intro f
  induction f with
  | zero => intro v4 v5 M; exact s_none
  | succ f ih =>
    intro v4 v5 M
    rw [f_M_number_L29]
    refine s_iload 5 dX12_number_29 rfl ?_
    refine s_aload_n 0 dX12_number_31 rfl ?_
    refine n_getI dX12_number_32 okf_M_224_11 rfl rfl so_86 (sh_lt so_86 rfl) ?_
    refine s_icmp_ge (tgt := 79) dX12_number_35 (by decide) (fun _ => ?_) (fun _ => ?_)
    · refine s_lv [0, 1, 2, 3, 4] (lv' := [(0, aR G 86), (1, .int v1), (2, .int v2), (3, .int v3), (4, .int v4)]) rfl ?_
      exact hk79 _ _
    · refine s_iload_n 3 dX12_number_38 rfl ?_
      refine s_if_eq (tgt := 79) dX12_number_39 (by decide) (fun _ => ?_) (fun _ => ?_)
      · refine s_lv [0, 1, 2, 3, 4] (lv' := [(0, aR G 86), (1, .int v1), (2, .int v2), (3, .int v3), (4, .int v4)]) rfl ?_
        exact hk79 _ _
      · refine s_iload 4 dX12_number_42 rfl ?_
        refine s_sipush (v := 999) dX12_number_44 (by decide) ?_
        refine s_icmp_le (tgt := 55) dX12_number_47 (by decide) (fun _ => ?_) (fun _ => ?_)
        · refine s_bipush (v := 10) dX12_number_55 (by decide) ?_
          refine s_iload 4 dX12_number_57 rfl ?_
          refine s_imul dX12_number_59 ?_
          refine s_aload_n 0 dX12_number_60 rfl ?_
          refine n_getR (x := 96) dX12_number_61 okf_M_38_11 rfl rfl so_86 (sh_lt so_86 rfl) rfl ?_
          refine s_iload 5 dX12_number_64 rfl ?_
          refine n_ial dX12_number_66 sa_96 ?_
          refine s_iadd dX12_number_67 ?_
          refine s_bipush (v := 48) dX12_number_68 (by decide) ?_
          refine s_isub dX12_number_70 ?_
          refine s_topi (fun x5 => ?_)
          refine s_istore (lv' := [(4, .int x5), (0, aR G 86), (1, .int v1), (2, .int v2), (3, .int v3), (5, .int v5)]) dX12_number_71 rfl rfl ?_
          refine s_iinc (v := 1) (lv' := [(5, .int (v5 + 1)), (4, .int x5), (0, aR G 86), (1, .int v1), (2, .int v2), (3, .int v3)]) 5 dX12_number_73 rfl (by decide) rfl rfl ?_
          refine s_goto (tgt := 29) dX12_number_76 (by decide) ?_
          refine s_lv [2, 3, 4, 5, 1, 0] (lv' := [(0, aR G 86), (1, .int v1), (2, .int v2), (3, .int v3), (4, .int x5), (5, .int (v5 + 1))]) rfl ?_
          exact ih _ _ _
        · refine s_iload 4 dX12_number_50 rfl ?_
          refine s_goto (tgt := 71) dX12_number_52 (by decide) ?_
          refine s_istore (lv' := [(4, .int v4), (0, aR G 86), (1, .int v1), (2, .int v2), (3, .int v3), (5, .int v5)]) dX12_number_71 rfl rfl ?_
          refine s_iinc (v := 1) (lv' := [(5, .int (v5 + 1)), (4, .int v4), (0, aR G 86), (1, .int v1), (2, .int v2), (3, .int v3)]) 5 dX12_number_73 rfl (by decide) rfl rfl ?_
          refine s_goto (tgt := 29) dX12_number_76 (by decide) ?_
          refine s_lv [2, 3, 4, 5, 1, 0] (lv' := [(0, aR G 86), (1, .int v1), (2, .int v2), (3, .int v3), (4, .int v4), (5, .int (v5 + 1))]) rfl ?_
          exact ih _ _ _
def f_M_number (v1 : Int32) (v2 : Int32) (M : Nm) : Option (Unit × Nm) := if (M.1 86 15) = 0 then (bnd (f_M_byteAt (M.1 86 12) M) fun r1 M2 => bnd (f_M_isDigit r1 M2) fun r3 M4 => f_M_number_L29 (fun y7 M6 => bl (mI M6 86 14 y7) fun M8 => if r3 = 0 then (bnd (f_M_must 0 M8) fun r9 M10 => some ((), M10)) else (bnd (f_M_in y7.toInt64 v1.toInt64 v2.toInt64 M8) fun r11 M12 => if r11 = 0 then (bnd (f_M_must 0 M12) fun r13 M14 => some ((), M14)) else (bnd (f_M_must 1 M12) fun r15 M16 => some ((), M16)))) v1 v2 r3 FU 0 (M4.1 86 12) M4) else (some ((), M))
theorem c_M_number (l : Launch) (G : Gl) (v1 : Int32) (v2 : Int32)  (M : Nm) : NJ l G Y_X12_number (zR 4 88) eU 0 (lv_args 0 [aR G 86, .int v1, .int v2]) [] M (f_M_number v1 v2 M) := by
  unfold f_M_number
  show NJ l G Y_X12_number (zR 4 88) eU 0 [(0, aR G 86), (1, .int v1), (2, .int v2)] [] M _
  refine s_aload_n 0 dX12_number_0 rfl ?_
  refine n_getI dX12_number_1 okf_M_239_11 rfl rfl so_86 (sh_lt so_86 rfl) ?_
  refine s_if_eq (tgt := 8) dX12_number_4 (by decide) (fun _ => ?_) (fun _ => ?_)
  · refine s_aload_n 0 dX12_number_8 rfl ?_
    refine s_aload_n 0 dX12_number_9 rfl ?_
    refine n_getI dX12_number_10 okf_M_227_11 rfl rfl so_86 (sh_lt so_86 rfl) ?_
    refine n_invV_i dX12_number_13 ok_X12_byteAt rfl wt_1266 wt_1268 ws_51 (ci := 11) rfl rfl so_86 (sh_lt so_86 rfl) [.int (M.1 86 12)] rfl rfl rfl rfl (c_M_byteAt l G _ _) (fun r1 M2 => ?_)
    refine n_invS_i dX12_number_16 ok_X12_isDigit rfl wt_1275 wt_1276 [.int r1] rfl rfl rfl rfl (c_M_isDigit l G _ _) (fun r3 M4 => ?_)
    refine s_istore_n (i := 3) (lv' := [(3, .int r3), (0, aR G 86), (1, .int v1), (2, .int v2)]) dX12_number_19 rfl rfl rfl ?_
    refine s_iconst (v := 0) dX12_number_20 (by decide) ?_
    refine s_istore (lv' := [(4, .int 0), (3, .int r3), (0, aR G 86), (1, .int v1), (2, .int v2)]) dX12_number_21 rfl rfl ?_
    refine s_aload_n 2 dX12_number_23 rfl ?_
    refine n_getI dX12_number_24 okf_M_227_11 rfl rfl so_86 (sh_lt so_86 rfl) ?_
    refine s_istore (lv' := [(5, .int (M4.1 86 12)), (4, .int 0), (3, .int r3), (0, aR G 86), (1, .int v1), (2, .int v2)]) dX12_number_27 rfl rfl ?_
    refine s_lv [3, 4, 5, 2, 1, 0] (lv' := [(0, aR G 86), (1, .int v1), (2, .int v2), (3, .int r3), (4, .int 0), (5, .int (M4.1 86 12))]) rfl ?_
    refine c_M_number_L29 l G _ _ _ (fun y7 M6 => ?_) FU _ _ _
    refine s_aload_n 0 dX12_number_79 rfl ?_
    refine s_iload 4 dX12_number_80 rfl ?_
    refine n_putI dX12_number_82 okp_M_250_11 rfl rfl so_86 (sh_lt so_86 rfl) ?_
    refine s_topM (fun M8 => ?_)
    refine s_aload_n 0 dX12_number_85 rfl ?_
    refine s_iload_n 3 dX12_number_86 rfl ?_
    refine s_if_eq (tgt := 107) dX12_number_87 (by decide) (fun _ => ?_) (fun _ => ?_)
    · refine s_iconst (v := 0) dX12_number_107 (by decide) ?_
      refine n_invV_u dX12_number_108 ok_X12_must rfl wt_1304 wt_1306 ws_56 (ci := 11) rfl rfl so_86 (sh_lt so_86 rfl) [.int 0] rfl rfl rfl rfl (c_M_must l G _ _) (fun r9 M10 => ?_)
      exact n_vret dX12_number_111 rfl
    · refine s_iload 4 dX12_number_90 rfl ?_
      refine s_i2l dX12_number_92 ?_
      refine s_iload_n 1 dX12_number_93 rfl ?_
      refine s_i2l dX12_number_94 ?_
      refine s_iload_n 2 dX12_number_95 rfl ?_
      refine s_i2l dX12_number_96 ?_
      refine n_invS_i dX12_number_97 ok_X12_in rfl wt_984 wt_985 [.long y7.toInt64, .long v1.toInt64, .long v2.toInt64] rfl rfl rfl rfl (c_M_in l G _ _ _ _) (fun r11 M12 => ?_)
      refine s_if_eq (tgt := 107) dX12_number_100 (by decide) (fun _ => ?_) (fun _ => ?_)
      · refine s_iconst (v := 0) dX12_number_107 (by decide) ?_
        refine n_invV_u dX12_number_108 ok_X12_must rfl wt_1304 wt_1306 ws_56 (ci := 11) rfl rfl so_86 (sh_lt so_86 rfl) [.int 0] rfl rfl rfl rfl (c_M_must l G _ _) (fun r13 M14 => ?_)
        exact n_vret dX12_number_111 rfl
      · refine s_iconst (v := 1) dX12_number_103 (by decide) ?_
        refine s_goto (tgt := 108) dX12_number_104 (by decide) ?_
        refine n_invV_u dX12_number_108 ok_X12_must rfl wt_1304 wt_1306 ws_56 (ci := 11) rfl rfl so_86 (sh_lt so_86 rfl) [.int 1] rfl rfl rfl rfl (c_M_must l G _ _) (fun r15 M16 => ?_)
        exact n_vret dX12_number_111 rfl
  · exact n_vret dX12_number_7 rfl
def f_M_kindHere  (M : Nm) : Option (Int32 × Nm) := bnd (f_M_word M) fun r1 M2 => if (lg_cmp r1 263620) = 0 then (some (0, M2)) else (if (lg_cmp r1 13946034) = 0 then (some (1, M2)) else (if (lg_cmp r1 152933) = 0 then (some (2, M2)) else (if (lg_cmp r1 20186489) = 0 then (some (3, M2)) else (if (lg_cmp r1 267570) = 0 then (some (4, M2)) else (if (lg_cmp r1 398548) = 0 then (some (5, M2)) else (some ((-1), M2)))))))
theorem c_M_kindHere (l : Launch) (G : Gl)   (M : Nm) : NJ l G Y_X12_kindHere (zR 3 68) eI 0 (lv_args 0 [aR G 86]) [] M (f_M_kindHere  M) := by
  unfold f_M_kindHere
  show NJ l G Y_X12_kindHere (zR 3 68) eI 0 [(0, aR G 86)] [] M _
  refine s_aload_n 0 dX12_kindHere_0 rfl ?_
  refine n_invV_l dX12_kindHere_1 ok_X12_word rfl wt_1288 wt_1290 ws_54 (ci := 11) rfl rfl so_86 (sh_lt so_86 rfl) [] rfl rfl rfl rfl (c_M_word l G _) (fun r1 M2 => ?_)
  refine s_lstore_n (i := 1) (lv' := [(1, .long r1), (0, aR G 86)]) dX12_kindHere_4 rfl rfl rfl ?_
  refine s_lload_n 0 dX12_kindHere_5 rfl ?_
  refine s_ldc2 (v := 263620) dX12_kindHere_6 wt_1294 ?_
  refine s_lcmp dX12_kindHere_9 ?_
  refine s_if_ne (tgt := 17) dX12_kindHere_10 (by decide) (fun _ => ?_) (fun _ => ?_)
  · refine s_iconst (v := 0) dX12_kindHere_13 (by decide) ?_
    refine s_goto (tgt := 78) dX12_kindHere_14 (by decide) ?_
    exact n_iret dX12_kindHere_78 rfl
  · refine s_lload_n 0 dX12_kindHere_17 rfl ?_
    refine s_ldc2 (v := 13946034) dX12_kindHere_18 wt_1295 ?_
    refine s_lcmp dX12_kindHere_21 ?_
    refine s_if_ne (tgt := 29) dX12_kindHere_22 (by decide) (fun _ => ?_) (fun _ => ?_)
    · refine s_iconst (v := 1) dX12_kindHere_25 (by decide) ?_
      refine s_goto (tgt := 78) dX12_kindHere_26 (by decide) ?_
      exact n_iret dX12_kindHere_78 rfl
    · refine s_lload_n 0 dX12_kindHere_29 rfl ?_
      refine s_ldc2 (v := 152933) dX12_kindHere_30 wt_1296 ?_
      refine s_lcmp dX12_kindHere_33 ?_
      refine s_if_ne (tgt := 41) dX12_kindHere_34 (by decide) (fun _ => ?_) (fun _ => ?_)
      · refine s_iconst (v := 2) dX12_kindHere_37 (by decide) ?_
        refine s_goto (tgt := 78) dX12_kindHere_38 (by decide) ?_
        exact n_iret dX12_kindHere_78 rfl
      · refine s_lload_n 0 dX12_kindHere_41 rfl ?_
        refine s_ldc2 (v := 20186489) dX12_kindHere_42 wt_1297 ?_
        refine s_lcmp dX12_kindHere_45 ?_
        refine s_if_ne (tgt := 53) dX12_kindHere_46 (by decide) (fun _ => ?_) (fun _ => ?_)
        · refine s_iconst (v := 3) dX12_kindHere_49 (by decide) ?_
          refine s_goto (tgt := 78) dX12_kindHere_50 (by decide) ?_
          exact n_iret dX12_kindHere_78 rfl
        · refine s_lload_n 0 dX12_kindHere_53 rfl ?_
          refine s_ldc2 (v := 267570) dX12_kindHere_54 wt_1298 ?_
          refine s_lcmp dX12_kindHere_57 ?_
          refine s_if_ne (tgt := 65) dX12_kindHere_58 (by decide) (fun _ => ?_) (fun _ => ?_)
          · refine s_iconst (v := 4) dX12_kindHere_61 (by decide) ?_
            refine s_goto (tgt := 78) dX12_kindHere_62 (by decide) ?_
            exact n_iret dX12_kindHere_78 rfl
          · refine s_lload_n 0 dX12_kindHere_65 rfl ?_
            refine s_ldc2 (v := 398548) dX12_kindHere_66 wt_1299 ?_
            refine s_lcmp dX12_kindHere_69 ?_
            refine s_if_ne (tgt := 77) dX12_kindHere_70 (by decide) (fun _ => ?_) (fun _ => ?_)
            · refine s_iconst (v := 5) dX12_kindHere_73 (by decide) ?_
              refine s_goto (tgt := 78) dX12_kindHere_74 (by decide) ?_
              exact n_iret dX12_kindHere_78 rfl
            · refine s_iconst (v := (-1)) dX12_kindHere_77 (by decide) ?_
              exact n_iret dX12_kindHere_78 rfl
def f_M_wayHere  (M : Nm) : Option (Int32 × Nm) := bnd (f_M_word M) fun r1 M2 => if (lg_cmp r1 688) = 0 then (some (0, M2)) else (if (lg_cmp r1 19176724) = 0 then (some (1, M2)) else (if (lg_cmp r1 147182) = 0 then (some (2, M2)) else (if (lg_cmp r1 66667) = 0 then (some (3, M2)) else (some ((-1), M2)))))
theorem c_M_wayHere (l : Launch) (G : Gl)   (M : Nm) : NJ l G Y_X12_wayHere (zR 3 68) eI 0 (lv_args 0 [aR G 86]) [] M (f_M_wayHere  M) := by
  unfold f_M_wayHere
  show NJ l G Y_X12_wayHere (zR 3 68) eI 0 [(0, aR G 86)] [] M _
  refine s_aload_n 0 dX12_wayHere_0 rfl ?_
  refine n_invV_l dX12_wayHere_1 ok_X12_word rfl wt_1288 wt_1290 ws_54 (ci := 11) rfl rfl so_86 (sh_lt so_86 rfl) [] rfl rfl rfl rfl (c_M_word l G _) (fun r1 M2 => ?_)
  refine s_lstore_n (i := 1) (lv' := [(1, .long r1), (0, aR G 86)]) dX12_wayHere_4 rfl rfl rfl ?_
  refine s_lload_n 0 dX12_wayHere_5 rfl ?_
  refine s_ldc2 (v := 688) dX12_wayHere_6 wt_1318 ?_
  refine s_lcmp dX12_wayHere_9 ?_
  refine s_if_ne (tgt := 17) dX12_wayHere_10 (by decide) (fun _ => ?_) (fun _ => ?_)
  · refine s_iconst (v := 0) dX12_wayHere_13 (by decide) ?_
    refine s_goto (tgt := 54) dX12_wayHere_14 (by decide) ?_
    exact n_iret dX12_wayHere_54 rfl
  · refine s_lload_n 0 dX12_wayHere_17 rfl ?_
    refine s_ldc2 (v := 19176724) dX12_wayHere_18 wt_1319 ?_
    refine s_lcmp dX12_wayHere_21 ?_
    refine s_if_ne (tgt := 29) dX12_wayHere_22 (by decide) (fun _ => ?_) (fun _ => ?_)
    · refine s_iconst (v := 1) dX12_wayHere_25 (by decide) ?_
      refine s_goto (tgt := 54) dX12_wayHere_26 (by decide) ?_
      exact n_iret dX12_wayHere_54 rfl
    · refine s_lload_n 0 dX12_wayHere_29 rfl ?_
      refine s_ldc2 (v := 147182) dX12_wayHere_30 wt_1320 ?_
      refine s_lcmp dX12_wayHere_33 ?_
      refine s_if_ne (tgt := 41) dX12_wayHere_34 (by decide) (fun _ => ?_) (fun _ => ?_)
      · refine s_iconst (v := 2) dX12_wayHere_37 (by decide) ?_
        refine s_goto (tgt := 54) dX12_wayHere_38 (by decide) ?_
        exact n_iret dX12_wayHere_54 rfl
      · refine s_lload_n 0 dX12_wayHere_41 rfl ?_
        refine s_ldc2 (v := 66667) dX12_wayHere_42 wt_1321 ?_
        refine s_lcmp dX12_wayHere_45 ?_
        refine s_if_ne (tgt := 53) dX12_wayHere_46 (by decide) (fun _ => ?_) (fun _ => ?_)
        · refine s_iconst (v := 3) dX12_wayHere_49 (by decide) ?_
          refine s_goto (tgt := 54) dX12_wayHere_50 (by decide) ?_
          exact n_iret dX12_wayHere_54 rfl
        · refine s_iconst (v := (-1)) dX12_wayHere_53 (by decide) ?_
          exact n_iret dX12_wayHere_54 rfl
def f_M_handItem_B139 (k103 : Nm → Option (Unit × Nm)) (v2 : Int32) (v3 : Int32) (s0 : Int32) (M : Nm) : Option (Unit × Nm) := bnd (f_M_must s0 M) fun r26 M27 => bnd (f_M_number 1 7 M27) fun r28 M29 => if (M29.1 86 15) = 0 then (bnd (f_M_strokes v2 v3 (M29.1 86 14) M29) fun r30 M31 => k103 M31) else (k103 M29)
theorem c_M_handItem_B139 (l : Launch) (G : Gl) {k103 : Nm → Option (Unit × Nm)} (v2 : Int32) (v3 : Int32) (s0 : Int32)  (hk103 : ∀   (M : Nm), NJ l G Y_X12_handItem (zR 5 113) eU 103 [(0, aR G 86), (2, .int v2)] [] M (k103 M)) (M : Nm) : NJ l G Y_X12_handItem (zR 5 113) eU 139 [(0, aR G 86), (2, .int v2), (3, .int v3)] [.int s0, aR G 86] M (f_M_handItem_B139 k103 v2 v3 s0 M) := by
  unfold f_M_handItem_B139
  refine n_invV_u dX12_handItem_139 ok_X12_must rfl wt_1304 wt_1306 ws_56 (ci := 11) rfl rfl so_86 (sh_lt so_86 rfl) [.int s0] rfl rfl rfl rfl (c_M_must l G _ _) (fun r26 M27 => ?_)
  refine s_aload_n 0 dX12_handItem_142 rfl ?_
  refine s_iconst (v := 1) dX12_handItem_143 (by decide) ?_
  refine s_bipush (v := 7) dX12_handItem_144 (by decide) ?_
  refine n_invV_u dX12_handItem_146 ok_X12_number rfl wt_1309 wt_1311 ws_57 (ci := 11) rfl rfl so_86 (sh_lt so_86 rfl) [.int 1, .int 7] rfl rfl rfl rfl (c_M_number l G _ _ _) (fun r28 M29 => ?_)
  refine s_aload_n 0 dX12_handItem_149 rfl ?_
  refine n_getI dX12_handItem_150 okf_M_239_11 rfl rfl so_86 (sh_lt so_86 rfl) ?_
  refine s_if_eq (tgt := 160) dX12_handItem_153 (by decide) (fun _ => ?_) (fun _ => ?_)
  · refine s_aload_n 0 dX12_handItem_160 rfl ?_
    refine s_iload_n 1 dX12_handItem_161 rfl ?_
    refine s_iload_n 2 dX12_handItem_162 rfl ?_
    refine s_aload_n 0 dX12_handItem_163 rfl ?_
    refine n_getI dX12_handItem_164 okf_M_250_11 rfl rfl so_86 (sh_lt so_86 rfl) ?_
    refine n_invV_i dX12_handItem_167 ok_X12_strokes rfl wt_1088 wt_1090 ws_35 (ci := 11) rfl rfl so_86 (sh_lt so_86 rfl) [.int v2, .int v3, .int (M29.1 86 14)] rfl rfl rfl rfl (c_M_strokes l G _ _ _ _) (fun r30 M31 => ?_)
    refine s_istore (lv' := [(4, .int r30), (0, aR G 86), (2, .int v2), (3, .int v3)]) dX12_handItem_170 rfl rfl ?_
    refine s_goto (tgt := 103) dX12_handItem_172 (by decide) ?_
    refine s_lv [1, 2] (lv' := [(0, aR G 86), (2, .int v2)]) rfl ?_
    exact hk103 _
  · refine s_iconst (v := 0) dX12_handItem_156 (by decide) ?_
    refine s_goto (tgt := 170) dX12_handItem_157 (by decide) ?_
    refine s_istore (lv' := [(4, .int 0), (0, aR G 86), (2, .int v2), (3, .int v3)]) dX12_handItem_170 rfl rfl ?_
    refine s_goto (tgt := 103) dX12_handItem_172 (by decide) ?_
    refine s_lv [1, 2] (lv' := [(0, aR G 86), (2, .int v2)]) rfl ?_
    exact hk103 _
def f_M_handItem_L103 (k175 : Nm → Option (Unit × Nm)) (v2 : Int32) : Nat → Nm → Option (Unit × Nm)
  | 0, _ => none
  | f + 1, M => if (M.1 86 15) = 0 then (bnd (f_M_wayHere M) fun r20 M21 => if r20 < 0 then (k175 M21) else (bnd (f_M_wayHere M21) fun r22 M23 => bnd (f_M_its v2 4 M23) fun r24 M25 => if 8 ≤ r24 then (f_M_handItem_B139 (f_M_handItem_L103 k175 v2 f) v2 r22 0 M25) else (f_M_handItem_B139 (f_M_handItem_L103 k175 v2 f) v2 r22 1 M25))) else (k175 M)
theorem c_M_handItem_L103 (l : Launch) (G : Gl) {k175 : Nm → Option (Unit × Nm)} (v2 : Int32)  (hk175 : ∀   (M : Nm), NJ l G Y_X12_handItem (zR 5 113) eU 175 [] [] M (k175 M)) : ∀ (f : Nat)   (M : Nm), NJ l G Y_X12_handItem (zR 5 113) eU 103 [(0, aR G 86), (2, .int v2)] [] M (f_M_handItem_L103 k175 v2 f M) := by
  intro f
  induction f with
  | zero => intro M; exact s_none
  | succ f ih =>
    intro M
    rw [f_M_handItem_L103]
    refine s_aload_n 0 dX12_handItem_103 rfl ?_
    refine n_getI dX12_handItem_104 okf_M_239_11 rfl rfl so_86 (sh_lt so_86 rfl) ?_
    refine s_if_ne (tgt := 175) dX12_handItem_107 (by decide) (fun _ => ?_) (fun _ => ?_)
    · refine s_aload_n 0 dX12_handItem_110 rfl ?_
      refine n_invV_i dX12_handItem_111 ok_X12_wayHere rfl wt_1314 wt_1316 ws_58 (ci := 11) rfl rfl so_86 (sh_lt so_86 rfl) [] rfl rfl rfl rfl (c_M_wayHere l G _) (fun r20 M21 => ?_)
      refine s_if_lt (tgt := 175) dX12_handItem_114 (by decide) (fun _ => ?_) (fun _ => ?_)
      · refine s_lv [] (lv' := []) rfl ?_
        exact hk175 _
      · refine s_aload_n 0 dX12_handItem_117 rfl ?_
        refine n_invV_i dX12_handItem_118 ok_X12_wayHere rfl wt_1314 wt_1316 ws_58 (ci := 11) rfl rfl so_86 (sh_lt so_86 rfl) [] rfl rfl rfl rfl (c_M_wayHere l G _) (fun r22 M23 => ?_)
        refine s_istore_n (i := 3) (lv' := [(3, .int r22), (0, aR G 86), (2, .int v2)]) dX12_handItem_121 rfl rfl rfl ?_
        refine s_aload_n 1 dX12_handItem_122 rfl ?_
        refine s_aload_n 1 dX12_handItem_123 rfl ?_
        refine s_iload_n 2 dX12_handItem_124 rfl ?_
        refine s_iconst (v := 4) dX12_handItem_125 (by decide) ?_
        refine n_invV_i dX12_handItem_126 ok_X12_its rfl wt_1013 wt_1015 ws_26 (ci := 11) rfl rfl so_86 (sh_lt so_86 rfl) [.int v2, .int 4] rfl rfl rfl rfl (c_M_its l G _ _ _) (fun r24 M25 => ?_)
        refine s_bipush (v := 8) dX12_handItem_129 (by decide) ?_
        refine s_icmp_ge (tgt := 138) dX12_handItem_131 (by decide) (fun _ => ?_) (fun _ => ?_)
        · refine s_iconst (v := 0) dX12_handItem_138 (by decide) ?_
          refine s_lv [1, 2, 0] (lv' := [(0, aR G 86), (2, .int v2), (3, .int r22)]) rfl ?_
          exact c_M_handItem_B139 l G _ _ _ ih _
        · refine s_iconst (v := 1) dX12_handItem_134 (by decide) ?_
          refine s_goto (tgt := 139) dX12_handItem_135 (by decide) ?_
          refine s_lv [1, 2, 0] (lv' := [(0, aR G 86), (2, .int v2), (3, .int r22)]) rfl ?_
          exact c_M_handItem_B139 l G _ _ _ ih _
    · refine s_lv [] (lv' := []) rfl ?_
      exact hk175 _
def f_M_handItem_B37  (v1 : Int32) (s0 : Int32) (M : Nm) : Option (Unit × Nm) := bnd (f_M_must s0 M) fun r5 M6 => bnd (f_M_number 0 47 M6) fun r7 M8 => if (M8.1 86 15) = 0 then (bnd (f_M_adds v1 (M8.1 86 14) M8) fun r9 M10 => bnd (f_M_word M10) fun r11 M12 => if (lg_cmp r11 9675) = 0 then (bnd (f_M_must 1 M12) fun r13 M14 => bnd (f_M_number 0 999 M14) fun r15 M16 => bnd (f_M_spot r9 2 M16) fun r17 M18 => grd (inb r17 176) <| bl (mI M18 87 (ix r17) (M18.1 86 14)) fun M19 => f_M_handItem_L103 (fun M32 => some ((), M32)) r9 FU M19) else (f_M_handItem_L103 (fun M33 => some ((), M33)) r9 FU M12)) else (some ((), M8))
theorem c_M_handItem_B37 (l : Launch) (G : Gl)  (v1 : Int32) (s0 : Int32)   (M : Nm) : NJ l G Y_X12_handItem (zR 5 113) eU 37 [(0, aR G 86), (1, .int v1)] [.int s0, aR G 86] M (f_M_handItem_B37 v1 s0 M) := by
  unfold f_M_handItem_B37
  refine n_invV_u dX12_handItem_37 ok_X12_must rfl wt_1304 wt_1306 ws_56 (ci := 11) rfl rfl so_86 (sh_lt so_86 rfl) [.int s0] rfl rfl rfl rfl (c_M_must l G _ _) (fun r5 M6 => ?_)
  refine s_aload_n 0 dX12_handItem_40 rfl ?_
  refine s_iconst (v := 0) dX12_handItem_41 (by decide) ?_
  refine s_bipush (v := 47) dX12_handItem_42 (by decide) ?_
  refine n_invV_u dX12_handItem_44 ok_X12_number rfl wt_1309 wt_1311 ws_57 (ci := 11) rfl rfl so_86 (sh_lt so_86 rfl) [.int 0, .int 47] rfl rfl rfl rfl (c_M_number l G _ _ _) (fun r7 M8 => ?_)
  refine s_aload_n 0 dX12_handItem_47 rfl ?_
  refine n_getI dX12_handItem_48 okf_M_239_11 rfl rfl so_86 (sh_lt so_86 rfl) ?_
  refine s_if_eq (tgt := 55) dX12_handItem_51 (by decide) (fun _ => ?_) (fun _ => ?_)
  · refine s_aload_n 0 dX12_handItem_55 rfl ?_
    refine s_iload_n 1 dX12_handItem_56 rfl ?_
    refine s_aload_n 0 dX12_handItem_57 rfl ?_
    refine n_getI dX12_handItem_58 okf_M_250_11 rfl rfl so_86 (sh_lt so_86 rfl) ?_
    refine n_invV_i dX12_handItem_61 ok_X12_adds rfl wt_1072 wt_1074 ws_33 (ci := 11) rfl rfl so_86 (sh_lt so_86 rfl) [.int v1, .int (M8.1 86 14)] rfl rfl rfl rfl (c_M_adds l G _ _ _) (fun r9 M10 => ?_)
    refine s_istore_n (i := 2) (lv' := [(2, .int r9), (0, aR G 86), (1, .int v1)]) dX12_handItem_64 rfl rfl rfl ?_
    refine s_aload_n 1 dX12_handItem_65 rfl ?_
    refine n_invV_l dX12_handItem_66 ok_X12_word rfl wt_1288 wt_1290 ws_54 (ci := 11) rfl rfl so_86 (sh_lt so_86 rfl) [] rfl rfl rfl rfl (c_M_word l G _) (fun r11 M12 => ?_)
    refine s_ldc2 (v := 9675) dX12_handItem_69 wt_1313 ?_
    refine s_lcmp dX12_handItem_72 ?_
    refine s_if_ne (tgt := 103) dX12_handItem_73 (by decide) (fun _ => ?_) (fun _ => ?_)
    · refine s_aload_n 1 dX12_handItem_76 rfl ?_
      refine s_iconst (v := 1) dX12_handItem_77 (by decide) ?_
      refine n_invV_u dX12_handItem_78 ok_X12_must rfl wt_1304 wt_1306 ws_56 (ci := 11) rfl rfl so_86 (sh_lt so_86 rfl) [.int 1] rfl rfl rfl rfl (c_M_must l G _ _) (fun r13 M14 => ?_)
      refine s_aload_n 1 dX12_handItem_81 rfl ?_
      refine s_iconst (v := 0) dX12_handItem_82 (by decide) ?_
      refine s_sipush (v := 999) dX12_handItem_83 (by decide) ?_
      refine n_invV_u dX12_handItem_86 ok_X12_number rfl wt_1309 wt_1311 ws_57 (ci := 11) rfl rfl so_86 (sh_lt so_86 rfl) [.int 0, .int 999] rfl rfl rfl rfl (c_M_number l G _ _ _) (fun r15 M16 => ?_)
      refine s_aload_n 1 dX12_handItem_89 rfl ?_
      refine n_getR (x := 87) dX12_handItem_90 okf_M_7_11 rfl rfl so_86 (sh_lt so_86 rfl) rfl ?_
      refine s_iload_n 0 dX12_handItem_93 rfl ?_
      refine s_iconst (v := 2) dX12_handItem_94 (by decide) ?_
      refine n_invS_i dX12_handItem_95 ok_X12_spot rfl wt_1017 wt_1018 [.int r9, .int 2] rfl rfl rfl rfl (c_M_spot l G _ _ _) (fun r17 M18 => ?_)
      refine s_aload_n 1 dX12_handItem_98 rfl ?_
      refine n_getI dX12_handItem_99 okf_M_250_11 rfl rfl so_86 (sh_lt so_86 rfl) ?_
      refine n_ias dX12_handItem_102 sa_87 ?_
      refine s_topM (fun M19 => ?_)
      refine s_lv [1, 0] (lv' := [(0, aR G 86), (2, .int r9)]) rfl ?_
      refine c_M_handItem_L103 l G _ (fun M32 => ?_) FU _
      exact n_vret dX12_handItem_175 rfl
    · refine s_lv [1, 0] (lv' := [(0, aR G 86), (2, .int r9)]) rfl ?_
      refine c_M_handItem_L103 l G _ (fun M33 => ?_) FU _
      exact n_vret dX12_handItem_175 rfl
  · exact n_vret dX12_handItem_54 rfl
def f_M_handItem_B17  (v1 : Int32) (s0 : Int32) (M : Nm) : Option (Unit × Nm) := bnd (f_M_must s0 M) fun r1 M2 => bnd (f_M_word M2) fun r3 M4 => if (lg_cmp r3 52) = 0 then (f_M_handItem_B37 v1 1 M4) else (f_M_handItem_B37 v1 0 M4)
theorem c_M_handItem_B17 (l : Launch) (G : Gl)  (v1 : Int32) (s0 : Int32)   (M : Nm) : NJ l G Y_X12_handItem (zR 5 113) eU 17 [(0, aR G 86), (1, .int v1)] [.int s0, aR G 86] M (f_M_handItem_B17 v1 s0 M) := by
  unfold f_M_handItem_B17
  refine n_invV_u dX12_handItem_17 ok_X12_must rfl wt_1304 wt_1306 ws_56 (ci := 11) rfl rfl so_86 (sh_lt so_86 rfl) [.int s0] rfl rfl rfl rfl (c_M_must l G _ _) (fun r1 M2 => ?_)
  refine s_aload_n 0 dX12_handItem_20 rfl ?_
  refine s_aload_n 0 dX12_handItem_21 rfl ?_
  refine n_invV_l dX12_handItem_22 ok_X12_word rfl wt_1288 wt_1290 ws_54 (ci := 11) rfl rfl so_86 (sh_lt so_86 rfl) [] rfl rfl rfl rfl (c_M_word l G _) (fun r3 M4 => ?_)
  refine s_ldc2 (v := 52) dX12_handItem_25 wt_1308 ?_
  refine s_lcmp dX12_handItem_28 ?_
  refine s_if_ne (tgt := 36) dX12_handItem_29 (by decide) (fun _ => ?_) (fun _ => ?_)
  · refine s_iconst (v := 1) dX12_handItem_32 (by decide) ?_
    refine s_goto (tgt := 37) dX12_handItem_33 (by decide) ?_
    exact c_M_handItem_B37 l G _ _ _
  · refine s_iconst (v := 0) dX12_handItem_36 (by decide) ?_
    exact c_M_handItem_B37 l G _ _ _
def f_M_handItem (v1 : Int32) (M : Nm) : Option (Unit × Nm) := grd (inb 0 176) <| if 6 ≤ (M.1 87 (ix 0)) then (f_M_handItem_B17 v1 0 M) else (f_M_handItem_B17 v1 1 M)
theorem c_M_handItem (l : Launch) (G : Gl) (v1 : Int32)  (M : Nm) : NJ l G Y_X12_handItem (zR 5 113) eU 0 (lv_args 0 [aR G 86, .int v1]) [] M (f_M_handItem v1 M) := by
  unfold f_M_handItem
  show NJ l G Y_X12_handItem (zR 5 113) eU 0 [(0, aR G 86), (1, .int v1)] [] M _
  refine s_aload_n 0 dX12_handItem_0 rfl ?_
  refine s_aload_n 0 dX12_handItem_1 rfl ?_
  refine n_getR (x := 87) dX12_handItem_2 okf_M_7_11 rfl rfl so_86 (sh_lt so_86 rfl) rfl ?_
  refine s_iconst (v := 0) dX12_handItem_5 (by decide) ?_
  refine n_ial dX12_handItem_6 sa_87 ?_
  refine s_bipush (v := 6) dX12_handItem_7 (by decide) ?_
  refine s_icmp_ge (tgt := 16) dX12_handItem_9 (by decide) (fun _ => ?_) (fun _ => ?_)
  · refine s_iconst (v := 0) dX12_handItem_16 (by decide) ?_
    exact c_M_handItem_B17 l G _ _ _
  · refine s_iconst (v := 1) dX12_handItem_12 (by decide) ?_
    refine s_goto (tgt := 17) dX12_handItem_13 (by decide) ?_
    exact c_M_handItem_B17 l G _ _ _
def f_M_item_B42  (v2 : Int64) (s0 : Int32) (M : Nm) : Option (Unit × Nm) := bnd (f_M_must s0 M) fun r5 M6 => bnd (f_M_number 0 47 M6) fun r7 M8 => if (M8.1 86 15) = 0 then (if (lg_cmp v2 651858149) = 0 then (grd (inb (2 + (M8.1 86 14)) 176) <| bl (mI M8 87 (ix (2 + (M8.1 86 14))) 1) fun M9 => some ((), M9)) else (grd (inb (2 + (M8.1 86 14)) 176) <| bl (mI M8 87 (ix (2 + (M8.1 86 14))) 0) fun M10 => some ((), M10))) else (some ((), M8))
theorem c_M_item_B42 (l : Launch) (G : Gl)  (v2 : Int64) (s0 : Int32)   (M : Nm) : NJ l G Y_X12_item (zR 6 137) eU 42 [(0, aR G 86), (2, .long v2)] [.int s0, aR G 86] M (f_M_item_B42 v2 s0 M) := by
  unfold f_M_item_B42
  refine n_invV_u dX12_item_42 ok_X12_must rfl wt_1304 wt_1306 ws_56 (ci := 11) rfl rfl so_86 (sh_lt so_86 rfl) [.int s0] rfl rfl rfl rfl (c_M_must l G _ _) (fun r5 M6 => ?_)
  refine s_aload_n 0 dX12_item_45 rfl ?_
  refine s_iconst (v := 0) dX12_item_46 (by decide) ?_
  refine s_bipush (v := 47) dX12_item_47 (by decide) ?_
  refine n_invV_u dX12_item_49 ok_X12_number rfl wt_1309 wt_1311 ws_57 (ci := 11) rfl rfl so_86 (sh_lt so_86 rfl) [.int 0, .int 47] rfl rfl rfl rfl (c_M_number l G _ _ _) (fun r7 M8 => ?_)
  refine s_aload_n 0 dX12_item_52 rfl ?_
  refine n_getI dX12_item_53 okf_M_239_11 rfl rfl so_86 (sh_lt so_86 rfl) ?_
  refine s_if_ne (tgt := 83) dX12_item_56 (by decide) (fun _ => ?_) (fun _ => ?_)
  · refine s_aload_n 0 dX12_item_59 rfl ?_
    refine n_getR (x := 87) dX12_item_60 okf_M_7_11 rfl rfl so_86 (sh_lt so_86 rfl) rfl ?_
    refine s_iconst (v := 2) dX12_item_63 (by decide) ?_
    refine s_aload_n 0 dX12_item_64 rfl ?_
    refine n_getI dX12_item_65 okf_M_250_11 rfl rfl so_86 (sh_lt so_86 rfl) ?_
    refine s_iadd dX12_item_68 ?_
    refine s_lload_n 1 dX12_item_69 rfl ?_
    refine s_ldc2 (v := 651858149) dX12_item_70 wt_1322 ?_
    refine s_lcmp dX12_item_73 ?_
    refine s_if_ne (tgt := 81) dX12_item_74 (by decide) (fun _ => ?_) (fun _ => ?_)
    · refine s_iconst (v := 1) dX12_item_77 (by decide) ?_
      refine s_goto (tgt := 82) dX12_item_78 (by decide) ?_
      refine n_ias dX12_item_82 sa_87 ?_
      refine s_topM (fun M9 => ?_)
      exact n_vret dX12_item_83 rfl
    · refine s_iconst (v := 0) dX12_item_81 (by decide) ?_
      refine n_ias dX12_item_82 sa_87 ?_
      refine s_topM (fun M10 => ?_)
      exact n_vret dX12_item_83 rfl
  · exact n_vret dX12_item_83 rfl
def f_M_item  (M : Nm) : Option (Unit × Nm) := bnd (f_M_kindHere M) fun r1 M2 => if r1 < 0 then (bnd (f_M_word M2) fun r3 M4 => if (lg_cmp r3 651858149) = 0 then (f_M_item_B42 r3 1 M4) else (if (lg_cmp r3 4697) = 0 then (f_M_item_B42 r3 1 M4) else (f_M_item_B42 r3 0 M4))) else (bnd (f_M_handItem r1 M2) fun r11 M12 => some ((), M12))
theorem c_M_item (l : Launch) (G : Gl)   (M : Nm) : NJ l G Y_X12_item (zR 6 137) eU 0 (lv_args 0 [aR G 86]) [] M (f_M_item  M) := by
  unfold f_M_item
  show NJ l G Y_X12_item (zR 6 137) eU 0 [(0, aR G 86)] [] M _
  refine s_aload_n 0 dX12_item_0 rfl ?_
  refine n_invV_i dX12_item_1 ok_X12_kindHere rfl wt_1284 wt_1286 ws_53 (ci := 11) rfl rfl so_86 (sh_lt so_86 rfl) [] rfl rfl rfl rfl (c_M_kindHere l G _) (fun r1 M2 => ?_)
  refine s_istore_n (i := 1) (lv' := [(1, .int r1), (0, aR G 86)]) dX12_item_4 rfl rfl rfl ?_
  refine s_iload_n 0 dX12_item_5 rfl ?_
  refine s_if_lt (tgt := 15) dX12_item_6 (by decide) (fun _ => ?_) (fun _ => ?_)
  · refine s_aload_n 1 dX12_item_15 rfl ?_
    refine n_invV_l dX12_item_16 ok_X12_word rfl wt_1288 wt_1290 ws_54 (ci := 11) rfl rfl so_86 (sh_lt so_86 rfl) [] rfl rfl rfl rfl (c_M_word l G _) (fun r3 M4 => ?_)
    refine s_lstore_n (i := 2) (lv' := [(2, .long r3), (1, .int r1), (0, aR G 86)]) dX12_item_19 rfl rfl rfl ?_
    refine s_aload_n 2 dX12_item_20 rfl ?_
    refine s_lload_n 0 dX12_item_21 rfl ?_
    refine s_ldc2 (v := 651858149) dX12_item_22 wt_1322 ?_
    refine s_lcmp dX12_item_25 ?_
    refine s_if_eq (tgt := 37) dX12_item_26 (by decide) (fun _ => ?_) (fun _ => ?_)
    · refine s_iconst (v := 1) dX12_item_37 (by decide) ?_
      refine s_goto (tgt := 42) dX12_item_38 (by decide) ?_
      refine s_lv [2, 0] (lv' := [(0, aR G 86), (2, .long r3)]) rfl ?_
      exact c_M_item_B42 l G _ _ _
    · refine s_lload_n 0 dX12_item_29 rfl ?_
      refine s_ldc2 (v := 4697) dX12_item_30 wt_1323 ?_
      refine s_lcmp dX12_item_33 ?_
      refine s_if_ne (tgt := 41) dX12_item_34 (by decide) (fun _ => ?_) (fun _ => ?_)
      · refine s_iconst (v := 1) dX12_item_37 (by decide) ?_
        refine s_goto (tgt := 42) dX12_item_38 (by decide) ?_
        refine s_lv [2, 0] (lv' := [(0, aR G 86), (2, .long r3)]) rfl ?_
        exact c_M_item_B42 l G _ _ _
      · refine s_iconst (v := 0) dX12_item_41 (by decide) ?_
        refine s_lv [2, 0] (lv' := [(0, aR G 86), (2, .long r3)]) rfl ?_
        exact c_M_item_B42 l G _ _ _
  · refine s_aload_n 1 dX12_item_9 rfl ?_
    refine s_iload_n 0 dX12_item_10 rfl ?_
    refine n_invV_u dX12_item_11 ok_X12_handItem rfl wt_1300 wt_1302 ws_55 (ci := 11) rfl rfl so_86 (sh_lt so_86 rfl) [.int r1] rfl rfl rfl rfl (c_M_handItem l G _ _) (fun r11 M12 => ?_)
    exact n_vret dX12_item_14 rfl
def f_M_field_L24 (k59 : Int32 → Nm → Option (Int32 × Nm))  : Nat → Int32 → Nm → Option (Int32 × Nm)
  | 0, _, _ => none
  | f + 1, v1, M => if (M.1 86 15) = 0 then (bnd (f_M_byteAt (M.1 86 12) M) fun r9 M10 => if r9 = 59 then (bnd (f_M_must 1 M10) fun r11 M12 => bnd (f_M_item M12) fun r13 M14 => f_M_field_L24 k59 f (v1 + 1) M14) else (k59 v1 M10)) else (k59 v1 M)
theorem c_M_field_L24 (l : Launch) (G : Gl) {k59 : Int32 → Nm → Option (Int32 × Nm)}   (hk59 : ∀ (v1 : Int32)  (M : Nm), NJ l G Y_X12_field (zR 7 160) eI 59 [(0, aR G 86), (1, .int v1)] [] M (k59 v1 M)) : ∀ (f : Nat) (v1 : Int32)  (M : Nm), NJ l G Y_X12_field (zR 7 160) eI 24 [(0, aR G 86), (1, .int v1)] [] M (f_M_field_L24 k59 f v1 M) := by
  intro f
  induction f with
  | zero => intro v1 M; exact s_none
  | succ f ih =>
    intro v1 M
    rw [f_M_field_L24]
    refine s_aload_n 0 dX12_field_24 rfl ?_
    refine n_getI dX12_field_25 okf_M_239_11 rfl rfl so_86 (sh_lt so_86 rfl) ?_
    refine s_if_ne (tgt := 59) dX12_field_28 (by decide) (fun _ => ?_) (fun _ => ?_)
    · refine s_aload_n 0 dX12_field_31 rfl ?_
      refine s_aload_n 0 dX12_field_32 rfl ?_
      refine n_getI dX12_field_33 okf_M_227_11 rfl rfl so_86 (sh_lt so_86 rfl) ?_
      refine n_invV_i dX12_field_36 ok_X12_byteAt rfl wt_1266 wt_1268 ws_51 (ci := 11) rfl rfl so_86 (sh_lt so_86 rfl) [.int (M.1 86 12)] rfl rfl rfl rfl (c_M_byteAt l G _ _) (fun r9 M10 => ?_)
      refine s_bipush (v := 59) dX12_field_39 (by decide) ?_
      refine s_icmp_ne (tgt := 59) dX12_field_41 (by decide) (fun _ => ?_) (fun _ => ?_)
      · refine s_aload_n 0 dX12_field_44 rfl ?_
        refine s_iconst (v := 1) dX12_field_45 (by decide) ?_
        refine n_invV_u dX12_field_46 ok_X12_must rfl wt_1304 wt_1306 ws_56 (ci := 11) rfl rfl so_86 (sh_lt so_86 rfl) [.int 1] rfl rfl rfl rfl (c_M_must l G _ _) (fun r11 M12 => ?_)
        refine s_aload_n 0 dX12_field_49 rfl ?_
        refine n_invV_u dX12_field_50 ok_X12_item rfl wt_1280 wt_1282 ws_52 (ci := 11) rfl rfl so_86 (sh_lt so_86 rfl) [] rfl rfl rfl rfl (c_M_item l G _) (fun r13 M14 => ?_)
        refine s_iinc (v := 1) (lv' := [(1, .int (v1 + 1)), (0, aR G 86)]) 1 dX12_field_53 rfl (by decide) rfl rfl ?_
        refine s_goto (tgt := 24) dX12_field_56 (by decide) ?_
        refine s_lv [1, 0] (lv' := [(0, aR G 86), (1, .int (v1 + 1))]) rfl ?_
        exact ih _ _
      · exact hk59 _ _
    · exact hk59 _ _
def f_M_field_B97  (v1 : Int32) (M : Nm) : Option (Int32 × Nm) := bl (mI M 86 11 0) fun M21 => if (M21.1 86 15) = 0 then (some (v1, M21)) else (some ((-1) - (M21.1 86 12), M21))
theorem c_M_field_B97 (l : Launch) (G : Gl)  (v1 : Int32)   (M : Nm) : NJ l G Y_X12_field (zR 7 160) eI 97 [(0, aR G 86), (1, .int v1)] [] M (f_M_field_B97 v1 M) := by
  unfold f_M_field_B97
  refine s_aload_n 0 dX12_field_97 rfl ?_
  refine s_iconst (v := 0) dX12_field_98 (by decide) ?_
  refine n_putI dX12_field_99 okp_M_212_11 rfl rfl so_86 (sh_lt so_86 rfl) ?_
  refine s_topM (fun M21 => ?_)
  refine s_aload_n 0 dX12_field_102 rfl ?_
  refine n_getI dX12_field_103 okf_M_239_11 rfl rfl so_86 (sh_lt so_86 rfl) ?_
  refine s_if_eq (tgt := 118) dX12_field_106 (by decide) (fun _ => ?_) (fun _ => ?_)
  · refine s_iload_n 1 dX12_field_118 rfl ?_
    exact n_iret dX12_field_119 rfl
  · refine s_iconst (v := (-1)) dX12_field_109 (by decide) ?_
    refine s_aload_n 0 dX12_field_110 rfl ?_
    refine n_getI dX12_field_111 okf_M_227_11 rfl rfl so_86 (sh_lt so_86 rfl) ?_
    refine s_isub dX12_field_114 ?_
    refine s_goto (tgt := 119) dX12_field_115 (by decide) ?_
    exact n_iret dX12_field_119 rfl
def f_M_field_B83  (v1 : Int32) (s0 : Int32) (M : Nm) : Option (Int32 × Nm) := grd (decide (s0 = 0) || decide (s0 = 1)) <| bl (mI M 86 15 s0) fun M17 => if (M17.1 86 15) = 0 then (bl (mI M17 86 11 0) fun M18 => if (M18.1 86 15) = 0 then (some (v1, M18)) else (some ((-1) - (M18.1 86 12), M18))) else (bnd (f_M_putsBack M17) fun r19 M20 => f_M_field_B97 v1 M20)
theorem c_M_field_B83 (l : Launch) (G : Gl)  (v1 : Int32) (s0 : Int32)   (M : Nm) : NJ l G Y_X12_field (zR 7 160) eI 83 [(0, aR G 86), (1, .int v1)] [.int s0, aR G 86] M (f_M_field_B83 v1 s0 M) := by
  unfold f_M_field_B83
  refine n_putZ dX12_field_83 okp_M_239_11 rfl rfl so_86 (sh_lt so_86 rfl) ?_
  refine s_topM (fun M17 => ?_)
  refine s_aload_n 0 dX12_field_86 rfl ?_
  refine n_getI dX12_field_87 okf_M_239_11 rfl rfl so_86 (sh_lt so_86 rfl) ?_
  refine s_if_eq (tgt := 97) dX12_field_90 (by decide) (fun _ => ?_) (fun _ => ?_)
  · refine s_aload_n 0 dX12_field_97 rfl ?_
    refine s_iconst (v := 0) dX12_field_98 (by decide) ?_
    refine n_putI dX12_field_99 okp_M_212_11 rfl rfl so_86 (sh_lt so_86 rfl) ?_
    refine s_topM (fun M18 => ?_)
    refine s_aload_n 0 dX12_field_102 rfl ?_
    refine n_getI dX12_field_103 okf_M_239_11 rfl rfl so_86 (sh_lt so_86 rfl) ?_
    refine s_if_eq (tgt := 118) dX12_field_106 (by decide) (fun _ => ?_) (fun _ => ?_)
    · refine s_iload_n 1 dX12_field_118 rfl ?_
      exact n_iret dX12_field_119 rfl
    · refine s_iconst (v := (-1)) dX12_field_109 (by decide) ?_
      refine s_aload_n 0 dX12_field_110 rfl ?_
      refine n_getI dX12_field_111 okf_M_227_11 rfl rfl so_86 (sh_lt so_86 rfl) ?_
      refine s_isub dX12_field_114 ?_
      refine s_goto (tgt := 119) dX12_field_115 (by decide) ?_
      exact n_iret dX12_field_119 rfl
  · refine s_aload_n 0 dX12_field_93 rfl ?_
    refine n_invV_u dX12_field_94 ok_X12_putsBack rfl wt_1324 wt_1326 ws_59 (ci := 11) rfl rfl so_86 (sh_lt so_86 rfl) [] rfl rfl rfl rfl (c_M_putsBack l G _) (fun r19 M20 => ?_)
    exact c_M_field_B97 l G _ _
def f_M_field  (M : Nm) : Option (Int32 × Nm) := bnd (f_M_saves M) fun r1 M2 => grd (decide ((0 : Int32) = 0) || decide ((0 : Int32) = 1)) <| bl (mI M2 86 15 0) fun M3 => bl (mI M3 86 13 0) fun M4 => bnd (f_M_token M4) fun r5 M6 => bnd (f_M_item M6) fun r7 M8 => f_M_field_L24 (fun y16 M15 => if (M15.1 86 15) = 0 then (if (M15.1 86 11) ≤ (M15.1 86 12) then (f_M_field_B83 y16 0 M15) else (f_M_field_B83 y16 1 M15)) else (f_M_field_B83 y16 1 M15)) FU 1 M8
theorem c_M_field (l : Launch) (G : Gl)   (M : Nm) : NJ l G Y_X12_field (zR 7 160) eI 0 (lv_args 0 [aR G 86]) [] M (f_M_field  M) := by
  unfold f_M_field
  show NJ l G Y_X12_field (zR 7 160) eI 0 [(0, aR G 86)] [] M _
  refine s_aload_n 0 dX12_field_0 rfl ?_
  refine n_invV_u dX12_field_1 ok_X12_saves rfl wt_1258 wt_1260 ws_49 (ci := 11) rfl rfl so_86 (sh_lt so_86 rfl) [] rfl rfl rfl rfl (c_M_saves l G _) (fun r1 M2 => ?_)
  refine s_aload_n 0 dX12_field_4 rfl ?_
  refine s_iconst (v := 0) dX12_field_5 (by decide) ?_
  refine n_putZ dX12_field_6 okp_M_239_11 rfl rfl so_86 (sh_lt so_86 rfl) ?_
  refine s_topM (fun M3 => ?_)
  refine s_aload_n 0 dX12_field_9 rfl ?_
  refine s_iconst (v := 0) dX12_field_10 (by decide) ?_
  refine n_putI dX12_field_11 okp_M_224_11 rfl rfl so_86 (sh_lt so_86 rfl) ?_
  refine s_topM (fun M4 => ?_)
  refine s_aload_n 0 dX12_field_14 rfl ?_
  refine n_invV_u dX12_field_15 ok_X12_token rfl wt_1262 wt_1264 ws_50 (ci := 11) rfl rfl so_86 (sh_lt so_86 rfl) [] rfl rfl rfl rfl (c_M_token l G _) (fun r5 M6 => ?_)
  refine s_iconst (v := 1) dX12_field_18 (by decide) ?_
  refine s_istore_n (i := 1) (lv' := [(1, .int 1), (0, aR G 86)]) dX12_field_19 rfl rfl rfl ?_
  refine s_aload_n 1 dX12_field_20 rfl ?_
  refine n_invV_u dX12_field_21 ok_X12_item rfl wt_1280 wt_1282 ws_52 (ci := 11) rfl rfl so_86 (sh_lt so_86 rfl) [] rfl rfl rfl rfl (c_M_item l G _) (fun r7 M8 => ?_)
  refine s_lv [1, 0] (lv' := [(0, aR G 86), (1, .int 1)]) rfl ?_
  refine c_M_field_L24 l G (fun y16 M15 => ?_) FU _ _
  refine s_aload_n 0 dX12_field_59 rfl ?_
  refine s_aload_n 0 dX12_field_60 rfl ?_
  refine n_getI dX12_field_61 okf_M_239_11 rfl rfl so_86 (sh_lt so_86 rfl) ?_
  refine s_if_ne (tgt := 78) dX12_field_64 (by decide) (fun _ => ?_) (fun _ => ?_)
  · refine s_aload_n 0 dX12_field_67 rfl ?_
    refine n_getI dX12_field_68 okf_M_227_11 rfl rfl so_86 (sh_lt so_86 rfl) ?_
    refine s_aload_n 0 dX12_field_71 rfl ?_
    refine n_getI dX12_field_72 okf_M_212_11 rfl rfl so_86 (sh_lt so_86 rfl) ?_
    refine s_icmp_ge (tgt := 82) dX12_field_75 (by decide) (fun _ => ?_) (fun _ => ?_)
    · refine s_iconst (v := 0) dX12_field_82 (by decide) ?_
      exact c_M_field_B83 l G _ _ _
    · refine s_iconst (v := 1) dX12_field_78 (by decide) ?_
      refine s_goto (tgt := 83) dX12_field_79 (by decide) ?_
      exact c_M_field_B83 l G _ _ _
  · refine s_iconst (v := 1) dX12_field_78 (by decide) ?_
    refine s_goto (tgt := 83) dX12_field_79 (by decide) ?_
    exact c_M_field_B83 l G _ _ _
def f_M_isOne (v0 : Int32) (M : Nm) : Option (Int32 × Nm) := bnd (f_M_in v0.toInt64 0 3 M) fun r1 M2 => grd (decide (r1 = 0) || decide (r1 = 1)) (some (r1, M2))
theorem c_M_isOne (l : Launch) (G : Gl) (v0 : Int32)  (M : Nm) : NJ l G Y_X12_isOne (zR 1 25) eI 0 (lv_args 0 [.int v0]) [] M (f_M_isOne v0 M) := by
  unfold f_M_isOne
  show NJ l G Y_X12_isOne (zR 1 25) eI 0 [(0, .int v0)] [] M _
  refine s_iload_n 0 dX12_isOne_0 rfl ?_
  refine s_i2l dX12_isOne_1 ?_
  refine s_lconst (v := 0) dX12_isOne_2 (by decide) ?_
  refine s_ldc2 (v := 3) dX12_isOne_3 wt_1000 ?_
  refine n_invS_i dX12_isOne_6 ok_X12_in rfl wt_984 wt_985 [.long v0.toInt64, .long 0, .long 3] rfl rfl rfl rfl (c_M_in l G _ _ _ _) (fun r1 M2 => ?_)
  exact n_zretB dX12_isOne_9 rfl
def f_M_sheet_L86  (v1 : Int32) : Nat → Int32 → Nm → Option (Int32 × Nm)
  | 0, _, _ => none
  | f + 1, v4, M => if 40 ≤ v4 then (grd (inb v1 4) <| some (M.1 98 (ix v1), M)) else (grd (inb ((40 * v1) + v4) 160) <| bl (mL M 99 (ix ((40 * v1) + v4)) 0) fun M7 => f_M_sheet_L86 v1 f (v4 + 1) M7)
theorem c_M_sheet_L86 (l : Launch) (G : Gl)  (v1 : Int32)   : ∀ (f : Nat) (v4 : Int32)  (M : Nm), NJ l G Y_X12_sheet (zR 2 45) eI 86 [(0, aR G 86), (1, .int v1), (4, .int v4)] [] M (f_M_sheet_L86 v1 f v4 M) := by
  intro f
  induction f with
  | zero => intro v4 M; exact s_none
  | succ f ih =>
    intro v4 M
    rw [f_M_sheet_L86]
    refine s_iload 2 dX12_sheet_86 rfl ?_
    refine s_bipush (v := 40) dX12_sheet_88 (by decide) ?_
    refine s_icmp_ge (tgt := 112) dX12_sheet_90 (by decide) (fun _ => ?_) (fun _ => ?_)
    · refine s_aload_n 0 dX12_sheet_112 rfl ?_
      refine n_getR (x := 98) dX12_sheet_113 okf_M_44_11 rfl rfl so_86 (sh_lt so_86 rfl) rfl ?_
      refine s_iload_n 1 dX12_sheet_116 rfl ?_
      refine n_ial dX12_sheet_117 sa_98 ?_
      exact n_iret dX12_sheet_118 rfl
    · refine s_aload_n 0 dX12_sheet_93 rfl ?_
      refine n_getR (x := 99) dX12_sheet_94 okf_M_47_11 rfl rfl so_86 (sh_lt so_86 rfl) rfl ?_
      refine s_bipush (v := 40) dX12_sheet_97 (by decide) ?_
      refine s_iload_n 1 dX12_sheet_99 rfl ?_
      refine s_imul dX12_sheet_100 ?_
      refine s_iload 2 dX12_sheet_101 rfl ?_
      refine s_iadd dX12_sheet_103 ?_
      refine s_lconst (v := 0) dX12_sheet_104 (by decide) ?_
      refine n_las dX12_sheet_105 sa_99 ?_
      refine s_topM (fun M7 => ?_)
      refine s_iinc (v := 1) (lv' := [(4, .int (v4 + 1)), (0, aR G 86), (1, .int v1)]) 2 dX12_sheet_106 rfl (by decide) rfl rfl ?_
      refine s_goto (tgt := 86) dX12_sheet_109 (by decide) ?_
      refine s_lv [1, 2, 0] (lv' := [(0, aR G 86), (1, .int v1), (4, .int (v4 + 1))]) rfl ?_
      exact ih _ _
def f_M_sheet (v1 : Int32) (v2 : Int32) (v3 : Int32) (M : Nm) : Option (Int32 × Nm) := bnd (f_M_isOne v1 M) fun r1 M2 => if r1 = 0 then (bnd (f_M_finds (-1000000001) M2) fun r3 M4 => some (r3, M4)) else (if v2 = 0 then (if 0 ≤ v3 then (if v3 ≤ 40 then (grd (inb v1 4) <| bl (mI M2 97 (ix v1) v2) fun M5 => if v2 = 0 then (grd (inb v1 4) <| bl (mI M5 98 (ix v1) 0) fun M6 => f_M_sheet_L86 v1 FU 0 M6) else (grd (inb v1 4) <| bl (mI M5 98 (ix v1) v3) fun M8 => f_M_sheet_L86 v1 FU 0 M8)) else (bnd (f_M_finds (-1000000001) M2) fun r9 M10 => some (r9, M10))) else (bnd (f_M_finds (-1000000007) M2) fun r11 M12 => some (r11, M12))) else (if v2 = 8 then (if 0 ≤ v3 then (if v3 ≤ 40 then (grd (inb v1 4) <| bl (mI M2 97 (ix v1) v2) fun M13 => if v2 = 0 then (grd (inb v1 4) <| bl (mI M13 98 (ix v1) 0) fun M14 => f_M_sheet_L86 v1 FU 0 M14) else (grd (inb v1 4) <| bl (mI M13 98 (ix v1) v3) fun M15 => f_M_sheet_L86 v1 FU 0 M15)) else (bnd (f_M_finds (-1000000001) M2) fun r16 M17 => some (r16, M17))) else (bnd (f_M_finds (-1000000007) M2) fun r18 M19 => some (r18, M19))) else (if v2 = 16 then (if 0 ≤ v3 then (if v3 ≤ 40 then (grd (inb v1 4) <| bl (mI M2 97 (ix v1) v2) fun M20 => if v2 = 0 then (grd (inb v1 4) <| bl (mI M20 98 (ix v1) 0) fun M21 => f_M_sheet_L86 v1 FU 0 M21) else (grd (inb v1 4) <| bl (mI M20 98 (ix v1) v3) fun M22 => f_M_sheet_L86 v1 FU 0 M22)) else (bnd (f_M_finds (-1000000001) M2) fun r23 M24 => some (r23, M24))) else (bnd (f_M_finds (-1000000007) M2) fun r25 M26 => some (r25, M26))) else (if v2 = 64 then (if 0 ≤ v3 then (if v3 ≤ 40 then (grd (inb v1 4) <| bl (mI M2 97 (ix v1) v2) fun M27 => if v2 = 0 then (grd (inb v1 4) <| bl (mI M27 98 (ix v1) 0) fun M28 => f_M_sheet_L86 v1 FU 0 M28) else (grd (inb v1 4) <| bl (mI M27 98 (ix v1) v3) fun M29 => f_M_sheet_L86 v1 FU 0 M29)) else (bnd (f_M_finds (-1000000001) M2) fun r30 M31 => some (r30, M31))) else (bnd (f_M_finds (-1000000007) M2) fun r32 M33 => some (r32, M33))) else (bnd (f_M_finds (-1000000001) M2) fun r34 M35 => some (r34, M35))))))
theorem c_M_sheet (l : Launch) (G : Gl) (v1 : Int32) (v2 : Int32) (v3 : Int32)  (M : Nm) : NJ l G Y_X12_sheet (zR 2 45) eI 0 (lv_args 0 [aR G 86, .int v1, .int v2, .int v3]) [] M (f_M_sheet v1 v2 v3 M) := by
  unfold f_M_sheet
  show NJ l G Y_X12_sheet (zR 2 45) eI 0 [(0, aR G 86), (1, .int v1), (2, .int v2), (3, .int v3)] [] M _
  refine s_iload_n 1 dX12_sheet_0 rfl ?_
  refine n_invS_i dX12_sheet_1 ok_X12_isOne rfl wt_1332 wt_1333 [.int v1] rfl rfl rfl rfl (c_M_isOne l G _ _) (fun r1 M2 => ?_)
  refine s_if_eq (tgt := 29) dX12_sheet_4 (by decide) (fun _ => ?_) (fun _ => ?_)
  · refine s_aload_n 0 dX12_sheet_29 rfl ?_
    refine s_ldc (v := (-1000000001)) dX12_sheet_30 wt_991 ?_
    refine n_invV_i dX12_sheet_32 ok_X12_finds rfl wt_992 wt_994 ws_22 (ci := 11) rfl rfl so_86 (sh_lt so_86 rfl) [.int (-1000000001)] rfl rfl rfl rfl (c_M_finds l G _ _) (fun r3 M4 => ?_)
    exact n_iret dX12_sheet_35 rfl
  · refine s_iload_n 2 dX12_sheet_7 rfl ?_
    refine s_if_eq (tgt := 36) dX12_sheet_8 (by decide) (fun _ => ?_) (fun _ => ?_)
    · refine s_iload_n 3 dX12_sheet_36 rfl ?_
      refine s_if_ge (tgt := 48) dX12_sheet_37 (by decide) (fun _ => ?_) (fun _ => ?_)
      · refine s_iload_n 3 dX12_sheet_48 rfl ?_
        refine s_bipush (v := 40) dX12_sheet_49 (by decide) ?_
        refine s_icmp_le (tgt := 61) dX12_sheet_51 (by decide) (fun _ => ?_) (fun _ => ?_)
        · refine s_aload_n 0 dX12_sheet_61 rfl ?_
          refine n_getR (x := 97) dX12_sheet_62 okf_M_41_11 rfl rfl so_86 (sh_lt so_86 rfl) rfl ?_
          refine s_iload_n 1 dX12_sheet_65 rfl ?_
          refine s_iload_n 2 dX12_sheet_66 rfl ?_
          refine n_ias dX12_sheet_67 sa_97 ?_
          refine s_topM (fun M5 => ?_)
          refine s_aload_n 0 dX12_sheet_68 rfl ?_
          refine n_getR (x := 98) dX12_sheet_69 okf_M_44_11 rfl rfl so_86 (sh_lt so_86 rfl) rfl ?_
          refine s_iload_n 1 dX12_sheet_72 rfl ?_
          refine s_iload_n 2 dX12_sheet_73 rfl ?_
          refine s_if_ne (tgt := 81) dX12_sheet_74 (by decide) (fun _ => ?_) (fun _ => ?_)
          · refine s_iconst (v := 0) dX12_sheet_77 (by decide) ?_
            refine s_goto (tgt := 82) dX12_sheet_78 (by decide) ?_
            refine n_ias dX12_sheet_82 sa_98 ?_
            refine s_topM (fun M6 => ?_)
            refine s_iconst (v := 0) dX12_sheet_83 (by decide) ?_
            refine s_istore (lv' := [(4, .int 0), (0, aR G 86), (1, .int v1), (2, .int v2), (3, .int v3)]) dX12_sheet_84 rfl rfl ?_
            refine s_lv [1, 2, 0] (lv' := [(0, aR G 86), (1, .int v1), (4, .int 0)]) rfl ?_
            refine c_M_sheet_L86 l G _ FU _ _
          · refine s_iload_n 3 dX12_sheet_81 rfl ?_
            refine n_ias dX12_sheet_82 sa_98 ?_
            refine s_topM (fun M8 => ?_)
            refine s_iconst (v := 0) dX12_sheet_83 (by decide) ?_
            refine s_istore (lv' := [(4, .int 0), (0, aR G 86), (1, .int v1), (2, .int v2), (3, .int v3)]) dX12_sheet_84 rfl rfl ?_
            refine s_lv [1, 2, 0] (lv' := [(0, aR G 86), (1, .int v1), (4, .int 0)]) rfl ?_
            refine c_M_sheet_L86 l G _ FU _ _
        · refine s_aload_n 0 dX12_sheet_54 rfl ?_
          refine s_ldc (v := (-1000000001)) dX12_sheet_55 wt_991 ?_
          refine n_invV_i dX12_sheet_57 ok_X12_finds rfl wt_992 wt_994 ws_22 (ci := 11) rfl rfl so_86 (sh_lt so_86 rfl) [.int (-1000000001)] rfl rfl rfl rfl (c_M_finds l G _ _) (fun r9 M10 => ?_)
          exact n_iret dX12_sheet_60 rfl
      · refine s_aload_n 0 dX12_sheet_40 rfl ?_
        refine s_ldcw (v := (-1000000007)) dX12_sheet_41 wt_1335 ?_
        refine n_invV_i dX12_sheet_44 ok_X12_finds rfl wt_992 wt_994 ws_22 (ci := 11) rfl rfl so_86 (sh_lt so_86 rfl) [.int (-1000000007)] rfl rfl rfl rfl (c_M_finds l G _ _) (fun r11 M12 => ?_)
        exact n_iret dX12_sheet_47 rfl
    · refine s_iload_n 2 dX12_sheet_11 rfl ?_
      refine s_bipush (v := 8) dX12_sheet_12 (by decide) ?_
      refine s_icmp_eq (tgt := 36) dX12_sheet_14 (by decide) (fun _ => ?_) (fun _ => ?_)
      · refine s_iload_n 3 dX12_sheet_36 rfl ?_
        refine s_if_ge (tgt := 48) dX12_sheet_37 (by decide) (fun _ => ?_) (fun _ => ?_)
        · refine s_iload_n 3 dX12_sheet_48 rfl ?_
          refine s_bipush (v := 40) dX12_sheet_49 (by decide) ?_
          refine s_icmp_le (tgt := 61) dX12_sheet_51 (by decide) (fun _ => ?_) (fun _ => ?_)
          · refine s_aload_n 0 dX12_sheet_61 rfl ?_
            refine n_getR (x := 97) dX12_sheet_62 okf_M_41_11 rfl rfl so_86 (sh_lt so_86 rfl) rfl ?_
            refine s_iload_n 1 dX12_sheet_65 rfl ?_
            refine s_iload_n 2 dX12_sheet_66 rfl ?_
            refine n_ias dX12_sheet_67 sa_97 ?_
            refine s_topM (fun M13 => ?_)
            refine s_aload_n 0 dX12_sheet_68 rfl ?_
            refine n_getR (x := 98) dX12_sheet_69 okf_M_44_11 rfl rfl so_86 (sh_lt so_86 rfl) rfl ?_
            refine s_iload_n 1 dX12_sheet_72 rfl ?_
            refine s_iload_n 2 dX12_sheet_73 rfl ?_
            refine s_if_ne (tgt := 81) dX12_sheet_74 (by decide) (fun _ => ?_) (fun _ => ?_)
            · refine s_iconst (v := 0) dX12_sheet_77 (by decide) ?_
              refine s_goto (tgt := 82) dX12_sheet_78 (by decide) ?_
              refine n_ias dX12_sheet_82 sa_98 ?_
              refine s_topM (fun M14 => ?_)
              refine s_iconst (v := 0) dX12_sheet_83 (by decide) ?_
              refine s_istore (lv' := [(4, .int 0), (0, aR G 86), (1, .int v1), (2, .int v2), (3, .int v3)]) dX12_sheet_84 rfl rfl ?_
              refine s_lv [1, 2, 0] (lv' := [(0, aR G 86), (1, .int v1), (4, .int 0)]) rfl ?_
              refine c_M_sheet_L86 l G _ FU _ _
            · refine s_iload_n 3 dX12_sheet_81 rfl ?_
              refine n_ias dX12_sheet_82 sa_98 ?_
              refine s_topM (fun M15 => ?_)
              refine s_iconst (v := 0) dX12_sheet_83 (by decide) ?_
              refine s_istore (lv' := [(4, .int 0), (0, aR G 86), (1, .int v1), (2, .int v2), (3, .int v3)]) dX12_sheet_84 rfl rfl ?_
              refine s_lv [1, 2, 0] (lv' := [(0, aR G 86), (1, .int v1), (4, .int 0)]) rfl ?_
              refine c_M_sheet_L86 l G _ FU _ _
          · refine s_aload_n 0 dX12_sheet_54 rfl ?_
            refine s_ldc (v := (-1000000001)) dX12_sheet_55 wt_991 ?_
            refine n_invV_i dX12_sheet_57 ok_X12_finds rfl wt_992 wt_994 ws_22 (ci := 11) rfl rfl so_86 (sh_lt so_86 rfl) [.int (-1000000001)] rfl rfl rfl rfl (c_M_finds l G _ _) (fun r16 M17 => ?_)
            exact n_iret dX12_sheet_60 rfl
        · refine s_aload_n 0 dX12_sheet_40 rfl ?_
          refine s_ldcw (v := (-1000000007)) dX12_sheet_41 wt_1335 ?_
          refine n_invV_i dX12_sheet_44 ok_X12_finds rfl wt_992 wt_994 ws_22 (ci := 11) rfl rfl so_86 (sh_lt so_86 rfl) [.int (-1000000007)] rfl rfl rfl rfl (c_M_finds l G _ _) (fun r18 M19 => ?_)
          exact n_iret dX12_sheet_47 rfl
      · refine s_iload_n 2 dX12_sheet_17 rfl ?_
        refine s_bipush (v := 16) dX12_sheet_18 (by decide) ?_
        refine s_icmp_eq (tgt := 36) dX12_sheet_20 (by decide) (fun _ => ?_) (fun _ => ?_)
        · refine s_iload_n 3 dX12_sheet_36 rfl ?_
          refine s_if_ge (tgt := 48) dX12_sheet_37 (by decide) (fun _ => ?_) (fun _ => ?_)
          · refine s_iload_n 3 dX12_sheet_48 rfl ?_
            refine s_bipush (v := 40) dX12_sheet_49 (by decide) ?_
            refine s_icmp_le (tgt := 61) dX12_sheet_51 (by decide) (fun _ => ?_) (fun _ => ?_)
            · refine s_aload_n 0 dX12_sheet_61 rfl ?_
              refine n_getR (x := 97) dX12_sheet_62 okf_M_41_11 rfl rfl so_86 (sh_lt so_86 rfl) rfl ?_
              refine s_iload_n 1 dX12_sheet_65 rfl ?_
              refine s_iload_n 2 dX12_sheet_66 rfl ?_
              refine n_ias dX12_sheet_67 sa_97 ?_
              refine s_topM (fun M20 => ?_)
              refine s_aload_n 0 dX12_sheet_68 rfl ?_
              refine n_getR (x := 98) dX12_sheet_69 okf_M_44_11 rfl rfl so_86 (sh_lt so_86 rfl) rfl ?_
              refine s_iload_n 1 dX12_sheet_72 rfl ?_
              refine s_iload_n 2 dX12_sheet_73 rfl ?_
              refine s_if_ne (tgt := 81) dX12_sheet_74 (by decide) (fun _ => ?_) (fun _ => ?_)
              · refine s_iconst (v := 0) dX12_sheet_77 (by decide) ?_
                refine s_goto (tgt := 82) dX12_sheet_78 (by decide) ?_
                refine n_ias dX12_sheet_82 sa_98 ?_
                refine s_topM (fun M21 => ?_)
                refine s_iconst (v := 0) dX12_sheet_83 (by decide) ?_
                refine s_istore (lv' := [(4, .int 0), (0, aR G 86), (1, .int v1), (2, .int v2), (3, .int v3)]) dX12_sheet_84 rfl rfl ?_
                refine s_lv [1, 2, 0] (lv' := [(0, aR G 86), (1, .int v1), (4, .int 0)]) rfl ?_
                refine c_M_sheet_L86 l G _ FU _ _
              · refine s_iload_n 3 dX12_sheet_81 rfl ?_
                refine n_ias dX12_sheet_82 sa_98 ?_
                refine s_topM (fun M22 => ?_)
                refine s_iconst (v := 0) dX12_sheet_83 (by decide) ?_
                refine s_istore (lv' := [(4, .int 0), (0, aR G 86), (1, .int v1), (2, .int v2), (3, .int v3)]) dX12_sheet_84 rfl rfl ?_
                refine s_lv [1, 2, 0] (lv' := [(0, aR G 86), (1, .int v1), (4, .int 0)]) rfl ?_
                refine c_M_sheet_L86 l G _ FU _ _
            · refine s_aload_n 0 dX12_sheet_54 rfl ?_
              refine s_ldc (v := (-1000000001)) dX12_sheet_55 wt_991 ?_
              refine n_invV_i dX12_sheet_57 ok_X12_finds rfl wt_992 wt_994 ws_22 (ci := 11) rfl rfl so_86 (sh_lt so_86 rfl) [.int (-1000000001)] rfl rfl rfl rfl (c_M_finds l G _ _) (fun r23 M24 => ?_)
              exact n_iret dX12_sheet_60 rfl
          · refine s_aload_n 0 dX12_sheet_40 rfl ?_
            refine s_ldcw (v := (-1000000007)) dX12_sheet_41 wt_1335 ?_
            refine n_invV_i dX12_sheet_44 ok_X12_finds rfl wt_992 wt_994 ws_22 (ci := 11) rfl rfl so_86 (sh_lt so_86 rfl) [.int (-1000000007)] rfl rfl rfl rfl (c_M_finds l G _ _) (fun r25 M26 => ?_)
            exact n_iret dX12_sheet_47 rfl
        · refine s_iload_n 2 dX12_sheet_23 rfl ?_
          refine s_bipush (v := 64) dX12_sheet_24 (by decide) ?_
          refine s_icmp_eq (tgt := 36) dX12_sheet_26 (by decide) (fun _ => ?_) (fun _ => ?_)
          · refine s_iload_n 3 dX12_sheet_36 rfl ?_
            refine s_if_ge (tgt := 48) dX12_sheet_37 (by decide) (fun _ => ?_) (fun _ => ?_)
            · refine s_iload_n 3 dX12_sheet_48 rfl ?_
              refine s_bipush (v := 40) dX12_sheet_49 (by decide) ?_
              refine s_icmp_le (tgt := 61) dX12_sheet_51 (by decide) (fun _ => ?_) (fun _ => ?_)
              · refine s_aload_n 0 dX12_sheet_61 rfl ?_
                refine n_getR (x := 97) dX12_sheet_62 okf_M_41_11 rfl rfl so_86 (sh_lt so_86 rfl) rfl ?_
                refine s_iload_n 1 dX12_sheet_65 rfl ?_
                refine s_iload_n 2 dX12_sheet_66 rfl ?_
                refine n_ias dX12_sheet_67 sa_97 ?_
                refine s_topM (fun M27 => ?_)
                refine s_aload_n 0 dX12_sheet_68 rfl ?_
                refine n_getR (x := 98) dX12_sheet_69 okf_M_44_11 rfl rfl so_86 (sh_lt so_86 rfl) rfl ?_
                refine s_iload_n 1 dX12_sheet_72 rfl ?_
                refine s_iload_n 2 dX12_sheet_73 rfl ?_
                refine s_if_ne (tgt := 81) dX12_sheet_74 (by decide) (fun _ => ?_) (fun _ => ?_)
                · refine s_iconst (v := 0) dX12_sheet_77 (by decide) ?_
                  refine s_goto (tgt := 82) dX12_sheet_78 (by decide) ?_
                  refine n_ias dX12_sheet_82 sa_98 ?_
                  refine s_topM (fun M28 => ?_)
                  refine s_iconst (v := 0) dX12_sheet_83 (by decide) ?_
                  refine s_istore (lv' := [(4, .int 0), (0, aR G 86), (1, .int v1), (2, .int v2), (3, .int v3)]) dX12_sheet_84 rfl rfl ?_
                  refine s_lv [1, 2, 0] (lv' := [(0, aR G 86), (1, .int v1), (4, .int 0)]) rfl ?_
                  refine c_M_sheet_L86 l G _ FU _ _
                · refine s_iload_n 3 dX12_sheet_81 rfl ?_
                  refine n_ias dX12_sheet_82 sa_98 ?_
                  refine s_topM (fun M29 => ?_)
                  refine s_iconst (v := 0) dX12_sheet_83 (by decide) ?_
                  refine s_istore (lv' := [(4, .int 0), (0, aR G 86), (1, .int v1), (2, .int v2), (3, .int v3)]) dX12_sheet_84 rfl rfl ?_
                  refine s_lv [1, 2, 0] (lv' := [(0, aR G 86), (1, .int v1), (4, .int 0)]) rfl ?_
                  refine c_M_sheet_L86 l G _ FU _ _
              · refine s_aload_n 0 dX12_sheet_54 rfl ?_
                refine s_ldc (v := (-1000000001)) dX12_sheet_55 wt_991 ?_
                refine n_invV_i dX12_sheet_57 ok_X12_finds rfl wt_992 wt_994 ws_22 (ci := 11) rfl rfl so_86 (sh_lt so_86 rfl) [.int (-1000000001)] rfl rfl rfl rfl (c_M_finds l G _ _) (fun r30 M31 => ?_)
                exact n_iret dX12_sheet_60 rfl
            · refine s_aload_n 0 dX12_sheet_40 rfl ?_
              refine s_ldcw (v := (-1000000007)) dX12_sheet_41 wt_1335 ?_
              refine n_invV_i dX12_sheet_44 ok_X12_finds rfl wt_992 wt_994 ws_22 (ci := 11) rfl rfl so_86 (sh_lt so_86 rfl) [.int (-1000000007)] rfl rfl rfl rfl (c_M_finds l G _ _) (fun r32 M33 => ?_)
              exact n_iret dX12_sheet_47 rfl
          · refine s_aload_n 0 dX12_sheet_29 rfl ?_
            refine s_ldc (v := (-1000000001)) dX12_sheet_30 wt_991 ?_
            refine n_invV_i dX12_sheet_32 ok_X12_finds rfl wt_992 wt_994 ws_22 (ci := 11) rfl rfl so_86 (sh_lt so_86 rfl) [.int (-1000000001)] rfl rfl rfl rfl (c_M_finds l G _ _) (fun r34 M35 => ?_)
            exact n_iret dX12_sheet_35 rfl
def f_M_narrowed (v0 : Int32) (v1 : Int64) (M : Nm) : Option (Int64 × Nm) := if v0 = 8 then (some (v1.toInt32.toInt8.toInt32.toInt64, M)) else (if v0 = 16 then (some (v1.toInt32.toInt16.toInt32.toInt64, M)) else (some (v1, M)))
theorem c_M_narrowed (l : Launch) (G : Gl) (v0 : Int32) (v1 : Int64)  (M : Nm) : NJ l G Y_X12_narrowed (zR 0 0) eL 0 (lv_args 0 [.int v0, .long v1]) [] M (f_M_narrowed v0 v1 M) := by
  unfold f_M_narrowed
  show NJ l G Y_X12_narrowed (zR 0 0) eL 0 [(0, .int v0), (1, .long v1)] [] M _
  refine s_iload_n 0 dX12_narrowed_0 rfl ?_
  refine s_bipush (v := 8) dX12_narrowed_1 (by decide) ?_
  refine s_icmp_ne (tgt := 13) dX12_narrowed_3 (by decide) (fun _ => ?_) (fun _ => ?_)
  · refine s_lload_n 1 dX12_narrowed_6 rfl ?_
    refine s_l2i dX12_narrowed_7 ?_
    refine s_i2b dX12_narrowed_8 ?_
    refine s_i2l dX12_narrowed_9 ?_
    refine s_goto (tgt := 27) dX12_narrowed_10 (by decide) ?_
    exact n_lret dX12_narrowed_27 rfl
  · refine s_iload_n 0 dX12_narrowed_13 rfl ?_
    refine s_bipush (v := 16) dX12_narrowed_14 (by decide) ?_
    refine s_icmp_ne (tgt := 26) dX12_narrowed_16 (by decide) (fun _ => ?_) (fun _ => ?_)
    · refine s_lload_n 1 dX12_narrowed_19 rfl ?_
      refine s_l2i dX12_narrowed_20 ?_
      refine s_i2s dX12_narrowed_21 ?_
      refine s_i2l dX12_narrowed_22 ?_
      refine s_goto (tgt := 27) dX12_narrowed_23 (by decide) ?_
      exact n_lret dX12_narrowed_27 rfl
    · refine s_lload_n 1 dX12_narrowed_26 rfl ?_
      exact n_lret dX12_narrowed_27 rfl
def f_M_wrong (v1 : Int32) (M : Nm) : Option (Int32 × Nm) := bnd (f_M_isOne v1 M) fun r1 M2 => if r1 = 0 then (some ((-1000000001), M2)) else (grd (inb v1 4) <| if (M2.1 97 (ix v1)) = 0 then (some ((-1000000006), M2)) else (some (0, M2)))
theorem c_M_wrong (l : Launch) (G : Gl) (v1 : Int32)  (M : Nm) : NJ l G Y_X12_wrong (zR 2 45) eI 0 (lv_args 0 [aR G 86, .int v1]) [] M (f_M_wrong v1 M) := by
  unfold f_M_wrong
  show NJ l G Y_X12_wrong (zR 2 45) eI 0 [(0, aR G 86), (1, .int v1)] [] M _
  refine s_iload_n 1 dX12_wrong_0 rfl ?_
  refine n_invS_i dX12_wrong_1 ok_X12_isOne rfl wt_1332 wt_1333 [.int v1] rfl rfl rfl rfl (c_M_isOne l G _ _) (fun r1 M2 => ?_)
  refine s_if_ne (tgt := 12) dX12_wrong_4 (by decide) (fun _ => ?_) (fun _ => ?_)
  · refine s_ldc (v := (-1000000001)) dX12_wrong_7 wt_991 ?_
    refine s_goto (tgt := 28) dX12_wrong_9 (by decide) ?_
    exact n_iret dX12_wrong_28 rfl
  · refine s_aload_n 0 dX12_wrong_12 rfl ?_
    refine n_getR (x := 97) dX12_wrong_13 okf_M_41_11 rfl rfl so_86 (sh_lt so_86 rfl) rfl ?_
    refine s_iload_n 1 dX12_wrong_16 rfl ?_
    refine n_ial dX12_wrong_17 sa_97 ?_
    refine s_if_ne (tgt := 27) dX12_wrong_18 (by decide) (fun _ => ?_) (fun _ => ?_)
    · refine s_ldcw (v := (-1000000006)) dX12_wrong_21 wt_1344 ?_
      refine s_goto (tgt := 28) dX12_wrong_24 (by decide) ?_
      exact n_iret dX12_wrong_28 rfl
    · refine s_iconst (v := 0) dX12_wrong_27 (by decide) ?_
      exact n_iret dX12_wrong_28 rfl
def f_M_write (v1 : Int32) (v2 : Int32) (v3 : Int64) (M : Nm) : Option (Int64 × Nm) := bnd (f_M_wrong v1 M) fun r1 M2 => if r1 = 0 then (grd (inb v1 4) <| bnd (f_M_in v2.toInt64 0 (((M2.1 98 (ix v1)) - 1).toInt64) M2) fun r3 M4 => if r3 = 0 then (bnd (f_M_finds (-1000000001) M4) fun r5 M6 => some (r5.toInt64, M6)) else (grd (inb ((40 * v1) + v2) 160) <| bl (M4.2.1 99 (ix ((40 * v1) + v2))) fun x7 => grd (inb v1 4) <| bnd (f_M_narrowed (M4.1 97 (ix v1)) v3 M4) fun r8 M9 => grd (inb ((40 * v1) + v2) 160) <| bl (mL M9 99 (ix ((40 * v1) + v2)) r8) fun M10 => some (x7, M10))) else (bnd (f_M_finds r1 M2) fun r11 M12 => some (r11.toInt64, M12))
theorem c_M_write (l : Launch) (G : Gl) (v1 : Int32) (v2 : Int32) (v3 : Int64)  (M : Nm) : NJ l G Y_X12_write (zR 3 66) eL 0 (lv_args 0 [aR G 86, .int v1, .int v2, .long v3]) [] M (f_M_write v1 v2 v3 M) := by
  unfold f_M_write
  show NJ l G Y_X12_write (zR 3 66) eL 0 [(0, aR G 86), (1, .int v1), (2, .int v2), (3, .long v3)] [] M _
  refine s_aload_n 0 dX12_write_0 rfl ?_
  refine s_iload_n 1 dX12_write_1 rfl ?_
  refine n_invV_i dX12_write_2 ok_X12_wrong rfl wt_1340 wt_1342 ws_60 (ci := 11) rfl rfl so_86 (sh_lt so_86 rfl) [.int v1] rfl rfl rfl rfl (c_M_wrong l G _ _) (fun r1 M2 => ?_)
  refine s_istore (lv' := [(5, .int r1), (0, aR G 86), (1, .int v1), (2, .int v2), (3, .long v3)]) dX12_write_5 rfl rfl ?_
  refine s_iload 0 dX12_write_7 rfl ?_
  refine s_if_eq (tgt := 20) dX12_write_9 (by decide) (fun _ => ?_) (fun _ => ?_)
  · refine s_iload_n 3 dX12_write_20 rfl ?_
    refine s_i2l dX12_write_21 ?_
    refine s_lconst (v := 0) dX12_write_22 (by decide) ?_
    refine s_aload_n 1 dX12_write_23 rfl ?_
    refine n_getR (x := 98) dX12_write_24 okf_M_44_11 rfl rfl so_86 (sh_lt so_86 rfl) rfl ?_
    refine s_iload_n 2 dX12_write_27 rfl ?_
    refine n_ial dX12_write_28 sa_98 ?_
    refine s_iconst (v := 1) dX12_write_29 (by decide) ?_
    refine s_isub dX12_write_30 ?_
    refine s_i2l dX12_write_31 ?_
    refine n_invS_i dX12_write_32 ok_X12_in rfl wt_984 wt_985 [.long v2.toInt64, .long 0, .long (((M2.1 98 (ix v1)) - 1).toInt64)] rfl rfl rfl rfl (c_M_in l G _ _ _ _) (fun r3 M4 => ?_)
    refine s_if_ne (tgt := 46) dX12_write_35 (by decide) (fun _ => ?_) (fun _ => ?_)
    · refine s_aload_n 1 dX12_write_38 rfl ?_
      refine s_ldc (v := (-1000000001)) dX12_write_39 wt_991 ?_
      refine n_invV_i dX12_write_41 ok_X12_finds rfl wt_992 wt_994 ws_22 (ci := 11) rfl rfl so_86 (sh_lt so_86 rfl) [.int (-1000000001)] rfl rfl rfl rfl (c_M_finds l G _ _) (fun r5 M6 => ?_)
      refine s_i2l dX12_write_44 ?_
      exact n_lret dX12_write_45 rfl
    · refine s_aload_n 1 dX12_write_46 rfl ?_
      refine n_getR (x := 99) dX12_write_47 okf_M_47_11 rfl rfl so_86 (sh_lt so_86 rfl) rfl ?_
      refine s_bipush (v := 40) dX12_write_50 (by decide) ?_
      refine s_iload_n 2 dX12_write_52 rfl ?_
      refine s_imul dX12_write_53 ?_
      refine s_iload_n 3 dX12_write_54 rfl ?_
      refine s_iadd dX12_write_55 ?_
      refine n_lal dX12_write_56 sa_99 ?_
      refine s_topl (fun x7 => ?_)
      refine s_lstore (lv' := [(6, .long x7), (5, .int r1), (0, aR G 86), (1, .int v1), (2, .int v2), (3, .long v3)]) dX12_write_57 rfl rfl ?_
      refine s_aload_n 2 dX12_write_59 rfl ?_
      refine n_getR (x := 99) dX12_write_60 okf_M_47_11 rfl rfl so_86 (sh_lt so_86 rfl) rfl ?_
      refine s_bipush (v := 40) dX12_write_63 (by decide) ?_
      refine s_iload_n 3 dX12_write_65 rfl ?_
      refine s_imul dX12_write_66 ?_
      refine s_iload_n 4 dX12_write_67 rfl ?_
      refine s_iadd dX12_write_68 ?_
      refine s_aload_n 2 dX12_write_69 rfl ?_
      refine n_getR (x := 97) dX12_write_70 okf_M_41_11 rfl rfl so_86 (sh_lt so_86 rfl) rfl ?_
      refine s_iload_n 3 dX12_write_73 rfl ?_
      refine n_ial dX12_write_74 sa_97 ?_
      refine s_lload_n 5 dX12_write_75 rfl ?_
      refine n_invS_l dX12_write_76 ok_X12_narrowed rfl wt_1345 wt_1346 [.int (M4.1 97 (ix v1)), .long v3] rfl rfl rfl rfl (c_M_narrowed l G _ _ _) (fun r8 M9 => ?_)
      refine n_las dX12_write_79 sa_99 ?_
      refine s_topM (fun M10 => ?_)
      refine s_lload 0 dX12_write_80 rfl ?_
      exact n_lret dX12_write_82 rfl
  · refine s_aload_n 1 dX12_write_12 rfl ?_
    refine s_iload 0 dX12_write_13 rfl ?_
    refine n_invV_i dX12_write_15 ok_X12_finds rfl wt_992 wt_994 ws_22 (ci := 11) rfl rfl so_86 (sh_lt so_86 rfl) [.int r1] rfl rfl rfl rfl (c_M_finds l G _ _) (fun r11 M12 => ?_)
    refine s_i2l dX12_write_18 ?_
    exact n_lret dX12_write_19 rfl
def f_M_copy_L120 (k154 : Nm → Option (Int32 × Nm)) (v1 : Int32) (v2 : Int32) (v3 : Int32) (v4 : Int32) (v5 : Int32) : Nat → Int32 → Nm → Option (Int32 × Nm)
  | 0, _, _ => none
  | f + 1, v6, M => if v5 ≤ v6 then (k154 M) else (grd (inb (((40 * v1) + v2) + v6) 160) <| grd (inb v6 40) <| bl (mL M 100 (ix v6) (M.2.1 99 (ix (((40 * v1) + v2) + v6)))) fun M21 => f_M_copy_L120 k154 v1 v2 v3 v4 v5 f (v6 + 1) M21)
theorem c_M_copy_L120 (l : Launch) (G : Gl) {k154 : Nm → Option (Int32 × Nm)} (v1 : Int32) (v2 : Int32) (v3 : Int32) (v4 : Int32) (v5 : Int32)  (hk154 : ∀   (M : Nm), NJ l G Y_X12_copy (zR 2 45) eI 154 [(0, aR G 86), (3, .int v3), (4, .int v4), (5, .int v5)] [] M (k154 M)) : ∀ (f : Nat) (v6 : Int32)  (M : Nm), NJ l G Y_X12_copy (zR 2 45) eI 120 [(0, aR G 86), (1, .int v1), (2, .int v2), (3, .int v3), (4, .int v4), (5, .int v5), (6, .int v6)] [] M (f_M_copy_L120 k154 v1 v2 v3 v4 v5 f v6 M) := by
  intro f
  induction f with
  | zero => intro v6 M; exact s_none
  | succ f ih =>
    intro v6 M
    rw [f_M_copy_L120]
    refine s_iload 6 dX12_copy_120 rfl ?_
    refine s_iload 5 dX12_copy_122 rfl ?_
    refine s_icmp_ge (tgt := 154) dX12_copy_124 (by decide) (fun _ => ?_) (fun _ => ?_)
    · refine s_lv [0, 3, 4, 5] (lv' := [(0, aR G 86), (3, .int v3), (4, .int v4), (5, .int v5)]) rfl ?_
      exact hk154 _
    · refine s_aload_n 0 dX12_copy_127 rfl ?_
      refine n_getR (x := 100) dX12_copy_128 okf_M_50_11 rfl rfl so_86 (sh_lt so_86 rfl) rfl ?_
      refine s_iload 6 dX12_copy_131 rfl ?_
      refine s_aload_n 0 dX12_copy_133 rfl ?_
      refine n_getR (x := 99) dX12_copy_134 okf_M_47_11 rfl rfl so_86 (sh_lt so_86 rfl) rfl ?_
      refine s_bipush (v := 40) dX12_copy_137 (by decide) ?_
      refine s_iload_n 1 dX12_copy_139 rfl ?_
      refine s_imul dX12_copy_140 ?_
      refine s_iload_n 2 dX12_copy_141 rfl ?_
      refine s_iadd dX12_copy_142 ?_
      refine s_iload 6 dX12_copy_143 rfl ?_
      refine s_iadd dX12_copy_145 ?_
      refine n_lal dX12_copy_146 sa_99 ?_
      refine n_las dX12_copy_147 sa_100 ?_
      refine s_topM (fun M21 => ?_)
      refine s_iinc (v := 1) (lv' := [(6, .int (v6 + 1)), (0, aR G 86), (1, .int v1), (2, .int v2), (3, .int v3), (4, .int v4), (5, .int v5)]) 6 dX12_copy_148 rfl (by decide) rfl rfl ?_
      refine s_goto (tgt := 120) dX12_copy_151 (by decide) ?_
      refine s_lv [1, 2, 3, 4, 5, 6, 0] (lv' := [(0, aR G 86), (1, .int v1), (2, .int v2), (3, .int v3), (4, .int v4), (5, .int v5), (6, .int (v6 + 1))]) rfl ?_
      exact ih _ _
def f_M_copy_L157  (v3 : Int32) (v4 : Int32) (v5 : Int32) : Nat → Int32 → Nm → Option (Int32 × Nm)
  | 0, _, _ => none
  | f + 1, v6, M => if v5 ≤ v6 then (some (v5, M)) else (grd (inb v6 40) <| grd (inb (((40 * v3) + v4) + v6) 160) <| bl (mL M 99 (ix (((40 * v3) + v4) + v6)) (M.2.1 100 (ix v6))) fun M23 => f_M_copy_L157 v3 v4 v5 f (v6 + 1) M23)
theorem c_M_copy_L157 (l : Launch) (G : Gl)  (v3 : Int32) (v4 : Int32) (v5 : Int32)   : ∀ (f : Nat) (v6 : Int32)  (M : Nm), NJ l G Y_X12_copy (zR 2 45) eI 157 [(0, aR G 86), (3, .int v3), (4, .int v4), (5, .int v5), (6, .int v6)] [] M (f_M_copy_L157 v3 v4 v5 f v6 M) := by
  intro f
  induction f with
  | zero => intro v6 M; exact s_none
  | succ f ih =>
    intro v6 M
    rw [f_M_copy_L157]
    refine s_iload 4 dX12_copy_157 rfl ?_
    refine s_iload 3 dX12_copy_159 rfl ?_
    refine s_icmp_ge (tgt := 192) dX12_copy_161 (by decide) (fun _ => ?_) (fun _ => ?_)
    · refine s_iload 3 dX12_copy_192 rfl ?_
      exact n_iret dX12_copy_194 rfl
    · refine s_aload_n 0 dX12_copy_164 rfl ?_
      refine n_getR (x := 99) dX12_copy_165 okf_M_47_11 rfl rfl so_86 (sh_lt so_86 rfl) rfl ?_
      refine s_bipush (v := 40) dX12_copy_168 (by decide) ?_
      refine s_iload_n 1 dX12_copy_170 rfl ?_
      refine s_imul dX12_copy_171 ?_
      refine s_iload 2 dX12_copy_172 rfl ?_
      refine s_iadd dX12_copy_174 ?_
      refine s_iload 4 dX12_copy_175 rfl ?_
      refine s_iadd dX12_copy_177 ?_
      refine s_aload_n 0 dX12_copy_178 rfl ?_
      refine n_getR (x := 100) dX12_copy_179 okf_M_50_11 rfl rfl so_86 (sh_lt so_86 rfl) rfl ?_
      refine s_iload 4 dX12_copy_182 rfl ?_
      refine n_lal dX12_copy_184 sa_100 ?_
      refine n_las dX12_copy_185 sa_99 ?_
      refine s_topM (fun M23 => ?_)
      refine s_iinc (v := 1) (lv' := [(6, .int (v6 + 1)), (0, aR G 86), (3, .int v3), (4, .int v4), (5, .int v5)]) 4 dX12_copy_186 rfl (by decide) rfl rfl ?_
      refine s_goto (tgt := 157) dX12_copy_189 (by decide) ?_
      refine s_lv [1, 2, 3, 4, 0] (lv' := [(0, aR G 86), (3, .int v3), (4, .int v4), (5, .int v5), (6, .int (v6 + 1))]) rfl ?_
      exact ih _ _
def f_M_copy (v1 : Int32) (v2 : Int32) (v3 : Int32) (v4 : Int32) (v5 : Int32) (M : Nm) : Option (Int32 × Nm) := bnd (f_M_isOne v1 M) fun r1 M2 => if r1 = 0 then (bnd (f_M_finds (-1000000001) M2) fun r3 M4 => some (r3, M4)) else (bnd (f_M_isOne v3 M2) fun r5 M6 => if r5 = 0 then (bnd (f_M_finds (-1000000001) M6) fun r7 M8 => some (r7, M8)) else (grd (inb v1 4) <| if (M6.1 97 (ix v1)) = 0 then (bnd (f_M_finds (-1000000006) M6) fun r9 M10 => some (r9, M10)) else (grd (inb v3 4) <| if (M6.1 97 (ix v3)) = 0 then (bnd (f_M_finds (-1000000006) M6) fun r11 M12 => some (r11, M12)) else (grd (inb v1 4) <| grd (inb v3 4) <| if (M6.1 97 (ix v1)) = (M6.1 97 (ix v3)) then (if v2 < 0 then (bnd (f_M_finds (-1000000001) M6) fun r13 M14 => some (r13, M14)) else (if v4 < 0 then (bnd (f_M_finds (-1000000001) M6) fun r15 M16 => some (r15, M16)) else (if v5 < 0 then (bnd (f_M_finds (-1000000001) M6) fun r17 M18 => some (r17, M18)) else (grd (inb v1 4) <| if ((M6.1 98 (ix v1)) - v2) < v5 then (bnd (f_M_finds (-1000000001) M6) fun r19 M20 => some (r19, M20)) else (grd (inb v3 4) <| if v5 ≤ ((M6.1 98 (ix v3)) - v4) then (f_M_copy_L120 (fun M22 => f_M_copy_L157 v3 v4 v5 FU 0 M22) v1 v2 v3 v4 v5 FU 0 M6) else (bnd (f_M_finds (-1000000001) M6) fun r24 M25 => some (r24, M25))))))) else (bnd (f_M_finds (-1000000003) M6) fun r26 M27 => some (r26, M27))))))
theorem c_M_copy (l : Launch) (G : Gl) (v1 : Int32) (v2 : Int32) (v3 : Int32) (v4 : Int32) (v5 : Int32)  (M : Nm) : NJ l G Y_X12_copy (zR 2 45) eI 0 (lv_args 0 [aR G 86, .int v1, .int v2, .int v3, .int v4, .int v5]) [] M (f_M_copy v1 v2 v3 v4 v5 M) := by
  unfold f_M_copy
  show NJ l G Y_X12_copy (zR 2 45) eI 0 [(0, aR G 86), (1, .int v1), (2, .int v2), (3, .int v3), (4, .int v4), (5, .int v5)] [] M _
  refine s_iload_n 1 dX12_copy_0 rfl ?_
  refine n_invS_i dX12_copy_1 ok_X12_isOne rfl wt_1332 wt_1333 [.int v1] rfl rfl rfl rfl (c_M_isOne l G _ _) (fun r1 M2 => ?_)
  refine s_if_eq (tgt := 14) dX12_copy_4 (by decide) (fun _ => ?_) (fun _ => ?_)
  · refine s_aload_n 0 dX12_copy_14 rfl ?_
    refine s_ldc (v := (-1000000001)) dX12_copy_15 wt_991 ?_
    refine n_invV_i dX12_copy_17 ok_X12_finds rfl wt_992 wt_994 ws_22 (ci := 11) rfl rfl so_86 (sh_lt so_86 rfl) [.int (-1000000001)] rfl rfl rfl rfl (c_M_finds l G _ _) (fun r3 M4 => ?_)
    exact n_iret dX12_copy_20 rfl
  · refine s_iload_n 3 dX12_copy_7 rfl ?_
    refine n_invS_i dX12_copy_8 ok_X12_isOne rfl wt_1332 wt_1333 [.int v3] rfl rfl rfl rfl (c_M_isOne l G _ _) (fun r5 M6 => ?_)
    refine s_if_ne (tgt := 21) dX12_copy_11 (by decide) (fun _ => ?_) (fun _ => ?_)
    · refine s_aload_n 0 dX12_copy_14 rfl ?_
      refine s_ldc (v := (-1000000001)) dX12_copy_15 wt_991 ?_
      refine n_invV_i dX12_copy_17 ok_X12_finds rfl wt_992 wt_994 ws_22 (ci := 11) rfl rfl so_86 (sh_lt so_86 rfl) [.int (-1000000001)] rfl rfl rfl rfl (c_M_finds l G _ _) (fun r7 M8 => ?_)
      exact n_iret dX12_copy_20 rfl
    · refine s_aload_n 0 dX12_copy_21 rfl ?_
      refine n_getR (x := 97) dX12_copy_22 okf_M_41_11 rfl rfl so_86 (sh_lt so_86 rfl) rfl ?_
      refine s_iload_n 1 dX12_copy_25 rfl ?_
      refine n_ial dX12_copy_26 sa_97 ?_
      refine s_if_eq (tgt := 39) dX12_copy_27 (by decide) (fun _ => ?_) (fun _ => ?_)
      · refine s_aload_n 0 dX12_copy_39 rfl ?_
        refine s_ldcw (v := (-1000000006)) dX12_copy_40 wt_1344 ?_
        refine n_invV_i dX12_copy_43 ok_X12_finds rfl wt_992 wt_994 ws_22 (ci := 11) rfl rfl so_86 (sh_lt so_86 rfl) [.int (-1000000006)] rfl rfl rfl rfl (c_M_finds l G _ _) (fun r9 M10 => ?_)
        exact n_iret dX12_copy_46 rfl
      · refine s_aload_n 0 dX12_copy_30 rfl ?_
        refine n_getR (x := 97) dX12_copy_31 okf_M_41_11 rfl rfl so_86 (sh_lt so_86 rfl) rfl ?_
        refine s_iload_n 3 dX12_copy_34 rfl ?_
        refine n_ial dX12_copy_35 sa_97 ?_
        refine s_if_ne (tgt := 47) dX12_copy_36 (by decide) (fun _ => ?_) (fun _ => ?_)
        · refine s_aload_n 0 dX12_copy_39 rfl ?_
          refine s_ldcw (v := (-1000000006)) dX12_copy_40 wt_1344 ?_
          refine n_invV_i dX12_copy_43 ok_X12_finds rfl wt_992 wt_994 ws_22 (ci := 11) rfl rfl so_86 (sh_lt so_86 rfl) [.int (-1000000006)] rfl rfl rfl rfl (c_M_finds l G _ _) (fun r11 M12 => ?_)
          exact n_iret dX12_copy_46 rfl
        · refine s_aload_n 0 dX12_copy_47 rfl ?_
          refine n_getR (x := 97) dX12_copy_48 okf_M_41_11 rfl rfl so_86 (sh_lt so_86 rfl) rfl ?_
          refine s_iload_n 1 dX12_copy_51 rfl ?_
          refine n_ial dX12_copy_52 sa_97 ?_
          refine s_aload_n 0 dX12_copy_53 rfl ?_
          refine n_getR (x := 97) dX12_copy_54 okf_M_41_11 rfl rfl so_86 (sh_lt so_86 rfl) rfl ?_
          refine s_iload_n 3 dX12_copy_57 rfl ?_
          refine n_ial dX12_copy_58 sa_97 ?_
          refine s_icmp_eq (tgt := 69) dX12_copy_59 (by decide) (fun _ => ?_) (fun _ => ?_)
          · refine s_iload_n 2 dX12_copy_69 rfl ?_
            refine s_if_lt (tgt := 110) dX12_copy_70 (by decide) (fun _ => ?_) (fun _ => ?_)
            · refine s_aload_n 0 dX12_copy_110 rfl ?_
              refine s_ldc (v := (-1000000001)) dX12_copy_111 wt_991 ?_
              refine n_invV_i dX12_copy_113 ok_X12_finds rfl wt_992 wt_994 ws_22 (ci := 11) rfl rfl so_86 (sh_lt so_86 rfl) [.int (-1000000001)] rfl rfl rfl rfl (c_M_finds l G _ _) (fun r13 M14 => ?_)
              exact n_iret dX12_copy_116 rfl
            · refine s_iload 4 dX12_copy_73 rfl ?_
              refine s_if_lt (tgt := 110) dX12_copy_75 (by decide) (fun _ => ?_) (fun _ => ?_)
              · refine s_aload_n 0 dX12_copy_110 rfl ?_
                refine s_ldc (v := (-1000000001)) dX12_copy_111 wt_991 ?_
                refine n_invV_i dX12_copy_113 ok_X12_finds rfl wt_992 wt_994 ws_22 (ci := 11) rfl rfl so_86 (sh_lt so_86 rfl) [.int (-1000000001)] rfl rfl rfl rfl (c_M_finds l G _ _) (fun r15 M16 => ?_)
                exact n_iret dX12_copy_116 rfl
              · refine s_iload 5 dX12_copy_78 rfl ?_
                refine s_if_lt (tgt := 110) dX12_copy_80 (by decide) (fun _ => ?_) (fun _ => ?_)
                · refine s_aload_n 0 dX12_copy_110 rfl ?_
                  refine s_ldc (v := (-1000000001)) dX12_copy_111 wt_991 ?_
                  refine n_invV_i dX12_copy_113 ok_X12_finds rfl wt_992 wt_994 ws_22 (ci := 11) rfl rfl so_86 (sh_lt so_86 rfl) [.int (-1000000001)] rfl rfl rfl rfl (c_M_finds l G _ _) (fun r17 M18 => ?_)
                  exact n_iret dX12_copy_116 rfl
                · refine s_iload 5 dX12_copy_83 rfl ?_
                  refine s_aload_n 0 dX12_copy_85 rfl ?_
                  refine n_getR (x := 98) dX12_copy_86 okf_M_44_11 rfl rfl so_86 (sh_lt so_86 rfl) rfl ?_
                  refine s_iload_n 1 dX12_copy_89 rfl ?_
                  refine n_ial dX12_copy_90 sa_98 ?_
                  refine s_iload_n 2 dX12_copy_91 rfl ?_
                  refine s_isub dX12_copy_92 ?_
                  refine s_icmp_gt (tgt := 110) dX12_copy_93 (by decide) (fun _ => ?_) (fun _ => ?_)
                  · refine s_aload_n 0 dX12_copy_110 rfl ?_
                    refine s_ldc (v := (-1000000001)) dX12_copy_111 wt_991 ?_
                    refine n_invV_i dX12_copy_113 ok_X12_finds rfl wt_992 wt_994 ws_22 (ci := 11) rfl rfl so_86 (sh_lt so_86 rfl) [.int (-1000000001)] rfl rfl rfl rfl (c_M_finds l G _ _) (fun r19 M20 => ?_)
                    exact n_iret dX12_copy_116 rfl
                  · refine s_iload 5 dX12_copy_96 rfl ?_
                    refine s_aload_n 0 dX12_copy_98 rfl ?_
                    refine n_getR (x := 98) dX12_copy_99 okf_M_44_11 rfl rfl so_86 (sh_lt so_86 rfl) rfl ?_
                    refine s_iload_n 3 dX12_copy_102 rfl ?_
                    refine n_ial dX12_copy_103 sa_98 ?_
                    refine s_iload 4 dX12_copy_104 rfl ?_
                    refine s_isub dX12_copy_106 ?_
                    refine s_icmp_le (tgt := 117) dX12_copy_107 (by decide) (fun _ => ?_) (fun _ => ?_)
                    · refine s_iconst (v := 0) dX12_copy_117 (by decide) ?_
                      refine s_istore (lv' := [(6, .int 0), (0, aR G 86), (1, .int v1), (2, .int v2), (3, .int v3), (4, .int v4), (5, .int v5)]) dX12_copy_118 rfl rfl ?_
                      refine s_lv [1, 2, 3, 4, 5, 6, 0] (lv' := [(0, aR G 86), (1, .int v1), (2, .int v2), (3, .int v3), (4, .int v4), (5, .int v5), (6, .int 0)]) rfl ?_
                      refine c_M_copy_L120 l G _ _ _ _ _ (fun M22 => ?_) FU _ _
                      refine s_iconst (v := 0) dX12_copy_154 (by decide) ?_
                      refine s_istore (lv' := [(6, .int 0), (0, aR G 86), (3, .int v3), (4, .int v4), (5, .int v5)]) dX12_copy_155 rfl rfl ?_
                      refine s_lv [1, 2, 3, 4, 0] (lv' := [(0, aR G 86), (3, .int v3), (4, .int v4), (5, .int v5), (6, .int 0)]) rfl ?_
                      refine c_M_copy_L157 l G _ _ _ FU _ _
                    · refine s_aload_n 0 dX12_copy_110 rfl ?_
                      refine s_ldc (v := (-1000000001)) dX12_copy_111 wt_991 ?_
                      refine n_invV_i dX12_copy_113 ok_X12_finds rfl wt_992 wt_994 ws_22 (ci := 11) rfl rfl so_86 (sh_lt so_86 rfl) [.int (-1000000001)] rfl rfl rfl rfl (c_M_finds l G _ _) (fun r24 M25 => ?_)
                      exact n_iret dX12_copy_116 rfl
          · refine s_aload_n 0 dX12_copy_62 rfl ?_
            refine s_ldc (v := (-1000000003)) dX12_copy_63 wt_1140 ?_
            refine n_invV_i dX12_copy_65 ok_X12_finds rfl wt_992 wt_994 ws_22 (ci := 11) rfl rfl so_86 (sh_lt so_86 rfl) [.int (-1000000003)] rfl rfl rfl rfl (c_M_finds l G _ _) (fun r26 M27 => ?_)
            exact n_iret dX12_copy_68 rfl
def f_M_lays_B102 (k21 : Int32 → Int32 → Nm → Option (Int32 × Nm)) (v1 : Int32) (v3 : Int32) (v4 : Int32) (v5 : Int32) (s0 : Int32) (s1 : Int32) (M : Nm) : Option (Int32 × Nm) := grd (inb s1 176) <| bl (mI M 87 (ix s1) s0) fun M9 => if v5 = 0 then (k21 (v3 + 0) (v4 + 1) M9) else (k21 (v3 + 1) (v4 + 1) M9)
theorem c_M_lays_B102 (l : Launch) (G : Gl) {k21 : Int32 → Int32 → Nm → Option (Int32 × Nm)} (v1 : Int32) (v3 : Int32) (v4 : Int32) (v5 : Int32) (s0 : Int32) (s1 : Int32)  (hk21 : ∀ (v3 : Int32) (v4 : Int32)  (M : Nm), NJ l G Y_X12_lays (zR 3 66) eI 21 [(0, aR G 86), (1, .int v1), (3, .int v3), (4, .int v4)] [] M (k21 v3 v4 M)) (M : Nm) : NJ l G Y_X12_lays (zR 3 66) eI 102 [(0, aR G 86), (1, .int v1), (3, .int v3), (4, .int v4), (5, .int v5)] [.int s0, .int s1, aR G 87] M (f_M_lays_B102 k21 v1 v3 v4 v5 s0 s1 M) := by
  unfold f_M_lays_B102
  refine n_ias dX12_lays_102 sa_87 ?_
  refine s_topM (fun M9 => ?_)
  refine s_iload_n 2 dX12_lays_103 rfl ?_
  refine s_iload 4 dX12_lays_104 rfl ?_
  refine s_if_eq (tgt := 113) dX12_lays_106 (by decide) (fun _ => ?_) (fun _ => ?_)
  · refine s_iconst (v := 0) dX12_lays_113 (by decide) ?_
    refine s_iadd dX12_lays_114 ?_
    refine s_istore_n (i := 3) (lv' := [(3, .int (v3 + 0)), (0, aR G 86), (1, .int v1), (4, .int v4), (5, .int v5)]) dX12_lays_115 rfl rfl rfl ?_
    refine s_iinc (v := 1) (lv' := [(4, .int (v4 + 1)), (3, .int (v3 + 0)), (0, aR G 86), (1, .int v1), (5, .int v5)]) 3 dX12_lays_116 rfl (by decide) rfl rfl ?_
    refine s_goto (tgt := 21) dX12_lays_119 (by decide) ?_
    refine s_lv [2, 3, 1, 0] (lv' := [(0, aR G 86), (1, .int v1), (3, .int (v3 + 0)), (4, .int (v4 + 1))]) rfl ?_
    exact hk21 _ _ _
  · refine s_iconst (v := 1) dX12_lays_109 (by decide) ?_
    refine s_goto (tgt := 114) dX12_lays_110 (by decide) ?_
    refine s_iadd dX12_lays_114 ?_
    refine s_istore_n (i := 3) (lv' := [(3, .int (v3 + 1)), (0, aR G 86), (1, .int v1), (4, .int v4), (5, .int v5)]) dX12_lays_115 rfl rfl rfl ?_
    refine s_iinc (v := 1) (lv' := [(4, .int (v4 + 1)), (3, .int (v3 + 1)), (0, aR G 86), (1, .int v1), (5, .int v5)]) 3 dX12_lays_116 rfl (by decide) rfl rfl ?_
    refine s_goto (tgt := 21) dX12_lays_119 (by decide) ?_
    refine s_lv [2, 3, 1, 0] (lv' := [(0, aR G 86), (1, .int v1), (3, .int (v3 + 1)), (4, .int (v4 + 1))]) rfl ?_
    exact hk21 _ _ _
def f_M_lays_L21 (k122 : Int32 → Nm → Option (Int32 × Nm)) (v1 : Int32) : Nat → Int32 → Int32 → Nm → Option (Int32 × Nm)
  | 0, _, _, _ => none
  | f + 1, v3, v4, M => grd (inb v1 4) <| if (M.1 98 (ix v1)) ≤ v4 then (k122 v3 M) else (grd (inb 0 176) <| if (M.1 87 (ix 0)) ≤ v4 then (k122 v3 M) else (grd (inb ((40 * v1) + v4) 160) <| bnd (f_M_in (M.2.1 99 (ix ((40 * v1) + v4))) 0 999 M) fun r3 M4 => bnd (f_M_spot v4 2 M4) fun r5 M6 => if r3 = 0 then (bnd (f_M_its v4 2 M6) fun r7 M8 => f_M_lays_B102 (f_M_lays_L21 k122 v1 f) v1 v3 v4 r3 r7 r5 M8) else (grd (inb ((40 * v1) + v4) 160) <| f_M_lays_B102 (f_M_lays_L21 k122 v1 f) v1 v3 v4 r3 ((M6.2.1 99 (ix ((40 * v1) + v4))).toInt32) r5 M6)))
theorem c_M_lays_L21 (l : Launch) (G : Gl) {k122 : Int32 → Nm → Option (Int32 × Nm)} (v1 : Int32)  (hk122 : ∀ (v3 : Int32)  (M : Nm), NJ l G Y_X12_lays (zR 3 66) eI 122 [(3, .int v3)] [] M (k122 v3 M)) : ∀ (f : Nat) (v3 : Int32) (v4 : Int32)  (M : Nm), NJ l G Y_X12_lays (zR 3 66) eI 21 [(0, aR G 86), (1, .int v1), (3, .int v3), (4, .int v4)] [] M (f_M_lays_L21 k122 v1 f v3 v4 M) := by
  intro f
  induction f with
  | zero => intro v3 v4 M; exact s_none
  | succ f ih =>
    intro v3 v4 M
    rw [f_M_lays_L21]
    refine s_iload 3 dX12_lays_21 rfl ?_
    refine s_aload_n 0 dX12_lays_23 rfl ?_
    refine n_getR (x := 98) dX12_lays_24 okf_M_44_11 rfl rfl so_86 (sh_lt so_86 rfl) rfl ?_
    refine s_iload_n 1 dX12_lays_27 rfl ?_
    refine n_ial dX12_lays_28 sa_98 ?_
    refine s_icmp_ge (tgt := 122) dX12_lays_29 (by decide) (fun _ => ?_) (fun _ => ?_)
    · refine s_lv [2] (lv' := [(3, .int v3)]) rfl ?_
      exact hk122 _ _
    · refine s_iload 3 dX12_lays_32 rfl ?_
      refine s_aload_n 0 dX12_lays_34 rfl ?_
      refine n_getR (x := 87) dX12_lays_35 okf_M_7_11 rfl rfl so_86 (sh_lt so_86 rfl) rfl ?_
      refine s_iconst (v := 0) dX12_lays_38 (by decide) ?_
      refine n_ial dX12_lays_39 sa_87 ?_
      refine s_icmp_ge (tgt := 122) dX12_lays_40 (by decide) (fun _ => ?_) (fun _ => ?_)
      · refine s_lv [2] (lv' := [(3, .int v3)]) rfl ?_
        exact hk122 _ _
      · refine s_aload_n 0 dX12_lays_43 rfl ?_
        refine n_getR (x := 99) dX12_lays_44 okf_M_47_11 rfl rfl so_86 (sh_lt so_86 rfl) rfl ?_
        refine s_bipush (v := 40) dX12_lays_47 (by decide) ?_
        refine s_iload_n 1 dX12_lays_49 rfl ?_
        refine s_imul dX12_lays_50 ?_
        refine s_iload 3 dX12_lays_51 rfl ?_
        refine s_iadd dX12_lays_53 ?_
        refine n_lal dX12_lays_54 sa_99 ?_
        refine s_lconst (v := 0) dX12_lays_55 (by decide) ?_
        refine s_ldc2 (v := 999) dX12_lays_56 wt_1120 ?_
        refine n_invS_i dX12_lays_59 ok_X12_in rfl wt_984 wt_985 [.long (M.2.1 99 (ix ((40 * v1) + v4))), .long 0, .long 999] rfl rfl rfl rfl (c_M_in l G _ _ _ _) (fun r3 M4 => ?_)
        refine s_istore (lv' := [(5, .int r3), (0, aR G 86), (1, .int v1), (3, .int v3), (4, .int v4)]) dX12_lays_62 rfl rfl ?_
        refine s_aload_n 1 dX12_lays_64 rfl ?_
        refine n_getR (x := 87) dX12_lays_65 okf_M_7_11 rfl rfl so_86 (sh_lt so_86 rfl) rfl ?_
        refine s_iload 4 dX12_lays_68 rfl ?_
        refine s_iconst (v := 2) dX12_lays_70 (by decide) ?_
        refine n_invS_i dX12_lays_71 ok_X12_spot rfl wt_1017 wt_1018 [.int v4, .int 2] rfl rfl rfl rfl (c_M_spot l G _ _ _) (fun r5 M6 => ?_)
        refine s_iload 0 dX12_lays_74 rfl ?_
        refine s_if_eq (tgt := 95) dX12_lays_76 (by decide) (fun _ => ?_) (fun _ => ?_)
        · refine s_aload_n 1 dX12_lays_95 rfl ?_
          refine s_iload 4 dX12_lays_96 rfl ?_
          refine s_iconst (v := 2) dX12_lays_98 (by decide) ?_
          refine n_invV_i dX12_lays_99 ok_X12_its rfl wt_1013 wt_1015 ws_26 (ci := 11) rfl rfl so_86 (sh_lt so_86 rfl) [.int v4, .int 2] rfl rfl rfl rfl (c_M_its l G _ _ _) (fun r7 M8 => ?_)
          refine s_lv [1, 2, 3, 4, 0] (lv' := [(0, aR G 86), (1, .int v1), (3, .int v3), (4, .int v4), (5, .int r3)]) rfl ?_
          exact c_M_lays_B102 l G _ _ _ _ _ _ ih _
        · refine s_aload_n 1 dX12_lays_79 rfl ?_
          refine n_getR (x := 99) dX12_lays_80 okf_M_47_11 rfl rfl so_86 (sh_lt so_86 rfl) rfl ?_
          refine s_bipush (v := 40) dX12_lays_83 (by decide) ?_
          refine s_iload_n 2 dX12_lays_85 rfl ?_
          refine s_imul dX12_lays_86 ?_
          refine s_iload 4 dX12_lays_87 rfl ?_
          refine s_iadd dX12_lays_89 ?_
          refine n_lal dX12_lays_90 sa_99 ?_
          refine s_l2i dX12_lays_91 ?_
          refine s_goto (tgt := 102) dX12_lays_92 (by decide) ?_
          refine s_lv [1, 2, 3, 4, 0] (lv' := [(0, aR G 86), (1, .int v1), (3, .int v3), (4, .int v4), (5, .int r3)]) rfl ?_
          exact c_M_lays_B102 l G _ _ _ _ _ _ ih _
def f_M_lays (v1 : Int32) (M : Nm) : Option (Int32 × Nm) := bnd (f_M_wrong v1 M) fun r1 M2 => if r1 = 0 then (f_M_lays_L21 (fun y11 M10 => some (y11, M10)) v1 FU 0 0 M2) else (bnd (f_M_finds r1 M2) fun r12 M13 => some (r12, M13))
theorem c_M_lays (l : Launch) (G : Gl) (v1 : Int32)  (M : Nm) : NJ l G Y_X12_lays (zR 3 66) eI 0 (lv_args 0 [aR G 86, .int v1]) [] M (f_M_lays v1 M) := by
  unfold f_M_lays
  show NJ l G Y_X12_lays (zR 3 66) eI 0 [(0, aR G 86), (1, .int v1)] [] M _
  refine s_aload_n 0 dX12_lays_0 rfl ?_
  refine s_iload_n 1 dX12_lays_1 rfl ?_
  refine n_invV_i dX12_lays_2 ok_X12_wrong rfl wt_1340 wt_1342 ws_60 (ci := 11) rfl rfl so_86 (sh_lt so_86 rfl) [.int v1] rfl rfl rfl rfl (c_M_wrong l G _ _) (fun r1 M2 => ?_)
  refine s_istore_n (i := 2) (lv' := [(2, .int r1), (0, aR G 86), (1, .int v1)]) dX12_lays_5 rfl rfl rfl ?_
  refine s_iload_n 0 dX12_lays_6 rfl ?_
  refine s_if_eq (tgt := 16) dX12_lays_7 (by decide) (fun _ => ?_) (fun _ => ?_)
  · refine s_iconst (v := 0) dX12_lays_16 (by decide) ?_
    refine s_istore_n (i := 3) (lv' := [(3, .int 0), (2, .int r1), (0, aR G 86), (1, .int v1)]) dX12_lays_17 rfl rfl rfl ?_
    refine s_iconst (v := 0) dX12_lays_18 (by decide) ?_
    refine s_istore (lv' := [(4, .int 0), (3, .int 0), (2, .int r1), (0, aR G 86), (1, .int v1)]) dX12_lays_19 rfl rfl ?_
    refine s_lv [3, 4, 1, 0] (lv' := [(0, aR G 86), (1, .int v1), (3, .int 0), (4, .int 0)]) rfl ?_
    refine c_M_lays_L21 l G _ (fun y11 M10 => ?_) FU _ _ _
    refine s_iload_n 0 dX12_lays_122 rfl ?_
    exact n_iret dX12_lays_123 rfl
  · refine s_aload_n 1 dX12_lays_10 rfl ?_
    refine s_iload_n 0 dX12_lays_11 rfl ?_
    refine n_invV_i dX12_lays_12 ok_X12_finds rfl wt_992 wt_994 ws_22 (ci := 11) rfl rfl so_86 (sh_lt so_86 rfl) [.int r1] rfl rfl rfl rfl (c_M_finds l G _ _) (fun r12 M13 => ?_)
    exact n_iret dX12_lays_15 rfl
def f_M_book_L42  (v1 : Int32) (v2 : Int32) : Nat → Int32 → Nm → Option (Int32 × Nm)
  | 0, _, _ => none
  | f + 1, v4, M => grd (inb v1 4) <| if (M.1 98 (ix v1)) ≤ v4 then (grd (inb v1 4) <| bnd (f_M_takesBack (M.1 98 (ix v1)) M) fun r7 M8 => some (r7, M8)) else (grd (inb v1 4) <| bnd (f_M_its v2 3 M) fun r9 M10 => bnd (f_M_narrowed (M.1 97 (ix v1)) r9.toInt64 M10) fun r11 M12 => grd (inb ((40 * v1) + v4) 160) <| bl (mL M12 99 (ix ((40 * v1) + v4)) r11) fun M13 => bnd (f_M_year M13) fun r14 M15 => f_M_book_L42 v1 v2 f (v4 + 1) M15)
theorem c_M_book_L42 (l : Launch) (G : Gl)  (v1 : Int32) (v2 : Int32)   : ∀ (f : Nat) (v4 : Int32)  (M : Nm), NJ l G Y_X12_book (zR 6 144) eI 42 [(0, aR G 86), (1, .int v1), (2, .int v2), (4, .int v4)] [] M (f_M_book_L42 v1 v2 f v4 M) := by
  intro f
  induction f with
  | zero => intro v4 M; exact s_none
  | succ f ih =>
    intro v4 M
    rw [f_M_book_L42]
    refine s_iload 3 dX12_book_42 rfl ?_
    refine s_aload_n 0 dX12_book_44 rfl ?_
    refine n_getR (x := 98) dX12_book_45 okf_M_44_11 rfl rfl so_86 (sh_lt so_86 rfl) rfl ?_
    refine s_iload_n 1 dX12_book_48 rfl ?_
    refine n_ial dX12_book_49 sa_98 ?_
    refine s_icmp_ge (tgt := 91) dX12_book_50 (by decide) (fun _ => ?_) (fun _ => ?_)
    · refine s_aload_n 0 dX12_book_91 rfl ?_
      refine s_aload_n 0 dX12_book_92 rfl ?_
      refine n_getR (x := 98) dX12_book_93 okf_M_44_11 rfl rfl so_86 (sh_lt so_86 rfl) rfl ?_
      refine s_iload_n 1 dX12_book_96 rfl ?_
      refine n_ial dX12_book_97 sa_98 ?_
      refine n_invV_i dX12_book_98 ok_X12_takesBack rfl wt_1188 wt_1190 ws_45 (ci := 11) rfl rfl so_86 (sh_lt so_86 rfl) [.int (M.1 98 (ix v1))] rfl rfl rfl rfl (c_M_takesBack l G _ _) (fun r7 M8 => ?_)
      exact n_iret dX12_book_101 rfl
    · refine s_aload_n 0 dX12_book_53 rfl ?_
      refine n_getR (x := 99) dX12_book_54 okf_M_47_11 rfl rfl so_86 (sh_lt so_86 rfl) rfl ?_
      refine s_bipush (v := 40) dX12_book_57 (by decide) ?_
      refine s_iload_n 1 dX12_book_59 rfl ?_
      refine s_imul dX12_book_60 ?_
      refine s_iload 3 dX12_book_61 rfl ?_
      refine s_iadd dX12_book_63 ?_
      refine s_aload_n 0 dX12_book_64 rfl ?_
      refine n_getR (x := 97) dX12_book_65 okf_M_41_11 rfl rfl so_86 (sh_lt so_86 rfl) rfl ?_
      refine s_iload_n 1 dX12_book_68 rfl ?_
      refine n_ial dX12_book_69 sa_97 ?_
      refine s_aload_n 0 dX12_book_70 rfl ?_
      refine s_iload_n 2 dX12_book_71 rfl ?_
      refine s_iconst (v := 3) dX12_book_72 (by decide) ?_
      refine n_invV_i dX12_book_73 ok_X12_its rfl wt_1013 wt_1015 ws_26 (ci := 11) rfl rfl so_86 (sh_lt so_86 rfl) [.int v2, .int 3] rfl rfl rfl rfl (c_M_its l G _ _ _) (fun r9 M10 => ?_)
      refine s_i2l dX12_book_76 ?_
      refine n_invS_l dX12_book_77 ok_X12_narrowed rfl wt_1345 wt_1346 [.int (M.1 97 (ix v1)), .long r9.toInt64] rfl rfl rfl rfl (c_M_narrowed l G _ _ _) (fun r11 M12 => ?_)
      refine n_las dX12_book_80 sa_99 ?_
      refine s_topM (fun M13 => ?_)
      refine s_aload_n 0 dX12_book_81 rfl ?_
      refine n_invV_u dX12_book_82 ok_X12_year rfl wt_1159 wt_1161 ws_40 (ci := 11) rfl rfl so_86 (sh_lt so_86 rfl) [] rfl rfl rfl rfl (c_M_year l G _) (fun r14 M15 => ?_)
      refine s_iinc (v := 1) (lv' := [(4, .int (v4 + 1)), (0, aR G 86), (1, .int v1), (2, .int v2)]) 3 dX12_book_85 rfl (by decide) rfl rfl ?_
      refine s_goto (tgt := 42) dX12_book_88 (by decide) ?_
      refine s_lv [1, 2, 3, 0] (lv' := [(0, aR G 86), (1, .int v1), (2, .int v2), (4, .int (v4 + 1))]) rfl ?_
      exact ih _ _
def f_M_book_B24  (v1 : Int32) (v2 : Int32) (s0 : Int32) (M : Nm) : Option (Int32 × Nm) := if s0 = 0 then (bnd (f_M_laysAside M) fun r5 M6 => f_M_book_L42 v1 v2 FU 0 M6) else (bnd (f_M_finds s0 M) fun r16 M17 => some (r16, M17))
theorem c_M_book_B24 (l : Launch) (G : Gl)  (v1 : Int32) (v2 : Int32) (s0 : Int32)   (M : Nm) : NJ l G Y_X12_book (zR 6 144) eI 24 [(0, aR G 86), (1, .int v1), (2, .int v2)] [.int s0] M (f_M_book_B24 v1 v2 s0 M) := by
  unfold f_M_book_B24
  refine s_istore_n (i := 3) (lv' := [(3, .int s0), (0, aR G 86), (1, .int v1), (2, .int v2)]) dX12_book_24 rfl rfl rfl ?_
  refine s_iload_n 0 dX12_book_25 rfl ?_
  refine s_if_eq (tgt := 35) dX12_book_26 (by decide) (fun _ => ?_) (fun _ => ?_)
  · refine s_aload_n 1 dX12_book_35 rfl ?_
    refine n_invV_u dX12_book_36 ok_X12_laysAside rfl wt_1180 wt_1182 ws_43 (ci := 11) rfl rfl so_86 (sh_lt so_86 rfl) [] rfl rfl rfl rfl (c_M_laysAside l G _) (fun r5 M6 => ?_)
    refine s_iconst (v := 0) dX12_book_39 (by decide) ?_
    refine s_istore (lv' := [(4, .int 0), (3, .int s0), (0, aR G 86), (1, .int v1), (2, .int v2)]) dX12_book_40 rfl rfl ?_
    refine s_lv [2, 3, 4, 0] (lv' := [(0, aR G 86), (1, .int v1), (2, .int v2), (4, .int 0)]) rfl ?_
    refine c_M_book_L42 l G _ _ FU _ _
  · refine s_aload_n 1 dX12_book_29 rfl ?_
    refine s_iload_n 0 dX12_book_30 rfl ?_
    refine n_invV_i dX12_book_31 ok_X12_finds rfl wt_992 wt_994 ws_22 (ci := 11) rfl rfl so_86 (sh_lt so_86 rfl) [.int s0] rfl rfl rfl rfl (c_M_finds l G _ _) (fun r16 M17 => ?_)
    exact n_iret dX12_book_34 rfl
def f_M_book (v1 : Int32) (v2 : Int32) (M : Nm) : Option (Int32 × Nm) := bnd (f_M_wrong v1 M) fun r1 M2 => if r1 = 0 then (bnd (f_M_isHand v2 M2) fun r3 M4 => if r3 = 0 then (f_M_book_B24 v1 v2 (-1000000001) M4) else (f_M_book_B24 v1 v2 r1 M4)) else (f_M_book_B24 v1 v2 r1 M2)
theorem c_M_book (l : Launch) (G : Gl) (v1 : Int32) (v2 : Int32)  (M : Nm) : NJ l G Y_X12_book (zR 6 144) eI 0 (lv_args 0 [aR G 86, .int v1, .int v2]) [] M (f_M_book v1 v2 M) := by
  unfold f_M_book
  show NJ l G Y_X12_book (zR 6 144) eI 0 [(0, aR G 86), (1, .int v1), (2, .int v2)] [] M _
  refine s_aload_n 0 dX12_book_0 rfl ?_
  refine s_iload_n 1 dX12_book_1 rfl ?_
  refine n_invV_i dX12_book_2 ok_X12_wrong rfl wt_1340 wt_1342 ws_60 (ci := 11) rfl rfl so_86 (sh_lt so_86 rfl) [.int v1] rfl rfl rfl rfl (c_M_wrong l G _ _) (fun r1 M2 => ?_)
  refine s_istore_n (i := 3) (lv' := [(3, .int r1), (0, aR G 86), (1, .int v1), (2, .int v2)]) dX12_book_5 rfl rfl rfl ?_
  refine s_iload_n 0 dX12_book_6 rfl ?_
  refine s_if_ne (tgt := 23) dX12_book_7 (by decide) (fun _ => ?_) (fun _ => ?_)
  · refine s_aload_n 1 dX12_book_10 rfl ?_
    refine s_iload_n 3 dX12_book_11 rfl ?_
    refine n_invV_i dX12_book_12 ok_X12_isHand rfl wt_1080 wt_1082 ws_34 (ci := 11) rfl rfl so_86 (sh_lt so_86 rfl) [.int v2] rfl rfl rfl rfl (c_M_isHand l G _ _) (fun r3 M4 => ?_)
    refine s_if_ne (tgt := 23) dX12_book_15 (by decide) (fun _ => ?_) (fun _ => ?_)
    · refine s_ldc (v := (-1000000001)) dX12_book_18 wt_991 ?_
      refine s_goto (tgt := 24) dX12_book_20 (by decide) ?_
      refine s_lv [1, 2, 3] (lv' := [(0, aR G 86), (1, .int v1), (2, .int v2)]) rfl ?_
      exact c_M_book_B24 l G _ _ _ _
    · refine s_iload_n 0 dX12_book_23 rfl ?_
      refine s_lv [1, 2, 3] (lv' := [(0, aR G 86), (1, .int v1), (2, .int v2)]) rfl ?_
      exact c_M_book_B24 l G _ _ _ _
  · refine s_iload_n 0 dX12_book_23 rfl ?_
    refine s_lv [1, 2, 3] (lv' := [(0, aR G 86), (1, .int v1), (2, .int v2)]) rfl ?_
    exact c_M_book_B24 l G _ _ _ _
def f_M_isBook_L2  (v1 : Int32) (v2 : Int32) : Nat → Int32 → Nm → Option (Int32 × Nm)
  | 0, _, _ => none
  | f + 1, v3, M => grd (inb v1 4) <| if (M.1 98 (ix v1)) ≤ v3 then (some (1, M)) else (grd (inb ((40 * v1) + v3) 160) <| bnd (f_M_its v2 3 M) fun r1 M2 => if (lg_cmp (M.2.1 99 (ix ((40 * v1) + v3))) r1.toInt64) = 0 then (bnd (f_M_year M2) fun r3 M4 => f_M_isBook_L2 v1 v2 f (v3 + 1) M4) else (some (0, M2)))
theorem c_M_isBook_L2 (l : Launch) (G : Gl)  (v1 : Int32) (v2 : Int32)   : ∀ (f : Nat) (v3 : Int32)  (M : Nm), NJ l G Y_X12_isBook (zR 6 144) eI 2 [(0, aR G 86), (1, .int v1), (2, .int v2), (3, .int v3)] [] M (f_M_isBook_L2 v1 v2 f v3 M) := by
  intro f
  induction f with
  | zero => intro v3 M; exact s_none
  | succ f ih =>
    intro v3 M
    rw [f_M_isBook_L2]
    refine s_iload_n 3 dX12_isBook_2 rfl ?_
    refine s_aload_n 0 dX12_isBook_3 rfl ?_
    refine n_getR (x := 98) dX12_isBook_4 okf_M_44_11 rfl rfl so_86 (sh_lt so_86 rfl) rfl ?_
    refine s_iload_n 1 dX12_isBook_7 rfl ?_
    refine n_ial dX12_isBook_8 sa_98 ?_
    refine s_icmp_ge (tgt := 46) dX12_isBook_9 (by decide) (fun _ => ?_) (fun _ => ?_)
    · refine s_iconst (v := 1) dX12_isBook_46 (by decide) ?_
      exact n_zret1 dX12_isBook_47 rfl
    · refine s_aload_n 0 dX12_isBook_12 rfl ?_
      refine n_getR (x := 99) dX12_isBook_13 okf_M_47_11 rfl rfl so_86 (sh_lt so_86 rfl) rfl ?_
      refine s_bipush (v := 40) dX12_isBook_16 (by decide) ?_
      refine s_iload_n 1 dX12_isBook_18 rfl ?_
      refine s_imul dX12_isBook_19 ?_
      refine s_iload_n 3 dX12_isBook_20 rfl ?_
      refine s_iadd dX12_isBook_21 ?_
      refine n_lal dX12_isBook_22 sa_99 ?_
      refine s_aload_n 0 dX12_isBook_23 rfl ?_
      refine s_iload_n 2 dX12_isBook_24 rfl ?_
      refine s_iconst (v := 3) dX12_isBook_25 (by decide) ?_
      refine n_invV_i dX12_isBook_26 ok_X12_its rfl wt_1013 wt_1015 ws_26 (ci := 11) rfl rfl so_86 (sh_lt so_86 rfl) [.int v2, .int 3] rfl rfl rfl rfl (c_M_its l G _ _ _) (fun r1 M2 => ?_)
      refine s_i2l dX12_isBook_29 ?_
      refine s_lcmp dX12_isBook_30 ?_
      refine s_if_eq (tgt := 36) dX12_isBook_31 (by decide) (fun _ => ?_) (fun _ => ?_)
      · refine s_aload_n 0 dX12_isBook_36 rfl ?_
        refine n_invV_u dX12_isBook_37 ok_X12_year rfl wt_1159 wt_1161 ws_40 (ci := 11) rfl rfl so_86 (sh_lt so_86 rfl) [] rfl rfl rfl rfl (c_M_year l G _) (fun r3 M4 => ?_)
        refine s_iinc (v := 1) (lv' := [(3, .int (v3 + 1)), (0, aR G 86), (1, .int v1), (2, .int v2)]) 3 dX12_isBook_40 rfl (by decide) rfl rfl ?_
        refine s_goto (tgt := 2) dX12_isBook_43 (by decide) ?_
        refine s_lv [1, 2, 3, 0] (lv' := [(0, aR G 86), (1, .int v1), (2, .int v2), (3, .int (v3 + 1))]) rfl ?_
        exact ih _ _
      · refine s_iconst (v := 0) dX12_isBook_34 (by decide) ?_
        exact n_zret0 dX12_isBook_35 rfl
def f_M_isBook (v1 : Int32) (v2 : Int32) (M : Nm) : Option (Int32 × Nm) := f_M_isBook_L2 v1 v2 FU 0 M
theorem c_M_isBook (l : Launch) (G : Gl) (v1 : Int32) (v2 : Int32)  (M : Nm) : NJ l G Y_X12_isBook (zR 6 144) eI 0 (lv_args 0 [aR G 86, .int v1, .int v2]) [] M (f_M_isBook v1 v2 M) := by
  unfold f_M_isBook
  show NJ l G Y_X12_isBook (zR 6 144) eI 0 [(0, aR G 86), (1, .int v1), (2, .int v2)] [] M _
  refine s_iconst (v := 0) dX12_isBook_0 (by decide) ?_
  refine s_istore_n (i := 3) (lv' := [(3, .int 0), (0, aR G 86), (1, .int v1), (2, .int v2)]) dX12_isBook_1 rfl rfl rfl ?_
  refine s_lv [1, 2, 3, 0] (lv' := [(0, aR G 86), (1, .int v1), (2, .int v2), (3, .int 0)]) rfl ?_
  refine c_M_isBook_L2 l G _ _ FU _ _
def f_M_read_L45  (v1 : Int32) (v2 : Int32) : Nat → Int32 → Int32 → Nm → Option (Int32 × Nm)
  | 0, _, _, _ => none
  | f + 1, v4, v5, M => if 288 ≤ v5 then (some (v4, M)) else (bnd (f_M_spot v2 0 M) fun r7 M8 => grd (inb r7 176) <| bl (mI M8 87 (ix r7) (v5 / 48)) fun M9 => bnd (f_M_spot v2 1 M9) fun r10 M11 => grd (inb r10 176) <| bl (mI M11 87 (ix r10) (v5 - v5 / 48 * 48)) fun M12 => bnd (f_M_isBook v1 v2 M12) fun r13 M14 => if r13 = 0 then (bnd (f_M_takesBack (v4 + 0) M14) fun r15 M16 => f_M_read_L45 v1 v2 f r15 (v5 + 1) M16) else (bnd (f_M_takesBack (v4 + 1) M14) fun r17 M18 => f_M_read_L45 v1 v2 f r17 (v5 + 1) M18))
theorem c_M_read_L45 (l : Launch) (G : Gl)  (v1 : Int32) (v2 : Int32)   : ∀ (f : Nat) (v4 : Int32) (v5 : Int32)  (M : Nm), NJ l G Y_X12_read (zR 7 167) eI 45 [(0, aR G 86), (1, .int v1), (2, .int v2), (4, .int v4), (5, .int v5)] [] M (f_M_read_L45 v1 v2 f v4 v5 M) := by
  intro f
  induction f with
  | zero => intro v4 v5 M; exact s_none
  | succ f ih =>
    intro v4 v5 M
    rw [f_M_read_L45]
    refine s_iload 4 dX12_read_45 rfl ?_
    refine s_sipush (v := 288) dX12_read_47 (by decide) ?_
    refine s_icmp_ge (tgt := 112) dX12_read_50 (by decide) (fun _ => ?_) (fun _ => ?_)
    · refine s_iload 3 dX12_read_112 rfl ?_
      exact n_iret dX12_read_114 rfl
    · refine s_aload_n 0 dX12_read_53 rfl ?_
      refine n_getR (x := 87) dX12_read_54 okf_M_7_11 rfl rfl so_86 (sh_lt so_86 rfl) rfl ?_
      refine s_iload_n 2 dX12_read_57 rfl ?_
      refine s_iconst (v := 0) dX12_read_58 (by decide) ?_
      refine n_invS_i dX12_read_59 ok_X12_spot rfl wt_1017 wt_1018 [.int v2, .int 0] rfl rfl rfl rfl (c_M_spot l G _ _ _) (fun r7 M8 => ?_)
      refine s_iload 4 dX12_read_62 rfl ?_
      refine s_bipush (v := 48) dX12_read_64 (by decide) ?_
      refine s_idiv dX12_read_66 (by decide) ?_
      refine n_ias dX12_read_67 sa_87 ?_
      refine s_topM (fun M9 => ?_)
      refine s_aload_n 0 dX12_read_68 rfl ?_
      refine n_getR (x := 87) dX12_read_69 okf_M_7_11 rfl rfl so_86 (sh_lt so_86 rfl) rfl ?_
      refine s_iload_n 2 dX12_read_72 rfl ?_
      refine s_iconst (v := 1) dX12_read_73 (by decide) ?_
      refine n_invS_i dX12_read_74 ok_X12_spot rfl wt_1017 wt_1018 [.int v2, .int 1] rfl rfl rfl rfl (c_M_spot l G _ _ _) (fun r10 M11 => ?_)
      refine s_iload 4 dX12_read_77 rfl ?_
      refine s_bipush (v := 48) dX12_read_79 (by decide) ?_
      refine s_irem dX12_read_81 (by decide) ?_
      refine n_ias dX12_read_82 sa_87 ?_
      refine s_topM (fun M12 => ?_)
      refine s_aload_n 0 dX12_read_83 rfl ?_
      refine s_iload 3 dX12_read_84 rfl ?_
      refine s_aload_n 0 dX12_read_86 rfl ?_
      refine s_iload_n 1 dX12_read_87 rfl ?_
      refine s_iload_n 2 dX12_read_88 rfl ?_
      refine n_invV_i dX12_read_89 ok_X12_isBook rfl wt_1364 wt_1366 ws_61 (ci := 11) rfl rfl so_86 (sh_lt so_86 rfl) [.int v1, .int v2] rfl rfl rfl rfl (c_M_isBook l G _ _ _) (fun r13 M14 => ?_)
      refine s_if_eq (tgt := 99) dX12_read_92 (by decide) (fun _ => ?_) (fun _ => ?_)
      · refine s_iconst (v := 0) dX12_read_99 (by decide) ?_
        refine s_iadd dX12_read_100 ?_
        refine n_invV_i dX12_read_101 ok_X12_takesBack rfl wt_1188 wt_1190 ws_45 (ci := 11) rfl rfl so_86 (sh_lt so_86 rfl) [.int (v4 + 0)] rfl rfl rfl rfl (c_M_takesBack l G _ _) (fun r15 M16 => ?_)
        refine s_istore (lv' := [(4, .int r15), (0, aR G 86), (1, .int v1), (2, .int v2), (5, .int v5)]) dX12_read_104 rfl rfl ?_
        refine s_iinc (v := 1) (lv' := [(5, .int (v5 + 1)), (4, .int r15), (0, aR G 86), (1, .int v1), (2, .int v2)]) 4 dX12_read_106 rfl (by decide) rfl rfl ?_
        refine s_goto (tgt := 45) dX12_read_109 (by decide) ?_
        refine s_lv [2, 3, 4, 1, 0] (lv' := [(0, aR G 86), (1, .int v1), (2, .int v2), (4, .int r15), (5, .int (v5 + 1))]) rfl ?_
        exact ih _ _ _
      · refine s_iconst (v := 1) dX12_read_95 (by decide) ?_
        refine s_goto (tgt := 100) dX12_read_96 (by decide) ?_
        refine s_iadd dX12_read_100 ?_
        refine n_invV_i dX12_read_101 ok_X12_takesBack rfl wt_1188 wt_1190 ws_45 (ci := 11) rfl rfl so_86 (sh_lt so_86 rfl) [.int (v4 + 1)] rfl rfl rfl rfl (c_M_takesBack l G _ _) (fun r17 M18 => ?_)
        refine s_istore (lv' := [(4, .int r17), (0, aR G 86), (1, .int v1), (2, .int v2), (5, .int v5)]) dX12_read_104 rfl rfl ?_
        refine s_iinc (v := 1) (lv' := [(5, .int (v5 + 1)), (4, .int r17), (0, aR G 86), (1, .int v1), (2, .int v2)]) 4 dX12_read_106 rfl (by decide) rfl rfl ?_
        refine s_goto (tgt := 45) dX12_read_109 (by decide) ?_
        refine s_lv [2, 3, 4, 1, 0] (lv' := [(0, aR G 86), (1, .int v1), (2, .int v2), (4, .int r17), (5, .int (v5 + 1))]) rfl ?_
        exact ih _ _ _
def f_M_read_B24  (v1 : Int32) (v2 : Int32) (s0 : Int32) (M : Nm) : Option (Int32 × Nm) := if s0 = 0 then (bnd (f_M_laysAside M) fun r5 M6 => f_M_read_L45 v1 v2 FU 0 0 M6) else (bnd (f_M_finds s0 M) fun r19 M20 => some (r19, M20))
theorem c_M_read_B24 (l : Launch) (G : Gl)  (v1 : Int32) (v2 : Int32) (s0 : Int32)   (M : Nm) : NJ l G Y_X12_read (zR 7 167) eI 24 [(0, aR G 86), (1, .int v1), (2, .int v2)] [.int s0] M (f_M_read_B24 v1 v2 s0 M) := by
  unfold f_M_read_B24
  refine s_istore_n (i := 3) (lv' := [(3, .int s0), (0, aR G 86), (1, .int v1), (2, .int v2)]) dX12_read_24 rfl rfl rfl ?_
  refine s_iload_n 0 dX12_read_25 rfl ?_
  refine s_if_eq (tgt := 35) dX12_read_26 (by decide) (fun _ => ?_) (fun _ => ?_)
  · refine s_aload_n 1 dX12_read_35 rfl ?_
    refine n_invV_u dX12_read_36 ok_X12_laysAside rfl wt_1180 wt_1182 ws_43 (ci := 11) rfl rfl so_86 (sh_lt so_86 rfl) [] rfl rfl rfl rfl (c_M_laysAside l G _) (fun r5 M6 => ?_)
    refine s_iconst (v := 0) dX12_read_39 (by decide) ?_
    refine s_istore (lv' := [(4, .int 0), (3, .int s0), (0, aR G 86), (1, .int v1), (2, .int v2)]) dX12_read_40 rfl rfl ?_
    refine s_iconst (v := 0) dX12_read_42 (by decide) ?_
    refine s_istore (lv' := [(5, .int 0), (4, .int 0), (3, .int s0), (0, aR G 86), (1, .int v1), (2, .int v2)]) dX12_read_43 rfl rfl ?_
    refine s_lv [3, 4, 5, 1, 0] (lv' := [(0, aR G 86), (1, .int v1), (2, .int v2), (4, .int 0), (5, .int 0)]) rfl ?_
    refine c_M_read_L45 l G _ _ FU _ _ _
  · refine s_aload_n 1 dX12_read_29 rfl ?_
    refine s_iload_n 0 dX12_read_30 rfl ?_
    refine n_invV_i dX12_read_31 ok_X12_finds rfl wt_992 wt_994 ws_22 (ci := 11) rfl rfl so_86 (sh_lt so_86 rfl) [.int s0] rfl rfl rfl rfl (c_M_finds l G _ _) (fun r19 M20 => ?_)
    exact n_iret dX12_read_34 rfl
def f_M_read (v1 : Int32) (v2 : Int32) (M : Nm) : Option (Int32 × Nm) := bnd (f_M_wrong v1 M) fun r1 M2 => if r1 = 0 then (bnd (f_M_isHand v2 M2) fun r3 M4 => if r3 = 0 then (f_M_read_B24 v1 v2 (-1000000001) M4) else (f_M_read_B24 v1 v2 r1 M4)) else (f_M_read_B24 v1 v2 r1 M2)
theorem c_M_read (l : Launch) (G : Gl) (v1 : Int32) (v2 : Int32)  (M : Nm) : NJ l G Y_X12_read (zR 7 167) eI 0 (lv_args 0 [aR G 86, .int v1, .int v2]) [] M (f_M_read v1 v2 M) := by
  unfold f_M_read
  show NJ l G Y_X12_read (zR 7 167) eI 0 [(0, aR G 86), (1, .int v1), (2, .int v2)] [] M _
  refine s_aload_n 0 dX12_read_0 rfl ?_
  refine s_iload_n 1 dX12_read_1 rfl ?_
  refine n_invV_i dX12_read_2 ok_X12_wrong rfl wt_1340 wt_1342 ws_60 (ci := 11) rfl rfl so_86 (sh_lt so_86 rfl) [.int v1] rfl rfl rfl rfl (c_M_wrong l G _ _) (fun r1 M2 => ?_)
  refine s_istore_n (i := 3) (lv' := [(3, .int r1), (0, aR G 86), (1, .int v1), (2, .int v2)]) dX12_read_5 rfl rfl rfl ?_
  refine s_iload_n 0 dX12_read_6 rfl ?_
  refine s_if_ne (tgt := 23) dX12_read_7 (by decide) (fun _ => ?_) (fun _ => ?_)
  · refine s_aload_n 1 dX12_read_10 rfl ?_
    refine s_iload_n 3 dX12_read_11 rfl ?_
    refine n_invV_i dX12_read_12 ok_X12_isHand rfl wt_1080 wt_1082 ws_34 (ci := 11) rfl rfl so_86 (sh_lt so_86 rfl) [.int v2] rfl rfl rfl rfl (c_M_isHand l G _ _) (fun r3 M4 => ?_)
    refine s_if_ne (tgt := 23) dX12_read_15 (by decide) (fun _ => ?_) (fun _ => ?_)
    · refine s_ldc (v := (-1000000001)) dX12_read_18 wt_991 ?_
      refine s_goto (tgt := 24) dX12_read_20 (by decide) ?_
      refine s_lv [1, 2, 3] (lv' := [(0, aR G 86), (1, .int v1), (2, .int v2)]) rfl ?_
      exact c_M_read_B24 l G _ _ _ _
    · refine s_iload_n 0 dX12_read_23 rfl ?_
      refine s_lv [1, 2, 3] (lv' := [(0, aR G 86), (1, .int v1), (2, .int v2)]) rfl ?_
      exact c_M_read_B24 l G _ _ _ _
  · refine s_iload_n 0 dX12_read_23 rfl ?_
    refine s_lv [1, 2, 3] (lv' := [(0, aR G 86), (1, .int v1), (2, .int v2)]) rfl ?_
    exact c_M_read_B24 l G _ _ _ _
def f_M_image_L2   : Nat → Int32 → Nm → Option (Int32 × Nm)
  | 0, _, _ => none
  | f + 1, v1, M => if 176 ≤ v1 then (grd (decide ((1 : Int32) = 0) || decide ((1 : Int32) = 1)) <| bl (mI M 86 5 1) fun M1 => some (1, M1)) else (grd (inb v1 176) <| grd (inb v1 176) <| bl (mI M 88 (ix v1) (M.1 87 (ix v1))) fun M2 => f_M_image_L2 f (v1 + 1) M2)
theorem c_M_image_L2 (l : Launch) (G : Gl)     : ∀ (f : Nat) (v1 : Int32)  (M : Nm), NJ l G Y_X12_image (zR 0 0) eI 2 [(0, aR G 86), (1, .int v1)] [] M (f_M_image_L2 f v1 M) := by
  intro f
  induction f with
  | zero => intro v1 M; exact s_none
  | succ f ih =>
    intro v1 M
    rw [f_M_image_L2]
    refine s_iload_n 1 dX12_image_2 rfl ?_
    refine s_sipush (v := 176) dX12_image_3 (by decide) ?_
    refine s_icmp_ge (tgt := 27) dX12_image_6 (by decide) (fun _ => ?_) (fun _ => ?_)
    · refine s_aload_n 0 dX12_image_27 rfl ?_
      refine s_iconst (v := 1) dX12_image_28 (by decide) ?_
      refine n_putZ dX12_image_29 okp_M_325_11 rfl rfl so_86 (sh_lt so_86 rfl) ?_
      refine s_topM (fun M1 => ?_)
      refine s_iconst (v := 1) dX12_image_32 (by decide) ?_
      exact n_iret dX12_image_33 rfl
    · refine s_aload_n 0 dX12_image_9 rfl ?_
      refine n_getR (x := 88) dX12_image_10 okf_M_13_11 rfl rfl so_86 (sh_lt so_86 rfl) rfl ?_
      refine s_iload_n 1 dX12_image_13 rfl ?_
      refine s_aload_n 0 dX12_image_14 rfl ?_
      refine n_getR (x := 87) dX12_image_15 okf_M_7_11 rfl rfl so_86 (sh_lt so_86 rfl) rfl ?_
      refine s_iload_n 1 dX12_image_18 rfl ?_
      refine n_ial dX12_image_19 sa_87 ?_
      refine n_ias dX12_image_20 sa_88 ?_
      refine s_topM (fun M2 => ?_)
      refine s_iinc (v := 1) (lv' := [(1, .int (v1 + 1)), (0, aR G 86)]) 1 dX12_image_21 rfl (by decide) rfl rfl ?_
      refine s_goto (tgt := 2) dX12_image_24 (by decide) ?_
      refine s_lv [1, 0] (lv' := [(0, aR G 86), (1, .int (v1 + 1))]) rfl ?_
      exact ih _ _
def f_M_image  (M : Nm) : Option (Int32 × Nm) := f_M_image_L2 FU 0 M
theorem c_M_image (l : Launch) (G : Gl)   (M : Nm) : NJ l G Y_X12_image (zR 0 0) eI 0 (lv_args 0 [aR G 86]) [] M (f_M_image  M) := by
  unfold f_M_image
  show NJ l G Y_X12_image (zR 0 0) eI 0 [(0, aR G 86)] [] M _
  refine s_iconst (v := 0) dX12_image_0 (by decide) ?_
  refine s_istore_n (i := 1) (lv' := [(1, .int 0), (0, aR G 86)]) dX12_image_1 rfl rfl rfl ?_
  refine s_lv [1, 0] (lv' := [(0, aR G 86), (1, .int 0)]) rfl ?_
  refine c_M_image_L2 l G FU _ _
def f_M_undo_L16   : Nat → Int32 → Nm → Option (Int32 × Nm)
  | 0, _, _ => none
  | f + 1, v1, M => if 176 ≤ v1 then (grd (inb 0 176) <| some (M.1 87 (ix 0), M)) else (grd (inb v1 176) <| grd (inb v1 176) <| bl (mI M 87 (ix v1) (M.1 88 (ix v1))) fun M3 => f_M_undo_L16 f (v1 + 1) M3)
theorem c_M_undo_L16 (l : Launch) (G : Gl)     : ∀ (f : Nat) (v1 : Int32)  (M : Nm), NJ l G Y_X12_undo (zR 1 21) eI 16 [(0, aR G 86), (1, .int v1)] [] M (f_M_undo_L16 f v1 M) := by
  intro f
  induction f with
  | zero => intro v1 M; exact s_none
  | succ f ih =>
    intro v1 M
    rw [f_M_undo_L16]
    refine s_iload_n 1 dX12_undo_16 rfl ?_
    refine s_sipush (v := 176) dX12_undo_17 (by decide) ?_
    refine s_icmp_ge (tgt := 41) dX12_undo_20 (by decide) (fun _ => ?_) (fun _ => ?_)
    · refine s_aload_n 0 dX12_undo_41 rfl ?_
      refine n_getR (x := 87) dX12_undo_42 okf_M_7_11 rfl rfl so_86 (sh_lt so_86 rfl) rfl ?_
      refine s_iconst (v := 0) dX12_undo_45 (by decide) ?_
      refine n_ial dX12_undo_46 sa_87 ?_
      exact n_iret dX12_undo_47 rfl
    · refine s_aload_n 0 dX12_undo_23 rfl ?_
      refine n_getR (x := 87) dX12_undo_24 okf_M_7_11 rfl rfl so_86 (sh_lt so_86 rfl) rfl ?_
      refine s_iload_n 1 dX12_undo_27 rfl ?_
      refine s_aload_n 0 dX12_undo_28 rfl ?_
      refine n_getR (x := 88) dX12_undo_29 okf_M_13_11 rfl rfl so_86 (sh_lt so_86 rfl) rfl ?_
      refine s_iload_n 1 dX12_undo_32 rfl ?_
      refine n_ial dX12_undo_33 sa_88 ?_
      refine n_ias dX12_undo_34 sa_87 ?_
      refine s_topM (fun M3 => ?_)
      refine s_iinc (v := 1) (lv' := [(1, .int (v1 + 1)), (0, aR G 86)]) 1 dX12_undo_35 rfl (by decide) rfl rfl ?_
      refine s_goto (tgt := 16) dX12_undo_38 (by decide) ?_
      refine s_lv [1, 0] (lv' := [(0, aR G 86), (1, .int (v1 + 1))]) rfl ?_
      exact ih _ _
def f_M_undo  (M : Nm) : Option (Int32 × Nm) := if (M.1 86 5) = 0 then (bnd (f_M_finds (-1000000004) M) fun r1 M2 => some (r1, M2)) else (f_M_undo_L16 FU 0 M)
theorem c_M_undo (l : Launch) (G : Gl)   (M : Nm) : NJ l G Y_X12_undo (zR 1 21) eI 0 (lv_args 0 [aR G 86]) [] M (f_M_undo  M) := by
  unfold f_M_undo
  show NJ l G Y_X12_undo (zR 1 21) eI 0 [(0, aR G 86)] [] M _
  refine s_aload_n 0 dX12_undo_0 rfl ?_
  refine n_getI dX12_undo_1 okf_M_325_11 rfl rfl so_86 (sh_lt so_86 rfl) ?_
  refine s_if_ne (tgt := 14) dX12_undo_4 (by decide) (fun _ => ?_) (fun _ => ?_)
  · refine s_aload_n 0 dX12_undo_7 rfl ?_
    refine s_ldc (v := (-1000000004)) dX12_undo_8 wt_1200 ?_
    refine n_invV_i dX12_undo_10 ok_X12_finds rfl wt_992 wt_994 ws_22 (ci := 11) rfl rfl so_86 (sh_lt so_86 rfl) [.int (-1000000004)] rfl rfl rfl rfl (c_M_finds l G _ _) (fun r1 M2 => ?_)
    exact n_iret dX12_undo_13 rfl
  · refine s_iconst (v := 0) dX12_undo_14 (by decide) ?_
    refine s_istore_n (i := 1) (lv' := [(1, .int 0), (0, aR G 86)]) dX12_undo_15 rfl rfl rfl ?_
    refine s_lv [1, 0] (lv' := [(0, aR G 86), (1, .int 0)]) rfl ?_
    refine c_M_undo_L16 l G FU _ _
def f_M_tear  (M : Nm) : Option (Int32 × Nm) := if (M.1 86 5) = 0 then (grd (decide ((0 : Int32) = 0) || decide ((0 : Int32) = 1)) <| bl (mI M 86 5 0) fun M1 => some (0, M1)) else (grd (decide ((0 : Int32) = 0) || decide ((0 : Int32) = 1)) <| bl (mI M 86 5 0) fun M2 => some (1, M2))
theorem c_M_tear (l : Launch) (G : Gl)   (M : Nm) : NJ l G Y_X12_tear (zR 0 0) eI 0 (lv_args 0 [aR G 86]) [] M (f_M_tear  M) := by
  unfold f_M_tear
  show NJ l G Y_X12_tear (zR 0 0) eI 0 [(0, aR G 86)] [] M _
  refine s_aload_n 0 dX12_tear_0 rfl ?_
  refine n_getI dX12_tear_1 okf_M_325_11 rfl rfl so_86 (sh_lt so_86 rfl) ?_
  refine s_if_eq (tgt := 11) dX12_tear_4 (by decide) (fun _ => ?_) (fun _ => ?_)
  · refine s_iconst (v := 0) dX12_tear_11 (by decide) ?_
    refine s_istore_n (i := 1) (lv' := [(1, .int 0), (0, aR G 86)]) dX12_tear_12 rfl rfl rfl ?_
    refine s_aload_n 1 dX12_tear_13 rfl ?_
    refine s_iconst (v := 0) dX12_tear_14 (by decide) ?_
    refine n_putZ dX12_tear_15 okp_M_325_11 rfl rfl so_86 (sh_lt so_86 rfl) ?_
    refine s_topM (fun M1 => ?_)
    refine s_iload_n 0 dX12_tear_18 rfl ?_
    exact n_iret dX12_tear_19 rfl
  · refine s_iconst (v := 1) dX12_tear_7 (by decide) ?_
    refine s_goto (tgt := 12) dX12_tear_8 (by decide) ?_
    refine s_istore_n (i := 1) (lv' := [(1, .int 1), (0, aR G 86)]) dX12_tear_12 rfl rfl rfl ?_
    refine s_aload_n 1 dX12_tear_13 rfl ?_
    refine s_iconst (v := 0) dX12_tear_14 (by decide) ?_
    refine n_putZ dX12_tear_15 okp_M_325_11 rfl rfl so_86 (sh_lt so_86 rfl) ?_
    refine s_topM (fun M2 => ?_)
    refine s_iload_n 0 dX12_tear_18 rfl ?_
    exact n_iret dX12_tear_19 rfl
def f_M_costsAll_L8   : Nat → Int32 → Int32 → Nm → Option (Int32 × Nm)
  | 0, _, _, _ => none
  | f + 1, v1, v2, M => grd (inb 0 176) <| if (M.1 87 (ix 0)) ≤ v2 then (some (v1, M)) else (grd (inb v2 6) <| f_M_costsAll_L8 f (v1 + (M.1 94 (ix v2))) (v2 + 1) M)
theorem c_M_costsAll_L8 (l : Launch) (G : Gl)     : ∀ (f : Nat) (v1 : Int32) (v2 : Int32)  (M : Nm), NJ l G Y_X12_costsAll (zR 5 121) eI 8 [(0, aR G 86), (1, .int v1), (2, .int v2)] [] M (f_M_costsAll_L8 f v1 v2 M) := by
  intro f
  induction f with
  | zero => intro v1 v2 M; exact s_none
  | succ f ih =>
    intro v1 v2 M
    rw [f_M_costsAll_L8]
    refine s_iload_n 2 dX12_costsAll_8 rfl ?_
    refine s_aload_n 0 dX12_costsAll_9 rfl ?_
    refine n_getR (x := 87) dX12_costsAll_10 okf_M_7_11 rfl rfl so_86 (sh_lt so_86 rfl) rfl ?_
    refine s_iconst (v := 0) dX12_costsAll_13 (by decide) ?_
    refine n_ial dX12_costsAll_14 sa_87 ?_
    refine s_icmp_ge (tgt := 33) dX12_costsAll_15 (by decide) (fun _ => ?_) (fun _ => ?_)
    · refine s_iload_n 1 dX12_costsAll_33 rfl ?_
      exact n_iret dX12_costsAll_34 rfl
    · refine s_iload_n 1 dX12_costsAll_18 rfl ?_
      refine s_aload_n 0 dX12_costsAll_19 rfl ?_
      refine n_getR (x := 94) dX12_costsAll_20 okf_M_32_11 rfl rfl so_86 (sh_lt so_86 rfl) rfl ?_
      refine s_iload_n 2 dX12_costsAll_23 rfl ?_
      refine n_ial dX12_costsAll_24 sa_94 ?_
      refine s_iadd dX12_costsAll_25 ?_
      refine s_istore_n (i := 1) (lv' := [(1, .int (v1 + (M.1 94 (ix v2)))), (0, aR G 86), (2, .int v2)]) dX12_costsAll_26 rfl rfl rfl ?_
      refine s_iinc (v := 1) (lv' := [(2, .int (v2 + 1)), (1, .int (v1 + (M.1 94 (ix v2)))), (0, aR G 86)]) 2 dX12_costsAll_27 rfl (by decide) rfl rfl ?_
      refine s_goto (tgt := 8) dX12_costsAll_30 (by decide) ?_
      refine s_lv [2, 1, 0] (lv' := [(0, aR G 86), (1, .int (v1 + (M.1 94 (ix v2)))), (2, .int (v2 + 1))]) rfl ?_
      exact ih _ _ _
def f_M_costsAll  (M : Nm) : Option (Int32 × Nm) := bnd (f_M_writeAll M) fun r1 M2 => f_M_costsAll_L8 FU 0 0 M2
theorem c_M_costsAll (l : Launch) (G : Gl)   (M : Nm) : NJ l G Y_X12_costsAll (zR 5 121) eI 0 (lv_args 0 [aR G 86]) [] M (f_M_costsAll  M) := by
  unfold f_M_costsAll
  show NJ l G Y_X12_costsAll (zR 5 121) eI 0 [(0, aR G 86)] [] M _
  refine s_aload_n 0 dX12_costsAll_0 rfl ?_
  refine n_invV_u dX12_costsAll_1 ok_X12_writeAll rfl wt_1001 wt_1003 ws_23 (ci := 11) rfl rfl so_86 (sh_lt so_86 rfl) [] rfl rfl rfl rfl (c_M_writeAll l G _) (fun r1 M2 => ?_)
  refine s_iconst (v := 0) dX12_costsAll_4 (by decide) ?_
  refine s_istore_n (i := 1) (lv' := [(1, .int 0), (0, aR G 86)]) dX12_costsAll_5 rfl rfl rfl ?_
  refine s_iconst (v := 0) dX12_costsAll_6 (by decide) ?_
  refine s_istore_n (i := 2) (lv' := [(2, .int 0), (1, .int 0), (0, aR G 86)]) dX12_costsAll_7 rfl rfl rfl ?_
  refine s_lv [2, 1, 0] (lv' := [(0, aR G 86), (1, .int 0), (2, .int 0)]) rfl ?_
  refine c_M_costsAll_L8 l G FU _ _ _
def f_M_count (v1 : Int32) (M : Nm) : Option (Int32 × Nm) := if v1 = 0 then (grd (inb 0 176) <| some (M.1 87 (ix 0), M)) else if v1 = 1 then (some (M.1 86 11, M)) else if v1 = 2 then (bnd (f_M_together 4 M) fun r4 M5 => some (r4, M5)) else if v1 = 3 then (bnd (f_M_costsAll M) fun r7 M8 => some (r7, M8)) else (bnd (f_M_finds (-1000000001) M) fun r9 M10 => some (r9, M10))
theorem c_M_count (l : Launch) (G : Gl) (v1 : Int32)  (M : Nm) : NJ l G Y_X12_count (zR 6 143) eI 0 (lv_args 0 [aR G 86, .int v1]) [] M (f_M_count v1 M) := by
  unfold f_M_count
  show NJ l G Y_X12_count (zR 6 143) eI 0 [(0, aR G 86), (1, .int v1)] [] M _
  refine s_iload_n 1 dX12_count_0 rfl ?_
  refine s_ite (fun h1 => ?_) (fun h1 => ?_)
  · refine s_tin (tgt := 32) dX12_count_1 (by rw [h1]; decide) (by rw [h1]; decide) (by rw [h1]; rfl) (by decide) ?_
    refine s_aload_n 0 dX12_count_32 rfl ?_
    refine n_getR (x := 87) dX12_count_33 okf_M_7_11 rfl rfl so_86 (sh_lt so_86 rfl) rfl ?_
    refine s_iconst (v := 0) dX12_count_36 (by decide) ?_
    refine n_ial dX12_count_37 sa_87 ?_
    exact n_iret dX12_count_38 rfl
  refine s_ite (fun h2 => ?_) (fun h2 => ?_)
  · refine s_tin (tgt := 39) dX12_count_1 (by rw [h2]; decide) (by rw [h2]; decide) (by rw [h2]; rfl) (by decide) ?_
    refine s_aload_n 0 dX12_count_39 rfl ?_
    refine n_getI dX12_count_40 okf_M_212_11 rfl rfl so_86 (sh_lt so_86 rfl) ?_
    exact n_iret dX12_count_43 rfl
  refine s_ite (fun h3 => ?_) (fun h3 => ?_)
  · refine s_tin (tgt := 44) dX12_count_1 (by rw [h3]; decide) (by rw [h3]; decide) (by rw [h3]; rfl) (by decide) ?_
    refine s_aload_n 0 dX12_count_44 rfl ?_
    refine s_iconst (v := 4) dX12_count_45 (by decide) ?_
    refine n_invV_i dX12_count_46 ok_X12_together rfl wt_1164 wt_1166 ws_41 (ci := 11) rfl rfl so_86 (sh_lt so_86 rfl) [.int 4] rfl rfl rfl rfl (c_M_together l G _ _) (fun r4 M5 => ?_)
    exact n_iret dX12_count_49 rfl
  refine s_ite (fun h6 => ?_) (fun h6 => ?_)
  · refine s_tin (tgt := 50) dX12_count_1 (by rw [h6]; decide) (by rw [h6]; decide) (by rw [h6]; rfl) (by decide) ?_
    refine s_aload_n 0 dX12_count_50 rfl ?_
    refine n_invV_i dX12_count_51 ok_X12_costsAll rfl wt_1384 wt_1386 ws_62 (ci := 11) rfl rfl so_86 (sh_lt so_86 rfl) [] rfl rfl rfl rfl (c_M_costsAll l G _) (fun r7 M8 => ?_)
    exact n_iret dX12_count_54 rfl
  refine s_tout (tgt := 55) dX12_count_1 (sw_out (fun k h1 h2 => by rcases (show k = 0 ∨ k = 1 ∨ k = 2 ∨ k = 3 by omega) with rfl | rfl | rfl | rfl <;> assumption)) (by decide) ?_
  refine s_aload_n 0 dX12_count_55 rfl ?_
  refine s_ldc (v := (-1000000001)) dX12_count_56 wt_991 ?_
  refine n_invV_i dX12_count_58 ok_X12_finds rfl wt_992 wt_994 ws_22 (ci := 11) rfl rfl so_86 (sh_lt so_86 rfl) [.int (-1000000001)] rfl rfl rfl rfl (c_M_finds l G _ _) (fun r9 M10 => ?_)
  exact n_iret dX12_count_61 rfl
def f_M_status_L25  (v1 : Int32) : Nat → Int32 → Int32 → Nm → Option (Int32 × Nm)
  | 0, _, _, _ => none
  | f + 1, v2, v3, M => if 7 ≤ v3 then (some (v2, M)) else (if v1 < 0 then (grd (inb v3 7) <| f_M_status_L25 v1 f (v2 + (M.1 91 (ix v3))) (v3 + 1) M) else (if v3 = v1 then (grd (inb v3 7) <| f_M_status_L25 v1 f (v2 + (M.1 91 (ix v3))) (v3 + 1) M) else (f_M_status_L25 v1 f (v2 + 0) (v3 + 1) M)))
theorem c_M_status_L25 (l : Launch) (G : Gl)  (v1 : Int32)   : ∀ (f : Nat) (v2 : Int32) (v3 : Int32)  (M : Nm), NJ l G Y_X12_status (zR 1 25) eI 25 [(0, aR G 86), (1, .int v1), (2, .int v2), (3, .int v3)] [] M (f_M_status_L25 v1 f v2 v3 M) := by
  intro f
  induction f with
  | zero => intro v2 v3 M; exact s_none
  | succ f ih =>
    intro v2 v3 M
    rw [f_M_status_L25]
    refine s_iload_n 3 dX12_status_25 rfl ?_
    refine s_bipush (v := 7) dX12_status_26 (by decide) ?_
    refine s_icmp_ge (tgt := 59) dX12_status_28 (by decide) (fun _ => ?_) (fun _ => ?_)
    · refine s_iload_n 2 dX12_status_59 rfl ?_
      exact n_iret dX12_status_60 rfl
    · refine s_iload_n 2 dX12_status_31 rfl ?_
      refine s_iload_n 1 dX12_status_32 rfl ?_
      refine s_if_lt (tgt := 41) dX12_status_33 (by decide) (fun _ => ?_) (fun _ => ?_)
      · refine s_aload_n 0 dX12_status_41 rfl ?_
        refine n_getR (x := 91) dX12_status_42 okf_M_22_11 rfl rfl so_86 (sh_lt so_86 rfl) rfl ?_
        refine s_iload_n 3 dX12_status_45 rfl ?_
        refine n_ial dX12_status_46 sa_91 ?_
        refine s_goto (tgt := 51) dX12_status_47 (by decide) ?_
        refine s_iadd dX12_status_51 ?_
        refine s_istore_n (i := 2) (lv' := [(2, .int (v2 + (M.1 91 (ix v3)))), (0, aR G 86), (1, .int v1), (3, .int v3)]) dX12_status_52 rfl rfl rfl ?_
        refine s_iinc (v := 1) (lv' := [(3, .int (v3 + 1)), (2, .int (v2 + (M.1 91 (ix v3)))), (0, aR G 86), (1, .int v1)]) 3 dX12_status_53 rfl (by decide) rfl rfl ?_
        refine s_goto (tgt := 25) dX12_status_56 (by decide) ?_
        refine s_lv [2, 3, 1, 0] (lv' := [(0, aR G 86), (1, .int v1), (2, .int (v2 + (M.1 91 (ix v3)))), (3, .int (v3 + 1))]) rfl ?_
        exact ih _ _ _
      · refine s_iload_n 3 dX12_status_36 rfl ?_
        refine s_iload_n 1 dX12_status_37 rfl ?_
        refine s_icmp_ne (tgt := 50) dX12_status_38 (by decide) (fun _ => ?_) (fun _ => ?_)
        · refine s_aload_n 0 dX12_status_41 rfl ?_
          refine n_getR (x := 91) dX12_status_42 okf_M_22_11 rfl rfl so_86 (sh_lt so_86 rfl) rfl ?_
          refine s_iload_n 3 dX12_status_45 rfl ?_
          refine n_ial dX12_status_46 sa_91 ?_
          refine s_goto (tgt := 51) dX12_status_47 (by decide) ?_
          refine s_iadd dX12_status_51 ?_
          refine s_istore_n (i := 2) (lv' := [(2, .int (v2 + (M.1 91 (ix v3)))), (0, aR G 86), (1, .int v1), (3, .int v3)]) dX12_status_52 rfl rfl rfl ?_
          refine s_iinc (v := 1) (lv' := [(3, .int (v3 + 1)), (2, .int (v2 + (M.1 91 (ix v3)))), (0, aR G 86), (1, .int v1)]) 3 dX12_status_53 rfl (by decide) rfl rfl ?_
          refine s_goto (tgt := 25) dX12_status_56 (by decide) ?_
          refine s_lv [2, 3, 1, 0] (lv' := [(0, aR G 86), (1, .int v1), (2, .int (v2 + (M.1 91 (ix v3)))), (3, .int (v3 + 1))]) rfl ?_
          exact ih _ _ _
        · refine s_iconst (v := 0) dX12_status_50 (by decide) ?_
          refine s_iadd dX12_status_51 ?_
          refine s_istore_n (i := 2) (lv' := [(2, .int (v2 + 0)), (0, aR G 86), (1, .int v1), (3, .int v3)]) dX12_status_52 rfl rfl rfl ?_
          refine s_iinc (v := 1) (lv' := [(3, .int (v3 + 1)), (2, .int (v2 + 0)), (0, aR G 86), (1, .int v1)]) 3 dX12_status_53 rfl (by decide) rfl rfl ?_
          refine s_goto (tgt := 25) dX12_status_56 (by decide) ?_
          refine s_lv [2, 3, 1, 0] (lv' := [(0, aR G 86), (1, .int v1), (2, .int (v2 + 0)), (3, .int (v3 + 1))]) rfl ?_
          exact ih _ _ _
def f_M_status (v1 : Int32) (M : Nm) : Option (Int32 × Nm) := bnd (f_M_in v1.toInt64 (-1) 6 M) fun r1 M2 => if r1 = 0 then (bnd (f_M_finds (-1000000001) M2) fun r3 M4 => some (r3, M4)) else (f_M_status_L25 v1 FU 0 0 M2)
theorem c_M_status (l : Launch) (G : Gl) (v1 : Int32)  (M : Nm) : NJ l G Y_X12_status (zR 1 25) eI 0 (lv_args 0 [aR G 86, .int v1]) [] M (f_M_status v1 M) := by
  unfold f_M_status
  show NJ l G Y_X12_status (zR 1 25) eI 0 [(0, aR G 86), (1, .int v1)] [] M _
  refine s_iload_n 1 dX12_status_0 rfl ?_
  refine s_i2l dX12_status_1 ?_
  refine s_ldc2 (v := (-1)) dX12_status_2 wt_1031 ?_
  refine s_ldc2 (v := 6) dX12_status_5 wt_1392 ?_
  refine n_invS_i dX12_status_8 ok_X12_in rfl wt_984 wt_985 [.long v1.toInt64, .long (-1), .long 6] rfl rfl rfl rfl (c_M_in l G _ _ _ _) (fun r1 M2 => ?_)
  refine s_if_ne (tgt := 21) dX12_status_11 (by decide) (fun _ => ?_) (fun _ => ?_)
  · refine s_aload_n 0 dX12_status_14 rfl ?_
    refine s_ldc (v := (-1000000001)) dX12_status_15 wt_991 ?_
    refine n_invV_i dX12_status_17 ok_X12_finds rfl wt_992 wt_994 ws_22 (ci := 11) rfl rfl so_86 (sh_lt so_86 rfl) [.int (-1000000001)] rfl rfl rfl rfl (c_M_finds l G _ _) (fun r3 M4 => ?_)
    exact n_iret dX12_status_20 rfl
  · refine s_iconst (v := 0) dX12_status_21 (by decide) ?_
    refine s_istore_n (i := 2) (lv' := [(2, .int 0), (0, aR G 86), (1, .int v1)]) dX12_status_22 rfl rfl rfl ?_
    refine s_iconst (v := 0) dX12_status_23 (by decide) ?_
    refine s_istore_n (i := 3) (lv' := [(3, .int 0), (2, .int 0), (0, aR G 86), (1, .int v1)]) dX12_status_24 rfl rfl rfl ?_
    refine s_lv [2, 3, 1, 0] (lv' := [(0, aR G 86), (1, .int v1), (2, .int 0), (3, .int 0)]) rfl ?_
    refine c_M_status_L25 l G _ FU _ _ _
