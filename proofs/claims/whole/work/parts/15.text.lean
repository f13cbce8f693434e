/-! String constants: length, charAt -/
def f_str_len (w : Nat) (M : Nm) : Option (Int32 × Nm) := some (nI (lenS.getD w 0), M)
def f_str_at (w : Nat) (i : Int32) (M : Nm) : Option (Int32 × Nm) := grd (inb i (lenS.getD w 0)) (some (((bytS.getD w []).getD (ix i) 0) &&& 255, M))
section XS
variable {l : Launch} {G : Gl} {Y : My} {f q : Nat} {α : Type} {ε : α → Option Value} {pc idx w : Nat} {lv : List (Nat × Value)} {st : List Value} {M : Nm} {t : Option (α × Nm)}
theorem ad_str : ad G (1000 + w) = G.2.2.2.1 w := by
  unfold ad
  rw [if_neg (by omega), Nat.add_sub_cancel_left]
theorem k_comp (hd : decode Y.2.1 pc = .ok (.getstatic idx, 3)) (hlk : Cond.fieldLink Y.1.cls idx "java/lang/String" "COMPACT_STRINGS" "Z" ∈ wG) (kk : NJ l G Y (zR f q) ε (pc + 3) lv (.int 1 :: st) M t) : NJ l G Y (zR f q) ε pc lv st M t := by
  intro a Mf h p e s m args below meth co H locs ls C hl hR hS
  exact va_gets C.1 C.2.1 C.2.2.2.2.2.2.2.2.2.2.2.1 hS C.2.2.2.2.1 (C.2.2.2.2.2.1 _ hlk) (fun _ h => h) hd (kk a Mf h p e s m args below meth co H locs ls C hl hR hS)
theorem k_fmt (hd : decode Y.2.1 pc = .ok (.getstatic idx, 3)) (hlk : Cond.fieldLink Y.1.cls idx "jdk/internal/util/Preconditions" "SIOOBE_FORMATTER" "Ljava/util/function/BiFunction;" ∈ wG) (kk : ∀ r : Option Nat, NJ l G Y (zR f q) ε (pc + 3) lv (va_rf r :: st) M t) : NJ l G Y (zR f q) ε pc lv st M t := by
  intro a Mf h p e s m args below meth co H locs ls C hl hR hS
  rcases C.2.2.2.2.2.2.2.2.2.2.2.2.1 with hZ | ⟨x, hZ⟩
  · exact va_gets C.1 C.2.1 hZ hS C.2.2.2.2.1 (C.2.2.2.2.2.1 _ hlk) (fun _ h => h) hd (kk none a Mf h p e s m args below meth co H locs ls C hl hR hS)
  · exact va_gets C.1 C.2.1 hZ hS C.2.2.2.2.1 (C.2.2.2.2.2.1 _ hlk) (fun _ h => h) hd (kk (some x) a Mf h p e s m args below meth co H locs ls C hl hR hS)
theorem k_coder (hw : w < 14) (hd : decode Y.2.1 pc = .ok (.getfield idx, 3)) (hlk : Cond.fieldLink Y.1.cls idx "java/lang/String" "coder" "B" ∈ wG) (kk : NJ l G Y (zR f q) ε (pc + 3) lv (.int 0 :: st) M t) : NJ l G Y (zR f q) ε pc lv (aR G (1000 + w) :: st) M t := by
  intro a Mf h p e s m args below meth co H locs ls C hl hR hS
  rw [aR, ad_str]
  exact vk_getf C.1 C.2.1 (C.2.2.2.2.2.2.2.2.2.1.1 w hw).2.1 hS C.2.2.2.2.1 (C.2.2.2.2.2.1 _ hlk) (fun _ h => h) hd (kk a Mf h p e s m args below meth co H locs ls C hl hR hS)
theorem k_value (hw : w < 14) (hd : decode Y.2.1 pc = .ok (.getfield idx, 3)) (hlk : Cond.fieldLink Y.1.cls idx "java/lang/String" "value" "[B" ∈ wG) (kk : NJ l G Y (zR f q) ε (pc + 3) lv (.ref (G.2.2.2.2 w) :: st) M t) : NJ l G Y (zR f q) ε pc lv (aR G (1000 + w) :: st) M t := by
  intro a Mf h p e s m args below meth co H locs ls C hl hR hS
  rw [aR, ad_str]
  exact vk_getf C.1 C.2.1 (C.2.2.2.2.2.2.2.2.2.1.1 w hw).2.2.1 hS C.2.2.2.2.1 (C.2.2.2.2.2.1 _ hlk) (fun _ h => h) hd (kk a Mf h p e s m args below meth co H locs ls C hl hR hS)
theorem k_tlen (hw : w < 14) (hd : decode Y.2.1 pc = .ok (.arraylength, 1)) (kk : NJ l G Y (zR f q) ε (pc + 1) lv (.int (nI (lenS.getD w 0)) :: st) M t) : NJ l G Y (zR f q) ε pc lv (.ref (G.2.2.2.2 w) :: st) M t := by
  intro a Mf h p e s m args below meth co H locs ls C hl hR hS
  exact va_tlen C.1 C.2.1 (C.2.2.2.2.2.2.2.2.2.1.1 w hw).2.2.2 hS rfl hd (kk a Mf h p e s m args below meth co H locs ls C hl hR hS)
theorem k_tb {i : Int32} (hw : w < 14) (hi : inb i (lenS.getD w 0) = true) (hd : decode Y.2.1 pc = .ok (.baload, 1)) (kk : NJ l G Y (zR f q) ε (pc + 1) lv (.int ((bytS.getD w []).getD (ix i) 0) :: st) M t) : NJ l G Y (zR f q) ε pc lv (.int i :: .ref (G.2.2.2.2 w) :: st) M t := by
  intro a Mf h p e s m args below meth co H locs ls C hl hR hS
  exact va_tb C.1 C.2.1 (C.2.2.2.2.2.2.2.2.2.1.1 w hw).2.2.2 hS (inb_in hi) rfl hd (kk a Mf h p e s m args below meth co H locs ls C hl hR hS)
theorem k_recv (hw : w < 14) : ∀ (s : State) (H : Heap) (locs : List Loc), En G s → va_S (gA G) s.heap H locs → ∃ cell : Cell, H[ad G (1000 + w)]? = some cell ∧ cell.vm.isStatics = false ∧ s.vm.findClass "java/lang/String" = some cell.cls := by
  intro s H locs hE hS
  rw [ad_str]
  exact vk_recv hE.2.1 hw hS
end XS
abbrev Y_J0_coder : My := (yJ0_coder_7d493, cJ0_coder_7d493, 1, some .byte)
abbrev Y_J0_isLatin1 : My := (yJ0_isLatin1_aae02, cJ0_isLatin1_aae02, 1, some .boolean)
abbrev Y_J0_length : My := (yJ0_length_8abf5, cJ0_length_8abf5, 1, some .int)
abbrev Y_J0_charAt : My := (yJ0_charAt_5068e, cJ0_charAt_5068e, 2, some .char)
abbrev Y_J0_checkIndex : My := (yJ0_checkIndex_df160, cJ0_checkIndex_df160, 2, none)
abbrev Y_J1_charAt : My := (yJ1_charAt_3b067, cJ1_charAt_3b067, 2, some .char)
abbrev Y_J3_checkIndex : My := (yJ3_checkIndex_8e157, cJ3_checkIndex_8e157, 3, some .int)
theorem oj_coder : okY Y_J0_coder 0 := ⟨wt_737, wt_17, by decide, ⟨by decide, by decide⟩, by decide +kernel⟩
theorem oj_isLatin1 : okY Y_J0_isLatin1 0 := ⟨wt_747, wt_17, by decide, ⟨by decide, by decide⟩, by decide +kernel⟩
theorem oj_length : okY Y_J0_length 0 := ⟨wt_733, wt_17, by decide, ⟨by decide, by decide⟩, by decide +kernel⟩
theorem oj_charAt : okY Y_J0_charAt 1 := ⟨wt_743, wt_17, by decide, ⟨by decide, by decide⟩, by decide +kernel⟩
theorem oj_checkIndex : okY Y_J0_checkIndex 2 := ⟨wt_753, wt_17, by decide, ⟨by decide, by decide⟩, by decide +kernel⟩
theorem oj_charAt1 : okY Y_J1_charAt 2 := ⟨wt_750, wt_18, by decide, ⟨by decide, by decide⟩, by decide +kernel⟩
theorem oj_checkIndex3 : okY Y_J3_checkIndex 3 := ⟨wt_758, wt_19, by decide, ⟨by decide, by decide⟩, by decide +kernel⟩
theorem cj_coder (l : Launch) (G : Gl) (w : Nat) (hw : w < 14) (M : Nm) : NJ l G Y_J0_coder (zR 0 0) eI 0 (lv_args 0 [aR G (1000 + w)]) [] M (some (0, M)) := by
  show NJ l G Y_J0_coder (zR 0 0) eI 0 [(0, aR G (1000 + w))] [] M _
  refine k_comp dJ0_coder_7d493_0 wt_738 ?_
  have h1 : NJ l G Y_J0_coder (zR 0 0) eI 3 [(0, aR G (1000 + w))] [.int 1] M (if (1 : Int32) = 0 then none else some (0, M)) := by
    refine s_if_eq (tgt := 13) dJ0_coder_7d493_3 (by decide) (fun h => absurd h (by decide)) (fun _ => ?_)
    refine s_aload_n 0 dJ0_coder_7d493_6 rfl ?_
    refine k_coder hw dJ0_coder_7d493_7 wt_1404 ?_
    refine s_goto (tgt := 14) dJ0_coder_7d493_10 (by decide) ?_
    exact s_zret (R := zR 0 0) dJ0_coder_7d493_14 rfl rfl
  exact h1
theorem cj_isLatin1 (l : Launch) (G : Gl) (w : Nat) (hw : w < 14) (M : Nm) : NJ l G Y_J0_isLatin1 (zR 0 0) eI 0 (lv_args 0 [aR G (1000 + w)]) [] M (some (1, M)) := by
  show NJ l G Y_J0_isLatin1 (zR 0 0) eI 0 [(0, aR G (1000 + w))] [] M _
  refine k_comp dJ0_isLatin1_aae02_0 wt_738 ?_
  have h1 : NJ l G Y_J0_isLatin1 (zR 0 0) eI 3 [(0, aR G (1000 + w))] [.int 1] M (if (1 : Int32) = 0 then none else (if (0 : Int32) = 0 then some (1, M) else none)) := by
    refine s_if_eq (tgt := 17) dJ0_isLatin1_aae02_3 (by decide) (fun h => absurd h (by decide)) (fun _ => ?_)
    refine s_aload_n 0 dJ0_isLatin1_aae02_6 rfl ?_
    refine k_coder hw dJ0_isLatin1_aae02_7 wt_1404 ?_
    refine s_if_ne (tgt := 17) dJ0_isLatin1_aae02_10 (by decide) (fun _ => ?_) (fun h => absurd rfl h)
    refine s_iconst (v := 1) dJ0_isLatin1_aae02_13 (by decide) ?_
    refine s_goto (tgt := 18) dJ0_isLatin1_aae02_14 (by decide) ?_
    exact s_zret (R := zR 0 0) dJ0_isLatin1_aae02_18 rfl rfl
  exact h1
theorem len31 : ∀ w, w < 14 → lenS.getD w 0 < 2 ^ 31 := by decide +kernel
theorem cj_length (l : Launch) (G : Gl) (w : Nat) (hw : w < 14) (M : Nm) : NJ l G Y_J0_length (zR 1 20) eI 0 (lv_args 0 [aR G (1000 + w)]) [] M (f_str_len w M) := by
  show NJ l G Y_J0_length (zR 1 20) eI 0 [(0, aR G (1000 + w))] [] M _
  have h1 : NJ l G Y_J0_length (zR 1 20) eI 0 [(0, aR G (1000 + w))] [] M (bnd (some (0, M)) fun r M1 => some (nI (lenS.getD w 0) >>> (r &&& 31), M1)) := by
    refine s_aload_n 0 dJ0_length_8abf5_0 rfl ?_
    refine k_value hw dJ0_length_8abf5_1 wt_1403 ?_
    refine k_tlen hw dJ0_length_8abf5_4 ?_
    refine s_aload_n 0 dJ0_length_8abf5_5 rfl ?_
    refine n_invVr_i dJ0_length_8abf5_6 oj_coder rfl wt_734 wt_735 wt_736 (k_recv hw) [] rfl rfl rfl rfl (cj_coder l G w hw M) (fun r M1 => ?_)
    refine s_ishr dJ0_length_8abf5_9 ?_
    exact n_iret dJ0_length_8abf5_10 rfl
  have e : (bnd (some ((0 : Int32), M)) fun r M1 => some (nI (lenS.getD w 0) >>> (r &&& 31), M1)) = f_str_len w M := by
    show some (nI (lenS.getD w 0) >>> ((0 : Int32) &&& 31), M) = _
    rw [sc_shr0 (len31 w hw)]
    rfl
  rw [e] at h1
  exact h1
theorem cj_checkIndex3 (l : Launch) (G : Gl) (i n : Int32) (r : Option Nat) (M : Nm) : NJ l G Y_J3_checkIndex (zR 0 0) eI 0 (lv_args 0 [.int i, .int n, va_rf r]) [] M (if i < 0 then none else if i < n then some (i, M) else none) := by
  have e : lv_args 0 [.int i, .int n, va_rf r] = [(0, .int i), (1, .int n), (2, va_rf r)] := rfl
  rw [e]
  refine s_iload_n 0 dJ3_checkIndex_8e157_0 rfl ?_
  refine s_if_lt (tgt := 9) dJ3_checkIndex_8e157_1 (by decide) (fun _ => s_none) (fun _ => ?_)
  refine s_iload_n 0 dJ3_checkIndex_8e157_4 rfl ?_
  refine s_iload_n 1 dJ3_checkIndex_8e157_5 rfl ?_
  refine s_icmp_lt (tgt := 16) dJ3_checkIndex_8e157_6 (by decide) (fun _ => ?_) (fun _ => s_none)
  refine s_iload_n 0 dJ3_checkIndex_8e157_16 rfl ?_
  exact n_iret dJ3_checkIndex_8e157_17 rfl
theorem cj_checkIndex (l : Launch) (G : Gl) (i n : Int32) (M : Nm) : NJ l G Y_J0_checkIndex (zR 1 22) eU 0 (lv_args 0 [.int i, .int n]) [] M (bnd (if i < 0 then none else if i < n then some (i, M) else none) fun _ M1 => some ((), M1)) := by
  show NJ l G Y_J0_checkIndex (zR 1 22) eU 0 [(0, .int i), (1, .int n)] [] M _
  refine s_iload_n 0 dJ0_checkIndex_df160_0 rfl ?_
  refine s_iload_n 1 dJ0_checkIndex_df160_1 rfl ?_
  refine k_fmt dJ0_checkIndex_df160_2 wt_754 (fun r => ?_)
  refine n_invS_i dJ0_checkIndex_df160_5 oj_checkIndex3 rfl wt_756 wt_757 [.int i, .int n, va_rf r] rfl (by cases r <;> rfl) rfl rfl (cj_checkIndex3 l G i n r M) (fun x M1 => ?_)
  refine s_pop dJ0_checkIndex_df160_8 rfl ?_
  exact n_vret dJ0_checkIndex_df160_9 rfl
theorem inb_cmp {i : Int32} {n : Nat} (hn : n < 2 ^ 31) (h : inb i n = true) : ¬ i < 0 ∧ i < nI n := by
  simp only [inb, Bool.and_eq_true, decide_eq_true_eq] at h
  have h0 : ¬ i < 0 := fun q => Int32.lt_irrefl (Int32.lt_of_lt_of_le q h.1)
  obtain ⟨j, hj, rfl⟩ := nI_of h0
  rw [ix, nI_clamp hj] at h
  exact ⟨h0, nI_lt h.2 hn⟩
theorem cj_charAt1 (l : Launch) (G : Gl) (w : Nat) (hw : w < 14) (i : Int32) (M : Nm) : NJ l G Y_J1_charAt (zR 2 50) eI 0 (lv_args 0 [.ref (G.2.2.2.2 w), .int i]) [] M (f_str_at w i M) := by
  show NJ l G Y_J1_charAt (zR 2 50) eI 0 [(0, .ref (G.2.2.2.2 w)), (1, .int i)] [] M _
  unfold f_str_at
  refine s_grd (fun hi => ?_)
  obtain ⟨h0, h1⟩ := inb_cmp (len31 w hw) hi
  have k1 : NJ l G Y_J1_charAt (zR 2 50) eI 0 [(0, .ref (G.2.2.2.2 w)), (1, .int i)] [] M (bnd (bnd (if i < 0 then none else if i < nI (lenS.getD w 0) then some (i, M) else none) fun _ M1 => some ((), M1)) fun _ M2 => some (((bytS.getD w []).getD (ix i) 0) &&& 255, M2)) := by
    refine s_iload_n 1 dJ1_charAt_3b067_0 rfl ?_
    refine s_aload_n 0 dJ1_charAt_3b067_1 rfl ?_
    refine k_tlen hw dJ1_charAt_3b067_2 ?_
    refine n_invS_u dJ1_charAt_3b067_3 oj_checkIndex rfl wt_751 wt_752 [.int i, .int (nI (lenS.getD w 0))] rfl rfl rfl rfl (cj_checkIndex l G i (nI (lenS.getD w 0)) M) (fun _ M1 => ?_)
    refine s_aload_n 0 dJ1_charAt_3b067_6 rfl ?_
    refine s_iload_n 1 dJ1_charAt_3b067_7 rfl ?_
    refine k_tb hw hi dJ1_charAt_3b067_8 ?_
    refine s_sipush (v := 255) dJ1_charAt_3b067_9 (by decide) ?_
    refine s_iand dJ1_charAt_3b067_12 ?_
    refine s_i2c dJ1_charAt_3b067_13 ?_
    rw [sc_c2]
    exact s_zret (R := zR 2 50) dJ1_charAt_3b067_14 rfl (sc_nar _)
  have e : (bnd (bnd (if i < 0 then none else if i < nI (lenS.getD w 0) then some (i, M) else none) fun _ M1 => some ((), M1)) fun _ M2 => some (((bytS.getD w []).getD (ix i) 0) &&& 255, M2)) = (some (((bytS.getD w []).getD (ix i) 0) &&& 255, M) : Option (Int32 × Nm)) := by
    rw [if_neg h0, if_pos h1]
    rfl
  rw [e] at k1
  exact k1
theorem cj_charAt (l : Launch) (G : Gl) (w : Nat) (hw : w < 14) (i : Int32) (M : Nm) : NJ l G Y_J0_charAt (zR 3 80) eI 0 (lv_args 0 [aR G (1000 + w), .int i]) [] M (f_str_at w i M) := by
  show NJ l G Y_J0_charAt (zR 3 80) eI 0 [(0, aR G (1000 + w)), (1, .int i)] [] M _
  have hN : NJ l G Y_J0_charAt (zR 3 80) eI 0 [(0, aR G (1000 + w)), (1, .int i)] [] M (bnd (some ((1 : Int32), M)) fun r M1 => if r = 0 then none else bnd (f_str_at w i M1) fun x M2 => grd (decide (narrow .char (.int x) = .int x)) (some (x, M2))) := by
    refine s_aload_n 0 dJ0_charAt_5068e_0 rfl ?_
    refine n_invVr_i dJ0_charAt_5068e_1 oj_isLatin1 rfl wt_744 wt_745 wt_746 (k_recv hw) [] rfl rfl rfl rfl (cj_isLatin1 l G w hw M) (fun r M1 => ?_)
    refine s_if_eq (tgt := 16) dJ0_charAt_5068e_4 (by decide) (fun _ => s_none) (fun _ => ?_)
    refine s_aload_n 0 dJ0_charAt_5068e_7 rfl ?_
    refine k_value hw dJ0_charAt_5068e_8 wt_1403 ?_
    refine s_iload_n 1 dJ0_charAt_5068e_11 rfl ?_
    refine n_invS_i dJ0_charAt_5068e_12 oj_charAt1 rfl wt_748 wt_749 [.ref (G.2.2.2.2 w), .int i] rfl rfl rfl rfl (cj_charAt1 l G w hw i M1) (fun x M2 => ?_)
    exact n_zretC dJ0_charAt_5068e_15 rfl
  have e : (bnd (some ((1 : Int32), M)) fun r M1 => if r = 0 then none else bnd (f_str_at w i M1) fun x M2 => grd (decide (narrow .char (.int x) = .int x)) (some (x, M2))) = f_str_at w i M := by
    show (if (1 : Int32) = 0 then none else bnd (f_str_at w i M) fun x M2 => grd (decide (narrow .char (.int x) = .int x)) (some (x, M2))) = _
    rw [if_neg (by decide)]
    unfold f_str_at grd
    by_cases hi : inb i (lenS.getD w 0) = true
    · rw [if_pos hi]
      show (if decide (narrow .char (.int (((bytS.getD w []).getD (ix i) 0) &&& 255)) = .int (((bytS.getD w []).getD (ix i) 0) &&& 255)) = true then _ else _) = _
      rw [if_pos (by rw [sc_nar]; exact decide_eq_true rfl)]
    · rw [if_neg hi]
      rfl
  rw [e] at hN
  exact hN
section XT
variable {l : Launch} {G : Gl} {Y : My} {f q : Nat} {α : Type} {ε : α → Option Value} {pc index w : Nat} {lv : List (Nat × Value)} {st st0 : List Value} {M : Nm} {t : Int32 → Nm → Option (α × Nm)}
theorem n_str_len (hd : decode Y.2.1 pc = .ok (.invokevirtual index, 3)) (hlk : Cond.methodLink Y.1.cls index yJ0_length_8abf5 ∈ wG) (hw : w < 14) (hR : okR (zR f q) (zR 1 20) Y_J0_length = true) (hcat : Nat.ble (st.map fun v => v.category).sum 8 = true) (k : ∀ a M', NJ l G Y (zR f q) ε (pc + 3) lv (.int a :: st) M' (t a M')) : NJ l G Y (zR f q) ε pc lv (aR G (1000 + w) :: st) M (bnd (f_str_len w M) t) :=
  n_invVr_i hd oj_length hR hlk wt_731 wt_732 (k_recv hw) [] rfl rfl rfl hcat (cj_length l G w hw M) k
theorem n_str_at {i : Int32} (hd : decode Y.2.1 pc = .ok (.invokevirtual index, 3)) (hlk : Cond.methodLink Y.1.cls index yJ0_charAt_5068e ∈ wG) (hw : w < 14) (hR : okR (zR f q) (zR 3 80) Y_J0_charAt = true) (hcat : Nat.ble (st.map fun v => v.category).sum 8 = true) (k : ∀ a M', NJ l G Y (zR f q) ε (pc + 3) lv (.int a :: st) M' (t a M')) : NJ l G Y (zR f q) ε pc lv (.int i :: aR G (1000 + w) :: st) M (bnd (f_str_at w i M) t) :=
  n_invVr_i hd oj_charAt hR hlk wt_741 wt_742 (k_recv hw) [.int i] rfl rfl rfl hcat (cj_charAt l G w hw i M) k
end XT
