/-! the law: its loop, its beginning -/
section LL
variable {p : Program} {l : Launch} {e : Env} {s : State} {m : MethodId} {below : List Frame} {meth : Method} {c : Code} {b : Nat} {G : Gl} {L : Nat} {xs : Nat → Int32}
theorem and63 (v : Int32) : ∃ j : Nat, j < 64 ∧ v &&& 63 = nI j := by
  refine ⟨v.toBitVec.toNat % 64, Nat.mod_lt _ (by decide), ?_⟩
  apply Int32.toBitVec_inj.mp
  apply BitVec.eq_of_toNat_eq
  rw [Int32.toBitVec_and, BitVec.toNat_and]
  show v.toBitVec.toNat &&& 63 = (BitVec.ofNat 32 (v.toBitVec.toNat % 64)).toNat
  rw [BitVec.toNat_ofNat, show (63 : Nat) = 2 ^ 6 - 1 from rfl, Nat.and_two_pow_sub_one_eq_mod]
  have : v.toBitVec.toNat % 2 ^ 6 < 2 ^ 6 := Nat.mod_lt _ (by decide)
  omega
theorem law_loop (X : LX p s m meth c b G L xs) (hL : L ≤ 3072) : ∀ (n i : Nat) (M : Nm), L ≤ i + n → i ≤ 4000 → Iv M → LW p l e s m below meth c b G 101 101 1976 18 (lvL b G i) [] (toM M) := by
  intro n
  induction n with
  | zero =>
    intro i M hn h4 hv
    refine L_iload_n 0 X dL_law_18 rfl ?_
    refine L_aload_n 3 X dL_law_19 rfl ?_
    refine L_len X dL_law_20 ?_
    refine L_bipush (v := 6) X dL_law_21 (by decide) ?_
    refine L_isub X dL_law_23 ?_
    refine L_gtY (tgt := 1455) X dL_law_24 rfl ?_ ?_
    · rw [show (6 : Int32) = nI 6 from rfl, lt32, sub_tI (by omega) (by decide), nI_toInt (by omega)]
      omega
    · refine L_iconst (v := 1) X dL_law_1455 (by decide) ?_
      exact L_ret X dL_law_1456 (by omega) (by omega)
  | succ n ih =>
    intro i M hn h4 hv
    refine L_iload_n 0 X dL_law_18 rfl ?_
    refine L_aload_n 3 X dL_law_19 rfl ?_
    refine L_len X dL_law_20 ?_
    refine L_bipush (v := 6) X dL_law_21 (by decide) ?_
    refine L_isub X dL_law_23 ?_
    by_cases hi : i + 6 ≤ L
    · have K : ∀ M2, Iv M2 → LW p l e s m below meth c b G 101 101 1976 1449 (lvL b G i) [] (toM M2) := by
        intro M2 hv2
        refine L_iinc (v := 6) 0 X dL_law_1449 rfl (by decide) rfl rfl ?_
        refine L_goto (tgt := 18) X dL_law_1452 rfl ?_
        rw [show nI i + 6 = nI (i + 6) from nI_add i 6]
        exact ih (i + 6) M2 (by omega) (by omega) hv2
      refine L_gtN (tgt := 1455) X dL_law_24 rfl ?_ ?_
      · rw [show (6 : Int32) = nI 6 from rfl, lt32, sub_tI (by omega) (by decide), nI_toInt (by omega)]
        omega
      · refine L_aload_n 3 X dL_law_27 rfl ?_
        refine L_iload_n 0 X dL_law_28 rfl ?_
        refine L_ld X dL_law_29 (by omega : i < L) (by omega) rfl ?_
        refine L_bipush (v := 63) X dL_law_30 (by decide) ?_
        refine L_iand X dL_law_32 ?_
        obtain ⟨j, j1, j2⟩ := and63 (xs i)
        rw [j2]
        by_cases hj : 40 < j
        · refine L_tout (tgt := 1449) X dL_law_33 (Or.inr ?_) rfl (K M hv)
          rw [nI_toInt (by omega)]
          omega
        · rcases (show j = 0 ∨ j = 1 ∨ j = 2 ∨ j = 3 ∨ j = 4 ∨ j = 5 ∨ j = 6 ∨ j = 7 ∨ j = 8 ∨ j = 9 ∨ j = 10 ∨ j = 11 ∨ j = 12 ∨ j = 13 ∨ j = 14 ∨ j = 15 ∨ j = 16 ∨ j = 17 ∨ j = 18 ∨ j = 19 ∨ j = 20 ∨ j = 21 ∨ j = 22 ∨ j = 23 ∨ j = 24 ∨ j = 25 ∨ j = 26 ∨ j = 27 ∨ j = 28 ∨ j = 29 ∨ j = 30 ∨ j = 31 ∨ j = 32 ∨ j = 33 ∨ j = 34 ∨ j = 35 ∨ j = 36 ∨ j = 37 ∨ j = 38 ∨ j = 39 ∨ j = 40 by omega) with e | e | e | e | e | e | e | e | e | e | e | e | e | e | e | e | e | e | e | e | e | e | e | e | e | e | e | e | e | e | e | e | e | e | e | e | e | e | e | e | e <;> subst e
          · exact L_tin (tgt := 212) X dL_law_33 (by decide) (by decide) rfl rfl (law_0 X hL hi hv K)
          · exact L_tin (tgt := 245) X dL_law_33 (by decide) (by decide) rfl rfl (law_1 X hL hi hv K)
          · exact L_tin (tgt := 278) X dL_law_33 (by decide) (by decide) rfl rfl (law_2 X hL hi hv K)
          · exact L_tin (tgt := 302) X dL_law_33 (by decide) (by decide) rfl rfl (law_3 X hL hi hv K)
          · exact L_tin (tgt := 335) X dL_law_33 (by decide) (by decide) rfl rfl (law_4 X hL hi hv K)
          · exact L_tin (tgt := 378) X dL_law_33 (by decide) (by decide) rfl rfl (law_5 X hL hi hv K)
          · exact L_tin (tgt := 411) X dL_law_33 (by decide) (by decide) rfl rfl (law_6 X hL hi hv K)
          · exact L_tin (tgt := 454) X dL_law_33 (by decide) (by decide) rfl rfl (law_7 X hL hi hv K)
          · exact L_tin (tgt := 497) X dL_law_33 (by decide) (by decide) rfl rfl (law_8 X hL hi hv K)
          · exact L_tin (tgt := 550) X dL_law_33 (by decide) (by decide) rfl rfl (law_9 X hL hi hv K)
          · exact L_tin (tgt := 583) X dL_law_33 (by decide) (by decide) rfl rfl (law_10 X hL hi hv K)
          · exact L_tin (tgt := 616) X dL_law_33 (by decide) (by decide) rfl rfl (law_11 X hL hi hv K)
          · exact L_tin (tgt := 649) X dL_law_33 (by decide) (by decide) rfl rfl (law_12 X hL hi hv K)
          · exact L_tin (tgt := 673) X dL_law_33 (by decide) (by decide) rfl rfl (law_13 X hL hi hv K)
          · exact L_tin (tgt := 697) X dL_law_33 (by decide) (by decide) rfl rfl (law_14 X hL hi hv K)
          · exact L_tin (tgt := 720) X dL_law_33 (by decide) (by decide) rfl rfl (law_15 X hL hi hv K)
          · exact L_tin (tgt := 743) X dL_law_33 (by decide) (by decide) rfl rfl (law_16 X hL hi hv K)
          · exact L_tin (tgt := 786) X dL_law_33 (by decide) (by decide) rfl rfl (law_17 X hL hi hv K)
          · exact L_tin (tgt := 809) X dL_law_33 (by decide) (by decide) rfl rfl (law_18 X hL hi hv K)
          · exact L_tin (tgt := 832) X dL_law_33 (by decide) (by decide) rfl rfl (law_19 X hL hi hv K)
          · exact L_tin (tgt := 855) X dL_law_33 (by decide) (by decide) rfl rfl (law_20 X hL hi hv K)
          · exact L_tin (tgt := 878) X dL_law_33 (by decide) (by decide) rfl rfl (law_21 X hL hi hv K)
          · exact L_tin (tgt := 901) X dL_law_33 (by decide) (by decide) rfl rfl (law_22 X hL hi hv K)
          · exact L_tin (tgt := 924) X dL_law_33 (by decide) (by decide) rfl rfl (law_23 X hL hi hv K)
          · exact L_tin (tgt := 947) X dL_law_33 (by decide) (by decide) rfl rfl (law_24 X hL hi hv K)
          · exact L_tin (tgt := 980) X dL_law_33 (by decide) (by decide) rfl rfl (law_25 X hL hi hv K)
          · exact L_tin (tgt := 1023) X dL_law_33 (by decide) (by decide) rfl rfl (law_26 X hL hi hv K)
          · exact L_tin (tgt := 1036) X dL_law_33 (by decide) (by decide) rfl rfl (law_27 X hL hi hv K)
          · exact L_tin (tgt := 1069) X dL_law_33 (by decide) (by decide) rfl rfl (law_28 X hL hi hv K)
          · exact L_tin (tgt := 1082) X dL_law_33 (by decide) (by decide) rfl rfl (law_29 X hL hi hv K)
          · exact L_tin (tgt := 1095) X dL_law_33 (by decide) (by decide) rfl rfl (law_30 X hL hi hv K)
          · exact L_tin (tgt := 1138) X dL_law_33 (by decide) (by decide) rfl rfl (law_31 X hL hi hv K)
          · exact L_tin (tgt := 1212) X dL_law_33 (by decide) (by decide) rfl rfl (law_32 X hL hi hv K)
          · exact L_tin (tgt := 1275) X dL_law_33 (by decide) (by decide) rfl rfl (law_33 X hL hi hv K)
          · exact L_tin (tgt := 1298) X dL_law_33 (by decide) (by decide) rfl rfl (law_34 X hL hi hv K)
          · exact L_tin (tgt := 1331) X dL_law_33 (by decide) (by decide) rfl rfl (law_35 X hL hi hv K)
          · exact L_tin (tgt := 1364) X dL_law_33 (by decide) (by decide) rfl rfl (law_36 X hL hi hv K)
          · exact L_tin (tgt := 1377) X dL_law_33 (by decide) (by decide) rfl rfl (law_37 X hL hi hv K)
          · exact L_tin (tgt := 1390) X dL_law_33 (by decide) (by decide) rfl rfl (law_38 X hL hi hv K)
          · exact L_tin (tgt := 1403) X dL_law_33 (by decide) (by decide) rfl rfl (law_39 X hL hi hv K)
          · exact L_tin (tgt := 1426) X dL_law_33 (by decide) (by decide) rfl rfl (law_40 X hL hi hv K)
    · refine L_gtY (tgt := 1455) X dL_law_24 rfl ?_ ?_
      · rw [show (6 : Int32) = nI 6 from rfl, lt32, sub_tI (by omega) (by decide), nI_toInt (by omega)]
        omega
      · refine L_iconst (v := 1) X dL_law_1455 (by decide) ?_
        exact L_ret X dL_law_1456 (by omega) (by omega)
theorem law_all (X : LX p s m meth c b G L xs) (hL : L ≤ 3072) : LW p l e s m below meth c b G 0 0 0 0 [(0, .ref b)] [] zM := by
  refine L_new (ci := 0) (nf := 8) X dL_law_0 okn_0 (fun Cn h => by cases h; exact wt_21) rfl rfl (by decide) zM_z ⟨rfl, rfl⟩ ?_
  refine L_dup X dL_law_3 rfl ?_
  refine L_invI (o := 0) (Rc := rm_X11) (Z := Y_X11_init) (st := [aR G 0]) X dL_law_4 ok_X11_init rfl wt_23 wt_24 rfl rfl [] rfl rfl rfl rfl ⟨rfl, rfl⟩ (i_X11 l G (zM_z.up (by decide))) ?_
  refine L_astore_n X dL_law_7 (i := 1) rfl rfl rfl ?_
  refine L_new (ci := 11) (nf := 20) X dL_law_8 okn_11 (fun Cn h => by cases h; exact wt_909) rfl rfl (by decide) (paM_z (zM_z.up (by decide))) ⟨rfl, rfl⟩ ?_
  refine L_dup X dL_law_11 rfl ?_
  refine L_invI (o := 86) (Rc := rm_X12) (Z := Y_X12_init) (st := [aR G 86]) X dL_law_12 ok_X12_init rfl wt_911 wt_912 rfl rfl [] rfl rfl rfl rfl ⟨rfl, rfl⟩ (i_X12 l G ((paM_z (zM_z.up (by decide))).up (by decide))) ?_
  refine L_astore_n X dL_law_15 (i := 2) rfl rfl rfl ?_
  refine L_iconst (v := 0) X dL_law_16 (by decide) ?_
  refine L_istore_n X dL_law_17 (i := 3) rfl rfl rfl ?_
  intro H locs ls hl hR hS
  exact law_loop X hL 4000 0 m0 (by omega) (by omega) iv_0 H locs ls hl (rl_ag mF_ag1 hR) hS
end LL
theorem whole_start {p : Program} {e : Env} {s : State} {m : MethodId} {below : List Frame} {meth : Method} {c : Code} (l : Launch) (hflags : l.flags = flags0) {b L : Nat} {xs : Nat → Int32} (hL : L ≤ 3072) (C0 : lw_At p s m meth c b L xs) : W p l e room_1 s m #[Value.ref b] below meth c s.heap [] 0 0 (lw_Z below #[Value.ref b] s) (entryFrame m ([Value.ref b] : List Value).toArray 4) := by
  obtain ⟨h1, h2, h3, h4, h5, h6, h7, h8, h9, h10, h11⟩ := C0
  obtain ⟨G, hG, hE⟩ := en_start h6 h10
  have X : LX p s m meth c b G L xs := ⟨⟨h1, h2, h4, h3, h5, fun w hw => h6 w (List.mem_filter.mp hw).1, h9, h11, hE⟩, h7, h8, hG⟩
  have hl := lv_entry ([Value.ref b]) (n := 4) (Nat.le_of_ble_eq_true rfl)
  rw [lg_entry_eq]
  refine law_all X hL s.heap [] _ hl ⟨fun k q hk => ?_, fun _ => hG.symm⟩ va_S.rf
  cases hk
