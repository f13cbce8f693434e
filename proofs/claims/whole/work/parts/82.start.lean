/-! the start: what holds around our cells -/
theorem tt_lays : Cond.laysStatic "java/lang/String" "COMPACT_STRINGS" "Z" ∈ tables_1 := tm_3 (List.mem_of_getElem? (i := 19) rfl)
theorem tt_lays2 : Cond.laysStatic "jdk/internal/util/Preconditions" "SIOOBE_FORMATTER" "Ljava/util/function/BiFunction;" ∈ tables_1 := tm_3 (List.mem_of_getElem? (i := 35) rfl)
theorem t_ao : ∀ C ∈ [RX2, RX3, RX9], Cond.arrayOver (.object C) ∈ tables_1 := by
  intro C h
  simp only [List.mem_cons, List.not_mem_nil, or_false] at h
  rcases h with e | e | e <;> subst e
  · exact tm_0 (List.mem_of_getElem? (i := 104) rfl)
  · exact tm_0 (List.mem_of_getElem? (i := 46) rfl)
  · exact tm_0 (List.mem_of_getElem? (i := 209) rfl)
theorem t_ca : ∀ C ∈ [RX7, RX0, RX8, RX4, RX6], Cond.castable C RX3 ∈ tables_1 := by
  intro C h
  simp only [List.mem_cons, List.not_mem_nil, or_false] at h
  rcases h with e | e | e | e | e <;> subst e
  · exact tm_5 (List.mem_of_getElem? (i := 198) rfl)
  · exact tm_5 (List.mem_of_getElem? (i := 199) rfl)
  · exact tm_5 (List.mem_of_getElem? (i := 200) rfl)
  · exact tm_5 (List.mem_of_getElem? (i := 201) rfl)
  · exact tm_5 (List.mem_of_getElem? (i := 202) rfl)
theorem t_nm : Cond.methodLinkNest RX5 66 yX11_bitOf RX11 ∈ tables_1 := tm_1 (List.mem_of_getElem? (i := 52) rfl)
theorem t_ac : ∀ ty ∈ [FieldType.int, .long, .char], Cond.arrayClass ty ∈ tables_1 := by
  intro C h
  simp only [List.mem_cons, List.not_mem_nil, or_false] at h
  rcases h with e | e | e <;> subst e
  · exact tm_0 (List.mem_of_getElem? (i := 157) rfl)
  · exact tm_0 (List.mem_of_getElem? (i := 180) rfl)
  · exact tm_0 (List.mem_of_getElem? (i := 207) rfl)
theorem t_in : ∀ (i : Nat) (q : vw_C), kcl[i]? = some q → Cond.instantiable q.1 q.2.2 ∈ wG := by
  intro i q h
  have hi : i < 12 := (List.getElem?_eq_some_iff.mp h).1
  rcases (show i = 0 ∨ i = 1 ∨ i = 2 ∨ i = 3 ∨ i = 4 ∨ i = 5 ∨ i = 6 ∨ i = 7 ∨ i = 8 ∨ i = 9 ∨ i = 10 ∨ i = 11 by omega) with e | e | e | e | e | e | e | e | e | e | e | e <;> subst e <;> cases h
  · exact wt_22
  · exact wt_30
  · exact wt_48
  · exact wt_58
  · exact wt_68
  · exact wt_78
  · exact wt_88
  · exact wt_105
  · exact wt_98
  · exact wt_182
  · exact wt_210
  · exact wt_910
theorem t_uw : ∀ (i : Nat) (q : vw_C), kcl[i]? = some q → ∀ w ∈ u_ws q.1 q.2.1 q.2.2, w ∈ wG := by
  intro i q h
  have hi : i < 12 := (List.getElem?_eq_some_iff.mp h).1
  rcases (show i = 0 ∨ i = 1 ∨ i = 2 ∨ i = 3 ∨ i = 4 ∨ i = 5 ∨ i = 6 ∨ i = 7 ∨ i = 8 ∨ i = 9 ∨ i = 10 ∨ i = 11 by omega) with e | e | e | e | e | e | e | e | e | e | e | e <;> subst e <;> cases h
  · exact uw_0
  · exact uw_1
  · exact uw_2
  · exact uw_3
  · exact uw_4
  · exact uw_5
  · exact uw_6
  · exact uw_7
  · exact uw_8
  · exact uw_9
  · exact uw_10
  · exact uw_11
theorem ar_prim {s : State} {args : Array Value} {ty : FieldType} (h : (Cond.arrayClass ty).before args s = true) (hty : ∀ C, ty ≠ .object C) : ∃ cA, ArrOfT s cA ty ∧ va_RA s cA ty := by
  obtain ⟨cA, kA, comp, hfind, hk, hkind⟩ := Cond.arrayClass_spec h
  refine ⟨cA, fun n z => ⟨fun k h => (by cases h), kA, hk, comp, hkind⟩, ?_⟩
  cases ty with
  | object C => exact absurd rfl (hty C)
  | _ => exact hfind
theorem ar_obj {s : State} {args : Array Value} {C : String} (h : (Cond.arrayOver (.object C)).before args s = true) : ∃ cA, ArrOfT s cA (.object C) ∧ va_RA s cA (.object C) := by
  obtain ⟨comp, c, k, h1, h2, h3, h4, h5⟩ := Cond.arrayOver_spec h
  exact ⟨c, fun n z => ⟨fun k h => (by cases h), k, h3, comp, h4⟩, k, comp, h3, h4, h1, h5⟩
theorem en_start {s : State} {b : Nat} (hts : ∀ w ∈ lw_tbl, w.before #[Value.ref b] s = true) (hg : (Jvm.Cond.and given_1 narrow_1).before #[Value.ref b] s = true) : ∃ G : Gl, G.2.2.1 = s.heap.size ∧ En G s := by
  have hT : ∀ w, w ∈ tables_1 → w.before #[Value.ref b] s = true := fun w h => hts w (List.mem_append_right _ h)
  have hW : ∀ w ∈ wG, w.before #[Value.ref b] s = true := fun w h => hts w (List.mem_filter.mp h).1
  have hF : ∀ w ∈ flS, w.before #[Value.ref b] s = true := flat_of_before _ hg
  have hA : ∀ a : Nat, a < s.heap.size → ¬ (s.heap.size ≤ a) := fun a h q => by omega
  -- classes
  have h0 : ∀ i : Nat, ∃ q : ClassId × (Nat → Nat), ∀ r, kcl[i]? = some r → u_Kn s r.1 r.2.1 r.2.2 q.1 q.2 := by
    intro i
    cases e : kcl[i]? with
    | none => exact ⟨(0, fun _ => 0), fun r h => by cases h⟩
    | some r =>
      obtain ⟨cC, iS, hK⟩ := u_known (n := r.2.2) hW (t_uw i r e) (hW _ (t_in i r e))
      exact ⟨(cC, iS), fun r' h => by cases h; exact hK⟩
  obtain ⟨dd, hdd⟩ := Classical.axiomOfChoice h0
  obtain ⟨a0, p0, q0⟩ := ar_prim (hT _ (t_ac .int (by decide))) (fun C h => by cases h)
  obtain ⟨a1, p1, q1⟩ := ar_prim (hT _ (t_ac .long (by decide))) (fun C h => by cases h)
  obtain ⟨a2, p2, q2⟩ := ar_prim (hT _ (t_ac .char (by decide))) (fun C h => by cases h)
  obtain ⟨a3, p3, q3⟩ := ar_obj (hT _ (t_ao RX2 (by decide)))
  obtain ⟨a4, p4, q4⟩ := ar_obj (hT _ (t_ao RX3 (by decide)))
  obtain ⟨a5, p5, q5⟩ := ar_obj (hT _ (t_ao RX9 (by decide)))
  obtain ⟨adK, adV, hS, hev⟩ := vk_Sof (args := #[Value.ref b]) (s := s) (N := 14) (tm := tmS) (len := lenS) (byt := bytS) (A := fun q => s.heap.size ≤ q) (by decide) (fun i hi => hF _ (List.mem_of_getElem? (st_ex0 i hi))) (fun i hi => hF _ (List.mem_of_getElem? (st_co0 i hi))) (fun i hi => hF _ (List.mem_of_getElem? (st_ar0 i hi))) (fun i hi => hF _ (List.mem_of_getElem? (st_le0 i hi))) (fun i hi j hj => hF _ (st_el i hi j hj)) (fun i j hi hj hn => by
    rcases Nat.lt_or_gt_of_ne hn with h | h
    · exact Or.inl (hF _ (st_ne0 j hj i h))
    · exact Or.inr (hF _ (st_ne0 i hi j h))) hA
  refine ⟨((fun i => (dd i).1, fun i => (dd i).2), (fun k => ([a0, a1, a2, a3, a4, a5] : List ClassId).getD k 0), s.heap.size, adK, adV), rfl, ⟨fun c q h => hdd c q h, fun k q h => ?_⟩, hS, fun i q h => ?_, ?_, ?_, fun C hC => va_AO.of (hT _ (t_ao C hC)), fun C hC => va_Nw.of rfl (hT _ (t_ca C hC)), va_Nw.of rfl (hT _ t_nm)⟩
  · have hk : k < 6 := (List.getElem?_eq_some_iff.mp h).1
    rcases (show k = 0 ∨ k = 1 ∨ k = 2 ∨ k = 3 ∨ k = 4 ∨ k = 5 by omega) with e | e | e | e | e | e <;> subst e <;> cases h
    · exact ⟨p0, q0⟩
    · exact ⟨p1, q1⟩
    · exact ⟨p2, q2⟩
    · exact ⟨p3, q3⟩
    · exact ⟨p4, q4⟩
    · exact ⟨p5, q5⟩
  · have hi : i < 14 := (List.getElem?_eq_some_iff.mp h).1
    have e : stL.getD i ("", 0, "") = q := by rw [List.getD_eq_getElem?_getD, h]; rfl
    have h1 := hT _ (st_sr i hi)
    have h2 := hev i hi
    unfold srW at h1
    unfold tmS at h2
    rw [e] at h1 h2
    exact vk_R.of h1 h2
  · exact va_Zof (hT _ tt_lays) (hW _ wt_17) (va_eqt (hF _ st_cs)) hA
  · exact va_Zqof (hT _ tt_lays2) (hW _ wt_19) (hF _ st_sf) hA
