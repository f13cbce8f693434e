/-! the class: the whole text -/
theorem strC_le {z : Nat} {p : Nat → Nat} {h : Nat} : ∀ (n : Nat) (t : St) (a : Nat) (t' : St) (a' : Nat), a ≤ z → strC z p h n t a = .inl (t', a') → a ≤ a' := by
  intro n
  induction n with
  | zero =>
    intro t a t' a' ha e
    simp [strC] at e
    omega
  | succ n ih =>
    intro t a t' a' ha e
    rw [strC_s] at e
    cases w : wwN z p a with
    | none => rw [w] at e; simp at e; omega
    | some w' =>
      rw [w] at e
      dsimp only at e
      split at e
      · have h1 := nx_ge (p := p) ha
        have h2 := nx_le (p := p) ha
        have h3 := nx_ge (p := p) h2
        have h4 := nx_le (p := p) h2
        have := ih _ _ _ _ h4 e
        omega
      · simp at e
theorem inkC_le {z : Nat} {p : Nat → Nat} {h : Nat} {t : St} {a : Nat} {t' : St} {a' : Nat} (ha : a ≤ z) (e : inkC z p h t a = .inl (t', a')) : a ≤ a' := by
  unfold inkC at e
  have h1 := nx_ge (p := p) ha
  have h2 := nx_le (p := p) ha
  have h3 := nx_ge (p := p) h2
  have h4 := nx_le (p := p) h2
  split at e
  · split at e
    · have := strC_le 8 _ _ _ _ h4 e; omega
    · simp at e
  · exact strC_le 8 _ _ _ _ ha e
theorem itC_le {z : Nat} {p : Nat → Nat} {t : St} {a : Nat} {t' : St} {a' : Nat} (ha : a ≤ z) (e : itC z p t a = .inl (t', a')) : a ≤ a' := by
  have h1 := nx_ge (p := p) ha
  have h2 := nx_le (p := p) ha
  have h3 := nx_ge (p := p) h2
  have h4 := nx_le (p := p) h2
  have h5 := nx_ge (p := p) h4
  have h6 := nx_le (p := p) h4
  unfold itC at e
  cases w : kwN z p a with
  | none =>
    rw [w] at e
    dsimp only at e
    unfold siF smF at e
    repeat' split at e
    all_goals first | (simp at e; done) | (simp at e; omega)
  | some k =>
    rw [w] at e
    dsimp only at e
    unfold hanC at e
    split at e
    · split at e
      · split at e
        · have := inkC_le h6 e; omega
        · simp at e
      · simp at e
    · simp at e
theorem itC_end {z : Nat} {p : Nat → Nat} {t : St} {a : Nat} (h : ¬ a < z) : itC z p t a = .inr a := by
  have hl : isL z p a = false := nf (fun y => h (isL_z y))
  have hW : ∀ l, isW z p a l = false := fun l => by unfold isW; rw [hl, Bool.false_and]
  unfold itC kwN siF
  simp only [hW]
  rfl
def PT (M : Nm) (r : Option (Int32 × Nm)) : (Nat × St) ⊕ Nat → Prop
  | .inl (i, t) => ∃ M', r = some (nI i, M') ∧ F2 M M' ∧ LandU 30 M' t ∧ Wf t ∧ i ≤ 121
  | .inr e => ∃ M', r = some ((-1) - nI e, M') ∧ F2 M M' ∧ Ca 30 M' ∧ e ≤ 120
theorem PT.f {M M1 : Nm} {r : Option (Int32 × Nm)} {o : (Nat × St) ⊕ Nat} (h : F2 M M1) (hr : PT M1 r o) : PT M r o := by
  cases o with
  | inl q =>
    obtain ⟨i, t⟩ := q
    obtain ⟨M', b1, b2, b3⟩ := hr
    exact ⟨M', b1, F2.tr h b2, b3⟩
  | inr e =>
    obtain ⟨M', b1, b2, b3⟩ := hr
    exact ⟨M', b1, F2.tr h b2, b3⟩
theorem p_tellL {z : Nat} {p : Nat → Nat} : ∀ (n f i : Nat) (t : St) (a : Nat) (M : Nm) (m : Nat), i + n = 121 → i ≤ a + 1 → n < f → z - a ≤ m → Wf t → Lc z p M a → LandU 30 M t → PT M (f_T_tellTo_L11 30 f (nI i) M) (KK z p m i (itC z p t a)) := by
  intro n
  induction n with
  | zero =>
    intro f i t a M m hi ha hf hm hw hL hl
    obtain ⟨f, rfl⟩ : ∃ g, f = g + 1 := ⟨f - 1, by omega⟩
    have hz := hL.2.1
    have h0 := hL.1.1
    rw [f_T_tellTo_L11, if_pos (show (120 : Int32) < nI i from nI_lt (a := 120) (by omega) (by omega)), hL.2.2.1, itC_end (by omega)]
    exact ⟨M, rfl, F2.rf M, hl.ca, by omega⟩
  | succ n ih =>
    intro f i t a M m hi ha hf hm hw hL hl
    obtain ⟨f, rfl⟩ : ∃ g, f = g + 1 := ⟨f - 1, by omega⟩
    have h0 := hL.1.1
    have hP := p_takeItem hw hL hl
    rw [f_T_tellTo_L11, if_neg (show ¬ (120 : Int32) < nI i from nI_nlt (a := 120) (by omega) (by decide)), nI_1]
    cases e : itC z p t a with
    | inr e1 =>
      rw [e] at hP
      obtain ⟨M1, b1, b2, b3, b4⟩ := hP
      have hz := b3.2.1
      rw [b1, bnd_s, if_pos rfl, b3.2.2.1]
      exact ⟨M1, rfl, b2, b4, by omega⟩
    | inl q =>
      obtain ⟨t1, a1⟩ := q
      rw [e] at hP
      obtain ⟨M1, b1, b2, b3, b4, b5⟩ := hP
      have hle := itC_le hL.2.1 e
      have hz := b3.2.1
      have hsr := srt_le z p a1
      rw [b1, bnd_s, if_neg (by decide)]
      show PT M _ (ffF z p (m + 1) i t1 a1)
      rw [ffF_s]
      by_cases q0 : a1 < z
      · rw [if_neg (show ¬ M1.1 74 2 = 0 from fun y => (srt_0.mp ((b3.s (k := 0) (by decide)).mp y)) q0)]
        by_cases q3 : isC z p a1 = true
        · obtain ⟨M2, c1, c2, c3⟩ := p_next b3
          have hg := nx_gt (p := p) q0
          obtain ⟨m, rfl⟩ : ∃ m', m = m' + 1 := ⟨m - 1, by omega⟩
          rw [if_pos (show M1.1 74 2 = 3 from (b3.s (k := 3) (by decide)).mpr (srt_3.mpr q3)), if_pos (show isC z p a1 = true from q3), c1, bnd_s]
          have key := ih f (i + 1) t1 (nx z p a1) M2 m (by omega) (by omega) (by omega) (by omega) b5 c3 (b4.r b5.1 c2 (by omega))
          rw [← KK_it] at key
          exact PT.f (F2.tr b2 c2.f7) key
        · rw [if_neg (show ¬ M1.1 74 2 = 3 from fun y => q3 (srt_3.mp ((b3.s (k := 3) (by decide)).mp y))), if_neg (show ¬ isC z p a1 = true from q3), if_pos (show a1 < z from q0), b3.2.2.1]
          exact ⟨M1, rfl, b2, b4.ca, by omega⟩
      · have q3 : ¬ isC z p a1 = true := by simp [isC, q0]
        rw [if_pos (show M1.1 74 2 = 0 from (b3.s (k := 0) (by decide)).mpr (srt_0.mpr q0)), if_neg (show ¬ isC z p a1 = true from q3), if_neg (show ¬ a1 < z from q0)]
        exact ⟨M1, rfl, b2, b4, b5, by omega⟩
theorem Fr.sy {a b : Nat} {M M' : Nm} (h : Fr a b M M') : Fr a b M' M := fun c hc => ⟨(h c hc).1.symm, (h c hc).2.1.symm, (h c hc).2.2.symm⟩
theorem F2.sp {M M' : Nm} (h : F2 M M') : ∃ X, Fr 30 52 M X ∧ Fr 74 75 X M' := by
  refine ⟨(fun c => if c = 74 then M.1 c else M'.1 c, fun c => if c = 74 then M.2.1 c else M'.2.1 c, fun c => if c = 74 then M.2.2 c else M'.2.2 c), fun c hc => ?_, fun c hc => ?_⟩
  · by_cases q : c = 74
    · simp [q]
    · simp only [q, if_false]; exact h c hc q
  · have q : c ≠ 74 := by omega
    simp [q]
theorem neg_e : ∀ e, e < 121 → (-1 : Int32) - nI e < 0 := by decide +kernel
theorem k_field {A : Ab} (hw : WfA A) (M : Nm) (h : CA M A) : QC id A M (f_P_field M) (o_field A) := by
  have hz := hw.2.2.1
  obtain ⟨M1, a1, a2, a3⟩ := p_LtakeFrom (d := 30) (e := 8) (by omega) hw.1 h.2.1 h.1
  obtain ⟨_, _, ⟨t1, t2⟩, _, _⟩ := h.2.2.2
  have hT : Tc (zA A) (pA A) M1 := ⟨hz, hw.2.2.2.1, by rw [(a2 74 (by omega)).1]; exact t1, fun i hi => by rw [(a2 75 (by omega)).1]; exact t2 i hi⟩
  have hT2 : Tc (zA A) (pA A) (mI M1 74 4 0) := hT.i (by decide)
  have hF2 : Fr 74 75 M1 (mI M1 74 4 0) := Fr.i (by omega) (by omega)
  obtain ⟨M3, b1, b2, b3⟩ := p_goOn (b := 0) (Nat.zero_le _) hT2 (by rw [mI_s, if_pos rfl]; rfl)
  have hl3 := (a3.r hw.1.1 (Fr.tr hF2 b2) (by omega)).u
  have hP := p_tellL 120 FU 1 (tA A) (tkA (zA A) (pA A) 0) M3 120 rfl (by omega) (FU_gt (by decide)) (by omega) hw.1 b3 hl3
  rw [← KK_it] at hP
  have hP2 : PT M (f_T_tellTo_L11 30 FU 1 M3) (txF (zA A) (pA A) (tA A)) := PT.f (F2.tr (Fr.f3 a2) (Fr.tr hF2 b2).f7) hP
  have cl : ∀ M4, F2 M M4 → Ca 30 M4 → CA (mI M4 74 0 0) (spA A 0 (pA A)) := by
    intro M4 f1 f2
    obtain ⟨X, x1, x2⟩ := f1.sp
    have hX := h.t30 hw x1 (f2.r x2.sy (by omega))
    have hF : Fr 74 76 X (mI M4 74 0 0) := Fr.tr (x2.w (by omega) (by omega)) (Fr.i (by omega) (by omega))
    exact hX.tp hw hF (by rw [mI_s, if_pos rfl]; rfl) (fun i hi => by omega)
  have f86 : ∀ M4, F2 M M4 → Fr 0 86 M (mI M4 74 0 0) := fun M4 f1 => Fr.tr (fun c hc => f1 c (by omega) (by omega)) (Fr.i (by omega) (by omega))
  unfold f_P_field f_T_tellTo o_field
  rw [a1, bnd_s, bl_e, b1, bnd_s]
  cases e : txF (zA A) (pA A) (tA A) with
  | inl q =>
    obtain ⟨i, t⟩ := q
    rw [e] at hP2
    obtain ⟨M4, c1, c2, c3, c4, c5⟩ := hP2
    have hC := cl M4 c2 c3.ca
    have hw5 : WfA (spA A 0 (pA A)) := ⟨hw.1, hw.2.1, Nat.zero_le _, fun i hi => absurd hi (Nat.not_lt_zero _), hw.2.2.2.2⟩
    have hF5 : Fr 74 75 M4 (mI M4 74 0 0) := Fr.i (by omega) (by omega)
    obtain ⟨M6, g1, g2, g3⟩ := p_traceHands c4 (c3.r c4.1 hF5 (by omega))
    have hC6 := hC.t30 hw5 g2 g3.ca
    obtain ⟨M7, d1, d2, d3⟩ := p_LtakeFrom (d := 8) (e := 30) (by omega) c4 hC6.1.ca g3
    rw [c1, bnd_s, bl_e, if_neg (nI_pos (by omega)), g1, bnd_s, d1, bnd_s]
    exact qc_ok (Fr.tr (f86 M4 c2) (Fr.tr (g2.w (by omega) (by omega)) (d2.w (by omega) (by omega)))) (hC6.t8 hw5 d2 d3)
  | inr e1 =>
    rw [e] at hP2
    obtain ⟨M4, c1, c2, c3, c4⟩ := hP2
    rw [c1, bnd_s, bl_e, if_pos (neg_e e1 (by omega))]
    exact qc_ok (f86 M4 c2) (cl M4 c2 c3)
