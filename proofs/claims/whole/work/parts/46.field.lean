/-! the reference: the field -/
theorem nx_ge {z : Nat} {p : Nat → Nat} {a : Nat} (h : a ≤ z) : a ≤ nx z p a := by
  have h1 := tkB_le (p := p) h
  have h2 := tkA_le (p := p) h1.2
  unfold nx
  omega
theorem nx_gt {z : Nat} {p : Nat → Nat} {a : Nat} (h : a < z) : a < nx z p a := by
  have h1 : a < tkB z p a := by
    unfold tkB
    split
    · have := sk_le (q := isL z p) (show a + 1 ≤ z by omega); omega
    · split
      · have := sk_le (q := isD z p) (show a + 1 ≤ z by omega); omega
      · omega
  have h2 := tkA_le (p := p) (tkB_le (p := p) (show a ≤ z by omega)).2
  unfold nx
  omega
theorem strF_ok {z : Nat} {p : Nat → Nat} {h : Nat} : ∀ (n : Nat) (t : St) (a : Nat) (t' : St) (a' : Nat), Wf t → h < nS t → a ≤ z → strF z p h n t a = .inl (t', a') → Wf t' ∧ a ≤ a' ∧ a' ≤ z := by
  intro n
  induction n with
  | zero =>
    intro t a t' a' hw hh ha e
    have e' : (Sum.inl (t, a) : (St × Nat) ⊕ Nat) = .inl (t', a') := e
    simp at e'
    obtain ⟨rfl, rfl⟩ := e'
    exact ⟨hw, Nat.le_refl _, ha⟩
  | succ n ih =>
    intro t a t' a' hw hh ha e
    rw [strF_s] at e
    cases ew : wwN z p a with
    | none =>
      rw [ew] at e
      simp at e
      obtain ⟨rfl, rfl⟩ := e
      exact ⟨hw, Nat.le_refl _, ha⟩
    | some w =>
      rw [ew] at e
      dsimp only at e
      by_cases q8 : nsH (hS t h) < 8
      · rw [if_pos q8] at e
        by_cases q : nuO z p (nx z p a) 1 7 = true
        · rw [if_pos q] at e
          have n1 := nx_ge (p := p) ha
          have n2 := nx_le (p := p) ha
          have n3 := nx_ge (p := p) n2
          have := ih _ _ t' a' (Wf.up hw (WfH.ad (hw.2.2 h hh) q8 (wwN_lt ew) (nuO_le q))) hh (nx_le n2) e
          exact ⟨this.1, by omega, this.2.2⟩
        · rw [if_neg q] at e; simp at e
      · rw [if_neg q8] at e; simp at e
theorem inkF_ok {z : Nat} {p : Nat → Nat} {h : Nat} {t : St} {a : Nat} {t' : St} {a' : Nat} (hw : Wf t) (hh : h < nS t) (ha : a ≤ z) (e : inkF z p h t a = .inl (t', a')) : Wf t' ∧ a ≤ a' ∧ a' ≤ z := by
  unfold inkF at e
  have n1 := nx_ge (p := p) ha
  have n2 := nx_le (p := p) ha
  have n3 := nx_ge (p := p) n2
  split at e
  · by_cases q : nuO z p (nx z p a) 0 999 = true
    · rw [if_pos q] at e
      have := strF_ok 9 _ _ t' a' (Wf.up hw (WfH.sik (hw.2.2 h hh) (nuO_le q).2)) hh (nx_le n2) e
      exact ⟨this.1, by omega, this.2.2⟩
    · rw [if_neg q] at e; simp at e
  · exact strF_ok 9 t a t' a' hw hh ha e
theorem hanF_ok {z : Nat} {p : Nat → Nat} {k : Nat} (hk : k < 6) {t : St} {a : Nat} {t' : St} {a' : Nat} (hw : Wf t) (ha : a ≤ z) (e : hanF z p k t a = .inl (t', a')) : Wf t' ∧ a ≤ a' ∧ a' ≤ z := by
  unfold hanF at e
  have n1 := nx_ge (p := p) ha
  have n2 := nx_le (p := p) ha
  have n3 := nx_ge (p := p) n2
  have n4 := nx_le (p := p) n2
  have n5 := nx_ge (p := p) n4
  by_cases q6 : nS t < 6
  · rw [if_pos q6] at e
    by_cases q1 : isW z p (nx z p a) atW = true
    · rw [if_pos q1] at e
      by_cases q : nuO z p (nx z p (nx z p a)) 0 47 = true
      · rw [if_pos q] at e
        have := inkF_ok (h := nS t) (Wf.ad hw q6 (WfH.n hk (by have := (nuO_le q).2; omega))) (Nat.lt_succ_self _) (nx_le n4) e
        exact ⟨this.1, by omega, this.2.2⟩
      · rw [if_neg q] at e; simp at e
    · rw [if_neg q1] at e; simp at e
  · rw [if_neg q6] at e; simp at e
theorem smF_ok {z : Nat} {p : Nat → Nat} {b : Bool} {t : St} {a : Nat} {t' : St} {a' : Nat} (hw : Wf t) (ha : a ≤ z) (e : smF z p b t a = .inl (t', a')) : Wf t' ∧ a ≤ a' ∧ a' ≤ z := by
  unfold smF at e
  by_cases q : nuO z p a 0 47 = true
  · rw [if_pos q] at e
    simp at e
    obtain ⟨rfl, rfl⟩ := e
    exact ⟨wf_smS hw (by have := (nuO_le q).2; omega) b, nx_ge ha, nx_le ha⟩
  · rw [if_neg q] at e; simp at e
theorem itF_ok {z : Nat} {p : Nat → Nat} {t : St} {a : Nat} {t' : St} {a' : Nat} (hw : Wf t) (ha : a ≤ z) (e : itF z p t a = .inl (t', a')) : Wf t' ∧ a ≤ a' ∧ a' ≤ z := by
  unfold itF at e
  cases ek : kwN z p a with
  | some k => rw [ek] at e; exact hanF_ok (kwN_lt ek) hw ha e
  | none =>
    rw [ek] at e
    dsimp only at e
    unfold siF at e
    have n1 := nx_ge (p := p) ha
    have n2 := nx_le (p := p) ha
    by_cases q1 : isW z p a smW = true
    · rw [if_pos q1] at e
      have := smF_ok hw n2 e
      exact ⟨this.1, by omega, this.2.2⟩
    · rw [if_neg q1] at e
      by_cases q2 : isW z p a drW = true
      · rw [if_pos q2] at e
        have := smF_ok hw n2 e
        exact ⟨this.1, by omega, this.2.2⟩
      · rw [if_neg q2] at e; simp at e
def isC (z : Nat) (p : Nat → Nat) (a : Nat) : Bool := decide (a < z) && decide (p a = 59)
/-- items behind semicolons -/
def ffF (z : Nat) (p : Nat → Nat) : Nat → Nat → St → Nat → (Nat × St) ⊕ Nat
  | 0, _, _, a => .inr a
  | n + 1, i, t, a => if isC z p a then (match itF z p t (nx z p a) with
    | .inr e => .inr e
    | .inl q => ffF z p n (i + 1) q.1 q.2) else if a < z then .inr a else .inl (i, t)
theorem ffF_s (z : Nat) (p : Nat → Nat) (n i : Nat) (t : St) (a : Nat) : ffF z p (n + 1) i t a = if isC z p a then (match itF z p t (nx z p a) with
    | .inr e => .inr e
    | .inl q => ffF z p n (i + 1) q.1 q.2) else if a < z then .inr a else .inl (i, t) := rfl
/-- the end of the reading -/
def fkK (y : Int32) (M : Nm) : Option (Int32 × Nm) := if (M.1 86 15) = 0 then (if (M.1 86 11) ≤ (M.1 86 12) then (f_M_field_B83 y 0 M) else (f_M_field_B83 y 1 M)) else (f_M_field_B83 y 1 M)
def PF (z : Nat) (p : Nat → Nat) (M : Nm) (r : Option (Int32 × Nm)) : (Nat × St) ⊕ Nat → Prop
  | .inl (i, t) => ∃ M1, r = some (nI i, mI M1 86 11 0) ∧ Gx M M1 ∧ Rw (M1.1 87) t
  | .inr e => ∃ M1 M2, r = some ((-1) - nI e, mI M2 86 11 0) ∧ Gx M M1 ∧ f_M_putsBack M1 = some ((), M2)
theorem p_fkW {z : Nat} {p : Nat → Nat} {M0 M : Nm} {e : Nat} (hG : Gx M0 M) (hL : Lk z p M e) (y : Int32) : PF z p M0 (f_M_field_B83 y 1 M) (.inr e) := by
  obtain ⟨M2, a1, a2, a3, a4⟩ := p_putsBack (mI M 86 15 1)
  refine ⟨mI M 86 15 1, M2, ?_, Gx.tr hG (Gx.i (by decide)), a1⟩
  have h15 : M2.1 86 15 = 1 := by rw [a2 86 (by decide), mI_u, uw_s]
  have h12 : M2.1 86 12 = nI e := by rw [a2 86 (by decide), mI_u, uw_n (by decide)]; exact hL.2.2.1
  unfold f_M_field_B83 f_M_field_B97
  rw [grd_h (by decide), bl_e, if_neg (show ¬ (mI M 86 15 1).1 86 15 = 0 by rw [mI_u, uw_s]; decide), a1, bnd_s, bl_e, if_neg (show ¬ (mI M2 86 11 0).1 86 15 = 0 by rw [mI_u, uw_n (by decide), h15]; decide), show (mI M2 86 11 0).1 86 12 = nI e by rw [mI_u, uw_n (by decide), h12]]
theorem p_ffL {z : Nat} {p : Nat → Nat} (M0 : Nm) : ∀ (n f i : Nat) (t : St) (a : Nat) (M : Nm), Wf t → Gx M0 M → Lk z p M a → M.1 86 15 = 0 → Rw (M.1 87) t → z - a < n → n + 1 < f → PF z p M0 (f_M_field_L24 fkK f (nI i) M) (ffF z p n i t a) := by
  intro n
  induction n with
  | zero => intro f i t a M _ _ _ _ _ h; omega
  | succ n ih =>
    intro f i t a M hw hG hL h15 hR hn hf
    obtain ⟨f, rfl⟩ : ∃ g, f = g + 1 := ⟨f - 1, by omega⟩
    have h0 := hL.1.1
    have ha := hL.2.1
    have hc : chI z p a = 59 ↔ isC z p a = true := by
      unfold chI isC
      by_cases q : a < z
      · have := hL.1.2.1 a q
        rw [if_pos q, show (59 : Int32) = nI 59 from rfl, nI_eq (by omega) (by decide)]
        simp [q]
      · rw [if_neg q]
        simp only [q, decide_false, Bool.false_and]
        decide
    rw [ffF_s, f_M_field_L24, h15, if_pos rfl, hL.2.2.1, hL.1.b (by omega), bnd_s]
    by_cases qc : isC z p a = true
    · have hz : a < z := by simp [isC] at qc; exact qc.1
      have hgt := nx_gt (p := p) hz
      obtain ⟨m1, m2⟩ := p_mustY hL h15
      rw [if_pos (hc.mpr qc), if_pos qc, m1, bnd_s]
      have e15 : (tkM M (nx z p a) (tkB z p (nx z p a))).1 86 15 = 0 := by rw [tk15 (by decide)]; exact h15
      have e87 : Rw ((tkM M (nx z p a) (tkB z p (nx z p a))).1 87) t := by rw [tk87]; exact hR
      have hg1 : Gx M0 (tkM M (nx z p a) (tkB z p (nx z p a))) := Gx.tr hG Gx.k
      generalize tkM M (nx z p a) (tkB z p (nx z p a)) = M1 at m2 e15 e87 hg1
      have hi := p_item t (nx z p a) M1 hw m2 e15 e87
      cases ho : itF z p t (nx z p a) with
      | inl q =>
        obtain ⟨t', a'⟩ := q
        have hok := itF_ok hw m2.2.1 ho
        rw [ho] at hi
        obtain ⟨M2, c1, c2, c3, c4, c5⟩ := hi
        rw [c1, bnd_s, nI_1]
        exact ih f (i + 1) t' a' M2 hok.1 (Gx.tr hg1 c2) c3 c4 c5 (by omega) (by omega)
      | inr e =>
        rw [ho] at hi
        obtain ⟨M2, c1, c2, c3, c4⟩ := hi
        obtain ⟨f, rfl⟩ : ∃ g, f = g + 1 := ⟨f - 1, by omega⟩
        rw [c1, bnd_s, f_M_field_L24, c4, if_neg (by decide)]
        show PF z p M0 (fkK (nI i + 1) M2) (.inr e)
        unfold fkK
        rw [c4, if_neg (by decide)]
        exact p_fkW (Gx.tr hg1 c2) c3 _
    · rw [if_neg (fun y => qc (hc.mp y)), if_neg qc]
      unfold fkK
      rw [h15, if_pos rfl, hL.1.2.2.1, hL.2.2.1]
      by_cases q : a < z
      · rw [if_neg (nI_ge q (by omega)), if_pos q]
        exact p_fkW hG hL _
      · rw [if_pos (nI_le (by omega) (by omega)), if_neg q]
        unfold f_M_field_B83
        rw [grd_h (by decide), bl_e, mI_id h15, h15, if_pos rfl, bl_e, show (mI M 86 11 0).1 86 15 = 0 by rw [mI_u, uw_n (by decide), h15], if_pos rfl]
        exact ⟨M, rfl, hG, hR⟩
/-- the whole text -/
def txF (z : Nat) (p : Nat → Nat) (t : St) : (Nat × St) ⊕ Nat := match itF z p t (tkA z p 0) with
  | .inr e => .inr e
  | .inl q => ffF z p 121 1 q.1 q.2
def o_field (A : Ab) : (Int32 × Ab) ⊕ Nat := match txF (zA A) (pA A) (tA A) with
  | .inr e => .inl ((-1) - nI e, spA A 0 (pA A))
  | .inl q => .inl (nI q.1, spA (stA A q.2) 0 (pA A))
theorem RA.g {M0 M M' : Nm} {A : Ab} (hR : RA M0 A) (hG : Gx M M') (h : ∀ c, c ≠ 86 → c ≠ 89 → M.1 c = M0.1 c) (h5 : M.1 86 5 = M0.1 86 5) (hl : M.2 = M0.2) {M2 : Nm} (h2 : ∀ c, c ≠ 87 → M2.1 c = M'.1 c) (hl2 : M2.2 = M'.2) {t : St} (ht : Rw (M2.1 87) t) : RA (mI M2 86 11 0) (spA (stA A t) 0 (pA A)) ∧ Fk M0 (mI M2 86 11 0) := by
  obtain ⟨r1, r2, r3, r4, r5, r6, r7⟩ := hR
  have k : ∀ c, c ≠ 86 → c ≠ 87 → c ≠ 89 → c ≠ 94 → c ≠ 95 → M2.1 c = M0.1 c := fun c a b d e f => (h2 c b).trans ((hG.1 c a b e f).trans (h c a d))
  have kl : ∀ c, c ≠ 92 → c ≠ 93 → M2.2.1 c = M0.2.1 c := fun c a b => by rw [hl2, hG.2.2.1 c a b, hl]
  refine ⟨⟨by rw [mI_o (by decide)]; exact ht, fun i hi => by rw [mI_o (by decide), k 91 (by decide) (by decide) (by decide) (by decide) (by decide)]; exact r2 i hi, ?_, fun q => by rw [mI_o (by decide), k 88 (by decide) (by decide) (by decide) (by decide) (by decide)]; exact r4 q, by rw [mI_u, uw_s]; rfl, fun i hi => absurd hi (Nat.not_lt_zero _), fun s hs => ?_⟩, ⟨fun c hc => by rw [mI_o (by omega)]; exact k c (by omega) (by omega) (by omega) (by omega) (by omega), fun c hc => kl c (by omega) (by omega), by rw [show (mI M2 86 11 0).2.2 = M2.2.2 from rfl, hl2, hG.2.2.2, hl]⟩⟩
  · rw [mI_u, uw_n (by decide), h2 86 (by decide), hG.2.1 5 (by decide), h5]; exact r3
  · rw [mI_o (by decide), mI_o (by decide), k 97 (by decide) (by decide) (by decide) (by decide) (by decide), k 98 (by decide) (by decide) (by decide) (by decide) (by decide), mI_L, kl 99 (by decide) (by decide)]
    exact r7 s hs
theorem q_field {A : Ab} (hw : WfA A) (M : Nm) (hR : RA M A) : QA id A M (f_M_field M) (o_field A) := by
  obtain ⟨M1, a1, a2, a3, a4⟩ := p_saves M
  have h89 : Rw (M1.1 89) (tA A) := Rw_c hw.1 hR.1 a4
  obtain ⟨r1, r2, r3, r4, r5, r6, r7⟩ := id hR
  have hT : Tp (zA A) (pA A) (mI (mI M1 86 15 0) 86 13 0) := by
    refine Tp.i (Tp.i ⟨hw.2.2.1, hw.2.2.2.1, ?_, fun i hi => ?_⟩ (by decide)) (by decide)
    · rw [a2 86 (by decide)]; exact r5
    · rw [a2 96 (by decide)]; exact r6 i hi
  have htk := p_token (b := 0) (Nat.zero_le _) (mI (mI M1 86 15 0) 86 13 0) hT (by rw [mI_u, uw_s]; rfl)
  have hL : Lk (zA A) (pA A) (tkM (mI (mI M1 86 15 0) 86 13 0) (tkA (zA A) (pA A) 0) (tkB (zA A) (pA A) (tkA (zA A) (pA A) 0))) (tkA (zA A) (pA A) 0) := Lk.n hT (Nat.zero_le _) rfl
  have e15 : (tkM (mI (mI M1 86 15 0) 86 13 0) (tkA (zA A) (pA A) 0) (tkB (zA A) (pA A) (tkA (zA A) (pA A) 0))).1 86 15 = 0 := by rw [tk15 (by decide), mI_u, uw_n (by decide), mI_u, uw_s]
  have e87 : Rw ((tkM (mI (mI M1 86 15 0) 86 13 0) (tkA (zA A) (pA A) 0) (tkB (zA A) (pA A) (tkA (zA A) (pA A) 0))).1 87) (tA A) := by rw [tk87, mI_o (by decide), mI_o (by decide), a2 87 (by decide)]; exact r1
  have hG : Gx M1 (tkM (mI (mI M1 86 15 0) 86 13 0) (tkA (zA A) (pA A) 0) (tkB (zA A) (pA A) (tkA (zA A) (pA A) 0))) := Gx.tr (Gx.i (by decide)) (Gx.tr (Gx.i (by decide)) Gx.k)
  have hfin : ∀ r, PF (zA A) (pA A) M1 r (txF (zA A) (pA A) (tA A)) → QA id A M r (o_field A) := by
    intro r hr
    unfold o_field
    cases ht : txF (zA A) (pA A) (tA A) with
    | inl q =>
      obtain ⟨i, t⟩ := q
      rw [ht] at hr
      obtain ⟨M3, b1, b2, b3⟩ := hr
      have := hR.g b2 (fun c _ d => a2 c d) (by rw [a2 86 (by decide)]) a3 (fun _ _ => rfl) rfl b3
      exact ⟨_, b1, this.2, this.1⟩
    | inr e =>
      rw [ht] at hr
      obtain ⟨M3, M4, b1, b2, b3⟩ := hr
      obtain ⟨M5, c1, c2, c3, c4⟩ := p_putsBack M3
      have e45 : M4 = M5 := by
        rw [b3] at c1
        simp at c1
        exact c1
      subst e45
      have h4 : Rw (M4.1 87) (tA A) := Rw_c hw.1 h89 (fun j hj => by rw [c4 j hj, b2.1 89 (by decide) (by decide) (by decide) (by decide)])
      have := hR.g b2 (fun c _ d => a2 c d) (by rw [a2 86 (by decide)]) a3 c2 c3 h4
      exact ⟨_, b1, this.2, this.1⟩
  apply hfin
  unfold f_M_field
  rw [a1, bnd_s, grd_h (by decide), bl_e, bl_e, htk, bnd_s]
  generalize tkM (mI (mI M1 86 15 0) 86 13 0) (tkA (zA A) (pA A) 0) (tkB (zA A) (pA A) (tkA (zA A) (pA A) 0)) = M2 at hL e15 e87 hG
  have hi := p_item (tA A) (tkA (zA A) (pA A) 0) M2 hw.1 hL e15 e87
  unfold txF
  have hF : 123 < FU := FU_gt (by decide)
  have h120 := hw.2.2.1
  cases ho : itF (zA A) (pA A) (tA A) (tkA (zA A) (pA A) 0) with
  | inl q =>
    obtain ⟨t', a'⟩ := q
    have hok := itF_ok hw.1 hL.2.1 ho
    rw [ho] at hi
    obtain ⟨M3, c1, c2, c3, c4, c5⟩ := hi
    rw [c1, bnd_s]
    exact p_ffL M1 121 FU 1 t' a' M3 hok.1 (Gx.tr hG c2) c3 c4 c5 (by omega) (by omega)
  | inr e =>
    rw [ho] at hi
    obtain ⟨M3, c1, c2, c3, c4⟩ := hi
    rw [c1, bnd_s]
    show PF (zA A) (pA A) M1 (f_M_field_L24 fkK (999999 + 1) 1 M3) (.inr e)
    rw [f_M_field_L24, c4, if_neg (by decide)]
    unfold fkK
    rw [c4, if_neg (by decide)]
    exact p_fkW (Gx.tr hG c2) c3 _
