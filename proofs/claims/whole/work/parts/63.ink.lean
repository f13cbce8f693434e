/-! the class: the least ink that owns most -/
theorem wr_ik (t : St) (h v k : Nat) : wrS (upH t h (sik (hS t h) v)) k = if k = h then decide (cst (hS t h) ≤ v) else wrS t k := by
  unfold wrS
  rw [cst_ik]
  by_cases e : k = h
  · subst e; rw [upH_s, if_pos rfl]; rfl
  · rw [upH_n e, if_neg e]
theorem ik_ik (t : St) (h v k : Nat) : ikH (hS (upH t h (sik (hS t h) v)) k) = if k = h then v else ikH (hS t k) := by
  by_cases e : k = h
  · subst e; rw [upH_s, if_pos rfl]; rfl
  · rw [upH_n e, if_neg e]
theorem wi_ik (t : St) (h v k c : Nat) : wi (upH t h (sik (hS t h) v)) k c = ((if k = h then decide (cst (hS t h) ≤ v) else wrS t k) && tb (inS t k) c) := by
  unfold wi
  rw [wr_ik]
  unfold inS
  rw [ln_ik]
theorem ikG_mono {t : St} {h : Nat} {v w : Nat} (hvw : v ≤ w) : ikG t h v ≤ ikG t h w := by
  unfold ikG owc shs
  rw [pc_cs, pc_cs]
  apply fb_ct_sub
  intro c hc e
  have e1 := of_decide_eq_true e
  apply decide_eq_true
  rw [owN_iff] at e1 ⊢
  obtain ⟨a, b, d⟩ := e1
  refine ⟨a, ?_, fun o ho ho2 hb => ?_⟩
  · rw [wi_ik, if_pos rfl] at b ⊢
    simp only [Bool.and_eq_true, decide_eq_true_eq] at b ⊢
    exact ⟨by omega, b.2⟩
  · unfold bef at hb d
    by_cases q : o = h
    · subst q
      rcases hb with z | z <;> omega
    · rw [ik_ik, ik_ik, if_neg q, if_pos rfl] at hb
      have ho3 : wi (upH t h (sik (hS t h) v)) o c = true := by
        rw [wi_ik, if_neg q] at ho2 ⊢
        exact ho2
      have hd := d o ho ho3
      rw [ik_ik, ik_ik, if_neg q, if_pos rfl] at hd
      apply hd
      rcases hb with z | z
      · exact Or.inl (by omega)
      · by_cases y : v = w
        · exact Or.inr ⟨by omega, z.2⟩
        · exact Or.inl (by omega)
theorem bx_hi {g : Nat → Nat} {m L : Nat} : ∀ (n i : Nat), (∀ v, i ≤ v → v < i + n → g v ≤ m) → bxF g n i (some (m, L)) = some (m, L) := by
  intro n
  induction n with
  | zero => intro i _; rfl
  | succ n ih =>
    intro i h
    have h1 := h i (Nat.le_refl _) (by omega)
    rw [bxF_b, show bst (some (m, L)) (g i) i = some (m, L) by unfold bst; dsimp only; rw [if_neg (by omega)]]
    exact ih (i + 1) (fun v h2 h3 => h v (by omega) (by omega))
theorem bx_lo {g : Nat → Nat} {m L : Nat} (hg : g L = m) : ∀ (n i : Nat) (p : Option (Nat × Nat)), (∀ q, p = some q → q.1 < m) → i ≤ L → L < i + n → (∀ v, i ≤ v → v < L → g v < m) → (∀ v, L < v → v < i + n → g v ≤ m) → bxF g n i p = some (m, L) := by
  intro n
  induction n with
  | zero => intro i p _ h1 h2; omega
  | succ n ih =>
    intro i p hp h1 h2 h3 h4
    rw [bxF_b]
    by_cases e : i = L
    · subst e
      have hb : bst p (g i) i = some (m, i) := by
        unfold bst
        cases p with
        | none => dsimp only; rw [hg]
        | some q =>
          have := hp q rfl
          dsimp only
          rw [hg, if_pos this]
      rw [hb]
      exact bx_hi n (i + 1) (fun v h5 h6 => h4 v (by omega) (by omega))
    · refine ih (i + 1) _ (fun q hq => ?_) (by omega) (by omega) (fun v h5 h6 => h3 v (by omega) h6) (fun v h5 h6 => h4 v h5 (by omega))
      have h5 := h3 i (Nat.le_refl _) (by omega)
      unfold bst at hq
      cases p with
      | none => simp at hq; rw [← hq]; exact h5
      | some r =>
        have := hp r rfl
        dsimp only at hq
        split at hq
        · simp at hq; rw [← hq]; exact h5
        · simp at hq; rw [← hq]; exact this
theorem bx_ik {t : St} {h L : Nat} (hL : L ≤ 999) (h1 : ∀ v, v < L → ikG t h v < ikG t h 999) (h2 : ikG t h L = ikG t h 999) : bB (bxF (ikG t h) 1000 0 none) = nI L := by
  rw [bx_lo h2 1000 0 none (fun q hq => by simp at hq) (by omega) (by omega) (fun v _ hv => h1 v hv) (fun v _ hv => ikG_mono (by omega))]
  rfl
theorem sik_id (x : HS) : sik x (ikH x) = x := rfl
theorem p_ikL44 {A : Ab} (hw : WfA A) {M0 : Nm} (hA : CA M0 A) {j : Nat} (hj : j < nS (tA A)) : ∀ (n f i lo hi c : Nat) (M : Nm), c ≤ 999 → LandR 30 M (upH (tA A) j (sik (hS (tA A) j) c)) → Fr 30 52 M0 M → i + n = 999 → n < f → lo ≤ hi → hi ≤ 999 → hi - lo ≤ n → (∀ v, v < lo → ikG (tA A) j v < ikG (tA A) j 999) → ikG (tA A) j hi = ikG (tA A) j 999 → QC id A M0 (f_P_ink_L44 (fun y14 M13 => some (y14, M13)) (nI j) (ho 30 j) (nI (ikG (tA A) j 999)) f (nI lo) (nI hi) (nI i) M) (lfA A (.inl (bB (bxF (ikG (tA A) j) 1000 0 none), tA A))) := by
  have h6 := hw.1.1
  have hx := hw.1.2.2 j hj
  intro n
  induction n with
  | zero =>
    intro f i lo hi c M hc hl hF hi1 hf q1 q2 q3 g1 g2
    obtain ⟨f, rfl⟩ : ∃ g, f = g + 1 := ⟨f - 1, by omega⟩
    have e1 : i = 999 := by omega
    have e2 : lo = hi := by omega
    subst e1 e2
    rw [f_P_ink_L44, if_pos (by decide), bx_ik q2 g1 g2]
    exact qc_30 hw hA hF hl
  | succ n ih =>
    intro f i lo hi c M hc hl hF hi1 hf q1 q2 q3 g1 g2
    obtain ⟨f, rfl⟩ : ∃ g, f = g + 1 := ⟨f - 1, by omega⟩
    rw [f_P_ink_L44, if_neg (show ¬ (999 : Int32) ≤ nI i from nI_ge (b := 999) (by omega) (by decide))]
    by_cases e : hi ≤ lo
    · have e2 : lo = hi := by omega
      subst e2
      rw [if_pos (nI_le (Nat.le_refl _) (by omega)), bx_ik q2 g1 g2]
      exact qc_30 hw hA hF hl
    · have hr : HR (ho 30 j) M (hS (upH (tA A) j (sik (hS (tA A) j) c)) j) := hl.2.2.2.1 j hj
      rw [upH_s] at hr
      have hr2 : HR (ho 30 j) (mI M (ho 30 j) 2 (nI ((lo + hi) / 2))) (sik (hS (tA A) j) ((lo + hi) / 2)) := p_setInk hr ((lo + hi) / 2)
      have hF2 : Fr (ho 30 j) (ho 30 j + 3) M (mI M (ho 30 j) 2 (nI ((lo + hi) / 2))) := Fr.i (Nat.le_refl _) (by omega)
      have hl1 := hl.up hF2 hr2
      rw [upH_up] at hl1
      have hwu : Wf (upH (tA A) j (sik (hS (tA A) j) ((lo + hi) / 2))) := hw.1.up (hx.sik (by omega))
      obtain ⟨M2, b1, b2, b3⟩ := p_howManyOwnedBy is30 hwu hl1 (k := j) hj
      have hF3 := Fr.tr (Fr.tr hF (Fr.hd (d := 30) (h := j) (by omega) hF2)) b2.fr
      have b1' : f_L_howManyOwnedBy 30 (nI j) (mI M (ho 30 j) 2 (nI ((lo + hi) / 2))) = some (nI (ikG (tA A) j ((lo + hi) / 2)), M2) := b1
      have hz : M2.1 (ho 30 j) 2 = nI ((lo + hi) / 2) := by
        have := b3.2.2.2.1 j hj
        rw [upH_s] at this
        exact this.1.2.2.1
      have hdv : (nI lo + nI hi) / 2 = nI ((lo + hi) / 2) := by rw [nI_add]; exact pk_div (d := 2) (by omega) (by decide) (by decide)
      have l1 : ikG (tA A) j ((lo + hi) / 2) ≤ 48 := owc_le _ _
      have l2 : ikG (tA A) j 999 ≤ 48 := owc_le _ _
      have l3 : ikG (tA A) j ((lo + hi) / 2) ≤ ikG (tA A) j 999 := ikG_mono (by omega)
      rw [if_neg (nI_ge (by omega) (by omega)), hdv, bl_e, b1', bnd_s, hz, nI_1, nI_1]
      by_cases q : ikG (tA A) j ((lo + hi) / 2) = ikG (tA A) j 999
      · rw [if_pos (by rw [q])]
        exact ih f (i + 1) lo ((lo + hi) / 2) ((lo + hi) / 2) M2 (by omega) b3 hF3 (by omega) (by omega) (by omega) (by omega) (by omega) g1 q
      · rw [if_neg (fun y => q ((nI_eq (by omega) (by omega)).mp y))]
        exact ih f (i + 1) ((lo + hi) / 2 + 1) hi ((lo + hi) / 2) M2 (by omega) b3 hF3 (by omega) (by omega) (by omega) (by omega) (by omega) (fun v hv => by
          have := ikG_mono (t := tA A) (h := j) (v := v) (w := (lo + hi) / 2) (by omega)
          omega) g2
theorem k_ink {A : Ab} (hw : WfA A) (v1 : Int32) (M : Nm) (h : CA M A) : QC id A M (f_P_ink v1 M) (lfA A (o_ink v1 (tA A))) := by
  have h6 := hw.1.1
  unfold f_P_ink o_ink
  by_cases e1 : hn v1 (tA A) = true
  · obtain ⟨j, j1, j2, j3⟩ := hn_of e1
    have hx := hw.1.2.2 j j1
    obtain ⟨M1, a1, a2, a3⟩ := p_onTrial hw h j1 j2
    have hr2 : HR (ho 30 j) (mI M1 (ho 30 j) 2 (nI 999)) (sik (hS (tA A) j) 999) := p_setInk (a3.2.2.2.1 j j1) 999
    have hF2 : Fr (ho 30 j) (ho 30 j + 3) M1 (mI M1 (ho 30 j) 2 (nI 999)) := Fr.i (Nat.le_refl _) (by omega)
    have hl1 := a3.up hF2 hr2
    have hwu : Wf (upH (tA A) j (sik (hS (tA A) j) 999)) := hw.1.up (hx.sik (by omega))
    obtain ⟨M2, b1, b2, b3⟩ := p_howManyOwnedBy is30 hwu hl1 (k := j) j1
    have hF3 := Fr.tr (Fr.tr a2 (Fr.hd (d := 30) (h := j) (by omega) hF2)) b2.fr
    have b1' : f_L_howManyOwnedBy 30 (nI j) (mI M1 (ho 30 j) 2 999) = some (nI (ikG (tA A) j 999), M2) := b1
    rw [a1, bnd_s, ifn_s, grd_h (isb_ho is30 (by omega)), if_pos (show hn v1 (tA A) = true from e1), j3, j2, bl_e, b1', bnd_s]
    exact p_ikL44 hw h j1 999 FU 0 0 999 999 M2 (by omega) b3 hF3 rfl (FU_gt (by decide)) (by omega) (by omega) (by omega) (fun v hv => by omega) rfl
  · rw [p_onTrialN hw h e1, bnd_s, ifn_n, if_neg (show ¬ hn v1 (tA A) = true from e1)]
    exact qc_f0 hw h
