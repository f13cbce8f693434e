/-! calls keep the bounds -/
theorem w_smudge {t : St} (hw : Wf t) (v1 v2 : Int32) : ∀ a t', o_smudge v1 v2 t = .inl (a, t') → Wf t' := by
  intro a t' h
  unfold o_smudge at h
  split at h
  · next q =>
    simp only [Bool.and_eq_true] at q
    obtain ⟨c, c1, c2, c3⟩ := rg47 q.1
    simp at h
    rw [← h.2]
    exact wf_smS hw (by rw [c3]; exact c1) _
  · simp at h
theorem w_cell {t : St} (hw : Wf t) (v1 v2 : Int32) : ∀ a t', o_cell v1 v2 t = .inl (a, t') → Wf t' := by
  intro a t' h
  unfold o_cell at h
  split at h
  · simp at h; rw [← h.2]; exact hw
  · simp at h
theorem w_cells {t : St} (hw : Wf t) (v1 : Int32) : ∀ a t', o_cells v1 t = .inl (a, t') → Wf t' := by
  intro a t' h
  unfold o_cells at h
  split at h
  · simp at h; rw [← h.2]; exact hw
  · simp at h
theorem w_hand {t : St} (hw : Wf t) (v1 v2 : Int32) : ∀ a t', o_hand v1 v2 t = .inl (a, t') → Wf t' := by
  intro a t' h
  have h6 := hw.1
  unfold o_hand at h
  split at h
  · next q =>
    simp only [Bool.and_eq_true] at q
    obtain ⟨k, k1, k2, k3⟩ := rgN (n := 5) (by decide) q.1
    obtain ⟨c, c1, c2, c3⟩ := rg47 q.2
    split at h
    · simp at h
    · simp at h; rw [← h.2]
      exact hw.ad (by omega) (WfH.n (by omega) (by rw [c3]; exact c1))
  · simp at h
theorem w_stroke {t : St} (hw : Wf t) (v1 v2 v3 : Int32) : ∀ a t', o_stroke v1 v2 v3 t = .inl (a, t') → Wf t' := by
  intro a t' h
  unfold o_stroke at h
  split at h
  · next q =>
    simp only [Bool.and_eq_true] at q
    obtain ⟨j, j1, j2, j3⟩ := hn_of q.1
    obtain ⟨w, w1, w2, w3⟩ := rgN (n := 3) (by decide) q.2.1
    obtain ⟨l, l0, l1, l2, l3⟩ := rg1n (n := 7) (by decide) q.2.2
    have hx := hw.2.2 j j1
    have hx5 := hx.2.2.2.2.1
    split at h
    · simp at h
    · next q2 =>
      simp at h; rw [← h.2]
      rw [j3] at q2 ⊢
      exact hw.up (hx.ad (by omega) (by omega) (by rw [l3]; exact ⟨l0, l1⟩))
  · simp at h
theorem w_of {t : St} (hw : Wf t) (v1 v2 : Int32) : ∀ a t', o_of v1 v2 t = .inl (a, t') → Wf t' := by
  intro a t' h
  unfold o_of at h
  split at h
  · simp at h; rw [← h.2]; exact hw
  · simp at h
theorem w_told {t : St} (hw : Wf t) (v1 v2 v3 : Int32) : ∀ a t', o_told v1 v2 v3 t = .inl (a, t') → Wf t' := by
  intro a t' h
  unfold o_told at h
  split at h
  · simp at h; rw [← h.2]; exact hw
  · simp at h
theorem w_set {t : St} (hw : Wf t) (v1 v2 v3 : Int32) : ∀ a t', o_set v1 v2 v3 t = .inl (a, t') → Wf t' := by
  intro a t' h
  unfold o_set at h
  split at h
  · next q =>
    simp only [Bool.and_eq_true] at q
    obtain ⟨j, j1, j2, j3⟩ := hn_of q.1
    obtain ⟨c, c1, c2, c3⟩ := rg47 q.2.2
    simp at h; rw [← h.2, j3]
    exact hw.up ((hw.2.2 j j1).sat (by rw [c3]; exact c1))
  · split at h
    · next q =>
      simp only [Bool.and_eq_true] at q
      obtain ⟨j, j1, j2, j3⟩ := hn_of q.1
      obtain ⟨c, c1, c2, c3⟩ := rgN (n := 999) (by decide) q.2.2
      simp at h; rw [← h.2, j3]
      exact hw.up ((hw.2.2 j j1).sik (by rw [c3]; exact c1))
    · simp at h
theorem w_alter {t : St} (hw : Wf t) (v1 v2 v3 v4 : Int32) : ∀ a t', o_alter v1 v2 v3 v4 t = .inl (a, t') → Wf t' := by
  intro a t' h
  unfold o_alter at h
  split at h
  · next q =>
    simp only [Bool.and_eq_true] at q
    obtain ⟨j, k, j1, j2, j3, k1, k2, k3⟩ := hsn_of q.1
    obtain ⟨c, c1, c2, c3⟩ := rgN (n := 3) (by decide) q.2.2
    simp at h; rw [← h.2, j3]
    exact hw.up ((hw.2.2 j j1).swy (by omega))
  · split at h
    · next q =>
      simp only [Bool.and_eq_true] at q
      obtain ⟨j, k, j1, j2, j3, k1, k2, k3⟩ := hsn_of q.1
      obtain ⟨c, c0, c1, c2, c3⟩ := rg1n (n := 7) (by decide) q.2.2
      simp at h; rw [← h.2, j3]
      exact hw.up ((hw.2.2 j j1).sln (by rw [c3]; exact ⟨c0, c1⟩))
    · simp at h
theorem w_cut {t : St} (hw : Wf t) (v1 v2 : Int32) : ∀ a t', o_cut v1 v2 t = .inl (a, t') → Wf t' := by
  intro a t' h
  unfold o_cut at h
  split at h
  · next q =>
    simp only [Bool.and_eq_true] at q
    obtain ⟨j, j1, j2, j3⟩ := hn_of q.1
    have hx := hw.2.2 j j1
    have hx5 := hx.2.2.2.2.1
    have q2 := q.2
    rw [j3] at q2
    obtain ⟨c, c1, c2, c3⟩ := rgN (by omega) q2
    simp at h; rw [← h.2, j3]
    exact hw.up (hx.sns (by rw [c3]; exact c1))
  · simp at h
theorem w_turn {t : St} (hw : Wf t) (v1 v2 : Int32) : ∀ a t', o_turn v1 v2 t = .inl (a, t') → Wf t' := by
  intro a t' h
  unfold o_turn at h
  split at h
  · next q =>
    simp only [Bool.and_eq_true] at q
    obtain ⟨j, j1, j2, j3⟩ := hn_of q.1
    obtain ⟨c, c1, c2, c3⟩ := rgN (n := 5) (by decide) q.2
    simp at h; rw [← h.2, j3]
    exact hw.up ((hw.2.2 j j1).skd (by omega))
  · simp at h
theorem w_as {t : St} (hw : Wf t) (v1 v2 : Int32) : ∀ a t', o_as v1 v2 t = .inl (a, t') → Wf t' := by
  intro a t' h
  unfold o_as at h
  split at h
  · split at h
    · simp at h; rw [← h.2]; exact hw
    · simp at h
  · simp at h
theorem w_line {t : St} (hw : Wf t) (v1 : Int32) : ∀ a t', o_line v1 t = .inl (a, t') → Wf t' := by
  intro a t' h
  unfold o_line at h
  split at h
  · simp at h; rw [← h.2]; exact hw
  · simp at h
theorem w_inside {t : St} (hw : Wf t) (v1 : Int32) : ∀ a t', o_inside v1 t = .inl (a, t') → Wf t' := by
  intro a t' h
  unfold o_inside at h
  split at h
  · simp at h; rw [← h.2]; exact hw
  · simp at h
theorem w_years {t : St} (hw : Wf t) (v1 : Int32) : ∀ a t', o_years v1 t = .inl (a, t') → Wf t' := by
  intro a t' h
  unfold o_years at h
  split at h
  · split at h
    · simp at h; rw [← h.2]; exact wf_yrs _ hw
    · simp at h
  · simp at h
theorem w_now {t : St} (hw : Wf t) (v1 : Int32) : ∀ a t', o_now v1 t = .inl (a, t') → Wf t' := by
  intro a t' h
  unfold o_now at h
  split at h
  · simp at h; rw [← h.2]; exact hw
  · split at h
    · simp at h; rw [← h.2]; exact hw
    · split at h
      · simp at h; rw [← h.2]; exact hw
      · split at h
        · simp at h; rw [← h.2]; exact hw
        · split at h
          · simp at h; rw [← h.2]; exact hw
          · simp at h
theorem w_on {t : St} (hw : Wf t) (v1 v2 v3 : Int32) : ∀ a t', o_on v1 v2 v3 t = .inl (a, t') → Wf t' := by
  intro a t' h
  unfold o_on at h
  split at h
  · simp at h; rw [← h.2]; exact hw
  · simp at h
theorem w_dry {t : St} (hw : Wf t) (v1 : Int32) : ∀ a t', o_dry v1 t = .inl (a, t') → Wf t' := by
  intro a t' h
  unfold o_dry at h
  split at h
  · split at h
    · simp at h; rw [← h.2]; exact hw
    · simp at h
  · simp at h
theorem w_rich {t : St} (hw : Wf t) (v1 : Int32) : ∀ a t', o_rich v1 t = .inl (a, t') → Wf t' := by
  intro a t' h
  unfold o_rich at h
  split at h
  · split at h
    · simp at h
    · simp at h; rw [← h.2]; exact hw
  · simp at h
theorem w_best {t : St} (hw : Wf t) (p : Nat × Option Nat) : ∀ a t', a_best p t = .inl (a, t') → Wf t' := by
  intro a t' h
  unfold a_best at h
  split at h
  · simp at h
  · simp at h; rw [← h.2]; exact hw
theorem w_rain {t : St} (hw : Wf t) (v1 : Int32) : ∀ a t', o_rain v1 t = .inl (a, t') → Wf t' := by
  intro a t' h
  unfold o_rain at h
  split at h
  · exact w_best hw _ a t' h
  · simp at h
theorem w_longer {t : St} (hw : Wf t) (v1 : Int32) : ∀ a t', o_longer v1 t = .inl (a, t') → Wf t' := by
  intro a t' h
  unfold o_longer at h
  split at h
  · exact w_best hw _ a t' h
  · simp at h
theorem w_begin {t : St} (hw : Wf t) (v1 : Int32) : ∀ a t', o_begin v1 t = .inl (a, t') → Wf t' := by
  intro a t' h
  unfold o_begin at h
  split at h
  · simp at h; rw [← h.2]; exact hw
  · simp at h
theorem w_kind {t : St} (hw : Wf t) (v1 : Int32) : ∀ a t', o_kind v1 t = .inl (a, t') → Wf t' := by
  intro a t' h
  unfold o_kind at h
  split at h
  · simp at h; rw [← h.2]; exact hw
  · simp at h
theorem w_ink {t : St} (hw : Wf t) (v1 : Int32) : ∀ a t', o_ink v1 t = .inl (a, t') → Wf t' := by
  intro a t' h
  unfold o_ink at h
  split at h
  · have h' := Sum.inl.inj h
    have h2 := (Prod.mk.inj h').2
    rw [← h2]; exact hw
  · simp at h
theorem w_court {t : St} (hw : Wf t) (v1 v2 : Int32) : ∀ a t', o_court v1 v2 t = .inl (a, t') → Wf t' := by
  intro a t' h
  unfold o_court at h
  split at h
  · have h' := Sum.inl.inj h
    have h2 := (Prod.mk.inj h').2
    rw [← h2]; exact hw
  · simp at h
theorem w_way {t : St} (hw : Wf t) (v1 v2 v3 : Int32) : ∀ a t', o_way v1 v2 v3 t = .inl (a, t') → Wf t' := by
  intro a t' h
  unfold o_way at h
  split at h
  · split at h
    · simp at h
    · have h' := Sum.inl.inj h
      have h2 := (Prod.mk.inj h').2
      rw [← h2]; exact hw
  · simp at h
theorem w_sea {t : St} (hw : Wf t) : ∀ a t', o_sea t = .inl (a, t') → Wf t' := by
  intro a t' h
  unfold o_sea at h
  split at h
  · simp at h
  · have h' := Sum.inl.inj h
    have h2 := (Prod.mk.inj h').2
    rw [← h2]; exact hw
/-! the other calls -/
theorem fdF_lt (v : Int32) : ∀ k z p, (∀ i, i < z → p i < 256) → ∀ i, i < z + k → (fdF v k (z, p)).2 i < 256 := by
  intro k
  induction k with
  | zero => intro z p hp i hi; exact hp i hi
  | succ k ih =>
    intro z p hp i hi
    refine ih (z + 1) (un p z (byN v k)) (fun j hj => ?_) i (by omega)
    by_cases q : j = z
    · rw [q, un_s]; exact byN_lt v k
    · rw [un_n q]; exact hp j (by omega)
theorem w_feed {A : Ab} (hw : WfA A) (v1 v2 : Int32) : ∀ a A', o_feed v1 v2 A = .inl (a, A') → WfA A' := by
  intro a A' h
  unfold o_feed at h
  split at h
  · split at h
    · next q =>
      have h2 := (Prod.mk.inj (Sum.inl.inj h)).2
      rw [← h2]
      exact ⟨hw.1, hw.2.1, q, fun i hi => fdF_lt v1 (ix v2) (zA A) (pA A) hw.2.2.2.1 i hi, hw.2.2.2.2⟩
    · simp at h
  · simp at h
theorem wf_sp0 {A : Ab} (hw : WfA A) : WfA (spA A 0 (pA A)) := ⟨hw.1, hw.2.1, Nat.zero_le _, fun i hi => absurd hi (Nat.not_lt_zero _), hw.2.2.2.2⟩
theorem w_wipe {A : Ab} (hw : WfA A) : ∀ a A', o_wipe A = .inl (a, A') → WfA A' := by
  intro a A' h
  have h2 := (Prod.mk.inj (Sum.inl.inj h)).2
  rw [← h2]
  exact wf_sp0 hw
theorem ffF_ok {z : Nat} {p : Nat → Nat} : ∀ (n i : Nat) (t : St) (a j : Nat) (t' : St), Wf t → a ≤ z → ffF z p n i t a = .inl (j, t') → Wf t' := by
  intro n
  induction n with
  | zero => intro i t a j t' hw ha h; simp [ffF] at h
  | succ n ih =>
    intro i t a j t' hw ha h
    rw [ffF_s] at h
    split at h
    · cases e : itF z p t (nx z p a) with
      | inr e1 => rw [e] at h; simp at h
      | inl q =>
        obtain ⟨t1, a1⟩ := q
        rw [e] at h
        have hok := itF_ok hw (nx_le ha) e
        exact ih _ _ _ _ _ hok.1 hok.2.2 h
    · split at h
      · simp at h
      · simp at h; rw [← h.2]; exact hw
theorem w_field {A : Ab} (hw : WfA A) : ∀ a A', o_field A = .inl (a, A') → WfA A' := by
  intro a A' h
  unfold o_field at h
  cases e : txF (zA A) (pA A) (tA A) with
  | inr e1 =>
    rw [e] at h
    have h2 := (Prod.mk.inj (Sum.inl.inj h)).2
    rw [← h2]
    exact wf_sp0 hw
  | inl q =>
    obtain ⟨i, t⟩ := q
    rw [e] at h
    have h2 := (Prod.mk.inj (Sum.inl.inj h)).2
    rw [← h2]
    have ht : Wf t := by
      unfold txF at e
      have ha : tkA (zA A) (pA A) 0 ≤ zA A := (tkA_le (Nat.zero_le _)).2
      cases e2 : itF (zA A) (pA A) (tA A) (tkA (zA A) (pA A) 0) with
      | inr e3 => rw [e2] at e; simp at e
      | inl q =>
        obtain ⟨t1, a1⟩ := q
        rw [e2] at e
        have hok := itF_ok hw.1 ha e2
        exact ffF_ok _ _ _ _ _ _ hok.1 hok.2.2 e
    exact ⟨ht, hw.2.1, Nat.zero_le _, fun i hi => absurd hi (Nat.not_lt_zero _), hw.2.2.2.2⟩
theorem w_sheet {A : Ab} (hw : WfA A) (v1 v2 v3 : Int32) : ∀ a A', o_sheet v1 v2 v3 A = .inl (a, A') → WfA A' := by
  intro a A' h
  unfold o_sheet at h
  split at h
  · next q =>
    simp only [Bool.and_eq_true] at q
    split at h
    · simp at h
    · next q1 =>
      split at h
      · simp at h
      · next q2 =>
        have h2 := (Prod.mk.inj (Sum.inl.inj h)).2
        rw [← h2]
        refine ⟨hw.1, hw.2.1, hw.2.2.1, hw.2.2.2.1, fun s hs => ?_⟩
        show (un (bA A) (ix v1) (ix v2) s = 0 ∨ un (bA A) (ix v1) (ix v2) s = 8 ∨ un (bA A) (ix v1) (ix v2) s = 16 ∨ un (bA A) (ix v1) (ix v2) s = 64) ∧ un (nA A) (ix v1) (szV v2 v3) s ≤ 40 ∧ (un (bA A) (ix v1) (ix v2) s = 0 → un (nA A) (ix v1) (szV v2 v3) s = 0)
        by_cases e : s = ix v1
        · rw [e, un_s, un_s]
          have hb := q.2
          unfold bts at hb
          simp only [Bool.or_eq_true, decide_eq_true_eq] at hb
          obtain ⟨z, z1, z2⟩ := nI_of q1
          have hz : ix v3 ≤ 40 := by
            rw [z2, ix_nI z1]
            apply Classical.byContradiction
            intro y
            exact q2 (by rw [z2]; exact nI_lt (a := 40) (by omega) z1)
          refine ⟨?_, ?_, fun y => ?_⟩
          · rcases hb with y | y | y | y <;> rw [y]
            · exact Or.inl (by decide)
            · exact Or.inr (Or.inl (by decide))
            · exact Or.inr (Or.inr (Or.inl (by decide)))
            · exact Or.inr (Or.inr (Or.inr (by decide)))
          · unfold szV; split <;> omega
          · unfold szV
            rcases hb with w | w | w | w
            · rw [if_pos w]
            · rw [w] at y; exact absurd y (by decide)
            · rw [w] at y; exact absurd y (by decide)
            · rw [w] at y; exact absurd y (by decide)
        · rw [un_n e, un_n e]
          exact hw.2.2.2.2 s hs
  · simp at h
theorem w_shO {α : Type} {A : Ab} (v1 : Int32) {o : (α × Ab) ⊕ Nat} (ho : ∀ a A', o = .inl (a, A') → WfA A') : ∀ a A', shO v1 A o = .inl (a, A') → WfA A' := by
  intro a A' h
  unfold shO at h
  split at h
  · split at h
    · simp at h
    · exact ho a A' h
  · simp at h
theorem w_write {A : Ab} (hw : WfA A) (v1 v2 : Int32) (v3 : Int64) : ∀ a A', o_write v1 v2 v3 A = .inl (a, A') → WfA A' := by
  refine w_shO v1 (fun a A' h => ?_)
  split at h
  · have h2 := (Prod.mk.inj (Sum.inl.inj h)).2
    rw [← h2]
    exact hw
  · simp at h
theorem w_copy {A : Ab} (hw : WfA A) (v1 v2 v3 v4 v5 : Int32) : ∀ a A', o_copy v1 v2 v3 v4 v5 A = .inl (a, A') → WfA A' := by
  intro a A' h
  unfold o_copy at h
  split at h
  · split at h
    · simp at h
    · split at h
      · simp at h
      · split at h
        · split at h
          · have h2 := (Prod.mk.inj (Sum.inl.inj h)).2
            rw [← h2]
            exact hw
          · simp at h
        · simp at h
  · simp at h
theorem lyF_ok (m : Nat → Int64) : ∀ (n i : Nat) (p : St × Nat), Wf p.1 → i + n ≤ nS p.1 → Wf (lyF m n i p).1 := by
  intro n
  induction n with
  | zero => intro i p hw _; exact hw
  | succ n ih =>
    intro i p hw hi
    rw [lyF_s]
    by_cases q : inkL (m i) = true
    · rw [if_pos q]
      obtain ⟨v, v1, v2, v3⟩ := inkL_of q
      rw [v3]
      exact ih _ _ (hw.up ((hw.2.2 i (by omega)).sik v1)) (show i + 1 + n ≤ nS p.1 by omega)
    · rw [if_neg q]
      exact ih _ _ hw (by omega)
theorem w_lays {A : Ab} (hw : WfA A) (v1 : Int32) : ∀ a A', o_lays v1 A = .inl (a, A') → WfA A' := by
  refine w_shO v1 (fun a A' h => ?_)
  have h2 := (Prod.mk.inj (Sum.inl.inj h)).2
  rw [← h2]
  refine ⟨lyF_ok _ _ _ _ hw.1 ?_, hw.2⟩
  show 0 + mnN (nA A (ix v1)) (nS (tA A)) ≤ nS (tA A)
  unfold mnN
  split <;> omega
theorem w_book {A : Ab} (hw : WfA A) (v1 v2 : Int32) : ∀ a A', o_book v1 v2 A = .inl (a, A') → WfA A' := by
  refine w_shO v1 (fun a A' h => ?_)
  split at h
  · have h2 := (Prod.mk.inj (Sum.inl.inj h)).2
    rw [← h2]
    exact hw
  · simp at h
theorem w_read {A : Ab} (hw : WfA A) (v1 v2 : Int32) : ∀ a A', o_read v1 v2 A = .inl (a, A') → WfA A' := by
  refine w_shO v1 (fun a A' h => ?_)
  split at h
  · have h2 := (Prod.mk.inj (Sum.inl.inj h)).2
    rw [← h2]
    exact hw
  · simp at h
theorem w_image {A : Ab} (hw : WfA A) : ∀ a A', o_image A = .inl (a, A') → WfA A' := by
  intro a A' h
  have h2 := (Prod.mk.inj (Sum.inl.inj h)).2
  rw [← h2]
  exact ⟨hw.1, fun _ => hw.1, hw.2.2⟩
theorem w_tear {A : Ab} (hw : WfA A) : ∀ a A', o_tear A = .inl (a, A') → WfA A' := by
  intro a A' h
  have h2 := (Prod.mk.inj (Sum.inl.inj h)).2
  rw [← h2]
  exact ⟨hw.1, (fun q => by cases q), hw.2.2⟩
theorem w_undo {A : Ab} (hw : WfA A) : ∀ a A', o_undo A = .inl (a, A') → WfA A' := by
  intro a A' h
  unfold o_undo at h
  split at h
  · next q =>
    have h2 := (Prod.mk.inj (Sum.inl.inj h)).2
    rw [← h2]
    exact ⟨hw.2.1 q, hw.2⟩
  · simp at h
theorem w_count {A : Ab} (hw : WfA A) (v : Int32) : ∀ a A', o_count v A = .inl (a, A') → WfA A' := by
  intro a A' h
  unfold o_count at h
  have fin : ∀ x : Int32, (Sum.inl (x, A) : (Int32 × Ab) ⊕ Nat) = .inl (a, A') → WfA A' := fun x h => by
    have h2 := (Prod.mk.inj (Sum.inl.inj h)).2
    rw [← h2]; exact hw
  split at h
  · exact fin _ h
  · split at h
    · exact fin _ h
    · split at h
      · exact fin _ h
      · split at h
        · exact fin _ h
        · simp at h
theorem w_status {A : Ab} (hw : WfA A) (v : Int32) : ∀ a A', o_status v A = .inl (a, A') → WfA A' := by
  intro a A' h
  unfold o_status at h
  split at h
  · have h2 := (Prod.mk.inj (Sum.inl.inj h)).2
    rw [← h2]; exact hw
  · simp at h
