/-! the class: what a hand owns -/
def befB (t : St) (o h : Nat) : Bool := decide (ikH (hS t h) < ikH (hS t o)) || (decide (ikH (hS t o) = ikH (hS t h)) && decide (o < h))
theorem befB_iff {t : St} {o h : Nat} : befB t o h = true ↔ bef t o h := by
  unfold befB bef
  simp
theorem p_goesBefore {d : Nat} {t : St} (hw : Wf t) {M : Nm} (h : LandR d M t) {a b : Nat} (ha : a < nS t) (hb : b < nS t) : f_L_goesBefore d (nI a) (nI b) M = some (bI (befB t a b), M) := by
  have h6 := hw.1
  have i1 := (hw.2.2 a ha).2.2.1
  have i2 := (hw.2.2 b hb).2.2.1
  unfold f_L_goesBefore
  rw [grd_h (inb_nI (by omega) (by decide)), grd_h (inb_nI (by omega) (by decide)), hnd_o (by omega), hnd_o (by omega), (h.2.2.2.1 a ha).1.2.2.1, (h.2.2.2.1 b hb).1.2.2.1]
  unfold befB
  by_cases q1 : ikH (hS t b) < ikH (hS t a)
  · rw [if_pos (nI_lt q1 (by omega))]
    simp [q1, bI]
  · rw [if_neg (nI_nlt (by omega) (by omega))]
    by_cases q2 : ikH (hS t a) = ikH (hS t b)
    · rw [if_pos (by rw [q2])]
      by_cases q3 : a < b
      · rw [if_neg (nI_ge q3 (by omega))]
        simp [q2, q3, bI]
      · rw [if_pos (nI_le (by omega) (by omega))]
        simp [q2, q3, bI]
    · rw [if_neg (fun y => q2 ((nI_eq (by omega) (by omega)).mp y))]
      simp [q1, q2, bI]
theorem p_shaE {t : St} {k : Nat} (hk : k < nS t) {v : Int64} (hv : ∀ c, c < 64 → (tb v c = true ↔ wi t k c = true ∧ ∀ o, o < nS t → wi t o c = true → ¬ bef t o k)) : v = shs t k := by
  apply tb_ext
  intro c hc64
  unfold shs
  rw [tb_cs _ 48 c (Nat.le_refl _)]
  have h1 := hv c hc64
  have h2 : owN t c (nS t) = some k ↔ tb v c = true := by rw [owN_iff, h1]; exact ⟨fun y => y.2, fun y => ⟨hk, y⟩⟩
  by_cases q : tb v c = true
  · have hlt : c < 48 := by
      apply Classical.byContradiction
      intro z
      have hw1 := (h1.mp q).1
      simp [wi] at hw1
      rw [lo_inS t k c (by omega)] at hw1
      exact absurd hw1.2 (by decide)
    rw [q]
    simp [hlt, h2.mpr q]
  · have : ¬ owN t c (nS t) = some k := fun y => q (h2.mp y)
    rw [nf q]
    simp [this]
theorem p_shaL (d : Nat) {t : St} (hw : Wf t) {M : Nm} (h : LandR d M t) (hc : ∀ k, k < nS t → M.2.1 (d + 20) k = cl t k) {k : Nat} (hk : k < nS t) : ∀ (n f i : Nat) (v : Int64), (∀ c, c < 64 → (tb v c = true ↔ wi t k c = true ∧ ∀ o, o < i → wi t o c = true → ¬ bef t o k)) → i + n = nS t → n < f → f_L_shareOf_L10 (fun y5 M4 => some (y5, M4)) d (nI k) f v (nI i) M = some (shs t k, M) := by
  have h6 := hw.1
  intro n
  induction n with
  | zero =>
    intro f i v hv hi hf
    obtain ⟨f, rfl⟩ : ∃ g, f = g + 1 := ⟨f - 1, by omega⟩
    have e : v = shs t k := p_shaE hk (by rw [show nS t = i from by omega]; exact hv)
    rw [f_L_shareOf_L10, h.2.2.1, if_pos (nI_le (by omega) (by omega)), e]
  | succ n ih =>
    intro f i v hv hi hf
    obtain ⟨f, rfl⟩ : ∃ g, f = g + 1 := ⟨f - 1, by omega⟩
    have same : (∀ c, c < 64 → tb v c = true → wi t i c = true → ¬ bef t i k) → f_L_shareOf_L10 (fun y5 M4 => some (y5, M4)) d (nI k) f v (nI (i + 1)) M = some (shs t k, M) := by
      intro hs
      refine ih f (i + 1) v (fun c hc64 => ⟨fun y => ?_, fun y => (hv c hc64).mpr ⟨y.1, fun o ho => y.2 o (by omega)⟩⟩) (by omega) (by omega)
      obtain ⟨y1, y2⟩ := (hv c hc64).mp y
      refine ⟨y1, fun o ho => ?_⟩
      by_cases q : o = i
      · rw [q]; exact hs c hc64 y
      · exact y2 o (by omega)
    rw [f_L_shareOf_L10, h.2.2.1, if_neg (nI_ge (by omega) (by omega))]
    by_cases q0 : v = 0
    · rw [if_pos (lg0.mpr q0), ← p_shaE hk (v := v) (fun c hc64 => ⟨fun y => absurd y (by rw [q0, tb_0]; decide), fun y => (hv c hc64).mpr ⟨y.1, fun o ho => y.2 o (by omega)⟩⟩)]
    rw [if_neg (fun y => q0 (lg0.mp y)), grd_h (inb_nI (by omega) (by decide)), ix_nI (by omega), hc i (by omega), nI_1, p_goesBefore hw h (by omega) hk, bnd_s, grd_h (inb_nI (by omega) (by decide)), bl_e, hc i (by omega)]
    by_cases q1 : v &&& cl t i = 0
    · rw [if_pos (lg0.mpr q1)]
      apply same
      intro c hc64 y1 y2
      have : tb (v &&& cl t i) c = tb 0 c := by rw [q1]
      rw [tb_and, tb_0, y1, tb_cl, y2] at this
      exact absurd this (by decide)
    · rw [if_neg (fun y => q1 (lg0.mp y))]
      by_cases q2 : befB t i k = true
      · rw [if_neg (bI_t q2)]
        refine ih f (i + 1) _ (fun c hc64 => ?_) (by omega) (by omega)
        rw [tb_and, tb_not hc64, tb_cl, Bool.and_eq_true, hv c hc64]
        refine ⟨fun y => ⟨y.1.1, fun o ho ho2 => ?_⟩, fun y => ⟨⟨y.1, fun o ho => y.2 o (by omega)⟩, ?_⟩⟩
        · by_cases q : o = i
          · subst q
            have := y.2
            rw [ho2] at this
            exact absurd this (by decide)
          · exact y.1.2 o (by omega) ho2
        · by_cases q : wi t i c = true
          · exact absurd (befB_iff.mp q2) (y.2 i (by omega) q)
          · rw [nf q]; rfl
      · rw [if_pos (bI_f (nf q2))]
        exact same (fun c _ _ _ y => q2 (befB_iff.mpr y))
theorem p_shareOf {d : Nat} {t : St} (hw : Wf t) {M : Nm} (h : LandR d M t) (hc : ∀ k, k < nS t → M.2.1 (d + 20) k = cl t k) {k : Nat} (hk : k < nS t) : f_L_shareOf d (nI k) M = some (shs t k, M) := by
  have h6 := hw.1
  unfold f_L_shareOf
  rw [grd_h (inb_nI (by omega) (by decide)), ix_nI (by omega), hc k hk]
  exact p_shaL d hw h hc hk (nS t) FU 0 (cl t k) (fun c _ => by rw [tb_cl]; exact ⟨fun y => ⟨y, fun o ho => by omega⟩, fun y => y.1⟩) (by omega) (FU_gt (by omega))
