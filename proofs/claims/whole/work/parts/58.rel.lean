/-! the class's cells tell all that calls can change -/
def CB (M : Nm) (A : Ab) : Prop := (∀ i, i < 7 → M.1 85 i = fA A i) ∧ M.1 0 4 = bI (kA A) ∧ (M.1 74 0 = nI (zA A) ∧ ∀ i, i < zA A → M.1 75 i = nI (pA A i)) ∧ (∀ s, s < 4 → M.1 (77 + 2 * s) 0 = nI (bA A s) ∧ M.1 (77 + 2 * s) 1 = nI (nA A s) ∧ ∀ k, k < 40 → M.2.1 (77 + 2 * s + 1) k = mA A s k) ∧ ∀ k, k < 6 → M.1 (kc k) 0 = nI k
def CA (M : Nm) (A : Ab) : Prop := LandR 8 M (tA A) ∧ Ca 30 M ∧ (Ca 52 M ∧ (kA A = true → LandR 52 M (ktA A))) ∧ CB M A
theorem kc_le : ∀ k, k < 6 → kc k < 8 := by decide
theorem CB.r {a b : Nat} {M M' : Nm} {A : Ab} (h : CB M A) (hf : Fr a b M M') (ha : 8 ≤ a) (hb : b ≤ 74) : CB M' A := by
  obtain ⟨p, q, r, s, u⟩ := h
  refine ⟨fun i hi => by rw [(hf 85 (by omega)).1]; exact p i hi, by rw [(hf 0 (by omega)).1]; exact q, ⟨by rw [(hf 74 (by omega)).1]; exact r.1, fun i hi => by rw [(hf 75 (by omega)).1]; exact r.2 i hi⟩, fun k hk => ⟨by rw [(hf (77 + 2 * k) (by omega)).1]; exact (s k hk).1, by rw [(hf (77 + 2 * k) (by omega)).1]; exact (s k hk).2.1, fun j hj => by rw [(hf (77 + 2 * k + 1) (by omega)).2.1]; exact (s k hk).2.2 j hj⟩, fun k hk => by rw [(hf (kc k) (by have := kc_le k hk; omega)).1]; exact u k hk⟩
theorem CA.t8 {M M' : Nm} {A : Ab} (hw : WfA A) (h : CA M A) (hf : Fr 8 30 M M') {t : St} (ht : LandR 8 M' t) : CA M' (stA A t) :=
  ⟨ht, h.2.1.r hf (by omega), ⟨h.2.2.1.1.r hf (by omega), fun q => (h.2.2.1.2 q).r (hw.2.1 q).1 hf (by omega)⟩, h.2.2.2.r hf (by omega) (by omega)⟩
theorem CA.t30 {M M' : Nm} {A : Ab} (hw : WfA A) (h : CA M A) (hf : Fr 30 52 M M') (hc : Ca 30 M') : CA M' A :=
  ⟨h.1.r hw.1.1 hf (by omega), hc, ⟨h.2.2.1.1.r hf (by omega), fun q => (h.2.2.1.2 q).r (hw.2.1 q).1 hf (by omega)⟩, h.2.2.2.r hf (by omega) (by omega)⟩
/-- a cell of the class's own that is no land's -/
theorem CA.o {a b : Nat} {M M' : Nm} {A A' : Ab} (hw : WfA A) (h : CA M A) (hf : Fr a b M M') (hab : b ≤ 8 ∨ 74 ≤ a) (ht : tA A' = tA A) (hk : kA A' = true → kA A = true ∧ ktA A' = ktA A) (hb : CB M' A') : CA M' A' :=
  ⟨by rw [ht]; exact h.1.r hw.1.1 hf (by omega), h.2.1.r hf (by omega), ⟨h.2.2.1.1.r hf (by omega), fun q => by
    rw [(hk q).2]
    exact (h.2.2.1.2 (hk q).1).r (hw.2.1 (hk q).1).1 hf (by omega)⟩, hb⟩
theorem CA.fd {M : Nm} {A : Ab} (hw : WfA A) (h : CA M A) {i : Nat} (hi : i < 7) : CA (mI M 85 i (M.1 85 i + 1)) (bmp A i) := by
  refine h.o hw (Fr.i (a := 85) (b := 86) (by omega) (by omega)) (by omega) rfl (fun q => ⟨q, rfl⟩) ?_
  obtain ⟨p, q, r, s, u⟩ := h.2.2.2
  refine ⟨fun k hk => ?_, by rw [mI_o (by omega)]; exact q, ⟨by rw [mI_o (by omega)]; exact r.1, fun i hi => by rw [mI_o (by omega)]; exact r.2 i hi⟩, fun k hk => ⟨by rw [mI_o (by omega)]; exact (s k hk).1, by rw [mI_o (by omega)]; exact (s k hk).2.1, fun j hj => (s k hk).2.2 j hj⟩, fun k hk => by rw [mI_o (by have := kc_le k hk; omega)]; exact u k hk⟩
  rw [mI_u, p i hi]
  show uw (M.1 85) i (fA A i + 1) k = uw (fA A) i (fA A i + 1) k
  by_cases z : k = i
  · rw [z, uw_s, uw_s]
  · rw [uw_n z, uw_n z]; exact p k hk
/-- a call of the class does it -/
def QC {α : Type} (cv : Int32 → α) (A : Ab) (M : Nm) (r : Option (α × Nm)) : (α × Ab) ⊕ Nat → Prop
  | .inl (a, A') => ∃ M', r = some (a, M') ∧ Fr 0 86 M M' ∧ CA M' A'
  | .inr i => ∃ M', r = some (cv (fW i), M') ∧ Fr 0 86 M M' ∧ CA M' (bmp A i)
theorem qc_ok {α : Type} {cv : Int32 → α} {A A' : Ab} {M M1 : Nm} {a : α} (h1 : Fr 0 86 M M1) (h2 : CA M1 A') : QC cv A M (some (a, M1)) (.inl (a, A')) := ⟨M1, rfl, h1, h2⟩
theorem qc_fd {α : Type} {cv : Int32 → α} {A : Ab} (hw : WfA A) {M M1 : Nm} (h1 : Fr 0 86 M M1) (h2 : CA M1 A) {i : Nat} (hi : i < 7) {v : Int32} (hv : v = fW i) : QC cv A M (bnd (f_P_finding v M1) fun r3 M4 => some (cv r3, M4)) (.inr i) := by
  subst hv
  rw [p_finding hi (fW_sub i hi), bnd_s]
  exact ⟨_, rfl, Fr.tr h1 (Fr.i (by omega) (by omega)), h2.fd hw hi⟩
theorem qc_f0 {α : Type} {cv : Int32 → α} {A : Ab} (hw : WfA A) {M : Nm} (h2 : CA M A) : QC cv A M (bnd (f_P_finding (-1000000001) M) fun r3 M4 => some (cv r3, M4)) (.inr 0) := qc_fd hw (Fr.rf _ _ M) h2 (by decide) (by decide)
theorem qc_t {α : Type} {cv : Int32 → α} {A : Ab} (hw : WfA A) {M M1 : Nm} {a : α} {t : St} (h : CA M A) (hf : Fr 8 30 M M1) (hl : LandR 8 M1 t) : QC cv A M (some (a, M1)) (lfA A (.inl (a, t))) := ⟨M1, rfl, hf.w (by omega) (by omega), h.t8 hw hf hl⟩
theorem qc_i {α : Type} {cv : Int32 → α} {A : Ab} {M : Nm} {a : α} (h : CA M A) : QC cv A M (some (a, M)) (lfA A (.inl (a, tA A))) := ⟨M, rfl, Fr.rf _ _ M, h⟩
theorem qc_l {α : Type} {cv : Int32 → α} {A : Ab} (hw : WfA A) {M M1 : Nm} {a : α} (h : CA M A) (hf : Fl 8 M M1) (hl : LandR 8 M1 (tA A)) : QC cv A M (some (a, M1)) (lfA A (.inl (a, tA A))) := qc_t hw h (hf.fr) hl
theorem is8 : isd 8 := Or.inl rfl
theorem is30 : isd 30 := Or.inr (Or.inl rfl)
theorem LandR.sm {d : Nat} {M : Nm} {t : St} (h : LandR d M t) (x : Int64) : LandR d (mL M d 0 x) (nS t, yS t, x, hS t) := by
  have hF : Fr d (d + 1) M (mL M d 0 x) := Fr.l (Nat.le_refl _) (by omega)
  obtain ⟨p, q, r, s, u⟩ := h
  exact ⟨by rw [mL_s, if_pos rfl], q, r, fun k hk => (s k hk).r hF (by unfold ho; omega), fun k hk => by rw [(hF (ho d k) (by unfold ho; omega)).2.1]; exact u k hk⟩
theorem sm_x (t : St) (c : Nat) (b : Bool) : (nS t, yS t, (if bI b = 0 then sS t &&& (bit1 c ^^^ (-1)) else sS t ||| bit1 c), hS t) = smS t c b := by
  cases b <;> rfl
theorem k_smudge {A : Ab} (hw : WfA A) (v1 v2 : Int32) (M : Nm) (h : CA M A) : QC id A M (f_P_smudge v1 v2 M) (lfA A (o_smudge v1 v2 (tA A))) := by
  unfold f_P_smudge o_smudge
  rw [p_P_isCell, bnd_s]
  by_cases e1 : rg v1 0 47 = true
  · rw [if_neg (bI_t e1), p_within, bnd_s]
    show QC id A M (if bI (rg v2 0 1) = 0 then _ else _) _
    by_cases e2 : rg v2 0 1 = true
    · obtain ⟨c, h1, h2, h3⟩ := rg47 e1
      have key : ∀ b : Bool, QC id A M (bnd (f_L_makeSmudged 8 v1 (bI b) M) fun r11 M12 => some (bI (tb (sS (tA A)) c), M12)) (lfA A (.inl (bI (tb (sS (tA A)) c), smS (tA A) c b))) := by
        intro b
        rw [h2, p_makeSmudged, bnd_s, h.1.1]
        refine qc_t hw h (Fr.l (by omega) (by omega)) ?_
        have := h.1.sm (if bI b = 0 then sS (tA A) &&& (bit1 c ^^^ (-1)) else sS (tA A) ||| bit1 c)
        rw [sm_x] at this
        exact this
      rw [if_neg (bI_t e2), if_pos (by simp [e1, e2]), h3, h.1.1]
      rw [show f_P_bitOf (sS (tA A)) v1 M = some (bI (tb (sS (tA A)) c), M) by rw [h2]; exact p_bitOf (by omega) M, bnd_s]
      by_cases q : v2 = 1
      · rw [if_pos q, decide_eq_true q]; exact key true
      · rw [if_neg q, decide_eq_false q]; exact key false
    · rw [if_pos (bI_f (nf e2)), if_neg (by simp [e2])]
      exact qc_f0 hw h
  · rw [if_pos (bI_f (nf e1)), if_neg (by simp [e1])]
    exact qc_f0 hw h
theorem k_cell {A : Ab} (hw : WfA A) (v1 v2 : Int32) (M : Nm) (h : CA M A) : QC id A M (f_P_cell v1 v2 M) (lfA A (o_cell v1 v2 (tA A))) := by
  unfold f_P_cell o_cell
  rw [p_P_isCell, bnd_s]
  by_cases e1 : rg v1 0 47 = true
  · rw [if_neg (bI_t e1)]
    obtain ⟨c, h1, h2, h3⟩ := rg47 e1
    by_cases e2 : rg v2 0 3 = true
    · rw [if_pos (show (rg v1 0 47 && rg v2 0 3) = true by simp [e1, e2]), h3, h2]
      obtain ⟨w, w1, w2, w3⟩ := rgN (n := 3) (by decide) e2
      have hw4 : w = 0 ∨ w = 1 ∨ w = 2 ∨ w = 3 := by omega
      rw [w2]
      rcases hw4 with q | q | q | q <;> subst q
      · rw [if_pos (by decide), if_pos (by decide), p_bitOf (by omega), bnd_s, h.1.1]
        exact qc_i h
      · rw [if_neg (by decide), if_pos (by decide), if_neg (by decide), if_neg (by decide), if_neg (by decide), p_handsOnWhoseLines hw.1 h1 h.1, bnd_s]
        exact qc_i h
      · obtain ⟨M1, a1, a2, a3⟩ := p_handsAround hw.1 h1 h.1
        rw [if_neg (by decide), if_neg (by decide), if_pos (by decide), if_neg (by decide), if_neg (by decide), if_pos (by decide), a1, bnd_s]
        exact qc_l hw h a2 a3
      · obtain ⟨M1, a1, a2, a3⟩ := p_LownerOf hw.1 h.1 h1
        rw [if_neg (by decide), if_neg (by decide), if_neg (by decide), if_pos (by decide), if_neg (by decide), if_pos (by decide), a1, bnd_s]
        exact qc_l hw h a2 a3
    · have hq := rg_not (n := 3) (by decide) e2
      rw [if_neg (show ¬ (rg v1 0 47 && rg v2 0 3) = true by simp [e2]), if_neg (show ¬ v2 = 0 from hq 0 (by decide)), if_neg (show ¬ v2 = 1 from hq 1 (by decide)), if_neg (show ¬ v2 = 2 from hq 2 (by decide)), if_neg (show ¬ v2 = 3 from hq 3 (by decide))]
      exact qc_f0 hw h
  · rw [if_pos (bI_f (nf e1)), if_neg (by simp [e1])]
    exact qc_f0 hw h
theorem k_cells {A : Ab} (hw : WfA A) (v1 : Int32) (M : Nm) (h : CA M A) : QC Int32.toInt64 A M (f_P_cells v1 M) (lfA A (o_cells v1 (tA A))) := by
  unfold f_P_cells o_cells
  by_cases e2 : rg v1 0 2 = true
  · rw [if_pos (show rg v1 0 2 = true from e2)]
    obtain ⟨w, w1, w2, w3⟩ := rgN (n := 2) (by decide) e2
    have hw4 : w = 0 ∨ w = 1 ∨ w = 2 := by omega
    rw [w2]
    rcases hw4 with q | q | q <;> subst q
    · rw [if_pos (by decide), if_pos (by decide), h.1.1]
      exact qc_i h
    · obtain ⟨M1, a1, a2, a3⟩ := p_disputed hw.1 h.1
      rw [if_neg (by decide), if_pos (by decide), if_neg (by decide), if_pos (by decide), a1, bnd_s]
      exact qc_l hw h a2 a3
    · obtain ⟨M1, a1, a2, a3⟩ := p_owned hw.1 h.1
      rw [if_neg (by decide), if_neg (by decide), if_pos (by decide), if_neg (by decide), if_neg (by decide), a1, bnd_s]
      exact qc_l hw h a2 a3
  · have hq := rg_not (n := 2) (by decide) e2
    rw [if_neg e2, if_neg (show ¬ v1 = 0 from hq 0 (by decide)), if_neg (show ¬ v1 = 1 from hq 1 (by decide)), if_neg (show ¬ v1 = 2 from hq 2 (by decide))]
    exact qc_f0 hw h
