/-! all that a call can change: the state, findings counted, the image, the tape, the sheets -/
abbrev Ab : Type := St × (Nat → Int32) × (Bool × St) × (Nat × (Nat → Nat)) × ((Nat → Nat) × (Nat → Nat) × (Nat → Nat → Int64))
abbrev tA (A : Ab) : St := A.1
abbrev fA (A : Ab) : Nat → Int32 := A.2.1
abbrev kA (A : Ab) : Bool := A.2.2.1.1
abbrev ktA (A : Ab) : St := A.2.2.1.2
abbrev zA (A : Ab) : Nat := A.2.2.2.1.1
abbrev pA (A : Ab) : Nat → Nat := A.2.2.2.1.2
abbrev bA (A : Ab) : Nat → Nat := A.2.2.2.2.1
abbrev nA (A : Ab) : Nat → Nat := A.2.2.2.2.2.1
abbrev mA (A : Ab) : Nat → Nat → Int64 := A.2.2.2.2.2.2
def stA (A : Ab) (t : St) : Ab := (t, A.2)
def sfA (A : Ab) (f : Nat → Int32) : Ab := (A.1, f, A.2.2)
def skA (A : Ab) (k : Bool) (t : St) : Ab := (A.1, A.2.1, (k, t), A.2.2.2)
def spA (A : Ab) (z : Nat) (p : Nat → Nat) : Ab := (A.1, A.2.1, A.2.2.1, (z, p), A.2.2.2.2)
def shA (A : Ab) (b n : Nat → Nat) (m : Nat → Nat → Int64) : Ab := (A.1, A.2.1, A.2.2.1, A.2.2.2.1, (b, n, m))
def bmp (A : Ab) (i : Nat) : Ab := sfA A (uw (fA A) i (fA A i + 1))
def WfA (A : Ab) : Prop := Wf (tA A) ∧ (kA A = true → Wf (ktA A)) ∧ zA A ≤ 120 ∧ (∀ i, i < zA A → pA A i < 256) ∧ ∀ s, s < 4 → (bA A s = 0 ∨ bA A s = 8 ∨ bA A s = 16 ∨ bA A s = 64) ∧ nA A s ≤ 40 ∧ (bA A s = 0 → nA A s = 0)
/-- the reference's cells tell it -/
def RA (M : Nm) (A : Ab) : Prop := Rw (M.1 87) (tA A) ∧ (∀ i, i < 7 → M.1 91 i = fA A i) ∧ M.1 86 5 = bI (kA A) ∧ (kA A = true → Rw (M.1 88) (ktA A)) ∧ M.1 86 11 = nI (zA A) ∧ (∀ i, i < zA A → M.1 96 i = nI (pA A i)) ∧ ∀ s, s < 4 → M.1 97 s = nI (bA A s) ∧ M.1 98 s = nI (nA A s) ∧ ∀ k, k < 40 → M.2.1 99 (40 * s + k) = mA A s k
/-- the class's cells stay -/
def Fk (M M' : Nm) : Prop := (∀ c, c < 86 → M'.1 c = M.1 c) ∧ (∀ c, c < 86 → M'.2.1 c = M.2.1 c) ∧ M'.2.2 = M.2.2
theorem Fk.rf (M : Nm) : Fk M M := ⟨fun _ _ => rfl, fun _ _ => rfl, rfl⟩
theorem Fk.tr {M M1 M2 : Nm} (h1 : Fk M M1) (h2 : Fk M1 M2) : Fk M M2 := ⟨fun c h => (h2.1 c h).trans (h1.1 c h), fun c h => (h2.2.1 c h).trans (h1.2.1 c h), h2.2.2.trans h1.2.2⟩
theorem Fk.i {M : Nm} {c j : Nat} {v : Int32} (h : 86 ≤ c) : Fk M (mI M c j v) := ⟨fun d hd => mI_o (by omega), fun _ _ => rfl, rfl⟩
theorem Fk.l {M : Nm} {c j : Nat} {v : Int64} (h : 86 ≤ c) : Fk M (mL M c j v) := ⟨fun _ _ => rfl, fun d hd => mL_o (by omega), rfl⟩
theorem Fm.fk {M M' : Nm} (h : Fm M M') : Fk M M' := ⟨fun c hc => h.1 c (by omega) (by omega) (by omega) (by omega) (by omega), fun c hc => h.2.1 c (by omega) (by omega), h.2.2⟩
theorem RA.m {M M' : Nm} {A : Ab} (hR : RA M A) (hF : Fm M M') (h91 : M'.1 91 = M.1 91) {t : St} (ht : Rw (M'.1 87) t) : RA M' (stA A t) := by
  obtain ⟨a, b, c, d, e, f, g⟩ := hR
  have h86 := hF.1 86 (by decide) (by decide) (by decide) (by decide) (by decide)
  refine ⟨ht, fun i hi => by rw [h91]; exact b i hi, by rw [h86]; exact c, fun q => ?_, by rw [h86]; exact e, fun i hi => ?_, fun s hs => ?_⟩
  · rw [hF.1 88 (by decide) (by decide) (by decide) (by decide) (by decide)]; exact d q
  · rw [hF.1 96 (by decide) (by decide) (by decide) (by decide) (by decide)]; exact f i hi
  · obtain ⟨x, y, z⟩ := g s hs
    refine ⟨?_, ?_, fun k hk => ?_⟩
    · rw [hF.1 97 (by decide) (by decide) (by decide) (by decide) (by decide)]; exact x
    · rw [hF.1 98 (by decide) (by decide) (by decide) (by decide) (by decide)]; exact y
    · rw [hF.2.1 99 (by decide) (by decide)]; exact z k hk
theorem RA.f {M M' : Nm} {A : Ab} (hR : RA M A) (hF : Fm M M') {i : Nat} (h91 : M'.1 91 = uw (M.1 91) i (M.1 91 i + 1)) (ht : Rw (M'.1 87) (tA A)) : RA M' (bmp A i) := by
  obtain ⟨a, b, c, d, e, f, g⟩ := hR
  have h86 := hF.1 86 (by decide) (by decide) (by decide) (by decide) (by decide)
  refine ⟨ht, fun k hk => ?_, by rw [h86]; exact c, fun q => ?_, by rw [h86]; exact e, fun i hi => ?_, fun s hs => ?_⟩
  · rw [h91]
    show uw (M.1 91) i (M.1 91 i + 1) k = uw (fA A) i (fA A i + 1) k
    by_cases q : k = i
    · subst q; rw [uw_s, uw_s, b k hk]
    · rw [uw_n q, uw_n q, b k hk]
  · rw [hF.1 88 (by decide) (by decide) (by decide) (by decide) (by decide)]; exact d q
  · rw [hF.1 96 (by decide) (by decide) (by decide) (by decide) (by decide)]; exact f i hi
  · obtain ⟨x, y, z⟩ := g s hs
    refine ⟨?_, ?_, fun k hk => ?_⟩
    · rw [hF.1 97 (by decide) (by decide) (by decide) (by decide) (by decide)]; exact x
    · rw [hF.1 98 (by decide) (by decide) (by decide) (by decide) (by decide)]; exact y
    · rw [hF.2.1 99 (by decide) (by decide)]; exact z k hk
/-- a call of the reference does it -/
def QA {α : Type} (cv : Int32 → α) (A : Ab) (M : Nm) (r : Option (α × Nm)) : (α × Ab) ⊕ Nat → Prop
  | .inl (a, A') => ∃ M', r = some (a, M') ∧ Fk M M' ∧ RA M' A'
  | .inr i => ∃ M', r = some (cv (fW i), M') ∧ Fk M M' ∧ RA M' (bmp A i)
def lfA {α : Type} (A : Ab) : (α × St) ⊕ Nat → (α × Ab) ⊕ Nat
  | .inl (a, t) => .inl (a, stA A t)
  | .inr i => .inr i
theorem qa_of {α : Type} {cv : Int32 → α} {A : Ab} {M : Nm} {r : Option (α × Nm)} {o : (α × St) ⊕ Nat} (hR : RA M A) (h : QM cv (tA A) M r o) : QA cv A M r (lfA A o) := by
  cases o with
  | inl p =>
    obtain ⟨a, t⟩ := p
    obtain ⟨M', h1, h2, h3, h4⟩ := h
    exact ⟨M', h1, h2.fk, hR.m h2 h4 h3⟩
  | inr i =>
    obtain ⟨M', h1, h2, h3, h4⟩ := h
    exact ⟨M', h1, h2.fk, hR.f h2 h4 h3⟩
theorem qa_ok {α : Type} {cv : Int32 → α} {A A' : Ab} {M M1 : Nm} {a : α} (h1 : Fk M M1) (h2 : RA M1 A') : QA cv A M (some (a, M1)) (.inl (a, A')) := ⟨M1, rfl, h1, h2⟩
theorem qa_fd {α : Type} {cv : Int32 → α} {A : Ab} {M : Nm} (hR : RA M A) {i : Nat} (hi : i < 7) {v : Int32} (hv : v = fW i) : QA cv A M (bnd (f_M_finds v M) fun r3 M4 => some (cv r3, M4)) (.inr i) :=
  qa_of (o := .inr i) hR (q_fd hi hv (Fm.rf M) rfl hR.1)
/-! the tape wiped, the image -/
def o_wipe (A : Ab) : (Int32 × Ab) ⊕ Nat := .inl (nI (zA A), spA A 0 (pA A))
theorem q_wipe {A : Ab} (M : Nm) (hR : RA M A) : QA id A M (f_M_wipe M) (o_wipe A) := by
  obtain ⟨a, b, c, d, e, f, g⟩ := hR
  unfold f_M_wipe o_wipe
  rw [bl_e, e]
  refine qa_ok (Fk.i (by decide)) ⟨by rw [mI_o (by decide)]; exact a, fun i hi => by rw [mI_o (by decide)]; exact b i hi, ?_, fun q => by rw [mI_o (by decide)]; exact d q, ?_, fun i hi => absurd hi (Nat.not_lt_zero _), fun s hs => ?_⟩
  · rw [mI_u, uw_n (by decide)]; exact c
  · rw [mI_u, uw_s]; rfl
  · rw [mI_o (by decide), mI_o (by decide)]; exact g s hs
theorem RA.k {M M' : Nm} {A : Ab} (hR : RA M A) (h : ∀ c, c ≠ 88 → c ≠ 86 → M'.1 c = M.1 c) (hl : M'.2.1 = M.2.1) {b : Bool} (h5 : M'.1 86 5 = bI b) (h11 : M'.1 86 11 = M.1 86 11) {t : St} (ht : b = true → Rw (M'.1 88) t) : RA M' (skA A b t) := by
  obtain ⟨a, b, c, d, e, f, g⟩ := hR
  refine ⟨by rw [h 87 (by decide) (by decide)]; exact a, fun i hi => by rw [h 91 (by decide) (by decide)]; exact b i hi, h5, ht, by rw [h11]; exact e, fun i hi => by rw [h 96 (by decide) (by decide)]; exact f i hi, fun s hs => ?_⟩
  rw [h 97 (by decide) (by decide), h 98 (by decide) (by decide), hl]
  exact g s hs
def o_image (A : Ab) : (Int32 × Ab) ⊕ Nat := .inl (1, skA A true (tA A))
theorem p_imL (S : Nat → Int32) : ∀ (n f i : Nat) (M : Nm), i + n = 176 → n < f → M.1 87 = S → (∀ j, j < i → M.1 88 j = S j) → ∃ M', f_M_image_L2 f (nI i) M = some (1, mI M' 86 5 1) ∧ (∀ c, c ≠ 88 → M'.1 c = M.1 c) ∧ M'.2 = M.2 ∧ ∀ j, j < 176 → M'.1 88 j = S j := by
  intro n
  induction n with
  | zero =>
    intro f i M hi hf hb h0
    obtain ⟨f, rfl⟩ : ∃ g, f = g + 1 := ⟨f - 1, by omega⟩
    have : i = 176 := by omega
    subst this
    exact ⟨M, by rw [f_M_image_L2, if_pos (by decide), grd_h (by decide), bl_e], fun _ _ => rfl, rfl, h0⟩
  | succ n ih =>
    intro f i M hi hf hb h0
    obtain ⟨f, rfl⟩ : ∃ g, f = g + 1 := ⟨f - 1, by omega⟩
    obtain ⟨M', e1, e2, e3, e4⟩ := ih f (i + 1) (mI M 88 i (M.1 87 i)) (by omega) (by omega) (by rw [mI_o (by decide)]; exact hb) (fun j hj => by
      rw [mI_u]
      by_cases q : j = i
      · rw [q, uw_s, hb]
      · rw [uw_n q]; exact h0 j (by omega))
    refine ⟨M', ?_, fun c hc => (e2 c hc).trans (mI_o hc), e3, e4⟩
    rw [f_M_image_L2, if_neg (show ¬ (176 : Int32) ≤ nI i from nI_ge (b := 176) (by omega) (by decide)), grd_h (inb_nI (by omega) (by decide)), grd_h (inb_nI (by omega) (by decide)), bl_e, ix_nI (by omega), nI_1]
    exact e1
theorem q_image {A : Ab} (hw : WfA A) (M : Nm) (hR : RA M A) : QA id A M (f_M_image M) (o_image A) := by
  obtain ⟨M1, e1, e2, e3, e4⟩ := p_imL (M.1 87) 176 FU 0 M rfl (FU_gt (by decide)) rfl (fun j hj => by omega)
  refine ⟨mI M1 86 5 1, e1, Fk.tr ⟨fun c hc => e2 c (by omega), fun c _ => by rw [e3], by rw [e3]⟩ (Fk.i (by decide)), ?_⟩
  refine RA.k hR (fun c h1 h2 => by rw [mI_o h2, e2 c h1]) (by rw [mI_L, e3]) (by rw [mI_u, uw_s]; rfl) (by rw [mI_u, uw_n (by decide), e2 86 (by decide)]) (fun _ => ?_)
  rw [mI_o (by decide)]
  exact Rw_c hw.1 hR.1 e4
def o_tear (A : Ab) : (Int32 × Ab) ⊕ Nat := .inl (bI (kA A), skA A false (ktA A))
theorem q_tear {A : Ab} (M : Nm) (hR : RA M A) : QA id A M (f_M_tear M) (o_tear A) := by
  have hk : RA (mI M 86 5 0) (skA A false (ktA A)) := RA.k hR (fun c _ h => mI_o h) rfl (by rw [mI_u, uw_s]; rfl) (by rw [mI_u, uw_n (by decide)]) (fun q => by cases q)
  unfold f_M_tear o_tear
  rw [hR.2.2.1, bl_e, bl_e]
  cases kA A with
  | true => rw [if_neg (by decide)]; exact qa_ok (Fk.i (by decide)) hk
  | false => rw [if_pos (show bI false = 0 from rfl)]; exact qa_ok (Fk.i (by decide)) hk
def o_undo (A : Ab) : (Int32 × Ab) ⊕ Nat := if kA A then .inl (nI (nS (ktA A)), stA A (ktA A)) else .inr 3
theorem p_unL (S : Nat → Int32) : ∀ (n f i : Nat) (M : Nm), i + n = 176 → n < f → M.1 88 = S → (∀ j, j < i → M.1 87 j = S j) → ∃ M', f_M_undo_L16 f (nI i) M = some (M'.1 87 0, M') ∧ (∀ c, c ≠ 87 → M'.1 c = M.1 c) ∧ M'.2 = M.2 ∧ ∀ j, j < 176 → M'.1 87 j = S j := by
  intro n
  induction n with
  | zero =>
    intro f i M hi hf hb h0
    obtain ⟨f, rfl⟩ : ∃ g, f = g + 1 := ⟨f - 1, by omega⟩
    have : i = 176 := by omega
    subst this
    exact ⟨M, by rw [f_M_undo_L16, if_pos (by decide), g0, ix0], fun _ _ => rfl, rfl, h0⟩
  | succ n ih =>
    intro f i M hi hf hb h0
    obtain ⟨f, rfl⟩ : ∃ g, f = g + 1 := ⟨f - 1, by omega⟩
    obtain ⟨M', e1, e2, e3, e4⟩ := ih f (i + 1) (mI M 87 i (M.1 88 i)) (by omega) (by omega) (by rw [mI_o (by decide)]; exact hb) (fun j hj => by
      rw [mI_u]
      by_cases q : j = i
      · rw [q, uw_s, hb]
      · rw [uw_n q]; exact h0 j (by omega))
    refine ⟨M', ?_, fun c hc => (e2 c hc).trans (mI_o hc), e3, e4⟩
    rw [f_M_undo_L16, if_neg (show ¬ (176 : Int32) ≤ nI i from nI_ge (b := 176) (by omega) (by decide)), grd_h (inb_nI (by omega) (by decide)), grd_h (inb_nI (by omega) (by decide)), bl_e, ix_nI (by omega), nI_1]
    exact e1
theorem q_undo {A : Ab} (hw : WfA A) (M : Nm) (hR : RA M A) : QA id A M (f_M_undo M) (o_undo A) := by
  unfold f_M_undo o_undo
  rw [hR.2.2.1]
  by_cases e : kA A = true
  · rw [if_neg (bI_t e), if_pos e]
    obtain ⟨M1, e1, e2, e3, e4⟩ := p_unL (M.1 88) 176 FU 0 M rfl (FU_gt (by decide)) rfl (fun j hj => by omega)
    have hk := Rw_c (hw.2.1 e) (hR.2.2.2.1 e) e4
    have e1' : f_M_undo_L16 FU 0 M = some (M1.1 87 0, M1) := e1
    rw [e1', hk.1]
    exact qa_ok ⟨fun c hc => e2 c (by omega), fun c _ => by rw [e3], by rw [e3]⟩ (hR.m ⟨fun c h _ _ _ _ => e2 c h, fun c _ _ => by rw [e3], by rw [e3]⟩ (e2 91 (by decide)) hk)
  · rw [if_pos (bI_f (nf e)), if_neg e]
    exact qa_fd (cv := id) hR (by decide) (by decide)
/-! counts -/
theorem p_coL {t : St} (hw : Wf t) (M : Nm) (hR : Rn M t) : ∀ (n f i : Nat), i + n = nS t → n < f → f_M_costsAll_L8 f (nI (sm cst t i)) (nI i) M = some (nI (sm cst t (nS t)), M) := by
  have h6 := hw.1
  intro n
  induction n with
  | zero =>
    intro f i hi hf
    obtain ⟨f, rfl⟩ : ∃ g, f = g + 1 := ⟨f - 1, by omega⟩
    rw [f_M_costsAll_L8, g0, ix0, hR.1.1, if_pos (nI_le (by omega) (by omega)), ← hi]
    rfl
  | succ n ih =>
    intro f i hi hf
    obtain ⟨f, rfl⟩ : ∃ g, f = g + 1 := ⟨f - 1, by omega⟩
    rw [f_M_costsAll_L8, g0, ix0, hR.1.1, if_neg (nI_ge (by omega) (by omega)), grd_h (inb_nI (by omega) (by decide)), ix_nI (by omega), (hR.2 i (by omega)).2.2, nI_add, nI_1]
    exact ih f (i + 1) (by omega) (by omega)
theorem p_together4 {t : St} (hw : Wf t) (M : Nm) (hR : Rw (M.1 87) t) : f_M_together 4 M = some (nI (sm nsH t (nS t)), M) :=
  p_tgL hw 4 (by decide) nsH M hR.1 (fun h hh => (hR.2.2.2 h hh).2.2.2.2.1) (nS t) FU 0 (by omega) (FU_gt (by have := hw.1; omega))
def o_count (v : Int32) (A : Ab) : (Int32 × Ab) ⊕ Nat := if v = 0 then .inl (nI (nS (tA A)), A) else if v = 1 then .inl (nI (zA A), A) else if v = 2 then .inl (nI (sm nsH (tA A) (nS (tA A))), A) else if v = 3 then .inl (nI (sm cst (tA A) (nS (tA A))), A) else .inr 0
theorem q_count {A : Ab} (hw : WfA A) (v : Int32) (M : Nm) (hR : RA M A) : QA id A M (f_M_count v M) (o_count v A) := by
  unfold f_M_count o_count
  by_cases q0 : v = 0
  · rw [if_pos q0, if_pos q0, g0, ix0, hR.1.1]
    exact qa_ok (Fk.rf M) hR
  rw [if_neg q0, if_neg q0]
  by_cases q1 : v = 1
  · rw [if_pos q1, if_pos q1, hR.2.2.2.2.1]
    exact qa_ok (Fk.rf M) hR
  rw [if_neg q1, if_neg q1]
  by_cases q2 : v = 2
  · rw [if_pos q2, if_pos q2, p_together4 hw.1 M hR.1, bnd_s]
    exact qa_ok (Fk.rf M) hR
  rw [if_neg q2, if_neg q2]
  by_cases q3 : v = 3
  · obtain ⟨M1, a1, a2, a3⟩ := p_writeAll hw.1 M hR.1
    have hR1 := Rn.of hR.1 a2 a3
    have hc : f_M_costsAll M = some (nI (sm cst (tA A) (nS (tA A))), M1) := by
      unfold f_M_costsAll
      rw [a1, bnd_s]
      exact p_coL hw.1 M1 hR1 (nS (tA A)) FU 0 (by omega) (FU_gt (by have := hw.1.1; omega))
    rw [if_pos q3, if_pos q3, hc, bnd_s]
    exact qa_ok a2.fm.fk (hR.m a2.fm a2.e91 hR1.1)
  rw [if_neg q3, if_neg q3]
  exact qa_fd (cv := id) hR (by decide) (by decide)
def stF (f : Nat → Int32) (v : Int32) : Nat → Int32
  | 0 => 0
  | n + 1 => stF f v n + (if v < 0 then f n else if nI n = v then f n else 0)
def o_status (v : Int32) (A : Ab) : (Int32 × Ab) ⊕ Nat := if rg v (-1) 6 then .inl (stF (fA A) v 7, A) else .inr 0
theorem p_stL {A : Ab} (v : Int32) (M : Nm) (hR : RA M A) : ∀ (n f i : Nat), i + n = 7 → n < f → f_M_status_L25 v f (stF (fA A) v i) (nI i) M = some (stF (fA A) v 7, M) := by
  intro n
  induction n with
  | zero =>
    intro f i hi hf
    obtain ⟨f, rfl⟩ : ∃ g, f = g + 1 := ⟨f - 1, by omega⟩
    have : i = 7 := by omega
    subst this
    rw [f_M_status_L25, if_pos (by decide)]
  | succ n ih =>
    intro f i hi hf
    obtain ⟨f, rfl⟩ : ∃ g, f = g + 1 := ⟨f - 1, by omega⟩
    have key := ih f (i + 1) (by omega) (by omega)
    have hz : stF (fA A) v (i + 1) = stF (fA A) v i + (if v < 0 then fA A i else if nI i = v then fA A i else 0) := rfl
    rw [hz] at key
    rw [f_M_status_L25, if_neg (show ¬ (7 : Int32) ≤ nI i from nI_ge (b := 7) (by omega) (by decide)), grd_h (inb_nI (by omega) (by decide)), ix_nI (by omega), hR.2.1 i (by omega), nI_1]
    by_cases q1 : v < 0
    · rw [if_pos q1]
      rw [if_pos q1] at key
      exact key
    · rw [if_neg q1]
      rw [if_neg q1] at key
      by_cases q2 : nI i = v
      · rw [if_pos q2]
        rw [if_pos q2] at key
        exact key
      · rw [if_neg q2]
        rw [if_neg q2] at key
        exact key
theorem q_status {A : Ab} (v : Int32) (M : Nm) (hR : RA M A) : QA id A M (f_M_status v M) (o_status v A) := by
  unfold f_M_status o_status
  rw [show f_M_in v.toInt64 (-1) 6 M = some (bI (rg v (-1) 6), M) from p_inI v (-1) 6 M, bnd_s]
  by_cases e : rg v (-1) 6 = true
  · rw [if_neg (bI_t e), if_pos e, show f_M_status_L25 v FU 0 0 M = _ from p_stL v M hR 7 FU 0 rfl (FU_gt (by decide))]
    exact qa_ok (Fk.rf M) hR
  · rw [if_pos (bI_f (nf e)), if_neg e]
    exact qa_fd (cv := id) hR (by decide) (by decide)
