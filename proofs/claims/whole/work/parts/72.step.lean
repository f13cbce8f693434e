/-! class and reference answer alike, call by call -/
theorem RA.r {M M' : Nm} {A : Ab} (h : RA M A) (hf : Fr 0 86 M M') : RA M' A := by
  obtain ⟨a, b, c, d, e, f, g⟩ := h
  have k : ∀ x, 86 ≤ x → M'.1 x = M.1 x := fun x hx => (hf x (by omega)).1
  have kl : ∀ x, 86 ≤ x → M'.2.1 x = M.2.1 x := fun x hx => (hf x (by omega)).2.1
  refine ⟨by rw [k 87 (by omega)]; exact a, fun i hi => by rw [k 91 (by omega)]; exact b i hi, by rw [k 86 (by omega)]; exact c, fun q => by rw [k 88 (by omega)]; exact d q, by rw [k 86 (by omega)]; exact e, fun i hi => by rw [k 96 (by omega)]; exact f i hi, fun s hs => ?_⟩
  rw [k 97 (by omega), k 98 (by omega), kl 99 (by omega)]
  exact g s hs
theorem Ca.k {d : Nat} (hd : d + 20 ≤ 86) {M M' : Nm} (h : Ca d M) (hf : Fk M M') : Ca d M' := fun i hi => by
  rw [hf.2.1 (ho d i) (by unfold ho; omega)]
  exact h i hi
theorem CA.k {M M' : Nm} {A : Ab} (hw : WfA A) (h : CA M A) (hf : Fk M M') : CA M' A := by
  have kL : ∀ (d : Nat) (t : St), d + 20 ≤ 86 → nS t ≤ 6 → LandR d M t → LandR d M' t := fun d t hd hn hl => hl.f hn (fun c _ h2 => hf.1 c (by omega)) (fun c _ h2 => hf.2.1 c (by omega)) hf.2.2
  refine ⟨kL 8 _ (by omega) hw.1.1 h.1, h.2.1.k (by omega) hf, ⟨h.2.2.1.1.k (by omega) hf, fun q => kL 52 _ (by omega) (hw.2.1 q).1 (h.2.2.1.2 q)⟩, ?_⟩
  obtain ⟨a, b, c, d, e⟩ := h.2.2.2
  exact ⟨fun i hi => by rw [hf.1 85 (by omega)]; exact a i hi, by rw [hf.1 0 (by omega)]; exact b, ⟨by rw [hf.1 74 (by omega)]; exact c.1, fun i hi => by rw [hf.1 75 (by omega)]; exact c.2 i hi⟩, fun s hs => ⟨by rw [hf.1 (77 + 2 * s) (by omega)]; exact (d s hs).1, by rw [hf.1 (77 + 2 * s) (by omega)]; exact (d s hs).2.1, fun k hk => by rw [hf.2.1 (77 + 2 * s + 1) (by omega)]; exact (d s hs).2.2 k hk⟩, fun k hk => by rw [hf.1 (kc k) (by have := kc_le k hk; omega)]; exact e k hk⟩
/-- what holds between calls -/
def Iv (M : Nm) : Prop := ∃ A, WfA A ∧ CA M A ∧ RA M A
/-- the class, then the reference: the same answer, and it goes on -/
def Bo {α : Type} (r : Option (α × Nm)) (g : Nm → Option (α × Nm)) : Prop := ∃ a M1 M2, r = some (a, M1) ∧ g M1 = some (a, M2) ∧ Iv M2
theorem both {α : Type} {cv : Int32 → α} {A : Ab} (hw : WfA A) {M : Nm} (hR : RA M A) {r : Option (α × Nm)} {g : Nm → Option (α × Nm)} {o : (α × Ab) ⊕ Nat} (hC : QC cv A M r o) (hQ : ∀ M1, RA M1 A → QA cv A M1 (g M1) o) (hk : ∀ a A', o = .inl (a, A') → WfA A') : Bo r g := by
  cases o with
  | inl q =>
    obtain ⟨a, A'⟩ := q
    obtain ⟨M1, b1, b2, b3⟩ := hC
    obtain ⟨M2, c1, c2, c3⟩ := hQ M1 (hR.r b2)
    have hw' := hk a A' rfl
    exact ⟨a, M1, M2, b1, c1, A', hw', b3.k hw' c2, c3⟩
  | inr i =>
    obtain ⟨M1, b1, b2, b3⟩ := hC
    obtain ⟨M2, c1, c2, c3⟩ := hQ M1 (hR.r b2)
    have hw' : WfA (bmp A i) := wf_bmp hw i
    exact ⟨cv (fW i), M1, M2, b1, c1, bmp A i, hw', b3.k hw' c2, c3⟩
theorem b_smudge (v1 v2 : Int32) {M : Nm} (h : Iv M) : Bo (f_P_smudge v1 v2 M) (fun M1 => f_M_smudge v1 v2 M1) := by
  obtain ⟨A, hw, hC, hR⟩ := h
  exact both hw hR (k_smudge hw v1 v2 M hC) (fun M1 h1 => qa_of h1 (q_smudge hw.1 v1 v2 M1 h1.1)) (fun a A' e => wf_lfA hw (w_smudge hw.1 v1 v2) e)
theorem b_cell (v1 v2 : Int32) {M : Nm} (h : Iv M) : Bo (f_P_cell v1 v2 M) (fun M1 => f_M_cell v1 v2 M1) := by
  obtain ⟨A, hw, hC, hR⟩ := h
  exact both hw hR (k_cell hw v1 v2 M hC) (fun M1 h1 => qa_of h1 (q_cell hw.1 v1 v2 M1 h1.1)) (fun a A' e => wf_lfA hw (w_cell hw.1 v1 v2) e)
theorem b_cells (v1 : Int32) {M : Nm} (h : Iv M) : Bo (f_P_cells v1 M) (fun M1 => f_M_cells v1 M1) := by
  obtain ⟨A, hw, hC, hR⟩ := h
  exact both hw hR (k_cells hw v1 M hC) (fun M1 h1 => qa_of h1 (q_cells hw.1 v1 M1 h1.1)) (fun a A' e => wf_lfA hw (w_cells hw.1 v1) e)
theorem b_hand (v1 v2 : Int32) {M : Nm} (h : Iv M) : Bo (f_P_hand v1 v2 M) (fun M1 => f_M_hand v1 v2 M1) := by
  obtain ⟨A, hw, hC, hR⟩ := h
  exact both hw hR (k_hand hw v1 v2 M hC) (fun M1 h1 => qa_of h1 (q_hand hw.1 v1 v2 M1 h1.1)) (fun a A' e => wf_lfA hw (w_hand hw.1 v1 v2) e)
theorem b_stroke (v1 v2 v3 : Int32) {M : Nm} (h : Iv M) : Bo (f_P_stroke v1 v2 v3 M) (fun M1 => f_M_stroke v1 v2 v3 M1) := by
  obtain ⟨A, hw, hC, hR⟩ := h
  exact both hw hR (k_stroke hw v1 v2 v3 M hC) (fun M1 h1 => qa_of h1 (q_stroke hw.1 v1 v2 v3 M1 h1.1)) (fun a A' e => wf_lfA hw (w_stroke hw.1 v1 v2 v3) e)
theorem b_of (v1 v2 : Int32) {M : Nm} (h : Iv M) : Bo (f_P_of v1 v2 M) (fun M1 => f_M_of v1 v2 M1) := by
  obtain ⟨A, hw, hC, hR⟩ := h
  exact both hw hR (k_of hw v1 v2 M hC) (fun M1 h1 => qa_of h1 (q_of hw.1 v1 v2 M1 h1.1)) (fun a A' e => wf_lfA hw (w_of hw.1 v1 v2) e)
theorem b_told (v1 v2 v3 : Int32) {M : Nm} (h : Iv M) : Bo (f_P_told v1 v2 v3 M) (fun M1 => f_M_told v1 v2 v3 M1) := by
  obtain ⟨A, hw, hC, hR⟩ := h
  exact both hw hR (k_told hw v1 v2 v3 M hC) (fun M1 h1 => qa_of h1 (q_told hw.1 v1 v2 v3 M1 h1.1)) (fun a A' e => wf_lfA hw (w_told hw.1 v1 v2 v3) e)
theorem b_set (v1 v2 v3 : Int32) {M : Nm} (h : Iv M) : Bo (f_P_set v1 v2 v3 M) (fun M1 => f_M_set v1 v2 v3 M1) := by
  obtain ⟨A, hw, hC, hR⟩ := h
  exact both hw hR (k_set hw v1 v2 v3 M hC) (fun M1 h1 => qa_of h1 (q_set hw.1 v1 v2 v3 M1 h1.1)) (fun a A' e => wf_lfA hw (w_set hw.1 v1 v2 v3) e)
theorem b_alter (v1 v2 v3 v4 : Int32) {M : Nm} (h : Iv M) : Bo (f_P_alter v1 v2 v3 v4 M) (fun M1 => f_M_alter v1 v2 v3 v4 M1) := by
  obtain ⟨A, hw, hC, hR⟩ := h
  exact both hw hR (k_alter hw v1 v2 v3 v4 M hC) (fun M1 h1 => qa_of h1 (q_alter hw.1 v1 v2 v3 v4 M1 h1.1)) (fun a A' e => wf_lfA hw (w_alter hw.1 v1 v2 v3 v4) e)
theorem b_cut (v1 v2 : Int32) {M : Nm} (h : Iv M) : Bo (f_P_cut v1 v2 M) (fun M1 => f_M_cut v1 v2 M1) := by
  obtain ⟨A, hw, hC, hR⟩ := h
  exact both hw hR (k_cut hw v1 v2 M hC) (fun M1 h1 => qa_of h1 (q_cut hw.1 v1 v2 M1 h1.1)) (fun a A' e => wf_lfA hw (w_cut hw.1 v1 v2) e)
theorem b_turn (v1 v2 : Int32) {M : Nm} (h : Iv M) : Bo (f_P_turn v1 v2 M) (fun M1 => f_M_turn v1 v2 M1) := by
  obtain ⟨A, hw, hC, hR⟩ := h
  exact both hw hR (k_turn hw v1 v2 M hC) (fun M1 h1 => qa_of h1 (q_turn hw.1 v1 v2 M1 h1.1)) (fun a A' e => wf_lfA hw (w_turn hw.1 v1 v2) e)
theorem b_as (v1 v2 : Int32) {M : Nm} (h : Iv M) : Bo (f_P_as v1 v2 M) (fun M1 => f_M_as v1 v2 M1) := by
  obtain ⟨A, hw, hC, hR⟩ := h
  exact both hw hR (k_as hw v1 v2 M hC) (fun M1 h1 => qa_of h1 (q_as hw.1 v1 v2 M1 h1.1)) (fun a A' e => wf_lfA hw (w_as hw.1 v1 v2) e)
theorem b_line (v1 : Int32) {M : Nm} (h : Iv M) : Bo (f_P_line v1 M) (fun M1 => f_M_line v1 M1) := by
  obtain ⟨A, hw, hC, hR⟩ := h
  exact both hw hR (k_line hw v1 M hC) (fun M1 h1 => qa_of h1 (q_line hw.1 v1 M1 h1.1)) (fun a A' e => wf_lfA hw (w_line hw.1 v1) e)
theorem b_inside (v1 : Int32) {M : Nm} (h : Iv M) : Bo (f_P_inside v1 M) (fun M1 => f_M_inside v1 M1) := by
  obtain ⟨A, hw, hC, hR⟩ := h
  exact both hw hR (k_inside hw v1 M hC) (fun M1 h1 => qa_of h1 (q_inside hw.1 v1 M1 h1.1)) (fun a A' e => wf_lfA hw (w_inside hw.1 v1) e)
theorem b_years (v1 : Int32) {M : Nm} (h : Iv M) : Bo (f_P_years v1 M) (fun M1 => f_M_years v1 M1) := by
  obtain ⟨A, hw, hC, hR⟩ := h
  exact both hw hR (k_years hw v1 M hC) (fun M1 h1 => qa_of h1 (q_years hw.1 v1 M1 h1.1)) (fun a A' e => wf_lfA hw (w_years hw.1 v1) e)
theorem b_now (v1 : Int32) {M : Nm} (h : Iv M) : Bo (f_P_now v1 M) (fun M1 => f_M_now v1 M1) := by
  obtain ⟨A, hw, hC, hR⟩ := h
  exact both hw hR (k_now hw v1 M hC) (fun M1 h1 => qa_of h1 (q_now hw.1 v1 M1 h1.1)) (fun a A' e => wf_lfA hw (w_now hw.1 v1) e)
theorem b_on (v1 v2 v3 : Int32) {M : Nm} (h : Iv M) : Bo (f_P_on v1 v2 v3 M) (fun M1 => f_M_on v1 v2 v3 M1) := by
  obtain ⟨A, hw, hC, hR⟩ := h
  exact both hw hR (k_on hw v1 v2 v3 M hC) (fun M1 h1 => qa_of h1 (q_on hw.1 v1 v2 v3 M1 h1.1)) (fun a A' e => wf_lfA hw (w_on hw.1 v1 v2 v3) e)
theorem b_dry (v1 : Int32) {M : Nm} (h : Iv M) : Bo (f_P_dry v1 M) (fun M1 => f_M_dry v1 M1) := by
  obtain ⟨A, hw, hC, hR⟩ := h
  exact both hw hR (k_dry hw v1 M hC) (fun M1 h1 => qa_of h1 (q_dry hw.1 v1 M1 h1.1)) (fun a A' e => wf_lfA hw (w_dry hw.1 v1) e)
theorem b_rich (v1 : Int32) {M : Nm} (h : Iv M) : Bo (f_P_rich v1 M) (fun M1 => f_M_rich v1 M1) := by
  obtain ⟨A, hw, hC, hR⟩ := h
  exact both hw hR (k_rich hw v1 M hC) (fun M1 h1 => qa_of h1 (q_rich hw.1 v1 M1 h1.1)) (fun a A' e => wf_lfA hw (w_rich hw.1 v1) e)
theorem b_rain (v1 : Int32) {M : Nm} (h : Iv M) : Bo (f_P_rain v1 M) (fun M1 => f_M_rain v1 M1) := by
  obtain ⟨A, hw, hC, hR⟩ := h
  exact both hw hR (k_rain hw v1 M hC) (fun M1 h1 => qa_of h1 (q_rain hw.1 v1 M1 h1.1)) (fun a A' e => wf_lfA hw (w_rain hw.1 v1) e)
theorem b_longer (v1 : Int32) {M : Nm} (h : Iv M) : Bo (f_P_longer v1 M) (fun M1 => f_M_longer v1 M1) := by
  obtain ⟨A, hw, hC, hR⟩ := h
  exact both hw hR (k_longer hw v1 M hC) (fun M1 h1 => qa_of h1 (q_longer hw.1 v1 M1 h1.1)) (fun a A' e => wf_lfA hw (w_longer hw.1 v1) e)
theorem b_begin (v1 : Int32) {M : Nm} (h : Iv M) : Bo (f_P_begin v1 M) (fun M1 => f_M_begin v1 M1) := by
  obtain ⟨A, hw, hC, hR⟩ := h
  exact both hw hR (k_begin hw v1 M hC) (fun M1 h1 => qa_of h1 (q_begin hw.1 v1 M1 h1.1)) (fun a A' e => wf_lfA hw (w_begin hw.1 v1) e)
theorem b_kind (v1 : Int32) {M : Nm} (h : Iv M) : Bo (f_P_kind v1 M) (fun M1 => f_M_kind v1 M1) := by
  obtain ⟨A, hw, hC, hR⟩ := h
  exact both hw hR (k_kind hw v1 M hC) (fun M1 h1 => qa_of h1 (q_kind hw.1 v1 M1 h1.1)) (fun a A' e => wf_lfA hw (w_kind hw.1 v1) e)
theorem b_ink (v1 : Int32) {M : Nm} (h : Iv M) : Bo (f_P_ink v1 M) (fun M1 => f_M_ink v1 M1) := by
  obtain ⟨A, hw, hC, hR⟩ := h
  exact both hw hR (k_ink hw v1 M hC) (fun M1 h1 => qa_of h1 (q_ink hw.1 v1 M1 h1.1)) (fun a A' e => wf_lfA hw (w_ink hw.1 v1) e)
theorem b_court (v1 v2 : Int32) {M : Nm} (h : Iv M) : Bo (f_P_court v1 v2 M) (fun M1 => f_M_court v1 v2 M1) := by
  obtain ⟨A, hw, hC, hR⟩ := h
  exact both hw hR (k_court hw v1 v2 M hC) (fun M1 h1 => qa_of h1 (q_court hw.1 v1 v2 M1 h1.1)) (fun a A' e => wf_lfA hw (w_court hw.1 v1 v2) e)
theorem b_way (v1 v2 v3 : Int32) {M : Nm} (h : Iv M) : Bo (f_P_way v1 v2 v3 M) (fun M1 => f_M_way v1 v2 v3 M1) := by
  obtain ⟨A, hw, hC, hR⟩ := h
  exact both hw hR (k_way hw v1 v2 v3 M hC) (fun M1 h1 => qa_of h1 (q_way hw.1 v1 v2 v3 M1 h1.1)) (fun a A' e => wf_lfA hw (w_way hw.1 v1 v2 v3) e)
theorem b_sea {M : Nm} (h : Iv M) : Bo (f_P_sea M) (fun M1 => f_M_sea M1) := by
  obtain ⟨A, hw, hC, hR⟩ := h
  exact both hw hR (k_sea hw M hC) (fun M1 h1 => qa_of h1 (q_sea hw.1 M1 h1.1)) (fun a A' e => wf_lfA hw (w_sea hw.1) e)
theorem b_feed (v1 v2 : Int32) {M : Nm} (h : Iv M) : Bo (f_P_feed v1 v2 M) (fun M1 => f_M_feed v1 v2 M1) := by
  obtain ⟨A, hw, hC, hR⟩ := h
  exact both hw hR (k_feed hw v1 v2 M hC) (fun M1 h1 => q_feed v1 v2 hw.2.2.1 M1 h1) (w_feed hw v1 v2)
theorem b_wipe {M : Nm} (h : Iv M) : Bo (f_P_wipe M) (fun M1 => f_M_wipe M1) := by
  obtain ⟨A, hw, hC, hR⟩ := h
  exact both hw hR (k_wipe hw M hC) (fun M1 h1 => q_wipe M1 h1) (w_wipe hw)
theorem b_field {M : Nm} (h : Iv M) : Bo (f_P_field M) (fun M1 => f_M_field M1) := by
  obtain ⟨A, hw, hC, hR⟩ := h
  exact both hw hR (k_field hw M hC) (fun M1 h1 => q_field hw M1 h1) (w_field hw)
theorem b_sheet (v1 v2 v3 : Int32) {M : Nm} (h : Iv M) : Bo (f_P_sheet v1 v2 v3 M) (fun M1 => f_M_sheet v1 v2 v3 M1) := by
  obtain ⟨A, hw, hC, hR⟩ := h
  exact both hw hR (k_sheet hw v1 v2 v3 M hC) (fun M1 h1 => q_sheet v1 v2 v3 M1 h1) (w_sheet hw v1 v2 v3)
theorem b_write (v1 v2 : Int32) (v3 : Int64) {M : Nm} (h : Iv M) : Bo (f_P_write v1 v2 v3 M) (fun M1 => f_M_write v1 v2 v3 M1) := by
  obtain ⟨A, hw, hC, hR⟩ := h
  exact both hw hR (k_write hw v1 v2 v3 M hC) (fun M1 h1 => q_write hw v1 v2 v3 M1 h1) (w_write hw v1 v2 v3)
theorem b_copy (v1 v2 v3 v4 v5 : Int32) {M : Nm} (h : Iv M) : Bo (f_P_copy v1 v2 v3 v4 v5 M) (fun M1 => f_M_copy v1 v2 v3 v4 v5 M1) := by
  obtain ⟨A, hw, hC, hR⟩ := h
  exact both hw hR (k_copy hw v1 v2 v3 v4 v5 M hC) (fun M1 h1 => q_copy hw v1 v2 v3 v4 v5 M1 h1) (w_copy hw v1 v2 v3 v4 v5)
theorem b_lays (v1 : Int32) {M : Nm} (h : Iv M) : Bo (f_P_lays v1 M) (fun M1 => f_M_lays v1 M1) := by
  obtain ⟨A, hw, hC, hR⟩ := h
  exact both hw hR (k_lays hw v1 M hC) (fun M1 h1 => q_lays hw v1 M1 h1) (w_lays hw v1)
theorem b_book (v1 v2 : Int32) {M : Nm} (h : Iv M) : Bo (f_P_book v1 v2 M) (fun M1 => f_M_book v1 v2 M1) := by
  obtain ⟨A, hw, hC, hR⟩ := h
  exact both hw hR (k_book hw v1 v2 M hC) (fun M1 h1 => q_book hw v1 v2 M1 h1) (w_book hw v1 v2)
theorem b_read (v1 v2 : Int32) {M : Nm} (h : Iv M) : Bo (f_P_read v1 v2 M) (fun M1 => f_M_read v1 v2 M1) := by
  obtain ⟨A, hw, hC, hR⟩ := h
  exact both hw hR (k_read hw v1 v2 M hC) (fun M1 h1 => q_read hw v1 v2 M1 h1) (w_read hw v1 v2)
theorem b_image {M : Nm} (h : Iv M) : Bo (f_P_image M) (fun M1 => f_M_image M1) := by
  obtain ⟨A, hw, hC, hR⟩ := h
  exact both hw hR (k_image hw M hC) (fun M1 h1 => q_image hw M1 h1) (w_image hw)
theorem b_undo {M : Nm} (h : Iv M) : Bo (f_P_undo M) (fun M1 => f_M_undo M1) := by
  obtain ⟨A, hw, hC, hR⟩ := h
  exact both hw hR (k_undo hw M hC) (fun M1 h1 => q_undo hw M1 h1) (w_undo hw)
theorem b_tear {M : Nm} (h : Iv M) : Bo (f_P_tear M) (fun M1 => f_M_tear M1) := by
  obtain ⟨A, hw, hC, hR⟩ := h
  exact both hw hR (k_tear hw M hC) (fun M1 h1 => q_tear M1 h1) (w_tear hw)
theorem b_count (v1 : Int32) {M : Nm} (h : Iv M) : Bo (f_P_count v1 M) (fun M1 => f_M_count v1 M1) := by
  obtain ⟨A, hw, hC, hR⟩ := h
  exact both hw hR (k_count hw v1 M hC) (fun M1 h1 => q_count hw v1 M1 h1) (w_count hw v1)
theorem b_status (v1 : Int32) {M : Nm} (h : Iv M) : Bo (f_P_status v1 M) (fun M1 => f_M_status v1 M1) := by
  obtain ⟨A, hw, hC, hR⟩ := h
  exact both hw hR (k_status hw v1 M hC) (fun M1 h1 => q_status v1 M1 h1) (w_status hw v1)
