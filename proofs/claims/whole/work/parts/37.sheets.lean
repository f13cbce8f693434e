/-! the reference: sheets -/
theorem RA.s {M M' : Nm} {A : Ab} (hR : RA M A) (h : ∀ c, c ≠ 97 → c ≠ 98 → M'.1 c = M.1 c) {b n : Nat → Nat} {m : Nat → Nat → Int64} (hs : ∀ s, s < 4 → M'.1 97 s = nI (b s) ∧ M'.1 98 s = nI (n s) ∧ ∀ k, k < 40 → M'.2.1 99 (40 * s + k) = m s k) : RA M' (shA A b n m) := by
  obtain ⟨r1, r2, r3, r4, r5, r6, r7⟩ := hR
  refine ⟨by rw [h 87 (by decide) (by decide)]; exact r1, fun i hi => by rw [h 91 (by decide) (by decide)]; exact r2 i hi, by rw [h 86 (by decide) (by decide)]; exact r3, fun q => by rw [h 88 (by decide) (by decide)]; exact r4 q, by rw [h 86 (by decide) (by decide)]; exact r5, fun i hi => by rw [h 96 (by decide) (by decide)]; exact r6 i hi, hs⟩
def un {α : Type} (f : Nat → α) (s : Nat) (v : α) : Nat → α := fun k => if k = s then v else f k
theorem un_s {α : Type} (f : Nat → α) (s : Nat) (v : α) : un f s v s = v := if_pos rfl
theorem un_n {α : Type} {f : Nat → α} {s k : Nat} {v : α} (h : k ≠ s) : un f s v k = f k := if_neg h
def bts (v : Int32) : Bool := decide (v = 0) || (decide (v = 8) || (decide (v = 16) || decide (v = 64)))
def szV (v2 v3 : Int32) : Nat := if v2 = 0 then 0 else ix v3
def o_sheet (v1 v2 v3 : Int32) (A : Ab) : (Int32 × Ab) ⊕ Nat := if rg v1 0 3 && bts v2 then (if v3 < 0 then .inr 6 else if 40 < v3 then .inr 0 else .inl (nI (szV v2 v3), shA A (un (bA A) (ix v1) (ix v2)) (un (nA A) (ix v1) (szV v2 v3)) (un (mA A) (ix v1) (fun _ => 0)))) else .inr 0
theorem m40 (s k : Nat) : (40 : Int32) * nI s + nI k = nI (40 * s + k) := by rw [show (40 : Int32) * nI s = nI (40 * s) from pk_mul 40 s, nI_add]
theorem p_shL {s : Nat} (hs : s < 4) : ∀ (n f i : Nat) (M : Nm), i + n = 40 → n < f → (∀ j, j < i → M.2.1 99 (40 * s + j) = 0) → ∃ M', f_M_sheet_L86 (nI s) f (nI i) M = some (M.1 98 s, M') ∧ M'.1 = M.1 ∧ (∀ c, c ≠ 99 → M'.2.1 c = M.2.1 c) ∧ M'.2.2 = M.2.2 ∧ (∀ j, (j < 40 * s ∨ 40 * s + 40 ≤ j) → M'.2.1 99 j = M.2.1 99 j) ∧ ∀ j, j < 40 → M'.2.1 99 (40 * s + j) = 0 := by
  intro n
  induction n with
  | zero =>
    intro f i M hi hf h0
    obtain ⟨f, rfl⟩ : ∃ g, f = g + 1 := ⟨f - 1, by omega⟩
    have : i = 40 := by omega
    subst this
    exact ⟨M, by rw [f_M_sheet_L86, if_pos (by decide), grd_h (inb_nI hs (by decide)), ix_nI (by omega)], rfl, fun _ _ => rfl, rfl, fun _ _ => rfl, h0⟩
  | succ n ih =>
    intro f i M hi hf h0
    obtain ⟨f, rfl⟩ : ∃ g, f = g + 1 := ⟨f - 1, by omega⟩
    obtain ⟨M', e1, e2, e3, e4, e5, e6⟩ := ih f (i + 1) (mL M 99 (40 * s + i) 0) (by omega) (by omega) (fun j hj => by
      rw [mL_s]
      by_cases q : j = i
      · rw [if_pos (by omega)]
      · rw [if_neg (by omega)]; exact h0 j (by omega))
    refine ⟨M', ?_, e2, fun c hc => (e3 c hc).trans (mL_o hc), e4, fun j hj => ?_, e6⟩
    · rw [f_M_sheet_L86, if_neg (show ¬ (40 : Int32) ≤ nI i from nI_ge (b := 40) (by omega) (by decide)), m40, grd_h (inb_nI (by omega) (by decide)), bl_e, ix_nI (by omega), nI_1]
      exact e1
    · rw [e5 j hj, mL_s, if_neg (by omega)]
theorem q_shB {A : Ab} {s : Nat} (hs : s < 4) (v2 v3 : Int32) (hv : v2 = nI (ix v2)) (M : Nm) (hR : RA M A) : QA id A M (if 0 ≤ v3 then (if v3 ≤ 40 then (grd (inb (nI s) 4) <| bl (mI M 97 s v2) fun M5 => if v2 = 0 then (grd (inb (nI s) 4) <| bl (mI M5 98 s 0) fun M6 => f_M_sheet_L86 (nI s) FU 0 M6) else (grd (inb (nI s) 4) <| bl (mI M5 98 s v3) fun M8 => f_M_sheet_L86 (nI s) FU 0 M8)) else (bnd (f_M_finds (-1000000001) M) fun r9 M10 => some (r9, M10))) else (bnd (f_M_finds (-1000000007) M) fun r11 M12 => some (r11, M12))) (if v3 < 0 then .inr 6 else if 40 < v3 then .inr 0 else .inl (nI (szV v2 v3), shA A (un (bA A) s (ix v2)) (un (nA A) s (szV v2 v3)) (un (mA A) s (fun _ => 0)))) := by
  by_cases e0 : v3 < 0
  · rw [if_pos e0, if_neg (fun q => absurd (Int32.lt_of_le_of_lt q e0) Int32.lt_irrefl)]
    exact qa_fd (cv := id) hR (by decide) (by decide)
  · rw [if_neg e0, if_pos (Int32.not_lt.mp e0)]
    by_cases e1 : (40 : Int32) < v3
    · rw [if_pos e1, if_neg (fun q => absurd (Int32.lt_of_le_of_lt q e1) Int32.lt_irrefl)]
      exact qa_fd (cv := id) hR (by decide) (by decide)
    · have e2 : v3 ≤ 40 := Int32.not_lt.mp e1
      obtain ⟨j, hj1, hj2⟩ := nI_of2 (n := 40) (by decide) e0 e2
      have hjx : ix v3 = j := by rw [hj2, ix_nI (by omega)]
      rw [if_neg e1, if_pos e2, grd_h (inb_nI hs (by decide)), bl_e, grd_h (inb_nI hs (by decide)), bl_e, grd_h (inb_nI hs (by decide)), bl_e]
      have fin : ∀ w : Int32, w = nI (szV v2 v3) → QA id A M (f_M_sheet_L86 (nI s) FU 0 (mI (mI M 97 s v2) 98 s w)) (.inl (nI (szV v2 v3), shA A (un (bA A) s (ix v2)) (un (nA A) s (szV v2 v3)) (un (mA A) s (fun _ => 0)))) := by
        intro w hw
        obtain ⟨M', h1, h2, h3, h4, h5, h6⟩ := p_shL hs 40 FU 0 (mI (mI M 97 s v2) 98 s w) rfl (FU_gt (by decide)) (fun j hj => by omega)
        have h1' : f_M_sheet_L86 (nI s) FU 0 (mI (mI M 97 s v2) 98 s w) = _ := h1
        rw [h1', mI_u, uw_s, hw]
        refine qa_ok ⟨fun c hc => by rw [h2, mI_o (by omega), mI_o (by omega)], fun c hc => by rw [h3 c (by omega)]; rfl, h4⟩ (hR.s (fun c a b => by rw [h2, mI_o b, mI_o a]) (fun u hu => ?_))
        obtain ⟨g1, g2, g3⟩ := hR.2.2.2.2.2.2 u hu
        rw [h2]
        by_cases q : u = s
        · subst q
          rw [un_s, un_s, un_s, mI_o (by decide), mI_u, uw_s, mI_u, uw_s]
          exact ⟨hv, hw, fun k hk => h6 k hk⟩
        · rw [un_n q, un_n q, un_n q, mI_o (by decide), mI_u, uw_n q, mI_u, uw_n q, mI_o (by decide)]
          exact ⟨g1, g2, fun k hk => by rw [h5 _ (by omega)]; exact g3 k hk⟩
      by_cases q : v2 = 0
      · rw [if_pos q]
        exact fin 0 (by unfold szV; rw [if_pos q]; rfl)
      · rw [if_neg q]
        exact fin v3 (by unfold szV; rw [if_neg q, hjx]; exact hj2)
theorem q_sheet {A : Ab} (v1 v2 v3 : Int32) (M : Nm) (hR : RA M A) : QA id A M (f_M_sheet v1 v2 v3 M) (o_sheet v1 v2 v3 A) := by
  unfold f_M_sheet o_sheet
  rw [p_M_isOne, bnd_s]
  by_cases e1 : rg v1 0 3 = true
  · obtain ⟨s, s1, s2, s3⟩ := rgN (n := 3) (by decide) e1
    have hs : s < 4 := by omega
    rw [if_neg (bI_t e1), e1, s3, s2]
    by_cases q0 : v2 = 0
    · rw [if_pos q0, if_pos (show (true && bts v2) = true by simp [bts, q0])]
      exact q_shB hs v2 v3 (by rw [q0]; rfl) M hR
    rw [if_neg q0]
    by_cases q1 : v2 = 8
    · rw [if_pos q1, if_pos (show (true && bts v2) = true by simp [bts, q1])]
      exact q_shB hs v2 v3 (by rw [q1]; rfl) M hR
    rw [if_neg q1]
    by_cases q2 : v2 = 16
    · rw [if_pos q2, if_pos (show (true && bts v2) = true by simp [bts, q2])]
      exact q_shB hs v2 v3 (by rw [q2]; rfl) M hR
    rw [if_neg q2]
    by_cases q3 : v2 = 64
    · rw [if_pos q3, if_pos (show (true && bts v2) = true by simp [bts, q3])]
      exact q_shB hs v2 v3 (by rw [q3]; rfl) M hR
    rw [if_neg q3, if_neg (show ¬ (true && bts v2) = true by simp [bts, q0, q1, q2, q3])]
    exact qa_fd (cv := id) hR (by decide) (by decide)
  · rw [if_pos (bI_f (nf e1)), if_neg (show ¬ (rg v1 0 3 && bts v2) = true by simp [e1])]
    exact qa_fd (cv := id) hR (by decide) (by decide)
/-- narrowed -/
def nrw (b : Nat) (v : Int64) : Int64 := if b = 8 then v.toInt32.toInt8.toInt32.toInt64 else if b = 16 then v.toInt32.toInt16.toInt32.toInt64 else v
theorem p_narrowed {b : Nat} (hb : b < 100) (v : Int64) (M : Nm) : f_M_narrowed (nI b) v M = some (nrw b v, M) := by
  unfold f_M_narrowed nrw
  by_cases q : b = 8
  · rw [if_pos (show nI b = 8 by rw [q]; rfl), if_pos q]
  · rw [if_neg (show ¬ nI b = 8 from fun z => q ((nI_eq (b := 8) (by omega) (by decide)).mp z)), if_neg q]
    by_cases q2 : b = 16
    · rw [if_pos (show nI b = 16 by rw [q2]; rfl), if_pos q2]
    · rw [if_neg (show ¬ nI b = 16 from fun z => q2 ((nI_eq (b := 16) (by omega) (by decide)).mp z)), if_neg q2]
def wrI (v1 : Int32) (A : Ab) : Int32 := if rg v1 0 3 then (if bA A (ix v1) = 0 then -1000000006 else 0) else -1000000001
theorem bA_lt {A : Ab} (hw : WfA A) {s : Nat} (hs : s < 4) : bA A s < 100 := by
  rcases (hw.2.2.2.2 s hs).1 with q | q | q | q <;> omega
theorem p_wrong {A : Ab} (hw : WfA A) (v1 : Int32) (M : Nm) (hR : RA M A) : f_M_wrong v1 M = some (wrI v1 A, M) := by
  unfold f_M_wrong wrI
  rw [p_M_isOne, bnd_s]
  by_cases e1 : rg v1 0 3 = true
  · obtain ⟨s, s1, s2, s3⟩ := rgN (n := 3) (by decide) e1
    have hb := bA_lt hw (show s < 4 by omega)
    rw [if_neg (bI_t e1), if_pos e1, s3, s2, grd_h (inb_nI (by omega) (by decide)), (hR.2.2.2.2.2.2 s (by omega)).1]
    by_cases q : bA A s = 0
    · rw [if_pos (show nI (bA A s) = 0 by rw [q]; rfl), if_pos q]
    · rw [if_neg (nI_ne0 (by omega) (by omega)), if_neg q]
  · rw [if_pos (bI_f (nf e1)), if_neg e1]
/-- what a sheet answers that isn't there or is missing, or the rest -/
def shO {α : Type} (v1 : Int32) (A : Ab) (o : (α × Ab) ⊕ Nat) : (α × Ab) ⊕ Nat := if rg v1 0 3 then (if bA A (ix v1) = 0 then .inr 5 else o) else .inr 0
theorem q_shO {α : Type} {cv : Int32 → α} {A : Ab} (v1 : Int32) {M : Nm} (hR : RA M A) {r : Option (α × Nm)} {o : (α × Ab) ⊕ Nat} (h : ∀ s, s < 4 → v1 = nI s → ix v1 = s → ¬ bA A s = 0 → QA cv A M r o) : QA cv A M (if wrI v1 A = 0 then r else (bnd (f_M_finds (wrI v1 A) M) fun r11 M12 => some (cv r11, M12))) (shO v1 A o) := by
  unfold wrI shO
  by_cases e1 : rg v1 0 3 = true
  · obtain ⟨s, s1, s2, s3⟩ := rgN (n := 3) (by decide) e1
    rw [if_pos e1, if_pos e1]
    by_cases q : bA A (ix v1) = 0
    · rw [if_pos q, if_pos q, if_neg (by decide)]
      exact qa_fd hR (by decide) (by decide)
    · rw [if_neg q, if_neg q, if_pos rfl]
      exact h s (by omega) s2 s3 (by rw [← s3]; exact q)
  · rw [if_neg e1, if_neg e1, if_neg (by decide)]
    exact qa_fd hR (by decide) (by decide)
def lt0 (v : Int32) (n : Nat) : Bool := decide (0 ≤ v.toInt) && decide (v.toInt < n)
theorem lt0_of {v : Int32} {n : Nat} (h : lt0 v n = true) : ∃ j, j < n ∧ v = nI j ∧ ix v = j := by
  simp only [lt0, Bool.and_eq_true, decide_eq_true_eq] at h
  obtain ⟨h1, h2⟩ := h
  have hr := fb_rng v
  refine ⟨v.toInt.toNat, by omega, ?_, rfl⟩
  apply Int32.toInt_inj.mp
  rw [nI_toInt (by omega)]
  omega
theorem pr_all : ∀ n, n < 41 → (nI n - 1).toInt = (n : Int) - 1 := by decide +kernel
theorem p_inlt {n : Nat} (hn : n < 41) (v : Int32) (M : Nm) : f_M_in v.toInt64 0 ((nI n - 1).toInt64) M = some (bI (lt0 v n), M) := by
  rw [show f_M_in v.toInt64 0 ((nI n - 1).toInt64) M = some (bI (rg v 0 (nI n - 1).toInt), M) from p_inI v 0 (nI n - 1) M, pr_all n hn]
  congr 3
  unfold rg lt0
  have : (v.toInt ≤ (n : Int) - 1) = (v.toInt < n) := propext (by omega)
  simp only [this]
def o_write (v1 v2 : Int32) (v3 : Int64) (A : Ab) : (Int64 × Ab) ⊕ Nat := shO v1 A (if lt0 v2 (nA A (ix v1)) then .inl (mA A (ix v1) (ix v2), shA A (bA A) (nA A) (un (mA A) (ix v1) (un (mA A (ix v1)) (ix v2) (nrw (bA A (ix v1)) v3)))) else .inr 0)
theorem RA.w {M : Nm} {A : Ab} (hR : RA M A) {s k : Nat} (hs : s < 4) (hk : k < 40) (x : Int64) : RA (mL M 99 (40 * s + k) x) (shA A (bA A) (nA A) (un (mA A) s (un (mA A s) k x))) := by
  refine RA.s (M' := mL M 99 (40 * s + k) x) hR (fun c _ _ => by rw [mL_I]) (fun u hu => ?_)
  obtain ⟨g1, g2, g3⟩ := hR.2.2.2.2.2.2 u hu
  refine ⟨g1, g2, fun j hj => ?_⟩
  rw [mL_s]
  by_cases q : u = s
  · subst q
    rw [un_s]
    by_cases q2 : j = k
    · subst q2; rw [if_pos rfl, un_s]
    · rw [if_neg (by omega), un_n q2]; exact g3 j hj
  · rw [if_neg (by omega), un_n q]; exact g3 j hj
theorem q_write {A : Ab} (hw : WfA A) (v1 v2 : Int32) (v3 : Int64) (M : Nm) (hR : RA M A) : QA Int32.toInt64 A M (f_M_write v1 v2 v3 M) (o_write v1 v2 v3 A) := by
  unfold f_M_write o_write
  rw [p_wrong hw v1 M hR, bnd_s]
  refine q_shO v1 hR (fun s hs e1 e2 e3 => ?_)
  obtain ⟨g1, g2, g3⟩ := hR.2.2.2.2.2.2 s hs
  have hn := (hw.2.2.2.2 s hs).2.1
  rw [e2, e1, grd_h (inb_nI hs (by decide)), g2, p_inlt (by omega), bnd_s]
  by_cases q : lt0 v2 (nA A s) = true
  · obtain ⟨k, k1, k2, k3⟩ := lt0_of q
    rw [if_neg (bI_t q), if_pos q, k3, k2, m40, grd_h (inb_nI (by omega) (by decide)), bl_e, grd_h (inb_nI hs (by decide)), g1, p_narrowed (bA_lt hw hs), bnd_s, grd_h (inb_nI (by omega) (by decide)), bl_e, ix_nI (by omega), g3 k (by omega)]
    exact qa_ok (Fk.l (by decide)) (hR.w hs (by omega) _)
  · rw [if_pos (bI_f (nf q)), if_neg q]
    exact qa_fd hR (by decide) (by decide)
