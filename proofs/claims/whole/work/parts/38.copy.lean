/-! the reference: copy, lays, book, read -/
theorem sub_tI {z a : Nat} (hz : z < 2 ^ 31) (ha : a < 2 ^ 31) : (nI z - nI a).toInt = (z : Int) - a := by
  rw [Int32.toInt_sub, nI_toInt hz, nI_toInt ha]
  apply Int.bmod_eq_of_le <;> omega
def hsN (f n : Int32) (z : Nat) : Bool := decide (0 ≤ f.toInt) && (decide (0 ≤ n.toInt) && decide (f.toInt + n.toInt ≤ z))
def mvd (m : Nat → Nat → Int64) (s a u c n : Nat) : Nat → Nat → Int64 := un m u (fun k => if c ≤ k ∧ k < c + n then m s (a + (k - c)) else m u k)
def o_copy (v1 v2 v3 v4 v5 : Int32) (A : Ab) : (Int32 × Ab) ⊕ Nat := if rg v1 0 3 && rg v3 0 3 then (if bA A (ix v1) = 0 then .inr 5 else if bA A (ix v3) = 0 then .inr 5 else if bA A (ix v1) = bA A (ix v3) then (if hsN v2 v5 (nA A (ix v1)) && hsN v4 v5 (nA A (ix v3)) then .inl (v5, shA A (bA A) (nA A) (mvd (mA A) (ix v1) (ix v2) (ix v3) (ix v4) (ix v5))) else .inr 0) else .inr 2) else .inr 0
theorem p_cp1 (kk : Nm → Option (Int32 × Nm)) (v3 v4 : Int32) {s a n : Nat} (hs : s < 4) (hz : a + n ≤ 40) : ∀ (m f i : Nat) (M : Nm), i + m = n → m < f → (∀ j, j < i → M.2.1 100 j = M.2.1 99 (40 * s + a + j)) → ∃ M', f_M_copy_L120 kk (nI s) (nI a) v3 v4 (nI n) f (nI i) M = kk M' ∧ M'.1 = M.1 ∧ (∀ c, c ≠ 100 → M'.2.1 c = M.2.1 c) ∧ M'.2.2 = M.2.2 ∧ ∀ j, j < n → M'.2.1 100 j = M.2.1 99 (40 * s + a + j) := by
  intro m
  induction m with
  | zero =>
    intro f i M hi hf h0
    obtain ⟨f, rfl⟩ : ∃ g, f = g + 1 := ⟨f - 1, by omega⟩
    have : i = n := by omega
    subst this
    exact ⟨M, by rw [f_M_copy_L120, if_pos (nI_le (Nat.le_refl _) (by omega))], rfl, fun _ _ => rfl, rfl, h0⟩
  | succ m ih =>
    intro f i M hi hf h0
    obtain ⟨f, rfl⟩ : ∃ g, f = g + 1 := ⟨f - 1, by omega⟩
    obtain ⟨M', e1, e2, e3, e4, e5⟩ := ih f (i + 1) (mL M 100 i (M.2.1 99 (40 * s + a + i))) (by omega) (by omega) (fun j hj => by
      rw [mL_s, mL_o (by decide)]
      by_cases q : j = i
      · rw [if_pos q, q]
      · rw [if_neg q]; exact h0 j (by omega))
    refine ⟨M', ?_, e2, fun c hc => (e3 c hc).trans (mL_o hc), e4, fun j hj => ?_⟩
    · rw [f_M_copy_L120, if_neg (nI_ge (by omega) (by omega)), m40, nI_add, grd_h (inb_nI (by omega) (by decide)), grd_h (inb_nI (by omega) (by decide)), bl_e, ix_nI (by omega), ix_nI (by omega), nI_1]
      exact e1
    · rw [e5 j hj, mL_o (by decide)]
theorem p_cp2 {u c n : Nat} (hs : u < 4) (hz : c + n ≤ 40) : ∀ (m f i : Nat) (M : Nm), i + m = n → m < f → (∀ j, j < i → M.2.1 99 (40 * u + c + j) = M.2.1 100 j) → ∃ M', f_M_copy_L157 (nI u) (nI c) (nI n) f (nI i) M = some (nI n, M') ∧ M'.1 = M.1 ∧ (∀ d, d ≠ 99 → M'.2.1 d = M.2.1 d) ∧ M'.2.2 = M.2.2 ∧ (∀ j, (j < 40 * u + c ∨ 40 * u + c + n ≤ j) → M'.2.1 99 j = M.2.1 99 j) ∧ ∀ j, j < n → M'.2.1 99 (40 * u + c + j) = M.2.1 100 j := by
  intro m
  induction m with
  | zero =>
    intro f i M hi hf h0
    obtain ⟨f, rfl⟩ : ∃ g, f = g + 1 := ⟨f - 1, by omega⟩
    have : i = n := by omega
    subst this
    exact ⟨M, by rw [f_M_copy_L157, if_pos (nI_le (Nat.le_refl _) (by omega))], rfl, fun _ _ => rfl, rfl, fun _ _ => rfl, h0⟩
  | succ m ih =>
    intro f i M hi hf h0
    obtain ⟨f, rfl⟩ : ∃ g, f = g + 1 := ⟨f - 1, by omega⟩
    obtain ⟨M', e1, e2, e3, e4, e5, e6⟩ := ih f (i + 1) (mL M 99 (40 * u + c + i) (M.2.1 100 i)) (by omega) (by omega) (fun j hj => by
      rw [mL_s, mL_o (by decide)]
      by_cases q : j = i
      · rw [if_pos (by omega), q]
      · rw [if_neg (by omega)]; exact h0 j (by omega))
    refine ⟨M', ?_, e2, fun d hd => (e3 d hd).trans (mL_o hd), e4, fun j hj => ?_, fun j hj => ?_⟩
    · rw [f_M_copy_L157, if_neg (nI_ge (by omega) (by omega)), grd_h (inb_nI (by omega) (by decide)), m40, nI_add, grd_h (inb_nI (by omega) (by decide)), bl_e, ix_nI (by omega), ix_nI (by omega), nI_1]
      exact e1
    · rw [e5 j hj, mL_s, if_neg (by omega)]
    · rw [e6 j hj, mL_o (by decide)]
theorem lt32 {x y : Int32} : x < y ↔ x.toInt < y.toInt := Int32.lt_iff_toInt_lt
theorem le32 {x y : Int32} : x ≤ y ↔ x.toInt ≤ y.toInt := Int32.le_iff_toInt_le
theorem q_copy {A : Ab} (hw : WfA A) (v1 v2 v3 v4 v5 : Int32) (M : Nm) (hR : RA M A) : QA id A M (f_M_copy v1 v2 v3 v4 v5 M) (o_copy v1 v2 v3 v4 v5 A) := by
  unfold f_M_copy o_copy
  rw [p_M_isOne, bnd_s]
  by_cases e1 : rg v1 0 3 = true
  · rw [if_neg (bI_t e1), p_M_isOne, bnd_s]
    by_cases e2 : rg v3 0 3 = true
    · obtain ⟨s, s1, s2, s3⟩ := rgN (n := 3) (by decide) e1
      obtain ⟨u, u1, u2, u3⟩ := rgN (n := 3) (by decide) e2
      obtain ⟨g1, g2, g3⟩ := hR.2.2.2.2.2.2 s (by omega)
      obtain ⟨k1, k2, k3⟩ := hR.2.2.2.2.2.2 u (by omega)
      have b1 := bA_lt hw (show s < 4 by omega)
      have b2 := bA_lt hw (show u < 4 by omega)
      have z1 := (hw.2.2.2.2 s (by omega)).2.1
      have z2 := (hw.2.2.2.2 u (by omega)).2.1
      have i1 : inb v1 4 = true := by rw [s2]; exact inb_nI (by omega) (by decide)
      have i3 : inb v3 4 = true := by rw [u2]; exact inb_nI (by omega) (by decide)
      rw [if_neg (bI_t e2), if_pos (show (rg v1 0 3 && rg v3 0 3) = true by simp [e1, e2]), s3, u3, g1, k1, g2, k2, grd_h i1, grd_h i3, grd_h i1, grd_h i3, grd_h i1, grd_h i3]
      by_cases q1 : bA A s = 0
      · rw [if_pos (show nI (bA A s) = 0 by rw [q1]; rfl), if_pos q1]
        exact qa_fd (cv := id) hR (by decide) (by decide)
      rw [if_neg (nI_ne0 (by omega) (by omega)), if_neg q1]
      by_cases q2 : bA A u = 0
      · rw [if_pos (show nI (bA A u) = 0 by rw [q2]; rfl), if_pos q2]
        exact qa_fd (cv := id) hR (by decide) (by decide)
      rw [if_neg (nI_ne0 (by omega) (by omega)), if_neg q2]
      by_cases q3 : bA A s = bA A u
      · rw [if_pos (show nI (bA A s) = nI (bA A u) by rw [q3]), if_pos q3]
        by_cases x2 : v2 < 0
        · have : ¬ 0 ≤ v2.toInt := by have := lt32.mp x2; have e : (0 : Int32).toInt = 0 := rfl; omega
          rw [if_pos x2, if_neg (show ¬ (hsN v2 v5 (nA A s) && hsN v4 v5 (nA A u)) = true by simp [hsN, this])]
          exact qa_fd (cv := id) hR (by decide) (by decide)
        rw [if_neg x2]
        by_cases x4 : v4 < 0
        · have : ¬ 0 ≤ v4.toInt := by have := lt32.mp x4; have e : (0 : Int32).toInt = 0 := rfl; omega
          rw [if_pos x4, if_neg (show ¬ (hsN v2 v5 (nA A s) && hsN v4 v5 (nA A u)) = true by simp [hsN, this])]
          exact qa_fd (cv := id) hR (by decide) (by decide)
        rw [if_neg x4]
        by_cases x5 : v5 < 0
        · have : ¬ 0 ≤ v5.toInt := by have := lt32.mp x5; have e : (0 : Int32).toInt = 0 := rfl; omega
          rw [if_pos x5, if_neg (show ¬ (hsN v2 v5 (nA A s) && hsN v4 v5 (nA A u)) = true by simp [hsN, this])]
          exact qa_fd (cv := id) hR (by decide) (by decide)
        rw [if_neg x5]
        obtain ⟨a, a1, a2⟩ := nI_of x2
        obtain ⟨c, c1, c2⟩ := nI_of x4
        obtain ⟨n, n1, n2⟩ := nI_of x5
        have ta : v2.toInt = a := by rw [a2, nI_toInt a1]
        have tc : v4.toInt = c := by rw [c2, nI_toInt c1]
        have tn5 : v5.toInt = n := by rw [n2, nI_toInt n1]
        by_cases y1 : a + n ≤ nA A s
        · rw [if_neg (show ¬ (nI (nA A s) - v2) < v5 by rw [lt32, a2, sub_tI (by omega) a1, tn5]; omega)]
          by_cases y2 : c + n ≤ nA A u
          · rw [if_pos (show v5 ≤ nI (nA A u) - v4 by rw [le32, c2, sub_tI (by omega) c1, tn5]; omega), if_pos (show (hsN v2 v5 (nA A s) && hsN v4 v5 (nA A u)) = true by simp only [hsN, ta, tc, tn5, Bool.and_eq_true, decide_eq_true_eq]; omega), show ix v2 = a by rw [a2, ix_nI a1], show ix v4 = c by rw [c2, ix_nI c1], show ix v5 = n by rw [n2, ix_nI n1], s2, u2, a2, c2, n2]
            obtain ⟨M1, h1, h2, h3, h4, h5⟩ := p_cp1 (fun M22 => f_M_copy_L157 (nI u) (nI c) (nI n) FU 0 M22) (nI u) (nI c) (s := s) (a := a) (n := n) (by omega) (by omega) n FU 0 M (by omega) (FU_gt (by omega)) (fun j hj => by omega)
            obtain ⟨M2, l1, l2, l3, l4, l5, l6⟩ := p_cp2 (u := u) (c := c) (n := n) (by omega) (by omega) n FU 0 M1 (by omega) (FU_gt (by omega)) (fun j hj => by omega)
            refine ⟨M2, h1.trans l1, ⟨fun d _ => by rw [l2, h2], fun d hd => by rw [l3 d (by omega), h3 d (by omega)], by rw [l4, h4]⟩, RA.s hR (fun d _ _ => by rw [l2, h2]) (fun w hw4 => ?_)⟩
            obtain ⟨r1, r2, r3⟩ := hR.2.2.2.2.2.2 w hw4
            rw [l2, h2]
            refine ⟨r1, r2, fun k hk => ?_⟩
            unfold mvd
            by_cases p : w = u
            · subst p
              rw [un_s]
              by_cases p2 : c ≤ k ∧ k < c + n
              · rw [if_pos p2]
                have := l6 (k - c) (by omega)
                rw [show 40 * w + c + (k - c) = 40 * w + k by omega, h5 (k - c) (by omega), show 40 * s + a + (k - c) = 40 * s + (a + (k - c)) by omega, g3 _ (by omega)] at this
                exact this
              · rw [if_neg p2, l5 _ (by omega), h3 99 (by decide)]
                exact r3 k hk
            · rw [un_n p, l5 _ (by omega), h3 99 (by decide)]
              exact r3 k hk
          · rw [if_neg (show ¬ v5 ≤ nI (nA A u) - v4 by rw [le32, c2, sub_tI (by omega) c1, tn5]; omega), if_neg (show ¬ (hsN v2 v5 (nA A s) && hsN v4 v5 (nA A u)) = true by simp only [hsN, ta, tc, tn5, Bool.and_eq_true, decide_eq_true_eq]; omega)]
            exact qa_fd (cv := id) hR (by decide) (by decide)
        · rw [if_pos (show (nI (nA A s) - v2) < v5 by rw [lt32, a2, sub_tI (by omega) a1, tn5]; omega), if_neg (show ¬ (hsN v2 v5 (nA A s) && hsN v4 v5 (nA A u)) = true by simp only [hsN, ta, tc, tn5, Bool.and_eq_true, decide_eq_true_eq]; omega)]
          exact qa_fd (cv := id) hR (by decide) (by decide)
      · rw [if_neg (show ¬ nI (bA A s) = nI (bA A u) from fun z => q3 ((nI_eq (by omega) (by omega)).mp z)), if_neg q3]
        exact qa_fd (cv := id) hR (by decide) (by decide)
    · rw [if_pos (bI_f (nf e2)), if_neg (show ¬ (rg v1 0 3 && rg v3 0 3) = true by simp [e2])]
      exact qa_fd (cv := id) hR (by decide) (by decide)
  · rw [if_pos (bI_f (nf e1)), if_neg (show ¬ (rg v1 0 3 && rg v3 0 3) = true by simp [e1])]
    exact qa_fd (cv := id) hR (by decide) (by decide)
/-- ink laid out of a sheet -/
def inkL (x : Int64) : Bool := decide (0 ≤ x) && decide (x ≤ 999)
def lyF (m : Nat → Int64) : Nat → Nat → St × Nat → St × Nat
  | 0, _, p => p
  | n + 1, i, p => lyF m n (i + 1) (if inkL (m i) then (upH p.1 i (sik (hS p.1 i) (ix (m i).toInt32)), p.2 + 1) else p)
theorem lyF_s (m : Nat → Int64) (n i : Nat) (p : St × Nat) : lyF m (n + 1) i p = lyF m n (i + 1) (if inkL (m i) then (upH p.1 i (sik (hS p.1 i) (ix (m i).toInt32)), p.2 + 1) else p) := rfl
theorem inkL_of {x : Int64} (h : inkL x = true) : ∃ v, v ≤ 999 ∧ x.toInt32 = nI v ∧ ix x.toInt32 = v := by
  simp only [inkL, Bool.and_eq_true, decide_eq_true_eq] at h
  have h1 : 0 ≤ x.toInt := Int64.le_iff_toInt_le.mp h.1
  have h2 : x.toInt ≤ 999 := Int64.le_iff_toInt_le.mp h.2
  have e : x.toInt32 = nI x.toInt.toNat := by
    apply Int32.toInt_inj.mp
    rw [Int64.toInt_toInt32, nI_toInt (by omega)]
    rw [Int.bmod_eq_of_le (by omega) (by omega)]
    omega
  exact ⟨x.toInt.toNat, by omega, e, by rw [e, ix_nI (by omega)]⟩
def mnN (a b : Nat) : Nat := if a ≤ b then a else b
def o_lays (v1 : Int32) (A : Ab) : (Int32 × Ab) ⊕ Nat := shO v1 A (.inl (nI (lyF (mA A (ix v1)) (mnN (nA A (ix v1)) (nS (tA A))) 0 (tA A, 0)).2, stA A (lyF (mA A (ix v1)) (mnN (nA A (ix v1)) (nS (tA A))) 0 (tA A, 0)).1))
theorem p_lyL (A : Ab) (hw : WfA A) {s : Nat} (hs : s < 4) (M0 : Nm) (hR0 : RA M0 A) : ∀ (n f i : Nat) (p : St × Nat) (M : Nm), Wf p.1 → nS p.1 = nS (tA A) → Sd M0 M → Rw (M.1 87) p.1 → i + n = mnN (nA A s) (nS (tA A)) → n < f → QA id A M0 (f_M_lays_L21 (fun y11 M10 => some (y11, M10)) (nI s) f (nI p.2) (nI i) M) (.inl (nI (lyF (mA A s) n i p).2, stA A (lyF (mA A s) n i p).1)) := by
  have h6 := hw.1.1
  have h40 := (hw.2.2.2.2 s hs).2.1
  obtain ⟨g1, g2, g3⟩ := hR0.2.2.2.2.2.2 s hs
  intro n
  induction n with
  | zero =>
    intro f i p M hwp hn hD hR hi hf
    obtain ⟨f, rfl⟩ : ∃ g, f = g + 1 := ⟨f - 1, by omega⟩
    have e98 : M.1 98 s = nI (nA A s) := by rw [hD.1 98 (by decide) (by decide) (by decide)]; exact g2
    have fin : QA id A M0 (some (nI p.2, M)) (.inl (nI p.2, stA A p.1)) := qa_ok hD.fm.fk (hR0.m hD.fm hD.e91 hR)
    rw [f_M_lays_L21, grd_h (inb_nI hs (by decide)), ix_nI (by omega), e98, g0, ix0, hR.1, hn]
    unfold mnN at hi
    by_cases q : nA A s ≤ i
    · rw [if_pos (nI_le q (by split at hi <;> omega))]
      exact fin
    · rw [if_neg (nI_ge (by omega) (by omega)), if_pos (nI_le (by split at hi <;> omega) (by split at hi <;> omega))]
      exact fin
  | succ n ih =>
    intro f i p M hwp hn hD hR hi hf
    obtain ⟨f, rfl⟩ : ∃ g, f = g + 1 := ⟨f - 1, by omega⟩
    have hlt : i < nA A s ∧ i < nS (tA A) := by unfold mnN at hi; split at hi <;> omega
    have e98 : M.1 98 s = nI (nA A s) := by rw [hD.1 98 (by decide) (by decide) (by decide)]; exact g2
    have e99 : M.2.1 99 (40 * s + i) = mA A s i := by rw [hD.2.1 99 (by decide) (by decide)]; exact g3 i (by omega)
    have r := hR.2.2.2 i (by omega)
    have hx := hwp.2.2 i (by omega)
    rw [f_M_lays_L21, grd_h (inb_nI hs (by decide)), ix_nI (by omega), e98, if_neg (nI_ge hlt.1 (by omega)), g0, ix0, hR.1, hn, if_neg (nI_ge hlt.2 (by omega)), m40, grd_h (inb_nI (by omega) (by decide)), ix_nI (by omega), e99, show f_M_in (mA A s i) 0 999 M = some (bI (inkL (mA A s i)), M) from p_in _ _ _ M, bnd_s, show ∀ M, f_M_spot (nI i) 2 M = some (nI (50 + 21 * i + 2), M) from fun M => p_spot i 2 M, bnd_s, lyF_s]
    by_cases q : inkL (mA A s i) = true
    · obtain ⟨v, w1, w2, w3⟩ := inkL_of q
      rw [if_neg (bI_t q), if_pos q, grd_h (inb_nI (by omega) (by decide)), e99, w3, w2]
      unfold f_M_lays_B102
      rw [grd_h (inb_nI (by omega) (by decide)), bl_e, ix_nI (by omega), if_neg (bI_t q), nI_1, nI_1]
      exact ih f (i + 1) (upH p.1 i (sik (hS p.1 i) v), p.2 + 1) _ (Wf.up hwp (WfH.sik hx w1)) hn (Sd.tr hD Sd.p) (by rw [mI_u]; exact Rw_up hwp hR (by decide) (RwH.sik r v)) (by omega) (by omega)
    · rw [if_pos (bI_f (nf q)), if_neg q, p_its2 (by omega), bnd_s, r.2.2.1]
      unfold f_M_lays_B102
      rw [grd_h (inb_nI (by omega) (by decide)), bl_e, ix_nI (by omega), if_pos (bI_f (nf q)), show nI p.2 + 0 = nI p.2 from nI_add p.2 0, nI_1]
      exact ih f (i + 1) p _ hwp hn (Sd.tr hD Sd.p) (by rw [mI_u, uw_id r.2.2.1]; exact hR) (by omega) (by omega)
theorem q_lays {A : Ab} (hw : WfA A) (v1 : Int32) (M : Nm) (hR : RA M A) : QA id A M (f_M_lays v1 M) (o_lays v1 A) := by
  unfold f_M_lays o_lays
  rw [p_wrong hw v1 M hR, bnd_s]
  refine q_shO (cv := id) v1 hR (fun s hs e1 e2 e3 => ?_)
  rw [e2, e1]
  have h40 := (hw.2.2.2.2 s hs).2.1
  have hm : mnN (nA A s) (nS (tA A)) ≤ 40 := by have := hw.1.1; unfold mnN; split <;> omega
  exact p_lyL A hw hs M hR (mnN (nA A s) (nS (tA A))) FU 0 (tA A, 0) M hw.1 rfl (Sd.rf M) hR.1 (by omega) (FU_gt (by omega))
