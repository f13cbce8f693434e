/-! the reference: which word, which number -/
theorem skF_all (q : Nat → Bool) : ∀ n i j, i ≤ j → j < skF q n i → q j = true := by
  intro n
  induction n with
  | zero => intro i j h1 h2; have h2' : j < i := h2; omega
  | succ n ih =>
    intro i j h1 h2
    rw [skF_s] at h2
    by_cases e : q i = true
    · rw [if_pos e] at h2
      by_cases k : j = i
      · rw [k]; exact e
      · exact ih (i + 1) j (by omega) h2
    · rw [if_neg e] at h2; omega
theorem tk_ltr {z : Nat} {p : Nat → Nat} {a : Nat} (h : isL z p a = true) : ∀ i, i < tkB z p a - a → ltr (p (a + i)) := by
  intro i hi
  have q : isL z p (a + i) = true := by
    by_cases e : i = 0
    · rw [e]; exact h
    · unfold tkB at hi
      rw [if_pos h] at hi
      exact skF_all (isL z p) (z - (a + 1)) (a + 1) (a + i) (by omega) (by unfold sk at hi; omega)
  simp [isL] at q
  exact q.2
theorem tk_dig {z : Nat} {p : Nat → Nat} {a : Nat} (h : isD z p a = true) : ∀ i, i < tkB z p a - a → 48 ≤ p (a + i) ∧ p (a + i) ≤ 57 := by
  intro i hi
  have q : isD z p (a + i) = true := by
    by_cases e : i = 0
    · rw [e]; exact h
    · have hl : ¬ isL z p a = true := fun q => by rw [isLD q] at h; exact absurd h (by decide)
      unfold tkB at hi
      rw [if_neg hl, if_pos h] at hi
      exact skF_all (isD z p) (z - (a + 1)) (a + 1) (a + i) (by omega) (by unfold sk at hi; omega)
  simp [isD] at q
  exact q.2
/-- the token from a on is that word -/
def isW (z : Nat) (p : Nat → Nat) (a : Nat) (l : List Nat) : Bool := isL z p a && (decide (tkB z p a = a + l.length) && decide (∀ i, i < l.length → p (a + i) = l.getD i 0))
def wv (z : Nat) (p : Nat → Nat) (a : Nat) : Int64 := if isL z p a then lN (wdN p a (tkB z p a - a)) else 0
/-- the reference looks at the token from a on -/
def Lk (z : Nat) (p : Nat → Nat) (M : Nm) (a : Nat) : Prop := Tp z p M ∧ a ≤ z ∧ M.1 86 12 = nI a ∧ M.1 86 13 = nI (tkB z p a)
theorem p_word {z : Nat} {p : Nat → Nat} {a : Nat} {M : Nm} (hL : Lk z p M a) (h15 : M.1 86 15 = 0) : f_M_word M = some (wv z p a, M) := by
  obtain ⟨hT, ha, h12, h13⟩ := hL
  have h0 := hT.1
  have hb := tkB_le (p := p) ha
  unfold f_M_word wv
  rw [h12]
  by_cases e : isL z p a = true
  · rw [if_pos e]
    exact p_wdL hb.2 ha M hT h12 h13 h15 e (tk_ltr e) (tkB z p a - a) FU 0 (by omega) (FU_gt (by omega))
  · rw [if_neg e]
    exact p_wd0 hb.2 ha M hT h12 h13 (Or.inr ⟨h15, nf e⟩) (tkB z p a - a) FU a 0 (by omega) (by omega) (by omega) (FU_gt (by omega))
theorem p_word_w {z : Nat} {p : Nat → Nat} {a : Nat} {M : Nm} (hL : Lk z p M a) (h15 : M.1 86 15 = 1) : f_M_word M = some (0, M) := by
  obtain ⟨hT, ha, h12, h13⟩ := hL
  have h0 := hT.1
  have hb := tkB_le (p := p) ha
  unfold f_M_word
  rw [h12]
  exact p_wd0 hb.2 ha M hT h12 h13 (Or.inl h15) (tkB z p a - a) FU a 0 (by omega) (by omega) (by omega) (FU_gt (by omega))
theorem wv_W {z : Nat} {p : Nat → Nat} {a : Nat} (ha : a ≤ z) (l : List Nat) {C : Nat} {c : Int64} (hl : ∀ i, i < l.length → ltr (l.getD i 0)) (h11 : l.length ≤ 11) (h0 : 0 < l.length) (hC : wcN (fun i => l.getD i 0) l.length = C) (hc : c = lN C) : lg_cmp (wv z p a) c = 0 ↔ isW z p a l = true := by
  have hb := tkB_le (p := p) ha
  have hlt : C < 2 ^ 55 := by
    have := wcN_lt l.length hl
    have h2 : 32 ^ l.length ≤ 2 ^ 55 := Nat.le_trans (Nat.pow_le_pow_right (by decide) h11) (by decide)
    omega
  rw [lg0, hc]
  unfold wv isW
  by_cases e : isL z p a = true
  · have hd := wdN_le _ (tk_ltr e)
    rw [if_pos e, lW_eq (by omega) (by omega), ← hC, wd_inj _ _ h11 hl (tk_ltr e), e]
    simp only [Bool.true_and, Bool.and_eq_true, decide_eq_true_eq]
    refine ⟨fun h => ⟨by omega, h.2⟩, fun h => ⟨by omega, h.2⟩⟩
  · rw [if_neg e, nf e]
    have hpos : 0 < C := by
      rw [← hC]
      obtain ⟨m, hm⟩ : ∃ m, l.length = m + 1 := ⟨l.length - 1, by omega⟩
      have := hl m (by omega)
      unfold ltr at this
      rw [hm, wcN_s]
      omega
    rw [show (0 : Int64) = lN 0 from rfl, lW_eq (by decide) (by omega)]
    simp
    omega
def kwN (z : Nat) (p : Nat → Nat) (a : Nat) : Option Nat := if isW z p a [104, 97, 110, 100] then some 0 else if isW z p a [109, 105, 115, 101, 114] then some 1 else if isW z p a [100, 117, 107, 101] then some 2 else if isW z p a [115, 104, 97, 107, 121] then some 3 else if isW z p a [104, 101, 105, 114] then some 4 else if isW z p a [108, 101, 102, 116] then some 5 else none
def wwN (z : Nat) (p : Nat → Nat) (a : Nat) : Option Nat := if isW z p a [117, 112] then some 0 else if isW z p a [114, 105, 103, 104, 116] then some 1 else if isW z p a [100, 111, 119, 110] then some 2 else if isW z p a [98, 97, 99, 107] then some 3 else none
theorem ite_iff {α : Type} {P Q : Prop} [Decidable P] [Decidable Q] (h : P ↔ Q) (x y : α) : (if P then x else y) = if Q then x else y := by
  by_cases q : Q
  · rw [if_pos q, if_pos (h.mpr q)]
  · rw [if_neg q, if_neg (fun r => q (h.mp r))]
theorem ltr_l {l : List Nat} (h : ∀ x, x ∈ l → ltr x) : ∀ i, i < l.length → ltr (l.getD i 0) := fun i hi => by
  have e : l.getD i 0 = l[i] := by simp [List.getD, hi]
  rw [e]
  exact h _ (List.getElem_mem hi)
theorem p_kindHere {z : Nat} {p : Nat → Nat} {a : Nat} {M : Nm} (hL : Lk z p M a) (h15 : M.1 86 15 = 0) : f_M_kindHere M = some (oI (kwN z p a), M) := by
  have ha := hL.2.1
  unfold f_M_kindHere kwN
  rw [p_word hL h15, bnd_s]
  rw [ite_iff (wv_W (p := p) ha [104, 97, 110, 100] (C := 263620) (c := 263620) (ltr_l (by decide)) (by decide) (by decide) (by decide) rfl), ite_iff (wv_W (p := p) ha [109, 105, 115, 101, 114] (C := 13946034) (c := 13946034) (ltr_l (by decide)) (by decide) (by decide) (by decide) rfl), ite_iff (wv_W (p := p) ha [100, 117, 107, 101] (C := 152933) (c := 152933) (ltr_l (by decide)) (by decide) (by decide) (by decide) rfl), ite_iff (wv_W (p := p) ha [115, 104, 97, 107, 121] (C := 20186489) (c := 20186489) (ltr_l (by decide)) (by decide) (by decide) (by decide) rfl), ite_iff (wv_W (p := p) ha [104, 101, 105, 114] (C := 267570) (c := 267570) (ltr_l (by decide)) (by decide) (by decide) (by decide) rfl), ite_iff (wv_W (p := p) ha [108, 101, 102, 116] (C := 398548) (c := 398548) (ltr_l (by decide)) (by decide) (by decide) (by decide) rfl)]
  split
  · rfl
  · split
    · rfl
    · split
      · rfl
      · split
        · rfl
        · split
          · rfl
          · split <;> rfl
theorem p_wayHere {z : Nat} {p : Nat → Nat} {a : Nat} {M : Nm} (hL : Lk z p M a) (h15 : M.1 86 15 = 0) : f_M_wayHere M = some (oI (wwN z p a), M) := by
  have ha := hL.2.1
  unfold f_M_wayHere wwN
  rw [p_word hL h15, bnd_s]
  rw [ite_iff (wv_W (p := p) ha [117, 112] (C := 688) (c := 688) (ltr_l (by decide)) (by decide) (by decide) (by decide) rfl), ite_iff (wv_W (p := p) ha [114, 105, 103, 104, 116] (C := 19176724) (c := 19176724) (ltr_l (by decide)) (by decide) (by decide) (by decide) rfl), ite_iff (wv_W (p := p) ha [100, 111, 119, 110] (C := 147182) (c := 147182) (ltr_l (by decide)) (by decide) (by decide) (by decide) rfl), ite_iff (wv_W (p := p) ha [98, 97, 99, 107] (C := 66667) (c := 66667) (ltr_l (by decide)) (by decide) (by decide) (by decide) rfl)]
  split
  · rfl
  · split
    · rfl
    · split
      · rfl
      · split <;> rfl
/-- a number's value, held where it is great -/
def nmN (p : Nat → Nat) (a : Nat) : Nat → Nat
  | 0 => 0
  | n + 1 => if 999 < nmN p a n then nmN p a n else 10 * nmN p a n + (p (a + n) - 48)
theorem nmN_s (p : Nat → Nat) (a n : Nat) : nmN p a (n + 1) = if 999 < nmN p a n then nmN p a n else 10 * nmN p a n + (p (a + n) - 48) := rfl
theorem nmN_le {p : Nat → Nat} {a : Nat} : ∀ n, (∀ i, i < n → p (a + i) ≤ 57) → nmN p a n ≤ 9999 := by
  intro n
  induction n with
  | zero => intro _; exact Nat.zero_le _
  | succ n ih =>
    intro h
    have h1 := ih (fun i hi => h i (by omega))
    have h2 := h n (by omega)
    rw [nmN_s]
    split <;> omega
def nuV (z : Nat) (p : Nat → Nat) (a : Nat) : Nat := if isD z p a then nmN p a (tkB z p a - a) else 0
def nuO (z : Nat) (p : Nat → Nat) (a lo hi : Nat) : Bool := isD z p a && (decide (lo ≤ nuV z p a) && decide (nuV z p a ≤ hi))
theorem p_nuL (kk : Int32 → Nm → Option (Unit × Nm)) (v1 v2 : Int32) {z : Nat} {p : Nat → Nat} {a : Nat} {M : Nm} (hL : Lk z p M a) (hd : isD z p a = true) : ∀ (n f i : Nat), a + i + n = tkB z p a → n < f → f_M_number_L29 kk v1 v2 1 f (nI (nmN p a i)) (nI (a + i)) M = kk (nI (nmN p a (tkB z p a - a))) M := by
  obtain ⟨hT, ha, h12, h13⟩ := hL
  have h0 := hT.1
  have hb := tkB_le (p := p) ha
  have hg := tk_dig hd
  intro n
  induction n with
  | zero =>
    intro f i hi hf
    obtain ⟨f, rfl⟩ : ∃ g, f = g + 1 := ⟨f - 1, by omega⟩
    rw [f_M_number_L29, h13, if_pos (nI_le (by omega) (by omega)), show tkB z p a - a = i by omega]
  | succ n ih =>
    intro f i hi hf
    obtain ⟨f, rfl⟩ : ∃ g, f = g + 1 := ⟨f - 1, by omega⟩
    have key := ih f (i + 1) (by omega) (by omega)
    have hx := hg i (by omega)
    have hv := nmN_le (p := p) (a := a) i (fun j hj => (hg j (by omega)).2)
    rw [nmN_s] at key
    rw [f_M_number_L29, h13, if_neg (nI_ge (by omega) (by omega)), if_neg (by decide), grd_h (inb_nI (by omega) (by decide)), bl_e, nI_1, ix_nI (by omega), hT.2.2.2 (a + i) (by omega)]
    by_cases c : 999 < nmN p a i
    · rw [if_neg (show ¬ nI (nmN p a i) ≤ (999 : Int32) from nI_ge (a := 999) c (by omega))]
      rw [if_pos c] at key
      exact key
    · rw [if_pos (show nI (nmN p a i) ≤ (999 : Int32) from nI_le (b := 999) (by omega) (by decide))]
      rw [if_neg c] at key
      have e : (10 : Int32) * nI (nmN p a i) + nI (p (a + i)) - 48 = nI (10 * nmN p a i + (p (a + i) - 48)) := by
        rw [show (10 : Int32) * nI (nmN p a i) = nI (10 * nmN p a i) from pk_mul 10 _, nI_add]
        have e2 : nI (10 * nmN p a i + p (a + i)) = nI (10 * nmN p a i + (p (a + i) - 48)) + 48 := by
          rw [show (48 : Int32) = nI 48 from rfl, nI_add]
          congr 1
          omega
        rw [e2, Int32.add_sub_cancel]
      rw [e]
      exact key
