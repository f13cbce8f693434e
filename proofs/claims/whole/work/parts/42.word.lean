/-! the reference: must, words -/
theorem p_must_n {M : Nm} (h : M.1 86 15 = 0) : f_M_must 0 M = some ((), mI M 86 15 1) := by
  unfold f_M_must
  rw [if_pos h, if_pos rfl, grd_h (by decide), bl_e, mI_u, uw_s, if_neg (by decide)]
theorem p_must_w {M : Nm} (h : M.1 86 15 = 1) (v : Int32) : f_M_must v M = some ((), M) := by
  unfold f_M_must
  rw [h, if_neg (by decide), grd_h (by decide), bl_e, mI_id h, h, if_neg (by decide)]
theorem p_must_y {M : Nm} (h : M.1 86 15 = 0) {z : Nat} {p : Nat → Nat} {b : Nat} (hb : b ≤ z) (hT : Tp z p M) (h13 : M.1 86 13 = nI b) : f_M_must 1 M = some ((), tkM M (tkA z p b) (tkB z p (tkA z p b))) := by
  unfold f_M_must
  rw [if_pos h, if_neg (by decide), grd_h (by decide), bl_e, mI_id h, if_pos h, p_token hb M hT h13, bnd_s]
/-- a word's digest, held where it is great -/
def wdN (p : Nat → Nat) (a : Nat) : Nat → Nat
  | 0 => 0
  | n + 1 => if 36028797018963967 < wdN p a n then wdN p a n else 32 * wdN p a n + (p (a + n) - 96)
theorem wdN_s (p : Nat → Nat) (a n : Nat) : wdN p a (n + 1) = if 36028797018963967 < wdN p a n then wdN p a n else 32 * wdN p a n + (p (a + n) - 96) := rfl
def wcN (f : Nat → Nat) : Nat → Nat
  | 0 => 0
  | n + 1 => 32 * wcN f n + (f n - 96)
theorem wcN_s (f : Nat → Nat) (n : Nat) : wcN f (n + 1) = 32 * wcN f n + (f n - 96) := rfl
abbrev ltr (x : Nat) : Prop := 97 ≤ x ∧ x ≤ 122
theorem wdN_le {p : Nat → Nat} {a : Nat} : ∀ n, (∀ i, i < n → ltr (p (a + i))) → wdN p a n < 2 ^ 61 := by
  intro n
  induction n with
  | zero => intro _; show 0 < 2 ^ 61; decide
  | succ n ih =>
    intro h
    have h1 := ih (fun i hi => h i (by omega))
    have h2 := h n (by omega)
    unfold ltr at h2
    rw [wdN_s]
    split
    · exact h1
    · omega
theorem wcN_lt {f : Nat → Nat} : ∀ n, (∀ i, i < n → ltr (f i)) → wcN f n < 32 ^ n := by
  intro n
  induction n with
  | zero => intro _; show 0 < 1; decide
  | succ n ih =>
    intro h
    have h1 := ih (fun i hi => h i (by omega))
    have h2 := h n (by omega)
    unfold ltr at h2
    rw [wcN_s, Nat.pow_succ]
    omega
theorem wd_inj {p f : Nat → Nat} {a : Nat} : ∀ m n, m ≤ 11 → (∀ i, i < m → ltr (f i)) → (∀ i, i < n → ltr (p (a + i))) → (wdN p a n = wcN f m ↔ n = m ∧ ∀ i, i < m → p (a + i) = f i) := by
  intro m
  induction m with
  | zero =>
    intro n _ _ hp
    refine ⟨fun h => ⟨?_, fun i hi => by omega⟩, fun h => by rw [h.1]; rfl⟩
    cases n with
    | zero => rfl
    | succ n =>
      have h2 := hp n (by omega)
      unfold ltr at h2
      have h' : wdN p a (n + 1) = 0 := h
      rw [wdN_s] at h'
      split at h' <;> omega
  | succ m ih =>
    intro n hm hf hp
    have hb := wcN_lt (m + 1) hf
    have hbm := wcN_lt m (fun i hi => hf i (by omega))
    have hpow : 32 ^ (m + 1) ≤ 36028797018963968 := Nat.le_trans (Nat.pow_le_pow_right (by decide) hm) (by decide)
    have hy := hf m (by omega)
    unfold ltr at hy
    cases n with
    | zero =>
      refine ⟨fun h => ?_, fun h => by have := h.1; omega⟩
      have h' : 0 = wcN f (m + 1) := h
      rw [wcN_s] at h'
      omega
    | succ n =>
      have hx := hp n (by omega)
      unfold ltr at hx
      have key := ih n (by omega) (fun i hi => hf i (by omega)) (fun i hi => hp i (by omega))
      rw [wdN_s]
      by_cases c : 36028797018963967 < wdN p a n
      · rw [if_pos c]
        refine ⟨fun h => by omega, fun h => ?_⟩
        have e := key.mpr ⟨by omega, fun i hi => h.2 i (by omega)⟩
        rw [Nat.pow_succ] at hpow
        omega
      · rw [if_neg c, wcN_s]
        refine ⟨fun h => ?_, fun h => ?_⟩
        · have e1 : wdN p a n = wcN f m := by omega
          have e2 : p (a + n) = f m := by omega
          obtain ⟨k1, k2⟩ := key.mp e1
          refine ⟨by omega, fun i hi => ?_⟩
          by_cases q : i = m
          · rw [q]; rw [← k1]; rw [k1]; rw [← e2, k1]
          · exact k2 i (by omega)
        · have e1 := key.mpr ⟨by omega, fun i hi => h.2 i (by omega)⟩
          have e2 := h.2 m (by omega)
          have e3 : n = m := by omega
          rw [e1, e3, e2]
theorem lW_lt {a b : Nat} (ha : a < 2 ^ 63) (hb : b < 2 ^ 63) : lN a < lN b ↔ a < b := by
  rw [Int64.lt_iff_toInt_lt, lN_ti (by omega), lN_ti (by omega), if_pos ha, if_pos hb]
  omega
theorem lW_eq {a b : Nat} (ha : a < 2 ^ 63) (hb : b < 2 ^ 63) : lN a = lN b ↔ a = b := by
  refine ⟨fun h => ?_, fun h => by rw [h]⟩
  have h' := congrArg Int64.toInt h
  rw [lN_ti (by omega), lN_ti (by omega), if_pos ha, if_pos hb] at h'
  omega
theorem p_wd0 {z : Nat} {p : Nat → Nat} {a b : Nat} (hb : b ≤ z) (ha : a ≤ z) (M : Nm) (hT : Tp z p M) (h12 : M.1 86 12 = nI a) (h13 : M.1 86 13 = nI b) (hn : M.1 86 15 = 1 ∨ (M.1 86 15 = 0 ∧ isL z p a = false)) : ∀ (n f i : Nat) (v : Int64), b ≤ i + n → i < 1000 → i + n < 1000 → n < f → f_M_word_L7 f v (nI i) M = some (0, M) := by
  have h0 := hT.1
  intro n
  induction n with
  | zero =>
    intro f i v hi hi2 hi3 hf
    obtain ⟨f, rfl⟩ : ∃ g, f = g + 1 := ⟨f - 1, by omega⟩
    rw [f_M_word_L7, h13, if_pos (nI_le (by omega) (by omega))]
    rcases hn with q | ⟨q, q2⟩
    · rw [q, if_neg (by decide)]
    · rw [q, if_pos rfl, h12, hT.b (by omega), bnd_s, p_isLetter hT.2.1, bnd_s, if_pos (bI_f q2)]
  | succ n ih =>
    intro f i v hi hi2 hi3 hf
    obtain ⟨f, rfl⟩ : ∃ g, f = g + 1 := ⟨f - 1, by omega⟩
    by_cases e : b ≤ i
    · rw [f_M_word_L7, h13, if_pos (nI_le (by omega) (by omega))]
      rcases hn with q | ⟨q, q2⟩
      · rw [q, if_neg (by decide)]
      · rw [q, if_pos rfl, h12, hT.b (by omega), bnd_s, p_isLetter hT.2.1, bnd_s, if_pos (bI_f q2)]
    · rw [f_M_word_L7, h13, if_neg (nI_ge (by omega) (by omega)), grd_h (inb_nI (by omega) (by decide)), bl_e, nI_1]
      rw [ih f (i + 1) _ (by omega) (by omega) (by omega) (by omega), ih f (i + 1) _ (by omega) (by omega) (by omega) (by omega)]
      split <;> rfl
theorem p_wdL {z : Nat} {p : Nat → Nat} {a b : Nat} (hb : b ≤ z) (ha : a ≤ z) (M : Nm) (hT : Tp z p M) (h12 : M.1 86 12 = nI a) (h13 : M.1 86 13 = nI b) (h15 : M.1 86 15 = 0) (hl : isL z p a = true) (hls : ∀ i, i < b - a → ltr (p (a + i))) : ∀ (n f i : Nat), a + i + n = b → n < f → f_M_word_L7 f (lN (wdN p a i)) (nI (a + i)) M = some (lN (wdN p a (b - a)), M) := by
  have h0 := hT.1
  intro n
  induction n with
  | zero =>
    intro f i hi hf
    obtain ⟨f, rfl⟩ : ∃ g, f = g + 1 := ⟨f - 1, by omega⟩
    rw [f_M_word_L7, h13, if_pos (nI_le (by omega) (by omega)), h15, if_pos rfl, h12, hT.b (by omega), bnd_s, p_isLetter hT.2.1, bnd_s, if_neg (bI_t hl), show b - a = i by omega]
  | succ n ih =>
    intro f i hi hf
    obtain ⟨f, rfl⟩ : ∃ g, f = g + 1 := ⟨f - 1, by omega⟩
    have key := ih f (i + 1) (by omega) (by omega)
    have hx := hls i (by omega)
    unfold ltr at hx
    have hv := wdN_le i (fun j hj => hls j (by omega))
    rw [wdN_s] at key
    rw [f_M_word_L7, h13, if_neg (nI_ge (by omega) (by omega)), grd_h (inb_nI (by omega) (by decide)), bl_e, nI_1, ix_nI (by omega), hT.2.2.2 (a + i) (by omega)]
    by_cases c : 36028797018963967 < wdN p a i
    · have c1 : ¬ lg_cmp (lN (wdN p a i)) 36028797018963967 ≤ 0 := by
        intro q
        have : 0 < lg_cmp (lN (wdN p a i)) 36028797018963967 := lgg.mpr ((lW_lt (a := 36028797018963967) (by decide) (by omega)).mpr c)
        exact absurd (Int32.lt_of_lt_of_le this q) Int32.lt_irrefl
      rw [if_neg c1]
      rw [if_pos c] at key
      exact key
    · have c1 : lg_cmp (lN (wdN p a i)) 36028797018963967 ≤ 0 := Int32.not_lt.mp (fun q => c ((lW_lt (a := 36028797018963967) (by decide) (by omega)).mp (lgg.mp q)))
      rw [if_pos c1]
      rw [if_neg c] at key
      have e96 : nI (p (a + i)) - 96 = nI (p (a + i) - 96) := by
        have e : nI (p (a + i)) = nI (p (a + i) - 96) + 96 := by
          rw [show (96 : Int32) = nI 96 from rfl, nI_add]
          congr 1
          omega
        rw [e, Int32.add_sub_cancel]
      have e32 : (32 : Int64) * lN (wdN p a i) + (nI (p (a + i)) - 96).toInt64 = lN (32 * wdN p a i + (p (a + i) - 96)) := by
        rw [e96, nI_l (by omega)]
        show Int64.ofNat 32 * Int64.ofNat _ + Int64.ofNat _ = Int64.ofNat _
        rw [← Int64.ofNat_mul, ← Int64.ofNat_add]
      rw [e32]
      exact key
