/-! the reference: a token -/
theorem mI_id {M : Nm} {c k : Nat} {v : Int32} (h : M.1 c k = v) : mI M c k v = M := by
  refine Prod.ext (funext fun d => ?_) rfl
  by_cases e : d = c
  · subst e; rw [mI_u, uw_id h]
  · rw [mI_o e]
theorem mI_mI {M : Nm} {c k : Nat} {a b : Int32} : mI (mI M c k a) c k b = mI M c k b := by
  refine Prod.ext (funext fun d => ?_) rfl
  by_cases e : d = c
  · subst e; rw [mI_u, mI_u, mI_u, uw_uw]
  · rw [mI_o e, mI_o e, mI_o e]
/-- the tape's bytes -/
def Tp (z : Nat) (p : Nat → Nat) (M : Nm) : Prop := z ≤ 120 ∧ (∀ i, i < z → p i < 256) ∧ M.1 86 11 = nI z ∧ ∀ i, i < z → M.1 96 i = nI (p i)
theorem Tp.i {z : Nat} {p : Nat → Nat} {M : Nm} (h : Tp z p M) {j : Nat} {v : Int32} (hj : j ≠ 11) : Tp z p (mI M 86 j v) := ⟨h.1, h.2.1, by rw [mI_u, uw_n (by omega)]; exact h.2.2.1, fun i hi => by rw [mI_o (by decide)]; exact h.2.2.2 i hi⟩
theorem Tp.b {z : Nat} {p : Nat → Nat} {M : Nm} (h : Tp z p M) {i : Nat} (hi : i < 1000) : f_M_byteAt (nI i) M = some (chI z p i, M) := p_byteAt h.1 hi M h.2.2.1 h.2.2.2
def tkA (z : Nat) (p : Nat → Nat) (b : Nat) : Nat := sk z (isS z p) b
def tkB (z : Nat) (p : Nat → Nat) (a : Nat) : Nat := if isL z p a then sk z (isL z p) (a + 1) else if isD z p a then sk z (isD z p) (a + 1) else if a < z then a + 1 else a
theorem isL_z {z : Nat} {p : Nat → Nat} {i : Nat} (h : isL z p i = true) : i < z := by simp [isL] at h; exact h.1
theorem isD_z {z : Nat} {p : Nat → Nat} {i : Nat} (h : isD z p i = true) : i < z := by simp [isD] at h; exact h.1
theorem isS_z {z : Nat} {p : Nat → Nat} {i : Nat} (h : isS z p i = true) : i < z := by simp [isS] at h; exact h.1
theorem isLD {z : Nat} {p : Nat → Nat} {i : Nat} (h : isL z p i = true) : isD z p i = false := by
  simp [isL] at h
  simp [isD]
  omega
theorem p_tk8 (kk : Nm → Option (Unit × Nm)) {z : Nat} {p : Nat → Nat} : ∀ (n f i : Nat) (M : Nm), Tp z p M → M.1 86 12 = nI i → i + n = z → n < f → f_M_token_L8 kk f M = kk (mI M 86 12 (nI (sk z (isS z p) i))) := by
  intro n
  induction n with
  | zero =>
    intro f i M hT h12 hi hf
    obtain ⟨f, rfl⟩ : ∃ g, f = g + 1 := ⟨f - 1, by omega⟩
    have h0 := hT.1
    have hs : isS z p i = false := nf (fun q => by have := isS_z q; omega)
    rw [f_M_token_L8, h12, hT.b (by omega), bnd_s, if_neg (fun q => by rw [(chI_32 hT.2.1 i).mp q] at hs; exact absurd hs (by decide)), sk_n hs, mI_id h12]
  | succ n ih =>
    intro f i M hT h12 hi hf
    obtain ⟨f, rfl⟩ : ∃ g, f = g + 1 := ⟨f - 1, by omega⟩
    have h0 := hT.1
    by_cases q : isS z p i = true
    · have key := ih f (i + 1) (mI M 86 12 (nI (i + 1))) (hT.i (by decide)) (by rw [mI_u, uw_s]) (by omega) (by omega)
      rw [mI_mI] at key
      rw [f_M_token_L8, h12, hT.b (by omega), bnd_s, if_pos ((chI_32 hT.2.1 i).mpr q), bl_e, h12, nI_1, sk_y (by omega) q]
      exact key
    · rw [f_M_token_L8, h12, hT.b (by omega), bnd_s, if_neg (fun y => q ((chI_32 hT.2.1 i).mp y)), sk_n (nf q), mI_id h12]
theorem p_tkW (kk : Nm → Option (Unit × Nm)) {z : Nat} {p : Nat → Nat} : ∀ (n f i : Nat) (M : Nm), Tp z p M → M.1 86 13 = nI i → i + n = z → n < f → f_M_token_L86 kk 1 0 f M = kk (mI M 86 13 (nI (sk z (isL z p) i))) := by
  intro n
  induction n with
  | zero =>
    intro f i M hT h13 hi hf
    obtain ⟨f, rfl⟩ : ∃ g, f = g + 1 := ⟨f - 1, by omega⟩
    have h0 := hT.1
    have hs : isL z p i = false := nf (fun q => by have := isL_z q; omega)
    rw [f_M_token_L86, if_neg (by decide), h13, hT.b (by omega), bnd_s, p_isLetter hT.2.1, bnd_s, if_pos (bI_f hs), if_pos rfl, sk_n hs, mI_id h13]
  | succ n ih =>
    intro f i M hT h13 hi hf
    obtain ⟨f, rfl⟩ : ∃ g, f = g + 1 := ⟨f - 1, by omega⟩
    have h0 := hT.1
    by_cases q : isL z p i = true
    · have key := ih f (i + 1) (mI M 86 13 (nI (i + 1))) (hT.i (by decide)) (by rw [mI_u, uw_s]) (by omega) (by omega)
      rw [mI_mI] at key
      rw [f_M_token_L86, if_neg (by decide), h13, hT.b (by omega), bnd_s, p_isLetter hT.2.1, bnd_s, if_neg (bI_t q), bl_e, h13, nI_1, sk_y (by omega) q]
      exact key
    · rw [f_M_token_L86, if_neg (by decide), h13, hT.b (by omega), bnd_s, p_isLetter hT.2.1, bnd_s, if_pos (bI_f (nf q)), if_pos rfl, sk_n (nf q), mI_id h13]
theorem p_tkD (kk : Nm → Option (Unit × Nm)) {z : Nat} {p : Nat → Nat} : ∀ (n f i : Nat) (M : Nm), Tp z p M → M.1 86 13 = nI i → i + n = z → n < f → f_M_token_L86 kk 0 1 f M = kk (mI M 86 13 (nI (sk z (isD z p) i))) := by
  intro n
  induction n with
  | zero =>
    intro f i M hT h13 hi hf
    obtain ⟨f, rfl⟩ : ∃ g, f = g + 1 := ⟨f - 1, by omega⟩
    have h0 := hT.1
    have hs : isD z p i = false := nf (fun q => by have := isD_z q; omega)
    rw [f_M_token_L86, if_pos rfl, if_neg (by decide), h13, hT.b (by omega), bnd_s, p_isDigit hT.2.1, bnd_s, if_pos (bI_f hs), sk_n hs, mI_id h13]
  | succ n ih =>
    intro f i M hT h13 hi hf
    obtain ⟨f, rfl⟩ : ∃ g, f = g + 1 := ⟨f - 1, by omega⟩
    have h0 := hT.1
    by_cases q : isD z p i = true
    · have key := ih f (i + 1) (mI M 86 13 (nI (i + 1))) (hT.i (by decide)) (by rw [mI_u, uw_s]) (by omega) (by omega)
      rw [mI_mI] at key
      rw [f_M_token_L86, if_pos rfl, if_neg (by decide), h13, hT.b (by omega), bnd_s, p_isDigit hT.2.1, bnd_s, if_neg (bI_t q), bl_e, h13, nI_1, sk_y (by omega) q]
      exact key
    · rw [f_M_token_L86, if_pos rfl, if_neg (by decide), h13, hT.b (by omega), bnd_s, p_isDigit hT.2.1, bnd_s, if_pos (bI_f (nf q)), sk_n (nf q), mI_id h13]
theorem tkA_le {z : Nat} {p : Nat → Nat} {b : Nat} (h : b ≤ z) : b ≤ tkA z p b ∧ tkA z p b ≤ z := sk_le h
theorem tkB_le {z : Nat} {p : Nat → Nat} {a : Nat} (h : a ≤ z) : a ≤ tkB z p a ∧ tkB z p a ≤ z := by
  unfold tkB
  split
  · rename_i q
    have := isL_z q
    have := sk_le (q := isL z p) (show a + 1 ≤ z by omega)
    omega
  · split
    · rename_i q
      have := isD_z q
      have := sk_le (q := isD z p) (show a + 1 ≤ z by omega)
      omega
    · split <;> omega
/-- the token from b on is looked at -/
def tkM (M : Nm) (a b : Nat) : Nm := mI (mI M 86 12 (nI a)) 86 13 (nI b)
theorem p_token {z : Nat} {p : Nat → Nat} {b : Nat} (hb : b ≤ z) (M : Nm) (hT : Tp z p M) (h13 : M.1 86 13 = nI b) : f_M_token M = some ((), tkM M (tkA z p b) (tkB z p (tkA z p b))) := by
  have h0 := hT.1
  have hA := tkA_le (p := p) hb
  unfold f_M_token
  rw [bl_e, h13]
  have hT1 : Tp z p (mI M 86 12 (nI b)) := hT.i (by decide)
  have h8 := p_tk8 (fun M5 => bnd (f_M_byteAt (M5.1 86 12) M5) fun r6 M7 => bnd (f_M_isLetter r6 M7) fun r8 M9 => bnd (f_M_byteAt (M9.1 86 12) M9) fun r10 M11 => bnd (f_M_isDigit r10 M11) fun r12 M13 => if (M13.1 86 11) ≤ (M13.1 86 12) then (bl (mI M13 86 13 (M13.1 86 12)) fun M14 => f_M_token_L86 (fun M30 => some ((), M30)) r8 r12 FU M14) else (bl (mI M13 86 13 ((M13.1 86 12) + 1)) fun M31 => f_M_token_L86 (fun M32 => some ((), M32)) r8 r12 FU M31)) (z - b) FU b (mI M 86 12 (nI b)) hT1 (by rw [mI_u, uw_s]) (by omega) (FU_gt (by omega))
  refine h8.trans ?_
  rw [mI_mI, show sk z (isS z p) b = tkA z p b from rfl]
  generalize hae : tkA z p b = a at hA ⊢
  have hT2 : Tp z p (mI M 86 12 (nI a)) := hT.i (by decide)
  have e12 : (mI M 86 12 (nI a)).1 86 12 = nI a := by rw [mI_u, uw_s]
  rw [e12, hT2.b (by omega), bnd_s, p_isLetter hT2.2.1, bnd_s, e12, hT2.b (by omega), bnd_s, p_isDigit hT2.2.1, bnd_s, e12, hT2.2.2.1, bl_e, bl_e, nI_1]
  unfold tkM tkB
  by_cases q1 : isL z p a = true
  · have hz := isL_z q1
    rw [if_neg (nI_ge hz (by omega)), if_pos q1, q1, isLD q1, show bI true = 1 from rfl, show bI false = 0 from rfl]
    have := p_tkW (fun M32 => some ((), M32)) (z - (a + 1)) FU (a + 1) (mI (mI M 86 12 (nI a)) 86 13 (nI (a + 1))) (hT2.i (by decide)) (by rw [mI_u, uw_s]) (by omega) (FU_gt (by omega))
    rw [mI_mI] at this
    exact this
  · rw [if_neg q1, nf q1, show bI false = 0 from rfl]
    by_cases q2 : isD z p a = true
    · have hz := isD_z q2
      rw [if_neg (nI_ge hz (by omega)), if_pos q2, q2, show bI true = 1 from rfl]
      have := p_tkD (fun M32 => some ((), M32)) (z - (a + 1)) FU (a + 1) (mI (mI M 86 12 (nI a)) 86 13 (nI (a + 1))) (hT2.i (by decide)) (by rw [mI_u, uw_s]) (by omega) (FU_gt (by omega))
      rw [mI_mI] at this
      exact this
    · rw [if_neg q2, nf q2, show bI false = 0 from rfl]
      have h86 : ∀ M : Nm, f_M_token_L86 (fun M32 => some ((), M32)) 0 0 FU M = some ((), M) := by
        intro M
        show f_M_token_L86 (fun M32 => some ((), M32)) 0 0 (999999 + 1) M = some ((), M)
        rw [f_M_token_L86, if_pos rfl, if_pos rfl]
      rw [h86, h86]
      by_cases q3 : a < z
      · rw [if_neg (nI_ge q3 (by omega)), if_pos q3]
      · rw [if_pos (nI_le (by omega) (by omega)), if_neg q3]
