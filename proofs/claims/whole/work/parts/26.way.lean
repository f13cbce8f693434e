/-! the fewest steps along a line, both ways -/
def fwd (ln : Int64) (b : Nat) : Nat → Nat → Int64 → Option Nat
  | 0, _, _ => none
  | n + 1, s, o => if tb o b then some s else fwd ln b n (s + 1) (nb o &&& ln)
def fw (ln : Int64) (a b : Nat) : Option Nat := fwd ln b 48 0 (ln &&& bit1 a)
def fwI (ln : Int64) (a b : Nat) : Int32 := match fw ln a b with
  | none => -1
  | some s => nI s
theorem fwd_yes {ln : Int64} {b : Nat} : ∀ (n t s : Nat) (o : Int64), t < n → tb (it ln t o) b = true → (∀ j, j < t → tb (it ln j o) b = false) → fwd ln b n s o = some (s + t) := by
  intro n
  induction n with
  | zero => intro t s o h; omega
  | succ n ih =>
    intro t s o ht h1 h2
    cases t with
    | zero =>
      have h1' : tb o b = true := h1
      rw [fwd, if_pos h1', Nat.add_zero]
    | succ t =>
      have h0 : tb o b = false := h2 0 (by omega)
      rw [fwd, if_neg (by rw [h0]; decide), ih t (s + 1) (nb o &&& ln) (by omega) h1 (fun j hj => h2 (j + 1) (by omega))]
      rw [show s + 1 + t = s + (t + 1) by omega]
theorem fwd_no {ln : Int64} {b : Nat} : ∀ (n s : Nat) (o : Int64), (∀ j, j < n → tb (it ln j o) b = false) → fwd ln b n s o = none := by
  intro n
  induction n with
  | zero => intro s o _; rfl
  | succ n ih =>
    intro s o h
    have h0 : tb o b = false := h 0 (by omega)
    rw [fwd, if_neg (by rw [h0]; decide)]
    exact ih _ _ (fun j hj => h (j + 1) (by omega))
theorem p_fewL {ln : Int64} (hl : lo48 ln) {b : Nat} (hb : b < 48) : ∀ (n f s : Nat) (o : Int64) (M : Nm), s + n = 48 → n < f → sub o ln → f_G_fewestSteps_L19 ln (ln &&& bit1 b) f o (nI s) M = some (match fwd ln b n s o with | none => -1 | some t => nI t, M) := by
  intro n
  induction n with
  | zero =>
    intro f s o M hs hf ho
    obtain ⟨f, rfl⟩ : ∃ g, f = g + 1 := ⟨f - 1, by omega⟩
    have : s = 48 := by omega
    subst this
    rw [f_G_fewestSteps_L19, if_pos (by decide)]
    rfl
  | succ n ih =>
    intro f s o M hs hf ho
    obtain ⟨f, rfl⟩ : ∃ g, f = g + 1 := ⟨f - 1, by omega⟩
    rw [f_G_fewestSteps_L19, if_neg (show ¬ (48 : Int32) ≤ nI s from nI_ge (b := 48) (by omega) (by decide))]
    have hz : (o &&& (ln &&& bit1 b) = 0) ↔ tb o b = false := by
      constructor
      · intro e
        cases h : tb o b with
        | false => rfl
        | true =>
          have : tb (o &&& (ln &&& bit1 b)) b = true := by
            rw [tb_and, tb_and, h, ho b (by omega) h, tb_bit (by omega)]
            simp
          rw [e, tb_0] at this
          cases this
      · intro h
        apply tb_ext
        intro c hc
        rw [tb_and, tb_and, tb_bit (by omega), tb_0]
        by_cases e : c = b
        · rw [e, h]; rfl
        · simp [e]
    cases h : tb o b with
    | false =>
      rw [if_pos (lg0.mpr (hz.mpr h)), p_withBeside, bnd_s, nI_1, ih f (s + 1) _ M (by omega) (by omega) (fun c _ q => by rw [tb_and, Bool.and_eq_true] at q; exact q.2)]
      rw [fwd, if_neg (by rw [h]; decide)]
    | true =>
      rw [if_neg (fun q => by rw [hz.mp (lg0.mp q)] at h; cases h), fwd, if_pos h]
theorem p_fewestSteps {ln : Int64} (hl : lo48 ln) {a b : Nat} (ha : a < 48) (hb : b < 48) (M : Nm) : f_G_fewestSteps ln (nI a) (nI b) M = some (fwI ln a b, M) := by
  unfold f_G_fewestSteps
  rw [p_bit, bnd_s, p_bit, bnd_s]
  exact p_fewL hl hb 48 FU 0 _ M rfl (FU_gt (by decide)) (sub_and _ _)
/-! the reference -/
def anyw (c d : Nat) : Nat → Nat → Bool
  | 0, _ => false
  | n + 1, w => decide (stp c w = some d) || anyw c d n (w + 1)
def adw (ln : Int64) (c : Nat) : Nat → Nat → Int64 → Int64
  | 0, _, s => s
  | n + 1, w, s => adw ln c n (w + 1) (match stp c w with
    | none => s
    | some d => if tb ln d then s ||| bit1 d else s)
theorem tb_adw {ln : Int64} {c : Nat} (hc : c < 48) : ∀ n w s d, tb (adw ln c n w s) d = (tb s d || (tb ln d && anyw c d n w)) := by
  intro n
  induction n with
  | zero => intro w s d; simp [adw, anyw]
  | succ n ih =>
    intro w s d
    simp only [adw, anyw, ih]
    cases e : stp c w with
    | none => simp
    | some z =>
      have hz := (stp_lt hc e).1
      by_cases hl : tb ln z = true
      · simp only [hl, if_true]
        rw [tb_or, tb_bit (by omega)]
        by_cases q : d = z
        · subst q; simp [hl]
        · have q2 : ¬ z = d := fun h => q h.symm
          simp [q, q2]
      · simp only [hl]
        by_cases q : d = z
        · subst q
          have : tb ln d = false := by cases h : tb ln d with
            | false => rfl
            | true => exact absurd h hl
          simp [this]
        · have q2 : ¬ z = d := fun h => q h.symm
          simp [q2]
theorem p_wayL94 (k : Int64 → Nm → Option (Int32 × Nm)) (e9 : Int32) (ln : Int64) (st9 : Int32) (hd : Int64) {c : Nat} (hc : c < 48) (hh : tb hd c = true) : ∀ (n f w : Nat) (s : Int64) (M : Nm), w + n = 4 → n < f → f_M_way_L94 k e9 ln st9 hd (nI c) f s (nI w) M = k (adw ln c n w s) M := by
  intro n
  induction n with
  | zero =>
    intro f w s M hi hf
    obtain ⟨f, rfl⟩ : ∃ g, f = g + 1 := ⟨f - 1, by omega⟩
    have : w = 4 := by omega
    subst this
    rw [f_M_way_L94, if_pos (by decide)]
    rfl
  | succ n ih =>
    intro f w s M hi hf
    obtain ⟨f, rfl⟩ : ∃ g, f = g + 1 := ⟨f - 1, by omega⟩
    rw [f_M_way_L94, if_neg (show ¬ (4 : Int32) ≤ nI w from nI_ge (b := 4) (by omega) (by decide)), p_has (by omega), bnd_s, hh, if_neg (by decide), p_beside hc (by omega), bnd_s]
    have hz : adw ln c (n + 1) w s = adw ln c n (w + 1) (match stp c w with
      | none => s
      | some d => if tb ln d then s ||| bit1 d else s) := rfl
    cases e : stp c w with
    | none =>
      rw [e] at hz
      rw [hz, stI_neg e, if_pos (by decide), or0, nI_1, ih f (w + 1) s M (by omega) (by omega)]
    | some d =>
      rw [e] at hz
      have hd48 := (stp_lt hc e).1
      rw [hz, stI_pos e, if_neg (nI_pos (by omega)), p_has (by omega), bnd_s]
      cases ht : tb ln d with
      | false =>
        rw [if_pos (by decide), or0, nI_1, ih f (w + 1) s M (by omega) (by omega)]
        show _ = k (adw ln c n (w + 1) (if tb ln d = true then s ||| bit1 d else s)) M
        rw [ht, if_neg (by decide)]
      | true =>
        rw [if_neg (by decide), bl_e, nI_1]
        show f_M_way_L94 k e9 ln st9 hd (nI c) f (s ||| bit1 d) (nI (w + 1)) M = k (adw ln c n (w + 1) (if tb ln d = true then s ||| bit1 d else s)) M
        rw [ht, if_pos rfl]
        exact ih f (w + 1) (s ||| bit1 d) M (by omega) (by omega)
def anyc (hd : Int64) (d : Nat) : Nat → Nat → Bool
  | 0, _ => false
  | n + 1, i => (tb hd i && anyw i d 4 0) || anyc hd d n (i + 1)
def swpw (hd ln : Int64) : Nat → Nat → Int64 → Int64
  | 0, _, s => s
  | n + 1, i, s => swpw hd ln n (i + 1) (if tb hd i then adw ln i 4 0 s else s)
theorem tb_swpw {hd ln : Int64} : ∀ n i s d, i + n ≤ 48 → tb (swpw hd ln n i s) d = (tb s d || (tb ln d && anyc hd d n i)) := by
  intro n
  induction n with
  | zero => intro i s d _; simp [swpw, anyc]
  | succ n ih =>
    intro i s d hi
    simp only [swpw, anyc]
    rw [ih _ _ _ (by omega)]
    cases h : tb hd i with
    | false => simp
    | true =>
      simp only [if_true]
      rw [tb_adw (by omega)]
      cases tb s d <;> cases tb ln d <;> simp
theorem p_wayL84 (k : Int64 → Nm → Option (Int32 × Nm)) (e9 : Int32) (ln : Int64) (st9 : Int32) (hd : Int64) : ∀ (n f i : Nat) (s : Int64) (M : Nm), i + n = 48 → n < f → f_M_way_L84 k e9 ln st9 hd f s (nI i) M = k (swpw hd ln n i s) M := by
  intro n
  induction n with
  | zero =>
    intro f i s M hi hf
    obtain ⟨f, rfl⟩ : ∃ g, f = g + 1 := ⟨f - 1, by omega⟩
    have : i = 48 := by omega
    subst this
    rw [f_M_way_L84, if_pos (by decide)]
    rfl
  | succ n ih =>
    intro f i s M hi hf
    obtain ⟨f, rfl⟩ : ∃ g, f = g + 1 := ⟨f - 1, by omega⟩
    rw [f_M_way_L84, if_neg (show ¬ (48 : Int32) ≤ nI i from nI_ge (b := 48) (by omega) (by decide))]
    have hz : swpw hd ln (n + 1) i s = swpw hd ln n (i + 1) (if tb hd i then adw ln i 4 0 s else s) := rfl
    cases hh : tb hd i with
    | true =>
      have h := p_wayL94 (fun y M => f_M_way_L84 k e9 ln st9 hd f y (nI i + 1) M) e9 ln st9 hd (c := i) (by omega) hh 4 FU 0 s M rfl (FU_gt (by decide))
      rw [show (0 : Int32) = nI 0 from rfl, h]
      show f_M_way_L84 k e9 ln st9 hd f _ (nI i + 1) M = _
      rw [nI_1, ih f (i + 1) _ M (by omega) (by omega), hz, hh]
      rfl
    | false =>
      have e : FU = 999999 + 1 := rfl
      rw [e, f_M_way_L94, if_neg (by decide), p_has (by omega), bnd_s, hh, if_pos (by decide), nI_1, ih f (i + 1) _ M (by omega) (by omega), hz, hh]
      rfl
theorem stp_sym : ∀ c, c < 48 → ∀ w, w < 4 → ∀ d, d < 48 → stp c w = some d → stp d ((w + 2) % 4) = some c := by decide +kernel
theorem anyw_iff {c d : Nat} : ∀ n w, anyw c d n w = true ↔ ∃ j, j < n ∧ stp c (w + j) = some d := by
  intro n
  induction n with
  | zero => intro w; constructor
            · intro h; cases h
            · rintro ⟨j, hj, -⟩; omega
  | succ n ih =>
    intro w
    simp only [anyw, Bool.or_eq_true, decide_eq_true_eq, ih]
    constructor
    · rintro (h | ⟨j, hj, h⟩)
      · exact ⟨0, by omega, by simpa using h⟩
      · exact ⟨j + 1, by omega, by rw [← h]; congr 1; omega⟩
    · rintro ⟨j, hj, h⟩
      cases j with
      | zero => exact Or.inl (by simpa using h)
      | succ j => exact Or.inr ⟨j, by omega, by rw [← h]; congr 1; omega⟩
theorem nbw_iff {x : Int64} {d : Nat} : ∀ n w, nbw x d n w = true ↔ ∃ j, j < n ∧ ∃ c, stp d (w + j) = some c ∧ tb x c = true := by
  intro n
  induction n with
  | zero => intro w; constructor
            · intro h; cases h
            · rintro ⟨j, hj, -⟩; omega
  | succ n ih =>
    intro w
    simp only [nbw, Bool.or_eq_true, ih]
    constructor
    · rintro (h | ⟨j, hj, c, h, h2⟩)
      · unfold nbB at h
        cases e : stp d w with
        | none => rw [e] at h; cases h
        | some c => rw [e] at h; exact ⟨0, by omega, c, by simpa using e, h⟩
      · exact ⟨j + 1, by omega, c, by rw [← h]; congr 1; omega, h2⟩
    · rintro ⟨j, hj, c, h, h2⟩
      cases j with
      | zero =>
        left
        unfold nbB
        rw [Nat.add_zero] at h
        rw [h]
        exact h2
      | succ j => exact Or.inr ⟨j, by omega, c, by rw [← h]; congr 1; omega, h2⟩
theorem anyc_iff {x : Int64} {d : Nat} : ∀ n i, anyc x d n i = true ↔ ∃ c, i ≤ c ∧ c < i + n ∧ tb x c = true ∧ anyw c d 4 0 = true := by
  intro n
  induction n with
  | zero => intro i; constructor
            · intro h; cases h
            · rintro ⟨c, h1, h2, -⟩; omega
  | succ n ih =>
    intro i
    simp only [anyc, Bool.or_eq_true, Bool.and_eq_true, ih]
    constructor
    · rintro (⟨h1, h2⟩ | ⟨c, h1, h2, h3⟩)
      · exact ⟨i, by omega, by omega, h1, h2⟩
      · exact ⟨c, by omega, by omega, h3⟩
    · rintro ⟨c, h1, h2, h3, h4⟩
      by_cases e : c = i
      · subst e; exact Or.inl ⟨h3, h4⟩
      · exact Or.inr ⟨c, by omega, by omega, h3, h4⟩
theorem any_nb {x : Int64} {d : Nat} (hd : d < 48) : anyc x d 48 0 = nbw x d 4 0 := by
  have h : anyc x d 48 0 = true ↔ nbw x d 4 0 = true := by
    rw [anyc_iff, nbw_iff]
    constructor
    · rintro ⟨c, -, h2, h3, h4⟩
      obtain ⟨j, hj, h5⟩ := (anyw_iff 4 0).mp h4
      rw [Nat.zero_add] at h5
      exact ⟨(j + 2) % 4, by omega, c, by rw [Nat.zero_add]; exact stp_sym c (by omega) j hj d hd h5, h3⟩
    · rintro ⟨j, hj, c, h1, h2⟩
      rw [Nat.zero_add] at h1
      have hc := (stp_lt hd h1).1
      exact ⟨c, Nat.zero_le _, by omega, h2, (anyw_iff 4 0).mpr ⟨(j + 2) % 4, by omega, by rw [Nat.zero_add]; exact stp_sym d hd j hj c hc h1⟩⟩
  cases e : anyc x d 48 0 with
  | true => exact (h.mp e).symm
  | false =>
    cases e2 : nbw x d 4 0 with
    | true => rw [h.mpr e2] at e; cases e
    | false => rfl
theorem swpw_nb {o ln : Int64} (hl : lo48 ln) (ho : sub o ln) : swpw o ln 48 0 o = nb o &&& ln := by
  apply tb_ext
  intro d hd
  have hlo := lo48_sub ho hl
  rw [tb_swpw 48 0 o d (by decide), tb_and, nb_tb hlo hd]
  rcases Nat.lt_or_ge d 48 with q | q
  · rw [any_nb q]
    cases e : tb o d with
    | true => rw [ho d hd e]; simp [q]
    | false => simp [q, Bool.and_comm]
  · rw [hlo d q, hl d q]; simp
theorem p_wayL60 (k : Int64 → Int32 → Nm → Option (Int32 × Nm)) {ln o : Int64} (hl : lo48 ln) (ho : sub o ln) {b : Nat} (hb : b < 48) : ∀ (n f s : Nat) (hd : Int64) (M : Nm), s + n = 50 → n < f → (∀ j, j < s → tb (it ln j o) b = false) → (s = 0 → hd = 0) → (∀ j, s = j + 1 → hd = it ln j o) → (0 < s → o ≠ 0) → (∀ j, j + 1 < s → it ln (j + 1) o ≠ it ln j o) → s ≤ 48 →
    ∃ t, f_M_way_L60 k (nI b) ln f (it ln s o) (nI s) hd M = k (it ln t o) (nI t) M ∧ (∀ j, j < t → tb (it ln j o) b = false) ∧ ((tb (it ln t o) b = true ∧ t < 48) ∨ ∀ j, tb (it ln j o) b = false) := by
  intro n
  induction n with
  | zero => intro f s hd M h1 h2 h3 h4 h5 h6 h7 h8; omega
  | succ n ih =>
    intro f s hd M hs hf hno h0 h1 hne hst hs48
    obtain ⟨f, rfl⟩ : ∃ g, f = g + 1 := ⟨f - 1, by omega⟩
    rw [f_M_way_L60]
    by_cases e : hd = it ln s o
    · rw [if_pos (lg0.mpr e)]
      refine ⟨s, rfl, hno, ?_⟩
      -- it stands still
      have hall : ∀ j, tb (it ln j o) b = false := by
        cases s with
        | zero =>
          have hz : o = 0 := by rw [← show it ln 0 o = o from rfl, ← e, h0 rfl]
          intro j
          rw [it_fix (by rw [hz, nb_0]; apply tb_ext; intro c _; rw [tb_and, tb_0]; rfl), hz]
          exact tb_0 b
        | succ s =>
          have e2 : it ln (s + 1) o = it ln s o := by rw [← e]; exact h1 s rfl
          intro j
          rcases Nat.lt_or_ge j (s + 1) with q | q
          · exact hno j q
          · rw [show j = s + (j - s) by omega, it_after e2]
            exact hno s (by omega)
      exact Or.inr hall
    · rw [if_neg (fun q => e (lg0.mp q)), p_has (by omega), bnd_s]
      have ho0 : o ≠ 0 := by
        cases s with
        | zero => intro q; apply e; rw [h0 rfl]; exact q.symm
        | succ s => exact hne (by omega)
      have hst2 : ∀ j, j < s → it ln (j + 1) o ≠ it ln j o := by
        intro j hj
        by_cases q : j + 1 < s
        · exact hst j q
        · have : s = j + 1 := by omega
          intro z
          apply e
          rw [h1 j this, this]
          exact z.symm
      have hb48 : s < 48 := by
        have g1 := it_grow ho hl ho0 s hst2
        have g2 := pc_48 (lo48_sub (it_sub ho hl s) hl)
        omega
      cases ht : tb (it ln s o) b with
      | true =>
        rw [if_neg (by decide)]
        exact ⟨s, rfl, hno, Or.inl ⟨ht, hb48⟩⟩
      | false =>
        rw [if_pos (by decide)]
        have h := p_wayL84 (fun y M => f_M_way_L60 k (nI b) ln f y (nI s + 1) (it ln s o) M) (nI b) ln (nI s) (it ln s o) 48 FU 0 (it ln s o) M rfl (FU_gt (by decide))
        rw [show (0 : Int32) = nI 0 from rfl, h]
        show ∃ t, f_M_way_L60 k (nI b) ln f (swpw (it ln s o) ln 48 0 (it ln s o)) (nI s + 1) (it ln s o) M = _ ∧ _
        rw [swpw_nb hl (it_sub ho hl s), ← it_s, nI_1]
        exact ih f (s + 1) (it ln s o) M (by omega) (by omega) (fun j hj => by
          by_cases q : j = s
          · rw [q]; exact ht
          · exact hno j (by omega)) (fun q => by omega) (fun j hj => by rw [show j = s by omega]) (fun _ => ho0) (fun j hj => hst2 j (by omega)) (by omega)
/-- the loop and what comes of it -/
theorem p_way60 (k : Int64 → Int32 → Nm → Option (Int32 × Nm)) {ln : Int64} (hl : lo48 ln) {a b : Nat} (hb : b < 48) (M : Nm) : ∃ x t, f_M_way_L60 k (nI b) ln FU (ln &&& bit1 a) 0 0 M = k x t M ∧ ((∃ s, fw ln a b = some s ∧ t = nI s ∧ tb x b = true) ∨ (fw ln a b = none ∧ tb x b = false)) := by
  obtain ⟨t, h1, h2, h3⟩ := p_wayL60 k hl (sub_and ln (bit1 a)) hb 50 FU 0 0 M rfl (FU_gt (by decide)) (fun j hj => by omega) (fun _ => rfl) (fun j hj => by omega) (fun h => by omega) (fun j hj => by omega) (by decide)
  refine ⟨_, _, h1, ?_⟩
  rcases h3 with ⟨h3, h4⟩ | h3
  · left
    refine ⟨t, ?_, rfl, h3⟩
    have := fwd_yes (ln := ln) (b := b) 48 t 0 (ln &&& bit1 a) h4 h3 h2
    rw [Nat.zero_add] at this
    exact this
  · right
    exact ⟨fwd_no 48 0 _ (fun j _ => h3 j), h3 t⟩
