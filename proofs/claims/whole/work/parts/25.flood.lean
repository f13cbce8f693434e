/-! sets that spread until they stand still -/
/-- one set within another -/
def sub (x y : Int64) : Prop := ∀ c, c < 64 → tb x c = true → tb y c = true
theorem sub_rf (x : Int64) : sub x x := fun _ _ h => h
theorem sub_tr {x y z : Int64} (h1 : sub x y) (h2 : sub y z) : sub x z := fun c hc h => h2 c hc (h1 c hc h)
theorem sub_an {x y : Int64} (h1 : sub x y) (h2 : sub y x) : x = y := by
  apply tb_ext
  intro c hc
  cases e : tb x c with
  | true => exact (h1 c hc e).symm
  | false =>
    cases e2 : tb y c with
    | true => rw [h2 c hc e2] at e; cases e
    | false => rfl
theorem or0 (x : Int64) : x ||| 0 = x := by
  apply tb_ext
  intro c _
  rw [tb_or, tb_0, Bool.or_false]
theorem nbB_mono {x y : Int64} (h : sub x y) {c w : Nat} (hc : c < 48) (hb : nbB x c w = true) : nbB y c w = true := by
  unfold nbB at hb ⊢
  cases e : stp c w with
  | none => rw [e] at hb; cases hb
  | some d => rw [e] at hb; exact h d (by have := (stp_lt hc e).1; omega) hb
theorem nbw_mono {x y : Int64} (h : sub x y) {c : Nat} (hc : c < 48) : ∀ n w, nbw x c n w = true → nbw y c n w = true := by
  intro n
  induction n with
  | zero => intro w hb; cases hb
  | succ n ih =>
    intro w hb
    simp only [nbw, Bool.or_eq_true] at hb ⊢
    rcases hb with hb | hb
    · exact Or.inl (nbB_mono h hc hb)
    · exact Or.inr (ih _ hb)
theorem lo48_sub {x y : Int64} (h : sub x y) (hy : lo48 y) : lo48 x := by
  intro c hc
  cases e : tb x c with
  | false => rfl
  | true =>
    rcases Nat.lt_or_ge c 64 with q | q
    · rw [← hy c hc, h c q e]
    · rw [tb_big q] at e; cases e
theorem lo48_ALL (x : Int64) : lo48 (ALL &&& x) := by
  intro c hc
  rw [tb_and]
  rcases Nat.lt_or_ge c 64 with q | q
  · rw [tb_ALL c q]
    have : ¬ c < 48 := by omega
    simp [this]
  · rw [tb_big (x := ALL) q]; rfl
theorem lo48_0 : lo48 0 := fun c _ => tb_0 c
theorem lo48_and {x y : Int64} (h : lo48 x) : lo48 (x &&& y) := fun c hc => by rw [tb_and, h c hc]; rfl
theorem lo48_and2 {x y : Int64} (h : lo48 y) : lo48 (x &&& y) := fun c hc => by rw [tb_and, h c hc]; simp
theorem pc_48 {x : Int64} (h : lo48 x) : pc x ≤ 48 := by
  have e := fb_ct_split (tb x) 48 16
  have e2 : fb_ct (fun k => tb x (48 + k)) 16 = 0 := fb_ct_zero.mpr (fun k _ => h _ (by omega))
  have e3 := fb_ct_le (tb x) 48
  unfold pc
  rw [show (64 : Nat) = 48 + 16 from rfl, e, e2]
  omega
theorem pc_sub {x y : Int64} (h : sub x y) : pc x ≤ pc y := fb_ct_sub (fun k hk => h k hk)
theorem pc_lt {x y : Int64} (h : sub x y) (hne : x ≠ y) : pc x + 1 ≤ pc y := by
  apply Classical.byContradiction
  intro q
  have h1 := pc_sub h
  have he : pc x = pc y := by omega
  apply hne
  apply sub_an h
  intro c hc hy
  apply Classical.byContradiction
  intro hx
  have hx : tb x c = false := by cases e : tb x c with
    | false => rfl
    | true => exact absurd e hx
  -- y without c still holds x
  have h2 := fb_ct_upd (tb y) false (i := c) (n := 64) hc
  have h3 : pc x ≤ fb_ct (fun k => if k = c then false else tb y k) 64 := by
    apply fb_ct_sub
    intro k hk hxk
    by_cases e : k = c
    · rw [e, hx] at hxk; cases hxk
    · simp only [e, if_false]
      exact h k hk hxk
  rw [hy] at h2
  simp only [if_true] at h2
  have e3 : (if false = true then 1 else 0) = 0 := rfl
  rw [e3] at h2
  unfold pc at he h3
  omega
/-- spreading within a set -/
def it (fr : Int64) : Nat → Int64 → Int64
  | 0, o => o
  | n + 1, o => it fr n (nb o &&& fr)
theorem it_s (fr : Int64) : ∀ n o, it fr (n + 1) o = nb (it fr n o) &&& fr := by
  intro n
  induction n with
  | zero => intro o; rfl
  | succ n ih => intro o; exact ih (nb o &&& fr)
theorem it_fix {fr o : Int64} (h : nb o &&& fr = o) : ∀ n, it fr n o = o := by
  intro n
  induction n with
  | zero => rfl
  | succ n ih => show it fr n (nb o &&& fr) = o; rw [h, ih]
theorem sub_nb {o fr : Int64} (ho : sub o fr) (hl : lo48 fr) : sub o (nb o &&& fr) := by
  intro c hc h
  have hlo := lo48_sub ho hl
  rw [tb_and, ho c hc h, Bool.and_true, nb_tb hlo hc, h]
  have : c < 48 := by
    rcases Nat.lt_or_ge c 48 with q | q
    · exact q
    · rw [hlo c q] at h; cases h
  simp [this]
theorem it_sub {o fr : Int64} (ho : sub o fr) (hl : lo48 fr) : ∀ n, sub (it fr n o) fr := by
  intro n
  cases n with
  | zero => exact ho
  | succ n =>
    rw [it_s]
    intro c _ h
    rw [tb_and, Bool.and_eq_true] at h
    exact h.2
theorem it_mono {o fr : Int64} (ho : sub o fr) (hl : lo48 fr) (n : Nat) : sub (it fr n o) (it fr (n + 1) o) := by
  rw [it_s]
  exact sub_nb (it_sub ho hl n) hl
theorem nb_0 : nb 0 = 0 := by decide +kernel
/-- it grows until it stands still -/
theorem it_grow {o fr : Int64} (ho : sub o fr) (hl : lo48 fr) (h0 : o ≠ 0) : ∀ n, (∀ j, j < n → it fr (j + 1) o ≠ it fr j o) → n + 1 ≤ pc (it fr n o) := by
  intro n
  induction n with
  | zero =>
    intro _
    have : pc o ≠ 0 := by
      intro q
      apply h0
      apply tb_ext
      intro c hc
      rw [tb_0]
      exact fb_ct_zero.mp q c hc
    show 0 + 1 ≤ pc o
    omega
  | succ n ih =>
    intro h
    have h1 := ih (fun j hj => h j (by omega))
    have h2 := pc_lt (it_mono ho hl n) (fun q => h n (by omega) q.symm)
    omega
theorem it_still {o fr : Int64} (ho : sub o fr) (hl : lo48 fr) : ∃ j, j < 48 ∧ it fr (j + 1) o = it fr j o := by
  by_cases h0 : o = 0
  · refine ⟨0, by decide, ?_⟩
    show nb o &&& fr = o
    rw [h0, nb_0]
    apply tb_ext
    intro c _
    rw [tb_and, tb_0]
    rfl
  · apply Classical.byContradiction
    intro q
    have h1 := it_grow ho hl h0 48 (fun j hj e => q ⟨j, hj, e⟩)
    have h2 := pc_48 (lo48_sub (it_sub ho hl 48) hl)
    omega
theorem it_from {fr : Int64} (o : Int64) : ∀ m n, it fr (m + n) o = it fr n (it fr m o) := by
  intro m
  induction m generalizing o with
  | zero => intro n; rw [Nat.zero_add]; rfl
  | succ m ih =>
    intro n
    rw [show m + 1 + n = (m + n) + 1 by omega]
    exact ih (nb o &&& fr) n
theorem it_after {o fr : Int64} {j : Nat} (h : it fr (j + 1) o = it fr j o) (n : Nat) : it fr (j + n) o = it fr j o := by
  rw [it_from]
  apply it_fix
  rw [← it_s]
  exact h
theorem it_48 {o fr : Int64} (ho : sub o fr) (hl : lo48 fr) : nb (it fr 48 o) &&& fr = it fr 48 o := by
  obtain ⟨j, hj, h⟩ := it_still ho hl
  have e1 : it fr 48 o = it fr j o := by
    rw [show 48 = j + (48 - j) by omega]
    exact it_after h _
  rw [e1, ← it_s, h]
/-- what lies inside of a line -/
def free (ln : Int64) : Int64 := ALL &&& (ln ^^^ (-1))
def encl (ln : Int64) : Int64 := free ln &&& (it (free ln) 48 (free ln &&& EDG) ^^^ (-1))
theorem lo_free (ln : Int64) : lo48 (free ln) := lo48_ALL _
theorem sub_and (x y : Int64) : sub (x &&& y) x := fun c _ h => by rw [tb_and, Bool.and_eq_true] at h; exact h.1
theorem tb_free {ln : Int64} {c : Nat} (hc : c < 64) : tb (free ln) c = (decide (c < 48) && !tb ln c) := by
  unfold free
  rw [tb_and, tb_ALL c hc, tb_not hc]
theorem lo_encl (ln : Int64) : lo48 (encl ln) := lo48_and (lo_free ln)
theorem p_enclL (k : Int64 → Nm → Option (Int64 × Nm)) (fr : Int64) : ∀ (n f i : Nat) (o : Int64) (M : Nm), i + n = 48 → n < f → f_G_enclosedBy_L20 k fr f o (nI i) M = k (it fr n o) M := by
  intro n
  induction n with
  | zero =>
    intro f i o M hi hf
    obtain ⟨f, rfl⟩ : ∃ g, f = g + 1 := ⟨f - 1, by omega⟩
    have : i = 48 := by omega
    subst this
    rw [f_G_enclosedBy_L20, if_pos (by decide)]
    rfl
  | succ n ih =>
    intro f i o M hi hf
    obtain ⟨f, rfl⟩ : ∃ g, f = g + 1 := ⟨f - 1, by omega⟩
    rw [f_G_enclosedBy_L20, if_neg (show ¬ (48 : Int32) ≤ nI i from nI_ge (b := 48) (by omega) (by decide)), p_withBeside, bnd_s]
    by_cases h : nb o &&& fr = o
    · rw [if_pos (lg0.mpr h), it_fix h]
    · rw [if_neg (fun q => h (lg0.mp q)), nI_1, ih f (i + 1) _ M (by omega) (by omega)]
      rfl
theorem p_enclosedBy (ln : Int64) (M : Nm) : f_G_enclosedBy ln M = some (encl ln, M) := by
  unfold f_G_enclosedBy
  rw [bl_e]
  exact p_enclL _ _ 48 FU 0 _ M rfl (FU_gt (by decide))
/-! the reference's way to what lies inside -/
def sd (ln : Int64) : Nat → Int64
  | 0 => 0
  | i + 1 => if edge i && !tb ln i then sd ln i ||| bit1 i else sd ln i
theorem tb_sd (ln : Int64) : ∀ n c, n ≤ 48 → tb (sd ln n) c = (decide (c < n) && edge c && !tb ln c) := by
  intro n
  induction n with
  | zero => intro c _; show tb 0 c = _; rw [tb_0]; simp
  | succ n ih =>
    intro c hn
    show tb (if edge n && !tb ln n then sd ln n ||| bit1 n else sd ln n) c = _
    by_cases h : (edge n && !tb ln n) = true
    · rw [if_pos h, tb_or, ih c (by omega), tb_bit (by omega)]
      by_cases e : c = n
      · subst e
        have : c < c + 1 := by omega
        simp only [Bool.and_eq_true] at h
        simp [h.1]
        simpa using h.2
      · have e2 : (c < n + 1) ↔ (c < n) := by omega
        simp [e, e2]
    · rw [if_neg h, ih c (by omega)]
      by_cases e : c = n
      · subst e
        have h1 : ¬ c < c := by omega
        have h2 : (edge c && !tb ln c) = false := by cases q : (edge c && !tb ln c) with
          | false => rfl
          | true => exact absurd q h
        have : c < c + 1 := by omega
        simp only [Bool.and_assoc, h2]
        simp
      · have e2 : (c < n + 1) ↔ (c < n) := by omega
        simp [e2]
theorem sd_48 (ln : Int64) : sd ln 48 = free ln &&& EDG := by
  apply tb_ext
  intro c hc
  rw [tb_sd ln 48 c (Nat.le_refl _), tb_and, tb_free hc, tb_EDG c hc]
  cases decide (c < 48) <;> cases edge c <;> cases tb ln c <;> rfl
theorem p_insL5 (k : Int64 → Nm → Option (Int64 × Nm)) (ln : Int64) : ∀ (n f i : Nat) (M : Nm), i + n = 48 → n < f → f_M_insideOf_L5 k ln f (sd ln i) (nI i) M = k (sd ln 48) M := by
  intro n
  induction n with
  | zero =>
    intro f i M hi hf
    obtain ⟨f, rfl⟩ : ∃ g, f = g + 1 := ⟨f - 1, by omega⟩
    have : i = 48 := by omega
    subst this
    rw [f_M_insideOf_L5, if_pos (by decide)]
  | succ n ih =>
    intro f i M hi hf
    obtain ⟨f, rfl⟩ : ∃ g, f = g + 1 := ⟨f - 1, by omega⟩
    rw [f_M_insideOf_L5, if_neg (show ¬ (48 : Int32) ≤ nI i from nI_ge (b := 48) (by omega) (by decide)), p_isEdge (by omega), bnd_s]
    have key := ih f (i + 1) M (by omega) (by omega)
    cases he : edge i with
    | false =>
      rw [if_pos (by decide), or0, nI_1, ← key]
      show _ = f_M_insideOf_L5 k ln f (if edge i && !tb ln i then sd ln i ||| bit1 i else sd ln i) (nI (i + 1)) M
      rw [he]
      rfl
    | true =>
      rw [if_neg (by decide), p_has (by omega), bnd_s]
      cases ht : tb ln i with
      | false =>
        rw [if_pos (by decide), bl_e, nI_1, ← key]
        show _ = f_M_insideOf_L5 k ln f (if edge i && !tb ln i then sd ln i ||| bit1 i else sd ln i) (nI (i + 1)) M
        rw [he, ht]
        rfl
      | true =>
        rw [if_neg (by decide), or0, nI_1, ← key]
        show _ = f_M_insideOf_L5 k ln f (if edge i && !tb ln i then sd ln i ||| bit1 i else sd ln i) (nI (i + 1)) M
        rw [he, ht]
        rfl
theorem stI_neg {c w : Nat} (h : stp c w = none) : stI c w = -1 := by unfold stI; rw [h]
theorem stI_pos {c w d : Nat} (h : stp c w = some d) : stI c w = nI d := by unfold stI; rw [h]
theorem nbB_or {x : Int64} {c w : Nat} (hc : c < 48) : nbB (x ||| bit1 c) c w = nbB x c w := by
  unfold nbB
  cases e : stp c w with
  | none => rfl
  | some d =>
    show tb (x ||| bit1 c) d = tb x d
    rw [tb_or, tb_bit (by omega)]
    simp [(stp_lt hc e).2]
theorem nbw_or {x : Int64} {c : Nat} (hc : c < 48) : ∀ n w, nbw (x ||| bit1 c) c n w = nbw x c n w := by
  intro n
  induction n with
  | zero => intro w; rfl
  | succ n ih => intro w; simp only [nbw, nbB_or hc, ih]
theorem or_or (x y : Int64) : (x ||| y) ||| y = x ||| y := by
  apply tb_ext
  intro c _
  rw [tb_or, tb_or, Bool.or_assoc, Bool.or_self]
theorem p_insL72 (k : Int64 → Nm → Option (Int64 × Nm)) (ln hd : Int64) {c : Nat} (hc : c < 48) (hl : tb ln c = false) : ∀ (n f w : Nat) (o : Int64) (M : Nm), w + n = 4 → n < f → f_M_insideOf_L72 k ln hd (nI c) f o (nI w) M = k (if nbw o c n w then o ||| bit1 c else o) M := by
  intro n
  induction n with
  | zero =>
    intro f w o M hi hf
    obtain ⟨f, rfl⟩ : ∃ g, f = g + 1 := ⟨f - 1, by omega⟩
    have : w = 4 := by omega
    subst this
    rw [f_M_insideOf_L72, if_pos (by decide)]
    rfl
  | succ n ih =>
    intro f w o M hi hf
    obtain ⟨f, rfl⟩ : ∃ g, f = g + 1 := ⟨f - 1, by omega⟩
    rw [f_M_insideOf_L72, if_neg (show ¬ (4 : Int32) ≤ nI w from nI_ge (b := 4) (by omega) (by decide)), p_has (by omega), bnd_s, hl, if_pos (by decide), p_beside hc (by omega), bnd_s]
    have hz : nbw o c (n + 1) w = (nbB o c w || nbw o c n (w + 1)) := rfl
    cases e : stp c w with
    | none =>
      have eb : nbB o c w = false := by unfold nbB; rw [e]
      have hz2 : nbw o c (n + 1) w = nbw o c n (w + 1) := by rw [hz, eb, Bool.false_or]
      rw [stI_neg e, if_pos (by decide), or0, nI_1, ih f (w + 1) o M (by omega) (by omega), hz2]
    | some d =>
      have hd48 := (stp_lt hc e).1
      have eb : nbB o c w = tb o d := by unfold nbB; rw [e]
      rw [stI_pos e, if_neg (nI_pos (by omega)), p_has (by omega), bnd_s]
      cases ht : tb o d with
      | false =>
        have hz2 : nbw o c (n + 1) w = nbw o c n (w + 1) := by rw [hz, eb, ht, Bool.false_or]
        rw [if_pos (by decide), or0, nI_1, ih f (w + 1) o M (by omega) (by omega), hz2]
      | true =>
        have hz2 : nbw o c (n + 1) w = true := by rw [hz, eb, ht, Bool.true_or]
        rw [if_neg (by decide), bl_e, nI_1]
        show f_M_insideOf_L72 k ln hd (nI c) f (o ||| bit1 c) (nI (w + 1)) M = _
        rw [ih f (w + 1) (o ||| bit1 c) M (by omega) (by omega), hz2, if_pos rfl, or_or, ite_self]
/-- one cell is looked at; all are -/
def upd1 (ln o : Int64) (c : Nat) : Int64 := if !tb ln c && nbw o c 4 0 then o ||| bit1 c else o
def swp (ln : Int64) : Nat → Nat → Int64 → Int64
  | 0, _, o => o
  | n + 1, i, o => swp ln n (i + 1) (upd1 ln o i)
theorem p_insL62 (k : Int64 → Nm → Option (Int64 × Nm)) (ln hd : Int64) : ∀ (n f i : Nat) (o : Int64) (M : Nm), i + n = 48 → n < f → f_M_insideOf_L62 k ln hd f o (nI i) M = k (swp ln n i o) M := by
  intro n
  induction n with
  | zero =>
    intro f i o M hi hf
    obtain ⟨f, rfl⟩ : ∃ g, f = g + 1 := ⟨f - 1, by omega⟩
    have : i = 48 := by omega
    subst this
    rw [f_M_insideOf_L62, if_pos (by decide)]
    rfl
  | succ n ih =>
    intro f i o M hi hf
    obtain ⟨f, rfl⟩ : ∃ g, f = g + 1 := ⟨f - 1, by omega⟩
    rw [f_M_insideOf_L62, if_neg (show ¬ (48 : Int32) ≤ nI i from nI_ge (b := 48) (by omega) (by decide))]
    cases hl : tb ln i with
    | false =>
      have h := p_insL72 (fun y M => f_M_insideOf_L62 k ln hd f y (nI i + 1) M) ln hd (c := i) (by omega) hl 4 FU 0 o M rfl (FU_gt (by decide))
      rw [show (0 : Int32) = nI 0 from rfl, h]
      show f_M_insideOf_L62 k ln hd f _ (nI i + 1) M = _
      rw [nI_1, ih f (i + 1) _ M (by omega) (by omega)]
      show _ = k (swp ln n (i + 1) (upd1 ln o i)) M
      unfold upd1
      rw [hl]
      rfl
    | true =>
      have e : FU = 999999 + 1 := rfl
      rw [e, f_M_insideOf_L72, if_neg (by decide), p_has (by omega), bnd_s, hl, if_neg (by decide), nI_1, ih f (i + 1) _ M (by omega) (by omega)]
      show _ = k (swp ln n (i + 1) (upd1 ln o i)) M
      unfold upd1
      rw [hl]
      rfl
theorem upd1_sub (ln o : Int64) {c : Nat} (hc : c < 48) : sub o (upd1 ln o c) := by
  unfold upd1
  intro d _ h
  split
  · rw [tb_or, h]; rfl
  · exact h
theorem swp_sub (ln : Int64) : ∀ n i o, i + n ≤ 48 → sub o (swp ln n i o) := by
  intro n
  induction n with
  | zero => intro i o _; exact sub_rf _
  | succ n ih => intro i o h; exact sub_tr (upd1_sub ln o (by omega)) (ih _ _ (by omega))
/-- closed: no free cell has one beside it in the set and isn't in it itself -/
def Clo (ln x : Int64) : Prop := ∀ c, c < 48 → tb ln c = false → nbw x c 4 0 = true → tb x c = true
theorem swp_still {ln : Int64} : ∀ n i o, i + n ≤ 48 → swp ln n i o = o → ∀ c, i ≤ c → c < i + n → tb ln c = false → nbw o c 4 0 = true → tb o c = true := by
  intro n
  induction n with
  | zero => intro i o _ _ c h1 h2; omega
  | succ n ih =>
    intro i o hi he c h1 h2 hl hn
    have h3 := upd1_sub ln o (c := i) (by omega)
    have h4 := swp_sub ln n (i + 1) (upd1 ln o i) (by omega)
    have he' : swp ln n (i + 1) (upd1 ln o i) = o := he
    rw [he'] at h4
    have e1 : upd1 ln o i = o := sub_an h4 h3
    rw [e1] at he'
    by_cases e : c = i
    · subst e
      unfold upd1 at e1
      rw [hl, hn] at e1
      have e2 : o ||| bit1 c = o := e1
      rw [← e2, tb_or, tb_bit (by omega)]
      simp
    · exact ih (i + 1) o (by omega) he' c (by omega) (by omega) hl hn
theorem upd1_in {ln o x : Int64} (hx : Clo ln x) (ho : sub o x) {c : Nat} (hc : c < 48) : sub (upd1 ln o c) x := by
  unfold upd1
  split
  · rename_i h
    rw [Bool.and_eq_true] at h
    intro d hd h2
    rw [tb_or, Bool.or_eq_true] at h2
    rcases h2 with h2 | h2
    · exact ho d hd h2
    · rw [tb_bit (by omega)] at h2
      have e : d = c := by simpa using h2
      subst e
      exact hx d hc (by simpa using h.1) (nbw_mono ho hc _ _ h.2)
  · exact ho
theorem swp_in {ln x : Int64} (hx : Clo ln x) : ∀ n i o, i + n ≤ 48 → sub o x → sub (swp ln n i o) x := by
  intro n
  induction n with
  | zero => intro i o _ h; exact h
  | succ n ih => intro i o hi h; exact ih _ _ (by omega) (upd1_in hx h (by omega))
theorem upd1_lo {ln o : Int64} (h : lo48 o) {c : Nat} (hc : c < 48) : lo48 (upd1 ln o c) := by
  unfold upd1
  split
  · intro d hd
    rw [tb_or, h d hd, tb_bit (by omega)]
    have : ¬ d = c := by omega
    simp [this]
  · exact h
theorem swp_lo {ln : Int64} : ∀ n i o, i + n ≤ 48 → lo48 o → lo48 (swp ln n i o) := by
  intro n
  induction n with
  | zero => intro i o _ h; exact h
  | succ n ih => intro i o hi h; exact ih _ _ (by omega) (upd1_lo h (by omega))
/-- the loop: it ends with a set that is closed, holds the first one, and lies in every closed one that does -/
theorem p_insL49 (ln : Int64) : ∀ (n f : Nat) (o hd : Int64) (M : Nm), lo48 o → 48 - pc o < n → n < f → (hd = o → swp ln 48 0 o = o) → ∃ r, f_M_insideOf_L49 ln f o hd M = some (free ln &&& (r ^^^ (-1)), M) ∧ sub o r ∧ Clo ln r ∧ ∀ x, Clo ln x → sub o x → sub r x := by
  intro n
  induction n with
  | zero => intro f o hd M _ h; omega
  | succ n ih =>
    intro f o hd M hlo hn hf hst
    obtain ⟨f, rfl⟩ : ∃ g, f = g + 1 := ⟨f - 1, by omega⟩
    by_cases e : hd = o
    · refine ⟨o, ?_, sub_rf _, ?_, fun x _ h => h⟩
      · rw [f_M_insideOf_L49, if_pos (lg0.mpr e)]
        rfl
      · intro c hc hl hb
        exact swp_still 48 0 o (by decide) (hst e) c (Nat.zero_le _) (by omega) hl hb
    · have hs := swp_sub ln 48 0 o (by decide)
      have hl2 := swp_lo (ln := ln) 48 0 o (by decide) hlo
      have key : ∃ r, f_M_insideOf_L49 ln f (swp ln 48 0 o) o M = some (free ln &&& (r ^^^ (-1)), M) ∧ sub (swp ln 48 0 o) r ∧ Clo ln r ∧ ∀ x, Clo ln x → sub (swp ln 48 0 o) x → sub r x := by
        by_cases e2 : o = swp ln 48 0 o
        · obtain ⟨g, rfl⟩ : ∃ g, f = g + 1 := ⟨f - 1, by omega⟩
          rw [← e2]
          refine ⟨o, ?_, sub_rf _, ?_, fun x _ h => h⟩
          · rw [f_M_insideOf_L49, if_pos (lg0.mpr rfl)]
            rfl
          · intro c hc hl hb
            exact swp_still 48 0 o (by decide) e2.symm c (Nat.zero_le _) (by omega) hl hb
        · have h1 := pc_lt hs e2
          have h2 := pc_48 hl2
          exact ih f (swp ln 48 0 o) o M hl2 (by omega) (by omega) (fun q => absurd q e2)
      obtain ⟨r, h1, h2, h3, h4⟩ := key
      refine ⟨r, ?_, sub_tr hs h2, h3, fun x hx h => h4 x hx (swp_in hx _ _ _ (by decide) h)⟩
      rw [f_M_insideOf_L49, if_neg (fun q => e (lg0.mp q))]
      have h5 := p_insL62 (fun y M => f_M_insideOf_L49 ln f y o M) ln o 48 FU 0 o M rfl (FU_gt (by decide))
      rw [show (0 : Int32) = nI 0 from rfl, h5]
      exact h1
theorem clo_it (ln : Int64) : Clo ln (it (free ln) 48 (free ln &&& EDG)) := by
  have h := it_48 (sub_and (free ln) EDG) (lo_free ln)
  have hlo := lo48_sub (it_sub (sub_and (free ln) EDG) (lo_free ln) 48) (lo_free ln)
  intro c hc hl hb
  rw [← h, tb_and, tb_free (by omega), nb_tb hlo (by omega), hb, hl]
  simp [hc]
theorem it_in {ln x : Int64} (hx : Clo ln x) : ∀ n o, sub o x → lo48 o → sub (it (free ln) n o) x := by
  intro n
  induction n with
  | zero => intro o h _; exact h
  | succ n ih =>
    intro o h hlo
    apply ih
    · intro c hc hb
      rw [tb_and, Bool.and_eq_true, nb_tb hlo hc, tb_free hc, Bool.and_eq_true, Bool.and_eq_true, Bool.or_eq_true] at hb
      have h48 : c < 48 := by simpa using hb.1.1
      rcases hb.1.2 with q | q
      · exact h c hc q
      · exact hx c h48 (by simpa using hb.2.2) (nbw_mono h h48 _ _ q)
    · exact lo48_and2 (lo_free ln)
theorem p_insideOf (ln : Int64) (M : Nm) : f_M_insideOf ln M = some (encl ln, M) := by
  unfold f_M_insideOf
  have h5 := p_insL5 (fun y M => f_M_insideOf_L49 ln FU y 0 M) ln 48 FU 0 M rfl (FU_gt (by decide))
  have e0 : sd ln 0 = 0 := rfl
  rw [e0] at h5
  rw [show f_M_insideOf_L5 (fun y7 M6 => f_M_insideOf_L49 ln FU y7 0 M6) ln FU 0 0 M = f_M_insideOf_L49 ln FU (sd ln 48) 0 M from h5, sd_48]
  have hlo : lo48 (free ln &&& EDG) := lo48_and (lo_free ln)
  obtain ⟨r, h1, h2, h3, h4⟩ := p_insL49 ln 49 FU (free ln &&& EDG) 0 M hlo (by omega) (FU_gt (by decide)) (fun e => by
    rw [← e]
    have hz : ∀ n i, i + n ≤ 48 → swp ln n i 0 = 0 := by
      intro n
      induction n with
      | zero => intro i _; rfl
      | succ n ih =>
        intro i hi
        have hb : nbw 0 i 4 0 = false := by
          have : ∀ n w, nbw 0 i n w = false := by
            intro n
            induction n with
            | zero => intro w; rfl
            | succ n ih2 =>
              intro w
              simp only [nbw, ih2, Bool.or_false, nbB]
              cases stp i w with
              | none => rfl
              | some d => exact tb_0 d
          exact this 4 0
        show swp ln n (i + 1) (upd1 ln 0 i) = 0
        have : upd1 ln 0 i = 0 := by unfold upd1; rw [hb]; simp
        rw [this]
        exact ih _ (by omega)
    exact hz 48 0 (by decide))
  have er : r = it (free ln) 48 (free ln &&& EDG) := by
    apply sub_an
    · apply h4 _ (clo_it ln)
      have := it_mono (sub_and (free ln) EDG) (lo_free ln)
      have key : ∀ n, sub (free ln &&& EDG) (it (free ln) n (free ln &&& EDG)) := by
        intro n
        induction n with
        | zero => exact sub_rf _
        | succ n ih => exact sub_tr ih (this n)
      exact key 48
    · exact it_in h3 48 _ h2 hlo
  rw [h1, er]
  rfl
