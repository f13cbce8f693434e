/-! the reference: lines, what is inside, all written -/
def soI (i l k : Int32) : Int32 := if k = 1 then (if 2 ≤ l then l / 2 else 1) else if k = 2 then l + 1 else if k = 3 then (if 1 ≤ (l - (i - i / 2 * 2)) then l - (i - i / 2 * 2) else 1) else if k = 4 then (if i = 0 then (if 2 ≤ l then l / 2 else 1) + 1 else (if 2 ≤ l then l / 2 else 1)) else if k = 5 then l + 1 else l
theorem so_all : ∀ k, k < 6 → ∀ i, i < 8 → ∀ l, l < 8 → soI (nI i) (nI l) (nI k) = nI (sp k i l) := by decide +kernel
theorem p_stepsB {h : Nat} (hh : h < 6) (i l s0 : Int32) (M : Nm) {k : Int32} (e1 : M.1 87 (50 + 21 * h + 0) = k) (hs : s0 = if 2 ≤ l then l / 2 else 1) : f_M_stepsOf_B22 (nI h) i l s0 M = some (soI i l k, M) := by
  unfold f_M_stepsOf_B22
  rw [p_its0 hh, bnd_s, e1]
  unfold soI
  rw [← hs]
  split
  · rfl
  · split
    · rfl
    · split
      · split <;> rfl
      · split
        · split <;> rfl
        · split <;> rfl
theorem p_stepsOf {h i : Nat} (hh : h < 6) (hi : i < 8) (M : Nm) {k l : Nat} (hk : k < 6) (hl : l < 8) (e1 : M.1 87 (50 + 21 * h + 0) = nI k) (e2 : M.1 87 (50 + 21 * h + (13 + i)) = nI l) : f_M_stepsOf (nI h) (nI i) M = some (nI (sp k i l), M) := by
  unfold f_M_stepsOf
  rw [p_its13 hh hi, bnd_s, e2, ← so_all k hk i hi l hl]
  split
  · rename_i h2
    exact p_stepsB hh _ _ _ M e1 (by rw [if_pos h2])
  · rename_i h2
    exact p_stepsB hh _ _ _ M e1 (by rw [if_neg h2])
def coI (k : Int32) : Int32 := if k = 1 then 4 else if k = 2 then 2 else if k = 3 then 3 else if k = 4 then 3 else if k = 5 then 1 else 2
theorem co_all : ∀ k, k < 6 → coI (nI k) = nI (cr k) := by decide +kernel
theorem p_cropOf {h : Nat} (hh : h < 6) (M : Nm) {k : Nat} (hk : k < 6) (e1 : M.1 87 (50 + 21 * h + 0) = nI k) : f_M_cropOf (nI h) M = some (nI (cr k), M) := by
  unfold f_M_cropOf
  rw [p_its0 hh, bnd_s, e1, ← co_all k hk]
  unfold coI
  split
  · rfl
  · split
    · rfl
    · split
      · rfl
      · split
        · rfl
        · split <;> rfl
theorem p_drL49 (kk : Int32 → Int64 → Int32 → Nm → Option (Unit × Nm)) (a1 : Int32) (a2 : Int64) (a8 : Int32) {w : Nat} (hw : w < 4) : ∀ (n f : Nat) (p : Nat × Int64 × Nat) (M : Nm), p.1 < 48 → n < f → n < 100 → f_M_draws_L49 kk a1 a2 a8 (nI w) f (nI p.1) p.2.1 (nI p.2.2) (nI n) M = kk (nI (wk w n p).1) (wk w n p).2.1 (nI (wk w n p).2.2) M := by
  intro n
  induction n with
  | zero =>
    intro f p M hp hf _
    obtain ⟨f, rfl⟩ : ∃ g, f = g + 1 := ⟨f - 1, by omega⟩
    rw [f_M_draws_L49, if_pos (by decide)]
    rfl
  | succ n ih =>
    intro f p M hp hf hn
    obtain ⟨f, rfl⟩ : ∃ g, f = g + 1 := ⟨f - 1, by omega⟩
    rw [f_M_draws_L49, if_neg (nI_nle (by omega) (by omega)), p_beside hp hw, bnd_s, pk_m1]
    have hz : wk w (n + 1) p = wk w n (match stp p.1 w with
      | none => p
      | some d => (d, p.2.1 ||| bit1 d, p.2.2 + 1)) := rfl
    cases e : stp p.1 w with
    | none =>
      rw [e] at hz
      rw [hz, stI_neg e, if_pos (by decide)]
      exact ih f p M hp (by omega) (by omega)
    | some d =>
      rw [e] at hz
      have hd := (stp_lt hp e).1
      rw [hz, stI_pos e, if_neg (nI_pos (by omega)), bl_e, nI_1]
      exact ih f (d, p.2.1 ||| bit1 d, p.2.2 + 1) M hd (by omega) (by omega)
theorem p_drL20 (kk : Int64 → Int32 → Nm → Option (Unit × Nm)) {h : Nat} (hh : h < 6) (a2 : Int64) {x : HS} (hx : WfH x) : ∀ (n f i : Nat) (p : Nat × Int64 × Nat) (M : Nm), RwH (M.1 87) h x → i + n = nsH x → p.1 < 48 → lo48 p.2.1 → n < f → f_M_draws_L20 kk (nI h) a2 f (nI p.1) p.2.1 (nI p.2.2) (nI i) M = kk (trc (kdH x) (wyH x) (lnH x) n i p).2.1 (nI (trc (kdH x) (wyH x) (lnH x) n i p).2.2) M := by
  intro n
  induction n with
  | zero =>
    intro f i p M hR hi hp hl hf
    obtain ⟨f, rfl⟩ : ∃ g, f = g + 1 := ⟨f - 1, by omega⟩
    rw [f_M_draws_L20, p_its4 hh, bnd_s, hR.2.2.2.2.1, if_pos (nI_le (by omega) (by have := hx.2.2.2.2.1; omega))]
    rfl
  | succ n ih =>
    intro f i p M hR hi hp hl hf
    obtain ⟨f, rfl⟩ : ∃ g, f = g + 1 := ⟨f - 1, by omega⟩
    obtain ⟨x1, x2, x3, x4, x5, x6⟩ := id hx
    obtain ⟨y1, y2, y3⟩ := x6 i (by omega)
    obtain ⟨r1, r2⟩ := hR.2.2.2.2.2 i (by omega)
    have hs := sp_le (kdH x) x1 i (by omega) (lnH x i) (by omega)
    rw [f_M_draws_L20, p_its4 hh, bnd_s, hR.2.2.2.2.1, if_neg (nI_ge (by omega) (by omega)), p_turned hh (by omega) M x1 y1 hR.1 r1, bnd_s, p_stepsOf hh (by omega) M x1 (by omega) hR.1 r2, bnd_s, p_drL49 _ _ _ _ (tn_lt _ x1 _ y1) _ FU p M hp (FU_gt (by omega)) (by omega), nI_1]
    obtain ⟨z1, z2, z3⟩ := wk_ok (w := tn (kdH x) (wyH x i)) (sp (kdH x) i (lnH x i)) p hp hl
    exact ih f (i + 1) _ M hR (by omega) z1 z2 (by omega)
theorem p_draws {h : Nat} (hh : h < 6) (sm : Int64) {x : HS} (hx : WfH x) (M : Nm) (hR : RwH (M.1 87) h x) : f_M_draws (nI h) sm M = some ((), mI (mL M 92 h (pth x &&& (sm ^^^ (-1)))) 94 h (nI (cst x))) := by
  unfold f_M_draws
  rw [p_its1 hh, bnd_s, hR.2.1]
  have e := p_drL20 (fun y17 y18 M16 => grd (inb (nI h) 6) <| bl (mL M16 92 (ix (nI h)) (y17 &&& (sm ^^^ (-1)))) fun M19 => grd (inb (nI h) 6) <| bl (mI M19 94 (ix (nI h)) y18) fun M20 => some ((), M20)) hh sm hx (nsH x) FU 0 (atH x, bit1 (atH x), 0) M hR (by omega) hx.2.1 (lo_bit hx.2.1) (FU_gt (by have := hx.2.2.2.2.1; omega))
  refine Eq.trans e ?_
  rw [grd_h (inb_nI hh (by decide)), bl_e, grd_h (inb_nI hh (by decide)), bl_e, ix_nI (by omega)]
  rfl
/-! what is smudged -/
def smn (S : Nat → Int32) : Nat → Int64
  | 0 => 0
  | n + 1 => if S (2 + n) = 1 then smn S n ||| bit1 n else smn S n
theorem tb_smn (S : Nat → Int32) : ∀ n c, n ≤ 48 → tb (smn S n) c = (decide (c < n) && decide (S (2 + c) = 1)) := by
  intro n
  induction n with
  | zero => intro c _; show tb 0 c = _; rw [tb_0]; simp
  | succ n ih =>
    intro c hn
    show tb (if S (2 + n) = 1 then smn S n ||| bit1 n else smn S n) c = _
    by_cases e : c = n
    · subst e
      have h1 : ¬ c < c := by omega
      by_cases h : S (2 + c) = 1
      · rw [if_pos h, tb_or, ih c (by omega), tb_bit (by omega)]
        simp [h]
      · rw [if_neg h, ih c (by omega)]
        simp [h]
    · have e2 : (c < n + 1) ↔ (c < n) := by omega
      by_cases h : S (2 + n) = 1
      · rw [if_pos h, tb_or, ih c (by omega), tb_bit (by omega)]
        simp [e, e2]
      · rw [if_neg h, ih c (by omega)]
        simp [e2]
theorem p_smL : ∀ (n f i : Nat) (M : Nm), i + n = 48 → n < f → f_M_smudges_L4 f (smn (M.1 87) i) (nI i) M = some (smn (M.1 87) 48, M) := by
  intro n
  induction n with
  | zero =>
    intro f i M hi hf
    obtain ⟨f, rfl⟩ : ∃ g, f = g + 1 := ⟨f - 1, by omega⟩
    have : i = 48 := by omega
    subst this
    rw [f_M_smudges_L4, if_pos (by decide)]
  | succ n ih =>
    intro f i M hi hf
    obtain ⟨f, rfl⟩ : ∃ g, f = g + 1 := ⟨f - 1, by omega⟩
    have key := ih f (i + 1) M (by omega) (by omega)
    have e2 : (2 : Int32) + nI i = nI (2 + i) := nI_add 2 i
    rw [f_M_smudges_L4, if_neg (show ¬ (48 : Int32) ≤ nI i from nI_ge (b := 48) (by omega) (by decide)), e2, grd_h (inb_nI (by omega) (by decide)), ix_nI (by omega), nI_1, ← key]
    have hz : smn (M.1 87) (i + 1) = if M.1 87 (2 + i) = 1 then smn (M.1 87) i ||| bit1 i else smn (M.1 87) i := rfl
    rw [hz]
    by_cases h : M.1 87 (2 + i) = 1
    · rw [if_pos h, if_pos h]; rfl
    · rw [if_neg h, if_neg h, or0]
theorem sm_Rw {S : Nat → Int32} {t : St} (hw : Wf t) (hR : Rw S t) : smn S 48 = sS t := by
  apply tb_ext
  intro c hc
  rw [tb_smn S 48 c (Nat.le_refl _)]
  by_cases h : c < 48
  · rw [hR.2.2.1 c h]
    cases tb (sS t) c <;> simp [h, bI]
  · rw [hw.2.1 c (by omega)]
    simp [h]
theorem p_smudges {t : St} (hw : Wf t) (M : Nm) (hR : Rw (M.1 87) t) : f_M_smudges M = some (sS t, M) := by
  have h := p_smL 48 FU 0 M rfl (FU_gt (by decide))
  rw [sm_Rw hw hR] at h
  exact h
/-- only the reference's notes change: lines, insides, costs, owned -/
def Sc (M M' : Nm) : Prop := (∀ c, c ≠ 94 → c ≠ 95 → M'.1 c = M.1 c) ∧ (∀ c, c ≠ 92 → c ≠ 93 → M'.2.1 c = M.2.1 c) ∧ M'.2.2 = M.2.2
theorem Sc.rf (M : Nm) : Sc M M := ⟨fun _ _ _ => rfl, fun _ _ _ => rfl, rfl⟩
theorem Sc.tr {M M1 M2 : Nm} (h1 : Sc M M1) (h2 : Sc M1 M2) : Sc M M2 := ⟨fun c a b => (h2.1 c a b).trans (h1.1 c a b), fun c a b => (h2.2.1 c a b).trans (h1.2.1 c a b), h2.2.2.trans h1.2.2⟩
theorem mI_o {M : Nm} {c k c' : Nat} {v : Int32} (h : c' ≠ c) : (mI M c k v).1 c' = M.1 c' := by simp [mI, va_up, h]
theorem mL_o {M : Nm} {c k c' : Nat} {v : Int64} (h : c' ≠ c) : (mL M c k v).2.1 c' = M.2.1 c' := by simp [mL, va_up, h]
theorem mI_s {M : Nm} {c k : Nat} {v : Int32} (j : Nat) : (mI M c k v).1 c j = if j = k then v else M.1 c j := by simp [mI, va_up]
theorem mL_s {M : Nm} {c k : Nat} {v : Int64} (j : Nat) : (mL M c k v).2.1 c j = if j = k then v else M.2.1 c j := by simp [mL, va_up]
theorem mI_L {M : Nm} {c k : Nat} {v : Int32} : (mI M c k v).2.1 = M.2.1 := rfl
theorem mL_I {M : Nm} {c k : Nat} {v : Int64} : (mL M c k v).1 = M.1 := rfl
theorem Sc.dr {M : Nm} {h : Nat} {a : Int64} {b : Int32} : Sc M (mI (mL M 92 h a) 94 h b) := ⟨fun c h1 _ => by rw [mI_o h1, mL_I], fun c h1 _ => by rw [mI_L, mL_o h1], rfl⟩
theorem Sc.l {M : Nm} {h : Nat} {a : Int64} : Sc M (mL M 93 h a) := ⟨fun c _ _ => rfl, fun c _ h1 => mL_o h1, rfl⟩
/-- what the notes tell of the hands below i -/
def Nt (t : St) (i : Nat) (M : Nm) : Prop := ∀ h, h < i → M.2.1 92 h = lnS t h ∧ M.2.1 93 h = inS t h ∧ M.1 94 h = nI (cst (hS t h))
theorem p_waL {t : St} (hw : Wf t) : ∀ (n f i : Nat) (M : Nm), Rw (M.1 87) t → Nt t i M → i + n = nS t → n < f → ∃ M', f_M_writeAll_L7 (sS t) f (nI i) M = some ((), M') ∧ Sc M M' ∧ Nt t (nS t) M' := by
  intro n
  induction n with
  | zero =>
    intro f i M hR hN hi hf
    obtain ⟨f, rfl⟩ : ∃ g, f = g + 1 := ⟨f - 1, by omega⟩
    have hn := hw.1
    refine ⟨M, ?_, Sc.rf M, by rw [← hi]; exact hN⟩
    rw [f_M_writeAll_L7, grd_h (show inb 0 176 = true from rfl), show ix 0 = 0 from rfl, hR.1, if_pos (nI_le (by omega) (by omega))]
  | succ n ih =>
    intro f i M hR hN hi hf
    obtain ⟨f, rfl⟩ : ∃ g, f = g + 1 := ⟨f - 1, by omega⟩
    have hn := hw.1
    have hx := hw.2.2 i (by omega)
    have hb : inb (nI i) 6 = true := inb_nI (by omega) (by decide)
    rw [f_M_writeAll_L7, grd_h (show inb 0 176 = true from rfl), show ix 0 = 0 from rfl, hR.1, if_neg (nI_ge (by omega) (by omega)), p_draws (by omega) _ hx M (hR.2.2.2 i (by omega)), bnd_s, grd_h hb, p_insideOf, bnd_s, grd_h hb, bl_e, ix_nI (by omega), nI_1]
    have hz : (mI (mL M 92 i (pth (hS t i) &&& (sS t ^^^ (-1)))) 94 i (nI (cst (hS t i)))).2.1 92 i = lnS t i := by rw [mI_L, mL_s, if_pos rfl]; rfl
    rw [hz]
    generalize hM1 : mL (mI (mL M 92 i (pth (hS t i) &&& (sS t ^^^ (-1)))) 94 i (nI (cst (hS t i)))) 93 i (encl (lnS t i)) = M1
    have hs : Sc M M1 := by rw [← hM1]; exact Sc.tr Sc.dr Sc.l
    have h87 : M1.1 87 = M.1 87 := hs.1 87 (by decide) (by decide)
    obtain ⟨M', h1, h2, h3⟩ := ih f (i + 1) M1 (by rw [h87]; exact hR) (fun h hh => by
      by_cases e : h = i
      · subst e
        rw [← hM1]
        refine ⟨?_, ?_, ?_⟩
        · rw [mL_o (by decide)]; exact hz
        · rw [mL_s, if_pos rfl]; rfl
        · rw [mL_I, mI_s, if_pos rfl]
      · obtain ⟨a, b, c⟩ := hN h (by omega)
        rw [← hM1]
        refine ⟨?_, ?_, ?_⟩
        · rw [mL_o (by decide), mI_L, mL_s, if_neg e]; exact a
        · rw [mL_s, if_neg e, mI_L, mL_o (by decide)]; exact b
        · rw [mL_I, mI_s, if_neg e, mL_I]; exact c) (by omega) (by omega)
    exact ⟨M', h1, Sc.tr hs h2, h3⟩
theorem p_writeAll {t : St} (hw : Wf t) (M : Nm) (hR : Rw (M.1 87) t) : ∃ M', f_M_writeAll M = some ((), M') ∧ Sc M M' ∧ Nt t (nS t) M' := by
  unfold f_M_writeAll
  rw [p_smudges hw M hR, bnd_s]
  exact p_waL hw (nS t) FU 0 M hR (fun h hh => by omega) (by omega) (FU_gt (by have := hw.1; omega))
theorem p_writes {t : St} (hw : Wf t) {h : Nat} (hh : h < nS t) (M : Nm) (hR : Rw (M.1 87) t) (hc : M.1 94 h = nI (cst (hS t h))) : f_M_writes (nI h) M = some (bI (wrS t h), M) := by
  unfold f_M_writes
  have hn := hw.1
  have hx := hw.2.2 h hh
  have h1 := (tra_ok hx).2
  have h2 := hx.2.2.1
  rw [p_its2 (by omega), bnd_s, grd_h (inb_nI (by omega) (by decide)), ix_nI (by omega), hc, (hR.2.2.2 h hh).2.2.1]
  by_cases e : cst (hS t h) ≤ ikH (hS t h)
  · rw [if_neg (nI_nlt e (by omega))]
    simp [wrS, e, bI]
  · rw [if_pos (nI_lt (by omega) (by omega))]
    simp [wrS, e, bI]
theorem p_insideMany {t : St} (hw : Wf t) {h : Nat} (hh : h < nS t) (M : Nm) (hR : Rw (M.1 87) t) : ∃ M', f_M_insideMany (nI h) M = some (nI (pc (inS t h)), M') ∧ Sc M M' ∧ M'.2.1 92 h = lnS t h ∧ M'.1 94 h = nI (cst (hS t h)) := by
  unfold f_M_insideMany
  have hn := hw.1
  rw [p_smudges hw M hR, bnd_s, p_draws (by omega) _ (hw.2.2 h hh) M (hR.2.2.2 h hh), bnd_s, grd_h (inb_nI (by omega) (by decide)), p_insideOf, bnd_s, p_ones, bnd_s, ix_nI (by omega)]
  have hz : (mI (mL M 92 h (pth (hS t h) &&& (sS t ^^^ (-1)))) 94 h (nI (cst (hS t h)))).2.1 92 h = lnS t h := by rw [mI_L, mL_s, if_pos rfl]; rfl
  refine ⟨_, ?_, Sc.dr (M := M) (h := h) (a := pth (hS t h) &&& (sS t ^^^ (-1))) (b := nI (cst (hS t h))), hz, ?_⟩
  · rw [hz]; rfl
  · rw [mI_s, if_pos rfl]
