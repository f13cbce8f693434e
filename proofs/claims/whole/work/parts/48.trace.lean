/-! the class: a hand -/
def HF (o : Nat) (M : Nm) (x : HS) : Prop := M.2.2 o = kc (kdH x) ∧ M.1 o 1 = nI (atH x) ∧ M.1 o 2 = nI (ikH x) ∧ M.1 o 3 = nI (cnH x) ∧ M.1 o 4 = nI (nsH x) ∧ ∀ i, i < nsH x → M.1 (o + 1) i = nI (wyH x i) ∧ M.1 (o + 2) i = nI (lnH x i)
theorem mL_mL {M : Nm} {c k : Nat} {a b : Int64} : mL (mL M c k a) c k b = mL M c k b := by
  refine Prod.ext rfl (Prod.ext (funext fun d => funext fun j => ?_) rfl)
  by_cases e : d = c
  · subst e
    rw [mL_s, mL_s, mL_s]
    split <;> rfl
  · rw [mL_o e, mL_o e, mL_o e]
def tM (M : Nm) (o : Nat) (s : Int64) (n : Nat) : Nm := mI (mL M o 7 s) o 8 (nI n)
theorem tM_t (M : Nm) (o : Nat) (s s' : Int64) (n n' : Nat) : mI (mL (tM M o s n) o 7 s') o 8 (nI n') = tM M o s' n' := by
  unfold tM
  rw [show mL (mI (mL M o 7 s) o 8 (nI n)) o 7 s' = mI (mL (mL M o 7 s) o 7 s') o 8 (nI n) from rfl, mL_mL, mI_mI]
theorem wk_none {w : Nat} {p : Nat × Int64 × Nat} (h : stp p.1 w = none) : ∀ n, wk w n p = p := by
  intro n
  induction n with
  | zero => rfl
  | succ n ih =>
    have hz : wk w (n + 1) p = wk w n (match stp p.1 w with
      | none => p
      | some d => (d, p.2.1 ||| bit1 d, p.2.2 + 1)) := rfl
    rw [hz, h]
    exact ih
theorem kb_kc : ∀ k, k < 6 → isKb (kc k) = true := by decide
theorem p_tr67 (kk : Int32 → Nm → Option (Unit × Nm)) (o : Nat) (v2 : Int32) {w s : Nat} (hw : w < 4) (hs : s < 100) (M0 : Nm) : ∀ (n f j : Nat) (p : Nat × Int64 × Nat), j + n = s → n < f → p.1 < 48 → f_H_trace_L67 kk kk o v2 (nI w) (nI s) f (nI p.1) (nI j) (tM M0 o p.2.1 p.2.2) = kk (nI (wk w n p).1) (tM M0 o (wk w n p).2.1 (wk w n p).2.2) := by
  intro n
  induction n with
  | zero =>
    intro f j p hj hf hp
    obtain ⟨f, rfl⟩ : ∃ g, f = g + 1 := ⟨f - 1, by omega⟩
    rw [f_H_trace_L67, if_pos (nI_le (by omega) (by omega))]
    rfl
  | succ n ih =>
    intro f j p hj hf hp
    obtain ⟨f, rfl⟩ : ∃ g, f = g + 1 := ⟨f - 1, by omega⟩
    rw [f_H_trace_L67, if_neg (nI_ge (by omega) (by omega)), p_stepFrom hp hw, bnd_s]
    cases e : stp p.1 w with
    | none =>
      rw [stI_neg e, if_neg (by decide), wk_none e]
    | some d =>
      have hd := (stp_lt hp e).1
      have hz : wk w (n + 1) p = wk w n (match stp p.1 w with
        | none => p
        | some d => (d, p.2.1 ||| bit1 d, p.2.2 + 1)) := rfl
      rw [e] at hz
      have e7 : (tM M0 o p.2.1 p.2.2).2.1 o 7 = p.2.1 := by unfold tM; rw [mI_L, mL_s, if_pos rfl]
      have e8 : ∀ x, (mL (tM M0 o p.2.1 p.2.2) o 7 x).1 o 8 = nI p.2.2 := fun x => by unfold tM; rw [mL_I, mI_u, uw_s]
      rw [hz, stI_pos e, if_pos (nI_pos' (by omega)), p_bit, bnd_s, bl_e, bl_e, e7, e8, nI_1, nI_1, tM_t]
      exact ih f (j + 1) (d, p.2.1 ||| bit1 d, p.2.2 + 1) (by omega) (by omega) hd
theorem tM_I {M : Nm} {o : Nat} {s : Int64} {n c : Nat} (h : c ≠ o) : (tM M o s n).1 c = M.1 c := by unfold tM; rw [mI_o h, mL_I]
theorem tM_i {M : Nm} {o : Nat} {s : Int64} {n j : Nat} (h : j ≠ 8) : (tM M o s n).1 o j = M.1 o j := by unfold tM; rw [mI_u, uw_n h, mL_I]
theorem p_tr20 (o : Nat) {x : HS} (hx : WfH x) (M0 : Nm) (hF : HF o M0 x) : ∀ (n f i : Nat) (p : Nat × Int64 × Nat), i + n = nsH x → n < f → p.1 < 48 → lo48 p.2.1 → f_H_trace_L20 (fun M23 => some ((), M23)) o f (nI p.1) (nI i) (tM M0 o p.2.1 p.2.2) = some ((), tM M0 o (trc (kdH x) (wyH x) (lnH x) n i p).2.1 (trc (kdH x) (wyH x) (lnH x) n i p).2.2) := by
  obtain ⟨f1, f2, f3, f4, f5, f6⟩ := hF
  obtain ⟨x1, x2, x3, x4, x5, x6⟩ := hx
  intro n
  induction n with
  | zero =>
    intro f i p hi hf hp hl
    obtain ⟨f, rfl⟩ : ∃ g, f = g + 1 := ⟨f - 1, by omega⟩
    rw [f_H_trace_L20, tM_i (by decide), f5, if_pos (nI_le (by omega) (by omega))]
    rfl
  | succ n ih =>
    intro f i p hi hf hp hl
    obtain ⟨f, rfl⟩ : ∃ g, f = g + 1 := ⟨f - 1, by omega⟩
    obtain ⟨y1, y2, y3⟩ := x6 i (by omega)
    obtain ⟨r1, r2⟩ := f6 i (by omega)
    have hk : (tM M0 o p.2.1 p.2.2).2.2 o = kc (kdH x) := f1
    have hs := sp_le (kdH x) x1 i (by omega) (lnH x i) (by omega)
    rw [f_H_trace_L20, tM_i (by decide), f5, if_neg (nI_ge (by omega) (by omega)), if_neg (show ¬ (8 : Int32) ≤ nI i from nI_ge (b := 8) (by omega) (by decide)), grd_h (inb_nI (by omega) (by decide)), hk, grd_h (kb_kc _ x1), ix_nI (by omega), tM_I (by omega), r1, p_vturns x1 y1, bnd_s, grd_h (inb_nI (by omega) (by decide)), hk, grd_h (kb_kc _ x1), tM_I (by omega), r2, p_vsteps x1 (by omega) (by omega), bnd_s]
    have h67 := p_tr67 (fun y20 M19 => f_H_trace_L20 (fun M23 => some ((), M23)) o f y20 (nI i + 1) M19) o (nI i) (tn_lt _ x1 _ y1) (show sp (kdH x) i (lnH x i) < 100 by omega) M0 (sp (kdH x) i (lnH x i)) FU 0 p (by omega) (FU_gt (by omega)) hp
    refine Eq.trans h67 ?_
    rw [nI_1]
    obtain ⟨z1, z2, z3⟩ := wk_ok (w := tn (kdH x) (wyH x i)) (sp (kdH x) i (lnH x i)) p hp hl
    exact ih f (i + 1) _ (by omega) (by omega) z1 z2
theorem p_trace (o : Nat) {x : HS} (hx : WfH x) (M : Nm) (hF : HF o M x) : f_H_trace o M = some ((), tM M o (pth x) (cst x)) := by
  unfold f_H_trace
  rw [hF.2.1, p_bit, bnd_s, bl_e, bl_e]
  have h := p_tr20 o hx M hF (nsH x) FU 0 (atH x, bit1 (atH x), 0) (by omega) (FU_gt (by have := hx.2.2.2.2.1; omega)) hx.2.1 (lo_bit hx.2.1)
  exact h
