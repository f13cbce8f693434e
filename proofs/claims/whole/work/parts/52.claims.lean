/-! the class: claims -/
theorem LandR.i {d : Nat} {M M' : Nm} {t : St} (h : LandR d M t) {i : Nat} (hf : Fi (ho d i) M M') (hr : HR (ho d i) M' (hS t i)) : LandR d M' t := by
  obtain ⟨a, b, c, e, f⟩ := h
  obtain ⟨f1, f2, f3, f4⟩ := hf
  refine ⟨by rw [f3 d (by unfold ho; omega)]; exact a, by rw [f1]; exact b, by rw [f1]; exact c, fun k hk => ?_, fun k hk => ?_⟩
  · by_cases q : k = i
    · rw [q]; exact hr
    · exact (e k hk).f (fun _ _ _ => by rw [f1]) (f3 _ (by unfold ho; omega)) (by rw [f2])
  · by_cases q : k = i
    · rw [q]; exact hr.2.2.2
    · rw [f3 _ (by unfold ho; omega)]; exact f k hk
/-- only a land's longs change -/
def Fl (d : Nat) (M M' : Nm) : Prop := M'.1 = M.1 ∧ M'.2.2 = M.2.2 ∧ ∀ c, (c < d ∨ d + 21 ≤ c) → M'.2.1 c = M.2.1 c
theorem Fl.rf (d : Nat) (M : Nm) : Fl d M M := ⟨rfl, rfl, fun _ _ => rfl⟩
theorem Fl.tr {d : Nat} {M M1 M2 : Nm} (h1 : Fl d M M1) (h2 : Fl d M1 M2) : Fl d M M2 := ⟨h2.1.trans h1.1, h2.2.1.trans h1.2.1, fun c h => (h2.2.2 c h).trans (h1.2.2 c h)⟩
theorem Fi.fl {d i : Nat} (hi : i < 6) {M M' : Nm} (h : Fi (ho d i) M M') : Fl d M M' := ⟨h.1, h.2.1, fun c hc => h.2.2.1 c (by unfold ho; omega)⟩
def cl (t : St) (h : Nat) : Int64 := if wrS t h then inS t h else 0
theorem tb_cl (t : St) (h c : Nat) : tb (cl t h) c = wi t h c := by
  unfold cl wi
  cases wrS t h with
  | true => rfl
  | false => exact tb_0 c
theorem LandR.c {d : Nat} {M : Nm} {t : St} (hn : nS t ≤ 6) (h : LandR d M t) {j : Nat} {v : Int64} : LandR d (mL M (d + 20) j v) t :=
  h.f hn (fun _ _ _ => rfl) (fun c _ h2 => mL_o (by omega)) rfl
theorem Fl.c {d : Nat} {M : Nm} {j : Nat} {v : Int64} : Fl d M (mL M (d + 20) j v) := ⟨rfl, rfl, fun c h => mL_o (by omega)⟩
theorem p_skL (d : Nat) {t : St} (hw : Wf t) : ∀ (n f i : Nat) (M : Nm), LandR d M t → (∀ h, h < i → M.2.1 (d + 20) h = cl t h) → i + n = nS t → n < f → ∃ M', f_L_stakeClaims_L2 d f (nI i) M = some ((), M') ∧ Fl d M M' ∧ LandR d M' t ∧ ∀ h, h < nS t → M'.2.1 (d + 20) h = cl t h := by
  have h6 := hw.1
  intro n
  induction n with
  | zero =>
    intro f i M h hc hi hf
    obtain ⟨f, rfl⟩ : ∃ g, f = g + 1 := ⟨f - 1, by omega⟩
    exact ⟨M, by rw [f_L_stakeClaims_L2, h.2.2.1, if_pos (nI_le (by omega) (by omega))], Fl.rf d M, h, fun k hk => hc k (by omega)⟩
  | succ n ih =>
    intro f i M h hc hi hf
    obtain ⟨f, rfl⟩ : ∃ g, f = g + 1 := ⟨f - 1, by omega⟩
    have hr := h.2.2.2.1 i (by omega)
    have hx := hw.2.2 i (by omega)
    rw [f_L_stakeClaims_L2, h.2.2.1, if_neg (nI_ge (by omega) (by omega)), grd_h (inb_nI (by omega) (by decide)), hnd_o (by omega), p_Hwrites hx hr, bnd_s]
    have hwr : decide (cst (hS t i) ≤ ikH (hS t i)) = wrS t i := rfl
    rw [hwr]
    by_cases e : wrS t i = true
    · obtain ⟨M1, a1, a2, a3⟩ := p_insideUnder hr (sS t)
      have hL1 := h.i a2 a3
      have hcl : encl (pth (hS t i) &&& (sS t ^^^ (-1))) = cl t i := by unfold cl; rw [if_pos e]; rfl
      rw [if_neg (bI_t e), grd_h (inb_nI (by omega) (by decide)), h.1, a1, bnd_s, grd_h (inb_nI (by omega) (by decide)), bl_e, ix_nI (by omega), nI_1, hcl]
      obtain ⟨M', b1, b2, b3, b4⟩ := ih f (i + 1) (mL M1 (d + 20) i (cl t i)) (hL1.c h6) (fun k hk => by
        rw [mL_s]
        by_cases q : k = i
        · rw [if_pos q, q]
        · rw [if_neg q, a2.2.2.1 _ (by unfold ho; omega)]; exact hc k (by omega)) (by omega) (by omega)
      exact ⟨M', b1, Fl.tr (a2.fl (by omega)) (Fl.tr Fl.c b2), b3, b4⟩
    · have hcl : (0 : Int64) = cl t i := by unfold cl; rw [if_neg e]
      rw [if_pos (bI_f (nf e)), grd_h (inb_nI (by omega) (by decide)), bl_e, ix_nI (by omega), nI_1, hcl]
      obtain ⟨M', b1, b2, b3, b4⟩ := ih f (i + 1) (mL M (d + 20) i (cl t i)) (h.c h6) (fun k hk => by
        rw [mL_s]
        by_cases q : k = i
        · rw [if_pos q, q]
        · rw [if_neg q]; exact hc k (by omega)) (by omega) (by omega)
      exact ⟨M', b1, Fl.tr Fl.c b2, b3, b4⟩
theorem p_stakeClaims {d : Nat} {t : St} (hw : Wf t) {M : Nm} (h : LandR d M t) : ∃ M', f_L_stakeClaims d M = some ((), M') ∧ Fl d M M' ∧ LandR d M' t ∧ ∀ h, h < nS t → M'.2.1 (d + 20) h = cl t h :=
  p_skL d hw (nS t) FU 0 M h (fun k hk => by omega) (by omega) (FU_gt (by have := hw.1; omega))
