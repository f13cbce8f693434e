/-! what a call does to a state: an answer and a state, or a finding; the reference does it -/
def fW (i : Nat) : Int32 := -1000000001 - nI i
def Fm (M M' : Nm) : Prop := (∀ c, c ≠ 87 → c ≠ 90 → c ≠ 91 → c ≠ 94 → c ≠ 95 → M'.1 c = M.1 c) ∧ (∀ c, c ≠ 92 → c ≠ 93 → M'.2.1 c = M.2.1 c) ∧ M'.2.2 = M.2.2
theorem Fm.rf (M : Nm) : Fm M M := ⟨fun _ _ _ _ _ _ => rfl, fun _ _ _ => rfl, rfl⟩
theorem Fm.tr {M M1 M2 : Nm} (h1 : Fm M M1) (h2 : Fm M1 M2) : Fm M M2 := ⟨fun c a b d e f => (h2.1 c a b d e f).trans (h1.1 c a b d e f), fun c a b => (h2.2.1 c a b).trans (h1.2.1 c a b), h2.2.2.trans h1.2.2⟩
theorem Sd.fm {M M' : Nm} (h : Sd M M') : Fm M M' := ⟨fun c a _ _ d e => h.1 c a d e, h.2.1, h.2.2⟩
theorem Sc.fm {M M' : Nm} (h : Sc M M') : Fm M M' := h.sd.fm
theorem Fm.f {M : Nm} {j : Nat} {v : Int32} : Fm M (mI M 91 j v) := ⟨fun c _ _ h _ _ => mI_o h, fun c _ _ => rfl, rfl⟩
theorem Fm.a {M : Nm} {j : Nat} {v : Int32} : Fm M (mI M 90 j v) := ⟨fun c _ h _ _ _ => mI_o h, fun c _ _ => rfl, rfl⟩
theorem Sd.e91 {M M' : Nm} (h : Sd M M') : M'.1 91 = M.1 91 := h.1 91 (by decide) (by decide) (by decide)
theorem Sc.e91 {M M' : Nm} (h : Sc M M') : M'.1 91 = M.1 91 := h.1 91 (by decide) (by decide)
theorem Sc.e87 {M M' : Nm} (h : Sc M M') : M'.1 87 = M.1 87 := h.1 87 (by decide) (by decide)
def QM {α : Type} (cv : Int32 → α) (t : St) (M : Nm) (r : Option (α × Nm)) : (α × St) ⊕ Nat → Prop
  | .inl (a, t') => ∃ M', r = some (a, M') ∧ Fm M M' ∧ Rw (M'.1 87) t' ∧ M'.1 91 = M.1 91
  | .inr i => ∃ M', r = some (cv (fW i), M') ∧ Fm M M' ∧ Rw (M'.1 87) t ∧ M'.1 91 = uw (M.1 91) i (M.1 91 i + 1)
theorem q_ok {α : Type} {cv : Int32 → α} {t t' : St} {M M1 : Nm} {a : α} (h1 : Fm M M1) (h2 : M1.1 91 = M.1 91) (h3 : Rw (M1.1 87) t') : QM cv t M (some (a, M1)) (.inl (a, t')) := ⟨M1, rfl, h1, h3, h2⟩
theorem fW_sub : ∀ i, i < 7 → (-1000000001) - fW i = nI i := by decide +kernel
theorem q_fd {α : Type} {cv : Int32 → α} {t : St} {M M1 : Nm} {i : Nat} (hi : i < 7) {v : Int32} (hv : v = fW i) (h1 : Fm M M1) (h2 : M1.1 91 = M.1 91) (h3 : Rw (M1.1 87) t) : QM cv t M (bnd (f_M_finds v M1) fun r3 M4 => some (cv r3, M4)) (.inr i) := by
  subst hv
  rw [p_finds hi (fW_sub i hi), bnd_s]
  refine ⟨_, rfl, Fm.tr h1 Fm.f, ?_, ?_⟩
  · rw [mI_o (by decide)]; exact h3
  · rw [mI_u, h2]
theorem q_f0 {α : Type} {cv : Int32 → α} {t : St} {M : Nm} (h3 : Rw (M.1 87) t) : QM cv t M (bnd (f_M_finds (-1000000001) M) fun r3 M4 => some (cv r3, M4)) (.inr 0) := q_fd (by decide) (by decide) (Fm.rf M) rfl h3
/-- there is such a hand, such a stroke -/
def hn (v : Int32) (t : St) : Bool := decide (0 ≤ v.toInt) && decide (v.toInt < nS t)
theorem hn_of {v : Int32} {t : St} (h : hn v t = true) : ∃ j, j < nS t ∧ v = nI j ∧ ix v = j := by
  simp only [hn, Bool.and_eq_true, decide_eq_true_eq] at h
  obtain ⟨h1, h2⟩ := h
  have hr := fb_rng v
  refine ⟨v.toInt.toNat, by omega, ?_, ?_⟩
  · apply Int32.toInt_inj.mp
    rw [nI_toInt (by omega)]
    omega
  · rfl
theorem hn_nI {j : Nat} {t : St} (hj : j < 2 ^ 31) : hn (nI j) t = decide (j < nS t) := by
  unfold hn
  rw [nI_toInt hj]
  simp
theorem p_isHand {t : St} (hw : Wf t) (v : Int32) (M : Nm) (hR : M.1 87 0 = nI (nS t)) : f_M_isHand v M = some (bI (hn v t), M) := by
  have h6 := hw.1
  unfold f_M_isHand
  have e : nI (nS t) - 1 = Int32.ofInt ((nS t : Int) - 1) := by
    rw [show (1 : Int32) = nI 1 from rfl]
    apply Int32.toInt_inj.mp
    have : nS t = 0 ∨ nS t = 1 ∨ nS t = 2 ∨ nS t = 3 ∨ nS t = 4 ∨ nS t = 5 ∨ nS t = 6 := by omega
    rcases this with q | q | q | q | q | q | q <;> rw [q] <;> decide
  have e2 : (nI (nS t) - 1).toInt = (nS t : Int) - 1 := by
    have : nS t = 0 ∨ nS t = 1 ∨ nS t = 2 ∨ nS t = 3 ∨ nS t = 4 ∨ nS t = 5 ∨ nS t = 6 := by omega
    rcases this with q | q | q | q | q | q | q <;> rw [q] <;> decide
  rw [g0, ix0, hR, show (0 : Int64) = (0 : Int32).toInt64 from rfl, p_inI, bnd_s, grd_h (bI_g _), e2]
  congr 3
  unfold rg hn
  have : (v.toInt ≤ (nS t : Int) - 1) = (v.toInt < nS t) := propext (by omega)
  simp only [this]
  rfl
def hsn (v i : Int32) (t : St) : Bool := hn v t && (decide (0 ≤ i.toInt) && decide (i.toInt < nsH (hS t (ix v))))
theorem p_isStroke {t : St} (hw : Wf t) (v i : Int32) (M : Nm) (hR : Rw (M.1 87) t) : f_M_isStroke v i M = some (bI (hsn v i t), M) := by
  have h6 := hw.1
  unfold f_M_isStroke
  rw [p_isHand hw v M hR.1, bnd_s]
  by_cases e : hn v t = true
  · obtain ⟨h, h1, h2, h3⟩ := hn_of e
    have hx := (hw.2.2 h h1).2.2.2.2.1
    have e2 : (nI (nsH (hS t h)) - 1).toInt = (nsH (hS t h) : Int) - 1 := by
      generalize nsH (hS t h) = k at hx
      have : k = 0 ∨ k = 1 ∨ k = 2 ∨ k = 3 ∨ k = 4 ∨ k = 5 ∨ k = 6 ∨ k = 7 ∨ k = 8 := by omega
      rcases this with q | q | q | q | q | q | q | q | q <;> rw [q] <;> decide
    have e3 : hsn v i t = rg i 0 ((nsH (hS t h) : Int) - 1) := by
      unfold hsn rg
      rw [e, h3]
      have : (i.toInt ≤ (nsH (hS t h) : Int) - 1) = (i.toInt < nsH (hS t h)) := propext (by omega)
      simp only [this, Bool.true_and]
    rw [if_neg (bI_t e), h2, p_its4 (by omega), bnd_s, (hR.2.2.2 h h1).2.2.2.2.1, show (0 : Int64) = (0 : Int32).toInt64 from rfl, p_inI, bnd_s, e2, ← h2, e3]
    show (if bI (rg i 0 ((nsH (hS t h) : Int) - 1)) = 0 then _ else _) = _
    cases rg i 0 ((nsH (hS t h) : Int) - 1) <;> rfl
  · have e2 : hn v t = false := by simpa using e
    rw [if_pos (bI_f e2)]
    unfold hsn
    rw [e2]
    rfl
theorem hsn_of {v i : Int32} {t : St} (h : hsn v i t = true) : ∃ j k, j < nS t ∧ v = nI j ∧ ix v = j ∧ k < nsH (hS t j) ∧ i = nI k ∧ ix i = k := by
  unfold hsn at h
  rw [Bool.and_eq_true] at h
  obtain ⟨j, h1, h2, h3⟩ := hn_of h.1
  have h4 := h.2
  rw [h3] at h4
  simp only [Bool.and_eq_true, decide_eq_true_eq] at h4
  have hr := fb_rng i
  refine ⟨j, i.toInt.toNat, h1, h2, h3, by omega, ?_, rfl⟩
  apply Int32.toInt_inj.mp
  rw [nI_toInt (by omega)]
  omega
/-! the calls -/
def smS (t : St) (c : Nat) (b : Bool) : St := (nS t, yS t, (if b then sS t ||| bit1 c else sS t &&& (bit1 c ^^^ (-1))), hS t)
theorem tb_smS {t : St} {c : Nat} (hc : c < 48) (b : Bool) {d : Nat} (hd : d < 64) : tb (sS (smS t c b)) d = if d = c then b else tb (sS t) d := by
  show tb (if b then sS t ||| bit1 c else sS t &&& (bit1 c ^^^ (-1))) d = _
  cases b with
  | true =>
    rw [if_pos rfl, tb_or, tb_bit (by omega)]
    by_cases e : d = c
    · simp [e]
    · simp [e]
  | false =>
    rw [if_neg (by decide), tb_and, tb_not hd, tb_bit (by omega)]
    by_cases e : d = c
    · simp [e]
    · simp [e]
theorem wf_smS {t : St} (hw : Wf t) {c : Nat} (hc : c < 48) (b : Bool) : Wf (smS t c b) := ⟨hw.1, fun d hd => by
  by_cases h : d < 64
  · rw [tb_smS hc b h, if_neg (by omega)]; exact hw.2.1 d hd
  · exact tb_big (by omega), hw.2.2⟩
theorem Rw_sm {S : Nat → Int32} {t : St} (hw : Wf t) (hR : Rw S t) {c : Nat} (hc : c < 48) (b : Bool) : Rw (uw S (2 + c) (bI b)) (smS t c b) := by
  refine ⟨?_, ?_, fun d hd => ?_, fun h hh => ?_⟩
  · rw [uw_n (by omega)]; exact hR.1
  · rw [uw_n (by omega)]; exact hR.2.1
  · rw [tb_smS hc b (by omega)]
    by_cases e : d = c
    · rw [e, uw_s, if_pos rfl]
    · rw [uw_n (by omega), if_neg e]; exact hR.2.2.1 d hd
  · exact RwH_f (hR.2.2.2 h hh) (hw.2.2 h hh).2.2.2.2.1 (fun j h1 h2 => uw_n (by omega))
def o_smudge (v1 v2 : Int32) (t : St) : (Int32 × St) ⊕ Nat := if rg v1 0 47 && rg v2 0 1 then .inl (bI (tb (sS t) (ix v1)), smS t (ix v1) (decide (v2 = 1))) else .inr 0
theorem rg47 {v : Int32} (h : rg v 0 47 = true) : ∃ c, c < 48 ∧ v = nI c ∧ ix v = c := by
  obtain ⟨c, h1, h2⟩ := rg_nI (n := 47) h
  exact ⟨c, by omega, h2, by rw [h2, ix_nI (by omega)]⟩
theorem rgN {v : Int32} {n : Nat} (hn : n < 2 ^ 31) (h : rg v 0 n = true) : ∃ c, c ≤ n ∧ v = nI c ∧ ix v = c := by
  obtain ⟨c, h1, h2⟩ := rg_nI h
  exact ⟨c, h1, h2, by rw [h2, ix_nI (by omega)]⟩
theorem q_smudge {t : St} (hw : Wf t) (v1 v2 : Int32) (M : Nm) (hR : Rw (M.1 87) t) : QM id t M (f_M_smudge v1 v2 M) (o_smudge v1 v2 t) := by
  unfold f_M_smudge o_smudge
  rw [p_M_isCell, bnd_s]
  by_cases e1 : rg v1 0 47 = true
  · rw [if_neg (bI_t e1), show (0 : Int64) = (0 : Int32).toInt64 from rfl, show (1 : Int64) = (1 : Int32).toInt64 from rfl, p_inI, bnd_s]
    show QM id t M (if bI (rg v2 0 1) = 0 then _ else _) _
    by_cases e2 : rg v2 0 1 = true
    · obtain ⟨c, h1, h2, h3⟩ := rg47 e1
      obtain ⟨w, w1, w2, w3⟩ := rgN (n := 1) (by decide) e2
      have eb : v2 = bI (decide (v2 = 1)) := by
        rw [w2]
        have : w = 0 ∨ w = 1 := by omega
        rcases this with q | q <;> rw [q] <;> decide
      rw [if_neg (bI_t e2), if_pos (by simp [e1, e2]), h3, h2, show (2 : Int32) + nI c = nI (2 + c) from nI_add 2 c, p_becomes (by omega), bnd_s, hR.2.2.1 c h1]
      refine q_ok Sd.p.fm Sd.p.e91 ?_
      rw [mI_u]
      have := Rw_sm hw hR h1 (decide (v2 = 1))
      rw [← eb] at this
      exact this
    · have e3 : rg v2 0 1 = false := by simpa using e2
      rw [if_pos (bI_f e3), if_neg (by simp [e3])]
      exact q_f0 hR
  · have e3 : rg v1 0 47 = false := by simpa using e1
    rw [if_pos (bI_f e3), if_neg (by simp [e3])]
    exact q_f0 hR
def o_cell (v1 v2 : Int32) (t : St) : (Int32 × St) ⊕ Nat := if rg v1 0 47 && rg v2 0 3 then .inl ((if v2 = 0 then bI (tb (sS t) (ix v1)) else if v2 = 3 then oI (owN t (ix v1) (nS t)) else if v2 = 2 then hb (fun h => tb (inS t h) (ix v1)) (nS t) else hb (fun h => tb (lnS t h) (ix v1)) (nS t)), t) else .inr 0
theorem q_cell {t : St} (hw : Wf t) (v1 v2 : Int32) (M : Nm) (hR : Rw (M.1 87) t) : QM id t M (f_M_cell v1 v2 M) (o_cell v1 v2 t) := by
  unfold f_M_cell o_cell
  rw [p_M_isCell, bnd_s]
  by_cases e1 : rg v1 0 47 = true
  · rw [if_neg (bI_t e1), show (0 : Int64) = (0 : Int32).toInt64 from rfl, show (3 : Int64) = (3 : Int32).toInt64 from rfl, p_inI, bnd_s]
    show QM id t M (if bI (rg v2 0 3) = 0 then _ else _) _
    by_cases e2 : rg v2 0 3 = true
    · obtain ⟨c, h1, h2, h3⟩ := rg47 e1
      obtain ⟨M1, a1, a2, a3⟩ := p_writeAll hw M hR
      have hR1 := Rn.of hR a2 a3
      rw [if_neg (bI_t e2), if_pos (by simp [e1, e2]), a1, bnd_s, h3, h2, show (2 : Int32) + nI c = nI (2 + c) from nI_add 2 c, grd_h (inb_nI (by omega) (by decide)), ix_nI (by omega), hR1.1.2.2.1 c h1, p_ownerOf hw h1 M1 hR1, bnd_s, show f_M_thoseWith (nI c) 1 M1 = _ from p_thoseWith hw h1 true M1 hR1, show f_M_thoseWith (nI c) 0 M1 = _ from p_thoseWith hw h1 false M1 hR1, bnd_s, bnd_s]
      have fin : ∀ a : Int32, QM id t M (some (a, M1)) (.inl (a, t)) := fun a => q_ok a2.fm a2.e91 hR1.1
      by_cases q0 : v2 = 0
      · rw [if_pos q0, if_pos q0]; exact fin _
      · rw [if_neg q0, if_neg q0]
        by_cases q3 : v2 = 3
        · rw [if_pos q3, if_pos q3]; exact fin _
        · rw [if_neg q3, if_neg q3]
          by_cases q2 : v2 = 2
          · rw [if_pos q2, if_pos q2]; exact fin _
          · rw [if_neg q2, if_neg q2]; exact fin _
    · have e3 : rg v2 0 3 = false := by simpa using e2
      rw [if_pos (bI_f e3), if_neg (by simp [e3])]
      exact q_f0 hR
  · have e3 : rg v1 0 47 = false := by simpa using e1
    rw [if_pos (bI_f e3), if_neg (by simp [e3])]
    exact q_f0 hR
/-- cells with more than k that write inside -/
def mor (t : St) (k : Nat) : Int64 := cs (fun c => decide (k < fb_ct (fun h => wi t h c) (nS t))) 48
def o_cells (v1 : Int32) (t : St) : (Int64 × St) ⊕ Nat := if rg v1 0 2 then .inl ((if v1 = 0 then sS t else mor t (if v1 = 1 then 1 else 0)), t) else .inr 0
theorem or00L (x : Int64) : x ||| 0 = x := by simp
theorem p_ceL {t : St} (hw : Wf t) (v1 : Int32) (M : Nm) (hR : Rn M t) : ∀ (n f i : Nat), i + n = 48 → n < f → f_M_cells_L38 v1 f (cs (fun c => decide ((if v1 = 1 then 1 else 0) < fb_ct (fun h => wi t h c) (nS t))) i) (nI i) M = some (mor t (if v1 = 1 then 1 else 0), M) := by
  have h6 := hw.1
  intro n
  induction n with
  | zero =>
    intro f i hi hf
    obtain ⟨f, rfl⟩ : ∃ g, f = g + 1 := ⟨f - 1, by omega⟩
    have : i = 48 := by omega
    subst this
    rw [f_M_cells_L38, if_pos (by decide)]
    rfl
  | succ n ih =>
    intro f i hi hf
    obtain ⟨f, rfl⟩ : ∃ g, f = g + 1 := ⟨f - 1, by omega⟩
    have key := ih f (i + 1) (by omega) (by omega)
    have hz : cs (fun c => decide ((if v1 = 1 then 1 else 0) < fb_ct (fun h => wi t h c) (nS t))) (i + 1) = if decide ((if v1 = 1 then 1 else 0) < fb_ct (fun h => wi t h i) (nS t)) then cs (fun c => decide ((if v1 = 1 then 1 else 0) < fb_ct (fun h => wi t h c) (nS t))) i ||| bit1 i else cs (fun c => decide ((if v1 = 1 then 1 else 0) < fb_ct (fun h => wi t h c) (nS t))) i := rfl
    rw [hz] at key
    have hl : fb_ct (fun h => wi t h i) (nS t) ≤ nS t := fb_ct_le _ _
    rw [f_M_cells_L38, if_neg (show ¬ (48 : Int32) ≤ nI i from nI_ge (b := 48) (by omega) (by decide)), p_writersInside hw (by omega) M hR, bnd_s]
    have fin : ∀ (k : Nat) (s0 : Int32), k < 2 → s0 = nI k → f_M_cells_B62 (f_M_cells_L38 v1 f) v1 (nI i) s0 (nI (fb_ct (fun h => wi t h i) (nS t))) (cs (fun c => decide ((if v1 = 1 then 1 else 0) < fb_ct (fun h => wi t h c) (nS t))) i) M = f_M_cells_L38 v1 f (if decide (k < fb_ct (fun h => wi t h i) (nS t)) then cs (fun c => decide ((if v1 = 1 then 1 else 0) < fb_ct (fun h => wi t h c) (nS t))) i ||| bit1 i else cs (fun c => decide ((if v1 = 1 then 1 else 0) < fb_ct (fun h => wi t h c) (nS t))) i) (nI (i + 1)) M := by
      intro k s0 hk hs
      unfold f_M_cells_B62
      rw [hs, nI_1]
      by_cases q : k < fb_ct (fun h => wi t h i) (nS t)
      · rw [if_neg (nI_ge q (by omega)), if_pos (show decide (k < fb_ct (fun h => wi t h i) (nS t)) = true from decide_eq_true q), bl_e]; rfl
      · rw [if_pos (nI_le (show fb_ct (fun h => wi t h i) (nS t) ≤ k by omega) (by omega)), if_neg (show ¬ decide (k < fb_ct (fun h => wi t h i) (nS t)) = true from fun z => q (of_decide_eq_true z)), or00L]
    by_cases e : v1 = 1
    · rw [if_pos e, fin 1 1 (by decide) rfl]
      rw [if_pos e] at key ⊢
      exact key
    · rw [if_neg e, fin 0 0 (by decide) rfl]
      rw [if_neg e] at key ⊢
      exact key
theorem q_cells {t : St} (hw : Wf t) (v1 : Int32) (M : Nm) (hR : Rw (M.1 87) t) : QM Int32.toInt64 t M (f_M_cells v1 M) (o_cells v1 t) := by
  unfold f_M_cells o_cells
  rw [show (0 : Int64) = (0 : Int32).toInt64 from rfl, show (2 : Int64) = (2 : Int32).toInt64 from rfl, p_inI, bnd_s]
  show QM Int32.toInt64 t M (if bI (rg v1 0 2) = 0 then _ else _) _
  by_cases e1 : rg v1 0 2 = true
  · rw [if_neg (bI_t e1), if_pos e1]
    by_cases e0 : v1 = 0
    · rw [if_pos e0, if_pos e0, p_smudges hw M hR, bnd_s]
      exact q_ok (Fm.rf M) rfl hR
    · obtain ⟨M1, a1, a2, a3⟩ := p_writeAll hw M hR
      have hR1 := Rn.of hR a2 a3
      rw [if_neg e0, if_neg e0, a1, bnd_s]
      have h := p_ceL hw v1 M1 hR1 48 FU 0 rfl (FU_gt (by decide))
      refine ⟨M1, h, a2.fm, hR1.1, a2.e91⟩
  · have e3 : rg v1 0 2 = false := by simpa using e1
    rw [if_pos (bI_f e3), if_neg (by simp [e3])]
    exact q_f0 hR
