/-! the reference: what helps -/
/-- least, with the first that has it -/
def mnF (g : Nat → Option Nat) : Nat → Nat → Nat × Option Nat → Nat × Option Nat
  | 0, _, p => p
  | n + 1, i, p => mnF g n (i + 1) (match g i with
    | none => p
    | some k => if k < p.1 then (k, some i) else p)
/-- most above a number, with the first that has it -/
def mxF (g : Nat → Nat) : Nat → Nat → Nat × Option Nat → Nat × Option Nat
  | 0, _, p => p
  | n + 1, i, p => mxF g n (i + 1) (if p.1 < g i then (g i, some i) else p)
/-- most of all, with the first that has it -/
def bxF (g : Nat → Nat) : Nat → Nat → Option (Nat × Nat) → Option (Nat × Nat)
  | 0, _, p => p
  | n + 1, i, p => bxF g n (i + 1) (match p with
    | none => some (g i, i)
    | some q => if q.1 < g i then some (g i, i) else some q)
theorem mnF_s (g : Nat → Option Nat) (n i : Nat) (p : Nat × Option Nat) : mnF g (n + 1) i p = mnF g n (i + 1) (match g i with
    | none => p
    | some k => if k < p.1 then (k, some i) else p) := rfl
theorem mxF_s (g : Nat → Nat) (n i : Nat) (p : Nat × Option Nat) : mxF g (n + 1) i p = mxF g n (i + 1) (if p.1 < g i then (g i, some i) else p) := rfl
theorem bxF_s (g : Nat → Nat) (n i : Nat) (p : Option (Nat × Nat)) : bxF g (n + 1) i p = bxF g n (i + 1) (match p with
    | none => some (g i, i)
    | some q => if q.1 < g i then some (g i, i) else some q) := rfl
theorem pc48 {x : Int64} (h : lo48 x) : pc x ≤ 48 := by rw [pc_lo h]; exact fb_ct_le _ _
def rnG (ln : Int64) (c : Nat) : Option Nat := if tb ln c then some (pc (encl (ln &&& (bit1 c ^^^ (-1))))) else none
def a_best (p : Nat × Option Nat) (t : St) : (Int32 × St) ⊕ Nat := match p.2 with
  | none => .inr 3
  | some c => .inl (nI c, t)
theorem q_best {t : St} {M0 M : Nm} {p : Nat × Option Nat} (hp : ∀ b, p.2 = some b → b < 100) (hF : Fm M0 M) (h91 : M.1 91 = M0.1 91) (hR : Rw (M.1 87) t) : QM id t M0 (if 0 ≤ oI p.2 then some (oI p.2, M) else (bnd (f_M_finds (-1000000004) M) fun r7 M8 => some (r7, M8))) (a_best p t) := by
  unfold a_best
  cases e : p.2 with
  | none =>
    rw [show oI none = -1 from rfl, if_neg (by decide)]
    exact q_fd (cv := id) (by decide) (by decide) hF h91 hR
  | some b =>
    have := hp b e
    rw [show oI (some b) = nI b from rfl, if_pos (nI_pos' (by omega))]
    exact q_ok hF h91 hR
theorem p_rnL {t : St} (M0 M : Nm) (hF : Fm M0 M) (h91 : M.1 91 = M0.1 91) (hR : Rw (M.1 87) t) (ln : Int64) : ∀ (n f i : Nat) (p : Nat × Option Nat), i + n = 48 → n < f → p.1 ≤ 48 → (∀ b, p.2 = some b → b < 100) → QM id t M0 (f_M_rain_L34 ln f (nI p.1) (oI p.2) (nI i) M) (a_best (mnF (rnG ln) n i p) t) := by
  intro n
  induction n with
  | zero =>
    intro f i p hi hf h1 h2
    obtain ⟨f, rfl⟩ : ∃ g, f = g + 1 := ⟨f - 1, by omega⟩
    have : i = 48 := by omega
    subst this
    rw [f_M_rain_L34, if_pos (by decide)]
    exact q_best h2 hF h91 hR
  | succ n ih =>
    intro f i p hi hf h1 h2
    obtain ⟨f, rfl⟩ : ∃ g, f = g + 1 := ⟨f - 1, by omega⟩
    rw [f_M_rain_L34, if_neg (show ¬ (48 : Int32) ≤ nI i from nI_ge (b := 48) (by omega) (by decide)), p_has (by omega), bnd_s, mnF_s]
    have st : ∀ k : Nat, k ≤ 48 → f_M_rain_B71 (f_M_rain_L34 ln f) (nI p.1) ln (oI p.2) (nI i) (nI k) M = f_M_rain_L34 ln f (nI (if k < p.1 then (k, some i) else p).1) (oI (if k < p.1 then (k, some i) else p).2) (nI (i + 1)) M := by
      intro k hk
      unfold f_M_rain_B71 f_M_rain_B86
      by_cases q : k < p.1
      · rw [if_neg (nI_ge q (by omega)), if_neg (nI_ge q (by omega)), if_pos q, nI_1]
        rfl
      · rw [if_pos (nI_le (by omega) (by omega)), if_pos (nI_le (by omega) (by omega)), if_neg q, nI_1]
    by_cases e : tb ln i = true
    · have hg : rnG ln i = some (pc (encl (ln &&& (bit1 i ^^^ (-1))))) := if_pos e
      have hk := pc48 (lo_encl (ln &&& (bit1 i ^^^ (-1))))
      rw [if_neg (bI_t e), show (1 <<< ((nI i).toInt64 &&& 63) : Int64) = bit1 i from rfl, p_insideOf, bnd_s, p_ones, bnd_s, st _ hk, hg]
      refine ih f (i + 1) _ (by omega) (by omega) ?_ ?_
      · split
        · exact hk
        · exact h1
      · split
        · intro b hb
          have : i = b := by simpa using hb
          omega
        · exact h2
    · have hg : rnG ln i = none := if_neg e
      have := st 48 (Nat.le_refl _)
      rw [if_neg (show ¬ 48 < p.1 by omega)] at this
      rw [if_pos (bI_f (nf e)), show (48 : Int32) = nI 48 from rfl, this, hg]
      exact ih f (i + 1) p (by omega) (by omega) h1 h2
def o_rain (v1 : Int32) (t : St) : (Int32 × St) ⊕ Nat := if hn v1 t then a_best (mnF (rnG (lnS t (ix v1))) 48 0 (pc (inS t (ix v1)), none)) t else .inr 0
theorem q_rain {t : St} (hw : Wf t) (v1 : Int32) (M : Nm) (hR : Rw (M.1 87) t) : QM id t M (f_M_rain v1 M) (o_rain v1 t) := by
  have h6 := hw.1
  unfold f_M_rain o_rain
  rw [p_isHand hw v1 M hR.1, bnd_s]
  by_cases e1 : hn v1 t = true
  · obtain ⟨h, h1, h2, h3⟩ := hn_of e1
    obtain ⟨M1, a1, a2, a3, a4⟩ := p_insideMany hw h1 M hR
    rw [if_neg (bI_t e1), if_pos e1, h3, h2, a1, bnd_s, grd_h (inb_nI (by omega) (by decide)), a3]
    exact p_rnL M M1 a2.fm a2.e91 (by rw [a2.e87]; exact hR) (lnS t h) 48 FU 0 (pc (inS t h), none) rfl (FU_gt (by decide)) (pc48 (lo_inS t h)) (fun b hb => by simp at hb)
  · rw [if_pos (bI_f (nf e1)), if_neg e1]
    exact q_f0 hR
theorem upH_id (t : St) (h : Nat) : upH t h (hS t h) = t := by
  unfold upH
  refine congrArg (fun g => (nS t, yS t, sS t, g)) (funext fun k => ?_)
  by_cases e : k = h
  · rw [if_pos e, e]
  · rw [if_neg e]
def lgG (t : St) (h i : Nat) : Nat := pc (inS (upH t h (sln (hS t h) i (if 7 ≤ lnH (hS t h) i then lnH (hS t h) i else lnH (hS t h) i + 1))) h)
theorem uw_uw (S : Nat → Int32) (j : Nat) (a b : Int32) : uw (uw S j a) j b = uw S j b := funext fun k => by
  unfold uw
  split <;> rfl
theorem uw_id {S : Nat → Int32} {j : Nat} {v : Int32} (h : S j = v) : uw S j v = S := funext fun k => by
  unfold uw
  by_cases e : k = j
  · rw [if_pos e, e, h]
  · rw [if_neg e]
theorem p_lgL {t : St} (hw : Wf t) {h : Nat} (hh : h < nS t) (M0 : Nm) : ∀ (n f i : Nat) (p : Nat × Option Nat) (M : Nm), Fm M0 M → M.1 91 = M0.1 91 → Rw (M.1 87) t → i + n = nsH (hS t h) → n < f → p.1 ≤ 48 → (∀ b, p.2 = some b → b < 100) → QM id t M0 (f_M_longer_L26 (nI h) f (nI p.1) (oI p.2) (nI i) M) (a_best (mxF (lgG t h) n i p) t) := by
  have h6 := hw.1
  have hx := hw.2.2 h hh
  have x5 := hx.2.2.2.2.1
  intro n
  induction n with
  | zero =>
    intro f i p M hF h91 hR hi hf h1 h2
    obtain ⟨f, rfl⟩ : ∃ g, f = g + 1 := ⟨f - 1, by omega⟩
    rw [f_M_longer_L26, p_its4 (by omega), bnd_s, (hR.2.2.2 h hh).2.2.2.2.1, if_pos (nI_le (by omega) (by omega))]
    exact q_best h2 hF h91 hR
  | succ n ih =>
    intro f i p M hF h91 hR hi hf h1 h2
    obtain ⟨f, rfl⟩ : ∃ g, f = g + 1 := ⟨f - 1, by omega⟩
    have r := hR.2.2.2 h hh
    have rl := (r.2.2.2.2.2 i (by omega)).2
    have xl := (hx.2.2.2.2.2 i (by omega)).2
    have e13 : ∀ i, (13 : Int32) + nI i = nI (13 + i) := fun i => nI_add 13 i
    rw [f_M_longer_L26, p_its4 (by omega), bnd_s, r.2.2.2.2.1, if_neg (nI_ge (by omega) (by omega)), p_its13 (by omega) (by omega), bnd_s, rl, e13, p_spot, bnd_s, mxF_s]
    have st : ∀ l : Nat, 1 ≤ l → l ≤ 7 → lgG t h i = pc (inS (upH t h (sln (hS t h) i l)) h) → QM id t M0 (f_M_longer_B78 (f_M_longer_L26 (nI h) f) (nI h) (nI p.1) (oI p.2) (nI i) (nI (lnH (hS t h) i)) (nI l) (nI (50 + 21 * h + (13 + i))) M) (a_best (mxF (lgG t h) n (i + 1) (if p.1 < lgG t h i then (lgG t h i, some i) else p)) t) := by
      intro l l1 l7 hl
      have hw1 : Wf (upH t h (sln (hS t h) i l)) := Wf.up hw (WfH.sln hx ⟨l1, l7⟩)
      have hR1 : Rw (uw (M.1 87) (50 + 21 * h + (13 + i)) (nI l)) (upH t h (sln (hS t h) i l)) := Rw_up hw hR (by omega) (RwH.sln r (by omega) x5 l)
      obtain ⟨M1, a1, a2, a3, a4⟩ := p_insideMany hw1 (h := h) hh (mI M 87 (50 + 21 * h + (13 + i)) (nI l)) (by rw [mI_u]; exact hR1)
      have hb : lgG t h i ≤ 48 := by rw [hl]; exact pc48 (lo_inS _ _)
      have hM2 : (mI M1 87 (50 + 21 * h + (13 + i)) (nI (lnH (hS t h) i))).1 87 = M.1 87 := by rw [mI_u, a2.e87, mI_u, uw_uw, uw_id rl]
      unfold f_M_longer_B78
      rw [grd_h (inb_nI (by omega) (by decide)), bl_e, ix_nI (by omega), a1, bnd_s, e13, p_spot, bnd_s, grd_h (inb_nI (by omega) (by decide)), bl_e, ix_nI (by omega), ← hl]
      unfold f_M_longer_B114
      have hF2 : Fm M0 (mI M1 87 (50 + 21 * h + (13 + i)) (nI (lnH (hS t h) i))) := Fm.tr hF (Fm.tr Sd.p.fm (Fm.tr a2.fm Sd.p.fm))
      have h912 : (mI M1 87 (50 + 21 * h + (13 + i)) (nI (lnH (hS t h) i))).1 91 = M0.1 91 := by rw [mI_o (by decide), a2.e91, mI_o (by decide), h91]
      by_cases q : p.1 < lgG t h i
      · rw [if_neg (nI_ge q (by omega)), if_neg (nI_ge q (by omega)), if_pos q, nI_1]
        exact ih f (i + 1) (lgG t h i, some i) _ hF2 h912 (by rw [hM2]; exact hR) (by omega) (by omega) hb (fun b hb => by
          have : i = b := by simpa using hb
          omega)
      · rw [if_pos (nI_le (by omega) (by omega)), if_pos (nI_le (by omega) (by omega)), if_neg q, nI_1]
        exact ih f (i + 1) p _ hF2 h912 (by rw [hM2]; exact hR) (by omega) (by omega) h1 h2
    by_cases e7 : 7 ≤ lnH (hS t h) i
    · rw [if_pos (show (7 : Int32) ≤ nI (lnH (hS t h) i) from nI_le (a := 7) e7 (by omega))]
      exact st _ xl.1 xl.2 (by unfold lgG; rw [if_pos e7])
    · rw [if_neg (show ¬ (7 : Int32) ≤ nI (lnH (hS t h) i) from nI_ge (b := 7) (by omega) (by decide)), nI_1]
      exact st _ (by omega) (by omega) (by unfold lgG; rw [if_neg e7])
def o_longer (v1 : Int32) (t : St) : (Int32 × St) ⊕ Nat := if hn v1 t then a_best (mxF (lgG t (ix v1)) (nsH (hS t (ix v1))) 0 (pc (inS t (ix v1)), none)) t else .inr 0
theorem q_longer {t : St} (hw : Wf t) (v1 : Int32) (M : Nm) (hR : Rw (M.1 87) t) : QM id t M (f_M_longer v1 M) (o_longer v1 t) := by
  have h6 := hw.1
  unfold f_M_longer o_longer
  rw [p_isHand hw v1 M hR.1, bnd_s]
  by_cases e1 : hn v1 t = true
  · obtain ⟨h, h1, h2, h3⟩ := hn_of e1
    have x5 := (hw.2.2 h h1).2.2.2.2.1
    obtain ⟨M1, a1, a2, a3, a4⟩ := p_insideMany hw h1 M hR
    rw [if_neg (bI_t e1), if_pos e1, h3, h2, a1, bnd_s]
    exact p_lgL hw h1 M (nsH (hS t h)) FU 0 (pc (inS t h), none) M1 a2.fm a2.e91 (by rw [a2.e87]; exact hR) (by omega) (FU_gt (by omega)) (pc48 (lo_inS t h)) (fun b hb => by simp at hb)
  · rw [if_pos (bI_f (nf e1)), if_neg e1]
    exact q_f0 hR
def bB : Option (Nat × Nat) → Int32
  | none => 0
  | some q => nI q.2
def bM : Option (Nat × Nat) → Int32
  | none => -1
  | some q => nI q.1
def bst (p : Option (Nat × Nat)) (v i : Nat) : Option (Nat × Nat) := match p with
    | none => some (v, i)
    | some q => if q.1 < v then some (v, i) else some q
def bok (p : Option (Nat × Nat)) : Prop := ∀ q, p = some q → q.1 ≤ 48 ∧ q.2 ≤ 999
theorem bok_s {p : Option (Nat × Nat)} (h : bok p) {v i : Nat} (hv : v ≤ 48) (hi : i ≤ 999) : bok (bst p v i) := by
  intro q hq
  unfold bst at hq
  cases p with
  | none => simp at hq; subst hq; exact ⟨hv, hi⟩
  | some r =>
    dsimp only at hq
    split at hq
    · simp at hq; subst hq; exact ⟨hv, hi⟩
    · exact h q hq
theorem b_le {p : Option (Nat × Nat)} (h : bok p) {v : Nat} (hv : v ≤ 48) (i : Nat) : (nI v ≤ bM p ∧ bst p v i = p) ∨ (¬ nI v ≤ bM p ∧ bst p v i = some (v, i)) := by
  unfold bst
  cases p with
  | none =>
    right
    refine ⟨?_, rfl⟩
    show ¬ nI v ≤ -1
    intro q
    have : ¬ (nI v) < 0 := nI_pos (by omega)
    exact this (Int32.lt_of_le_of_lt q (by decide))
  | some r =>
    have := (h r rfl).1
    by_cases e : r.1 < v
    · right
      exact ⟨nI_ge e (by omega), by dsimp only; rw [if_pos e]⟩
    · left
      exact ⟨nI_le (by omega) (by omega), by dsimp only; rw [if_neg e]⟩
theorem bxF_b (g : Nat → Nat) (n i : Nat) (p : Option (Nat × Nat)) : bxF g (n + 1) i p = bxF g n (i + 1) (bst p (g i) i) := rfl
def bgG (t : St) (h c : Nat) : Nat := pc (inS (upH t h (sat (hS t h) c)) h)
theorem p_bgL {t : St} (hw : Wf t) {h : Nat} (hh : h < nS t) (M0 : Nm) (hR0 : Rw (M0.1 87) t) : ∀ (n f i : Nat) (p : Option (Nat × Nat)) (M : Nm), Fm M0 M → M.1 91 = M0.1 91 → (∀ v, uw (M.1 87) (50 + 21 * h + 1) v = uw (M0.1 87) (50 + 21 * h + 1) v) → i + n = 48 → n < f → bok p → QM id t M0 (f_M_begin_L30 (nI h) (nI (atH (hS t h))) f (bB p) (bM p) (nI i) M) (.inl (bB (bxF (bgG t h) n i p), t)) := by
  have h6 := hw.1
  have hx := hw.2.2 h hh
  have r := hR0.2.2.2 h hh
  have sp1 : ∀ M, f_M_spot (nI h) 1 M = some (nI (50 + 21 * h + 1), M) := fun M => p_spot h 1 M
  intro n
  induction n with
  | zero =>
    intro f i p M hF h91 hQ hi hf hp
    obtain ⟨f, rfl⟩ : ∃ g, f = g + 1 := ⟨f - 1, by omega⟩
    have : i = 48 := by omega
    subst this
    rw [f_M_begin_L30, if_pos (by decide), sp1, bnd_s, grd_h (inb_nI (by omega) (by decide)), bl_e, ix_nI (by omega)]
    refine q_ok (Fm.tr hF Sd.p.fm) (by rw [mI_o (by decide)]; exact h91) ?_
    rw [mI_u, hQ, uw_id r.2.1]
    exact hR0
  | succ n ih =>
    intro f i p M hF h91 hQ hi hf hp
    obtain ⟨f, rfl⟩ : ∃ g, f = g + 1 := ⟨f - 1, by omega⟩
    have hw1 : Wf (upH t h (sat (hS t h) i)) := Wf.up hw (WfH.sat hx (by omega))
    obtain ⟨M1, a1, a2, a3, a4⟩ := p_insideMany hw1 (h := h) hh (mI M 87 (50 + 21 * h + 1) (nI i)) (by rw [mI_u, hQ]; exact Rw_up hw hR0 (by decide) (RwH.sat r i))
    have hb : bgG t h i ≤ 48 := pc48 (lo_inS _ _)
    have hF2 : Fm M0 M1 := Fm.tr hF (Fm.tr Sd.p.fm a2.fm)
    have h912 : M1.1 91 = M0.1 91 := by rw [a2.e91, mI_o (by decide), h91]
    have hS2 : ∀ v, uw (M1.1 87) (50 + 21 * h + 1) v = uw (M0.1 87) (50 + 21 * h + 1) v := fun v => by rw [a2.e87, mI_u, uw_uw, hQ]
    have a1' : f_M_insideMany (nI h) (mI M 87 (50 + 21 * h + 1) (nI i)) = some (nI (bgG t h i), M1) := a1
    rw [f_M_begin_L30, if_neg (show ¬ (48 : Int32) ≤ nI i from nI_ge (b := 48) (by omega) (by decide)), sp1, bnd_s, grd_h (inb_nI (by omega) (by decide)), bl_e, ix_nI (by omega), a1', bnd_s, bxF_b]
    unfold f_M_begin_B69
    have key := ih f (i + 1) (bst p (bgG t h i) i) M1 hF2 h912 hS2 (by omega) (by omega) (bok_s hp hb (by omega))
    rcases b_le hp hb i with ⟨q1, q2⟩ | ⟨q1, q2⟩
    · rw [q2] at key ⊢
      rw [if_pos q1, if_pos q1, nI_1]
      exact key
    · rw [q2] at key ⊢
      rw [if_neg q1, if_neg q1, nI_1]
      exact key
def o_begin (v1 : Int32) (t : St) : (Int32 × St) ⊕ Nat := if hn v1 t then .inl (bB (bxF (bgG t (ix v1)) 48 0 none), t) else .inr 0
theorem q_begin {t : St} (hw : Wf t) (v1 : Int32) (M : Nm) (hR : Rw (M.1 87) t) : QM id t M (f_M_begin v1 M) (o_begin v1 t) := by
  have h6 := hw.1
  unfold f_M_begin o_begin
  rw [p_isHand hw v1 M hR.1, bnd_s]
  by_cases e1 : hn v1 t = true
  · obtain ⟨h, h1, h2, h3⟩ := hn_of e1
    rw [if_neg (bI_t e1), if_pos e1, h3, h2, p_its1 (by omega), bnd_s, (hR.2.2.2 h h1).2.1]
    exact p_bgL hw h1 M hR 48 FU 0 none M (Fm.rf M) rfl (fun _ => rfl) rfl (FU_gt (by decide)) (fun q hq => by simp at hq)
  · rw [if_pos (bI_f (nf e1)), if_neg e1]
    exact q_f0 hR
def kdG (t : St) (h k : Nat) : Nat := owc (upH t h (skd (hS t h) k)) h
theorem p_kdL {t : St} (hw : Wf t) {h : Nat} (hh : h < nS t) (M0 : Nm) (hR0 : Rw (M0.1 87) t) : ∀ (n f i : Nat) (p : Option (Nat × Nat)) (M : Nm), Fm M0 M → M.1 91 = M0.1 91 → (∀ v, uw (M.1 87) (50 + 21 * h + 0) v = uw (M0.1 87) (50 + 21 * h + 0) v) → i + n = 6 → n < f → bok p → QM id t M0 (f_M_kind_L30 (nI h) (nI (kdH (hS t h))) f (bB p) (bM p) (nI i) M) (.inl (bB (bxF (kdG t h) n i p), t)) := by
  have h6 := hw.1
  have hx := hw.2.2 h hh
  have r := hR0.2.2.2 h hh
  have sp1 : ∀ M, f_M_spot (nI h) 0 M = some (nI (50 + 21 * h + 0), M) := fun M => p_spot h 0 M
  intro n
  induction n with
  | zero =>
    intro f i p M hF h91 hQ hi hf hp
    obtain ⟨f, rfl⟩ : ∃ g, f = g + 1 := ⟨f - 1, by omega⟩
    have : i = 6 := by omega
    subst this
    rw [f_M_kind_L30, if_pos (by decide), sp1, bnd_s, grd_h (inb_nI (by omega) (by decide)), bl_e, ix_nI (by omega)]
    refine q_ok (Fm.tr hF Sd.p.fm) (by rw [mI_o (by decide)]; exact h91) ?_
    rw [mI_u, hQ, uw_id r.1]
    exact hR0
  | succ n ih =>
    intro f i p M hF h91 hQ hi hf hp
    obtain ⟨f, rfl⟩ : ∃ g, f = g + 1 := ⟨f - 1, by omega⟩
    have hw1 : Wf (upH t h (skd (hS t h) i)) := Wf.up hw (WfH.skd hx (by omega))
    obtain ⟨M1, a1, a2⟩ := p_ownsNow hw1 (h := h) hh (mI M 87 (50 + 21 * h + 0) (nI i)) (by rw [mI_u, hQ]; exact Rw_up hw hR0 (by decide) (RwH.skd r i))
    have hb : kdG t h i ≤ 48 := owc_le _ _
    have hF2 : Fm M0 M1 := Fm.tr hF (Fm.tr Sd.p.fm a2.fm)
    have h912 : M1.1 91 = M0.1 91 := by rw [a2.e91, mI_o (by decide), h91]
    have hS2 : ∀ v, uw (M1.1 87) (50 + 21 * h + 0) v = uw (M0.1 87) (50 + 21 * h + 0) v := fun v => by rw [a2.e87, mI_u, uw_uw, hQ]
    have a1' : f_M_ownsNow (nI h) (mI M 87 (50 + 21 * h + 0) (nI i)) = some (nI (kdG t h i), M1) := a1
    rw [f_M_kind_L30, if_neg (show ¬ (5 : Int32) < nI i from nI_nlt (a := 5) (by omega) (by decide)), sp1, bnd_s, grd_h (inb_nI (by omega) (by decide)), bl_e, ix_nI (by omega), a1', bnd_s, bxF_b]
    unfold f_M_kind_B68
    have key := ih f (i + 1) (bst p (kdG t h i) i) M1 hF2 h912 hS2 (by omega) (by omega) (bok_s hp hb (by omega))
    rcases b_le hp hb i with ⟨q1, q2⟩ | ⟨q1, q2⟩
    · rw [q2] at key ⊢
      rw [if_pos q1, if_pos q1, nI_1]
      exact key
    · rw [q2] at key ⊢
      rw [if_neg q1, if_neg q1, nI_1]
      exact key
def o_kind (v1 : Int32) (t : St) : (Int32 × St) ⊕ Nat := if hn v1 t then .inl (bB (bxF (kdG t (ix v1)) 6 0 none), t) else .inr 0
theorem q_kind {t : St} (hw : Wf t) (v1 : Int32) (M : Nm) (hR : Rw (M.1 87) t) : QM id t M (f_M_kind v1 M) (o_kind v1 t) := by
  have h6 := hw.1
  unfold f_M_kind o_kind
  rw [p_isHand hw v1 M hR.1, bnd_s]
  by_cases e1 : hn v1 t = true
  · obtain ⟨h, h1, h2, h3⟩ := hn_of e1
    rw [if_neg (bI_t e1), if_pos e1, h3, h2, p_its0 (by omega), bnd_s, (hR.2.2.2 h h1).1]
    exact p_kdL hw h1 M hR 6 FU 0 none M (Fm.rf M) rfl (fun _ => rfl) rfl (FU_gt (by decide)) (fun q hq => by simp at hq)
  · rw [if_pos (bI_f (nf e1)), if_neg e1]
    exact q_f0 hR
def ikG (t : St) (h v : Nat) : Nat := owc (upH t h (sik (hS t h) v)) h
theorem ln_ik (t : St) (h v k : Nat) : lnS (upH t h (sik (hS t h) v)) k = lnS t k := by
  unfold lnS
  by_cases e : k = h
  · subst e; rw [upH_s]; rfl
  · rw [upH_n e]; rfl
theorem cst_ik (t : St) (h v k : Nat) : cst (hS (upH t h (sik (hS t h) v)) k) = cst (hS t k) := by
  by_cases e : k = h
  · subst e; rw [upH_s]; rfl
  · rw [upH_n e]
theorem Nt_ik {t : St} {n h v : Nat} {M : Nm} (hN : Nt t n M) : Nt (upH t h (sik (hS t h) v)) n M := fun k hk => by
  obtain ⟨a, b, c⟩ := hN k hk
  unfold inS at b ⊢
  rw [ln_ik, cst_ik]
  exact ⟨a, b, c⟩
theorem p_ikL {t : St} (hw : Wf t) {h : Nat} (hh : h < nS t) (M0 : Nm) (hR0 : Rw (M0.1 87) t) : ∀ (n f i : Nat) (p : Option (Nat × Nat)) (M : Nm), Fm M0 M → M.1 91 = M0.1 91 → Nt t (nS t) M → (∀ v, uw (M.1 87) (50 + 21 * h + 2) v = uw (M0.1 87) (50 + 21 * h + 2) v) → i + n = 1000 → n < f → bok p → QM id t M0 (f_M_ink_L34 (nI h) (nI (ikH (hS t h))) f (bB p) (bM p) (nI i) M) (.inl (bB (bxF (ikG t h) n i p), t)) := by
  have h6 := hw.1
  have hx := hw.2.2 h hh
  have r := hR0.2.2.2 h hh
  have sp1 : ∀ M, f_M_spot (nI h) 2 M = some (nI (50 + 21 * h + 2), M) := fun M => p_spot h 2 M
  intro n
  induction n with
  | zero =>
    intro f i p M hF h91 hN hQ hi hf hp
    obtain ⟨f, rfl⟩ : ∃ g, f = g + 1 := ⟨f - 1, by omega⟩
    have : i = 1000 := by omega
    subst this
    rw [f_M_ink_L34, if_pos (by decide), sp1, bnd_s, grd_h (inb_nI (by omega) (by decide)), bl_e, ix_nI (by omega)]
    refine q_ok (Fm.tr hF Sd.p.fm) (by rw [mI_o (by decide)]; exact h91) ?_
    rw [mI_u, hQ, uw_id r.2.2.1]
    exact hR0
  | succ n ih =>
    intro f i p M hF h91 hN hQ hi hf hp
    obtain ⟨f, rfl⟩ : ∃ g, f = g + 1 := ⟨f - 1, by omega⟩
    have hw1 : Wf (upH t h (sik (hS t h) i)) := Wf.up hw (WfH.sik hx (by omega))
    have hR1 : Rn (mI M 87 (50 + 21 * h + 2) (nI i)) (upH t h (sik (hS t h) i)) := ⟨by rw [mI_u, hQ]; exact Rw_up hw hR0 (by decide) (RwH.sik r i), fun k hk => by
      obtain ⟨a, b, c⟩ := Nt_ik (h := h) (v := i) hN k hk
      exact ⟨a, b, by rw [mI_o (by decide)]; exact c⟩⟩
    have hb : ikG t h i ≤ 48 := owc_le _ _
    have hF2 : Fm M0 (mI M 87 (50 + 21 * h + 2) (nI i)) := Fm.tr hF Sd.p.fm
    have h912 : (mI M 87 (50 + 21 * h + 2) (nI i)).1 91 = M0.1 91 := by rw [mI_o (by decide), h91]
    have hS2 : ∀ v, uw ((mI M 87 (50 + 21 * h + 2) (nI i)).1 87) (50 + 21 * h + 2) v = uw (M0.1 87) (50 + 21 * h + 2) v := fun v => by rw [mI_u, uw_uw, hQ]
    have hN2 : Nt t (nS t) (mI M 87 (50 + 21 * h + 2) (nI i)) := fun k hk => by
      obtain ⟨a, b, c⟩ := hN k hk
      exact ⟨a, b, by rw [mI_o (by decide)]; exact c⟩
    rw [f_M_ink_L34, if_neg (show ¬ (999 : Int32) < nI i from nI_nlt (a := 999) (by omega) (by decide)), sp1, bnd_s, grd_h (inb_nI (by omega) (by decide)), bl_e, ix_nI (by omega), p_writes hw1 (h := h) hh _ hR1.1 (hR1.2 h hh).2.2, bnd_s, p_ownedBy hw1 (h := h) hh _ hR1, bnd_s, bxF_b]
    have st : f_M_ink_B71 (f_M_ink_L34 (nI h) (nI (ikH (hS t h))) f) (nI h) (nI (ikH (hS t h))) (bB p) (bM p) (nI i) (nI (ikG t h i)) (mI M 87 (50 + 21 * h + 2) (nI i)) = f_M_ink_L34 (nI h) (nI (ikH (hS t h))) f (bB (bst p (ikG t h i) i)) (bM (bst p (ikG t h i) i)) (nI (i + 1)) (mI M 87 (50 + 21 * h + 2) (nI i)) := by
      unfold f_M_ink_B71 f_M_ink_B86
      rcases b_le hp hb i with ⟨q1, q2⟩ | ⟨q1, q2⟩
      · rw [q2, if_pos q1, if_pos q1, nI_1]
      · rw [q2, if_neg q1, if_neg q1, nI_1]
        rfl
    have key := ih f (i + 1) (bst p (ikG t h i) i) _ hF2 h912 hN2 hS2 (by omega) (by omega) (bok_s hp hb (by omega))
    rw [← st] at key
    by_cases e : wrS (upH t h (sik (hS t h) i)) h = true
    · rw [if_neg (bI_t e)]
      exact key
    · have e0 : ikG t h i = 0 := owc_dry (nf e)
      rw [if_pos (bI_f (nf e)), e0]
      rw [e0] at key
      exact key
def o_ink (v1 : Int32) (t : St) : (Int32 × St) ⊕ Nat := if hn v1 t then .inl (bB (bxF (ikG t (ix v1)) 1000 0 none), t) else .inr 0
theorem q_ink {t : St} (hw : Wf t) (v1 : Int32) (M : Nm) (hR : Rw (M.1 87) t) : QM id t M (f_M_ink v1 M) (o_ink v1 t) := by
  have h6 := hw.1
  unfold f_M_ink o_ink
  rw [p_isHand hw v1 M hR.1, bnd_s]
  by_cases e1 : hn v1 t = true
  · obtain ⟨h, h1, h2, h3⟩ := hn_of e1
    obtain ⟨M1, a1, a2, a3⟩ := p_writeAll hw M hR
    rw [if_neg (bI_t e1), if_pos e1, h3, h2, p_its2 (by omega), bnd_s, (hR.2.2.2 h h1).2.2.1, a1, bnd_s]
    exact p_ikL hw h1 M hR 1000 FU 0 none M1 a2.fm a2.e91 a3 (fun v => by rw [a2.e87]) rfl (FU_gt (by decide)) (fun q hq => by simp at hq)
  · rw [if_pos (bI_f (nf e1)), if_neg e1]
    exact q_f0 hR
