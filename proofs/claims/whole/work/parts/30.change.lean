/-! the reference: changes of its row -/
def Sd (M M' : Nm) : Prop := (∀ c, c ≠ 87 → c ≠ 94 → c ≠ 95 → M'.1 c = M.1 c) ∧ (∀ c, c ≠ 92 → c ≠ 93 → M'.2.1 c = M.2.1 c) ∧ M'.2.2 = M.2.2
theorem Sd.rf (M : Nm) : Sd M M := ⟨fun _ _ _ _ => rfl, fun _ _ _ => rfl, rfl⟩
theorem Sd.tr {M M1 M2 : Nm} (h1 : Sd M M1) (h2 : Sd M1 M2) : Sd M M2 := ⟨fun c a b d => (h2.1 c a b d).trans (h1.1 c a b d), fun c a b => (h2.2.1 c a b).trans (h1.2.1 c a b), h2.2.2.trans h1.2.2⟩
theorem Sc.sd {M M' : Nm} (h : Sc M M') : Sd M M' := ⟨fun c _ b d => h.1 c b d, h.2.1, h.2.2⟩
theorem Sd.p {M : Nm} {j : Nat} {v : Int32} : Sd M (mI M 87 j v) := ⟨fun c h _ _ => mI_o h, fun c _ _ => rfl, rfl⟩
theorem Sc.o {M : Nm} {j : Nat} {v : Int32} : Sc M (mI M 95 j v) := ⟨fun c _ h => mI_o h, fun c _ _ => rfl, rfl⟩
def uw (S : Nat → Int32) (j : Nat) (v : Int32) : Nat → Int32 := fun k => if k = j then v else S k
theorem mI_u {M : Nm} {c j : Nat} {v : Int32} : (mI M c j v).1 c = uw (M.1 c) j v := funext fun k => by rw [mI_s]; rfl
theorem uw_s (S : Nat → Int32) (j : Nat) (v : Int32) : uw S j v j = v := if_pos rfl
theorem uw_n {S : Nat → Int32} {j k : Nat} {v : Int32} (h : k ≠ j) : uw S j v k = S k := if_neg h
def upH (t : St) (h : Nat) (x : HS) : St := (nS t, yS t, sS t, fun k => if k = h then x else hS t k)
theorem upH_s (t : St) (h : Nat) (x : HS) : hS (upH t h x) h = x := if_pos rfl
theorem upH_n {t : St} {h k : Nat} {x : HS} (e : k ≠ h) : hS (upH t h x) k = hS t k := if_neg e
theorem Wf.up {t : St} (hw : Wf t) {h : Nat} {x : HS} (hx : WfH x) : Wf (upH t h x) := ⟨hw.1, hw.2.1, fun k hk => by
  by_cases e : k = h
  · subst e; rw [upH_s]; exact hx
  · rw [upH_n e]; exact hw.2.2 k hk⟩
theorem RwH_f {S S' : Nat → Int32} {h : Nat} {x : HS} (hx : RwH S h x) (hn : nsH x ≤ 8) (ho : ∀ j, 50 + 21 * h ≤ j → j < 50 + 21 * h + 21 → S' j = S j) : RwH S' h x := by
  obtain ⟨a, b, c, d, e, f⟩ := hx
  refine ⟨?_, ?_, ?_, ?_, ?_, fun i hi => ⟨?_, ?_⟩⟩
  · rw [ho _ (by omega) (by omega)]; exact a
  · rw [ho _ (by omega) (by omega)]; exact b
  · rw [ho _ (by omega) (by omega)]; exact c
  · rw [ho _ (by omega) (by omega)]; exact d
  · rw [ho _ (by omega) (by omega)]; exact e
  · rw [ho _ (by omega) (by omega)]; exact (f i hi).1
  · rw [ho _ (by omega) (by omega)]; exact (f i hi).2
theorem Rw_h {S S' : Nat → Int32} {t : St} (hw : Wf t) (hR : Rw S t) {h : Nat} {x : HS} (ho : ∀ j, (j < 50 + 21 * h ∨ 50 + 21 * h + 21 ≤ j) → S' j = S j) (hx : RwH S' h x) : Rw S' (upH t h x) := by
  obtain ⟨a, b, c, d⟩ := hR
  refine ⟨?_, ?_, fun k hk => ?_, fun k hk => ?_⟩
  · rw [ho _ (by omega)]; exact a
  · rw [ho _ (by omega)]; exact b
  · rw [ho _ (by omega)]; exact c k hk
  · by_cases e : k = h
    · subst e; rw [upH_s]; exact hx
    · rw [upH_n e]
      exact RwH_f (d k hk) (hw.2.2 k hk).2.2.2.2.1 (fun j h1 h2 => ho j (by omega))
/-- a field of a hand -/
def skd (x : HS) (v : Nat) : HS := (v, x.2)
def sat (x : HS) (v : Nat) : HS := (x.1, v, x.2.2)
def sik (x : HS) (v : Nat) : HS := (x.1, x.2.1, v, x.2.2.2)
def scn (x : HS) (v : Nat) : HS := (x.1, x.2.1, x.2.2.1, v, x.2.2.2.2)
def sns (x : HS) (v : Nat) : HS := (x.1, x.2.1, x.2.2.1, x.2.2.2.1, v, x.2.2.2.2.2)
def swy (x : HS) (i v : Nat) : HS := (x.1, x.2.1, x.2.2.1, x.2.2.2.1, x.2.2.2.2.1, (fun k => if k = i then v else wyH x k), x.2.2.2.2.2.2)
def sln (x : HS) (i v : Nat) : HS := (x.1, x.2.1, x.2.2.1, x.2.2.2.1, x.2.2.2.2.1, x.2.2.2.2.2.1, (fun k => if k = i then v else lnH x k))
theorem WfH.skd {x : HS} (h : WfH x) {v : Nat} (hv : v < 6) : WfH (skd x v) := ⟨hv, h.2⟩
theorem WfH.sat {x : HS} (h : WfH x) {v : Nat} (hv : v < 48) : WfH (sat x v) := ⟨h.1, hv, h.2.2⟩
theorem WfH.sik {x : HS} (h : WfH x) {v : Nat} (hv : v ≤ 999) : WfH (sik x v) := ⟨h.1, h.2.1, hv, h.2.2.2⟩
theorem WfH.scn {x : HS} (h : WfH x) {v : Nat} (hv : v ≤ 99999) : WfH (scn x v) := ⟨h.1, h.2.1, h.2.2.1, hv, h.2.2.2.2⟩
theorem WfH.sns {x : HS} (h : WfH x) {v : Nat} (hv : v ≤ nsH x) : WfH (sns x v) := ⟨h.1, h.2.1, h.2.2.1, h.2.2.2.1, Nat.le_trans hv h.2.2.2.2.1, fun i hi => h.2.2.2.2.2 i (Nat.lt_of_lt_of_le hi hv)⟩
theorem WfH.swy {x : HS} (h : WfH x) {i v : Nat} (hv : v < 4) : WfH (swy x i v) := ⟨h.1, h.2.1, h.2.2.1, h.2.2.2.1, h.2.2.2.2.1, fun k hk => by
  refine ⟨?_, (h.2.2.2.2.2 k hk).2⟩
  show (if k = i then v else wyH x k) < 4
  split
  · exact hv
  · exact (h.2.2.2.2.2 k hk).1⟩
theorem WfH.sln {x : HS} (h : WfH x) {i v : Nat} (hv : 1 ≤ v ∧ v ≤ 7) : WfH (sln x i v) := ⟨h.1, h.2.1, h.2.2.1, h.2.2.2.1, h.2.2.2.2.1, fun k hk => by
  refine ⟨(h.2.2.2.2.2 k hk).1, ?_⟩
  show 1 ≤ (if k = i then v else lnH x k) ∧ (if k = i then v else lnH x k) ≤ 7
  split
  · exact hv
  · exact (h.2.2.2.2.2 k hk).2⟩
theorem RwH.skd {S : Nat → Int32} {h : Nat} {x : HS} (r : RwH S h x) (v : Nat) : RwH (uw S (50 + 21 * h + 0) (nI v)) h (skd x v) := by
  obtain ⟨a, b, c, d, e, f⟩ := r
  refine ⟨uw_s _ _ _, ?_, ?_, ?_, ?_, fun i hi => ⟨?_, ?_⟩⟩
  · rw [uw_n (by omega)]; exact b
  · rw [uw_n (by omega)]; exact c
  · rw [uw_n (by omega)]; exact d
  · rw [uw_n (by omega)]; exact e
  · rw [uw_n (by omega)]; exact (f i hi).1
  · rw [uw_n (by omega)]; exact (f i hi).2
theorem RwH.sat {S : Nat → Int32} {h : Nat} {x : HS} (r : RwH S h x) (v : Nat) : RwH (uw S (50 + 21 * h + 1) (nI v)) h (sat x v) := by
  obtain ⟨a, b, c, d, e, f⟩ := r
  refine ⟨?_, uw_s _ _ _, ?_, ?_, ?_, fun i hi => ⟨?_, ?_⟩⟩
  · rw [uw_n (by omega)]; exact a
  · rw [uw_n (by omega)]; exact c
  · rw [uw_n (by omega)]; exact d
  · rw [uw_n (by omega)]; exact e
  · rw [uw_n (by omega)]; exact (f i hi).1
  · rw [uw_n (by omega)]; exact (f i hi).2
theorem RwH.sik {S : Nat → Int32} {h : Nat} {x : HS} (r : RwH S h x) (v : Nat) : RwH (uw S (50 + 21 * h + 2) (nI v)) h (sik x v) := by
  obtain ⟨a, b, c, d, e, f⟩ := r
  refine ⟨?_, ?_, uw_s _ _ _, ?_, ?_, fun i hi => ⟨?_, ?_⟩⟩
  · rw [uw_n (by omega)]; exact a
  · rw [uw_n (by omega)]; exact b
  · rw [uw_n (by omega)]; exact d
  · rw [uw_n (by omega)]; exact e
  · rw [uw_n (by omega)]; exact (f i hi).1
  · rw [uw_n (by omega)]; exact (f i hi).2
theorem RwH.scn {S : Nat → Int32} {h : Nat} {x : HS} (r : RwH S h x) (v : Nat) : RwH (uw S (50 + 21 * h + 3) (nI v)) h (scn x v) := by
  obtain ⟨a, b, c, d, e, f⟩ := r
  refine ⟨?_, ?_, ?_, uw_s _ _ _, ?_, fun i hi => ⟨?_, ?_⟩⟩
  · rw [uw_n (by omega)]; exact a
  · rw [uw_n (by omega)]; exact b
  · rw [uw_n (by omega)]; exact c
  · rw [uw_n (by omega)]; exact e
  · rw [uw_n (by omega)]; exact (f i hi).1
  · rw [uw_n (by omega)]; exact (f i hi).2
theorem RwH.sns {S : Nat → Int32} {h : Nat} {x : HS} (r : RwH S h x) {v : Nat} (hv : v ≤ nsH x) : RwH (uw S (50 + 21 * h + 4) (nI v)) h (sns x v) := by
  obtain ⟨a, b, c, d, e, f⟩ := r
  refine ⟨?_, ?_, ?_, ?_, uw_s _ _ _, fun i hi => ⟨?_, ?_⟩⟩
  · rw [uw_n (by omega)]; exact a
  · rw [uw_n (by omega)]; exact b
  · rw [uw_n (by omega)]; exact c
  · rw [uw_n (by omega)]; exact d
  · rw [uw_n (by omega)]; exact (f i (Nat.lt_of_lt_of_le hi hv)).1
  · rw [uw_n (by omega)]; exact (f i (Nat.lt_of_lt_of_le hi hv)).2
theorem RwH.swy {S : Nat → Int32} {h : Nat} {x : HS} (r : RwH S h x) {i0 : Nat} (h0 : i0 < 8) (hn : nsH x ≤ 8) (v : Nat) : RwH (uw S (50 + 21 * h + (5 + i0)) (nI v)) h (swy x i0 v) := by
  obtain ⟨a, b, c, d, e, f⟩ := r
  refine ⟨?_, ?_, ?_, ?_, ?_, fun i hi => ⟨?_, ?_⟩⟩
  · rw [uw_n (by omega)]; exact a
  · rw [uw_n (by omega)]; exact b
  · rw [uw_n (by omega)]; exact c
  · rw [uw_n (by omega)]; exact d
  · rw [uw_n (by omega)]; exact e
  · show _ = nI (if i = i0 then v else wyH x i)
    by_cases q : i = i0
    · subst q; rw [uw_s, if_pos rfl]
    · rw [uw_n (by omega), if_neg q]; exact (f i hi).1
  · have hi2 : i < 8 := Nat.lt_of_lt_of_le hi hn
    rw [uw_n (by omega)]; exact (f i hi).2
theorem RwH.sln {S : Nat → Int32} {h : Nat} {x : HS} (r : RwH S h x) {i0 : Nat} (h0 : i0 < 8) (hn : nsH x ≤ 8) (v : Nat) : RwH (uw S (50 + 21 * h + (13 + i0)) (nI v)) h (sln x i0 v) := by
  obtain ⟨a, b, c, d, e, f⟩ := r
  refine ⟨?_, ?_, ?_, ?_, ?_, fun i hi => ⟨?_, ?_⟩⟩
  · rw [uw_n (by omega)]; exact a
  · rw [uw_n (by omega)]; exact b
  · rw [uw_n (by omega)]; exact c
  · rw [uw_n (by omega)]; exact d
  · rw [uw_n (by omega)]; exact e
  · have hi2 : i < 8 := Nat.lt_of_lt_of_le hi hn
    rw [uw_n (by omega)]; exact (f i hi).1
  · show _ = nI (if i = i0 then v else lnH x i)
    by_cases q : i = i0
    · subst q; rw [uw_s, if_pos rfl]
    · rw [uw_n (by omega), if_neg q]; exact (f i hi).2
theorem Rw_up {S : Nat → Int32} {t : St} (hw : Wf t) (hR : Rw S t) {h k : Nat} (hk : k < 21) {x : HS} {v : Int32} (hx : RwH (uw S (50 + 21 * h + k) v) h x) : Rw (uw S (50 + 21 * h + k) v) (upH t h x) :=
  Rw_h hw hR (fun j hj => uw_n (by omega)) hx
/-! a hand more, a stroke more -/
def nH (k c : Nat) : HS := (k, c, 30, 0, 0, (fun _ => 0), fun _ => 0)
def adH (t : St) (x : HS) : St := (nS t + 1, yS t, sS t, fun k => if k = nS t then x else hS t k)
theorem WfH.n {k c : Nat} (hk : k < 6) (hc : c < 48) : WfH (nH k c) := ⟨hk, hc, (by decide : 30 ≤ 999), (by decide : 0 ≤ 99999), (by decide : 0 ≤ 8), fun i hi => absurd hi (Nat.not_lt_zero _)⟩
theorem Wf.ad {t : St} (hw : Wf t) (hn : nS t < 6) {x : HS} (hx : WfH x) : Wf (adH t x) := ⟨hn, hw.2.1, fun k hk => by
  show WfH (if k = nS t then x else hS t k)
  by_cases e : k = nS t
  · rw [if_pos e]; exact hx
  · rw [if_neg e]; exact hw.2.2 k (by have : k < nS t + 1 := hk; omega)⟩
theorem p_adL (kk : Nm → Option (Int32 × Nm)) (v1 v2 : Int32) {h : Nat} (hh : h < 6) : ∀ (n f i : Nat) (M : Nm), i + n = 21 → n < f → (∀ j, j < i → M.1 87 (50 + 21 * h + j) = 0) → ∃ M', f_M_adds_L10 kk v1 v2 (nI h) f (nI i) M = kk M' ∧ Sd M M' ∧ M'.1 94 = M.1 94 ∧ M'.1 95 = M.1 95 ∧ M'.2.1 = M.2.1 ∧ (∀ j, (j < 50 + 21 * h ∨ 50 + 21 * h + 21 ≤ j) → M'.1 87 j = M.1 87 j) ∧ ∀ j, j < 21 → M'.1 87 (50 + 21 * h + j) = 0 := by
  intro n
  induction n with
  | zero =>
    intro f i M hi hf h0
    obtain ⟨f, rfl⟩ : ∃ g, f = g + 1 := ⟨f - 1, by omega⟩
    have : i = 21 := by omega
    subst this
    exact ⟨M, by rw [f_M_adds_L10, if_pos (by decide)], Sd.rf M, rfl, rfl, rfl, fun _ _ => rfl, h0⟩
  | succ n ih =>
    intro f i M hi hf h0
    obtain ⟨f, rfl⟩ : ∃ g, f = g + 1 := ⟨f - 1, by omega⟩
    obtain ⟨M', e1, e2, e3, e4, e5, e6, e7⟩ := ih f (i + 1) (mI M 87 (50 + 21 * h + i) 0) (by omega) (by omega) (fun j hj => by
      rw [mI_u]
      by_cases q : j = i
      · subst q; exact uw_s _ _ _
      · rw [uw_n (by omega)]; exact h0 j (by omega))
    refine ⟨M', ?_, Sd.tr Sd.p e2, e3, e4, e5, fun j hj => ?_, e7⟩
    · rw [f_M_adds_L10, if_neg (show ¬ (21 : Int32) ≤ nI i from nI_ge (b := 21) (by omega) (by decide)), p_spot, bnd_s, grd_h (inb_nI (by omega) (by decide)), bl_e, ix_nI (by omega), nI_1]
      exact e1
    · rw [e6 j hj, mI_u, uw_n (by omega)]
theorem p_adds {t : St} (hw : Wf t) (hn : nS t < 6) {k c : Nat} (M : Nm) (hR : Rw (M.1 87) t) : ∃ M', f_M_adds (nI k) (nI c) M = some (nI (nS t), M') ∧ Sd M M' ∧ Rw (M'.1 87) (adH t (nH k c)) := by
  unfold f_M_adds
  rw [g0, ix0, hR.1]
  obtain ⟨M1, e1, e2, e3, e4, e5, e6, e7⟩ := p_adL (fun M4 => bnd (f_M_spot (nI (nS t)) 0 M4) fun r5 M6 => grd (inb r5 176) <| bl (mI M6 87 (ix r5) (nI k)) fun M7 => bnd (f_M_spot (nI (nS t)) 1 M7) fun r8 M9 => grd (inb r8 176) <| bl (mI M9 87 (ix r8) (nI c)) fun M10 => bnd (f_M_spot (nI (nS t)) 2 M10) fun r11 M12 => grd (inb r11 176) <| bl (mI M12 87 (ix r11) 30) fun M13 => grd (inb 0 176) <| grd (inb 0 176) <| bl (mI M13 87 0 ((M13.1 87 0) + 1)) fun M14 => some (nI (nS t), M14)) (nI k) (nI c) hn 21 FU 0 M rfl (FU_gt (by decide)) (fun j hj => by omega)
  refine ⟨mI (mI (mI (mI M1 87 (50 + 21 * nS t + 0) (nI k)) 87 (50 + 21 * nS t + 1) (nI c)) 87 (50 + 21 * nS t + 2) 30) 87 0 (nI (nS t + 1)), Eq.trans e1 ?_, Sd.tr e2 (Sd.tr Sd.p (Sd.tr Sd.p (Sd.tr Sd.p Sd.p))), ?_⟩
  · rw [show f_M_spot (nI (nS t)) 0 M1 = some (nI (50 + 21 * nS t + 0), M1) from p_spot (nS t) 0 M1, bnd_s, grd_h (inb_nI (by omega) (by decide)), bl_e, ix_nI (by omega)]
    rw [show ∀ M, f_M_spot (nI (nS t)) 1 M = some (nI (50 + 21 * nS t + 1), M) from fun M => p_spot (nS t) 1 M, bnd_s, grd_h (inb_nI (by omega) (by decide)), bl_e, ix_nI (by omega)]
    rw [show ∀ M, f_M_spot (nI (nS t)) 2 M = some (nI (50 + 21 * nS t + 2), M) from fun M => p_spot (nS t) 2 M, bnd_s, grd_h (inb_nI (by omega) (by decide)), bl_e, ix_nI (by omega)]
    rw [g0, g0, bl_e]
    have : (mI (mI (mI M1 87 (50 + 21 * nS t + 0) (nI k)) 87 (50 + 21 * nS t + 1) (nI c)) 87 (50 + 21 * nS t + 2) 30).1 87 0 = nI (nS t) := by
      rw [mI_u, uw_n (by omega), mI_u, uw_n (by omega), mI_u, uw_n (by omega), e6 0 (by omega), hR.1]
    rw [this, nI_1]
  · rw [mI_u, mI_u, mI_u, mI_u]
    have hf : ∀ j, j ≠ 0 → (j < 50 + 21 * nS t ∨ 50 + 21 * nS t + 21 ≤ j) → uw (uw (uw (uw (M1.1 87) (50 + 21 * nS t + 0) (nI k)) (50 + 21 * nS t + 1) (nI c)) (50 + 21 * nS t + 2) 30) 0 (nI (nS t + 1)) j = M.1 87 j := by
      intro j h0 hj
      rw [uw_n h0, uw_n (by omega), uw_n (by omega), uw_n (by omega), e6 j hj]
    refine ⟨uw_s _ _ _, ?_, fun d hd => ?_, fun h hh => ?_⟩
    · rw [hf 1 (by decide) (by omega)]; exact hR.2.1
    · rw [hf (2 + d) (by omega) (by omega)]; exact hR.2.2.1 d hd
    · show RwH _ h (if h = nS t then nH k c else hS t h)
      by_cases q : h = nS t
      · subst q
        rw [if_pos rfl]
        refine ⟨?_, ?_, ?_, ?_, ?_, fun i hi => absurd hi (Nat.not_lt_zero _)⟩
        · rw [uw_n (by omega), uw_n (by omega), uw_n (by omega), uw_s]; rfl
        · rw [uw_n (by omega), uw_n (by omega), uw_s]; rfl
        · rw [uw_n (by omega), uw_s]; rfl
        · rw [uw_n (by omega), uw_n (by omega), uw_n (by omega), uw_n (by omega), e7 3 (by decide)]; rfl
        · rw [uw_n (by omega), uw_n (by omega), uw_n (by omega), uw_n (by omega), e7 4 (by decide)]; rfl
      · rw [if_neg q]
        have hh2 : h < nS t + 1 := hh
        exact RwH_f (hR.2.2.2 h (by omega)) (hw.2.2 h (by omega)).2.2.2.2.1 (fun j h1 h2 => hf j (by omega) (by omega))
/-- a stroke more -/
def adS (x : HS) (w l : Nat) : HS := (x.1, x.2.1, x.2.2.1, x.2.2.2.1, nsH x + 1, (fun k => if k = nsH x then w else wyH x k), (fun k => if k = nsH x then l else lnH x k))
theorem WfH.ad {x : HS} (h : WfH x) (hn : nsH x < 8) {w l : Nat} (hw : w < 4) (hl : 1 ≤ l ∧ l ≤ 7) : WfH (adS x w l) := ⟨h.1, h.2.1, h.2.2.1, h.2.2.2.1, hn, fun i hi => by
  show (if i = nsH x then w else wyH x i) < 4 ∧ 1 ≤ (if i = nsH x then l else lnH x i) ∧ (if i = nsH x then l else lnH x i) ≤ 7
  by_cases e : i = nsH x
  · rw [if_pos e, if_pos e]; exact ⟨hw, hl⟩
  · rw [if_neg e, if_neg e]
    have hi2 : i < nsH x + 1 := hi
    exact h.2.2.2.2.2 i (by omega)⟩
theorem p_strokes {t : St} (hw : Wf t) {h : Nat} (hh : h < nS t) (hn : nsH (hS t h) < 8) {w l : Nat} (M : Nm) (hR : Rw (M.1 87) t) : ∃ M', f_M_strokes (nI h) (nI w) (nI l) M = some (nI (nsH (hS t h) + 1), M') ∧ Sd M M' ∧ Rw (M'.1 87) (upH t h (adS (hS t h) w l)) := by
  have h6 := hw.1
  unfold f_M_strokes
  obtain ⟨a, b, c, d, e, f⟩ := hR.2.2.2 h hh
  have e5 : ∀ i, (5 : Int32) + nI i = nI (5 + i) := fun i => nI_add 5 i
  have e13 : ∀ i, (13 : Int32) + nI i = nI (13 + i) := fun i => nI_add 13 i
  rw [p_its4 (by omega), bnd_s, e, e5, p_spot, bnd_s, grd_h (inb_nI (by omega) (by decide)), bl_e, ix_nI (by omega), e13, p_spot, bnd_s, grd_h (inb_nI (by omega) (by decide)), bl_e, ix_nI (by omega)]
  rw [show ∀ M, f_M_spot (nI h) 4 M = some (nI (50 + 21 * h + 4), M) from fun M => p_spot h 4 M, bnd_s, grd_h (inb_nI (by omega) (by decide)), grd_h (inb_nI (by omega) (by decide)), bl_e, ix_nI (by omega), nI_1]
  refine ⟨_, rfl, Sd.tr Sd.p (Sd.tr Sd.p Sd.p), ?_⟩
  rw [mI_u, mI_u, mI_u, uw_n (by omega), uw_n (by omega), e, nI_1]
  refine Rw_h hw hR (fun j hj => ?_) ⟨?_, ?_, ?_, ?_, uw_s _ _ _, fun i hi => ?_⟩
  · rw [uw_n (by omega), uw_n (by omega), uw_n (by omega)]
  · rw [uw_n (by omega), uw_n (by omega), uw_n (by omega)]; exact a
  · rw [uw_n (by omega), uw_n (by omega), uw_n (by omega)]; exact b
  · rw [uw_n (by omega), uw_n (by omega), uw_n (by omega)]; exact c
  · rw [uw_n (by omega), uw_n (by omega), uw_n (by omega)]; exact d
  · have hi2 : i < nsH (hS t h) + 1 := hi
    show _ = nI (if i = nsH (hS t h) then w else wyH (hS t h) i) ∧ _ = nI (if i = nsH (hS t h) then l else lnH (hS t h) i)
    by_cases q : i = nsH (hS t h)
    · subst q
      rw [if_pos rfl, if_pos rfl]
      refine ⟨?_, ?_⟩
      · rw [uw_n (by omega), uw_n (by omega), uw_s]
      · rw [uw_n (by omega), uw_s]
    · rw [if_neg q, if_neg q]
      refine ⟨?_, ?_⟩
      · rw [uw_n (by omega), uw_n (by omega), uw_n (by omega)]; exact (f i (by omega)).1
      · rw [uw_n (by omega), uw_n (by omega), uw_n (by omega)]; exact (f i (by omega)).2
