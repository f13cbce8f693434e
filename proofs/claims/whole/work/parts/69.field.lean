/-! the class: the field told in a text -/
def PC (z : Nat) (p : Nat → Nat) (M : Nm) (r : Option (Int32 × Nm)) : (St × Nat) ⊕ Nat → Prop
  | .inl (t, a) => ∃ M', r = some (1, M') ∧ F2 M M' ∧ Lc z p M' a ∧ LandU 30 M' t ∧ Wf t
  | .inr e => ∃ M', r = some (0, M') ∧ F2 M M' ∧ Lc z p M' e ∧ Ca 30 M'
theorem PC.f {z : Nat} {p : Nat → Nat} {M M1 : Nm} {r : Option (Int32 × Nm)} {o : (St × Nat) ⊕ Nat} (h : F2 M M1) (hr : PC z p M1 r o) : PC z p M r o := by
  cases o with
  | inl q =>
    obtain ⟨t, a⟩ := q
    obtain ⟨M', b1, b2, b3, b4, b5⟩ := hr
    exact ⟨M', b1, F2.tr h b2, b3, b4, b5⟩
  | inr e =>
    obtain ⟨M', b1, b2, b3, b4⟩ := hr
    exact ⟨M', b1, F2.tr h b2, b3, b4⟩
theorem p_takeSmudge {z : Nat} {p : Nat → Nat} {t : St} (hw : Wf t) {M : Nm} {a : Nat} (h : Lc z p M a) (hl : LandU 30 M t) (b : Bool) : PC z p M (f_T_takeSmudge 30 (bI b) M) (smF z p b t (nx z p a)) := by
  obtain ⟨M1, a1, a2, a3⟩ := p_next h
  have hl1 := hl.r hw.1 a2 (by omega)
  obtain ⟨n1, n2⟩ := p_isNumber a3 (lo := 0) (hi := 47) (by decide) (by decide)
  refine PC.f a2.f7 ?_
  unfold f_T_takeSmudge smF
  rw [a1, bnd_s, show f_T_isNumber 0 47 M1 = _ from n1, bnd_s]
  by_cases q : nuO z p (nx z p a) 0 47 = true
  · have hv := (nuO_le q).2
    rw [if_neg (bI_t q), if_pos (show nuO z p (nx z p a) 0 47 = true from q), n2 q, p_makeSmudged, bnd_s, hl1.1]
    have hF : Fr 30 52 M1 (mL M1 30 0 (if bI b = 0 then sS t &&& (bit1 (nuV z p (nx z p a)) ^^^ (-1)) else sS t ||| bit1 (nuV z p (nx z p a)))) := Fr.l (by omega) (by omega)
    have hl2 := hl1.sm (if bI b = 0 then sS t &&& (bit1 (nuV z p (nx z p a)) ^^^ (-1)) else sS t ||| bit1 (nuV z p (nx z p a)))
    rw [sm_x] at hl2
    obtain ⟨M3, c1, c2, c3⟩ := p_next (a3.r hF)
    rw [c1, bnd_s]
    exact ⟨M3, rfl, F2.tr hF.f3 c2.f7, c3, hl2.r hw.1 c2 (by omega), wf_smS hw (by omega) b⟩
  · rw [if_pos (bI_f (nf q)), if_neg (show ¬ nuO z p (nx z p a) 0 47 = true from q)]
    exact ⟨M1, rfl, F2.rf M1, a3, hl1.ca⟩
/-- strokes as the class takes them: at most n more -/
def strC (z : Nat) (p : Nat → Nat) (h : Nat) : Nat → St → Nat → (St × Nat) ⊕ Nat
  | 0, t, a => .inl (t, a)
  | n + 1, t, a => match wwN z p a with
    | none => .inl (t, a)
    | some w => if nuO z p (nx z p a) 1 7 then strC z p h n (upH t h (adS (hS t h) w (nuV z p (nx z p a)))) (nx z p (nx z p a)) else .inr (nx z p a)
theorem strC_s (z : Nat) (p : Nat → Nat) (h n : Nat) (t : St) (a : Nat) : strC z p h (n + 1) t a = match wwN z p a with
    | none => .inl (t, a)
    | some w => if nuO z p (nx z p a) 1 7 then strC z p h n (upH t h (adS (hS t h) w (nuV z p (nx z p a)))) (nx z p (nx z p a)) else .inr (nx z p a) := rfl
theorem p_tsL {z : Nat} {p : Nat → Nat} {h : Nat} : ∀ (n f i : Nat) (t : St) (a : Nat) (M : Nm), Wf t → h < nS t → Lc z p M a → LandU 30 M t → nsH (hS t h) = i → i + n = 8 → n < f → PC z p M (f_T_takeStrokes_L2 (ho 30 h) f (nI i) M) (strC z p h n t a) := by
  intro n
  induction n with
  | zero =>
    intro f i t a M hw hh hL hl hs hi hf
    obtain ⟨f, rfl⟩ : ∃ g, f = g + 1 := ⟨f - 1, by omega⟩
    rw [f_T_takeStrokes_L2, if_pos (show (8 : Int32) ≤ nI i from nI_le (a := 8) (by omega) (by omega))]
    exact ⟨M, rfl, F2.rf M, hL, hl, hw⟩
  | succ n ih =>
    intro f i t a M hw hh hL hl hs hi hf
    obtain ⟨f, rfl⟩ : ∃ g, f = g + 1 := ⟨f - 1, by omega⟩
    have h6 := hw.1
    rw [f_T_takeStrokes_L2, if_neg (show ¬ (8 : Int32) ≤ nI i from nI_ge (b := 8) (by omega) (by decide)), p_wayNamed hL, bnd_s, strC_s, nI_1]
    cases e : wwN z p a with
    | none =>
      rw [show oI none = -1 from rfl, if_neg (by decide)]
      exact ⟨M, rfl, F2.rf M, hL, hl, hw⟩
    | some w =>
      have hw4 := wwN_lt e
      obtain ⟨M1, a1, a2, a3⟩ := p_next hL
      have hl1 := hl.r hw.1 a2 (by omega)
      obtain ⟨n1, n2⟩ := p_isNumber a3 (lo := 1) (hi := 7) (by decide) (by decide)
      dsimp only
      rw [show oI (some w) = nI w from rfl, if_pos (nI_pos' (by omega)), a1, bnd_s, show f_T_isNumber 1 7 M1 = _ from n1, bnd_s]
      refine PC.f a2.f7 ?_
      by_cases q : nuO z p (nx z p a) 1 7 = true
      · have hv := nuO_le q
        have hx := hw.2.2 h hh
        obtain ⟨M2, b1, b2, b3, b4⟩ := p_addStroke (hl1.2.2.2.1 h hh) (show nsH (hS t h) < 8 by omega) w (nuV z p (nx z p a))
        have hF := Fr.hd (d := 30) (h := h) (by omega) b2
        have hl2 := hl1.up b2 b3 (by rw [b4]; exact hl1.2.2.2.2 h (by omega))
        obtain ⟨M3, c1, c2, c3⟩ := p_next (a3.r hF)
        have hw2 : Wf (upH t h (adS (hS t h) w (nuV z p (nx z p a)))) := hw.up (hx.ad (show nsH (hS t h) < 8 by omega) hw4 hv)
        rw [if_neg (bI_t q), if_pos (show nuO z p (nx z p a) 1 7 = true from q), n2 q, b1, bnd_s, c1, bnd_s]
        refine PC.f (F2.tr (Fr.f3 hF) c2.f7) (ih f (i + 1) _ _ M3 hw2 hh c3 (hl2.r hw2.1 c2 (by omega)) ?_ (by omega) (by omega))
        rw [upH_s]
        show nsH (hS t h) + 1 = i + 1
        omega
      · rw [if_pos (bI_f (nf q)), if_neg (show ¬ nuO z p (nx z p a) 1 7 = true from q)]
        exact ⟨M1, rfl, F2.rf M1, a3, hl1.ca⟩
def inkC (z : Nat) (p : Nat → Nat) (h : Nat) (t : St) (a : Nat) : (St × Nat) ⊕ Nat := if isW z p a inW then (if nuO z p (nx z p a) 0 999 then strC z p h 8 (upH t h (sik (hS t h) (nuV z p (nx z p a)))) (nx z p (nx z p a)) else .inr (nx z p a)) else strC z p h 8 t a
def hanC (z : Nat) (p : Nat → Nat) (k : Nat) (t : St) (a : Nat) : (St × Nat) ⊕ Nat := if nS t < 6 then (if isW z p (nx z p a) atW then (if nuO z p (nx z p (nx z p a)) 0 47 then inkC z p (nS t) (adH t (nH k (nuV z p (nx z p (nx z p a))))) (nx z p (nx z p (nx z p a))) else .inr (nx z p (nx z p a))) else .inr (nx z p a)) else .inr a
def itC (z : Nat) (p : Nat → Nat) (t : St) (a : Nat) : (St × Nat) ⊕ Nat := match kwN z p a with
  | some k => hanC z p k t a
  | none => siF z p t a
theorem p_inkC {z : Nat} {p : Nat → Nat} {h : Nat} {t : St} {a : Nat} {M : Nm} (hw : Wf t) (hh : h < nS t) (h0 : nsH (hS t h) = 0) (hL : Lc z p M a) (hl : LandU 30 M t) : PC z p M (bnd (f_T_takeInk (ho 30 h) M) fun r15 M16 => if r15 = 0 then (some (0, M16)) else (bnd (f_T_takeStrokes (ho 30 h) M16) fun r17 M18 => if r17 = 0 then (some (0, M18)) else (some (1, M18)))) (inkC z p h t a) := by
  have h6 := hw.1
  have key : ∀ (t' : St) (a' : Nat) (M' : Nm), Wf t' → h < nS t' → nsH (hS t' h) = 0 → Lc z p M' a' → LandU 30 M' t' → PC z p M' (bnd (f_T_takeStrokes (ho 30 h) M') fun r17 M18 => if r17 = 0 then (some (0, M18)) else (some (1, M18))) (strC z p h 8 t' a') := by
    intro t' a' M' w1 w2 w3 w4 w5
    have := p_tsL 8 FU 0 t' a' M' w1 w2 w4 w5 w3 rfl (FU_gt (by decide))
    unfold f_T_takeStrokes
    rw [show (0 : Int32) = nI 0 from rfl]
    cases e : strC z p h 8 t' a' with
    | inl q =>
      obtain ⟨t2, a2⟩ := q
      rw [e] at this
      obtain ⟨M2, b1, b2, b3, b4, b5⟩ := this
      rw [b1, bnd_s, if_neg (by decide)]
      exact ⟨M2, rfl, b2, b3, b4, b5⟩
    | inr q =>
      rw [e] at this
      obtain ⟨M2, b1, b2, b3, b4⟩ := this
      rw [b1, bnd_s, if_pos (by decide)]
      exact ⟨M2, rfl, b2, b3, b4⟩
  unfold f_T_takeInk inkC
  rw [p_isWord hL (w := 9) (by decide), bnd_s, show wl.getD 9 [] = inW from rfl]
  by_cases q : isW z p a inW = true
  · obtain ⟨M1, a1, a2, a3⟩ := p_next hL
    have hl1 := hl.r hw.1 a2 (by omega)
    obtain ⟨n1, n2⟩ := p_isNumber a3 (lo := 0) (hi := 999) (by decide) (by decide)
    rw [if_neg (bI_t q), if_pos (show isW z p a inW = true from q), a1, bnd_s, show f_T_isNumber 0 999 M1 = _ from n1, bnd_s]
    refine PC.f a2.f7 ?_
    by_cases q2 : nuO z p (nx z p a) 0 999 = true
    · have hv := (nuO_le q2).2
      have hF : Fr (ho 30 h) (ho 30 h + 3) M1 (mI M1 (ho 30 h) 2 (nI (nuV z p (nx z p a)))) := Fr.i (Nat.le_refl _) (by omega)
      have hF3 := Fr.hd (d := 30) (h := h) (by omega) hF
      have hl2 := hl1.up hF ((hl1.2.2.2.1 h hh).ik (nuV z p (nx z p a))) (hl1.2.2.2.2 h (by omega))
      have hw2 : Wf (upH t h (sik (hS t h) (nuV z p (nx z p a)))) := hw.up ((hw.2.2 h hh).sik hv)
      obtain ⟨M3, c1, c2, c3⟩ := p_next (a3.r hF3)
      rw [if_neg (bI_t q2), if_pos (show nuO z p (nx z p a) 0 999 = true from q2), n2 q2, bl_e, c1, bnd_s, bnd_s, if_neg (by decide)]
      exact PC.f (F2.tr (Fr.f3 hF3) c2.f7) (key _ _ M3 hw2 hh (by rw [upH_s]; exact h0) c3 (hl2.r hw2.1 c2 (by omega)))
    · rw [if_pos (bI_f (nf q2)), if_neg (show ¬ nuO z p (nx z p a) 0 999 = true from q2), bnd_s, if_pos rfl]
      exact ⟨M1, rfl, F2.rf M1, a3, hl1.ca⟩
  · rw [if_pos (bI_f (nf q)), if_neg (show ¬ isW z p a inW = true from q), bnd_s, if_neg (by decide)]
    exact key t a M hw hh h0 hL hl
theorem p_takeHand {z : Nat} {p : Nat → Nat} {t : St} {a : Nat} {M : Nm} (hw : Wf t) (hn : nS t < 6) {k : Nat} (hk : k < 6) (hL : Lc z p M a) (hl : LandU 30 M t) : PC z p M (f_T_takeHand 30 (kc k) M) (hanC z p k t a) := by
  obtain ⟨M1, a1, a2, a3⟩ := p_next hL
  have hl1 := hl.r hw.1 a2 (by omega)
  unfold f_T_takeHand hanC
  rw [if_pos (show nS t < 6 from hn), a1, bnd_s, p_isWord a3 (w := 8) (by decide), bnd_s, show wl.getD 8 [] = atW from rfl]
  refine PC.f a2.f7 ?_
  by_cases q : isW z p (nx z p a) atW = true
  · obtain ⟨M2, b1, b2, b3⟩ := p_next a3
    have hl2 := hl1.r hw.1 b2 (by omega)
    obtain ⟨n1, n2⟩ := p_isNumber b3 (lo := 0) (hi := 47) (by decide) (by decide)
    rw [if_neg (bI_t q), if_pos (show isW z p (nx z p a) atW = true from q), b1, bnd_s, show f_T_isNumber 0 47 M2 = _ from n1, bnd_s]
    refine PC.f b2.f7 ?_
    by_cases q2 : nuO z p (nx z p (nx z p a)) 0 47 = true
    · have hv := (nuO_le q2).2
      have hc : nuV z p (nx z p (nx z p a)) < 48 := by omega
      obtain ⟨M3, c1, c2, c3⟩ := p_newHandU hw hl2 hn hk hc
      have hw3 : Wf (adH t (nH k (nuV z p (nx z p (nx z p a))))) := hw.ad hn (WfH.n hk hc)
      obtain ⟨M4, d1, d2, d3⟩ := p_next (b3.r c2)
      rw [if_neg (bI_t q2), if_pos (show nuO z p (nx z p (nx z p a)) 0 47 = true from q2), n2 q2, c1, bnd_s, ifn_s, grd_h (isb_ho is30 hn), d1, bnd_s]
      refine PC.f (F2.tr (Fr.f3 c2) d2.f7) (p_inkC hw3 (show nS t < nS t + 1 by omega) ?_ d3 (c3.r hw3.1 d2 (by omega)))
      show nsH (if nS t = nS t then nH k (nuV z p (nx z p (nx z p a))) else hS t (nS t)) = 0
      rw [if_pos rfl]
      rfl
    · rw [if_pos (bI_f (nf q2)), if_neg (show ¬ nuO z p (nx z p (nx z p a)) 0 47 = true from q2)]
      exact ⟨M2, rfl, F2.rf M2, b3, hl2.ca⟩
  · rw [if_pos (bI_f (nf q)), if_neg (show ¬ isW z p (nx z p a) atW = true from q)]
    exact ⟨M1, rfl, F2.rf M1, a3, hl1.ca⟩
theorem isW_2 {z : Nat} {p : Nat → Nat} {a : Nat} {l m : List Nat} (h1 : isW z p a l = true) (h2 : isW z p a m = true) : l.length = m.length ∧ ∀ i, i < l.length → l.getD i 0 = m.getD i 0 := by
  unfold isW at h1 h2
  simp only [Bool.and_eq_true, decide_eq_true_eq] at h1 h2
  have e : l.length = m.length := by omega
  exact ⟨e, fun i hi => by rw [← h1.2.2 i hi, ← h2.2.2 i (by omega)]⟩
theorem isW_n {z : Nat} {p : Nat → Nat} {a : Nat} {l m : List Nat} (h1 : isW z p a l = true) (h : ¬ (l.length = m.length ∧ ∀ i, i < l.length → l.getD i 0 = m.getD i 0)) : isW z p a m = false := nf (fun y => h (isW_2 h1 y))
theorem kw_n {z : Nat} {p : Nat → Nat} {a : Nat} {l : List Nat} (h1 : isW z p a l = true) (h : ∀ k, k < 6 → ¬ (l.length = (wl.getD k []).length ∧ ∀ i, i < l.length → l.getD i 0 = (wl.getD k []).getD i 0)) : kwN z p a = none := by
  rw [← kwC_N]
  have key : ∀ n k, k + n = 6 → kwC z p a n k = none := by
    intro n
    induction n with
    | zero => intro k _; rfl
    | succ n ih =>
      intro k hk
      have hz : kwC z p a (n + 1) k = if isW z p a (wl.getD k []) then some k else kwC z p a n (k + 1) := rfl
      rw [hz, isW_n h1 (h k (by omega)), if_neg (by decide)]
      exact ih (k + 1) (by omega)
  exact key 6 0 rfl
theorem bI_b (r : Option (Int32 × Nm)) {z : Nat} {p : Nat → Nat} {M : Nm} {o : (St × Nat) ⊕ Nat} (h : PC z p M r o) : PC z p M (bnd r fun r13 M14 => grd (decide (r13 = 0) || decide (r13 = 1)) (some (r13, M14))) o := by
  cases o with
  | inl q =>
    obtain ⟨t, a⟩ := q
    obtain ⟨M', b1, b2⟩ := h
    rw [b1, bnd_s, grd_h (by decide)]
    exact ⟨M', rfl, b2⟩
  | inr e =>
    obtain ⟨M', b1, b2⟩ := h
    rw [b1, bnd_s, grd_h (by decide)]
    exact ⟨M', rfl, b2⟩
theorem bI_c (r : Option (Int32 × Nm)) {z : Nat} {p : Nat → Nat} {M : Nm} {o : (St × Nat) ⊕ Nat} (h : PC z p M r o) : PC z p M (bnd r fun r11 M12 => if r11 = 0 then (some (0, M12)) else (some (1, M12))) o := by
  cases o with
  | inl q =>
    obtain ⟨t, a⟩ := q
    obtain ⟨M', b1, b2⟩ := h
    rw [b1, bnd_s, if_neg (by decide)]
    exact ⟨M', rfl, b2⟩
  | inr e =>
    obtain ⟨M', b1, b2⟩ := h
    rw [b1, bnd_s, if_pos rfl]
    exact ⟨M', rfl, b2⟩
theorem p_takeItem {z : Nat} {p : Nat → Nat} {t : St} {a : Nat} {M : Nm} (hw : Wf t) (hL : Lc z p M a) (hl : LandU 30 M t) : PC z p M (f_T_takeItem 30 M) (itC z p t a) := by
  unfold f_T_takeItem itC
  rw [p_isWord hL (w := 6) (by decide), bnd_s, show wl.getD 6 [] = smW from rfl]
  by_cases q : isW z p a smW = true
  · rw [if_neg (bI_t q), kw_n q (by decide)]
    dsimp only
    unfold siF
    rw [if_pos (show isW z p a smW = true from q)]
    exact bI_b _ (p_takeSmudge hw hL hl true)
  · rw [if_pos (bI_f (nf q)), p_isWord hL (w := 7) (by decide), bnd_s, show wl.getD 7 [] = drW from rfl]
    by_cases q2 : isW z p a drW = true
    · rw [if_neg (bI_t q2), kw_n q2 (by decide)]
      dsimp only
      unfold siF
      rw [if_neg (show ¬ isW z p a smW = true from q), if_pos (show isW z p a drW = true from q2)]
      exact bI_b _ (p_takeSmudge hw hL hl false)
    · rw [if_pos (bI_f (nf q2)), p_kindNamed hL, bnd_s]
      cases e : kwN z p a with
      | none =>
        dsimp only
        unfold siF
        rw [if_neg (show ¬ isW z p a smW = true from q), if_neg (show ¬ isW z p a drW = true from q2), show Option.map kc none = none from rfl, ifn_n]
        exact ⟨M, rfl, F2.rf M, hL, hl.ca⟩
      | some k =>
        have hk := kwN_lt e
        have h6 := hw.1
        dsimp only
        rw [show Option.map kc (some k) = some (kc k) from rfl, ifn_s, grd_h (kb_kc k hk), p_isFullU hw hl, bnd_s]
        by_cases q3 : nS t = 6
        · rw [decide_eq_true q3, if_neg (by decide)]
          unfold hanC
          rw [if_neg (show ¬ nS t < 6 by omega)]
          exact ⟨M, rfl, F2.rf M, hL, hl.ca⟩
        · rw [decide_eq_false q3, if_pos (by decide)]
          exact bI_c _ (p_takeHand hw (by omega) hk hL hl)
/-! the class's items and the reference's lead to the same end -/
def KK (z : Nat) (p : Nat → Nat) (m i : Nat) (r : (St × Nat) ⊕ Nat) : (Nat × St) ⊕ Nat := match r with
  | .inr e => .inr e
  | .inl q => ffF z p (m + 1) i q.1 q.2
theorem ww_L {z : Nat} {p : Nat → Nat} {a w : Nat} (h : wwN z p a = some w) : isL z p a = true := by
  unfold wwN at h
  have key : ∀ l, isW z p a l = true → isL z p a = true := by
    intro l hl
    unfold isW at hl
    simp only [Bool.and_eq_true] at hl
    exact hl.1
  split at h
  · next q => exact key _ q
  · split at h
    · next q => exact key _ q
    · split at h
      · next q => exact key _ q
      · split at h
        · next q => exact key _ q
        · simp at h
theorem KK_w {z : Nat} {p : Nat → Nat} {m i : Nat} {t : St} {a w : Nat} (h : wwN z p a = some w) : KK z p m i (.inl (t, a)) = .inr a := by
  have hl := ww_L h
  have hc : ¬ isC z p a = true := by
    unfold isC isL at *
    simp only [Bool.and_eq_true, decide_eq_true_eq] at hl ⊢
    omega
  show ffF z p (m + 1) i t a = .inr a
  rw [ffF_s, if_neg hc, if_pos (isL_z hl)]
theorem KK_str {z : Nat} {p : Nat → Nat} {m i h : Nat} : ∀ (n : Nat) (t : St) (a : Nat), nsH (hS t h) + n = 8 → KK z p m i (strF z p h (n + 1) t a) = KK z p m i (strC z p h n t a) := by
  intro n
  induction n with
  | zero =>
    intro t a hn
    rw [strF_s]
    cases e : wwN z p a with
    | none => rfl
    | some w =>
      dsimp only
      rw [if_neg (by omega)]
      exact (KK_w e).symm
  | succ n ih =>
    intro t a hn
    rw [strF_s, strC_s]
    cases e : wwN z p a with
    | none => rfl
    | some w =>
      dsimp only
      rw [if_pos (by omega)]
      by_cases q : nuO z p (nx z p a) 1 7 = true
      · rw [if_pos q, if_pos q]
        refine ih _ _ ?_
        rw [upH_s]
        show nsH (hS t h) + 1 + n = 8
        omega
      · rw [if_neg q, if_neg q]
theorem KK_it {z : Nat} {p : Nat → Nat} {m i : Nat} (t : St) (a : Nat) : KK z p m i (itF z p t a) = KK z p m i (itC z p t a) := by
  unfold itF itC
  cases kwN z p a with
  | none => rfl
  | some k =>
    dsimp only
    unfold hanF hanC
    by_cases q : nS t < 6
    · rw [if_pos q, if_pos q]
      by_cases q2 : isW z p (nx z p a) atW = true
      · rw [if_pos q2, if_pos q2]
        by_cases q3 : nuO z p (nx z p (nx z p a)) 0 47 = true
        · rw [if_pos q3, if_pos q3]
          have h0 : nsH (hS (adH t (nH k (nuV z p (nx z p (nx z p a))))) (nS t)) = 0 := by
            show nsH (if nS t = nS t then nH k (nuV z p (nx z p (nx z p a))) else hS t (nS t)) = 0
            rw [if_pos rfl]
            rfl
          unfold inkF inkC
          split
          · split
            · refine KK_str 8 _ _ ?_
              rw [upH_s]
              show nsH (hS (adH t (nH k (nuV z p (nx z p (nx z p a))))) (nS t)) + 8 = 8
              omega
            · rfl
          · exact KK_str 8 _ _ (by omega)
        · rw [if_neg q3, if_neg q3]
      · rw [if_neg q2, if_neg q2]
    · rw [if_neg q, if_neg q]
