/-! the reference: a hand's item, the field -/
def strF (z : Nat) (p : Nat → Nat) (h : Nat) : Nat → St → Nat → (St × Nat) ⊕ Nat
  | 0, t, a => .inl (t, a)
  | n + 1, t, a => match wwN z p a with
    | none => .inl (t, a)
    | some w => if nsH (hS t h) < 8 then (if nuO z p (nx z p a) 1 7 then strF z p h n (upH t h (adS (hS t h) w (nuV z p (nx z p a)))) (nx z p (nx z p a)) else .inr (nx z p a)) else .inr a
theorem strF_s (z : Nat) (p : Nat → Nat) (h n : Nat) (t : St) (a : Nat) : strF z p h (n + 1) t a = match wwN z p a with
    | none => .inl (t, a)
    | some w => if nsH (hS t h) < 8 then (if nuO z p (nx z p a) 1 7 then strF z p h n (upH t h (adS (hS t h) w (nuV z p (nx z p a)))) (nx z p (nx z p a)) else .inr (nx z p a)) else .inr a := rfl
theorem wwN_lt {z : Nat} {p : Nat → Nat} {a w : Nat} (h : wwN z p a = some w) : w < 4 := by
  unfold wwN at h
  repeat' split at h
  all_goals first | (simp at h; omega) | simp at h
theorem kwN_lt {z : Nat} {p : Nat → Nat} {a w : Nat} (h : kwN z p a = some w) : w < 6 := by
  unfold kwN at h
  repeat' split at h
  all_goals first | (simp at h; omega) | simp at h
theorem p_stW (v2 : Int32) {M : Nm} (h15 : M.1 86 15 = 1) {f : Nat} (hf : 0 < f) : f_M_handItem_L103 (fun M32 => some ((), M32)) v2 f M = some ((), M) := by
  obtain ⟨f, rfl⟩ : ∃ g, f = g + 1 := ⟨f - 1, by omega⟩
  rw [f_M_handItem_L103, h15, if_neg (by decide)]
theorem p_stL2 {z : Nat} {p : Nat → Nat} {h : Nat} : ∀ (n f : Nat) (t : St) (a : Nat) (M : Nm), Wf t → h < nS t → Lk z p M a → M.1 86 15 = 0 → Rw (M.1 87) t → nsH (hS t h) + n = 9 → n + 1 < f → PR z p M (f_M_handItem_L103 (fun M32 => some ((), M32)) (nI h) f M) (strF z p h n t a) := by
  intro n
  induction n with
  | zero =>
    intro f t a M hw hh hL h15 hR hn hf
    have := (hw.2.2 h hh).2.2.2.2.1
    omega
  | succ n ih =>
    intro f t a M hw hh hL h15 hR hn hf
    obtain ⟨f, rfl⟩ : ∃ g, f = g + 1 := ⟨f - 1, by omega⟩
    have h6 := hw.1
    have r := hR.2.2.2 h hh
    have x5 := (hw.2.2 h hh).2.2.2.2.1
    rw [f_M_handItem_L103, h15, if_pos rfl, p_wayHere hL h15, bnd_s, strF_s]
    cases e : wwN z p a with
    | none =>
      rw [show oI none = -1 from rfl, if_pos (by decide)]
      exact ⟨M, rfl, Gx.rf M, hL, h15, hR⟩
    | some w =>
      have hw4 := wwN_lt e
      rw [show oI (some w) = nI w from rfl, if_neg (nI_pos (by omega)), p_wayHere hL h15, bnd_s, e, show oI (some w) = nI w from rfl, p_its4 (by omega), bnd_s, r.2.2.2.2.1]
      dsimp only
      by_cases q8 : nsH (hS t h) < 8
      · obtain ⟨m1, m2⟩ := p_mustY hL h15
        rw [if_neg (show ¬ (8 : Int32) ≤ nI (nsH (hS t h)) from nI_ge (b := 8) q8 (by decide)), if_pos q8]
        unfold f_M_handItem_B139
        rw [m1, bnd_s]
        have e15 : (tkM M (nx z p a) (tkB z p (nx z p a))).1 86 15 = 0 := by rw [tk15 (by decide)]; exact h15
        have e87 : Rw ((tkM M (nx z p a) (tkB z p (nx z p a))).1 87) t := by rw [tk87]; exact hR
        generalize hM1 : tkM M (nx z p a) (tkB z p (nx z p a)) = M1 at m2 e15 e87
        have hg : Gx M M1 := by rw [← hM1]; exact Gx.k
        refine PR.f hg ?_
        have hn' : f_M_number 1 7 M1 = _ := p_number (lo := 1) (hi := 7) m2 e15 (by decide) (by decide)
        rw [hn', bnd_s]
        by_cases q : nuO z p (nx z p a) 1 7 = true
        · have hvl := nuO_le q
          have hL2 : Lk z p (tkM (mI M1 86 14 (nI (nuV z p (nx z p a)))) (nx z p (nx z p a)) (tkB z p (nx z p (nx z p a)))) (nx z p (nx z p a)) := Lk.n (m2.1.i (by decide)) (tkB_le m2.2.1).2 rfl
          have f15 : (tkM (mI M1 86 14 (nI (nuV z p (nx z p a)))) (nx z p (nx z p a)) (tkB z p (nx z p (nx z p a)))).1 86 15 = 0 := by rw [tk15 (by decide), mI_u, uw_n (by decide)]; exact e15
          have f14 : (tkM (mI M1 86 14 (nI (nuV z p (nx z p a)))) (nx z p (nx z p a)) (tkB z p (nx z p (nx z p a)))).1 86 14 = nI (nuV z p (nx z p a)) := by rw [tk15 (by decide), mI_u, uw_s]
          have f87 : Rw ((tkM (mI M1 86 14 (nI (nuV z p (nx z p a)))) (nx z p (nx z p a)) (tkB z p (nx z p (nx z p a)))).1 87) t := by rw [tk87, mI_o (by decide)]; exact e87
          have hg2 : Gx M1 (tkM (mI M1 86 14 (nI (nuV z p (nx z p a)))) (nx z p (nx z p a)) (tkB z p (nx z p (nx z p a)))) := Gx.tr (Gx.i (by decide)) Gx.k
          rw [if_pos q, if_pos q]
          generalize tkM (mI M1 86 14 (nI (nuV z p (nx z p a)))) (nx z p (nx z p a)) (tkB z p (nx z p (nx z p a))) = M2 at hL2 f15 f14 f87 hg2
          refine PR.f hg2 ?_
          obtain ⟨M3, s1, s2, s3⟩ := p_strokes hw hh q8 (w := w) (l := nuV z p (nx z p a)) M2 f87
          rw [f15, if_pos rfl, f14, s1, bnd_s]
          refine PR.f (Gx.s s2) ?_
          have hns : nsH (hS (upH t h (adS (hS t h) w (nuV z p (nx z p a)))) h) = nsH (hS t h) + 1 := by rw [upH_s]; rfl
          exact ih f _ _ M3 (Wf.up hw (WfH.ad (hw.2.2 h hh) q8 hw4 hvl)) hh (hL2.s s2) (by rw [s2.1 86 (by decide) (by decide) (by decide)]; exact f15) s3 (by rw [hns]; omega) (by omega)
        · rw [if_neg q, if_neg q, mI_u, uw_s, if_neg (by decide), p_stW _ (by rw [mI_u, uw_s]) (by omega)]
          exact ⟨_, rfl, Gx.tr (Gx.i (by decide)) (Gx.i (by decide)), (m2.i (by decide)).i (by decide), by rw [mI_u, uw_s]⟩
      · rw [if_pos (show (8 : Int32) ≤ nI (nsH (hS t h)) from nI_le (a := 8) (by omega) (by omega)), if_neg q8]
        unfold f_M_handItem_B139
        have f15 : (mI M 86 15 1).1 86 15 = 1 := by rw [mI_u, uw_s]
        rw [p_must_n h15, bnd_s, p_number_w f15, bnd_s, f15, if_neg (by decide), p_stW _ f15 (by omega)]
        exact ⟨_, rfl, Gx.i (by decide), hL.i (by decide), f15⟩
def atW : List Nat := [97, 116]
def inW : List Nat := [105, 110, 107]
def inkF (z : Nat) (p : Nat → Nat) (h : Nat) (t : St) (a : Nat) : (St × Nat) ⊕ Nat := if isW z p a inW then (if nuO z p (nx z p a) 0 999 then strF z p h 9 (upH t h (sik (hS t h) (nuV z p (nx z p a)))) (nx z p (nx z p a)) else .inr (nx z p a)) else strF z p h 9 t a
def hanF (z : Nat) (p : Nat → Nat) (k : Nat) (t : St) (a : Nat) : (St × Nat) ⊕ Nat := if nS t < 6 then (if isW z p (nx z p a) atW then (if nuO z p (nx z p (nx z p a)) 0 47 then inkF z p (nS t) (adH t (nH k (nuV z p (nx z p (nx z p a))))) (nx z p (nx z p (nx z p a))) else .inr (nx z p (nx z p a))) else .inr (nx z p a)) else .inr a
def itF (z : Nat) (p : Nat → Nat) (t : St) (a : Nat) : (St × Nat) ⊕ Nat := match kwN z p a with
  | some k => hanF z p k t a
  | none => siF z p t a
theorem p_ink2 {z : Nat} {p : Nat → Nat} {h : Nat} (t : St) (a : Nat) (M : Nm) (hw : Wf t) (hh : h < nS t) (h0 : nsH (hS t h) = 0) (hL : Lk z p M a) (h15 : M.1 86 15 = 0) (hR : Rw (M.1 87) t) : PR z p M (bnd (f_M_word M) fun r11 M12 => if (lg_cmp r11 9675) = 0 then (bnd (f_M_must 1 M12) fun r13 M14 => bnd (f_M_number 0 999 M14) fun r15 M16 => bnd (f_M_spot (nI h) 2 M16) fun r17 M18 => grd (inb r17 176) <| bl (mI M18 87 (ix r17) (M18.1 86 14)) fun M19 => f_M_handItem_L103 (fun M32 => some ((), M32)) (nI h) FU M19) else (f_M_handItem_L103 (fun M33 => some ((), M33)) (nI h) FU M12)) (inkF z p h t a) := by
  have h6 := hw.1
  have hF : 10 < FU := FU_gt (by decide)
  rw [p_word hL h15, bnd_s, ite_iff (wv_W (p := p) hL.2.1 inW (C := 9675) (c := 9675) (ltr_l (by decide)) (by decide) (by decide) (by decide) rfl)]
  unfold inkF
  by_cases e : isW z p a inW = true
  · obtain ⟨m1, m2⟩ := p_mustY hL h15
    rw [if_pos e, if_pos e, m1, bnd_s]
    have e15 : (tkM M (nx z p a) (tkB z p (nx z p a))).1 86 15 = 0 := by rw [tk15 (by decide)]; exact h15
    have e87 : Rw ((tkM M (nx z p a) (tkB z p (nx z p a))).1 87) t := by rw [tk87]; exact hR
    generalize hM1 : tkM M (nx z p a) (tkB z p (nx z p a)) = M1 at m2 e15 e87
    have hg : Gx M M1 := by rw [← hM1]; exact Gx.k
    refine PR.f hg ?_
    have hn' : f_M_number 0 999 M1 = _ := p_number (lo := 0) (hi := 999) m2 e15 (by decide) (by decide)
    rw [hn', bnd_s, show ∀ M, f_M_spot (nI h) 2 M = some (nI (50 + 21 * h + 2), M) from fun M => p_spot h 2 M, bnd_s, grd_h (inb_nI (by omega) (by decide)), bl_e, ix_nI (by omega)]
    by_cases q : nuO z p (nx z p a) 0 999 = true
    · have hvl := nuO_le q
      have hL2 : Lk z p (tkM (mI M1 86 14 (nI (nuV z p (nx z p a)))) (nx z p (nx z p a)) (tkB z p (nx z p (nx z p a)))) (nx z p (nx z p a)) := Lk.n (m2.1.i (by decide)) (tkB_le m2.2.1).2 rfl
      have f15 : (tkM (mI M1 86 14 (nI (nuV z p (nx z p a)))) (nx z p (nx z p a)) (tkB z p (nx z p (nx z p a)))).1 86 15 = 0 := by rw [tk15 (by decide), mI_u, uw_n (by decide)]; exact e15
      have f14 : (tkM (mI M1 86 14 (nI (nuV z p (nx z p a)))) (nx z p (nx z p a)) (tkB z p (nx z p (nx z p a)))).1 86 14 = nI (nuV z p (nx z p a)) := by rw [tk15 (by decide), mI_u, uw_s]
      have f87 : Rw ((tkM (mI M1 86 14 (nI (nuV z p (nx z p a)))) (nx z p (nx z p a)) (tkB z p (nx z p (nx z p a)))).1 87) t := by rw [tk87, mI_o (by decide)]; exact e87
      have hg2 : Gx M1 (tkM (mI M1 86 14 (nI (nuV z p (nx z p a)))) (nx z p (nx z p a)) (tkB z p (nx z p (nx z p a)))) := Gx.tr (Gx.i (by decide)) Gx.k
      rw [if_pos q, if_pos q]
      generalize tkM (mI M1 86 14 (nI (nuV z p (nx z p a)))) (nx z p (nx z p a)) (tkB z p (nx z p (nx z p a))) = M2 at hL2 f15 f14 f87 hg2
      refine PR.f (M1 := mI M2 87 (50 + 21 * h + 2) (M2.1 86 14)) (Gx.tr hg2 (Gx.s Sd.p)) ?_
      have hns : nsH (hS (upH t h (sik (hS t h) (nuV z p (nx z p a)))) h) = 0 := by rw [upH_s]; exact h0
      rw [f14]
      exact p_stL2 9 FU _ _ _ (Wf.up hw (WfH.sik (hw.2.2 h hh) hvl.2)) hh (hL2.s Sd.p) (by rw [mI_o (by decide)]; exact f15) (by rw [mI_u]; exact Rw_up hw f87 (by decide) (RwH.sik (f87.2.2.2 h hh) _)) (by omega) (by omega)
    · rw [if_neg q, if_neg q, p_stW _ (by rw [mI_o (by decide), mI_u, uw_s]) (by omega)]
      exact ⟨_, rfl, Gx.tr (Gx.i (by decide)) (Gx.tr (Gx.i (by decide)) (Gx.s Sd.p)), ((m2.i (by decide)).i (by decide)).s Sd.p, by rw [mI_o (by decide), mI_u, uw_s]⟩
  · rw [if_neg e, if_neg e]
    exact p_stL2 9 FU t a M hw hh hL h15 hR (by omega) (by omega)
theorem p_handItem {z : Nat} {p : Nat → Nat} {k : Nat} (hk : k < 6) (t : St) (a : Nat) (M : Nm) (hw : Wf t) (hL : Lk z p M a) (h15 : M.1 86 15 = 0) (hR : Rw (M.1 87) t) : PR z p M (f_M_handItem (nI k) M) (hanF z p k t a) := by
  have h6 := hw.1
  have hbad : ∀ (M1 : Nm) (e : Nat), Gx M M1 → Lk z p M1 e → M1.1 86 15 = 1 → ∀ s : Int32, PR z p M (f_M_handItem_B37 (nI k) s M1) (.inr e) := by
    intro M1 e g1 g2 g3 s
    unfold f_M_handItem_B37
    rw [p_must_w g3, bnd_s, p_number_w g3, bnd_s, g3, if_neg (by decide)]
    exact ⟨M1, rfl, g1, g2, g3⟩
  unfold f_M_handItem hanF
  rw [g0, ix0, hR.1]
  by_cases q6 : nS t < 6
  · obtain ⟨m1, m2⟩ := p_mustY hL h15
    rw [if_neg (show ¬ (6 : Int32) ≤ nI (nS t) from nI_ge (b := 6) q6 (by decide)), if_pos q6]
    unfold f_M_handItem_B17
    rw [m1, bnd_s]
    have e15 : (tkM M (nx z p a) (tkB z p (nx z p a))).1 86 15 = 0 := by rw [tk15 (by decide)]; exact h15
    have e87 : Rw ((tkM M (nx z p a) (tkB z p (nx z p a))).1 87) t := by rw [tk87]; exact hR
    generalize hM1 : tkM M (nx z p a) (tkB z p (nx z p a)) = M1 at m2 e15 e87
    have hg : Gx M M1 := by rw [← hM1]; exact Gx.k
    rw [p_word m2 e15, bnd_s, ite_iff (wv_W (p := p) m2.2.1 atW (C := 52) (c := 52) (ltr_l (by decide)) (by decide) (by decide) (by decide) rfl)]
    by_cases e : isW z p (nx z p a) atW = true
    · obtain ⟨n1, n2⟩ := p_mustY m2 e15
      rw [if_pos e, if_pos e]
      unfold f_M_handItem_B37
      rw [n1, bnd_s]
      have i15 : (tkM M1 (nx z p (nx z p a)) (tkB z p (nx z p (nx z p a)))).1 86 15 = 0 := by rw [tk15 (by decide)]; exact e15
      have i87 : Rw ((tkM M1 (nx z p (nx z p a)) (tkB z p (nx z p (nx z p a)))).1 87) t := by rw [tk87]; exact e87
      generalize hM2 : tkM M1 (nx z p (nx z p a)) (tkB z p (nx z p (nx z p a))) = M2 at n2 i15 i87
      have hg2 : Gx M M2 := Gx.tr hg (by rw [← hM2]; exact Gx.k)
      have hn' : f_M_number 0 47 M2 = _ := p_number (lo := 0) (hi := 47) n2 i15 (by decide) (by decide)
      rw [hn', bnd_s]
      by_cases q : nuO z p (nx z p (nx z p a)) 0 47 = true
      · have hvl := nuO_le q
        have hL2 : Lk z p (tkM (mI M2 86 14 (nI (nuV z p (nx z p (nx z p a))))) (nx z p (nx z p (nx z p a))) (tkB z p (nx z p (nx z p (nx z p a))))) (nx z p (nx z p (nx z p a))) := Lk.n (n2.1.i (by decide)) (tkB_le n2.2.1).2 rfl
        have f15 : (tkM (mI M2 86 14 (nI (nuV z p (nx z p (nx z p a))))) (nx z p (nx z p (nx z p a))) (tkB z p (nx z p (nx z p (nx z p a))))).1 86 15 = 0 := by rw [tk15 (by decide), mI_u, uw_n (by decide)]; exact i15
        have f14 : (tkM (mI M2 86 14 (nI (nuV z p (nx z p (nx z p a))))) (nx z p (nx z p (nx z p a))) (tkB z p (nx z p (nx z p (nx z p a))))).1 86 14 = nI (nuV z p (nx z p (nx z p a))) := by rw [tk15 (by decide), mI_u, uw_s]
        have f87 : Rw ((tkM (mI M2 86 14 (nI (nuV z p (nx z p (nx z p a))))) (nx z p (nx z p (nx z p a))) (tkB z p (nx z p (nx z p (nx z p a))))).1 87) t := by rw [tk87, mI_o (by decide)]; exact i87
        have hg3 : Gx M (tkM (mI M2 86 14 (nI (nuV z p (nx z p (nx z p a))))) (nx z p (nx z p (nx z p a))) (tkB z p (nx z p (nx z p (nx z p a))))) := Gx.tr hg2 (Gx.tr (Gx.i (by decide)) Gx.k)
        rw [if_pos q, if_pos q]
        generalize tkM (mI M2 86 14 (nI (nuV z p (nx z p (nx z p a))))) (nx z p (nx z p (nx z p a))) (tkB z p (nx z p (nx z p (nx z p a)))) = M3 at hL2 f15 f14 f87 hg3
        obtain ⟨M4, s1, s2, s3⟩ := p_adds hw q6 (k := k) (c := nuV z p (nx z p (nx z p a))) M3 f87
        rw [f15, if_pos rfl, f14, s1, bnd_s]
        refine PR.f (M1 := M4) (Gx.tr hg3 (Gx.s s2)) ?_
        have hnew : hS (adH t (nH k (nuV z p (nx z p (nx z p a))))) (nS t) = nH k (nuV z p (nx z p (nx z p a))) := if_pos rfl
        exact p_ink2 (h := nS t) _ _ M4 (Wf.ad hw q6 (WfH.n hk (by omega))) (Nat.lt_succ_self _) (by rw [hnew]; rfl) (hL2.s s2) (by rw [s2.1 86 (by decide) (by decide) (by decide)]; exact f15) s3
      · rw [if_neg q, if_neg q, mI_u, uw_s, if_neg (by decide)]
        exact ⟨_, rfl, Gx.tr hg2 (Gx.tr (Gx.i (by decide)) (Gx.i (by decide))), (n2.i (by decide)).i (by decide), by rw [mI_u, uw_s]⟩
    · rw [if_neg e, if_neg e]
      unfold f_M_handItem_B37
      have f15 : (mI M1 86 15 1).1 86 15 = 1 := by rw [mI_u, uw_s]
      rw [p_must_n e15, bnd_s, p_number_w f15, bnd_s, f15, if_neg (by decide)]
      exact ⟨_, rfl, Gx.tr hg (Gx.i (by decide)), m2.i (by decide), f15⟩
  · rw [if_pos (show (6 : Int32) ≤ nI (nS t) from nI_le (a := 6) (by omega) (by omega)), if_neg q6]
    unfold f_M_handItem_B17
    have f15 : (mI M 86 15 1).1 86 15 = 1 := by rw [mI_u, uw_s]
    rw [p_must_n h15, bnd_s, p_word_w (hL.i (by decide)) f15, bnd_s, if_neg (by decide)]
    exact hbad _ _ (Gx.i (by decide)) (hL.i (by decide)) f15 0
theorem p_item {z : Nat} {p : Nat → Nat} (t : St) (a : Nat) (M : Nm) (hw : Wf t) (hL : Lk z p M a) (h15 : M.1 86 15 = 0) (hR : Rw (M.1 87) t) : PR z p M (f_M_item M) (itF z p t a) := by
  unfold f_M_item itF
  rw [p_kindHere hL h15, bnd_s]
  cases e : kwN z p a with
  | some k =>
    have hk := kwN_lt e
    rw [show oI (some k) = nI k from rfl, if_neg (nI_pos (by omega))]
    have h := p_handItem hk t a M hw hL h15 hR
    dsimp only
    cases ho : hanF z p k t a with
    | inl q =>
      obtain ⟨t', a'⟩ := q
      rw [ho] at h
      obtain ⟨M', h1, h2⟩ := h
      rw [h1, bnd_s]
      exact ⟨M', rfl, h2⟩
    | inr q =>
      rw [ho] at h
      obtain ⟨M', h1, h2⟩ := h
      rw [h1, bnd_s]
      exact ⟨M', rfl, h2⟩
  | none =>
    have hs := wv_W (p := p) hL.2.1 smW (C := 651858149) (c := 651858149) (ltr_l (by decide)) (by decide) (by decide) (by decide) rfl
    have hd := wv_W (p := p) hL.2.1 drW (C := 4697) (c := 4697) (ltr_l (by decide)) (by decide) (by decide) (by decide) rfl
    rw [show oI none = -1 from rfl, if_pos (by decide), p_word hL h15, bnd_s]
    dsimp only
    unfold siF
    by_cases q1 : isW z p a smW = true
    · rw [if_pos (hs.mpr q1), if_pos q1]
      exact p_itB1 hw hL h15 hR _ true (by rw [hs, q1])
    · rw [if_neg (fun y => q1 (hs.mp y)), if_neg q1]
      by_cases q2 : isW z p a drW = true
      · rw [if_pos (hd.mpr q2), if_pos q2]
        exact p_itB1 hw hL h15 hR _ false (by rw [hs]; simp [q1])
      · rw [if_neg (fun y => q2 (hd.mp y)), if_neg q2]
        unfold f_M_item_B42
        have f15 : (mI M 86 15 1).1 86 15 = 1 := by rw [mI_u, uw_s]
        rw [p_must_n h15, bnd_s, show f_M_number 0 47 (mI M 86 15 1) = some ((), mI M 86 15 1) from p_number_w f15 0 47, bnd_s, f15, if_neg (by decide)]
        exact ⟨_, rfl, Gx.i (by decide), hL.i (by decide), f15⟩
