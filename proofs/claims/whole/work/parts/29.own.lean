/-! the reference: owners, sets of hands, sets of cells -/
theorem g0 {β : Type} (t : Option β) : grd (inb 0 176) t = t := rfl
theorem g1 {β : Type} (t : Option β) : grd (inb 1 176) t = t := rfl
theorem ix0 : ix 0 = 0 := rfl
theorem ix1 : ix 1 = 1 := rfl
theorem bI_t {b : Bool} (h : b = true) : ¬ bI b = 0 := by rw [h]; decide
theorem bI_f {b : Bool} (h : b = false) : bI b = 0 := by rw [h]; rfl
/-- cells as a set -/
def cs (p : Nat → Bool) : Nat → Int64
  | 0 => 0
  | n + 1 => if p n then cs p n ||| bit1 n else cs p n
theorem tb_cs (p : Nat → Bool) : ∀ n c, n ≤ 48 → tb (cs p n) c = (decide (c < n) && p c) := by
  intro n
  induction n with
  | zero => intro c _; show tb 0 c = _; rw [tb_0]; simp
  | succ n ih =>
    intro c hn
    show tb (if p n then cs p n ||| bit1 n else cs p n) c = _
    by_cases e : c = n
    · subst e
      by_cases h : p c = true
      · rw [if_pos h, tb_or, ih c (by omega), tb_bit (by omega)]
        simp [h]
      · rw [if_neg h, ih c (by omega)]
        simp [h]
    · have e2 : (c < n + 1) ↔ (c < n) := by omega
      by_cases h : p n = true
      · rw [if_pos h, tb_or, ih c (by omega), tb_bit (by omega)]
        simp [e, e2]
      · rw [if_neg h, ih c (by omega)]
        simp [e2]
theorem fb_tail {p : Nat → Bool} {m : Nat} : ∀ n, (∀ k, m ≤ k → p k = false) → fb_ct p (m + n) = fb_ct p m := by
  intro n
  induction n with
  | zero => intro _; rfl
  | succ n ih =>
    intro h
    show fb_ct p (m + n + 1) = _
    rw [fb_ct_succ, ih h, h (m + n) (by omega)]
    rfl
theorem pc_lo {x : Int64} (h : lo48 x) : pc x = fb_ct (tb x) 48 := fb_tail (m := 48) 16 h
theorem lo_cs (p : Nat → Bool) : lo48 (cs p 48) := by
  intro c hc
  have h : ¬ c < 48 := by omega
  rw [tb_cs p 48 c (Nat.le_refl _)]
  simp [h]
theorem pc_cs (p : Nat → Bool) : pc (cs p 48) = fb_ct p 48 := by
  rw [pc_lo (lo_cs p)]
  exact fb_ct_cong (fun k hk => by rw [tb_cs p 48 k (Nat.le_refl _)]; simp [hk])
theorem cs_ext {p : Nat → Bool} {x : Int64} (h : lo48 x) (hp : ∀ c, c < 48 → tb x c = p c) : x = cs p 48 := by
  apply tb_ext
  intro c _
  rw [tb_cs p 48 c (Nat.le_refl _)]
  by_cases e : c < 48
  · rw [hp c e]; simp [e]
  · rw [h c (by omega)]; simp [e]
/-- hands as a set -/
def hb (p : Nat → Bool) : Nat → Int32
  | 0 => 0
  | n + 1 => hb p n ||| (if p n then 1 <<< (nI n &&& 31) else 0)
/-- a hand that writes has the cell inside -/
def wi (t : St) (h c : Nat) : Bool := wrS t h && tb (inS t h) c
/-- whose a cell is, of the hands below n -/
def owN (t : St) (c : Nat) : Nat → Option Nat
  | 0 => none
  | n + 1 => if wi t n c then (match owN t c n with
    | none => some n
    | some b => if ikH (hS t b) < ikH (hS t n) then some n else some b) else owN t c n
def oI : Option Nat → Int32
  | none => -1
  | some b => nI b
def bef (t : St) (o h : Nat) : Prop := ikH (hS t h) < ikH (hS t o) ∨ (ikH (hS t o) = ikH (hS t h) ∧ o < h)
theorem owN_s (t : St) (c n : Nat) : owN t c (n + 1) = if wi t n c then (match owN t c n with
    | none => some n
    | some b => if ikH (hS t b) < ikH (hS t n) then some n else some b) else owN t c n := rfl
theorem owN_spec (t : St) (c : Nat) : ∀ n, (owN t c n = none → ∀ o, o < n → wi t o c = false) ∧ ∀ h, owN t c n = some h → h < n ∧ wi t h c = true ∧ ∀ o, o < n → wi t o c = true → ¬ bef t o h := by
  intro n
  induction n with
  | zero => exact ⟨fun _ o ho => by omega, fun h e => by simp [owN] at e⟩
  | succ n ih =>
    rw [owN_s]
    by_cases hwi : wi t n c = true
    · rw [if_pos hwi]
      cases e : owN t c n with
      | none =>
        refine ⟨fun q => by simp at q, fun h q => ?_⟩
        simp at q
        subst q
        refine ⟨by omega, hwi, fun o ho ho2 => ?_⟩
        by_cases eo : o = n
        · subst eo; intro q; rcases q with q | q <;> omega
        · have := ih.1 e o (by omega); rw [this] at ho2; simp at ho2
      | some b =>
        obtain ⟨hb1, hb2, hb3⟩ := ih.2 b e
        by_cases hlt : ikH (hS t b) < ikH (hS t n)
        · simp only [hlt, if_true]
          refine ⟨fun q => by simp at q, fun h q => ?_⟩
          simp at q
          subst q
          refine ⟨by omega, hwi, fun o ho ho2 hbef => ?_⟩
          by_cases eo : o = n
          · subst eo; rcases hbef with q | q <;> omega
          · have h3 := hb3 o (by omega) ho2
            have hge : ikH (hS t o) ≤ ikH (hS t b) := by
              apply Classical.byContradiction
              intro q
              exact h3 (Or.inl (by omega))
            rcases hbef with q | q <;> omega
        · simp only [hlt, if_false]
          refine ⟨fun q => by simp at q, fun h q => ?_⟩
          simp at q
          subst q
          refine ⟨by omega, hb2, fun o ho ho2 hbef => ?_⟩
          by_cases eo : o = n
          · subst eo; rcases hbef with q | q <;> omega
          · exact hb3 o (by omega) ho2 hbef
    · rw [if_neg hwi]
      refine ⟨fun q o ho => ?_, fun h q => ?_⟩
      · by_cases eo : o = n
        · subst eo; simpa using hwi
        · exact ih.1 q o (by omega)
      · obtain ⟨a, b, d⟩ := ih.2 h q
        refine ⟨by omega, b, fun o ho ho2 => ?_⟩
        by_cases eo : o = n
        · subst eo; exact absurd ho2 hwi
        · exact d o (by omega) ho2
theorem owN_iff {t : St} {c n h : Nat} : owN t c n = some h ↔ h < n ∧ wi t h c = true ∧ ∀ o, o < n → wi t o c = true → ¬ bef t o h := by
  refine ⟨(owN_spec t c n).2 h, fun ⟨a, b, d⟩ => ?_⟩
  cases e : owN t c n with
  | none => have := (owN_spec t c n).1 e h a; rw [this] at b; simp at b
  | some k =>
    obtain ⟨k1, k2, k3⟩ := (owN_spec t c n).2 k e
    have x1 := d k k1 k2
    have x2 := k3 h a b
    have : k = h := by
      apply Classical.byContradiction
      intro q
      rcases Nat.lt_or_ge (ikH (hS t k)) (ikH (hS t h)) with r | r
      · exact x2 (Or.inl r)
      · rcases Nat.lt_or_ge (ikH (hS t h)) (ikH (hS t k)) with r2 | r2
        · exact x1 (Or.inl r2)
        · rcases Nat.lt_or_ge k h with r3 | r3
          · exact x1 (Or.inr ⟨by omega, r3⟩)
          · exact x2 (Or.inr ⟨by omega, by omega⟩)
    rw [this]
theorem owN_none {t : St} {c n : Nat} : owN t c n = none ↔ ∀ o, o < n → wi t o c = false := by
  refine ⟨(owN_spec t c n).1, fun h => ?_⟩
  cases e : owN t c n with
  | none => rfl
  | some k =>
    obtain ⟨k1, k2, _⟩ := (owN_spec t c n).2 k e
    rw [h k k1] at k2
    simp at k2
/-- what a hand owns -/
def shs (t : St) (h : Nat) : Int64 := cs (fun c => decide (owN t c (nS t) = some h)) 48
def owc (t : St) (h : Nat) : Nat := pc (shs t h)
theorem owc_le (t : St) (h : Nat) : owc t h ≤ 48 := by
  unfold owc shs
  rw [pc_cs]
  exact fb_ct_le _ _
theorem owc_dry {t : St} {h : Nat} (e : wrS t h = false) : owc t h = 0 := by
  unfold owc shs
  rw [pc_cs]
  apply fb_ct_zero.mpr
  intro k _
  apply decide_eq_false
  intro q
  have := (owN_iff.mp q).2.1
  simp [wi, e] at this
/-- all that the reference has noted -/
def Rn (M : Nm) (t : St) : Prop := Rw (M.1 87) t ∧ Nt t (nS t) M
theorem p_owB (kk : Int32 → Int32 → Nm → Option (Int32 × Nm)) (v1 : Int32) {t : St} (hw : Wf t) {i c : Nat} (hi : i < nS t) (M : Nm) (hR : Rw (M.1 87) t) : f_M_ownerOf_B40 kk v1 (oI (owN t c i)) (nI i) 1 M = kk (oI (match owN t c i with
    | none => some i
    | some b => if ikH (hS t b) < ikH (hS t i) then some i else some b)) (nI (i + 1)) M := by
  have hn := hw.1
  have hx := hw.2.2 i hi
  unfold f_M_ownerOf_B40
  rw [if_neg (by decide)]
  cases e : owN t c i with
  | none => rw [show oI none = -1 from rfl, if_pos (by decide), nI_1]; rfl
  | some b =>
    have hb := (owN_iff.mp e).1
    have hy := hw.2.2 b (by omega)
    have h3 := hx.2.2.1
    have h4 := hy.2.2.1
    rw [show oI (some b) = nI b from rfl, if_neg (nI_pos (by omega)), p_its2 (by omega), bnd_s, p_its2 (by omega), bnd_s, (hR.2.2.2 i hi).2.2.1, (hR.2.2.2 b (by omega)).2.2.1, nI_1]
    by_cases q : ikH (hS t b) < ikH (hS t i)
    · rw [if_neg (nI_ge q (by omega))]
      simp only [q, if_true]; rfl
    · rw [if_pos (nI_le (by omega) (by omega))]
      simp only [q, if_false]; rfl
theorem p_owL {t : St} (hw : Wf t) {c : Nat} (hc : c < 48) (M : Nm) (hR : Rn M t) : ∀ (n f i : Nat), i + n = nS t → n < f → f_M_ownerOf_L4 (nI c) f (oI (owN t c i)) (nI i) M = some (oI (owN t c (nS t)), M) := by
  have hn := hw.1
  intro n
  induction n with
  | zero =>
    intro f i hi hf
    obtain ⟨f, rfl⟩ : ∃ g, f = g + 1 := ⟨f - 1, by omega⟩
    rw [f_M_ownerOf_L4, g0, ix0, hR.1.1, if_pos (nI_le (by omega) (by omega)), ← hi]
    rfl
  | succ n ih =>
    intro f i hi hf
    obtain ⟨f, rfl⟩ : ∃ g, f = g + 1 := ⟨f - 1, by omega⟩
    obtain ⟨n1, n2, n3⟩ := hR.2 i (by omega)
    have key := ih f (i + 1) (by omega) (by omega)
    rw [owN_s] at key
    rw [f_M_ownerOf_L4, g0, ix0, hR.1.1, if_neg (nI_ge (by omega) (by omega)), p_writes hw (by omega) M hR.1 n3, bnd_s]
    have h0 : ∀ (s : Int32), s = 0 → f_M_ownerOf_B40 (f_M_ownerOf_L4 (nI c) f) (nI c) (oI (owN t c i)) (nI i) s M = f_M_ownerOf_L4 (nI c) f (oI (owN t c i)) (nI (i + 1)) M := by
      intro s hs
      unfold f_M_ownerOf_B40
      rw [if_pos hs, nI_1]
    by_cases e1 : wrS t i = true
    · rw [if_neg (bI_t e1), grd_h (inb_nI (by omega) (by decide)), ix_nI (by omega), n2, p_has (by omega), bnd_s]
      by_cases e2 : tb (inS t i) c = true
      · rw [if_neg (bI_t e2), p_owB _ _ hw (by omega) M hR.1]
        rw [if_pos (show wi t i c = true by simp [wi, e1, e2])] at key
        exact key
      · have e3 : tb (inS t i) c = false := by simpa using e2
        rw [if_pos (bI_f e3), h0 _ rfl]
        rw [if_neg (show ¬ wi t i c = true by simp [wi, e3])] at key
        exact key
    · have e3 : wrS t i = false := by simpa using e1
      rw [if_pos (bI_f e3), h0 _ rfl]
      rw [if_neg (show ¬ wi t i c = true by simp [wi, e3])] at key
      exact key
theorem p_ownerOf {t : St} (hw : Wf t) {c : Nat} (hc : c < 48) (M : Nm) (hR : Rn M t) : f_M_ownerOf (nI c) M = some (oI (owN t c (nS t)), M) :=
  p_owL hw hc M hR (nS t) FU 0 (by omega) (FU_gt (by have := hw.1; omega))
theorem oI_h {o : Option Nat} {h : Nat} (hh : h < 100) (ho : ∀ b, o = some b → b < 100) : oI o = nI h ↔ o = some h := by
  cases o with
  | none =>
    refine ⟨fun q => ?_, fun q => by simp at q⟩
    have : ¬ nI h < 0 := nI_pos (by omega)
    rw [← q] at this
    exact absurd (by decide) this
  | some b =>
    have := ho b rfl
    show nI b = nI h ↔ _
    rw [nI_eq (by omega) (by omega)]
    simp
theorem p_obL {t : St} (hw : Wf t) {h : Nat} (hh : h < nS t) (M : Nm) (hR : Rn M t) : ∀ (n f i : Nat), i + n = 48 → n < f → f_M_ownedBy_L4 (nI h) f (nI (fb_ct (fun c => decide (owN t c (nS t) = some h)) i)) (nI i) M = some (nI (owc t h), M) := by
  have hn := hw.1
  intro n
  induction n with
  | zero =>
    intro f i hi hf
    obtain ⟨f, rfl⟩ : ∃ g, f = g + 1 := ⟨f - 1, by omega⟩
    have : i = 48 := by omega
    subst this
    rw [f_M_ownedBy_L4, if_pos (by decide), ← pc_cs]
    rfl
  | succ n ih =>
    intro f i hi hf
    obtain ⟨f, rfl⟩ : ∃ g, f = g + 1 := ⟨f - 1, by omega⟩
    have key := ih f (i + 1) (by omega) (by omega)
    rw [fb_ct_succ] at key
    obtain ⟨n1, n2, n3⟩ := hR.2 h hh
    rw [f_M_ownedBy_L4, if_neg (show ¬ (48 : Int32) ≤ nI i from nI_ge (b := 48) (by omega) (by decide)), grd_h (inb_nI (by omega) (by decide)), ix_nI (by omega), n2, p_has (by omega), bnd_s, nI_1]
    have hz : ∀ k : Nat, nI k + 0 = nI (k + 0) := fun k => nI_add k 0
    by_cases e : owN t i (nS t) = some h
    · have e2 : tb (inS t h) i = true := by
        have := (owN_iff.mp e).2.1
        simp [wi] at this
        exact this.2
      have e3 : oI (owN t i (nS t)) = nI h := by rw [e]; rfl
      rw [if_neg (bI_t e2), p_ownerOf hw (by omega) M hR, bnd_s, if_pos e3, nI_1]
      rw [if_pos (show decide (owN t i (nS t) = some h) = true by simp [e])] at key
      exact key
    · rw [if_neg (show ¬ decide (owN t i (nS t) = some h) = true by simp [e])] at key
      by_cases e2 : tb (inS t h) i = true
      · rw [if_neg (bI_t e2), p_ownerOf hw (by omega) M hR, bnd_s, if_neg (fun q => e ((oI_h (by omega) (fun b hb => by have := (owN_iff.mp hb).1; omega)).mp q)), hz]
        exact key
      · have e3 : tb (inS t h) i = false := by simpa using e2
        rw [if_pos (bI_f e3), hz]
        exact key
theorem p_ownedBy {t : St} (hw : Wf t) {h : Nat} (hh : h < nS t) (M : Nm) (hR : Rn M t) : f_M_ownedBy (nI h) M = some (nI (owc t h), M) :=
  p_obL hw hh M hR 48 FU 0 rfl (FU_gt (by decide))
theorem Rn.of {M M' : Nm} {t : St} (hR : Rw (M.1 87) t) (hs : Sc M M') (hN : Nt t (nS t) M') : Rn M' t := ⟨by rw [hs.1 87 (by decide) (by decide)]; exact hR, hN⟩
theorem p_ownsNow {t : St} (hw : Wf t) {h : Nat} (hh : h < nS t) (M : Nm) (hR : Rw (M.1 87) t) : ∃ M', f_M_ownsNow (nI h) M = some (nI (owc t h), M') ∧ Sc M M' := by
  obtain ⟨M', h1, h2, h3⟩ := p_writeAll hw M hR
  have hR' := Rn.of hR h2 h3
  unfold f_M_ownsNow
  refine ⟨M', ?_, h2⟩
  rw [h1, bnd_s, p_writes hw hh M' hR'.1 (h3 h hh).2.2, bnd_s]
  by_cases e : wrS t h = true
  · rw [if_neg (bI_t e), p_ownedBy hw hh M' hR', bnd_s]
  · have e2 : wrS t h = false := by simpa using e
    rw [if_pos (bI_f e2), owc_dry e2]
    rfl
/-! sets of hands -/
theorem or00 (x : Int32) : x ||| 0 = x := by simp
theorem p_twB (kk : Int32 → Int32 → Nm → Option (Int32 × Nm)) {c : Nat} (hc : c < 48) (v2 : Int32) (i : Nat) (x : Int64) (s1 : Int32) (M : Nm) : f_M_thoseWith_B38 kk (nI c) v2 (nI i) x s1 M = kk (s1 ||| (if tb x c then 1 <<< (nI i &&& 31) else 0)) (nI (i + 1)) M := by
  unfold f_M_thoseWith_B38
  rw [p_has (by omega), bnd_s, nI_1]
  by_cases e : tb x c = true
  · rw [if_neg (bI_t e), if_pos e]; rfl
  · have e2 : tb x c = false := by simpa using e
    rw [if_pos (bI_f e2), if_neg e]
theorem p_twL {t : St} (hw : Wf t) {c : Nat} (hc : c < 48) (b : Bool) (M : Nm) (hR : Rn M t) : ∀ (n f i : Nat), i + n = nS t → n < f → f_M_thoseWith_L5 (nI c) (bI b) f (hb (fun h => tb (if b then inS t h else lnS t h) c) i) (nI i) M = some (hb (fun h => tb (if b then inS t h else lnS t h) c) (nS t), M) := by
  have hn := hw.1
  intro n
  induction n with
  | zero =>
    intro f i hi hf
    obtain ⟨f, rfl⟩ : ∃ g, f = g + 1 := ⟨f - 1, by omega⟩
    rw [f_M_thoseWith_L5, g0, ix0, hR.1.1, if_pos (nI_le (by omega) (by omega)), ← hi]
    rfl
  | succ n ih =>
    intro f i hi hf
    obtain ⟨f, rfl⟩ : ∃ g, f = g + 1 := ⟨f - 1, by omega⟩
    obtain ⟨n1, n2, n3⟩ := hR.2 i (by omega)
    have key := ih f (i + 1) (by omega) (by omega)
    rw [f_M_thoseWith_L5, g0, ix0, hR.1.1, if_neg (nI_ge (by omega) (by omega)), grd_h (inb_nI (by omega) (by decide)), grd_h (inb_nI (by omega) (by decide)), ix_nI (by omega), n1, n2, p_twB _ hc, p_twB _ hc]
    cases b with
    | true => rw [if_neg (by decide)]; exact key
    | false => rw [if_pos (show bI false = 0 from rfl)]; exact key
theorem p_thoseWith {t : St} (hw : Wf t) {c : Nat} (hc : c < 48) (b : Bool) (M : Nm) (hR : Rn M t) : f_M_thoseWith (nI c) (bI b) M = some (hb (fun h => tb (if b then inS t h else lnS t h) c) (nS t), M) :=
  p_twL hw hc b M hR (nS t) FU 0 (by omega) (FU_gt (by have := hw.1; omega))
theorem p_wiL {t : St} (hw : Wf t) {c : Nat} (hc : c < 48) (M : Nm) (hR : Rn M t) : ∀ (n f i : Nat), i + n = nS t → n < f → f_M_writersInside_L4 (nI c) f (nI (fb_ct (fun h => wi t h c) i)) (nI i) M = some (nI (fb_ct (fun h => wi t h c) (nS t)), M) := by
  have hn := hw.1
  intro n
  induction n with
  | zero =>
    intro f i hi hf
    obtain ⟨f, rfl⟩ : ∃ g, f = g + 1 := ⟨f - 1, by omega⟩
    rw [f_M_writersInside_L4, g0, ix0, hR.1.1, if_pos (nI_le (by omega) (by omega)), ← hi]
    rfl
  | succ n ih =>
    intro f i hi hf
    obtain ⟨f, rfl⟩ : ∃ g, f = g + 1 := ⟨f - 1, by omega⟩
    obtain ⟨n1, n2, n3⟩ := hR.2 i (by omega)
    have key := ih f (i + 1) (by omega) (by omega)
    rw [fb_ct_succ] at key
    have hz : ∀ k : Nat, nI k + 0 = nI (k + 0) := fun k => nI_add k 0
    rw [f_M_writersInside_L4, g0, ix0, hR.1.1, if_neg (nI_ge (by omega) (by omega)), p_writes hw (by omega) M hR.1 n3, bnd_s, nI_1]
    by_cases e1 : wrS t i = true
    · rw [if_neg (bI_t e1), grd_h (inb_nI (by omega) (by decide)), ix_nI (by omega), n2, p_has (by omega), bnd_s]
      by_cases e2 : tb (inS t i) c = true
      · rw [if_neg (bI_t e2), nI_1]
        rw [if_pos (show wi t i c = true by simp [wi, e1, e2])] at key
        exact key
      · have e3 : tb (inS t i) c = false := by simpa using e2
        rw [if_pos (bI_f e3), hz]
        rw [if_neg (show ¬ wi t i c = true by simp [wi, e3])] at key
        exact key
    · have e3 : wrS t i = false := by simpa using e1
      rw [if_pos (bI_f e3), hz]
      rw [if_neg (show ¬ wi t i c = true by simp [wi, e3])] at key
      exact key
theorem p_writersInside {t : St} (hw : Wf t) {c : Nat} (hc : c < 48) (M : Nm) (hR : Rn M t) : f_M_writersInside (nI c) M = some (nI (fb_ct (fun h => wi t h c) (nS t)), M) :=
  p_wiL hw hc M hR (nS t) FU 0 (by omega) (FU_gt (by have := hw.1; omega))
theorem p_ttL {t : St} (hw : Wf t) (M : Nm) (hR : Rn M t) : ∀ (n f i : Nat), i + n = nS t → n < f → f_M_thoseThatWrite_L8 f (hb (wrS t) i) (nI i) M = some (hb (wrS t) (nS t), M) := by
  have hn := hw.1
  intro n
  induction n with
  | zero =>
    intro f i hi hf
    obtain ⟨f, rfl⟩ : ∃ g, f = g + 1 := ⟨f - 1, by omega⟩
    rw [f_M_thoseThatWrite_L8, g0, ix0, hR.1.1, if_pos (nI_le (by omega) (by omega)), ← hi]
    rfl
  | succ n ih =>
    intro f i hi hf
    obtain ⟨f, rfl⟩ : ∃ g, f = g + 1 := ⟨f - 1, by omega⟩
    obtain ⟨n1, n2, n3⟩ := hR.2 i (by omega)
    have key := ih f (i + 1) (by omega) (by omega)
    have hz : hb (wrS t) (i + 1) = hb (wrS t) i ||| (if wrS t i then 1 <<< (nI i &&& 31) else 0) := rfl
    rw [hz] at key
    rw [f_M_thoseThatWrite_L8, g0, ix0, hR.1.1, if_neg (nI_ge (by omega) (by omega)), p_writes hw (by omega) M hR.1 n3, bnd_s, nI_1]
    by_cases e1 : wrS t i = true
    · rw [if_neg (bI_t e1), bl_e]
      rw [if_pos e1] at key
      exact key
    · have e3 : wrS t i = false := by simpa using e1
      rw [if_pos (bI_f e3)]
      rw [if_neg e1] at key
      exact key
theorem p_thoseThatWrite {t : St} (hw : Wf t) (M : Nm) (hR : Rw (M.1 87) t) : ∃ M', f_M_thoseThatWrite M = some (hb (wrS t) (nS t), M') ∧ Sc M M' := by
  obtain ⟨M', h1, h2, h3⟩ := p_writeAll hw M hR
  unfold f_M_thoseThatWrite
  refine ⟨M', ?_, h2⟩
  rw [h1, bnd_s]
  exact p_ttL hw M' (Rn.of hR h2 h3) (nS t) FU 0 (by omega) (FU_gt (by have := hw.1; omega))
/-- sums over the hands -/
def sm (g : HS → Nat) (t : St) : Nat → Nat
  | 0 => 0
  | n + 1 => sm g t n + g (hS t n)
theorem p_tgL {t : St} (hw : Wf t) (k : Nat) (hk : k < 21) (g : HS → Nat) (M : Nm) (hR : M.1 87 0 = nI (nS t)) (hg : ∀ h, h < nS t → M.1 87 (50 + 21 * h + k) = nI (g (hS t h))) : ∀ (n f i : Nat), i + n = nS t → n < f → f_M_together_L4 (nI k) f (nI (sm g t i)) (nI i) M = some (nI (sm g t (nS t)), M) := by
  have hn := hw.1
  intro n
  induction n with
  | zero =>
    intro f i hi hf
    obtain ⟨f, rfl⟩ : ∃ g, f = g + 1 := ⟨f - 1, by omega⟩
    rw [f_M_together_L4, g0, ix0, hR, if_pos (nI_le (by omega) (by omega)), ← hi]
    rfl
  | succ n ih =>
    intro f i hi hf
    obtain ⟨f, rfl⟩ : ∃ g, f = g + 1 := ⟨f - 1, by omega⟩
    rw [f_M_together_L4, g0, ix0, hR, if_neg (nI_ge (by omega) (by omega)), p_its (by omega) hk, bnd_s, hg i (by omega), nI_add, nI_1]
    exact ih f (i + 1) (by omega) (by omega)
theorem p_together3 {t : St} (hw : Wf t) (M : Nm) (hR : Rw (M.1 87) t) : f_M_together 3 M = some (nI (sm cnH t (nS t)), M) :=
  p_tgL hw 3 (by decide) cnH M hR.1 (fun h hh => (hR.2.2.2 h hh).2.2.2.1) (nS t) FU 0 (by omega) (FU_gt (by have := hw.1; omega))
theorem p_together2 {t : St} (hw : Wf t) (M : Nm) (hR : Rw (M.1 87) t) : f_M_together 2 M = some (nI (sm ikH t (nS t)), M) :=
  p_tgL hw 2 (by decide) ikH M hR.1 (fun h hh => (hR.2.2.2 h hh).2.2.1) (nS t) FU 0 (by omega) (FU_gt (by have := hw.1; omega))
