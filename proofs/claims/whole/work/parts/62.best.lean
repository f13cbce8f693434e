/-! the class: the sea, what had best be otherwise -/
theorem tb255 : ∀ c, c < 64 → tb 255 c = decide (c < 8) := by decide +kernel
theorem tb_mor {t : St} {k c : Nat} (h : c < 48) : tb (mor t k) c = decide (k < fb_ct (fun h => wi t h c) (nS t)) := by
  unfold mor
  rw [tb_cs _ 48 c (Nat.le_refl _)]
  simp [h]
theorem seR_0 {t : St} {r : Nat} (hr : r < 6) : seR t r = 0 ↔ ∀ k, k < 8 → tb (mor t 0) (8 * r + k) = false := by
  unfold seR
  rw [fb_ct_zero]
  constructor
  · intro h k hk
    have h1 := h k hk
    have h2 : owN t (8 * r + k) (nS t) = none := by
      cases e : owN t (8 * r + k) (nS t) with
      | none => rfl
      | some b => simp [e] at h1
    have h3 : fb_ct (fun h => wi t h (8 * r + k)) (nS t) = 0 := fb_ct_zero.mpr (owN_none.mp h2)
    rw [tb_mor (by omega), h3]; rfl
  · intro h k hk
    have h1 := h k hk
    rw [tb_mor (by omega)] at h1
    have h3 : fb_ct (fun h => wi t h (8 * r + k)) (nS t) = 0 := by
      have := of_decide_eq_false h1
      omega
    have h2 : owN t (8 * r + k) (nS t) = none := owN_none.mpr (fb_ct_zero.mp h3)
    simp [h2]
theorem row_0 {x : Int64} {r : Nat} (hr : r < 6) : x &&& (255 <<< ((nI (r * 8)).toInt64 &&& 63)) = 0 ↔ ∀ k, k < 8 → tb x (8 * r + k) = false := by
  constructor
  · intro h k hk
    have h1 : tb (x &&& (255 <<< ((nI (r * 8)).toInt64 &&& 63))) (8 * r + k) = tb 0 (8 * r + k) := by rw [h]
    rw [tb_and, tb_0, tb_shl (by omega) (by omega), tb255 _ (by omega)] at h1
    have h2 : r * 8 ≤ 8 * r + k := by omega
    have h3 : 8 * r + k - r * 8 < 8 := by omega
    simpa [h2, h3] using h1
  · intro h
    apply tb_ext
    intro c hc
    rw [tb_and, tb_0, tb_shl (by omega) hc]
    by_cases q : r * 8 ≤ c
    · rw [tb255 _ (by omega)]
      by_cases q2 : c - r * 8 < 8
      · have := h (c - r * 8) q2
        rw [show 8 * r + (c - r * 8) = c by omega] at this
        rw [this]; rfl
      · simp [q2]
    · simp [q]
theorem p_seaL {A : Ab} (hw : WfA A) {M0 M : Nm} (hF : Fr 0 86 M0 M) (hA : CA M A) : ∀ (n f i : Nat), i + n = 6 → n < f → QC id A M0 (f_P_sea_L10 (mor (tA A) 0) f (nI i) M) (lfA A (match seF (tA A) n i with
  | none => .inr 3
  | some r => .inl (nI r, tA A))) := by
  intro n
  induction n with
  | zero =>
    intro f i hi hf
    obtain ⟨f, rfl⟩ : ∃ g, f = g + 1 := ⟨f - 1, by omega⟩
    have : i = 6 := by omega
    subst this
    rw [f_P_sea_L10, if_pos (by decide)]
    exact qc_fd (cv := id) hw hF hA (by decide) (by decide)
  | succ n ih =>
    intro f i hi hf
    obtain ⟨f, rfl⟩ : ∃ g, f = g + 1 := ⟨f - 1, by omega⟩
    have hz : seF (tA A) (n + 1) i = if seR (tA A) i = 0 then some i else seF (tA A) n (i + 1) := rfl
    rw [f_P_sea_L10, if_neg (show ¬ (6 : Int32) ≤ nI i from nI_ge (b := 6) (by omega) (by decide)), show nI i * 8 = nI (i * 8) from pk_mul i 8, nI_1, hz]
    by_cases q : seR (tA A) i = 0
    · rw [if_pos (lg0.mpr ((row_0 (by omega)).mpr ((seR_0 (by omega)).mp q))), if_pos (show seR (tA A) i = 0 from q)]
      exact ⟨M, rfl, hF, hA⟩
    · rw [if_neg (fun y => q ((seR_0 (by omega)).mpr ((row_0 (by omega)).mp (lg0.mp y)))), if_neg (show ¬ seR (tA A) i = 0 from q)]
      exact ih f (i + 1) (by omega) (by omega)
theorem k_sea {A : Ab} (hw : WfA A) (M : Nm) (h : CA M A) : QC id A M (f_P_sea M) (lfA A (o_sea (tA A))) := by
  obtain ⟨M1, a1, a2, a3⟩ := p_owned hw.1 h.1
  unfold f_P_sea o_sea
  rw [a1, bnd_s]
  have hF : Fr 8 30 M M1 := a2.fr
  exact p_seaL hw (hF.w (by omega) (by omega)) (h.t8 hw hF a3) 6 FU 0 rfl (FU_gt (by decide))
/-! which stroke had best be longer -/
theorem sln_id (x : HS) (i : Nat) : sln x i (lnH x i) = x := by
  have e : (fun k => if k = i then lnH x i else lnH x k) = lnH x := funext fun k => by
    by_cases q : k = i
    · rw [if_pos q, q]
    · rw [if_neg q]
  unfold sln
  rw [e]
theorem sln_sln (x : HS) (i a b : Nat) : sln (sln x i a) i b = sln x i b := by
  have e : (fun k => if k = i then b else lnH (sln x i a) k) = fun k => if k = i then b else lnH x k := funext fun k => by
    by_cases q : k = i
    · rw [if_pos q, if_pos q]
    · rw [if_neg q, if_neg q]
      show (if k = i then a else lnH x k) = lnH x k
      rw [if_neg q]
  show ((sln x i a).1, (sln x i a).2.1, (sln x i a).2.2.1, (sln x i a).2.2.2.1, (sln x i a).2.2.2.2.1, (sln x i a).2.2.2.2.2.1, (fun k => if k = i then b else lnH (sln x i a) k)) = _
  rw [e]
  rfl
theorem upH_up (t : St) (h : Nat) (x y : HS) : upH (upH t h x) h y = upH t h y := by
  have e : (fun k => if k = h then y else hS (upH t h x) k) = fun k => if k = h then y else hS t k := funext fun k => by
    by_cases q : k = h
    · rw [if_pos q, if_pos q]
    · rw [if_neg q, if_neg q]
      show (if k = h then x else hS t k) = hS t k
      rw [if_neg q]
  show (nS t, yS t, sS t, (fun k => if k = h then y else hS (upH t h x) k)) = _
  rw [e]
  rfl
theorem p_longerOne {o : Nat} {M : Nm} {x : HS} (hx : WfH x) (h : HR o M x) (sm : Int64) {i : Nat} (hi : i < nsH x) : ∃ M', f_H_howManyInsideWithLonger o (nI i) sm M = some (nI (pc (encl (pth (sln x i (if 7 ≤ lnH x i then lnH x i else lnH x i + 1)) &&& (sm ^^^ (-1))))), M') ∧ Fr o (o + 3) M M' ∧ HR o M' x := by
  have hx5 := hx.2.2.2.2.1
  obtain ⟨y1, y2, y3⟩ := hx.2.2.2.2.2 i hi
  obtain ⟨r1, r2⟩ := h.1.2.2.2.2.2 i hi
  have el : lt0 (nI i) (nsH x) = true := by
    unfold lt0
    rw [nI_toInt (by omega)]
    simp only [Bool.and_eq_true, decide_eq_true_eq]
    omega
  unfold f_H_howManyInsideWithLonger
  rw [p_hasStroke hx5 h.1, bnd_s, if_neg (bI_t el), grd_h (inb_nI (by omega) (by decide)), ix_nI (by omega), r2]
  by_cases q : 7 ≤ lnH x i
  · obtain ⟨M1, a1, a2, a3⟩ := p_howManyInside h sm
    rw [if_neg (show ¬ nI (lnH x i) < 7 from nI_nlt (b := 7) q (by omega)), a1, bnd_s, if_pos q, sln_id]
    exact ⟨M1, rfl, a2.fr, a3⟩
  · obtain ⟨a1, a2⟩ := p_traced (hx.sln (i := i) (v := lnH x i + 1) ⟨by omega, by omega⟩) (h.1.ln i (lnH x i + 1)) h.2.2.2
    obtain ⟨M1, b1, b2, b3⟩ := p_howManyInside a2 sm
    have hl : M1.1 (o + 2) i = nI (lnH x i + 1) := by
      have := (b3.1.2.2.2.2.2 i hi).2
      rw [this]
      show nI (if i = i then lnH x i + 1 else lnH x i) = _
      rw [if_pos rfl]
    have hF := b3.1.ln i (lnH x i)
    rw [sln_sln, sln_id] at hF
    obtain ⟨c1, c2⟩ := p_traced hx hF b3.2.2.2
    rw [if_pos (show nI (lnH x i) < 7 from nI_lt (b := 7) (by omega) (by decide)), grd_h (inb_nI (by omega) (by decide)), grd_h (inb_nI (by omega) (by decide)), bl_e, nI_1, a1, bnd_s, b1, bnd_s, grd_h (inb_nI (by omega) (by decide)), grd_h (inb_nI (by omega) (by decide)), bl_e, hl, nI_pred, c1, bnd_s, if_neg q]
    exact ⟨_, rfl, Fr.tr (Fr.i (by omega) (by omega)) (Fr.tr (Fr.t (Nat.le_refl _) (by omega)) (Fr.tr b2.fr (Fr.tr (Fr.i (by omega) (by omega)) (Fr.t (Nat.le_refl _) (by omega))))), c2⟩
theorem inS_up (t : St) (h : Nat) (x : HS) : inS (upH t h x) h = encl (pth x &&& (sS t ^^^ (-1))) := by
  unfold inS lnS
  rw [upH_s]
  rfl
theorem p_loL {A : Ab} (hw : WfA A) {M0 : Nm} (hA : CA M0 A) {j : Nat} (hj : j < nS (tA A)) : ∀ (n f i : Nat) (p : Nat × Option Nat) (M : Nm), LandR 30 M (tA A) → Fr 30 52 M0 M → i + n = nsH (hS (tA A) j) → n < f → p.1 ≤ 48 → (∀ b, p.2 = some b → b < 100) → QC id A M0 (f_P_longer_L36 (ho 30 j) f (nI p.1) (bR p.2) (nI i) M) (lfA A (a_best (mxF (lgG (tA A) j) n i p) (tA A))) := by
  have h6 := hw.1.1
  have hx := hw.1.2.2 j hj
  have hx5 := hx.2.2.2.2.1
  intro n
  induction n with
  | zero =>
    intro f i p M hl hF hi hf h1 h2
    obtain ⟨f, rfl⟩ : ∃ g, f = g + 1 := ⟨f - 1, by omega⟩
    rw [f_P_longer_L36, (hl.2.2.2.1 j hj).1.2.2.2.2.1, if_pos (nI_le (by omega) (by omega))]
    exact qc_best hw (hF.w (by omega) (by omega)) (hA.t30 hw hF hl.ca) h2
  | succ n ih =>
    intro f i p M hl hF hi hf h1 h2
    obtain ⟨f, rfl⟩ : ∃ g, f = g + 1 := ⟨f - 1, by omega⟩
    have hr := hl.2.2.2.1 j hj
    obtain ⟨M1, a1, a2, a3⟩ := p_longerOne hx hr (sS (tA A)) (i := i) (by omega)
    have hl1 := hl.up a2 a3
    rw [upH_id] at hl1
    have hF1 := Fr.tr hF (Fr.hd (d := 30) (h := j) (by omega) a2)
    have hg : lgG (tA A) j i = pc (encl (pth (sln (hS (tA A) j) i (if 7 ≤ lnH (hS (tA A) j) i then lnH (hS (tA A) j) i else lnH (hS (tA A) j) i + 1)) &&& (sS (tA A) ^^^ (-1)))) := by
      unfold lgG
      rw [inS_up]
    have hle : lgG (tA A) j i ≤ 48 := by rw [hg]; exact pc48 (lo_encl _)
    rw [f_P_longer_L36, hr.1.2.2.2.2.1, if_neg (nI_ge (by omega) (by omega)), hl.1, a1, bnd_s, mxF_s, nI_1, ← hg]
    by_cases q : p.1 < lgG (tA A) j i
    · rw [if_neg (nI_ge q (by omega)), if_pos (show p.1 < lgG (tA A) j i from q)]
      exact ih f (i + 1) (lgG (tA A) j i, some i) M1 hl1 hF1 (by omega) (by omega) hle (fun b hb => by simp at hb; omega)
    · rw [if_pos (nI_le (by omega) (by omega)), if_neg (show ¬ p.1 < lgG (tA A) j i from q)]
      exact ih f (i + 1) p M1 hl1 hF1 (by omega) (by omega) h1 h2
theorem k_longer {A : Ab} (hw : WfA A) (v1 : Int32) (M : Nm) (h : CA M A) : QC id A M (f_P_longer v1 M) (lfA A (o_longer v1 (tA A))) := by
  have h6 := hw.1.1
  unfold f_P_longer o_longer
  by_cases e1 : hn v1 (tA A) = true
  · obtain ⟨j, j1, j2, j3⟩ := hn_of e1
    obtain ⟨M1, a1, a2, a3⟩ := p_onTrial hw h j1 j2
    obtain ⟨M2, b1, b2, b3⟩ := p_howManyInside (a3.2.2.2.1 j j1) (sS (tA A))
    have x5 := (hw.1.2.2 j j1).2.2.2.2.1
    rw [a1, bnd_s, ifn_s, grd_h (isb_ho is30 (by omega)), if_pos (show hn v1 (tA A) = true from e1), j3, a3.1, b1, bnd_s]
    exact p_loL hw h j1 (nsH (hS (tA A) j)) FU 0 (pc (inS (tA A) j), none) M2 (a3.i b2 b3) (Fr.tr a2 (b2.fl (by omega)).fr) (by omega) (FU_gt (by omega)) (pc48 (lo_inS _ _)) (fun b hb => by simp at hb)
  · rw [p_onTrialN hw h e1, bnd_s, ifn_n, if_neg (show ¬ hn v1 (tA A) = true from e1)]
    exact qc_f0 hw h
/-! where one had best begin, as what -/
theorem sat_id (x : HS) : sat x (atH x) = x := rfl
theorem p_bgL25 {A : Ab} (hw : WfA A) {M0 : Nm} (hA : CA M0 A) {j : Nat} (hj : j < nS (tA A)) : ∀ (n f i c : Nat) (p : Option (Nat × Nat)) (M : Nm), c < 48 → LandR 30 M (upH (tA A) j (sat (hS (tA A) j) c)) → Fr 30 52 M0 M → i + n = 48 → n < f → bok p → QC id A M0 (f_P_begin_L25 (ho 30 j) f (bM p) (bB p) (nI i) M) (lfA A (.inl (bB (bxF (bgG (tA A) j) n i p), tA A))) := by
  have h6 := hw.1.1
  have hx := hw.1.2.2 j hj
  intro n
  induction n with
  | zero =>
    intro f i c p M hc hl hF hi hf hp
    obtain ⟨f, rfl⟩ : ∃ g, f = g + 1 := ⟨f - 1, by omega⟩
    have : i = 48 := by omega
    subst this
    rw [f_P_begin_L25, if_pos (by decide)]
    exact qc_30 hw hA hF hl
  | succ n ih =>
    intro f i c p M hc hl hF hi hf hp
    obtain ⟨f, rfl⟩ : ∃ g, f = g + 1 := ⟨f - 1, by omega⟩
    have hr : HR (ho 30 j) M (hS (upH (tA A) j (sat (hS (tA A) j) c)) j) := hl.2.2.2.1 j hj
    rw [upH_s] at hr
    obtain ⟨M1, a1, a2, a3⟩ := p_moveTo (hx.sat hc) hr.1 hr.2.2.2 (c := i) (by omega)
    have a3' : HR (ho 30 j) M1 (sat (hS (tA A) j) i) := a3
    have hl1 := hl.up a2 a3'
    rw [upH_up] at hl1
    obtain ⟨M2, b1, b2, b3⟩ := p_howManyInside a3' (sS (tA A))
    have hl2 : LandR 30 M2 (upH (tA A) j (sat (hS (tA A) j) i)) := hl1.i (i := j) b2 (by rw [upH_s]; exact b3)
    have hF2 := Fr.tr (Fr.tr hF (Fr.hd (d := 30) (h := j) (by omega) a2)) (b2.fl (by omega)).fr
    have hs : M1.2.1 30 0 = sS (tA A) := hl1.1
    have hg : bgG (tA A) j i = pc (encl (pth (sat (hS (tA A) j) i) &&& (sS (tA A) ^^^ (-1)))) := by
      unfold bgG
      rw [inS_up]
    have hle : bgG (tA A) j i ≤ 48 := by rw [hg]; exact pc48 (lo_encl _)
    rw [f_P_begin_L25, if_neg (show ¬ (48 : Int32) ≤ nI i from nI_ge (b := 48) (by omega) (by decide)), a1, bnd_s, hs, b1, bnd_s, bxF_b, nI_1, ← hg]
    have key := ih f (i + 1) i (bst p (bgG (tA A) j i) i) M2 (by omega) hl2 hF2 (by omega) (by omega) (bok_s hp hle (by omega))
    rcases b_le hp hle i with ⟨q1, q2⟩ | ⟨q1, q2⟩
    · rw [if_pos q1]
      rw [q2] at key ⊢
      exact key
    · rw [if_neg q1]
      rw [q2] at key ⊢
      exact key
theorem k_begin {A : Ab} (hw : WfA A) (v1 : Int32) (M : Nm) (h : CA M A) : QC id A M (f_P_begin v1 M) (lfA A (o_begin v1 (tA A))) := by
  have h6 := hw.1.1
  unfold f_P_begin o_begin
  by_cases e1 : hn v1 (tA A) = true
  · obtain ⟨j, j1, j2, j3⟩ := hn_of e1
    obtain ⟨M1, a1, a2, a3⟩ := p_onTrial hw h j1 j2
    rw [a1, bnd_s, ifn_s, grd_h (isb_ho is30 (by omega)), if_pos (show hn v1 (tA A) = true from e1), j3]
    exact p_bgL25 hw h j1 48 FU 0 (atH (hS (tA A) j)) none M1 (hw.1.2.2 j j1).2.1 (by rw [sat_id, upH_id]; exact a3) a2 rfl (FU_gt (by decide)) (fun q hq => by simp at hq)
  · rw [p_onTrialN hw h e1, bnd_s, ifn_n, if_neg (show ¬ hn v1 (tA A) = true from e1)]
    exact qc_f0 hw h
theorem skd_id (x : HS) : skd x (kdH x) = x := rfl
theorem p_kdL25 {A : Ab} (hw : WfA A) {M0 : Nm} (hA : CA M0 A) {j : Nat} (hj : j < nS (tA A)) : ∀ (n f i c : Nat) (p : Option (Nat × Nat)) (M : Nm), c < 6 → LandR 30 M (upH (tA A) j (skd (hS (tA A) j) c)) → Fr 30 52 M0 M → i + n = 6 → n < f → bok p → QC id A M0 (f_P_kind_L25 (nI j) (ho 30 j) f (bM p) (bB p) (nI i) M) (lfA A (.inl (bB (bxF (kdG (tA A) j) n i p), tA A))) := by
  have h6 := hw.1.1
  have hx := hw.1.2.2 j hj
  intro n
  induction n with
  | zero =>
    intro f i c p M hc hl hF hi hf hp
    obtain ⟨f, rfl⟩ : ∃ g, f = g + 1 := ⟨f - 1, by omega⟩
    have : i = 6 := by omega
    subst this
    rw [f_P_kind_L25, if_pos (by decide)]
    exact qc_30 hw hA hF hl
  | succ n ih =>
    intro f i c p M hc hl hF hi hf hp
    obtain ⟨f, rfl⟩ : ∃ g, f = g + 1 := ⟨f - 1, by omega⟩
    have hr : HR (ho 30 j) M (hS (upH (tA A) j (skd (hS (tA A) j) c)) j) := hl.2.2.2.1 j hj
    rw [upH_s] at hr
    obtain ⟨M1, a1, a2, a3⟩ := p_become (hx.skd hc) hr (k := i) (by omega)
    have a3' : HR (ho 30 j) M1 (skd (hS (tA A) j) i) := a3
    have hl1 := hl.up a2 a3'
    rw [upH_up] at hl1
    have hwu : Wf (upH (tA A) j (skd (hS (tA A) j) i)) := hw.1.up (hx.skd (by omega))
    obtain ⟨M2, b1, b2, b3⟩ := p_howManyOwnedBy is30 hwu hl1 (k := j) hj
    have hF2 := Fr.tr (Fr.tr hF (Fr.hd (d := 30) (h := j) (by omega) a2)) b2.fr
    have hle : kdG (tA A) j i ≤ 48 := owc_le _ _
    have b1' : f_L_howManyOwnedBy 30 (nI j) M1 = some (nI (kdG (tA A) j i), M2) := b1
    rw [f_P_kind_L25, if_neg (nI_ge (by omega) (by decide)), grd_h (inb_nI (by omega) (by decide)), knd_k (by omega), a1, bnd_s, b1', bnd_s, bxF_b, nI_1]
    have key := ih f (i + 1) i (bst p (kdG (tA A) j i) i) M2 (by omega) b3 hF2 (by omega) (by omega) (bok_s hp hle (by omega))
    rcases b_le hp hle i with ⟨q1, q2⟩ | ⟨q1, q2⟩
    · rw [if_pos q1]
      rw [q2] at key ⊢
      exact key
    · rw [if_neg q1]
      rw [q2] at key ⊢
      exact key
theorem k_kind {A : Ab} (hw : WfA A) (v1 : Int32) (M : Nm) (h : CA M A) : QC id A M (f_P_kind v1 M) (lfA A (o_kind v1 (tA A))) := by
  have h6 := hw.1.1
  unfold f_P_kind o_kind
  by_cases e1 : hn v1 (tA A) = true
  · obtain ⟨j, j1, j2, j3⟩ := hn_of e1
    obtain ⟨M1, a1, a2, a3⟩ := p_onTrial hw h j1 j2
    rw [a1, bnd_s, ifn_s, grd_h (isb_ho is30 (by omega)), if_pos (show hn v1 (tA A) = true from e1), j3, j2]
    exact p_kdL25 hw h j1 6 FU 0 (kdH (hS (tA A) j)) none M1 (hw.1.2.2 j j1).1 (by rw [skd_id, upH_id]; exact a3) a2 rfl (FU_gt (by decide)) (fun q hq => by simp at hq)
  · rw [p_onTrialN hw h e1, bnd_s, ifn_n, if_neg (show ¬ hn v1 (tA A) = true from e1)]
    exact qc_f0 hw h
