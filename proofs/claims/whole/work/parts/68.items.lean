/-! the class: words, numbers, items of the text -/
def F2 (M M' : Nm) : Prop := ∀ c, (c < 30 ∨ 52 ≤ c) → c ≠ 74 → M'.1 c = M.1 c ∧ M'.2.1 c = M.2.1 c ∧ M'.2.2 c = M.2.2 c
theorem F2.rf (M : Nm) : F2 M M := fun _ _ _ => ⟨rfl, rfl, rfl⟩
theorem F2.tr {M M1 M2 : Nm} (h1 : F2 M M1) (h2 : F2 M1 M2) : F2 M M2 := fun c a b => ⟨(h2 c a b).1.trans (h1 c a b).1, (h2 c a b).2.1.trans (h1 c a b).2.1, (h2 c a b).2.2.trans (h1 c a b).2.2⟩
theorem Fr.f3 {M M' : Nm} (h : Fr 30 52 M M') : F2 M M' := fun c a _ => h c a
theorem Fr.f7 {M M' : Nm} (h : Fr 74 75 M M') : F2 M M' := fun c _ b => h c (by omega)
theorem Lc.r {z : Nat} {p : Nat → Nat} {M M' : Nm} {a : Nat} (h : Lc z p M a) (hf : Fr 30 52 M M') : Lc z p M' a := by
  obtain ⟨⟨t1, t2, t3, t4⟩, b, c, d, e, f⟩ := h
  have e4 := (hf 74 (by omega)).1
  exact ⟨⟨t1, t2, by rw [e4]; exact t3, fun i hi => by rw [(hf 75 (by omega)).1]; exact t4 i hi⟩, b, by rw [e4]; exact c, by rw [e4]; exact d, by rw [e4]; exact e, fun y => by rw [e4]; exact f y⟩
theorem p_next {z : Nat} {p : Nat → Nat} {M : Nm} {a : Nat} (h : Lc z p M a) : ∃ M', f_T_goOn M = some ((), M') ∧ Fr 74 75 M M' ∧ Lc z p M' (nx z p a) := p_goOn (tkB_le h.2.1).2 h.1 h.2.2.2.1
theorem srt_1 {z : Nat} {p : Nat → Nat} {a : Nat} : srt z p a = 1 ↔ isL z p a = true := by
  unfold srt
  by_cases q : a < z
  · rw [if_pos q]
    by_cases q1 : isL z p a = true
    · rw [if_pos q1]; simp [q1]
    · rw [if_neg q1]
      constructor
      · intro y
        repeat' split at y
        all_goals omega
      · intro y; exact absurd y q1
  · rw [if_neg q]
    exact ⟨fun y => by omega, fun y => absurd (isL_z y) q⟩
theorem srt_2 {z : Nat} {p : Nat → Nat} {a : Nat} : srt z p a = 2 ↔ isD z p a = true := by
  unfold srt
  by_cases q : a < z
  · rw [if_pos q]
    by_cases q1 : isL z p a = true
    · rw [if_pos q1]
      exact ⟨fun y => by omega, fun y => by rw [isLD q1] at y; exact absurd y (by decide)⟩
    · rw [if_neg q1]
      by_cases q2 : isD z p a = true
      · rw [if_pos q2]; simp [q2]
      · rw [if_neg q2]
        constructor
        · intro y
          split at y <;> omega
        · intro y; exact absurd y q2
  · rw [if_neg q]
    exact ⟨fun y => by omega, fun y => absurd (isD_z y) q⟩
theorem srt_3 {z : Nat} {p : Nat → Nat} {a : Nat} : srt z p a = 3 ↔ isC z p a = true := by
  unfold srt isC
  by_cases q : a < z
  · rw [if_pos q]
    by_cases q3 : p a = 59
    · have h1 : ¬ isL z p a = true := by simp [isL, q3]
      have h2 : ¬ isD z p a = true := by simp [isD, q3]
      rw [if_neg h1, if_neg h2, if_pos q3]; simp [q, q3]
    · constructor
      · intro y
        repeat' split at y
        all_goals first | omega | contradiction
      · intro y; simp [q3] at y
  · rw [if_neg q]; simp [q]
theorem srt_0 {z : Nat} {p : Nat → Nat} {a : Nat} : srt z p a = 0 ↔ ¬ a < z := by
  unfold srt
  by_cases q : a < z
  · rw [if_pos q]
    constructor
    · intro y
      repeat' split at y
      all_goals omega
    · intro y; exact absurd q y
  · rw [if_neg q]; simp [q]
theorem srt_le (z : Nat) (p : Nat → Nat) (a : Nat) : srt z p a ≤ 4 := by
  unfold srt
  repeat' split
  all_goals omega
theorem Lc.s {z : Nat} {p : Nat → Nat} {M : Nm} {a : Nat} (h : Lc z p M a) {k : Nat} (hk : k ≤ 4) : M.1 74 2 = nI k ↔ srt z p a = k := by
  have := srt_le z p a
  rw [h.2.2.2.2.1, nI_eq (by omega) (by omega)]
theorem p_isNumber {z : Nat} {p : Nat → Nat} {M : Nm} {a : Nat} (h : Lc z p M a) {lo hi : Nat} (hlo : lo < 1000) (hhi : hi ≤ 999) : f_T_isNumber (nI lo) (nI hi) M = some (bI (nuO z p a lo hi), M) ∧ (nuO z p a lo hi = true → M.1 74 5 = nI (nuV z p a)) := by
  unfold f_T_isNumber
  by_cases q : isD z p a = true
  · have hv := h.2.2.2.2.2 q
    have hl := vlN_le p a (tkB z p a - a)
    have hn : nuV z p a = nmN p a (tkB z p a - a) := by unfold nuV; rw [if_pos q]
    have hm := vlN_nm p a (tkB z p a - a)
    rw [← hn] at hm
    rw [if_pos (show M.1 74 2 = 2 from (h.s (k := 2) (by decide)).mpr (srt_2.mpr q)), hv]
    have hO : nuO z p a lo hi = (decide (lo ≤ nuV z p a) && decide (nuV z p a ≤ hi)) := by unfold nuO; rw [q, Bool.true_and]
    rw [hO]
    by_cases c1 : vlN p a (tkB z p a - a) < lo
    · have : ¬ lo ≤ nuV z p a := by
        intro y
        split at hm <;> omega
      refine ⟨?_, fun y => by simp [this] at y⟩
      rw [if_pos (nI_lt c1 (by omega))]; simp [this, bI]
    · rw [if_neg (nI_nlt (by omega) (by omega))]
      by_cases c2 : hi < vlN p a (tkB z p a - a)
      · have : ¬ nuV z p a ≤ hi := by
          intro y
          rw [if_pos (by omega)] at hm
          omega
        refine ⟨?_, fun y => by simp [this] at y⟩
        rw [if_pos (nI_lt c2 (by omega))]; simp [this, bI]
      · have h999 : nuV z p a ≤ 999 := by
          apply Classical.byContradiction
          intro y
          rw [if_neg y] at hm
          omega
        rw [if_pos h999] at hm
        have h1 : lo ≤ nuV z p a := by omega
        have h2 : nuV z p a ≤ hi := by omega
        refine ⟨?_, fun _ => by rw [hm]⟩
        rw [if_neg (nI_nlt (by omega) (by omega))]; simp [h1, h2, bI]
  · have hO : nuO z p a lo hi = false := by unfold nuO; rw [nf q, Bool.false_and]
    rw [if_neg (show ¬ M.1 74 2 = 2 from fun y => q (srt_2.mp ((h.s (k := 2) (by decide)).mp y))), hO]
    exact ⟨rfl, fun y => by simp at y⟩
/-- the words as letters -/
def wl : List (List Nat) := [[104, 97, 110, 100], [109, 105, 115, 101, 114], [100, 117, 107, 101], [115, 104, 97, 107, 121], [104, 101, 105, 114], [108, 101, 102, 116], [115, 109, 117, 100, 103, 101], [100, 114, 121], [97, 116], [105, 110, 107], [117, 112], [114, 105, 103, 104, 116], [100, 111, 119, 110], [98, 97, 99, 107]]
theorem wl_all : ∀ w, w < 14 → (wl.getD w []).length = lenS.getD w 0 ∧ lenS.getD w 0 ≤ 6 ∧ ∀ i, i < lenS.getD w 0 → ((bytS.getD w []).getD i 0) &&& 255 = nI ((wl.getD w []).getD i 0) ∧ 0 < (wl.getD w []).getD i 0 ∧ (wl.getD w []).getD i 0 < 256 := by decide +kernel
theorem p_iw28 {z : Nat} {p : Nat → Nat} {M : Nm} {a w : Nat} (hw : w < 14) (h : Lc z p M a) (hB : tkB z p a = a + lenS.getD w 0) : ∀ (n f i : Nat), (∀ j, j < i → p (a + j) = (wl.getD w []).getD j 0) → i + n = lenS.getD w 0 → n < f → f_T_isWord_L28 w f (nI i) M = some (bI (decide (∀ j, j < (wl.getD w []).length → p (a + j) = (wl.getD w []).getD j 0)), M) := by
  obtain ⟨w1, w2, w3⟩ := wl_all w hw
  have hz := (tkB_le (p := p) h.2.1).2
  have h0 := h.1.1
  intro n
  induction n with
  | zero =>
    intro f i hj hi hf
    obtain ⟨f, rfl⟩ : ∃ g, f = g + 1 := ⟨f - 1, by omega⟩
    have e : i = lenS.getD w 0 := by omega
    rw [f_T_isWord_L28, show f_str_len w M = some (nI (lenS.getD w 0), M) from rfl, bnd_s, if_pos (nI_le (by omega) (by omega)), decide_eq_true (fun j hj2 => hj j (by omega))]
    rfl
  | succ n ih =>
    intro f i hj hi hf
    obtain ⟨f, rfl⟩ : ∃ g, f = g + 1 := ⟨f - 1, by omega⟩
    obtain ⟨g1, g2, g3⟩ := w3 i (by omega)
    have e1 : f_str_at w (nI i) M = some (nI ((wl.getD w []).getD i 0), M) := by
      unfold f_str_at
      rw [grd_h (inb_nI (by omega) (by omega)), ix_nI (by omega), g1]
    have hp := h.1.2.1 (a + i) (by omega)
    rw [f_T_isWord_L28, show f_str_len w M = some (nI (lenS.getD w 0), M) from rfl, bnd_s, if_neg (nI_ge (by omega) (by omega)), h.2.2.1, nI_add, h.1.b (by omega), bnd_s, e1, bnd_s, nI_1]
    have e2 : chC z p (a + i) = nI (p (a + i)) := by unfold chC; rw [if_pos (by omega)]
    rw [e2]
    by_cases q : p (a + i) = (wl.getD w []).getD i 0
    · rw [if_pos (by rw [q])]
      exact ih f (i + 1) (fun j hj2 => by
        by_cases y : j = i
        · rw [y]; exact q
        · exact hj j (by omega)) (by omega) (by omega)
    · rw [if_neg (fun y => q ((nI_eq (by omega) (by omega)).mp y)), decide_eq_false (fun y => q (y i (by omega)))]
      rfl
theorem p_isWord {z : Nat} {p : Nat → Nat} {M : Nm} {a : Nat} (h : Lc z p M a) {w : Nat} (hw : w < 14) : f_T_isWord w M = some (bI (isW z p a (wl.getD w [])), M) := by
  obtain ⟨w1, w2, w3⟩ := wl_all w hw
  have hz := tkB_le (p := p) h.2.1
  have h0 := h.1.1
  unfold f_T_isWord isW
  by_cases q : isL z p a = true
  · rw [if_pos (show M.1 74 2 = 1 from (h.s (k := 1) (by decide)).mpr (srt_1.mpr q)), show f_str_len w M = some (nI (lenS.getD w 0), M) from rfl, bnd_s, h.2.2.1, h.2.2.2.1, q, Bool.true_and]
    have e : nI (tkB z p a) - nI a = nI (tkB z p a - a) := by
      apply Int32.toInt_inj.mp
      rw [sub_tI (by omega) (by omega), nI_toInt (by omega)]
      omega
    rw [e]
    by_cases c : tkB z p a = a + lenS.getD w 0
    · rw [if_pos (show nI (tkB z p a - a) = nI (lenS.getD w 0) by congr 1; omega), w1, decide_eq_true c, Bool.true_and]
      have := p_iw28 hw h c (lenS.getD w 0) FU 0 (fun j hj => by omega) (by omega) (FU_gt (by omega))
      rw [w1] at this
      exact this
    · rw [if_neg (fun y => c (by have := (nI_eq (by omega) (by omega)).mp y; omega)), w1, decide_eq_false c, Bool.false_and]
      rfl
  · rw [if_neg (show ¬ M.1 74 2 = 1 from fun y => q (srt_1.mp ((h.s (k := 1) (by decide)).mp y))), nf q, Bool.false_and]
    rfl
theorem kn_w : ∀ k, k < 6 → (sh (kc k)).1 - 1 = k := by decide
def kwC (z : Nat) (p : Nat → Nat) (a : Nat) : Nat → Nat → Option Nat
  | 0, _ => none
  | n + 1, k => if isW z p a (wl.getD k []) then some k else kwC z p a n (k + 1)
theorem kwC_N (z : Nat) (p : Nat → Nat) (a : Nat) : kwC z p a 6 0 = kwN z p a := rfl
theorem p_knL {z : Nat} {p : Nat → Nat} {M : Nm} {a : Nat} (h : Lc z p M a) : ∀ (n f k : Nat), k + n = 6 → n < f → f_T_kindNamed_L2 f (nI k) M = some ((kwC z p a n k).map kc, M) := by
  intro n
  induction n with
  | zero =>
    intro f k hk hf
    obtain ⟨f, rfl⟩ : ∃ g, f = g + 1 := ⟨f - 1, by omega⟩
    rw [f_T_kindNamed_L2, if_pos (nI_le (by omega) (by omega))]
    rfl
  | succ n ih =>
    intro f k hk hf
    obtain ⟨f, rfl⟩ : ∃ g, f = g + 1 := ⟨f - 1, by omega⟩
    have hz : kwC z p a (n + 1) k = if isW z p a (wl.getD k []) then some k else kwC z p a n (k + 1) := rfl
    rw [f_T_kindNamed_L2, if_neg (nI_ge (by omega) (by decide)), grd_h (inb_nI (by omega) (by decide)), knd_k (by omega), kn_w k (by omega), p_isWord h (by omega), bnd_s, grd_h (inb_nI (by omega) (by decide)), nI_1, hz]
    by_cases q : isW z p a (wl.getD k []) = true
    · rw [if_neg (bI_t q), if_pos q]; rfl
    · rw [if_pos (bI_f (nf q)), if_neg q]
      exact ih f (k + 1) (by omega) (by omega)
theorem p_kindNamed {z : Nat} {p : Nat → Nat} {M : Nm} {a : Nat} (h : Lc z p M a) : f_T_kindNamed M = some ((kwN z p a).map kc, M) := p_knL h 6 FU 0 rfl (FU_gt (by decide))
theorem p_wayNamed {z : Nat} {p : Nat → Nat} {M : Nm} {a : Nat} (h : Lc z p M a) : f_T_wayNamed M = some (oI (wwN z p a), M) := by
  unfold f_T_wayNamed wwN
  rw [p_isWord h (w := 10) (by decide), bnd_s, p_isWord h (w := 11) (by decide), bnd_s, p_isWord h (w := 12) (by decide), bnd_s, p_isWord h (w := 13) (by decide), bnd_s]
  show (if bI (isW z p a [117, 112]) = 0 then (if bI (isW z p a [114, 105, 103, 104, 116]) = 0 then (if bI (isW z p a [100, 111, 119, 110]) = 0 then (if bI (isW z p a [98, 97, 99, 107]) = 0 then some ((-1 : Int32), M) else some (3, M)) else some (2, M)) else some (1, M)) else some (0, M)) = _
  cases isW z p a [117, 112] <;> cases isW z p a [114, 105, 103, 104, 116] <;> cases isW z p a [100, 111, 119, 110] <;> cases isW z p a [98, 97, 99, 107] <;> rfl
