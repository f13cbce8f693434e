/-! the memory once all is made -/
def zM : Mm := (fun _ _ => 0, fun _ _ => 0, fun _ _ => none)
def mF : Mm := moM 14 (paM zM)
def m0 : Nm := (fun c k => if k = 0 then (if c = 3 then 1 else if c = 4 then 2 else if c = 5 then 3 else if c = 6 then 4 else if c = 7 then 5 else 0) else 0, fun _ _ => 0, fun _ => 1)
theorem zM_z : Dz 0 zM := fun _ _ _ => ⟨rfl, rfl, rfl⟩
theorem shF_z : ∀ (n i : Nat) (M : Mm), i + n ≤ 4 → Dz (77 + 2 * i) M → Dz (77 + 2 * (i + n)) (shF n i M) := by
  intro n
  induction n with
  | zero => intro i M _ h; exact h
  | succ n ih =>
    intro i M hi h
    rw [shF_s, show i + (n + 1) = i + 1 + n by omega]
    exact ih (i + 1) _ (by omega) (((h.up (by omega)).q (by omega)).q (by omega))
theorem pa_z {M : Mm} (hz0 : Dz 1 M) : Dz 77 (pa22 M) := by
  have hz1 : Dz 2 (M) := hz0.up (by decide)
  have hz2 : Dz 2 (pa1 M) := kiM_z hz1 (by decide)
  have hz3 : Dz 3 (pa1 M) := hz2.up (by decide)
  have hz4 : Dz 3 (pa2 M) := hz3.q (by decide)
  have hz5 : Dz 4 (pa2 M) := hz4.up (by decide)
  have hz6 : Dz 4 (pa3 M) := kiM_z hz5 (by decide)
  have hz7 : Dz 4 (pa4 M) := hz6.q (by decide)
  have hz8 : Dz 5 (pa4 M) := hz7.up (by decide)
  have hz9 : Dz 5 (pa5 M) := kiM_z hz8 (by decide)
  have hz10 : Dz 5 (pa6 M) := hz9.q (by decide)
  have hz11 : Dz 6 (pa6 M) := hz10.up (by decide)
  have hz12 : Dz 6 (pa7 M) := kiM_z hz11 (by decide)
  have hz13 : Dz 6 (pa8 M) := hz12.q (by decide)
  have hz14 : Dz 7 (pa8 M) := hz13.up (by decide)
  have hz15 : Dz 7 (pa9 M) := kiM_z hz14 (by decide)
  have hz16 : Dz 7 (pa10 M) := hz15.q (by decide)
  have hz17 : Dz 8 (pa10 M) := hz16.up (by decide)
  have hz18 : Dz 8 (pa11 M) := kiM_z hz17 (by decide)
  have hz19 : Dz 8 (pa12 M) := hz18.q (by decide)
  have hz20 : Dz 8 (pa13 M) := hz19.q (by decide)
  have hz21 : Dz 9 (pa13 M) := hz20.up (by decide)
  have hz22 : Dz 30 (pa14 M) := laM_z hz21
  have hz23 : Dz 30 (pa15 M) := hz22.q (by decide)
  have hz24 : Dz 31 (pa15 M) := hz23.up (by decide)
  have hz25 : Dz 52 (pa16 M) := laM_z hz24
  have hz26 : Dz 52 (pa17 M) := hz25.q (by decide)
  have hz27 : Dz 53 (pa17 M) := hz26.up (by decide)
  have hz28 : Dz 74 (pa18 M) := laM_z hz27
  have hz29 : Dz 74 (pa19 M) := hz28.q (by decide)
  have hz30 : Dz 75 (pa19 M) := hz29.up (by decide)
  have hz31 : Dz 76 (pa20 M) := (hz30.up (by decide)).q (by decide)
  have hz32 : Dz 76 (pa21 M) := hz31.q (by decide)
  have hz33 : Dz 77 (pa21 M) := hz32.up (by decide)
  have hz34 : Dz 77 (pa22 M) := hz33.q (by decide)
  exact hz34
theorem paM_z {M : Mm} (hz : Dz 1 M) : Dz 86 (paM M) := by
  have h := shF_z 4 0 _ (by omega) (pa_z hz)
  exact (h.up (by omega)).q (by omega)
/-- two memories agree at a cell -/
def agK (A B : Mm) (c : Nat) (q : Nat × Nat) : Bool := if q.1 = 0 then decide (A.1 c q.2 = B.1 c q.2) else if q.1 = 1 then decide (A.2.1 c q.2 = B.2.1 c q.2) else decide (A.2.2 c q.2 = B.2.2 c q.2)
def agC (A B : Mm) (c : Nat) : Bool := if 20 ≤ (sh c).1 then (List.range (sh c).2).all (fun j => agK A B c ((if (sh c).1 = 20 ∨ (sh c).1 = 22 then 0 else if (sh c).1 = 21 then 1 else 2), j)) else ((ftL.getD (sh c).1 []).zipIdx).all (agK A B c)
theorem agK_f {A B : Mm} {c : Nat} {q : Nat × Nat} (G : Gl) (h : agK A B c q = true) : fV G A c q = fV G B c q := by
  unfold agK at h
  unfold fV
  by_cases h0 : q.1 = 0
  · rw [if_pos h0] at h ⊢
    rw [if_pos h0, of_decide_eq_true h]
  · rw [if_neg h0] at h ⊢
    rw [if_neg h0]
    by_cases h1 : q.1 = 1
    · rw [if_pos h1] at h ⊢
      rw [if_pos h1, of_decide_eq_true h]
    · rw [if_neg h1] at h ⊢
      rw [if_neg h1, of_decide_eq_true h]
theorem arrV_x {cA : ClassId} {n : Nat} {f g : Nat → Value} (h : ∀ j, j < n → f j = g j) : arrV cA n f = arrV cA n g := by
  unfold arrV
  congr 2
  funext j
  exact h j.1 j.2
theorem agC_at {A B : Mm} {c : Nat} {G : Gl} {a : Nat} {H : Heap} (h : agC A B c = true) (hA : va_at G.1 kcl (a, cE G A c (sh c)) H) : va_at G.1 kcl (a, cE G B c (sh c)) H := by
  unfold agC at h
  by_cases q : 20 ≤ (sh c).1
  · rw [if_pos q] at h
    have hall : ∀ j, j < (sh c).2 → agK A B c ((if (sh c).1 = 20 ∨ (sh c).1 = 22 then 0 else if (sh c).1 = 21 then 1 else 2), j) = true := fun j hj => List.all_eq_true.mp h j (List.mem_range.mpr hj)
    unfold cE at hA ⊢
    rw [if_pos q] at hA ⊢
    unfold aE at hA ⊢
    by_cases h0 : (sh c).1 - 20 = 0 ∨ (sh c).1 - 20 = 2
    · rw [if_pos h0] at hA ⊢
      have h0' : (sh c).1 = 20 ∨ (sh c).1 = 22 := by omega
      have e : vp_cell (G.2.1 ((sh c).1 - 20)) ((sh c).2, .inl (A.1 c)) = vp_cell (G.2.1 ((sh c).1 - 20)) ((sh c).2, .inl (B.1 c)) := by
        rw [vp_cell_i, vp_cell_i]
        refine arrV_x (fun j hj => ?_)
        have := hall j hj
        rw [if_pos h0'] at this
        have h2 : A.1 c j = B.1 c j := by simpa [agK] using this
        rw [h2]
      show H[a]? = some (vp_cell _ _)
      rw [← e]
      exact hA
    · rw [if_neg h0] at hA ⊢
      have h0' : ¬ ((sh c).1 = 20 ∨ (sh c).1 = 22) := by omega
      by_cases h1 : (sh c).1 - 20 = 1
      · rw [if_pos h1] at hA ⊢
        have h1' : (sh c).1 = 21 := by omega
        have e : vp_cell (G.2.1 ((sh c).1 - 20)) ((sh c).2, .inr (.inl (A.2.1 c))) = vp_cell (G.2.1 ((sh c).1 - 20)) ((sh c).2, .inr (.inl (B.2.1 c))) := by
          rw [vp_cell_l, vp_cell_l]
          refine arrV_x (fun j hj => ?_)
          have := hall j hj
          rw [if_neg h0', if_pos h1'] at this
          have h2 : A.2.1 c j = B.2.1 c j := by simpa [agK] using this
          rw [h2]
        show H[a]? = some (vp_cell _ _)
        rw [← e]
        exact hA
      · rw [if_neg h1] at hA ⊢
        have h1' : ¬ (sh c).1 = 21 := by omega
        have e : vp_cell (G.2.1 ((sh c).1 - 20)) ((sh c).2, .inr (.inr (.inr (.inr (fun j => (A.2.2 c j).map (ad G)))))) = vp_cell (G.2.1 ((sh c).1 - 20)) ((sh c).2, .inr (.inr (.inr (.inr (fun j => (B.2.2 c j).map (ad G)))))) := by
          rw [vp_cell_q, vp_cell_q]
          refine arrV_x (fun j hj => ?_)
          have := hall j hj
          rw [if_neg h0', if_neg h1'] at this
          have h2 : A.2.2 c j = B.2.2 c j := by simpa [agK] using this
          rw [h2]
        show H[a]? = some (vp_cell _ _)
        rw [← e]
        exact hA
  · rw [if_neg q] at h
    unfold cE at hA ⊢
    rw [if_neg q] at hA ⊢
    have e : fL G A (sh c).1 c = fL G B (sh c).1 c := by
      unfold fL
      exact List.map_congr_left (fun x hx => agK_f G (List.all_eq_true.mp h x hx))
    rw [← e]
    exact hA
theorem rl_ag {A B : Mm} {G : Gl} {N : Nat} {H : Heap} (h : ∀ c, c < N → agC A B c = true) (hR : Rl G A N H) : Rl G B N H := by
  refine ⟨fun k q hk => ?_, hR.2⟩
  obtain ⟨hkN, rfl⟩ := wl_at hk
  exact agC_at (h k hkN) (hR.1 k _ (wl_get hkN))
theorem mF_ag1 : ∀ c, c < 101 → agC mF (toM m0) c = true := by decide +kernel
/-! nothing is told yet -/
def A0 : Ab := ((0, 0, 0, fun _ => nH 0 0), fun _ => 0, (false, (0, 0, 0, fun _ => nH 0 0)), (0, fun _ => 0), (fun _ => 0, fun _ => 0, fun _ _ => 0))
theorem encl_0 : encl 0 = 0 := by decide +kernel
theorem A0_w : WfA A0 := ⟨⟨by decide, fun c _ => tb_0 c, fun h hh => absurd hh (Nat.not_lt_zero _)⟩, (fun q => by cases q), by decide, fun i hi => absurd hi (Nat.not_lt_zero _), fun s hs => ⟨Or.inl rfl, Nat.zero_le _, fun _ => rfl⟩⟩
theorem A0_l (d : Nat) (hd : d = 8 ∨ d = 30 ∨ d = 52) : LandR d m0 (tA A0) := ⟨rfl, by rcases hd with e | e | e <;> subst e <;> rfl, by rcases hd with e | e | e <;> subst e <;> rfl, fun h hh => absurd hh (Nat.not_lt_zero _), fun h _ => encl_0.symm⟩
theorem iv_0 : Iv m0 := by
  refine ⟨A0, A0_w, ⟨A0_l 8 (Or.inl rfl), (A0_l 30 (Or.inr (Or.inl rfl))).ca, ⟨(A0_l 52 (Or.inr (Or.inr rfl))).ca, fun q => by cases q⟩, ⟨fun i hi => ?_, rfl, ⟨rfl, fun i hi => absurd hi (Nat.not_lt_zero _)⟩, fun s hs => ⟨?_, rfl, fun k _ => rfl⟩, by decide⟩⟩, ⟨rfl, rfl, fun c hc => ?_, fun h hh => absurd hh (Nat.not_lt_zero _)⟩, fun i hi => ?_, rfl, (fun q => by cases q), rfl, fun i hi => absurd hi (Nat.not_lt_zero _), fun s hs => ⟨?_, ?_, fun k _ => rfl⟩⟩
  · show (if i = 0 then (if 85 = 3 then (1 : Int32) else if 85 = 4 then 2 else if 85 = 5 then 3 else if 85 = 6 then 4 else if 85 = 7 then 5 else 0) else 0) = 0
    split <;> rfl
  · show (if 0 = 0 then (if 77 + 2 * s = 3 then (1 : Int32) else if 77 + 2 * s = 4 then 2 else if 77 + 2 * s = 5 then 3 else if 77 + 2 * s = 6 then 4 else if 77 + 2 * s = 7 then 5 else 0) else 0) = 0
    rw [if_pos rfl, if_neg (by omega), if_neg (by omega), if_neg (by omega), if_neg (by omega), if_neg (by omega)]
  · have e : m0.1 87 (2 + c) = 0 := by
      show (if 2 + c = 0 then _ else (0 : Int32)) = 0
      rw [if_neg (by omega)]
    rw [e]
    show (0 : Int32) = bI (tb 0 c)
    rw [tb_0]
    rfl
  · show (if i = 0 then (if 91 = 3 then (1 : Int32) else if 91 = 4 then 2 else if 91 = 5 then 3 else if 91 = 6 then 4 else if 91 = 7 then 5 else 0) else 0) = 0
    split <;> rfl
  · show (if s = 0 then (if 97 = 3 then (1 : Int32) else if 97 = 4 then 2 else if 97 = 5 then 3 else if 97 = 6 then 4 else if 97 = 7 then 5 else 0) else 0) = 0
    split <;> rfl
  · show (if s = 0 then (if 98 = 3 then (1 : Int32) else if 98 = 4 then 2 else if 98 = 5 then 3 else if 98 = 6 then 4 else if 98 = 7 then 5 else 0) else 0) = 0
    split <;> rfl
