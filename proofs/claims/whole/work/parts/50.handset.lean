/-! the class: a hand's fields are set -/
theorem HF.ik {o : Nat} {M : Nm} {x : HS} (h : HF o M x) (v : Nat) : HF o (mI M o 2 (nI v)) (sik x v) := by
  obtain ⟨a, b, c, d, e, f⟩ := h
  refine ⟨a, ?_, ?_, ?_, ?_, fun i hi => ⟨?_, ?_⟩⟩
  · rw [mI_u, uw_n (by decide)]; exact b
  · rw [mI_u, uw_s]; rfl
  · rw [mI_u, uw_n (by decide)]; exact d
  · rw [mI_u, uw_n (by decide)]; exact e
  · rw [mI_o (by omega)]; exact (f i hi).1
  · rw [mI_o (by omega)]; exact (f i hi).2
theorem HF.cn {o : Nat} {M : Nm} {x : HS} (h : HF o M x) (v : Nat) : HF o (mI M o 3 (nI v)) (scn x v) := by
  obtain ⟨a, b, c, d, e, f⟩ := h
  refine ⟨a, ?_, ?_, ?_, ?_, fun i hi => ⟨?_, ?_⟩⟩
  · rw [mI_u, uw_n (by decide)]; exact b
  · rw [mI_u, uw_n (by decide)]; exact c
  · rw [mI_u, uw_s]; rfl
  · rw [mI_u, uw_n (by decide)]; exact e
  · rw [mI_o (by omega)]; exact (f i hi).1
  · rw [mI_o (by omega)]; exact (f i hi).2
theorem HF.at {o : Nat} {M : Nm} {x : HS} (h : HF o M x) (v : Nat) : HF o (mI M o 1 (nI v)) (sat x v) := by
  obtain ⟨a, b, c, d, e, f⟩ := h
  refine ⟨a, ?_, ?_, ?_, ?_, fun i hi => ⟨?_, ?_⟩⟩
  · rw [mI_u, uw_s]; rfl
  · rw [mI_u, uw_n (by decide)]; exact c
  · rw [mI_u, uw_n (by decide)]; exact d
  · rw [mI_u, uw_n (by decide)]; exact e
  · rw [mI_o (by omega)]; exact (f i hi).1
  · rw [mI_o (by omega)]; exact (f i hi).2
theorem HF.ns {o : Nat} {M : Nm} {x : HS} (h : HF o M x) {v : Nat} (hv : v ≤ nsH x) : HF o (mI M o 4 (nI v)) (sns x v) := by
  obtain ⟨a, b, c, d, e, f⟩ := h
  refine ⟨a, ?_, ?_, ?_, ?_, fun i hi => ⟨?_, ?_⟩⟩
  · rw [mI_u, uw_n (by decide)]; exact b
  · rw [mI_u, uw_n (by decide)]; exact c
  · rw [mI_u, uw_n (by decide)]; exact d
  · rw [mI_u, uw_s]; rfl
  · rw [mI_o (by omega)]; exact (f i (Nat.lt_of_lt_of_le hi hv)).1
  · rw [mI_o (by omega)]; exact (f i (Nat.lt_of_lt_of_le hi hv)).2
theorem HF.wy {o : Nat} {M : Nm} {x : HS} (h : HF o M x) (i0 v : Nat) : HF o (mI M (o + 1) i0 (nI v)) (swy x i0 v) := by
  obtain ⟨a, b, c, d, e, f⟩ := h
  refine ⟨a, ?_, ?_, ?_, ?_, fun i hi => ⟨?_, ?_⟩⟩
  · rw [mI_o (by omega)]; exact b
  · rw [mI_o (by omega)]; exact c
  · rw [mI_o (by omega)]; exact d
  · rw [mI_o (by omega)]; exact e
  · show _ = nI (if i = i0 then v else wyH x i)
    rw [mI_s]
    by_cases q : i = i0
    · rw [if_pos q, if_pos q]
    · rw [if_neg q, if_neg q]; exact (f i hi).1
  · rw [mI_o (by omega)]; exact (f i hi).2
theorem HF.ln {o : Nat} {M : Nm} {x : HS} (h : HF o M x) (i0 v : Nat) : HF o (mI M (o + 2) i0 (nI v)) (sln x i0 v) := by
  obtain ⟨a, b, c, d, e, f⟩ := h
  refine ⟨a, ?_, ?_, ?_, ?_, fun i hi => ⟨?_, ?_⟩⟩
  · rw [mI_o (by omega)]; exact b
  · rw [mI_o (by omega)]; exact c
  · rw [mI_o (by omega)]; exact d
  · rw [mI_o (by omega)]; exact e
  · rw [mI_o (by omega)]; exact (f i hi).1
  · show _ = nI (if i = i0 then v else lnH x i)
    rw [mI_s]
    by_cases q : i = i0
    · rw [if_pos q, if_pos q]
    · rw [if_neg q, if_neg q]; exact (f i hi).2
theorem HF.kd {o : Nat} {M : Nm} {x : HS} (h : HF o M x) (v : Nat) : HF o (mK M o (kc v)) (skd x v) := by
  obtain ⟨a, b, c, d, e, f⟩ := h
  refine ⟨?_, b, c, d, e, f⟩
  show va_up M.2.2 o (kc v) o = kc v
  simp [va_up]
theorem HF.t {o : Nat} {M : Nm} {x : HS} (h : HF o M x) (s : Int64) (n : Nat) : HF o (tM M o s n) x := by
  obtain ⟨a, b, c, d, e, f⟩ := h
  refine ⟨a, ?_, ?_, ?_, ?_, fun i hi => ⟨?_, ?_⟩⟩
  · rw [tM_i (by decide)]; exact b
  · rw [tM_i (by decide)]; exact c
  · rw [tM_i (by decide)]; exact d
  · rw [tM_i (by decide)]; exact e
  · rw [tM_I (by omega)]; exact (f i hi).1
  · rw [tM_I (by omega)]; exact (f i hi).2
/-- traced anew -/
theorem p_traced {o : Nat} {M : Nm} {x : HS} (hx : WfH x) (hF : HF o M x) (hc : M.2.1 o 10 = encl (M.2.1 o 9)) : f_H_trace o M = some ((), tM M o (pth x) (cst x)) ∧ HR o (tM M o (pth x) (cst x)) x := by
  refine ⟨p_trace o hx M hF, hF.t _ _, ?_, ?_, ?_⟩
  · unfold tM; rw [mI_L, mL_s, if_pos rfl]
  · unfold tM; rw [mI_u, uw_s]
  · unfold tM; rw [mI_L, mL_s, if_neg (by decide), mL_s, if_neg (by decide)]; exact hc
theorem p_HgoYear {o : Nat} {M : Nm} {x : HS} (hx : WfH x) (h : HR o M x) {n : Nat} (hn : n ≤ 48) : ∃ a b, f_H_goYear o (nI n) M = some ((), mI (mI M o 2 a) o 3 b) ∧ HR o (mI (mI M o 2 a) o 3 b) (yhx x n) := by
  have h1 := (tra_ok hx).2
  have h2 := hx.2.2.1
  have h3 := hx.2.2.2.1
  have h4 := cr_le _ hx.1
  have h5 := Nat.mul_le_mul hn h4
  have hk : M.2.2 o = kc (kdH x) := h.1.1
  unfold f_H_goYear
  rw [p_Hwrites hx h, bnd_s, h.1.2.2.1, h.2.2.1]
  by_cases e : cst x ≤ ikH x
  · rw [if_neg (bI_t (decide_eq_true e)), sub_nI2 e, nI_min (a := ikH x - cst x + n) (n := 999) (v := 999) (by omega) (by decide) rfl, bl_e]
    have hk2 : ∀ v, (mI M o 2 v).2.2 o = kc (kdH x) := fun v => hk
    have h3v : ∀ v, (mI M o 2 v).1 o 3 = nI (cnH x) := fun v => by rw [mI_u, uw_n (by decide)]; exact h.1.2.2.2.1
    rw [hk2, grd_h (kb_kc _ hx.1), p_vcrop hx.1, bnd_s, h3v, pk_mul, nI_add, nI_min (a := cnH x + cr (kdH x) * n) (n := 99999) (v := 99999) (by rw [Nat.mul_comm]; omega) (by decide) rfl, bl_e]
    refine ⟨_, _, rfl, h.put ?_ rfl ?_ rfl⟩
    · have := (h.1.ik (if ikH x - cst x + n ≤ 999 then ikH x - cst x + n else 999)).cn (if cnH x + n * cr (kdH x) ≤ 99999 then cnH x + n * cr (kdH x) else 99999)
      unfold yhx
      simp only [e, if_true]
      rw [Nat.mul_comm (cr (kdH x)) n]
      exact this
    · rw [mI_u, uw_n (by decide), mI_u, uw_n (by decide)]
  · rw [if_pos (bI_f (decide_eq_false e)), show (5 : Int32) = nI 5 from rfl, nI_add, nI_min (a := ikH x + 5) (n := 999) (v := 999) (by omega) (by decide) rfl, bl_e]
    refine ⟨nI (if ikH x + 5 ≤ 999 then ikH x + 5 else 999), nI (cnH x), ?_, h.put ?_ rfl ?_ rfl⟩
    · rw [mI_id (M := mI M o 2 _) (by rw [mI_u, uw_n (by decide)]; exact h.1.2.2.2.1)]
    · have := (h.1.ik (if ikH x + 5 ≤ 999 then ikH x + 5 else 999)).cn (cnH x)
      unfold yhx
      simp only [e, if_false, Nat.add_zero, h3, if_true]
      exact this
    · rw [mI_u, uw_n (by decide), mI_u, uw_n (by decide)]
