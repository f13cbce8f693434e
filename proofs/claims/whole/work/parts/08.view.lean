/-! the memory once all is made: ints, longs, each hand's kind; all other references stand fast -/
abbrev Nm : Type := (Nat → Nat → Int32) × (Nat → Nat → Int64) × (Nat → Nat)
/-- the cell of a kind by its number -/
def kc (j : Nat) : Nat := if j = 0 then 1 else j + 2
def R0 (c k : Nat) : Option Nat :=
  if (sh c).1 = 0 then ([some 2, some 8, some 30, some 52, none, some 74, some 76, some 85] : List (Option Nat)).getD k none
  else if (sh c).1 ≤ 6 then some (1000 + ((sh c).1 - 1))
  else if (sh c).1 = 7 then some (if k = 5 then c + 1 else c + 2)
  else if (sh c).1 = 8 then some (if k = 3 then c + 1 else if k = 4 then c + 20 else c + 21)
  else if (sh c).1 = 9 then some 75
  else if (sh c).1 = 10 then some (c + 1)
  else if (sh c).1 = 11 then ([some 87, some 88, some 89, some 90, some 91, none, some 92, some 93, some 94, some 95, some 96, none, none, none, none, none, some 97, some 98, some 99, some 100] : List (Option Nat)).getD k none
  else if (sh c).1 = 23 then some (c + 1 + 3 * k)
  else if (sh c).1 = 24 then some (kc k)
  else some (77 + 2 * k)
def toM (M : Nm) : Mm := (M.1, M.2.1, fun c k => if (sh c).1 = 7 ∧ k = 0 then some (M.2.2 c) else R0 c k)
def mI (M : Nm) (c k : Nat) (v : Int32) : Nm := (va_up M.1 c (va_up (M.1 c) k v), M.2.1, M.2.2)
def mL (M : Nm) (c k : Nat) (v : Int64) : Nm := (M.1, va_up M.2.1 c (va_up (M.2.1 c) k v), M.2.2)
def mK (M : Nm) (c v : Nat) : Nm := (M.1, M.2.1, va_up M.2.2 c v)
theorem to_I {M : Nm} {c k : Nat} {v : Int32} : toM (mI M c k v) = setI (toM M) c k v := rfl
theorem to_L {M : Nm} {c k : Nat} {v : Int64} : toM (mL M c k v) = setL (toM M) c k v := rfl
theorem to_K {M : Nm} {c v : Nat} (h : (sh c).1 = 7) : toM (mK M c v) = setR (toM M) c 0 (some v) := by
  simp only [toM, mK, setR]
  congr 2
  funext c' k'
  by_cases e : c' = c
  · subst e
    by_cases e2 : k' = 0
    · subst e2
      simp [va_up, h]
    · simp [va_up, e2]
  · simp [va_up, e]
/-- where things lie -/
def isK (k : Nat) : Prop := 1 ≤ (sh k).1 ∧ (sh k).1 ≤ 6
def isKb (k : Nat) : Bool := Nat.ble 1 (sh k).1 && Nat.ble (sh k).1 6
def isb (n c : Nat) : Bool := Nat.beq (sh c).1 n
theorem isKb_1 {k : Nat} (h : isKb k = true) : isK k := by
  simp only [isKb, Bool.and_eq_true] at h
  exact ⟨Nat.le_of_ble_eq_true h.1, Nat.le_of_ble_eq_true h.2⟩
theorem isb_1 {n c : Nat} (h : isb n c = true) : (sh c).1 = n := Nat.eq_of_beq_eq_true h
theorem ly_hand0 : ∀ c, c < 101 → (sh c).1 = 7 → sh (c + 1) = (20, 8) ∧ sh (c + 2) = (20, 8) := by decide +kernel
theorem ly_land0 : ∀ c, c < 101 → (sh c).1 = 8 → sh (c + 1) = (23, 6) ∧ sh (c + 20) = (21, 6) ∧ sh (c + 21) = (20, 6) := by decide +kernel
theorem ly_row0 : ∀ c, c < 101 → (sh c).1 = 8 → ∀ j, j < 6 → (sh (c + 1 + 1 + 3 * j)).1 = 7 := by decide +kernel
theorem ly_sheet0 : ∀ c, c < 101 → (sh c).1 = 10 → sh (c + 1) = (21, 40) := by decide +kernel
theorem ly_kind0 : ∀ j, j < 6 → (sh (kc j)).1 = j + 1 := by decide +kernel
theorem ly_shc0 : ∀ j, j < 4 → (sh (77 + 2 * j)).1 = 10 := by decide +kernel
theorem ly_ways {c : Nat} (h : (sh c).1 = 7) : sh (c + 1) = (20, 8) := (ly_hand0 c (sh_lt h rfl) h).1
theorem ly_lens {c : Nat} (h : (sh c).1 = 7) : sh (c + 2) = (20, 8) := (ly_hand0 c (sh_lt h rfl) h).2
theorem ly_rows {c : Nat} (h : (sh c).1 = 8) : sh (c + 1) = (23, 6) := (ly_land0 c (sh_lt h rfl) h).1
theorem ly_clms {c : Nat} (h : (sh c).1 = 8) : sh (c + 20) = (21, 6) := (ly_land0 c (sh_lt h rfl) h).2.1
theorem ly_ownd {c : Nat} (h : (sh c).1 = 8) : sh (c + 21) = (20, 6) := (ly_land0 c (sh_lt h rfl) h).2.2
theorem ly_nums {c : Nat} (h : (sh c).1 = 10) : sh (c + 1) = (21, 40) := ly_sheet0 c (sh_lt h rfl) h
theorem inb_lt {i : Int32} {n : Nat} (h : inb i n = true) : ix i < n := by
  simp only [inb, Bool.and_eq_true, decide_eq_true_eq] at h
  exact h.2
/-- hand i of a land; sheet i; kind i -/
def hnd (d : Nat) (i : Int32) : Nat := d + 1 + 1 + 3 * ix i
def shc (i : Int32) : Nat := 77 + 2 * ix i
def knd (i : Int32) : Nat := kc (ix i)
theorem ly_hnd {d : Nat} {i : Int32} (h : (sh d).1 = 8) (hi : inb i 6 = true) : (sh (hnd d i)).1 = 7 := ly_row0 d (sh_lt h rfl) h _ (inb_lt hi)
theorem ly_shc {i : Int32} (hi : inb i 4 = true) : (sh (shc i)).1 = 10 := ly_shc0 _ (inb_lt hi)
theorem ly_knd {i : Int32} (hi : inb i 6 = true) : isK (knd i) := by
  have h1 := ly_kind0 _ (inb_lt hi)
  have h2 := inb_lt hi
  unfold isK knd
  rw [h1]
  omega
theorem r_hnd {M : Nm} {d : Nat} {i : Int32} (h : (sh d).1 = 8) : (toM M).2.2 (d + 1) (ix i) = some (hnd d i) := by
  have e := ly_rows h
  simp [toM, R0, e, hnd]
theorem r_shc {M : Nm} {i : Int32} : (toM M).2.2 76 (ix i) = some (shc i) := rfl
theorem r_knd {M : Nm} {i : Int32} : (toM M).2.2 2 (ix i) = some (knd i) := rfl
theorem r_kind {M : Nm} {c : Nat} (h : (sh c).1 = 7) : (toM M).2.2 c 0 = some (M.2.2 c) := by simp [toM, h]
theorem r_ways {M : Nm} {c : Nat} (h : (sh c).1 = 7) : (toM M).2.2 c 5 = some (c + 1) := by simp [toM, R0, h]
theorem r_lens {M : Nm} {c : Nat} (h : (sh c).1 = 7) : (toM M).2.2 c 6 = some (c + 2) := by simp [toM, R0, h]
theorem r_rows {M : Nm} {c : Nat} (h : (sh c).1 = 8) : (toM M).2.2 c 3 = some (c + 1) := by simp [toM, R0, h]
theorem r_clms {M : Nm} {c : Nat} (h : (sh c).1 = 8) : (toM M).2.2 c 4 = some (c + 20) := by simp [toM, R0, h]
theorem r_ownd {M : Nm} {c : Nat} (h : (sh c).1 = 8) : (toM M).2.2 c 5 = some (c + 21) := by simp [toM, R0, h]
theorem r_nums {M : Nm} {c : Nat} (h : (sh c).1 = 10) : (toM M).2.2 c 2 = some (c + 1) := by simp [toM, R0, h]
theorem r_word {M : Nm} {c : Nat} (h : isK c) : (toM M).2.2 c 1 = some (1000 + ((sh c).1 - 1)) := by
  obtain ⟨h1, h2⟩ := h
  have e0 : ¬ (sh c).1 = 0 := by omega
  simp [toM, R0, e0, h2]
theorem isK_kcl {k : Nat} (h : isK k) : ∃ (C : String) (T : u_T) (n : Nat), kcl[(sh k).1]? = some (C, T, n) := by
  obtain ⟨h1, h2⟩ := h
  rcases (show (sh k).1 = 1 ∨ (sh k).1 = 2 ∨ (sh k).1 = 3 ∨ (sh k).1 = 4 ∨ (sh k).1 = 5 ∨ (sh k).1 = 6 by omega) with e | e | e | e | e | e <;> rw [e] <;> exact ⟨_, _, _, rfl⟩
theorem isK_blt {k : Nat} (h : isK k) : Nat.blt (sh k).1 20 = true := by
  obtain ⟨h1, h2⟩ := h
  rcases (show (sh k).1 = 1 ∨ (sh k).1 = 2 ∨ (sh k).1 = 3 ∨ (sh k).1 = 4 ∨ (sh k).1 = 5 ∨ (sh k).1 = 6 by omega) with e | e | e | e | e | e <;> rw [e] <;> rfl
theorem isK_n {k : Nat} (h : isK k) : k < 101 := by
  obtain ⟨h1, h2⟩ := h
  exact sh_lt rfl (nb99 (by omega))
def FU : Nat := 1000000
def R9 (f q : Nat) : Room := { frames := f, cells := 0, slots := 0, locals := q }
abbrev zR (f q : Nat) : Room := { frames := f, cells := 0, slots := 0, locals := q }
section NR
variable {l : Launch} {G : Gl} {Y : My} {R : Room} {α : Type} {ε : α → Option Value} {pc : Nat} {lv : List (Nat × Value)} {st : List Value} {M : Nm} {t : Option (α × Nm)} {c ci k n idx : Nat}
abbrev NJ (l : Launch) (G : Gl) (Y : My) (R : Room) {α : Type} (ε : α → Option Value) (pc : Nat) (lv : List (Nat × Value)) (st : List Value) (M : Nm) (t : Option (α × Nm)) : Prop := SJ l G Y R 101 ε toM 101 0 0 pc lv st M t
theorem n_getI (hd : decode Y.2.1 pc = .ok (.getfield idx, 3)) (hF : okF Y.1.cls idx ci k) (hf : (ftL.getD ci [])[k]? = some 0) (hci : Nat.blt ci 20 = true) (hs : (sh c).1 = ci) (hc : c < 101) (kk : NJ l G Y R ε (pc + 3) lv (.int (M.1 c k) :: st) M t) : NJ l G Y R ε pc lv (aR G c :: st) M t := s_getI hd hF hf hci hs hc rfl kk
theorem n_getL (hd : decode Y.2.1 pc = .ok (.getfield idx, 3)) (hF : okF Y.1.cls idx ci k) (hf : (ftL.getD ci [])[k]? = some 1) (hci : Nat.blt ci 20 = true) (hs : (sh c).1 = ci) (hc : c < 101) (kk : NJ l G Y R ε (pc + 3) lv (.long (M.2.1 c k) :: st) M t) : NJ l G Y R ε pc lv (aR G c :: st) M t := s_getL hd hF hf hci hs hc rfl kk
theorem n_getR {x : Nat} (hd : decode Y.2.1 pc = .ok (.getfield idx, 3)) (hF : okF Y.1.cls idx ci k) (hf : (ftL.getD ci [])[k]? = some 2) (hci : Nat.blt ci 20 = true) (hs : (sh c).1 = ci) (hc : c < 101) (hx : (toM M).2.2 c k = some x) (kk : NJ l G Y R ε (pc + 3) lv (aR G x :: st) M t) : NJ l G Y R ε pc lv (aR G c :: st) M t := s_getR hd hF hf hci hs hc hx kk
theorem n_putI {v : Int32} (hd : decode Y.2.1 pc = .ok (.putfield idx, 3)) (hP : okP Y.1.cls idx ci k .int false) (hf : (ftL.getD ci [])[k]? = some 0) (hci : Nat.blt ci 20 = true) (hs : (sh c).1 = ci) (hc : c < 101) (kk : NJ l G Y R ε (pc + 3) lv st (mI M c k v) t) : NJ l G Y R ε pc lv (.int v :: aR G c :: st) M t := s_putI hd hP (fun h => by cases h) hf hci hs hc rfl rfl to_I kk
theorem n_putZ {v : Int32} (hd : decode Y.2.1 pc = .ok (.putfield idx, 3)) (hP : okP Y.1.cls idx ci k .boolean false) (hf : (ftL.getD ci [])[k]? = some 0) (hci : Nat.blt ci 20 = true) (hs : (sh c).1 = ci) (hc : c < 101) (kk : NJ l G Y R ε (pc + 3) lv st (mI M c k v) t) : NJ l G Y R ε pc lv (.int v :: aR G c :: st) M (grd (decide (v = 0) || decide (v = 1)) t) := by
  refine s_grd (fun hv => ?_)
  have h2 : v = 0 ∨ v = 1 := by simpa using hv
  exact s_putI hd hP (fun h => by cases h) hf hci hs hc (by rcases h2 with rfl | rfl <;> rfl) (by rcases h2 with rfl | rfl <;> rfl) to_I kk
theorem n_putL {v : Int64} (hd : decode Y.2.1 pc = .ok (.putfield idx, 3)) (hP : okP Y.1.cls idx ci k .long false) (hf : (ftL.getD ci [])[k]? = some 1) (hci : Nat.blt ci 20 = true) (hs : (sh c).1 = ci) (hc : c < 101) (kk : NJ l G Y R ε (pc + 3) lv st (mL M c k v) t) : NJ l G Y R ε pc lv (.long v :: aR G c :: st) M t := s_putL hd hP (fun h => by cases h) hf hci hs hc rfl rfl to_L kk
theorem n_putK {v : Nat} {cn : String} (hd : decode Y.2.1 pc = .ok (.putfield idx, 3)) (hP : okP Y.1.cls idx 7 0 (.object cn) false) (hs : (sh c).1 = 7) (kk : NJ l G Y R ε (pc + 3) lv st (mK M c v) t) : NJ l G Y R ε pc lv (aR G v :: aR G c :: st) M t := s_putR hd hP (fun h => by cases h) rfl rfl hs (sh_lt hs rfl) rfl rfl (to_K hs) kk
theorem n_ial {i : Int32} (hd : decode Y.2.1 pc = .ok (.iaload, 1)) (hs : sh c = (20, n)) (kk : NJ l G Y R ε (pc + 1) lv (.int (M.1 c (ix i)) :: st) M t) : NJ l G Y R ε pc lv (.int i :: aR G c :: st) M (grd (inb i n) t) := s_ial hd hs (ar_n (k := 0) rfl hs) rfl kk
theorem n_cal {i : Int32} (hd : decode Y.2.1 pc = .ok (.caload, 1)) (hs : sh c = (22, n)) (kk : NJ l G Y R ε (pc + 1) lv (.int (M.1 c (ix i)) :: st) M t) : NJ l G Y R ε pc lv (.int i :: aR G c :: st) M (grd (inb i n) t) := s_cal hd hs (ar_n (k := 2) rfl hs) rfl kk
theorem n_lal {i : Int32} (hd : decode Y.2.1 pc = .ok (.laload, 1)) (hs : sh c = (21, n)) (kk : NJ l G Y R ε (pc + 1) lv (.long (M.2.1 c (ix i)) :: st) M t) : NJ l G Y R ε pc lv (.int i :: aR G c :: st) M (grd (inb i n) t) := s_lal hd hs (ar_n (k := 1) rfl hs) rfl kk
theorem n_aal {i : Int32} {x : Nat} (kq : Nat) (hk : Nat.ble 3 kq = true ∧ Nat.blt kq 6 = true) (hd : decode Y.2.1 pc = .ok (.aaload, 1)) (hs : sh c = (20 + kq, n)) (hx : (toM M).2.2 c (ix i) = some x) (kk : inb i n = true → NJ l G Y R ε (pc + 1) lv (aR G x :: st) M t) : NJ l G Y R ε pc lv (.int i :: aR G c :: st) M (grd (inb i n) t) := by
  refine s_grd (fun hi => ?_)
  have h := s_aal (t := t) hd hk hs (ar_n (k := kq) (by have := Nat.le_of_ble_eq_true hk.2; exact Nat.ble_eq_true_of_le (by omega)) hs) (fun _ => hx) (kk hi)
  rw [grd, if_pos hi] at h
  exact h
theorem n_ias {i v : Int32} (hd : decode Y.2.1 pc = .ok (.iastore, 1)) (hs : sh c = (20, n)) (kk : NJ l G Y R ε (pc + 1) lv st (mI M c (ix i) v) t) : NJ l G Y R ε pc lv (.int v :: .int i :: aR G c :: st) M (grd (inb i n) t) := s_ias hd hs to_I kk
theorem n_cas {i v : Int32} (hd : decode Y.2.1 pc = .ok (.castore, 1)) (hs : sh c = (22, n)) (kk : NJ l G Y R ε (pc + 1) lv st (mI M c (ix i) (vp_nar .char v)) t) : NJ l G Y R ε pc lv (.int v :: .int i :: aR G c :: st) M (grd (inb i n) t) := s_cas hd hs to_I kk
theorem n_las {i : Int32} {v : Int64} (hd : decode Y.2.1 pc = .ok (.lastore, 1)) (hs : sh c = (21, n)) (kk : NJ l G Y R ε (pc + 1) lv st (mL M c (ix i) v) t) : NJ l G Y R ε pc lv (.long v :: .int i :: aR G c :: st) M (grd (inb i n) t) := s_las hd hs to_L kk
theorem n_len (kq : Nat) (hd : decode Y.2.1 pc = .ok (.arraylength, 1)) (hk : Nat.blt kq 6 = true) (hs : sh c = (20 + kq, n)) (kk : NJ l G Y R ε (pc + 1) lv (.int (nI n) :: st) M t) : NJ l G Y R ε pc lv (aR G c :: st) M t := s_len hd hk hs (ar_n (k := kq) (by have := Nat.le_of_ble_eq_true hk; exact Nat.ble_eq_true_of_le (by omega)) hs) kk
theorem s_bite {P : Prop} {d : Decidable P} {γ μ : Type} {vw : μ → Mm} {Nf N cells slots : Nat} {M : μ} {a b : Option (γ × μ)} {t : γ → μ → Option (α × μ)} (k1 : P → SJ l G Y R Nf ε vw N cells slots pc lv st M (bnd a t)) (k2 : ¬ P → SJ l G Y R Nf ε vw N cells slots pc lv st M (bnd b t)) : SJ l G Y R Nf ε vw N cells slots pc lv st M (bnd (if P then a else b) t) := by
  by_cases h : P
  · rw [if_pos h]; exact k1 h
  · rw [if_neg h]; exact k2 h
end NR
