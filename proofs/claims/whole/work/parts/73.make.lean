/-! rows that make cells -/
/-- from N on all is blank -/
def Dz (N : Nat) (M : Mm) : Prop := ∀ c k, N ≤ c → M.1 c k = 0 ∧ M.2.1 c k = 0 ∧ M.2.2 c k = none
theorem Dz.up {N N' : Nat} {M : Mm} (h : Dz N M) (hn : N ≤ N') : Dz N' M := fun c k hc => h c k (by omega)
theorem Dz.i {N : Nat} {M : Mm} (h : Dz N M) {c k : Nat} {v : Int32} (hc : c < N) : Dz N (setI M c k v) := fun d j hd => by
  have hne : d ≠ c := by omega
  refine ⟨?_, (h d j hd).2.1, (h d j hd).2.2⟩
  show va_up M.1 c _ d j = 0
  rw [va_up_ne _ _ hne]
  exact (h d j hd).1
theorem Dz.q {N : Nat} {M : Mm} (h : Dz N M) {c k : Nat} {v : Option Nat} (hc : c < N) : Dz N (setR M c k v) := fun d j hd => by
  have hne : d ≠ c := by omega
  refine ⟨(h d j hd).1, (h d j hd).2.1, ?_⟩
  show va_up M.2.2 c _ d j = none
  rw [va_up_ne _ _ hne]
  exact (h d j hd).2.2
def dvF (f : Nat) : Value := if f = 0 then .int 0 else if f = 1 then .long 0 else .null
theorem fL_dz {G : Gl} {M : Mm} {ci N : Nat} (h : Dz N M) : fL G M ci N = (ftL.getD ci []).map dvF := by
  apply List.ext_getElem?
  intro j
  rw [List.getElem?_map]
  cases e : (ftL.getD ci [])[j]? with
  | none =>
    rw [List.getElem?_eq_none_iff] at e
    rw [List.getElem?_eq_none (by rw [fL_len]; exact e)]
    rfl
  | some f =>
    rw [fV_get e]
    obtain ⟨h1, h2, h3⟩ := h N j (Nat.le_refl _)
    show some (fV G M N (f, j)) = some (dvF f)
    unfold fV dvF
    dsimp only
    rw [h1, h2, h3]
    rfl
/-- a class whose objects the tables let be made -/
def okN (ci nf : Nat) : Prop := ∃ (C : String) (T : u_T) (ty0 : Nat → FieldType), kcl[ci]? = some (C, T, nf) ∧ Cond.instantiable C nf ∈ wG ∧ Cond.initialized C ∈ wG ∧ (∀ w ∈ u_ws C T nf, w ∈ wG) ∧ (∀ j, j < nf → parseFieldDescriptor (T j).2.2.1 = some (ty0 j)) ∧ ∀ j, j < nf → defaultValue (ty0 j) = vp_V ((ftL.getD ci []).map dvF) j
section WN
variable {p : Program} {l : Launch} {e : Env} {R : Room} {s : State} {m : MethodId} {args : Array Value} {below : List Frame} {meth : Method} {c : Code} {H : Heap} {locs : List Loc} {cells slots : Nat} {Q : State → Prop}
variable {G : Gl} {Y : My} {M : Mm} {N ci nf pc idx : Nat} {ls : Array Slot} {st : List Value}
theorem rl_push {H1 : Heap} {M : Mm} (hR : Rl G M N H) (hN : N < 101) (hz : H1.size = G.2.2.1 + N + 1) (ho : ∀ q, q < G.2.2.1 + N → H1[q]? = H[q]?) (hc : va_at G.1 kcl (G.2.2.1 + N, cE G M N (sh N)) H1) : Rl G M (N + 1) H1 := by
  refine ⟨?_, fun _ => hz⟩
  rw [← wl_push (G := G) (M := M) (M' := M) (N := N) rfl (fun _ _ => rfl)]
  refine (hR.1.kept (fun k x hx => ho x.1 ?_)).app (fun k x hx => ?_)
  · have := (hR.1 k x hx).lt
    rw [hR.2 hN] at this
    exact this
  · have hz : k < 1 := (List.getElem?_eq_some_iff.mp hx).1
    rw [show k = 0 by omega] at hx
    cases hx
    exact hc
theorem s_push {H1 : Heap} (hR : Rl G M N H) (hN : N < 101) (hS : va_S (gA G) s.heap H locs) (hz : H1.size = G.2.2.1 + N + 1) (ho : ∀ q, q < G.2.2.1 + N → H1[q]? = H[q]?) : va_S (gA G) s.heap H1 locs := by
  have e := hR.2 hN
  exact ⟨Nat.le_trans hS.1 (by omega), fun q h1 h2 => (ho q (by rw [← e]; exact Nat.lt_of_lt_of_le h1 hS.1)).trans (hS.2.1 q h1 h2), hS.2.2⟩
theorem w_new (C : CX G Y p s m args meth c) (hR : Rl G M N H) (hS : va_S (gA G) s.heap H locs) (hD : Dz N M) (hN : N < 101) (hd : decode Y.2.1 pc = .ok (.new idx, 3)) (hk : okN ci nf) (hcl : ∀ Cn, (kcl[ci]?).map (fun q => q.1) = some Cn → Cond.classLink Y.1.cls idx Cn ∈ wG) (hs : (sh N).1 = ci) (hci : Nat.blt ci 20 = true) (hrm : Nat.ble (cells + 1) R.cells = true ∧ Nat.ble (slots + nf) R.slots = true)
    (kk : ∀ H1, Rl G M (N + 1) H1 → va_S (gA G) s.heap H1 locs → W p l e R s m args below meth c H1 locs (cells + 1) (slots + nf) Q (F0 m (pc + 3) ls (aR G N :: st))) : W p l e R s m args below meth c H locs cells slots Q (F0 m pc ls st) := by
  obtain ⟨Cn, T, ty0, k1, k2, k3, k4, k5, k6⟩ := hk
  obtain ⟨hx, hb, hml, hr, ho, hw, hlk, hnm, hE⟩ := C
  have hKn := hE.1.1 ci _ k1
  have hA : ad G N = G.2.2.1 + N := ad_lt (by omega)
  refine W.newcK hx hb ho (hw _ (hcl Cn (by rw [k1]; rfl))) (hw _ k2) (hw _ k3) rfl hd (Nat.le_of_ble_eq_true hrm.1) (Nat.le_of_ble_eq_true hrm.2) hKn.2.1 (hR.2 hN) fun H1 kC hkC e1 z1 o1 => ?_
  have hR1 : Rl G M (N + 1) H1 := rl_push hR hN z1 o1 (by
    rw [cE_obj hs hci]
    exact ⟨_, k1, (u_born ty0 hw k4 hKn hkC e1 k5).to (fun j hj => by rw [fL_dz hD]; exact k6 j hj)⟩)
  have := kk H1 hR1 (s_push hR hN hS z1 o1)
  unfold aR at this
  rw [hA] at this
  exact this
end WN
