/-! arrays made, references stored, constructors called -/
section WA
variable {p : Program} {l : Launch} {e : Env} {R : Room} {s : State} {m : MethodId} {args : Array Value} {below : List Frame} {meth : Method} {c : Code} {H : Heap} {locs : List Loc} {cells slots : Nat} {Q : State → Prop}
variable {G : Gl} {Y : My} {M : Mm} {N k n pc idx : Nat} {ls : Array Slot} {st : List Value}
theorem w_newa {atype : ArrayType} {v : Int32} {a0 : (Nat → Int32) ⊕ (Nat → Int64) ⊕ (Nat → UInt32) ⊕ (Nat → UInt64) ⊕ (Nat → Option Nat)} (C : CX G Y p s m args meth c) (hR : Rl G M N H) (hS : va_S (gA G) s.heap H locs) (hN : N < 101) (hd : decode Y.2.1 pc = .ok (.newarray atype, 2)) (hv : v = nI n) (hn : n < 1000) (hby : n * componentBytes (newarray.typeOf atype) ≤ 536870912) (harr : Cond.arrayClass (newarray.typeOf atype) ∈ wG) (hRA : s.vm.findClass ("[" ++ (newarray.typeOf atype).toString) = some (G.2.1 k)) (hcE : cE G M N (sh N) = .inl (G.2.1 k, n, a0)) (hvp : vp_cell (G.2.1 k) (n, a0) = arrV (G.2.1 k) n (fun _ => defaultValue (newarray.typeOf atype))) (hrm : Nat.ble (cells + 1) R.cells = true ∧ Nat.ble (slots + n) R.slots = true)
    (kk : ∀ H1, Rl G M (N + 1) H1 → va_S (gA G) s.heap H1 locs → W p l e R s m args below meth c H1 locs (cells + 1) (slots + n) Q (F0 m (pc + 2) ls (aR G N :: st))) : W p l e R s m args below meth c H locs cells slots Q (F0 m pc ls (.int v :: st)) := by
  obtain ⟨hx, hb, hml, hr, ho, hw, hlk, hnm, hE⟩ := C
  have hA : ad G N = G.2.2.1 + N := ad_lt (by omega)
  subst hv
  refine va_newaK hx hb (hw _ harr) rfl hd rfl (nI_pos (by omega)) (nI_clamp (by omega)) hby (Nat.le_of_ble_eq_true hrm.1) (Nat.le_of_ble_eq_true hrm.2) (hR.2 hN) fun H1 cA e1 z1 o1 hAr hNm => ?_
  have hcA : cA = G.2.1 k := Option.some.inj (hNm.symm.trans hRA)
  have hR1 : Rl G M (N + 1) H1 := rl_push hR hN z1 o1 (by
    rw [hcE]
    show H1[G.2.2.1 + N]? = some (vp_cell (G.2.1 k) (n, a0))
    rw [hvp, ← hcA]
    exact e1)
  have := kk H1 hR1 (s_push hR hN hS z1 o1)
  unfold aR at this
  rw [hA] at this
  exact this
theorem w_anew {Cn : String} {v : Int32} (C : CX G Y p s m args meth c) (hR : Rl G M N H) (hS : va_S (gA G) s.heap H locs) (hD : Dz N M) (hN : N < 101) (hd : decode Y.2.1 pc = .ok (.anewarray idx, 3)) (hv : v = nI n) (hn : n < 1000) (hcl : Cond.classLink Y.1.cls idx Cn ∈ wG) (hCn : Cn ∈ [RX2, RX3, RX9]) (h3 : 3 ≤ k) (hty : (tyG G)[k]? = some (G.2.1 k, .object Cn)) (hs : sh N = (20 + k, n)) (hrm : Nat.ble (cells + 1) R.cells = true ∧ Nat.ble (slots + n) R.slots = true)
    (kk : ∀ H1, Rl G M (N + 1) H1 → va_S (gA G) s.heap H1 locs → W p l e R s m args below meth c H1 locs (cells + 1) (slots + n) Q (F0 m (pc + 3) ls (aR G N :: st))) : W p l e R s m args below meth c H locs cells slots Q (F0 m pc ls (.int v :: st)) := by
  obtain ⟨hx, hb, hml, hr, ho, hw, hlk, hnm, hE⟩ := C
  have hA : ad G N = G.2.2.1 + N := ad_lt (by omega)
  have hsz := hR.2 hN
  subst hv
  obtain ⟨kA0, comp0, r1, r2, r3, r4⟩ := (hE.1.2 k _ hty).2
  have hcl2 := nI_clamp (n := n) (by omega)
  refine W.anew (n := nI n) hx hb ho (hw _ hcl) ((hE.2.2.2.2.2.1 Cn hCn).use) rfl hd rfl (nI_pos (by omega)) (by rw [hcl2]; omega) (Nat.le_of_ble_eq_true hrm.1) (by rw [hcl2]; exact Nat.le_of_ble_eq_true hrm.2) fun cA kA comp h1 h2 h3' h4 => ?_
  have hcA : cA = G.2.1 k := Option.some.inj (h1.symm.trans r4)
  rw [hcl2, hsz]
  have z1 : (H.push { cls := cA, slots := Array.replicate n .null, vm := .none } : Heap).size = G.2.2.1 + N + 1 := by
    rw [Array.size_push, hsz]
  have o1 : ∀ q, q < G.2.2.1 + N → (H.push { cls := cA, slots := Array.replicate n .null, vm := .none } : Heap)[q]? = H[q]? := fun q hq => by
    rw [Array.getElem?_push, if_neg (by rw [hsz]; omega)]
  have hR1 : Rl G M (N + 1) (H.push { cls := cA, slots := Array.replicate n .null, vm := .none }) := rl_push hR hN z1 o1 (by
    have hcE : cE G M N (sh N) = aE G M N k n := by
      rw [hs]
      simp [cE]
    rw [hcE, aE_q h3]
    show (H.push { cls := cA, slots := Array.replicate n .null, vm := .none } : Heap)[G.2.2.1 + N]? = some (vp_cell (G.2.1 k) (n, _))
    rw [vp_cell_q, ← hcA]
    have hf : (fun j => va_rf ((M.2.2 N j).map (ad G))) = fun _ => Value.null := funext fun j => by
      rw [(hD N j (Nat.le_refl _)).2.2]
      rfl
    rw [hf, ← arrV_new, ← hsz, Array.getElem?_push_size])
  have := kk _ hR1 (s_push hR hN hS z1 o1)
  unfold aR at this
  rw [hA] at this
  exact this
theorem w_aas {cc x ci : Nat} {v : Int32} {i : Nat} {E : String} {r : vw_C} (C : CX G Y p s m args meth c) (hR : Rl G M N H) (hS : va_S (gA G) s.heap H locs) (hd : decode Y.2.1 pc = .ok (.aastore, 1)) (h3 : 3 ≤ k) (h6 : k < 6) (hty : (tyG G)[k]? = some (G.2.1 k, .object E)) (hs : sh cc = (20 + k, n)) (hc : cc < N) (hxN : x < N) (hsx : (sh x).1 = ci) (hci : Nat.blt ci 20 = true) (hk : kcl[ci]? = some r) (hv : v = nI i) (hi : i < n) (hn : n < 1000) (hcast : r.1 = E ∨ va_Nw (.castable r.1 E) s)
    (kk : ∀ H1 locs1, Rl G (setR M cc i (some x)) N H1 → va_S (gA G) s.heap H1 locs1 → W p l e R s m args below meth c H1 locs1 cells slots Q (F0 m (pc + 1) ls st)) : W p l e R s m args below meth c H locs cells slots Q (F0 m pc ls (aR G x :: .int v :: aR G cc :: st)) := by
  obtain ⟨hx, hb, hml, hr, ho, hw, hlk, hnm, hE⟩ := C
  have hkb : Nat.blt k 10 = true := Nat.ble_eq_true_of_le (by omega)
  have hget := rl_arr (G := G) (M := M) (N := N) hc hs hkb
  rw [aE_q h3] at hget
  have hgx := rl_obj (G := G) (M := M) (N := N) hxN hsx hci
  have hcl2 := nI_clamp (n := i) (by omega)
  subst hv
  obtain ⟨r', hr', cellV, g1, g2, g3, -⟩ := hR.1 x _ hgx
  have hcls := (hE.1.1 ci r hk).2
  obtain ⟨kA, comp, k1, k2, k3, -⟩ := (hE.1.2 k _ hty).2
  obtain ⟨kE, hkE, -⟩ := Vm.findClass_spec k3
  obtain ⟨kC, hkC, -⟩ := id hcls.2
  have hasg : s.vm.assignable (G.1.1 ci) comp = true := by
    rcases hcast with q | q
    · have hcomp : comp = G.1.1 ci := Option.some.inj (k3.symm.trans (q ▸ hcls.1))
      rw [hcomp]
      exact va_assign hcls
    · obtain ⟨c0, t1, f1, f2, f3⟩ := Cond.castable_spec (va_Nw.use (A := args) rfl q)
      cases hcls.1.symm.trans f1
      cases k3.symm.trans f2
      exact f3
  refine W.aast hx hb (hR.1 cc _ hget) (fun q h => by cases h) (fun h => by cases h) k1 k2 rfl hkE ⟨nI_pos (by omega), by show _ < (arrV _ _ _).slots.size; rw [arrV_size, hcl2]; exact hi⟩ g1 (fun q h => by rw [g3] at h; cases h) (by rw [g2]; exact hkC) (by rw [g2]; exact hasg) rfl rfl hd fun H1 e1 z oq => ?_
  rw [hcl2] at e1 ⊢
  have hP1 := hR.1.set (wl_D G M N) hget (e := .inl (G.2.1 k, n, .inr (.inr (.inr (.inr (fun j => ((setR M cc i (some x)).2.2 cc j).map (ad G))))))) (by
    show H1[ad G cc]? = some (vp_cell _ _)
    rw [e1, vp_cell_q, vp_cell_q, arrV_store]
    congr 2
    funext q
    by_cases hq : q = i
    · subst hq
      simp [updV, setR, va_up, va_rf]
    · simp [updV, setR, va_up, hq]) oq
  have hc1 : cc < 101 := sh_lt (ci := 20 + k) (by rw [hs]) (nb99 (by omega))
  rw [ad_lt (by omega), wl_set (M' := setR M cc i (some x)) (by rw [hs]; simp only [cE]; rw [if_pos (by omega), show 20 + k - 20 = k by omega, aE_q h3]) setR_o] at hP1
  exact kk H1 _ ⟨hP1, fun hN => by rw [z]; exact hR.2 hN⟩ (hS.put z oq ((wl_D G M N).2 cc _ hget))
end WA
