/-! the start: where its premises stand -/
def tmS (i : Nat) : Term := .string (stL.getD i ("", 0, "")).1 (stL.getD i ("", 0, "")).2.1
def flS : List Cond := flatC (Jvm.Cond.and given_1 narrow_1)
def exP : List Nat := [40, 48, 58, 68, 80, 92, 105, 121, 135, 149, 165, 181, 201, 221]
def coP : List Nat := [41, 49, 59, 69, 81, 93, 106, 122, 136, 150, 166, 182, 202, 222]
def arP : List Nat := [42, 50, 60, 70, 82, 94, 107, 123, 137, 151, 167, 183, 203, 223]
def leP : List Nat := [43, 51, 61, 71, 83, 95, 108, 124, 138, 152, 168, 184, 204, 224]
def elP : List (List Nat) := [[44, 45, 46, 47], [52, 53, 54, 55, 56], [62, 63, 64, 65], [72, 73, 74, 75, 76], [84, 85, 86, 87], [96, 97, 98, 99], [109, 110, 111, 112, 113, 114], [125, 126, 127], [139, 140], [153, 154, 155], [169, 170], [185, 186, 187, 188, 189], [205, 206, 207, 208], [225, 226, 227, 228]]
def neP : List (List Nat) := [[], [57], [66, 67], [77, 78, 79], [88, 89, 90, 91], [100, 101, 102, 103, 104], [115, 116, 117, 118, 119, 120], [128, 129, 130, 131, 132, 133, 134], [141, 142, 143, 144, 145, 146, 147, 148], [156, 157, 158, 159, 160, 161, 162, 163, 164], [171, 172, 173, 174, 175, 176, 177, 178, 179, 180], [190, 191, 192, 193, 194, 195, 196, 197, 198, 199, 200], [209, 210, 211, 212, 213, 214, 215, 216, 217, 218, 219, 220], [229, 230, 231, 232, 233, 234, 235, 236, 237, 238, 239, 240, 241]]
theorem st_ex0 : ∀ i, i < 14 → flS[exP.getD i 0]? = some (Cond.exactly (tmS i) "java/lang/String") := by decide +kernel
theorem st_co0 : ∀ i, i < 14 → flS[coP.getD i 0]? = some (Cond.eq (.field (tmS i) "java/lang/String" "coder" "B") (.int 0)) := by decide +kernel
theorem st_ar0 : ∀ i, i < 14 → flS[arP.getD i 0]? = some (Cond.arrayOf (.field (tmS i) "java/lang/String" "value" "[B") .byte) := by decide +kernel
theorem st_le0 : ∀ i, i < 14 → flS[leP.getD i 0]? = some (Cond.eq (.length (.field (tmS i) "java/lang/String" "value" "[B")) (.int (Int32.ofNat (lenS.getD i 0)))) := by decide +kernel
theorem st_el0 : ∀ j, j < 4 → flS[(elP.getD 0 []).getD j 0]? = some (Cond.eq (.elem (.field (tmS 0) "java/lang/String" "value" "[B") (.int (Int32.ofNat j))) (.int ((bytS.getD 0 []).getD j 0))) := by decide +kernel
theorem st_el1 : ∀ j, j < 5 → flS[(elP.getD 1 []).getD j 0]? = some (Cond.eq (.elem (.field (tmS 1) "java/lang/String" "value" "[B") (.int (Int32.ofNat j))) (.int ((bytS.getD 1 []).getD j 0))) := by decide +kernel
theorem st_el2 : ∀ j, j < 4 → flS[(elP.getD 2 []).getD j 0]? = some (Cond.eq (.elem (.field (tmS 2) "java/lang/String" "value" "[B") (.int (Int32.ofNat j))) (.int ((bytS.getD 2 []).getD j 0))) := by decide +kernel
theorem st_el3 : ∀ j, j < 5 → flS[(elP.getD 3 []).getD j 0]? = some (Cond.eq (.elem (.field (tmS 3) "java/lang/String" "value" "[B") (.int (Int32.ofNat j))) (.int ((bytS.getD 3 []).getD j 0))) := by decide +kernel
theorem st_el4 : ∀ j, j < 4 → flS[(elP.getD 4 []).getD j 0]? = some (Cond.eq (.elem (.field (tmS 4) "java/lang/String" "value" "[B") (.int (Int32.ofNat j))) (.int ((bytS.getD 4 []).getD j 0))) := by decide +kernel
theorem st_el5 : ∀ j, j < 4 → flS[(elP.getD 5 []).getD j 0]? = some (Cond.eq (.elem (.field (tmS 5) "java/lang/String" "value" "[B") (.int (Int32.ofNat j))) (.int ((bytS.getD 5 []).getD j 0))) := by decide +kernel
theorem st_el6 : ∀ j, j < 6 → flS[(elP.getD 6 []).getD j 0]? = some (Cond.eq (.elem (.field (tmS 6) "java/lang/String" "value" "[B") (.int (Int32.ofNat j))) (.int ((bytS.getD 6 []).getD j 0))) := by decide +kernel
theorem st_el7 : ∀ j, j < 3 → flS[(elP.getD 7 []).getD j 0]? = some (Cond.eq (.elem (.field (tmS 7) "java/lang/String" "value" "[B") (.int (Int32.ofNat j))) (.int ((bytS.getD 7 []).getD j 0))) := by decide +kernel
theorem st_el8 : ∀ j, j < 2 → flS[(elP.getD 8 []).getD j 0]? = some (Cond.eq (.elem (.field (tmS 8) "java/lang/String" "value" "[B") (.int (Int32.ofNat j))) (.int ((bytS.getD 8 []).getD j 0))) := by decide +kernel
theorem st_el9 : ∀ j, j < 3 → flS[(elP.getD 9 []).getD j 0]? = some (Cond.eq (.elem (.field (tmS 9) "java/lang/String" "value" "[B") (.int (Int32.ofNat j))) (.int ((bytS.getD 9 []).getD j 0))) := by decide +kernel
theorem st_el10 : ∀ j, j < 2 → flS[(elP.getD 10 []).getD j 0]? = some (Cond.eq (.elem (.field (tmS 10) "java/lang/String" "value" "[B") (.int (Int32.ofNat j))) (.int ((bytS.getD 10 []).getD j 0))) := by decide +kernel
theorem st_el11 : ∀ j, j < 5 → flS[(elP.getD 11 []).getD j 0]? = some (Cond.eq (.elem (.field (tmS 11) "java/lang/String" "value" "[B") (.int (Int32.ofNat j))) (.int ((bytS.getD 11 []).getD j 0))) := by decide +kernel
theorem st_el12 : ∀ j, j < 4 → flS[(elP.getD 12 []).getD j 0]? = some (Cond.eq (.elem (.field (tmS 12) "java/lang/String" "value" "[B") (.int (Int32.ofNat j))) (.int ((bytS.getD 12 []).getD j 0))) := by decide +kernel
theorem st_el13 : ∀ j, j < 4 → flS[(elP.getD 13 []).getD j 0]? = some (Cond.eq (.elem (.field (tmS 13) "java/lang/String" "value" "[B") (.int (Int32.ofNat j))) (.int ((bytS.getD 13 []).getD j 0))) := by decide +kernel
theorem st_ne1 : ∀ i, i < 1 → flS[(neP.getD 1 []).getD i 0]? = some (Cond.not (Cond.eq (tmS i) (tmS 1))) := by decide +kernel
theorem st_ne2 : ∀ i, i < 2 → flS[(neP.getD 2 []).getD i 0]? = some (Cond.not (Cond.eq (tmS i) (tmS 2))) := by decide +kernel
theorem st_ne3 : ∀ i, i < 3 → flS[(neP.getD 3 []).getD i 0]? = some (Cond.not (Cond.eq (tmS i) (tmS 3))) := by decide +kernel
theorem st_ne4 : ∀ i, i < 4 → flS[(neP.getD 4 []).getD i 0]? = some (Cond.not (Cond.eq (tmS i) (tmS 4))) := by decide +kernel
theorem st_ne5 : ∀ i, i < 5 → flS[(neP.getD 5 []).getD i 0]? = some (Cond.not (Cond.eq (tmS i) (tmS 5))) := by decide +kernel
theorem st_ne6 : ∀ i, i < 6 → flS[(neP.getD 6 []).getD i 0]? = some (Cond.not (Cond.eq (tmS i) (tmS 6))) := by decide +kernel
theorem st_ne7 : ∀ i, i < 7 → flS[(neP.getD 7 []).getD i 0]? = some (Cond.not (Cond.eq (tmS i) (tmS 7))) := by decide +kernel
theorem st_ne8 : ∀ i, i < 8 → flS[(neP.getD 8 []).getD i 0]? = some (Cond.not (Cond.eq (tmS i) (tmS 8))) := by decide +kernel
theorem st_ne9 : ∀ i, i < 9 → flS[(neP.getD 9 []).getD i 0]? = some (Cond.not (Cond.eq (tmS i) (tmS 9))) := by decide +kernel
theorem st_ne10 : ∀ i, i < 10 → flS[(neP.getD 10 []).getD i 0]? = some (Cond.not (Cond.eq (tmS i) (tmS 10))) := by decide +kernel
theorem st_ne11 : ∀ i, i < 11 → flS[(neP.getD 11 []).getD i 0]? = some (Cond.not (Cond.eq (tmS i) (tmS 11))) := by decide +kernel
theorem st_ne12 : ∀ i, i < 12 → flS[(neP.getD 12 []).getD i 0]? = some (Cond.not (Cond.eq (tmS i) (tmS 12))) := by decide +kernel
theorem st_ne13 : ∀ i, i < 13 → flS[(neP.getD 13 []).getD i 0]? = some (Cond.not (Cond.eq (tmS i) (tmS 13))) := by decide +kernel
theorem st_el : ∀ i, i < 14 → ∀ j, j < lenS.getD i 0 → Cond.eq (.elem (.field (tmS i) "java/lang/String" "value" "[B") (.int (Int32.ofNat j))) (.int ((bytS.getD i []).getD j 0)) ∈ flS := by
  intro i hi
  rcases (show i = 0 ∨ i = 1 ∨ i = 2 ∨ i = 3 ∨ i = 4 ∨ i = 5 ∨ i = 6 ∨ i = 7 ∨ i = 8 ∨ i = 9 ∨ i = 10 ∨ i = 11 ∨ i = 12 ∨ i = 13 by omega) with e | e | e | e | e | e | e | e | e | e | e | e | e | e <;> subst e
  · exact fun j hj => List.mem_of_getElem? (st_el0 j hj)
  · exact fun j hj => List.mem_of_getElem? (st_el1 j hj)
  · exact fun j hj => List.mem_of_getElem? (st_el2 j hj)
  · exact fun j hj => List.mem_of_getElem? (st_el3 j hj)
  · exact fun j hj => List.mem_of_getElem? (st_el4 j hj)
  · exact fun j hj => List.mem_of_getElem? (st_el5 j hj)
  · exact fun j hj => List.mem_of_getElem? (st_el6 j hj)
  · exact fun j hj => List.mem_of_getElem? (st_el7 j hj)
  · exact fun j hj => List.mem_of_getElem? (st_el8 j hj)
  · exact fun j hj => List.mem_of_getElem? (st_el9 j hj)
  · exact fun j hj => List.mem_of_getElem? (st_el10 j hj)
  · exact fun j hj => List.mem_of_getElem? (st_el11 j hj)
  · exact fun j hj => List.mem_of_getElem? (st_el12 j hj)
  · exact fun j hj => List.mem_of_getElem? (st_el13 j hj)
theorem st_ne0 : ∀ j, j < 14 → ∀ i, i < j → Cond.not (Cond.eq (tmS i) (tmS j)) ∈ flS := by
  intro j hj
  rcases (show j = 0 ∨ j = 1 ∨ j = 2 ∨ j = 3 ∨ j = 4 ∨ j = 5 ∨ j = 6 ∨ j = 7 ∨ j = 8 ∨ j = 9 ∨ j = 10 ∨ j = 11 ∨ j = 12 ∨ j = 13 by omega) with e | e | e | e | e | e | e | e | e | e | e | e | e | e <;> subst e
  · exact fun i hi => absurd hi (Nat.not_lt_zero _)
  · exact fun i hi => List.mem_of_getElem? (st_ne1 i hi)
  · exact fun i hi => List.mem_of_getElem? (st_ne2 i hi)
  · exact fun i hi => List.mem_of_getElem? (st_ne3 i hi)
  · exact fun i hi => List.mem_of_getElem? (st_ne4 i hi)
  · exact fun i hi => List.mem_of_getElem? (st_ne5 i hi)
  · exact fun i hi => List.mem_of_getElem? (st_ne6 i hi)
  · exact fun i hi => List.mem_of_getElem? (st_ne7 i hi)
  · exact fun i hi => List.mem_of_getElem? (st_ne8 i hi)
  · exact fun i hi => List.mem_of_getElem? (st_ne9 i hi)
  · exact fun i hi => List.mem_of_getElem? (st_ne10 i hi)
  · exact fun i hi => List.mem_of_getElem? (st_ne11 i hi)
  · exact fun i hi => List.mem_of_getElem? (st_ne12 i hi)
  · exact fun i hi => List.mem_of_getElem? (st_ne13 i hi)
theorem st_cs : Cond.eq (.static "java/lang/String" "COMPACT_STRINGS" "Z") (.int 1) ∈ flS := List.mem_of_getElem? (i := 4) (by decide +kernel)
theorem st_sf : Cond.isRef (.static "jdk/internal/util/Preconditions" "SIOOBE_FORMATTER" "Ljava/util/function/BiFunction;") ∈ flS := List.mem_of_getElem? (i := 5) (by decide +kernel)
def srW (i : Nat) : Cond := .stringRef (stL.getD i ("", 0, "")).1 (stL.getD i ("", 0, "")).2.1 (stL.getD i ("", 0, "")).2.2
theorem st_sr : ∀ i, i < 14 → srW i ∈ tables_1 := by
  intro i hi
  rcases (show i = 0 ∨ i = 1 ∨ i = 2 ∨ i = 3 ∨ i = 4 ∨ i = 5 ∨ i = 6 ∨ i = 7 ∨ i = 8 ∨ i = 9 ∨ i = 10 ∨ i = 11 ∨ i = 12 ∨ i = 13 by omega) with e | e | e | e | e | e | e | e | e | e | e | e | e | e <;> subst e
  · exact tm_0 (List.mem_of_getElem? (i := 31) rfl)
  · exact tm_0 (List.mem_of_getElem? (i := 49) rfl)
  · exact tm_0 (List.mem_of_getElem? (i := 59) rfl)
  · exact tm_0 (List.mem_of_getElem? (i := 69) rfl)
  · exact tm_0 (List.mem_of_getElem? (i := 79) rfl)
  · exact tm_0 (List.mem_of_getElem? (i := 89) rfl)
  · exact tm_3 (List.mem_of_getElem? (i := 5) rfl)
  · exact tm_3 (List.mem_of_getElem? (i := 67) rfl)
  · exact tm_3 (List.mem_of_getElem? (i := 77) rfl)
  · exact tm_3 (List.mem_of_getElem? (i := 83) rfl)
  · exact tm_3 (List.mem_of_getElem? (i := 92) rfl)
  · exact tm_3 (List.mem_of_getElem? (i := 93) rfl)
  · exact tm_3 (List.mem_of_getElem? (i := 94) rfl)
  · exact tm_3 (List.mem_of_getElem? (i := 95) rfl)
