def tmS (i : Nat) : Term := .string ownStr (idxStr.getD i (0, "")).1
def flN : List Cond := flatC (Jvm.Cond.and given_1 narrow_1)
theorem ms_ex_0 : Cond.exactly (tmS 0) "java/lang/String" ∈ flN := List.mem_of_getElem? (i := 23) rfl
theorem ms_co_0 : Cond.eq (.field (tmS 0) "java/lang/String" "coder" "B") (.int 0) ∈ flN := List.mem_of_getElem? (i := 24) rfl
theorem ms_ar_0 : Cond.arrayOf (.field (tmS 0) "java/lang/String" "value" "[B") .byte ∈ flN := List.mem_of_getElem? (i := 25) rfl
theorem ms_le_0 : Cond.eq (.length (.field (tmS 0) "java/lang/String" "value" "[B")) (.int (Int32.ofNat (lenStr.getD 0 0))) ∈ flN := List.mem_of_getElem? (i := 26) rfl
theorem ms_el_0_0 : Cond.eq (.elem (.field (tmS 0) "java/lang/String" "value" "[B") (.int (Int32.ofNat 0))) (.int ((bytStr.getD 0 []).getD 0 0)) ∈ flN := List.mem_of_getElem? (i := 27) rfl
theorem ms_el_0_1 : Cond.eq (.elem (.field (tmS 0) "java/lang/String" "value" "[B") (.int (Int32.ofNat 1))) (.int ((bytStr.getD 0 []).getD 1 0)) ∈ flN := List.mem_of_getElem? (i := 28) rfl
theorem ms_el_0_2 : Cond.eq (.elem (.field (tmS 0) "java/lang/String" "value" "[B") (.int (Int32.ofNat 2))) (.int ((bytStr.getD 0 []).getD 2 0)) ∈ flN := List.mem_of_getElem? (i := 29) rfl
theorem ms_el_0_3 : Cond.eq (.elem (.field (tmS 0) "java/lang/String" "value" "[B") (.int (Int32.ofNat 3))) (.int ((bytStr.getD 0 []).getD 3 0)) ∈ flN := List.mem_of_getElem? (i := 30) rfl
theorem ms_el_0 : ∀ j, j < lenStr.getD 0 0 → Cond.eq (.elem (.field (tmS 0) "java/lang/String" "value" "[B") (.int (Int32.ofNat j))) (.int ((bytStr.getD 0 []).getD j 0)) ∈ flN := by
  intro j hj
  rcases (show j = 0 ∨ j = 1 ∨ j = 2 ∨ j = 3 by have : lenStr.getD 0 0 = 4 := rfl; omega) with rfl | rfl | rfl | rfl
  · exact ms_el_0_0
  · exact ms_el_0_1
  · exact ms_el_0_2
  · exact ms_el_0_3
theorem ms_ex_1 : Cond.exactly (tmS 1) "java/lang/String" ∈ flN := List.mem_of_getElem? (i := 31) rfl
theorem ms_co_1 : Cond.eq (.field (tmS 1) "java/lang/String" "coder" "B") (.int 0) ∈ flN := List.mem_of_getElem? (i := 32) rfl
theorem ms_ar_1 : Cond.arrayOf (.field (tmS 1) "java/lang/String" "value" "[B") .byte ∈ flN := List.mem_of_getElem? (i := 33) rfl
theorem ms_le_1 : Cond.eq (.length (.field (tmS 1) "java/lang/String" "value" "[B")) (.int (Int32.ofNat (lenStr.getD 1 0))) ∈ flN := List.mem_of_getElem? (i := 34) rfl
theorem ms_el_1_0 : Cond.eq (.elem (.field (tmS 1) "java/lang/String" "value" "[B") (.int (Int32.ofNat 0))) (.int ((bytStr.getD 1 []).getD 0 0)) ∈ flN := List.mem_of_getElem? (i := 35) rfl
theorem ms_el_1_1 : Cond.eq (.elem (.field (tmS 1) "java/lang/String" "value" "[B") (.int (Int32.ofNat 1))) (.int ((bytStr.getD 1 []).getD 1 0)) ∈ flN := List.mem_of_getElem? (i := 36) rfl
theorem ms_el_1_2 : Cond.eq (.elem (.field (tmS 1) "java/lang/String" "value" "[B") (.int (Int32.ofNat 2))) (.int ((bytStr.getD 1 []).getD 2 0)) ∈ flN := List.mem_of_getElem? (i := 37) rfl
theorem ms_el_1_3 : Cond.eq (.elem (.field (tmS 1) "java/lang/String" "value" "[B") (.int (Int32.ofNat 3))) (.int ((bytStr.getD 1 []).getD 3 0)) ∈ flN := List.mem_of_getElem? (i := 38) rfl
theorem ms_el_1 : ∀ j, j < lenStr.getD 1 0 → Cond.eq (.elem (.field (tmS 1) "java/lang/String" "value" "[B") (.int (Int32.ofNat j))) (.int ((bytStr.getD 1 []).getD j 0)) ∈ flN := by
  intro j hj
  rcases (show j = 0 ∨ j = 1 ∨ j = 2 ∨ j = 3 by have : lenStr.getD 1 0 = 4 := rfl; omega) with rfl | rfl | rfl | rfl
  · exact ms_el_1_0
  · exact ms_el_1_1
  · exact ms_el_1_2
  · exact ms_el_1_3
theorem ms_ex_2 : Cond.exactly (tmS 2) "java/lang/String" ∈ flN := List.mem_of_getElem? (i := 40) rfl
theorem ms_co_2 : Cond.eq (.field (tmS 2) "java/lang/String" "coder" "B") (.int 0) ∈ flN := List.mem_of_getElem? (i := 41) rfl
theorem ms_ar_2 : Cond.arrayOf (.field (tmS 2) "java/lang/String" "value" "[B") .byte ∈ flN := List.mem_of_getElem? (i := 42) rfl
theorem ms_le_2 : Cond.eq (.length (.field (tmS 2) "java/lang/String" "value" "[B")) (.int (Int32.ofNat (lenStr.getD 2 0))) ∈ flN := List.mem_of_getElem? (i := 43) rfl
theorem ms_el_2_0 : Cond.eq (.elem (.field (tmS 2) "java/lang/String" "value" "[B") (.int (Int32.ofNat 0))) (.int ((bytStr.getD 2 []).getD 0 0)) ∈ flN := List.mem_of_getElem? (i := 44) rfl
theorem ms_el_2_1 : Cond.eq (.elem (.field (tmS 2) "java/lang/String" "value" "[B") (.int (Int32.ofNat 1))) (.int ((bytStr.getD 2 []).getD 1 0)) ∈ flN := List.mem_of_getElem? (i := 45) rfl
theorem ms_el_2_2 : Cond.eq (.elem (.field (tmS 2) "java/lang/String" "value" "[B") (.int (Int32.ofNat 2))) (.int ((bytStr.getD 2 []).getD 2 0)) ∈ flN := List.mem_of_getElem? (i := 46) rfl
theorem ms_el_2_3 : Cond.eq (.elem (.field (tmS 2) "java/lang/String" "value" "[B") (.int (Int32.ofNat 3))) (.int ((bytStr.getD 2 []).getD 3 0)) ∈ flN := List.mem_of_getElem? (i := 47) rfl
theorem ms_el_2_4 : Cond.eq (.elem (.field (tmS 2) "java/lang/String" "value" "[B") (.int (Int32.ofNat 4))) (.int ((bytStr.getD 2 []).getD 4 0)) ∈ flN := List.mem_of_getElem? (i := 48) rfl
theorem ms_el_2_5 : Cond.eq (.elem (.field (tmS 2) "java/lang/String" "value" "[B") (.int (Int32.ofNat 5))) (.int ((bytStr.getD 2 []).getD 5 0)) ∈ flN := List.mem_of_getElem? (i := 49) rfl
theorem ms_el_2_6 : Cond.eq (.elem (.field (tmS 2) "java/lang/String" "value" "[B") (.int (Int32.ofNat 6))) (.int ((bytStr.getD 2 []).getD 6 0)) ∈ flN := List.mem_of_getElem? (i := 50) rfl
theorem ms_el_2_7 : Cond.eq (.elem (.field (tmS 2) "java/lang/String" "value" "[B") (.int (Int32.ofNat 7))) (.int ((bytStr.getD 2 []).getD 7 0)) ∈ flN := List.mem_of_getElem? (i := 51) rfl
theorem ms_el_2_8 : Cond.eq (.elem (.field (tmS 2) "java/lang/String" "value" "[B") (.int (Int32.ofNat 8))) (.int ((bytStr.getD 2 []).getD 8 0)) ∈ flN := List.mem_of_getElem? (i := 52) rfl
theorem ms_el_2 : ∀ j, j < lenStr.getD 2 0 → Cond.eq (.elem (.field (tmS 2) "java/lang/String" "value" "[B") (.int (Int32.ofNat j))) (.int ((bytStr.getD 2 []).getD j 0)) ∈ flN := by
  intro j hj
  rcases (show j = 0 ∨ j = 1 ∨ j = 2 ∨ j = 3 ∨ j = 4 ∨ j = 5 ∨ j = 6 ∨ j = 7 ∨ j = 8 by have : lenStr.getD 2 0 = 9 := rfl; omega) with rfl | rfl | rfl | rfl | rfl | rfl | rfl | rfl | rfl
  · exact ms_el_2_0
  · exact ms_el_2_1
  · exact ms_el_2_2
  · exact ms_el_2_3
  · exact ms_el_2_4
  · exact ms_el_2_5
  · exact ms_el_2_6
  · exact ms_el_2_7
  · exact ms_el_2_8
theorem ms_ex_3 : Cond.exactly (tmS 3) "java/lang/String" ∈ flN := List.mem_of_getElem? (i := 55) rfl
theorem ms_co_3 : Cond.eq (.field (tmS 3) "java/lang/String" "coder" "B") (.int 0) ∈ flN := List.mem_of_getElem? (i := 56) rfl
theorem ms_ar_3 : Cond.arrayOf (.field (tmS 3) "java/lang/String" "value" "[B") .byte ∈ flN := List.mem_of_getElem? (i := 57) rfl
theorem ms_le_3 : Cond.eq (.length (.field (tmS 3) "java/lang/String" "value" "[B")) (.int (Int32.ofNat (lenStr.getD 3 0))) ∈ flN := List.mem_of_getElem? (i := 58) rfl
theorem ms_el_3_0 : Cond.eq (.elem (.field (tmS 3) "java/lang/String" "value" "[B") (.int (Int32.ofNat 0))) (.int ((bytStr.getD 3 []).getD 0 0)) ∈ flN := List.mem_of_getElem? (i := 59) rfl
theorem ms_el_3_1 : Cond.eq (.elem (.field (tmS 3) "java/lang/String" "value" "[B") (.int (Int32.ofNat 1))) (.int ((bytStr.getD 3 []).getD 1 0)) ∈ flN := List.mem_of_getElem? (i := 60) rfl
theorem ms_el_3_2 : Cond.eq (.elem (.field (tmS 3) "java/lang/String" "value" "[B") (.int (Int32.ofNat 2))) (.int ((bytStr.getD 3 []).getD 2 0)) ∈ flN := List.mem_of_getElem? (i := 61) rfl
theorem ms_el_3_3 : Cond.eq (.elem (.field (tmS 3) "java/lang/String" "value" "[B") (.int (Int32.ofNat 3))) (.int ((bytStr.getD 3 []).getD 3 0)) ∈ flN := List.mem_of_getElem? (i := 62) rfl
theorem ms_el_3_4 : Cond.eq (.elem (.field (tmS 3) "java/lang/String" "value" "[B") (.int (Int32.ofNat 4))) (.int ((bytStr.getD 3 []).getD 4 0)) ∈ flN := List.mem_of_getElem? (i := 63) rfl
theorem ms_el_3_5 : Cond.eq (.elem (.field (tmS 3) "java/lang/String" "value" "[B") (.int (Int32.ofNat 5))) (.int ((bytStr.getD 3 []).getD 5 0)) ∈ flN := List.mem_of_getElem? (i := 64) rfl
theorem ms_el_3_6 : Cond.eq (.elem (.field (tmS 3) "java/lang/String" "value" "[B") (.int (Int32.ofNat 6))) (.int ((bytStr.getD 3 []).getD 6 0)) ∈ flN := List.mem_of_getElem? (i := 65) rfl
theorem ms_el_3 : ∀ j, j < lenStr.getD 3 0 → Cond.eq (.elem (.field (tmS 3) "java/lang/String" "value" "[B") (.int (Int32.ofNat j))) (.int ((bytStr.getD 3 []).getD j 0)) ∈ flN := by
  intro j hj
  rcases (show j = 0 ∨ j = 1 ∨ j = 2 ∨ j = 3 ∨ j = 4 ∨ j = 5 ∨ j = 6 by have : lenStr.getD 3 0 = 7 := rfl; omega) with rfl | rfl | rfl | rfl | rfl | rfl | rfl
  · exact ms_el_3_0
  · exact ms_el_3_1
  · exact ms_el_3_2
  · exact ms_el_3_3
  · exact ms_el_3_4
  · exact ms_el_3_5
  · exact ms_el_3_6
theorem ms_ex_4 : Cond.exactly (tmS 4) "java/lang/String" ∈ flN := List.mem_of_getElem? (i := 69) rfl
theorem ms_co_4 : Cond.eq (.field (tmS 4) "java/lang/String" "coder" "B") (.int 0) ∈ flN := List.mem_of_getElem? (i := 70) rfl
theorem ms_ar_4 : Cond.arrayOf (.field (tmS 4) "java/lang/String" "value" "[B") .byte ∈ flN := List.mem_of_getElem? (i := 71) rfl
theorem ms_le_4 : Cond.eq (.length (.field (tmS 4) "java/lang/String" "value" "[B")) (.int (Int32.ofNat (lenStr.getD 4 0))) ∈ flN := List.mem_of_getElem? (i := 72) rfl
theorem ms_el_4_0 : Cond.eq (.elem (.field (tmS 4) "java/lang/String" "value" "[B") (.int (Int32.ofNat 0))) (.int ((bytStr.getD 4 []).getD 0 0)) ∈ flN := List.mem_of_getElem? (i := 73) rfl
theorem ms_el_4_1 : Cond.eq (.elem (.field (tmS 4) "java/lang/String" "value" "[B") (.int (Int32.ofNat 1))) (.int ((bytStr.getD 4 []).getD 1 0)) ∈ flN := List.mem_of_getElem? (i := 74) rfl
theorem ms_el_4_2 : Cond.eq (.elem (.field (tmS 4) "java/lang/String" "value" "[B") (.int (Int32.ofNat 2))) (.int ((bytStr.getD 4 []).getD 2 0)) ∈ flN := List.mem_of_getElem? (i := 75) rfl
theorem ms_el_4_3 : Cond.eq (.elem (.field (tmS 4) "java/lang/String" "value" "[B") (.int (Int32.ofNat 3))) (.int ((bytStr.getD 4 []).getD 3 0)) ∈ flN := List.mem_of_getElem? (i := 76) rfl
theorem ms_el_4 : ∀ j, j < lenStr.getD 4 0 → Cond.eq (.elem (.field (tmS 4) "java/lang/String" "value" "[B") (.int (Int32.ofNat j))) (.int ((bytStr.getD 4 []).getD j 0)) ∈ flN := by
  intro j hj
  rcases (show j = 0 ∨ j = 1 ∨ j = 2 ∨ j = 3 by have : lenStr.getD 4 0 = 4 := rfl; omega) with rfl | rfl | rfl | rfl
  · exact ms_el_4_0
  · exact ms_el_4_1
  · exact ms_el_4_2
  · exact ms_el_4_3
theorem ms_ex_5 : Cond.exactly (tmS 5) "java/lang/String" ∈ flN := List.mem_of_getElem? (i := 81) rfl
theorem ms_co_5 : Cond.eq (.field (tmS 5) "java/lang/String" "coder" "B") (.int 0) ∈ flN := List.mem_of_getElem? (i := 82) rfl
theorem ms_ar_5 : Cond.arrayOf (.field (tmS 5) "java/lang/String" "value" "[B") .byte ∈ flN := List.mem_of_getElem? (i := 83) rfl
theorem ms_le_5 : Cond.eq (.length (.field (tmS 5) "java/lang/String" "value" "[B")) (.int (Int32.ofNat (lenStr.getD 5 0))) ∈ flN := List.mem_of_getElem? (i := 84) rfl
theorem ms_el_5_0 : Cond.eq (.elem (.field (tmS 5) "java/lang/String" "value" "[B") (.int (Int32.ofNat 0))) (.int ((bytStr.getD 5 []).getD 0 0)) ∈ flN := List.mem_of_getElem? (i := 85) rfl
theorem ms_el_5_1 : Cond.eq (.elem (.field (tmS 5) "java/lang/String" "value" "[B") (.int (Int32.ofNat 1))) (.int ((bytStr.getD 5 []).getD 1 0)) ∈ flN := List.mem_of_getElem? (i := 86) rfl
theorem ms_el_5_2 : Cond.eq (.elem (.field (tmS 5) "java/lang/String" "value" "[B") (.int (Int32.ofNat 2))) (.int ((bytStr.getD 5 []).getD 2 0)) ∈ flN := List.mem_of_getElem? (i := 87) rfl
theorem ms_el_5_3 : Cond.eq (.elem (.field (tmS 5) "java/lang/String" "value" "[B") (.int (Int32.ofNat 3))) (.int ((bytStr.getD 5 []).getD 3 0)) ∈ flN := List.mem_of_getElem? (i := 88) rfl
theorem ms_el_5_4 : Cond.eq (.elem (.field (tmS 5) "java/lang/String" "value" "[B") (.int (Int32.ofNat 4))) (.int ((bytStr.getD 5 []).getD 4 0)) ∈ flN := List.mem_of_getElem? (i := 89) rfl
theorem ms_el_5_5 : Cond.eq (.elem (.field (tmS 5) "java/lang/String" "value" "[B") (.int (Int32.ofNat 5))) (.int ((bytStr.getD 5 []).getD 5 0)) ∈ flN := List.mem_of_getElem? (i := 90) rfl
theorem ms_el_5 : ∀ j, j < lenStr.getD 5 0 → Cond.eq (.elem (.field (tmS 5) "java/lang/String" "value" "[B") (.int (Int32.ofNat j))) (.int ((bytStr.getD 5 []).getD j 0)) ∈ flN := by
  intro j hj
  rcases (show j = 0 ∨ j = 1 ∨ j = 2 ∨ j = 3 ∨ j = 4 ∨ j = 5 by have : lenStr.getD 5 0 = 6 := rfl; omega) with rfl | rfl | rfl | rfl | rfl | rfl
  · exact ms_el_5_0
  · exact ms_el_5_1
  · exact ms_el_5_2
  · exact ms_el_5_3
  · exact ms_el_5_4
  · exact ms_el_5_5
theorem ms_ex_6 : Cond.exactly (tmS 6) "java/lang/String" ∈ flN := List.mem_of_getElem? (i := 96) rfl
theorem ms_co_6 : Cond.eq (.field (tmS 6) "java/lang/String" "coder" "B") (.int 0) ∈ flN := List.mem_of_getElem? (i := 97) rfl
theorem ms_ar_6 : Cond.arrayOf (.field (tmS 6) "java/lang/String" "value" "[B") .byte ∈ flN := List.mem_of_getElem? (i := 98) rfl
theorem ms_le_6 : Cond.eq (.length (.field (tmS 6) "java/lang/String" "value" "[B")) (.int (Int32.ofNat (lenStr.getD 6 0))) ∈ flN := List.mem_of_getElem? (i := 99) rfl
theorem ms_el_6_0 : Cond.eq (.elem (.field (tmS 6) "java/lang/String" "value" "[B") (.int (Int32.ofNat 0))) (.int ((bytStr.getD 6 []).getD 0 0)) ∈ flN := List.mem_of_getElem? (i := 100) rfl
theorem ms_el_6_1 : Cond.eq (.elem (.field (tmS 6) "java/lang/String" "value" "[B") (.int (Int32.ofNat 1))) (.int ((bytStr.getD 6 []).getD 1 0)) ∈ flN := List.mem_of_getElem? (i := 101) rfl
theorem ms_el_6_2 : Cond.eq (.elem (.field (tmS 6) "java/lang/String" "value" "[B") (.int (Int32.ofNat 2))) (.int ((bytStr.getD 6 []).getD 2 0)) ∈ flN := List.mem_of_getElem? (i := 102) rfl
theorem ms_el_6_3 : Cond.eq (.elem (.field (tmS 6) "java/lang/String" "value" "[B") (.int (Int32.ofNat 3))) (.int ((bytStr.getD 6 []).getD 3 0)) ∈ flN := List.mem_of_getElem? (i := 103) rfl
theorem ms_el_6_4 : Cond.eq (.elem (.field (tmS 6) "java/lang/String" "value" "[B") (.int (Int32.ofNat 4))) (.int ((bytStr.getD 6 []).getD 4 0)) ∈ flN := List.mem_of_getElem? (i := 104) rfl
theorem ms_el_6_5 : Cond.eq (.elem (.field (tmS 6) "java/lang/String" "value" "[B") (.int (Int32.ofNat 5))) (.int ((bytStr.getD 6 []).getD 5 0)) ∈ flN := List.mem_of_getElem? (i := 105) rfl
theorem ms_el_6_6 : Cond.eq (.elem (.field (tmS 6) "java/lang/String" "value" "[B") (.int (Int32.ofNat 6))) (.int ((bytStr.getD 6 []).getD 6 0)) ∈ flN := List.mem_of_getElem? (i := 106) rfl
theorem ms_el_6 : ∀ j, j < lenStr.getD 6 0 → Cond.eq (.elem (.field (tmS 6) "java/lang/String" "value" "[B") (.int (Int32.ofNat j))) (.int ((bytStr.getD 6 []).getD j 0)) ∈ flN := by
  intro j hj
  rcases (show j = 0 ∨ j = 1 ∨ j = 2 ∨ j = 3 ∨ j = 4 ∨ j = 5 ∨ j = 6 by have : lenStr.getD 6 0 = 7 := rfl; omega) with rfl | rfl | rfl | rfl | rfl | rfl | rfl
  · exact ms_el_6_0
  · exact ms_el_6_1
  · exact ms_el_6_2
  · exact ms_el_6_3
  · exact ms_el_6_4
  · exact ms_el_6_5
  · exact ms_el_6_6
theorem ms_ex_7 : Cond.exactly (tmS 7) "java/lang/String" ∈ flN := List.mem_of_getElem? (i := 113) rfl
theorem ms_co_7 : Cond.eq (.field (tmS 7) "java/lang/String" "coder" "B") (.int 0) ∈ flN := List.mem_of_getElem? (i := 114) rfl
theorem ms_ar_7 : Cond.arrayOf (.field (tmS 7) "java/lang/String" "value" "[B") .byte ∈ flN := List.mem_of_getElem? (i := 115) rfl
theorem ms_le_7 : Cond.eq (.length (.field (tmS 7) "java/lang/String" "value" "[B")) (.int (Int32.ofNat (lenStr.getD 7 0))) ∈ flN := List.mem_of_getElem? (i := 116) rfl
theorem ms_el_7_0 : Cond.eq (.elem (.field (tmS 7) "java/lang/String" "value" "[B") (.int (Int32.ofNat 0))) (.int ((bytStr.getD 7 []).getD 0 0)) ∈ flN := List.mem_of_getElem? (i := 117) rfl
theorem ms_el_7_1 : Cond.eq (.elem (.field (tmS 7) "java/lang/String" "value" "[B") (.int (Int32.ofNat 1))) (.int ((bytStr.getD 7 []).getD 1 0)) ∈ flN := List.mem_of_getElem? (i := 118) rfl
theorem ms_el_7 : ∀ j, j < lenStr.getD 7 0 → Cond.eq (.elem (.field (tmS 7) "java/lang/String" "value" "[B") (.int (Int32.ofNat j))) (.int ((bytStr.getD 7 []).getD j 0)) ∈ flN := by
  intro j hj
  rcases (show j = 0 ∨ j = 1 by have : lenStr.getD 7 0 = 2 := rfl; omega) with rfl | rfl
  · exact ms_el_7_0
  · exact ms_el_7_1
theorem ms_ex_8 : Cond.exactly (tmS 8) "java/lang/String" ∈ flN := List.mem_of_getElem? (i := 126) rfl
theorem ms_co_8 : Cond.eq (.field (tmS 8) "java/lang/String" "coder" "B") (.int 0) ∈ flN := List.mem_of_getElem? (i := 127) rfl
theorem ms_ar_8 : Cond.arrayOf (.field (tmS 8) "java/lang/String" "value" "[B") .byte ∈ flN := List.mem_of_getElem? (i := 128) rfl
theorem ms_le_8 : Cond.eq (.length (.field (tmS 8) "java/lang/String" "value" "[B")) (.int (Int32.ofNat (lenStr.getD 8 0))) ∈ flN := List.mem_of_getElem? (i := 129) rfl
theorem ms_el_8_0 : Cond.eq (.elem (.field (tmS 8) "java/lang/String" "value" "[B") (.int (Int32.ofNat 0))) (.int ((bytStr.getD 8 []).getD 0 0)) ∈ flN := List.mem_of_getElem? (i := 130) rfl
theorem ms_el_8_1 : Cond.eq (.elem (.field (tmS 8) "java/lang/String" "value" "[B") (.int (Int32.ofNat 1))) (.int ((bytStr.getD 8 []).getD 1 0)) ∈ flN := List.mem_of_getElem? (i := 131) rfl
theorem ms_el_8_2 : Cond.eq (.elem (.field (tmS 8) "java/lang/String" "value" "[B") (.int (Int32.ofNat 2))) (.int ((bytStr.getD 8 []).getD 2 0)) ∈ flN := List.mem_of_getElem? (i := 132) rfl
theorem ms_el_8_3 : Cond.eq (.elem (.field (tmS 8) "java/lang/String" "value" "[B") (.int (Int32.ofNat 3))) (.int ((bytStr.getD 8 []).getD 3 0)) ∈ flN := List.mem_of_getElem? (i := 133) rfl
theorem ms_el_8_4 : Cond.eq (.elem (.field (tmS 8) "java/lang/String" "value" "[B") (.int (Int32.ofNat 4))) (.int ((bytStr.getD 8 []).getD 4 0)) ∈ flN := List.mem_of_getElem? (i := 134) rfl
theorem ms_el_8 : ∀ j, j < lenStr.getD 8 0 → Cond.eq (.elem (.field (tmS 8) "java/lang/String" "value" "[B") (.int (Int32.ofNat j))) (.int ((bytStr.getD 8 []).getD j 0)) ∈ flN := by
  intro j hj
  rcases (show j = 0 ∨ j = 1 ∨ j = 2 ∨ j = 3 ∨ j = 4 by have : lenStr.getD 8 0 = 5 := rfl; omega) with rfl | rfl | rfl | rfl | rfl
  · exact ms_el_8_0
  · exact ms_el_8_1
  · exact ms_el_8_2
  · exact ms_el_8_3
  · exact ms_el_8_4
theorem ms_ex_9 : Cond.exactly (tmS 9) "java/lang/String" ∈ flN := List.mem_of_getElem? (i := 143) rfl
theorem ms_co_9 : Cond.eq (.field (tmS 9) "java/lang/String" "coder" "B") (.int 0) ∈ flN := List.mem_of_getElem? (i := 144) rfl
theorem ms_ar_9 : Cond.arrayOf (.field (tmS 9) "java/lang/String" "value" "[B") .byte ∈ flN := List.mem_of_getElem? (i := 145) rfl
theorem ms_le_9 : Cond.eq (.length (.field (tmS 9) "java/lang/String" "value" "[B")) (.int (Int32.ofNat (lenStr.getD 9 0))) ∈ flN := List.mem_of_getElem? (i := 146) rfl
theorem ms_el_9_0 : Cond.eq (.elem (.field (tmS 9) "java/lang/String" "value" "[B") (.int (Int32.ofNat 0))) (.int ((bytStr.getD 9 []).getD 0 0)) ∈ flN := List.mem_of_getElem? (i := 147) rfl
theorem ms_el_9_1 : Cond.eq (.elem (.field (tmS 9) "java/lang/String" "value" "[B") (.int (Int32.ofNat 1))) (.int ((bytStr.getD 9 []).getD 1 0)) ∈ flN := List.mem_of_getElem? (i := 148) rfl
theorem ms_el_9_2 : Cond.eq (.elem (.field (tmS 9) "java/lang/String" "value" "[B") (.int (Int32.ofNat 2))) (.int ((bytStr.getD 9 []).getD 2 0)) ∈ flN := List.mem_of_getElem? (i := 149) rfl
theorem ms_el_9_3 : Cond.eq (.elem (.field (tmS 9) "java/lang/String" "value" "[B") (.int (Int32.ofNat 3))) (.int ((bytStr.getD 9 []).getD 3 0)) ∈ flN := List.mem_of_getElem? (i := 150) rfl
theorem ms_el_9_4 : Cond.eq (.elem (.field (tmS 9) "java/lang/String" "value" "[B") (.int (Int32.ofNat 4))) (.int ((bytStr.getD 9 []).getD 4 0)) ∈ flN := List.mem_of_getElem? (i := 151) rfl
theorem ms_el_9_5 : Cond.eq (.elem (.field (tmS 9) "java/lang/String" "value" "[B") (.int (Int32.ofNat 5))) (.int ((bytStr.getD 9 []).getD 5 0)) ∈ flN := List.mem_of_getElem? (i := 152) rfl
theorem ms_el_9_6 : Cond.eq (.elem (.field (tmS 9) "java/lang/String" "value" "[B") (.int (Int32.ofNat 6))) (.int ((bytStr.getD 9 []).getD 6 0)) ∈ flN := List.mem_of_getElem? (i := 153) rfl
theorem ms_el_9_7 : Cond.eq (.elem (.field (tmS 9) "java/lang/String" "value" "[B") (.int (Int32.ofNat 7))) (.int ((bytStr.getD 9 []).getD 7 0)) ∈ flN := List.mem_of_getElem? (i := 154) rfl
theorem ms_el_9 : ∀ j, j < lenStr.getD 9 0 → Cond.eq (.elem (.field (tmS 9) "java/lang/String" "value" "[B") (.int (Int32.ofNat j))) (.int ((bytStr.getD 9 []).getD j 0)) ∈ flN := by
  intro j hj
  rcases (show j = 0 ∨ j = 1 ∨ j = 2 ∨ j = 3 ∨ j = 4 ∨ j = 5 ∨ j = 6 ∨ j = 7 by have : lenStr.getD 9 0 = 8 := rfl; omega) with rfl | rfl | rfl | rfl | rfl | rfl | rfl | rfl
  · exact ms_el_9_0
  · exact ms_el_9_1
  · exact ms_el_9_2
  · exact ms_el_9_3
  · exact ms_el_9_4
  · exact ms_el_9_5
  · exact ms_el_9_6
  · exact ms_el_9_7
theorem ms_ex_10 : Cond.exactly (tmS 10) "java/lang/String" ∈ flN := List.mem_of_getElem? (i := 164) rfl
theorem ms_co_10 : Cond.eq (.field (tmS 10) "java/lang/String" "coder" "B") (.int 0) ∈ flN := List.mem_of_getElem? (i := 165) rfl
theorem ms_ar_10 : Cond.arrayOf (.field (tmS 10) "java/lang/String" "value" "[B") .byte ∈ flN := List.mem_of_getElem? (i := 166) rfl
theorem ms_le_10 : Cond.eq (.length (.field (tmS 10) "java/lang/String" "value" "[B")) (.int (Int32.ofNat (lenStr.getD 10 0))) ∈ flN := List.mem_of_getElem? (i := 167) rfl
theorem ms_el_10_0 : Cond.eq (.elem (.field (tmS 10) "java/lang/String" "value" "[B") (.int (Int32.ofNat 0))) (.int ((bytStr.getD 10 []).getD 0 0)) ∈ flN := List.mem_of_getElem? (i := 168) rfl
theorem ms_el_10_1 : Cond.eq (.elem (.field (tmS 10) "java/lang/String" "value" "[B") (.int (Int32.ofNat 1))) (.int ((bytStr.getD 10 []).getD 1 0)) ∈ flN := List.mem_of_getElem? (i := 169) rfl
theorem ms_el_10_2 : Cond.eq (.elem (.field (tmS 10) "java/lang/String" "value" "[B") (.int (Int32.ofNat 2))) (.int ((bytStr.getD 10 []).getD 2 0)) ∈ flN := List.mem_of_getElem? (i := 170) rfl
theorem ms_el_10_3 : Cond.eq (.elem (.field (tmS 10) "java/lang/String" "value" "[B") (.int (Int32.ofNat 3))) (.int ((bytStr.getD 10 []).getD 3 0)) ∈ flN := List.mem_of_getElem? (i := 171) rfl
theorem ms_el_10_4 : Cond.eq (.elem (.field (tmS 10) "java/lang/String" "value" "[B") (.int (Int32.ofNat 4))) (.int ((bytStr.getD 10 []).getD 4 0)) ∈ flN := List.mem_of_getElem? (i := 172) rfl
theorem ms_el_10 : ∀ j, j < lenStr.getD 10 0 → Cond.eq (.elem (.field (tmS 10) "java/lang/String" "value" "[B") (.int (Int32.ofNat j))) (.int ((bytStr.getD 10 []).getD j 0)) ∈ flN := by
  intro j hj
  rcases (show j = 0 ∨ j = 1 ∨ j = 2 ∨ j = 3 ∨ j = 4 by have : lenStr.getD 10 0 = 5 := rfl; omega) with rfl | rfl | rfl | rfl | rfl
  · exact ms_el_10_0
  · exact ms_el_10_1
  · exact ms_el_10_2
  · exact ms_el_10_3
  · exact ms_el_10_4
theorem ms_ex_11 : Cond.exactly (tmS 11) "java/lang/String" ∈ flN := List.mem_of_getElem? (i := 183) rfl
theorem ms_co_11 : Cond.eq (.field (tmS 11) "java/lang/String" "coder" "B") (.int 0) ∈ flN := List.mem_of_getElem? (i := 184) rfl
theorem ms_ar_11 : Cond.arrayOf (.field (tmS 11) "java/lang/String" "value" "[B") .byte ∈ flN := List.mem_of_getElem? (i := 185) rfl
theorem ms_le_11 : Cond.eq (.length (.field (tmS 11) "java/lang/String" "value" "[B")) (.int (Int32.ofNat (lenStr.getD 11 0))) ∈ flN := List.mem_of_getElem? (i := 186) rfl
theorem ms_el_11_0 : Cond.eq (.elem (.field (tmS 11) "java/lang/String" "value" "[B") (.int (Int32.ofNat 0))) (.int ((bytStr.getD 11 []).getD 0 0)) ∈ flN := List.mem_of_getElem? (i := 187) rfl
theorem ms_el_11_1 : Cond.eq (.elem (.field (tmS 11) "java/lang/String" "value" "[B") (.int (Int32.ofNat 1))) (.int ((bytStr.getD 11 []).getD 1 0)) ∈ flN := List.mem_of_getElem? (i := 188) rfl
theorem ms_el_11_2 : Cond.eq (.elem (.field (tmS 11) "java/lang/String" "value" "[B") (.int (Int32.ofNat 2))) (.int ((bytStr.getD 11 []).getD 2 0)) ∈ flN := List.mem_of_getElem? (i := 189) rfl
theorem ms_el_11_3 : Cond.eq (.elem (.field (tmS 11) "java/lang/String" "value" "[B") (.int (Int32.ofNat 3))) (.int ((bytStr.getD 11 []).getD 3 0)) ∈ flN := List.mem_of_getElem? (i := 190) rfl
theorem ms_el_11 : ∀ j, j < lenStr.getD 11 0 → Cond.eq (.elem (.field (tmS 11) "java/lang/String" "value" "[B") (.int (Int32.ofNat j))) (.int ((bytStr.getD 11 []).getD j 0)) ∈ flN := by
  intro j hj
  rcases (show j = 0 ∨ j = 1 ∨ j = 2 ∨ j = 3 by have : lenStr.getD 11 0 = 4 := rfl; omega) with rfl | rfl | rfl | rfl
  · exact ms_el_11_0
  · exact ms_el_11_1
  · exact ms_el_11_2
  · exact ms_el_11_3
theorem ms_ex_12 : Cond.exactly (tmS 12) "java/lang/String" ∈ flN := List.mem_of_getElem? (i := 202) rfl
theorem ms_co_12 : Cond.eq (.field (tmS 12) "java/lang/String" "coder" "B") (.int 0) ∈ flN := List.mem_of_getElem? (i := 203) rfl
theorem ms_ar_12 : Cond.arrayOf (.field (tmS 12) "java/lang/String" "value" "[B") .byte ∈ flN := List.mem_of_getElem? (i := 204) rfl
theorem ms_le_12 : Cond.eq (.length (.field (tmS 12) "java/lang/String" "value" "[B")) (.int (Int32.ofNat (lenStr.getD 12 0))) ∈ flN := List.mem_of_getElem? (i := 205) rfl
theorem ms_el_12_0 : Cond.eq (.elem (.field (tmS 12) "java/lang/String" "value" "[B") (.int (Int32.ofNat 0))) (.int ((bytStr.getD 12 []).getD 0 0)) ∈ flN := List.mem_of_getElem? (i := 206) rfl
theorem ms_el_12_1 : Cond.eq (.elem (.field (tmS 12) "java/lang/String" "value" "[B") (.int (Int32.ofNat 1))) (.int ((bytStr.getD 12 []).getD 1 0)) ∈ flN := List.mem_of_getElem? (i := 207) rfl
theorem ms_el_12_2 : Cond.eq (.elem (.field (tmS 12) "java/lang/String" "value" "[B") (.int (Int32.ofNat 2))) (.int ((bytStr.getD 12 []).getD 2 0)) ∈ flN := List.mem_of_getElem? (i := 208) rfl
theorem ms_el_12_3 : Cond.eq (.elem (.field (tmS 12) "java/lang/String" "value" "[B") (.int (Int32.ofNat 3))) (.int ((bytStr.getD 12 []).getD 3 0)) ∈ flN := List.mem_of_getElem? (i := 209) rfl
theorem ms_el_12_4 : Cond.eq (.elem (.field (tmS 12) "java/lang/String" "value" "[B") (.int (Int32.ofNat 4))) (.int ((bytStr.getD 12 []).getD 4 0)) ∈ flN := List.mem_of_getElem? (i := 210) rfl
theorem ms_el_12_5 : Cond.eq (.elem (.field (tmS 12) "java/lang/String" "value" "[B") (.int (Int32.ofNat 5))) (.int ((bytStr.getD 12 []).getD 5 0)) ∈ flN := List.mem_of_getElem? (i := 211) rfl
theorem ms_el_12 : ∀ j, j < lenStr.getD 12 0 → Cond.eq (.elem (.field (tmS 12) "java/lang/String" "value" "[B") (.int (Int32.ofNat j))) (.int ((bytStr.getD 12 []).getD j 0)) ∈ flN := by
  intro j hj
  rcases (show j = 0 ∨ j = 1 ∨ j = 2 ∨ j = 3 ∨ j = 4 ∨ j = 5 by have : lenStr.getD 12 0 = 6 := rfl; omega) with rfl | rfl | rfl | rfl | rfl | rfl
  · exact ms_el_12_0
  · exact ms_el_12_1
  · exact ms_el_12_2
  · exact ms_el_12_3
  · exact ms_el_12_4
  · exact ms_el_12_5
theorem ms_ex : ∀ i, i < nStr → Cond.exactly (tmS i) "java/lang/String" ∈ flN := by
  intro i hi
  rcases (show i = 0 ∨ i = 1 ∨ i = 2 ∨ i = 3 ∨ i = 4 ∨ i = 5 ∨ i = 6 ∨ i = 7 ∨ i = 8 ∨ i = 9 ∨ i = 10 ∨ i = 11 ∨ i = 12 by have : nStr = 13 := rfl; omega) with rfl | rfl | rfl | rfl | rfl | rfl | rfl | rfl | rfl | rfl | rfl | rfl | rfl
  · exact ms_ex_0
  · exact ms_ex_1
  · exact ms_ex_2
  · exact ms_ex_3
  · exact ms_ex_4
  · exact ms_ex_5
  · exact ms_ex_6
  · exact ms_ex_7
  · exact ms_ex_8
  · exact ms_ex_9
  · exact ms_ex_10
  · exact ms_ex_11
  · exact ms_ex_12
theorem ms_co : ∀ i, i < nStr → Cond.eq (.field (tmS i) "java/lang/String" "coder" "B") (.int 0) ∈ flN := by
  intro i hi
  rcases (show i = 0 ∨ i = 1 ∨ i = 2 ∨ i = 3 ∨ i = 4 ∨ i = 5 ∨ i = 6 ∨ i = 7 ∨ i = 8 ∨ i = 9 ∨ i = 10 ∨ i = 11 ∨ i = 12 by have : nStr = 13 := rfl; omega) with rfl | rfl | rfl | rfl | rfl | rfl | rfl | rfl | rfl | rfl | rfl | rfl | rfl
  · exact ms_co_0
  · exact ms_co_1
  · exact ms_co_2
  · exact ms_co_3
  · exact ms_co_4
  · exact ms_co_5
  · exact ms_co_6
  · exact ms_co_7
  · exact ms_co_8
  · exact ms_co_9
  · exact ms_co_10
  · exact ms_co_11
  · exact ms_co_12
theorem ms_ar : ∀ i, i < nStr → Cond.arrayOf (.field (tmS i) "java/lang/String" "value" "[B") .byte ∈ flN := by
  intro i hi
  rcases (show i = 0 ∨ i = 1 ∨ i = 2 ∨ i = 3 ∨ i = 4 ∨ i = 5 ∨ i = 6 ∨ i = 7 ∨ i = 8 ∨ i = 9 ∨ i = 10 ∨ i = 11 ∨ i = 12 by have : nStr = 13 := rfl; omega) with rfl | rfl | rfl | rfl | rfl | rfl | rfl | rfl | rfl | rfl | rfl | rfl | rfl
  · exact ms_ar_0
  · exact ms_ar_1
  · exact ms_ar_2
  · exact ms_ar_3
  · exact ms_ar_4
  · exact ms_ar_5
  · exact ms_ar_6
  · exact ms_ar_7
  · exact ms_ar_8
  · exact ms_ar_9
  · exact ms_ar_10
  · exact ms_ar_11
  · exact ms_ar_12
theorem ms_le : ∀ i, i < nStr → Cond.eq (.length (.field (tmS i) "java/lang/String" "value" "[B")) (.int (Int32.ofNat (lenStr.getD i 0))) ∈ flN := by
  intro i hi
  rcases (show i = 0 ∨ i = 1 ∨ i = 2 ∨ i = 3 ∨ i = 4 ∨ i = 5 ∨ i = 6 ∨ i = 7 ∨ i = 8 ∨ i = 9 ∨ i = 10 ∨ i = 11 ∨ i = 12 by have : nStr = 13 := rfl; omega) with rfl | rfl | rfl | rfl | rfl | rfl | rfl | rfl | rfl | rfl | rfl | rfl | rfl
  · exact ms_le_0
  · exact ms_le_1
  · exact ms_le_2
  · exact ms_le_3
  · exact ms_le_4
  · exact ms_le_5
  · exact ms_le_6
  · exact ms_le_7
  · exact ms_le_8
  · exact ms_le_9
  · exact ms_le_10
  · exact ms_le_11
  · exact ms_le_12
theorem ms_el : ∀ i, i < nStr → ∀ j, j < lenStr.getD i 0 → Cond.eq (.elem (.field (tmS i) "java/lang/String" "value" "[B") (.int (Int32.ofNat j))) (.int ((bytStr.getD i []).getD j 0)) ∈ flN := by
  intro i hi
  rcases (show i = 0 ∨ i = 1 ∨ i = 2 ∨ i = 3 ∨ i = 4 ∨ i = 5 ∨ i = 6 ∨ i = 7 ∨ i = 8 ∨ i = 9 ∨ i = 10 ∨ i = 11 ∨ i = 12 by have : nStr = 13 := rfl; omega) with rfl | rfl | rfl | rfl | rfl | rfl | rfl | rfl | rfl | rfl | rfl | rfl | rfl
  · exact ms_el_0
  · exact ms_el_1
  · exact ms_el_2
  · exact ms_el_3
  · exact ms_el_4
  · exact ms_el_5
  · exact ms_el_6
  · exact ms_el_7
  · exact ms_el_8
  · exact ms_el_9
  · exact ms_el_10
  · exact ms_el_11
  · exact ms_el_12
theorem ms_ne_0_1 : Cond.not (Cond.eq (tmS 0) (tmS 1)) ∈ flN := List.mem_of_getElem? (i := 39) rfl
theorem ms_ne_0_2 : Cond.not (Cond.eq (tmS 0) (tmS 2)) ∈ flN := List.mem_of_getElem? (i := 53) rfl
theorem ms_ne_0_3 : Cond.not (Cond.eq (tmS 0) (tmS 3)) ∈ flN := List.mem_of_getElem? (i := 66) rfl
theorem ms_ne_0_4 : Cond.not (Cond.eq (tmS 0) (tmS 4)) ∈ flN := List.mem_of_getElem? (i := 77) rfl
theorem ms_ne_0_5 : Cond.not (Cond.eq (tmS 0) (tmS 5)) ∈ flN := List.mem_of_getElem? (i := 91) rfl
theorem ms_ne_0_6 : Cond.not (Cond.eq (tmS 0) (tmS 6)) ∈ flN := List.mem_of_getElem? (i := 107) rfl
theorem ms_ne_0_7 : Cond.not (Cond.eq (tmS 0) (tmS 7)) ∈ flN := List.mem_of_getElem? (i := 119) rfl
theorem ms_ne_0_8 : Cond.not (Cond.eq (tmS 0) (tmS 8)) ∈ flN := List.mem_of_getElem? (i := 135) rfl
theorem ms_ne_0_9 : Cond.not (Cond.eq (tmS 0) (tmS 9)) ∈ flN := List.mem_of_getElem? (i := 155) rfl
theorem ms_ne_0_10 : Cond.not (Cond.eq (tmS 0) (tmS 10)) ∈ flN := List.mem_of_getElem? (i := 173) rfl
theorem ms_ne_0_11 : Cond.not (Cond.eq (tmS 0) (tmS 11)) ∈ flN := List.mem_of_getElem? (i := 191) rfl
theorem ms_ne_0_12 : Cond.not (Cond.eq (tmS 0) (tmS 12)) ∈ flN := List.mem_of_getElem? (i := 212) rfl
theorem ms_ne_1_2 : Cond.not (Cond.eq (tmS 1) (tmS 2)) ∈ flN := List.mem_of_getElem? (i := 54) rfl
theorem ms_ne_1_3 : Cond.not (Cond.eq (tmS 1) (tmS 3)) ∈ flN := List.mem_of_getElem? (i := 67) rfl
theorem ms_ne_1_4 : Cond.not (Cond.eq (tmS 1) (tmS 4)) ∈ flN := List.mem_of_getElem? (i := 78) rfl
theorem ms_ne_1_5 : Cond.not (Cond.eq (tmS 1) (tmS 5)) ∈ flN := List.mem_of_getElem? (i := 92) rfl
theorem ms_ne_1_6 : Cond.not (Cond.eq (tmS 1) (tmS 6)) ∈ flN := List.mem_of_getElem? (i := 108) rfl
theorem ms_ne_1_7 : Cond.not (Cond.eq (tmS 1) (tmS 7)) ∈ flN := List.mem_of_getElem? (i := 120) rfl
theorem ms_ne_1_8 : Cond.not (Cond.eq (tmS 1) (tmS 8)) ∈ flN := List.mem_of_getElem? (i := 136) rfl
theorem ms_ne_1_9 : Cond.not (Cond.eq (tmS 1) (tmS 9)) ∈ flN := List.mem_of_getElem? (i := 156) rfl
theorem ms_ne_1_10 : Cond.not (Cond.eq (tmS 1) (tmS 10)) ∈ flN := List.mem_of_getElem? (i := 174) rfl
theorem ms_ne_1_11 : Cond.not (Cond.eq (tmS 1) (tmS 11)) ∈ flN := List.mem_of_getElem? (i := 192) rfl
theorem ms_ne_1_12 : Cond.not (Cond.eq (tmS 1) (tmS 12)) ∈ flN := List.mem_of_getElem? (i := 213) rfl
theorem ms_ne_2_3 : Cond.not (Cond.eq (tmS 2) (tmS 3)) ∈ flN := List.mem_of_getElem? (i := 68) rfl
theorem ms_ne_2_4 : Cond.not (Cond.eq (tmS 2) (tmS 4)) ∈ flN := List.mem_of_getElem? (i := 79) rfl
theorem ms_ne_2_5 : Cond.not (Cond.eq (tmS 2) (tmS 5)) ∈ flN := List.mem_of_getElem? (i := 93) rfl
theorem ms_ne_2_6 : Cond.not (Cond.eq (tmS 2) (tmS 6)) ∈ flN := List.mem_of_getElem? (i := 109) rfl
theorem ms_ne_2_7 : Cond.not (Cond.eq (tmS 2) (tmS 7)) ∈ flN := List.mem_of_getElem? (i := 121) rfl
theorem ms_ne_2_8 : Cond.not (Cond.eq (tmS 2) (tmS 8)) ∈ flN := List.mem_of_getElem? (i := 137) rfl
theorem ms_ne_2_9 : Cond.not (Cond.eq (tmS 2) (tmS 9)) ∈ flN := List.mem_of_getElem? (i := 157) rfl
theorem ms_ne_2_10 : Cond.not (Cond.eq (tmS 2) (tmS 10)) ∈ flN := List.mem_of_getElem? (i := 175) rfl
theorem ms_ne_2_11 : Cond.not (Cond.eq (tmS 2) (tmS 11)) ∈ flN := List.mem_of_getElem? (i := 193) rfl
theorem ms_ne_2_12 : Cond.not (Cond.eq (tmS 2) (tmS 12)) ∈ flN := List.mem_of_getElem? (i := 214) rfl
theorem ms_ne_3_4 : Cond.not (Cond.eq (tmS 3) (tmS 4)) ∈ flN := List.mem_of_getElem? (i := 80) rfl
theorem ms_ne_3_5 : Cond.not (Cond.eq (tmS 3) (tmS 5)) ∈ flN := List.mem_of_getElem? (i := 94) rfl
theorem ms_ne_3_6 : Cond.not (Cond.eq (tmS 3) (tmS 6)) ∈ flN := List.mem_of_getElem? (i := 110) rfl
theorem ms_ne_3_7 : Cond.not (Cond.eq (tmS 3) (tmS 7)) ∈ flN := List.mem_of_getElem? (i := 122) rfl
theorem ms_ne_3_8 : Cond.not (Cond.eq (tmS 3) (tmS 8)) ∈ flN := List.mem_of_getElem? (i := 138) rfl
theorem ms_ne_3_9 : Cond.not (Cond.eq (tmS 3) (tmS 9)) ∈ flN := List.mem_of_getElem? (i := 158) rfl
theorem ms_ne_3_10 : Cond.not (Cond.eq (tmS 3) (tmS 10)) ∈ flN := List.mem_of_getElem? (i := 176) rfl
theorem ms_ne_3_11 : Cond.not (Cond.eq (tmS 3) (tmS 11)) ∈ flN := List.mem_of_getElem? (i := 194) rfl
theorem ms_ne_3_12 : Cond.not (Cond.eq (tmS 3) (tmS 12)) ∈ flN := List.mem_of_getElem? (i := 215) rfl
theorem ms_ne_4_5 : Cond.not (Cond.eq (tmS 4) (tmS 5)) ∈ flN := List.mem_of_getElem? (i := 95) rfl
theorem ms_ne_4_6 : Cond.not (Cond.eq (tmS 4) (tmS 6)) ∈ flN := List.mem_of_getElem? (i := 111) rfl
theorem ms_ne_4_7 : Cond.not (Cond.eq (tmS 4) (tmS 7)) ∈ flN := List.mem_of_getElem? (i := 123) rfl
theorem ms_ne_4_8 : Cond.not (Cond.eq (tmS 4) (tmS 8)) ∈ flN := List.mem_of_getElem? (i := 139) rfl
theorem ms_ne_4_9 : Cond.not (Cond.eq (tmS 4) (tmS 9)) ∈ flN := List.mem_of_getElem? (i := 159) rfl
theorem ms_ne_4_10 : Cond.not (Cond.eq (tmS 4) (tmS 10)) ∈ flN := List.mem_of_getElem? (i := 177) rfl
theorem ms_ne_4_11 : Cond.not (Cond.eq (tmS 4) (tmS 11)) ∈ flN := List.mem_of_getElem? (i := 195) rfl
theorem ms_ne_4_12 : Cond.not (Cond.eq (tmS 4) (tmS 12)) ∈ flN := List.mem_of_getElem? (i := 216) rfl
theorem ms_ne_5_6 : Cond.not (Cond.eq (tmS 5) (tmS 6)) ∈ flN := List.mem_of_getElem? (i := 112) rfl
theorem ms_ne_5_7 : Cond.not (Cond.eq (tmS 5) (tmS 7)) ∈ flN := List.mem_of_getElem? (i := 124) rfl
theorem ms_ne_5_8 : Cond.not (Cond.eq (tmS 5) (tmS 8)) ∈ flN := List.mem_of_getElem? (i := 140) rfl
theorem ms_ne_5_9 : Cond.not (Cond.eq (tmS 5) (tmS 9)) ∈ flN := List.mem_of_getElem? (i := 160) rfl
theorem ms_ne_5_10 : Cond.not (Cond.eq (tmS 5) (tmS 10)) ∈ flN := List.mem_of_getElem? (i := 178) rfl
theorem ms_ne_5_11 : Cond.not (Cond.eq (tmS 5) (tmS 11)) ∈ flN := List.mem_of_getElem? (i := 196) rfl
theorem ms_ne_5_12 : Cond.not (Cond.eq (tmS 5) (tmS 12)) ∈ flN := List.mem_of_getElem? (i := 217) rfl
theorem ms_ne_6_7 : Cond.not (Cond.eq (tmS 6) (tmS 7)) ∈ flN := List.mem_of_getElem? (i := 125) rfl
theorem ms_ne_6_8 : Cond.not (Cond.eq (tmS 6) (tmS 8)) ∈ flN := List.mem_of_getElem? (i := 141) rfl
theorem ms_ne_6_9 : Cond.not (Cond.eq (tmS 6) (tmS 9)) ∈ flN := List.mem_of_getElem? (i := 161) rfl
theorem ms_ne_6_10 : Cond.not (Cond.eq (tmS 6) (tmS 10)) ∈ flN := List.mem_of_getElem? (i := 179) rfl
theorem ms_ne_6_11 : Cond.not (Cond.eq (tmS 6) (tmS 11)) ∈ flN := List.mem_of_getElem? (i := 197) rfl
theorem ms_ne_6_12 : Cond.not (Cond.eq (tmS 6) (tmS 12)) ∈ flN := List.mem_of_getElem? (i := 218) rfl
theorem ms_ne_7_8 : Cond.not (Cond.eq (tmS 7) (tmS 8)) ∈ flN := List.mem_of_getElem? (i := 142) rfl
theorem ms_ne_7_9 : Cond.not (Cond.eq (tmS 7) (tmS 9)) ∈ flN := List.mem_of_getElem? (i := 162) rfl
theorem ms_ne_7_10 : Cond.not (Cond.eq (tmS 7) (tmS 10)) ∈ flN := List.mem_of_getElem? (i := 180) rfl
theorem ms_ne_7_11 : Cond.not (Cond.eq (tmS 7) (tmS 11)) ∈ flN := List.mem_of_getElem? (i := 198) rfl
theorem ms_ne_7_12 : Cond.not (Cond.eq (tmS 7) (tmS 12)) ∈ flN := List.mem_of_getElem? (i := 219) rfl
theorem ms_ne_8_9 : Cond.not (Cond.eq (tmS 8) (tmS 9)) ∈ flN := List.mem_of_getElem? (i := 163) rfl
theorem ms_ne_8_10 : Cond.not (Cond.eq (tmS 8) (tmS 10)) ∈ flN := List.mem_of_getElem? (i := 181) rfl
theorem ms_ne_8_11 : Cond.not (Cond.eq (tmS 8) (tmS 11)) ∈ flN := List.mem_of_getElem? (i := 199) rfl
theorem ms_ne_8_12 : Cond.not (Cond.eq (tmS 8) (tmS 12)) ∈ flN := List.mem_of_getElem? (i := 220) rfl
theorem ms_ne_9_10 : Cond.not (Cond.eq (tmS 9) (tmS 10)) ∈ flN := List.mem_of_getElem? (i := 182) rfl
theorem ms_ne_9_11 : Cond.not (Cond.eq (tmS 9) (tmS 11)) ∈ flN := List.mem_of_getElem? (i := 200) rfl
theorem ms_ne_9_12 : Cond.not (Cond.eq (tmS 9) (tmS 12)) ∈ flN := List.mem_of_getElem? (i := 221) rfl
theorem ms_ne_10_11 : Cond.not (Cond.eq (tmS 10) (tmS 11)) ∈ flN := List.mem_of_getElem? (i := 201) rfl
theorem ms_ne_10_12 : Cond.not (Cond.eq (tmS 10) (tmS 12)) ∈ flN := List.mem_of_getElem? (i := 222) rfl
theorem ms_ne_11_12 : Cond.not (Cond.eq (tmS 11) (tmS 12)) ∈ flN := List.mem_of_getElem? (i := 223) rfl
theorem ms_ne_0 : ∀ j, j < nStr → 0 ≠ j → Cond.not (Cond.eq (tmS 0) (tmS j)) ∈ flN ∨ Cond.not (Cond.eq (tmS j) (tmS 0)) ∈ flN := by
  intro j hj hne
  rcases (show j = 0 ∨ j = 1 ∨ j = 2 ∨ j = 3 ∨ j = 4 ∨ j = 5 ∨ j = 6 ∨ j = 7 ∨ j = 8 ∨ j = 9 ∨ j = 10 ∨ j = 11 ∨ j = 12 by have : nStr = 13 := rfl; omega) with rfl | rfl | rfl | rfl | rfl | rfl | rfl | rfl | rfl | rfl | rfl | rfl | rfl
  · exact absurd rfl hne
  · exact Or.inl ms_ne_0_1
  · exact Or.inl ms_ne_0_2
  · exact Or.inl ms_ne_0_3
  · exact Or.inl ms_ne_0_4
  · exact Or.inl ms_ne_0_5
  · exact Or.inl ms_ne_0_6
  · exact Or.inl ms_ne_0_7
  · exact Or.inl ms_ne_0_8
  · exact Or.inl ms_ne_0_9
  · exact Or.inl ms_ne_0_10
  · exact Or.inl ms_ne_0_11
  · exact Or.inl ms_ne_0_12
theorem ms_ne_1 : ∀ j, j < nStr → 1 ≠ j → Cond.not (Cond.eq (tmS 1) (tmS j)) ∈ flN ∨ Cond.not (Cond.eq (tmS j) (tmS 1)) ∈ flN := by
  intro j hj hne
  rcases (show j = 0 ∨ j = 1 ∨ j = 2 ∨ j = 3 ∨ j = 4 ∨ j = 5 ∨ j = 6 ∨ j = 7 ∨ j = 8 ∨ j = 9 ∨ j = 10 ∨ j = 11 ∨ j = 12 by have : nStr = 13 := rfl; omega) with rfl | rfl | rfl | rfl | rfl | rfl | rfl | rfl | rfl | rfl | rfl | rfl | rfl
  · exact Or.inr ms_ne_0_1
  · exact absurd rfl hne
  · exact Or.inl ms_ne_1_2
  · exact Or.inl ms_ne_1_3
  · exact Or.inl ms_ne_1_4
  · exact Or.inl ms_ne_1_5
  · exact Or.inl ms_ne_1_6
  · exact Or.inl ms_ne_1_7
  · exact Or.inl ms_ne_1_8
  · exact Or.inl ms_ne_1_9
  · exact Or.inl ms_ne_1_10
  · exact Or.inl ms_ne_1_11
  · exact Or.inl ms_ne_1_12
theorem ms_ne_2 : ∀ j, j < nStr → 2 ≠ j → Cond.not (Cond.eq (tmS 2) (tmS j)) ∈ flN ∨ Cond.not (Cond.eq (tmS j) (tmS 2)) ∈ flN := by
  intro j hj hne
  rcases (show j = 0 ∨ j = 1 ∨ j = 2 ∨ j = 3 ∨ j = 4 ∨ j = 5 ∨ j = 6 ∨ j = 7 ∨ j = 8 ∨ j = 9 ∨ j = 10 ∨ j = 11 ∨ j = 12 by have : nStr = 13 := rfl; omega) with rfl | rfl | rfl | rfl | rfl | rfl | rfl | rfl | rfl | rfl | rfl | rfl | rfl
  · exact Or.inr ms_ne_0_2
  · exact Or.inr ms_ne_1_2
  · exact absurd rfl hne
  · exact Or.inl ms_ne_2_3
  · exact Or.inl ms_ne_2_4
  · exact Or.inl ms_ne_2_5
  · exact Or.inl ms_ne_2_6
  · exact Or.inl ms_ne_2_7
  · exact Or.inl ms_ne_2_8
  · exact Or.inl ms_ne_2_9
  · exact Or.inl ms_ne_2_10
  · exact Or.inl ms_ne_2_11
  · exact Or.inl ms_ne_2_12
theorem ms_ne_3 : ∀ j, j < nStr → 3 ≠ j → Cond.not (Cond.eq (tmS 3) (tmS j)) ∈ flN ∨ Cond.not (Cond.eq (tmS j) (tmS 3)) ∈ flN := by
  intro j hj hne
  rcases (show j = 0 ∨ j = 1 ∨ j = 2 ∨ j = 3 ∨ j = 4 ∨ j = 5 ∨ j = 6 ∨ j = 7 ∨ j = 8 ∨ j = 9 ∨ j = 10 ∨ j = 11 ∨ j = 12 by have : nStr = 13 := rfl; omega) with rfl | rfl | rfl | rfl | rfl | rfl | rfl | rfl | rfl | rfl | rfl | rfl | rfl
  · exact Or.inr ms_ne_0_3
  · exact Or.inr ms_ne_1_3
  · exact Or.inr ms_ne_2_3
  · exact absurd rfl hne
  · exact Or.inl ms_ne_3_4
  · exact Or.inl ms_ne_3_5
  · exact Or.inl ms_ne_3_6
  · exact Or.inl ms_ne_3_7
  · exact Or.inl ms_ne_3_8
  · exact Or.inl ms_ne_3_9
  · exact Or.inl ms_ne_3_10
  · exact Or.inl ms_ne_3_11
  · exact Or.inl ms_ne_3_12
theorem ms_ne_4 : ∀ j, j < nStr → 4 ≠ j → Cond.not (Cond.eq (tmS 4) (tmS j)) ∈ flN ∨ Cond.not (Cond.eq (tmS j) (tmS 4)) ∈ flN := by
  intro j hj hne
  rcases (show j = 0 ∨ j = 1 ∨ j = 2 ∨ j = 3 ∨ j = 4 ∨ j = 5 ∨ j = 6 ∨ j = 7 ∨ j = 8 ∨ j = 9 ∨ j = 10 ∨ j = 11 ∨ j = 12 by have : nStr = 13 := rfl; omega) with rfl | rfl | rfl | rfl | rfl | rfl | rfl | rfl | rfl | rfl | rfl | rfl | rfl
  · exact Or.inr ms_ne_0_4
  · exact Or.inr ms_ne_1_4
  · exact Or.inr ms_ne_2_4
  · exact Or.inr ms_ne_3_4
  · exact absurd rfl hne
  · exact Or.inl ms_ne_4_5
  · exact Or.inl ms_ne_4_6
  · exact Or.inl ms_ne_4_7
  · exact Or.inl ms_ne_4_8
  · exact Or.inl ms_ne_4_9
  · exact Or.inl ms_ne_4_10
  · exact Or.inl ms_ne_4_11
  · exact Or.inl ms_ne_4_12
theorem ms_ne_5 : ∀ j, j < nStr → 5 ≠ j → Cond.not (Cond.eq (tmS 5) (tmS j)) ∈ flN ∨ Cond.not (Cond.eq (tmS j) (tmS 5)) ∈ flN := by
  intro j hj hne
  rcases (show j = 0 ∨ j = 1 ∨ j = 2 ∨ j = 3 ∨ j = 4 ∨ j = 5 ∨ j = 6 ∨ j = 7 ∨ j = 8 ∨ j = 9 ∨ j = 10 ∨ j = 11 ∨ j = 12 by have : nStr = 13 := rfl; omega) with rfl | rfl | rfl | rfl | rfl | rfl | rfl | rfl | rfl | rfl | rfl | rfl | rfl
  · exact Or.inr ms_ne_0_5
  · exact Or.inr ms_ne_1_5
  · exact Or.inr ms_ne_2_5
  · exact Or.inr ms_ne_3_5
  · exact Or.inr ms_ne_4_5
  · exact absurd rfl hne
  · exact Or.inl ms_ne_5_6
  · exact Or.inl ms_ne_5_7
  · exact Or.inl ms_ne_5_8
  · exact Or.inl ms_ne_5_9
  · exact Or.inl ms_ne_5_10
  · exact Or.inl ms_ne_5_11
  · exact Or.inl ms_ne_5_12
theorem ms_ne_6 : ∀ j, j < nStr → 6 ≠ j → Cond.not (Cond.eq (tmS 6) (tmS j)) ∈ flN ∨ Cond.not (Cond.eq (tmS j) (tmS 6)) ∈ flN := by
  intro j hj hne
  rcases (show j = 0 ∨ j = 1 ∨ j = 2 ∨ j = 3 ∨ j = 4 ∨ j = 5 ∨ j = 6 ∨ j = 7 ∨ j = 8 ∨ j = 9 ∨ j = 10 ∨ j = 11 ∨ j = 12 by have : nStr = 13 := rfl; omega) with rfl | rfl | rfl | rfl | rfl | rfl | rfl | rfl | rfl | rfl | rfl | rfl | rfl
  · exact Or.inr ms_ne_0_6
  · exact Or.inr ms_ne_1_6
  · exact Or.inr ms_ne_2_6
  · exact Or.inr ms_ne_3_6
  · exact Or.inr ms_ne_4_6
  · exact Or.inr ms_ne_5_6
  · exact absurd rfl hne
  · exact Or.inl ms_ne_6_7
  · exact Or.inl ms_ne_6_8
  · exact Or.inl ms_ne_6_9
  · exact Or.inl ms_ne_6_10
  · exact Or.inl ms_ne_6_11
  · exact Or.inl ms_ne_6_12
theorem ms_ne_7 : ∀ j, j < nStr → 7 ≠ j → Cond.not (Cond.eq (tmS 7) (tmS j)) ∈ flN ∨ Cond.not (Cond.eq (tmS j) (tmS 7)) ∈ flN := by
  intro j hj hne
  rcases (show j = 0 ∨ j = 1 ∨ j = 2 ∨ j = 3 ∨ j = 4 ∨ j = 5 ∨ j = 6 ∨ j = 7 ∨ j = 8 ∨ j = 9 ∨ j = 10 ∨ j = 11 ∨ j = 12 by have : nStr = 13 := rfl; omega) with rfl | rfl | rfl | rfl | rfl | rfl | rfl | rfl | rfl | rfl | rfl | rfl | rfl
  · exact Or.inr ms_ne_0_7
  · exact Or.inr ms_ne_1_7
  · exact Or.inr ms_ne_2_7
  · exact Or.inr ms_ne_3_7
  · exact Or.inr ms_ne_4_7
  · exact Or.inr ms_ne_5_7
  · exact Or.inr ms_ne_6_7
  · exact absurd rfl hne
  · exact Or.inl ms_ne_7_8
  · exact Or.inl ms_ne_7_9
  · exact Or.inl ms_ne_7_10
  · exact Or.inl ms_ne_7_11
  · exact Or.inl ms_ne_7_12
theorem ms_ne_8 : ∀ j, j < nStr → 8 ≠ j → Cond.not (Cond.eq (tmS 8) (tmS j)) ∈ flN ∨ Cond.not (Cond.eq (tmS j) (tmS 8)) ∈ flN := by
  intro j hj hne
  rcases (show j = 0 ∨ j = 1 ∨ j = 2 ∨ j = 3 ∨ j = 4 ∨ j = 5 ∨ j = 6 ∨ j = 7 ∨ j = 8 ∨ j = 9 ∨ j = 10 ∨ j = 11 ∨ j = 12 by have : nStr = 13 := rfl; omega) with rfl | rfl | rfl | rfl | rfl | rfl | rfl | rfl | rfl | rfl | rfl | rfl | rfl
  · exact Or.inr ms_ne_0_8
  · exact Or.inr ms_ne_1_8
  · exact Or.inr ms_ne_2_8
  · exact Or.inr ms_ne_3_8
  · exact Or.inr ms_ne_4_8
  · exact Or.inr ms_ne_5_8
  · exact Or.inr ms_ne_6_8
  · exact Or.inr ms_ne_7_8
  · exact absurd rfl hne
  · exact Or.inl ms_ne_8_9
  · exact Or.inl ms_ne_8_10
  · exact Or.inl ms_ne_8_11
  · exact Or.inl ms_ne_8_12
theorem ms_ne_9 : ∀ j, j < nStr → 9 ≠ j → Cond.not (Cond.eq (tmS 9) (tmS j)) ∈ flN ∨ Cond.not (Cond.eq (tmS j) (tmS 9)) ∈ flN := by
  intro j hj hne
  rcases (show j = 0 ∨ j = 1 ∨ j = 2 ∨ j = 3 ∨ j = 4 ∨ j = 5 ∨ j = 6 ∨ j = 7 ∨ j = 8 ∨ j = 9 ∨ j = 10 ∨ j = 11 ∨ j = 12 by have : nStr = 13 := rfl; omega) with rfl | rfl | rfl | rfl | rfl | rfl | rfl | rfl | rfl | rfl | rfl | rfl | rfl
  · exact Or.inr ms_ne_0_9
  · exact Or.inr ms_ne_1_9
  · exact Or.inr ms_ne_2_9
  · exact Or.inr ms_ne_3_9
  · exact Or.inr ms_ne_4_9
  · exact Or.inr ms_ne_5_9
  · exact Or.inr ms_ne_6_9
  · exact Or.inr ms_ne_7_9
  · exact Or.inr ms_ne_8_9
  · exact absurd rfl hne
  · exact Or.inl ms_ne_9_10
  · exact Or.inl ms_ne_9_11
  · exact Or.inl ms_ne_9_12
theorem ms_ne_10 : ∀ j, j < nStr → 10 ≠ j → Cond.not (Cond.eq (tmS 10) (tmS j)) ∈ flN ∨ Cond.not (Cond.eq (tmS j) (tmS 10)) ∈ flN := by
  intro j hj hne
  rcases (show j = 0 ∨ j = 1 ∨ j = 2 ∨ j = 3 ∨ j = 4 ∨ j = 5 ∨ j = 6 ∨ j = 7 ∨ j = 8 ∨ j = 9 ∨ j = 10 ∨ j = 11 ∨ j = 12 by have : nStr = 13 := rfl; omega) with rfl | rfl | rfl | rfl | rfl | rfl | rfl | rfl | rfl | rfl | rfl | rfl | rfl
  · exact Or.inr ms_ne_0_10
  · exact Or.inr ms_ne_1_10
  · exact Or.inr ms_ne_2_10
  · exact Or.inr ms_ne_3_10
  · exact Or.inr ms_ne_4_10
  · exact Or.inr ms_ne_5_10
  · exact Or.inr ms_ne_6_10
  · exact Or.inr ms_ne_7_10
  · exact Or.inr ms_ne_8_10
  · exact Or.inr ms_ne_9_10
  · exact absurd rfl hne
  · exact Or.inl ms_ne_10_11
  · exact Or.inl ms_ne_10_12
theorem ms_ne_11 : ∀ j, j < nStr → 11 ≠ j → Cond.not (Cond.eq (tmS 11) (tmS j)) ∈ flN ∨ Cond.not (Cond.eq (tmS j) (tmS 11)) ∈ flN := by
  intro j hj hne
  rcases (show j = 0 ∨ j = 1 ∨ j = 2 ∨ j = 3 ∨ j = 4 ∨ j = 5 ∨ j = 6 ∨ j = 7 ∨ j = 8 ∨ j = 9 ∨ j = 10 ∨ j = 11 ∨ j = 12 by have : nStr = 13 := rfl; omega) with rfl | rfl | rfl | rfl | rfl | rfl | rfl | rfl | rfl | rfl | rfl | rfl | rfl
  · exact Or.inr ms_ne_0_11
  · exact Or.inr ms_ne_1_11
  · exact Or.inr ms_ne_2_11
  · exact Or.inr ms_ne_3_11
  · exact Or.inr ms_ne_4_11
  · exact Or.inr ms_ne_5_11
  · exact Or.inr ms_ne_6_11
  · exact Or.inr ms_ne_7_11
  · exact Or.inr ms_ne_8_11
  · exact Or.inr ms_ne_9_11
  · exact Or.inr ms_ne_10_11
  · exact absurd rfl hne
  · exact Or.inl ms_ne_11_12
theorem ms_ne_12 : ∀ j, j < nStr → 12 ≠ j → Cond.not (Cond.eq (tmS 12) (tmS j)) ∈ flN ∨ Cond.not (Cond.eq (tmS j) (tmS 12)) ∈ flN := by
  intro j hj hne
  rcases (show j = 0 ∨ j = 1 ∨ j = 2 ∨ j = 3 ∨ j = 4 ∨ j = 5 ∨ j = 6 ∨ j = 7 ∨ j = 8 ∨ j = 9 ∨ j = 10 ∨ j = 11 ∨ j = 12 by have : nStr = 13 := rfl; omega) with rfl | rfl | rfl | rfl | rfl | rfl | rfl | rfl | rfl | rfl | rfl | rfl | rfl
  · exact Or.inr ms_ne_0_12
  · exact Or.inr ms_ne_1_12
  · exact Or.inr ms_ne_2_12
  · exact Or.inr ms_ne_3_12
  · exact Or.inr ms_ne_4_12
  · exact Or.inr ms_ne_5_12
  · exact Or.inr ms_ne_6_12
  · exact Or.inr ms_ne_7_12
  · exact Or.inr ms_ne_8_12
  · exact Or.inr ms_ne_9_12
  · exact Or.inr ms_ne_10_12
  · exact Or.inr ms_ne_11_12
  · exact absurd rfl hne
theorem ms_ne : ∀ i, i < nStr → ∀ j, j < nStr → i ≠ j → Cond.not (Cond.eq (tmS i) (tmS j)) ∈ flN ∨ Cond.not (Cond.eq (tmS j) (tmS i)) ∈ flN := by
  intro i hi
  rcases (show i = 0 ∨ i = 1 ∨ i = 2 ∨ i = 3 ∨ i = 4 ∨ i = 5 ∨ i = 6 ∨ i = 7 ∨ i = 8 ∨ i = 9 ∨ i = 10 ∨ i = 11 ∨ i = 12 by have : nStr = 13 := rfl; omega) with rfl | rfl | rfl | rfl | rfl | rfl | rfl | rfl | rfl | rfl | rfl | rfl | rfl
  · exact ms_ne_0
  · exact ms_ne_1
  · exact ms_ne_2
  · exact ms_ne_3
  · exact ms_ne_4
  · exact ms_ne_5
  · exact ms_ne_6
  · exact ms_ne_7
  · exact ms_ne_8
  · exact ms_ne_9
  · exact ms_ne_10
  · exact ms_ne_11
  · exact ms_ne_12
theorem ms_z : Cond.eq (.static "java/lang/String" "COMPACT_STRINGS" "Z") (.int 1) ∈ flN := List.mem_of_getElem? (i := 4) rfl
theorem ms_q : Cond.isRef (.static "jdk/internal/util/Preconditions" "SIOOBE_FORMATTER" "Ljava/util/function/BiFunction;") ∈ flN := List.mem_of_getElem? (i := 5) rfl
theorem ms_sr_0 : Cond.stringRef ownStr (idxStr.getD 0 (0, "")).1 (idxStr.getD 0 (0, "")).2 ∈ lw_tbl := wstr_X0_128
theorem ms_sr_1 : Cond.stringRef ownStr (idxStr.getD 1 (0, "")).1 (idxStr.getD 1 (0, "")).2 ∈ lw_tbl := wstr_X0_130
theorem ms_sr_2 : Cond.stringRef ownStr (idxStr.getD 2 (0, "")).1 (idxStr.getD 2 (0, "")).2 ∈ lw_tbl := wstr_X0_132
theorem ms_sr_3 : Cond.stringRef ownStr (idxStr.getD 3 (0, "")).1 (idxStr.getD 3 (0, "")).2 ∈ lw_tbl := wstr_X0_134
theorem ms_sr_4 : Cond.stringRef ownStr (idxStr.getD 4 (0, "")).1 (idxStr.getD 4 (0, "")).2 ∈ lw_tbl := wstr_X0_136
theorem ms_sr_5 : Cond.stringRef ownStr (idxStr.getD 5 (0, "")).1 (idxStr.getD 5 (0, "")).2 ∈ lw_tbl := wstr_X0_138
theorem ms_sr_6 : Cond.stringRef ownStr (idxStr.getD 6 (0, "")).1 (idxStr.getD 6 (0, "")).2 ∈ lw_tbl := wstr_X0_140
theorem ms_sr_7 : Cond.stringRef ownStr (idxStr.getD 7 (0, "")).1 (idxStr.getD 7 (0, "")).2 ∈ lw_tbl := wstr_X0_96
theorem ms_sr_8 : Cond.stringRef ownStr (idxStr.getD 8 (0, "")).1 (idxStr.getD 8 (0, "")).2 ∈ lw_tbl := wstr_X0_107
theorem ms_sr_9 : Cond.stringRef ownStr (idxStr.getD 9 (0, "")).1 (idxStr.getD 9 (0, "")).2 ∈ lw_tbl := wstr_X0_112
theorem ms_sr_10 : Cond.stringRef ownStr (idxStr.getD 10 (0, "")).1 (idxStr.getD 10 (0, "")).2 ∈ lw_tbl := wstr_X0_53
theorem ms_sr_11 : Cond.stringRef ownStr (idxStr.getD 11 (0, "")).1 (idxStr.getD 11 (0, "")).2 ∈ lw_tbl := wstr_X0_74
theorem ms_sr_12 : Cond.stringRef ownStr (idxStr.getD 12 (0, "")).1 (idxStr.getD 12 (0, "")).2 ∈ lw_tbl := wstr_X0_79
theorem ms_sr : ∀ i, i < nStr → Cond.stringRef ownStr (idxStr.getD i (0, "")).1 (idxStr.getD i (0, "")).2 ∈ lw_tbl := by
  intro i hi
  rcases (show i = 0 ∨ i = 1 ∨ i = 2 ∨ i = 3 ∨ i = 4 ∨ i = 5 ∨ i = 6 ∨ i = 7 ∨ i = 8 ∨ i = 9 ∨ i = 10 ∨ i = 11 ∨ i = 12 by have : nStr = 13 := rfl; omega) with rfl | rfl | rfl | rfl | rfl | rfl | rfl | rfl | rfl | rfl | rfl | rfl | rfl
  · exact ms_sr_0
  · exact ms_sr_1
  · exact ms_sr_2
  · exact ms_sr_3
  · exact ms_sr_4
  · exact ms_sr_5
  · exact ms_sr_6
  · exact ms_sr_7
  · exact ms_sr_8
  · exact ms_sr_9
  · exact ms_sr_10
  · exact ms_sr_11
  · exact ms_sr_12
theorem ms_l1 : Cond.laysStatic "java/lang/String" "COMPACT_STRINGS" "Z" ∈ lw_tbl := TT_3 (List.mem_of_getElem? (i := 120) rfl)
theorem ms_l2 : Cond.laysStatic "jdk/internal/util/Preconditions" "SIOOBE_FORMATTER" "Ljava/util/function/BiFunction;" ∈ lw_tbl := TT_3 (List.mem_of_getElem? (i := 136) rfl)
