theorem qNest_in : ∀ w ∈ qNest, w ∈ lw_tbl := by
  intro w hw
  simp only [qNest, List.mem_cons, List.not_mem_nil, or_false] at hw
  rcases hw with rfl | rfl | rfl | rfl | rfl | rfl | rfl | rfl | rfl
  · exact tb1 _ (List.mem_of_getElem? (i := 30) rfl)
  · exact tb1 _ (List.mem_of_getElem? (i := 91) rfl)
  · exact tb1 _ (List.mem_of_getElem? (i := 131) rfl)
  · exact tb1 _ (List.mem_of_getElem? (i := 168) rfl)
  · exact tb1 _ (List.mem_of_getElem? (i := 187) rfl)
  · exact tb1 _ (List.mem_of_getElem? (i := 226) rfl)
  · exact tb2 _ (List.mem_of_getElem? (i := 1) rfl)
  · exact tb1 _ (List.mem_of_getElem? (i := 51) rfl)
  · exact tb1 _ (List.mem_of_getElem? (i := 146) rfl)
theorem qSites_in : ∀ q ∈ qSites, Cond.stringRef q.1 q.2.1 q.2.2.1 ∈ lw_tbl := by
  intro w hw
  simp only [qSites, List.mem_cons, List.not_mem_nil, or_false] at hw
  rcases hw with rfl | rfl | rfl | rfl | rfl | rfl | rfl | rfl | rfl | rfl | rfl | rfl | rfl | rfl | rfl | rfl | rfl | rfl
  · exact tb4 _ (List.mem_of_getElem? (i := 16) rfl)
  · exact tb4 _ (List.mem_of_getElem? (i := 17) rfl)
  · exact tb4 _ (List.mem_of_getElem? (i := 18) rfl)
  · exact tb4 _ (List.mem_of_getElem? (i := 19) rfl)
  · exact tb4 _ (List.mem_of_getElem? (i := 20) rfl)
  · exact tb4 _ (List.mem_of_getElem? (i := 21) rfl)
  · exact tb4 _ (List.mem_of_getElem? (i := 95) rfl)
  · exact tb4 _ (List.mem_of_getElem? (i := 96) rfl)
  · exact tb4 _ (List.mem_of_getElem? (i := 97) rfl)
  · exact tb4 _ (List.mem_of_getElem? (i := 98) rfl)
  · exact tb4 _ (List.mem_of_getElem? (i := 99) rfl)
  · exact tb6 _ (List.mem_of_getElem? (i := 77) rfl)
  · exact tb6 _ (List.mem_of_getElem? (i := 140) rfl)
  · exact tb6 _ (List.mem_of_getElem? (i := 141) rfl)
  · exact tb6 _ (List.mem_of_getElem? (i := 142) rfl)
  · exact tb6 _ (List.mem_of_getElem? (i := 143) rfl)
  · exact tb6 _ (List.mem_of_getElem? (i := 144) rfl)
  · exact tb6 _ (List.mem_of_getElem? (i := 145) rfl)
theorem qAOF : Cond.arrayOver (.object "CondensedDetachment$Formula") ∈ lw_tbl := tb1 _ (List.mem_of_getElem? (i := 49) rfl)
theorem qAOR : Cond.arrayOver (.object "CondensedDetachment$Row") ∈ lw_tbl := tb1 _ (List.mem_of_getElem? (i := 224) rfl)
theorem qLC : Cond.laysStatic "java/lang/String" "COMPACT_STRINGS" "Z" ∈ lw_tbl := tb4 _ (List.mem_of_getElem? (i := 31) rfl)
theorem qLF : Cond.laysStatic "jdk/internal/util/Preconditions" "SIOOBE_FORMATTER" "Ljava/util/function/BiFunction;" ∈ lw_tbl := tb4 _ (List.mem_of_getElem? (i := 47) rfl)
def qgn : Cond := Jvm.Cond.and given_1 narrow_1
def qtm (i : Nat) : Jvm.Term := .string (qSites.getD i ("", 0, "", 0)).1 (qSites.getD i ("", 0, "", 0)).2.1
def qln : List Nat := qTx.map List.length

set_option maxRecDepth 100000 in
theorem qx_ex_0 : Cond.exactly (qtm 0) "java/lang/String" ∈ flatC qgn := by decide +kernel
set_option maxRecDepth 100000 in
theorem qx_ex_1 : Cond.exactly (qtm 1) "java/lang/String" ∈ flatC qgn := by decide +kernel
set_option maxRecDepth 100000 in
theorem qx_ex_2 : Cond.exactly (qtm 2) "java/lang/String" ∈ flatC qgn := by decide +kernel
set_option maxRecDepth 100000 in
theorem qx_ex_3 : Cond.exactly (qtm 3) "java/lang/String" ∈ flatC qgn := by decide +kernel
set_option maxRecDepth 100000 in
theorem qx_ex_4 : Cond.exactly (qtm 4) "java/lang/String" ∈ flatC qgn := by decide +kernel
set_option maxRecDepth 100000 in
theorem qx_ex_5 : Cond.exactly (qtm 5) "java/lang/String" ∈ flatC qgn := by decide +kernel
set_option maxRecDepth 100000 in
theorem qx_ex_6 : Cond.exactly (qtm 6) "java/lang/String" ∈ flatC qgn := by decide +kernel
set_option maxRecDepth 100000 in
theorem qx_ex_7 : Cond.exactly (qtm 7) "java/lang/String" ∈ flatC qgn := by decide +kernel
set_option maxRecDepth 100000 in
theorem qx_ex_8 : Cond.exactly (qtm 8) "java/lang/String" ∈ flatC qgn := by decide +kernel
set_option maxRecDepth 100000 in
theorem qx_ex_9 : Cond.exactly (qtm 9) "java/lang/String" ∈ flatC qgn := by decide +kernel
set_option maxRecDepth 100000 in
theorem qx_ex_10 : Cond.exactly (qtm 10) "java/lang/String" ∈ flatC qgn := by decide +kernel
set_option maxRecDepth 100000 in
theorem qx_ex_11 : Cond.exactly (qtm 11) "java/lang/String" ∈ flatC qgn := by decide +kernel
theorem qx_ex : ∀ i, i < 12 → Cond.exactly (qtm i) "java/lang/String" ∈ flatC qgn := fun i hi => match i, hi with
  | 0, _ => qx_ex_0
  | 1, _ => qx_ex_1
  | 2, _ => qx_ex_2
  | 3, _ => qx_ex_3
  | 4, _ => qx_ex_4
  | 5, _ => qx_ex_5
  | 6, _ => qx_ex_6
  | 7, _ => qx_ex_7
  | 8, _ => qx_ex_8
  | 9, _ => qx_ex_9
  | 10, _ => qx_ex_10
  | 11, _ => qx_ex_11
  | k + 12, hk => absurd hk (by omega)
set_option maxRecDepth 100000 in
theorem qx_co_0 : Cond.eq (.field (qtm 0) "java/lang/String" "coder" "B") (.int 0) ∈ flatC qgn := by decide +kernel
set_option maxRecDepth 100000 in
theorem qx_co_1 : Cond.eq (.field (qtm 1) "java/lang/String" "coder" "B") (.int 0) ∈ flatC qgn := by decide +kernel
set_option maxRecDepth 100000 in
theorem qx_co_2 : Cond.eq (.field (qtm 2) "java/lang/String" "coder" "B") (.int 0) ∈ flatC qgn := by decide +kernel
set_option maxRecDepth 100000 in
theorem qx_co_3 : Cond.eq (.field (qtm 3) "java/lang/String" "coder" "B") (.int 0) ∈ flatC qgn := by decide +kernel
set_option maxRecDepth 100000 in
theorem qx_co_4 : Cond.eq (.field (qtm 4) "java/lang/String" "coder" "B") (.int 0) ∈ flatC qgn := by decide +kernel
set_option maxRecDepth 100000 in
theorem qx_co_5 : Cond.eq (.field (qtm 5) "java/lang/String" "coder" "B") (.int 0) ∈ flatC qgn := by decide +kernel
set_option maxRecDepth 100000 in
theorem qx_co_6 : Cond.eq (.field (qtm 6) "java/lang/String" "coder" "B") (.int 0) ∈ flatC qgn := by decide +kernel
set_option maxRecDepth 100000 in
theorem qx_co_7 : Cond.eq (.field (qtm 7) "java/lang/String" "coder" "B") (.int 0) ∈ flatC qgn := by decide +kernel
set_option maxRecDepth 100000 in
theorem qx_co_8 : Cond.eq (.field (qtm 8) "java/lang/String" "coder" "B") (.int 0) ∈ flatC qgn := by decide +kernel
set_option maxRecDepth 100000 in
theorem qx_co_9 : Cond.eq (.field (qtm 9) "java/lang/String" "coder" "B") (.int 0) ∈ flatC qgn := by decide +kernel
set_option maxRecDepth 100000 in
theorem qx_co_10 : Cond.eq (.field (qtm 10) "java/lang/String" "coder" "B") (.int 0) ∈ flatC qgn := by decide +kernel
set_option maxRecDepth 100000 in
theorem qx_co_11 : Cond.eq (.field (qtm 11) "java/lang/String" "coder" "B") (.int 0) ∈ flatC qgn := by decide +kernel
theorem qx_co : ∀ i, i < 12 → Cond.eq (.field (qtm i) "java/lang/String" "coder" "B") (.int 0) ∈ flatC qgn := fun i hi => match i, hi with
  | 0, _ => qx_co_0
  | 1, _ => qx_co_1
  | 2, _ => qx_co_2
  | 3, _ => qx_co_3
  | 4, _ => qx_co_4
  | 5, _ => qx_co_5
  | 6, _ => qx_co_6
  | 7, _ => qx_co_7
  | 8, _ => qx_co_8
  | 9, _ => qx_co_9
  | 10, _ => qx_co_10
  | 11, _ => qx_co_11
  | k + 12, hk => absurd hk (by omega)
set_option maxRecDepth 100000 in
theorem qx_ar_0 : Cond.arrayOf (.field (qtm 0) "java/lang/String" "value" "[B") .byte ∈ flatC qgn := by decide +kernel
set_option maxRecDepth 100000 in
theorem qx_ar_1 : Cond.arrayOf (.field (qtm 1) "java/lang/String" "value" "[B") .byte ∈ flatC qgn := by decide +kernel
set_option maxRecDepth 100000 in
theorem qx_ar_2 : Cond.arrayOf (.field (qtm 2) "java/lang/String" "value" "[B") .byte ∈ flatC qgn := by decide +kernel
set_option maxRecDepth 100000 in
theorem qx_ar_3 : Cond.arrayOf (.field (qtm 3) "java/lang/String" "value" "[B") .byte ∈ flatC qgn := by decide +kernel
set_option maxRecDepth 100000 in
theorem qx_ar_4 : Cond.arrayOf (.field (qtm 4) "java/lang/String" "value" "[B") .byte ∈ flatC qgn := by decide +kernel
set_option maxRecDepth 100000 in
theorem qx_ar_5 : Cond.arrayOf (.field (qtm 5) "java/lang/String" "value" "[B") .byte ∈ flatC qgn := by decide +kernel
set_option maxRecDepth 100000 in
theorem qx_ar_6 : Cond.arrayOf (.field (qtm 6) "java/lang/String" "value" "[B") .byte ∈ flatC qgn := by decide +kernel
set_option maxRecDepth 100000 in
theorem qx_ar_7 : Cond.arrayOf (.field (qtm 7) "java/lang/String" "value" "[B") .byte ∈ flatC qgn := by decide +kernel
set_option maxRecDepth 100000 in
theorem qx_ar_8 : Cond.arrayOf (.field (qtm 8) "java/lang/String" "value" "[B") .byte ∈ flatC qgn := by decide +kernel
set_option maxRecDepth 100000 in
theorem qx_ar_9 : Cond.arrayOf (.field (qtm 9) "java/lang/String" "value" "[B") .byte ∈ flatC qgn := by decide +kernel
set_option maxRecDepth 100000 in
theorem qx_ar_10 : Cond.arrayOf (.field (qtm 10) "java/lang/String" "value" "[B") .byte ∈ flatC qgn := by decide +kernel
set_option maxRecDepth 100000 in
theorem qx_ar_11 : Cond.arrayOf (.field (qtm 11) "java/lang/String" "value" "[B") .byte ∈ flatC qgn := by decide +kernel
theorem qx_ar : ∀ i, i < 12 → Cond.arrayOf (.field (qtm i) "java/lang/String" "value" "[B") .byte ∈ flatC qgn := fun i hi => match i, hi with
  | 0, _ => qx_ar_0
  | 1, _ => qx_ar_1
  | 2, _ => qx_ar_2
  | 3, _ => qx_ar_3
  | 4, _ => qx_ar_4
  | 5, _ => qx_ar_5
  | 6, _ => qx_ar_6
  | 7, _ => qx_ar_7
  | 8, _ => qx_ar_8
  | 9, _ => qx_ar_9
  | 10, _ => qx_ar_10
  | 11, _ => qx_ar_11
  | k + 12, hk => absurd hk (by omega)
set_option maxRecDepth 100000 in
theorem qx_le_0 : Cond.eq (.length (.field (qtm 0) "java/lang/String" "value" "[B")) (.int (Int32.ofNat (qln.getD 0 0))) ∈ flatC qgn := by decide +kernel
set_option maxRecDepth 100000 in
theorem qx_le_1 : Cond.eq (.length (.field (qtm 1) "java/lang/String" "value" "[B")) (.int (Int32.ofNat (qln.getD 1 0))) ∈ flatC qgn := by decide +kernel
set_option maxRecDepth 100000 in
theorem qx_le_2 : Cond.eq (.length (.field (qtm 2) "java/lang/String" "value" "[B")) (.int (Int32.ofNat (qln.getD 2 0))) ∈ flatC qgn := by decide +kernel
set_option maxRecDepth 100000 in
theorem qx_le_3 : Cond.eq (.length (.field (qtm 3) "java/lang/String" "value" "[B")) (.int (Int32.ofNat (qln.getD 3 0))) ∈ flatC qgn := by decide +kernel
set_option maxRecDepth 100000 in
theorem qx_le_4 : Cond.eq (.length (.field (qtm 4) "java/lang/String" "value" "[B")) (.int (Int32.ofNat (qln.getD 4 0))) ∈ flatC qgn := by decide +kernel
set_option maxRecDepth 100000 in
theorem qx_le_5 : Cond.eq (.length (.field (qtm 5) "java/lang/String" "value" "[B")) (.int (Int32.ofNat (qln.getD 5 0))) ∈ flatC qgn := by decide +kernel
set_option maxRecDepth 100000 in
theorem qx_le_6 : Cond.eq (.length (.field (qtm 6) "java/lang/String" "value" "[B")) (.int (Int32.ofNat (qln.getD 6 0))) ∈ flatC qgn := by decide +kernel
set_option maxRecDepth 100000 in
theorem qx_le_7 : Cond.eq (.length (.field (qtm 7) "java/lang/String" "value" "[B")) (.int (Int32.ofNat (qln.getD 7 0))) ∈ flatC qgn := by decide +kernel
set_option maxRecDepth 100000 in
theorem qx_le_8 : Cond.eq (.length (.field (qtm 8) "java/lang/String" "value" "[B")) (.int (Int32.ofNat (qln.getD 8 0))) ∈ flatC qgn := by decide +kernel
set_option maxRecDepth 100000 in
theorem qx_le_9 : Cond.eq (.length (.field (qtm 9) "java/lang/String" "value" "[B")) (.int (Int32.ofNat (qln.getD 9 0))) ∈ flatC qgn := by decide +kernel
set_option maxRecDepth 100000 in
theorem qx_le_10 : Cond.eq (.length (.field (qtm 10) "java/lang/String" "value" "[B")) (.int (Int32.ofNat (qln.getD 10 0))) ∈ flatC qgn := by decide +kernel
set_option maxRecDepth 100000 in
theorem qx_le_11 : Cond.eq (.length (.field (qtm 11) "java/lang/String" "value" "[B")) (.int (Int32.ofNat (qln.getD 11 0))) ∈ flatC qgn := by decide +kernel
theorem qx_le : ∀ i, i < 12 → Cond.eq (.length (.field (qtm i) "java/lang/String" "value" "[B")) (.int (Int32.ofNat (qln.getD i 0))) ∈ flatC qgn := fun i hi => match i, hi with
  | 0, _ => qx_le_0
  | 1, _ => qx_le_1
  | 2, _ => qx_le_2
  | 3, _ => qx_le_3
  | 4, _ => qx_le_4
  | 5, _ => qx_le_5
  | 6, _ => qx_le_6
  | 7, _ => qx_le_7
  | 8, _ => qx_le_8
  | 9, _ => qx_le_9
  | 10, _ => qx_le_10
  | 11, _ => qx_le_11
  | k + 12, hk => absurd hk (by omega)
set_option maxRecDepth 100000 in
theorem qx_el_0_0 : Cond.eq (.elem (.field (qtm 0) "java/lang/String" "value" "[B") (.int (Int32.ofNat 0))) (.int ((qTx.getD 0 []).getD 0 0)) ∈ flatC qgn := by decide +kernel
set_option maxRecDepth 100000 in
theorem qx_el_0_1 : Cond.eq (.elem (.field (qtm 0) "java/lang/String" "value" "[B") (.int (Int32.ofNat 1))) (.int ((qTx.getD 0 []).getD 1 0)) ∈ flatC qgn := by decide +kernel
set_option maxRecDepth 100000 in
theorem qx_el_0_2 : Cond.eq (.elem (.field (qtm 0) "java/lang/String" "value" "[B") (.int (Int32.ofNat 2))) (.int ((qTx.getD 0 []).getD 2 0)) ∈ flatC qgn := by decide +kernel
set_option maxRecDepth 100000 in
theorem qx_el_0_3 : Cond.eq (.elem (.field (qtm 0) "java/lang/String" "value" "[B") (.int (Int32.ofNat 3))) (.int ((qTx.getD 0 []).getD 3 0)) ∈ flatC qgn := by decide +kernel
set_option maxRecDepth 100000 in
theorem qx_el_0_4 : Cond.eq (.elem (.field (qtm 0) "java/lang/String" "value" "[B") (.int (Int32.ofNat 4))) (.int ((qTx.getD 0 []).getD 4 0)) ∈ flatC qgn := by decide +kernel
set_option maxRecDepth 100000 in
theorem qx_el_1_0 : Cond.eq (.elem (.field (qtm 1) "java/lang/String" "value" "[B") (.int (Int32.ofNat 0))) (.int ((qTx.getD 1 []).getD 0 0)) ∈ flatC qgn := by decide +kernel
set_option maxRecDepth 100000 in
theorem qx_el_1_1 : Cond.eq (.elem (.field (qtm 1) "java/lang/String" "value" "[B") (.int (Int32.ofNat 1))) (.int ((qTx.getD 1 []).getD 1 0)) ∈ flatC qgn := by decide +kernel
set_option maxRecDepth 100000 in
theorem qx_el_1_2 : Cond.eq (.elem (.field (qtm 1) "java/lang/String" "value" "[B") (.int (Int32.ofNat 2))) (.int ((qTx.getD 1 []).getD 2 0)) ∈ flatC qgn := by decide +kernel
set_option maxRecDepth 100000 in
theorem qx_el_1_3 : Cond.eq (.elem (.field (qtm 1) "java/lang/String" "value" "[B") (.int (Int32.ofNat 3))) (.int ((qTx.getD 1 []).getD 3 0)) ∈ flatC qgn := by decide +kernel
set_option maxRecDepth 100000 in
theorem qx_el_1_4 : Cond.eq (.elem (.field (qtm 1) "java/lang/String" "value" "[B") (.int (Int32.ofNat 4))) (.int ((qTx.getD 1 []).getD 4 0)) ∈ flatC qgn := by decide +kernel
set_option maxRecDepth 100000 in
theorem qx_el_1_5 : Cond.eq (.elem (.field (qtm 1) "java/lang/String" "value" "[B") (.int (Int32.ofNat 5))) (.int ((qTx.getD 1 []).getD 5 0)) ∈ flatC qgn := by decide +kernel
set_option maxRecDepth 100000 in
theorem qx_el_1_6 : Cond.eq (.elem (.field (qtm 1) "java/lang/String" "value" "[B") (.int (Int32.ofNat 6))) (.int ((qTx.getD 1 []).getD 6 0)) ∈ flatC qgn := by decide +kernel
set_option maxRecDepth 100000 in
theorem qx_el_1_7 : Cond.eq (.elem (.field (qtm 1) "java/lang/String" "value" "[B") (.int (Int32.ofNat 7))) (.int ((qTx.getD 1 []).getD 7 0)) ∈ flatC qgn := by decide +kernel
set_option maxRecDepth 100000 in
theorem qx_el_1_8 : Cond.eq (.elem (.field (qtm 1) "java/lang/String" "value" "[B") (.int (Int32.ofNat 8))) (.int ((qTx.getD 1 []).getD 8 0)) ∈ flatC qgn := by decide +kernel
set_option maxRecDepth 100000 in
theorem qx_el_1_9 : Cond.eq (.elem (.field (qtm 1) "java/lang/String" "value" "[B") (.int (Int32.ofNat 9))) (.int ((qTx.getD 1 []).getD 9 0)) ∈ flatC qgn := by decide +kernel
set_option maxRecDepth 100000 in
theorem qx_el_1_10 : Cond.eq (.elem (.field (qtm 1) "java/lang/String" "value" "[B") (.int (Int32.ofNat 10))) (.int ((qTx.getD 1 []).getD 10 0)) ∈ flatC qgn := by decide +kernel
set_option maxRecDepth 100000 in
theorem qx_el_1_11 : Cond.eq (.elem (.field (qtm 1) "java/lang/String" "value" "[B") (.int (Int32.ofNat 11))) (.int ((qTx.getD 1 []).getD 11 0)) ∈ flatC qgn := by decide +kernel
set_option maxRecDepth 100000 in
theorem qx_el_1_12 : Cond.eq (.elem (.field (qtm 1) "java/lang/String" "value" "[B") (.int (Int32.ofNat 12))) (.int ((qTx.getD 1 []).getD 12 0)) ∈ flatC qgn := by decide +kernel
set_option maxRecDepth 100000 in
theorem qx_el_2_0 : Cond.eq (.elem (.field (qtm 2) "java/lang/String" "value" "[B") (.int (Int32.ofNat 0))) (.int ((qTx.getD 2 []).getD 0 0)) ∈ flatC qgn := by decide +kernel
set_option maxRecDepth 100000 in
theorem qx_el_2_1 : Cond.eq (.elem (.field (qtm 2) "java/lang/String" "value" "[B") (.int (Int32.ofNat 1))) (.int ((qTx.getD 2 []).getD 1 0)) ∈ flatC qgn := by decide +kernel
set_option maxRecDepth 100000 in
theorem qx_el_2_2 : Cond.eq (.elem (.field (qtm 2) "java/lang/String" "value" "[B") (.int (Int32.ofNat 2))) (.int ((qTx.getD 2 []).getD 2 0)) ∈ flatC qgn := by decide +kernel
set_option maxRecDepth 100000 in
theorem qx_el_2_3 : Cond.eq (.elem (.field (qtm 2) "java/lang/String" "value" "[B") (.int (Int32.ofNat 3))) (.int ((qTx.getD 2 []).getD 3 0)) ∈ flatC qgn := by decide +kernel
set_option maxRecDepth 100000 in
theorem qx_el_2_4 : Cond.eq (.elem (.field (qtm 2) "java/lang/String" "value" "[B") (.int (Int32.ofNat 4))) (.int ((qTx.getD 2 []).getD 4 0)) ∈ flatC qgn := by decide +kernel
set_option maxRecDepth 100000 in
theorem qx_el_2_5 : Cond.eq (.elem (.field (qtm 2) "java/lang/String" "value" "[B") (.int (Int32.ofNat 5))) (.int ((qTx.getD 2 []).getD 5 0)) ∈ flatC qgn := by decide +kernel
set_option maxRecDepth 100000 in
theorem qx_el_2_6 : Cond.eq (.elem (.field (qtm 2) "java/lang/String" "value" "[B") (.int (Int32.ofNat 6))) (.int ((qTx.getD 2 []).getD 6 0)) ∈ flatC qgn := by decide +kernel
set_option maxRecDepth 100000 in
theorem qx_el_2_7 : Cond.eq (.elem (.field (qtm 2) "java/lang/String" "value" "[B") (.int (Int32.ofNat 7))) (.int ((qTx.getD 2 []).getD 7 0)) ∈ flatC qgn := by decide +kernel
set_option maxRecDepth 100000 in
theorem qx_el_2_8 : Cond.eq (.elem (.field (qtm 2) "java/lang/String" "value" "[B") (.int (Int32.ofNat 8))) (.int ((qTx.getD 2 []).getD 8 0)) ∈ flatC qgn := by decide +kernel
set_option maxRecDepth 100000 in
theorem qx_el_2_9 : Cond.eq (.elem (.field (qtm 2) "java/lang/String" "value" "[B") (.int (Int32.ofNat 9))) (.int ((qTx.getD 2 []).getD 9 0)) ∈ flatC qgn := by decide +kernel
set_option maxRecDepth 100000 in
theorem qx_el_2_10 : Cond.eq (.elem (.field (qtm 2) "java/lang/String" "value" "[B") (.int (Int32.ofNat 10))) (.int ((qTx.getD 2 []).getD 10 0)) ∈ flatC qgn := by decide +kernel
set_option maxRecDepth 100000 in
theorem qx_el_3_0 : Cond.eq (.elem (.field (qtm 3) "java/lang/String" "value" "[B") (.int (Int32.ofNat 0))) (.int ((qTx.getD 3 []).getD 0 0)) ∈ flatC qgn := by decide +kernel
set_option maxRecDepth 100000 in
theorem qx_el_3_1 : Cond.eq (.elem (.field (qtm 3) "java/lang/String" "value" "[B") (.int (Int32.ofNat 1))) (.int ((qTx.getD 3 []).getD 1 0)) ∈ flatC qgn := by decide +kernel
set_option maxRecDepth 100000 in
theorem qx_el_3_2 : Cond.eq (.elem (.field (qtm 3) "java/lang/String" "value" "[B") (.int (Int32.ofNat 2))) (.int ((qTx.getD 3 []).getD 2 0)) ∈ flatC qgn := by decide +kernel
set_option maxRecDepth 100000 in
theorem qx_el_3_3 : Cond.eq (.elem (.field (qtm 3) "java/lang/String" "value" "[B") (.int (Int32.ofNat 3))) (.int ((qTx.getD 3 []).getD 3 0)) ∈ flatC qgn := by decide +kernel
set_option maxRecDepth 100000 in
theorem qx_el_3_4 : Cond.eq (.elem (.field (qtm 3) "java/lang/String" "value" "[B") (.int (Int32.ofNat 4))) (.int ((qTx.getD 3 []).getD 4 0)) ∈ flatC qgn := by decide +kernel
set_option maxRecDepth 100000 in
theorem qx_el_3_5 : Cond.eq (.elem (.field (qtm 3) "java/lang/String" "value" "[B") (.int (Int32.ofNat 5))) (.int ((qTx.getD 3 []).getD 5 0)) ∈ flatC qgn := by decide +kernel
set_option maxRecDepth 100000 in
theorem qx_el_3_6 : Cond.eq (.elem (.field (qtm 3) "java/lang/String" "value" "[B") (.int (Int32.ofNat 6))) (.int ((qTx.getD 3 []).getD 6 0)) ∈ flatC qgn := by decide +kernel
set_option maxRecDepth 100000 in
theorem qx_el_3_7 : Cond.eq (.elem (.field (qtm 3) "java/lang/String" "value" "[B") (.int (Int32.ofNat 7))) (.int ((qTx.getD 3 []).getD 7 0)) ∈ flatC qgn := by decide +kernel
set_option maxRecDepth 100000 in
theorem qx_el_3_8 : Cond.eq (.elem (.field (qtm 3) "java/lang/String" "value" "[B") (.int (Int32.ofNat 8))) (.int ((qTx.getD 3 []).getD 8 0)) ∈ flatC qgn := by decide +kernel
set_option maxRecDepth 100000 in
theorem qx_el_3_9 : Cond.eq (.elem (.field (qtm 3) "java/lang/String" "value" "[B") (.int (Int32.ofNat 9))) (.int ((qTx.getD 3 []).getD 9 0)) ∈ flatC qgn := by decide +kernel
set_option maxRecDepth 100000 in
theorem qx_el_3_10 : Cond.eq (.elem (.field (qtm 3) "java/lang/String" "value" "[B") (.int (Int32.ofNat 10))) (.int ((qTx.getD 3 []).getD 10 0)) ∈ flatC qgn := by decide +kernel
set_option maxRecDepth 100000 in
theorem qx_el_4_0 : Cond.eq (.elem (.field (qtm 4) "java/lang/String" "value" "[B") (.int (Int32.ofNat 0))) (.int ((qTx.getD 4 []).getD 0 0)) ∈ flatC qgn := by decide +kernel
set_option maxRecDepth 100000 in
theorem qx_el_4_1 : Cond.eq (.elem (.field (qtm 4) "java/lang/String" "value" "[B") (.int (Int32.ofNat 1))) (.int ((qTx.getD 4 []).getD 1 0)) ∈ flatC qgn := by decide +kernel
set_option maxRecDepth 100000 in
theorem qx_el_4_2 : Cond.eq (.elem (.field (qtm 4) "java/lang/String" "value" "[B") (.int (Int32.ofNat 2))) (.int ((qTx.getD 4 []).getD 2 0)) ∈ flatC qgn := by decide +kernel
set_option maxRecDepth 100000 in
theorem qx_el_4_3 : Cond.eq (.elem (.field (qtm 4) "java/lang/String" "value" "[B") (.int (Int32.ofNat 3))) (.int ((qTx.getD 4 []).getD 3 0)) ∈ flatC qgn := by decide +kernel
set_option maxRecDepth 100000 in
theorem qx_el_4_4 : Cond.eq (.elem (.field (qtm 4) "java/lang/String" "value" "[B") (.int (Int32.ofNat 4))) (.int ((qTx.getD 4 []).getD 4 0)) ∈ flatC qgn := by decide +kernel
set_option maxRecDepth 100000 in
theorem qx_el_4_5 : Cond.eq (.elem (.field (qtm 4) "java/lang/String" "value" "[B") (.int (Int32.ofNat 5))) (.int ((qTx.getD 4 []).getD 5 0)) ∈ flatC qgn := by decide +kernel
set_option maxRecDepth 100000 in
theorem qx_el_4_6 : Cond.eq (.elem (.field (qtm 4) "java/lang/String" "value" "[B") (.int (Int32.ofNat 6))) (.int ((qTx.getD 4 []).getD 6 0)) ∈ flatC qgn := by decide +kernel
set_option maxRecDepth 100000 in
theorem qx_el_4_7 : Cond.eq (.elem (.field (qtm 4) "java/lang/String" "value" "[B") (.int (Int32.ofNat 7))) (.int ((qTx.getD 4 []).getD 7 0)) ∈ flatC qgn := by decide +kernel
set_option maxRecDepth 100000 in
theorem qx_el_4_8 : Cond.eq (.elem (.field (qtm 4) "java/lang/String" "value" "[B") (.int (Int32.ofNat 8))) (.int ((qTx.getD 4 []).getD 8 0)) ∈ flatC qgn := by decide +kernel
set_option maxRecDepth 100000 in
theorem qx_el_5_0 : Cond.eq (.elem (.field (qtm 5) "java/lang/String" "value" "[B") (.int (Int32.ofNat 0))) (.int ((qTx.getD 5 []).getD 0 0)) ∈ flatC qgn := by decide +kernel
set_option maxRecDepth 100000 in
theorem qx_el_5_1 : Cond.eq (.elem (.field (qtm 5) "java/lang/String" "value" "[B") (.int (Int32.ofNat 1))) (.int ((qTx.getD 5 []).getD 1 0)) ∈ flatC qgn := by decide +kernel
set_option maxRecDepth 100000 in
theorem qx_el_5_2 : Cond.eq (.elem (.field (qtm 5) "java/lang/String" "value" "[B") (.int (Int32.ofNat 2))) (.int ((qTx.getD 5 []).getD 2 0)) ∈ flatC qgn := by decide +kernel
set_option maxRecDepth 100000 in
theorem qx_el_6_0 : Cond.eq (.elem (.field (qtm 6) "java/lang/String" "value" "[B") (.int (Int32.ofNat 0))) (.int ((qTx.getD 6 []).getD 0 0)) ∈ flatC qgn := by decide +kernel
set_option maxRecDepth 100000 in
theorem qx_el_6_1 : Cond.eq (.elem (.field (qtm 6) "java/lang/String" "value" "[B") (.int (Int32.ofNat 1))) (.int ((qTx.getD 6 []).getD 1 0)) ∈ flatC qgn := by decide +kernel
set_option maxRecDepth 100000 in
theorem qx_el_6_2 : Cond.eq (.elem (.field (qtm 6) "java/lang/String" "value" "[B") (.int (Int32.ofNat 2))) (.int ((qTx.getD 6 []).getD 2 0)) ∈ flatC qgn := by decide +kernel
set_option maxRecDepth 100000 in
theorem qx_el_6_3 : Cond.eq (.elem (.field (qtm 6) "java/lang/String" "value" "[B") (.int (Int32.ofNat 3))) (.int ((qTx.getD 6 []).getD 3 0)) ∈ flatC qgn := by decide +kernel
set_option maxRecDepth 100000 in
theorem qx_el_6_4 : Cond.eq (.elem (.field (qtm 6) "java/lang/String" "value" "[B") (.int (Int32.ofNat 4))) (.int ((qTx.getD 6 []).getD 4 0)) ∈ flatC qgn := by decide +kernel
set_option maxRecDepth 100000 in
theorem qx_el_6_5 : Cond.eq (.elem (.field (qtm 6) "java/lang/String" "value" "[B") (.int (Int32.ofNat 5))) (.int ((qTx.getD 6 []).getD 5 0)) ∈ flatC qgn := by decide +kernel
set_option maxRecDepth 100000 in
theorem qx_el_6_6 : Cond.eq (.elem (.field (qtm 6) "java/lang/String" "value" "[B") (.int (Int32.ofNat 6))) (.int ((qTx.getD 6 []).getD 6 0)) ∈ flatC qgn := by decide +kernel
set_option maxRecDepth 100000 in
theorem qx_el_7_0 : Cond.eq (.elem (.field (qtm 7) "java/lang/String" "value" "[B") (.int (Int32.ofNat 0))) (.int ((qTx.getD 7 []).getD 0 0)) ∈ flatC qgn := by decide +kernel
set_option maxRecDepth 100000 in
theorem qx_el_7_1 : Cond.eq (.elem (.field (qtm 7) "java/lang/String" "value" "[B") (.int (Int32.ofNat 1))) (.int ((qTx.getD 7 []).getD 1 0)) ∈ flatC qgn := by decide +kernel
set_option maxRecDepth 100000 in
theorem qx_el_7_2 : Cond.eq (.elem (.field (qtm 7) "java/lang/String" "value" "[B") (.int (Int32.ofNat 2))) (.int ((qTx.getD 7 []).getD 2 0)) ∈ flatC qgn := by decide +kernel
set_option maxRecDepth 100000 in
theorem qx_el_7_3 : Cond.eq (.elem (.field (qtm 7) "java/lang/String" "value" "[B") (.int (Int32.ofNat 3))) (.int ((qTx.getD 7 []).getD 3 0)) ∈ flatC qgn := by decide +kernel
set_option maxRecDepth 100000 in
theorem qx_el_7_4 : Cond.eq (.elem (.field (qtm 7) "java/lang/String" "value" "[B") (.int (Int32.ofNat 4))) (.int ((qTx.getD 7 []).getD 4 0)) ∈ flatC qgn := by decide +kernel
set_option maxRecDepth 100000 in
theorem qx_el_8_0 : Cond.eq (.elem (.field (qtm 8) "java/lang/String" "value" "[B") (.int (Int32.ofNat 0))) (.int ((qTx.getD 8 []).getD 0 0)) ∈ flatC qgn := by decide +kernel
set_option maxRecDepth 100000 in
theorem qx_el_8_1 : Cond.eq (.elem (.field (qtm 8) "java/lang/String" "value" "[B") (.int (Int32.ofNat 1))) (.int ((qTx.getD 8 []).getD 1 0)) ∈ flatC qgn := by decide +kernel
set_option maxRecDepth 100000 in
theorem qx_el_8_2 : Cond.eq (.elem (.field (qtm 8) "java/lang/String" "value" "[B") (.int (Int32.ofNat 2))) (.int ((qTx.getD 8 []).getD 2 0)) ∈ flatC qgn := by decide +kernel
set_option maxRecDepth 100000 in
theorem qx_el_8_3 : Cond.eq (.elem (.field (qtm 8) "java/lang/String" "value" "[B") (.int (Int32.ofNat 3))) (.int ((qTx.getD 8 []).getD 3 0)) ∈ flatC qgn := by decide +kernel
set_option maxRecDepth 100000 in
theorem qx_el_8_4 : Cond.eq (.elem (.field (qtm 8) "java/lang/String" "value" "[B") (.int (Int32.ofNat 4))) (.int ((qTx.getD 8 []).getD 4 0)) ∈ flatC qgn := by decide +kernel
set_option maxRecDepth 100000 in
theorem qx_el_9_0 : Cond.eq (.elem (.field (qtm 9) "java/lang/String" "value" "[B") (.int (Int32.ofNat 0))) (.int ((qTx.getD 9 []).getD 0 0)) ∈ flatC qgn := by decide +kernel
set_option maxRecDepth 100000 in
theorem qx_el_9_1 : Cond.eq (.elem (.field (qtm 9) "java/lang/String" "value" "[B") (.int (Int32.ofNat 1))) (.int ((qTx.getD 9 []).getD 1 0)) ∈ flatC qgn := by decide +kernel
set_option maxRecDepth 100000 in
theorem qx_el_9_2 : Cond.eq (.elem (.field (qtm 9) "java/lang/String" "value" "[B") (.int (Int32.ofNat 2))) (.int ((qTx.getD 9 []).getD 2 0)) ∈ flatC qgn := by decide +kernel
set_option maxRecDepth 100000 in
theorem qx_el_9_3 : Cond.eq (.elem (.field (qtm 9) "java/lang/String" "value" "[B") (.int (Int32.ofNat 3))) (.int ((qTx.getD 9 []).getD 3 0)) ∈ flatC qgn := by decide +kernel
set_option maxRecDepth 100000 in
theorem qx_el_9_4 : Cond.eq (.elem (.field (qtm 9) "java/lang/String" "value" "[B") (.int (Int32.ofNat 4))) (.int ((qTx.getD 9 []).getD 4 0)) ∈ flatC qgn := by decide +kernel
set_option maxRecDepth 100000 in
theorem qx_el_10_0 : Cond.eq (.elem (.field (qtm 10) "java/lang/String" "value" "[B") (.int (Int32.ofNat 0))) (.int ((qTx.getD 10 []).getD 0 0)) ∈ flatC qgn := by decide +kernel
set_option maxRecDepth 100000 in
theorem qx_el_11_0 : Cond.eq (.elem (.field (qtm 11) "java/lang/String" "value" "[B") (.int (Int32.ofNat 0))) (.int ((qTx.getD 11 []).getD 0 0)) ∈ flatC qgn := by decide +kernel
set_option maxRecDepth 100000 in
theorem qx_el_11_1 : Cond.eq (.elem (.field (qtm 11) "java/lang/String" "value" "[B") (.int (Int32.ofNat 1))) (.int ((qTx.getD 11 []).getD 1 0)) ∈ flatC qgn := by decide +kernel
set_option maxRecDepth 100000 in
theorem qx_el_11_2 : Cond.eq (.elem (.field (qtm 11) "java/lang/String" "value" "[B") (.int (Int32.ofNat 2))) (.int ((qTx.getD 11 []).getD 2 0)) ∈ flatC qgn := by decide +kernel
set_option maxRecDepth 100000 in
theorem qx_el_11_3 : Cond.eq (.elem (.field (qtm 11) "java/lang/String" "value" "[B") (.int (Int32.ofNat 3))) (.int ((qTx.getD 11 []).getD 3 0)) ∈ flatC qgn := by decide +kernel
set_option maxRecDepth 100000 in
theorem qx_el_11_4 : Cond.eq (.elem (.field (qtm 11) "java/lang/String" "value" "[B") (.int (Int32.ofNat 4))) (.int ((qTx.getD 11 []).getD 4 0)) ∈ flatC qgn := by decide +kernel
set_option maxRecDepth 100000 in
theorem qx_el_11_5 : Cond.eq (.elem (.field (qtm 11) "java/lang/String" "value" "[B") (.int (Int32.ofNat 5))) (.int ((qTx.getD 11 []).getD 5 0)) ∈ flatC qgn := by decide +kernel
theorem qx_el : ∀ i, i < 12 → ∀ j, j < qln.getD i 0 → Cond.eq (.elem (.field (qtm i) "java/lang/String" "value" "[B") (.int (Int32.ofNat j))) (.int ((qTx.getD i []).getD j 0)) ∈ flatC qgn := fun i hi j hj => match i, hi, j, hj with
  | 0, _, 0, _ => qx_el_0_0
  | 0, _, 1, _ => qx_el_0_1
  | 0, _, 2, _ => qx_el_0_2
  | 0, _, 3, _ => qx_el_0_3
  | 0, _, 4, _ => qx_el_0_4
  | 0, _, j + 5, hj => absurd hj (by simp [qln, qTx])
  | 1, _, 0, _ => qx_el_1_0
  | 1, _, 1, _ => qx_el_1_1
  | 1, _, 2, _ => qx_el_1_2
  | 1, _, 3, _ => qx_el_1_3
  | 1, _, 4, _ => qx_el_1_4
  | 1, _, 5, _ => qx_el_1_5
  | 1, _, 6, _ => qx_el_1_6
  | 1, _, 7, _ => qx_el_1_7
  | 1, _, 8, _ => qx_el_1_8
  | 1, _, 9, _ => qx_el_1_9
  | 1, _, 10, _ => qx_el_1_10
  | 1, _, 11, _ => qx_el_1_11
  | 1, _, 12, _ => qx_el_1_12
  | 1, _, j + 13, hj => absurd hj (by simp [qln, qTx])
  | 2, _, 0, _ => qx_el_2_0
  | 2, _, 1, _ => qx_el_2_1
  | 2, _, 2, _ => qx_el_2_2
  | 2, _, 3, _ => qx_el_2_3
  | 2, _, 4, _ => qx_el_2_4
  | 2, _, 5, _ => qx_el_2_5
  | 2, _, 6, _ => qx_el_2_6
  | 2, _, 7, _ => qx_el_2_7
  | 2, _, 8, _ => qx_el_2_8
  | 2, _, 9, _ => qx_el_2_9
  | 2, _, 10, _ => qx_el_2_10
  | 2, _, j + 11, hj => absurd hj (by simp [qln, qTx])
  | 3, _, 0, _ => qx_el_3_0
  | 3, _, 1, _ => qx_el_3_1
  | 3, _, 2, _ => qx_el_3_2
  | 3, _, 3, _ => qx_el_3_3
  | 3, _, 4, _ => qx_el_3_4
  | 3, _, 5, _ => qx_el_3_5
  | 3, _, 6, _ => qx_el_3_6
  | 3, _, 7, _ => qx_el_3_7
  | 3, _, 8, _ => qx_el_3_8
  | 3, _, 9, _ => qx_el_3_9
  | 3, _, 10, _ => qx_el_3_10
  | 3, _, j + 11, hj => absurd hj (by simp [qln, qTx])
  | 4, _, 0, _ => qx_el_4_0
  | 4, _, 1, _ => qx_el_4_1
  | 4, _, 2, _ => qx_el_4_2
  | 4, _, 3, _ => qx_el_4_3
  | 4, _, 4, _ => qx_el_4_4
  | 4, _, 5, _ => qx_el_4_5
  | 4, _, 6, _ => qx_el_4_6
  | 4, _, 7, _ => qx_el_4_7
  | 4, _, 8, _ => qx_el_4_8
  | 4, _, j + 9, hj => absurd hj (by simp [qln, qTx])
  | 5, _, 0, _ => qx_el_5_0
  | 5, _, 1, _ => qx_el_5_1
  | 5, _, 2, _ => qx_el_5_2
  | 5, _, j + 3, hj => absurd hj (by simp [qln, qTx])
  | 6, _, 0, _ => qx_el_6_0
  | 6, _, 1, _ => qx_el_6_1
  | 6, _, 2, _ => qx_el_6_2
  | 6, _, 3, _ => qx_el_6_3
  | 6, _, 4, _ => qx_el_6_4
  | 6, _, 5, _ => qx_el_6_5
  | 6, _, 6, _ => qx_el_6_6
  | 6, _, j + 7, hj => absurd hj (by simp [qln, qTx])
  | 7, _, 0, _ => qx_el_7_0
  | 7, _, 1, _ => qx_el_7_1
  | 7, _, 2, _ => qx_el_7_2
  | 7, _, 3, _ => qx_el_7_3
  | 7, _, 4, _ => qx_el_7_4
  | 7, _, j + 5, hj => absurd hj (by simp [qln, qTx])
  | 8, _, 0, _ => qx_el_8_0
  | 8, _, 1, _ => qx_el_8_1
  | 8, _, 2, _ => qx_el_8_2
  | 8, _, 3, _ => qx_el_8_3
  | 8, _, 4, _ => qx_el_8_4
  | 8, _, j + 5, hj => absurd hj (by simp [qln, qTx])
  | 9, _, 0, _ => qx_el_9_0
  | 9, _, 1, _ => qx_el_9_1
  | 9, _, 2, _ => qx_el_9_2
  | 9, _, 3, _ => qx_el_9_3
  | 9, _, 4, _ => qx_el_9_4
  | 9, _, j + 5, hj => absurd hj (by simp [qln, qTx])
  | 10, _, 0, _ => qx_el_10_0
  | 10, _, j + 1, hj => absurd hj (by simp [qln, qTx])
  | 11, _, 0, _ => qx_el_11_0
  | 11, _, 1, _ => qx_el_11_1
  | 11, _, 2, _ => qx_el_11_2
  | 11, _, 3, _ => qx_el_11_3
  | 11, _, 4, _ => qx_el_11_4
  | 11, _, 5, _ => qx_el_11_5
  | 11, _, j + 6, hj => absurd hj (by simp [qln, qTx])
  | k + 12, hk, _, _ => absurd hk (by omega)
theorem qx_n : ∀ i, i < 12 → qln.getD i 0 < 2 ^ 31 ∧ qln.getD i 0 = (qTx.getD i []).length := by decide
set_option maxRecDepth 100000 in
theorem qx_cs : Cond.eq (.static "java/lang/String" "COMPACT_STRINGS" "Z") (.int 1) ∈ flatC qgn := by decide +kernel
set_option maxRecDepth 100000 in
theorem qx_fm : Cond.isRef (.static "jdk/internal/util/Preconditions" "SIOOBE_FORMATTER" "Ljava/util/function/BiFunction;") ∈ flatC qgn := by decide +kernel
set_option maxRecDepth 100000 in
theorem qx_q12 : Cond.eq (.string "CondensedDetachment$Term" 37) (.string "CondensedDetachmentModel" 244) ∈ flatC qgn := by decide +kernel
set_option maxRecDepth 100000 in
theorem qx_q13 : Cond.eq (.string "CondensedDetachment$Term" 35) (.string "CondensedDetachmentModel" 246) ∈ flatC qgn := by decide +kernel
set_option maxRecDepth 100000 in
theorem qx_q14 : Cond.eq (.string "CondensedDetachment$Term" 45) (.string "CondensedDetachmentModel" 248) ∈ flatC qgn := by decide +kernel
set_option maxRecDepth 100000 in
theorem qx_q15 : Cond.eq (.string "CondensedDetachment$Term" 39) (.string "CondensedDetachmentModel" 250) ∈ flatC qgn := by decide +kernel
set_option maxRecDepth 100000 in
theorem qx_q16 : Cond.eq (.string "CondensedDetachment$Term" 41) (.string "CondensedDetachmentModel" 252) ∈ flatC qgn := by decide +kernel
set_option maxRecDepth 100000 in
theorem qx_q17 : Cond.eq (.string "CondensedDetachment$Term" 43) (.string "CondensedDetachmentModel" 254) ∈ flatC qgn := by decide +kernel
theorem q_prim {s : State} {args : Array Value} {ty : FieldType} (h : (Cond.arrayClass ty).before args s = true) : ∃ c : ClassId, s.vm.findClass ("[" ++ ty.toString) = some c ∧ ArrOfT s c ty := by
  obtain ⟨c, k, comp, h1, h2, h3⟩ := Cond.arrayClass_spec h
  exact ⟨c, h1, fun n z => ⟨fun k h => (by cases h), k, h2, comp, h3⟩⟩
theorem q_objs {s : State} {args : Array Value} {C : String} (h : (Cond.arrayOver (.object C)).before args s = true) : ∃ c : ClassId, ArrOfT s c (.object C) ∧ va_RA s c (.object C) := by
  obtain ⟨comp, c, k, h1, h2, h3, h4, h5⟩ := Cond.arrayOver_spec h
  exact ⟨c, fun n z => ⟨fun k h => (by cases h), k, h3, comp, h4⟩, k, comp, h3, h4, h1, h5⟩
/-- what the Statement gives of the start is an environment of ours -/
theorem q_env (l : Launch) {s : State} {args : Array Value} (hts : ∀ w ∈ lw_tbl, w.before args s = true) (hgv : qgn.before args s = true) : ∃ (D : va_G) (cA : Nat → ClassId) (adK adV : Nat → Nat), qTab (l, s.heap.size, D, cA, adK, adV) s := by
  have htq : ∀ w ∈ qTb, w.before args s = true := fun w hw => hts w (qTb_of hw)
  have hfl := flat_of_before _ hgv
  have h0 : ∀ k : Nat, ∃ z : ClassId × (Nat → Nat), ∀ q : vw_C, vwCl[k]? = some q → u_Kn s q.1 q.2.1 q.2.2 z.1 z.2 := by
    intro k
    match k with
    | 0 =>
      obtain ⟨c, iS, h⟩ := u_known (C := RX0) (T := TX0) (N := 3) htq cwX0 (htq _ mkX0)
      exact ⟨(c, iS), fun q hq => by cases hq; exact h⟩
    | 1 =>
      obtain ⟨c, iS, h⟩ := u_known (C := RX1) (T := TX1) (N := 7) htq cwX1 (htq _ mkX1)
      exact ⟨(c, iS), fun q hq => by cases hq; exact h⟩
    | 2 =>
      obtain ⟨c, iS, h⟩ := u_known (C := RX2) (T := TX2) (N := 6) htq cwX2 (htq _ mkX2)
      exact ⟨(c, iS), fun q hq => by cases hq; exact h⟩
    | 3 =>
      obtain ⟨c, iS, h⟩ := u_known (C := RX3) (T := TX3) (N := 1) htq cwX3 (htq _ mkX3)
      exact ⟨(c, iS), fun q hq => by cases hq; exact h⟩
    | 4 =>
      obtain ⟨c, iS, h⟩ := u_known (C := RX4) (T := TX4) (N := 4) htq cwX4 (htq _ mkX4)
      exact ⟨(c, iS), fun q hq => by cases hq; exact h⟩
    | 5 =>
      obtain ⟨c, iS, h⟩ := u_known (C := RX5) (T := TX5) (N := 3) htq cwX5 (htq _ mkX5)
      exact ⟨(c, iS), fun q hq => by cases hq; exact h⟩
    | 6 =>
      obtain ⟨c, iS, h⟩ := u_known (C := RX6) (T := TX6) (N := 10) htq cwX6 (htq _ mkX6)
      exact ⟨(c, iS), fun q hq => by cases hq; exact h⟩
    | 7 =>
      obtain ⟨c, iS, h⟩ := u_known (C := RX7) (T := TX7) (N := 2) htq cwX7 (htq _ mkX7)
      exact ⟨(c, iS), fun q hq => by cases hq; exact h⟩
    | 8 =>
      obtain ⟨c, iS, h⟩ := u_known (C := RX8) (T := TX8) (N := 11) htq cwX8 (htq _ mkX8)
      exact ⟨(c, iS), fun q hq => by cases hq; exact h⟩
    | 9 =>
      obtain ⟨c, iS, h⟩ := u_known (C := RX9) (T := TX9) (N := 13) htq cwX9 (htq _ mkX9)
      exact ⟨(c, iS), fun q hq => by cases hq; exact h⟩
    | 10 =>
      obtain ⟨c, iS, h⟩ := u_known (C := RX10) (T := TX10) (N := 38) htq cwX10 (htq _ mkX10)
      exact ⟨(c, iS), fun q hq => by cases hq; exact h⟩
    | k + 11 => exact ⟨(0, fun _ => 0), fun q hq => by simp [vwCl] at hq⟩
  obtain ⟨z, hz⟩ := Classical.axiomOfChoice h0
  obtain ⟨cC, kC, aC⟩ := q_prim (htq _ ac_char)
  obtain ⟨cI, kI, aI⟩ := q_prim (htq _ ac_int)
  obtain ⟨cJ, kJ, aJ⟩ := q_prim (htq _ ac_long)
  obtain ⟨cZ, kZ, aZ⟩ := q_prim (htq _ ac_boolean)
  obtain ⟨cF, aF, rF⟩ := q_objs (hts _ qAOF)
  obtain ⟨cR, aR, rR⟩ := q_objs (hts _ qAOR)
  have hA : ∀ a : Nat, a < s.heap.size → ¬ (fun q : Nat => s.heap.size ≤ q) a := fun a h => Nat.not_le.mpr h
  have hs : ∀ i : Nat, ∃ q : Nat × Nat, i < 12 → (va_O "java/lang/String" q.1 (fun q : Nat => s.heap.size ≤ q) s s.heap ∧ va_OF "java/lang/String" "coder" "B" (.int 0) q.1 (fun q : Nat => s.heap.size ≤ q) s s.heap ∧ va_OF "java/lang/String" "value" "[B" (.ref q.2) q.1 (fun q : Nat => s.heap.size ≤ q) s s.heap ∧ va_T .byte q.2 (qln.getD i 0) (fun j => .int ((qTx.getD i []).getD j 0)) (fun q : Nat => s.heap.size ≤ q) s s.heap) ∧ (qtm i).eval args s none [] s = some (.ref q.1) := by
    intro i
    by_cases hi : i < 12
    · obtain ⟨kK, kV, hS, hev⟩ := vk_Sof (args := args) (s := s) (N := 1) (tm := fun _ => qtm i) (len := [qln.getD i 0]) (byt := [qTx.getD i []]) (A := fun q : Nat => s.heap.size ≤ q) (fun k hk => by rw [show k = 0 by omega]; exact (qx_n i hi).1) (fun k hk => hfl _ (qx_ex i hi)) (fun k hk => hfl _ (qx_co i hi)) (fun k hk => hfl _ (qx_ar i hi)) (fun k hk => by rw [show k = 0 by omega]; exact hfl _ (qx_le i hi)) (fun k hk => by rw [show k = 0 by omega]; exact fun j hj => hfl _ (qx_el i hi j hj)) (fun k j hk hj hne => absurd (by omega) hne) hA
      exact ⟨(kK 0, kV 0), fun _ => ⟨hS.1 0 (by omega), hev 0 (by omega)⟩⟩
    · exact ⟨(0, 0), fun h => absurd h hi⟩
  obtain ⟨ad, had⟩ := Classical.axiomOfChoice hs
  refine ⟨(fun k => (z k).1, fun k => (z k).2), fun k => if k = 11 then cC else if k = 12 then cI else if k = 13 then cJ else if k = 14 then cZ else if k = 15 then cF else cR, fun i => (ad i).1, fun i => (ad i).2, ⟨hz, ?_⟩, ?_, va_AO.of (hts _ qAOF), va_AO.of (hts _ qAOR), ?_, ?_, ?_, ?_⟩
  · intro k q hq
    match k, hq with
    | 0, hq => cases hq; exact ⟨aC, kC⟩
    | 1, hq => cases hq; exact ⟨aI, kI⟩
    | 2, hq => cases hq; exact ⟨aJ, kJ⟩
    | 3, hq => cases hq; exact ⟨aZ, kZ⟩
    | 4, hq => cases hq; exact ⟨aF, rF⟩
    | 5, hq => cases hq; exact ⟨aR, rR⟩
    | k + 6, hq => simp [qty] at hq
  · exact fun w hw => va_Nw.of (qNest_on w hw) (hts _ (qNest_in w hw))
  · have g : ∀ i, i < 12 → (Jvm.Term.string (qSites.getD i ("", 0, "", 0)).1 (qSites.getD i ("", 0, "", 0)).2.1).eval args s none [] s = some (.ref (ad i).1) := fun i hi => (had i hi).2
    intro q hq
    have hr := hts _ (qSites_in q hq)
    refine vk_R.of hr ?_
    simp only [qSites, List.mem_cons, List.not_mem_nil, or_false] at hq
    rcases hq with rfl | rfl | rfl | rfl | rfl | rfl | rfl | rfl | rfl | rfl | rfl | rfl | rfl | rfl | rfl | rfl | rfl | rfl
    · exact g 0 (by decide)
    · exact g 1 (by decide)
    · exact g 2 (by decide)
    · exact g 3 (by decide)
    · exact g 4 (by decide)
    · exact g 5 (by decide)
    · exact g 6 (by decide)
    · exact g 7 (by decide)
    · exact g 8 (by decide)
    · exact g 9 (by decide)
    · exact g 10 (by decide)
    · exact g 11 (by decide)
    · exact va_eqR (hfl _ qx_q12) (g 1 (by decide))
    · exact va_eqR (hfl _ qx_q13) (g 0 (by decide))
    · exact va_eqR (hfl _ qx_q14) (g 5 (by decide))
    · exact va_eqR (hfl _ qx_q15) (g 2 (by decide))
    · exact va_eqR (hfl _ qx_q16) (g 3 (by decide))
    · exact va_eqR (hfl _ qx_q17) (g 4 (by decide))
  · intro i hi
    have h := (had i hi).1
    rw [(qx_n i hi).2] at h
    exact h
  · exact va_Zof (hts _ qLC) (htq _ inJ0) (va_eqi (hfl _ qx_cs)) hA
  · exact va_Zqof (hts _ qLF) (htq _ inJ3) (hfl _ qx_fm) hA
