theorem tb1 : ∀ w ∈ tables_1_1, w ∈ lw_tbl := fun w h => List.mem_append_right _ (List.mem_append_left _ h)
theorem tb2 : ∀ w ∈ tables_1_2, w ∈ lw_tbl := fun w h => List.mem_append_right _ (List.mem_append_right _ (List.mem_append_left _ h))
theorem tb3 : ∀ w ∈ tables_1_3, w ∈ lw_tbl := fun w h => List.mem_append_right _ (List.mem_append_right _ (List.mem_append_right _ (List.mem_append_left _ h)))
theorem tb4 : ∀ w ∈ tables_1_4, w ∈ lw_tbl := fun w h => List.mem_append_right _ (List.mem_append_right _ (List.mem_append_right _ (List.mem_append_right _ (List.mem_append_left _ h))))
theorem tb5 : ∀ w ∈ tables_1_5, w ∈ lw_tbl := fun w h => List.mem_append_right _ (List.mem_append_right _ (List.mem_append_right _ (List.mem_append_right _ (List.mem_append_right _ (List.mem_append_left _ h)))))
theorem tb6 : ∀ w ∈ tables_1_6, w ∈ lw_tbl := fun w h => List.mem_append_right _ (List.mem_append_right _ (List.mem_append_right _ (List.mem_append_right _ (List.mem_append_right _ (List.mem_append_right _ h)))))
theorem pb1 : ∀ q ∈ lw_privs_1, Cond.selects q.1.cls q.1 q.1 ∈ lw_tbl := fun q h => List.mem_append_left _ (List.mem_map.mpr ⟨q, List.mem_append_left _ h, rfl⟩)
theorem pb2 : ∀ q ∈ lw_privs_2, Cond.selects q.1.cls q.1 q.1 ∈ lw_tbl := fun q h => List.mem_append_left _ (List.mem_map.mpr ⟨q, List.mem_append_right _ (List.mem_append_left _ h), rfl⟩)
theorem pb3 : ∀ q ∈ lw_privs_3, Cond.selects q.1.cls q.1 q.1 ∈ lw_tbl := fun q h => List.mem_append_left _ (List.mem_map.mpr ⟨q, List.mem_append_right _ (List.mem_append_right _ (List.mem_append_left _ h)), rfl⟩)
theorem pb4 : ∀ q ∈ lw_privs_4, Cond.selects q.1.cls q.1 q.1 ∈ lw_tbl := fun q h => List.mem_append_left _ (List.mem_map.mpr ⟨q, List.mem_append_right _ (List.mem_append_right _ (List.mem_append_right _ (List.mem_append_left _ h))), rfl⟩)
theorem pb5 : ∀ q ∈ lw_privs_5, Cond.selects q.1.cls q.1 q.1 ∈ lw_tbl := fun q h => List.mem_append_left _ (List.mem_map.mpr ⟨q, List.mem_append_right _ (List.mem_append_right _ (List.mem_append_right _ (List.mem_append_right _ h))), rfl⟩)
set_option maxRecDepth 100000 in
theorem cwX0 : ∀ w ∈ u_ws RX0 TX0 3, w ∈ qTb := by
  intro w hw
  obtain ⟨j, hj, rfl⟩ := List.mem_map.mp hw
  have hj2 := List.mem_range.mp hj
  clear hw hj
  rcases (show j = 0 ∨ j = 1 ∨ j = 2 by omega) with rfl | rfl | rfl
  · exact qTb_in (tb1 _ (List.mem_of_getElem? (i := 58) rfl)) rfl
  · exact qTb_in (tb1 _ (List.mem_of_getElem? (i := 60) rfl)) rfl
  · exact qTb_in (tb1 _ (List.mem_of_getElem? (i := 62) rfl)) rfl
theorem inX0 : Cond.initialized RX0 ∈ qTb := qTb_in (tb1 _ (List.mem_of_getElem? (i := 4) rfl)) rfl
theorem mkX0 : Cond.instantiable RX0 3 ∈ qTb := qTb_in (tb1 _ (List.mem_of_getElem? (i := 50) rfl)) rfl
theorem qC0 : qCls 0 RX0 TX0 3 tyX0 := ⟨rfl, by decide, by decide, cwX0, tyX0_ok, nmX0, by decide +kernel, mkX0, inX0⟩
set_option maxRecDepth 100000 in
theorem cwX1 : ∀ w ∈ u_ws RX1 TX1 7, w ∈ qTb := by
  intro w hw
  obtain ⟨j, hj, rfl⟩ := List.mem_map.mp hw
  have hj2 := List.mem_range.mp hj
  clear hw hj
  rcases (show j = 0 ∨ j = 1 ∨ j = 2 ∨ j = 3 ∨ j = 4 ∨ j = 5 ∨ j = 6 by omega) with rfl | rfl | rfl | rfl | rfl | rfl | rfl
  · exact qTb_in (tb1 _ (List.mem_of_getElem? (i := 74) rfl)) rfl
  · exact qTb_in (tb1 _ (List.mem_of_getElem? (i := 76) rfl)) rfl
  · exact qTb_in (tb1 _ (List.mem_of_getElem? (i := 78) rfl)) rfl
  · exact qTb_in (tb1 _ (List.mem_of_getElem? (i := 80) rfl)) rfl
  · exact qTb_in (tb1 _ (List.mem_of_getElem? (i := 82) rfl)) rfl
  · exact qTb_in (tb1 _ (List.mem_of_getElem? (i := 84) rfl)) rfl
  · exact qTb_in (tb1 _ (List.mem_of_getElem? (i := 86) rfl)) rfl
theorem inX1 : Cond.initialized RX1 ∈ qTb := qTb_in (tb1 _ (List.mem_of_getElem? (i := 3) rfl)) rfl
theorem mkX1 : Cond.instantiable RX1 7 ∈ qTb := qTb_in (tb1 _ (List.mem_of_getElem? (i := 43) rfl)) rfl
theorem qC1 : qCls 1 RX1 TX1 7 tyX1 := ⟨rfl, by decide, by decide, cwX1, tyX1_ok, nmX1, by decide +kernel, mkX1, inX1⟩
set_option maxRecDepth 100000 in
theorem cwX2 : ∀ w ∈ u_ws RX2 TX2 6, w ∈ qTb := by
  intro w hw
  obtain ⟨j, hj, rfl⟩ := List.mem_map.mp hw
  have hj2 := List.mem_range.mp hj
  clear hw hj
  rcases (show j = 0 ∨ j = 1 ∨ j = 2 ∨ j = 3 ∨ j = 4 ∨ j = 5 by omega) with rfl | rfl | rfl | rfl | rfl | rfl
  · exact qTb_in (tb1 _ (List.mem_of_getElem? (i := 153) rfl)) rfl
  · exact qTb_in (tb1 _ (List.mem_of_getElem? (i := 155) rfl)) rfl
  · exact qTb_in (tb1 _ (List.mem_of_getElem? (i := 157) rfl)) rfl
  · exact qTb_in (tb1 _ (List.mem_of_getElem? (i := 159) rfl)) rfl
  · exact qTb_in (tb1 _ (List.mem_of_getElem? (i := 161) rfl)) rfl
  · exact qTb_in (tb1 _ (List.mem_of_getElem? (i := 163) rfl)) rfl
theorem inX2 : Cond.initialized RX2 ∈ qTb := qTb_in (tb1 _ (List.mem_of_getElem? (i := 7) rfl)) rfl
theorem mkX2 : Cond.instantiable RX2 6 ∈ qTb := qTb_in (tb1 _ (List.mem_of_getElem? (i := 140) rfl)) rfl
theorem qC2 : qCls 2 RX2 TX2 6 tyX2 := ⟨rfl, by decide, by decide, cwX2, tyX2_ok, nmX2, by decide +kernel, mkX2, inX2⟩
set_option maxRecDepth 100000 in
theorem cwX3 : ∀ w ∈ u_ws RX3 TX3 1, w ∈ qTb := by
  intro w hw
  obtain ⟨j, hj, rfl⟩ := List.mem_map.mp hw
  have hj2 := List.mem_range.mp hj
  clear hw hj
  rcases (show j = 0 by omega) with rfl
  · exact qTb_in (tb1 _ (List.mem_of_getElem? (i := 136) rfl)) rfl
theorem inX3 : Cond.initialized RX3 ∈ qTb := qTb_in (tb1 _ (List.mem_of_getElem? (i := 6) rfl)) rfl
theorem mkX3 : Cond.instantiable RX3 1 ∈ qTb := qTb_in (tb1 _ (List.mem_of_getElem? (i := 130) rfl)) rfl
theorem qC3 : qCls 3 RX3 TX3 1 tyX3 := ⟨rfl, by decide, by decide, cwX3, tyX3_ok, nmX3, by decide +kernel, mkX3, inX3⟩
set_option maxRecDepth 100000 in
theorem cwX4 : ∀ w ∈ u_ws RX4 TX4 4, w ∈ qTb := by
  intro w hw
  obtain ⟨j, hj, rfl⟩ := List.mem_map.mp hw
  have hj2 := List.mem_range.mp hj
  clear hw hj
  rcases (show j = 0 ∨ j = 1 ∨ j = 2 ∨ j = 3 by omega) with rfl | rfl | rfl | rfl
  · exact qTb_in (tb1 _ (List.mem_of_getElem? (i := 176) rfl)) rfl
  · exact qTb_in (tb1 _ (List.mem_of_getElem? (i := 178) rfl)) rfl
  · exact qTb_in (tb1 _ (List.mem_of_getElem? (i := 180) rfl)) rfl
  · exact qTb_in (tb1 _ (List.mem_of_getElem? (i := 182) rfl)) rfl
theorem inX4 : Cond.initialized RX4 ∈ qTb := qTb_in (tb1 _ (List.mem_of_getElem? (i := 8) rfl)) rfl
theorem mkX4 : Cond.instantiable RX4 4 ∈ qTb := qTb_in (tb1 _ (List.mem_of_getElem? (i := 167) rfl)) rfl
theorem qC4 : qCls 4 RX4 TX4 4 tyX4 := ⟨rfl, by decide, by decide, cwX4, tyX4_ok, nmX4, by decide +kernel, mkX4, inX4⟩
set_option maxRecDepth 100000 in
theorem cwX5 : ∀ w ∈ u_ws RX5 TX5 3, w ∈ qTb := by
  intro w hw
  obtain ⟨j, hj, rfl⟩ := List.mem_map.mp hw
  have hj2 := List.mem_range.mp hj
  clear hw hj
  rcases (show j = 0 ∨ j = 1 ∨ j = 2 by omega) with rfl | rfl | rfl
  · exact qTb_in (tb1 _ (List.mem_of_getElem? (i := 233) rfl)) rfl
  · exact qTb_in (tb1 _ (List.mem_of_getElem? (i := 235) rfl)) rfl
  · exact qTb_in (tb1 _ (List.mem_of_getElem? (i := 237) rfl)) rfl
theorem inX5 : Cond.initialized RX5 ∈ qTb := qTb_in (tb1 _ (List.mem_of_getElem? (i := 10) rfl)) rfl
theorem mkX5 : Cond.instantiable RX5 3 ∈ qTb := qTb_in (tb1 _ (List.mem_of_getElem? (i := 225) rfl)) rfl
theorem qC5 : qCls 5 RX5 TX5 3 tyX5 := ⟨rfl, by decide, by decide, cwX5, tyX5_ok, nmX5, by decide +kernel, mkX5, inX5⟩
set_option maxRecDepth 100000 in
theorem cwX6 : ∀ w ∈ u_ws RX6 TX6 10, w ∈ qTb := by
  intro w hw
  obtain ⟨j, hj, rfl⟩ := List.mem_map.mp hw
  have hj2 := List.mem_range.mp hj
  clear hw hj
  rcases (show j = 0 ∨ j = 1 ∨ j = 2 ∨ j = 3 ∨ j = 4 ∨ j = 5 ∨ j = 6 ∨ j = 7 ∨ j = 8 ∨ j = 9 by omega) with rfl | rfl | rfl | rfl | rfl | rfl | rfl | rfl | rfl | rfl
  · exact qTb_in (tb1 _ (List.mem_of_getElem? (i := 201) rfl)) rfl
  · exact qTb_in (tb1 _ (List.mem_of_getElem? (i := 203) rfl)) rfl
  · exact qTb_in (tb1 _ (List.mem_of_getElem? (i := 205) rfl)) rfl
  · exact qTb_in (tb1 _ (List.mem_of_getElem? (i := 207) rfl)) rfl
  · exact qTb_in (tb1 _ (List.mem_of_getElem? (i := 209) rfl)) rfl
  · exact qTb_in (tb1 _ (List.mem_of_getElem? (i := 211) rfl)) rfl
  · exact qTb_in (tb1 _ (List.mem_of_getElem? (i := 213) rfl)) rfl
  · exact qTb_in (tb1 _ (List.mem_of_getElem? (i := 215) rfl)) rfl
  · exact qTb_in (tb1 _ (List.mem_of_getElem? (i := 217) rfl)) rfl
  · exact qTb_in (tb1 _ (List.mem_of_getElem? (i := 219) rfl)) rfl
theorem inX6 : Cond.initialized RX6 ∈ qTb := qTb_in (tb1 _ (List.mem_of_getElem? (i := 9) rfl)) rfl
theorem mkX6 : Cond.instantiable RX6 10 ∈ qTb := qTb_in (tb1 _ (List.mem_of_getElem? (i := 186) rfl)) rfl
theorem qC6 : qCls 6 RX6 TX6 10 tyX6 := ⟨rfl, by decide, by decide, cwX6, tyX6_ok, nmX6, by decide +kernel, mkX6, inX6⟩
set_option maxRecDepth 100000 in
theorem cwX7 : ∀ w ∈ u_ws RX7 TX7 2, w ∈ qTb := by
  intro w hw
  obtain ⟨j, hj, rfl⟩ := List.mem_map.mp hw
  have hj2 := List.mem_range.mp hj
  clear hw hj
  rcases (show j = 0 ∨ j = 1 by omega) with rfl | rfl
  · exact qTb_in (tb1 _ (List.mem_of_getElem? (i := 36) rfl)) rfl
  · exact qTb_in (tb1 _ (List.mem_of_getElem? (i := 38) rfl)) rfl
theorem inX7 : Cond.initialized RX7 ∈ qTb := qTb_in (tb1 _ (List.mem_of_getElem? (i := 2) rfl)) rfl
theorem mkX7 : Cond.instantiable RX7 2 ∈ qTb := qTb_in (tb1 _ (List.mem_of_getElem? (i := 29) rfl)) rfl
theorem qC7 : qCls 7 RX7 TX7 2 tyX7 := ⟨rfl, by decide, by decide, cwX7, tyX7_ok, nmX7, by decide +kernel, mkX7, inX7⟩
set_option maxRecDepth 100000 in
theorem cwX8 : ∀ w ∈ u_ws RX8 TX8 11, w ∈ qTb := by
  intro w hw
  obtain ⟨j, hj, rfl⟩ := List.mem_map.mp hw
  have hj2 := List.mem_range.mp hj
  clear hw hj
  rcases (show j = 0 ∨ j = 1 ∨ j = 2 ∨ j = 3 ∨ j = 4 ∨ j = 5 ∨ j = 6 ∨ j = 7 ∨ j = 8 ∨ j = 9 ∨ j = 10 by omega) with rfl | rfl | rfl | rfl | rfl | rfl | rfl | rfl | rfl | rfl | rfl
  · exact qTb_in (tb1 _ (List.mem_of_getElem? (i := 106) rfl)) rfl
  · exact qTb_in (tb1 _ (List.mem_of_getElem? (i := 108) rfl)) rfl
  · exact qTb_in (tb1 _ (List.mem_of_getElem? (i := 110) rfl)) rfl
  · exact qTb_in (tb1 _ (List.mem_of_getElem? (i := 112) rfl)) rfl
  · exact qTb_in (tb1 _ (List.mem_of_getElem? (i := 114) rfl)) rfl
  · exact qTb_in (tb1 _ (List.mem_of_getElem? (i := 116) rfl)) rfl
  · exact qTb_in (tb1 _ (List.mem_of_getElem? (i := 118) rfl)) rfl
  · exact qTb_in (tb1 _ (List.mem_of_getElem? (i := 120) rfl)) rfl
  · exact qTb_in (tb1 _ (List.mem_of_getElem? (i := 122) rfl)) rfl
  · exact qTb_in (tb1 _ (List.mem_of_getElem? (i := 124) rfl)) rfl
  · exact qTb_in (tb1 _ (List.mem_of_getElem? (i := 126) rfl)) rfl
theorem inX8 : Cond.initialized RX8 ∈ qTb := qTb_in (tb1 _ (List.mem_of_getElem? (i := 5) rfl)) rfl
theorem mkX8 : Cond.instantiable RX8 11 ∈ qTb := qTb_in (tb1 _ (List.mem_of_getElem? (i := 90) rfl)) rfl
theorem qC8 : qCls 8 RX8 TX8 11 tyX8 := ⟨rfl, by decide, by decide, cwX8, tyX8_ok, nmX8, by decide +kernel, mkX8, inX8⟩
set_option maxRecDepth 100000 in
theorem cwX9 : ∀ w ∈ u_ws RX9 TX9 13, w ∈ qTb := by
  intro w hw
  obtain ⟨j, hj, rfl⟩ := List.mem_map.mp hw
  have hj2 := List.mem_range.mp hj
  clear hw hj
  rcases (show j = 0 ∨ j = 1 ∨ j = 2 ∨ j = 3 ∨ j = 4 ∨ j = 5 ∨ j = 6 ∨ j = 7 ∨ j = 8 ∨ j = 9 ∨ j = 10 ∨ j = 11 ∨ j = 12 by omega) with rfl | rfl | rfl | rfl | rfl | rfl | rfl | rfl | rfl | rfl | rfl | rfl | rfl
  · exact qTb_in (tb2 _ (List.mem_of_getElem? (i := 15) rfl)) rfl
  · exact qTb_in (tb2 _ (List.mem_of_getElem? (i := 17) rfl)) rfl
  · exact qTb_in (tb2 _ (List.mem_of_getElem? (i := 19) rfl)) rfl
  · exact qTb_in (tb2 _ (List.mem_of_getElem? (i := 21) rfl)) rfl
  · exact qTb_in (tb2 _ (List.mem_of_getElem? (i := 23) rfl)) rfl
  · exact qTb_in (tb2 _ (List.mem_of_getElem? (i := 25) rfl)) rfl
  · exact qTb_in (tb2 _ (List.mem_of_getElem? (i := 27) rfl)) rfl
  · exact qTb_in (tb2 _ (List.mem_of_getElem? (i := 29) rfl)) rfl
  · exact qTb_in (tb2 _ (List.mem_of_getElem? (i := 31) rfl)) rfl
  · exact qTb_in (tb2 _ (List.mem_of_getElem? (i := 33) rfl)) rfl
  · exact qTb_in (tb2 _ (List.mem_of_getElem? (i := 35) rfl)) rfl
  · exact qTb_in (tb2 _ (List.mem_of_getElem? (i := 37) rfl)) rfl
  · exact qTb_in (tb2 _ (List.mem_of_getElem? (i := 39) rfl)) rfl
theorem inX9 : Cond.initialized RX9 ∈ qTb := qTb_in (tb1 _ (List.mem_of_getElem? (i := 1) rfl)) rfl
theorem mkX9 : Cond.instantiable RX9 13 ∈ qTb := qTb_in (tb1 _ (List.mem_of_getElem? (i := 21) rfl)) rfl
theorem qC9 : qCls 9 RX9 TX9 13 tyX9 := ⟨rfl, by decide, by decide, cwX9, tyX9_ok, nmX9, by decide +kernel, mkX9, inX9⟩
set_option maxRecDepth 100000 in
theorem cwX10 : ∀ w ∈ u_ws RX10 TX10 38, w ∈ qTb := by
  intro w hw
  obtain ⟨j, hj, rfl⟩ := List.mem_map.mp hw
  have hj2 := List.mem_range.mp hj
  clear hw hj
  rcases (show j = 0 ∨ j = 1 ∨ j = 2 ∨ j = 3 ∨ j = 4 ∨ j = 5 ∨ j = 6 ∨ j = 7 ∨ j = 8 ∨ j = 9 ∨ j = 10 ∨ j = 11 ∨ j = 12 ∨ j = 13 ∨ j = 14 ∨ j = 15 ∨ j = 16 ∨ j = 17 ∨ j = 18 ∨ j = 19 ∨ j = 20 ∨ j = 21 ∨ j = 22 ∨ j = 23 ∨ j = 24 ∨ j = 25 ∨ j = 26 ∨ j = 27 ∨ j = 28 ∨ j = 29 ∨ j = 30 ∨ j = 31 ∨ j = 32 ∨ j = 33 ∨ j = 34 ∨ j = 35 ∨ j = 36 ∨ j = 37 by omega) with rfl | rfl | rfl | rfl | rfl | rfl | rfl | rfl | rfl | rfl | rfl | rfl | rfl | rfl | rfl | rfl | rfl | rfl | rfl | rfl | rfl | rfl | rfl | rfl | rfl | rfl | rfl | rfl | rfl | rfl | rfl | rfl | rfl | rfl | rfl | rfl | rfl | rfl
  · exact qTb_in (tb4 _ (List.mem_of_getElem? (i := 231) rfl)) rfl
  · exact qTb_in (tb4 _ (List.mem_of_getElem? (i := 233) rfl)) rfl
  · exact qTb_in (tb4 _ (List.mem_of_getElem? (i := 235) rfl)) rfl
  · exact qTb_in (tb4 _ (List.mem_of_getElem? (i := 237) rfl)) rfl
  · exact qTb_in (tb4 _ (List.mem_of_getElem? (i := 239) rfl)) rfl
  · exact qTb_in (tb5 _ (List.mem_of_getElem? (i := 1) rfl)) rfl
  · exact qTb_in (tb5 _ (List.mem_of_getElem? (i := 3) rfl)) rfl
  · exact qTb_in (tb5 _ (List.mem_of_getElem? (i := 5) rfl)) rfl
  · exact qTb_in (tb5 _ (List.mem_of_getElem? (i := 7) rfl)) rfl
  · exact qTb_in (tb5 _ (List.mem_of_getElem? (i := 9) rfl)) rfl
  · exact qTb_in (tb5 _ (List.mem_of_getElem? (i := 11) rfl)) rfl
  · exact qTb_in (tb5 _ (List.mem_of_getElem? (i := 13) rfl)) rfl
  · exact qTb_in (tb5 _ (List.mem_of_getElem? (i := 15) rfl)) rfl
  · exact qTb_in (tb5 _ (List.mem_of_getElem? (i := 17) rfl)) rfl
  · exact qTb_in (tb5 _ (List.mem_of_getElem? (i := 19) rfl)) rfl
  · exact qTb_in (tb5 _ (List.mem_of_getElem? (i := 21) rfl)) rfl
  · exact qTb_in (tb5 _ (List.mem_of_getElem? (i := 23) rfl)) rfl
  · exact qTb_in (tb5 _ (List.mem_of_getElem? (i := 25) rfl)) rfl
  · exact qTb_in (tb5 _ (List.mem_of_getElem? (i := 27) rfl)) rfl
  · exact qTb_in (tb5 _ (List.mem_of_getElem? (i := 29) rfl)) rfl
  · exact qTb_in (tb5 _ (List.mem_of_getElem? (i := 31) rfl)) rfl
  · exact qTb_in (tb5 _ (List.mem_of_getElem? (i := 33) rfl)) rfl
  · exact qTb_in (tb5 _ (List.mem_of_getElem? (i := 35) rfl)) rfl
  · exact qTb_in (tb5 _ (List.mem_of_getElem? (i := 37) rfl)) rfl
  · exact qTb_in (tb5 _ (List.mem_of_getElem? (i := 39) rfl)) rfl
  · exact qTb_in (tb5 _ (List.mem_of_getElem? (i := 41) rfl)) rfl
  · exact qTb_in (tb5 _ (List.mem_of_getElem? (i := 43) rfl)) rfl
  · exact qTb_in (tb5 _ (List.mem_of_getElem? (i := 45) rfl)) rfl
  · exact qTb_in (tb5 _ (List.mem_of_getElem? (i := 47) rfl)) rfl
  · exact qTb_in (tb5 _ (List.mem_of_getElem? (i := 49) rfl)) rfl
  · exact qTb_in (tb5 _ (List.mem_of_getElem? (i := 51) rfl)) rfl
  · exact qTb_in (tb5 _ (List.mem_of_getElem? (i := 53) rfl)) rfl
  · exact qTb_in (tb5 _ (List.mem_of_getElem? (i := 55) rfl)) rfl
  · exact qTb_in (tb5 _ (List.mem_of_getElem? (i := 57) rfl)) rfl
  · exact qTb_in (tb5 _ (List.mem_of_getElem? (i := 59) rfl)) rfl
  · exact qTb_in (tb5 _ (List.mem_of_getElem? (i := 61) rfl)) rfl
  · exact qTb_in (tb5 _ (List.mem_of_getElem? (i := 63) rfl)) rfl
  · exact qTb_in (tb5 _ (List.mem_of_getElem? (i := 65) rfl)) rfl
theorem inX10 : Cond.initialized RX10 ∈ qTb := qTb_in (tb1 _ (List.mem_of_getElem? (i := 11) rfl)) rfl
theorem mkX10 : Cond.instantiable RX10 38 ∈ qTb := qTb_in (tb4 _ (List.mem_of_getElem? (i := 187) rfl)) rfl
theorem qC10 : qCls 10 RX10 TX10 38 tyX10 := ⟨rfl, by decide, by decide, cwX10, tyX10_ok, nmX10, by decide +kernel, mkX10, inX10⟩
theorem flX9_12 : qFld RX9 12 9 0 true true := ⟨RX9, TX9, 13, tyX9, qC9, by decide, by decide, rfl, fun _ => rfl, qTb_in (tb2 _ (List.mem_of_getElem? (i := 2) rfl)) rfl⟩
theorem flX9_16 : qFld RX9 16 9 1 true true := ⟨RX9, TX9, 13, tyX9, qC9, by decide, by decide, rfl, fun _ => rfl, qTb_in (tb2 _ (List.mem_of_getElem? (i := 3) rfl)) rfl⟩
theorem flX9_22 : qFld RX9 22 9 2 true true := ⟨RX9, TX9, 13, tyX9, qC9, by decide, by decide, rfl, fun _ => rfl, qTb_in (tb2 _ (List.mem_of_getElem? (i := 4) rfl)) rfl⟩
theorem flX9_29 : qFld RX9 29 9 3 true true := ⟨RX9, TX9, 13, tyX9, qC9, by decide, by decide, rfl, fun _ => rfl, qTb_in (tb2 _ (List.mem_of_getElem? (i := 5) rfl)) rfl⟩
theorem flX9_36 : qFld RX9 36 9 4 true true := ⟨RX9, TX9, 13, tyX9, qC9, by decide, by decide, rfl, fun _ => rfl, qTb_in (tb2 _ (List.mem_of_getElem? (i := 6) rfl)) rfl⟩
theorem flX9_45 : qFld RX9 45 9 5 true true := ⟨RX9, TX9, 13, tyX9, qC9, by decide, by decide, rfl, fun _ => rfl, qTb_in (tb2 _ (List.mem_of_getElem? (i := 7) rfl)) rfl⟩
theorem flX9_52 : qFld RX9 52 9 6 true true := ⟨RX9, TX9, 13, tyX9, qC9, by decide, by decide, rfl, fun _ => rfl, qTb_in (tb2 _ (List.mem_of_getElem? (i := 8) rfl)) rfl⟩
theorem flX9_59 : qFld RX9 59 9 7 true true := ⟨RX9, TX9, 13, tyX9, qC9, by decide, by decide, rfl, fun _ => rfl, qTb_in (tb2 _ (List.mem_of_getElem? (i := 9) rfl)) rfl⟩
theorem flX9_65 : qFld RX9 65 9 8 true true := ⟨RX9, TX9, 13, tyX9, qC9, by decide, by decide, rfl, fun _ => rfl, qTb_in (tb2 _ (List.mem_of_getElem? (i := 10) rfl)) rfl⟩
theorem flX9_72 : qFld RX9 72 9 9 true true := ⟨RX9, TX9, 13, tyX9, qC9, by decide, by decide, rfl, fun _ => rfl, qTb_in (tb2 _ (List.mem_of_getElem? (i := 11) rfl)) rfl⟩
theorem flX9_77 : qFld RX9 77 9 10 true true := ⟨RX9, TX9, 13, tyX9, qC9, by decide, by decide, rfl, fun _ => rfl, qTb_in (tb2 _ (List.mem_of_getElem? (i := 12) rfl)) rfl⟩
theorem flX9_81 : qFld RX9 81 9 11 true true := ⟨RX9, TX9, 13, tyX9, qC9, by decide, by decide, rfl, fun _ => rfl, qTb_in (tb2 _ (List.mem_of_getElem? (i := 13) rfl)) rfl⟩
theorem flX9_85 : qFld RX9 85 9 12 true true := ⟨RX9, TX9, 13, tyX9, qC9, by decide, by decide, rfl, fun _ => rfl, qTb_in (tb2 _ (List.mem_of_getElem? (i := 14) rfl)) rfl⟩
theorem flX0_9 : qFld RX0 9 0 0 true true := ⟨RX0, TX0, 3, tyX0, qC0, by decide, by decide, rfl, fun _ => rfl, qTb_in (tb1 _ (List.mem_of_getElem? (i := 55) rfl)) rfl⟩
theorem flX0_15 : qFld RX0 15 0 1 false false := ⟨RX0, TX0, 3, tyX0, qC0, by decide, by decide, rfl, (fun h => by cases h), qTb_in (tb1 _ (List.mem_of_getElem? (i := 56) rfl)) rfl⟩
theorem flX0_19 : qFld RX0 19 0 2 false false := ⟨RX0, TX0, 3, tyX0, qC0, by decide, by decide, rfl, (fun h => by cases h), qTb_in (tb1 _ (List.mem_of_getElem? (i := 57) rfl)) rfl⟩
theorem flX1_11 : qFld RX1 11 1 0 true true := ⟨RX1, TX1, 7, tyX1, qC1, by decide, by decide, rfl, fun _ => rfl, qTb_in (tb1 _ (List.mem_of_getElem? (i := 67) rfl)) rfl⟩
theorem flX1_17 : qFld RX1 17 1 1 true true := ⟨RX1, TX1, 7, tyX1, qC1, by decide, by decide, rfl, fun _ => rfl, qTb_in (tb1 _ (List.mem_of_getElem? (i := 68) rfl)) rfl⟩
theorem flX1_21 : qFld RX1 21 1 2 true true := ⟨RX1, TX1, 7, tyX1, qC1, by decide, by decide, rfl, fun _ => rfl, qTb_in (tb1 _ (List.mem_of_getElem? (i := 69) rfl)) rfl⟩
theorem flX1_24 : qFld RX1 24 1 3 true true := ⟨RX1, TX1, 7, tyX1, qC1, by decide, by decide, rfl, fun _ => rfl, qTb_in (tb1 _ (List.mem_of_getElem? (i := 70) rfl)) rfl⟩
theorem flX1_27 : qFld RX1 27 1 4 true true := ⟨RX1, TX1, 7, tyX1, qC1, by decide, by decide, rfl, fun _ => rfl, qTb_in (tb1 _ (List.mem_of_getElem? (i := 71) rfl)) rfl⟩
theorem flX1_30 : qFld RX1 30 1 5 true true := ⟨RX1, TX1, 7, tyX1, qC1, by decide, by decide, rfl, fun _ => rfl, qTb_in (tb1 _ (List.mem_of_getElem? (i := 72) rfl)) rfl⟩
theorem flX1_35 : qFld RX1 35 1 6 false false := ⟨RX1, TX1, 7, tyX1, qC1, by decide, by decide, rfl, (fun h => by cases h), qTb_in (tb1 _ (List.mem_of_getElem? (i := 73) rfl)) rfl⟩
theorem flX2_12 : qFld RX2 12 2 2 true true := ⟨RX2, TX2, 6, tyX2, qC2, by decide, by decide, rfl, fun _ => rfl, qTb_in (tb1 _ (List.mem_of_getElem? (i := 149) rfl)) rfl⟩
theorem flX2_18 : qFld RX2 18 2 3 true true := ⟨RX2, TX2, 6, tyX2, qC2, by decide, by decide, rfl, fun _ => rfl, qTb_in (tb1 _ (List.mem_of_getElem? (i := 150) rfl)) rfl⟩
theorem flX2_22 : qFld RX2 22 2 4 true true := ⟨RX2, TX2, 6, tyX2, qC2, by decide, by decide, rfl, fun _ => rfl, qTb_in (tb1 _ (List.mem_of_getElem? (i := 151) rfl)) rfl⟩
theorem flX2_26 : qFld RX2 26 2 0 true true := ⟨RX2, TX2, 6, tyX2, qC2, by decide, by decide, rfl, fun _ => rfl, qTb_in (tb1 _ (List.mem_of_getElem? (i := 147) rfl)) rfl⟩
theorem flX2_30 : qFld RX2 30 2 1 true true := ⟨RX2, TX2, 6, tyX2, qC2, by decide, by decide, rfl, fun _ => rfl, qTb_in (tb1 _ (List.mem_of_getElem? (i := 148) rfl)) rfl⟩
theorem flX2_34 : qFld RX2 34 2 5 false false := ⟨RX2, TX2, 6, tyX2, qC2, by decide, by decide, rfl, (fun h => by cases h), qTb_in (tb1 _ (List.mem_of_getElem? (i := 152) rfl)) rfl⟩
theorem flX3_9 : qFld RX3 9 3 0 true true := ⟨RX3, TX3, 1, tyX3, qC3, by decide, by decide, rfl, fun _ => rfl, qTb_in (tb1 _ (List.mem_of_getElem? (i := 135) rfl)) rfl⟩
theorem flX4_9 : qFld RX4 9 4 0 true true := ⟨RX4, TX4, 4, tyX4, qC4, by decide, by decide, rfl, fun _ => rfl, qTb_in (tb1 _ (List.mem_of_getElem? (i := 172) rfl)) rfl⟩
theorem flX4_15 : qFld RX4 15 4 1 true true := ⟨RX4, TX4, 4, tyX4, qC4, by decide, by decide, rfl, fun _ => rfl, qTb_in (tb1 _ (List.mem_of_getElem? (i := 173) rfl)) rfl⟩
theorem flX4_18 : qFld RX4 18 4 2 true true := ⟨RX4, TX4, 4, tyX4, qC4, by decide, by decide, rfl, fun _ => rfl, qTb_in (tb1 _ (List.mem_of_getElem? (i := 174) rfl)) rfl⟩
theorem flX4_21 : qFld RX4 21 4 3 false false := ⟨RX4, TX4, 4, tyX4, qC4, by decide, by decide, rfl, (fun h => by cases h), qTb_in (tb1 _ (List.mem_of_getElem? (i := 175) rfl)) rfl⟩
theorem flX5_9 : qFld RX5 9 5 0 true true := ⟨RX5, TX5, 3, tyX5, qC5, by decide, by decide, rfl, fun _ => rfl, qTb_in (tb1 _ (List.mem_of_getElem? (i := 230) rfl)) rfl⟩
theorem flX5_15 : qFld RX5 15 5 2 false false := ⟨RX5, TX5, 3, tyX5, qC5, by decide, by decide, rfl, (fun h => by cases h), qTb_in (tb1 _ (List.mem_of_getElem? (i := 232) rfl)) rfl⟩
theorem flX5_19 : qFld RX5 19 5 1 false false := ⟨RX5, TX5, 3, tyX5, qC5, by decide, by decide, rfl, (fun h => by cases h), qTb_in (tb1 _ (List.mem_of_getElem? (i := 231) rfl)) rfl⟩
theorem flX6_9 : qFld RX6 9 6 0 true true := ⟨RX6, TX6, 10, tyX6, qC6, by decide, by decide, rfl, fun _ => rfl, qTb_in (tb1 _ (List.mem_of_getElem? (i := 191) rfl)) rfl⟩
theorem flX6_15 : qFld RX6 15 6 1 true true := ⟨RX6, TX6, 10, tyX6, qC6, by decide, by decide, rfl, fun _ => rfl, qTb_in (tb1 _ (List.mem_of_getElem? (i := 192) rfl)) rfl⟩
theorem flX6_18 : qFld RX6 18 6 2 true true := ⟨RX6, TX6, 10, tyX6, qC6, by decide, by decide, rfl, fun _ => rfl, qTb_in (tb1 _ (List.mem_of_getElem? (i := 193) rfl)) rfl⟩
theorem flX6_22 : qFld RX6 22 6 3 true true := ⟨RX6, TX6, 10, tyX6, qC6, by decide, by decide, rfl, fun _ => rfl, qTb_in (tb1 _ (List.mem_of_getElem? (i := 194) rfl)) rfl⟩
theorem flX6_25 : qFld RX6 25 6 4 true true := ⟨RX6, TX6, 10, tyX6, qC6, by decide, by decide, rfl, fun _ => rfl, qTb_in (tb1 _ (List.mem_of_getElem? (i := 195) rfl)) rfl⟩
theorem flX6_28 : qFld RX6 28 6 5 true false := ⟨RX6, TX6, 10, tyX6, qC6, by decide, by decide, rfl, (fun h => by cases h), qTb_in (tb1 _ (List.mem_of_getElem? (i := 196) rfl)) rfl⟩
theorem flX6_32 : qFld RX6 32 6 6 true false := ⟨RX6, TX6, 10, tyX6, qC6, by decide, by decide, rfl, (fun h => by cases h), qTb_in (tb1 _ (List.mem_of_getElem? (i := 197) rfl)) rfl⟩
theorem flX6_57 : qFld RX6 57 6 7 false false := ⟨RX6, TX6, 10, tyX6, qC6, by decide, by decide, rfl, (fun h => by cases h), qTb_in (tb1 _ (List.mem_of_getElem? (i := 198) rfl)) rfl⟩
theorem flX6_87 : qFld RX6 87 6 9 false false := ⟨RX6, TX6, 10, tyX6, qC6, by decide, by decide, rfl, (fun h => by cases h), qTb_in (tb1 _ (List.mem_of_getElem? (i := 200) rfl)) rfl⟩
theorem flX6_107 : qFld RX6 107 6 8 false false := ⟨RX6, TX6, 10, tyX6, qC6, by decide, by decide, rfl, (fun h => by cases h), qTb_in (tb1 _ (List.mem_of_getElem? (i := 199) rfl)) rfl⟩
theorem flX7_9 : qFld RX7 9 7 0 true true := ⟨RX7, TX7, 2, tyX7, qC7, by decide, by decide, rfl, fun _ => rfl, qTb_in (tb1 _ (List.mem_of_getElem? (i := 34) rfl)) rfl⟩
theorem flX7_15 : qFld RX7 15 7 1 false false := ⟨RX7, TX7, 2, tyX7, qC7, by decide, by decide, rfl, (fun h => by cases h), qTb_in (tb1 _ (List.mem_of_getElem? (i := 35) rfl)) rfl⟩
theorem flX8_11 : qFld RX8 11 8 0 true true := ⟨RX8, TX8, 11, tyX8, qC8, by decide, by decide, rfl, fun _ => rfl, qTb_in (tb1 _ (List.mem_of_getElem? (i := 95) rfl)) rfl⟩
theorem flX8_15 : qFld RX8 15 8 1 true true := ⟨RX8, TX8, 11, tyX8, qC8, by decide, by decide, rfl, fun _ => rfl, qTb_in (tb1 _ (List.mem_of_getElem? (i := 96) rfl)) rfl⟩
theorem flX8_18 : qFld RX8 18 8 2 true true := ⟨RX8, TX8, 11, tyX8, qC8, by decide, by decide, rfl, fun _ => rfl, qTb_in (tb1 _ (List.mem_of_getElem? (i := 97) rfl)) rfl⟩
theorem flX8_21 : qFld RX8 21 8 3 true true := ⟨RX8, TX8, 11, tyX8, qC8, by decide, by decide, rfl, fun _ => rfl, qTb_in (tb1 _ (List.mem_of_getElem? (i := 98) rfl)) rfl⟩
theorem flX8_24 : qFld RX8 24 8 4 true true := ⟨RX8, TX8, 11, tyX8, qC8, by decide, by decide, rfl, fun _ => rfl, qTb_in (tb1 _ (List.mem_of_getElem? (i := 99) rfl)) rfl⟩
theorem flX8_27 : qFld RX8 27 8 5 true true := ⟨RX8, TX8, 11, tyX8, qC8, by decide, by decide, rfl, fun _ => rfl, qTb_in (tb1 _ (List.mem_of_getElem? (i := 100) rfl)) rfl⟩
theorem flX8_30 : qFld RX8 30 8 6 true true := ⟨RX8, TX8, 11, tyX8, qC8, by decide, by decide, rfl, fun _ => rfl, qTb_in (tb1 _ (List.mem_of_getElem? (i := 101) rfl)) rfl⟩
theorem flX8_33 : qFld RX8 33 8 7 true true := ⟨RX8, TX8, 11, tyX8, qC8, by decide, by decide, rfl, fun _ => rfl, qTb_in (tb1 _ (List.mem_of_getElem? (i := 102) rfl)) rfl⟩
theorem flX8_36 : qFld RX8 36 8 8 true true := ⟨RX8, TX8, 11, tyX8, qC8, by decide, by decide, rfl, fun _ => rfl, qTb_in (tb1 _ (List.mem_of_getElem? (i := 103) rfl)) rfl⟩
theorem flX8_74 : qFld RX8 74 8 9 false false := ⟨RX8, TX8, 11, tyX8, qC8, by decide, by decide, rfl, (fun h => by cases h), qTb_in (tb1 _ (List.mem_of_getElem? (i := 104) rfl)) rfl⟩
theorem flX8_78 : qFld RX8 78 8 10 false false := ⟨RX8, TX8, 11, tyX8, qC8, by decide, by decide, rfl, (fun h => by cases h), qTb_in (tb1 _ (List.mem_of_getElem? (i := 105) rfl)) rfl⟩
theorem flX10_9 : qFld RX10 9 10 0 true true := ⟨RX10, TX10, 38, tyX10, qC10, by decide, by decide, rfl, fun _ => rfl, qTb_in (tb4 _ (List.mem_of_getElem? (i := 193) rfl)) rfl⟩
theorem flX10_13 : qFld RX10 13 10 1 true true := ⟨RX10, TX10, 38, tyX10, qC10, by decide, by decide, rfl, fun _ => rfl, qTb_in (tb4 _ (List.mem_of_getElem? (i := 194) rfl)) rfl⟩
theorem flX10_16 : qFld RX10 16 10 2 true true := ⟨RX10, TX10, 38, tyX10, qC10, by decide, by decide, rfl, fun _ => rfl, qTb_in (tb4 _ (List.mem_of_getElem? (i := 195) rfl)) rfl⟩
theorem flX10_19 : qFld RX10 19 10 3 true true := ⟨RX10, TX10, 38, tyX10, qC10, by decide, by decide, rfl, fun _ => rfl, qTb_in (tb4 _ (List.mem_of_getElem? (i := 196) rfl)) rfl⟩
theorem flX10_22 : qFld RX10 22 10 4 true true := ⟨RX10, TX10, 38, tyX10, qC10, by decide, by decide, rfl, fun _ => rfl, qTb_in (tb4 _ (List.mem_of_getElem? (i := 197) rfl)) rfl⟩
theorem flX10_25 : qFld RX10 25 10 6 true true := ⟨RX10, TX10, 38, tyX10, qC10, by decide, by decide, rfl, fun _ => rfl, qTb_in (tb4 _ (List.mem_of_getElem? (i := 199) rfl)) rfl⟩
theorem flX10_28 : qFld RX10 28 10 10 true true := ⟨RX10, TX10, 38, tyX10, qC10, by decide, by decide, rfl, fun _ => rfl, qTb_in (tb4 _ (List.mem_of_getElem? (i := 203) rfl)) rfl⟩
theorem flX10_31 : qFld RX10 31 10 12 true true := ⟨RX10, TX10, 38, tyX10, qC10, by decide, by decide, rfl, fun _ => rfl, qTb_in (tb4 _ (List.mem_of_getElem? (i := 205) rfl)) rfl⟩
theorem flX10_34 : qFld RX10 34 10 13 false false := ⟨RX10, TX10, 38, tyX10, qC10, by decide, by decide, rfl, (fun h => by cases h), qTb_in (tb4 _ (List.mem_of_getElem? (i := 206) rfl)) rfl⟩
theorem flX10_38 : qFld RX10 38 10 14 true true := ⟨RX10, TX10, 38, tyX10, qC10, by decide, by decide, rfl, fun _ => rfl, qTb_in (tb4 _ (List.mem_of_getElem? (i := 207) rfl)) rfl⟩
theorem flX10_41 : qFld RX10 41 10 15 true true := ⟨RX10, TX10, 38, tyX10, qC10, by decide, by decide, rfl, fun _ => rfl, qTb_in (tb4 _ (List.mem_of_getElem? (i := 208) rfl)) rfl⟩
theorem flX10_44 : qFld RX10 44 10 16 true true := ⟨RX10, TX10, 38, tyX10, qC10, by decide, by decide, rfl, fun _ => rfl, qTb_in (tb4 _ (List.mem_of_getElem? (i := 209) rfl)) rfl⟩
theorem flX10_47 : qFld RX10 47 10 17 true true := ⟨RX10, TX10, 38, tyX10, qC10, by decide, by decide, rfl, fun _ => rfl, qTb_in (tb4 _ (List.mem_of_getElem? (i := 210) rfl)) rfl⟩
theorem flX10_50 : qFld RX10 50 10 18 true true := ⟨RX10, TX10, 38, tyX10, qC10, by decide, by decide, rfl, fun _ => rfl, qTb_in (tb4 _ (List.mem_of_getElem? (i := 211) rfl)) rfl⟩
theorem flX10_53 : qFld RX10 53 10 19 true true := ⟨RX10, TX10, 38, tyX10, qC10, by decide, by decide, rfl, fun _ => rfl, qTb_in (tb4 _ (List.mem_of_getElem? (i := 212) rfl)) rfl⟩
theorem flX10_56 : qFld RX10 56 10 20 true true := ⟨RX10, TX10, 38, tyX10, qC10, by decide, by decide, rfl, fun _ => rfl, qTb_in (tb4 _ (List.mem_of_getElem? (i := 213) rfl)) rfl⟩
theorem flX10_59 : qFld RX10 59 10 22 true true := ⟨RX10, TX10, 38, tyX10, qC10, by decide, by decide, rfl, fun _ => rfl, qTb_in (tb4 _ (List.mem_of_getElem? (i := 215) rfl)) rfl⟩
theorem flX10_63 : qFld RX10 63 10 23 true true := ⟨RX10, TX10, 38, tyX10, qC10, by decide, by decide, rfl, fun _ => rfl, qTb_in (tb4 _ (List.mem_of_getElem? (i := 216) rfl)) rfl⟩
theorem flX10_66 : qFld RX10 66 10 26 true true := ⟨RX10, TX10, 38, tyX10, qC10, by decide, by decide, rfl, fun _ => rfl, qTb_in (tb4 _ (List.mem_of_getElem? (i := 219) rfl)) rfl⟩
theorem flX10_69 : qFld RX10 69 10 28 true true := ⟨RX10, TX10, 38, tyX10, qC10, by decide, by decide, rfl, fun _ => rfl, qTb_in (tb4 _ (List.mem_of_getElem? (i := 221) rfl)) rfl⟩
theorem flX10_72 : qFld RX10 72 10 29 true true := ⟨RX10, TX10, 38, tyX10, qC10, by decide, by decide, rfl, fun _ => rfl, qTb_in (tb4 _ (List.mem_of_getElem? (i := 222) rfl)) rfl⟩
theorem flX10_75 : qFld RX10 75 10 30 true true := ⟨RX10, TX10, 38, tyX10, qC10, by decide, by decide, rfl, fun _ => rfl, qTb_in (tb4 _ (List.mem_of_getElem? (i := 223) rfl)) rfl⟩
theorem flX10_78 : qFld RX10 78 10 31 true true := ⟨RX10, TX10, 38, tyX10, qC10, by decide, by decide, rfl, fun _ => rfl, qTb_in (tb4 _ (List.mem_of_getElem? (i := 224) rfl)) rfl⟩
theorem flX10_81 : qFld RX10 81 10 33 true true := ⟨RX10, TX10, 38, tyX10, qC10, by decide, by decide, rfl, fun _ => rfl, qTb_in (tb4 _ (List.mem_of_getElem? (i := 226) rfl)) rfl⟩
theorem flX10_84 : qFld RX10 84 10 34 true true := ⟨RX10, TX10, 38, tyX10, qC10, by decide, by decide, rfl, fun _ => rfl, qTb_in (tb4 _ (List.mem_of_getElem? (i := 227) rfl)) rfl⟩
theorem flX10_87 : qFld RX10 87 10 37 true true := ⟨RX10, TX10, 38, tyX10, qC10, by decide, by decide, rfl, fun _ => rfl, qTb_in (tb4 _ (List.mem_of_getElem? (i := 230) rfl)) rfl⟩
theorem flX10_96 : qFld RX10 96 10 5 false false := ⟨RX10, TX10, 38, tyX10, qC10, by decide, by decide, rfl, (fun h => by cases h), qTb_in (tb4 _ (List.mem_of_getElem? (i := 198) rfl)) rfl⟩
theorem flX10_103 : qFld RX10 103 10 7 false false := ⟨RX10, TX10, 38, tyX10, qC10, by decide, by decide, rfl, (fun h => by cases h), qTb_in (tb4 _ (List.mem_of_getElem? (i := 200) rfl)) rfl⟩
theorem flX10_106 : qFld RX10 106 10 8 false false := ⟨RX10, TX10, 38, tyX10, qC10, by decide, by decide, rfl, (fun h => by cases h), qTb_in (tb4 _ (List.mem_of_getElem? (i := 201) rfl)) rfl⟩
theorem flX10_109 : qFld RX10 109 10 27 false false := ⟨RX10, TX10, 38, tyX10, qC10, by decide, by decide, rfl, (fun h => by cases h), qTb_in (tb4 _ (List.mem_of_getElem? (i := 220) rfl)) rfl⟩
theorem flX10_112 : qFld RX10 112 10 9 false false := ⟨RX10, TX10, 38, tyX10, qC10, by decide, by decide, rfl, (fun h => by cases h), qTb_in (tb4 _ (List.mem_of_getElem? (i := 202) rfl)) rfl⟩
theorem flX10_135 : qFld RX10 135 10 21 false false := ⟨RX10, TX10, 38, tyX10, qC10, by decide, by decide, rfl, (fun h => by cases h), qTb_in (tb4 _ (List.mem_of_getElem? (i := 214) rfl)) rfl⟩
theorem flX10_138 : qFld RX10 138 10 25 false false := ⟨RX10, TX10, 38, tyX10, qC10, by decide, by decide, rfl, (fun h => by cases h), qTb_in (tb4 _ (List.mem_of_getElem? (i := 218) rfl)) rfl⟩
theorem flX10_160 : qFld RX10 160 10 24 false false := ⟨RX10, TX10, 38, tyX10, qC10, by decide, by decide, rfl, (fun h => by cases h), qTb_in (tb4 _ (List.mem_of_getElem? (i := 217) rfl)) rfl⟩
theorem flX10_180 : qFld RX10 180 10 11 false false := ⟨RX10, TX10, 38, tyX10, qC10, by decide, by decide, rfl, (fun h => by cases h), qTb_in (tb4 _ (List.mem_of_getElem? (i := 204) rfl)) rfl⟩
theorem flX10_256 : qFld RX10 256 10 35 false false := ⟨RX10, TX10, 38, tyX10, qC10, by decide, by decide, rfl, (fun h => by cases h), qTb_in (tb4 _ (List.mem_of_getElem? (i := 228) rfl)) rfl⟩
theorem flX10_259 : qFld RX10 259 10 36 false false := ⟨RX10, TX10, 38, tyX10, qC10, by decide, by decide, rfl, (fun h => by cases h), qTb_in (tb4 _ (List.mem_of_getElem? (i := 229) rfl)) rfl⟩
theorem flX10_284 : qFld RX10 284 10 32 false false := ⟨RX10, TX10, 38, tyX10, qC10, by decide, by decide, rfl, (fun h => by cases h), qTb_in (tb4 _ (List.mem_of_getElem? (i := 225) rfl)) rfl⟩
theorem inJ0 : Cond.initialized RJ0 ∈ qTb := qTb_in (tb1 _ (List.mem_of_getElem? (i := 15) rfl)) rfl
theorem inJ1 : Cond.initialized RJ1 ∈ qTb := qTb_in (tb1 _ (List.mem_of_getElem? (i := 16) rfl)) rfl
theorem inJ3 : Cond.initialized RJ3 ∈ qTb := qTb_in (tb1 _ (List.mem_of_getElem? (i := 17) rfl)) rfl
theorem inJ7 : Cond.initialized RJ7 ∈ qTb := qTb_in (tb1 _ (List.mem_of_getElem? (i := 14) rfl)) rfl
theorem flJ0_9 : Cond.fieldLink RJ0 9 "java/lang/String" "value" "[B" ∈ qTb := qTb_in (tb6 _ (List.mem_of_getElem? (i := 232) rfl)) rfl
theorem flJ0_15 : Cond.fieldLink RJ0 15 "java/lang/String" "coder" "B" ∈ qTb := qTb_in (tb6 _ (List.mem_of_getElem? (i := 233) rfl)) rfl
theorem flJ0_38 : Cond.fieldLink RJ0 38 "java/lang/String" "COMPACT_STRINGS" "Z" ∈ qTb := qTb_in (tb4 _ (List.mem_of_getElem? (i := 30) rfl)) rfl
theorem flJ0_1053 : Cond.fieldLink RJ0 1053 "jdk/internal/util/Preconditions" "SIOOBE_FORMATTER" "Ljava/util/function/BiFunction;" ∈ qTb := qTb_in (tb4 _ (List.mem_of_getElem? (i := 46) rfl)) rfl
theorem caX0_init : qCal yX0_init cX0_init 1 none 0 := ⟨qTb_in (tb1 _ (List.mem_of_getElem? (i := 53) rfl)) rfl, inX0, ⟨by decide, by decide, by decide +kernel⟩, by decide⟩
theorem imX0_init : Cond.instanceMethod yX0_init ∈ qTb := qTb_in (tb1 _ (List.mem_of_getElem? (i := 52) rfl)) rfl
theorem caX0_size : qCal yX0_size cX0_size 1 (some .int) 0 := ⟨qTb_in (tb2 _ (List.mem_of_getElem? (i := 148) rfl)) rfl, inX0, ⟨by decide, by decide, by decide +kernel⟩, by decide⟩
theorem imX0_size : Cond.instanceMethod yX0_size ∈ qTb := qTb_in (tb2 _ (List.mem_of_getElem? (i := 146) rfl)) rfl
theorem seX0_size : Cond.selects yX0_size.cls yX0_size yX0_size ∈ qTb := qTb_in (tb2 _ (List.mem_of_getElem? (i := 147) rfl)) rfl
theorem caX0_variables : qCal yX0_variables cX0_variables 1 (some .int) 0 := ⟨qTb_in (tb2 _ (List.mem_of_getElem? (i := 231) rfl)) rfl, inX0, ⟨by decide, by decide, by decide +kernel⟩, by decide⟩
theorem imX0_variables : Cond.instanceMethod yX0_variables ∈ qTb := qTb_in (tb2 _ (List.mem_of_getElem? (i := 229) rfl)) rfl
theorem seX0_variables : Cond.selects yX0_variables.cls yX0_variables yX0_variables ∈ qTb := qTb_in (tb2 _ (List.mem_of_getElem? (i := 230) rfl)) rfl
theorem caX0_at : qCal yX0_at cX0_at 2 (some .int) 1 := ⟨qTb_in (tb2 _ (List.mem_of_getElem? (i := 159) rfl)) rfl, inX0, ⟨by decide, by decide, by decide +kernel⟩, by decide⟩
theorem imX0_at : Cond.instanceMethod yX0_at ∈ qTb := qTb_in (tb2 _ (List.mem_of_getElem? (i := 157) rfl)) rfl
theorem seX0_at : Cond.selects yX0_at.cls yX0_at yX0_at ∈ qTb := qTb_in (tb2 _ (List.mem_of_getElem? (i := 158) rfl)) rfl
theorem caX0_isImplication : qCal yX0_isImplication cX0_isImplication 1 (some .boolean) 0 := ⟨qTb_in (tb2 _ (List.mem_of_getElem? (i := 144) rfl)) rfl, inX0, ⟨by decide, by decide, by decide +kernel⟩, by decide⟩
theorem imX0_isImplication : Cond.instanceMethod yX0_isImplication ∈ qTb := qTb_in (tb2 _ (List.mem_of_getElem? (i := 142) rfl)) rfl
theorem seX0_isImplication : Cond.selects yX0_isImplication.cls yX0_isImplication yX0_isImplication ∈ qTb := qTb_in (tb2 _ (List.mem_of_getElem? (i := 143) rfl)) rfl
theorem caX0_makeEmpty : qCal yX0_makeEmpty cX0_makeEmpty 1 none 0 := ⟨qTb_in (tb2 _ (List.mem_of_getElem? (i := 81) rfl)) rfl, inX0, ⟨by decide, by decide, by decide +kernel⟩, by decide⟩
theorem imX0_makeEmpty : Cond.instanceMethod yX0_makeEmpty ∈ qTb := qTb_in (tb2 _ (List.mem_of_getElem? (i := 79) rfl)) rfl
theorem seX0_makeEmpty : Cond.selects yX0_makeEmpty.cls yX0_makeEmpty yX0_makeEmpty ∈ qTb := qTb_in (tb2 _ (List.mem_of_getElem? (i := 80) rfl)) rfl
theorem caX0_addSign : qCal yX0_addSign cX0_addSign 2 (some .boolean) 1 := ⟨qTb_in (tb2 _ (List.mem_of_getElem? (i := 89) rfl)) rfl, inX0, ⟨by decide, by decide, by decide +kernel⟩, by decide⟩
theorem imX0_addSign : Cond.instanceMethod yX0_addSign ∈ qTb := qTb_in (tb2 _ (List.mem_of_getElem? (i := 87) rfl)) rfl
theorem seX0_addSign : Cond.selects yX0_addSign.cls yX0_addSign yX0_addSign ∈ qTb := qTb_in (tb2 _ (List.mem_of_getElem? (i := 88) rfl)) rfl
theorem caX0_addVariable : qCal yX0_addVariable cX0_addVariable 4 (some .boolean) 2 := ⟨qTb_in (tb2 _ (List.mem_of_getElem? (i := 93) rfl)) rfl, inX0, ⟨by decide, by decide, by decide +kernel⟩, by decide⟩
theorem imX0_addVariable : Cond.instanceMethod yX0_addVariable ∈ qTb := qTb_in (tb2 _ (List.mem_of_getElem? (i := 91) rfl)) rfl
theorem seX0_addVariable : Cond.selects yX0_addVariable.cls yX0_addVariable yX0_addVariable ∈ qTb := qTb_in (tb2 _ (List.mem_of_getElem? (i := 92) rfl)) rfl
theorem caX0_addLetter : qCal yX0_addLetter cX0_addLetter 3 (some .boolean) 2 := ⟨qTb_in (tb2 _ (List.mem_of_getElem? (i := 85) rfl)) rfl, inX0, ⟨by decide, by decide, by decide +kernel⟩, by decide⟩
theorem imX0_addLetter : Cond.instanceMethod yX0_addLetter ∈ qTb := qTb_in (tb2 _ (List.mem_of_getElem? (i := 83) rfl)) rfl
theorem seX0_addLetter : Cond.selects yX0_addLetter.cls yX0_addLetter yX0_addLetter ∈ qTb := qTb_in (tb2 _ (List.mem_of_getElem? (i := 84) rfl)) rfl
theorem caX0_copyFrom : qCal yX0_copyFrom cX0_copyFrom 2 none 1 := ⟨qTb_in (tb2 _ (List.mem_of_getElem? (i := 113) rfl)) rfl, inX0, ⟨by decide, by decide, by decide +kernel⟩, by decide⟩
theorem imX0_copyFrom : Cond.instanceMethod yX0_copyFrom ∈ qTb := qTb_in (tb2 _ (List.mem_of_getElem? (i := 111) rfl)) rfl
theorem seX0_copyFrom : Cond.selects yX0_copyFrom.cls yX0_copyFrom yX0_copyFrom ∈ qTb := qTb_in (tb2 _ (List.mem_of_getElem? (i := 112) rfl)) rfl
theorem caX0_sameAs : qCal yX0_sameAs cX0_sameAs 2 (some .boolean) 1 := ⟨qTb_in (tb2 _ (List.mem_of_getElem? (i := 101) rfl)) rfl, inX0, ⟨by decide, by decide, by decide +kernel⟩, by decide⟩
theorem imX0_sameAs : Cond.instanceMethod yX0_sameAs ∈ qTb := qTb_in (tb2 _ (List.mem_of_getElem? (i := 99) rfl)) rfl
theorem seX0_sameAs : Cond.selects yX0_sameAs.cls yX0_sameAs yX0_sameAs ∈ qTb := qTb_in (tb2 _ (List.mem_of_getElem? (i := 100) rfl)) rfl
theorem caX0_sameSigns : qCal yX0_sameSigns cX0_sameSigns 6 (some .boolean) 4 := ⟨qTb_in (tb2 _ (List.mem_of_getElem? (i := 105) rfl)) rfl, inX0, ⟨by decide, by decide, by decide +kernel⟩, by decide⟩
theorem imX0_sameSigns : Cond.instanceMethod yX0_sameSigns ∈ qTb := qTb_in (tb2 _ (List.mem_of_getElem? (i := 103) rfl)) rfl
theorem seX0_sameSigns : Cond.selects yX0_sameSigns.cls yX0_sameSigns yX0_sameSigns ∈ qTb := qTb_in (tb2 _ (List.mem_of_getElem? (i := 104) rfl)) rfl
theorem caX0_endOf : qCal yX0_endOf cX0_endOf 4 (some .int) 1 := ⟨qTb_in (tb3 _ (List.mem_of_getElem? (i := 76) rfl)) rfl, inX0, ⟨by decide, by decide, by decide +kernel⟩, by decide⟩
theorem imX0_endOf : Cond.instanceMethod yX0_endOf ∈ qTb := qTb_in (tb3 _ (List.mem_of_getElem? (i := 74) rfl)) rfl
theorem seX0_endOf : Cond.selects yX0_endOf.cls yX0_endOf yX0_endOf ∈ qTb := qTb_in (tb3 _ (List.mem_of_getElem? (i := 75) rfl)) rfl
theorem caX0_writeTo : qCal yX0_writeTo cX0_writeTo 3 none 1 := ⟨qTb_in (tb3 _ (List.mem_of_getElem? (i := 36) rfl)) rfl, inX0, ⟨by decide, by decide, by decide +kernel⟩, by decide⟩
theorem imX0_writeTo : Cond.instanceMethod yX0_writeTo ∈ qTb := qTb_in (tb3 _ (List.mem_of_getElem? (i := 34) rfl)) rfl
theorem seX0_writeTo : Cond.selects yX0_writeTo.cls yX0_writeTo yX0_writeTo ∈ qTb := qTb_in (tb3 _ (List.mem_of_getElem? (i := 35) rfl)) rfl
theorem caX1_init : qCal yX1_init cX1_init 2 none 0 := ⟨qTb_in (tb1 _ (List.mem_of_getElem? (i := 46) rfl)) rfl, inX1, ⟨by decide, by decide, by decide +kernel⟩, by decide⟩
theorem imX1_init : Cond.instanceMethod yX1_init ∈ qTb := qTb_in (tb1 _ (List.mem_of_getElem? (i := 45) rfl)) rfl
theorem caX1_count : qCal yX1_count cX1_count 1 (some .int) 0 := ⟨qTb_in (tb2 _ (List.mem_of_getElem? (i := 201) rfl)) rfl, inX1, ⟨by decide, by decide, by decide +kernel⟩, by decide⟩
theorem imX1_count : Cond.instanceMethod yX1_count ∈ qTb := qTb_in (tb2 _ (List.mem_of_getElem? (i := 199) rfl)) rfl
theorem seX1_count : Cond.selects yX1_count.cls yX1_count yX1_count ∈ qTb := qTb_in (tb2 _ (List.mem_of_getElem? (i := 200) rfl)) rfl
theorem caX1_isFull : qCal yX1_isFull cX1_isFull 1 (some .boolean) 0 := ⟨qTb_in (tb2 _ (List.mem_of_getElem? (i := 109) rfl)) rfl, inX1, ⟨by decide, by decide, by decide +kernel⟩, by decide⟩
theorem imX1_isFull : Cond.instanceMethod yX1_isFull ∈ qTb := qTb_in (tb2 _ (List.mem_of_getElem? (i := 107) rfl)) rfl
theorem seX1_isFull : Cond.selects yX1_isFull.cls yX1_isFull yX1_isFull ∈ qTb := qTb_in (tb2 _ (List.mem_of_getElem? (i := 108) rfl)) rfl
theorem caX1_has : qCal yX1_has cX1_has 2 (some .boolean) 1 := ⟨qTb_in (tb2 _ (List.mem_of_getElem? (i := 120) rfl)) rfl, inX1, ⟨by decide, by decide, by decide +kernel⟩, by decide⟩
theorem imX1_has : Cond.instanceMethod yX1_has ∈ qTb := qTb_in (tb2 _ (List.mem_of_getElem? (i := 118) rfl)) rfl
theorem seX1_has : Cond.selects yX1_has.cls yX1_has yX1_has ∈ qTb := qTb_in (tb2 _ (List.mem_of_getElem? (i := 119) rfl)) rfl
theorem caX1_at : qCal yX1_at cX1_at 2 (some (.object "CondensedDetachment$Formula")) 1 := ⟨qTb_in (tb2 _ (List.mem_of_getElem? (i := 136) rfl)) rfl, inX1, ⟨by decide, by decide, by decide +kernel⟩, by decide⟩
theorem imX1_at : Cond.instanceMethod yX1_at ∈ qTb := qTb_in (tb2 _ (List.mem_of_getElem? (i := 134) rfl)) rfl
theorem seX1_at : Cond.selects yX1_at.cls yX1_at yX1_at ∈ qTb := qTb_in (tb2 _ (List.mem_of_getElem? (i := 135) rfl)) rfl
theorem caX1_isAxiom : qCal yX1_isAxiom cX1_isAxiom 2 (some .boolean) 1 := ⟨qTb_in (tb3 _ (List.mem_of_getElem? (i := 54) rfl)) rfl, inX1, ⟨by decide, by decide, by decide +kernel⟩, by decide⟩
theorem imX1_isAxiom : Cond.instanceMethod yX1_isAxiom ∈ qTb := qTb_in (tb3 _ (List.mem_of_getElem? (i := 52) rfl)) rfl
theorem seX1_isAxiom : Cond.selects yX1_isAxiom.cls yX1_isAxiom yX1_isAxiom ∈ qTb := qTb_in (tb3 _ (List.mem_of_getElem? (i := 53) rfl)) rfl
theorem caX1_major : qCal yX1_major cX1_major 2 (some .int) 1 := ⟨qTb_in (tb2 _ (List.mem_of_getElem? (i := 239) rfl)) rfl, inX1, ⟨by decide, by decide, by decide +kernel⟩, by decide⟩
theorem imX1_major : Cond.instanceMethod yX1_major ∈ qTb := qTb_in (tb2 _ (List.mem_of_getElem? (i := 237) rfl)) rfl
theorem seX1_major : Cond.selects yX1_major.cls yX1_major yX1_major ∈ qTb := qTb_in (tb2 _ (List.mem_of_getElem? (i := 238) rfl)) rfl
theorem caX1_minor : qCal yX1_minor cX1_minor 2 (some .int) 1 := ⟨qTb_in (tb3 _ (List.mem_of_getElem? (i := 7) rfl)) rfl, inX1, ⟨by decide, by decide, by decide +kernel⟩, by decide⟩
theorem imX1_minor : Cond.instanceMethod yX1_minor ∈ qTb := qTb_in (tb3 _ (List.mem_of_getElem? (i := 5) rfl)) rfl
theorem seX1_minor : Cond.selects yX1_minor.cls yX1_minor yX1_minor ∈ qTb := qTb_in (tb3 _ (List.mem_of_getElem? (i := 6) rfl)) rfl
theorem caX1_depth : qCal yX1_depth cX1_depth 2 (some .int) 1 := ⟨qTb_in (tb3 _ (List.mem_of_getElem? (i := 15) rfl)) rfl, inX1, ⟨by decide, by decide, by decide +kernel⟩, by decide⟩
theorem imX1_depth : Cond.instanceMethod yX1_depth ∈ qTb := qTb_in (tb3 _ (List.mem_of_getElem? (i := 13) rfl)) rfl
theorem seX1_depth : Cond.selects yX1_depth.cls yX1_depth yX1_depth ∈ qTb := qTb_in (tb3 _ (List.mem_of_getElem? (i := 14) rfl)) rfl
theorem caX1_proofSigns : qCal yX1_proofSigns cX1_proofSigns 2 (some .long) 1 := ⟨qTb_in (tb3 _ (List.mem_of_getElem? (i := 23) rfl)) rfl, inX1, ⟨by decide, by decide, by decide +kernel⟩, by decide⟩
theorem imX1_proofSigns : Cond.instanceMethod yX1_proofSigns ∈ qTb := qTb_in (tb3 _ (List.mem_of_getElem? (i := 21) rfl)) rfl
theorem seX1_proofSigns : Cond.selects yX1_proofSigns.cls yX1_proofSigns yX1_proofSigns ∈ qTb := qTb_in (tb3 _ (List.mem_of_getElem? (i := 22) rfl)) rfl
theorem caX1_lastAxiom : qCal yX1_lastAxiom cX1_lastAxiom 2 (some .int) 1 := ⟨qTb_in (tb3 _ (List.mem_of_getElem? (i := 46) rfl)) rfl, inX1, ⟨by decide, by decide, by decide +kernel⟩, by decide⟩
theorem imX1_lastAxiom : Cond.instanceMethod yX1_lastAxiom ∈ qTb := qTb_in (tb3 _ (List.mem_of_getElem? (i := 44) rfl)) rfl
theorem seX1_lastAxiom : Cond.selects yX1_lastAxiom.cls yX1_lastAxiom yX1_lastAxiom ∈ qTb := qTb_in (tb3 _ (List.mem_of_getElem? (i := 45) rfl)) rfl
theorem caX1_shrinkTo : qCal yX1_shrinkTo cX1_shrinkTo 2 none 1 := ⟨qTb_in (tb2 _ (List.mem_of_getElem? (i := 210) rfl)) rfl, inX1, ⟨by decide, by decide, by decide +kernel⟩, by decide⟩
theorem imX1_shrinkTo : Cond.instanceMethod yX1_shrinkTo ∈ qTb := qTb_in (tb2 _ (List.mem_of_getElem? (i := 208) rfl)) rfl
theorem seX1_shrinkTo : Cond.selects yX1_shrinkTo.cls yX1_shrinkTo yX1_shrinkTo ∈ qTb := qTb_in (tb2 _ (List.mem_of_getElem? (i := 209) rfl)) rfl
theorem caX1_enter : qCal yX1_enter cX1_enter 5 (some .int) 3 := ⟨qTb_in (tb2 _ (List.mem_of_getElem? (i := 97) rfl)) rfl, inX1, ⟨by decide, by decide, by decide +kernel⟩, by decide⟩
theorem imX1_enter : Cond.instanceMethod yX1_enter ∈ qTb := qTb_in (tb2 _ (List.mem_of_getElem? (i := 95) rfl)) rfl
theorem seX1_enter : Cond.selects yX1_enter.cls yX1_enter yX1_enter ∈ qTb := qTb_in (tb2 _ (List.mem_of_getElem? (i := 96) rfl)) rfl
theorem caX1_covers : qCal yX1_covers cX1_covers 4 (some .boolean) 2 := ⟨qTb_in (tb3 _ (List.mem_of_getElem? (i := 102) rfl)) rfl, inX1, ⟨by decide, by decide, by decide +kernel⟩, by decide⟩
theorem imX1_covers : Cond.instanceMethod yX1_covers ∈ qTb := qTb_in (tb3 _ (List.mem_of_getElem? (i := 100) rfl)) rfl
theorem seX1_covers : Cond.selects yX1_covers.cls yX1_covers yX1_covers ∈ qTb := qTb_in (tb3 _ (List.mem_of_getElem? (i := 101) rfl)) rfl
theorem caX2_init : qCal yX2_init cX2_init 4 none 2 := ⟨qTb_in (tb1 _ (List.mem_of_getElem? (i := 143) rfl)) rfl, inX2, ⟨by decide, by decide, by decide +kernel⟩, by decide⟩
theorem imX2_init : Cond.instanceMethod yX2_init ∈ qTb := qTb_in (tb1 _ (List.mem_of_getElem? (i := 142) rfl)) rfl
theorem caX2_search : qCal yX2_search cX2_search 6 (some .int) 3 := ⟨qTb_in (tb3 _ (List.mem_of_getElem? (i := 111) rfl)) rfl, inX2, ⟨by decide, by decide, by decide +kernel⟩, by decide⟩
theorem imX2_search : Cond.instanceMethod yX2_search ∈ qTb := qTb_in (tb3 _ (List.mem_of_getElem? (i := 109) rfl)) rfl
theorem seX2_search : Cond.selects yX2_search.cls yX2_search yX2_search ∈ qTb := qTb_in (tb3 _ (List.mem_of_getElem? (i := 110) rfl)) rfl
theorem caX2_addAxioms : qCal yX2_addAxioms cX2_addAxioms 3 (some .boolean) 1 := ⟨qTb_in (tb3 _ (List.mem_of_getElem? (i := 115) rfl)) rfl, inX2, ⟨by decide, by decide, by decide +kernel⟩, by decide⟩
theorem imX2_addAxioms : Cond.instanceMethod yX2_addAxioms ∈ qTb := qTb_in (tb3 _ (List.mem_of_getElem? (i := 114) rfl)) rfl
theorem seX2_addAxioms : Cond.selects yX2_addAxioms.cls yX2_addAxioms yX2_addAxioms ∈ qTb := qTb_in (pb1 _ (List.mem_of_getElem? (i := 15) rfl)) rfl
theorem caX2_addLevel : qCal yX2_addLevel cX2_addLevel 3 (some .boolean) 1 := ⟨qTb_in (tb3 _ (List.mem_of_getElem? (i := 127) rfl)) rfl, inX2, ⟨by decide, by decide, by decide +kernel⟩, by decide⟩
theorem imX2_addLevel : Cond.instanceMethod yX2_addLevel ∈ qTb := qTb_in (tb3 _ (List.mem_of_getElem? (i := 126) rfl)) rfl
theorem seX2_addLevel : Cond.selects yX2_addLevel.cls yX2_addLevel yX2_addLevel ∈ qTb := qTb_in (pb2 _ (List.mem_of_getElem? (i := 1) rfl)) rfl
theorem caX2_combine : qCal yX2_combine cX2_combine 6 (some .boolean) 2 := ⟨qTb_in (tb3 _ (List.mem_of_getElem? (i := 131) rfl)) rfl, inX2, ⟨by decide, by decide, by decide +kernel⟩, by decide⟩
theorem imX2_combine : Cond.instanceMethod yX2_combine ∈ qTb := qTb_in (tb3 _ (List.mem_of_getElem? (i := 130) rfl)) rfl
theorem seX2_combine : Cond.selects yX2_combine.cls yX2_combine yX2_combine ∈ qTb := qTb_in (pb2 _ (List.mem_of_getElem? (i := 2) rfl)) rfl
theorem caX2_isKnown : qCal yX2_isKnown cX2_isKnown 3 (some .boolean) 1 := ⟨qTb_in (tb3 _ (List.mem_of_getElem? (i := 136) rfl)) rfl, inX2, ⟨by decide, by decide, by decide +kernel⟩, by decide⟩
theorem imX2_isKnown : Cond.instanceMethod yX2_isKnown ∈ qTb := qTb_in (tb3 _ (List.mem_of_getElem? (i := 135) rfl)) rfl
theorem seX2_isKnown : Cond.selects yX2_isKnown.cls yX2_isKnown yX2_isKnown ∈ qTb := qTb_in (pb2 _ (List.mem_of_getElem? (i := 3) rfl)) rfl
theorem caX2_addNew : qCal yX2_addNew cX2_addNew 2 (some .boolean) 1 := ⟨qTb_in (tb3 _ (List.mem_of_getElem? (i := 122) rfl)) rfl, inX2, ⟨by decide, by decide, by decide +kernel⟩, by decide⟩
theorem imX2_addNew : Cond.instanceMethod yX2_addNew ∈ qTb := qTb_in (tb3 _ (List.mem_of_getElem? (i := 121) rfl)) rfl
theorem seX2_addNew : Cond.selects yX2_addNew.cls yX2_addNew yX2_addNew ∈ qTb := qTb_in (pb2 _ (List.mem_of_getElem? (i := 0) rfl)) rfl
theorem caX2_covers : qCal yX2_covers cX2_covers 4 (some .boolean) 2 := ⟨qTb_in (tb3 _ (List.mem_of_getElem? (i := 141) rfl)) rfl, inX2, ⟨by decide, by decide, by decide +kernel⟩, by decide⟩
theorem imX2_covers : Cond.instanceMethod yX2_covers ∈ qTb := qTb_in (tb3 _ (List.mem_of_getElem? (i := 140) rfl)) rfl
theorem seX2_covers : Cond.selects yX2_covers.cls yX2_covers yX2_covers ∈ qTb := qTb_in (pb2 _ (List.mem_of_getElem? (i := 4) rfl)) rfl
theorem caX3_init : qCal yX3_init cX3_init 1 none 0 := ⟨qTb_in (tb1 _ (List.mem_of_getElem? (i := 133) rfl)) rfl, inX3, ⟨by decide, by decide, by decide +kernel⟩, by decide⟩
theorem imX3_init : Cond.instanceMethod yX3_init ∈ qTb := qTb_in (tb1 _ (List.mem_of_getElem? (i := 132) rfl)) rfl
theorem caX3_matches : qCal yX3_matches cX3_matches 8 (some .boolean) 2 := ⟨qTb_in (tb3 _ (List.mem_of_getElem? (i := 70) rfl)) rfl, inX3, ⟨by decide, by decide, by decide +kernel⟩, by decide⟩
theorem imX3_matches : Cond.instanceMethod yX3_matches ∈ qTb := qTb_in (tb3 _ (List.mem_of_getElem? (i := 68) rfl)) rfl
theorem seX3_matches : Cond.selects yX3_matches.cls yX3_matches yX3_matches ∈ qTb := qTb_in (tb3 _ (List.mem_of_getElem? (i := 69) rfl)) rfl
theorem caX4_init : qCal yX4_init cX4_init 1 none 0 := ⟨qTb_in (tb1 _ (List.mem_of_getElem? (i := 170) rfl)) rfl, inX4, ⟨by decide, by decide, by decide +kernel⟩, by decide⟩
theorem imX4_init : Cond.instanceMethod yX4_init ∈ qTb := qTb_in (tb1 _ (List.mem_of_getElem? (i := 169) rfl)) rfl
theorem caX4_replaceEntry : qCal yX4_replaceEntry cX4_replaceEntry 5 (some .int) 3 := ⟨qTb_in (tb3 _ (List.mem_of_getElem? (i := 153) rfl)) rfl, inX4, ⟨by decide, by decide, by decide +kernel⟩, by decide⟩
theorem imX4_replaceEntry : Cond.instanceMethod yX4_replaceEntry ∈ qTb := qTb_in (tb3 _ (List.mem_of_getElem? (i := 151) rfl)) rfl
theorem seX4_replaceEntry : Cond.selects yX4_replaceEntry.cls yX4_replaceEntry yX4_replaceEntry ∈ qTb := qTb_in (tb3 _ (List.mem_of_getElem? (i := 152) rfl)) rfl
theorem caX4_replaceDesignated : qCal yX4_replaceDesignated cX4_replaceDesignated 3 (some .int) 1 := ⟨qTb_in (tb3 _ (List.mem_of_getElem? (i := 161) rfl)) rfl, inX4, ⟨by decide, by decide, by decide +kernel⟩, by decide⟩
theorem imX4_replaceDesignated : Cond.instanceMethod yX4_replaceDesignated ∈ qTb := qTb_in (tb3 _ (List.mem_of_getElem? (i := 159) rfl)) rfl
theorem seX4_replaceDesignated : Cond.selects yX4_replaceDesignated.cls yX4_replaceDesignated yX4_replaceDesignated ∈ qTb := qTb_in (tb3 _ (List.mem_of_getElem? (i := 160) rfl)) rfl
theorem caX4_keepsDesignation : qCal yX4_keepsDesignation cX4_keepsDesignation 3 (some .boolean) 0 := ⟨qTb_in (tb3 _ (List.mem_of_getElem? (i := 169) rfl)) rfl, inX4, ⟨by decide, by decide, by decide +kernel⟩, by decide⟩
theorem imX4_keepsDesignation : Cond.instanceMethod yX4_keepsDesignation ∈ qTb := qTb_in (tb3 _ (List.mem_of_getElem? (i := 167) rfl)) rfl
theorem seX4_keepsDesignation : Cond.selects yX4_keepsDesignation.cls yX4_keepsDesignation yX4_keepsDesignation ∈ qTb := qTb_in (tb3 _ (List.mem_of_getElem? (i := 168) rfl)) rfl
theorem caX4_refutes : qCal yX4_refutes cX4_refutes 4 (some .boolean) 1 := ⟨qTb_in (tb3 _ (List.mem_of_getElem? (i := 181) rfl)) rfl, inX4, ⟨by decide, by decide, by decide +kernel⟩, by decide⟩
theorem imX4_refutes : Cond.instanceMethod yX4_refutes ∈ qTb := qTb_in (tb3 _ (List.mem_of_getElem? (i := 179) rfl)) rfl
theorem seX4_refutes : Cond.selects yX4_refutes.cls yX4_refutes yX4_refutes ∈ qTb := qTb_in (tb3 _ (List.mem_of_getElem? (i := 180) rfl)) rfl
theorem caX4_variableValue : qCal yX4_variableValue cX4_variableValue 2 (some .int) 1 := ⟨qTb_in (tb3 _ (List.mem_of_getElem? (i := 205) rfl)) rfl, inX4, ⟨by decide, by decide, by decide +kernel⟩, by decide⟩
theorem imX4_variableValue : Cond.instanceMethod yX4_variableValue ∈ qTb := qTb_in (tb3 _ (List.mem_of_getElem? (i := 203) rfl)) rfl
theorem seX4_variableValue : Cond.selects yX4_variableValue.cls yX4_variableValue yX4_variableValue ∈ qTb := qTb_in (tb3 _ (List.mem_of_getElem? (i := 204) rfl)) rfl
theorem caX4_countOf : qCal yX4_countOf cX4_countOf 6 (some .int) 2 := ⟨qTb_in (tb3 _ (List.mem_of_getElem? (i := 213) rfl)) rfl, inX4, ⟨by decide, by decide, by decide +kernel⟩, by decide⟩
theorem imX4_countOf : Cond.instanceMethod yX4_countOf ∈ qTb := qTb_in (tb3 _ (List.mem_of_getElem? (i := 211) rfl)) rfl
theorem seX4_countOf : Cond.selects yX4_countOf.cls yX4_countOf yX4_countOf ∈ qTb := qTb_in (tb3 _ (List.mem_of_getElem? (i := 212) rfl)) rfl
theorem caX4_isDesignated : qCal yX4_isDesignated cX4_isDesignated 2 (some .boolean) 1 := ⟨qTb_in (tb3 _ (List.mem_of_getElem? (i := 173) rfl)) rfl, inX4, ⟨by decide, by decide, by decide +kernel⟩, by decide⟩
theorem imX4_isDesignated : Cond.instanceMethod yX4_isDesignated ∈ qTb := qTb_in (tb3 _ (List.mem_of_getElem? (i := 172) rfl)) rfl
theorem seX4_isDesignated : Cond.selects yX4_isDesignated.cls yX4_isDesignated yX4_isDesignated ∈ qTb := qTb_in (pb2 _ (List.mem_of_getElem? (i := 5) rfl)) rfl
theorem caX4_startValuations : qCal yX4_startValuations cX4_startValuations 4 (some .int) 1 := ⟨qTb_in (tb3 _ (List.mem_of_getElem? (i := 186) rfl)) rfl, inX4, ⟨by decide, by decide, by decide +kernel⟩, by decide⟩
theorem imX4_startValuations : Cond.instanceMethod yX4_startValuations ∈ qTb := qTb_in (tb3 _ (List.mem_of_getElem? (i := 185) rfl)) rfl
theorem seX4_startValuations : Cond.selects yX4_startValuations.cls yX4_startValuations yX4_startValuations ∈ qTb := qTb_in (pb2 _ (List.mem_of_getElem? (i := 6) rfl)) rfl
theorem caX4_nextValuation : qCal yX4_nextValuation cX4_nextValuation 3 none 1 := ⟨qTb_in (tb3 _ (List.mem_of_getElem? (i := 197) rfl)) rfl, inX4, ⟨by decide, by decide, by decide +kernel⟩, by decide⟩
theorem imX4_nextValuation : Cond.instanceMethod yX4_nextValuation ∈ qTb := qTb_in (tb3 _ (List.mem_of_getElem? (i := 196) rfl)) rfl
theorem seX4_nextValuation : Cond.selects yX4_nextValuation.cls yX4_nextValuation yX4_nextValuation ∈ qTb := qTb_in (pb2 _ (List.mem_of_getElem? (i := 8) rfl)) rfl
theorem caX4_valueOf : qCal yX4_valueOf cX4_valueOf 5 (some .int) 1 := ⟨qTb_in (tb3 _ (List.mem_of_getElem? (i := 191) rfl)) rfl, inX4, ⟨by decide, by decide, by decide +kernel⟩, by decide⟩
theorem imX4_valueOf : Cond.instanceMethod yX4_valueOf ∈ qTb := qTb_in (tb3 _ (List.mem_of_getElem? (i := 190) rfl)) rfl
theorem seX4_valueOf : Cond.selects yX4_valueOf.cls yX4_valueOf yX4_valueOf ∈ qTb := qTb_in (pb2 _ (List.mem_of_getElem? (i := 7) rfl)) rfl
theorem caX5_init : qCal yX5_init cX5_init 1 none 0 := ⟨qTb_in (tb1 _ (List.mem_of_getElem? (i := 228) rfl)) rfl, inX5, ⟨by decide, by decide, by decide +kernel⟩, by decide⟩
theorem imX5_init : Cond.instanceMethod yX5_init ∈ qTb := qTb_in (tb1 _ (List.mem_of_getElem? (i := 227) rfl)) rfl
theorem caX5_isMissing : qCal yX5_isMissing cX5_isMissing 1 (some .boolean) 0 := ⟨qTb_in (tb4 _ (List.mem_of_getElem? (i := 146) rfl)) rfl, inX5, ⟨by decide, by decide, by decide +kernel⟩, by decide⟩
theorem imX5_isMissing : Cond.instanceMethod yX5_isMissing ∈ qTb := qTb_in (tb4 _ (List.mem_of_getElem? (i := 144) rfl)) rfl
theorem seX5_isMissing : Cond.selects yX5_isMissing.cls yX5_isMissing yX5_isMissing ∈ qTb := qTb_in (tb4 _ (List.mem_of_getElem? (i := 145) rfl)) rfl
theorem caX5_type : qCal yX5_type cX5_type 1 (some .int) 0 := ⟨qTb_in (tb4 _ (List.mem_of_getElem? (i := 171) rfl)) rfl, inX5, ⟨by decide, by decide, by decide +kernel⟩, by decide⟩
theorem imX5_type : Cond.instanceMethod yX5_type ∈ qTb := qTb_in (tb4 _ (List.mem_of_getElem? (i := 169) rfl)) rfl
theorem seX5_type : Cond.selects yX5_type.cls yX5_type yX5_type ∈ qTb := qTb_in (tb4 _ (List.mem_of_getElem? (i := 170) rfl)) rfl
theorem caX5_renew : qCal yX5_renew cX5_renew 3 none 2 := ⟨qTb_in (tb4 _ (List.mem_of_getElem? (i := 133) rfl)) rfl, inX5, ⟨by decide, by decide, by decide +kernel⟩, by decide⟩
theorem imX5_renew : Cond.instanceMethod yX5_renew ∈ qTb := qTb_in (tb4 _ (List.mem_of_getElem? (i := 131) rfl)) rfl
theorem seX5_renew : Cond.selects yX5_renew.cls yX5_renew yX5_renew ∈ qTb := qTb_in (tb4 _ (List.mem_of_getElem? (i := 132) rfl)) rfl
theorem caX5_spans : qCal yX5_spans cX5_spans 3 (some .boolean) 2 := ⟨qTb_in (tb4 _ (List.mem_of_getElem? (i := 150) rfl)) rfl, inX5, ⟨by decide, by decide, by decide +kernel⟩, by decide⟩
theorem imX5_spans : Cond.instanceMethod yX5_spans ∈ qTb := qTb_in (tb4 _ (List.mem_of_getElem? (i := 148) rfl)) rfl
theorem seX5_spans : Cond.selects yX5_spans.cls yX5_spans yX5_spans ∈ qTb := qTb_in (tb4 _ (List.mem_of_getElem? (i := 149) rfl)) rfl
theorem caX5_at : qCal yX5_at cX5_at 2 (some .int) 1 := ⟨qTb_in (tb4 _ (List.mem_of_getElem? (i := 163) rfl)) rfl, inX5, ⟨by decide, by decide, by decide +kernel⟩, by decide⟩
theorem imX5_at : Cond.instanceMethod yX5_at ∈ qTb := qTb_in (tb4 _ (List.mem_of_getElem? (i := 161) rfl)) rfl
theorem seX5_at : Cond.selects yX5_at.cls yX5_at yX5_at ∈ qTb := qTb_in (tb4 _ (List.mem_of_getElem? (i := 162) rfl)) rfl
theorem caX5_set : qCal yX5_set cX5_set 3 none 2 := ⟨qTb_in (tb4 _ (List.mem_of_getElem? (i := 154) rfl)) rfl, inX5, ⟨by decide, by decide, by decide +kernel⟩, by decide⟩
theorem imX5_set : Cond.instanceMethod yX5_set ∈ qTb := qTb_in (tb4 _ (List.mem_of_getElem? (i := 152) rfl)) rfl
theorem seX5_set : Cond.selects yX5_set.cls yX5_set yX5_set ∈ qTb := qTb_in (tb4 _ (List.mem_of_getElem? (i := 153) rfl)) rfl
theorem caX5_copyFrom : qCal yX5_copyFrom cX5_copyFrom 5 none 4 := ⟨qTb_in (tb4 _ (List.mem_of_getElem? (i := 175) rfl)) rfl, inX5, ⟨by decide, by decide, by decide +kernel⟩, by decide⟩
theorem imX5_copyFrom : Cond.instanceMethod yX5_copyFrom ∈ qTb := qTb_in (tb4 _ (List.mem_of_getElem? (i := 173) rfl)) rfl
theorem seX5_copyFrom : Cond.selects yX5_copyFrom.cls yX5_copyFrom yX5_copyFrom ∈ qTb := qTb_in (tb4 _ (List.mem_of_getElem? (i := 174) rfl)) rfl
theorem caX6_init : qCal yX6_init cX6_init 1 none 0 := ⟨qTb_in (tb1 _ (List.mem_of_getElem? (i := 189) rfl)) rfl, inX6, ⟨by decide, by decide, by decide +kernel⟩, by decide⟩
theorem imX6_init : Cond.instanceMethod yX6_init ∈ qTb := qTb_in (tb1 _ (List.mem_of_getElem? (i := 188) rfl)) rfl
theorem caX6_arityOf : qCal yX6_arityOf cX6_arityOf 1 (some .int) 1 := ⟨qTb_in (tb3 _ (List.mem_of_getElem? (i := 224) rfl)) rfl, inX6, ⟨by decide, by decide, by decide +kernel⟩, by decide⟩
theorem stX6_arityOf : Cond.static yX6_arityOf ∈ qTb := qTb_in (tb3 _ (List.mem_of_getElem? (i := 223) rfl)) rfl
theorem caX6_typeOf : qCal yX6_typeOf cX6_typeOf 1 (some (.object "java/lang/String")) 1 := ⟨qTb_in (tb4 _ (List.mem_of_getElem? (i := 15) rfl)) rfl, inX6, ⟨by decide, by decide, by decide +kernel⟩, by decide⟩
theorem stX6_typeOf : Cond.static yX6_typeOf ∈ qTb := qTb_in (tb4 _ (List.mem_of_getElem? (i := 14) rfl)) rfl
theorem caX6_contractumOf : qCal yX6_contractumOf cX6_contractumOf 1 (some (.object "java/lang/String")) 1 := ⟨qTb_in (tb4 _ (List.mem_of_getElem? (i := 94) rfl)) rfl, inX6, ⟨by decide, by decide, by decide +kernel⟩, by decide⟩
theorem stX6_contractumOf : Cond.static yX6_contractumOf ∈ qTb := qTb_in (tb4 _ (List.mem_of_getElem? (i := 93) rfl)) rfl
theorem caX6_length : qCal yX6_length cX6_length 1 (some .int) 0 := ⟨qTb_in (tb4 _ (List.mem_of_getElem? (i := 4) rfl)) rfl, inX6, ⟨by decide, by decide, by decide +kernel⟩, by decide⟩
theorem imX6_length : Cond.instanceMethod yX6_length ∈ qTb := qTb_in (tb4 _ (List.mem_of_getElem? (i := 2) rfl)) rfl
theorem seX6_length : Cond.selects yX6_length.cls yX6_length yX6_length ∈ qTb := qTb_in (tb4 _ (List.mem_of_getElem? (i := 3) rfl)) rfl
theorem caX6_at : qCal yX6_at cX6_at 2 (some .char) 1 := ⟨qTb_in (tb4 _ (List.mem_of_getElem? (i := 8) rfl)) rfl, inX6, ⟨by decide, by decide, by decide +kernel⟩, by decide⟩
theorem imX6_at : Cond.instanceMethod yX6_at ∈ qTb := qTb_in (tb4 _ (List.mem_of_getElem? (i := 6) rfl)) rfl
theorem seX6_at : Cond.selects yX6_at.cls yX6_at yX6_at ∈ qTb := qTb_in (tb4 _ (List.mem_of_getElem? (i := 7) rfl)) rfl
theorem caX6_read : qCal yX6_read cX6_read 5 none 1 := ⟨qTb_in (tb3 _ (List.mem_of_getElem? (i := 232) rfl)) rfl, inX6, ⟨by decide, by decide, by decide +kernel⟩, by decide⟩
theorem imX6_read : Cond.instanceMethod yX6_read ∈ qTb := qTb_in (tb3 _ (List.mem_of_getElem? (i := 230) rfl)) rfl
theorem seX6_read : Cond.selects yX6_read.cls yX6_read yX6_read ∈ qTb := qTb_in (tb3 _ (List.mem_of_getElem? (i := 231) rfl)) rfl
theorem caX6_add : qCal yX6_add cX6_add 2 none 1 := ⟨qTb_in (tb4 _ (List.mem_of_getElem? (i := 0) rfl)) rfl, inX6, ⟨by decide, by decide, by decide +kernel⟩, by decide⟩
theorem imX6_add : Cond.instanceMethod yX6_add ∈ qTb := qTb_in (tb3 _ (List.mem_of_getElem? (i := 239) rfl)) rfl
theorem seX6_add : Cond.selects yX6_add.cls yX6_add yX6_add ∈ qTb := qTb_in (pb2 _ (List.mem_of_getElem? (i := 11) rfl)) rfl
theorem caX6_findRedex : qCal yX6_findRedex cX6_findRedex 2 (some .boolean) 0 := ⟨qTb_in (tb4 _ (List.mem_of_getElem? (i := 82) rfl)) rfl, inX6, ⟨by decide, by decide, by decide +kernel⟩, by decide⟩
theorem imX6_findRedex : Cond.instanceMethod yX6_findRedex ∈ qTb := qTb_in (tb4 _ (List.mem_of_getElem? (i := 80) rfl)) rfl
theorem seX6_findRedex : Cond.selects yX6_findRedex.cls yX6_findRedex yX6_findRedex ∈ qTb := qTb_in (tb4 _ (List.mem_of_getElem? (i := 81) rfl)) rfl
theorem caX6_findArguments : qCal yX6_findArguments cX6_findArguments 7 (some .boolean) 1 := ⟨qTb_in (tb4 _ (List.mem_of_getElem? (i := 86) rfl)) rfl, inX6, ⟨by decide, by decide, by decide +kernel⟩, by decide⟩
theorem imX6_findArguments : Cond.instanceMethod yX6_findArguments ∈ qTb := qTb_in (tb4 _ (List.mem_of_getElem? (i := 85) rfl)) rfl
theorem seX6_findArguments : Cond.selects yX6_findArguments.cls yX6_findArguments yX6_findArguments ∈ qTb := qTb_in (pb2 _ (List.mem_of_getElem? (i := 14) rfl)) rfl
theorem caX6_sizeAfterStep : qCal yX6_sizeAfterStep cX6_sizeAfterStep 6 (some .int) 0 := ⟨qTb_in (tb4 _ (List.mem_of_getElem? (i := 91) rfl)) rfl, inX6, ⟨by decide, by decide, by decide +kernel⟩, by decide⟩
theorem imX6_sizeAfterStep : Cond.instanceMethod yX6_sizeAfterStep ∈ qTb := qTb_in (tb4 _ (List.mem_of_getElem? (i := 89) rfl)) rfl
theorem seX6_sizeAfterStep : Cond.selects yX6_sizeAfterStep.cls yX6_sizeAfterStep yX6_sizeAfterStep ∈ qTb := qTb_in (tb4 _ (List.mem_of_getElem? (i := 90) rfl)) rfl
theorem caX6_redexEnd : qCal yX6_redexEnd cX6_redexEnd 2 (some .int) 0 := ⟨qTb_in (tb4 _ (List.mem_of_getElem? (i := 103) rfl)) rfl, inX6, ⟨by decide, by decide, by decide +kernel⟩, by decide⟩
theorem imX6_redexEnd : Cond.instanceMethod yX6_redexEnd ∈ qTb := qTb_in (tb4 _ (List.mem_of_getElem? (i := 102) rfl)) rfl
theorem seX6_redexEnd : Cond.selects yX6_redexEnd.cls yX6_redexEnd yX6_redexEnd ∈ qTb := qTb_in (pb2 _ (List.mem_of_getElem? (i := 15) rfl)) rfl
theorem caX6_makeStep : qCal yX6_makeStep cX6_makeStep 4 none 0 := ⟨qTb_in (tb4 _ (List.mem_of_getElem? (i := 109) rfl)) rfl, inX6, ⟨by decide, by decide, by decide +kernel⟩, by decide⟩
theorem imX6_makeStep : Cond.instanceMethod yX6_makeStep ∈ qTb := qTb_in (tb4 _ (List.mem_of_getElem? (i := 107) rfl)) rfl
theorem seX6_makeStep : Cond.selects yX6_makeStep.cls yX6_makeStep yX6_makeStep ∈ qTb := qTb_in (tb4 _ (List.mem_of_getElem? (i := 108) rfl)) rfl
theorem caX6_copyToSpare : qCal yX6_copyToSpare cX6_copyToSpare 4 none 2 := ⟨qTb_in (tb4 _ (List.mem_of_getElem? (i := 113) rfl)) rfl, inX6, ⟨by decide, by decide, by decide +kernel⟩, by decide⟩
theorem imX6_copyToSpare : Cond.instanceMethod yX6_copyToSpare ∈ qTb := qTb_in (tb4 _ (List.mem_of_getElem? (i := 112) rfl)) rfl
theorem seX6_copyToSpare : Cond.selects yX6_copyToSpare.cls yX6_copyToSpare yX6_copyToSpare ∈ qTb := qTb_in (pb3 _ (List.mem_of_getElem? (i := 0) rfl)) rfl
theorem caX6_writeTo : qCal yX6_writeTo cX6_writeTo 3 none 1 := ⟨qTb_in (tb4 _ (List.mem_of_getElem? (i := 117) rfl)) rfl, inX6, ⟨by decide, by decide, by decide +kernel⟩, by decide⟩
theorem imX6_writeTo : Cond.instanceMethod yX6_writeTo ∈ qTb := qTb_in (tb4 _ (List.mem_of_getElem? (i := 115) rfl)) rfl
theorem seX6_writeTo : Cond.selects yX6_writeTo.cls yX6_writeTo yX6_writeTo ∈ qTb := qTb_in (tb4 _ (List.mem_of_getElem? (i := 116) rfl)) rfl
theorem caX6_markOpenings : qCal yX6_markOpenings cX6_markOpenings 3 none 0 := ⟨qTb_in (tb4 _ (List.mem_of_getElem? (i := 121) rfl)) rfl, inX6, ⟨by decide, by decide, by decide +kernel⟩, by decide⟩
theorem imX6_markOpenings : Cond.instanceMethod yX6_markOpenings ∈ qTb := qTb_in (tb4 _ (List.mem_of_getElem? (i := 120) rfl)) rfl
theorem seX6_markOpenings : Cond.selects yX6_markOpenings.cls yX6_markOpenings yX6_markOpenings ∈ qTb := qTb_in (pb3 _ (List.mem_of_getElem? (i := 1) rfl)) rfl
theorem caX7_init : qCal yX7_init cX7_init 1 none 0 := ⟨qTb_in (tb1 _ (List.mem_of_getElem? (i := 32) rfl)) rfl, inX7, ⟨by decide, by decide, by decide +kernel⟩, by decide⟩
theorem imX7_init : Cond.instanceMethod yX7_init ∈ qTb := qTb_in (tb1 _ (List.mem_of_getElem? (i := 31) rfl)) rfl
theorem caX7_length : qCal yX7_length cX7_length 1 (some .int) 0 := ⟨qTb_in (tb2 _ (List.mem_of_getElem? (i := 49) rfl)) rfl, inX7, ⟨by decide, by decide, by decide +kernel⟩, by decide⟩
theorem imX7_length : Cond.instanceMethod yX7_length ∈ qTb := qTb_in (tb2 _ (List.mem_of_getElem? (i := 47) rfl)) rfl
theorem seX7_length : Cond.selects yX7_length.cls yX7_length yX7_length ∈ qTb := qTb_in (tb2 _ (List.mem_of_getElem? (i := 48) rfl)) rfl
theorem caX7_at : qCal yX7_at cX7_at 2 (some .char) 1 := ⟨qTb_in (tb2 _ (List.mem_of_getElem? (i := 73) rfl)) rfl, inX7, ⟨by decide, by decide, by decide +kernel⟩, by decide⟩
theorem imX7_at : Cond.instanceMethod yX7_at ∈ qTb := qTb_in (tb2 _ (List.mem_of_getElem? (i := 71) rfl)) rfl
theorem seX7_at : Cond.selects yX7_at.cls yX7_at yX7_at ∈ qTb := qTb_in (tb2 _ (List.mem_of_getElem? (i := 72) rfl)) rfl
theorem caX7_add : qCal yX7_add cX7_add 2 none 1 := ⟨qTb_in (tb2 _ (List.mem_of_getElem? (i := 53) rfl)) rfl, inX7, ⟨by decide, by decide, by decide +kernel⟩, by decide⟩
theorem imX7_add : Cond.instanceMethod yX7_add ∈ qTb := qTb_in (tb2 _ (List.mem_of_getElem? (i := 51) rfl)) rfl
theorem seX7_add : Cond.selects yX7_add.cls yX7_add yX7_add ∈ qTb := qTb_in (tb2 _ (List.mem_of_getElem? (i := 52) rfl)) rfl
theorem caX7_makeEmpty : qCal yX7_makeEmpty cX7_makeEmpty 1 none 0 := ⟨qTb_in (tb2 _ (List.mem_of_getElem? (i := 61) rfl)) rfl, inX7, ⟨by decide, by decide, by decide +kernel⟩, by decide⟩
theorem imX7_makeEmpty : Cond.instanceMethod yX7_makeEmpty ∈ qTb := qTb_in (tb2 _ (List.mem_of_getElem? (i := 59) rfl)) rfl
theorem seX7_makeEmpty : Cond.selects yX7_makeEmpty.cls yX7_makeEmpty yX7_makeEmpty ∈ qTb := qTb_in (tb2 _ (List.mem_of_getElem? (i := 60) rfl)) rfl
theorem caX8_init : qCal yX8_init cX8_init 1 none 0 := ⟨qTb_in (tb1 _ (List.mem_of_getElem? (i := 93) rfl)) rfl, inX8, ⟨by decide, by decide, by decide +kernel⟩, by decide⟩
theorem imX8_init : Cond.instanceMethod yX8_init ∈ qTb := qTb_in (tb1 _ (List.mem_of_getElem? (i := 92) rfl)) rfl
theorem caX8_detachInto : qCal yX8_detachInto cX8_detachInto 5 (some .int) 3 := ⟨qTb_in (tb2 _ (List.mem_of_getElem? (i := 140) rfl)) rfl, inX8, ⟨by decide, by decide, by decide +kernel⟩, by decide⟩
theorem imX8_detachInto : Cond.instanceMethod yX8_detachInto ∈ qTb := qTb_in (tb2 _ (List.mem_of_getElem? (i := 138) rfl)) rfl
theorem seX8_detachInto : Cond.selects yX8_detachInto.cls yX8_detachInto yX8_detachInto ∈ qTb := qTb_in (tb2 _ (List.mem_of_getElem? (i := 139) rfl)) rfl
theorem caX8_unifyInto : qCal yX8_unifyInto cX8_unifyInto 5 (some .int) 3 := ⟨qTb_in (tb3 _ (List.mem_of_getElem? (i := 89) rfl)) rfl, inX8, ⟨by decide, by decide, by decide +kernel⟩, by decide⟩
theorem imX8_unifyInto : Cond.instanceMethod yX8_unifyInto ∈ qTb := qTb_in (tb3 _ (List.mem_of_getElem? (i := 87) rfl)) rfl
theorem seX8_unifyInto : Cond.selects yX8_unifyInto.cls yX8_unifyInto yX8_unifyInto ∈ qTb := qTb_in (tb3 _ (List.mem_of_getElem? (i := 88) rfl)) rfl
theorem caX8_load : qCal yX8_load cX8_load 7 none 2 := ⟨qTb_in (tb2 _ (List.mem_of_getElem? (i := 152) rfl)) rfl, inX8, ⟨by decide, by decide, by decide +kernel⟩, by decide⟩
theorem imX8_load : Cond.instanceMethod yX8_load ∈ qTb := qTb_in (tb2 _ (List.mem_of_getElem? (i := 151) rfl)) rfl
theorem seX8_load : Cond.selects yX8_load.cls yX8_load yX8_load ∈ qTb := qTb_in (pb1 _ (List.mem_of_getElem? (i := 3) rfl)) rfl
theorem caX8_mergeAll : qCal yX8_mergeAll cX8_mergeAll 4 none 2 := ⟨qTb_in (tb2 _ (List.mem_of_getElem? (i := 163) rfl)) rfl, inX8, ⟨by decide, by decide, by decide +kernel⟩, by decide⟩
theorem imX8_mergeAll : Cond.instanceMethod yX8_mergeAll ∈ qTb := qTb_in (tb2 _ (List.mem_of_getElem? (i := 162) rfl)) rfl
theorem seX8_mergeAll : Cond.selects yX8_mergeAll.cls yX8_mergeAll yX8_mergeAll ∈ qTb := qTb_in (pb1 _ (List.mem_of_getElem? (i := 4) rfl)) rfl
theorem caX8_enqueue : qCal yX8_enqueue cX8_enqueue 3 none 2 := ⟨qTb_in (tb2 _ (List.mem_of_getElem? (i := 167) rfl)) rfl, inX8, ⟨by decide, by decide, by decide +kernel⟩, by decide⟩
theorem imX8_enqueue : Cond.instanceMethod yX8_enqueue ∈ qTb := qTb_in (tb2 _ (List.mem_of_getElem? (i := 166) rfl)) rfl
theorem seX8_enqueue : Cond.selects yX8_enqueue.cls yX8_enqueue yX8_enqueue ∈ qTb := qTb_in (pb1 _ (List.mem_of_getElem? (i := 5) rfl)) rfl
theorem caX8_headOf : qCal yX8_headOf cX8_headOf 4 (some .int) 1 := ⟨qTb_in (tb2 _ (List.mem_of_getElem? (i := 171) rfl)) rfl, inX8, ⟨by decide, by decide, by decide +kernel⟩, by decide⟩
theorem imX8_headOf : Cond.instanceMethod yX8_headOf ∈ qTb := qTb_in (tb2 _ (List.mem_of_getElem? (i := 170) rfl)) rfl
theorem seX8_headOf : Cond.selects yX8_headOf.cls yX8_headOf yX8_headOf ∈ qTb := qTb_in (pb1 _ (List.mem_of_getElem? (i := 6) rfl)) rfl
theorem caX8_merge : qCal yX8_merge cX8_merge 5 none 2 := ⟨qTb_in (tb2 _ (List.mem_of_getElem? (i := 175) rfl)) rfl, inX8, ⟨by decide, by decide, by decide +kernel⟩, by decide⟩
theorem imX8_merge : Cond.instanceMethod yX8_merge ∈ qTb := qTb_in (tb2 _ (List.mem_of_getElem? (i := 174) rfl)) rfl
theorem seX8_merge : Cond.selects yX8_merge.cls yX8_merge yX8_merge ∈ qTb := qTb_in (pb1 _ (List.mem_of_getElem? (i := 7) rfl)) rfl
theorem caX8_measure : qCal yX8_measure cX8_measure 5 (some .boolean) 0 := ⟨qTb_in (tb2 _ (List.mem_of_getElem? (i := 179) rfl)) rfl, inX8, ⟨by decide, by decide, by decide +kernel⟩, by decide⟩
theorem imX8_measure : Cond.instanceMethod yX8_measure ∈ qTb := qTb_in (tb2 _ (List.mem_of_getElem? (i := 178) rfl)) rfl
theorem seX8_measure : Cond.selects yX8_measure.cls yX8_measure yX8_measure ∈ qTb := qTb_in (pb1 _ (List.mem_of_getElem? (i := 8) rfl)) rfl
theorem caX8_measureClass : qCal yX8_measureClass cX8_measureClass 4 (some .boolean) 1 := ⟨qTb_in (tb2 _ (List.mem_of_getElem? (i := 183) rfl)) rfl, inX8, ⟨by decide, by decide, by decide +kernel⟩, by decide⟩
theorem imX8_measureClass : Cond.instanceMethod yX8_measureClass ∈ qTb := qTb_in (tb2 _ (List.mem_of_getElem? (i := 182) rfl)) rfl
theorem seX8_measureClass : Cond.selects yX8_measureClass.cls yX8_measureClass yX8_measureClass ∈ qTb := qTb_in (pb1 _ (List.mem_of_getElem? (i := 9) rfl)) rfl
theorem caX8_writeOut : qCal yX8_writeOut cX8_writeOut 7 (some .int) 2 := ⟨qTb_in (tb2 _ (List.mem_of_getElem? (i := 190) rfl)) rfl, inX8, ⟨by decide, by decide, by decide +kernel⟩, by decide⟩
theorem imX8_writeOut : Cond.instanceMethod yX8_writeOut ∈ qTb := qTb_in (tb2 _ (List.mem_of_getElem? (i := 189) rfl)) rfl
theorem seX8_writeOut : Cond.selects yX8_writeOut.cls yX8_writeOut yX8_writeOut ∈ qTb := qTb_in (pb1 _ (List.mem_of_getElem? (i := 10) rfl)) rfl
theorem caX9_init : qCal yX9_init cX9_init 2 none 0 := ⟨qTb_in (tb1 _ (List.mem_of_getElem? (i := 24) rfl)) rfl, inX9, ⟨by decide, by decide, by decide +kernel⟩, by decide⟩
theorem imX9_init : Cond.instanceMethod yX9_init ∈ qTb := qTb_in (tb1 _ (List.mem_of_getElem? (i := 23) rfl)) rfl
theorem caX9_append : qCal yX9_append cX9_append 2 (some .int) 1 := ⟨qTb_in (tb2 _ (List.mem_of_getElem? (i := 45) rfl)) rfl, inX9, ⟨by decide, by decide, by decide +kernel⟩, by decide⟩
theorem imX9_append : Cond.instanceMethod yX9_append ∈ qTb := qTb_in (tb2 _ (List.mem_of_getElem? (i := 43) rfl)) rfl
theorem seX9_append : Cond.selects yX9_append.cls yX9_append yX9_append ∈ qTb := qTb_in (tb2 _ (List.mem_of_getElem? (i := 44) rfl)) rfl
theorem caX9_clearText : qCal yX9_clearText cX9_clearText 2 (some .int) 0 := ⟨qTb_in (tb2 _ (List.mem_of_getElem? (i := 57) rfl)) rfl, inX9, ⟨by decide, by decide, by decide +kernel⟩, by decide⟩
theorem imX9_clearText : Cond.instanceMethod yX9_clearText ∈ qTb := qTb_in (tb2 _ (List.mem_of_getElem? (i := 55) rfl)) rfl
theorem seX9_clearText : Cond.selects yX9_clearText.cls yX9_clearText yX9_clearText ∈ qTb := qTb_in (tb2 _ (List.mem_of_getElem? (i := 56) rfl)) rfl
theorem caX9_addAxiom : qCal yX9_addAxiom cX9_addAxiom 3 (some .int) 0 := ⟨qTb_in (tb2 _ (List.mem_of_getElem? (i := 65) rfl)) rfl, inX9, ⟨by decide, by decide, by decide +kernel⟩, by decide⟩
theorem imX9_addAxiom : Cond.instanceMethod yX9_addAxiom ∈ qTb := qTb_in (tb2 _ (List.mem_of_getElem? (i := 63) rfl)) rfl
theorem seX9_addAxiom : Cond.selects yX9_addAxiom.cls yX9_addAxiom yX9_addAxiom ∈ qTb := qTb_in (tb2 _ (List.mem_of_getElem? (i := 64) rfl)) rfl
theorem caX9_detach : qCal yX9_detach cX9_detach 3 (some .int) 2 := ⟨qTb_in (tb2 _ (List.mem_of_getElem? (i := 127) rfl)) rfl, inX9, ⟨by decide, by decide, by decide +kernel⟩, by decide⟩
theorem imX9_detach : Cond.instanceMethod yX9_detach ∈ qTb := qTb_in (tb2 _ (List.mem_of_getElem? (i := 125) rfl)) rfl
theorem seX9_detach : Cond.selects yX9_detach.cls yX9_detach yX9_detach ∈ qTb := qTb_in (tb2 _ (List.mem_of_getElem? (i := 126) rfl)) rfl
theorem caX9_prove : qCal yX9_prove cX9_prove 4 (some .int) 0 := ⟨qTb_in (tb2 _ (List.mem_of_getElem? (i := 197) rfl)) rfl, inX9, ⟨by decide, by decide, by decide +kernel⟩, by decide⟩
theorem imX9_prove : Cond.instanceMethod yX9_prove ∈ qTb := qTb_in (tb2 _ (List.mem_of_getElem? (i := 195) rfl)) rfl
theorem seX9_prove : Cond.selects yX9_prove.cls yX9_prove yX9_prove ∈ qTb := qTb_in (tb2 _ (List.mem_of_getElem? (i := 196) rfl)) rfl
theorem caX9_cut : qCal yX9_cut cX9_cut 3 (some .int) 1 := ⟨qTb_in (tb2 _ (List.mem_of_getElem? (i := 214) rfl)) rfl, inX9, ⟨by decide, by decide, by decide +kernel⟩, by decide⟩
theorem imX9_cut : Cond.instanceMethod yX9_cut ∈ qTb := qTb_in (tb2 _ (List.mem_of_getElem? (i := 212) rfl)) rfl
theorem seX9_cut : Cond.selects yX9_cut.cls yX9_cut yX9_cut ∈ qTb := qTb_in (tb2 _ (List.mem_of_getElem? (i := 213) rfl)) rfl
theorem caX9_listSize : qCal yX9_listSize cX9_listSize 1 (some .int) 0 := ⟨qTb_in (tb2 _ (List.mem_of_getElem? (i := 218) rfl)) rfl, inX9, ⟨by decide, by decide, by decide +kernel⟩, by decide⟩
theorem imX9_listSize : Cond.instanceMethod yX9_listSize ∈ qTb := qTb_in (tb2 _ (List.mem_of_getElem? (i := 216) rfl)) rfl
theorem seX9_listSize : Cond.selects yX9_listSize.cls yX9_listSize yX9_listSize ∈ qTb := qTb_in (tb2 _ (List.mem_of_getElem? (i := 217) rfl)) rfl
theorem caX9_formulaSize : qCal yX9_formulaSize cX9_formulaSize 2 (some .int) 1 := ⟨qTb_in (tb2 _ (List.mem_of_getElem? (i := 222) rfl)) rfl, inX9, ⟨by decide, by decide, by decide +kernel⟩, by decide⟩
theorem imX9_formulaSize : Cond.instanceMethod yX9_formulaSize ∈ qTb := qTb_in (tb2 _ (List.mem_of_getElem? (i := 220) rfl)) rfl
theorem seX9_formulaSize : Cond.selects yX9_formulaSize.cls yX9_formulaSize yX9_formulaSize ∈ qTb := qTb_in (tb2 _ (List.mem_of_getElem? (i := 221) rfl)) rfl
theorem caX9_variableCount : qCal yX9_variableCount cX9_variableCount 2 (some .int) 1 := ⟨qTb_in (tb2 _ (List.mem_of_getElem? (i := 227) rfl)) rfl, inX9, ⟨by decide, by decide, by decide +kernel⟩, by decide⟩
theorem imX9_variableCount : Cond.instanceMethod yX9_variableCount ∈ qTb := qTb_in (tb2 _ (List.mem_of_getElem? (i := 225) rfl)) rfl
theorem seX9_variableCount : Cond.selects yX9_variableCount.cls yX9_variableCount yX9_variableCount ∈ qTb := qTb_in (tb2 _ (List.mem_of_getElem? (i := 226) rfl)) rfl
theorem caX9_majorOf : qCal yX9_majorOf cX9_majorOf 2 (some .int) 1 := ⟨qTb_in (tb2 _ (List.mem_of_getElem? (i := 235) rfl)) rfl, inX9, ⟨by decide, by decide, by decide +kernel⟩, by decide⟩
theorem imX9_majorOf : Cond.instanceMethod yX9_majorOf ∈ qTb := qTb_in (tb2 _ (List.mem_of_getElem? (i := 233) rfl)) rfl
theorem seX9_majorOf : Cond.selects yX9_majorOf.cls yX9_majorOf yX9_majorOf ∈ qTb := qTb_in (tb2 _ (List.mem_of_getElem? (i := 234) rfl)) rfl
theorem caX9_minorOf : qCal yX9_minorOf cX9_minorOf 2 (some .int) 1 := ⟨qTb_in (tb3 _ (List.mem_of_getElem? (i := 3) rfl)) rfl, inX9, ⟨by decide, by decide, by decide +kernel⟩, by decide⟩
theorem imX9_minorOf : Cond.instanceMethod yX9_minorOf ∈ qTb := qTb_in (tb3 _ (List.mem_of_getElem? (i := 1) rfl)) rfl
theorem seX9_minorOf : Cond.selects yX9_minorOf.cls yX9_minorOf yX9_minorOf ∈ qTb := qTb_in (tb3 _ (List.mem_of_getElem? (i := 2) rfl)) rfl
theorem caX9_proofDepth : qCal yX9_proofDepth cX9_proofDepth 2 (some .int) 1 := ⟨qTb_in (tb3 _ (List.mem_of_getElem? (i := 11) rfl)) rfl, inX9, ⟨by decide, by decide, by decide +kernel⟩, by decide⟩
theorem imX9_proofDepth : Cond.instanceMethod yX9_proofDepth ∈ qTb := qTb_in (tb3 _ (List.mem_of_getElem? (i := 9) rfl)) rfl
theorem seX9_proofDepth : Cond.selects yX9_proofDepth.cls yX9_proofDepth yX9_proofDepth ∈ qTb := qTb_in (tb3 _ (List.mem_of_getElem? (i := 10) rfl)) rfl
theorem caX9_proofSize : qCal yX9_proofSize cX9_proofSize 2 (some .long) 1 := ⟨qTb_in (tb3 _ (List.mem_of_getElem? (i := 19) rfl)) rfl, inX9, ⟨by decide, by decide, by decide +kernel⟩, by decide⟩
theorem imX9_proofSize : Cond.instanceMethod yX9_proofSize ∈ qTb := qTb_in (tb3 _ (List.mem_of_getElem? (i := 17) rfl)) rfl
theorem seX9_proofSize : Cond.selects yX9_proofSize.cls yX9_proofSize yX9_proofSize ∈ qTb := qTb_in (tb3 _ (List.mem_of_getElem? (i := 18) rfl)) rfl
theorem caX9_writeFormula : qCal yX9_writeFormula cX9_writeFormula 2 (some .int) 1 := ⟨qTb_in (tb3 _ (List.mem_of_getElem? (i := 28) rfl)) rfl, inX9, ⟨by decide, by decide, by decide +kernel⟩, by decide⟩
theorem imX9_writeFormula : Cond.instanceMethod yX9_writeFormula ∈ qTb := qTb_in (tb3 _ (List.mem_of_getElem? (i := 26) rfl)) rfl
theorem seX9_writeFormula : Cond.selects yX9_writeFormula.cls yX9_writeFormula yX9_writeFormula ∈ qTb := qTb_in (tb3 _ (List.mem_of_getElem? (i := 27) rfl)) rfl
theorem caX9_writeProof : qCal yX9_writeProof cX9_writeProof 2 (some .int) 1 := ⟨qTb_in (tb3 _ (List.mem_of_getElem? (i := 41) rfl)) rfl, inX9, ⟨by decide, by decide, by decide +kernel⟩, by decide⟩
theorem imX9_writeProof : Cond.instanceMethod yX9_writeProof ∈ qTb := qTb_in (tb3 _ (List.mem_of_getElem? (i := 39) rfl)) rfl
theorem seX9_writeProof : Cond.selects yX9_writeProof.cls yX9_writeProof yX9_writeProof ∈ qTb := qTb_in (tb3 _ (List.mem_of_getElem? (i := 40) rfl)) rfl
theorem caX9_outputLength : qCal yX9_outputLength cX9_outputLength 1 (some .int) 0 := ⟨qTb_in (tb3 _ (List.mem_of_getElem? (i := 58) rfl)) rfl, inX9, ⟨by decide, by decide, by decide +kernel⟩, by decide⟩
theorem imX9_outputLength : Cond.instanceMethod yX9_outputLength ∈ qTb := qTb_in (tb3 _ (List.mem_of_getElem? (i := 56) rfl)) rfl
theorem seX9_outputLength : Cond.selects yX9_outputLength.cls yX9_outputLength yX9_outputLength ∈ qTb := qTb_in (tb3 _ (List.mem_of_getElem? (i := 57) rfl)) rfl
theorem caX9_outputAt : qCal yX9_outputAt cX9_outputAt 2 (some .int) 1 := ⟨qTb_in (tb3 _ (List.mem_of_getElem? (i := 62) rfl)) rfl, inX9, ⟨by decide, by decide, by decide +kernel⟩, by decide⟩
theorem imX9_outputAt : Cond.instanceMethod yX9_outputAt ∈ qTb := qTb_in (tb3 _ (List.mem_of_getElem? (i := 60) rfl)) rfl
theorem seX9_outputAt : Cond.selects yX9_outputAt.cls yX9_outputAt yX9_outputAt ∈ qTb := qTb_in (tb3 _ (List.mem_of_getElem? (i := 61) rfl)) rfl
theorem caX9_isInstance : qCal yX9_isInstance cX9_isInstance 3 (some .int) 2 := ⟨qTb_in (tb3 _ (List.mem_of_getElem? (i := 66) rfl)) rfl, inX9, ⟨by decide, by decide, by decide +kernel⟩, by decide⟩
theorem imX9_isInstance : Cond.instanceMethod yX9_isInstance ∈ qTb := qTb_in (tb3 _ (List.mem_of_getElem? (i := 64) rfl)) rfl
theorem seX9_isInstance : Cond.selects yX9_isInstance.cls yX9_isInstance yX9_isInstance ∈ qTb := qTb_in (tb3 _ (List.mem_of_getElem? (i := 65) rfl)) rfl
theorem caX9_moreGeneral : qCal yX9_moreGeneral cX9_moreGeneral 3 (some .int) 1 := ⟨qTb_in (tb3 _ (List.mem_of_getElem? (i := 81) rfl)) rfl, inX9, ⟨by decide, by decide, by decide +kernel⟩, by decide⟩
theorem imX9_moreGeneral : Cond.instanceMethod yX9_moreGeneral ∈ qTb := qTb_in (tb3 _ (List.mem_of_getElem? (i := 79) rfl)) rfl
theorem seX9_moreGeneral : Cond.selects yX9_moreGeneral.cls yX9_moreGeneral yX9_moreGeneral ∈ qTb := qTb_in (tb3 _ (List.mem_of_getElem? (i := 80) rfl)) rfl
theorem caX9_unify : qCal yX9_unify cX9_unify 4 (some .int) 2 := ⟨qTb_in (tb3 _ (List.mem_of_getElem? (i := 85) rfl)) rfl, inX9, ⟨by decide, by decide, by decide +kernel⟩, by decide⟩
theorem imX9_unify : Cond.instanceMethod yX9_unify ∈ qTb := qTb_in (tb3 _ (List.mem_of_getElem? (i := 83) rfl)) rfl
theorem seX9_unify : Cond.selects yX9_unify.cls yX9_unify yX9_unify ∈ qTb := qTb_in (tb3 _ (List.mem_of_getElem? (i := 84) rfl)) rfl
theorem caX9_round : qCal yX9_round cX9_round 5 (some .int) 1 := ⟨qTb_in (tb3 _ (List.mem_of_getElem? (i := 93) rfl)) rfl, inX9, ⟨by decide, by decide, by decide +kernel⟩, by decide⟩
theorem imX9_round : Cond.instanceMethod yX9_round ∈ qTb := qTb_in (tb3 _ (List.mem_of_getElem? (i := 91) rfl)) rfl
theorem seX9_round : Cond.selects yX9_round.cls yX9_round yX9_round ∈ qTb := qTb_in (tb3 _ (List.mem_of_getElem? (i := 92) rfl)) rfl
theorem caX9_shortest : qCal yX9_shortest cX9_shortest 3 (some .int) 2 := ⟨qTb_in (tb3 _ (List.mem_of_getElem? (i := 107) rfl)) rfl, inX9, ⟨by decide, by decide, by decide +kernel⟩, by decide⟩
theorem imX9_shortest : Cond.instanceMethod yX9_shortest ∈ qTb := qTb_in (tb3 _ (List.mem_of_getElem? (i := 105) rfl)) rfl
theorem seX9_shortest : Cond.selects yX9_shortest.cls yX9_shortest yX9_shortest ∈ qTb := qTb_in (tb3 _ (List.mem_of_getElem? (i := 106) rfl)) rfl
theorem caX9_setEntry : qCal yX9_setEntry cX9_setEntry 4 (some .int) 3 := ⟨qTb_in (tb3 _ (List.mem_of_getElem? (i := 146) rfl)) rfl, inX9, ⟨by decide, by decide, by decide +kernel⟩, by decide⟩
theorem imX9_setEntry : Cond.instanceMethod yX9_setEntry ∈ qTb := qTb_in (tb3 _ (List.mem_of_getElem? (i := 144) rfl)) rfl
theorem seX9_setEntry : Cond.selects yX9_setEntry.cls yX9_setEntry yX9_setEntry ∈ qTb := qTb_in (tb3 _ (List.mem_of_getElem? (i := 145) rfl)) rfl
theorem caX9_setDesignated : qCal yX9_setDesignated cX9_setDesignated 2 (some .int) 1 := ⟨qTb_in (tb3 _ (List.mem_of_getElem? (i := 157) rfl)) rfl, inX9, ⟨by decide, by decide, by decide +kernel⟩, by decide⟩
theorem imX9_setDesignated : Cond.instanceMethod yX9_setDesignated ∈ qTb := qTb_in (tb3 _ (List.mem_of_getElem? (i := 155) rfl)) rfl
theorem seX9_setDesignated : Cond.selects yX9_setDesignated.cls yX9_setDesignated yX9_setDesignated ∈ qTb := qTb_in (tb3 _ (List.mem_of_getElem? (i := 156) rfl)) rfl
theorem caX9_isNormal : qCal yX9_isNormal cX9_isNormal 1 (some .int) 0 := ⟨qTb_in (tb3 _ (List.mem_of_getElem? (i := 165) rfl)) rfl, inX9, ⟨by decide, by decide, by decide +kernel⟩, by decide⟩
theorem imX9_isNormal : Cond.instanceMethod yX9_isNormal ∈ qTb := qTb_in (tb3 _ (List.mem_of_getElem? (i := 163) rfl)) rfl
theorem seX9_isNormal : Cond.selects yX9_isNormal.cls yX9_isNormal yX9_isNormal ∈ qTb := qTb_in (tb3 _ (List.mem_of_getElem? (i := 164) rfl)) rfl
theorem caX9_isValid : qCal yX9_isValid cX9_isValid 2 (some .int) 1 := ⟨qTb_in (tb3 _ (List.mem_of_getElem? (i := 177) rfl)) rfl, inX9, ⟨by decide, by decide, by decide +kernel⟩, by decide⟩
theorem imX9_isValid : Cond.instanceMethod yX9_isValid ∈ qTb := qTb_in (tb3 _ (List.mem_of_getElem? (i := 175) rfl)) rfl
theorem seX9_isValid : Cond.selects yX9_isValid.cls yX9_isValid yX9_isValid ∈ qTb := qTb_in (tb3 _ (List.mem_of_getElem? (i := 176) rfl)) rfl
theorem caX9_refutation : qCal yX9_refutation cX9_refutation 3 (some .int) 2 := ⟨qTb_in (tb3 _ (List.mem_of_getElem? (i := 201) rfl)) rfl, inX9, ⟨by decide, by decide, by decide +kernel⟩, by decide⟩
theorem imX9_refutation : Cond.instanceMethod yX9_refutation ∈ qTb := qTb_in (tb3 _ (List.mem_of_getElem? (i := 199) rfl)) rfl
theorem seX9_refutation : Cond.selects yX9_refutation.cls yX9_refutation yX9_refutation ∈ qTb := qTb_in (tb3 _ (List.mem_of_getElem? (i := 200) rfl)) rfl
theorem caX9_countValuations : qCal yX9_countValuations cX9_countValuations 3 (some .int) 2 := ⟨qTb_in (tb3 _ (List.mem_of_getElem? (i := 209) rfl)) rfl, inX9, ⟨by decide, by decide, by decide +kernel⟩, by decide⟩
theorem imX9_countValuations : Cond.instanceMethod yX9_countValuations ∈ qTb := qTb_in (tb3 _ (List.mem_of_getElem? (i := 207) rfl)) rfl
theorem seX9_countValuations : Cond.selects yX9_countValuations.cls yX9_countValuations yX9_countValuations ∈ qTb := qTb_in (tb3 _ (List.mem_of_getElem? (i := 208) rfl)) rfl
theorem caX9_addType : qCal yX9_addType cX9_addType 3 (some .int) 0 := ⟨qTb_in (tb3 _ (List.mem_of_getElem? (i := 217) rfl)) rfl, inX9, ⟨by decide, by decide, by decide +kernel⟩, by decide⟩
theorem imX9_addType : Cond.instanceMethod yX9_addType ∈ qTb := qTb_in (tb3 _ (List.mem_of_getElem? (i := 215) rfl)) rfl
theorem seX9_addType : Cond.selects yX9_addType.cls yX9_addType yX9_addType ∈ qTb := qTb_in (tb3 _ (List.mem_of_getElem? (i := 216) rfl)) rfl
theorem caX9_reduceTerm : qCal yX9_reduceTerm cX9_reduceTerm 4 (some .int) 1 := ⟨qTb_in (tb4 _ (List.mem_of_getElem? (i := 74) rfl)) rfl, inX9, ⟨by decide, by decide, by decide +kernel⟩, by decide⟩
theorem imX9_reduceTerm : Cond.instanceMethod yX9_reduceTerm ∈ qTb := qTb_in (tb4 _ (List.mem_of_getElem? (i := 72) rfl)) rfl
theorem seX9_reduceTerm : Cond.selects yX9_reduceTerm.cls yX9_reduceTerm yX9_reduceTerm ∈ qTb := qTb_in (tb4 _ (List.mem_of_getElem? (i := 73) rfl)) rfl
theorem caX9_allocate : qCal yX9_allocate cX9_allocate 4 (some .int) 3 := ⟨qTb_in (tb4 _ (List.mem_of_getElem? (i := 126) rfl)) rfl, inX9, ⟨by decide, by decide, by decide +kernel⟩, by decide⟩
theorem imX9_allocate : Cond.instanceMethod yX9_allocate ∈ qTb := qTb_in (tb4 _ (List.mem_of_getElem? (i := 124) rfl)) rfl
theorem seX9_allocate : Cond.selects yX9_allocate.cls yX9_allocate yX9_allocate ∈ qTb := qTb_in (tb4 _ (List.mem_of_getElem? (i := 125) rfl)) rfl
theorem caX9_put : qCal yX9_put cX9_put 5 (some .int) 3 := ⟨qTb_in (tb4 _ (List.mem_of_getElem? (i := 138) rfl)) rfl, inX9, ⟨by decide, by decide, by decide +kernel⟩, by decide⟩
theorem imX9_put : Cond.instanceMethod yX9_put ∈ qTb := qTb_in (tb4 _ (List.mem_of_getElem? (i := 136) rfl)) rfl
theorem seX9_put : Cond.selects yX9_put.cls yX9_put yX9_put ∈ qTb := qTb_in (tb4 _ (List.mem_of_getElem? (i := 137) rfl)) rfl
theorem caX9_rowElement : qCal yX9_rowElement cX9_rowElement 3 (some .long) 2 := ⟨qTb_in (tb4 _ (List.mem_of_getElem? (i := 158) rfl)) rfl, inX9, ⟨by decide, by decide, by decide +kernel⟩, by decide⟩
theorem imX9_rowElement : Cond.instanceMethod yX9_rowElement ∈ qTb := qTb_in (tb4 _ (List.mem_of_getElem? (i := 156) rfl)) rfl
theorem seX9_rowElement : Cond.selects yX9_rowElement.cls yX9_rowElement yX9_rowElement ∈ qTb := qTb_in (tb4 _ (List.mem_of_getElem? (i := 157) rfl)) rfl
theorem caX9_copyElements : qCal yX9_copyElements cX9_copyElements 6 (some .int) 5 := ⟨qTb_in (tb4 _ (List.mem_of_getElem? (i := 167) rfl)) rfl, inX9, ⟨by decide, by decide, by decide +kernel⟩, by decide⟩
theorem imX9_copyElements : Cond.instanceMethod yX9_copyElements ∈ qTb := qTb_in (tb4 _ (List.mem_of_getElem? (i := 165) rfl)) rfl
theorem seX9_copyElements : Cond.selects yX9_copyElements.cls yX9_copyElements yX9_copyElements ∈ qTb := qTb_in (tb4 _ (List.mem_of_getElem? (i := 166) rfl)) rfl
theorem caX9_storeOutput : qCal yX9_storeOutput cX9_storeOutput 5 (some .int) 2 := ⟨qTb_in (tb4 _ (List.mem_of_getElem? (i := 180) rfl)) rfl, inX9, ⟨by decide, by decide, by decide +kernel⟩, by decide⟩
theorem imX9_storeOutput : Cond.instanceMethod yX9_storeOutput ∈ qTb := qTb_in (tb4 _ (List.mem_of_getElem? (i := 178) rfl)) rfl
theorem seX9_storeOutput : Cond.selects yX9_storeOutput.cls yX9_storeOutput yX9_storeOutput ∈ qTb := qTb_in (tb4 _ (List.mem_of_getElem? (i := 179) rfl)) rfl
theorem caX9_loadText : qCal yX9_loadText cX9_loadText 6 (some .int) 3 := ⟨qTb_in (tb4 _ (List.mem_of_getElem? (i := 184) rfl)) rfl, inX9, ⟨by decide, by decide, by decide +kernel⟩, by decide⟩
theorem imX9_loadText : Cond.instanceMethod yX9_loadText ∈ qTb := qTb_in (tb4 _ (List.mem_of_getElem? (i := 182) rfl)) rfl
theorem seX9_loadText : Cond.selects yX9_loadText.cls yX9_loadText yX9_loadText ∈ qTb := qTb_in (tb4 _ (List.mem_of_getElem? (i := 183) rfl)) rfl
theorem caX9_polishError : qCal yX9_polishError cX9_polishError 8 (some .int) 3 := ⟨qTb_in (tb2 _ (List.mem_of_getElem? (i := 69) rfl)) rfl, inX9, ⟨by decide, by decide, by decide +kernel⟩, by decide⟩
theorem imX9_polishError : Cond.instanceMethod yX9_polishError ∈ qTb := qTb_in (tb2 _ (List.mem_of_getElem? (i := 68) rfl)) rfl
theorem seX9_polishError : Cond.selects yX9_polishError.cls yX9_polishError yX9_polishError ∈ qTb := qTb_in (pb1 _ (List.mem_of_getElem? (i := 0) rfl)) rfl
theorem caX9_termError : qCal yX9_termError cX9_termError 5 (some .int) 0 := ⟨qTb_in (tb3 _ (List.mem_of_getElem? (i := 221) rfl)) rfl, inX9, ⟨by decide, by decide, by decide +kernel⟩, by decide⟩
theorem imX9_termError : Cond.instanceMethod yX9_termError ∈ qTb := qTb_in (tb3 _ (List.mem_of_getElem? (i := 220) rfl)) rfl
theorem seX9_termError : Cond.selects yX9_termError.cls yX9_termError yX9_termError ∈ qTb := qTb_in (pb2 _ (List.mem_of_getElem? (i := 9) rfl)) rfl
theorem caX9_enterText : qCal yX9_enterText cX9_enterText 2 (some .int) 0 := ⟨qTb_in (tb2 _ (List.mem_of_getElem? (i := 77) rfl)) rfl, inX9, ⟨by decide, by decide, by decide +kernel⟩, by decide⟩
theorem imX9_enterText : Cond.instanceMethod yX9_enterText ∈ qTb := qTb_in (tb2 _ (List.mem_of_getElem? (i := 76) rfl)) rfl
theorem seX9_enterText : Cond.selects yX9_enterText.cls yX9_enterText yX9_enterText ∈ qTb := qTb_in (pb1 _ (List.mem_of_getElem? (i := 1) rfl)) rfl
theorem caX9_derive : qCal yX9_derive cX9_derive 4 (some .int) 2 := ⟨qTb_in (tb2 _ (List.mem_of_getElem? (i := 132) rfl)) rfl, inX9, ⟨by decide, by decide, by decide +kernel⟩, by decide⟩
theorem imX9_derive : Cond.instanceMethod yX9_derive ∈ qTb := qTb_in (tb2 _ (List.mem_of_getElem? (i := 131) rfl)) rfl
theorem seX9_derive : Cond.selects yX9_derive.cls yX9_derive yX9_derive ∈ qTb := qTb_in (pb1 _ (List.mem_of_getElem? (i := 2) rfl)) rfl
theorem caX9_proveText : qCal yX9_proveText cX9_proveText 5 (some .int) 0 := ⟨qTb_in (tb2 _ (List.mem_of_getElem? (i := 206) rfl)) rfl, inX9, ⟨by decide, by decide, by decide +kernel⟩, by decide⟩
theorem imX9_proveText : Cond.instanceMethod yX9_proveText ∈ qTb := qTb_in (tb2 _ (List.mem_of_getElem? (i := 205) rfl)) rfl
theorem seX9_proveText : Cond.selects yX9_proveText.cls yX9_proveText yX9_proveText ∈ qTb := qTb_in (pb1 _ (List.mem_of_getElem? (i := 11) rfl)) rfl
theorem caX9_outputFormula : qCal yX9_outputFormula cX9_outputFormula 2 (some .int) 1 := ⟨qTb_in (tb3 _ (List.mem_of_getElem? (i := 32) rfl)) rfl, inX9, ⟨by decide, by decide, by decide +kernel⟩, by decide⟩
theorem imX9_outputFormula : Cond.instanceMethod yX9_outputFormula ∈ qTb := qTb_in (tb3 _ (List.mem_of_getElem? (i := 31) rfl)) rfl
theorem seX9_outputFormula : Cond.selects yX9_outputFormula.cls yX9_outputFormula yX9_outputFormula ∈ qTb := qTb_in (pb1 _ (List.mem_of_getElem? (i := 12) rfl)) rfl
theorem caX9_outputProof : qCal yX9_outputProof cX9_outputProof 5 none 1 := ⟨qTb_in (tb3 _ (List.mem_of_getElem? (i := 50) rfl)) rfl, inX9, ⟨by decide, by decide, by decide +kernel⟩, by decide⟩
theorem imX9_outputProof : Cond.instanceMethod yX9_outputProof ∈ qTb := qTb_in (tb3 _ (List.mem_of_getElem? (i := 49) rfl)) rfl
theorem seX9_outputProof : Cond.selects yX9_outputProof.cls yX9_outputProof yX9_outputProof ∈ qTb := qTb_in (pb1 _ (List.mem_of_getElem? (i := 13) rfl)) rfl
theorem caX9_tryInRound : qCal yX9_tryInRound cX9_tryInRound 5 none 3 := ⟨qTb_in (tb3 _ (List.mem_of_getElem? (i := 98) rfl)) rfl, inX9, ⟨by decide, by decide, by decide +kernel⟩, by decide⟩
theorem imX9_tryInRound : Cond.instanceMethod yX9_tryInRound ∈ qTb := qTb_in (tb3 _ (List.mem_of_getElem? (i := 97) rfl)) rfl
theorem seX9_tryInRound : Cond.selects yX9_tryInRound.cls yX9_tryInRound yX9_tryInRound ∈ qTb := qTb_in (pb1 _ (List.mem_of_getElem? (i := 14) rfl)) rfl
theorem caX9_enterType : qCal yX9_enterType cX9_enterType 5 (some .int) 0 := ⟨qTb_in (tb3 _ (List.mem_of_getElem? (i := 228) rfl)) rfl, inX9, ⟨by decide, by decide, by decide +kernel⟩, by decide⟩
theorem imX9_enterType : Cond.instanceMethod yX9_enterType ∈ qTb := qTb_in (tb3 _ (List.mem_of_getElem? (i := 227) rfl)) rfl
theorem seX9_enterType : Cond.selects yX9_enterType.cls yX9_enterType yX9_enterType ∈ qTb := qTb_in (pb2 _ (List.mem_of_getElem? (i := 10) rfl)) rfl
theorem caX9_readType : qCal yX9_readType cX9_readType 5 none 2 := ⟨qTb_in (tb4 _ (List.mem_of_getElem? (i := 12) rfl)) rfl, inX9, ⟨by decide, by decide, by decide +kernel⟩, by decide⟩
theorem imX9_readType : Cond.instanceMethod yX9_readType ∈ qTb := qTb_in (tb4 _ (List.mem_of_getElem? (i := 11) rfl)) rfl
theorem seX9_readType : Cond.selects yX9_readType.cls yX9_readType yX9_readType ∈ qTb := qTb_in (pb2 _ (List.mem_of_getElem? (i := 12) rfl)) rfl
theorem caX9_reduceText : qCal yX9_reduceText cX9_reduceText 3 (some .int) 1 := ⟨qTb_in (tb4 _ (List.mem_of_getElem? (i := 78) rfl)) rfl, inX9, ⟨by decide, by decide, by decide +kernel⟩, by decide⟩
theorem imX9_reduceText : Cond.instanceMethod yX9_reduceText ∈ qTb := qTb_in (tb4 _ (List.mem_of_getElem? (i := 77) rfl)) rfl
theorem seX9_reduceText : Cond.selects yX9_reduceText.cls yX9_reduceText yX9_reduceText ∈ qTb := qTb_in (pb2 _ (List.mem_of_getElem? (i := 13) rfl)) rfl
theorem caX9_rowFault : qCal yX9_rowFault cX9_rowFault 2 (some .int) 1 := ⟨qTb_in (tb4 _ (List.mem_of_getElem? (i := 142) rfl)) rfl, inX9, ⟨by decide, by decide, by decide +kernel⟩, by decide⟩
theorem imX9_rowFault : Cond.instanceMethod yX9_rowFault ∈ qTb := qTb_in (tb4 _ (List.mem_of_getElem? (i := 141) rfl)) rfl
theorem seX9_rowFault : Cond.selects yX9_rowFault.cls yX9_rowFault yX9_rowFault ∈ qTb := qTb_in (pb3 _ (List.mem_of_getElem? (i := 2) rfl)) rfl
theorem caX9_isRow : qCal yX9_isRow cX9_isRow 1 (some .boolean) 1 := ⟨qTb_in (tb4 _ (List.mem_of_getElem? (i := 129) rfl)) rfl, inX9, ⟨by decide, by decide, by decide +kernel⟩, by decide⟩
theorem stX9_isRow : Cond.static yX9_isRow ∈ qTb := qTb_in (tb4 _ (List.mem_of_getElem? (i := 128) rfl)) rfl
theorem caX9_isTruthValue : qCal yX9_isTruthValue cX9_isTruthValue 1 (some .boolean) 1 := ⟨qTb_in (tb3 _ (List.mem_of_getElem? (i := 149) rfl)) rfl, inX9, ⟨by decide, by decide, by decide +kernel⟩, by decide⟩
theorem stX9_isTruthValue : Cond.static yX9_isTruthValue ∈ qTb := qTb_in (tb3 _ (List.mem_of_getElem? (i := 148) rfl)) rfl
theorem caX10_init : qCal yX10_init cX10_init 3 none 0 := ⟨qTb_in (tb4 _ (List.mem_of_getElem? (i := 190) rfl)) rfl, inX10, ⟨by decide, by decide, by decide +kernel⟩, by decide⟩
theorem imX10_init : Cond.instanceMethod yX10_init ∈ qTb := qTb_in (tb4 _ (List.mem_of_getElem? (i := 189) rfl)) rfl
theorem caX10_in : qCal yX10_in cX10_in 3 (some .boolean) 3 := ⟨qTb_in (tb5 _ (List.mem_of_getElem? (i := 74) rfl)) rfl, inX10, ⟨by decide, by decide, by decide +kernel⟩, by decide⟩
theorem stX10_in : Cond.static yX10_in ∈ qTb := qTb_in (tb5 _ (List.mem_of_getElem? (i := 73) rfl)) rfl
theorem caX10_isOne : qCal yX10_isOne cX10_isOne 2 (some .boolean) 1 := ⟨qTb_in (tb5 _ (List.mem_of_getElem? (i := 110) rfl)) rfl, inX10, ⟨by decide, by decide, by decide +kernel⟩, by decide⟩
theorem imX10_isOne : Cond.instanceMethod yX10_isOne ∈ qTb := qTb_in (tb5 _ (List.mem_of_getElem? (i := 109) rfl)) rfl
theorem seX10_isOne : Cond.selects yX10_isOne.cls yX10_isOne yX10_isOne ∈ qTb := qTb_in (pb3 _ (List.mem_of_getElem? (i := 8) rfl)) rfl
theorem caX10_append : qCal yX10_append cX10_append 2 (some .int) 1 := ⟨qTb_in (tb5 _ (List.mem_of_getElem? (i := 71) rfl)) rfl, inX10, ⟨by decide, by decide, by decide +kernel⟩, by decide⟩
theorem imX10_append : Cond.instanceMethod yX10_append ∈ qTb := qTb_in (tb5 _ (List.mem_of_getElem? (i := 69) rfl)) rfl
theorem seX10_append : Cond.selects yX10_append.cls yX10_append yX10_append ∈ qTb := qTb_in (tb5 _ (List.mem_of_getElem? (i := 70) rfl)) rfl
theorem caX10_clearText : qCal yX10_clearText cX10_clearText 2 (some .int) 0 := ⟨qTb_in (tb5 _ (List.mem_of_getElem? (i := 78) rfl)) rfl, inX10, ⟨by decide, by decide, by decide +kernel⟩, by decide⟩
theorem imX10_clearText : Cond.instanceMethod yX10_clearText ∈ qTb := qTb_in (tb5 _ (List.mem_of_getElem? (i := 76) rfl)) rfl
theorem seX10_clearText : Cond.selects yX10_clearText.cls yX10_clearText yX10_clearText ∈ qTb := qTb_in (tb5 _ (List.mem_of_getElem? (i := 77) rfl)) rfl
theorem caX10_readsFormula : qCal yX10_readsFormula cX10_readsFormula 4 (some .boolean) 0 := ⟨qTb_in (tb5 _ (List.mem_of_getElem? (i := 86) rfl)) rfl, inX10, ⟨by decide, by decide, by decide +kernel⟩, by decide⟩
theorem imX10_readsFormula : Cond.instanceMethod yX10_readsFormula ∈ qTb := qTb_in (tb5 _ (List.mem_of_getElem? (i := 85) rfl)) rfl
theorem seX10_readsFormula : Cond.selects yX10_readsFormula.cls yX10_readsFormula yX10_readsFormula ∈ qTb := qTb_in (pb3 _ (List.mem_of_getElem? (i := 3) rfl)) rfl
theorem caX10_names : qCal yX10_names cX10_names 3 (some .boolean) 0 := ⟨qTb_in (tb5 _ (List.mem_of_getElem? (i := 90) rfl)) rfl, inX10, ⟨by decide, by decide, by decide +kernel⟩, by decide⟩
theorem imX10_names : Cond.instanceMethod yX10_names ∈ qTb := qTb_in (tb5 _ (List.mem_of_getElem? (i := 89) rfl)) rfl
theorem seX10_names : Cond.selects yX10_names.cls yX10_names yX10_names ∈ qTb := qTb_in (pb3 _ (List.mem_of_getElem? (i := 4) rfl)) rfl
theorem caX10_variables : qCal yX10_variables cX10_variables 4 (some .int) 1 := ⟨qTb_in (tb5 _ (List.mem_of_getElem? (i := 187) rfl)) rfl, inX10, ⟨by decide, by decide, by decide +kernel⟩, by decide⟩
theorem imX10_variables : Cond.instanceMethod yX10_variables ∈ qTb := qTb_in (tb5 _ (List.mem_of_getElem? (i := 186) rfl)) rfl
theorem seX10_variables : Cond.selects yX10_variables.cls yX10_variables yX10_variables ∈ qTb := qTb_in (pb4 _ (List.mem_of_getElem? (i := 5) rfl)) rfl
theorem caX10_place : qCal yX10_place cX10_place 6 (some .int) 2 := ⟨qTb_in (tb5 _ (List.mem_of_getElem? (i := 98) rfl)) rfl, inX10, ⟨by decide, by decide, by decide +kernel⟩, by decide⟩
theorem imX10_place : Cond.instanceMethod yX10_place ∈ qTb := qTb_in (tb5 _ (List.mem_of_getElem? (i := 97) rfl)) rfl
theorem seX10_place : Cond.selects yX10_place.cls yX10_place yX10_place ∈ qTb := qTb_in (pb3 _ (List.mem_of_getElem? (i := 6) rfl)) rfl
theorem caX10_puts : qCal yX10_puts cX10_puts 3 none 1 := ⟨qTb_in (tb5 _ (List.mem_of_getElem? (i := 102) rfl)) rfl, inX10, ⟨by decide, by decide, by decide +kernel⟩, by decide⟩
theorem imX10_puts : Cond.instanceMethod yX10_puts ∈ qTb := qTb_in (tb5 _ (List.mem_of_getElem? (i := 101) rfl)) rfl
theorem seX10_puts : Cond.selects yX10_puts.cls yX10_puts yX10_puts ∈ qTb := qTb_in (pb3 _ (List.mem_of_getElem? (i := 7) rfl)) rfl
theorem caX10_enters : qCal yX10_enters cX10_enters 4 (some .int) 2 := ⟨qTb_in (tb5 _ (List.mem_of_getElem? (i := 94) rfl)) rfl, inX10, ⟨by decide, by decide, by decide +kernel⟩, by decide⟩
theorem imX10_enters : Cond.instanceMethod yX10_enters ∈ qTb := qTb_in (tb5 _ (List.mem_of_getElem? (i := 93) rfl)) rfl
theorem seX10_enters : Cond.selects yX10_enters.cls yX10_enters yX10_enters ∈ qTb := qTb_in (pb3 _ (List.mem_of_getElem? (i := 5) rfl)) rfl
theorem caX10_addAxiom : qCal yX10_addAxiom cX10_addAxiom 2 (some .int) 0 := ⟨qTb_in (tb5 _ (List.mem_of_getElem? (i := 82) rfl)) rfl, inX10, ⟨by decide, by decide, by decide +kernel⟩, by decide⟩
theorem imX10_addAxiom : Cond.instanceMethod yX10_addAxiom ∈ qTb := qTb_in (tb5 _ (List.mem_of_getElem? (i := 80) rfl)) rfl
theorem seX10_addAxiom : Cond.selects yX10_addAxiom.cls yX10_addAxiom yX10_addAxiom ∈ qTb := qTb_in (tb5 _ (List.mem_of_getElem? (i := 81) rfl)) rfl
theorem caX10_builds : qCal yX10_builds cX10_builds 5 (some .int) 2 := ⟨qTb_in (tb5 _ (List.mem_of_getElem? (i := 126) rfl)) rfl, inX10, ⟨by decide, by decide, by decide +kernel⟩, by decide⟩
theorem imX10_builds : Cond.instanceMethod yX10_builds ∈ qTb := qTb_in (tb5 _ (List.mem_of_getElem? (i := 125) rfl)) rfl
theorem seX10_builds : Cond.selects yX10_builds.cls yX10_builds yX10_builds ∈ qTb := qTb_in (pb3 _ (List.mem_of_getElem? (i := 12) rfl)) rfl
theorem caX10_seek : qCal yX10_seek cX10_seek 3 (some .int) 1 := ⟨qTb_in (tb5 _ (List.mem_of_getElem? (i := 134) rfl)) rfl, inX10, ⟨by decide, by decide, by decide +kernel⟩, by decide⟩
theorem imX10_seek : Cond.instanceMethod yX10_seek ∈ qTb := qTb_in (tb5 _ (List.mem_of_getElem? (i := 133) rfl)) rfl
theorem seX10_seek : Cond.selects yX10_seek.cls yX10_seek yX10_seek ∈ qTb := qTb_in (pb3 _ (List.mem_of_getElem? (i := 14) rfl)) rfl
theorem caX10_occurs : qCal yX10_occurs cX10_occurs 4 (some .boolean) 2 := ⟨qTb_in (tb5 _ (List.mem_of_getElem? (i := 138) rfl)) rfl, inX10, ⟨by decide, by decide, by decide +kernel⟩, by decide⟩
theorem imX10_occurs : Cond.instanceMethod yX10_occurs ∈ qTb := qTb_in (tb5 _ (List.mem_of_getElem? (i := 137) rfl)) rfl
theorem seX10_occurs : Cond.selects yX10_occurs.cls yX10_occurs yX10_occurs ∈ qTb := qTb_in (pb3 _ (List.mem_of_getElem? (i := 15) rfl)) rfl
theorem caX10_unifies : qCal yX10_unifies cX10_unifies 6 (some .boolean) 2 := ⟨qTb_in (tb5 _ (List.mem_of_getElem? (i := 130) rfl)) rfl, inX10, ⟨by decide, by decide, by decide +kernel⟩, by decide⟩
theorem imX10_unifies : Cond.instanceMethod yX10_unifies ∈ qTb := qTb_in (tb5 _ (List.mem_of_getElem? (i := 129) rfl)) rfl
theorem seX10_unifies : Cond.selects yX10_unifies.cls yX10_unifies yX10_unifies ∈ qTb := qTb_in (pb3 _ (List.mem_of_getElem? (i := 13) rfl)) rfl
theorem caX10_writes : qCal yX10_writes cX10_writes 4 (some .boolean) 1 := ⟨qTb_in (tb5 _ (List.mem_of_getElem? (i := 146) rfl)) rfl, inX10, ⟨by decide, by decide, by decide +kernel⟩, by decide⟩
theorem imX10_writes : Cond.instanceMethod yX10_writes ∈ qTb := qTb_in (tb5 _ (List.mem_of_getElem? (i := 145) rfl)) rfl
theorem seX10_writes : Cond.selects yX10_writes.cls yX10_writes yX10_writes ∈ qTb := qTb_in (pb4 _ (List.mem_of_getElem? (i := 1) rfl)) rfl
theorem caX10_begins : qCal yX10_begins cX10_begins 2 none 0 := ⟨qTb_in (tb5 _ (List.mem_of_getElem? (i := 122) rfl)) rfl, inX10, ⟨by decide, by decide, by decide +kernel⟩, by decide⟩
theorem imX10_begins : Cond.instanceMethod yX10_begins ∈ qTb := qTb_in (tb5 _ (List.mem_of_getElem? (i := 121) rfl)) rfl
theorem seX10_begins : Cond.selects yX10_begins.cls yX10_begins yX10_begins ∈ qTb := qTb_in (pb3 _ (List.mem_of_getElem? (i := 11) rfl)) rfl
theorem caX10_written : qCal yX10_written cX10_written 2 (some .int) 1 := ⟨qTb_in (tb5 _ (List.mem_of_getElem? (i := 142) rfl)) rfl, inX10, ⟨by decide, by decide, by decide +kernel⟩, by decide⟩
theorem imX10_written : Cond.instanceMethod yX10_written ∈ qTb := qTb_in (tb5 _ (List.mem_of_getElem? (i := 141) rfl)) rfl
theorem seX10_written : Cond.selects yX10_written.cls yX10_written yX10_written ∈ qTb := qTb_in (pb4 _ (List.mem_of_getElem? (i := 0) rfl)) rfl
theorem caX10_detaches : qCal yX10_detaches cX10_detaches 7 (some .int) 4 := ⟨qTb_in (tb5 _ (List.mem_of_getElem? (i := 118) rfl)) rfl, inX10, ⟨by decide, by decide, by decide +kernel⟩, by decide⟩
theorem imX10_detaches : Cond.instanceMethod yX10_detaches ∈ qTb := qTb_in (tb5 _ (List.mem_of_getElem? (i := 117) rfl)) rfl
theorem seX10_detaches : Cond.selects yX10_detaches.cls yX10_detaches yX10_detaches ∈ qTb := qTb_in (pb3 _ (List.mem_of_getElem? (i := 10) rfl)) rfl
theorem caX10_detaches_ : qCal yX10_detaches_ cX10_detaches_ 3 (some .int) 2 := ⟨qTb_in (tb5 _ (List.mem_of_getElem? (i := 114) rfl)) rfl, inX10, ⟨by decide, by decide, by decide +kernel⟩, by decide⟩
theorem imX10_detaches_ : Cond.instanceMethod yX10_detaches_ ∈ qTb := qTb_in (tb5 _ (List.mem_of_getElem? (i := 113) rfl)) rfl
theorem seX10_detaches_ : Cond.selects yX10_detaches_.cls yX10_detaches_ yX10_detaches_ ∈ qTb := qTb_in (pb3 _ (List.mem_of_getElem? (i := 9) rfl)) rfl
theorem caX10_detach : qCal yX10_detach cX10_detach 4 (some .int) 2 := ⟨qTb_in (tb5 _ (List.mem_of_getElem? (i := 106) rfl)) rfl, inX10, ⟨by decide, by decide, by decide +kernel⟩, by decide⟩
theorem imX10_detach : Cond.instanceMethod yX10_detach ∈ qTb := qTb_in (tb5 _ (List.mem_of_getElem? (i := 104) rfl)) rfl
theorem seX10_detach : Cond.selects yX10_detach.cls yX10_detach yX10_detach ∈ qTb := qTb_in (tb5 _ (List.mem_of_getElem? (i := 105) rfl)) rfl
theorem caX10_unify : qCal yX10_unify cX10_unify 5 (some .int) 2 := ⟨qTb_in (tb5 _ (List.mem_of_getElem? (i := 150) rfl)) rfl, inX10, ⟨by decide, by decide, by decide +kernel⟩, by decide⟩
theorem imX10_unify : Cond.instanceMethod yX10_unify ∈ qTb := qTb_in (tb5 _ (List.mem_of_getElem? (i := 148) rfl)) rfl
theorem seX10_unify : Cond.selects yX10_unify.cls yX10_unify yX10_unify ∈ qTb := qTb_in (tb5 _ (List.mem_of_getElem? (i := 149) rfl)) rfl
theorem caX10_tellsOne : qCal yX10_tellsOne cX10_tellsOne 2 none 0 := ⟨qTb_in (tb5 _ (List.mem_of_getElem? (i := 154) rfl)) rfl, inX10, ⟨by decide, by decide, by decide +kernel⟩, by decide⟩
theorem imX10_tellsOne : Cond.instanceMethod yX10_tellsOne ∈ qTb := qTb_in (tb5 _ (List.mem_of_getElem? (i := 153) rfl)) rfl
theorem seX10_tellsOne : Cond.selects yX10_tellsOne.cls yX10_tellsOne yX10_tellsOne ∈ qTb := qTb_in (pb4 _ (List.mem_of_getElem? (i := 2) rfl)) rfl
theorem caX10_readsProof : qCal yX10_readsProof cX10_readsProof 4 (some .boolean) 0 := ⟨qTb_in (tb5 _ (List.mem_of_getElem? (i := 162) rfl)) rfl, inX10, ⟨by decide, by decide, by decide +kernel⟩, by decide⟩
theorem imX10_readsProof : Cond.instanceMethod yX10_readsProof ∈ qTb := qTb_in (tb5 _ (List.mem_of_getElem? (i := 161) rfl)) rfl
theorem seX10_readsProof : Cond.selects yX10_readsProof.cls yX10_readsProof yX10_readsProof ∈ qTb := qTb_in (pb4 _ (List.mem_of_getElem? (i := 3) rfl)) rfl
theorem caX10_proves : qCal yX10_proves cX10_proves 4 (some .int) 0 := ⟨qTb_in (tb5 _ (List.mem_of_getElem? (i := 166) rfl)) rfl, inX10, ⟨by decide, by decide, by decide +kernel⟩, by decide⟩
theorem imX10_proves : Cond.instanceMethod yX10_proves ∈ qTb := qTb_in (tb5 _ (List.mem_of_getElem? (i := 165) rfl)) rfl
theorem seX10_proves : Cond.selects yX10_proves.cls yX10_proves yX10_proves ∈ qTb := qTb_in (pb4 _ (List.mem_of_getElem? (i := 4) rfl)) rfl
theorem caX10_prove : qCal yX10_prove cX10_prove 4 (some .int) 0 := ⟨qTb_in (tb5 _ (List.mem_of_getElem? (i := 158) rfl)) rfl, inX10, ⟨by decide, by decide, by decide +kernel⟩, by decide⟩
theorem imX10_prove : Cond.instanceMethod yX10_prove ∈ qTb := qTb_in (tb5 _ (List.mem_of_getElem? (i := 156) rfl)) rfl
theorem seX10_prove : Cond.selects yX10_prove.cls yX10_prove yX10_prove ∈ qTb := qTb_in (tb5 _ (List.mem_of_getElem? (i := 157) rfl)) rfl
theorem caX10_cut : qCal yX10_cut cX10_cut 3 (some .int) 1 := ⟨qTb_in (tb5 _ (List.mem_of_getElem? (i := 171) rfl)) rfl, inX10, ⟨by decide, by decide, by decide +kernel⟩, by decide⟩
theorem imX10_cut : Cond.instanceMethod yX10_cut ∈ qTb := qTb_in (tb5 _ (List.mem_of_getElem? (i := 169) rfl)) rfl
theorem seX10_cut : Cond.selects yX10_cut.cls yX10_cut yX10_cut ∈ qTb := qTb_in (tb5 _ (List.mem_of_getElem? (i := 170) rfl)) rfl
theorem caX10_listSize : qCal yX10_listSize cX10_listSize 1 (some .int) 0 := ⟨qTb_in (tb5 _ (List.mem_of_getElem? (i := 175) rfl)) rfl, inX10, ⟨by decide, by decide, by decide +kernel⟩, by decide⟩
theorem imX10_listSize : Cond.instanceMethod yX10_listSize ∈ qTb := qTb_in (tb5 _ (List.mem_of_getElem? (i := 173) rfl)) rfl
theorem seX10_listSize : Cond.selects yX10_listSize.cls yX10_listSize yX10_listSize ∈ qTb := qTb_in (tb5 _ (List.mem_of_getElem? (i := 174) rfl)) rfl
theorem caX10_formulaSize : qCal yX10_formulaSize cX10_formulaSize 2 (some .int) 1 := ⟨qTb_in (tb5 _ (List.mem_of_getElem? (i := 179) rfl)) rfl, inX10, ⟨by decide, by decide, by decide +kernel⟩, by decide⟩
theorem imX10_formulaSize : Cond.instanceMethod yX10_formulaSize ∈ qTb := qTb_in (tb5 _ (List.mem_of_getElem? (i := 177) rfl)) rfl
theorem seX10_formulaSize : Cond.selects yX10_formulaSize.cls yX10_formulaSize yX10_formulaSize ∈ qTb := qTb_in (tb5 _ (List.mem_of_getElem? (i := 178) rfl)) rfl
theorem caX10_variableCount : qCal yX10_variableCount cX10_variableCount 2 (some .int) 1 := ⟨qTb_in (tb5 _ (List.mem_of_getElem? (i := 183) rfl)) rfl, inX10, ⟨by decide, by decide, by decide +kernel⟩, by decide⟩
theorem imX10_variableCount : Cond.instanceMethod yX10_variableCount ∈ qTb := qTb_in (tb5 _ (List.mem_of_getElem? (i := 181) rfl)) rfl
theorem seX10_variableCount : Cond.selects yX10_variableCount.cls yX10_variableCount yX10_variableCount ∈ qTb := qTb_in (tb5 _ (List.mem_of_getElem? (i := 182) rfl)) rfl
theorem caX10_majorOf : qCal yX10_majorOf cX10_majorOf 2 (some .int) 1 := ⟨qTb_in (tb5 _ (List.mem_of_getElem? (i := 192) rfl)) rfl, inX10, ⟨by decide, by decide, by decide +kernel⟩, by decide⟩
theorem imX10_majorOf : Cond.instanceMethod yX10_majorOf ∈ qTb := qTb_in (tb5 _ (List.mem_of_getElem? (i := 190) rfl)) rfl
theorem seX10_majorOf : Cond.selects yX10_majorOf.cls yX10_majorOf yX10_majorOf ∈ qTb := qTb_in (tb5 _ (List.mem_of_getElem? (i := 191) rfl)) rfl
theorem caX10_minorOf : qCal yX10_minorOf cX10_minorOf 2 (some .int) 1 := ⟨qTb_in (tb5 _ (List.mem_of_getElem? (i := 196) rfl)) rfl, inX10, ⟨by decide, by decide, by decide +kernel⟩, by decide⟩
theorem imX10_minorOf : Cond.instanceMethod yX10_minorOf ∈ qTb := qTb_in (tb5 _ (List.mem_of_getElem? (i := 194) rfl)) rfl
theorem seX10_minorOf : Cond.selects yX10_minorOf.cls yX10_minorOf yX10_minorOf ∈ qTb := qTb_in (tb5 _ (List.mem_of_getElem? (i := 195) rfl)) rfl
theorem caX10_proofDepth : qCal yX10_proofDepth cX10_proofDepth 4 (some .int) 1 := ⟨qTb_in (tb5 _ (List.mem_of_getElem? (i := 200) rfl)) rfl, inX10, ⟨by decide, by decide, by decide +kernel⟩, by decide⟩
theorem imX10_proofDepth : Cond.instanceMethod yX10_proofDepth ∈ qTb := qTb_in (tb5 _ (List.mem_of_getElem? (i := 198) rfl)) rfl
theorem seX10_proofDepth : Cond.selects yX10_proofDepth.cls yX10_proofDepth yX10_proofDepth ∈ qTb := qTb_in (tb5 _ (List.mem_of_getElem? (i := 199) rfl)) rfl
theorem caX10_signs : qCal yX10_signs cX10_signs 4 (some .long) 1 := ⟨qTb_in (tb5 _ (List.mem_of_getElem? (i := 208) rfl)) rfl, inX10, ⟨by decide, by decide, by decide +kernel⟩, by decide⟩
theorem imX10_signs : Cond.instanceMethod yX10_signs ∈ qTb := qTb_in (tb5 _ (List.mem_of_getElem? (i := 207) rfl)) rfl
theorem seX10_signs : Cond.selects yX10_signs.cls yX10_signs yX10_signs ∈ qTb := qTb_in (pb4 _ (List.mem_of_getElem? (i := 6) rfl)) rfl
theorem caX10_proofSize : qCal yX10_proofSize cX10_proofSize 2 (some .long) 1 := ⟨qTb_in (tb5 _ (List.mem_of_getElem? (i := 204) rfl)) rfl, inX10, ⟨by decide, by decide, by decide +kernel⟩, by decide⟩
theorem imX10_proofSize : Cond.instanceMethod yX10_proofSize ∈ qTb := qTb_in (tb5 _ (List.mem_of_getElem? (i := 202) rfl)) rfl
theorem seX10_proofSize : Cond.selects yX10_proofSize.cls yX10_proofSize yX10_proofSize ∈ qTb := qTb_in (tb5 _ (List.mem_of_getElem? (i := 203) rfl)) rfl
theorem caX10_writeFormula : qCal yX10_writeFormula cX10_writeFormula 3 (some .int) 1 := ⟨qTb_in (tb5 _ (List.mem_of_getElem? (i := 213) rfl)) rfl, inX10, ⟨by decide, by decide, by decide +kernel⟩, by decide⟩
theorem imX10_writeFormula : Cond.instanceMethod yX10_writeFormula ∈ qTb := qTb_in (tb5 _ (List.mem_of_getElem? (i := 211) rfl)) rfl
theorem seX10_writeFormula : Cond.selects yX10_writeFormula.cls yX10_writeFormula yX10_writeFormula ∈ qTb := qTb_in (tb5 _ (List.mem_of_getElem? (i := 212) rfl)) rfl
theorem caX10_hasDigits : qCal yX10_hasDigits cX10_hasDigits 2 (some .boolean) 1 := ⟨qTb_in (tb5 _ (List.mem_of_getElem? (i := 222) rfl)) rfl, inX10, ⟨by decide, by decide, by decide +kernel⟩, by decide⟩
theorem imX10_hasDigits : Cond.instanceMethod yX10_hasDigits ∈ qTb := qTb_in (tb5 _ (List.mem_of_getElem? (i := 221) rfl)) rfl
theorem seX10_hasDigits : Cond.selects yX10_hasDigits.cls yX10_hasDigits yX10_hasDigits ∈ qTb := qTb_in (pb4 _ (List.mem_of_getElem? (i := 7) rfl)) rfl
theorem caX10_tellsProof : qCal yX10_tellsProof cX10_tellsProof 2 none 1 := ⟨qTb_in (tb5 _ (List.mem_of_getElem? (i := 226) rfl)) rfl, inX10, ⟨by decide, by decide, by decide +kernel⟩, by decide⟩
theorem imX10_tellsProof : Cond.instanceMethod yX10_tellsProof ∈ qTb := qTb_in (tb5 _ (List.mem_of_getElem? (i := 225) rfl)) rfl
theorem seX10_tellsProof : Cond.selects yX10_tellsProof.cls yX10_tellsProof yX10_tellsProof ∈ qTb := qTb_in (pb4 _ (List.mem_of_getElem? (i := 8) rfl)) rfl
theorem caX10_writeProof : qCal yX10_writeProof cX10_writeProof 2 (some .int) 1 := ⟨qTb_in (tb5 _ (List.mem_of_getElem? (i := 217) rfl)) rfl, inX10, ⟨by decide, by decide, by decide +kernel⟩, by decide⟩
theorem imX10_writeProof : Cond.instanceMethod yX10_writeProof ∈ qTb := qTb_in (tb5 _ (List.mem_of_getElem? (i := 215) rfl)) rfl
theorem seX10_writeProof : Cond.selects yX10_writeProof.cls yX10_writeProof yX10_writeProof ∈ qTb := qTb_in (tb5 _ (List.mem_of_getElem? (i := 216) rfl)) rfl
theorem caX10_outputLength : qCal yX10_outputLength cX10_outputLength 1 (some .int) 0 := ⟨qTb_in (tb5 _ (List.mem_of_getElem? (i := 230) rfl)) rfl, inX10, ⟨by decide, by decide, by decide +kernel⟩, by decide⟩
theorem imX10_outputLength : Cond.instanceMethod yX10_outputLength ∈ qTb := qTb_in (tb5 _ (List.mem_of_getElem? (i := 228) rfl)) rfl
theorem seX10_outputLength : Cond.selects yX10_outputLength.cls yX10_outputLength yX10_outputLength ∈ qTb := qTb_in (tb5 _ (List.mem_of_getElem? (i := 229) rfl)) rfl
theorem caX10_outputAt : qCal yX10_outputAt cX10_outputAt 2 (some .int) 1 := ⟨qTb_in (tb5 _ (List.mem_of_getElem? (i := 234) rfl)) rfl, inX10, ⟨by decide, by decide, by decide +kernel⟩, by decide⟩
theorem imX10_outputAt : Cond.instanceMethod yX10_outputAt ∈ qTb := qTb_in (tb5 _ (List.mem_of_getElem? (i := 232) rfl)) rfl
theorem seX10_outputAt : Cond.selects yX10_outputAt.cls yX10_outputAt yX10_outputAt ∈ qTb := qTb_in (tb5 _ (List.mem_of_getElem? (i := 233) rfl)) rfl
theorem caX10_endOf : qCal yX10_endOf cX10_endOf 5 (some .int) 2 := ⟨qTb_in (tb6 _ (List.mem_of_getElem? (i := 6) rfl)) rfl, inX10, ⟨by decide, by decide, by decide +kernel⟩, by decide⟩
theorem imX10_endOf : Cond.instanceMethod yX10_endOf ∈ qTb := qTb_in (tb6 _ (List.mem_of_getElem? (i := 5) rfl)) rfl
theorem seX10_endOf : Cond.selects yX10_endOf.cls yX10_endOf yX10_endOf ∈ qTb := qTb_in (pb4 _ (List.mem_of_getElem? (i := 10) rfl)) rfl
theorem caX10_isFrom : qCal yX10_isFrom cX10_isFrom 9 (some .boolean) 2 := ⟨qTb_in (tb6 _ (List.mem_of_getElem? (i := 2) rfl)) rfl, inX10, ⟨by decide, by decide, by decide +kernel⟩, by decide⟩
theorem imX10_isFrom : Cond.instanceMethod yX10_isFrom ∈ qTb := qTb_in (tb6 _ (List.mem_of_getElem? (i := 1) rfl)) rfl
theorem seX10_isFrom : Cond.selects yX10_isFrom.cls yX10_isFrom yX10_isFrom ∈ qTb := qTb_in (pb4 _ (List.mem_of_getElem? (i := 9) rfl)) rfl
theorem caX10_isInstance : qCal yX10_isInstance cX10_isInstance 3 (some .int) 2 := ⟨qTb_in (tb5 _ (List.mem_of_getElem? (i := 238) rfl)) rfl, inX10, ⟨by decide, by decide, by decide +kernel⟩, by decide⟩
theorem imX10_isInstance : Cond.instanceMethod yX10_isInstance ∈ qTb := qTb_in (tb5 _ (List.mem_of_getElem? (i := 236) rfl)) rfl
theorem seX10_isInstance : Cond.selects yX10_isInstance.cls yX10_isInstance yX10_isInstance ∈ qTb := qTb_in (tb5 _ (List.mem_of_getElem? (i := 237) rfl)) rfl
theorem caX10_moreGeneral : qCal yX10_moreGeneral cX10_moreGeneral 3 (some .int) 1 := ⟨qTb_in (tb6 _ (List.mem_of_getElem? (i := 10) rfl)) rfl, inX10, ⟨by decide, by decide, by decide +kernel⟩, by decide⟩
theorem imX10_moreGeneral : Cond.instanceMethod yX10_moreGeneral ∈ qTb := qTb_in (tb6 _ (List.mem_of_getElem? (i := 8) rfl)) rfl
theorem seX10_moreGeneral : Cond.selects yX10_moreGeneral.cls yX10_moreGeneral yX10_moreGeneral ∈ qTb := qTb_in (tb6 _ (List.mem_of_getElem? (i := 9) rfl)) rfl
theorem caX10_round : qCal yX10_round cX10_round 7 (some .int) 1 := ⟨qTb_in (tb6 _ (List.mem_of_getElem? (i := 14) rfl)) rfl, inX10, ⟨by decide, by decide, by decide +kernel⟩, by decide⟩
theorem imX10_round : Cond.instanceMethod yX10_round ∈ qTb := qTb_in (tb6 _ (List.mem_of_getElem? (i := 12) rfl)) rfl
theorem seX10_round : Cond.selects yX10_round.cls yX10_round yX10_round ∈ qTb := qTb_in (tb6 _ (List.mem_of_getElem? (i := 13) rfl)) rfl
theorem caX10_shortest : qCal yX10_shortest cX10_shortest 8 (some .int) 2 := ⟨qTb_in (tb6 _ (List.mem_of_getElem? (i := 18) rfl)) rfl, inX10, ⟨by decide, by decide, by decide +kernel⟩, by decide⟩
theorem imX10_shortest : Cond.instanceMethod yX10_shortest ∈ qTb := qTb_in (tb6 _ (List.mem_of_getElem? (i := 16) rfl)) rfl
theorem seX10_shortest : Cond.selects yX10_shortest.cls yX10_shortest yX10_shortest ∈ qTb := qTb_in (tb6 _ (List.mem_of_getElem? (i := 17) rfl)) rfl
theorem caX10_isValue : qCal yX10_isValue cX10_isValue 1 (some .boolean) 1 := ⟨qTb_in (tb6 _ (List.mem_of_getElem? (i := 25) rfl)) rfl, inX10, ⟨by decide, by decide, by decide +kernel⟩, by decide⟩
theorem stX10_isValue : Cond.static yX10_isValue ∈ qTb := qTb_in (tb6 _ (List.mem_of_getElem? (i := 24) rfl)) rfl
theorem caX10_isDesignated : qCal yX10_isDesignated cX10_isDesignated 2 (some .boolean) 1 := ⟨qTb_in (tb6 _ (List.mem_of_getElem? (i := 37) rfl)) rfl, inX10, ⟨by decide, by decide, by decide +kernel⟩, by decide⟩
theorem imX10_isDesignated : Cond.instanceMethod yX10_isDesignated ∈ qTb := qTb_in (tb6 _ (List.mem_of_getElem? (i := 36) rfl)) rfl
theorem seX10_isDesignated : Cond.selects yX10_isDesignated.cls yX10_isDesignated yX10_isDesignated ∈ qTb := qTb_in (pb4 _ (List.mem_of_getElem? (i := 11) rfl)) rfl
theorem caX10_setEntry : qCal yX10_setEntry cX10_setEntry 5 (some .int) 3 := ⟨qTb_in (tb6 _ (List.mem_of_getElem? (i := 22) rfl)) rfl, inX10, ⟨by decide, by decide, by decide +kernel⟩, by decide⟩
theorem imX10_setEntry : Cond.instanceMethod yX10_setEntry ∈ qTb := qTb_in (tb6 _ (List.mem_of_getElem? (i := 20) rfl)) rfl
theorem seX10_setEntry : Cond.selects yX10_setEntry.cls yX10_setEntry yX10_setEntry ∈ qTb := qTb_in (tb6 _ (List.mem_of_getElem? (i := 21) rfl)) rfl
theorem caX10_setDesignated : qCal yX10_setDesignated cX10_setDesignated 3 (some .int) 1 := ⟨qTb_in (tb6 _ (List.mem_of_getElem? (i := 29) rfl)) rfl, inX10, ⟨by decide, by decide, by decide +kernel⟩, by decide⟩
theorem imX10_setDesignated : Cond.instanceMethod yX10_setDesignated ∈ qTb := qTb_in (tb6 _ (List.mem_of_getElem? (i := 27) rfl)) rfl
theorem seX10_setDesignated : Cond.selects yX10_setDesignated.cls yX10_setDesignated yX10_setDesignated ∈ qTb := qTb_in (tb6 _ (List.mem_of_getElem? (i := 28) rfl)) rfl
theorem caX10_isNormal : qCal yX10_isNormal cX10_isNormal 3 (some .int) 0 := ⟨qTb_in (tb6 _ (List.mem_of_getElem? (i := 33) rfl)) rfl, inX10, ⟨by decide, by decide, by decide +kernel⟩, by decide⟩
theorem imX10_isNormal : Cond.instanceMethod yX10_isNormal ∈ qTb := qTb_in (tb6 _ (List.mem_of_getElem? (i := 31) rfl)) rfl
theorem seX10_isNormal : Cond.selects yX10_isNormal.cls yX10_isNormal yX10_isNormal ∈ qTb := qTb_in (tb6 _ (List.mem_of_getElem? (i := 32) rfl)) rfl
theorem caX10_valueAt : qCal yX10_valueAt cX10_valueAt 5 (some .int) 1 := ⟨qTb_in (tb6 _ (List.mem_of_getElem? (i := 60) rfl)) rfl, inX10, ⟨by decide, by decide, by decide +kernel⟩, by decide⟩
theorem imX10_valueAt : Cond.instanceMethod yX10_valueAt ∈ qTb := qTb_in (tb6 _ (List.mem_of_getElem? (i := 59) rfl)) rfl
theorem seX10_valueAt : Cond.selects yX10_valueAt.cls yX10_valueAt yX10_valueAt ∈ qTb := qTb_in (pb4 _ (List.mem_of_getElem? (i := 15) rfl)) rfl
theorem caX10_valueOf : qCal yX10_valueOf cX10_valueOf 2 (some .int) 1 := ⟨qTb_in (tb6 _ (List.mem_of_getElem? (i := 56) rfl)) rfl, inX10, ⟨by decide, by decide, by decide +kernel⟩, by decide⟩
theorem imX10_valueOf : Cond.instanceMethod yX10_valueOf ∈ qTb := qTb_in (tb6 _ (List.mem_of_getElem? (i := 55) rfl)) rfl
theorem seX10_valueOf : Cond.selects yX10_valueOf.cls yX10_valueOf yX10_valueOf ∈ qTb := qTb_in (pb4 _ (List.mem_of_getElem? (i := 14) rfl)) rfl
theorem caX10_values : qCal yX10_values cX10_values 5 none 2 := ⟨qTb_in (tb6 _ (List.mem_of_getElem? (i := 52) rfl)) rfl, inX10, ⟨by decide, by decide, by decide +kernel⟩, by decide⟩
theorem imX10_values : Cond.instanceMethod yX10_values ∈ qTb := qTb_in (tb6 _ (List.mem_of_getElem? (i := 51) rfl)) rfl
theorem seX10_values : Cond.selects yX10_values.cls yX10_values yX10_values ∈ qTb := qTb_in (pb4 _ (List.mem_of_getElem? (i := 13) rfl)) rfl
theorem caX10_power : qCal yX10_power cX10_power 3 (some .int) 1 := ⟨qTb_in (tb6 _ (List.mem_of_getElem? (i := 48) rfl)) rfl, inX10, ⟨by decide, by decide, by decide +kernel⟩, by decide⟩
theorem stX10_power : Cond.static yX10_power ∈ qTb := qTb_in (tb6 _ (List.mem_of_getElem? (i := 47) rfl)) rfl
theorem caX10_refutes : qCal yX10_refutes cX10_refutes 4 (some .int) 2 := ⟨qTb_in (tb6 _ (List.mem_of_getElem? (i := 45) rfl)) rfl, inX10, ⟨by decide, by decide, by decide +kernel⟩, by decide⟩
theorem imX10_refutes : Cond.instanceMethod yX10_refutes ∈ qTb := qTb_in (tb6 _ (List.mem_of_getElem? (i := 44) rfl)) rfl
theorem seX10_refutes : Cond.selects yX10_refutes.cls yX10_refutes yX10_refutes ∈ qTb := qTb_in (pb4 _ (List.mem_of_getElem? (i := 12) rfl)) rfl
theorem caX10_isValid : qCal yX10_isValid cX10_isValid 3 (some .int) 1 := ⟨qTb_in (tb6 _ (List.mem_of_getElem? (i := 41) rfl)) rfl, inX10, ⟨by decide, by decide, by decide +kernel⟩, by decide⟩
theorem imX10_isValid : Cond.instanceMethod yX10_isValid ∈ qTb := qTb_in (tb6 _ (List.mem_of_getElem? (i := 39) rfl)) rfl
theorem seX10_isValid : Cond.selects yX10_isValid.cls yX10_isValid yX10_isValid ∈ qTb := qTb_in (tb6 _ (List.mem_of_getElem? (i := 40) rfl)) rfl
theorem caX10_refutation : qCal yX10_refutation cX10_refutation 5 (some .int) 2 := ⟨qTb_in (tb6 _ (List.mem_of_getElem? (i := 64) rfl)) rfl, inX10, ⟨by decide, by decide, by decide +kernel⟩, by decide⟩
theorem imX10_refutation : Cond.instanceMethod yX10_refutation ∈ qTb := qTb_in (tb6 _ (List.mem_of_getElem? (i := 62) rfl)) rfl
theorem seX10_refutation : Cond.selects yX10_refutation.cls yX10_refutation yX10_refutation ∈ qTb := qTb_in (tb6 _ (List.mem_of_getElem? (i := 63) rfl)) rfl
theorem caX10_countValuations : qCal yX10_countValuations cX10_countValuations 6 (some .int) 2 := ⟨qTb_in (tb6 _ (List.mem_of_getElem? (i := 68) rfl)) rfl, inX10, ⟨by decide, by decide, by decide +kernel⟩, by decide⟩
theorem imX10_countValuations : Cond.instanceMethod yX10_countValuations ∈ qTb := qTb_in (tb6 _ (List.mem_of_getElem? (i := 66) rfl)) rfl
theorem seX10_countValuations : Cond.selects yX10_countValuations.cls yX10_countValuations yX10_countValuations ∈ qTb := qTb_in (tb6 _ (List.mem_of_getElem? (i := 67) rfl)) rfl
theorem caX10_isTerm : qCal yX10_isTerm cX10_isTerm 5 (some .boolean) 0 := ⟨qTb_in (tb6 _ (List.mem_of_getElem? (i := 76) rfl)) rfl, inX10, ⟨by decide, by decide, by decide +kernel⟩, by decide⟩
theorem imX10_isTerm : Cond.instanceMethod yX10_isTerm ∈ qTb := qTb_in (tb6 _ (List.mem_of_getElem? (i := 75) rfl)) rfl
theorem seX10_isTerm : Cond.selects yX10_isTerm.cls yX10_isTerm yX10_isTerm ∈ qTb := qTb_in (pb5 _ (List.mem_of_getElem? (i := 0) rfl)) rfl
theorem caX10_typeOf : qCal yX10_typeOf cX10_typeOf 1 (some (.object "java/lang/String")) 1 := ⟨qTb_in (tb6 _ (List.mem_of_getElem? (i := 139) rfl)) rfl, inX10, ⟨by decide, by decide, by decide +kernel⟩, by decide⟩
theorem stX10_typeOf : Cond.static yX10_typeOf ∈ qTb := qTb_in (tb6 _ (List.mem_of_getElem? (i := 138) rfl)) rfl
theorem caX10_keepsType : qCal yX10_keepsType cX10_keepsType 2 none 0 := ⟨qTb_in (tb6 _ (List.mem_of_getElem? (i := 151) rfl)) rfl, inX10, ⟨by decide, by decide, by decide +kernel⟩, by decide⟩
theorem imX10_keepsType : Cond.instanceMethod yX10_keepsType ∈ qTb := qTb_in (tb6 _ (List.mem_of_getElem? (i := 150) rfl)) rfl
theorem seX10_keepsType : Cond.selects yX10_keepsType.cls yX10_keepsType yX10_keepsType ∈ qTb := qTb_in (pb5 _ (List.mem_of_getElem? (i := 2) rfl)) rfl
theorem caX10_applies : qCal yX10_applies cX10_applies 2 none 0 := ⟨qTb_in (tb6 _ (List.mem_of_getElem? (i := 155) rfl)) rfl, inX10, ⟨by decide, by decide, by decide +kernel⟩, by decide⟩
theorem imX10_applies : Cond.instanceMethod yX10_applies ∈ qTb := qTb_in (tb6 _ (List.mem_of_getElem? (i := 154) rfl)) rfl
theorem seX10_applies : Cond.selects yX10_applies.cls yX10_applies yX10_applies ∈ qTb := qTb_in (pb5 _ (List.mem_of_getElem? (i := 3) rfl)) rfl
theorem caX10_typesTerm : qCal yX10_typesTerm cX10_typesTerm 5 none 0 := ⟨qTb_in (tb6 _ (List.mem_of_getElem? (i := 136) rfl)) rfl, inX10, ⟨by decide, by decide, by decide +kernel⟩, by decide⟩
theorem imX10_typesTerm : Cond.instanceMethod yX10_typesTerm ∈ qTb := qTb_in (tb6 _ (List.mem_of_getElem? (i := 135) rfl)) rfl
theorem seX10_typesTerm : Cond.selects yX10_typesTerm.cls yX10_typesTerm yX10_typesTerm ∈ qTb := qTb_in (pb5 _ (List.mem_of_getElem? (i := 1) rfl)) rfl
theorem caX10_addType : qCal yX10_addType cX10_addType 3 (some .int) 0 := ⟨qTb_in (tb6 _ (List.mem_of_getElem? (i := 72) rfl)) rfl, inX10, ⟨by decide, by decide, by decide +kernel⟩, by decide⟩
theorem imX10_addType : Cond.instanceMethod yX10_addType ∈ qTb := qTb_in (tb6 _ (List.mem_of_getElem? (i := 70) rfl)) rfl
theorem seX10_addType : Cond.selects yX10_addType.cls yX10_addType yX10_addType ∈ qTb := qTb_in (tb6 _ (List.mem_of_getElem? (i := 71) rfl)) rfl
theorem caX10_node : qCal yX10_node cX10_node 4 (some .int) 3 := ⟨qTb_in (tb6 _ (List.mem_of_getElem? (i := 167) rfl)) rfl, inX10, ⟨by decide, by decide, by decide +kernel⟩, by decide⟩
theorem imX10_node : Cond.instanceMethod yX10_node ∈ qTb := qTb_in (tb6 _ (List.mem_of_getElem? (i := 166) rfl)) rfl
theorem seX10_node : Cond.selects yX10_node.cls yX10_node yX10_node ∈ qTb := qTb_in (pb5 _ (List.mem_of_getElem? (i := 5) rfl)) rfl
theorem caX10_apply : qCal yX10_apply cX10_apply 3 (some .int) 2 := ⟨qTb_in (tb6 _ (List.mem_of_getElem? (i := 171) rfl)) rfl, inX10, ⟨by decide, by decide, by decide +kernel⟩, by decide⟩
theorem imX10_apply : Cond.instanceMethod yX10_apply ∈ qTb := qTb_in (tb6 _ (List.mem_of_getElem? (i := 170) rfl)) rfl
theorem seX10_apply : Cond.selects yX10_apply.cls yX10_apply yX10_apply ∈ qTb := qTb_in (pb5 _ (List.mem_of_getElem? (i := 6) rfl)) rfl
theorem caX10_readsTerm : qCal yX10_readsTerm cX10_readsTerm 4 (some .int) 0 := ⟨qTb_in (tb6 _ (List.mem_of_getElem? (i := 163) rfl)) rfl, inX10, ⟨by decide, by decide, by decide +kernel⟩, by decide⟩
theorem imX10_readsTerm : Cond.instanceMethod yX10_readsTerm ∈ qTb := qTb_in (tb6 _ (List.mem_of_getElem? (i := 162) rfl)) rfl
theorem seX10_readsTerm : Cond.selects yX10_readsTerm.cls yX10_readsTerm yX10_readsTerm ∈ qTb := qTb_in (pb5 _ (List.mem_of_getElem? (i := 4) rfl)) rfl
theorem caX10_sizeOf : qCal yX10_sizeOf cX10_sizeOf 2 (some .int) 1 := ⟨qTb_in (tb6 _ (List.mem_of_getElem? (i := 190) rfl)) rfl, inX10, ⟨by decide, by decide, by decide +kernel⟩, by decide⟩
theorem imX10_sizeOf : Cond.instanceMethod yX10_sizeOf ∈ qTb := qTb_in (tb6 _ (List.mem_of_getElem? (i := 189) rfl)) rfl
theorem seX10_sizeOf : Cond.selects yX10_sizeOf.cls yX10_sizeOf yX10_sizeOf ∈ qTb := qTb_in (pb5 _ (List.mem_of_getElem? (i := 10) rfl)) rfl
theorem caX10_needs : qCal yX10_needs cX10_needs 1 (some .int) 1 := ⟨qTb_in (tb6 _ (List.mem_of_getElem? (i := 182) rfl)) rfl, inX10, ⟨by decide, by decide, by decide +kernel⟩, by decide⟩
theorem stX10_needs : Cond.static yX10_needs ∈ qTb := qTb_in (tb6 _ (List.mem_of_getElem? (i := 181) rfl)) rfl
theorem caX10_spine : qCal yX10_spine cX10_spine 4 (some .int) 1 := ⟨qTb_in (tb6 _ (List.mem_of_getElem? (i := 179) rfl)) rfl, inX10, ⟨by decide, by decide, by decide +kernel⟩, by decide⟩
theorem imX10_spine : Cond.instanceMethod yX10_spine ∈ qTb := qTb_in (tb6 _ (List.mem_of_getElem? (i := 178) rfl)) rfl
theorem seX10_spine : Cond.selects yX10_spine.cls yX10_spine yX10_spine ∈ qTb := qTb_in (pb5 _ (List.mem_of_getElem? (i := 8) rfl)) rfl
theorem caX10_contracts : qCal yX10_contracts cX10_contracts 5 (some .int) 1 := ⟨qTb_in (tb6 _ (List.mem_of_getElem? (i := 186) rfl)) rfl, inX10, ⟨by decide, by decide, by decide +kernel⟩, by decide⟩
theorem imX10_contracts : Cond.instanceMethod yX10_contracts ∈ qTb := qTb_in (tb6 _ (List.mem_of_getElem? (i := 185) rfl)) rfl
theorem seX10_contracts : Cond.selects yX10_contracts.cls yX10_contracts yX10_contracts ∈ qTb := qTb_in (pb5 _ (List.mem_of_getElem? (i := 9) rfl)) rfl
theorem caX10_reduces : qCal yX10_reduces cX10_reduces 4 (some .int) 1 := ⟨qTb_in (tb6 _ (List.mem_of_getElem? (i := 175) rfl)) rfl, inX10, ⟨by decide, by decide, by decide +kernel⟩, by decide⟩
theorem imX10_reduces : Cond.instanceMethod yX10_reduces ∈ qTb := qTb_in (tb6 _ (List.mem_of_getElem? (i := 174) rfl)) rfl
theorem seX10_reduces : Cond.selects yX10_reduces.cls yX10_reduces yX10_reduces ∈ qTb := qTb_in (pb5 _ (List.mem_of_getElem? (i := 7) rfl)) rfl
theorem caX10_tells : qCal yX10_tells cX10_tells 3 none 2 := ⟨qTb_in (tb6 _ (List.mem_of_getElem? (i := 194) rfl)) rfl, inX10, ⟨by decide, by decide, by decide +kernel⟩, by decide⟩
theorem imX10_tells : Cond.instanceMethod yX10_tells ∈ qTb := qTb_in (tb6 _ (List.mem_of_getElem? (i := 193) rfl)) rfl
theorem seX10_tells : Cond.selects yX10_tells.cls yX10_tells yX10_tells ∈ qTb := qTb_in (pb5 _ (List.mem_of_getElem? (i := 11) rfl)) rfl
theorem caX10_reduceTerm : qCal yX10_reduceTerm cX10_reduceTerm 6 (some .int) 1 := ⟨qTb_in (tb6 _ (List.mem_of_getElem? (i := 159) rfl)) rfl, inX10, ⟨by decide, by decide, by decide +kernel⟩, by decide⟩
theorem imX10_reduceTerm : Cond.instanceMethod yX10_reduceTerm ∈ qTb := qTb_in (tb6 _ (List.mem_of_getElem? (i := 157) rfl)) rfl
theorem seX10_reduceTerm : Cond.selects yX10_reduceTerm.cls yX10_reduceTerm yX10_reduceTerm ∈ qTb := qTb_in (tb6 _ (List.mem_of_getElem? (i := 158) rfl)) rfl
theorem caX10_isRow : qCal yX10_isRow cX10_isRow 1 (some .boolean) 1 := ⟨qTb_in (tb6 _ (List.mem_of_getElem? (i := 201) rfl)) rfl, inX10, ⟨by decide, by decide, by decide +kernel⟩, by decide⟩
theorem stX10_isRow : Cond.static yX10_isRow ∈ qTb := qTb_in (tb6 _ (List.mem_of_getElem? (i := 200) rfl)) rfl
theorem caX10_allocate : qCal yX10_allocate cX10_allocate 5 (some .int) 3 := ⟨qTb_in (tb6 _ (List.mem_of_getElem? (i := 198) rfl)) rfl, inX10, ⟨by decide, by decide, by decide +kernel⟩, by decide⟩
theorem imX10_allocate : Cond.instanceMethod yX10_allocate ∈ qTb := qTb_in (tb6 _ (List.mem_of_getElem? (i := 196) rfl)) rfl
theorem seX10_allocate : Cond.selects yX10_allocate.cls yX10_allocate yX10_allocate ∈ qTb := qTb_in (tb6 _ (List.mem_of_getElem? (i := 197) rfl)) rfl
theorem caX10_lacks : qCal yX10_lacks cX10_lacks 2 (some .int) 1 := ⟨qTb_in (tb6 _ (List.mem_of_getElem? (i := 209) rfl)) rfl, inX10, ⟨by decide, by decide, by decide +kernel⟩, by decide⟩
theorem imX10_lacks : Cond.instanceMethod yX10_lacks ∈ qTb := qTb_in (tb6 _ (List.mem_of_getElem? (i := 208) rfl)) rfl
theorem seX10_lacks : Cond.selects yX10_lacks.cls yX10_lacks yX10_lacks ∈ qTb := qTb_in (pb5 _ (List.mem_of_getElem? (i := 12) rfl)) rfl
theorem caX10_sets : qCal yX10_sets cX10_sets 4 none 3 := ⟨qTb_in (tb6 _ (List.mem_of_getElem? (i := 213) rfl)) rfl, inX10, ⟨by decide, by decide, by decide +kernel⟩, by decide⟩
theorem imX10_sets : Cond.instanceMethod yX10_sets ∈ qTb := qTb_in (tb6 _ (List.mem_of_getElem? (i := 212) rfl)) rfl
theorem seX10_sets : Cond.selects yX10_sets.cls yX10_sets yX10_sets ∈ qTb := qTb_in (pb5 _ (List.mem_of_getElem? (i := 13) rfl)) rfl
theorem caX10_put : qCal yX10_put cX10_put 5 (some .int) 3 := ⟨qTb_in (tb6 _ (List.mem_of_getElem? (i := 205) rfl)) rfl, inX10, ⟨by decide, by decide, by decide +kernel⟩, by decide⟩
theorem imX10_put : Cond.instanceMethod yX10_put ∈ qTb := qTb_in (tb6 _ (List.mem_of_getElem? (i := 203) rfl)) rfl
theorem seX10_put : Cond.selects yX10_put.cls yX10_put yX10_put ∈ qTb := qTb_in (tb6 _ (List.mem_of_getElem? (i := 204) rfl)) rfl
theorem caX10_rowElement : qCal yX10_rowElement cX10_rowElement 3 (some .long) 2 := ⟨qTb_in (tb6 _ (List.mem_of_getElem? (i := 217) rfl)) rfl, inX10, ⟨by decide, by decide, by decide +kernel⟩, by decide⟩
theorem imX10_rowElement : Cond.instanceMethod yX10_rowElement ∈ qTb := qTb_in (tb6 _ (List.mem_of_getElem? (i := 215) rfl)) rfl
theorem seX10_rowElement : Cond.selects yX10_rowElement.cls yX10_rowElement yX10_rowElement ∈ qTb := qTb_in (tb6 _ (List.mem_of_getElem? (i := 216) rfl)) rfl
theorem caX10_copyElements : qCal yX10_copyElements cX10_copyElements 8 (some .int) 5 := ⟨qTb_in (tb6 _ (List.mem_of_getElem? (i := 222) rfl)) rfl, inX10, ⟨by decide, by decide, by decide +kernel⟩, by decide⟩
theorem imX10_copyElements : Cond.instanceMethod yX10_copyElements ∈ qTb := qTb_in (tb6 _ (List.mem_of_getElem? (i := 220) rfl)) rfl
theorem seX10_copyElements : Cond.selects yX10_copyElements.cls yX10_copyElements yX10_copyElements ∈ qTb := qTb_in (tb6 _ (List.mem_of_getElem? (i := 221) rfl)) rfl
theorem caX10_storeOutput : qCal yX10_storeOutput cX10_storeOutput 5 (some .int) 2 := ⟨qTb_in (tb6 _ (List.mem_of_getElem? (i := 226) rfl)) rfl, inX10, ⟨by decide, by decide, by decide +kernel⟩, by decide⟩
theorem imX10_storeOutput : Cond.instanceMethod yX10_storeOutput ∈ qTb := qTb_in (tb6 _ (List.mem_of_getElem? (i := 224) rfl)) rfl
theorem seX10_storeOutput : Cond.selects yX10_storeOutput.cls yX10_storeOutput yX10_storeOutput ∈ qTb := qTb_in (tb6 _ (List.mem_of_getElem? (i := 225) rfl)) rfl
theorem caX10_loadText : qCal yX10_loadText cX10_loadText 6 (some .int) 3 := ⟨qTb_in (tb6 _ (List.mem_of_getElem? (i := 230) rfl)) rfl, inX10, ⟨by decide, by decide, by decide +kernel⟩, by decide⟩
theorem imX10_loadText : Cond.instanceMethod yX10_loadText ∈ qTb := qTb_in (tb6 _ (List.mem_of_getElem? (i := 228) rfl)) rfl
theorem seX10_loadText : Cond.selects yX10_loadText.cls yX10_loadText yX10_loadText ∈ qTb := qTb_in (tb6 _ (List.mem_of_getElem? (i := 229) rfl)) rfl
theorem caJ0_length_8abf5 : qCal yJ0_length_8abf5 cJ0_length_8abf5 1 (some .int) 0 := ⟨qTb_in (tb4 _ (List.mem_of_getElem? (i := 25) rfl)) rfl, inJ0, ⟨by decide, by decide, by decide +kernel⟩, by decide⟩
theorem imJ0_length_8abf5 : Cond.instanceMethod yJ0_length_8abf5 ∈ qTb := qTb_in (tb4 _ (List.mem_of_getElem? (i := 23) rfl)) rfl
theorem seJ0_length_8abf5 : Cond.selects yJ0_length_8abf5.cls yJ0_length_8abf5 yJ0_length_8abf5 ∈ qTb := qTb_in (tb4 _ (List.mem_of_getElem? (i := 24) rfl)) rfl
theorem caJ0_charAt_5068e : qCal yJ0_charAt_5068e cJ0_charAt_5068e 2 (some .char) 1 := ⟨qTb_in (tb4 _ (List.mem_of_getElem? (i := 35) rfl)) rfl, inJ0, ⟨by decide, by decide, by decide +kernel⟩, by decide⟩
theorem imJ0_charAt_5068e : Cond.instanceMethod yJ0_charAt_5068e ∈ qTb := qTb_in (tb4 _ (List.mem_of_getElem? (i := 33) rfl)) rfl
theorem seJ0_charAt_5068e : Cond.selects yJ0_charAt_5068e.cls yJ0_charAt_5068e yJ0_charAt_5068e ∈ qTb := qTb_in (tb4 _ (List.mem_of_getElem? (i := 34) rfl)) rfl
theorem caJ0_indexOf_0f7a4 : qCal yJ0_indexOf_0f7a4 cJ0_indexOf_0f7a4 2 (some .int) 1 := ⟨qTb_in (tb6 _ (List.mem_of_getElem? (i := 81) rfl)) rfl, inJ0, ⟨by decide, by decide, by decide +kernel⟩, by decide⟩
theorem imJ0_indexOf_0f7a4 : Cond.instanceMethod yJ0_indexOf_0f7a4 ∈ qTb := qTb_in (tb6 _ (List.mem_of_getElem? (i := 79) rfl)) rfl
theorem seJ0_indexOf_0f7a4 : Cond.selects yJ0_indexOf_0f7a4.cls yJ0_indexOf_0f7a4 yJ0_indexOf_0f7a4 ∈ qTb := qTb_in (tb6 _ (List.mem_of_getElem? (i := 80) rfl)) rfl
theorem caJ0_indexOf_7cf53 : qCal yJ0_indexOf_7cf53 cJ0_indexOf_7cf53 3 (some .int) 2 := ⟨qTb_in (tb6 _ (List.mem_of_getElem? (i := 85) rfl)) rfl, inJ0, ⟨by decide, by decide, by decide +kernel⟩, by decide⟩
theorem imJ0_indexOf_7cf53 : Cond.instanceMethod yJ0_indexOf_7cf53 ∈ qTb := qTb_in (tb6 _ (List.mem_of_getElem? (i := 83) rfl)) rfl
theorem seJ0_indexOf_7cf53 : Cond.selects yJ0_indexOf_7cf53.cls yJ0_indexOf_7cf53 yJ0_indexOf_7cf53 ∈ qTb := qTb_in (tb6 _ (List.mem_of_getElem? (i := 84) rfl)) rfl
theorem caJ0_coder_7d493 : qCal yJ0_coder_7d493 cJ0_coder_7d493 1 (some .byte) 0 := ⟨qTb_in (tb4 _ (List.mem_of_getElem? (i := 29) rfl)) rfl, inJ0, ⟨by decide, by decide, by decide +kernel⟩, by decide⟩
theorem imJ0_coder_7d493 : Cond.instanceMethod yJ0_coder_7d493 ∈ qTb := qTb_in (tb4 _ (List.mem_of_getElem? (i := 27) rfl)) rfl
theorem seJ0_coder_7d493 : Cond.selects yJ0_coder_7d493.cls yJ0_coder_7d493 yJ0_coder_7d493 ∈ qTb := qTb_in (tb4 _ (List.mem_of_getElem? (i := 28) rfl)) rfl
theorem caJ0_isLatin1_aae02 : qCal yJ0_isLatin1_aae02 cJ0_isLatin1_aae02 1 (some .boolean) 0 := ⟨qTb_in (tb4 _ (List.mem_of_getElem? (i := 39) rfl)) rfl, inJ0, ⟨by decide, by decide, by decide +kernel⟩, by decide⟩
theorem imJ0_isLatin1_aae02 : Cond.instanceMethod yJ0_isLatin1_aae02 ∈ qTb := qTb_in (tb4 _ (List.mem_of_getElem? (i := 37) rfl)) rfl
theorem seJ0_isLatin1_aae02 : Cond.selects yJ0_isLatin1_aae02.cls yJ0_isLatin1_aae02 yJ0_isLatin1_aae02 ∈ qTb := qTb_in (tb4 _ (List.mem_of_getElem? (i := 38) rfl)) rfl
theorem caJ0_checkIndex_df160 : qCal yJ0_checkIndex_df160 cJ0_checkIndex_df160 2 none 2 := ⟨qTb_in (tb4 _ (List.mem_of_getElem? (i := 45) rfl)) rfl, inJ0, ⟨by decide, by decide, by decide +kernel⟩, by decide⟩
theorem stJ0_checkIndex_df160 : Cond.static yJ0_checkIndex_df160 ∈ qTb := qTb_in (tb4 _ (List.mem_of_getElem? (i := 44) rfl)) rfl
theorem caJ1_charAt_3b067 : qCal yJ1_charAt_3b067 cJ1_charAt_3b067 2 (some .char) 2 := ⟨qTb_in (tb4 _ (List.mem_of_getElem? (i := 42) rfl)) rfl, inJ1, ⟨by decide, by decide, by decide +kernel⟩, by decide⟩
theorem stJ1_charAt_3b067 : Cond.static yJ1_charAt_3b067 ∈ qTb := qTb_in (tb4 _ (List.mem_of_getElem? (i := 41) rfl)) rfl
theorem caJ1_canEncode_9a6ad : qCal yJ1_canEncode_9a6ad cJ1_canEncode_9a6ad 1 (some .boolean) 1 := ⟨qTb_in (tb6 _ (List.mem_of_getElem? (i := 92) rfl)) rfl, inJ1, ⟨by decide, by decide, by decide +kernel⟩, by decide⟩
theorem stJ1_canEncode_9a6ad : Cond.static yJ1_canEncode_9a6ad ∈ qTb := qTb_in (tb6 _ (List.mem_of_getElem? (i := 91) rfl)) rfl
theorem caJ1_indexOf_4cfef : qCal yJ1_indexOf_4cfef cJ1_indexOf_4cfef 4 (some .int) 4 := ⟨qTb_in (tb6 _ (List.mem_of_getElem? (i := 89) rfl)) rfl, inJ1, ⟨by decide, by decide, by decide +kernel⟩, by decide⟩
theorem stJ1_indexOf_4cfef : Cond.static yJ1_indexOf_4cfef ∈ qTb := qTb_in (tb6 _ (List.mem_of_getElem? (i := 88) rfl)) rfl
theorem caJ1_indexOfChar_4cfef : qCal yJ1_indexOfChar_4cfef cJ1_indexOfChar_4cfef 6 (some .int) 4 := ⟨qTb_in (tb6 _ (List.mem_of_getElem? (i := 97) rfl)) rfl, inJ1, ⟨by decide, by decide, by decide +kernel⟩, by decide⟩
theorem stJ1_indexOfChar_4cfef : Cond.static yJ1_indexOfChar_4cfef ∈ qTb := qTb_in (tb6 _ (List.mem_of_getElem? (i := 96) rfl)) rfl
theorem caJ7_fill_53178 : qCal yJ7_fill_53178 cJ7_fill_53178 4 none 2 := ⟨qTb_in (tb2 _ (List.mem_of_getElem? (i := 155) rfl)) rfl, inJ7, ⟨by decide, by decide, by decide +kernel⟩, by decide⟩
theorem stJ7_fill_53178 : Cond.static yJ7_fill_53178 ∈ qTb := qTb_in (tb2 _ (List.mem_of_getElem? (i := 154) rfl)) rfl
theorem caJ3_checkIndex_8e157 : qCal yJ3_checkIndex_8e157 cJ3_checkIndex_8e157 3 (some .int) 3 := ⟨qTb_in (tb4 _ (List.mem_of_getElem? (i := 50) rfl)) rfl, inJ3, ⟨by decide, by decide, by decide +kernel⟩, by decide⟩
theorem stJ3_checkIndex_8e157 : Cond.static yJ3_checkIndex_8e157 ∈ qTb := qTb_in (tb4 _ (List.mem_of_getElem? (i := 49) rfl)) rfl
theorem mlX9_3 : Cond.methodLink RX9 3 Lib.objectInit ∈ qTb := qTb_in (tb1 _ (List.mem_of_getElem? (i := 25) rfl)) rfl
theorem mlX9_21 : Cond.methodLink RX9 21 yX1_init ∈ qTb := qTb_in (tb1 _ (List.mem_of_getElem? (i := 44) rfl)) rfl
theorem mlX9_42 : Cond.methodLink RX9 42 yX2_init ∈ qTb := qTb_in (tb1 _ (List.mem_of_getElem? (i := 141) rfl)) rfl
theorem mlX9_88 : Cond.methodLink RX9 88 yX7_length ∈ qTb := qTb_in (tb2 _ (List.mem_of_getElem? (i := 46) rfl)) rfl
theorem mlX9_92 : Cond.methodLink RX9 92 yX7_add ∈ qTb := qTb_in (tb2 _ (List.mem_of_getElem? (i := 50) rfl)) rfl
theorem mlX9_96 : Cond.methodLink RX9 96 yX7_makeEmpty ∈ qTb := qTb_in (tb2 _ (List.mem_of_getElem? (i := 58) rfl)) rfl
theorem mlX9_99 : Cond.methodLink RX9 99 yX9_polishError ∈ qTb := qTb_in (tb2 _ (List.mem_of_getElem? (i := 66) rfl)) rfl
theorem mlX9_103 : Cond.methodLink RX9 103 yX9_enterText ∈ qTb := qTb_in (tb2 _ (List.mem_of_getElem? (i := 74) rfl)) rfl
theorem mlX9_106 : Cond.methodLink RX9 106 yX1_has ∈ qTb := qTb_in (tb2 _ (List.mem_of_getElem? (i := 128) rfl)) rfl
theorem mlX9_110 : Cond.methodLink RX9 110 yX9_derive ∈ qTb := qTb_in (tb2 _ (List.mem_of_getElem? (i := 129) rfl)) rfl
theorem mlX9_114 : Cond.methodLink RX9 114 yX1_count ∈ qTb := qTb_in (tb2 _ (List.mem_of_getElem? (i := 198) rfl)) rfl
theorem mlX9_117 : Cond.methodLink RX9 117 Lib.Math.min.name ∈ qTb := qTb_in (tb2 _ (List.mem_of_getElem? (i := 202) rfl)) rfl
theorem mlX9_122 : Cond.methodLink RX9 122 yX9_proveText ∈ qTb := qTb_in (tb2 _ (List.mem_of_getElem? (i := 203) rfl)) rfl
theorem mlX9_125 : Cond.methodLink RX9 125 yX1_shrinkTo ∈ qTb := qTb_in (tb2 _ (List.mem_of_getElem? (i := 207) rfl)) rfl
theorem mlX9_129 : Cond.methodLink RX9 129 yX1_at ∈ qTb := qTb_in (tb2 _ (List.mem_of_getElem? (i := 133) rfl)) rfl
theorem mlX9_133 : Cond.methodLink RX9 133 yX0_size ∈ qTb := qTb_in (tb2 _ (List.mem_of_getElem? (i := 223) rfl)) rfl
theorem mlX9_136 : Cond.methodLink RX9 136 yX0_variables ∈ qTb := qTb_in (tb2 _ (List.mem_of_getElem? (i := 228) rfl)) rfl
theorem mlX9_139 : Cond.methodLink RX9 139 yX1_major ∈ qTb := qTb_in (tb2 _ (List.mem_of_getElem? (i := 236) rfl)) rfl
theorem mlX9_143 : Cond.methodLink RX9 143 yX1_minor ∈ qTb := qTb_in (tb3 _ (List.mem_of_getElem? (i := 4) rfl)) rfl
theorem mlX9_146 : Cond.methodLink RX9 146 yX1_depth ∈ qTb := qTb_in (tb3 _ (List.mem_of_getElem? (i := 12) rfl)) rfl
theorem mlX9_149 : Cond.methodLink RX9 149 yX1_proofSigns ∈ qTb := qTb_in (tb3 _ (List.mem_of_getElem? (i := 20) rfl)) rfl
theorem mlX9_155 : Cond.methodLink RX9 155 yX9_outputFormula ∈ qTb := qTb_in (tb3 _ (List.mem_of_getElem? (i := 29) rfl)) rfl
theorem mlX9_161 : Cond.methodLink RX9 161 yX1_lastAxiom ∈ qTb := qTb_in (tb3 _ (List.mem_of_getElem? (i := 43) rfl)) rfl
theorem mlX9_164 : Cond.methodLink RX9 164 yX9_outputProof ∈ qTb := qTb_in (tb3 _ (List.mem_of_getElem? (i := 47) rfl)) rfl
theorem mlX9_167 : Cond.methodLink RX9 167 yX7_at ∈ qTb := qTb_in (tb2 _ (List.mem_of_getElem? (i := 70) rfl)) rfl
theorem mlX9_170 : Cond.methodLink RX9 170 yX3_matches ∈ qTb := qTb_in (tb3 _ (List.mem_of_getElem? (i := 67) rfl)) rfl
theorem mlX9_174 : Cond.methodLink RX9 174 yX8_unifyInto ∈ qTb := qTb_in (tb3 _ (List.mem_of_getElem? (i := 86) rfl)) rfl
theorem mlX9_178 : Cond.methodLink RX9 178 yX1_isFull ∈ qTb := qTb_in (tb3 _ (List.mem_of_getElem? (i := 94) rfl)) rfl
theorem mlX9_182 : Cond.methodLink RX9 182 yX9_tryInRound ∈ qTb := qTb_in (tb3 _ (List.mem_of_getElem? (i := 95) rfl)) rfl
theorem mlX9_186 : Cond.methodLink RX9 186 yX2_search ∈ qTb := qTb_in (tb3 _ (List.mem_of_getElem? (i := 108) rfl)) rfl
theorem mlX9_190 : Cond.methodLink RX9 190 yX9_isTruthValue ∈ qTb := qTb_in (tb3 _ (List.mem_of_getElem? (i := 147) rfl)) rfl
theorem mlX9_193 : Cond.methodLink RX9 193 yX4_replaceEntry ∈ qTb := qTb_in (tb3 _ (List.mem_of_getElem? (i := 150) rfl)) rfl
theorem mlX9_197 : Cond.methodLink RX9 197 yX4_replaceDesignated ∈ qTb := qTb_in (tb3 _ (List.mem_of_getElem? (i := 158) rfl)) rfl
theorem mlX9_200 : Cond.methodLink RX9 200 yX4_keepsDesignation ∈ qTb := qTb_in (tb3 _ (List.mem_of_getElem? (i := 166) rfl)) rfl
theorem mlX9_203 : Cond.methodLink RX9 203 yX4_refutes ∈ qTb := qTb_in (tb3 _ (List.mem_of_getElem? (i := 178) rfl)) rfl
theorem mlX9_207 : Cond.methodLink RX9 207 yX4_variableValue ∈ qTb := qTb_in (tb3 _ (List.mem_of_getElem? (i := 202) rfl)) rfl
theorem mlX9_210 : Cond.methodLink RX9 210 yX4_countOf ∈ qTb := qTb_in (tb3 _ (List.mem_of_getElem? (i := 210) rfl)) rfl
theorem mlX9_214 : Cond.methodLink RX9 214 yX9_termError ∈ qTb := qTb_in (tb3 _ (List.mem_of_getElem? (i := 218) rfl)) rfl
theorem mlX9_217 : Cond.methodLink RX9 217 yX9_enterType ∈ qTb := qTb_in (tb3 _ (List.mem_of_getElem? (i := 225) rfl)) rfl
theorem mlX9_220 : Cond.methodLink RX9 220 yX9_reduceText ∈ qTb := qTb_in (tb4 _ (List.mem_of_getElem? (i := 75) rfl)) rfl
theorem mlX9_223 : Cond.methodLink RX9 223 yX9_isRow ∈ qTb := qTb_in (tb4 _ (List.mem_of_getElem? (i := 127) rfl)) rfl
theorem mlX9_226 : Cond.methodLink RX9 226 yX5_renew ∈ qTb := qTb_in (tb4 _ (List.mem_of_getElem? (i := 130) rfl)) rfl
theorem mlX9_230 : Cond.methodLink RX9 230 yX9_rowFault ∈ qTb := qTb_in (tb4 _ (List.mem_of_getElem? (i := 139) rfl)) rfl
theorem mlX9_233 : Cond.methodLink RX9 233 yX5_spans ∈ qTb := qTb_in (tb4 _ (List.mem_of_getElem? (i := 147) rfl)) rfl
theorem mlX9_237 : Cond.methodLink RX9 237 yX5_set ∈ qTb := qTb_in (tb4 _ (List.mem_of_getElem? (i := 151) rfl)) rfl
theorem mlX9_242 : Cond.methodLink RX9 242 yX5_at ∈ qTb := qTb_in (tb4 _ (List.mem_of_getElem? (i := 160) rfl)) rfl
theorem mlX9_244 : Cond.methodLink RX9 244 yX5_isMissing ∈ qTb := qTb_in (tb4 _ (List.mem_of_getElem? (i := 143) rfl)) rfl
theorem mlX9_247 : Cond.methodLink RX9 247 yX5_type ∈ qTb := qTb_in (tb4 _ (List.mem_of_getElem? (i := 168) rfl)) rfl
theorem mlX9_250 : Cond.methodLink RX9 250 yX5_copyFrom ∈ qTb := qTb_in (tb4 _ (List.mem_of_getElem? (i := 172) rfl)) rfl
theorem mlX9_254 : Cond.methodLink RX9 254 yX9_append ∈ qTb := qTb_in (tb4 _ (List.mem_of_getElem? (i := 185) rfl)) rfl
theorem mlX9_257 : Cond.methodLink RX9 257 yX6_arityOf ∈ qTb := qTb_in (tb3 _ (List.mem_of_getElem? (i := 222) rfl)) rfl
theorem mlX9_261 : Cond.methodLink RX9 261 yX0_makeEmpty ∈ qTb := qTb_in (tb2 _ (List.mem_of_getElem? (i := 78) rfl)) rfl
theorem mlX9_262 : Cond.methodLink RX9 262 yX0_addLetter ∈ qTb := qTb_in (tb2 _ (List.mem_of_getElem? (i := 82) rfl)) rfl
theorem mlX9_266 : Cond.methodLink RX9 266 yX1_enter ∈ qTb := qTb_in (tb2 _ (List.mem_of_getElem? (i := 94) rfl)) rfl
theorem mlX9_270 : Cond.methodLink RX9 270 yX8_detachInto ∈ qTb := qTb_in (tb2 _ (List.mem_of_getElem? (i := 137) rfl)) rfl
theorem mlX9_273 : Cond.methodLink RX9 273 yX0_writeTo ∈ qTb := qTb_in (tb3 _ (List.mem_of_getElem? (i := 33) rfl)) rfl
theorem mlX9_277 : Cond.methodLink RX9 277 yX1_isAxiom ∈ qTb := qTb_in (tb3 _ (List.mem_of_getElem? (i := 51) rfl)) rfl
theorem mlX9_280 : Cond.methodLink RX9 280 yX1_covers ∈ qTb := qTb_in (tb3 _ (List.mem_of_getElem? (i := 99) rfl)) rfl
theorem mlX9_284 : Cond.methodLink RX9 284 yX6_read ∈ qTb := qTb_in (tb3 _ (List.mem_of_getElem? (i := 229) rfl)) rfl
theorem mlX9_287 : Cond.methodLink RX9 287 yX6_length ∈ qTb := qTb_in (tb4 _ (List.mem_of_getElem? (i := 1) rfl)) rfl
theorem mlX9_288 : Cond.methodLink RX9 288 yX6_at ∈ qTb := qTb_in (tb4 _ (List.mem_of_getElem? (i := 5) rfl)) rfl
theorem mlX9_289 : Cond.methodLink RX9 289 yX9_readType ∈ qTb := qTb_in (tb4 _ (List.mem_of_getElem? (i := 9) rfl)) rfl
theorem mlX9_293 : Cond.methodLink RX9 293 yX6_typeOf ∈ qTb := qTb_in (tb4 _ (List.mem_of_getElem? (i := 13) rfl)) rfl
theorem mlX9_297 : Cond.methodLink RX9 297 yJ0_length_8abf5 ∈ qTb := qTb_in (tb4 _ (List.mem_of_getElem? (i := 22) rfl)) rfl
theorem mlX9_300 : Cond.methodLink RX9 300 yJ0_charAt_5068e ∈ qTb := qTb_in (tb4 _ (List.mem_of_getElem? (i := 32) rfl)) rfl
theorem mlX9_303 : Cond.methodLink RX9 303 yX6_findRedex ∈ qTb := qTb_in (tb4 _ (List.mem_of_getElem? (i := 79) rfl)) rfl
theorem mlX9_306 : Cond.methodLink RX9 306 yX6_sizeAfterStep ∈ qTb := qTb_in (tb4 _ (List.mem_of_getElem? (i := 88) rfl)) rfl
theorem mlX9_309 : Cond.methodLink RX9 309 yX6_makeStep ∈ qTb := qTb_in (tb4 _ (List.mem_of_getElem? (i := 106) rfl)) rfl
theorem mlX9_312 : Cond.methodLink RX9 312 yX6_writeTo ∈ qTb := qTb_in (tb4 _ (List.mem_of_getElem? (i := 114) rfl)) rfl
theorem mlX0_3 : Cond.methodLink RX0 3 Lib.objectInit ∈ qTb := qTb_in (tb1 _ (List.mem_of_getElem? (i := 54) rfl)) rfl
theorem mlX0_22 : Cond.methodLink RX0 22 yX0_addSign ∈ qTb := qTb_in (tb2 _ (List.mem_of_getElem? (i := 86) rfl)) rfl
theorem mlX0_26 : Cond.methodLink RX0 26 yX0_addVariable ∈ qTb := qTb_in (tb2 _ (List.mem_of_getElem? (i := 90) rfl)) rfl
theorem mlX0_30 : Cond.methodLink RX0 30 arraycopyName ∈ qTb := qTb_in (tb2 _ (List.mem_of_getElem? (i := 114) rfl)) rfl
theorem mlX0_36 : Cond.methodLink RX0 36 yX0_sameSigns ∈ qTb := qTb_in (tb2 _ (List.mem_of_getElem? (i := 102) rfl)) rfl
theorem mlX0_40 : Cond.methodLink RX0 40 yX7_add ∈ qTb := qTb_in (tb3 _ (List.mem_of_getElem? (i := 37) rfl)) rfl
theorem mlX1_3 : Cond.methodLink RX1 3 Lib.objectInit ∈ qTb := qTb_in (tb1 _ (List.mem_of_getElem? (i := 47) rfl)) rfl
theorem mlX1_39 : Cond.methodLink RX1 39 yX0_sameAs ∈ qTb := qTb_in (tb2 _ (List.mem_of_getElem? (i := 98) rfl)) rfl
theorem mlX1_43 : Cond.methodLink RX1 43 yX1_isFull ∈ qTb := qTb_in (tb2 _ (List.mem_of_getElem? (i := 106) rfl)) rfl
theorem mlX1_47 : Cond.methodLink RX1 47 yX0_copyFrom ∈ qTb := qTb_in (tb2 _ (List.mem_of_getElem? (i := 110) rfl)) rfl
theorem mlX1_51 : Cond.methodLink RX1 51 yX1_has ∈ qTb := qTb_in (tb2 _ (List.mem_of_getElem? (i := 117) rfl)) rfl
theorem mlX1_55 : Cond.methodLink RX1 55 Lib.Math.max.name ∈ qTb := qTb_in (tb2 _ (List.mem_of_getElem? (i := 121) rfl)) rfl
theorem mlX1_61 : Cond.methodLink RX1 61 yX3_matches ∈ qTb := qTb_in (tb3 _ (List.mem_of_getElem? (i := 103) rfl)) rfl
theorem mlX2_3 : Cond.methodLink RX2 3 Lib.objectInit ∈ qTb := qTb_in (tb1 _ (List.mem_of_getElem? (i := 144) rfl)) rfl
theorem mlX2_38 : Cond.methodLink RX2 38 yX2_addAxioms ∈ qTb := qTb_in (tb3 _ (List.mem_of_getElem? (i := 112) rfl)) rfl
theorem mlX2_42 : Cond.methodLink RX2 42 yX2_addLevel ∈ qTb := qTb_in (tb3 _ (List.mem_of_getElem? (i := 124) rfl)) rfl
theorem mlX2_46 : Cond.methodLink RX2 46 yX2_covers ∈ qTb := qTb_in (tb3 _ (List.mem_of_getElem? (i := 138) rfl)) rfl
theorem mlX2_50 : Cond.methodLink RX2 50 yX1_count ∈ qTb := qTb_in (tb3 _ (List.mem_of_getElem? (i := 116) rfl)) rfl
theorem mlX2_55 : Cond.methodLink RX2 55 yX1_isAxiom ∈ qTb := qTb_in (tb3 _ (List.mem_of_getElem? (i := 117) rfl)) rfl
theorem mlX2_58 : Cond.methodLink RX2 58 yX1_at ∈ qTb := qTb_in (tb3 _ (List.mem_of_getElem? (i := 118) rfl)) rfl
theorem mlX2_62 : Cond.methodLink RX2 62 yX2_addNew ∈ qTb := qTb_in (tb3 _ (List.mem_of_getElem? (i := 119) rfl)) rfl
theorem mlX2_66 : Cond.methodLink RX2 66 yX2_combine ∈ qTb := qTb_in (tb3 _ (List.mem_of_getElem? (i := 128) rfl)) rfl
theorem mlX2_70 : Cond.methodLink RX2 70 yX8_detachInto ∈ qTb := qTb_in (tb3 _ (List.mem_of_getElem? (i := 132) rfl)) rfl
theorem mlX2_76 : Cond.methodLink RX2 76 yX2_isKnown ∈ qTb := qTb_in (tb3 _ (List.mem_of_getElem? (i := 133) rfl)) rfl
theorem mlX2_79 : Cond.methodLink RX2 79 yX0_sameAs ∈ qTb := qTb_in (tb3 _ (List.mem_of_getElem? (i := 137) rfl)) rfl
theorem mlX2_82 : Cond.methodLink RX2 82 yX0_copyFrom ∈ qTb := qTb_in (tb3 _ (List.mem_of_getElem? (i := 123) rfl)) rfl
theorem mlX2_86 : Cond.methodLink RX2 86 yX3_matches ∈ qTb := qTb_in (tb3 _ (List.mem_of_getElem? (i := 142) rfl)) rfl
theorem mlX3_3 : Cond.methodLink RX3 3 Lib.objectInit ∈ qTb := qTb_in (tb1 _ (List.mem_of_getElem? (i := 134) rfl)) rfl
theorem mlX3_15 : Cond.methodLink RX3 15 yX0_size ∈ qTb := qTb_in (tb3 _ (List.mem_of_getElem? (i := 71) rfl)) rfl
theorem mlX3_21 : Cond.methodLink RX3 21 yX0_at ∈ qTb := qTb_in (tb3 _ (List.mem_of_getElem? (i := 72) rfl)) rfl
theorem mlX3_25 : Cond.methodLink RX3 25 yX0_endOf ∈ qTb := qTb_in (tb3 _ (List.mem_of_getElem? (i := 73) rfl)) rfl
theorem mlX3_28 : Cond.methodLink RX3 28 yX0_sameSigns ∈ qTb := qTb_in (tb3 _ (List.mem_of_getElem? (i := 77) rfl)) rfl
theorem mlX4_3 : Cond.methodLink RX4 3 Lib.objectInit ∈ qTb := qTb_in (tb1 _ (List.mem_of_getElem? (i := 171) rfl)) rfl
theorem mlX4_25 : Cond.methodLink RX4 25 yX4_isDesignated ∈ qTb := qTb_in (tb3 _ (List.mem_of_getElem? (i := 170) rfl)) rfl
theorem mlX4_29 : Cond.methodLink RX4 29 yX0_variables ∈ qTb := qTb_in (tb3 _ (List.mem_of_getElem? (i := 182) rfl)) rfl
theorem mlX4_35 : Cond.methodLink RX4 35 yX4_startValuations ∈ qTb := qTb_in (tb3 _ (List.mem_of_getElem? (i := 183) rfl)) rfl
theorem mlX4_39 : Cond.methodLink RX4 39 yX4_valueOf ∈ qTb := qTb_in (tb3 _ (List.mem_of_getElem? (i := 188) rfl)) rfl
theorem mlX4_43 : Cond.methodLink RX4 43 yX4_nextValuation ∈ qTb := qTb_in (tb3 _ (List.mem_of_getElem? (i := 194) rfl)) rfl
theorem mlX4_47 : Cond.methodLink RX4 47 yJ7_fill_53178 ∈ qTb := qTb_in (tb3 _ (List.mem_of_getElem? (i := 187) rfl)) rfl
theorem mlX4_53 : Cond.methodLink RX4 53 yX0_size ∈ qTb := qTb_in (tb3 _ (List.mem_of_getElem? (i := 192) rfl)) rfl
theorem mlX4_56 : Cond.methodLink RX4 56 yX0_at ∈ qTb := qTb_in (tb3 _ (List.mem_of_getElem? (i := 193) rfl)) rfl
theorem mlX5_3 : Cond.methodLink RX5 3 Lib.objectInit ∈ qTb := qTb_in (tb1 _ (List.mem_of_getElem? (i := 229) rfl)) rfl
theorem mlX5_22 : Cond.methodLink RX5 22 yJ7_fill_53178 ∈ qTb := qTb_in (tb4 _ (List.mem_of_getElem? (i := 134) rfl)) rfl
theorem mlX5_28 : Cond.methodLink RX5 28 arraycopyName ∈ qTb := qTb_in (tb4 _ (List.mem_of_getElem? (i := 176) rfl)) rfl
theorem mlX6_3 : Cond.methodLink RX6 3 Lib.objectInit ∈ qTb := qTb_in (tb1 _ (List.mem_of_getElem? (i := 190) rfl)) rfl
theorem mlX6_61 : Cond.methodLink RX6 61 yX7_length ∈ qTb := qTb_in (tb3 _ (List.mem_of_getElem? (i := 233) rfl)) rfl
theorem mlX6_66 : Cond.methodLink RX6 66 yX7_at ∈ qTb := qTb_in (tb3 _ (List.mem_of_getElem? (i := 234) rfl)) rfl
theorem mlX6_70 : Cond.methodLink RX6 70 Lib.Math.min.name ∈ qTb := qTb_in (tb3 _ (List.mem_of_getElem? (i := 235) rfl)) rfl
theorem mlX6_76 : Cond.methodLink RX6 76 Lib.Math.max.name ∈ qTb := qTb_in (tb3 _ (List.mem_of_getElem? (i := 236) rfl)) rfl
theorem mlX6_79 : Cond.methodLink RX6 79 yX6_add ∈ qTb := qTb_in (tb3 _ (List.mem_of_getElem? (i := 237) rfl)) rfl
theorem mlX6_83 : Cond.methodLink RX6 83 yX6_findArguments ∈ qTb := qTb_in (tb4 _ (List.mem_of_getElem? (i := 83) rfl)) rfl
theorem mlX6_90 : Cond.methodLink RX6 90 yX6_arityOf ∈ qTb := qTb_in (tb4 _ (List.mem_of_getElem? (i := 87) rfl)) rfl
theorem mlX6_94 : Cond.methodLink RX6 94 yX6_contractumOf ∈ qTb := qTb_in (tb4 _ (List.mem_of_getElem? (i := 92) rfl)) rfl
theorem mlX6_98 : Cond.methodLink RX6 98 yX6_redexEnd ∈ qTb := qTb_in (tb4 _ (List.mem_of_getElem? (i := 100) rfl)) rfl
theorem mlX6_101 : Cond.methodLink RX6 101 yJ0_length_8abf5 ∈ qTb := qTb_in (tb4 _ (List.mem_of_getElem? (i := 104) rfl)) rfl
theorem mlX6_104 : Cond.methodLink RX6 104 yJ0_charAt_5068e ∈ qTb := qTb_in (tb4 _ (List.mem_of_getElem? (i := 105) rfl)) rfl
theorem mlX6_110 : Cond.methodLink RX6 110 yX6_copyToSpare ∈ qTb := qTb_in (tb4 _ (List.mem_of_getElem? (i := 110) rfl)) rfl
theorem mlX6_114 : Cond.methodLink RX6 114 yX6_markOpenings ∈ qTb := qTb_in (tb4 _ (List.mem_of_getElem? (i := 118) rfl)) rfl
theorem mlX6_117 : Cond.methodLink RX6 117 yX7_add ∈ qTb := qTb_in (tb4 _ (List.mem_of_getElem? (i := 122) rfl)) rfl
theorem mlX7_3 : Cond.methodLink RX7 3 Lib.objectInit ∈ qTb := qTb_in (tb1 _ (List.mem_of_getElem? (i := 33) rfl)) rfl
theorem mlX8_5 : Cond.methodLink RX8 5 Lib.objectInit ∈ qTb := qTb_in (tb1 _ (List.mem_of_getElem? (i := 94) rfl)) rfl
theorem mlX8_39 : Cond.methodLink RX8 39 yX0_isImplication ∈ qTb := qTb_in (tb2 _ (List.mem_of_getElem? (i := 141) rfl)) rfl
theorem mlX8_45 : Cond.methodLink RX8 45 yX0_size ∈ qTb := qTb_in (tb2 _ (List.mem_of_getElem? (i := 145) rfl)) rfl
theorem mlX8_49 : Cond.methodLink RX8 49 yX8_load ∈ qTb := qTb_in (tb2 _ (List.mem_of_getElem? (i := 149) rfl)) rfl
theorem mlX8_53 : Cond.methodLink RX8 53 yX8_mergeAll ∈ qTb := qTb_in (tb2 _ (List.mem_of_getElem? (i := 160) rfl)) rfl
theorem mlX8_57 : Cond.methodLink RX8 57 yX8_measure ∈ qTb := qTb_in (tb2 _ (List.mem_of_getElem? (i := 176) rfl)) rfl
theorem mlX8_60 : Cond.methodLink RX8 60 yX8_writeOut ∈ qTb := qTb_in (tb2 _ (List.mem_of_getElem? (i := 187) rfl)) rfl
theorem mlX8_64 : Cond.methodLink RX8 64 yJ7_fill_53178 ∈ qTb := qTb_in (tb2 _ (List.mem_of_getElem? (i := 153) rfl)) rfl
theorem mlX8_70 : Cond.methodLink RX8 70 yX0_at ∈ qTb := qTb_in (tb2 _ (List.mem_of_getElem? (i := 156) rfl)) rfl
theorem mlX8_81 : Cond.methodLink RX8 81 yX8_enqueue ∈ qTb := qTb_in (tb2 _ (List.mem_of_getElem? (i := 164) rfl)) rfl
theorem mlX8_84 : Cond.methodLink RX8 84 yX8_headOf ∈ qTb := qTb_in (tb2 _ (List.mem_of_getElem? (i := 168) rfl)) rfl
theorem mlX8_87 : Cond.methodLink RX8 87 yX8_merge ∈ qTb := qTb_in (tb2 _ (List.mem_of_getElem? (i := 172) rfl)) rfl
theorem mlX8_90 : Cond.methodLink RX8 90 yX8_measureClass ∈ qTb := qTb_in (tb2 _ (List.mem_of_getElem? (i := 180) rfl)) rfl
theorem mlX8_94 : Cond.methodLink RX8 94 Lib.Math.min.name ∈ qTb := qTb_in (tb2 _ (List.mem_of_getElem? (i := 184) rfl)) rfl
theorem mlX8_100 : Cond.methodLink RX8 100 yX0_makeEmpty ∈ qTb := qTb_in (tb2 _ (List.mem_of_getElem? (i := 191) rfl)) rfl
theorem mlX8_103 : Cond.methodLink RX8 103 yX0_addSign ∈ qTb := qTb_in (tb2 _ (List.mem_of_getElem? (i := 192) rfl)) rfl
theorem mlX8_106 : Cond.methodLink RX8 106 yX0_addVariable ∈ qTb := qTb_in (tb2 _ (List.mem_of_getElem? (i := 193) rfl)) rfl
theorem mlL_9 : Cond.methodLink RL 9 yX9_init ∈ qTb := qTb_in (tb1 _ (List.mem_of_getElem? (i := 22) rfl)) rfl
theorem mlL_12 : Cond.methodLink RL 12 yX10_init ∈ qTb := qTb_in (tb4 _ (List.mem_of_getElem? (i := 188) rfl)) rfl
theorem mlL_13 : Cond.methodLink RL 13 yX9_append ∈ qTb := qTb_in (tb2 _ (List.mem_of_getElem? (i := 42) rfl)) rfl
theorem mlL_17 : Cond.methodLink RL 17 yX10_append ∈ qTb := qTb_in (tb5 _ (List.mem_of_getElem? (i := 68) rfl)) rfl
theorem mlL_18 : Cond.methodLink RL 18 yX9_clearText ∈ qTb := qTb_in (tb2 _ (List.mem_of_getElem? (i := 54) rfl)) rfl
theorem mlL_22 : Cond.methodLink RL 22 yX10_clearText ∈ qTb := qTb_in (tb5 _ (List.mem_of_getElem? (i := 75) rfl)) rfl
theorem mlL_23 : Cond.methodLink RL 23 yX9_addAxiom ∈ qTb := qTb_in (tb2 _ (List.mem_of_getElem? (i := 62) rfl)) rfl
theorem mlL_26 : Cond.methodLink RL 26 yX10_addAxiom ∈ qTb := qTb_in (tb5 _ (List.mem_of_getElem? (i := 79) rfl)) rfl
theorem mlL_27 : Cond.methodLink RL 27 yX9_detach ∈ qTb := qTb_in (tb2 _ (List.mem_of_getElem? (i := 124) rfl)) rfl
theorem mlL_31 : Cond.methodLink RL 31 yX10_detach ∈ qTb := qTb_in (tb5 _ (List.mem_of_getElem? (i := 103) rfl)) rfl
theorem mlL_32 : Cond.methodLink RL 32 yX9_prove ∈ qTb := qTb_in (tb2 _ (List.mem_of_getElem? (i := 194) rfl)) rfl
theorem mlL_35 : Cond.methodLink RL 35 yX10_prove ∈ qTb := qTb_in (tb5 _ (List.mem_of_getElem? (i := 155) rfl)) rfl
theorem mlL_36 : Cond.methodLink RL 36 yX9_cut ∈ qTb := qTb_in (tb2 _ (List.mem_of_getElem? (i := 211) rfl)) rfl
theorem mlL_39 : Cond.methodLink RL 39 yX10_cut ∈ qTb := qTb_in (tb5 _ (List.mem_of_getElem? (i := 168) rfl)) rfl
theorem mlL_40 : Cond.methodLink RL 40 yX9_listSize ∈ qTb := qTb_in (tb2 _ (List.mem_of_getElem? (i := 215) rfl)) rfl
theorem mlL_43 : Cond.methodLink RL 43 yX10_listSize ∈ qTb := qTb_in (tb5 _ (List.mem_of_getElem? (i := 172) rfl)) rfl
theorem mlL_44 : Cond.methodLink RL 44 yX9_formulaSize ∈ qTb := qTb_in (tb2 _ (List.mem_of_getElem? (i := 219) rfl)) rfl
theorem mlL_47 : Cond.methodLink RL 47 yX10_formulaSize ∈ qTb := qTb_in (tb5 _ (List.mem_of_getElem? (i := 176) rfl)) rfl
theorem mlL_48 : Cond.methodLink RL 48 yX9_variableCount ∈ qTb := qTb_in (tb2 _ (List.mem_of_getElem? (i := 224) rfl)) rfl
theorem mlL_51 : Cond.methodLink RL 51 yX10_variableCount ∈ qTb := qTb_in (tb5 _ (List.mem_of_getElem? (i := 180) rfl)) rfl
theorem mlL_52 : Cond.methodLink RL 52 yX9_majorOf ∈ qTb := qTb_in (tb2 _ (List.mem_of_getElem? (i := 232) rfl)) rfl
theorem mlL_55 : Cond.methodLink RL 55 yX10_majorOf ∈ qTb := qTb_in (tb5 _ (List.mem_of_getElem? (i := 189) rfl)) rfl
theorem mlL_56 : Cond.methodLink RL 56 yX9_minorOf ∈ qTb := qTb_in (tb3 _ (List.mem_of_getElem? (i := 0) rfl)) rfl
theorem mlL_59 : Cond.methodLink RL 59 yX10_minorOf ∈ qTb := qTb_in (tb5 _ (List.mem_of_getElem? (i := 193) rfl)) rfl
theorem mlL_60 : Cond.methodLink RL 60 yX9_proofDepth ∈ qTb := qTb_in (tb3 _ (List.mem_of_getElem? (i := 8) rfl)) rfl
theorem mlL_63 : Cond.methodLink RL 63 yX10_proofDepth ∈ qTb := qTb_in (tb5 _ (List.mem_of_getElem? (i := 197) rfl)) rfl
theorem mlL_64 : Cond.methodLink RL 64 yX9_proofSize ∈ qTb := qTb_in (tb3 _ (List.mem_of_getElem? (i := 16) rfl)) rfl
theorem mlL_68 : Cond.methodLink RL 68 yX10_proofSize ∈ qTb := qTb_in (tb5 _ (List.mem_of_getElem? (i := 201) rfl)) rfl
theorem mlL_69 : Cond.methodLink RL 69 yX9_writeFormula ∈ qTb := qTb_in (tb3 _ (List.mem_of_getElem? (i := 25) rfl)) rfl
theorem mlL_72 : Cond.methodLink RL 72 yX10_writeFormula ∈ qTb := qTb_in (tb5 _ (List.mem_of_getElem? (i := 210) rfl)) rfl
theorem mlL_73 : Cond.methodLink RL 73 yX9_writeProof ∈ qTb := qTb_in (tb3 _ (List.mem_of_getElem? (i := 38) rfl)) rfl
theorem mlL_76 : Cond.methodLink RL 76 yX10_writeProof ∈ qTb := qTb_in (tb5 _ (List.mem_of_getElem? (i := 214) rfl)) rfl
theorem mlL_77 : Cond.methodLink RL 77 yX9_outputLength ∈ qTb := qTb_in (tb3 _ (List.mem_of_getElem? (i := 55) rfl)) rfl
theorem mlL_80 : Cond.methodLink RL 80 yX10_outputLength ∈ qTb := qTb_in (tb5 _ (List.mem_of_getElem? (i := 227) rfl)) rfl
theorem mlL_81 : Cond.methodLink RL 81 yX9_outputAt ∈ qTb := qTb_in (tb3 _ (List.mem_of_getElem? (i := 59) rfl)) rfl
theorem mlL_84 : Cond.methodLink RL 84 yX10_outputAt ∈ qTb := qTb_in (tb5 _ (List.mem_of_getElem? (i := 231) rfl)) rfl
theorem mlL_85 : Cond.methodLink RL 85 yX9_isInstance ∈ qTb := qTb_in (tb3 _ (List.mem_of_getElem? (i := 63) rfl)) rfl
theorem mlL_88 : Cond.methodLink RL 88 yX10_isInstance ∈ qTb := qTb_in (tb5 _ (List.mem_of_getElem? (i := 235) rfl)) rfl
theorem mlL_89 : Cond.methodLink RL 89 yX9_moreGeneral ∈ qTb := qTb_in (tb3 _ (List.mem_of_getElem? (i := 78) rfl)) rfl
theorem mlL_92 : Cond.methodLink RL 92 yX10_moreGeneral ∈ qTb := qTb_in (tb6 _ (List.mem_of_getElem? (i := 7) rfl)) rfl
theorem mlL_93 : Cond.methodLink RL 93 yX9_unify ∈ qTb := qTb_in (tb3 _ (List.mem_of_getElem? (i := 82) rfl)) rfl
theorem mlL_96 : Cond.methodLink RL 96 yX10_unify ∈ qTb := qTb_in (tb5 _ (List.mem_of_getElem? (i := 147) rfl)) rfl
theorem mlL_97 : Cond.methodLink RL 97 yX9_round ∈ qTb := qTb_in (tb3 _ (List.mem_of_getElem? (i := 90) rfl)) rfl
theorem mlL_100 : Cond.methodLink RL 100 yX10_round ∈ qTb := qTb_in (tb6 _ (List.mem_of_getElem? (i := 11) rfl)) rfl
theorem mlL_101 : Cond.methodLink RL 101 yX9_shortest ∈ qTb := qTb_in (tb3 _ (List.mem_of_getElem? (i := 104) rfl)) rfl
theorem mlL_104 : Cond.methodLink RL 104 yX10_shortest ∈ qTb := qTb_in (tb6 _ (List.mem_of_getElem? (i := 15) rfl)) rfl
theorem mlL_105 : Cond.methodLink RL 105 yX9_setEntry ∈ qTb := qTb_in (tb3 _ (List.mem_of_getElem? (i := 143) rfl)) rfl
theorem mlL_109 : Cond.methodLink RL 109 yX10_setEntry ∈ qTb := qTb_in (tb6 _ (List.mem_of_getElem? (i := 19) rfl)) rfl
theorem mlL_110 : Cond.methodLink RL 110 yX9_setDesignated ∈ qTb := qTb_in (tb3 _ (List.mem_of_getElem? (i := 154) rfl)) rfl
theorem mlL_113 : Cond.methodLink RL 113 yX10_setDesignated ∈ qTb := qTb_in (tb6 _ (List.mem_of_getElem? (i := 26) rfl)) rfl
theorem mlL_114 : Cond.methodLink RL 114 yX9_isNormal ∈ qTb := qTb_in (tb3 _ (List.mem_of_getElem? (i := 162) rfl)) rfl
theorem mlL_117 : Cond.methodLink RL 117 yX10_isNormal ∈ qTb := qTb_in (tb6 _ (List.mem_of_getElem? (i := 30) rfl)) rfl
theorem mlL_118 : Cond.methodLink RL 118 yX9_isValid ∈ qTb := qTb_in (tb3 _ (List.mem_of_getElem? (i := 174) rfl)) rfl
theorem mlL_121 : Cond.methodLink RL 121 yX10_isValid ∈ qTb := qTb_in (tb6 _ (List.mem_of_getElem? (i := 38) rfl)) rfl
theorem mlL_122 : Cond.methodLink RL 122 yX9_refutation ∈ qTb := qTb_in (tb3 _ (List.mem_of_getElem? (i := 198) rfl)) rfl
theorem mlL_125 : Cond.methodLink RL 125 yX10_refutation ∈ qTb := qTb_in (tb6 _ (List.mem_of_getElem? (i := 61) rfl)) rfl
theorem mlL_126 : Cond.methodLink RL 126 yX9_countValuations ∈ qTb := qTb_in (tb3 _ (List.mem_of_getElem? (i := 206) rfl)) rfl
theorem mlL_129 : Cond.methodLink RL 129 yX10_countValuations ∈ qTb := qTb_in (tb6 _ (List.mem_of_getElem? (i := 65) rfl)) rfl
theorem mlL_130 : Cond.methodLink RL 130 yX9_addType ∈ qTb := qTb_in (tb3 _ (List.mem_of_getElem? (i := 214) rfl)) rfl
theorem mlL_133 : Cond.methodLink RL 133 yX10_addType ∈ qTb := qTb_in (tb6 _ (List.mem_of_getElem? (i := 69) rfl)) rfl
theorem mlL_134 : Cond.methodLink RL 134 yX9_reduceTerm ∈ qTb := qTb_in (tb4 _ (List.mem_of_getElem? (i := 71) rfl)) rfl
theorem mlL_137 : Cond.methodLink RL 137 yX10_reduceTerm ∈ qTb := qTb_in (tb6 _ (List.mem_of_getElem? (i := 156) rfl)) rfl
theorem mlL_138 : Cond.methodLink RL 138 yX9_allocate ∈ qTb := qTb_in (tb4 _ (List.mem_of_getElem? (i := 123) rfl)) rfl
theorem mlL_141 : Cond.methodLink RL 141 yX10_allocate ∈ qTb := qTb_in (tb6 _ (List.mem_of_getElem? (i := 195) rfl)) rfl
theorem mlL_142 : Cond.methodLink RL 142 yX9_put ∈ qTb := qTb_in (tb4 _ (List.mem_of_getElem? (i := 135) rfl)) rfl
theorem mlL_145 : Cond.methodLink RL 145 yX10_put ∈ qTb := qTb_in (tb6 _ (List.mem_of_getElem? (i := 202) rfl)) rfl
theorem mlL_146 : Cond.methodLink RL 146 yX9_rowElement ∈ qTb := qTb_in (tb4 _ (List.mem_of_getElem? (i := 155) rfl)) rfl
theorem mlL_150 : Cond.methodLink RL 150 yX10_rowElement ∈ qTb := qTb_in (tb6 _ (List.mem_of_getElem? (i := 214) rfl)) rfl
theorem mlL_151 : Cond.methodLink RL 151 yX9_copyElements ∈ qTb := qTb_in (tb4 _ (List.mem_of_getElem? (i := 164) rfl)) rfl
theorem mlL_155 : Cond.methodLink RL 155 yX10_copyElements ∈ qTb := qTb_in (tb6 _ (List.mem_of_getElem? (i := 219) rfl)) rfl
theorem mlL_156 : Cond.methodLink RL 156 yX9_storeOutput ∈ qTb := qTb_in (tb4 _ (List.mem_of_getElem? (i := 177) rfl)) rfl
theorem mlL_159 : Cond.methodLink RL 159 yX10_storeOutput ∈ qTb := qTb_in (tb6 _ (List.mem_of_getElem? (i := 223) rfl)) rfl
theorem mlL_160 : Cond.methodLink RL 160 yX9_loadText ∈ qTb := qTb_in (tb4 _ (List.mem_of_getElem? (i := 181) rfl)) rfl
theorem mlL_163 : Cond.methodLink RL 163 yX10_loadText ∈ qTb := qTb_in (tb6 _ (List.mem_of_getElem? (i := 227) rfl)) rfl
theorem mlX10_1 : Cond.methodLink RX10 1 Lib.objectInit ∈ qTb := qTb_in (tb4 _ (List.mem_of_getElem? (i := 191) rfl)) rfl
theorem mlX10_90 : Cond.methodLink RX10 90 Lib.Math.min.name ∈ qTb := qTb_in (tb4 _ (List.mem_of_getElem? (i := 192) rfl)) rfl
theorem mlX10_99 : Cond.methodLink RX10 99 yX10_in ∈ qTb := qTb_in (tb5 _ (List.mem_of_getElem? (i := 72) rfl)) rfl
theorem mlX10_115 : Cond.methodLink RX10 115 Lib.Math.max.name ∈ qTb := qTb_in (tb5 _ (List.mem_of_getElem? (i := 188) rfl)) rfl
theorem mlX10_118 : Cond.methodLink RX10 118 yX10_place ∈ qTb := qTb_in (tb5 _ (List.mem_of_getElem? (i := 95) rfl)) rfl
theorem mlX10_121 : Cond.methodLink RX10 121 yX10_puts ∈ qTb := qTb_in (tb5 _ (List.mem_of_getElem? (i := 99) rfl)) rfl
theorem mlX10_125 : Cond.methodLink RX10 125 yX10_readsFormula ∈ qTb := qTb_in (tb5 _ (List.mem_of_getElem? (i := 83) rfl)) rfl
theorem mlX10_129 : Cond.methodLink RX10 129 yX10_names ∈ qTb := qTb_in (tb5 _ (List.mem_of_getElem? (i := 87) rfl)) rfl
theorem mlX10_132 : Cond.methodLink RX10 132 yX10_enters ∈ qTb := qTb_in (tb5 _ (List.mem_of_getElem? (i := 91) rfl)) rfl
theorem mlX10_141 : Cond.methodLink RX10 141 yX10_builds ∈ qTb := qTb_in (tb5 _ (List.mem_of_getElem? (i := 123) rfl)) rfl
theorem mlX10_145 : Cond.methodLink RX10 145 yX10_seek ∈ qTb := qTb_in (tb5 _ (List.mem_of_getElem? (i := 131) rfl)) rfl
theorem mlX10_149 : Cond.methodLink RX10 149 yX10_occurs ∈ qTb := qTb_in (tb5 _ (List.mem_of_getElem? (i := 135) rfl)) rfl
theorem mlX10_153 : Cond.methodLink RX10 153 yX10_unifies ∈ qTb := qTb_in (tb5 _ (List.mem_of_getElem? (i := 127) rfl)) rfl
theorem mlX10_156 : Cond.methodLink RX10 156 yX10_writes ∈ qTb := qTb_in (tb5 _ (List.mem_of_getElem? (i := 143) rfl)) rfl
theorem mlX10_162 : Cond.methodLink RX10 162 yX10_begins ∈ qTb := qTb_in (tb5 _ (List.mem_of_getElem? (i := 119) rfl)) rfl
theorem mlX10_165 : Cond.methodLink RX10 165 yX10_written ∈ qTb := qTb_in (tb5 _ (List.mem_of_getElem? (i := 139) rfl)) rfl
theorem mlX10_168 : Cond.methodLink RX10 168 yX10_detaches ∈ qTb := qTb_in (tb5 _ (List.mem_of_getElem? (i := 115) rfl)) rfl
theorem mlX10_172 : Cond.methodLink RX10 172 yX10_isOne ∈ qTb := qTb_in (tb5 _ (List.mem_of_getElem? (i := 107) rfl)) rfl
theorem mlX10_175 : Cond.methodLink RX10 175 yX10_detaches_ ∈ qTb := qTb_in (tb5 _ (List.mem_of_getElem? (i := 111) rfl)) rfl
theorem mlX10_177 : Cond.methodLink RX10 177 yX10_tellsOne ∈ qTb := qTb_in (tb5 _ (List.mem_of_getElem? (i := 151) rfl)) rfl
theorem mlX10_183 : Cond.methodLink RX10 183 yX10_proves ∈ qTb := qTb_in (tb5 _ (List.mem_of_getElem? (i := 163) rfl)) rfl
theorem mlX10_187 : Cond.methodLink RX10 187 yX10_detach ∈ qTb := qTb_in (tb5 _ (List.mem_of_getElem? (i := 167) rfl)) rfl
theorem mlX10_190 : Cond.methodLink RX10 190 yX10_readsProof ∈ qTb := qTb_in (tb5 _ (List.mem_of_getElem? (i := 159) rfl)) rfl
theorem mlX10_193 : Cond.methodLink RX10 193 yX10_variables ∈ qTb := qTb_in (tb5 _ (List.mem_of_getElem? (i := 184) rfl)) rfl
theorem mlX10_196 : Cond.methodLink RX10 196 yX10_signs ∈ qTb := qTb_in (tb5 _ (List.mem_of_getElem? (i := 205) rfl)) rfl
theorem mlX10_202 : Cond.methodLink RX10 202 yX10_hasDigits ∈ qTb := qTb_in (tb5 _ (List.mem_of_getElem? (i := 219) rfl)) rfl
theorem mlX10_205 : Cond.methodLink RX10 205 yX10_tellsProof ∈ qTb := qTb_in (tb5 _ (List.mem_of_getElem? (i := 223) rfl)) rfl
theorem mlX10_210 : Cond.methodLink RX10 210 yX10_endOf ∈ qTb := qTb_in (tb6 _ (List.mem_of_getElem? (i := 3) rfl)) rfl
theorem mlX10_213 : Cond.methodLink RX10 213 yX10_isFrom ∈ qTb := qTb_in (tb5 _ (List.mem_of_getElem? (i := 239) rfl)) rfl
theorem mlX10_216 : Cond.methodLink RX10 216 yX10_isValue ∈ qTb := qTb_in (tb6 _ (List.mem_of_getElem? (i := 23) rfl)) rfl
theorem mlX10_219 : Cond.methodLink RX10 219 yX10_isDesignated ∈ qTb := qTb_in (tb6 _ (List.mem_of_getElem? (i := 34) rfl)) rfl
theorem mlX10_222 : Cond.methodLink RX10 222 yX10_valueAt ∈ qTb := qTb_in (tb6 _ (List.mem_of_getElem? (i := 57) rfl)) rfl
theorem mlX10_225 : Cond.methodLink RX10 225 yX10_power ∈ qTb := qTb_in (tb6 _ (List.mem_of_getElem? (i := 46) rfl)) rfl
theorem mlX10_228 : Cond.methodLink RX10 228 yX10_values ∈ qTb := qTb_in (tb6 _ (List.mem_of_getElem? (i := 49) rfl)) rfl
theorem mlX10_231 : Cond.methodLink RX10 231 yX10_valueOf ∈ qTb := qTb_in (tb6 _ (List.mem_of_getElem? (i := 53) rfl)) rfl
theorem mlX10_234 : Cond.methodLink RX10 234 yX10_refutes ∈ qTb := qTb_in (tb6 _ (List.mem_of_getElem? (i := 42) rfl)) rfl
theorem mlX10_239 : Cond.methodLink RX10 239 yJ0_indexOf_0f7a4 ∈ qTb := qTb_in (tb6 _ (List.mem_of_getElem? (i := 78) rfl)) rfl
theorem mlX10_262 : Cond.methodLink RX10 262 yX10_keepsType ∈ qTb := qTb_in (tb6 _ (List.mem_of_getElem? (i := 148) rfl)) rfl
theorem mlX10_265 : Cond.methodLink RX10 265 yX10_typesTerm ∈ qTb := qTb_in (tb6 _ (List.mem_of_getElem? (i := 133) rfl)) rfl
theorem mlX10_268 : Cond.methodLink RX10 268 yX10_typeOf ∈ qTb := qTb_in (tb6 _ (List.mem_of_getElem? (i := 137) rfl)) rfl
theorem mlX10_272 : Cond.methodLink RX10 272 yJ0_length_8abf5 ∈ qTb := qTb_in (tb6 _ (List.mem_of_getElem? (i := 146) rfl)) rfl
theorem mlX10_274 : Cond.methodLink RX10 274 yJ0_charAt_5068e ∈ qTb := qTb_in (tb6 _ (List.mem_of_getElem? (i := 147) rfl)) rfl
theorem mlX10_278 : Cond.methodLink RX10 278 yX10_applies ∈ qTb := qTb_in (tb6 _ (List.mem_of_getElem? (i := 152) rfl)) rfl
theorem mlX10_281 : Cond.methodLink RX10 281 yX10_isTerm ∈ qTb := qTb_in (tb6 _ (List.mem_of_getElem? (i := 73) rfl)) rfl
theorem mlX10_287 : Cond.methodLink RX10 287 yX10_node ∈ qTb := qTb_in (tb6 _ (List.mem_of_getElem? (i := 164) rfl)) rfl
theorem mlX10_291 : Cond.methodLink RX10 291 yX10_readsTerm ∈ qTb := qTb_in (tb6 _ (List.mem_of_getElem? (i := 160) rfl)) rfl
theorem mlX10_294 : Cond.methodLink RX10 294 yX10_apply ∈ qTb := qTb_in (tb6 _ (List.mem_of_getElem? (i := 168) rfl)) rfl
theorem mlX10_297 : Cond.methodLink RX10 297 yX10_sizeOf ∈ qTb := qTb_in (tb6 _ (List.mem_of_getElem? (i := 187) rfl)) rfl
theorem mlX10_300 : Cond.methodLink RX10 300 yX10_spine ∈ qTb := qTb_in (tb6 _ (List.mem_of_getElem? (i := 176) rfl)) rfl
theorem mlX10_303 : Cond.methodLink RX10 303 yX10_needs ∈ qTb := qTb_in (tb6 _ (List.mem_of_getElem? (i := 180) rfl)) rfl
theorem mlX10_306 : Cond.methodLink RX10 306 yX10_contracts ∈ qTb := qTb_in (tb6 _ (List.mem_of_getElem? (i := 183) rfl)) rfl
theorem mlX10_309 : Cond.methodLink RX10 309 yX10_reduces ∈ qTb := qTb_in (tb6 _ (List.mem_of_getElem? (i := 172) rfl)) rfl
theorem mlX10_312 : Cond.methodLink RX10 312 yX10_tells ∈ qTb := qTb_in (tb6 _ (List.mem_of_getElem? (i := 191) rfl)) rfl
theorem mlX10_316 : Cond.methodLink RX10 316 yX10_isRow ∈ qTb := qTb_in (tb6 _ (List.mem_of_getElem? (i := 199) rfl)) rfl
theorem mlX10_319 : Cond.methodLink RX10 319 yX10_lacks ∈ qTb := qTb_in (tb6 _ (List.mem_of_getElem? (i := 206) rfl)) rfl
theorem mlX10_322 : Cond.methodLink RX10 322 yX10_sets ∈ qTb := qTb_in (tb6 _ (List.mem_of_getElem? (i := 210) rfl)) rfl
theorem mlX10_330 : Cond.methodLink RX10 330 yX10_append ∈ qTb := qTb_in (tb6 _ (List.mem_of_getElem? (i := 231) rfl)) rfl
theorem mlJ0_335 : Cond.methodLink RJ0 335 yJ0_coder_7d493 ∈ qTb := qTb_in (tb4 _ (List.mem_of_getElem? (i := 26) rfl)) rfl
theorem mlJ0_492 : Cond.methodLink RJ0 492 yJ0_isLatin1_aae02 ∈ qTb := qTb_in (tb4 _ (List.mem_of_getElem? (i := 36) rfl)) rfl
theorem mlJ0_495 : Cond.methodLink RJ0 495 yJ1_charAt_3b067 ∈ qTb := qTb_in (tb4 _ (List.mem_of_getElem? (i := 40) rfl)) rfl
theorem mlJ0_505 : Cond.methodLink RJ0 505 yJ0_length_8abf5 ∈ qTb := qTb_in (tb6 _ (List.mem_of_getElem? (i := 86) rfl)) rfl
theorem mlJ0_633 : Cond.methodLink RJ0 633 yJ0_indexOf_7cf53 ∈ qTb := qTb_in (tb6 _ (List.mem_of_getElem? (i := 82) rfl)) rfl
theorem mlJ0_637 : Cond.methodLink RJ0 637 yJ1_indexOf_4cfef ∈ qTb := qTb_in (tb6 _ (List.mem_of_getElem? (i := 87) rfl)) rfl
theorem mlJ0_1059 : Cond.methodLink RJ0 1059 yJ3_checkIndex_8e157 ∈ qTb := qTb_in (tb4 _ (List.mem_of_getElem? (i := 48) rfl)) rfl
theorem mlJ1_9 : Cond.methodLink RJ1 9 yJ0_checkIndex_df160 ∈ qTb := qTb_in (tb4 _ (List.mem_of_getElem? (i := 43) rfl)) rfl
theorem mlJ1_38 : Cond.methodLink RJ1 38 Lib.Math.min.name ∈ qTb := qTb_in (tb6 _ (List.mem_of_getElem? (i := 94) rfl)) rfl
theorem mlJ1_88 : Cond.methodLink RJ1 88 yJ1_canEncode_9a6ad ∈ qTb := qTb_in (tb6 _ (List.mem_of_getElem? (i := 90) rfl)) rfl
theorem mlJ1_92 : Cond.methodLink RJ1 92 Lib.Math.max.name ∈ qTb := qTb_in (tb6 _ (List.mem_of_getElem? (i := 93) rfl)) rfl
theorem mlJ1_95 : Cond.methodLink RJ1 95 yJ1_indexOfChar_4cfef ∈ qTb := qTb_in (tb6 _ (List.mem_of_getElem? (i := 95) rfl)) rfl
theorem clX9_9 : Cond.classLink RX9 9 RX7 ∈ qTb := qTb_in (tb1 _ (List.mem_of_getElem? (i := 28) rfl)) rfl
theorem clX9_19 : Cond.classLink RX9 19 RX1 ∈ qTb := qTb_in (tb1 _ (List.mem_of_getElem? (i := 42) rfl)) rfl
theorem clX9_26 : Cond.classLink RX9 26 RX8 ∈ qTb := qTb_in (tb1 _ (List.mem_of_getElem? (i := 89) rfl)) rfl
theorem clX9_33 : Cond.classLink RX9 33 RX3 ∈ qTb := qTb_in (tb1 _ (List.mem_of_getElem? (i := 129) rfl)) rfl
theorem clX9_40 : Cond.classLink RX9 40 RX2 ∈ qTb := qTb_in (tb1 _ (List.mem_of_getElem? (i := 139) rfl)) rfl
theorem clX9_49 : Cond.classLink RX9 49 RX4 ∈ qTb := qTb_in (tb1 _ (List.mem_of_getElem? (i := 166) rfl)) rfl
theorem clX9_56 : Cond.classLink RX9 56 RX6 ∈ qTb := qTb_in (tb1 _ (List.mem_of_getElem? (i := 185) rfl)) rfl
theorem clX9_63 : Cond.classLink RX9 63 RX5 ∈ qTb := qTb_in (tb1 _ (List.mem_of_getElem? (i := 223) rfl)) rfl
theorem clX9_70 : Cond.classLink RX9 70 RX0 ∈ qTb := qTb_in (tb2 _ (List.mem_of_getElem? (i := 0) rfl)) rfl
theorem clX1_9 : Cond.classLink RX1 9 RX0 ∈ qTb := qTb_in (tb1 _ (List.mem_of_getElem? (i := 48) rfl)) rfl
theorem clX2_9 : Cond.classLink RX2 9 RX0 ∈ qTb := qTb_in (tb1 _ (List.mem_of_getElem? (i := 145) rfl)) rfl
theorem clL_7 : Cond.classLink RL 7 RX9 ∈ qTb := qTb_in (tb1 _ (List.mem_of_getElem? (i := 20) rfl)) rfl
theorem clL_10 : Cond.classLink RL 10 RX10 ∈ qTb := qTb_in (tb4 _ (List.mem_of_getElem? (i := 186) rfl)) rfl
theorem lgX9_153 : Cond.constantLong RX9 153 (-1) ∈ qTb := qTb_in (tb3 _ (List.mem_of_getElem? (i := 24) rfl)) rfl
theorem lgX9_159 : Cond.constantLong RX9 159 (49) ∈ qTb := qTb_in (tb3 _ (List.mem_of_getElem? (i := 42) rfl)) rfl
theorem lgX9_240 : Cond.constantLong RX9 240 (-9223372036854775808) ∈ qTb := qTb_in (tb4 _ (List.mem_of_getElem? (i := 159) rfl)) rfl
theorem lgX10_200 : Cond.constantLong RX10 200 (-1) ∈ qTb := qTb_in (tb5 _ (List.mem_of_getElem? (i := 209) rfl)) rfl
theorem lgX10_208 : Cond.constantLong RX10 208 (49) ∈ qTb := qTb_in (tb5 _ (List.mem_of_getElem? (i := 218) rfl)) rfl
theorem lgX10_328 : Cond.constantLong RX10 328 (-9223372036854775808) ∈ qTb := qTb_in (tb6 _ (List.mem_of_getElem? (i := 218) rfl)) rfl
theorem imObj : Cond.instanceMethod Lib.objectInit ∈ qTb := qTb_in (tb1 _ (List.mem_of_getElem? (i := 26) rfl)) rfl
theorem cdObj : Cond.code Lib.objectInit ⟨#[0xb1]⟩ 1 none ∈ qTb := qTb_in (tb1 _ (List.mem_of_getElem? (i := 27) rfl)) rfl
theorem stmax : Cond.static Lib.Math.max.name ∈ qTb := qTb_in (tb2 _ (List.mem_of_getElem? (i := 122) rfl)) rfl
theorem cdmax : Cond.code Lib.Math.max.name Lib.Math.max.code 2 (some .int) ∈ qTb := qTb_in (tb2 _ (List.mem_of_getElem? (i := 123) rfl)) rfl
theorem stmin : Cond.static Lib.Math.min.name ∈ qTb := qTb_in (tb2 _ (List.mem_of_getElem? (i := 185) rfl)) rfl
theorem cdmin : Cond.code Lib.Math.min.name Lib.Math.min.code 2 (some .int) ∈ qTb := qTb_in (tb2 _ (List.mem_of_getElem? (i := 186) rfl)) rfl
theorem inMath : Cond.initialized "java/lang/Math" ∈ qTb := qTb_in (tb1 _ (List.mem_of_getElem? (i := 12) rfl)) rfl
theorem inSys : Cond.initialized "java/lang/System" ∈ qTb := qTb_in (tb1 _ (List.mem_of_getElem? (i := 13) rfl)) rfl
theorem ntCopy : Cond.native arraycopyName ∈ qTb := qTb_in (tb2 _ (List.mem_of_getElem? (i := 116) rfl)) rfl
theorem stCopy : Cond.static arraycopyName ∈ qTb := qTb_in (tb2 _ (List.mem_of_getElem? (i := 115) rfl)) rfl
theorem ac_int : Cond.arrayClass .int ∈ qTb := qTb_in (tb1 _ (List.mem_of_getElem? (i := 65) rfl)) rfl
theorem ac_char : Cond.arrayClass .char ∈ qTb := qTb_in (tb1 _ (List.mem_of_getElem? (i := 41) rfl)) rfl
theorem ac_long : Cond.arrayClass .long ∈ qTb := qTb_in (tb1 _ (List.mem_of_getElem? (i := 66) rfl)) rfl
theorem ac_boolean : Cond.arrayClass .boolean ∈ qTb := qTb_in (tb1 _ (List.mem_of_getElem? (i := 222) rfl)) rfl
