theorem dX10_in_0 : decode cX10_in 0 = .ok (.iload_n 0, 1) := by decide +kernel
theorem dX10_in_1 : decode cX10_in 1 = .ok (.iload_n 1, 1) := by decide +kernel
theorem dX10_in_2 : decode cX10_in 2 = .ok (.if_icmp .lt 12, 3) := by decide +kernel
theorem dX10_in_5 : decode cX10_in 5 = .ok (.iload_n 0, 1) := by decide +kernel
theorem dX10_in_6 : decode cX10_in 6 = .ok (.iload_n 2, 1) := by decide +kernel
theorem dX10_in_7 : decode cX10_in 7 = .ok (.if_icmp .gt 7, 3) := by decide +kernel
theorem dX10_in_10 : decode cX10_in 10 = .ok (.iconst 1, 1) := by decide +kernel
theorem dX10_in_11 : decode cX10_in 11 = .ok (.goto 4, 3) := by decide +kernel
theorem dX10_in_14 : decode cX10_in 14 = .ok (.iconst 0, 1) := by decide +kernel
theorem dX10_in_15 : decode cX10_in 15 = .ok (.ireturn, 1) := by decide +kernel
def fX10_in (N : Nat) (v0 : Int32) (v1 : Int32) (v2 : Int32) (m0 : qM) : Option (Int32 × qM) :=
  if v0 < v1 then (
  some ((0 : Int32), m0)
  ) else (
  if v2 < v0 then (
  some ((0 : Int32), m0)
  ) else (
  some ((1 : Int32), m0)
  )
  )
set_option maxRecDepth 100000 in
theorem bX10_in {E : qE} {N d bc bs : Nat} (hd : 0 ≤ d) {v0 : Int32} {v1 : Int32} {v2 : Int32} {m0 : qM} : qB E yX10_in cX10_in 3 (some .boolean) (fun _ => True) d bc bs 0 [(0, .int v0), (1, .int v1), (2, .int v2)] [] m0 (fX10_in N v0 v1 v2 m0) (fun b rr => rr = (some (.int b.1), b.2)) := by
  unfold fX10_in
  refine j_iload_n (q := 0) (np := 1) rfl rfl dX10_in_0 rfl ?_
  refine j_iload_n (q := 1) (np := 2) rfl rfl dX10_in_1 rfl ?_
  refine j_icmp_lt (tgt := 14) (np := 5) dX10_in_2 rfl rfl ?_ ?_
  · refine j_iconst (np := 15) ci_0 dX10_in_14 rfl ?_
    exact j_zret rfl dX10_in_15 (fun rr h => by rw [z0]; exact h)
  · refine j_iload_n (q := 0) (np := 6) rfl rfl dX10_in_5 rfl ?_
    refine j_iload_n (q := 2) (np := 7) rfl rfl dX10_in_6 rfl ?_
    refine j_icmp_gt (tgt := 14) (np := 10) dX10_in_7 rfl rfl ?_ ?_
    · refine j_iconst (np := 15) ci_0 dX10_in_14 rfl ?_
      exact j_zret rfl dX10_in_15 (fun rr h => by rw [z0]; exact h)
    · refine j_iconst (np := 11) ci_1 dX10_in_10 rfl ?_
      refine j_goto (tgt := 15) dX10_in_11 rfl ?_
      exact j_zret rfl dX10_in_15 (fun rr h => by rw [z1]; exact h)
set_option maxRecDepth 100000 in
theorem wX10_in {E : qE} {N d : Nat} (hd : 0 ≤ d) {v0 : Int32} {v1 : Int32} {v2 : Int32} {m0 : qM} {b : Int32 × qM} (h : fX10_in N v0 v1 v2 m0 = some b) : qRun E yX10_in cX10_in 3 (some .boolean) d 0 0 [.int v0, .int v1, .int v2] m0 (some (.int b.1), b.2) := q_met pnX10 (Nat.le_of_ble_eq_true rfl) (bX10_in hd b _ h rfl)
theorem dX10_isOne_0 : decode cX10_isOne 0 = .ok (.iload_n 1, 1) := by decide +kernel
theorem dX10_isOne_1 : decode cX10_isOne 1 = .ok (.iconst 0, 1) := by decide +kernel
theorem dX10_isOne_2 : decode cX10_isOne 2 = .ok (.aload_n 0, 1) := by decide +kernel
theorem dX10_isOne_3 : decode cX10_isOne 3 = .ok (.getfield 96, 3) := by decide +kernel
theorem dX10_isOne_6 : decode cX10_isOne 6 = .ok (.iconst 1, 1) := by decide +kernel
theorem dX10_isOne_7 : decode cX10_isOne 7 = .ok (.isub, 1) := by decide +kernel
theorem dX10_isOne_8 : decode cX10_isOne 8 = .ok (.invokestatic 99, 3) := by decide +kernel
theorem dX10_isOne_11 : decode cX10_isOne 11 = .ok (.ireturn, 1) := by decide +kernel
def fX10_isOne (N : Nat) (v0 : Nat) (v1 : Int32) (m0 : qM) : Option (Int32 × qM) :=
  (qgI m0 v0 10 5).bind fun x1 =>
  (fX10_in N v1 (0 : Int32) (x1 - (1 : Int32)) m0).bind fun b2 =>
  some (b2.1 &&& 1, b2.2)
set_option maxRecDepth 100000 in
theorem bX10_isOne {E : qE} {N d bc bs : Nat} (hd : 1 ≤ d) {v0 : Nat} {v1 : Int32} {m0 : qM} : qB E yX10_isOne cX10_isOne 2 (some .boolean) (fun _ => True) d bc bs 0 [(0, .ref (E.2.1 + v0)), (1, .int v1)] [] m0 (fX10_isOne N v0 v1 m0) (fun b rr => rr = (some (.int b.1), b.2)) := by
  unfold fX10_isOne
  refine j_iload_n (q := 1) (np := 1) rfl rfl dX10_isOne_0 rfl ?_
  refine j_iconst (np := 2) ci_0 dX10_isOne_1 rfl ?_
  refine j_aload_n (q := 0) (np := 3) rfl rfl dX10_isOne_2 rfl ?_
  refine j_gI (np := 6) flX10_96 dX10_isOne_3 rfl (fun x1 => ?_)
  refine j_iconst (np := 7) ci_1 dX10_isOne_6 rfl ?_
  refine j_isub (np := 8) dX10_isOne_7 rfl ?_
  refine j_callSi (np := 11) (bc := bc) (bs := bs) (cb := 0) (cs := 0) (dd := d - 1) (As := [.int v1, .int (0 : Int32), .int (x1 - (1 : Int32))]) (st := []) caX10_in mlX10_99 stX10_in (fun b hb => wX10_in (by omega) hb) (by omega) rfl rfl (Nat.le_of_ble_eq_true rfl) dX10_isOne_8 rfl (fun b2 => ?_)
  exact j_zret rfl dX10_isOne_11 (fun rr h => h)
set_option maxRecDepth 100000 in
theorem wX10_isOne {E : qE} {N d : Nat} (hd : 1 ≤ d) {v0 : Nat} {v1 : Int32} {m0 : qM} {b : Int32 × qM} (h : fX10_isOne N v0 v1 m0 = some b) : qRun E yX10_isOne cX10_isOne 2 (some .boolean) d 0 0 [.ref (E.2.1 + v0), .int v1] m0 (some (.int b.1), b.2) := q_met pnX10 (Nat.le_of_ble_eq_true rfl) (bX10_isOne hd b _ h rfl)
theorem dX10_append_0 : decode cX10_append 0 = .ok (.iload_n 1, 1) := by decide +kernel
theorem dX10_append_1 : decode cX10_append 1 = .ok (.bipush 33, 2) := by decide +kernel
theorem dX10_append_3 : decode cX10_append 3 = .ok (.bipush 126, 2) := by decide +kernel
theorem dX10_append_5 : decode cX10_append 5 = .ok (.invokestatic 99, 3) := by decide +kernel
theorem dX10_append_8 : decode cX10_append 8 = .ok (.ifCond .ne 6, 3) := by decide +kernel
theorem dX10_append_11 : decode cX10_append 11 = .ok (.bipush (-2), 2) := by decide +kernel
theorem dX10_append_13 : decode cX10_append 13 = .ok (.ireturn, 1) := by decide +kernel
theorem dX10_append_14 : decode cX10_append 14 = .ok (.aload_n 0, 1) := by decide +kernel
theorem dX10_append_15 : decode cX10_append 15 = .ok (.getfield 103, 3) := by decide +kernel
theorem dX10_append_18 : decode cX10_append 18 = .ok (.bipush 80, 2) := by decide +kernel
theorem dX10_append_20 : decode cX10_append 20 = .ok (.if_icmp .ne 6, 3) := by decide +kernel
theorem dX10_append_23 : decode cX10_append 23 = .ok (.bipush (-3), 2) := by decide +kernel
theorem dX10_append_25 : decode cX10_append 25 = .ok (.ireturn, 1) := by decide +kernel
theorem dX10_append_26 : decode cX10_append 26 = .ok (.aload_n 0, 1) := by decide +kernel
theorem dX10_append_27 : decode cX10_append 27 = .ok (.getfield 25, 3) := by decide +kernel
theorem dX10_append_30 : decode cX10_append 30 = .ok (.aload_n 0, 1) := by decide +kernel
theorem dX10_append_31 : decode cX10_append 31 = .ok (.dup, 1) := by decide +kernel
theorem dX10_append_32 : decode cX10_append 32 = .ok (.getfield 103, 3) := by decide +kernel
theorem dX10_append_35 : decode cX10_append 35 = .ok (.dup_x1, 1) := by decide +kernel
theorem dX10_append_36 : decode cX10_append 36 = .ok (.iconst 1, 1) := by decide +kernel
theorem dX10_append_37 : decode cX10_append 37 = .ok (.iadd, 1) := by decide +kernel
theorem dX10_append_38 : decode cX10_append 38 = .ok (.putfield 103, 3) := by decide +kernel
theorem dX10_append_41 : decode cX10_append 41 = .ok (.iload_n 1, 1) := by decide +kernel
theorem dX10_append_42 : decode cX10_append 42 = .ok (.iastore, 1) := by decide +kernel
theorem dX10_append_43 : decode cX10_append 43 = .ok (.aload_n 0, 1) := by decide +kernel
theorem dX10_append_44 : decode cX10_append 44 = .ok (.getfield 103, 3) := by decide +kernel
theorem dX10_append_47 : decode cX10_append 47 = .ok (.ireturn, 1) := by decide +kernel
def fX10_append (N : Nat) (v0 : Nat) (v1 : Int32) (m0 : qM) : Option (Int32 × qM) :=
  (fX10_in N v1 (33 : Int32) (126 : Int32) m0).bind fun b1 =>
  if b1.1 = 0 then (
  some ((-2 : Int32), b1.2)
  ) else (
  (qgI b1.2 v0 10 7).bind fun x2 =>
  if x2 = (80 : Int32) then (
  some ((-3 : Int32), b1.2)
  ) else (
  (qgR b1.2 v0 10 6).bind fun x3 =>
  (qgI b1.2 v0 10 7).bind fun x4 =>
  (qpI b1.2 v0 10 7 (x4 + (1 : Int32))).bind fun m5 =>
  (qwI m5 x3 12 x4 v1).bind fun m6 =>
  (qgI m6 v0 10 7).bind fun x7 =>
  some (x7, m6)
  )
  )
set_option maxRecDepth 100000 in
theorem bX10_append {E : qE} {N d bc bs : Nat} (hd : 1 ≤ d) {v0 : Nat} {v1 : Int32} {m0 : qM} : qB E yX10_append cX10_append 2 (some .int) (fun _ => True) d bc bs 0 [(0, .ref (E.2.1 + v0)), (1, .int v1)] [] m0 (fX10_append N v0 v1 m0) (fun b rr => rr = (some (.int b.1), b.2)) := by
  unfold fX10_append
  refine j_iload_n (q := 1) (np := 1) rfl rfl dX10_append_0 rfl ?_
  refine j_bipush (np := 3) cb_33 dX10_append_1 rfl ?_
  refine j_bipush (np := 5) cb_126 dX10_append_3 rfl ?_
  refine j_callSi (np := 8) (bc := bc) (bs := bs) (cb := 0) (cs := 0) (dd := d - 1) (As := [.int v1, .int (33 : Int32), .int (126 : Int32)]) (st := []) caX10_in mlX10_99 stX10_in (fun b hb => wX10_in (by omega) hb) (by omega) rfl rfl (Nat.le_of_ble_eq_true rfl) dX10_append_5 rfl (fun b1 => ?_)
  refine j_if_ne (tgt := 14) (np := 11) dX10_append_8 rfl rfl ?_ ?_
  · refine j_aload_n (q := 0) (np := 15) rfl rfl dX10_append_14 rfl ?_
    refine j_gI (np := 18) flX10_103 dX10_append_15 rfl (fun x2 => ?_)
    refine j_bipush (np := 20) cb_80 dX10_append_18 rfl ?_
    refine j_icmp_ne (tgt := 26) (np := 23) dX10_append_20 rfl rfl ?_ ?_
    · refine j_aload_n (q := 0) (np := 27) rfl rfl dX10_append_26 rfl ?_
      refine j_gR (np := 30) flX10_25 dX10_append_27 rfl (fun x3 => ?_)
      refine j_aload_n (q := 0) (np := 31) rfl rfl dX10_append_30 rfl ?_
      refine j_dup (np := 32) rfl dX10_append_31 rfl ?_
      refine j_gI (np := 35) flX10_103 dX10_append_32 rfl (fun x4 => ?_)
      refine j_dup_x1 (np := 36) rfl rfl dX10_append_35 rfl ?_
      refine j_iconst (np := 37) ci_1 dX10_append_36 rfl ?_
      refine j_iadd (np := 38) dX10_append_37 rfl ?_
      refine j_pI (np := 41) flX10_103 dX10_append_38 rfl (fun m5 => ?_)
      refine j_iload_n (q := 1) (np := 42) rfl rfl dX10_append_41 rfl ?_
      refine j_iastore (np := 43) dX10_append_42 rfl (fun m6 => ?_)
      refine j_aload_n (q := 0) (np := 44) rfl rfl dX10_append_43 rfl ?_
      refine j_gI (np := 47) flX10_103 dX10_append_44 rfl (fun x7 => ?_)
      exact j_iret rfl dX10_append_47 (fun rr h => h)
    · refine j_bipush (np := 25) cb_m3 dX10_append_23 rfl ?_
      exact j_iret rfl dX10_append_25 (fun rr h => h)
  · refine j_bipush (np := 13) cb_m2 dX10_append_11 rfl ?_
    exact j_iret rfl dX10_append_13 (fun rr h => h)
set_option maxRecDepth 100000 in
theorem wX10_append {E : qE} {N d : Nat} (hd : 1 ≤ d) {v0 : Nat} {v1 : Int32} {m0 : qM} {b : Int32 × qM} (h : fX10_append N v0 v1 m0 = some b) : qRun E yX10_append cX10_append 2 (some .int) d 0 0 [.ref (E.2.1 + v0), .int v1] m0 (some (.int b.1), b.2) := q_met pnX10 (Nat.le_of_ble_eq_true rfl) (bX10_append hd b _ h rfl)
theorem dX10_clearText_0 : decode cX10_clearText 0 = .ok (.aload_n 0, 1) := by decide +kernel
theorem dX10_clearText_1 : decode cX10_clearText 1 = .ok (.getfield 103, 3) := by decide +kernel
theorem dX10_clearText_4 : decode cX10_clearText 4 = .ok (.istore_n 1, 1) := by decide +kernel
theorem dX10_clearText_5 : decode cX10_clearText 5 = .ok (.aload_n 0, 1) := by decide +kernel
theorem dX10_clearText_6 : decode cX10_clearText 6 = .ok (.iconst 0, 1) := by decide +kernel
theorem dX10_clearText_7 : decode cX10_clearText 7 = .ok (.putfield 103, 3) := by decide +kernel
theorem dX10_clearText_10 : decode cX10_clearText 10 = .ok (.iload_n 1, 1) := by decide +kernel
theorem dX10_clearText_11 : decode cX10_clearText 11 = .ok (.ireturn, 1) := by decide +kernel
def fX10_clearText (N : Nat) (v0 : Nat) (m0 : qM) : Option (Int32 × qM) :=
  (qgI m0 v0 10 7).bind fun x1 =>
  (qpI m0 v0 10 7 (0 : Int32)).bind fun m2 =>
  some (x1, m2)
set_option maxRecDepth 100000 in
theorem bX10_clearText {E : qE} {N d bc bs : Nat} (hd : 0 ≤ d) {v0 : Nat} {m0 : qM} : qB E yX10_clearText cX10_clearText 2 (some .int) (fun _ => True) d bc bs 0 [(0, .ref (E.2.1 + v0))] [] m0 (fX10_clearText N v0 m0) (fun b rr => rr = (some (.int b.1), b.2)) := by
  unfold fX10_clearText
  refine j_aload_n (q := 0) (np := 1) rfl rfl dX10_clearText_0 rfl ?_
  refine j_gI (np := 4) flX10_103 dX10_clearText_1 rfl (fun x1 => ?_)
  refine j_istore_n (np := 5) (lv2 := [(1, .int x1), (0, .ref (E.2.1 + v0))]) rfl (by decide) dX10_clearText_4 rfl rfl ?_
  refine j_aload_n (q := 1) (np := 6) rfl rfl dX10_clearText_5 rfl ?_
  refine j_iconst (np := 7) ci_0 dX10_clearText_6 rfl ?_
  refine j_pI (np := 10) flX10_103 dX10_clearText_7 rfl (fun m2 => ?_)
  refine j_iload_n (q := 0) (np := 11) rfl rfl dX10_clearText_10 rfl ?_
  exact j_iret rfl dX10_clearText_11 (fun rr h => h)
set_option maxRecDepth 100000 in
theorem wX10_clearText {E : qE} {N d : Nat} (hd : 0 ≤ d) {v0 : Nat} {m0 : qM} {b : Int32 × qM} (h : fX10_clearText N v0 m0 = some b) : qRun E yX10_clearText cX10_clearText 2 (some .int) d 0 0 [.ref (E.2.1 + v0)] m0 (some (.int b.1), b.2) := q_met pnX10 (Nat.le_of_ble_eq_true rfl) (bX10_clearText hd b _ h rfl)
theorem dX10_readsFormula_0 : decode cX10_readsFormula 0 = .ok (.iconst 1, 1) := by decide +kernel
theorem dX10_readsFormula_1 : decode cX10_readsFormula 1 = .ok (.istore_n 1, 1) := by decide +kernel
theorem dX10_readsFormula_2 : decode cX10_readsFormula 2 = .ok (.aload_n 0, 1) := by decide +kernel
theorem dX10_readsFormula_3 : decode cX10_readsFormula 3 = .ok (.iconst 0, 1) := by decide +kernel
theorem dX10_readsFormula_4 : decode cX10_readsFormula 4 = .ok (.putfield 109, 3) := by decide +kernel
theorem dX10_readsFormula_7 : decode cX10_readsFormula 7 = .ok (.iconst 0, 1) := by decide +kernel
theorem dX10_readsFormula_8 : decode cX10_readsFormula 8 = .ok (.istore_n 2, 1) := by decide +kernel
theorem dX10_readsFormula_9 : decode cX10_readsFormula 9 = .ok (.iload_n 2, 1) := by decide +kernel
theorem dX10_readsFormula_10 : decode cX10_readsFormula 10 = .ok (.aload_n 0, 1) := by decide +kernel
theorem dX10_readsFormula_11 : decode cX10_readsFormula 11 = .ok (.getfield 103, 3) := by decide +kernel
theorem dX10_readsFormula_14 : decode cX10_readsFormula 14 = .ok (.if_icmp .ge 89, 3) := by decide +kernel
theorem dX10_readsFormula_17 : decode cX10_readsFormula 17 = .ok (.aload_n 0, 1) := by decide +kernel
theorem dX10_readsFormula_18 : decode cX10_readsFormula 18 = .ok (.getfield 25, 3) := by decide +kernel
theorem dX10_readsFormula_21 : decode cX10_readsFormula 21 = .ok (.iload_n 2, 1) := by decide +kernel
theorem dX10_readsFormula_22 : decode cX10_readsFormula 22 = .ok (.iaload, 1) := by decide +kernel
theorem dX10_readsFormula_23 : decode cX10_readsFormula 23 = .ok (.istore_n 3, 1) := by decide +kernel
theorem dX10_readsFormula_24 : decode cX10_readsFormula 24 = .ok (.aload_n 0, 1) := by decide +kernel
theorem dX10_readsFormula_25 : decode cX10_readsFormula 25 = .ok (.iload_n 2, 1) := by decide +kernel
theorem dX10_readsFormula_26 : decode cX10_readsFormula 26 = .ok (.putfield 112, 3) := by decide +kernel
theorem dX10_readsFormula_29 : decode cX10_readsFormula 29 = .ok (.iload_n 1, 1) := by decide +kernel
theorem dX10_readsFormula_30 : decode cX10_readsFormula 30 = .ok (.ifCond .eq 20, 3) := by decide +kernel
theorem dX10_readsFormula_33 : decode cX10_readsFormula 33 = .ok (.iload_n 3, 1) := by decide +kernel
theorem dX10_readsFormula_34 : decode cX10_readsFormula 34 = .ok (.bipush 67, 2) := by decide +kernel
theorem dX10_readsFormula_36 : decode cX10_readsFormula 36 = .ok (.if_icmp .eq 16, 3) := by decide +kernel
theorem dX10_readsFormula_39 : decode cX10_readsFormula 39 = .ok (.iload_n 3, 1) := by decide +kernel
theorem dX10_readsFormula_40 : decode cX10_readsFormula 40 = .ok (.bipush 97, 2) := by decide +kernel
theorem dX10_readsFormula_42 : decode cX10_readsFormula 42 = .ok (.bipush 122, 2) := by decide +kernel
theorem dX10_readsFormula_44 : decode cX10_readsFormula 44 = .ok (.invokestatic 99, 3) := by decide +kernel
theorem dX10_readsFormula_47 : decode cX10_readsFormula 47 = .ok (.ifCond .ne 5, 3) := by decide +kernel
theorem dX10_readsFormula_50 : decode cX10_readsFormula 50 = .ok (.iconst 0, 1) := by decide +kernel
theorem dX10_readsFormula_51 : decode cX10_readsFormula 51 = .ok (.ireturn, 1) := by decide +kernel
theorem dX10_readsFormula_52 : decode cX10_readsFormula 52 = .ok (.iload_n 1, 1) := by decide +kernel
theorem dX10_readsFormula_53 : decode cX10_readsFormula 53 = .ok (.iload_n 3, 1) := by decide +kernel
theorem dX10_readsFormula_54 : decode cX10_readsFormula 54 = .ok (.bipush 67, 2) := by decide +kernel
theorem dX10_readsFormula_56 : decode cX10_readsFormula 56 = .ok (.if_icmp .ne 7, 3) := by decide +kernel
theorem dX10_readsFormula_59 : decode cX10_readsFormula 59 = .ok (.iconst 1, 1) := by decide +kernel
theorem dX10_readsFormula_60 : decode cX10_readsFormula 60 = .ok (.goto 4, 3) := by decide +kernel
theorem dX10_readsFormula_63 : decode cX10_readsFormula 63 = .ok (.iconst (-1), 1) := by decide +kernel
theorem dX10_readsFormula_64 : decode cX10_readsFormula 64 = .ok (.iadd, 1) := by decide +kernel
theorem dX10_readsFormula_65 : decode cX10_readsFormula 65 = .ok (.istore_n 1, 1) := by decide +kernel
theorem dX10_readsFormula_66 : decode cX10_readsFormula 66 = .ok (.aload_n 0, 1) := by decide +kernel
theorem dX10_readsFormula_67 : decode cX10_readsFormula 67 = .ok (.getfield 66, 3) := by decide +kernel
theorem dX10_readsFormula_70 : decode cX10_readsFormula 70 = .ok (.aload_n 0, 1) := by decide +kernel
theorem dX10_readsFormula_71 : decode cX10_readsFormula 71 = .ok (.dup, 1) := by decide +kernel
theorem dX10_readsFormula_72 : decode cX10_readsFormula 72 = .ok (.getfield 109, 3) := by decide +kernel
theorem dX10_readsFormula_75 : decode cX10_readsFormula 75 = .ok (.dup_x1, 1) := by decide +kernel
theorem dX10_readsFormula_76 : decode cX10_readsFormula 76 = .ok (.iconst 1, 1) := by decide +kernel
theorem dX10_readsFormula_77 : decode cX10_readsFormula 77 = .ok (.iadd, 1) := by decide +kernel
theorem dX10_readsFormula_78 : decode cX10_readsFormula 78 = .ok (.putfield 109, 3) := by decide +kernel
theorem dX10_readsFormula_81 : decode cX10_readsFormula 81 = .ok (.iload_n 3, 1) := by decide +kernel
theorem dX10_readsFormula_82 : decode cX10_readsFormula 82 = .ok (.bipush 67, 2) := by decide +kernel
theorem dX10_readsFormula_84 : decode cX10_readsFormula 84 = .ok (.if_icmp .ne 8, 3) := by decide +kernel
theorem dX10_readsFormula_87 : decode cX10_readsFormula 87 = .ok (.bipush 99, 2) := by decide +kernel
theorem dX10_readsFormula_89 : decode cX10_readsFormula 89 = .ok (.goto 7, 3) := by decide +kernel
theorem dX10_readsFormula_92 : decode cX10_readsFormula 92 = .ok (.iload_n 3, 1) := by decide +kernel
theorem dX10_readsFormula_93 : decode cX10_readsFormula 93 = .ok (.bipush 97, 2) := by decide +kernel
theorem dX10_readsFormula_95 : decode cX10_readsFormula 95 = .ok (.isub, 1) := by decide +kernel
theorem dX10_readsFormula_96 : decode cX10_readsFormula 96 = .ok (.iastore, 1) := by decide +kernel
theorem dX10_readsFormula_97 : decode cX10_readsFormula 97 = .ok (.iinc 2 1, 3) := by decide +kernel
theorem dX10_readsFormula_100 : decode cX10_readsFormula 100 = .ok (.goto (-91), 3) := by decide +kernel
theorem dX10_readsFormula_103 : decode cX10_readsFormula 103 = .ok (.aload_n 0, 1) := by decide +kernel
theorem dX10_readsFormula_104 : decode cX10_readsFormula 104 = .ok (.aload_n 0, 1) := by decide +kernel
theorem dX10_readsFormula_105 : decode cX10_readsFormula 105 = .ok (.getfield 103, 3) := by decide +kernel
theorem dX10_readsFormula_108 : decode cX10_readsFormula 108 = .ok (.putfield 112, 3) := by decide +kernel
theorem dX10_readsFormula_111 : decode cX10_readsFormula 111 = .ok (.iload_n 1, 1) := by decide +kernel
theorem dX10_readsFormula_112 : decode cX10_readsFormula 112 = .ok (.ifCond .ne 7, 3) := by decide +kernel
theorem dX10_readsFormula_115 : decode cX10_readsFormula 115 = .ok (.iconst 1, 1) := by decide +kernel
theorem dX10_readsFormula_116 : decode cX10_readsFormula 116 = .ok (.goto 4, 3) := by decide +kernel
theorem dX10_readsFormula_119 : decode cX10_readsFormula 119 = .ok (.iconst 0, 1) := by decide +kernel
theorem dX10_readsFormula_120 : decode cX10_readsFormula 120 = .ok (.ireturn, 1) := by decide +kernel
def kX10_readsFormula_96 (N : Nat) (rec : Int32 → Int32 → qM → Option ((Int32 × qM) ⊕ (Int32 × qM))) (v0 : Nat) (v1 : Int32) (v2 : Int32) (s0 : Nat) (s1 : Int32) (s2 : Int32) (m0 : qM) : Option ((Int32 × qM) ⊕ (Int32 × qM)) :=
  (qwI m0 s0 12 s1 s2).bind fun m1 =>
  rec v1 (v2 + (1 : Int32)) m1
set_option maxRecDepth 100000 in
theorem kbX10_readsFormula_96 {E : qE} {N d bc bs : Nat} (hd : 1 ≤ d) {v0 : Nat} {v1 : Int32} {v2 : Int32} {s0 : Nat} {s1 : Int32} {s2 : Int32} {m0 : qM} {rec : Int32 → Int32 → qM → Option ((Int32 × qM) ⊕ (Int32 × qM))} (hrec : ∀ (v1 : Int32) (v2 : Int32) (m : qM), qB E yX10_readsFormula cX10_readsFormula 4 (some .boolean) (fun _ => True) d bc bs 9 [(0, .ref (E.2.1 + v0)), (1, .int v1), (2, .int v2)] [] m (rec v1 v2 m) (qGL (fun o rr => qJ E yX10_readsFormula cX10_readsFormula 4 (some .boolean) (fun _ => True) d bc bs 103 [(0, .ref (E.2.1 + v0)), (1, .int o.1)] [] o.2 rr) (fun r => (some (.int r.1), r.2)))) : qB E yX10_readsFormula cX10_readsFormula 4 (some .boolean) (fun _ => True) d bc bs 96 [(0, .ref (E.2.1 + v0)), (1, .int v1), (2, .int v2)] [.int s2, .int s1, .ref (E.2.1 + s0)] m0 (kX10_readsFormula_96 N rec v0 v1 v2 s0 s1 s2 m0) (qGL (fun o rr => qJ E yX10_readsFormula cX10_readsFormula 4 (some .boolean) (fun _ => True) d bc bs 103 [(0, .ref (E.2.1 + v0)), (1, .int o.1)] [] o.2 rr) (fun r => (some (.int r.1), r.2))) := by
  unfold kX10_readsFormula_96
  refine j_iastore (np := 97) dX10_readsFormula_96 rfl (fun m1 => ?_)
  refine j_iinc (q := 2) (np := 100) (lv2 := [(2, .int (v2 + (1 : Int32))), (0, .ref (E.2.1 + v0)), (1, .int v1)]) rfl (congrArg _ ci_1) (by decide) dX10_readsFormula_97 rfl rfl ?_
  refine j_goto (tgt := 9) dX10_readsFormula_100 rfl ?_
  refine j_sub (lv2 := [(0, .ref (E.2.1 + v0)), (1, .int v1), (2, .int (v2 + (1 : Int32)))]) [1, 2, 0] rfl ?_
  exact hrec _ _ _
def kX10_readsFormula_64 (N : Nat) (rec : Int32 → Int32 → qM → Option ((Int32 × qM) ⊕ (Int32 × qM))) (v0 : Nat) (v2 : Int32) (v3 : Int32) (s0 : Int32) (s1 : Int32) (m0 : qM) : Option ((Int32 × qM) ⊕ (Int32 × qM)) :=
  (qgR m0 v0 10 26).bind fun x1 =>
  (qgI m0 v0 10 27).bind fun x2 =>
  (qpI m0 v0 10 27 (x2 + (1 : Int32))).bind fun m3 =>
  if v3 = (67 : Int32) then (
  kX10_readsFormula_96 N (rec) v0 (s0 + s1) v2 x1 x2 (99 : Int32) m3
  ) else (
  kX10_readsFormula_96 N (rec) v0 (s0 + s1) v2 x1 x2 (v3 - (97 : Int32)) m3
  )
set_option maxRecDepth 100000 in
theorem kbX10_readsFormula_64 {E : qE} {N d bc bs : Nat} (hd : 1 ≤ d) {v0 : Nat} {v2 : Int32} {v3 : Int32} {s0 : Int32} {s1 : Int32} {m0 : qM} {rec : Int32 → Int32 → qM → Option ((Int32 × qM) ⊕ (Int32 × qM))} (hrec : ∀ (v1 : Int32) (v2 : Int32) (m : qM), qB E yX10_readsFormula cX10_readsFormula 4 (some .boolean) (fun _ => True) d bc bs 9 [(0, .ref (E.2.1 + v0)), (1, .int v1), (2, .int v2)] [] m (rec v1 v2 m) (qGL (fun o rr => qJ E yX10_readsFormula cX10_readsFormula 4 (some .boolean) (fun _ => True) d bc bs 103 [(0, .ref (E.2.1 + v0)), (1, .int o.1)] [] o.2 rr) (fun r => (some (.int r.1), r.2)))) : qB E yX10_readsFormula cX10_readsFormula 4 (some .boolean) (fun _ => True) d bc bs 64 [(0, .ref (E.2.1 + v0)), (2, .int v2), (3, .int v3)] [.int s1, .int s0] m0 (kX10_readsFormula_64 N rec v0 v2 v3 s0 s1 m0) (qGL (fun o rr => qJ E yX10_readsFormula cX10_readsFormula 4 (some .boolean) (fun _ => True) d bc bs 103 [(0, .ref (E.2.1 + v0)), (1, .int o.1)] [] o.2 rr) (fun r => (some (.int r.1), r.2))) := by
  unfold kX10_readsFormula_64
  refine j_iadd (np := 65) dX10_readsFormula_64 rfl ?_
  refine j_istore_n (np := 66) (lv2 := [(1, .int (s0 + s1)), (0, .ref (E.2.1 + v0)), (2, .int v2), (3, .int v3)]) rfl (by decide) dX10_readsFormula_65 rfl rfl ?_
  refine j_aload_n (q := 1) (np := 67) rfl rfl dX10_readsFormula_66 rfl ?_
  refine j_gR (np := 70) flX10_66 dX10_readsFormula_67 rfl (fun x1 => ?_)
  refine j_aload_n (q := 1) (np := 71) rfl rfl dX10_readsFormula_70 rfl ?_
  refine j_dup (np := 72) rfl dX10_readsFormula_71 rfl ?_
  refine j_gI (np := 75) flX10_109 dX10_readsFormula_72 rfl (fun x2 => ?_)
  refine j_dup_x1 (np := 76) rfl rfl dX10_readsFormula_75 rfl ?_
  refine j_iconst (np := 77) ci_1 dX10_readsFormula_76 rfl ?_
  refine j_iadd (np := 78) dX10_readsFormula_77 rfl ?_
  refine j_pI (np := 81) flX10_109 dX10_readsFormula_78 rfl (fun m3 => ?_)
  refine j_iload_n (q := 3) (np := 82) rfl rfl dX10_readsFormula_81 rfl ?_
  refine j_bipush (np := 84) cb_67 dX10_readsFormula_82 rfl ?_
  refine j_icmp_ne (tgt := 92) (np := 87) dX10_readsFormula_84 rfl rfl ?_ ?_
  · refine j_iload_n (q := 3) (np := 93) rfl rfl dX10_readsFormula_92 rfl ?_
    refine j_bipush (np := 95) cb_97 dX10_readsFormula_93 rfl ?_
    refine j_isub (np := 96) dX10_readsFormula_95 rfl ?_
    refine j_sub (lv2 := [(0, .ref (E.2.1 + v0)), (1, .int (s0 + s1)), (2, .int v2)]) [1, 0, 2] rfl ?_
    exact kbX10_readsFormula_96 hd hrec
  · refine j_bipush (np := 89) cb_99 dX10_readsFormula_87 rfl ?_
    refine j_goto (tgt := 96) dX10_readsFormula_89 rfl ?_
    refine j_sub (lv2 := [(0, .ref (E.2.1 + v0)), (1, .int (s0 + s1)), (2, .int v2)]) [1, 0, 2] rfl ?_
    exact kbX10_readsFormula_96 hd hrec
def kX10_readsFormula_52 (N : Nat) (rec : Int32 → Int32 → qM → Option ((Int32 × qM) ⊕ (Int32 × qM))) (v0 : Nat) (v1 : Int32) (v2 : Int32) (v3 : Int32)  (m0 : qM) : Option ((Int32 × qM) ⊕ (Int32 × qM)) :=
  if v3 = (67 : Int32) then (
  kX10_readsFormula_64 N (rec) v0 v2 v3 v1 (1 : Int32) m0
  ) else (
  kX10_readsFormula_64 N (rec) v0 v2 v3 v1 (-1 : Int32) m0
  )
set_option maxRecDepth 100000 in
theorem kbX10_readsFormula_52 {E : qE} {N d bc bs : Nat} (hd : 1 ≤ d) {v0 : Nat} {v1 : Int32} {v2 : Int32} {v3 : Int32}  {m0 : qM} {rec : Int32 → Int32 → qM → Option ((Int32 × qM) ⊕ (Int32 × qM))} (hrec : ∀ (v1 : Int32) (v2 : Int32) (m : qM), qB E yX10_readsFormula cX10_readsFormula 4 (some .boolean) (fun _ => True) d bc bs 9 [(0, .ref (E.2.1 + v0)), (1, .int v1), (2, .int v2)] [] m (rec v1 v2 m) (qGL (fun o rr => qJ E yX10_readsFormula cX10_readsFormula 4 (some .boolean) (fun _ => True) d bc bs 103 [(0, .ref (E.2.1 + v0)), (1, .int o.1)] [] o.2 rr) (fun r => (some (.int r.1), r.2)))) : qB E yX10_readsFormula cX10_readsFormula 4 (some .boolean) (fun _ => True) d bc bs 52 [(0, .ref (E.2.1 + v0)), (1, .int v1), (2, .int v2), (3, .int v3)] [] m0 (kX10_readsFormula_52 N rec v0 v1 v2 v3 m0) (qGL (fun o rr => qJ E yX10_readsFormula cX10_readsFormula 4 (some .boolean) (fun _ => True) d bc bs 103 [(0, .ref (E.2.1 + v0)), (1, .int o.1)] [] o.2 rr) (fun r => (some (.int r.1), r.2))) := by
  unfold kX10_readsFormula_52
  refine j_iload_n (q := 1) (np := 53) rfl rfl dX10_readsFormula_52 rfl ?_
  refine j_iload_n (q := 3) (np := 54) rfl rfl dX10_readsFormula_53 rfl ?_
  refine j_bipush (np := 56) cb_67 dX10_readsFormula_54 rfl ?_
  refine j_icmp_ne (tgt := 63) (np := 59) dX10_readsFormula_56 rfl rfl ?_ ?_
  · refine j_iconst (np := 64) ci_m1 dX10_readsFormula_63 rfl ?_
    refine j_sub (lv2 := [(0, .ref (E.2.1 + v0)), (2, .int v2), (3, .int v3)]) [0, 2, 3] rfl ?_
    exact kbX10_readsFormula_64 hd hrec
  · refine j_iconst (np := 60) ci_1 dX10_readsFormula_59 rfl ?_
    refine j_goto (tgt := 64) dX10_readsFormula_60 rfl ?_
    refine j_sub (lv2 := [(0, .ref (E.2.1 + v0)), (2, .int v2), (3, .int v3)]) [0, 2, 3] rfl ?_
    exact kbX10_readsFormula_64 hd hrec
def lX10_readsFormula_9 (N : Nat) (v0 : Nat) : Nat → Int32 → Int32 → qM → Option ((Int32 × qM) ⊕ (Int32 × qM))
  | 0, _, _, _ => none
  | n + 1, v1, v2, m0 =>
    (qgI m0 v0 10 7).bind fun x1 =>
    if x1 ≤ v2 then (
    some (.inl (v1, m0))
    ) else (
    (qgR m0 v0 10 6).bind fun x2 =>
    (qaI m0 x2 12 v2).bind fun x3 =>
    (qpI m0 v0 10 9 v2).bind fun m4 =>
    if v1 = 0 then (
    some (.inr ((0 : Int32), m4))
    ) else (
    if x3 = (67 : Int32) then (
    kX10_readsFormula_52 N (lX10_readsFormula_9 N v0 n) v0 v1 v2 x3 m4
    ) else (
    (fX10_in N x3 (97 : Int32) (122 : Int32) m4).bind fun b5 =>
    if b5.1 = 0 then (
    some (.inr ((0 : Int32), b5.2))
    ) else (
    kX10_readsFormula_52 N (lX10_readsFormula_9 N v0 n) v0 v1 v2 x3 b5.2
    )
    )
    )
    )
set_option maxRecDepth 100000 in
theorem lbX10_readsFormula_9 {E : qE} {N d bc bs : Nat} (hd : 1 ≤ d) {v0 : Nat} : ∀ (n : Nat) (v1 : Int32) (v2 : Int32) (m0 : qM), qB E yX10_readsFormula cX10_readsFormula 4 (some .boolean) (fun _ => True) d bc bs 9 [(0, .ref (E.2.1 + v0)), (1, .int v1), (2, .int v2)] [] m0 (lX10_readsFormula_9 N v0 n v1 v2 m0) (qGL (fun o rr => qJ E yX10_readsFormula cX10_readsFormula 4 (some .boolean) (fun _ => True) d bc bs 103 [(0, .ref (E.2.1 + v0)), (1, .int o.1)] [] o.2 rr) (fun r => (some (.int r.1), r.2))) := by
  intro n
  induction n with
  | zero =>
    intro v1 v2 m0
    exact j_none
  | succ n ih =>
    intro v1 v2 m0
    unfold lX10_readsFormula_9
    refine j_iload_n (q := 2) (np := 10) rfl rfl dX10_readsFormula_9 rfl ?_
    refine j_aload_n (q := 0) (np := 11) rfl rfl dX10_readsFormula_10 rfl ?_
    refine j_gI (np := 14) flX10_103 dX10_readsFormula_11 rfl (fun x1 => ?_)
    refine j_icmp_ge (tgt := 103) (np := 17) dX10_readsFormula_14 rfl rfl ?_ ?_
    · refine j_sub (lv2 := [(0, .ref (E.2.1 + v0)), (1, .int v1)]) [0, 1] rfl ?_
      exact j_exit (fun rr h => h)
    · refine j_aload_n (q := 0) (np := 18) rfl rfl dX10_readsFormula_17 rfl ?_
      refine j_gR (np := 21) flX10_25 dX10_readsFormula_18 rfl (fun x2 => ?_)
      refine j_iload_n (q := 2) (np := 22) rfl rfl dX10_readsFormula_21 rfl ?_
      refine j_iaload (np := 23) dX10_readsFormula_22 rfl (fun x3 => ?_)
      refine j_istore_n (np := 24) (lv2 := [(3, .int x3), (0, .ref (E.2.1 + v0)), (1, .int v1), (2, .int v2)]) rfl (by decide) dX10_readsFormula_23 rfl rfl ?_
      refine j_aload_n (q := 1) (np := 25) rfl rfl dX10_readsFormula_24 rfl ?_
      refine j_iload_n (q := 3) (np := 26) rfl rfl dX10_readsFormula_25 rfl ?_
      refine j_pI (np := 29) flX10_112 dX10_readsFormula_26 rfl (fun m4 => ?_)
      refine j_iload_n (q := 2) (np := 30) rfl rfl dX10_readsFormula_29 rfl ?_
      refine j_if_eq (tgt := 50) (np := 33) dX10_readsFormula_30 rfl rfl ?_ ?_
      · refine j_iconst (np := 51) ci_0 dX10_readsFormula_50 rfl ?_
        exact j_zret rfl dX10_readsFormula_51 (fun rr h => by rw [z0]; exact h)
      · refine j_iload_n (q := 0) (np := 34) rfl rfl dX10_readsFormula_33 rfl ?_
        refine j_bipush (np := 36) cb_67 dX10_readsFormula_34 rfl ?_
        refine j_icmp_eq (tgt := 52) (np := 39) dX10_readsFormula_36 rfl rfl ?_ ?_
        · refine j_sub (lv2 := [(0, .ref (E.2.1 + v0)), (1, .int v1), (2, .int v2), (3, .int x3)]) [1, 2, 3, 0] rfl ?_
          exact kbX10_readsFormula_52 hd ih
        · refine j_iload_n (q := 0) (np := 40) rfl rfl dX10_readsFormula_39 rfl ?_
          refine j_bipush (np := 42) cb_97 dX10_readsFormula_40 rfl ?_
          refine j_bipush (np := 44) cb_122 dX10_readsFormula_42 rfl ?_
          refine j_callSi (np := 47) (bc := bc) (bs := bs) (cb := 0) (cs := 0) (dd := d - 1) (As := [.int x3, .int (97 : Int32), .int (122 : Int32)]) (st := []) caX10_in mlX10_99 stX10_in (fun b hb => wX10_in (by omega) hb) (by omega) rfl rfl (Nat.le_of_ble_eq_true rfl) dX10_readsFormula_44 rfl (fun b5 => ?_)
          refine j_if_ne (tgt := 52) (np := 50) dX10_readsFormula_47 rfl rfl ?_ ?_
          · refine j_sub (lv2 := [(0, .ref (E.2.1 + v0)), (1, .int v1), (2, .int v2), (3, .int x3)]) [1, 2, 3, 0] rfl ?_
            exact kbX10_readsFormula_52 hd ih
          · refine j_iconst (np := 51) ci_0 dX10_readsFormula_50 rfl ?_
            exact j_zret rfl dX10_readsFormula_51 (fun rr h => by rw [z0]; exact h)
def fX10_readsFormula (N : Nat) (v0 : Nat) (m0 : qM) : Option (Int32 × qM) :=
  (qpI m0 v0 10 27 (0 : Int32)).bind fun m1 =>
  qTh (lX10_readsFormula_9 N v0 N (1 : Int32) (0 : Int32) m1) (fun o2 =>
  (qgI o2.2 v0 10 7).bind fun x3 =>
  (qpI o2.2 v0 10 9 x3).bind fun m4 =>
  if o2.1 = 0 then (
  some ((1 : Int32), m4)
  ) else (
  some ((0 : Int32), m4)
  )
  ) (fun r => r)
set_option maxRecDepth 100000 in
theorem bX10_readsFormula {E : qE} {N d bc bs : Nat} (hd : 1 ≤ d) {v0 : Nat} {m0 : qM} : qB E yX10_readsFormula cX10_readsFormula 4 (some .boolean) (fun _ => True) d bc bs 0 [(0, .ref (E.2.1 + v0))] [] m0 (fX10_readsFormula N v0 m0) (fun b rr => rr = (some (.int b.1), b.2)) := by
  unfold fX10_readsFormula
  refine j_iconst (np := 1) ci_1 dX10_readsFormula_0 rfl ?_
  refine j_istore_n (np := 2) (lv2 := [(1, .int (1 : Int32)), (0, .ref (E.2.1 + v0))]) rfl (by decide) dX10_readsFormula_1 rfl rfl ?_
  refine j_aload_n (q := 1) (np := 3) rfl rfl dX10_readsFormula_2 rfl ?_
  refine j_iconst (np := 4) ci_0 dX10_readsFormula_3 rfl ?_
  refine j_pI (np := 7) flX10_109 dX10_readsFormula_4 rfl (fun m1 => ?_)
  refine j_iconst (np := 8) ci_0 dX10_readsFormula_7 rfl ?_
  refine j_istore_n (np := 9) (lv2 := [(2, .int (0 : Int32)), (1, .int (1 : Int32)), (0, .ref (E.2.1 + v0))]) rfl (by decide) dX10_readsFormula_8 rfl rfl ?_
  refine j_sub (lv2 := [(0, .ref (E.2.1 + v0)), (1, .int (1 : Int32)), (2, .int (0 : Int32))]) [2, 1, 0] rfl ?_
  refine j_loopG (xp := 103) (lvX := fun o2 => [(0, .ref (E.2.1 + v0)), (1, .int o2.1)]) (mX := fun o2 => o2.2) (lbX10_readsFormula_9 hd _ _ _ _) (fun r rr h => h) (fun o2 => ?_)
  refine j_aload_n (q := 0) (np := 104) rfl rfl dX10_readsFormula_103 rfl ?_
  refine j_aload_n (q := 0) (np := 105) rfl rfl dX10_readsFormula_104 rfl ?_
  refine j_gI (np := 108) flX10_103 dX10_readsFormula_105 rfl (fun x3 => ?_)
  refine j_pI (np := 111) flX10_112 dX10_readsFormula_108 rfl (fun m4 => ?_)
  refine j_iload_n (q := 1) (np := 112) rfl rfl dX10_readsFormula_111 rfl ?_
  refine j_if_ne (tgt := 119) (np := 115) dX10_readsFormula_112 rfl rfl ?_ ?_
  · refine j_iconst (np := 120) ci_0 dX10_readsFormula_119 rfl ?_
    exact j_zret rfl dX10_readsFormula_120 (fun rr h => by rw [z0]; exact h)
  · refine j_iconst (np := 116) ci_1 dX10_readsFormula_115 rfl ?_
    refine j_goto (tgt := 120) dX10_readsFormula_116 rfl ?_
    exact j_zret rfl dX10_readsFormula_120 (fun rr h => by rw [z1]; exact h)
set_option maxRecDepth 100000 in
theorem wX10_readsFormula {E : qE} {N d : Nat} (hd : 1 ≤ d) {v0 : Nat} {m0 : qM} {b : Int32 × qM} (h : fX10_readsFormula N v0 m0 = some b) : qRun E yX10_readsFormula cX10_readsFormula 4 (some .boolean) d 0 0 [.ref (E.2.1 + v0)] m0 (some (.int b.1), b.2) := q_met pnX10 (Nat.le_of_ble_eq_true rfl) (bX10_readsFormula hd b _ h rfl)
theorem dX10_names_0 : decode cX10_names 0 = .ok (.iconst 0, 1) := by decide +kernel
theorem dX10_names_1 : decode cX10_names 1 = .ok (.istore_n 1, 1) := by decide +kernel
theorem dX10_names_2 : decode cX10_names 2 = .ok (.iload_n 1, 1) := by decide +kernel
theorem dX10_names_3 : decode cX10_names 3 = .ok (.bipush 26, 2) := by decide +kernel
theorem dX10_names_5 : decode cX10_names 5 = .ok (.if_icmp .ge 16, 3) := by decide +kernel
theorem dX10_names_8 : decode cX10_names 8 = .ok (.aload_n 0, 1) := by decide +kernel
theorem dX10_names_9 : decode cX10_names 9 = .ok (.getfield 69, 3) := by decide +kernel
theorem dX10_names_12 : decode cX10_names 12 = .ok (.iload_n 1, 1) := by decide +kernel
theorem dX10_names_13 : decode cX10_names 13 = .ok (.iconst (-1), 1) := by decide +kernel
theorem dX10_names_14 : decode cX10_names 14 = .ok (.iastore, 1) := by decide +kernel
theorem dX10_names_15 : decode cX10_names 15 = .ok (.iinc 1 1, 3) := by decide +kernel
theorem dX10_names_18 : decode cX10_names 18 = .ok (.goto (-16), 3) := by decide +kernel
theorem dX10_names_21 : decode cX10_names 21 = .ok (.iconst 0, 1) := by decide +kernel
theorem dX10_names_22 : decode cX10_names 22 = .ok (.istore_n 1, 1) := by decide +kernel
theorem dX10_names_23 : decode cX10_names 23 = .ok (.iconst 0, 1) := by decide +kernel
theorem dX10_names_24 : decode cX10_names 24 = .ok (.istore_n 2, 1) := by decide +kernel
theorem dX10_names_25 : decode cX10_names 25 = .ok (.iload_n 2, 1) := by decide +kernel
theorem dX10_names_26 : decode cX10_names 26 = .ok (.aload_n 0, 1) := by decide +kernel
theorem dX10_names_27 : decode cX10_names 27 = .ok (.getfield 109, 3) := by decide +kernel
theorem dX10_names_30 : decode cX10_names 30 = .ok (.if_icmp .ge 69, 3) := by decide +kernel
theorem dX10_names_33 : decode cX10_names 33 = .ok (.aload_n 0, 1) := by decide +kernel
theorem dX10_names_34 : decode cX10_names 34 = .ok (.getfield 66, 3) := by decide +kernel
theorem dX10_names_37 : decode cX10_names 37 = .ok (.iload_n 2, 1) := by decide +kernel
theorem dX10_names_38 : decode cX10_names 38 = .ok (.iaload, 1) := by decide +kernel
theorem dX10_names_39 : decode cX10_names 39 = .ok (.bipush 99, 2) := by decide +kernel
theorem dX10_names_41 : decode cX10_names 41 = .ok (.if_icmp .ne 6, 3) := by decide +kernel
theorem dX10_names_44 : decode cX10_names 44 = .ok (.goto 49, 3) := by decide +kernel
theorem dX10_names_47 : decode cX10_names 47 = .ok (.aload_n 0, 1) := by decide +kernel
theorem dX10_names_48 : decode cX10_names 48 = .ok (.getfield 69, 3) := by decide +kernel
theorem dX10_names_51 : decode cX10_names 51 = .ok (.aload_n 0, 1) := by decide +kernel
theorem dX10_names_52 : decode cX10_names 52 = .ok (.getfield 66, 3) := by decide +kernel
theorem dX10_names_55 : decode cX10_names 55 = .ok (.iload_n 2, 1) := by decide +kernel
theorem dX10_names_56 : decode cX10_names 56 = .ok (.iaload, 1) := by decide +kernel
theorem dX10_names_57 : decode cX10_names 57 = .ok (.iaload, 1) := by decide +kernel
theorem dX10_names_58 : decode cX10_names 58 = .ok (.ifCond .ge 18, 3) := by decide +kernel
theorem dX10_names_61 : decode cX10_names 61 = .ok (.aload_n 0, 1) := by decide +kernel
theorem dX10_names_62 : decode cX10_names 62 = .ok (.getfield 69, 3) := by decide +kernel
theorem dX10_names_65 : decode cX10_names 65 = .ok (.aload_n 0, 1) := by decide +kernel
theorem dX10_names_66 : decode cX10_names 66 = .ok (.getfield 66, 3) := by decide +kernel
theorem dX10_names_69 : decode cX10_names 69 = .ok (.iload_n 2, 1) := by decide +kernel
theorem dX10_names_70 : decode cX10_names 70 = .ok (.iaload, 1) := by decide +kernel
theorem dX10_names_71 : decode cX10_names 71 = .ok (.iload_n 1, 1) := by decide +kernel
theorem dX10_names_72 : decode cX10_names 72 = .ok (.iinc 1 1, 3) := by decide +kernel
theorem dX10_names_75 : decode cX10_names 75 = .ok (.iastore, 1) := by decide +kernel
theorem dX10_names_76 : decode cX10_names 76 = .ok (.aload_n 0, 1) := by decide +kernel
theorem dX10_names_77 : decode cX10_names 77 = .ok (.getfield 66, 3) := by decide +kernel
theorem dX10_names_80 : decode cX10_names 80 = .ok (.iload_n 2, 1) := by decide +kernel
theorem dX10_names_81 : decode cX10_names 81 = .ok (.aload_n 0, 1) := by decide +kernel
theorem dX10_names_82 : decode cX10_names 82 = .ok (.getfield 69, 3) := by decide +kernel
theorem dX10_names_85 : decode cX10_names 85 = .ok (.aload_n 0, 1) := by decide +kernel
theorem dX10_names_86 : decode cX10_names 86 = .ok (.getfield 66, 3) := by decide +kernel
theorem dX10_names_89 : decode cX10_names 89 = .ok (.iload_n 2, 1) := by decide +kernel
theorem dX10_names_90 : decode cX10_names 90 = .ok (.iaload, 1) := by decide +kernel
theorem dX10_names_91 : decode cX10_names 91 = .ok (.iaload, 1) := by decide +kernel
theorem dX10_names_92 : decode cX10_names 92 = .ok (.iastore, 1) := by decide +kernel
theorem dX10_names_93 : decode cX10_names 93 = .ok (.iinc 2 1, 3) := by decide +kernel
theorem dX10_names_96 : decode cX10_names 96 = .ok (.goto (-71), 3) := by decide +kernel
theorem dX10_names_99 : decode cX10_names 99 = .ok (.aload_n 0, 1) := by decide +kernel
theorem dX10_names_100 : decode cX10_names 100 = .ok (.getfield 109, 3) := by decide +kernel
theorem dX10_names_103 : decode cX10_names 103 = .ok (.bipush 39, 2) := by decide +kernel
theorem dX10_names_105 : decode cX10_names 105 = .ok (.if_icmp .gt 13, 3) := by decide +kernel
theorem dX10_names_108 : decode cX10_names 108 = .ok (.iload_n 1, 1) := by decide +kernel
theorem dX10_names_109 : decode cX10_names 109 = .ok (.bipush 12, 2) := by decide +kernel
theorem dX10_names_111 : decode cX10_names 111 = .ok (.if_icmp .gt 7, 3) := by decide +kernel
theorem dX10_names_114 : decode cX10_names 114 = .ok (.iconst 1, 1) := by decide +kernel
theorem dX10_names_115 : decode cX10_names 115 = .ok (.goto 4, 3) := by decide +kernel
theorem dX10_names_118 : decode cX10_names 118 = .ok (.iconst 0, 1) := by decide +kernel
theorem dX10_names_119 : decode cX10_names 119 = .ok (.ireturn, 1) := by decide +kernel
def kX10_names_93 (N : Nat) (rec : Int32 → Int32 → qM → Option (Int32 × qM)) (v0 : Nat) (v1 : Int32) (v2 : Int32)  (m0 : qM) : Option (Int32 × qM) :=
  rec v1 (v2 + (1 : Int32)) m0
set_option maxRecDepth 100000 in
theorem kbX10_names_93 {E : qE} {N d bc bs : Nat} (hd : 0 ≤ d) {v0 : Nat} {v1 : Int32} {v2 : Int32}  {m0 : qM} {rec : Int32 → Int32 → qM → Option (Int32 × qM)} (hrec : ∀ (v1 : Int32) (v2 : Int32) (m : qM), qB E yX10_names cX10_names 3 (some .boolean) (fun _ => True) d bc bs 25 [(0, .ref (E.2.1 + v0)), (1, .int v1), (2, .int v2)] [] m (rec v1 v2 m) (fun o rr => qJ E yX10_names cX10_names 3 (some .boolean) (fun _ => True) d bc bs 99 [(0, .ref (E.2.1 + v0)), (1, .int o.1)] [] o.2 rr)) : qB E yX10_names cX10_names 3 (some .boolean) (fun _ => True) d bc bs 93 [(0, .ref (E.2.1 + v0)), (1, .int v1), (2, .int v2)] [] m0 (kX10_names_93 N rec v0 v1 v2 m0) (fun o rr => qJ E yX10_names cX10_names 3 (some .boolean) (fun _ => True) d bc bs 99 [(0, .ref (E.2.1 + v0)), (1, .int o.1)] [] o.2 rr) := by
  unfold kX10_names_93
  refine j_iinc (q := 2) (np := 96) (lv2 := [(2, .int (v2 + (1 : Int32))), (0, .ref (E.2.1 + v0)), (1, .int v1)]) rfl (congrArg _ ci_1) (by decide) dX10_names_93 rfl rfl ?_
  refine j_goto (tgt := 25) dX10_names_96 rfl ?_
  refine j_sub (lv2 := [(0, .ref (E.2.1 + v0)), (1, .int v1), (2, .int (v2 + (1 : Int32)))]) [1, 2, 0] rfl ?_
  exact hrec _ _ _
def kX10_names_76 (N : Nat) (rec : Int32 → Int32 → qM → Option (Int32 × qM)) (v0 : Nat) (v1 : Int32) (v2 : Int32)  (m0 : qM) : Option (Int32 × qM) :=
  (qgR m0 v0 10 26).bind fun x1 =>
  (qgR m0 v0 10 28).bind fun x2 =>
  (qgR m0 v0 10 26).bind fun x3 =>
  (qaI m0 x3 12 v2).bind fun x4 =>
  (qaI m0 x2 12 x4).bind fun x5 =>
  (qwI m0 x1 12 v2 x5).bind fun m6 =>
  kX10_names_93 N (rec) v0 v1 v2 m6
set_option maxRecDepth 100000 in
theorem kbX10_names_76 {E : qE} {N d bc bs : Nat} (hd : 0 ≤ d) {v0 : Nat} {v1 : Int32} {v2 : Int32}  {m0 : qM} {rec : Int32 → Int32 → qM → Option (Int32 × qM)} (hrec : ∀ (v1 : Int32) (v2 : Int32) (m : qM), qB E yX10_names cX10_names 3 (some .boolean) (fun _ => True) d bc bs 25 [(0, .ref (E.2.1 + v0)), (1, .int v1), (2, .int v2)] [] m (rec v1 v2 m) (fun o rr => qJ E yX10_names cX10_names 3 (some .boolean) (fun _ => True) d bc bs 99 [(0, .ref (E.2.1 + v0)), (1, .int o.1)] [] o.2 rr)) : qB E yX10_names cX10_names 3 (some .boolean) (fun _ => True) d bc bs 76 [(0, .ref (E.2.1 + v0)), (1, .int v1), (2, .int v2)] [] m0 (kX10_names_76 N rec v0 v1 v2 m0) (fun o rr => qJ E yX10_names cX10_names 3 (some .boolean) (fun _ => True) d bc bs 99 [(0, .ref (E.2.1 + v0)), (1, .int o.1)] [] o.2 rr) := by
  unfold kX10_names_76
  refine j_aload_n (q := 0) (np := 77) rfl rfl dX10_names_76 rfl ?_
  refine j_gR (np := 80) flX10_66 dX10_names_77 rfl (fun x1 => ?_)
  refine j_iload_n (q := 2) (np := 81) rfl rfl dX10_names_80 rfl ?_
  refine j_aload_n (q := 0) (np := 82) rfl rfl dX10_names_81 rfl ?_
  refine j_gR (np := 85) flX10_69 dX10_names_82 rfl (fun x2 => ?_)
  refine j_aload_n (q := 0) (np := 86) rfl rfl dX10_names_85 rfl ?_
  refine j_gR (np := 89) flX10_66 dX10_names_86 rfl (fun x3 => ?_)
  refine j_iload_n (q := 2) (np := 90) rfl rfl dX10_names_89 rfl ?_
  refine j_iaload (np := 91) dX10_names_90 rfl (fun x4 => ?_)
  refine j_iaload (np := 92) dX10_names_91 rfl (fun x5 => ?_)
  refine j_iastore (np := 93) dX10_names_92 rfl (fun m6 => ?_)
  exact kbX10_names_93 hd hrec
def lX10_names_25 (N : Nat) (v0 : Nat) : Nat → Int32 → Int32 → qM → Option (Int32 × qM)
  | 0, _, _, _ => none
  | n + 1, v1, v2, m0 =>
    (qgI m0 v0 10 27).bind fun x1 =>
    if x1 ≤ v2 then (
    some (v1, m0)
    ) else (
    (qgR m0 v0 10 26).bind fun x2 =>
    (qaI m0 x2 12 v2).bind fun x3 =>
    if x3 = (99 : Int32) then (
    kX10_names_93 N (lX10_names_25 N v0 n) v0 v1 v2 m0
    ) else (
    (qgR m0 v0 10 28).bind fun x4 =>
    (qgR m0 v0 10 26).bind fun x5 =>
    (qaI m0 x5 12 v2).bind fun x6 =>
    (qaI m0 x4 12 x6).bind fun x7 =>
    if 0 ≤ x7 then (
    kX10_names_76 N (lX10_names_25 N v0 n) v0 v1 v2 m0
    ) else (
    (qgR m0 v0 10 28).bind fun x8 =>
    (qgR m0 v0 10 26).bind fun x9 =>
    (qaI m0 x9 12 v2).bind fun x10 =>
    (qwI m0 x8 12 x10 v1).bind fun m11 =>
    kX10_names_76 N (lX10_names_25 N v0 n) v0 (v1 + (1 : Int32)) v2 m11
    )
    )
    )
set_option maxRecDepth 100000 in
theorem lbX10_names_25 {E : qE} {N d bc bs : Nat} (hd : 0 ≤ d) {v0 : Nat} : ∀ (n : Nat) (v1 : Int32) (v2 : Int32) (m0 : qM), qB E yX10_names cX10_names 3 (some .boolean) (fun _ => True) d bc bs 25 [(0, .ref (E.2.1 + v0)), (1, .int v1), (2, .int v2)] [] m0 (lX10_names_25 N v0 n v1 v2 m0) (fun o rr => qJ E yX10_names cX10_names 3 (some .boolean) (fun _ => True) d bc bs 99 [(0, .ref (E.2.1 + v0)), (1, .int o.1)] [] o.2 rr) := by
  intro n
  induction n with
  | zero =>
    intro v1 v2 m0
    exact j_none
  | succ n ih =>
    intro v1 v2 m0
    unfold lX10_names_25
    refine j_iload_n (q := 2) (np := 26) rfl rfl dX10_names_25 rfl ?_
    refine j_aload_n (q := 0) (np := 27) rfl rfl dX10_names_26 rfl ?_
    refine j_gI (np := 30) flX10_109 dX10_names_27 rfl (fun x1 => ?_)
    refine j_icmp_ge (tgt := 99) (np := 33) dX10_names_30 rfl rfl ?_ ?_
    · refine j_sub (lv2 := [(0, .ref (E.2.1 + v0)), (1, .int v1)]) [0, 1] rfl ?_
      exact j_exit (fun rr h => h)
    · refine j_aload_n (q := 0) (np := 34) rfl rfl dX10_names_33 rfl ?_
      refine j_gR (np := 37) flX10_66 dX10_names_34 rfl (fun x2 => ?_)
      refine j_iload_n (q := 2) (np := 38) rfl rfl dX10_names_37 rfl ?_
      refine j_iaload (np := 39) dX10_names_38 rfl (fun x3 => ?_)
      refine j_bipush (np := 41) cb_99 dX10_names_39 rfl ?_
      refine j_icmp_ne (tgt := 47) (np := 44) dX10_names_41 rfl rfl ?_ ?_
      · refine j_aload_n (q := 0) (np := 48) rfl rfl dX10_names_47 rfl ?_
        refine j_gR (np := 51) flX10_69 dX10_names_48 rfl (fun x4 => ?_)
        refine j_aload_n (q := 0) (np := 52) rfl rfl dX10_names_51 rfl ?_
        refine j_gR (np := 55) flX10_66 dX10_names_52 rfl (fun x5 => ?_)
        refine j_iload_n (q := 2) (np := 56) rfl rfl dX10_names_55 rfl ?_
        refine j_iaload (np := 57) dX10_names_56 rfl (fun x6 => ?_)
        refine j_iaload (np := 58) dX10_names_57 rfl (fun x7 => ?_)
        refine j_if_ge (tgt := 76) (np := 61) dX10_names_58 rfl rfl ?_ ?_
        · exact kbX10_names_76 hd ih
        · refine j_aload_n (q := 0) (np := 62) rfl rfl dX10_names_61 rfl ?_
          refine j_gR (np := 65) flX10_69 dX10_names_62 rfl (fun x8 => ?_)
          refine j_aload_n (q := 0) (np := 66) rfl rfl dX10_names_65 rfl ?_
          refine j_gR (np := 69) flX10_66 dX10_names_66 rfl (fun x9 => ?_)
          refine j_iload_n (q := 2) (np := 70) rfl rfl dX10_names_69 rfl ?_
          refine j_iaload (np := 71) dX10_names_70 rfl (fun x10 => ?_)
          refine j_iload_n (q := 1) (np := 72) rfl rfl dX10_names_71 rfl ?_
          refine j_iinc (q := 1) (np := 75) (lv2 := [(1, .int (v1 + (1 : Int32))), (0, .ref (E.2.1 + v0)), (2, .int v2)]) rfl (congrArg _ ci_1) (by decide) dX10_names_72 rfl rfl ?_
          refine j_iastore (np := 76) dX10_names_75 rfl (fun m11 => ?_)
          refine j_sub (lv2 := [(0, .ref (E.2.1 + v0)), (1, .int (v1 + (1 : Int32))), (2, .int v2)]) [1, 0, 2] rfl ?_
          exact kbX10_names_76 hd ih
      · refine j_goto (tgt := 93) dX10_names_44 rfl ?_
        exact kbX10_names_93 hd ih
def lX10_names_2 (N : Nat) (v0 : Nat) : Nat → Int32 → qM → Option (qM)
  | 0, _, _ => none
  | n + 1, v1, m0 =>
    if (26 : Int32) ≤ v1 then (
    some m0
    ) else (
    (qgR m0 v0 10 28).bind fun x1 =>
    (qwI m0 x1 12 v1 (-1 : Int32)).bind fun m2 =>
    lX10_names_2 N v0 n (v1 + (1 : Int32)) m2
    )
set_option maxRecDepth 100000 in
theorem lbX10_names_2 {E : qE} {N d bc bs : Nat} (hd : 0 ≤ d) {v0 : Nat} : ∀ (n : Nat) (v1 : Int32) (m0 : qM), qB E yX10_names cX10_names 3 (some .boolean) (fun _ => True) d bc bs 2 [(0, .ref (E.2.1 + v0)), (1, .int v1)] [] m0 (lX10_names_2 N v0 n v1 m0) (fun o rr => qJ E yX10_names cX10_names 3 (some .boolean) (fun _ => True) d bc bs 21 [(0, .ref (E.2.1 + v0))] [] o rr) := by
  intro n
  induction n with
  | zero =>
    intro v1 m0
    exact j_none
  | succ n ih =>
    intro v1 m0
    unfold lX10_names_2
    refine j_iload_n (q := 1) (np := 3) rfl rfl dX10_names_2 rfl ?_
    refine j_bipush (np := 5) cb_26 dX10_names_3 rfl ?_
    refine j_icmp_ge (tgt := 21) (np := 8) dX10_names_5 rfl rfl ?_ ?_
    · refine j_sub (lv2 := [(0, .ref (E.2.1 + v0))]) [0] rfl ?_
      exact j_exit (fun rr h => h)
    · refine j_aload_n (q := 0) (np := 9) rfl rfl dX10_names_8 rfl ?_
      refine j_gR (np := 12) flX10_69 dX10_names_9 rfl (fun x1 => ?_)
      refine j_iload_n (q := 1) (np := 13) rfl rfl dX10_names_12 rfl ?_
      refine j_iconst (np := 14) ci_m1 dX10_names_13 rfl ?_
      refine j_iastore (np := 15) dX10_names_14 rfl (fun m2 => ?_)
      refine j_iinc (q := 1) (np := 18) (lv2 := [(1, .int (v1 + (1 : Int32))), (0, .ref (E.2.1 + v0))]) rfl (congrArg _ ci_1) (by decide) dX10_names_15 rfl rfl ?_
      refine j_goto (tgt := 2) dX10_names_18 rfl ?_
      refine j_sub (lv2 := [(0, .ref (E.2.1 + v0)), (1, .int (v1 + (1 : Int32)))]) [1, 0] rfl ?_
      exact ih _ _
def fX10_names (N : Nat) (v0 : Nat) (m0 : qM) : Option (Int32 × qM) :=
  (lX10_names_2 N v0 N (0 : Int32) m0).bind fun o1 =>
  (lX10_names_25 N v0 N (0 : Int32) (0 : Int32) o1).bind fun o2 =>
  (qgI o2.2 v0 10 27).bind fun x3 =>
  if (39 : Int32) < x3 then (
  some ((0 : Int32), o2.2)
  ) else (
  if (12 : Int32) < o2.1 then (
  some ((0 : Int32), o2.2)
  ) else (
  some ((1 : Int32), o2.2)
  )
  )
set_option maxRecDepth 100000 in
theorem bX10_names {E : qE} {N d bc bs : Nat} (hd : 0 ≤ d) {v0 : Nat} {m0 : qM} : qB E yX10_names cX10_names 3 (some .boolean) (fun _ => True) d bc bs 0 [(0, .ref (E.2.1 + v0))] [] m0 (fX10_names N v0 m0) (fun b rr => rr = (some (.int b.1), b.2)) := by
  unfold fX10_names
  refine j_iconst (np := 1) ci_0 dX10_names_0 rfl ?_
  refine j_istore_n (np := 2) (lv2 := [(1, .int (0 : Int32)), (0, .ref (E.2.1 + v0))]) rfl (by decide) dX10_names_1 rfl rfl ?_
  refine j_sub (lv2 := [(0, .ref (E.2.1 + v0)), (1, .int (0 : Int32))]) [1, 0] rfl ?_
  refine j_loop (xp := 21) (lvX := fun o1 => [(0, .ref (E.2.1 + v0))]) (mX := fun o1 => o1) (lbX10_names_2 hd _ _ _) (fun o1 => ?_)
  refine j_iconst (np := 22) ci_0 dX10_names_21 rfl ?_
  refine j_istore_n (np := 23) (lv2 := [(1, .int (0 : Int32)), (0, .ref (E.2.1 + v0))]) rfl (by decide) dX10_names_22 rfl rfl ?_
  refine j_iconst (np := 24) ci_0 dX10_names_23 rfl ?_
  refine j_istore_n (np := 25) (lv2 := [(2, .int (0 : Int32)), (1, .int (0 : Int32)), (0, .ref (E.2.1 + v0))]) rfl (by decide) dX10_names_24 rfl rfl ?_
  refine j_sub (lv2 := [(0, .ref (E.2.1 + v0)), (1, .int (0 : Int32)), (2, .int (0 : Int32))]) [2, 1, 0] rfl ?_
  refine j_loop (xp := 99) (lvX := fun o2 => [(0, .ref (E.2.1 + v0)), (1, .int o2.1)]) (mX := fun o2 => o2.2) (lbX10_names_25 hd _ _ _ _) (fun o2 => ?_)
  refine j_aload_n (q := 0) (np := 100) rfl rfl dX10_names_99 rfl ?_
  refine j_gI (np := 103) flX10_109 dX10_names_100 rfl (fun x3 => ?_)
  refine j_bipush (np := 105) cb_39 dX10_names_103 rfl ?_
  refine j_icmp_gt (tgt := 118) (np := 108) dX10_names_105 rfl rfl ?_ ?_
  · refine j_iconst (np := 119) ci_0 dX10_names_118 rfl ?_
    exact j_zret rfl dX10_names_119 (fun rr h => by rw [z0]; exact h)
  · refine j_iload_n (q := 1) (np := 109) rfl rfl dX10_names_108 rfl ?_
    refine j_bipush (np := 111) cb_12 dX10_names_109 rfl ?_
    refine j_icmp_gt (tgt := 118) (np := 114) dX10_names_111 rfl rfl ?_ ?_
    · refine j_iconst (np := 119) ci_0 dX10_names_118 rfl ?_
      exact j_zret rfl dX10_names_119 (fun rr h => by rw [z0]; exact h)
    · refine j_iconst (np := 115) ci_1 dX10_names_114 rfl ?_
      refine j_goto (tgt := 119) dX10_names_115 rfl ?_
      exact j_zret rfl dX10_names_119 (fun rr h => by rw [z1]; exact h)
set_option maxRecDepth 100000 in
theorem wX10_names {E : qE} {N d : Nat} (hd : 0 ≤ d) {v0 : Nat} {m0 : qM} {b : Int32 × qM} (h : fX10_names N v0 m0 = some b) : qRun E yX10_names cX10_names 3 (some .boolean) d 0 0 [.ref (E.2.1 + v0)] m0 (some (.int b.1), b.2) := q_met pnX10 (Nat.le_of_ble_eq_true rfl) (bX10_names hd b _ h rfl)
theorem dX10_variables_0 : decode cX10_variables 0 = .ok (.iconst (-1), 1) := by decide +kernel
theorem dX10_variables_1 : decode cX10_variables 1 = .ok (.istore_n 2, 1) := by decide +kernel
theorem dX10_variables_2 : decode cX10_variables 2 = .ok (.iconst 0, 1) := by decide +kernel
theorem dX10_variables_3 : decode cX10_variables 3 = .ok (.istore_n 3, 1) := by decide +kernel
theorem dX10_variables_4 : decode cX10_variables 4 = .ok (.iload_n 3, 1) := by decide +kernel
theorem dX10_variables_5 : decode cX10_variables 5 = .ok (.aload_n 0, 1) := by decide +kernel
theorem dX10_variables_6 : decode cX10_variables 6 = .ok (.getfield 13, 3) := by decide +kernel
theorem dX10_variables_9 : decode cX10_variables 9 = .ok (.iload_n 1, 1) := by decide +kernel
theorem dX10_variables_10 : decode cX10_variables 10 = .ok (.iaload, 1) := by decide +kernel
theorem dX10_variables_11 : decode cX10_variables 11 = .ok (.if_icmp .ge 41, 3) := by decide +kernel
theorem dX10_variables_14 : decode cX10_variables 14 = .ok (.aload_n 0, 1) := by decide +kernel
theorem dX10_variables_15 : decode cX10_variables 15 = .ok (.getfield 9, 3) := by decide +kernel
theorem dX10_variables_18 : decode cX10_variables 18 = .ok (.bipush 39, 2) := by decide +kernel
theorem dX10_variables_20 : decode cX10_variables 20 = .ok (.iload_n 1, 1) := by decide +kernel
theorem dX10_variables_21 : decode cX10_variables 21 = .ok (.imul, 1) := by decide +kernel
theorem dX10_variables_22 : decode cX10_variables 22 = .ok (.iload_n 3, 1) := by decide +kernel
theorem dX10_variables_23 : decode cX10_variables 23 = .ok (.iadd, 1) := by decide +kernel
theorem dX10_variables_24 : decode cX10_variables 24 = .ok (.iaload, 1) := by decide +kernel
theorem dX10_variables_25 : decode cX10_variables 25 = .ok (.bipush 99, 2) := by decide +kernel
theorem dX10_variables_27 : decode cX10_variables 27 = .ok (.if_icmp .eq 19, 3) := by decide +kernel
theorem dX10_variables_30 : decode cX10_variables 30 = .ok (.iload_n 2, 1) := by decide +kernel
theorem dX10_variables_31 : decode cX10_variables 31 = .ok (.aload_n 0, 1) := by decide +kernel
theorem dX10_variables_32 : decode cX10_variables 32 = .ok (.getfield 9, 3) := by decide +kernel
theorem dX10_variables_35 : decode cX10_variables 35 = .ok (.bipush 39, 2) := by decide +kernel
theorem dX10_variables_37 : decode cX10_variables 37 = .ok (.iload_n 1, 1) := by decide +kernel
theorem dX10_variables_38 : decode cX10_variables 38 = .ok (.imul, 1) := by decide +kernel
theorem dX10_variables_39 : decode cX10_variables 39 = .ok (.iload_n 3, 1) := by decide +kernel
theorem dX10_variables_40 : decode cX10_variables 40 = .ok (.iadd, 1) := by decide +kernel
theorem dX10_variables_41 : decode cX10_variables 41 = .ok (.iaload, 1) := by decide +kernel
theorem dX10_variables_42 : decode cX10_variables 42 = .ok (.invokestatic 115, 3) := by decide +kernel
theorem dX10_variables_45 : decode cX10_variables 45 = .ok (.istore_n 2, 1) := by decide +kernel
theorem dX10_variables_46 : decode cX10_variables 46 = .ok (.iinc 3 1, 3) := by decide +kernel
theorem dX10_variables_49 : decode cX10_variables 49 = .ok (.goto (-45), 3) := by decide +kernel
theorem dX10_variables_52 : decode cX10_variables 52 = .ok (.iload_n 2, 1) := by decide +kernel
theorem dX10_variables_53 : decode cX10_variables 53 = .ok (.iconst 1, 1) := by decide +kernel
theorem dX10_variables_54 : decode cX10_variables 54 = .ok (.iadd, 1) := by decide +kernel
theorem dX10_variables_55 : decode cX10_variables 55 = .ok (.ireturn, 1) := by decide +kernel
def kX10_variables_46 (N : Nat) (rec : Int32 → Int32 → qM → Option (Int32 × qM)) (v0 : Nat) (v1 : Int32) (v2 : Int32) (v3 : Int32)  (m0 : qM) : Option (Int32 × qM) :=
  rec v2 (v3 + (1 : Int32)) m0
set_option maxRecDepth 100000 in
theorem kbX10_variables_46 {E : qE} {N d bc bs : Nat} (hd : 1 ≤ d) {v0 : Nat} {v1 : Int32} {v2 : Int32} {v3 : Int32}  {m0 : qM} {rec : Int32 → Int32 → qM → Option (Int32 × qM)} (hrec : ∀ (v2 : Int32) (v3 : Int32) (m : qM), qB E yX10_variables cX10_variables 4 (some .int) (fun _ => True) d bc bs 4 [(0, .ref (E.2.1 + v0)), (1, .int v1), (2, .int v2), (3, .int v3)] [] m (rec v2 v3 m) (fun o rr => qJ E yX10_variables cX10_variables 4 (some .int) (fun _ => True) d bc bs 52 [(2, .int o.1)] [] o.2 rr)) : qB E yX10_variables cX10_variables 4 (some .int) (fun _ => True) d bc bs 46 [(0, .ref (E.2.1 + v0)), (1, .int v1), (2, .int v2), (3, .int v3)] [] m0 (kX10_variables_46 N rec v0 v1 v2 v3 m0) (fun o rr => qJ E yX10_variables cX10_variables 4 (some .int) (fun _ => True) d bc bs 52 [(2, .int o.1)] [] o.2 rr) := by
  unfold kX10_variables_46
  refine j_iinc (q := 3) (np := 49) (lv2 := [(3, .int (v3 + (1 : Int32))), (0, .ref (E.2.1 + v0)), (1, .int v1), (2, .int v2)]) rfl (congrArg _ ci_1) (by decide) dX10_variables_46 rfl rfl ?_
  refine j_goto (tgt := 4) dX10_variables_49 rfl ?_
  refine j_sub (lv2 := [(0, .ref (E.2.1 + v0)), (1, .int v1), (2, .int v2), (3, .int (v3 + (1 : Int32)))]) [1, 2, 3, 0] rfl ?_
  exact hrec _ _ _
def lX10_variables_4 (N : Nat) (v0 : Nat) (v1 : Int32) : Nat → Int32 → Int32 → qM → Option (Int32 × qM)
  | 0, _, _, _ => none
  | n + 1, v2, v3, m0 =>
    (qgR m0 v0 10 1).bind fun x1 =>
    (qaI m0 x1 12 v1).bind fun x2 =>
    if x2 ≤ v3 then (
    some (v2, m0)
    ) else (
    (qgR m0 v0 10 0).bind fun x3 =>
    (qaI m0 x3 12 (((39 : Int32) * v1) + v3)).bind fun x4 =>
    if x4 = (99 : Int32) then (
    kX10_variables_46 N (lX10_variables_4 N v0 v1 n) v0 v1 v2 v3 m0
    ) else (
    (qgR m0 v0 10 0).bind fun x5 =>
    (qaI m0 x5 12 (((39 : Int32) * v1) + v3)).bind fun x6 =>
    kX10_variables_46 N (lX10_variables_4 N v0 v1 n) v0 v1 (if v2 < x6 then x6 else v2) v3 m0
    )
    )
set_option maxRecDepth 100000 in
theorem lbX10_variables_4 {E : qE} {N d bc bs : Nat} (hd : 1 ≤ d) {v0 : Nat} {v1 : Int32} : ∀ (n : Nat) (v2 : Int32) (v3 : Int32) (m0 : qM), qB E yX10_variables cX10_variables 4 (some .int) (fun _ => True) d bc bs 4 [(0, .ref (E.2.1 + v0)), (1, .int v1), (2, .int v2), (3, .int v3)] [] m0 (lX10_variables_4 N v0 v1 n v2 v3 m0) (fun o rr => qJ E yX10_variables cX10_variables 4 (some .int) (fun _ => True) d bc bs 52 [(2, .int o.1)] [] o.2 rr) := by
  intro n
  induction n with
  | zero =>
    intro v2 v3 m0
    exact j_none
  | succ n ih =>
    intro v2 v3 m0
    unfold lX10_variables_4
    refine j_iload_n (q := 3) (np := 5) rfl rfl dX10_variables_4 rfl ?_
    refine j_aload_n (q := 0) (np := 6) rfl rfl dX10_variables_5 rfl ?_
    refine j_gR (np := 9) flX10_13 dX10_variables_6 rfl (fun x1 => ?_)
    refine j_iload_n (q := 1) (np := 10) rfl rfl dX10_variables_9 rfl ?_
    refine j_iaload (np := 11) dX10_variables_10 rfl (fun x2 => ?_)
    refine j_icmp_ge (tgt := 52) (np := 14) dX10_variables_11 rfl rfl ?_ ?_
    · refine j_sub (lv2 := [(2, .int v2)]) [2] rfl ?_
      exact j_exit (fun rr h => h)
    · refine j_aload_n (q := 0) (np := 15) rfl rfl dX10_variables_14 rfl ?_
      refine j_gR (np := 18) flX10_9 dX10_variables_15 rfl (fun x3 => ?_)
      refine j_bipush (np := 20) cb_39 dX10_variables_18 rfl ?_
      refine j_iload_n (q := 1) (np := 21) rfl rfl dX10_variables_20 rfl ?_
      refine j_imul (np := 22) dX10_variables_21 rfl ?_
      refine j_iload_n (q := 3) (np := 23) rfl rfl dX10_variables_22 rfl ?_
      refine j_iadd (np := 24) dX10_variables_23 rfl ?_
      refine j_iaload (np := 25) dX10_variables_24 rfl (fun x4 => ?_)
      refine j_bipush (np := 27) cb_99 dX10_variables_25 rfl ?_
      refine j_icmp_eq (tgt := 46) (np := 30) dX10_variables_27 rfl rfl ?_ ?_
      · exact kbX10_variables_46 hd ih
      · refine j_iload_n (q := 2) (np := 31) rfl rfl dX10_variables_30 rfl ?_
        refine j_aload_n (q := 0) (np := 32) rfl rfl dX10_variables_31 rfl ?_
        refine j_gR (np := 35) flX10_9 dX10_variables_32 rfl (fun x5 => ?_)
        refine j_bipush (np := 37) cb_39 dX10_variables_35 rfl ?_
        refine j_iload_n (q := 1) (np := 38) rfl rfl dX10_variables_37 rfl ?_
        refine j_imul (np := 39) dX10_variables_38 rfl ?_
        refine j_iload_n (q := 3) (np := 40) rfl rfl dX10_variables_39 rfl ?_
        refine j_iadd (np := 41) dX10_variables_40 rfl ?_
        refine j_iaload (np := 42) dX10_variables_41 rfl (fun x6 => ?_)
        refine j_max (np := 45) mlX10_115 stmax inMath cdmax (by omega) (Nat.le_of_ble_eq_true rfl) dX10_variables_42 rfl ?_
        refine j_istore_n (np := 46) (lv2 := [(2, .int (if v2 < x6 then x6 else v2)), (0, .ref (E.2.1 + v0)), (1, .int v1), (3, .int v3)]) rfl (by decide) dX10_variables_45 rfl rfl ?_
        refine j_sub (lv2 := [(0, .ref (E.2.1 + v0)), (1, .int v1), (2, .int (if v2 < x6 then x6 else v2)), (3, .int v3)]) [1, 2, 0, 3] rfl ?_
        exact kbX10_variables_46 hd ih
def fX10_variables (N : Nat) (v0 : Nat) (v1 : Int32) (m0 : qM) : Option (Int32 × qM) :=
  (lX10_variables_4 N v0 v1 N (-1 : Int32) (0 : Int32) m0).bind fun o1 =>
  some (o1.1 + (1 : Int32), o1.2)
set_option maxRecDepth 100000 in
theorem bX10_variables {E : qE} {N d bc bs : Nat} (hd : 1 ≤ d) {v0 : Nat} {v1 : Int32} {m0 : qM} : qB E yX10_variables cX10_variables 4 (some .int) (fun _ => True) d bc bs 0 [(0, .ref (E.2.1 + v0)), (1, .int v1)] [] m0 (fX10_variables N v0 v1 m0) (fun b rr => rr = (some (.int b.1), b.2)) := by
  unfold fX10_variables
  refine j_iconst (np := 1) ci_m1 dX10_variables_0 rfl ?_
  refine j_istore_n (np := 2) (lv2 := [(2, .int (-1 : Int32)), (0, .ref (E.2.1 + v0)), (1, .int v1)]) rfl (by decide) dX10_variables_1 rfl rfl ?_
  refine j_iconst (np := 3) ci_0 dX10_variables_2 rfl ?_
  refine j_istore_n (np := 4) (lv2 := [(3, .int (0 : Int32)), (2, .int (-1 : Int32)), (0, .ref (E.2.1 + v0)), (1, .int v1)]) rfl (by decide) dX10_variables_3 rfl rfl ?_
  refine j_sub (lv2 := [(0, .ref (E.2.1 + v0)), (1, .int v1), (2, .int (-1 : Int32)), (3, .int (0 : Int32))]) [2, 3, 1, 0] rfl ?_
  refine j_loop (xp := 52) (lvX := fun o1 => [(2, .int o1.1)]) (mX := fun o1 => o1.2) (lbX10_variables_4 hd _ _ _ _) (fun o1 => ?_)
  refine j_iload_n (q := 0) (np := 53) rfl rfl dX10_variables_52 rfl ?_
  refine j_iconst (np := 54) ci_1 dX10_variables_53 rfl ?_
  refine j_iadd (np := 55) dX10_variables_54 rfl ?_
  exact j_iret rfl dX10_variables_55 (fun rr h => h)
set_option maxRecDepth 100000 in
theorem wX10_variables {E : qE} {N d : Nat} (hd : 1 ≤ d) {v0 : Nat} {v1 : Int32} {m0 : qM} {b : Int32 × qM} (h : fX10_variables N v0 v1 m0 = some b) : qRun E yX10_variables cX10_variables 4 (some .int) d 0 0 [.ref (E.2.1 + v0), .int v1] m0 (some (.int b.1), b.2) := q_met pnX10 (Nat.le_of_ble_eq_true rfl) (bX10_variables hd b _ h rfl)
theorem dX10_place_0 : decode cX10_place 0 = .ok (.iload_n 1, 1) := by decide +kernel
theorem dX10_place_1 : decode cX10_place 1 = .ok (.istore_n 3, 1) := by decide +kernel
theorem dX10_place_2 : decode cX10_place 2 = .ok (.iload_n 3, 1) := by decide +kernel
theorem dX10_place_3 : decode cX10_place 3 = .ok (.iload_n 2, 1) := by decide +kernel
theorem dX10_place_4 : decode cX10_place 4 = .ok (.if_icmp .ge 88, 3) := by decide +kernel
theorem dX10_place_7 : decode cX10_place 7 = .ok (.aload_n 0, 1) := by decide +kernel
theorem dX10_place_8 : decode cX10_place 8 = .ok (.getfield 13, 3) := by decide +kernel
theorem dX10_place_11 : decode cX10_place 11 = .ok (.iload_n 3, 1) := by decide +kernel
theorem dX10_place_12 : decode cX10_place 12 = .ok (.iaload, 1) := by decide +kernel
theorem dX10_place_13 : decode cX10_place 13 = .ok (.aload_n 0, 1) := by decide +kernel
theorem dX10_place_14 : decode cX10_place 14 = .ok (.getfield 109, 3) := by decide +kernel
theorem dX10_place_17 : decode cX10_place 17 = .ok (.if_icmp .ne 7, 3) := by decide +kernel
theorem dX10_place_20 : decode cX10_place 20 = .ok (.iconst 1, 1) := by decide +kernel
theorem dX10_place_21 : decode cX10_place 21 = .ok (.goto 4, 3) := by decide +kernel
theorem dX10_place_24 : decode cX10_place 24 = .ok (.iconst 0, 1) := by decide +kernel
theorem dX10_place_25 : decode cX10_place 25 = .ok (.istore 4, 2) := by decide +kernel
theorem dX10_place_27 : decode cX10_place 27 = .ok (.iconst 0, 1) := by decide +kernel
theorem dX10_place_28 : decode cX10_place 28 = .ok (.istore 5, 2) := by decide +kernel
theorem dX10_place_30 : decode cX10_place 30 = .ok (.iload 5, 2) := by decide +kernel
theorem dX10_place_32 : decode cX10_place 32 = .ok (.aload_n 0, 1) := by decide +kernel
theorem dX10_place_33 : decode cX10_place 33 = .ok (.getfield 109, 3) := by decide +kernel
theorem dX10_place_36 : decode cX10_place 36 = .ok (.if_icmp .ge 43, 3) := by decide +kernel
theorem dX10_place_39 : decode cX10_place 39 = .ok (.iload 4, 2) := by decide +kernel
theorem dX10_place_41 : decode cX10_place 41 = .ok (.ifCond .eq 38, 3) := by decide +kernel
theorem dX10_place_44 : decode cX10_place 44 = .ok (.aload_n 0, 1) := by decide +kernel
theorem dX10_place_45 : decode cX10_place 45 = .ok (.getfield 9, 3) := by decide +kernel
theorem dX10_place_48 : decode cX10_place 48 = .ok (.bipush 39, 2) := by decide +kernel
theorem dX10_place_50 : decode cX10_place 50 = .ok (.iload_n 3, 1) := by decide +kernel
theorem dX10_place_51 : decode cX10_place 51 = .ok (.imul, 1) := by decide +kernel
theorem dX10_place_52 : decode cX10_place 52 = .ok (.iload 5, 2) := by decide +kernel
theorem dX10_place_54 : decode cX10_place 54 = .ok (.iadd, 1) := by decide +kernel
theorem dX10_place_55 : decode cX10_place 55 = .ok (.iaload, 1) := by decide +kernel
theorem dX10_place_56 : decode cX10_place 56 = .ok (.aload_n 0, 1) := by decide +kernel
theorem dX10_place_57 : decode cX10_place 57 = .ok (.getfield 66, 3) := by decide +kernel
theorem dX10_place_60 : decode cX10_place 60 = .ok (.iload 5, 2) := by decide +kernel
theorem dX10_place_62 : decode cX10_place 62 = .ok (.iaload, 1) := by decide +kernel
theorem dX10_place_63 : decode cX10_place 63 = .ok (.if_icmp .ne 7, 3) := by decide +kernel
theorem dX10_place_66 : decode cX10_place 66 = .ok (.iconst 1, 1) := by decide +kernel
theorem dX10_place_67 : decode cX10_place 67 = .ok (.goto 4, 3) := by decide +kernel
theorem dX10_place_70 : decode cX10_place 70 = .ok (.iconst 0, 1) := by decide +kernel
theorem dX10_place_71 : decode cX10_place 71 = .ok (.istore 4, 2) := by decide +kernel
theorem dX10_place_73 : decode cX10_place 73 = .ok (.iinc 5 1, 3) := by decide +kernel
theorem dX10_place_76 : decode cX10_place 76 = .ok (.goto (-46), 3) := by decide +kernel
theorem dX10_place_79 : decode cX10_place 79 = .ok (.iload 4, 2) := by decide +kernel
theorem dX10_place_81 : decode cX10_place 81 = .ok (.ifCond .eq 5, 3) := by decide +kernel
theorem dX10_place_84 : decode cX10_place 84 = .ok (.iload_n 3, 1) := by decide +kernel
theorem dX10_place_85 : decode cX10_place 85 = .ok (.ireturn, 1) := by decide +kernel
theorem dX10_place_86 : decode cX10_place 86 = .ok (.iinc 3 1, 3) := by decide +kernel
theorem dX10_place_89 : decode cX10_place 89 = .ok (.goto (-87), 3) := by decide +kernel
theorem dX10_place_92 : decode cX10_place 92 = .ok (.iconst (-1), 1) := by decide +kernel
theorem dX10_place_93 : decode cX10_place 93 = .ok (.ireturn, 1) := by decide +kernel
def kX10_place_71 (N : Nat) (rec : Int32 → Int32 → qM → Option (Int32 × qM)) (v0 : Nat) (v2 : Int32) (v3 : Int32) (v5 : Int32) (s0 : Int32) (m0 : qM) : Option (Int32 × qM) :=
  rec s0 (v5 + (1 : Int32)) m0
set_option maxRecDepth 100000 in
theorem kbX10_place_71 {E : qE} {N d bc bs : Nat} (hd : 0 ≤ d) {v0 : Nat} {v2 : Int32} {v3 : Int32} {v5 : Int32} {s0 : Int32} {m0 : qM} {rec : Int32 → Int32 → qM → Option (Int32 × qM)} (hrec : ∀ (v4 : Int32) (v5 : Int32) (m : qM), qB E yX10_place cX10_place 6 (some .int) (fun _ => True) d bc bs 30 [(0, .ref (E.2.1 + v0)), (2, .int v2), (3, .int v3), (4, .int v4), (5, .int v5)] [] m (rec v4 v5 m) (fun o rr => qJ E yX10_place cX10_place 6 (some .int) (fun _ => True) d bc bs 79 [(0, .ref (E.2.1 + v0)), (2, .int v2), (3, .int v3), (4, .int o.1)] [] o.2 rr)) : qB E yX10_place cX10_place 6 (some .int) (fun _ => True) d bc bs 71 [(0, .ref (E.2.1 + v0)), (2, .int v2), (3, .int v3), (5, .int v5)] [.int s0] m0 (kX10_place_71 N rec v0 v2 v3 v5 s0 m0) (fun o rr => qJ E yX10_place cX10_place 6 (some .int) (fun _ => True) d bc bs 79 [(0, .ref (E.2.1 + v0)), (2, .int v2), (3, .int v3), (4, .int o.1)] [] o.2 rr) := by
  unfold kX10_place_71
  refine j_istore (np := 73) (lv2 := [(4, .int s0), (0, .ref (E.2.1 + v0)), (2, .int v2), (3, .int v3), (5, .int v5)]) (by decide) dX10_place_71 rfl rfl ?_
  refine j_iinc (q := 4) (np := 76) (lv2 := [(5, .int (v5 + (1 : Int32))), (4, .int s0), (0, .ref (E.2.1 + v0)), (2, .int v2), (3, .int v3)]) rfl (congrArg _ ci_1) (by decide) dX10_place_73 rfl rfl ?_
  refine j_goto (tgt := 30) dX10_place_76 rfl ?_
  refine j_sub (lv2 := [(0, .ref (E.2.1 + v0)), (2, .int v2), (3, .int v3), (4, .int s0), (5, .int (v5 + (1 : Int32)))]) [2, 3, 4, 1, 0] rfl ?_
  exact hrec _ _ _
def lX10_place_30 (N : Nat) (v0 : Nat) (v2 : Int32) (v3 : Int32) : Nat → Int32 → Int32 → qM → Option (Int32 × qM)
  | 0, _, _, _ => none
  | n + 1, v4, v5, m0 =>
    (qgI m0 v0 10 27).bind fun x1 =>
    if x1 ≤ v5 then (
    some (v4, m0)
    ) else (
    if v4 = 0 then (
    some (v4, m0)
    ) else (
    (qgR m0 v0 10 0).bind fun x2 =>
    (qaI m0 x2 12 (((39 : Int32) * v3) + v5)).bind fun x3 =>
    (qgR m0 v0 10 26).bind fun x4 =>
    (qaI m0 x4 12 v5).bind fun x5 =>
    if x3 = x5 then (
    kX10_place_71 N (lX10_place_30 N v0 v2 v3 n) v0 v2 v3 v5 (1 : Int32) m0
    ) else (
    kX10_place_71 N (lX10_place_30 N v0 v2 v3 n) v0 v2 v3 v5 (0 : Int32) m0
    )
    )
    )
set_option maxRecDepth 100000 in
theorem lbX10_place_30 {E : qE} {N d bc bs : Nat} (hd : 0 ≤ d) {v0 : Nat} {v2 : Int32} {v3 : Int32} : ∀ (n : Nat) (v4 : Int32) (v5 : Int32) (m0 : qM), qB E yX10_place cX10_place 6 (some .int) (fun _ => True) d bc bs 30 [(0, .ref (E.2.1 + v0)), (2, .int v2), (3, .int v3), (4, .int v4), (5, .int v5)] [] m0 (lX10_place_30 N v0 v2 v3 n v4 v5 m0) (fun o rr => qJ E yX10_place cX10_place 6 (some .int) (fun _ => True) d bc bs 79 [(0, .ref (E.2.1 + v0)), (2, .int v2), (3, .int v3), (4, .int o.1)] [] o.2 rr) := by
  intro n
  induction n with
  | zero =>
    intro v4 v5 m0
    exact j_none
  | succ n ih =>
    intro v4 v5 m0
    unfold lX10_place_30
    refine j_iload (q := 4) (np := 32) rfl dX10_place_30 rfl ?_
    refine j_aload_n (q := 0) (np := 33) rfl rfl dX10_place_32 rfl ?_
    refine j_gI (np := 36) flX10_109 dX10_place_33 rfl (fun x1 => ?_)
    refine j_icmp_ge (tgt := 79) (np := 39) dX10_place_36 rfl rfl ?_ ?_
    · refine j_sub (lv2 := [(0, .ref (E.2.1 + v0)), (2, .int v2), (3, .int v3), (4, .int v4)]) [0, 1, 2, 3] rfl ?_
      exact j_exit (fun rr h => h)
    · refine j_iload (q := 3) (np := 41) rfl dX10_place_39 rfl ?_
      refine j_if_eq (tgt := 79) (np := 44) dX10_place_41 rfl rfl ?_ ?_
      · refine j_sub (lv2 := [(0, .ref (E.2.1 + v0)), (2, .int v2), (3, .int v3), (4, .int v4)]) [0, 1, 2, 3] rfl ?_
        exact j_exit (fun rr h => h)
      · refine j_aload_n (q := 0) (np := 45) rfl rfl dX10_place_44 rfl ?_
        refine j_gR (np := 48) flX10_9 dX10_place_45 rfl (fun x2 => ?_)
        refine j_bipush (np := 50) cb_39 dX10_place_48 rfl ?_
        refine j_iload_n (q := 2) (np := 51) rfl rfl dX10_place_50 rfl ?_
        refine j_imul (np := 52) dX10_place_51 rfl ?_
        refine j_iload (q := 4) (np := 54) rfl dX10_place_52 rfl ?_
        refine j_iadd (np := 55) dX10_place_54 rfl ?_
        refine j_iaload (np := 56) dX10_place_55 rfl (fun x3 => ?_)
        refine j_aload_n (q := 0) (np := 57) rfl rfl dX10_place_56 rfl ?_
        refine j_gR (np := 60) flX10_66 dX10_place_57 rfl (fun x4 => ?_)
        refine j_iload (q := 4) (np := 62) rfl dX10_place_60 rfl ?_
        refine j_iaload (np := 63) dX10_place_62 rfl (fun x5 => ?_)
        refine j_icmp_ne (tgt := 70) (np := 66) dX10_place_63 rfl rfl ?_ ?_
        · refine j_iconst (np := 71) ci_0 dX10_place_70 rfl ?_
          refine j_sub (lv2 := [(0, .ref (E.2.1 + v0)), (2, .int v2), (3, .int v3), (5, .int v5)]) [0, 1, 2, 4] rfl ?_
          exact kbX10_place_71 hd ih
        · refine j_iconst (np := 67) ci_1 dX10_place_66 rfl ?_
          refine j_goto (tgt := 71) dX10_place_67 rfl ?_
          refine j_sub (lv2 := [(0, .ref (E.2.1 + v0)), (2, .int v2), (3, .int v3), (5, .int v5)]) [0, 1, 2, 4] rfl ?_
          exact kbX10_place_71 hd ih
def kX10_place_25 (N : Nat) (rec : Int32 → qM → Option ((qM) ⊕ (Int32 × qM))) (v0 : Nat) (v2 : Int32) (v3 : Int32) (s0 : Int32) (m0 : qM) : Option ((qM) ⊕ (Int32 × qM)) :=
  (lX10_place_30 N v0 v2 v3 N s0 (0 : Int32) m0).bind fun o1 =>
  if o1.1 = 0 then (
  rec (v3 + (1 : Int32)) o1.2
  ) else (
  some (.inr (v3, o1.2))
  )
set_option maxRecDepth 100000 in
theorem kbX10_place_25 {E : qE} {N d bc bs : Nat} (hd : 0 ≤ d) {v0 : Nat} {v2 : Int32} {v3 : Int32} {s0 : Int32} {m0 : qM} {rec : Int32 → qM → Option ((qM) ⊕ (Int32 × qM))} (hrec : ∀ (v3 : Int32) (m : qM), qB E yX10_place cX10_place 6 (some .int) (fun _ => True) d bc bs 2 [(0, .ref (E.2.1 + v0)), (2, .int v2), (3, .int v3)] [] m (rec v3 m) (qGL (fun o rr => qJ E yX10_place cX10_place 6 (some .int) (fun _ => True) d bc bs 92 [] [] o rr) (fun r => (some (.int r.1), r.2)))) : qB E yX10_place cX10_place 6 (some .int) (fun _ => True) d bc bs 25 [(0, .ref (E.2.1 + v0)), (2, .int v2), (3, .int v3)] [.int s0] m0 (kX10_place_25 N rec v0 v2 v3 s0 m0) (qGL (fun o rr => qJ E yX10_place cX10_place 6 (some .int) (fun _ => True) d bc bs 92 [] [] o rr) (fun r => (some (.int r.1), r.2))) := by
  unfold kX10_place_25
  refine j_istore (np := 27) (lv2 := [(4, .int s0), (0, .ref (E.2.1 + v0)), (2, .int v2), (3, .int v3)]) (by decide) dX10_place_25 rfl rfl ?_
  refine j_iconst (np := 28) ci_0 dX10_place_27 rfl ?_
  refine j_istore (np := 30) (lv2 := [(5, .int (0 : Int32)), (4, .int s0), (0, .ref (E.2.1 + v0)), (2, .int v2), (3, .int v3)]) (by decide) dX10_place_28 rfl rfl ?_
  refine j_sub (lv2 := [(0, .ref (E.2.1 + v0)), (2, .int v2), (3, .int v3), (4, .int s0), (5, .int (0 : Int32))]) [2, 3, 4, 1, 0] rfl ?_
  refine j_loop (xp := 79) (lvX := fun o1 => [(0, .ref (E.2.1 + v0)), (2, .int v2), (3, .int v3), (4, .int o1.1)]) (mX := fun o1 => o1.2) (lbX10_place_30 hd _ _ _ _) (fun o1 => ?_)
  refine j_iload (q := 3) (np := 81) rfl dX10_place_79 rfl ?_
  refine j_if_eq (tgt := 86) (np := 84) dX10_place_81 rfl rfl ?_ ?_
  · refine j_iinc (q := 2) (np := 89) (lv2 := [(3, .int (v3 + (1 : Int32))), (0, .ref (E.2.1 + v0)), (2, .int v2), (4, .int o1.1)]) rfl (congrArg _ ci_1) (by decide) dX10_place_86 rfl rfl ?_
    refine j_goto (tgt := 2) dX10_place_89 rfl ?_
    refine j_sub (lv2 := [(0, .ref (E.2.1 + v0)), (2, .int v2), (3, .int (v3 + (1 : Int32)))]) [1, 2, 0] rfl ?_
    exact hrec _ _
  · refine j_iload_n (q := 2) (np := 85) rfl rfl dX10_place_84 rfl ?_
    exact j_iret rfl dX10_place_85 (fun rr h => h)
def lX10_place_2 (N : Nat) (v0 : Nat) (v2 : Int32) : Nat → Int32 → qM → Option ((qM) ⊕ (Int32 × qM))
  | 0, _, _ => none
  | n + 1, v3, m0 =>
    if v2 ≤ v3 then (
    some (.inl m0)
    ) else (
    (qgR m0 v0 10 1).bind fun x1 =>
    (qaI m0 x1 12 v3).bind fun x2 =>
    (qgI m0 v0 10 27).bind fun x3 =>
    if x2 = x3 then (
    kX10_place_25 N (lX10_place_2 N v0 v2 n) v0 v2 v3 (1 : Int32) m0
    ) else (
    kX10_place_25 N (lX10_place_2 N v0 v2 n) v0 v2 v3 (0 : Int32) m0
    )
    )
set_option maxRecDepth 100000 in
theorem lbX10_place_2 {E : qE} {N d bc bs : Nat} (hd : 0 ≤ d) {v0 : Nat} {v2 : Int32} : ∀ (n : Nat) (v3 : Int32) (m0 : qM), qB E yX10_place cX10_place 6 (some .int) (fun _ => True) d bc bs 2 [(0, .ref (E.2.1 + v0)), (2, .int v2), (3, .int v3)] [] m0 (lX10_place_2 N v0 v2 n v3 m0) (qGL (fun o rr => qJ E yX10_place cX10_place 6 (some .int) (fun _ => True) d bc bs 92 [] [] o rr) (fun r => (some (.int r.1), r.2))) := by
  intro n
  induction n with
  | zero =>
    intro v3 m0
    exact j_none
  | succ n ih =>
    intro v3 m0
    unfold lX10_place_2
    refine j_iload_n (q := 2) (np := 3) rfl rfl dX10_place_2 rfl ?_
    refine j_iload_n (q := 1) (np := 4) rfl rfl dX10_place_3 rfl ?_
    refine j_icmp_ge (tgt := 92) (np := 7) dX10_place_4 rfl rfl ?_ ?_
    · refine j_sub (lv2 := []) [] rfl ?_
      exact j_exit (fun rr h => h)
    · refine j_aload_n (q := 0) (np := 8) rfl rfl dX10_place_7 rfl ?_
      refine j_gR (np := 11) flX10_13 dX10_place_8 rfl (fun x1 => ?_)
      refine j_iload_n (q := 2) (np := 12) rfl rfl dX10_place_11 rfl ?_
      refine j_iaload (np := 13) dX10_place_12 rfl (fun x2 => ?_)
      refine j_aload_n (q := 0) (np := 14) rfl rfl dX10_place_13 rfl ?_
      refine j_gI (np := 17) flX10_109 dX10_place_14 rfl (fun x3 => ?_)
      refine j_icmp_ne (tgt := 24) (np := 20) dX10_place_17 rfl rfl ?_ ?_
      · refine j_iconst (np := 25) ci_0 dX10_place_24 rfl ?_
        exact kbX10_place_25 hd ih
      · refine j_iconst (np := 21) ci_1 dX10_place_20 rfl ?_
        refine j_goto (tgt := 25) dX10_place_21 rfl ?_
        exact kbX10_place_25 hd ih
def fX10_place (N : Nat) (v0 : Nat) (v1 : Int32) (v2 : Int32) (m0 : qM) : Option (Int32 × qM) :=
  qTh (lX10_place_2 N v0 v2 N v1 m0) (fun o1 =>
  some ((-1 : Int32), o1)
  ) (fun r => r)
set_option maxRecDepth 100000 in
theorem bX10_place {E : qE} {N d bc bs : Nat} (hd : 0 ≤ d) {v0 : Nat} {v1 : Int32} {v2 : Int32} {m0 : qM} : qB E yX10_place cX10_place 6 (some .int) (fun _ => True) d bc bs 0 [(0, .ref (E.2.1 + v0)), (1, .int v1), (2, .int v2)] [] m0 (fX10_place N v0 v1 v2 m0) (fun b rr => rr = (some (.int b.1), b.2)) := by
  unfold fX10_place
  refine j_iload_n (q := 1) (np := 1) rfl rfl dX10_place_0 rfl ?_
  refine j_istore_n (np := 2) (lv2 := [(3, .int v1), (0, .ref (E.2.1 + v0)), (1, .int v1), (2, .int v2)]) rfl (by decide) dX10_place_1 rfl rfl ?_
  refine j_sub (lv2 := [(0, .ref (E.2.1 + v0)), (2, .int v2), (3, .int v1)]) [1, 3, 0] rfl ?_
  refine j_loopG (xp := 92) (lvX := fun o1 => []) (mX := fun o1 => o1) (lbX10_place_2 hd _ _ _) (fun r rr h => h) (fun o1 => ?_)
  refine j_iconst (np := 93) ci_m1 dX10_place_92 rfl ?_
  exact j_iret rfl dX10_place_93 (fun rr h => h)
set_option maxRecDepth 100000 in
theorem wX10_place {E : qE} {N d : Nat} (hd : 0 ≤ d) {v0 : Nat} {v1 : Int32} {v2 : Int32} {m0 : qM} {b : Int32 × qM} (h : fX10_place N v0 v1 v2 m0 = some b) : qRun E yX10_place cX10_place 6 (some .int) d 0 0 [.ref (E.2.1 + v0), .int v1, .int v2] m0 (some (.int b.1), b.2) := q_met pnX10 (Nat.le_of_ble_eq_true rfl) (bX10_place hd b _ h rfl)
theorem dX10_puts_0 : decode cX10_puts 0 = .ok (.aload_n 0, 1) := by decide +kernel
theorem dX10_puts_1 : decode cX10_puts 1 = .ok (.getfield 13, 3) := by decide +kernel
theorem dX10_puts_4 : decode cX10_puts 4 = .ok (.iload_n 1, 1) := by decide +kernel
theorem dX10_puts_5 : decode cX10_puts 5 = .ok (.aload_n 0, 1) := by decide +kernel
theorem dX10_puts_6 : decode cX10_puts 6 = .ok (.getfield 109, 3) := by decide +kernel
theorem dX10_puts_9 : decode cX10_puts 9 = .ok (.iastore, 1) := by decide +kernel
theorem dX10_puts_10 : decode cX10_puts 10 = .ok (.iconst 0, 1) := by decide +kernel
theorem dX10_puts_11 : decode cX10_puts 11 = .ok (.istore_n 2, 1) := by decide +kernel
theorem dX10_puts_12 : decode cX10_puts 12 = .ok (.iload_n 2, 1) := by decide +kernel
theorem dX10_puts_13 : decode cX10_puts 13 = .ok (.aload_n 0, 1) := by decide +kernel
theorem dX10_puts_14 : decode cX10_puts 14 = .ok (.getfield 109, 3) := by decide +kernel
theorem dX10_puts_17 : decode cX10_puts 17 = .ok (.if_icmp .ge 26, 3) := by decide +kernel
theorem dX10_puts_20 : decode cX10_puts 20 = .ok (.aload_n 0, 1) := by decide +kernel
theorem dX10_puts_21 : decode cX10_puts 21 = .ok (.getfield 9, 3) := by decide +kernel
theorem dX10_puts_24 : decode cX10_puts 24 = .ok (.bipush 39, 2) := by decide +kernel
theorem dX10_puts_26 : decode cX10_puts 26 = .ok (.iload_n 1, 1) := by decide +kernel
theorem dX10_puts_27 : decode cX10_puts 27 = .ok (.imul, 1) := by decide +kernel
theorem dX10_puts_28 : decode cX10_puts 28 = .ok (.iload_n 2, 1) := by decide +kernel
theorem dX10_puts_29 : decode cX10_puts 29 = .ok (.iadd, 1) := by decide +kernel
theorem dX10_puts_30 : decode cX10_puts 30 = .ok (.aload_n 0, 1) := by decide +kernel
theorem dX10_puts_31 : decode cX10_puts 31 = .ok (.getfield 66, 3) := by decide +kernel
theorem dX10_puts_34 : decode cX10_puts 34 = .ok (.iload_n 2, 1) := by decide +kernel
theorem dX10_puts_35 : decode cX10_puts 35 = .ok (.iaload, 1) := by decide +kernel
theorem dX10_puts_36 : decode cX10_puts 36 = .ok (.iastore, 1) := by decide +kernel
theorem dX10_puts_37 : decode cX10_puts 37 = .ok (.iinc 2 1, 3) := by decide +kernel
theorem dX10_puts_40 : decode cX10_puts 40 = .ok (.goto (-28), 3) := by decide +kernel
theorem dX10_puts_43 : decode cX10_puts 43 = .ok (.return_, 1) := by decide +kernel
def lX10_puts_12 (N : Nat) (v0 : Nat) (v1 : Int32) : Nat → Int32 → qM → Option (qM)
  | 0, _, _ => none
  | n + 1, v2, m0 =>
    (qgI m0 v0 10 27).bind fun x1 =>
    if x1 ≤ v2 then (
    some m0
    ) else (
    (qgR m0 v0 10 0).bind fun x2 =>
    (qgR m0 v0 10 26).bind fun x3 =>
    (qaI m0 x3 12 v2).bind fun x4 =>
    (qwI m0 x2 12 (((39 : Int32) * v1) + v2) x4).bind fun m5 =>
    lX10_puts_12 N v0 v1 n (v2 + (1 : Int32)) m5
    )
set_option maxRecDepth 100000 in
theorem lbX10_puts_12 {E : qE} {N d bc bs : Nat} (hd : 0 ≤ d) {v0 : Nat} {v1 : Int32} : ∀ (n : Nat) (v2 : Int32) (m0 : qM), qB E yX10_puts cX10_puts 3 none (fun _ => True) d bc bs 12 [(0, .ref (E.2.1 + v0)), (1, .int v1), (2, .int v2)] [] m0 (lX10_puts_12 N v0 v1 n v2 m0) (fun o rr => qJ E yX10_puts cX10_puts 3 none (fun _ => True) d bc bs 43 [] [] o rr) := by
  intro n
  induction n with
  | zero =>
    intro v2 m0
    exact j_none
  | succ n ih =>
    intro v2 m0
    unfold lX10_puts_12
    refine j_iload_n (q := 2) (np := 13) rfl rfl dX10_puts_12 rfl ?_
    refine j_aload_n (q := 0) (np := 14) rfl rfl dX10_puts_13 rfl ?_
    refine j_gI (np := 17) flX10_109 dX10_puts_14 rfl (fun x1 => ?_)
    refine j_icmp_ge (tgt := 43) (np := 20) dX10_puts_17 rfl rfl ?_ ?_
    · refine j_sub (lv2 := []) [] rfl ?_
      exact j_exit (fun rr h => h)
    · refine j_aload_n (q := 0) (np := 21) rfl rfl dX10_puts_20 rfl ?_
      refine j_gR (np := 24) flX10_9 dX10_puts_21 rfl (fun x2 => ?_)
      refine j_bipush (np := 26) cb_39 dX10_puts_24 rfl ?_
      refine j_iload_n (q := 1) (np := 27) rfl rfl dX10_puts_26 rfl ?_
      refine j_imul (np := 28) dX10_puts_27 rfl ?_
      refine j_iload_n (q := 2) (np := 29) rfl rfl dX10_puts_28 rfl ?_
      refine j_iadd (np := 30) dX10_puts_29 rfl ?_
      refine j_aload_n (q := 0) (np := 31) rfl rfl dX10_puts_30 rfl ?_
      refine j_gR (np := 34) flX10_66 dX10_puts_31 rfl (fun x3 => ?_)
      refine j_iload_n (q := 2) (np := 35) rfl rfl dX10_puts_34 rfl ?_
      refine j_iaload (np := 36) dX10_puts_35 rfl (fun x4 => ?_)
      refine j_iastore (np := 37) dX10_puts_36 rfl (fun m5 => ?_)
      refine j_iinc (q := 2) (np := 40) (lv2 := [(2, .int (v2 + (1 : Int32))), (0, .ref (E.2.1 + v0)), (1, .int v1)]) rfl (congrArg _ ci_1) (by decide) dX10_puts_37 rfl rfl ?_
      refine j_goto (tgt := 12) dX10_puts_40 rfl ?_
      refine j_sub (lv2 := [(0, .ref (E.2.1 + v0)), (1, .int v1), (2, .int (v2 + (1 : Int32)))]) [1, 2, 0] rfl ?_
      exact ih _ _
def fX10_puts (N : Nat) (v0 : Nat) (v1 : Int32) (m0 : qM) : Option (qM) :=
  (qgR m0 v0 10 1).bind fun x1 =>
  (qgI m0 v0 10 27).bind fun x2 =>
  (qwI m0 x1 12 v1 x2).bind fun m3 =>
  (lX10_puts_12 N v0 v1 N (0 : Int32) m3).bind fun o4 =>
  some o4
set_option maxRecDepth 100000 in
theorem bX10_puts {E : qE} {N d bc bs : Nat} (hd : 0 ≤ d) {v0 : Nat} {v1 : Int32} {m0 : qM} : qB E yX10_puts cX10_puts 3 none (fun _ => True) d bc bs 0 [(0, .ref (E.2.1 + v0)), (1, .int v1)] [] m0 (fX10_puts N v0 v1 m0) (fun b rr => rr = (none, b)) := by
  unfold fX10_puts
  refine j_aload_n (q := 0) (np := 1) rfl rfl dX10_puts_0 rfl ?_
  refine j_gR (np := 4) flX10_13 dX10_puts_1 rfl (fun x1 => ?_)
  refine j_iload_n (q := 1) (np := 5) rfl rfl dX10_puts_4 rfl ?_
  refine j_aload_n (q := 0) (np := 6) rfl rfl dX10_puts_5 rfl ?_
  refine j_gI (np := 9) flX10_109 dX10_puts_6 rfl (fun x2 => ?_)
  refine j_iastore (np := 10) dX10_puts_9 rfl (fun m3 => ?_)
  refine j_iconst (np := 11) ci_0 dX10_puts_10 rfl ?_
  refine j_istore_n (np := 12) (lv2 := [(2, .int (0 : Int32)), (0, .ref (E.2.1 + v0)), (1, .int v1)]) rfl (by decide) dX10_puts_11 rfl rfl ?_
  refine j_sub (lv2 := [(0, .ref (E.2.1 + v0)), (1, .int v1), (2, .int (0 : Int32))]) [1, 2, 0] rfl ?_
  refine j_loop (xp := 43) (lvX := fun o4 => []) (mX := fun o4 => o4) (lbX10_puts_12 hd _ _ _) (fun o4 => ?_)
  exact j_vret rfl dX10_puts_43 (fun rr h => h)
set_option maxRecDepth 100000 in
theorem wX10_puts {E : qE} {N d : Nat} (hd : 0 ≤ d) {v0 : Nat} {v1 : Int32} {m0 : qM} {b : qM} (h : fX10_puts N v0 v1 m0 = some b) : qRun E yX10_puts cX10_puts 3 none d 0 0 [.ref (E.2.1 + v0), .int v1] m0 (none, b) := q_met pnX10 (Nat.le_of_ble_eq_true rfl) (bX10_puts hd b _ h rfl)
theorem dX10_enters_0 : decode cX10_enters 0 = .ok (.aload_n 0, 1) := by decide +kernel
theorem dX10_enters_1 : decode cX10_enters 1 = .ok (.iconst 0, 1) := by decide +kernel
theorem dX10_enters_2 : decode cX10_enters 2 = .ok (.aload_n 0, 1) := by decide +kernel
theorem dX10_enters_3 : decode cX10_enters 3 = .ok (.getfield 96, 3) := by decide +kernel
theorem dX10_enters_6 : decode cX10_enters 6 = .ok (.invokevirtual 118, 3) := by decide +kernel
theorem dX10_enters_9 : decode cX10_enters 9 = .ok (.istore_n 3, 1) := by decide +kernel
theorem dX10_enters_10 : decode cX10_enters 10 = .ok (.iload_n 3, 1) := by decide +kernel
theorem dX10_enters_11 : decode cX10_enters 11 = .ok (.ifCond .lt 5, 3) := by decide +kernel
theorem dX10_enters_14 : decode cX10_enters 14 = .ok (.iload_n 3, 1) := by decide +kernel
theorem dX10_enters_15 : decode cX10_enters 15 = .ok (.ireturn, 1) := by decide +kernel
theorem dX10_enters_16 : decode cX10_enters 16 = .ok (.aload_n 0, 1) := by decide +kernel
theorem dX10_enters_17 : decode cX10_enters 17 = .ok (.getfield 96, 3) := by decide +kernel
theorem dX10_enters_20 : decode cX10_enters 20 = .ok (.bipush 60, 2) := by decide +kernel
theorem dX10_enters_22 : decode cX10_enters 22 = .ok (.if_icmp .ne 6, 3) := by decide +kernel
theorem dX10_enters_25 : decode cX10_enters 25 = .ok (.bipush (-3), 2) := by decide +kernel
theorem dX10_enters_27 : decode cX10_enters 27 = .ok (.ireturn, 1) := by decide +kernel
theorem dX10_enters_28 : decode cX10_enters 28 = .ok (.aload_n 0, 1) := by decide +kernel
theorem dX10_enters_29 : decode cX10_enters 29 = .ok (.aload_n 0, 1) := by decide +kernel
theorem dX10_enters_30 : decode cX10_enters 30 = .ok (.getfield 96, 3) := by decide +kernel
theorem dX10_enters_33 : decode cX10_enters 33 = .ok (.invokevirtual 121, 3) := by decide +kernel
theorem dX10_enters_36 : decode cX10_enters 36 = .ok (.aload_n 0, 1) := by decide +kernel
theorem dX10_enters_37 : decode cX10_enters 37 = .ok (.getfield 16, 3) := by decide +kernel
theorem dX10_enters_40 : decode cX10_enters 40 = .ok (.aload_n 0, 1) := by decide +kernel
theorem dX10_enters_41 : decode cX10_enters 41 = .ok (.getfield 96, 3) := by decide +kernel
theorem dX10_enters_44 : decode cX10_enters 44 = .ok (.iload_n 1, 1) := by decide +kernel
theorem dX10_enters_45 : decode cX10_enters 45 = .ok (.iastore, 1) := by decide +kernel
theorem dX10_enters_46 : decode cX10_enters 46 = .ok (.aload_n 0, 1) := by decide +kernel
theorem dX10_enters_47 : decode cX10_enters 47 = .ok (.getfield 19, 3) := by decide +kernel
theorem dX10_enters_50 : decode cX10_enters 50 = .ok (.aload_n 0, 1) := by decide +kernel
theorem dX10_enters_51 : decode cX10_enters 51 = .ok (.getfield 96, 3) := by decide +kernel
theorem dX10_enters_54 : decode cX10_enters 54 = .ok (.iload_n 2, 1) := by decide +kernel
theorem dX10_enters_55 : decode cX10_enters 55 = .ok (.iastore, 1) := by decide +kernel
theorem dX10_enters_56 : decode cX10_enters 56 = .ok (.aload_n 0, 1) := by decide +kernel
theorem dX10_enters_57 : decode cX10_enters 57 = .ok (.dup, 1) := by decide +kernel
theorem dX10_enters_58 : decode cX10_enters 58 = .ok (.getfield 96, 3) := by decide +kernel
theorem dX10_enters_61 : decode cX10_enters 61 = .ok (.dup_x1, 1) := by decide +kernel
theorem dX10_enters_62 : decode cX10_enters 62 = .ok (.iconst 1, 1) := by decide +kernel
theorem dX10_enters_63 : decode cX10_enters 63 = .ok (.iadd, 1) := by decide +kernel
theorem dX10_enters_64 : decode cX10_enters 64 = .ok (.putfield 96, 3) := by decide +kernel
theorem dX10_enters_67 : decode cX10_enters 67 = .ok (.ireturn, 1) := by decide +kernel
def fX10_enters (N : Nat) (v0 : Nat) (v1 : Int32) (v2 : Int32) (m0 : qM) : Option (Int32 × qM) :=
  (qgI m0 v0 10 5).bind fun x1 =>
  (qChk m0 v0 10 (fX10_place N v0 (0 : Int32) x1 m0)).bind fun b2 =>
  if b2.1 < 0 then (
  (qgI b2.2 v0 10 5).bind fun x3 =>
  if x3 = (60 : Int32) then (
  some ((-3 : Int32), b2.2)
  ) else (
  (qgI b2.2 v0 10 5).bind fun x4 =>
  (qChk b2.2 v0 10 (fX10_puts N v0 x4 b2.2)).bind fun b5 =>
  (qgR b5 v0 10 2).bind fun x6 =>
  (qgI b5 v0 10 5).bind fun x7 =>
  (qwI b5 x6 12 x7 v1).bind fun m8 =>
  (qgR m8 v0 10 3).bind fun x9 =>
  (qgI m8 v0 10 5).bind fun x10 =>
  (qwI m8 x9 12 x10 v2).bind fun m11 =>
  (qgI m11 v0 10 5).bind fun x12 =>
  (qpI m11 v0 10 5 (x12 + (1 : Int32))).bind fun m13 =>
  some (x12, m13)
  )
  ) else (
  some (b2.1, b2.2)
  )
set_option maxRecDepth 100000 in
theorem bX10_enters {E : qE} {N d bc bs : Nat} (hd : 1 ≤ d) {v0 : Nat} {v1 : Int32} {v2 : Int32} {m0 : qM} : qB E yX10_enters cX10_enters 4 (some .int) (fun _ => True) d bc bs 0 [(0, .ref (E.2.1 + v0)), (1, .int v1), (2, .int v2)] [] m0 (fX10_enters N v0 v1 v2 m0) (fun b rr => rr = (some (.int b.1), b.2)) := by
  unfold fX10_enters
  refine j_aload_n (q := 0) (np := 1) rfl rfl dX10_enters_0 rfl ?_
  refine j_iconst (np := 2) ci_0 dX10_enters_1 rfl ?_
  refine j_aload_n (q := 0) (np := 3) rfl rfl dX10_enters_2 rfl ?_
  refine j_gI (np := 6) flX10_96 dX10_enters_3 rfl (fun x1 => ?_)
  refine j_callVi (ci := 10) (np := 9) (bc := bc) (bs := bs) (cb := 0) (cs := 0) (dd := d - 1) (As := [.int (0 : Int32), .int x1]) (st := []) caX10_place mlX10_118 imX10_place seX10_place rfl rfl (by decide) (fun b hb => wX10_place (by omega) hb) (by omega) rfl rfl (Nat.le_of_ble_eq_true rfl) dX10_enters_6 rfl (fun b2 => ?_)
  refine j_istore_n (np := 10) (lv2 := [(3, .int b2.1), (0, .ref (E.2.1 + v0)), (1, .int v1), (2, .int v2)]) rfl (by decide) dX10_enters_9 rfl rfl ?_
  refine j_iload_n (q := 0) (np := 11) rfl rfl dX10_enters_10 rfl ?_
  refine j_if_lt (tgt := 16) (np := 14) dX10_enters_11 rfl rfl ?_ ?_
  · refine j_aload_n (q := 1) (np := 17) rfl rfl dX10_enters_16 rfl ?_
    refine j_gI (np := 20) flX10_96 dX10_enters_17 rfl (fun x3 => ?_)
    refine j_bipush (np := 22) cb_60 dX10_enters_20 rfl ?_
    refine j_icmp_ne (tgt := 28) (np := 25) dX10_enters_22 rfl rfl ?_ ?_
    · refine j_aload_n (q := 1) (np := 29) rfl rfl dX10_enters_28 rfl ?_
      refine j_aload_n (q := 1) (np := 30) rfl rfl dX10_enters_29 rfl ?_
      refine j_gI (np := 33) flX10_96 dX10_enters_30 rfl (fun x4 => ?_)
      refine j_callVv (ci := 10) (np := 36) (bc := bc) (bs := bs) (cb := 0) (cs := 0) (dd := d - 1) (As := [.int x4]) (st := []) caX10_puts mlX10_121 imX10_puts seX10_puts rfl rfl (by decide) (fun b hb => wX10_puts (by omega) hb) (by omega) rfl rfl (Nat.le_of_ble_eq_true rfl) dX10_enters_33 rfl (fun b5 => ?_)
      refine j_aload_n (q := 1) (np := 37) rfl rfl dX10_enters_36 rfl ?_
      refine j_gR (np := 40) flX10_16 dX10_enters_37 rfl (fun x6 => ?_)
      refine j_aload_n (q := 1) (np := 41) rfl rfl dX10_enters_40 rfl ?_
      refine j_gI (np := 44) flX10_96 dX10_enters_41 rfl (fun x7 => ?_)
      refine j_iload_n (q := 2) (np := 45) rfl rfl dX10_enters_44 rfl ?_
      refine j_iastore (np := 46) dX10_enters_45 rfl (fun m8 => ?_)
      refine j_aload_n (q := 1) (np := 47) rfl rfl dX10_enters_46 rfl ?_
      refine j_gR (np := 50) flX10_19 dX10_enters_47 rfl (fun x9 => ?_)
      refine j_aload_n (q := 1) (np := 51) rfl rfl dX10_enters_50 rfl ?_
      refine j_gI (np := 54) flX10_96 dX10_enters_51 rfl (fun x10 => ?_)
      refine j_iload_n (q := 3) (np := 55) rfl rfl dX10_enters_54 rfl ?_
      refine j_iastore (np := 56) dX10_enters_55 rfl (fun m11 => ?_)
      refine j_aload_n (q := 1) (np := 57) rfl rfl dX10_enters_56 rfl ?_
      refine j_dup (np := 58) rfl dX10_enters_57 rfl ?_
      refine j_gI (np := 61) flX10_96 dX10_enters_58 rfl (fun x12 => ?_)
      refine j_dup_x1 (np := 62) rfl rfl dX10_enters_61 rfl ?_
      refine j_iconst (np := 63) ci_1 dX10_enters_62 rfl ?_
      refine j_iadd (np := 64) dX10_enters_63 rfl ?_
      refine j_pI (np := 67) flX10_96 dX10_enters_64 rfl (fun m13 => ?_)
      exact j_iret rfl dX10_enters_67 (fun rr h => h)
    · refine j_bipush (np := 27) cb_m3 dX10_enters_25 rfl ?_
      exact j_iret rfl dX10_enters_27 (fun rr h => h)
  · refine j_iload_n (q := 0) (np := 15) rfl rfl dX10_enters_14 rfl ?_
    exact j_iret rfl dX10_enters_15 (fun rr h => h)
set_option maxRecDepth 100000 in
theorem wX10_enters {E : qE} {N d : Nat} (hd : 1 ≤ d) {v0 : Nat} {v1 : Int32} {v2 : Int32} {m0 : qM} {b : Int32 × qM} (h : fX10_enters N v0 v1 v2 m0 = some b) : qRun E yX10_enters cX10_enters 4 (some .int) d 0 0 [.ref (E.2.1 + v0), .int v1, .int v2] m0 (some (.int b.1), b.2) := q_met pnX10 (Nat.le_of_ble_eq_true rfl) (bX10_enters hd b _ h rfl)
theorem dX10_addAxiom_0 : decode cX10_addAxiom 0 = .ok (.aload_n 0, 1) := by decide +kernel
theorem dX10_addAxiom_1 : decode cX10_addAxiom 1 = .ok (.invokevirtual 125, 3) := by decide +kernel
theorem dX10_addAxiom_4 : decode cX10_addAxiom 4 = .ok (.istore_n 1, 1) := by decide +kernel
theorem dX10_addAxiom_5 : decode cX10_addAxiom 5 = .ok (.aload_n 0, 1) := by decide +kernel
theorem dX10_addAxiom_6 : decode cX10_addAxiom 6 = .ok (.iconst 0, 1) := by decide +kernel
theorem dX10_addAxiom_7 : decode cX10_addAxiom 7 = .ok (.putfield 103, 3) := by decide +kernel
theorem dX10_addAxiom_10 : decode cX10_addAxiom 10 = .ok (.iload_n 1, 1) := by decide +kernel
theorem dX10_addAxiom_11 : decode cX10_addAxiom 11 = .ok (.ifCond .ne 11, 3) := by decide +kernel
theorem dX10_addAxiom_14 : decode cX10_addAxiom 14 = .ok (.bipush (-100), 2) := by decide +kernel
theorem dX10_addAxiom_16 : decode cX10_addAxiom 16 = .ok (.aload_n 0, 1) := by decide +kernel
theorem dX10_addAxiom_17 : decode cX10_addAxiom 17 = .ok (.getfield 112, 3) := by decide +kernel
theorem dX10_addAxiom_20 : decode cX10_addAxiom 20 = .ok (.isub, 1) := by decide +kernel
theorem dX10_addAxiom_21 : decode cX10_addAxiom 21 = .ok (.ireturn, 1) := by decide +kernel
theorem dX10_addAxiom_22 : decode cX10_addAxiom 22 = .ok (.aload_n 0, 1) := by decide +kernel
theorem dX10_addAxiom_23 : decode cX10_addAxiom 23 = .ok (.invokevirtual 129, 3) := by decide +kernel
theorem dX10_addAxiom_26 : decode cX10_addAxiom 26 = .ok (.ifCond .eq 14, 3) := by decide +kernel
theorem dX10_addAxiom_29 : decode cX10_addAxiom 29 = .ok (.aload_n 0, 1) := by decide +kernel
theorem dX10_addAxiom_30 : decode cX10_addAxiom 30 = .ok (.bipush (-4), 2) := by decide +kernel
theorem dX10_addAxiom_32 : decode cX10_addAxiom 32 = .ok (.bipush (-4), 2) := by decide +kernel
theorem dX10_addAxiom_34 : decode cX10_addAxiom 34 = .ok (.invokevirtual 132, 3) := by decide +kernel
theorem dX10_addAxiom_37 : decode cX10_addAxiom 37 = .ok (.goto 5, 3) := by decide +kernel
theorem dX10_addAxiom_40 : decode cX10_addAxiom 40 = .ok (.bipush (-5), 2) := by decide +kernel
theorem dX10_addAxiom_42 : decode cX10_addAxiom 42 = .ok (.ireturn, 1) := by decide +kernel
def fX10_addAxiom (N : Nat) (v0 : Nat) (m0 : qM) : Option (Int32 × qM) :=
  (qChk m0 v0 10 (fX10_readsFormula N v0 m0)).bind fun b1 =>
  (qpI b1.2 v0 10 7 (0 : Int32)).bind fun m2 =>
  if b1.1 = 0 then (
  (qgI m2 v0 10 9).bind fun x5 =>
  some ((-100 : Int32) - x5, m2)
  ) else (
  (qChk m2 v0 10 (fX10_names N v0 m2)).bind fun b3 =>
  if b3.1 = 0 then (
  some ((-5 : Int32), b3.2)
  ) else (
  (qChk b3.2 v0 10 (fX10_enters N v0 (-4 : Int32) (-4 : Int32) b3.2)).bind fun b4 =>
  some (b4.1, b4.2)
  )
  )
set_option maxRecDepth 100000 in
theorem bX10_addAxiom {E : qE} {N d bc bs : Nat} (hd : 2 ≤ d) {v0 : Nat} {m0 : qM} : qB E yX10_addAxiom cX10_addAxiom 2 (some .int) (fun _ => True) d bc bs 0 [(0, .ref (E.2.1 + v0))] [] m0 (fX10_addAxiom N v0 m0) (fun b rr => rr = (some (.int b.1), b.2)) := by
  unfold fX10_addAxiom
  refine j_aload_n (q := 0) (np := 1) rfl rfl dX10_addAxiom_0 rfl ?_
  refine j_callVi (ci := 10) (np := 4) (bc := bc) (bs := bs) (cb := 0) (cs := 0) (dd := d - 1) (As := []) (st := []) caX10_readsFormula mlX10_125 imX10_readsFormula seX10_readsFormula rfl rfl (by decide) (fun b hb => wX10_readsFormula (by omega) hb) (by omega) rfl rfl (Nat.le_of_ble_eq_true rfl) dX10_addAxiom_1 rfl (fun b1 => ?_)
  refine j_istore_n (np := 5) (lv2 := [(1, .int b1.1), (0, .ref (E.2.1 + v0))]) rfl (by decide) dX10_addAxiom_4 rfl rfl ?_
  refine j_aload_n (q := 1) (np := 6) rfl rfl dX10_addAxiom_5 rfl ?_
  refine j_iconst (np := 7) ci_0 dX10_addAxiom_6 rfl ?_
  refine j_pI (np := 10) flX10_103 dX10_addAxiom_7 rfl (fun m2 => ?_)
  refine j_iload_n (q := 0) (np := 11) rfl rfl dX10_addAxiom_10 rfl ?_
  refine j_if_ne (tgt := 22) (np := 14) dX10_addAxiom_11 rfl rfl ?_ ?_
  · refine j_aload_n (q := 1) (np := 23) rfl rfl dX10_addAxiom_22 rfl ?_
    refine j_callVi (ci := 10) (np := 26) (bc := bc) (bs := bs) (cb := 0) (cs := 0) (dd := d - 1) (As := []) (st := []) caX10_names mlX10_129 imX10_names seX10_names rfl rfl (by decide) (fun b hb => wX10_names (by omega) hb) (by omega) rfl rfl (Nat.le_of_ble_eq_true rfl) dX10_addAxiom_23 rfl (fun b3 => ?_)
    refine j_if_eq (tgt := 40) (np := 29) dX10_addAxiom_26 rfl rfl ?_ ?_
    · refine j_bipush (np := 42) cb_m5 dX10_addAxiom_40 rfl ?_
      exact j_iret rfl dX10_addAxiom_42 (fun rr h => h)
    · refine j_aload_n (q := 1) (np := 30) rfl rfl dX10_addAxiom_29 rfl ?_
      refine j_bipush (np := 32) cb_m4 dX10_addAxiom_30 rfl ?_
      refine j_bipush (np := 34) cb_m4 dX10_addAxiom_32 rfl ?_
      refine j_callVi (ci := 10) (np := 37) (bc := bc) (bs := bs) (cb := 0) (cs := 0) (dd := d - 1) (As := [.int (-4 : Int32), .int (-4 : Int32)]) (st := []) caX10_enters mlX10_132 imX10_enters seX10_enters rfl rfl (by decide) (fun b hb => wX10_enters (by omega) hb) (by omega) rfl rfl (Nat.le_of_ble_eq_true rfl) dX10_addAxiom_34 rfl (fun b4 => ?_)
      refine j_goto (tgt := 42) dX10_addAxiom_37 rfl ?_
      exact j_iret rfl dX10_addAxiom_42 (fun rr h => h)
  · refine j_bipush (np := 16) cb_m100 dX10_addAxiom_14 rfl ?_
    refine j_aload_n (q := 1) (np := 17) rfl rfl dX10_addAxiom_16 rfl ?_
    refine j_gI (np := 20) flX10_112 dX10_addAxiom_17 rfl (fun x5 => ?_)
    refine j_isub (np := 21) dX10_addAxiom_20 rfl ?_
    exact j_iret rfl dX10_addAxiom_21 (fun rr h => h)
set_option maxRecDepth 100000 in
theorem wX10_addAxiom {E : qE} {N d : Nat} (hd : 2 ≤ d) {v0 : Nat} {m0 : qM} {b : Int32 × qM} (h : fX10_addAxiom N v0 m0 = some b) : qRun E yX10_addAxiom cX10_addAxiom 2 (some .int) d 0 0 [.ref (E.2.1 + v0)] m0 (some (.int b.1), b.2) := q_met pnX10 (Nat.le_of_ble_eq_true rfl) (bX10_addAxiom hd b _ h rfl)
theorem dX10_builds_0 : decode cX10_builds 0 = .ok (.aload_n 0, 1) := by decide +kernel
theorem dX10_builds_1 : decode cX10_builds 1 = .ok (.dup, 1) := by decide +kernel
theorem dX10_builds_2 : decode cX10_builds 2 = .ok (.getfield 135, 3) := by decide +kernel
theorem dX10_builds_5 : decode cX10_builds 5 = .ok (.dup_x1, 1) := by decide +kernel
theorem dX10_builds_6 : decode cX10_builds 6 = .ok (.iconst 1, 1) := by decide +kernel
theorem dX10_builds_7 : decode cX10_builds 7 = .ok (.iadd, 1) := by decide +kernel
theorem dX10_builds_8 : decode cX10_builds 8 = .ok (.putfield 135, 3) := by decide +kernel
theorem dX10_builds_11 : decode cX10_builds 11 = .ok (.istore_n 3, 1) := by decide +kernel
theorem dX10_builds_12 : decode cX10_builds 12 = .ok (.aload_n 1, 1) := by decide +kernel
theorem dX10_builds_13 : decode cX10_builds 13 = .ok (.aload_n 0, 1) := by decide +kernel
theorem dX10_builds_14 : decode cX10_builds 14 = .ok (.dup, 1) := by decide +kernel
theorem dX10_builds_15 : decode cX10_builds 15 = .ok (.getfield 138, 3) := by decide +kernel
theorem dX10_builds_18 : decode cX10_builds 18 = .ok (.dup_x1, 1) := by decide +kernel
theorem dX10_builds_19 : decode cX10_builds 19 = .ok (.iconst 1, 1) := by decide +kernel
theorem dX10_builds_20 : decode cX10_builds 20 = .ok (.iadd, 1) := by decide +kernel
theorem dX10_builds_21 : decode cX10_builds 21 = .ok (.putfield 138, 3) := by decide +kernel
theorem dX10_builds_24 : decode cX10_builds 24 = .ok (.iaload, 1) := by decide +kernel
theorem dX10_builds_25 : decode cX10_builds 25 = .ok (.istore 4, 2) := by decide +kernel
theorem dX10_builds_27 : decode cX10_builds 27 = .ok (.aload_n 0, 1) := by decide +kernel
theorem dX10_builds_28 : decode cX10_builds 28 = .ok (.getfield 50, 3) := by decide +kernel
theorem dX10_builds_31 : decode cX10_builds 31 = .ok (.iload_n 3, 1) := by decide +kernel
theorem dX10_builds_32 : decode cX10_builds 32 = .ok (.iload 4, 2) := by decide +kernel
theorem dX10_builds_34 : decode cX10_builds 34 = .ok (.bipush 99, 2) := by decide +kernel
theorem dX10_builds_36 : decode cX10_builds 36 = .ok (.if_icmp .ne 7, 3) := by decide +kernel
theorem dX10_builds_39 : decode cX10_builds 39 = .ok (.iconst (-1), 1) := by decide +kernel
theorem dX10_builds_40 : decode cX10_builds 40 = .ok (.goto 7, 3) := by decide +kernel
theorem dX10_builds_43 : decode cX10_builds 43 = .ok (.iload 4, 2) := by decide +kernel
theorem dX10_builds_45 : decode cX10_builds 45 = .ok (.iload_n 2, 1) := by decide +kernel
theorem dX10_builds_46 : decode cX10_builds 46 = .ok (.iadd, 1) := by decide +kernel
theorem dX10_builds_47 : decode cX10_builds 47 = .ok (.iastore, 1) := by decide +kernel
theorem dX10_builds_48 : decode cX10_builds 48 = .ok (.iload 4, 2) := by decide +kernel
theorem dX10_builds_50 : decode cX10_builds 50 = .ok (.bipush 99, 2) := by decide +kernel
theorem dX10_builds_52 : decode cX10_builds 52 = .ok (.if_icmp .ne 27, 3) := by decide +kernel
theorem dX10_builds_55 : decode cX10_builds 55 = .ok (.aload_n 0, 1) := by decide +kernel
theorem dX10_builds_56 : decode cX10_builds 56 = .ok (.getfield 53, 3) := by decide +kernel
theorem dX10_builds_59 : decode cX10_builds 59 = .ok (.iload_n 3, 1) := by decide +kernel
theorem dX10_builds_60 : decode cX10_builds 60 = .ok (.aload_n 0, 1) := by decide +kernel
theorem dX10_builds_61 : decode cX10_builds 61 = .ok (.aload_n 1, 1) := by decide +kernel
theorem dX10_builds_62 : decode cX10_builds 62 = .ok (.iload_n 2, 1) := by decide +kernel
theorem dX10_builds_63 : decode cX10_builds 63 = .ok (.invokevirtual 141, 3) := by decide +kernel
theorem dX10_builds_66 : decode cX10_builds 66 = .ok (.iastore, 1) := by decide +kernel
theorem dX10_builds_67 : decode cX10_builds 67 = .ok (.aload_n 0, 1) := by decide +kernel
theorem dX10_builds_68 : decode cX10_builds 68 = .ok (.getfield 56, 3) := by decide +kernel
theorem dX10_builds_71 : decode cX10_builds 71 = .ok (.iload_n 3, 1) := by decide +kernel
theorem dX10_builds_72 : decode cX10_builds 72 = .ok (.aload_n 0, 1) := by decide +kernel
theorem dX10_builds_73 : decode cX10_builds 73 = .ok (.aload_n 1, 1) := by decide +kernel
theorem dX10_builds_74 : decode cX10_builds 74 = .ok (.iload_n 2, 1) := by decide +kernel
theorem dX10_builds_75 : decode cX10_builds 75 = .ok (.invokevirtual 141, 3) := by decide +kernel
theorem dX10_builds_78 : decode cX10_builds 78 = .ok (.iastore, 1) := by decide +kernel
theorem dX10_builds_79 : decode cX10_builds 79 = .ok (.iload_n 3, 1) := by decide +kernel
theorem dX10_builds_80 : decode cX10_builds 80 = .ok (.ireturn, 1) := by decide +kernel
def kX10_builds_47 (N : Nat) (fr : Nat → Nat → Int32 → qM → Option (Int32 × qM)) (v0 : Nat) (v1 : Nat) (v2 : Int32) (v3 : Int32) (v4 : Int32) (s0 : Nat) (s1 : Int32) (s2 : Int32) (m0 : qM) : Option (Int32 × qM) :=
  (qwI m0 s0 12 s1 s2).bind fun m1 =>
  if v4 = (99 : Int32) then (
  (qgR m1 v0 10 19).bind fun x2 =>
  (qChk m1 v0 10 (fr v0 v1 v2 m1)).bind fun b3 =>
  (qwI b3.2 x2 12 v3 b3.1).bind fun m4 =>
  (qgR m4 v0 10 20).bind fun x5 =>
  (qChk m4 v0 10 (fr v0 v1 v2 m4)).bind fun b6 =>
  (qwI b6.2 x5 12 v3 b6.1).bind fun m7 =>
  some (v3, m7)
  ) else (
  some (v3, m1)
  )
set_option maxRecDepth 100000 in
theorem kbX10_builds_47 {E : qE} {N d bc bs : Nat} (hd : 1 ≤ d) {fr : Nat → Nat → Int32 → qM → Option (Int32 × qM)} (hfr : ∀ (m : qM) (b : Int32 × qM) (v0 : Nat) (v1 : Nat) (v2 : Int32), fr v0 v1 v2 m = some b → qRun E yX10_builds cX10_builds 5 (some .int) (d - 1) 0 0 [.ref (E.2.1 + v0), .ref (E.2.1 + v1), .int v2] m (some (.int b.1), b.2)) {v0 : Nat} {v1 : Nat} {v2 : Int32} {v3 : Int32} {v4 : Int32} {s0 : Nat} {s1 : Int32} {s2 : Int32} {m0 : qM} : qB E yX10_builds cX10_builds 5 (some .int) (fun _ => True) d bc bs 47 [(0, .ref (E.2.1 + v0)), (1, .ref (E.2.1 + v1)), (2, .int v2), (3, .int v3), (4, .int v4)] [.int s2, .int s1, .ref (E.2.1 + s0)] m0 (kX10_builds_47 N fr v0 v1 v2 v3 v4 s0 s1 s2 m0) (fun b rr => rr = (some (.int b.1), b.2)) := by
  unfold kX10_builds_47
  refine j_iastore (np := 48) dX10_builds_47 rfl (fun m1 => ?_)
  refine j_iload (q := 4) (np := 50) rfl dX10_builds_48 rfl ?_
  refine j_bipush (np := 52) cb_99 dX10_builds_50 rfl ?_
  refine j_icmp_ne (tgt := 79) (np := 55) dX10_builds_52 rfl rfl ?_ ?_
  · refine j_iload_n (q := 3) (np := 80) rfl rfl dX10_builds_79 rfl ?_
    exact j_iret rfl dX10_builds_80 (fun rr h => h)
  · refine j_aload_n (q := 0) (np := 56) rfl rfl dX10_builds_55 rfl ?_
    refine j_gR (np := 59) flX10_53 dX10_builds_56 rfl (fun x2 => ?_)
    refine j_iload_n (q := 3) (np := 60) rfl rfl dX10_builds_59 rfl ?_
    refine j_aload_n (q := 0) (np := 61) rfl rfl dX10_builds_60 rfl ?_
    refine j_aload_n (q := 1) (np := 62) rfl rfl dX10_builds_61 rfl ?_
    refine j_iload_n (q := 2) (np := 63) rfl rfl dX10_builds_62 rfl ?_
    refine j_callVi (ci := 10) (np := 66) (bc := bc) (bs := bs) (cb := 0) (cs := 0) (dd := d - 1) (As := [.ref (E.2.1 + v1), .int v2]) (st := [.int v3, .ref (E.2.1 + x2)]) caX10_builds mlX10_141 imX10_builds seX10_builds rfl rfl (by decide) (fun b hb => hfr _ _ _ _ _ hb) (by omega) rfl rfl (Nat.le_of_ble_eq_true rfl) dX10_builds_63 rfl (fun b3 => ?_)
    refine j_iastore (np := 67) dX10_builds_66 rfl (fun m4 => ?_)
    refine j_aload_n (q := 0) (np := 68) rfl rfl dX10_builds_67 rfl ?_
    refine j_gR (np := 71) flX10_56 dX10_builds_68 rfl (fun x5 => ?_)
    refine j_iload_n (q := 3) (np := 72) rfl rfl dX10_builds_71 rfl ?_
    refine j_aload_n (q := 0) (np := 73) rfl rfl dX10_builds_72 rfl ?_
    refine j_aload_n (q := 1) (np := 74) rfl rfl dX10_builds_73 rfl ?_
    refine j_iload_n (q := 2) (np := 75) rfl rfl dX10_builds_74 rfl ?_
    refine j_callVi (ci := 10) (np := 78) (bc := bc) (bs := bs) (cb := 0) (cs := 0) (dd := d - 1) (As := [.ref (E.2.1 + v1), .int v2]) (st := [.int v3, .ref (E.2.1 + x5)]) caX10_builds mlX10_141 imX10_builds seX10_builds rfl rfl (by decide) (fun b hb => hfr _ _ _ _ _ hb) (by omega) rfl rfl (Nat.le_of_ble_eq_true rfl) dX10_builds_75 rfl (fun b6 => ?_)
    refine j_iastore (np := 79) dX10_builds_78 rfl (fun m7 => ?_)
    refine j_iload_n (q := 3) (np := 80) rfl rfl dX10_builds_79 rfl ?_
    exact j_iret rfl dX10_builds_80 (fun rr h => h)
def fX10_builds (N : Nat) : Nat → Nat → Nat → Int32 → qM → Option (Int32 × qM)
  | 0, _, _, _, _ => none
  | k + 1, v0, v1, v2, m0 =>
    (qgI m0 v0 10 21).bind fun x1 =>
    (qpI m0 v0 10 21 (x1 + (1 : Int32))).bind fun m2 =>
    (qgI m2 v0 10 25).bind fun x3 =>
    (qpI m2 v0 10 25 (x3 + (1 : Int32))).bind fun m4 =>
    (qaI m4 v1 12 x3).bind fun x5 =>
    (qgR m4 v0 10 18).bind fun x6 =>
    if x5 = (99 : Int32) then (
    kX10_builds_47 N (fX10_builds N k) v0 v1 v2 x1 x5 x6 x1 (-1 : Int32) m4
    ) else (
    kX10_builds_47 N (fX10_builds N k) v0 v1 v2 x1 x5 x6 x1 (x5 + v2) m4
    )
set_option maxRecDepth 100000 in
theorem wX10_builds {E : qE} {N : Nat} : ∀ {k d : Nat} (hd : k + 1 ≤ d) {m0 : qM} {b : Int32 × qM} {v0 : Nat} {v1 : Nat} {v2 : Int32} (h : fX10_builds N k v0 v1 v2 m0 = some b), qRun E yX10_builds cX10_builds 5 (some .int) d 0 0 [.ref (E.2.1 + v0), .ref (E.2.1 + v1), .int v2] m0 (some (.int b.1), b.2) := by
  intro k
  induction k with
  | zero =>
    intro d hd m0 b v0 v1 v2 h
    cases h
  | succ k ih =>
    intro d hd m0 b v0 v1 v2 h
    have hfr : ∀ (m : qM) (b : Int32 × qM) (v0 : Nat) (v1 : Nat) (v2 : Int32), fX10_builds N k v0 v1 v2 m = some b → qRun E yX10_builds cX10_builds 5 (some .int) (d - 1) 0 0 [.ref (E.2.1 + v0), .ref (E.2.1 + v1), .int v2] m (some (.int b.1), b.2) := fun m b v0 v1 v2 h => ih (by omega) h
    have hd : 1 ≤ d := by omega
    have bd : qB E yX10_builds cX10_builds 5 (some .int) (fun _ => True) d 0 0 0 [(0, .ref (E.2.1 + v0)), (1, .ref (E.2.1 + v1)), (2, .int v2)] [] m0 (fX10_builds N (k + 1) v0 v1 v2 m0) (fun b rr => rr = (some (.int b.1), b.2)) := by
      unfold fX10_builds
      refine j_aload_n (q := 0) (np := 1) rfl rfl dX10_builds_0 rfl ?_
      refine j_dup (np := 2) rfl dX10_builds_1 rfl ?_
      refine j_gI (np := 5) flX10_135 dX10_builds_2 rfl (fun x1 => ?_)
      refine j_dup_x1 (np := 6) rfl rfl dX10_builds_5 rfl ?_
      refine j_iconst (np := 7) ci_1 dX10_builds_6 rfl ?_
      refine j_iadd (np := 8) dX10_builds_7 rfl ?_
      refine j_pI (np := 11) flX10_135 dX10_builds_8 rfl (fun m2 => ?_)
      refine j_istore_n (np := 12) (lv2 := [(3, .int x1), (0, .ref (E.2.1 + v0)), (1, .ref (E.2.1 + v1)), (2, .int v2)]) rfl (by decide) dX10_builds_11 rfl rfl ?_
      refine j_aload_n (q := 2) (np := 13) rfl rfl dX10_builds_12 rfl ?_
      refine j_aload_n (q := 1) (np := 14) rfl rfl dX10_builds_13 rfl ?_
      refine j_dup (np := 15) rfl dX10_builds_14 rfl ?_
      refine j_gI (np := 18) flX10_138 dX10_builds_15 rfl (fun x3 => ?_)
      refine j_dup_x1 (np := 19) rfl rfl dX10_builds_18 rfl ?_
      refine j_iconst (np := 20) ci_1 dX10_builds_19 rfl ?_
      refine j_iadd (np := 21) dX10_builds_20 rfl ?_
      refine j_pI (np := 24) flX10_138 dX10_builds_21 rfl (fun m4 => ?_)
      refine j_iaload (np := 25) dX10_builds_24 rfl (fun x5 => ?_)
      refine j_istore (np := 27) (lv2 := [(4, .int x5), (3, .int x1), (0, .ref (E.2.1 + v0)), (1, .ref (E.2.1 + v1)), (2, .int v2)]) (by decide) dX10_builds_25 rfl rfl ?_
      refine j_aload_n (q := 2) (np := 28) rfl rfl dX10_builds_27 rfl ?_
      refine j_gR (np := 31) flX10_50 dX10_builds_28 rfl (fun x6 => ?_)
      refine j_iload_n (q := 1) (np := 32) rfl rfl dX10_builds_31 rfl ?_
      refine j_iload (q := 0) (np := 34) rfl dX10_builds_32 rfl ?_
      refine j_bipush (np := 36) cb_99 dX10_builds_34 rfl ?_
      refine j_icmp_ne (tgt := 43) (np := 39) dX10_builds_36 rfl rfl ?_ ?_
      · refine j_iload (q := 0) (np := 45) rfl dX10_builds_43 rfl ?_
        refine j_iload_n (q := 4) (np := 46) rfl rfl dX10_builds_45 rfl ?_
        refine j_iadd (np := 47) dX10_builds_46 rfl ?_
        refine j_sub (lv2 := [(0, .ref (E.2.1 + v0)), (1, .ref (E.2.1 + v1)), (2, .int v2), (3, .int x1), (4, .int x5)]) [2, 3, 4, 1, 0] rfl ?_
        exact kbX10_builds_47 hd hfr
      · refine j_iconst (np := 40) ci_m1 dX10_builds_39 rfl ?_
        refine j_goto (tgt := 47) dX10_builds_40 rfl ?_
        refine j_sub (lv2 := [(0, .ref (E.2.1 + v0)), (1, .ref (E.2.1 + v1)), (2, .int v2), (3, .int x1), (4, .int x5)]) [2, 3, 4, 1, 0] rfl ?_
        exact kbX10_builds_47 hd hfr
    exact q_met pnX10 (Nat.le_of_ble_eq_true rfl) (bd b _ h rfl)
theorem dX10_seek_0 : decode cX10_seek 0 = .ok (.iload_n 1, 1) := by decide +kernel
theorem dX10_seek_1 : decode cX10_seek 1 = .ok (.istore_n 2, 1) := by decide +kernel
theorem dX10_seek_2 : decode cX10_seek 2 = .ok (.aload_n 0, 1) := by decide +kernel
theorem dX10_seek_3 : decode cX10_seek 3 = .ok (.getfield 50, 3) := by decide +kernel
theorem dX10_seek_6 : decode cX10_seek 6 = .ok (.iload_n 2, 1) := by decide +kernel
theorem dX10_seek_7 : decode cX10_seek 7 = .ok (.iaload, 1) := by decide +kernel
theorem dX10_seek_8 : decode cX10_seek 8 = .ok (.ifCond .lt 32, 3) := by decide +kernel
theorem dX10_seek_11 : decode cX10_seek 11 = .ok (.aload_n 0, 1) := by decide +kernel
theorem dX10_seek_12 : decode cX10_seek 12 = .ok (.getfield 87, 3) := by decide +kernel
theorem dX10_seek_15 : decode cX10_seek 15 = .ok (.aload_n 0, 1) := by decide +kernel
theorem dX10_seek_16 : decode cX10_seek 16 = .ok (.getfield 50, 3) := by decide +kernel
theorem dX10_seek_19 : decode cX10_seek 19 = .ok (.iload_n 2, 1) := by decide +kernel
theorem dX10_seek_20 : decode cX10_seek 20 = .ok (.iaload, 1) := by decide +kernel
theorem dX10_seek_21 : decode cX10_seek 21 = .ok (.iaload, 1) := by decide +kernel
theorem dX10_seek_22 : decode cX10_seek 22 = .ok (.ifCond .lt 18, 3) := by decide +kernel
theorem dX10_seek_25 : decode cX10_seek 25 = .ok (.aload_n 0, 1) := by decide +kernel
theorem dX10_seek_26 : decode cX10_seek 26 = .ok (.getfield 87, 3) := by decide +kernel
theorem dX10_seek_29 : decode cX10_seek 29 = .ok (.aload_n 0, 1) := by decide +kernel
theorem dX10_seek_30 : decode cX10_seek 30 = .ok (.getfield 50, 3) := by decide +kernel
theorem dX10_seek_33 : decode cX10_seek 33 = .ok (.iload_n 2, 1) := by decide +kernel
theorem dX10_seek_34 : decode cX10_seek 34 = .ok (.iaload, 1) := by decide +kernel
theorem dX10_seek_35 : decode cX10_seek 35 = .ok (.iaload, 1) := by decide +kernel
theorem dX10_seek_36 : decode cX10_seek 36 = .ok (.istore_n 2, 1) := by decide +kernel
theorem dX10_seek_37 : decode cX10_seek 37 = .ok (.goto (-35), 3) := by decide +kernel
theorem dX10_seek_40 : decode cX10_seek 40 = .ok (.iload_n 2, 1) := by decide +kernel
theorem dX10_seek_41 : decode cX10_seek 41 = .ok (.ireturn, 1) := by decide +kernel
def lX10_seek_2 (N : Nat) (v0 : Nat) : Nat → Int32 → qM → Option (Int32 × qM)
  | 0, _, _ => none
  | n + 1, v2, m0 =>
    (qgR m0 v0 10 18).bind fun x1 =>
    (qaI m0 x1 12 v2).bind fun x2 =>
    if x2 < 0 then (
    some (v2, m0)
    ) else (
    (qgR m0 v0 10 37).bind fun x3 =>
    (qgR m0 v0 10 18).bind fun x4 =>
    (qaI m0 x4 12 v2).bind fun x5 =>
    (qaI m0 x3 12 x5).bind fun x6 =>
    if x6 < 0 then (
    some (v2, m0)
    ) else (
    (qgR m0 v0 10 37).bind fun x7 =>
    (qgR m0 v0 10 18).bind fun x8 =>
    (qaI m0 x8 12 v2).bind fun x9 =>
    (qaI m0 x7 12 x9).bind fun x10 =>
    lX10_seek_2 N v0 n x10 m0
    )
    )
set_option maxRecDepth 100000 in
theorem lbX10_seek_2 {E : qE} {N d bc bs : Nat} (hd : 0 ≤ d) {v0 : Nat} : ∀ (n : Nat) (v2 : Int32) (m0 : qM), qB E yX10_seek cX10_seek 3 (some .int) (fun _ => True) d bc bs 2 [(0, .ref (E.2.1 + v0)), (2, .int v2)] [] m0 (lX10_seek_2 N v0 n v2 m0) (fun o rr => qJ E yX10_seek cX10_seek 3 (some .int) (fun _ => True) d bc bs 40 [(2, .int o.1)] [] o.2 rr) := by
  intro n
  induction n with
  | zero =>
    intro v2 m0
    exact j_none
  | succ n ih =>
    intro v2 m0
    unfold lX10_seek_2
    refine j_aload_n (q := 0) (np := 3) rfl rfl dX10_seek_2 rfl ?_
    refine j_gR (np := 6) flX10_50 dX10_seek_3 rfl (fun x1 => ?_)
    refine j_iload_n (q := 1) (np := 7) rfl rfl dX10_seek_6 rfl ?_
    refine j_iaload (np := 8) dX10_seek_7 rfl (fun x2 => ?_)
    refine j_if_lt (tgt := 40) (np := 11) dX10_seek_8 rfl rfl ?_ ?_
    · refine j_sub (lv2 := [(2, .int v2)]) [1] rfl ?_
      exact j_exit (fun rr h => h)
    · refine j_aload_n (q := 0) (np := 12) rfl rfl dX10_seek_11 rfl ?_
      refine j_gR (np := 15) flX10_87 dX10_seek_12 rfl (fun x3 => ?_)
      refine j_aload_n (q := 0) (np := 16) rfl rfl dX10_seek_15 rfl ?_
      refine j_gR (np := 19) flX10_50 dX10_seek_16 rfl (fun x4 => ?_)
      refine j_iload_n (q := 1) (np := 20) rfl rfl dX10_seek_19 rfl ?_
      refine j_iaload (np := 21) dX10_seek_20 rfl (fun x5 => ?_)
      refine j_iaload (np := 22) dX10_seek_21 rfl (fun x6 => ?_)
      refine j_if_lt (tgt := 40) (np := 25) dX10_seek_22 rfl rfl ?_ ?_
      · refine j_sub (lv2 := [(2, .int v2)]) [1] rfl ?_
        exact j_exit (fun rr h => h)
      · refine j_aload_n (q := 0) (np := 26) rfl rfl dX10_seek_25 rfl ?_
        refine j_gR (np := 29) flX10_87 dX10_seek_26 rfl (fun x7 => ?_)
        refine j_aload_n (q := 0) (np := 30) rfl rfl dX10_seek_29 rfl ?_
        refine j_gR (np := 33) flX10_50 dX10_seek_30 rfl (fun x8 => ?_)
        refine j_iload_n (q := 1) (np := 34) rfl rfl dX10_seek_33 rfl ?_
        refine j_iaload (np := 35) dX10_seek_34 rfl (fun x9 => ?_)
        refine j_iaload (np := 36) dX10_seek_35 rfl (fun x10 => ?_)
        refine j_istore_n (np := 37) (lv2 := [(2, .int x10), (0, .ref (E.2.1 + v0))]) rfl (by decide) dX10_seek_36 rfl rfl ?_
        refine j_goto (tgt := 2) dX10_seek_37 rfl ?_
        refine j_sub (lv2 := [(0, .ref (E.2.1 + v0)), (2, .int x10)]) [1, 0] rfl ?_
        exact ih _ _
def fX10_seek (N : Nat) (v0 : Nat) (v1 : Int32) (m0 : qM) : Option (Int32 × qM) :=
  (lX10_seek_2 N v0 N v1 m0).bind fun o1 =>
  some (o1.1, o1.2)
set_option maxRecDepth 100000 in
theorem bX10_seek {E : qE} {N d bc bs : Nat} (hd : 0 ≤ d) {v0 : Nat} {v1 : Int32} {m0 : qM} : qB E yX10_seek cX10_seek 3 (some .int) (fun _ => True) d bc bs 0 [(0, .ref (E.2.1 + v0)), (1, .int v1)] [] m0 (fX10_seek N v0 v1 m0) (fun b rr => rr = (some (.int b.1), b.2)) := by
  unfold fX10_seek
  refine j_iload_n (q := 1) (np := 1) rfl rfl dX10_seek_0 rfl ?_
  refine j_istore_n (np := 2) (lv2 := [(2, .int v1), (0, .ref (E.2.1 + v0)), (1, .int v1)]) rfl (by decide) dX10_seek_1 rfl rfl ?_
  refine j_sub (lv2 := [(0, .ref (E.2.1 + v0)), (2, .int v1)]) [1, 0] rfl ?_
  refine j_loop (xp := 40) (lvX := fun o1 => [(2, .int o1.1)]) (mX := fun o1 => o1.2) (lbX10_seek_2 hd _ _ _) (fun o1 => ?_)
  refine j_iload_n (q := 0) (np := 41) rfl rfl dX10_seek_40 rfl ?_
  exact j_iret rfl dX10_seek_41 (fun rr h => h)
set_option maxRecDepth 100000 in
theorem wX10_seek {E : qE} {N d : Nat} (hd : 0 ≤ d) {v0 : Nat} {v1 : Int32} {m0 : qM} {b : Int32 × qM} (h : fX10_seek N v0 v1 m0 = some b) : qRun E yX10_seek cX10_seek 3 (some .int) d 0 0 [.ref (E.2.1 + v0), .int v1] m0 (some (.int b.1), b.2) := q_met pnX10 (Nat.le_of_ble_eq_true rfl) (bX10_seek hd b _ h rfl)
theorem dX10_occurs_0 : decode cX10_occurs 0 = .ok (.aload_n 0, 1) := by decide +kernel
theorem dX10_occurs_1 : decode cX10_occurs 1 = .ok (.iload_n 2, 1) := by decide +kernel
theorem dX10_occurs_2 : decode cX10_occurs 2 = .ok (.invokevirtual 145, 3) := by decide +kernel
theorem dX10_occurs_5 : decode cX10_occurs 5 = .ok (.istore_n 3, 1) := by decide +kernel
theorem dX10_occurs_6 : decode cX10_occurs 6 = .ok (.aload_n 0, 1) := by decide +kernel
theorem dX10_occurs_7 : decode cX10_occurs 7 = .ok (.getfield 50, 3) := by decide +kernel
theorem dX10_occurs_10 : decode cX10_occurs 10 = .ok (.iload_n 3, 1) := by decide +kernel
theorem dX10_occurs_11 : decode cX10_occurs 11 = .ok (.iaload, 1) := by decide +kernel
theorem dX10_occurs_12 : decode cX10_occurs 12 = .ok (.ifCond .lt 19, 3) := by decide +kernel
theorem dX10_occurs_15 : decode cX10_occurs 15 = .ok (.aload_n 0, 1) := by decide +kernel
theorem dX10_occurs_16 : decode cX10_occurs 16 = .ok (.getfield 50, 3) := by decide +kernel
theorem dX10_occurs_19 : decode cX10_occurs 19 = .ok (.iload_n 3, 1) := by decide +kernel
theorem dX10_occurs_20 : decode cX10_occurs 20 = .ok (.iaload, 1) := by decide +kernel
theorem dX10_occurs_21 : decode cX10_occurs 21 = .ok (.iload_n 1, 1) := by decide +kernel
theorem dX10_occurs_22 : decode cX10_occurs 22 = .ok (.if_icmp .ne 7, 3) := by decide +kernel
theorem dX10_occurs_25 : decode cX10_occurs 25 = .ok (.iconst 1, 1) := by decide +kernel
theorem dX10_occurs_26 : decode cX10_occurs 26 = .ok (.goto 4, 3) := by decide +kernel
theorem dX10_occurs_29 : decode cX10_occurs 29 = .ok (.iconst 0, 1) := by decide +kernel
theorem dX10_occurs_30 : decode cX10_occurs 30 = .ok (.ireturn, 1) := by decide +kernel
theorem dX10_occurs_31 : decode cX10_occurs 31 = .ok (.aload_n 0, 1) := by decide +kernel
theorem dX10_occurs_32 : decode cX10_occurs 32 = .ok (.getfield 59, 3) := by decide +kernel
theorem dX10_occurs_35 : decode cX10_occurs 35 = .ok (.iload_n 3, 1) := by decide +kernel
theorem dX10_occurs_36 : decode cX10_occurs 36 = .ok (.baload, 1) := by decide +kernel
theorem dX10_occurs_37 : decode cX10_occurs 37 = .ok (.ifCond .eq 5, 3) := by decide +kernel
theorem dX10_occurs_40 : decode cX10_occurs 40 = .ok (.iconst 0, 1) := by decide +kernel
theorem dX10_occurs_41 : decode cX10_occurs 41 = .ok (.ireturn, 1) := by decide +kernel
theorem dX10_occurs_42 : decode cX10_occurs 42 = .ok (.aload_n 0, 1) := by decide +kernel
theorem dX10_occurs_43 : decode cX10_occurs 43 = .ok (.getfield 59, 3) := by decide +kernel
theorem dX10_occurs_46 : decode cX10_occurs 46 = .ok (.iload_n 3, 1) := by decide +kernel
theorem dX10_occurs_47 : decode cX10_occurs 47 = .ok (.iconst 1, 1) := by decide +kernel
theorem dX10_occurs_48 : decode cX10_occurs 48 = .ok (.bastore, 1) := by decide +kernel
theorem dX10_occurs_49 : decode cX10_occurs 49 = .ok (.aload_n 0, 1) := by decide +kernel
theorem dX10_occurs_50 : decode cX10_occurs 50 = .ok (.iload_n 1, 1) := by decide +kernel
theorem dX10_occurs_51 : decode cX10_occurs 51 = .ok (.aload_n 0, 1) := by decide +kernel
theorem dX10_occurs_52 : decode cX10_occurs 52 = .ok (.getfield 53, 3) := by decide +kernel
theorem dX10_occurs_55 : decode cX10_occurs 55 = .ok (.iload_n 3, 1) := by decide +kernel
theorem dX10_occurs_56 : decode cX10_occurs 56 = .ok (.iaload, 1) := by decide +kernel
theorem dX10_occurs_57 : decode cX10_occurs 57 = .ok (.invokevirtual 149, 3) := by decide +kernel
theorem dX10_occurs_60 : decode cX10_occurs 60 = .ok (.ifCond .ne 17, 3) := by decide +kernel
theorem dX10_occurs_63 : decode cX10_occurs 63 = .ok (.aload_n 0, 1) := by decide +kernel
theorem dX10_occurs_64 : decode cX10_occurs 64 = .ok (.iload_n 1, 1) := by decide +kernel
theorem dX10_occurs_65 : decode cX10_occurs 65 = .ok (.aload_n 0, 1) := by decide +kernel
theorem dX10_occurs_66 : decode cX10_occurs 66 = .ok (.getfield 56, 3) := by decide +kernel
theorem dX10_occurs_69 : decode cX10_occurs 69 = .ok (.iload_n 3, 1) := by decide +kernel
theorem dX10_occurs_70 : decode cX10_occurs 70 = .ok (.iaload, 1) := by decide +kernel
theorem dX10_occurs_71 : decode cX10_occurs 71 = .ok (.invokevirtual 149, 3) := by decide +kernel
theorem dX10_occurs_74 : decode cX10_occurs 74 = .ok (.ifCond .eq 7, 3) := by decide +kernel
theorem dX10_occurs_77 : decode cX10_occurs 77 = .ok (.iconst 1, 1) := by decide +kernel
theorem dX10_occurs_78 : decode cX10_occurs 78 = .ok (.goto 4, 3) := by decide +kernel
theorem dX10_occurs_81 : decode cX10_occurs 81 = .ok (.iconst 0, 1) := by decide +kernel
theorem dX10_occurs_82 : decode cX10_occurs 82 = .ok (.ireturn, 1) := by decide +kernel
def fX10_occurs (N : Nat) : Nat → Nat → Int32 → Int32 → qM → Option (Int32 × qM)
  | 0, _, _, _, _ => none
  | k + 1, v0, v1, v2, m0 =>
    (qChk m0 v0 10 (fX10_seek N v0 v2 m0)).bind fun b1 =>
    (qgR b1.2 v0 10 18).bind fun x2 =>
    (qaI b1.2 x2 12 b1.1).bind fun x3 =>
    if x3 < 0 then (
    (qgR b1.2 v0 10 22).bind fun x4 =>
    (qaI b1.2 x4 14 b1.1).bind fun x5 =>
    if x5 = 0 then (
    (qgR b1.2 v0 10 22).bind fun x6 =>
    (qwI b1.2 x6 14 b1.1 ((1 : Int32) &&& 1)).bind fun m7 =>
    (qgR m7 v0 10 19).bind fun x8 =>
    (qaI m7 x8 12 b1.1).bind fun x9 =>
    (qChk m7 v0 10 (fX10_occurs N k v0 v1 x9 m7)).bind fun b10 =>
    if b10.1 = 0 then (
    (qgR b10.2 v0 10 20).bind fun x11 =>
    (qaI b10.2 x11 12 b1.1).bind fun x12 =>
    (qChk b10.2 v0 10 (fX10_occurs N k v0 v1 x12 b10.2)).bind fun b13 =>
    if b13.1 = 0 then (
    some ((0 : Int32), b13.2)
    ) else (
    some ((1 : Int32), b13.2)
    )
    ) else (
    some ((1 : Int32), b10.2)
    )
    ) else (
    some ((0 : Int32), b1.2)
    )
    ) else (
    (qgR b1.2 v0 10 18).bind fun x14 =>
    (qaI b1.2 x14 12 b1.1).bind fun x15 =>
    if x15 = v1 then (
    some ((1 : Int32), b1.2)
    ) else (
    some ((0 : Int32), b1.2)
    )
    )
set_option maxRecDepth 100000 in
theorem wX10_occurs {E : qE} {N : Nat} : ∀ {k d : Nat} (hd : k + 1 ≤ d) {m0 : qM} {b : Int32 × qM} {v0 : Nat} {v1 : Int32} {v2 : Int32} (h : fX10_occurs N k v0 v1 v2 m0 = some b), qRun E yX10_occurs cX10_occurs 4 (some .boolean) d 0 0 [.ref (E.2.1 + v0), .int v1, .int v2] m0 (some (.int b.1), b.2) := by
  intro k
  induction k with
  | zero =>
    intro d hd m0 b v0 v1 v2 h
    cases h
  | succ k ih =>
    intro d hd m0 b v0 v1 v2 h
    have hfr : ∀ (m : qM) (b : Int32 × qM) (v0 : Nat) (v1 : Int32) (v2 : Int32), fX10_occurs N k v0 v1 v2 m = some b → qRun E yX10_occurs cX10_occurs 4 (some .boolean) (d - 1) 0 0 [.ref (E.2.1 + v0), .int v1, .int v2] m (some (.int b.1), b.2) := fun m b v0 v1 v2 h => ih (by omega) h
    have hd : 1 ≤ d := by omega
    have bd : qB E yX10_occurs cX10_occurs 4 (some .boolean) (fun _ => True) d 0 0 0 [(0, .ref (E.2.1 + v0)), (1, .int v1), (2, .int v2)] [] m0 (fX10_occurs N (k + 1) v0 v1 v2 m0) (fun b rr => rr = (some (.int b.1), b.2)) := by
      unfold fX10_occurs
      refine j_aload_n (q := 0) (np := 1) rfl rfl dX10_occurs_0 rfl ?_
      refine j_iload_n (q := 2) (np := 2) rfl rfl dX10_occurs_1 rfl ?_
      refine j_callVi (ci := 10) (np := 5) (bc := 0) (bs := 0) (cb := 0) (cs := 0) (dd := d - 1) (As := [.int v2]) (st := []) caX10_seek mlX10_145 imX10_seek seX10_seek rfl rfl (by decide) (fun b hb => wX10_seek (by omega) hb) (by omega) rfl rfl (Nat.le_of_ble_eq_true rfl) dX10_occurs_2 rfl (fun b1 => ?_)
      refine j_istore_n (np := 6) (lv2 := [(3, .int b1.1), (0, .ref (E.2.1 + v0)), (1, .int v1), (2, .int v2)]) rfl (by decide) dX10_occurs_5 rfl rfl ?_
      refine j_aload_n (q := 1) (np := 7) rfl rfl dX10_occurs_6 rfl ?_
      refine j_gR (np := 10) flX10_50 dX10_occurs_7 rfl (fun x2 => ?_)
      refine j_iload_n (q := 0) (np := 11) rfl rfl dX10_occurs_10 rfl ?_
      refine j_iaload (np := 12) dX10_occurs_11 rfl (fun x3 => ?_)
      refine j_if_lt (tgt := 31) (np := 15) dX10_occurs_12 rfl rfl ?_ ?_
      · refine j_aload_n (q := 1) (np := 32) rfl rfl dX10_occurs_31 rfl ?_
        refine j_gR (np := 35) flX10_59 dX10_occurs_32 rfl (fun x4 => ?_)
        refine j_iload_n (q := 0) (np := 36) rfl rfl dX10_occurs_35 rfl ?_
        refine j_baload (np := 37) dX10_occurs_36 rfl (fun x5 => ?_)
        refine j_if_eq (tgt := 42) (np := 40) dX10_occurs_37 rfl rfl ?_ ?_
        · refine j_aload_n (q := 1) (np := 43) rfl rfl dX10_occurs_42 rfl ?_
          refine j_gR (np := 46) flX10_59 dX10_occurs_43 rfl (fun x6 => ?_)
          refine j_iload_n (q := 0) (np := 47) rfl rfl dX10_occurs_46 rfl ?_
          refine j_iconst (np := 48) ci_1 dX10_occurs_47 rfl ?_
          refine j_bastore (np := 49) dX10_occurs_48 rfl (fun m7 => ?_)
          refine j_aload_n (q := 1) (np := 50) rfl rfl dX10_occurs_49 rfl ?_
          refine j_iload_n (q := 2) (np := 51) rfl rfl dX10_occurs_50 rfl ?_
          refine j_aload_n (q := 1) (np := 52) rfl rfl dX10_occurs_51 rfl ?_
          refine j_gR (np := 55) flX10_53 dX10_occurs_52 rfl (fun x8 => ?_)
          refine j_iload_n (q := 0) (np := 56) rfl rfl dX10_occurs_55 rfl ?_
          refine j_iaload (np := 57) dX10_occurs_56 rfl (fun x9 => ?_)
          refine j_callVi (ci := 10) (np := 60) (bc := 0) (bs := 0) (cb := 0) (cs := 0) (dd := d - 1) (As := [.int v1, .int x9]) (st := []) caX10_occurs mlX10_149 imX10_occurs seX10_occurs rfl rfl (by decide) (fun b hb => hfr _ _ _ _ _ hb) (by omega) rfl rfl (Nat.le_of_ble_eq_true rfl) dX10_occurs_57 rfl (fun b10 => ?_)
          refine j_if_ne (tgt := 77) (np := 63) dX10_occurs_60 rfl rfl ?_ ?_
          · refine j_iconst (np := 78) ci_1 dX10_occurs_77 rfl ?_
            refine j_goto (tgt := 82) dX10_occurs_78 rfl ?_
            exact j_zret rfl dX10_occurs_82 (fun rr h => by rw [z1]; exact h)
          · refine j_aload_n (q := 1) (np := 64) rfl rfl dX10_occurs_63 rfl ?_
            refine j_iload_n (q := 2) (np := 65) rfl rfl dX10_occurs_64 rfl ?_
            refine j_aload_n (q := 1) (np := 66) rfl rfl dX10_occurs_65 rfl ?_
            refine j_gR (np := 69) flX10_56 dX10_occurs_66 rfl (fun x11 => ?_)
            refine j_iload_n (q := 0) (np := 70) rfl rfl dX10_occurs_69 rfl ?_
            refine j_iaload (np := 71) dX10_occurs_70 rfl (fun x12 => ?_)
            refine j_callVi (ci := 10) (np := 74) (bc := 0) (bs := 0) (cb := 0) (cs := 0) (dd := d - 1) (As := [.int v1, .int x12]) (st := []) caX10_occurs mlX10_149 imX10_occurs seX10_occurs rfl rfl (by decide) (fun b hb => hfr _ _ _ _ _ hb) (by omega) rfl rfl (Nat.le_of_ble_eq_true rfl) dX10_occurs_71 rfl (fun b13 => ?_)
            refine j_if_eq (tgt := 81) (np := 77) dX10_occurs_74 rfl rfl ?_ ?_
            · refine j_iconst (np := 82) ci_0 dX10_occurs_81 rfl ?_
              exact j_zret rfl dX10_occurs_82 (fun rr h => by rw [z0]; exact h)
            · refine j_iconst (np := 78) ci_1 dX10_occurs_77 rfl ?_
              refine j_goto (tgt := 82) dX10_occurs_78 rfl ?_
              exact j_zret rfl dX10_occurs_82 (fun rr h => by rw [z1]; exact h)
        · refine j_iconst (np := 41) ci_0 dX10_occurs_40 rfl ?_
          exact j_zret rfl dX10_occurs_41 (fun rr h => by rw [z0]; exact h)
      · refine j_aload_n (q := 1) (np := 16) rfl rfl dX10_occurs_15 rfl ?_
        refine j_gR (np := 19) flX10_50 dX10_occurs_16 rfl (fun x14 => ?_)
        refine j_iload_n (q := 0) (np := 20) rfl rfl dX10_occurs_19 rfl ?_
        refine j_iaload (np := 21) dX10_occurs_20 rfl (fun x15 => ?_)
        refine j_iload_n (q := 2) (np := 22) rfl rfl dX10_occurs_21 rfl ?_
        refine j_icmp_ne (tgt := 29) (np := 25) dX10_occurs_22 rfl rfl ?_ ?_
        · refine j_iconst (np := 30) ci_0 dX10_occurs_29 rfl ?_
          exact j_zret rfl dX10_occurs_30 (fun rr h => by rw [z0]; exact h)
        · refine j_iconst (np := 26) ci_1 dX10_occurs_25 rfl ?_
          refine j_goto (tgt := 30) dX10_occurs_26 rfl ?_
          exact j_zret rfl dX10_occurs_30 (fun rr h => by rw [z1]; exact h)
    exact q_met pnX10 (Nat.le_of_ble_eq_true rfl) (bd b _ h rfl)
theorem dX10_unifies_0 : decode cX10_unifies 0 = .ok (.aload_n 0, 1) := by decide +kernel
theorem dX10_unifies_1 : decode cX10_unifies 1 = .ok (.iload_n 1, 1) := by decide +kernel
theorem dX10_unifies_2 : decode cX10_unifies 2 = .ok (.invokevirtual 145, 3) := by decide +kernel
theorem dX10_unifies_5 : decode cX10_unifies 5 = .ok (.istore_n 3, 1) := by decide +kernel
theorem dX10_unifies_6 : decode cX10_unifies 6 = .ok (.aload_n 0, 1) := by decide +kernel
theorem dX10_unifies_7 : decode cX10_unifies 7 = .ok (.iload_n 2, 1) := by decide +kernel
theorem dX10_unifies_8 : decode cX10_unifies 8 = .ok (.invokevirtual 145, 3) := by decide +kernel
theorem dX10_unifies_11 : decode cX10_unifies 11 = .ok (.istore 4, 2) := by decide +kernel
theorem dX10_unifies_13 : decode cX10_unifies 13 = .ok (.iload_n 3, 1) := by decide +kernel
theorem dX10_unifies_14 : decode cX10_unifies 14 = .ok (.iload 4, 2) := by decide +kernel
theorem dX10_unifies_16 : decode cX10_unifies 16 = .ok (.if_icmp .eq 28, 3) := by decide +kernel
theorem dX10_unifies_19 : decode cX10_unifies 19 = .ok (.aload_n 0, 1) := by decide +kernel
theorem dX10_unifies_20 : decode cX10_unifies 20 = .ok (.getfield 50, 3) := by decide +kernel
theorem dX10_unifies_23 : decode cX10_unifies 23 = .ok (.iload_n 3, 1) := by decide +kernel
theorem dX10_unifies_24 : decode cX10_unifies 24 = .ok (.iaload, 1) := by decide +kernel
theorem dX10_unifies_25 : decode cX10_unifies 25 = .ok (.ifCond .lt 21, 3) := by decide +kernel
theorem dX10_unifies_28 : decode cX10_unifies 28 = .ok (.aload_n 0, 1) := by decide +kernel
theorem dX10_unifies_29 : decode cX10_unifies 29 = .ok (.getfield 50, 3) := by decide +kernel
theorem dX10_unifies_32 : decode cX10_unifies 32 = .ok (.iload_n 3, 1) := by decide +kernel
theorem dX10_unifies_33 : decode cX10_unifies 33 = .ok (.iaload, 1) := by decide +kernel
theorem dX10_unifies_34 : decode cX10_unifies 34 = .ok (.aload_n 0, 1) := by decide +kernel
theorem dX10_unifies_35 : decode cX10_unifies 35 = .ok (.getfield 50, 3) := by decide +kernel
theorem dX10_unifies_38 : decode cX10_unifies 38 = .ok (.iload 4, 2) := by decide +kernel
theorem dX10_unifies_40 : decode cX10_unifies 40 = .ok (.iaload, 1) := by decide +kernel
theorem dX10_unifies_41 : decode cX10_unifies 41 = .ok (.if_icmp .ne 5, 3) := by decide +kernel
theorem dX10_unifies_44 : decode cX10_unifies 44 = .ok (.iconst 1, 1) := by decide +kernel
theorem dX10_unifies_45 : decode cX10_unifies 45 = .ok (.ireturn, 1) := by decide +kernel
theorem dX10_unifies_46 : decode cX10_unifies 46 = .ok (.aload_n 0, 1) := by decide +kernel
theorem dX10_unifies_47 : decode cX10_unifies 47 = .ok (.getfield 50, 3) := by decide +kernel
theorem dX10_unifies_50 : decode cX10_unifies 50 = .ok (.iload_n 3, 1) := by decide +kernel
theorem dX10_unifies_51 : decode cX10_unifies 51 = .ok (.iaload, 1) := by decide +kernel
theorem dX10_unifies_52 : decode cX10_unifies 52 = .ok (.ifCond .ge 21, 3) := by decide +kernel
theorem dX10_unifies_55 : decode cX10_unifies 55 = .ok (.aload_n 0, 1) := by decide +kernel
theorem dX10_unifies_56 : decode cX10_unifies 56 = .ok (.getfield 50, 3) := by decide +kernel
theorem dX10_unifies_59 : decode cX10_unifies 59 = .ok (.iload 4, 2) := by decide +kernel
theorem dX10_unifies_61 : decode cX10_unifies 61 = .ok (.iaload, 1) := by decide +kernel
theorem dX10_unifies_62 : decode cX10_unifies 62 = .ok (.ifCond .lt 11, 3) := by decide +kernel
theorem dX10_unifies_65 : decode cX10_unifies 65 = .ok (.aload_n 0, 1) := by decide +kernel
theorem dX10_unifies_66 : decode cX10_unifies 66 = .ok (.iload 4, 2) := by decide +kernel
theorem dX10_unifies_68 : decode cX10_unifies 68 = .ok (.iload_n 3, 1) := by decide +kernel
theorem dX10_unifies_69 : decode cX10_unifies 69 = .ok (.invokevirtual 153, 3) := by decide +kernel
theorem dX10_unifies_72 : decode cX10_unifies 72 = .ok (.ireturn, 1) := by decide +kernel
theorem dX10_unifies_73 : decode cX10_unifies 73 = .ok (.aload_n 0, 1) := by decide +kernel
theorem dX10_unifies_74 : decode cX10_unifies 74 = .ok (.getfield 50, 3) := by decide +kernel
theorem dX10_unifies_77 : decode cX10_unifies 77 = .ok (.iload_n 3, 1) := by decide +kernel
theorem dX10_unifies_78 : decode cX10_unifies 78 = .ok (.iaload, 1) := by decide +kernel
theorem dX10_unifies_79 : decode cX10_unifies 79 = .ok (.ifCond .lt 61, 3) := by decide +kernel
theorem dX10_unifies_82 : decode cX10_unifies 82 = .ok (.iconst 0, 1) := by decide +kernel
theorem dX10_unifies_83 : decode cX10_unifies 83 = .ok (.istore 5, 2) := by decide +kernel
theorem dX10_unifies_85 : decode cX10_unifies 85 = .ok (.iload 5, 2) := by decide +kernel
theorem dX10_unifies_87 : decode cX10_unifies 87 = .ok (.aload_n 0, 1) := by decide +kernel
theorem dX10_unifies_88 : decode cX10_unifies 88 = .ok (.getfield 135, 3) := by decide +kernel
theorem dX10_unifies_91 : decode cX10_unifies 91 = .ok (.if_icmp .ge 17, 3) := by decide +kernel
theorem dX10_unifies_94 : decode cX10_unifies 94 = .ok (.aload_n 0, 1) := by decide +kernel
theorem dX10_unifies_95 : decode cX10_unifies 95 = .ok (.getfield 59, 3) := by decide +kernel
theorem dX10_unifies_98 : decode cX10_unifies 98 = .ok (.iload 5, 2) := by decide +kernel
theorem dX10_unifies_100 : decode cX10_unifies 100 = .ok (.iconst 0, 1) := by decide +kernel
theorem dX10_unifies_101 : decode cX10_unifies 101 = .ok (.bastore, 1) := by decide +kernel
theorem dX10_unifies_102 : decode cX10_unifies 102 = .ok (.iinc 5 1, 3) := by decide +kernel
theorem dX10_unifies_105 : decode cX10_unifies 105 = .ok (.goto (-20), 3) := by decide +kernel
theorem dX10_unifies_108 : decode cX10_unifies 108 = .ok (.aload_n 0, 1) := by decide +kernel
theorem dX10_unifies_109 : decode cX10_unifies 109 = .ok (.aload_n 0, 1) := by decide +kernel
theorem dX10_unifies_110 : decode cX10_unifies 110 = .ok (.getfield 50, 3) := by decide +kernel
theorem dX10_unifies_113 : decode cX10_unifies 113 = .ok (.iload_n 3, 1) := by decide +kernel
theorem dX10_unifies_114 : decode cX10_unifies 114 = .ok (.iaload, 1) := by decide +kernel
theorem dX10_unifies_115 : decode cX10_unifies 115 = .ok (.iload 4, 2) := by decide +kernel
theorem dX10_unifies_117 : decode cX10_unifies 117 = .ok (.invokevirtual 149, 3) := by decide +kernel
theorem dX10_unifies_120 : decode cX10_unifies 120 = .ok (.ifCond .eq 5, 3) := by decide +kernel
theorem dX10_unifies_123 : decode cX10_unifies 123 = .ok (.iconst 0, 1) := by decide +kernel
theorem dX10_unifies_124 : decode cX10_unifies 124 = .ok (.ireturn, 1) := by decide +kernel
theorem dX10_unifies_125 : decode cX10_unifies 125 = .ok (.aload_n 0, 1) := by decide +kernel
theorem dX10_unifies_126 : decode cX10_unifies 126 = .ok (.getfield 87, 3) := by decide +kernel
theorem dX10_unifies_129 : decode cX10_unifies 129 = .ok (.aload_n 0, 1) := by decide +kernel
theorem dX10_unifies_130 : decode cX10_unifies 130 = .ok (.getfield 50, 3) := by decide +kernel
theorem dX10_unifies_133 : decode cX10_unifies 133 = .ok (.iload_n 3, 1) := by decide +kernel
theorem dX10_unifies_134 : decode cX10_unifies 134 = .ok (.iaload, 1) := by decide +kernel
theorem dX10_unifies_135 : decode cX10_unifies 135 = .ok (.iload 4, 2) := by decide +kernel
theorem dX10_unifies_137 : decode cX10_unifies 137 = .ok (.iastore, 1) := by decide +kernel
theorem dX10_unifies_138 : decode cX10_unifies 138 = .ok (.iconst 1, 1) := by decide +kernel
theorem dX10_unifies_139 : decode cX10_unifies 139 = .ok (.ireturn, 1) := by decide +kernel
theorem dX10_unifies_140 : decode cX10_unifies 140 = .ok (.aload_n 0, 1) := by decide +kernel
theorem dX10_unifies_141 : decode cX10_unifies 141 = .ok (.aload_n 0, 1) := by decide +kernel
theorem dX10_unifies_142 : decode cX10_unifies 142 = .ok (.getfield 53, 3) := by decide +kernel
theorem dX10_unifies_145 : decode cX10_unifies 145 = .ok (.iload_n 3, 1) := by decide +kernel
theorem dX10_unifies_146 : decode cX10_unifies 146 = .ok (.iaload, 1) := by decide +kernel
theorem dX10_unifies_147 : decode cX10_unifies 147 = .ok (.aload_n 0, 1) := by decide +kernel
theorem dX10_unifies_148 : decode cX10_unifies 148 = .ok (.getfield 53, 3) := by decide +kernel
theorem dX10_unifies_151 : decode cX10_unifies 151 = .ok (.iload 4, 2) := by decide +kernel
theorem dX10_unifies_153 : decode cX10_unifies 153 = .ok (.iaload, 1) := by decide +kernel
theorem dX10_unifies_154 : decode cX10_unifies 154 = .ok (.invokevirtual 153, 3) := by decide +kernel
theorem dX10_unifies_157 : decode cX10_unifies 157 = .ok (.ifCond .eq 27, 3) := by decide +kernel
theorem dX10_unifies_160 : decode cX10_unifies 160 = .ok (.aload_n 0, 1) := by decide +kernel
theorem dX10_unifies_161 : decode cX10_unifies 161 = .ok (.aload_n 0, 1) := by decide +kernel
theorem dX10_unifies_162 : decode cX10_unifies 162 = .ok (.getfield 56, 3) := by decide +kernel
theorem dX10_unifies_165 : decode cX10_unifies 165 = .ok (.iload_n 3, 1) := by decide +kernel
theorem dX10_unifies_166 : decode cX10_unifies 166 = .ok (.iaload, 1) := by decide +kernel
theorem dX10_unifies_167 : decode cX10_unifies 167 = .ok (.aload_n 0, 1) := by decide +kernel
theorem dX10_unifies_168 : decode cX10_unifies 168 = .ok (.getfield 56, 3) := by decide +kernel
theorem dX10_unifies_171 : decode cX10_unifies 171 = .ok (.iload 4, 2) := by decide +kernel
theorem dX10_unifies_173 : decode cX10_unifies 173 = .ok (.iaload, 1) := by decide +kernel
theorem dX10_unifies_174 : decode cX10_unifies 174 = .ok (.invokevirtual 153, 3) := by decide +kernel
theorem dX10_unifies_177 : decode cX10_unifies 177 = .ok (.ifCond .eq 7, 3) := by decide +kernel
theorem dX10_unifies_180 : decode cX10_unifies 180 = .ok (.iconst 1, 1) := by decide +kernel
theorem dX10_unifies_181 : decode cX10_unifies 181 = .ok (.goto 4, 3) := by decide +kernel
theorem dX10_unifies_184 : decode cX10_unifies 184 = .ok (.iconst 0, 1) := by decide +kernel
theorem dX10_unifies_185 : decode cX10_unifies 185 = .ok (.ireturn, 1) := by decide +kernel
def lX10_unifies_85 (N : Nat) (fr : Nat → Int32 → Int32 → qM → Option (Int32 × qM)) (v0 : Nat) (v3 : Int32) (v4 : Int32) : Nat → Int32 → qM → Option (qM)
  | 0, _, _ => none
  | n + 1, v5, m0 =>
    (qgI m0 v0 10 21).bind fun x1 =>
    if x1 ≤ v5 then (
    some m0
    ) else (
    (qgR m0 v0 10 22).bind fun x2 =>
    (qwI m0 x2 14 v5 ((0 : Int32) &&& 1)).bind fun m3 =>
    lX10_unifies_85 N fr v0 v3 v4 n (v5 + (1 : Int32)) m3
    )
set_option maxRecDepth 100000 in
theorem lbX10_unifies_85 {E : qE} {N d bc bs : Nat} (hd : 132 ≤ d) {fr : Nat → Int32 → Int32 → qM → Option (Int32 × qM)} (hfr : ∀ (m : qM) (b : Int32 × qM) (v0 : Nat) (v1 : Int32) (v2 : Int32), fr v0 v1 v2 m = some b → qRun E yX10_unifies cX10_unifies 6 (some .boolean) (d - 1) 0 0 [.ref (E.2.1 + v0), .int v1, .int v2] m (some (.int b.1), b.2)) {v0 : Nat} {v3 : Int32} {v4 : Int32} : ∀ (n : Nat) (v5 : Int32) (m0 : qM), qB E yX10_unifies cX10_unifies 6 (some .boolean) (fun _ => True) d bc bs 85 [(0, .ref (E.2.1 + v0)), (3, .int v3), (4, .int v4), (5, .int v5)] [] m0 (lX10_unifies_85 N fr v0 v3 v4 n v5 m0) (fun o rr => qJ E yX10_unifies cX10_unifies 6 (some .boolean) (fun _ => True) d bc bs 108 [(0, .ref (E.2.1 + v0)), (3, .int v3), (4, .int v4)] [] o rr) := by
  intro n
  induction n with
  | zero =>
    intro v5 m0
    exact j_none
  | succ n ih =>
    intro v5 m0
    unfold lX10_unifies_85
    refine j_iload (q := 3) (np := 87) rfl dX10_unifies_85 rfl ?_
    refine j_aload_n (q := 0) (np := 88) rfl rfl dX10_unifies_87 rfl ?_
    refine j_gI (np := 91) flX10_135 dX10_unifies_88 rfl (fun x1 => ?_)
    refine j_icmp_ge (tgt := 108) (np := 94) dX10_unifies_91 rfl rfl ?_ ?_
    · refine j_sub (lv2 := [(0, .ref (E.2.1 + v0)), (3, .int v3), (4, .int v4)]) [0, 1, 2] rfl ?_
      exact j_exit (fun rr h => h)
    · refine j_aload_n (q := 0) (np := 95) rfl rfl dX10_unifies_94 rfl ?_
      refine j_gR (np := 98) flX10_59 dX10_unifies_95 rfl (fun x2 => ?_)
      refine j_iload (q := 3) (np := 100) rfl dX10_unifies_98 rfl ?_
      refine j_iconst (np := 101) ci_0 dX10_unifies_100 rfl ?_
      refine j_bastore (np := 102) dX10_unifies_101 rfl (fun m3 => ?_)
      refine j_iinc (q := 3) (np := 105) (lv2 := [(5, .int (v5 + (1 : Int32))), (0, .ref (E.2.1 + v0)), (3, .int v3), (4, .int v4)]) rfl (congrArg _ ci_1) (by decide) dX10_unifies_102 rfl rfl ?_
      refine j_goto (tgt := 85) dX10_unifies_105 rfl ?_
      refine j_sub (lv2 := [(0, .ref (E.2.1 + v0)), (3, .int v3), (4, .int v4), (5, .int (v5 + (1 : Int32)))]) [1, 2, 3, 0] rfl ?_
      exact ih _ _
def kX10_unifies_73 (N : Nat) (fr : Nat → Int32 → Int32 → qM → Option (Int32 × qM)) (v0 : Nat) (v3 : Int32) (v4 : Int32)  (m0 : qM) : Option (Int32 × qM) :=
  (qgR m0 v0 10 18).bind fun x1 =>
  (qaI m0 x1 12 v3).bind fun x2 =>
  if x2 < 0 then (
  (qgR m0 v0 10 19).bind fun x3 =>
  (qaI m0 x3 12 v3).bind fun x4 =>
  (qgR m0 v0 10 19).bind fun x5 =>
  (qaI m0 x5 12 v4).bind fun x6 =>
  (qChk m0 v0 10 (fr v0 x4 x6 m0)).bind fun b7 =>
  if b7.1 = 0 then (
  some ((0 : Int32), b7.2)
  ) else (
  (qgR b7.2 v0 10 20).bind fun x8 =>
  (qaI b7.2 x8 12 v3).bind fun x9 =>
  (qgR b7.2 v0 10 20).bind fun x10 =>
  (qaI b7.2 x10 12 v4).bind fun x11 =>
  (qChk b7.2 v0 10 (fr v0 x9 x11 b7.2)).bind fun b12 =>
  if b12.1 = 0 then (
  some ((0 : Int32), b12.2)
  ) else (
  some ((1 : Int32), b12.2)
  )
  )
  ) else (
  (lX10_unifies_85 N fr v0 v3 v4 N (0 : Int32) m0).bind fun o13 =>
  (qgR o13 v0 10 18).bind fun x14 =>
  (qaI o13 x14 12 v3).bind fun x15 =>
  (qChk o13 v0 10 (fX10_occurs N kR v0 x15 v4 o13)).bind fun b16 =>
  if b16.1 = 0 then (
  (qgR b16.2 v0 10 37).bind fun x17 =>
  (qgR b16.2 v0 10 18).bind fun x18 =>
  (qaI b16.2 x18 12 v3).bind fun x19 =>
  (qwI b16.2 x17 12 x19 v4).bind fun m20 =>
  some ((1 : Int32), m20)
  ) else (
  some ((0 : Int32), b16.2)
  )
  )
set_option maxRecDepth 100000 in
theorem kbX10_unifies_73 {E : qE} {N d bc bs : Nat} (hd : 132 ≤ d) {fr : Nat → Int32 → Int32 → qM → Option (Int32 × qM)} (hfr : ∀ (m : qM) (b : Int32 × qM) (v0 : Nat) (v1 : Int32) (v2 : Int32), fr v0 v1 v2 m = some b → qRun E yX10_unifies cX10_unifies 6 (some .boolean) (d - 1) 0 0 [.ref (E.2.1 + v0), .int v1, .int v2] m (some (.int b.1), b.2)) {v0 : Nat} {v3 : Int32} {v4 : Int32}  {m0 : qM} : qB E yX10_unifies cX10_unifies 6 (some .boolean) (fun _ => True) d bc bs 73 [(0, .ref (E.2.1 + v0)), (3, .int v3), (4, .int v4)] [] m0 (kX10_unifies_73 N fr v0 v3 v4 m0) (fun b rr => rr = (some (.int b.1), b.2)) := by
  unfold kX10_unifies_73
  refine j_aload_n (q := 0) (np := 74) rfl rfl dX10_unifies_73 rfl ?_
  refine j_gR (np := 77) flX10_50 dX10_unifies_74 rfl (fun x1 => ?_)
  refine j_iload_n (q := 1) (np := 78) rfl rfl dX10_unifies_77 rfl ?_
  refine j_iaload (np := 79) dX10_unifies_78 rfl (fun x2 => ?_)
  refine j_if_lt (tgt := 140) (np := 82) dX10_unifies_79 rfl rfl ?_ ?_
  · refine j_aload_n (q := 0) (np := 141) rfl rfl dX10_unifies_140 rfl ?_
    refine j_aload_n (q := 0) (np := 142) rfl rfl dX10_unifies_141 rfl ?_
    refine j_gR (np := 145) flX10_53 dX10_unifies_142 rfl (fun x3 => ?_)
    refine j_iload_n (q := 1) (np := 146) rfl rfl dX10_unifies_145 rfl ?_
    refine j_iaload (np := 147) dX10_unifies_146 rfl (fun x4 => ?_)
    refine j_aload_n (q := 0) (np := 148) rfl rfl dX10_unifies_147 rfl ?_
    refine j_gR (np := 151) flX10_53 dX10_unifies_148 rfl (fun x5 => ?_)
    refine j_iload (q := 2) (np := 153) rfl dX10_unifies_151 rfl ?_
    refine j_iaload (np := 154) dX10_unifies_153 rfl (fun x6 => ?_)
    refine j_callVi (ci := 10) (np := 157) (bc := bc) (bs := bs) (cb := 0) (cs := 0) (dd := d - 1) (As := [.int x4, .int x6]) (st := []) caX10_unifies mlX10_153 imX10_unifies seX10_unifies rfl rfl (by decide) (fun b hb => hfr _ _ _ _ _ hb) (by omega) rfl rfl (Nat.le_of_ble_eq_true rfl) dX10_unifies_154 rfl (fun b7 => ?_)
    refine j_if_eq (tgt := 184) (np := 160) dX10_unifies_157 rfl rfl ?_ ?_
    · refine j_iconst (np := 185) ci_0 dX10_unifies_184 rfl ?_
      exact j_zret rfl dX10_unifies_185 (fun rr h => by rw [z0]; exact h)
    · refine j_aload_n (q := 0) (np := 161) rfl rfl dX10_unifies_160 rfl ?_
      refine j_aload_n (q := 0) (np := 162) rfl rfl dX10_unifies_161 rfl ?_
      refine j_gR (np := 165) flX10_56 dX10_unifies_162 rfl (fun x8 => ?_)
      refine j_iload_n (q := 1) (np := 166) rfl rfl dX10_unifies_165 rfl ?_
      refine j_iaload (np := 167) dX10_unifies_166 rfl (fun x9 => ?_)
      refine j_aload_n (q := 0) (np := 168) rfl rfl dX10_unifies_167 rfl ?_
      refine j_gR (np := 171) flX10_56 dX10_unifies_168 rfl (fun x10 => ?_)
      refine j_iload (q := 2) (np := 173) rfl dX10_unifies_171 rfl ?_
      refine j_iaload (np := 174) dX10_unifies_173 rfl (fun x11 => ?_)
      refine j_callVi (ci := 10) (np := 177) (bc := bc) (bs := bs) (cb := 0) (cs := 0) (dd := d - 1) (As := [.int x9, .int x11]) (st := []) caX10_unifies mlX10_153 imX10_unifies seX10_unifies rfl rfl (by decide) (fun b hb => hfr _ _ _ _ _ hb) (by omega) rfl rfl (Nat.le_of_ble_eq_true rfl) dX10_unifies_174 rfl (fun b12 => ?_)
      refine j_if_eq (tgt := 184) (np := 180) dX10_unifies_177 rfl rfl ?_ ?_
      · refine j_iconst (np := 185) ci_0 dX10_unifies_184 rfl ?_
        exact j_zret rfl dX10_unifies_185 (fun rr h => by rw [z0]; exact h)
      · refine j_iconst (np := 181) ci_1 dX10_unifies_180 rfl ?_
        refine j_goto (tgt := 185) dX10_unifies_181 rfl ?_
        exact j_zret rfl dX10_unifies_185 (fun rr h => by rw [z1]; exact h)
  · refine j_iconst (np := 83) ci_0 dX10_unifies_82 rfl ?_
    refine j_istore (np := 85) (lv2 := [(5, .int (0 : Int32)), (0, .ref (E.2.1 + v0)), (3, .int v3), (4, .int v4)]) (by decide) dX10_unifies_83 rfl rfl ?_
    refine j_sub (lv2 := [(0, .ref (E.2.1 + v0)), (3, .int v3), (4, .int v4), (5, .int (0 : Int32))]) [1, 2, 3, 0] rfl ?_
    refine j_loop (xp := 108) (lvX := fun o13 => [(0, .ref (E.2.1 + v0)), (3, .int v3), (4, .int v4)]) (mX := fun o13 => o13) (lbX10_unifies_85 hd hfr _ _ _) (fun o13 => ?_)
    refine j_aload_n (q := 0) (np := 109) rfl rfl dX10_unifies_108 rfl ?_
    refine j_aload_n (q := 0) (np := 110) rfl rfl dX10_unifies_109 rfl ?_
    refine j_gR (np := 113) flX10_50 dX10_unifies_110 rfl (fun x14 => ?_)
    refine j_iload_n (q := 1) (np := 114) rfl rfl dX10_unifies_113 rfl ?_
    refine j_iaload (np := 115) dX10_unifies_114 rfl (fun x15 => ?_)
    refine j_iload (q := 2) (np := 117) rfl dX10_unifies_115 rfl ?_
    refine j_callVi (ci := 10) (np := 120) (bc := bc) (bs := bs) (cb := 0) (cs := 0) (dd := d - 1) (As := [.int x15, .int v4]) (st := []) caX10_occurs mlX10_149 imX10_occurs seX10_occurs rfl rfl (by decide) (fun b hb => wX10_occurs (by show 130 + _ ≤ _; omega) hb) (by omega) rfl rfl (Nat.le_of_ble_eq_true rfl) dX10_unifies_117 rfl (fun b16 => ?_)
    refine j_if_eq (tgt := 125) (np := 123) dX10_unifies_120 rfl rfl ?_ ?_
    · refine j_aload_n (q := 0) (np := 126) rfl rfl dX10_unifies_125 rfl ?_
      refine j_gR (np := 129) flX10_87 dX10_unifies_126 rfl (fun x17 => ?_)
      refine j_aload_n (q := 0) (np := 130) rfl rfl dX10_unifies_129 rfl ?_
      refine j_gR (np := 133) flX10_50 dX10_unifies_130 rfl (fun x18 => ?_)
      refine j_iload_n (q := 1) (np := 134) rfl rfl dX10_unifies_133 rfl ?_
      refine j_iaload (np := 135) dX10_unifies_134 rfl (fun x19 => ?_)
      refine j_iload (q := 2) (np := 137) rfl dX10_unifies_135 rfl ?_
      refine j_iastore (np := 138) dX10_unifies_137 rfl (fun m20 => ?_)
      refine j_iconst (np := 139) ci_1 dX10_unifies_138 rfl ?_
      exact j_zret rfl dX10_unifies_139 (fun rr h => by rw [z1]; exact h)
    · refine j_iconst (np := 124) ci_0 dX10_unifies_123 rfl ?_
      exact j_zret rfl dX10_unifies_124 (fun rr h => by rw [z0]; exact h)
def kX10_unifies_46 (N : Nat) (fr : Nat → Int32 → Int32 → qM → Option (Int32 × qM)) (v0 : Nat) (v3 : Int32) (v4 : Int32)  (m0 : qM) : Option (Int32 × qM) :=
  (qgR m0 v0 10 18).bind fun x1 =>
  (qaI m0 x1 12 v3).bind fun x2 =>
  if 0 ≤ x2 then (
  kX10_unifies_73 N fr v0 v3 v4 m0
  ) else (
  (qgR m0 v0 10 18).bind fun x3 =>
  (qaI m0 x3 12 v4).bind fun x4 =>
  if x4 < 0 then (
  kX10_unifies_73 N fr v0 v3 v4 m0
  ) else (
  (qChk m0 v0 10 (fr v0 v4 v3 m0)).bind fun b5 =>
  some (b5.1 &&& 1, b5.2)
  )
  )
set_option maxRecDepth 100000 in
theorem kbX10_unifies_46 {E : qE} {N d bc bs : Nat} (hd : 132 ≤ d) {fr : Nat → Int32 → Int32 → qM → Option (Int32 × qM)} (hfr : ∀ (m : qM) (b : Int32 × qM) (v0 : Nat) (v1 : Int32) (v2 : Int32), fr v0 v1 v2 m = some b → qRun E yX10_unifies cX10_unifies 6 (some .boolean) (d - 1) 0 0 [.ref (E.2.1 + v0), .int v1, .int v2] m (some (.int b.1), b.2)) {v0 : Nat} {v3 : Int32} {v4 : Int32}  {m0 : qM} : qB E yX10_unifies cX10_unifies 6 (some .boolean) (fun _ => True) d bc bs 46 [(0, .ref (E.2.1 + v0)), (3, .int v3), (4, .int v4)] [] m0 (kX10_unifies_46 N fr v0 v3 v4 m0) (fun b rr => rr = (some (.int b.1), b.2)) := by
  unfold kX10_unifies_46
  refine j_aload_n (q := 0) (np := 47) rfl rfl dX10_unifies_46 rfl ?_
  refine j_gR (np := 50) flX10_50 dX10_unifies_47 rfl (fun x1 => ?_)
  refine j_iload_n (q := 1) (np := 51) rfl rfl dX10_unifies_50 rfl ?_
  refine j_iaload (np := 52) dX10_unifies_51 rfl (fun x2 => ?_)
  refine j_if_ge (tgt := 73) (np := 55) dX10_unifies_52 rfl rfl ?_ ?_
  · exact kbX10_unifies_73 hd hfr
  · refine j_aload_n (q := 0) (np := 56) rfl rfl dX10_unifies_55 rfl ?_
    refine j_gR (np := 59) flX10_50 dX10_unifies_56 rfl (fun x3 => ?_)
    refine j_iload (q := 2) (np := 61) rfl dX10_unifies_59 rfl ?_
    refine j_iaload (np := 62) dX10_unifies_61 rfl (fun x4 => ?_)
    refine j_if_lt (tgt := 73) (np := 65) dX10_unifies_62 rfl rfl ?_ ?_
    · exact kbX10_unifies_73 hd hfr
    · refine j_aload_n (q := 0) (np := 66) rfl rfl dX10_unifies_65 rfl ?_
      refine j_iload (q := 2) (np := 68) rfl dX10_unifies_66 rfl ?_
      refine j_iload_n (q := 1) (np := 69) rfl rfl dX10_unifies_68 rfl ?_
      refine j_callVi (ci := 10) (np := 72) (bc := bc) (bs := bs) (cb := 0) (cs := 0) (dd := d - 1) (As := [.int v4, .int v3]) (st := []) caX10_unifies mlX10_153 imX10_unifies seX10_unifies rfl rfl (by decide) (fun b hb => hfr _ _ _ _ _ hb) (by omega) rfl rfl (Nat.le_of_ble_eq_true rfl) dX10_unifies_69 rfl (fun b5 => ?_)
      exact j_zret rfl dX10_unifies_72 (fun rr h => h)
def fX10_unifies (N : Nat) : Nat → Nat → Int32 → Int32 → qM → Option (Int32 × qM)
  | 0, _, _, _, _ => none
  | k + 1, v0, v1, v2, m0 =>
    (qChk m0 v0 10 (fX10_seek N v0 v1 m0)).bind fun b1 =>
    (qChk b1.2 v0 10 (fX10_seek N v0 v2 b1.2)).bind fun b2 =>
    if b1.1 = b2.1 then (
    some ((1 : Int32), b2.2)
    ) else (
    (qgR b2.2 v0 10 18).bind fun x3 =>
    (qaI b2.2 x3 12 b1.1).bind fun x4 =>
    if x4 < 0 then (
    kX10_unifies_46 N (fX10_unifies N k) v0 b1.1 b2.1 b2.2
    ) else (
    (qgR b2.2 v0 10 18).bind fun x5 =>
    (qaI b2.2 x5 12 b1.1).bind fun x6 =>
    (qgR b2.2 v0 10 18).bind fun x7 =>
    (qaI b2.2 x7 12 b2.1).bind fun x8 =>
    if x6 = x8 then (
    some ((1 : Int32), b2.2)
    ) else (
    kX10_unifies_46 N (fX10_unifies N k) v0 b1.1 b2.1 b2.2
    )
    )
    )
set_option maxRecDepth 100000 in
theorem wX10_unifies {E : qE} {N : Nat} : ∀ {k d : Nat} (hd : k + 132 ≤ d) {m0 : qM} {b : Int32 × qM} {v0 : Nat} {v1 : Int32} {v2 : Int32} (h : fX10_unifies N k v0 v1 v2 m0 = some b), qRun E yX10_unifies cX10_unifies 6 (some .boolean) d 0 0 [.ref (E.2.1 + v0), .int v1, .int v2] m0 (some (.int b.1), b.2) := by
  intro k
  induction k with
  | zero =>
    intro d hd m0 b v0 v1 v2 h
    cases h
  | succ k ih =>
    intro d hd m0 b v0 v1 v2 h
    have hfr : ∀ (m : qM) (b : Int32 × qM) (v0 : Nat) (v1 : Int32) (v2 : Int32), fX10_unifies N k v0 v1 v2 m = some b → qRun E yX10_unifies cX10_unifies 6 (some .boolean) (d - 1) 0 0 [.ref (E.2.1 + v0), .int v1, .int v2] m (some (.int b.1), b.2) := fun m b v0 v1 v2 h => ih (by omega) h
    have hd : 132 ≤ d := by omega
    have bd : qB E yX10_unifies cX10_unifies 6 (some .boolean) (fun _ => True) d 0 0 0 [(0, .ref (E.2.1 + v0)), (1, .int v1), (2, .int v2)] [] m0 (fX10_unifies N (k + 1) v0 v1 v2 m0) (fun b rr => rr = (some (.int b.1), b.2)) := by
      unfold fX10_unifies
      refine j_aload_n (q := 0) (np := 1) rfl rfl dX10_unifies_0 rfl ?_
      refine j_iload_n (q := 1) (np := 2) rfl rfl dX10_unifies_1 rfl ?_
      refine j_callVi (ci := 10) (np := 5) (bc := 0) (bs := 0) (cb := 0) (cs := 0) (dd := d - 1) (As := [.int v1]) (st := []) caX10_seek mlX10_145 imX10_seek seX10_seek rfl rfl (by decide) (fun b hb => wX10_seek (by omega) hb) (by omega) rfl rfl (Nat.le_of_ble_eq_true rfl) dX10_unifies_2 rfl (fun b1 => ?_)
      refine j_istore_n (np := 6) (lv2 := [(3, .int b1.1), (0, .ref (E.2.1 + v0)), (1, .int v1), (2, .int v2)]) rfl (by decide) dX10_unifies_5 rfl rfl ?_
      refine j_aload_n (q := 1) (np := 7) rfl rfl dX10_unifies_6 rfl ?_
      refine j_iload_n (q := 3) (np := 8) rfl rfl dX10_unifies_7 rfl ?_
      refine j_callVi (ci := 10) (np := 11) (bc := 0) (bs := 0) (cb := 0) (cs := 0) (dd := d - 1) (As := [.int v2]) (st := []) caX10_seek mlX10_145 imX10_seek seX10_seek rfl rfl (by decide) (fun b hb => wX10_seek (by omega) hb) (by omega) rfl rfl (Nat.le_of_ble_eq_true rfl) dX10_unifies_8 rfl (fun b2 => ?_)
      refine j_istore (np := 13) (lv2 := [(4, .int b2.1), (3, .int b1.1), (0, .ref (E.2.1 + v0)), (1, .int v1), (2, .int v2)]) (by decide) dX10_unifies_11 rfl rfl ?_
      refine j_iload_n (q := 1) (np := 14) rfl rfl dX10_unifies_13 rfl ?_
      refine j_iload (q := 0) (np := 16) rfl dX10_unifies_14 rfl ?_
      refine j_icmp_eq (tgt := 44) (np := 19) dX10_unifies_16 rfl rfl ?_ ?_
      · refine j_iconst (np := 45) ci_1 dX10_unifies_44 rfl ?_
        exact j_zret rfl dX10_unifies_45 (fun rr h => by rw [z1]; exact h)
      · refine j_aload_n (q := 2) (np := 20) rfl rfl dX10_unifies_19 rfl ?_
        refine j_gR (np := 23) flX10_50 dX10_unifies_20 rfl (fun x3 => ?_)
        refine j_iload_n (q := 1) (np := 24) rfl rfl dX10_unifies_23 rfl ?_
        refine j_iaload (np := 25) dX10_unifies_24 rfl (fun x4 => ?_)
        refine j_if_lt (tgt := 46) (np := 28) dX10_unifies_25 rfl rfl ?_ ?_
        · refine j_sub (lv2 := [(0, .ref (E.2.1 + v0)), (3, .int b1.1), (4, .int b2.1)]) [2, 1, 0] rfl ?_
          exact kbX10_unifies_46 hd hfr
        · refine j_aload_n (q := 2) (np := 29) rfl rfl dX10_unifies_28 rfl ?_
          refine j_gR (np := 32) flX10_50 dX10_unifies_29 rfl (fun x5 => ?_)
          refine j_iload_n (q := 1) (np := 33) rfl rfl dX10_unifies_32 rfl ?_
          refine j_iaload (np := 34) dX10_unifies_33 rfl (fun x6 => ?_)
          refine j_aload_n (q := 2) (np := 35) rfl rfl dX10_unifies_34 rfl ?_
          refine j_gR (np := 38) flX10_50 dX10_unifies_35 rfl (fun x7 => ?_)
          refine j_iload (q := 0) (np := 40) rfl dX10_unifies_38 rfl ?_
          refine j_iaload (np := 41) dX10_unifies_40 rfl (fun x8 => ?_)
          refine j_icmp_ne (tgt := 46) (np := 44) dX10_unifies_41 rfl rfl ?_ ?_
          · refine j_sub (lv2 := [(0, .ref (E.2.1 + v0)), (3, .int b1.1), (4, .int b2.1)]) [2, 1, 0] rfl ?_
            exact kbX10_unifies_46 hd hfr
          · refine j_iconst (np := 45) ci_1 dX10_unifies_44 rfl ?_
            exact j_zret rfl dX10_unifies_45 (fun rr h => by rw [z1]; exact h)
    exact q_met pnX10 (Nat.le_of_ble_eq_true rfl) (bd b _ h rfl)
theorem dX10_writes_0 : decode cX10_writes 0 = .ok (.aload_n 0, 1) := by decide +kernel
theorem dX10_writes_1 : decode cX10_writes 1 = .ok (.iload_n 1, 1) := by decide +kernel
theorem dX10_writes_2 : decode cX10_writes 2 = .ok (.invokevirtual 145, 3) := by decide +kernel
theorem dX10_writes_5 : decode cX10_writes 5 = .ok (.istore_n 2, 1) := by decide +kernel
theorem dX10_writes_6 : decode cX10_writes 6 = .ok (.aload_n 0, 1) := by decide +kernel
theorem dX10_writes_7 : decode cX10_writes 7 = .ok (.getfield 109, 3) := by decide +kernel
theorem dX10_writes_10 : decode cX10_writes 10 = .ok (.bipush 39, 2) := by decide +kernel
theorem dX10_writes_12 : decode cX10_writes 12 = .ok (.if_icmp .ne 5, 3) := by decide +kernel
theorem dX10_writes_15 : decode cX10_writes 15 = .ok (.iconst 0, 1) := by decide +kernel
theorem dX10_writes_16 : decode cX10_writes 16 = .ok (.ireturn, 1) := by decide +kernel
theorem dX10_writes_17 : decode cX10_writes 17 = .ok (.aload_n 0, 1) := by decide +kernel
theorem dX10_writes_18 : decode cX10_writes 18 = .ok (.getfield 50, 3) := by decide +kernel
theorem dX10_writes_21 : decode cX10_writes 21 = .ok (.iload_n 2, 1) := by decide +kernel
theorem dX10_writes_22 : decode cX10_writes 22 = .ok (.iaload, 1) := by decide +kernel
theorem dX10_writes_23 : decode cX10_writes 23 = .ok (.istore_n 3, 1) := by decide +kernel
theorem dX10_writes_24 : decode cX10_writes 24 = .ok (.iload_n 3, 1) := by decide +kernel
theorem dX10_writes_25 : decode cX10_writes 25 = .ok (.ifCond .ge 53, 3) := by decide +kernel
theorem dX10_writes_28 : decode cX10_writes 28 = .ok (.aload_n 0, 1) := by decide +kernel
theorem dX10_writes_29 : decode cX10_writes 29 = .ok (.getfield 66, 3) := by decide +kernel
theorem dX10_writes_32 : decode cX10_writes 32 = .ok (.aload_n 0, 1) := by decide +kernel
theorem dX10_writes_33 : decode cX10_writes 33 = .ok (.dup, 1) := by decide +kernel
theorem dX10_writes_34 : decode cX10_writes 34 = .ok (.getfield 109, 3) := by decide +kernel
theorem dX10_writes_37 : decode cX10_writes 37 = .ok (.dup_x1, 1) := by decide +kernel
theorem dX10_writes_38 : decode cX10_writes 38 = .ok (.iconst 1, 1) := by decide +kernel
theorem dX10_writes_39 : decode cX10_writes 39 = .ok (.iadd, 1) := by decide +kernel
theorem dX10_writes_40 : decode cX10_writes 40 = .ok (.putfield 109, 3) := by decide +kernel
theorem dX10_writes_43 : decode cX10_writes 43 = .ok (.bipush 99, 2) := by decide +kernel
theorem dX10_writes_45 : decode cX10_writes 45 = .ok (.iastore, 1) := by decide +kernel
theorem dX10_writes_46 : decode cX10_writes 46 = .ok (.aload_n 0, 1) := by decide +kernel
theorem dX10_writes_47 : decode cX10_writes 47 = .ok (.aload_n 0, 1) := by decide +kernel
theorem dX10_writes_48 : decode cX10_writes 48 = .ok (.getfield 53, 3) := by decide +kernel
theorem dX10_writes_51 : decode cX10_writes 51 = .ok (.iload_n 2, 1) := by decide +kernel
theorem dX10_writes_52 : decode cX10_writes 52 = .ok (.iaload, 1) := by decide +kernel
theorem dX10_writes_53 : decode cX10_writes 53 = .ok (.invokevirtual 156, 3) := by decide +kernel
theorem dX10_writes_56 : decode cX10_writes 56 = .ok (.ifCond .eq 20, 3) := by decide +kernel
theorem dX10_writes_59 : decode cX10_writes 59 = .ok (.aload_n 0, 1) := by decide +kernel
theorem dX10_writes_60 : decode cX10_writes 60 = .ok (.aload_n 0, 1) := by decide +kernel
theorem dX10_writes_61 : decode cX10_writes 61 = .ok (.getfield 56, 3) := by decide +kernel
theorem dX10_writes_64 : decode cX10_writes 64 = .ok (.iload_n 2, 1) := by decide +kernel
theorem dX10_writes_65 : decode cX10_writes 65 = .ok (.iaload, 1) := by decide +kernel
theorem dX10_writes_66 : decode cX10_writes 66 = .ok (.invokevirtual 156, 3) := by decide +kernel
theorem dX10_writes_69 : decode cX10_writes 69 = .ok (.ifCond .eq 7, 3) := by decide +kernel
theorem dX10_writes_72 : decode cX10_writes 72 = .ok (.iconst 1, 1) := by decide +kernel
theorem dX10_writes_73 : decode cX10_writes 73 = .ok (.goto 4, 3) := by decide +kernel
theorem dX10_writes_76 : decode cX10_writes 76 = .ok (.iconst 0, 1) := by decide +kernel
theorem dX10_writes_77 : decode cX10_writes 77 = .ok (.ireturn, 1) := by decide +kernel
theorem dX10_writes_78 : decode cX10_writes 78 = .ok (.aload_n 0, 1) := by decide +kernel
theorem dX10_writes_79 : decode cX10_writes 79 = .ok (.getfield 63, 3) := by decide +kernel
theorem dX10_writes_82 : decode cX10_writes 82 = .ok (.iload_n 3, 1) := by decide +kernel
theorem dX10_writes_83 : decode cX10_writes 83 = .ok (.iaload, 1) := by decide +kernel
theorem dX10_writes_84 : decode cX10_writes 84 = .ok (.ifCond .ge 20, 3) := by decide +kernel
theorem dX10_writes_87 : decode cX10_writes 87 = .ok (.aload_n 0, 1) := by decide +kernel
theorem dX10_writes_88 : decode cX10_writes 88 = .ok (.getfield 63, 3) := by decide +kernel
theorem dX10_writes_91 : decode cX10_writes 91 = .ok (.iload_n 3, 1) := by decide +kernel
theorem dX10_writes_92 : decode cX10_writes 92 = .ok (.aload_n 0, 1) := by decide +kernel
theorem dX10_writes_93 : decode cX10_writes 93 = .ok (.dup, 1) := by decide +kernel
theorem dX10_writes_94 : decode cX10_writes 94 = .ok (.getfield 160, 3) := by decide +kernel
theorem dX10_writes_97 : decode cX10_writes 97 = .ok (.dup_x1, 1) := by decide +kernel
theorem dX10_writes_98 : decode cX10_writes 98 = .ok (.iconst 1, 1) := by decide +kernel
theorem dX10_writes_99 : decode cX10_writes 99 = .ok (.iadd, 1) := by decide +kernel
theorem dX10_writes_100 : decode cX10_writes 100 = .ok (.putfield 160, 3) := by decide +kernel
theorem dX10_writes_103 : decode cX10_writes 103 = .ok (.iastore, 1) := by decide +kernel
theorem dX10_writes_104 : decode cX10_writes 104 = .ok (.aload_n 0, 1) := by decide +kernel
theorem dX10_writes_105 : decode cX10_writes 105 = .ok (.getfield 66, 3) := by decide +kernel
theorem dX10_writes_108 : decode cX10_writes 108 = .ok (.aload_n 0, 1) := by decide +kernel
theorem dX10_writes_109 : decode cX10_writes 109 = .ok (.dup, 1) := by decide +kernel
theorem dX10_writes_110 : decode cX10_writes 110 = .ok (.getfield 109, 3) := by decide +kernel
theorem dX10_writes_113 : decode cX10_writes 113 = .ok (.dup_x1, 1) := by decide +kernel
theorem dX10_writes_114 : decode cX10_writes 114 = .ok (.iconst 1, 1) := by decide +kernel
theorem dX10_writes_115 : decode cX10_writes 115 = .ok (.iadd, 1) := by decide +kernel
theorem dX10_writes_116 : decode cX10_writes 116 = .ok (.putfield 109, 3) := by decide +kernel
theorem dX10_writes_119 : decode cX10_writes 119 = .ok (.aload_n 0, 1) := by decide +kernel
theorem dX10_writes_120 : decode cX10_writes 120 = .ok (.getfield 63, 3) := by decide +kernel
theorem dX10_writes_123 : decode cX10_writes 123 = .ok (.iload_n 3, 1) := by decide +kernel
theorem dX10_writes_124 : decode cX10_writes 124 = .ok (.iaload, 1) := by decide +kernel
theorem dX10_writes_125 : decode cX10_writes 125 = .ok (.iastore, 1) := by decide +kernel
theorem dX10_writes_126 : decode cX10_writes 126 = .ok (.iconst 1, 1) := by decide +kernel
theorem dX10_writes_127 : decode cX10_writes 127 = .ok (.ireturn, 1) := by decide +kernel
def kX10_writes_104 (N : Nat) (fr : Nat → Int32 → qM → Option (Int32 × qM)) (v0 : Nat) (v3 : Int32)  (m0 : qM) : Option (Int32 × qM) :=
  (qgR m0 v0 10 26).bind fun x1 =>
  (qgI m0 v0 10 27).bind fun x2 =>
  (qpI m0 v0 10 27 (x2 + (1 : Int32))).bind fun m3 =>
  (qgR m3 v0 10 23).bind fun x4 =>
  (qaI m3 x4 12 v3).bind fun x5 =>
  (qwI m3 x1 12 x2 x5).bind fun m6 =>
  some ((1 : Int32), m6)
set_option maxRecDepth 100000 in
theorem kbX10_writes_104 {E : qE} {N d bc bs : Nat} (hd : 1 ≤ d) {fr : Nat → Int32 → qM → Option (Int32 × qM)} (hfr : ∀ (m : qM) (b : Int32 × qM) (v0 : Nat) (v1 : Int32), fr v0 v1 m = some b → qRun E yX10_writes cX10_writes 4 (some .boolean) (d - 1) 0 0 [.ref (E.2.1 + v0), .int v1] m (some (.int b.1), b.2)) {v0 : Nat} {v3 : Int32}  {m0 : qM} : qB E yX10_writes cX10_writes 4 (some .boolean) (fun _ => True) d bc bs 104 [(0, .ref (E.2.1 + v0)), (3, .int v3)] [] m0 (kX10_writes_104 N fr v0 v3 m0) (fun b rr => rr = (some (.int b.1), b.2)) := by
  unfold kX10_writes_104
  refine j_aload_n (q := 0) (np := 105) rfl rfl dX10_writes_104 rfl ?_
  refine j_gR (np := 108) flX10_66 dX10_writes_105 rfl (fun x1 => ?_)
  refine j_aload_n (q := 0) (np := 109) rfl rfl dX10_writes_108 rfl ?_
  refine j_dup (np := 110) rfl dX10_writes_109 rfl ?_
  refine j_gI (np := 113) flX10_109 dX10_writes_110 rfl (fun x2 => ?_)
  refine j_dup_x1 (np := 114) rfl rfl dX10_writes_113 rfl ?_
  refine j_iconst (np := 115) ci_1 dX10_writes_114 rfl ?_
  refine j_iadd (np := 116) dX10_writes_115 rfl ?_
  refine j_pI (np := 119) flX10_109 dX10_writes_116 rfl (fun m3 => ?_)
  refine j_aload_n (q := 0) (np := 120) rfl rfl dX10_writes_119 rfl ?_
  refine j_gR (np := 123) flX10_63 dX10_writes_120 rfl (fun x4 => ?_)
  refine j_iload_n (q := 1) (np := 124) rfl rfl dX10_writes_123 rfl ?_
  refine j_iaload (np := 125) dX10_writes_124 rfl (fun x5 => ?_)
  refine j_iastore (np := 126) dX10_writes_125 rfl (fun m6 => ?_)
  refine j_iconst (np := 127) ci_1 dX10_writes_126 rfl ?_
  exact j_zret rfl dX10_writes_127 (fun rr h => by rw [z1]; exact h)
def fX10_writes (N : Nat) : Nat → Nat → Int32 → qM → Option (Int32 × qM)
  | 0, _, _, _ => none
  | k + 1, v0, v1, m0 =>
    (qChk m0 v0 10 (fX10_seek N v0 v1 m0)).bind fun b1 =>
    (qgI b1.2 v0 10 27).bind fun x2 =>
    if x2 = (39 : Int32) then (
    some ((0 : Int32), b1.2)
    ) else (
    (qgR b1.2 v0 10 18).bind fun x3 =>
    (qaI b1.2 x3 12 b1.1).bind fun x4 =>
    if 0 ≤ x4 then (
    (qgR b1.2 v0 10 23).bind fun x5 =>
    (qaI b1.2 x5 12 x4).bind fun x6 =>
    if 0 ≤ x6 then (
    kX10_writes_104 N (fX10_writes N k) v0 x4 b1.2
    ) else (
    (qgR b1.2 v0 10 23).bind fun x7 =>
    (qgI b1.2 v0 10 24).bind fun x8 =>
    (qpI b1.2 v0 10 24 (x8 + (1 : Int32))).bind fun m9 =>
    (qwI m9 x7 12 x4 x8).bind fun m10 =>
    kX10_writes_104 N (fX10_writes N k) v0 x4 m10
    )
    ) else (
    (qgR b1.2 v0 10 26).bind fun x11 =>
    (qgI b1.2 v0 10 27).bind fun x12 =>
    (qpI b1.2 v0 10 27 (x12 + (1 : Int32))).bind fun m13 =>
    (qwI m13 x11 12 x12 (99 : Int32)).bind fun m14 =>
    (qgR m14 v0 10 19).bind fun x15 =>
    (qaI m14 x15 12 b1.1).bind fun x16 =>
    (qChk m14 v0 10 (fX10_writes N k v0 x16 m14)).bind fun b17 =>
    if b17.1 = 0 then (
    some ((0 : Int32), b17.2)
    ) else (
    (qgR b17.2 v0 10 20).bind fun x18 =>
    (qaI b17.2 x18 12 b1.1).bind fun x19 =>
    (qChk b17.2 v0 10 (fX10_writes N k v0 x19 b17.2)).bind fun b20 =>
    if b20.1 = 0 then (
    some ((0 : Int32), b20.2)
    ) else (
    some ((1 : Int32), b20.2)
    )
    )
    )
    )
set_option maxRecDepth 100000 in
theorem wX10_writes {E : qE} {N : Nat} : ∀ {k d : Nat} (hd : k + 1 ≤ d) {m0 : qM} {b : Int32 × qM} {v0 : Nat} {v1 : Int32} (h : fX10_writes N k v0 v1 m0 = some b), qRun E yX10_writes cX10_writes 4 (some .boolean) d 0 0 [.ref (E.2.1 + v0), .int v1] m0 (some (.int b.1), b.2) := by
  intro k
  induction k with
  | zero =>
    intro d hd m0 b v0 v1 h
    cases h
  | succ k ih =>
    intro d hd m0 b v0 v1 h
    have hfr : ∀ (m : qM) (b : Int32 × qM) (v0 : Nat) (v1 : Int32), fX10_writes N k v0 v1 m = some b → qRun E yX10_writes cX10_writes 4 (some .boolean) (d - 1) 0 0 [.ref (E.2.1 + v0), .int v1] m (some (.int b.1), b.2) := fun m b v0 v1 h => ih (by omega) h
    have hd : 1 ≤ d := by omega
    have bd : qB E yX10_writes cX10_writes 4 (some .boolean) (fun _ => True) d 0 0 0 [(0, .ref (E.2.1 + v0)), (1, .int v1)] [] m0 (fX10_writes N (k + 1) v0 v1 m0) (fun b rr => rr = (some (.int b.1), b.2)) := by
      unfold fX10_writes
      refine j_aload_n (q := 0) (np := 1) rfl rfl dX10_writes_0 rfl ?_
      refine j_iload_n (q := 1) (np := 2) rfl rfl dX10_writes_1 rfl ?_
      refine j_callVi (ci := 10) (np := 5) (bc := 0) (bs := 0) (cb := 0) (cs := 0) (dd := d - 1) (As := [.int v1]) (st := []) caX10_seek mlX10_145 imX10_seek seX10_seek rfl rfl (by decide) (fun b hb => wX10_seek (by omega) hb) (by omega) rfl rfl (Nat.le_of_ble_eq_true rfl) dX10_writes_2 rfl (fun b1 => ?_)
      refine j_istore_n (np := 6) (lv2 := [(2, .int b1.1), (0, .ref (E.2.1 + v0)), (1, .int v1)]) rfl (by decide) dX10_writes_5 rfl rfl ?_
      refine j_aload_n (q := 1) (np := 7) rfl rfl dX10_writes_6 rfl ?_
      refine j_gI (np := 10) flX10_109 dX10_writes_7 rfl (fun x2 => ?_)
      refine j_bipush (np := 12) cb_39 dX10_writes_10 rfl ?_
      refine j_icmp_ne (tgt := 17) (np := 15) dX10_writes_12 rfl rfl ?_ ?_
      · refine j_aload_n (q := 1) (np := 18) rfl rfl dX10_writes_17 rfl ?_
        refine j_gR (np := 21) flX10_50 dX10_writes_18 rfl (fun x3 => ?_)
        refine j_iload_n (q := 0) (np := 22) rfl rfl dX10_writes_21 rfl ?_
        refine j_iaload (np := 23) dX10_writes_22 rfl (fun x4 => ?_)
        refine j_istore_n (np := 24) (lv2 := [(3, .int x4), (2, .int b1.1), (0, .ref (E.2.1 + v0)), (1, .int v1)]) rfl (by decide) dX10_writes_23 rfl rfl ?_
        refine j_iload_n (q := 0) (np := 25) rfl rfl dX10_writes_24 rfl ?_
        refine j_if_ge (tgt := 78) (np := 28) dX10_writes_25 rfl rfl ?_ ?_
        · refine j_aload_n (q := 2) (np := 79) rfl rfl dX10_writes_78 rfl ?_
          refine j_gR (np := 82) flX10_63 dX10_writes_79 rfl (fun x5 => ?_)
          refine j_iload_n (q := 0) (np := 83) rfl rfl dX10_writes_82 rfl ?_
          refine j_iaload (np := 84) dX10_writes_83 rfl (fun x6 => ?_)
          refine j_if_ge (tgt := 104) (np := 87) dX10_writes_84 rfl rfl ?_ ?_
          · refine j_sub (lv2 := [(0, .ref (E.2.1 + v0)), (3, .int x4)]) [2, 0] rfl ?_
            exact kbX10_writes_104 hd hfr
          · refine j_aload_n (q := 2) (np := 88) rfl rfl dX10_writes_87 rfl ?_
            refine j_gR (np := 91) flX10_63 dX10_writes_88 rfl (fun x7 => ?_)
            refine j_iload_n (q := 0) (np := 92) rfl rfl dX10_writes_91 rfl ?_
            refine j_aload_n (q := 2) (np := 93) rfl rfl dX10_writes_92 rfl ?_
            refine j_dup (np := 94) rfl dX10_writes_93 rfl ?_
            refine j_gI (np := 97) flX10_160 dX10_writes_94 rfl (fun x8 => ?_)
            refine j_dup_x1 (np := 98) rfl rfl dX10_writes_97 rfl ?_
            refine j_iconst (np := 99) ci_1 dX10_writes_98 rfl ?_
            refine j_iadd (np := 100) dX10_writes_99 rfl ?_
            refine j_pI (np := 103) flX10_160 dX10_writes_100 rfl (fun m9 => ?_)
            refine j_iastore (np := 104) dX10_writes_103 rfl (fun m10 => ?_)
            refine j_sub (lv2 := [(0, .ref (E.2.1 + v0)), (3, .int x4)]) [2, 0] rfl ?_
            exact kbX10_writes_104 hd hfr
        · refine j_aload_n (q := 2) (np := 29) rfl rfl dX10_writes_28 rfl ?_
          refine j_gR (np := 32) flX10_66 dX10_writes_29 rfl (fun x11 => ?_)
          refine j_aload_n (q := 2) (np := 33) rfl rfl dX10_writes_32 rfl ?_
          refine j_dup (np := 34) rfl dX10_writes_33 rfl ?_
          refine j_gI (np := 37) flX10_109 dX10_writes_34 rfl (fun x12 => ?_)
          refine j_dup_x1 (np := 38) rfl rfl dX10_writes_37 rfl ?_
          refine j_iconst (np := 39) ci_1 dX10_writes_38 rfl ?_
          refine j_iadd (np := 40) dX10_writes_39 rfl ?_
          refine j_pI (np := 43) flX10_109 dX10_writes_40 rfl (fun m13 => ?_)
          refine j_bipush (np := 45) cb_99 dX10_writes_43 rfl ?_
          refine j_iastore (np := 46) dX10_writes_45 rfl (fun m14 => ?_)
          refine j_aload_n (q := 2) (np := 47) rfl rfl dX10_writes_46 rfl ?_
          refine j_aload_n (q := 2) (np := 48) rfl rfl dX10_writes_47 rfl ?_
          refine j_gR (np := 51) flX10_53 dX10_writes_48 rfl (fun x15 => ?_)
          refine j_iload_n (q := 1) (np := 52) rfl rfl dX10_writes_51 rfl ?_
          refine j_iaload (np := 53) dX10_writes_52 rfl (fun x16 => ?_)
          refine j_callVi (ci := 10) (np := 56) (bc := 0) (bs := 0) (cb := 0) (cs := 0) (dd := d - 1) (As := [.int x16]) (st := []) caX10_writes mlX10_156 imX10_writes seX10_writes rfl rfl (by decide) (fun b hb => hfr _ _ _ _ hb) (by omega) rfl rfl (Nat.le_of_ble_eq_true rfl) dX10_writes_53 rfl (fun b17 => ?_)
          refine j_if_eq (tgt := 76) (np := 59) dX10_writes_56 rfl rfl ?_ ?_
          · refine j_iconst (np := 77) ci_0 dX10_writes_76 rfl ?_
            exact j_zret rfl dX10_writes_77 (fun rr h => by rw [z0]; exact h)
          · refine j_aload_n (q := 2) (np := 60) rfl rfl dX10_writes_59 rfl ?_
            refine j_aload_n (q := 2) (np := 61) rfl rfl dX10_writes_60 rfl ?_
            refine j_gR (np := 64) flX10_56 dX10_writes_61 rfl (fun x18 => ?_)
            refine j_iload_n (q := 1) (np := 65) rfl rfl dX10_writes_64 rfl ?_
            refine j_iaload (np := 66) dX10_writes_65 rfl (fun x19 => ?_)
            refine j_callVi (ci := 10) (np := 69) (bc := 0) (bs := 0) (cb := 0) (cs := 0) (dd := d - 1) (As := [.int x19]) (st := []) caX10_writes mlX10_156 imX10_writes seX10_writes rfl rfl (by decide) (fun b hb => hfr _ _ _ _ hb) (by omega) rfl rfl (Nat.le_of_ble_eq_true rfl) dX10_writes_66 rfl (fun b20 => ?_)
            refine j_if_eq (tgt := 76) (np := 72) dX10_writes_69 rfl rfl ?_ ?_
            · refine j_iconst (np := 77) ci_0 dX10_writes_76 rfl ?_
              exact j_zret rfl dX10_writes_77 (fun rr h => by rw [z0]; exact h)
            · refine j_iconst (np := 73) ci_1 dX10_writes_72 rfl ?_
              refine j_goto (tgt := 77) dX10_writes_73 rfl ?_
              exact j_zret rfl dX10_writes_77 (fun rr h => by rw [z1]; exact h)
      · refine j_iconst (np := 16) ci_0 dX10_writes_15 rfl ?_
        exact j_zret rfl dX10_writes_16 (fun rr h => by rw [z0]; exact h)
    exact q_met pnX10 (Nat.le_of_ble_eq_true rfl) (bd b _ h rfl)
theorem dX10_begins_0 : decode cX10_begins 0 = .ok (.aload_n 0, 1) := by decide +kernel
theorem dX10_begins_1 : decode cX10_begins 1 = .ok (.iconst 0, 1) := by decide +kernel
theorem dX10_begins_2 : decode cX10_begins 2 = .ok (.putfield 135, 3) := by decide +kernel
theorem dX10_begins_5 : decode cX10_begins 5 = .ok (.iconst 0, 1) := by decide +kernel
theorem dX10_begins_6 : decode cX10_begins 6 = .ok (.istore_n 1, 1) := by decide +kernel
theorem dX10_begins_7 : decode cX10_begins 7 = .ok (.iload_n 1, 1) := by decide +kernel
theorem dX10_begins_8 : decode cX10_begins 8 = .ok (.bipush 78, 2) := by decide +kernel
theorem dX10_begins_10 : decode cX10_begins 10 = .ok (.if_icmp .ge 23, 3) := by decide +kernel
theorem dX10_begins_13 : decode cX10_begins 13 = .ok (.aload_n 0, 1) := by decide +kernel
theorem dX10_begins_14 : decode cX10_begins 14 = .ok (.getfield 87, 3) := by decide +kernel
theorem dX10_begins_17 : decode cX10_begins 17 = .ok (.iload_n 1, 1) := by decide +kernel
theorem dX10_begins_18 : decode cX10_begins 18 = .ok (.iconst (-1), 1) := by decide +kernel
theorem dX10_begins_19 : decode cX10_begins 19 = .ok (.iastore, 1) := by decide +kernel
theorem dX10_begins_20 : decode cX10_begins 20 = .ok (.aload_n 0, 1) := by decide +kernel
theorem dX10_begins_21 : decode cX10_begins 21 = .ok (.getfield 63, 3) := by decide +kernel
theorem dX10_begins_24 : decode cX10_begins 24 = .ok (.iload_n 1, 1) := by decide +kernel
theorem dX10_begins_25 : decode cX10_begins 25 = .ok (.iconst (-1), 1) := by decide +kernel
theorem dX10_begins_26 : decode cX10_begins 26 = .ok (.iastore, 1) := by decide +kernel
theorem dX10_begins_27 : decode cX10_begins 27 = .ok (.iinc 1 1, 3) := by decide +kernel
theorem dX10_begins_30 : decode cX10_begins 30 = .ok (.goto (-23), 3) := by decide +kernel
theorem dX10_begins_33 : decode cX10_begins 33 = .ok (.return_, 1) := by decide +kernel
def lX10_begins_7 (N : Nat) (v0 : Nat) : Nat → Int32 → qM → Option (qM)
  | 0, _, _ => none
  | n + 1, v1, m0 =>
    if (78 : Int32) ≤ v1 then (
    some m0
    ) else (
    (qgR m0 v0 10 37).bind fun x1 =>
    (qwI m0 x1 12 v1 (-1 : Int32)).bind fun m2 =>
    (qgR m2 v0 10 23).bind fun x3 =>
    (qwI m2 x3 12 v1 (-1 : Int32)).bind fun m4 =>
    lX10_begins_7 N v0 n (v1 + (1 : Int32)) m4
    )
set_option maxRecDepth 100000 in
theorem lbX10_begins_7 {E : qE} {N d bc bs : Nat} (hd : 0 ≤ d) {v0 : Nat} : ∀ (n : Nat) (v1 : Int32) (m0 : qM), qB E yX10_begins cX10_begins 2 none (fun _ => True) d bc bs 7 [(0, .ref (E.2.1 + v0)), (1, .int v1)] [] m0 (lX10_begins_7 N v0 n v1 m0) (fun o rr => qJ E yX10_begins cX10_begins 2 none (fun _ => True) d bc bs 33 [] [] o rr) := by
  intro n
  induction n with
  | zero =>
    intro v1 m0
    exact j_none
  | succ n ih =>
    intro v1 m0
    unfold lX10_begins_7
    refine j_iload_n (q := 1) (np := 8) rfl rfl dX10_begins_7 rfl ?_
    refine j_bipush (np := 10) cb_78 dX10_begins_8 rfl ?_
    refine j_icmp_ge (tgt := 33) (np := 13) dX10_begins_10 rfl rfl ?_ ?_
    · refine j_sub (lv2 := []) [] rfl ?_
      exact j_exit (fun rr h => h)
    · refine j_aload_n (q := 0) (np := 14) rfl rfl dX10_begins_13 rfl ?_
      refine j_gR (np := 17) flX10_87 dX10_begins_14 rfl (fun x1 => ?_)
      refine j_iload_n (q := 1) (np := 18) rfl rfl dX10_begins_17 rfl ?_
      refine j_iconst (np := 19) ci_m1 dX10_begins_18 rfl ?_
      refine j_iastore (np := 20) dX10_begins_19 rfl (fun m2 => ?_)
      refine j_aload_n (q := 0) (np := 21) rfl rfl dX10_begins_20 rfl ?_
      refine j_gR (np := 24) flX10_63 dX10_begins_21 rfl (fun x3 => ?_)
      refine j_iload_n (q := 1) (np := 25) rfl rfl dX10_begins_24 rfl ?_
      refine j_iconst (np := 26) ci_m1 dX10_begins_25 rfl ?_
      refine j_iastore (np := 27) dX10_begins_26 rfl (fun m4 => ?_)
      refine j_iinc (q := 1) (np := 30) (lv2 := [(1, .int (v1 + (1 : Int32))), (0, .ref (E.2.1 + v0))]) rfl (congrArg _ ci_1) (by decide) dX10_begins_27 rfl rfl ?_
      refine j_goto (tgt := 7) dX10_begins_30 rfl ?_
      refine j_sub (lv2 := [(0, .ref (E.2.1 + v0)), (1, .int (v1 + (1 : Int32)))]) [1, 0] rfl ?_
      exact ih _ _
def fX10_begins (N : Nat) (v0 : Nat) (m0 : qM) : Option (qM) :=
  (qpI m0 v0 10 21 (0 : Int32)).bind fun m1 =>
  (lX10_begins_7 N v0 N (0 : Int32) m1).bind fun o2 =>
  some o2
set_option maxRecDepth 100000 in
theorem bX10_begins {E : qE} {N d bc bs : Nat} (hd : 0 ≤ d) {v0 : Nat} {m0 : qM} : qB E yX10_begins cX10_begins 2 none (fun _ => True) d bc bs 0 [(0, .ref (E.2.1 + v0))] [] m0 (fX10_begins N v0 m0) (fun b rr => rr = (none, b)) := by
  unfold fX10_begins
  refine j_aload_n (q := 0) (np := 1) rfl rfl dX10_begins_0 rfl ?_
  refine j_iconst (np := 2) ci_0 dX10_begins_1 rfl ?_
  refine j_pI (np := 5) flX10_135 dX10_begins_2 rfl (fun m1 => ?_)
  refine j_iconst (np := 6) ci_0 dX10_begins_5 rfl ?_
  refine j_istore_n (np := 7) (lv2 := [(1, .int (0 : Int32)), (0, .ref (E.2.1 + v0))]) rfl (by decide) dX10_begins_6 rfl rfl ?_
  refine j_sub (lv2 := [(0, .ref (E.2.1 + v0)), (1, .int (0 : Int32))]) [1, 0] rfl ?_
  refine j_loop (xp := 33) (lvX := fun o2 => []) (mX := fun o2 => o2) (lbX10_begins_7 hd _ _ _) (fun o2 => ?_)
  exact j_vret rfl dX10_begins_33 (fun rr h => h)
set_option maxRecDepth 100000 in
theorem wX10_begins {E : qE} {N d : Nat} (hd : 0 ≤ d) {v0 : Nat} {m0 : qM} {b : qM} (h : fX10_begins N v0 m0 = some b) : qRun E yX10_begins cX10_begins 2 none d 0 0 [.ref (E.2.1 + v0)] m0 (none, b) := q_met pnX10 (Nat.le_of_ble_eq_true rfl) (bX10_begins hd b _ h rfl)
theorem dX10_written_0 : decode cX10_written 0 = .ok (.aload_n 0, 1) := by decide +kernel
theorem dX10_written_1 : decode cX10_written 1 = .ok (.iconst 0, 1) := by decide +kernel
theorem dX10_written_2 : decode cX10_written 2 = .ok (.putfield 109, 3) := by decide +kernel
theorem dX10_written_5 : decode cX10_written 5 = .ok (.aload_n 0, 1) := by decide +kernel
theorem dX10_written_6 : decode cX10_written 6 = .ok (.iconst 0, 1) := by decide +kernel
theorem dX10_written_7 : decode cX10_written 7 = .ok (.putfield 160, 3) := by decide +kernel
theorem dX10_written_10 : decode cX10_written 10 = .ok (.aload_n 0, 1) := by decide +kernel
theorem dX10_written_11 : decode cX10_written 11 = .ok (.iload_n 1, 1) := by decide +kernel
theorem dX10_written_12 : decode cX10_written 12 = .ok (.invokevirtual 156, 3) := by decide +kernel
theorem dX10_written_15 : decode cX10_written 15 = .ok (.ifCond .eq 16, 3) := by decide +kernel
theorem dX10_written_18 : decode cX10_written 18 = .ok (.aload_n 0, 1) := by decide +kernel
theorem dX10_written_19 : decode cX10_written 19 = .ok (.getfield 160, 3) := by decide +kernel
theorem dX10_written_22 : decode cX10_written 22 = .ok (.bipush 12, 2) := by decide +kernel
theorem dX10_written_24 : decode cX10_written 24 = .ok (.if_icmp .gt 7, 3) := by decide +kernel
theorem dX10_written_27 : decode cX10_written 27 = .ok (.iconst 0, 1) := by decide +kernel
theorem dX10_written_28 : decode cX10_written 28 = .ok (.goto 5, 3) := by decide +kernel
theorem dX10_written_31 : decode cX10_written 31 = .ok (.bipush (-5), 2) := by decide +kernel
theorem dX10_written_33 : decode cX10_written 33 = .ok (.ireturn, 1) := by decide +kernel
def fX10_written (N : Nat) (v0 : Nat) (v1 : Int32) (m0 : qM) : Option (Int32 × qM) :=
  (qpI m0 v0 10 27 (0 : Int32)).bind fun m1 =>
  (qpI m1 v0 10 24 (0 : Int32)).bind fun m2 =>
  (qChk m2 v0 10 (fX10_writes N kR v0 v1 m2)).bind fun b3 =>
  if b3.1 = 0 then (
  some ((-5 : Int32), b3.2)
  ) else (
  (qgI b3.2 v0 10 24).bind fun x4 =>
  if (12 : Int32) < x4 then (
  some ((-5 : Int32), b3.2)
  ) else (
  some ((0 : Int32), b3.2)
  )
  )
set_option maxRecDepth 100000 in
theorem bX10_written {E : qE} {N d bc bs : Nat} (hd : 132 ≤ d) {v0 : Nat} {v1 : Int32} {m0 : qM} : qB E yX10_written cX10_written 2 (some .int) (fun _ => True) d bc bs 0 [(0, .ref (E.2.1 + v0)), (1, .int v1)] [] m0 (fX10_written N v0 v1 m0) (fun b rr => rr = (some (.int b.1), b.2)) := by
  unfold fX10_written
  refine j_aload_n (q := 0) (np := 1) rfl rfl dX10_written_0 rfl ?_
  refine j_iconst (np := 2) ci_0 dX10_written_1 rfl ?_
  refine j_pI (np := 5) flX10_109 dX10_written_2 rfl (fun m1 => ?_)
  refine j_aload_n (q := 0) (np := 6) rfl rfl dX10_written_5 rfl ?_
  refine j_iconst (np := 7) ci_0 dX10_written_6 rfl ?_
  refine j_pI (np := 10) flX10_160 dX10_written_7 rfl (fun m2 => ?_)
  refine j_aload_n (q := 0) (np := 11) rfl rfl dX10_written_10 rfl ?_
  refine j_iload_n (q := 1) (np := 12) rfl rfl dX10_written_11 rfl ?_
  refine j_callVi (ci := 10) (np := 15) (bc := bc) (bs := bs) (cb := 0) (cs := 0) (dd := d - 1) (As := [.int v1]) (st := []) caX10_writes mlX10_156 imX10_writes seX10_writes rfl rfl (by decide) (fun b hb => wX10_writes (by show 130 + _ ≤ _; omega) hb) (by omega) rfl rfl (Nat.le_of_ble_eq_true rfl) dX10_written_12 rfl (fun b3 => ?_)
  refine j_if_eq (tgt := 31) (np := 18) dX10_written_15 rfl rfl ?_ ?_
  · refine j_bipush (np := 33) cb_m5 dX10_written_31 rfl ?_
    exact j_iret rfl dX10_written_33 (fun rr h => h)
  · refine j_aload_n (q := 0) (np := 19) rfl rfl dX10_written_18 rfl ?_
    refine j_gI (np := 22) flX10_160 dX10_written_19 rfl (fun x4 => ?_)
    refine j_bipush (np := 24) cb_12 dX10_written_22 rfl ?_
    refine j_icmp_gt (tgt := 31) (np := 27) dX10_written_24 rfl rfl ?_ ?_
    · refine j_bipush (np := 33) cb_m5 dX10_written_31 rfl ?_
      exact j_iret rfl dX10_written_33 (fun rr h => h)
    · refine j_iconst (np := 28) ci_0 dX10_written_27 rfl ?_
      refine j_goto (tgt := 33) dX10_written_28 rfl ?_
      exact j_iret rfl dX10_written_33 (fun rr h => h)
set_option maxRecDepth 100000 in
theorem wX10_written {E : qE} {N d : Nat} (hd : 132 ≤ d) {v0 : Nat} {v1 : Int32} {m0 : qM} {b : Int32 × qM} (h : fX10_written N v0 v1 m0 = some b) : qRun E yX10_written cX10_written 2 (some .int) d 0 0 [.ref (E.2.1 + v0), .int v1] m0 (some (.int b.1), b.2) := q_met pnX10 (Nat.le_of_ble_eq_true rfl) (bX10_written hd b _ h rfl)
theorem dX10_detaches_0 : decode cX10_detaches 0 = .ok (.aload_n 0, 1) := by decide +kernel
theorem dX10_detaches_1 : decode cX10_detaches 1 = .ok (.invokevirtual 162, 3) := by decide +kernel
theorem dX10_detaches_4 : decode cX10_detaches 4 = .ok (.aload_n 0, 1) := by decide +kernel
theorem dX10_detaches_5 : decode cX10_detaches 5 = .ok (.iload_n 2, 1) := by decide +kernel
theorem dX10_detaches_6 : decode cX10_detaches 6 = .ok (.putfield 138, 3) := by decide +kernel
theorem dX10_detaches_9 : decode cX10_detaches 9 = .ok (.aload_n 0, 1) := by decide +kernel
theorem dX10_detaches_10 : decode cX10_detaches 10 = .ok (.aload_n 1, 1) := by decide +kernel
theorem dX10_detaches_11 : decode cX10_detaches 11 = .ok (.iconst 0, 1) := by decide +kernel
theorem dX10_detaches_12 : decode cX10_detaches 12 = .ok (.invokevirtual 141, 3) := by decide +kernel
theorem dX10_detaches_15 : decode cX10_detaches 15 = .ok (.istore 5, 2) := by decide +kernel
theorem dX10_detaches_17 : decode cX10_detaches 17 = .ok (.aload_n 0, 1) := by decide +kernel
theorem dX10_detaches_18 : decode cX10_detaches 18 = .ok (.iload 4, 2) := by decide +kernel
theorem dX10_detaches_20 : decode cX10_detaches 20 = .ok (.putfield 138, 3) := by decide +kernel
theorem dX10_detaches_23 : decode cX10_detaches 23 = .ok (.aload_n 0, 1) := by decide +kernel
theorem dX10_detaches_24 : decode cX10_detaches 24 = .ok (.aload_n 3, 1) := by decide +kernel
theorem dX10_detaches_25 : decode cX10_detaches 25 = .ok (.bipush 39, 2) := by decide +kernel
theorem dX10_detaches_27 : decode cX10_detaches 27 = .ok (.invokevirtual 141, 3) := by decide +kernel
theorem dX10_detaches_30 : decode cX10_detaches 30 = .ok (.istore 6, 2) := by decide +kernel
theorem dX10_detaches_32 : decode cX10_detaches 32 = .ok (.aload_n 0, 1) := by decide +kernel
theorem dX10_detaches_33 : decode cX10_detaches 33 = .ok (.getfield 50, 3) := by decide +kernel
theorem dX10_detaches_36 : decode cX10_detaches 36 = .ok (.iload 5, 2) := by decide +kernel
theorem dX10_detaches_38 : decode cX10_detaches 38 = .ok (.iaload, 1) := by decide +kernel
theorem dX10_detaches_39 : decode cX10_detaches 39 = .ok (.ifCond .ge 19, 3) := by decide +kernel
theorem dX10_detaches_42 : decode cX10_detaches 42 = .ok (.aload_n 0, 1) := by decide +kernel
theorem dX10_detaches_43 : decode cX10_detaches 43 = .ok (.aload_n 0, 1) := by decide +kernel
theorem dX10_detaches_44 : decode cX10_detaches 44 = .ok (.getfield 53, 3) := by decide +kernel
theorem dX10_detaches_47 : decode cX10_detaches 47 = .ok (.iload 5, 2) := by decide +kernel
theorem dX10_detaches_49 : decode cX10_detaches 49 = .ok (.iaload, 1) := by decide +kernel
theorem dX10_detaches_50 : decode cX10_detaches 50 = .ok (.iload 6, 2) := by decide +kernel
theorem dX10_detaches_52 : decode cX10_detaches 52 = .ok (.invokevirtual 153, 3) := by decide +kernel
theorem dX10_detaches_55 : decode cX10_detaches 55 = .ok (.ifCond .ne 6, 3) := by decide +kernel
theorem dX10_detaches_58 : decode cX10_detaches 58 = .ok (.bipush (-4), 2) := by decide +kernel
theorem dX10_detaches_60 : decode cX10_detaches 60 = .ok (.ireturn, 1) := by decide +kernel
theorem dX10_detaches_61 : decode cX10_detaches 61 = .ok (.aload_n 0, 1) := by decide +kernel
theorem dX10_detaches_62 : decode cX10_detaches 62 = .ok (.aload_n 0, 1) := by decide +kernel
theorem dX10_detaches_63 : decode cX10_detaches 63 = .ok (.getfield 56, 3) := by decide +kernel
theorem dX10_detaches_66 : decode cX10_detaches 66 = .ok (.iload 5, 2) := by decide +kernel
theorem dX10_detaches_68 : decode cX10_detaches 68 = .ok (.iaload, 1) := by decide +kernel
theorem dX10_detaches_69 : decode cX10_detaches 69 = .ok (.invokevirtual 165, 3) := by decide +kernel
theorem dX10_detaches_72 : decode cX10_detaches 72 = .ok (.ireturn, 1) := by decide +kernel
def fX10_detaches (N : Nat) (v0 : Nat) (v1 : Nat) (v2 : Int32) (v3 : Nat) (v4 : Int32) (m0 : qM) : Option (Int32 × qM) :=
  (qChk m0 v0 10 (fX10_begins N v0 m0)).bind fun b1 =>
  (qpI b1 v0 10 25 v2).bind fun m2 =>
  (qChk m2 v0 10 (fX10_builds N kR v0 v1 (0 : Int32) m2)).bind fun b3 =>
  (qpI b3.2 v0 10 25 v4).bind fun m4 =>
  (qChk m4 v0 10 (fX10_builds N kR v0 v3 (39 : Int32) m4)).bind fun b5 =>
  (qgR b5.2 v0 10 18).bind fun x6 =>
  (qaI b5.2 x6 12 b3.1).bind fun x7 =>
  if 0 ≤ x7 then (
  some ((-4 : Int32), b5.2)
  ) else (
  (qgR b5.2 v0 10 19).bind fun x8 =>
  (qaI b5.2 x8 12 b3.1).bind fun x9 =>
  (qChk b5.2 v0 10 (fX10_unifies N kU v0 x9 b5.1 b5.2)).bind fun b10 =>
  if b10.1 = 0 then (
  some ((-4 : Int32), b10.2)
  ) else (
  (qgR b10.2 v0 10 20).bind fun x11 =>
  (qaI b10.2 x11 12 b3.1).bind fun x12 =>
  (qChk b10.2 v0 10 (fX10_written N v0 x12 b10.2)).bind fun b13 =>
  some (b13.1, b13.2)
  )
  )
set_option maxRecDepth 100000 in
theorem bX10_detaches {E : qE} {N d bc bs : Nat} (hd : 1143 ≤ d) {v0 : Nat} {v1 : Nat} {v2 : Int32} {v3 : Nat} {v4 : Int32} {m0 : qM} : qB E yX10_detaches cX10_detaches 7 (some .int) (fun _ => True) d bc bs 0 [(0, .ref (E.2.1 + v0)), (1, .ref (E.2.1 + v1)), (2, .int v2), (3, .ref (E.2.1 + v3)), (4, .int v4)] [] m0 (fX10_detaches N v0 v1 v2 v3 v4 m0) (fun b rr => rr = (some (.int b.1), b.2)) := by
  unfold fX10_detaches
  refine j_aload_n (q := 0) (np := 1) rfl rfl dX10_detaches_0 rfl ?_
  refine j_callVv (ci := 10) (np := 4) (bc := bc) (bs := bs) (cb := 0) (cs := 0) (dd := d - 1) (As := []) (st := []) caX10_begins mlX10_162 imX10_begins seX10_begins rfl rfl (by decide) (fun b hb => wX10_begins (by omega) hb) (by omega) rfl rfl (Nat.le_of_ble_eq_true rfl) dX10_detaches_1 rfl (fun b1 => ?_)
  refine j_aload_n (q := 0) (np := 5) rfl rfl dX10_detaches_4 rfl ?_
  refine j_iload_n (q := 2) (np := 6) rfl rfl dX10_detaches_5 rfl ?_
  refine j_pI (np := 9) flX10_138 dX10_detaches_6 rfl (fun m2 => ?_)
  refine j_aload_n (q := 0) (np := 10) rfl rfl dX10_detaches_9 rfl ?_
  refine j_aload_n (q := 1) (np := 11) rfl rfl dX10_detaches_10 rfl ?_
  refine j_iconst (np := 12) ci_0 dX10_detaches_11 rfl ?_
  refine j_callVi (ci := 10) (np := 15) (bc := bc) (bs := bs) (cb := 0) (cs := 0) (dd := d - 1) (As := [.ref (E.2.1 + v1), .int (0 : Int32)]) (st := []) caX10_builds mlX10_141 imX10_builds seX10_builds rfl rfl (by decide) (fun b hb => wX10_builds (by show 130 + _ ≤ _; omega) hb) (by omega) rfl rfl (Nat.le_of_ble_eq_true rfl) dX10_detaches_12 rfl (fun b3 => ?_)
  refine j_istore (np := 17) (lv2 := [(5, .int b3.1), (0, .ref (E.2.1 + v0)), (1, .ref (E.2.1 + v1)), (2, .int v2), (3, .ref (E.2.1 + v3)), (4, .int v4)]) (by decide) dX10_detaches_15 rfl rfl ?_
  refine j_aload_n (q := 1) (np := 18) rfl rfl dX10_detaches_17 rfl ?_
  refine j_iload (q := 5) (np := 20) rfl dX10_detaches_18 rfl ?_
  refine j_pI (np := 23) flX10_138 dX10_detaches_20 rfl (fun m4 => ?_)
  refine j_aload_n (q := 1) (np := 24) rfl rfl dX10_detaches_23 rfl ?_
  refine j_aload_n (q := 4) (np := 25) rfl rfl dX10_detaches_24 rfl ?_
  refine j_bipush (np := 27) cb_39 dX10_detaches_25 rfl ?_
  refine j_callVi (ci := 10) (np := 30) (bc := bc) (bs := bs) (cb := 0) (cs := 0) (dd := d - 1) (As := [.ref (E.2.1 + v3), .int (39 : Int32)]) (st := []) caX10_builds mlX10_141 imX10_builds seX10_builds rfl rfl (by decide) (fun b hb => wX10_builds (by show 130 + _ ≤ _; omega) hb) (by omega) rfl rfl (Nat.le_of_ble_eq_true rfl) dX10_detaches_27 rfl (fun b5 => ?_)
  refine j_istore (np := 32) (lv2 := [(6, .int b5.1), (5, .int b3.1), (0, .ref (E.2.1 + v0)), (1, .ref (E.2.1 + v1)), (2, .int v2), (3, .ref (E.2.1 + v3)), (4, .int v4)]) (by decide) dX10_detaches_30 rfl rfl ?_
  refine j_aload_n (q := 2) (np := 33) rfl rfl dX10_detaches_32 rfl ?_
  refine j_gR (np := 36) flX10_50 dX10_detaches_33 rfl (fun x6 => ?_)
  refine j_iload (q := 1) (np := 38) rfl dX10_detaches_36 rfl ?_
  refine j_iaload (np := 39) dX10_detaches_38 rfl (fun x7 => ?_)
  refine j_if_ge (tgt := 58) (np := 42) dX10_detaches_39 rfl rfl ?_ ?_
  · refine j_bipush (np := 60) cb_m4 dX10_detaches_58 rfl ?_
    exact j_iret rfl dX10_detaches_60 (fun rr h => h)
  · refine j_aload_n (q := 2) (np := 43) rfl rfl dX10_detaches_42 rfl ?_
    refine j_aload_n (q := 2) (np := 44) rfl rfl dX10_detaches_43 rfl ?_
    refine j_gR (np := 47) flX10_53 dX10_detaches_44 rfl (fun x8 => ?_)
    refine j_iload (q := 1) (np := 49) rfl dX10_detaches_47 rfl ?_
    refine j_iaload (np := 50) dX10_detaches_49 rfl (fun x9 => ?_)
    refine j_iload (q := 0) (np := 52) rfl dX10_detaches_50 rfl ?_
    refine j_callVi (ci := 10) (np := 55) (bc := bc) (bs := bs) (cb := 0) (cs := 0) (dd := d - 1) (As := [.int x9, .int b5.1]) (st := []) caX10_unifies mlX10_153 imX10_unifies seX10_unifies rfl rfl (by decide) (fun b hb => wX10_unifies (by show 1010 + _ ≤ _; omega) hb) (by omega) rfl rfl (Nat.le_of_ble_eq_true rfl) dX10_detaches_52 rfl (fun b10 => ?_)
    refine j_if_ne (tgt := 61) (np := 58) dX10_detaches_55 rfl rfl ?_ ?_
    · refine j_aload_n (q := 2) (np := 62) rfl rfl dX10_detaches_61 rfl ?_
      refine j_aload_n (q := 2) (np := 63) rfl rfl dX10_detaches_62 rfl ?_
      refine j_gR (np := 66) flX10_56 dX10_detaches_63 rfl (fun x11 => ?_)
      refine j_iload (q := 1) (np := 68) rfl dX10_detaches_66 rfl ?_
      refine j_iaload (np := 69) dX10_detaches_68 rfl (fun x12 => ?_)
      refine j_callVi (ci := 10) (np := 72) (bc := bc) (bs := bs) (cb := 0) (cs := 0) (dd := d - 1) (As := [.int x12]) (st := []) caX10_written mlX10_165 imX10_written seX10_written rfl rfl (by decide) (fun b hb => wX10_written (by omega) hb) (by omega) rfl rfl (Nat.le_of_ble_eq_true rfl) dX10_detaches_69 rfl (fun b13 => ?_)
      exact j_iret rfl dX10_detaches_72 (fun rr h => h)
    · refine j_bipush (np := 60) cb_m4 dX10_detaches_58 rfl ?_
      exact j_iret rfl dX10_detaches_60 (fun rr h => h)
set_option maxRecDepth 100000 in
theorem wX10_detaches {E : qE} {N d : Nat} (hd : 1143 ≤ d) {v0 : Nat} {v1 : Nat} {v2 : Int32} {v3 : Nat} {v4 : Int32} {m0 : qM} {b : Int32 × qM} (h : fX10_detaches N v0 v1 v2 v3 v4 m0 = some b) : qRun E yX10_detaches cX10_detaches 7 (some .int) d 0 0 [.ref (E.2.1 + v0), .ref (E.2.1 + v1), .int v2, .ref (E.2.1 + v3), .int v4] m0 (some (.int b.1), b.2) := q_met pnX10 (Nat.le_of_ble_eq_true rfl) (bX10_detaches hd b _ h rfl)
theorem dX10_detaches__0 : decode cX10_detaches_ 0 = .ok (.aload_n 0, 1) := by decide +kernel
theorem dX10_detaches__1 : decode cX10_detaches_ 1 = .ok (.aload_n 0, 1) := by decide +kernel
theorem dX10_detaches__2 : decode cX10_detaches_ 2 = .ok (.getfield 9, 3) := by decide +kernel
theorem dX10_detaches__5 : decode cX10_detaches_ 5 = .ok (.bipush 39, 2) := by decide +kernel
theorem dX10_detaches__7 : decode cX10_detaches_ 7 = .ok (.iload_n 1, 1) := by decide +kernel
theorem dX10_detaches__8 : decode cX10_detaches_ 8 = .ok (.imul, 1) := by decide +kernel
theorem dX10_detaches__9 : decode cX10_detaches_ 9 = .ok (.aload_n 0, 1) := by decide +kernel
theorem dX10_detaches__10 : decode cX10_detaches_ 10 = .ok (.getfield 9, 3) := by decide +kernel
theorem dX10_detaches__13 : decode cX10_detaches_ 13 = .ok (.bipush 39, 2) := by decide +kernel
theorem dX10_detaches__15 : decode cX10_detaches_ 15 = .ok (.iload_n 2, 1) := by decide +kernel
theorem dX10_detaches__16 : decode cX10_detaches_ 16 = .ok (.imul, 1) := by decide +kernel
theorem dX10_detaches__17 : decode cX10_detaches_ 17 = .ok (.invokevirtual 168, 3) := by decide +kernel
theorem dX10_detaches__20 : decode cX10_detaches_ 20 = .ok (.ireturn, 1) := by decide +kernel
def fX10_detaches_ (N : Nat) (v0 : Nat) (v1 : Int32) (v2 : Int32) (m0 : qM) : Option (Int32 × qM) :=
  (qgR m0 v0 10 0).bind fun x1 =>
  (qgR m0 v0 10 0).bind fun x2 =>
  (qChk m0 v0 10 (fX10_detaches N v0 x1 ((39 : Int32) * v1) x2 ((39 : Int32) * v2) m0)).bind fun b3 =>
  some (b3.1, b3.2)
set_option maxRecDepth 100000 in
theorem bX10_detaches_ {E : qE} {N d bc bs : Nat} (hd : 1144 ≤ d) {v0 : Nat} {v1 : Int32} {v2 : Int32} {m0 : qM} : qB E yX10_detaches_ cX10_detaches_ 3 (some .int) (fun _ => True) d bc bs 0 [(0, .ref (E.2.1 + v0)), (1, .int v1), (2, .int v2)] [] m0 (fX10_detaches_ N v0 v1 v2 m0) (fun b rr => rr = (some (.int b.1), b.2)) := by
  unfold fX10_detaches_
  refine j_aload_n (q := 0) (np := 1) rfl rfl dX10_detaches__0 rfl ?_
  refine j_aload_n (q := 0) (np := 2) rfl rfl dX10_detaches__1 rfl ?_
  refine j_gR (np := 5) flX10_9 dX10_detaches__2 rfl (fun x1 => ?_)
  refine j_bipush (np := 7) cb_39 dX10_detaches__5 rfl ?_
  refine j_iload_n (q := 1) (np := 8) rfl rfl dX10_detaches__7 rfl ?_
  refine j_imul (np := 9) dX10_detaches__8 rfl ?_
  refine j_aload_n (q := 0) (np := 10) rfl rfl dX10_detaches__9 rfl ?_
  refine j_gR (np := 13) flX10_9 dX10_detaches__10 rfl (fun x2 => ?_)
  refine j_bipush (np := 15) cb_39 dX10_detaches__13 rfl ?_
  refine j_iload_n (q := 2) (np := 16) rfl rfl dX10_detaches__15 rfl ?_
  refine j_imul (np := 17) dX10_detaches__16 rfl ?_
  refine j_callVi (ci := 10) (np := 20) (bc := bc) (bs := bs) (cb := 0) (cs := 0) (dd := d - 1) (As := [.ref (E.2.1 + x1), .int ((39 : Int32) * v1), .ref (E.2.1 + x2), .int ((39 : Int32) * v2)]) (st := []) caX10_detaches mlX10_168 imX10_detaches seX10_detaches rfl rfl (by decide) (fun b hb => wX10_detaches (by omega) hb) (by omega) rfl rfl (Nat.le_of_ble_eq_true rfl) dX10_detaches__17 rfl (fun b3 => ?_)
  exact j_iret rfl dX10_detaches__20 (fun rr h => h)
set_option maxRecDepth 100000 in
theorem wX10_detaches_ {E : qE} {N d : Nat} (hd : 1144 ≤ d) {v0 : Nat} {v1 : Int32} {v2 : Int32} {m0 : qM} {b : Int32 × qM} (h : fX10_detaches_ N v0 v1 v2 m0 = some b) : qRun E yX10_detaches_ cX10_detaches_ 3 (some .int) d 0 0 [.ref (E.2.1 + v0), .int v1, .int v2] m0 (some (.int b.1), b.2) := q_met pnX10 (Nat.le_of_ble_eq_true rfl) (bX10_detaches_ hd b _ h rfl)
theorem dX10_detach_0 : decode cX10_detach 0 = .ok (.aload_n 0, 1) := by decide +kernel
theorem dX10_detach_1 : decode cX10_detach 1 = .ok (.iload_n 1, 1) := by decide +kernel
theorem dX10_detach_2 : decode cX10_detach 2 = .ok (.invokevirtual 172, 3) := by decide +kernel
theorem dX10_detach_5 : decode cX10_detach 5 = .ok (.ifCond .eq 11, 3) := by decide +kernel
theorem dX10_detach_8 : decode cX10_detach 8 = .ok (.aload_n 0, 1) := by decide +kernel
theorem dX10_detach_9 : decode cX10_detach 9 = .ok (.iload_n 2, 1) := by decide +kernel
theorem dX10_detach_10 : decode cX10_detach 10 = .ok (.invokevirtual 172, 3) := by decide +kernel
theorem dX10_detach_13 : decode cX10_detach 13 = .ok (.ifCond .ne 5, 3) := by decide +kernel
theorem dX10_detach_16 : decode cX10_detach 16 = .ok (.iconst (-1), 1) := by decide +kernel
theorem dX10_detach_17 : decode cX10_detach 17 = .ok (.ireturn, 1) := by decide +kernel
theorem dX10_detach_18 : decode cX10_detach 18 = .ok (.aload_n 0, 1) := by decide +kernel
theorem dX10_detach_19 : decode cX10_detach 19 = .ok (.iload_n 1, 1) := by decide +kernel
theorem dX10_detach_20 : decode cX10_detach 20 = .ok (.iload_n 2, 1) := by decide +kernel
theorem dX10_detach_21 : decode cX10_detach 21 = .ok (.invokevirtual 175, 3) := by decide +kernel
theorem dX10_detach_24 : decode cX10_detach 24 = .ok (.istore_n 3, 1) := by decide +kernel
theorem dX10_detach_25 : decode cX10_detach 25 = .ok (.iload_n 3, 1) := by decide +kernel
theorem dX10_detach_26 : decode cX10_detach 26 = .ok (.ifCond .ge 7, 3) := by decide +kernel
theorem dX10_detach_29 : decode cX10_detach 29 = .ok (.iload_n 3, 1) := by decide +kernel
theorem dX10_detach_30 : decode cX10_detach 30 = .ok (.goto 9, 3) := by decide +kernel
theorem dX10_detach_33 : decode cX10_detach 33 = .ok (.aload_n 0, 1) := by decide +kernel
theorem dX10_detach_34 : decode cX10_detach 34 = .ok (.iload_n 1, 1) := by decide +kernel
theorem dX10_detach_35 : decode cX10_detach 35 = .ok (.iload_n 2, 1) := by decide +kernel
theorem dX10_detach_36 : decode cX10_detach 36 = .ok (.invokevirtual 132, 3) := by decide +kernel
theorem dX10_detach_39 : decode cX10_detach 39 = .ok (.ireturn, 1) := by decide +kernel
def fX10_detach (N : Nat) (v0 : Nat) (v1 : Int32) (v2 : Int32) (m0 : qM) : Option (Int32 × qM) :=
  (qChk m0 v0 10 (fX10_isOne N v0 v1 m0)).bind fun b1 =>
  if b1.1 = 0 then (
  some ((-1 : Int32), b1.2)
  ) else (
  (qChk b1.2 v0 10 (fX10_isOne N v0 v2 b1.2)).bind fun b2 =>
  if b2.1 = 0 then (
  some ((-1 : Int32), b2.2)
  ) else (
  (qChk b2.2 v0 10 (fX10_detaches_ N v0 v1 v2 b2.2)).bind fun b3 =>
  if 0 ≤ b3.1 then (
  (qChk b3.2 v0 10 (fX10_enters N v0 v1 v2 b3.2)).bind fun b4 =>
  some (b4.1, b4.2)
  ) else (
  some (b3.1, b3.2)
  )
  )
  )
set_option maxRecDepth 100000 in
theorem bX10_detach {E : qE} {N d bc bs : Nat} (hd : 1145 ≤ d) {v0 : Nat} {v1 : Int32} {v2 : Int32} {m0 : qM} : qB E yX10_detach cX10_detach 4 (some .int) (fun _ => True) d bc bs 0 [(0, .ref (E.2.1 + v0)), (1, .int v1), (2, .int v2)] [] m0 (fX10_detach N v0 v1 v2 m0) (fun b rr => rr = (some (.int b.1), b.2)) := by
  unfold fX10_detach
  refine j_aload_n (q := 0) (np := 1) rfl rfl dX10_detach_0 rfl ?_
  refine j_iload_n (q := 1) (np := 2) rfl rfl dX10_detach_1 rfl ?_
  refine j_callVi (ci := 10) (np := 5) (bc := bc) (bs := bs) (cb := 0) (cs := 0) (dd := d - 1) (As := [.int v1]) (st := []) caX10_isOne mlX10_172 imX10_isOne seX10_isOne rfl rfl (by decide) (fun b hb => wX10_isOne (by omega) hb) (by omega) rfl rfl (Nat.le_of_ble_eq_true rfl) dX10_detach_2 rfl (fun b1 => ?_)
  refine j_if_eq (tgt := 16) (np := 8) dX10_detach_5 rfl rfl ?_ ?_
  · refine j_iconst (np := 17) ci_m1 dX10_detach_16 rfl ?_
    exact j_iret rfl dX10_detach_17 (fun rr h => h)
  · refine j_aload_n (q := 0) (np := 9) rfl rfl dX10_detach_8 rfl ?_
    refine j_iload_n (q := 2) (np := 10) rfl rfl dX10_detach_9 rfl ?_
    refine j_callVi (ci := 10) (np := 13) (bc := bc) (bs := bs) (cb := 0) (cs := 0) (dd := d - 1) (As := [.int v2]) (st := []) caX10_isOne mlX10_172 imX10_isOne seX10_isOne rfl rfl (by decide) (fun b hb => wX10_isOne (by omega) hb) (by omega) rfl rfl (Nat.le_of_ble_eq_true rfl) dX10_detach_10 rfl (fun b2 => ?_)
    refine j_if_ne (tgt := 18) (np := 16) dX10_detach_13 rfl rfl ?_ ?_
    · refine j_aload_n (q := 0) (np := 19) rfl rfl dX10_detach_18 rfl ?_
      refine j_iload_n (q := 1) (np := 20) rfl rfl dX10_detach_19 rfl ?_
      refine j_iload_n (q := 2) (np := 21) rfl rfl dX10_detach_20 rfl ?_
      refine j_callVi (ci := 10) (np := 24) (bc := bc) (bs := bs) (cb := 0) (cs := 0) (dd := d - 1) (As := [.int v1, .int v2]) (st := []) caX10_detaches_ mlX10_175 imX10_detaches_ seX10_detaches_ rfl rfl (by decide) (fun b hb => wX10_detaches_ (by omega) hb) (by omega) rfl rfl (Nat.le_of_ble_eq_true rfl) dX10_detach_21 rfl (fun b3 => ?_)
      refine j_istore_n (np := 25) (lv2 := [(3, .int b3.1), (0, .ref (E.2.1 + v0)), (1, .int v1), (2, .int v2)]) rfl (by decide) dX10_detach_24 rfl rfl ?_
      refine j_iload_n (q := 0) (np := 26) rfl rfl dX10_detach_25 rfl ?_
      refine j_if_ge (tgt := 33) (np := 29) dX10_detach_26 rfl rfl ?_ ?_
      · refine j_aload_n (q := 1) (np := 34) rfl rfl dX10_detach_33 rfl ?_
        refine j_iload_n (q := 2) (np := 35) rfl rfl dX10_detach_34 rfl ?_
        refine j_iload_n (q := 3) (np := 36) rfl rfl dX10_detach_35 rfl ?_
        refine j_callVi (ci := 10) (np := 39) (bc := bc) (bs := bs) (cb := 0) (cs := 0) (dd := d - 1) (As := [.int v1, .int v2]) (st := []) caX10_enters mlX10_132 imX10_enters seX10_enters rfl rfl (by decide) (fun b hb => wX10_enters (by omega) hb) (by omega) rfl rfl (Nat.le_of_ble_eq_true rfl) dX10_detach_36 rfl (fun b4 => ?_)
        exact j_iret rfl dX10_detach_39 (fun rr h => h)
      · refine j_iload_n (q := 0) (np := 30) rfl rfl dX10_detach_29 rfl ?_
        refine j_goto (tgt := 39) dX10_detach_30 rfl ?_
        exact j_iret rfl dX10_detach_39 (fun rr h => h)
    · refine j_iconst (np := 17) ci_m1 dX10_detach_16 rfl ?_
      exact j_iret rfl dX10_detach_17 (fun rr h => h)
set_option maxRecDepth 100000 in
theorem wX10_detach {E : qE} {N d : Nat} (hd : 1145 ≤ d) {v0 : Nat} {v1 : Int32} {v2 : Int32} {m0 : qM} {b : Int32 × qM} (h : fX10_detach N v0 v1 v2 m0 = some b) : qRun E yX10_detach cX10_detach 4 (some .int) d 0 0 [.ref (E.2.1 + v0), .int v1, .int v2] m0 (some (.int b.1), b.2) := q_met pnX10 (Nat.le_of_ble_eq_true rfl) (bX10_detach hd b _ h rfl)
theorem dX10_tellsOne_0 : decode cX10_tellsOne 0 = .ok (.aload_n 0, 1) := by decide +kernel
theorem dX10_tellsOne_1 : decode cX10_tellsOne 1 = .ok (.aload_n 0, 1) := by decide +kernel
theorem dX10_tellsOne_2 : decode cX10_tellsOne 2 = .ok (.getfield 109, 3) := by decide +kernel
theorem dX10_tellsOne_5 : decode cX10_tellsOne 5 = .ok (.putfield 180, 3) := by decide +kernel
theorem dX10_tellsOne_8 : decode cX10_tellsOne 8 = .ok (.iconst 0, 1) := by decide +kernel
theorem dX10_tellsOne_9 : decode cX10_tellsOne 9 = .ok (.istore_n 1, 1) := by decide +kernel
theorem dX10_tellsOne_10 : decode cX10_tellsOne 10 = .ok (.iload_n 1, 1) := by decide +kernel
theorem dX10_tellsOne_11 : decode cX10_tellsOne 11 = .ok (.aload_n 0, 1) := by decide +kernel
theorem dX10_tellsOne_12 : decode cX10_tellsOne 12 = .ok (.getfield 109, 3) := by decide +kernel
theorem dX10_tellsOne_15 : decode cX10_tellsOne 15 = .ok (.if_icmp .ge 40, 3) := by decide +kernel
theorem dX10_tellsOne_18 : decode cX10_tellsOne 18 = .ok (.aload_n 0, 1) := by decide +kernel
theorem dX10_tellsOne_19 : decode cX10_tellsOne 19 = .ok (.getfield 28, 3) := by decide +kernel
theorem dX10_tellsOne_22 : decode cX10_tellsOne 22 = .ok (.iload_n 1, 1) := by decide +kernel
theorem dX10_tellsOne_23 : decode cX10_tellsOne 23 = .ok (.aload_n 0, 1) := by decide +kernel
theorem dX10_tellsOne_24 : decode cX10_tellsOne 24 = .ok (.getfield 66, 3) := by decide +kernel
theorem dX10_tellsOne_27 : decode cX10_tellsOne 27 = .ok (.iload_n 1, 1) := by decide +kernel
theorem dX10_tellsOne_28 : decode cX10_tellsOne 28 = .ok (.iaload, 1) := by decide +kernel
theorem dX10_tellsOne_29 : decode cX10_tellsOne 29 = .ok (.bipush 99, 2) := by decide +kernel
theorem dX10_tellsOne_31 : decode cX10_tellsOne 31 = .ok (.if_icmp .ne 8, 3) := by decide +kernel
theorem dX10_tellsOne_34 : decode cX10_tellsOne 34 = .ok (.bipush 67, 2) := by decide +kernel
theorem dX10_tellsOne_36 : decode cX10_tellsOne 36 = .ok (.goto 12, 3) := by decide +kernel
theorem dX10_tellsOne_39 : decode cX10_tellsOne 39 = .ok (.bipush 97, 2) := by decide +kernel
theorem dX10_tellsOne_41 : decode cX10_tellsOne 41 = .ok (.aload_n 0, 1) := by decide +kernel
theorem dX10_tellsOne_42 : decode cX10_tellsOne 42 = .ok (.getfield 66, 3) := by decide +kernel
theorem dX10_tellsOne_45 : decode cX10_tellsOne 45 = .ok (.iload_n 1, 1) := by decide +kernel
theorem dX10_tellsOne_46 : decode cX10_tellsOne 46 = .ok (.iaload, 1) := by decide +kernel
theorem dX10_tellsOne_47 : decode cX10_tellsOne 47 = .ok (.iadd, 1) := by decide +kernel
theorem dX10_tellsOne_48 : decode cX10_tellsOne 48 = .ok (.iastore, 1) := by decide +kernel
theorem dX10_tellsOne_49 : decode cX10_tellsOne 49 = .ok (.iinc 1 1, 3) := by decide +kernel
theorem dX10_tellsOne_52 : decode cX10_tellsOne 52 = .ok (.goto (-42), 3) := by decide +kernel
theorem dX10_tellsOne_55 : decode cX10_tellsOne 55 = .ok (.return_, 1) := by decide +kernel
def kX10_tellsOne_48 (N : Nat) (rec : Int32 → qM → Option (qM)) (v0 : Nat) (v1 : Int32) (s0 : Nat) (s1 : Int32) (s2 : Int32) (m0 : qM) : Option (qM) :=
  (qwI m0 s0 12 s1 s2).bind fun m1 =>
  rec (v1 + (1 : Int32)) m1
set_option maxRecDepth 100000 in
theorem kbX10_tellsOne_48 {E : qE} {N d bc bs : Nat} (hd : 0 ≤ d) {v0 : Nat} {v1 : Int32} {s0 : Nat} {s1 : Int32} {s2 : Int32} {m0 : qM} {rec : Int32 → qM → Option (qM)} (hrec : ∀ (v1 : Int32) (m : qM), qB E yX10_tellsOne cX10_tellsOne 2 none (fun _ => True) d bc bs 10 [(0, .ref (E.2.1 + v0)), (1, .int v1)] [] m (rec v1 m) (fun o rr => qJ E yX10_tellsOne cX10_tellsOne 2 none (fun _ => True) d bc bs 55 [] [] o rr)) : qB E yX10_tellsOne cX10_tellsOne 2 none (fun _ => True) d bc bs 48 [(0, .ref (E.2.1 + v0)), (1, .int v1)] [.int s2, .int s1, .ref (E.2.1 + s0)] m0 (kX10_tellsOne_48 N rec v0 v1 s0 s1 s2 m0) (fun o rr => qJ E yX10_tellsOne cX10_tellsOne 2 none (fun _ => True) d bc bs 55 [] [] o rr) := by
  unfold kX10_tellsOne_48
  refine j_iastore (np := 49) dX10_tellsOne_48 rfl (fun m1 => ?_)
  refine j_iinc (q := 1) (np := 52) (lv2 := [(1, .int (v1 + (1 : Int32))), (0, .ref (E.2.1 + v0))]) rfl (congrArg _ ci_1) (by decide) dX10_tellsOne_49 rfl rfl ?_
  refine j_goto (tgt := 10) dX10_tellsOne_52 rfl ?_
  refine j_sub (lv2 := [(0, .ref (E.2.1 + v0)), (1, .int (v1 + (1 : Int32)))]) [1, 0] rfl ?_
  exact hrec _ _
def lX10_tellsOne_10 (N : Nat) (v0 : Nat) : Nat → Int32 → qM → Option (qM)
  | 0, _, _ => none
  | n + 1, v1, m0 =>
    (qgI m0 v0 10 27).bind fun x1 =>
    if x1 ≤ v1 then (
    some m0
    ) else (
    (qgR m0 v0 10 10).bind fun x2 =>
    (qgR m0 v0 10 26).bind fun x3 =>
    (qaI m0 x3 12 v1).bind fun x4 =>
    if x4 = (99 : Int32) then (
    kX10_tellsOne_48 N (lX10_tellsOne_10 N v0 n) v0 v1 x2 v1 (67 : Int32) m0
    ) else (
    (qgR m0 v0 10 26).bind fun x5 =>
    (qaI m0 x5 12 v1).bind fun x6 =>
    kX10_tellsOne_48 N (lX10_tellsOne_10 N v0 n) v0 v1 x2 v1 ((97 : Int32) + x6) m0
    )
    )
set_option maxRecDepth 100000 in
theorem lbX10_tellsOne_10 {E : qE} {N d bc bs : Nat} (hd : 0 ≤ d) {v0 : Nat} : ∀ (n : Nat) (v1 : Int32) (m0 : qM), qB E yX10_tellsOne cX10_tellsOne 2 none (fun _ => True) d bc bs 10 [(0, .ref (E.2.1 + v0)), (1, .int v1)] [] m0 (lX10_tellsOne_10 N v0 n v1 m0) (fun o rr => qJ E yX10_tellsOne cX10_tellsOne 2 none (fun _ => True) d bc bs 55 [] [] o rr) := by
  intro n
  induction n with
  | zero =>
    intro v1 m0
    exact j_none
  | succ n ih =>
    intro v1 m0
    unfold lX10_tellsOne_10
    refine j_iload_n (q := 1) (np := 11) rfl rfl dX10_tellsOne_10 rfl ?_
    refine j_aload_n (q := 0) (np := 12) rfl rfl dX10_tellsOne_11 rfl ?_
    refine j_gI (np := 15) flX10_109 dX10_tellsOne_12 rfl (fun x1 => ?_)
    refine j_icmp_ge (tgt := 55) (np := 18) dX10_tellsOne_15 rfl rfl ?_ ?_
    · refine j_sub (lv2 := []) [] rfl ?_
      exact j_exit (fun rr h => h)
    · refine j_aload_n (q := 0) (np := 19) rfl rfl dX10_tellsOne_18 rfl ?_
      refine j_gR (np := 22) flX10_28 dX10_tellsOne_19 rfl (fun x2 => ?_)
      refine j_iload_n (q := 1) (np := 23) rfl rfl dX10_tellsOne_22 rfl ?_
      refine j_aload_n (q := 0) (np := 24) rfl rfl dX10_tellsOne_23 rfl ?_
      refine j_gR (np := 27) flX10_66 dX10_tellsOne_24 rfl (fun x3 => ?_)
      refine j_iload_n (q := 1) (np := 28) rfl rfl dX10_tellsOne_27 rfl ?_
      refine j_iaload (np := 29) dX10_tellsOne_28 rfl (fun x4 => ?_)
      refine j_bipush (np := 31) cb_99 dX10_tellsOne_29 rfl ?_
      refine j_icmp_ne (tgt := 39) (np := 34) dX10_tellsOne_31 rfl rfl ?_ ?_
      · refine j_bipush (np := 41) cb_97 dX10_tellsOne_39 rfl ?_
        refine j_aload_n (q := 0) (np := 42) rfl rfl dX10_tellsOne_41 rfl ?_
        refine j_gR (np := 45) flX10_66 dX10_tellsOne_42 rfl (fun x5 => ?_)
        refine j_iload_n (q := 1) (np := 46) rfl rfl dX10_tellsOne_45 rfl ?_
        refine j_iaload (np := 47) dX10_tellsOne_46 rfl (fun x6 => ?_)
        refine j_iadd (np := 48) dX10_tellsOne_47 rfl ?_
        exact kbX10_tellsOne_48 hd ih
      · refine j_bipush (np := 36) cb_67 dX10_tellsOne_34 rfl ?_
        refine j_goto (tgt := 48) dX10_tellsOne_36 rfl ?_
        exact kbX10_tellsOne_48 hd ih
def fX10_tellsOne (N : Nat) (v0 : Nat) (m0 : qM) : Option (qM) :=
  (qgI m0 v0 10 27).bind fun x1 =>
  (qpI m0 v0 10 11 x1).bind fun m2 =>
  (lX10_tellsOne_10 N v0 N (0 : Int32) m2).bind fun o3 =>
  some o3
set_option maxRecDepth 100000 in
theorem bX10_tellsOne {E : qE} {N d bc bs : Nat} (hd : 0 ≤ d) {v0 : Nat} {m0 : qM} : qB E yX10_tellsOne cX10_tellsOne 2 none (fun _ => True) d bc bs 0 [(0, .ref (E.2.1 + v0))] [] m0 (fX10_tellsOne N v0 m0) (fun b rr => rr = (none, b)) := by
  unfold fX10_tellsOne
  refine j_aload_n (q := 0) (np := 1) rfl rfl dX10_tellsOne_0 rfl ?_
  refine j_aload_n (q := 0) (np := 2) rfl rfl dX10_tellsOne_1 rfl ?_
  refine j_gI (np := 5) flX10_109 dX10_tellsOne_2 rfl (fun x1 => ?_)
  refine j_pI (np := 8) flX10_180 dX10_tellsOne_5 rfl (fun m2 => ?_)
  refine j_iconst (np := 9) ci_0 dX10_tellsOne_8 rfl ?_
  refine j_istore_n (np := 10) (lv2 := [(1, .int (0 : Int32)), (0, .ref (E.2.1 + v0))]) rfl (by decide) dX10_tellsOne_9 rfl rfl ?_
  refine j_sub (lv2 := [(0, .ref (E.2.1 + v0)), (1, .int (0 : Int32))]) [1, 0] rfl ?_
  refine j_loop (xp := 55) (lvX := fun o3 => []) (mX := fun o3 => o3) (lbX10_tellsOne_10 hd _ _ _) (fun o3 => ?_)
  exact j_vret rfl dX10_tellsOne_55 (fun rr h => h)
set_option maxRecDepth 100000 in
theorem wX10_tellsOne {E : qE} {N d : Nat} (hd : 0 ≤ d) {v0 : Nat} {m0 : qM} {b : qM} (h : fX10_tellsOne N v0 m0 = some b) : qRun E yX10_tellsOne cX10_tellsOne 2 none d 0 0 [.ref (E.2.1 + v0)] m0 (none, b) := q_met pnX10 (Nat.le_of_ble_eq_true rfl) (bX10_tellsOne hd b _ h rfl)
