theorem dX10_isValue_0 : decode cX10_isValue 0 = .ok (.iload_n 0, 1) := by decide +kernel
theorem dX10_isValue_1 : decode cX10_isValue 1 = .ok (.iconst 0, 1) := by decide +kernel
theorem dX10_isValue_2 : decode cX10_isValue 2 = .ok (.iconst 2, 1) := by decide +kernel
theorem dX10_isValue_3 : decode cX10_isValue 3 = .ok (.invokestatic 99, 3) := by decide +kernel
theorem dX10_isValue_6 : decode cX10_isValue 6 = .ok (.ireturn, 1) := by decide +kernel
def fX10_isValue (N : Nat) (v0 : Int32) (m0 : qM) : Option (Int32 × qM) :=
  (fX10_in N v0 (0 : Int32) (2 : Int32) m0).bind fun b1 =>
  some (b1.1 &&& 1, b1.2)
set_option maxRecDepth 100000 in
theorem bX10_isValue {E : qE} {N d bc bs : Nat} (hd : 1 ≤ d) {v0 : Int32} {m0 : qM} : qB E yX10_isValue cX10_isValue 1 (some .boolean) (fun _ => True) d bc bs 0 [(0, .int v0)] [] m0 (fX10_isValue N v0 m0) (fun b rr => rr = (some (.int b.1), b.2)) := by
  unfold fX10_isValue
  refine j_iload_n (q := 0) (np := 1) rfl rfl dX10_isValue_0 rfl ?_
  refine j_iconst (np := 2) ci_0 dX10_isValue_1 rfl ?_
  refine j_iconst (np := 3) ci_2 dX10_isValue_2 rfl ?_
  refine j_callSi (np := 6) (bc := bc) (bs := bs) (cb := 0) (cs := 0) (dd := d - 1) (As := [.int v0, .int (0 : Int32), .int (2 : Int32)]) (st := []) caX10_in mlX10_99 stX10_in (fun b hb => wX10_in (by omega) hb) (by omega) rfl rfl (Nat.le_of_ble_eq_true rfl) dX10_isValue_3 rfl (fun b1 => ?_)
  exact j_zret rfl dX10_isValue_6 (fun rr h => h)
set_option maxRecDepth 100000 in
theorem wX10_isValue {E : qE} {N d : Nat} (hd : 1 ≤ d) {v0 : Int32} {m0 : qM} {b : Int32 × qM} (h : fX10_isValue N v0 m0 = some b) : qRun E yX10_isValue cX10_isValue 1 (some .boolean) d 0 0 [.int v0] m0 (some (.int b.1), b.2) := q_met pnX10 (Nat.le_of_ble_eq_true rfl) (bX10_isValue hd b _ h rfl)
theorem dX10_isDesignated_0 : decode cX10_isDesignated 0 = .ok (.aload_n 0, 1) := by decide +kernel
theorem dX10_isDesignated_1 : decode cX10_isDesignated 1 = .ok (.getfield 34, 3) := by decide +kernel
theorem dX10_isDesignated_4 : decode cX10_isDesignated 4 = .ok (.iload_n 1, 1) := by decide +kernel
theorem dX10_isDesignated_5 : decode cX10_isDesignated 5 = .ok (.ishr, 1) := by decide +kernel
theorem dX10_isDesignated_6 : decode cX10_isDesignated 6 = .ok (.iconst 1, 1) := by decide +kernel
theorem dX10_isDesignated_7 : decode cX10_isDesignated 7 = .ok (.iand, 1) := by decide +kernel
theorem dX10_isDesignated_8 : decode cX10_isDesignated 8 = .ok (.iconst 1, 1) := by decide +kernel
theorem dX10_isDesignated_9 : decode cX10_isDesignated 9 = .ok (.if_icmp .ne 7, 3) := by decide +kernel
theorem dX10_isDesignated_12 : decode cX10_isDesignated 12 = .ok (.iconst 1, 1) := by decide +kernel
theorem dX10_isDesignated_13 : decode cX10_isDesignated 13 = .ok (.goto 4, 3) := by decide +kernel
theorem dX10_isDesignated_16 : decode cX10_isDesignated 16 = .ok (.iconst 0, 1) := by decide +kernel
theorem dX10_isDesignated_17 : decode cX10_isDesignated 17 = .ok (.ireturn, 1) := by decide +kernel
def fX10_isDesignated (N : Nat) (v0 : Nat) (v1 : Int32) (m0 : qM) : Option (Int32 × qM) :=
  (qgI m0 v0 10 13).bind fun x1 =>
  if (x1 >>> (v1 &&& 31)) &&& (1 : Int32) = (1 : Int32) then (
  some ((1 : Int32), m0)
  ) else (
  some ((0 : Int32), m0)
  )
set_option maxRecDepth 100000 in
theorem bX10_isDesignated {E : qE} {N d bc bs : Nat} (hd : 0 ≤ d) {v0 : Nat} {v1 : Int32} {m0 : qM} : qB E yX10_isDesignated cX10_isDesignated 2 (some .boolean) (fun _ => True) d bc bs 0 [(0, .ref (E.2.1 + v0)), (1, .int v1)] [] m0 (fX10_isDesignated N v0 v1 m0) (fun b rr => rr = (some (.int b.1), b.2)) := by
  unfold fX10_isDesignated
  refine j_aload_n (q := 0) (np := 1) rfl rfl dX10_isDesignated_0 rfl ?_
  refine j_gI (np := 4) flX10_34 dX10_isDesignated_1 rfl (fun x1 => ?_)
  refine j_iload_n (q := 1) (np := 5) rfl rfl dX10_isDesignated_4 rfl ?_
  refine j_ishr (np := 6) dX10_isDesignated_5 rfl ?_
  refine j_iconst (np := 7) ci_1 dX10_isDesignated_6 rfl ?_
  refine j_iand (np := 8) dX10_isDesignated_7 rfl ?_
  refine j_iconst (np := 9) ci_1 dX10_isDesignated_8 rfl ?_
  refine j_icmp_ne (tgt := 16) (np := 12) dX10_isDesignated_9 rfl rfl ?_ ?_
  · refine j_iconst (np := 17) ci_0 dX10_isDesignated_16 rfl ?_
    exact j_zret rfl dX10_isDesignated_17 (fun rr h => by rw [z0]; exact h)
  · refine j_iconst (np := 13) ci_1 dX10_isDesignated_12 rfl ?_
    refine j_goto (tgt := 17) dX10_isDesignated_13 rfl ?_
    exact j_zret rfl dX10_isDesignated_17 (fun rr h => by rw [z1]; exact h)
set_option maxRecDepth 100000 in
theorem wX10_isDesignated {E : qE} {N d : Nat} (hd : 0 ≤ d) {v0 : Nat} {v1 : Int32} {m0 : qM} {b : Int32 × qM} (h : fX10_isDesignated N v0 v1 m0 = some b) : qRun E yX10_isDesignated cX10_isDesignated 2 (some .boolean) d 0 0 [.ref (E.2.1 + v0), .int v1] m0 (some (.int b.1), b.2) := q_met pnX10 (Nat.le_of_ble_eq_true rfl) (bX10_isDesignated hd b _ h rfl)
theorem dX10_setEntry_0 : decode cX10_setEntry 0 = .ok (.iload_n 1, 1) := by decide +kernel
theorem dX10_setEntry_1 : decode cX10_setEntry 1 = .ok (.invokestatic 216, 3) := by decide +kernel
theorem dX10_setEntry_4 : decode cX10_setEntry 4 = .ok (.ifCond .eq 10, 3) := by decide +kernel
theorem dX10_setEntry_7 : decode cX10_setEntry 7 = .ok (.iload_n 2, 1) := by decide +kernel
theorem dX10_setEntry_8 : decode cX10_setEntry 8 = .ok (.invokestatic 216, 3) := by decide +kernel
theorem dX10_setEntry_11 : decode cX10_setEntry 11 = .ok (.ifCond .ne 5, 3) := by decide +kernel
theorem dX10_setEntry_14 : decode cX10_setEntry 14 = .ok (.iconst (-1), 1) := by decide +kernel
theorem dX10_setEntry_15 : decode cX10_setEntry 15 = .ok (.ireturn, 1) := by decide +kernel
theorem dX10_setEntry_16 : decode cX10_setEntry 16 = .ok (.iload_n 3, 1) := by decide +kernel
theorem dX10_setEntry_17 : decode cX10_setEntry 17 = .ok (.invokestatic 216, 3) := by decide +kernel
theorem dX10_setEntry_20 : decode cX10_setEntry 20 = .ok (.ifCond .ne 6, 3) := by decide +kernel
theorem dX10_setEntry_23 : decode cX10_setEntry 23 = .ok (.bipush (-2), 2) := by decide +kernel
theorem dX10_setEntry_25 : decode cX10_setEntry 25 = .ok (.ireturn, 1) := by decide +kernel
theorem dX10_setEntry_26 : decode cX10_setEntry 26 = .ok (.aload_n 0, 1) := by decide +kernel
theorem dX10_setEntry_27 : decode cX10_setEntry 27 = .ok (.getfield 31, 3) := by decide +kernel
theorem dX10_setEntry_30 : decode cX10_setEntry 30 = .ok (.iconst 3, 1) := by decide +kernel
theorem dX10_setEntry_31 : decode cX10_setEntry 31 = .ok (.iload_n 1, 1) := by decide +kernel
theorem dX10_setEntry_32 : decode cX10_setEntry 32 = .ok (.imul, 1) := by decide +kernel
theorem dX10_setEntry_33 : decode cX10_setEntry 33 = .ok (.iload_n 2, 1) := by decide +kernel
theorem dX10_setEntry_34 : decode cX10_setEntry 34 = .ok (.iadd, 1) := by decide +kernel
theorem dX10_setEntry_35 : decode cX10_setEntry 35 = .ok (.iaload, 1) := by decide +kernel
theorem dX10_setEntry_36 : decode cX10_setEntry 36 = .ok (.istore 4, 2) := by decide +kernel
theorem dX10_setEntry_38 : decode cX10_setEntry 38 = .ok (.aload_n 0, 1) := by decide +kernel
theorem dX10_setEntry_39 : decode cX10_setEntry 39 = .ok (.getfield 31, 3) := by decide +kernel
theorem dX10_setEntry_42 : decode cX10_setEntry 42 = .ok (.iconst 3, 1) := by decide +kernel
theorem dX10_setEntry_43 : decode cX10_setEntry 43 = .ok (.iload_n 1, 1) := by decide +kernel
theorem dX10_setEntry_44 : decode cX10_setEntry 44 = .ok (.imul, 1) := by decide +kernel
theorem dX10_setEntry_45 : decode cX10_setEntry 45 = .ok (.iload_n 2, 1) := by decide +kernel
theorem dX10_setEntry_46 : decode cX10_setEntry 46 = .ok (.iadd, 1) := by decide +kernel
theorem dX10_setEntry_47 : decode cX10_setEntry 47 = .ok (.iload_n 3, 1) := by decide +kernel
theorem dX10_setEntry_48 : decode cX10_setEntry 48 = .ok (.iastore, 1) := by decide +kernel
theorem dX10_setEntry_49 : decode cX10_setEntry 49 = .ok (.iload 4, 2) := by decide +kernel
theorem dX10_setEntry_51 : decode cX10_setEntry 51 = .ok (.ireturn, 1) := by decide +kernel
def fX10_setEntry (N : Nat) (v0 : Nat) (v1 : Int32) (v2 : Int32) (v3 : Int32) (m0 : qM) : Option (Int32 × qM) :=
  (fX10_isValue N v1 m0).bind fun b1 =>
  if b1.1 = 0 then (
  some ((-1 : Int32), b1.2)
  ) else (
  (fX10_isValue N v2 b1.2).bind fun b2 =>
  if b2.1 = 0 then (
  some ((-1 : Int32), b2.2)
  ) else (
  (fX10_isValue N v3 b2.2).bind fun b3 =>
  if b3.1 = 0 then (
  some ((-2 : Int32), b3.2)
  ) else (
  (qgR b3.2 v0 10 12).bind fun x4 =>
  (qaI b3.2 x4 12 (((3 : Int32) * v1) + v2)).bind fun x5 =>
  (qgR b3.2 v0 10 12).bind fun x6 =>
  (qwI b3.2 x6 12 (((3 : Int32) * v1) + v2) v3).bind fun m7 =>
  some (x5, m7)
  )
  )
  )
set_option maxRecDepth 100000 in
theorem bX10_setEntry {E : qE} {N d bc bs : Nat} (hd : 2 ≤ d) {v0 : Nat} {v1 : Int32} {v2 : Int32} {v3 : Int32} {m0 : qM} : qB E yX10_setEntry cX10_setEntry 5 (some .int) (fun _ => True) d bc bs 0 [(0, .ref (E.2.1 + v0)), (1, .int v1), (2, .int v2), (3, .int v3)] [] m0 (fX10_setEntry N v0 v1 v2 v3 m0) (fun b rr => rr = (some (.int b.1), b.2)) := by
  unfold fX10_setEntry
  refine j_iload_n (q := 1) (np := 1) rfl rfl dX10_setEntry_0 rfl ?_
  refine j_callSi (np := 4) (bc := bc) (bs := bs) (cb := 0) (cs := 0) (dd := d - 1) (As := [.int v1]) (st := []) caX10_isValue mlX10_216 stX10_isValue (fun b hb => wX10_isValue (by omega) hb) (by omega) rfl rfl (Nat.le_of_ble_eq_true rfl) dX10_setEntry_1 rfl (fun b1 => ?_)
  refine j_if_eq (tgt := 14) (np := 7) dX10_setEntry_4 rfl rfl ?_ ?_
  · refine j_iconst (np := 15) ci_m1 dX10_setEntry_14 rfl ?_
    exact j_iret rfl dX10_setEntry_15 (fun rr h => h)
  · refine j_iload_n (q := 2) (np := 8) rfl rfl dX10_setEntry_7 rfl ?_
    refine j_callSi (np := 11) (bc := bc) (bs := bs) (cb := 0) (cs := 0) (dd := d - 1) (As := [.int v2]) (st := []) caX10_isValue mlX10_216 stX10_isValue (fun b hb => wX10_isValue (by omega) hb) (by omega) rfl rfl (Nat.le_of_ble_eq_true rfl) dX10_setEntry_8 rfl (fun b2 => ?_)
    refine j_if_ne (tgt := 16) (np := 14) dX10_setEntry_11 rfl rfl ?_ ?_
    · refine j_iload_n (q := 3) (np := 17) rfl rfl dX10_setEntry_16 rfl ?_
      refine j_callSi (np := 20) (bc := bc) (bs := bs) (cb := 0) (cs := 0) (dd := d - 1) (As := [.int v3]) (st := []) caX10_isValue mlX10_216 stX10_isValue (fun b hb => wX10_isValue (by omega) hb) (by omega) rfl rfl (Nat.le_of_ble_eq_true rfl) dX10_setEntry_17 rfl (fun b3 => ?_)
      refine j_if_ne (tgt := 26) (np := 23) dX10_setEntry_20 rfl rfl ?_ ?_
      · refine j_aload_n (q := 0) (np := 27) rfl rfl dX10_setEntry_26 rfl ?_
        refine j_gR (np := 30) flX10_31 dX10_setEntry_27 rfl (fun x4 => ?_)
        refine j_iconst (np := 31) ci_3 dX10_setEntry_30 rfl ?_
        refine j_iload_n (q := 1) (np := 32) rfl rfl dX10_setEntry_31 rfl ?_
        refine j_imul (np := 33) dX10_setEntry_32 rfl ?_
        refine j_iload_n (q := 2) (np := 34) rfl rfl dX10_setEntry_33 rfl ?_
        refine j_iadd (np := 35) dX10_setEntry_34 rfl ?_
        refine j_iaload (np := 36) dX10_setEntry_35 rfl (fun x5 => ?_)
        refine j_istore (np := 38) (lv2 := [(4, .int x5), (0, .ref (E.2.1 + v0)), (1, .int v1), (2, .int v2), (3, .int v3)]) (by decide) dX10_setEntry_36 rfl rfl ?_
        refine j_aload_n (q := 1) (np := 39) rfl rfl dX10_setEntry_38 rfl ?_
        refine j_gR (np := 42) flX10_31 dX10_setEntry_39 rfl (fun x6 => ?_)
        refine j_iconst (np := 43) ci_3 dX10_setEntry_42 rfl ?_
        refine j_iload_n (q := 2) (np := 44) rfl rfl dX10_setEntry_43 rfl ?_
        refine j_imul (np := 45) dX10_setEntry_44 rfl ?_
        refine j_iload_n (q := 3) (np := 46) rfl rfl dX10_setEntry_45 rfl ?_
        refine j_iadd (np := 47) dX10_setEntry_46 rfl ?_
        refine j_iload_n (q := 4) (np := 48) rfl rfl dX10_setEntry_47 rfl ?_
        refine j_iastore (np := 49) dX10_setEntry_48 rfl (fun m7 => ?_)
        refine j_iload (q := 0) (np := 51) rfl dX10_setEntry_49 rfl ?_
        exact j_iret rfl dX10_setEntry_51 (fun rr h => h)
      · refine j_bipush (np := 25) cb_m2 dX10_setEntry_23 rfl ?_
        exact j_iret rfl dX10_setEntry_25 (fun rr h => h)
    · refine j_iconst (np := 15) ci_m1 dX10_setEntry_14 rfl ?_
      exact j_iret rfl dX10_setEntry_15 (fun rr h => h)
set_option maxRecDepth 100000 in
theorem wX10_setEntry {E : qE} {N d : Nat} (hd : 2 ≤ d) {v0 : Nat} {v1 : Int32} {v2 : Int32} {v3 : Int32} {m0 : qM} {b : Int32 × qM} (h : fX10_setEntry N v0 v1 v2 v3 m0 = some b) : qRun E yX10_setEntry cX10_setEntry 5 (some .int) d 0 0 [.ref (E.2.1 + v0), .int v1, .int v2, .int v3] m0 (some (.int b.1), b.2) := q_met pnX10 (Nat.le_of_ble_eq_true rfl) (bX10_setEntry hd b _ h rfl)
theorem dX10_setDesignated_0 : decode cX10_setDesignated 0 = .ok (.iload_n 1, 1) := by decide +kernel
theorem dX10_setDesignated_1 : decode cX10_setDesignated 1 = .ok (.iconst 0, 1) := by decide +kernel
theorem dX10_setDesignated_2 : decode cX10_setDesignated 2 = .ok (.bipush 7, 2) := by decide +kernel
theorem dX10_setDesignated_4 : decode cX10_setDesignated 4 = .ok (.invokestatic 99, 3) := by decide +kernel
theorem dX10_setDesignated_7 : decode cX10_setDesignated 7 = .ok (.ifCond .ne 6, 3) := by decide +kernel
theorem dX10_setDesignated_10 : decode cX10_setDesignated 10 = .ok (.bipush (-2), 2) := by decide +kernel
theorem dX10_setDesignated_12 : decode cX10_setDesignated 12 = .ok (.ireturn, 1) := by decide +kernel
theorem dX10_setDesignated_13 : decode cX10_setDesignated 13 = .ok (.aload_n 0, 1) := by decide +kernel
theorem dX10_setDesignated_14 : decode cX10_setDesignated 14 = .ok (.getfield 34, 3) := by decide +kernel
theorem dX10_setDesignated_17 : decode cX10_setDesignated 17 = .ok (.istore_n 2, 1) := by decide +kernel
theorem dX10_setDesignated_18 : decode cX10_setDesignated 18 = .ok (.aload_n 0, 1) := by decide +kernel
theorem dX10_setDesignated_19 : decode cX10_setDesignated 19 = .ok (.iload_n 1, 1) := by decide +kernel
theorem dX10_setDesignated_20 : decode cX10_setDesignated 20 = .ok (.putfield 34, 3) := by decide +kernel
theorem dX10_setDesignated_23 : decode cX10_setDesignated 23 = .ok (.iload_n 2, 1) := by decide +kernel
theorem dX10_setDesignated_24 : decode cX10_setDesignated 24 = .ok (.ireturn, 1) := by decide +kernel
def fX10_setDesignated (N : Nat) (v0 : Nat) (v1 : Int32) (m0 : qM) : Option (Int32 × qM) :=
  (fX10_in N v1 (0 : Int32) (7 : Int32) m0).bind fun b1 =>
  if b1.1 = 0 then (
  some ((-2 : Int32), b1.2)
  ) else (
  (qgI b1.2 v0 10 13).bind fun x2 =>
  (qpI b1.2 v0 10 13 v1).bind fun m3 =>
  some (x2, m3)
  )
set_option maxRecDepth 100000 in
theorem bX10_setDesignated {E : qE} {N d bc bs : Nat} (hd : 1 ≤ d) {v0 : Nat} {v1 : Int32} {m0 : qM} : qB E yX10_setDesignated cX10_setDesignated 3 (some .int) (fun _ => True) d bc bs 0 [(0, .ref (E.2.1 + v0)), (1, .int v1)] [] m0 (fX10_setDesignated N v0 v1 m0) (fun b rr => rr = (some (.int b.1), b.2)) := by
  unfold fX10_setDesignated
  refine j_iload_n (q := 1) (np := 1) rfl rfl dX10_setDesignated_0 rfl ?_
  refine j_iconst (np := 2) ci_0 dX10_setDesignated_1 rfl ?_
  refine j_bipush (np := 4) cb_7 dX10_setDesignated_2 rfl ?_
  refine j_callSi (np := 7) (bc := bc) (bs := bs) (cb := 0) (cs := 0) (dd := d - 1) (As := [.int v1, .int (0 : Int32), .int (7 : Int32)]) (st := []) caX10_in mlX10_99 stX10_in (fun b hb => wX10_in (by omega) hb) (by omega) rfl rfl (Nat.le_of_ble_eq_true rfl) dX10_setDesignated_4 rfl (fun b1 => ?_)
  refine j_if_ne (tgt := 13) (np := 10) dX10_setDesignated_7 rfl rfl ?_ ?_
  · refine j_aload_n (q := 0) (np := 14) rfl rfl dX10_setDesignated_13 rfl ?_
    refine j_gI (np := 17) flX10_34 dX10_setDesignated_14 rfl (fun x2 => ?_)
    refine j_istore_n (np := 18) (lv2 := [(2, .int x2), (0, .ref (E.2.1 + v0)), (1, .int v1)]) rfl (by decide) dX10_setDesignated_17 rfl rfl ?_
    refine j_aload_n (q := 1) (np := 19) rfl rfl dX10_setDesignated_18 rfl ?_
    refine j_iload_n (q := 2) (np := 20) rfl rfl dX10_setDesignated_19 rfl ?_
    refine j_pI (np := 23) flX10_34 dX10_setDesignated_20 rfl (fun m3 => ?_)
    refine j_iload_n (q := 0) (np := 24) rfl rfl dX10_setDesignated_23 rfl ?_
    exact j_iret rfl dX10_setDesignated_24 (fun rr h => h)
  · refine j_bipush (np := 12) cb_m2 dX10_setDesignated_10 rfl ?_
    exact j_iret rfl dX10_setDesignated_12 (fun rr h => h)
set_option maxRecDepth 100000 in
theorem wX10_setDesignated {E : qE} {N d : Nat} (hd : 1 ≤ d) {v0 : Nat} {v1 : Int32} {m0 : qM} {b : Int32 × qM} (h : fX10_setDesignated N v0 v1 m0 = some b) : qRun E yX10_setDesignated cX10_setDesignated 3 (some .int) d 0 0 [.ref (E.2.1 + v0), .int v1] m0 (some (.int b.1), b.2) := q_met pnX10 (Nat.le_of_ble_eq_true rfl) (bX10_setDesignated hd b _ h rfl)
theorem dX10_isNormal_0 : decode cX10_isNormal 0 = .ok (.iconst 0, 1) := by decide +kernel
theorem dX10_isNormal_1 : decode cX10_isNormal 1 = .ok (.istore_n 1, 1) := by decide +kernel
theorem dX10_isNormal_2 : decode cX10_isNormal 2 = .ok (.iload_n 1, 1) := by decide +kernel
theorem dX10_isNormal_3 : decode cX10_isNormal 3 = .ok (.iconst 3, 1) := by decide +kernel
theorem dX10_isNormal_4 : decode cX10_isNormal 4 = .ok (.if_icmp .ge 57, 3) := by decide +kernel
theorem dX10_isNormal_7 : decode cX10_isNormal 7 = .ok (.iconst 0, 1) := by decide +kernel
theorem dX10_isNormal_8 : decode cX10_isNormal 8 = .ok (.istore_n 2, 1) := by decide +kernel
theorem dX10_isNormal_9 : decode cX10_isNormal 9 = .ok (.iload_n 2, 1) := by decide +kernel
theorem dX10_isNormal_10 : decode cX10_isNormal 10 = .ok (.iconst 3, 1) := by decide +kernel
theorem dX10_isNormal_11 : decode cX10_isNormal 11 = .ok (.if_icmp .ge 44, 3) := by decide +kernel
theorem dX10_isNormal_14 : decode cX10_isNormal 14 = .ok (.aload_n 0, 1) := by decide +kernel
theorem dX10_isNormal_15 : decode cX10_isNormal 15 = .ok (.iload_n 1, 1) := by decide +kernel
theorem dX10_isNormal_16 : decode cX10_isNormal 16 = .ok (.invokevirtual 219, 3) := by decide +kernel
theorem dX10_isNormal_19 : decode cX10_isNormal 19 = .ok (.ifCond .eq 30, 3) := by decide +kernel
theorem dX10_isNormal_22 : decode cX10_isNormal 22 = .ok (.aload_n 0, 1) := by decide +kernel
theorem dX10_isNormal_23 : decode cX10_isNormal 23 = .ok (.aload_n 0, 1) := by decide +kernel
theorem dX10_isNormal_24 : decode cX10_isNormal 24 = .ok (.getfield 31, 3) := by decide +kernel
theorem dX10_isNormal_27 : decode cX10_isNormal 27 = .ok (.iconst 3, 1) := by decide +kernel
theorem dX10_isNormal_28 : decode cX10_isNormal 28 = .ok (.iload_n 1, 1) := by decide +kernel
theorem dX10_isNormal_29 : decode cX10_isNormal 29 = .ok (.imul, 1) := by decide +kernel
theorem dX10_isNormal_30 : decode cX10_isNormal 30 = .ok (.iload_n 2, 1) := by decide +kernel
theorem dX10_isNormal_31 : decode cX10_isNormal 31 = .ok (.iadd, 1) := by decide +kernel
theorem dX10_isNormal_32 : decode cX10_isNormal 32 = .ok (.iaload, 1) := by decide +kernel
theorem dX10_isNormal_33 : decode cX10_isNormal 33 = .ok (.invokevirtual 219, 3) := by decide +kernel
theorem dX10_isNormal_36 : decode cX10_isNormal 36 = .ok (.ifCond .eq 13, 3) := by decide +kernel
theorem dX10_isNormal_39 : decode cX10_isNormal 39 = .ok (.aload_n 0, 1) := by decide +kernel
theorem dX10_isNormal_40 : decode cX10_isNormal 40 = .ok (.iload_n 2, 1) := by decide +kernel
theorem dX10_isNormal_41 : decode cX10_isNormal 41 = .ok (.invokevirtual 219, 3) := by decide +kernel
theorem dX10_isNormal_44 : decode cX10_isNormal 44 = .ok (.ifCond .ne 5, 3) := by decide +kernel
theorem dX10_isNormal_47 : decode cX10_isNormal 47 = .ok (.iconst 0, 1) := by decide +kernel
theorem dX10_isNormal_48 : decode cX10_isNormal 48 = .ok (.ireturn, 1) := by decide +kernel
theorem dX10_isNormal_49 : decode cX10_isNormal 49 = .ok (.iinc 2 1, 3) := by decide +kernel
theorem dX10_isNormal_52 : decode cX10_isNormal 52 = .ok (.goto (-43), 3) := by decide +kernel
theorem dX10_isNormal_55 : decode cX10_isNormal 55 = .ok (.iinc 1 1, 3) := by decide +kernel
theorem dX10_isNormal_58 : decode cX10_isNormal 58 = .ok (.goto (-56), 3) := by decide +kernel
theorem dX10_isNormal_61 : decode cX10_isNormal 61 = .ok (.iconst 1, 1) := by decide +kernel
theorem dX10_isNormal_62 : decode cX10_isNormal 62 = .ok (.ireturn, 1) := by decide +kernel
def kX10_isNormal_49 (N : Nat) (rec : Int32 → qM → Option ((qM) ⊕ (Int32 × qM))) (v0 : Nat) (v1 : Int32) (v2 : Int32)  (m0 : qM) : Option ((qM) ⊕ (Int32 × qM)) :=
  rec (v2 + (1 : Int32)) m0
set_option maxRecDepth 100000 in
theorem kbX10_isNormal_49 {E : qE} {N d bc bs : Nat} (hd : 1 ≤ d) {v0 : Nat} {v1 : Int32} {v2 : Int32}  {m0 : qM} {rec : Int32 → qM → Option ((qM) ⊕ (Int32 × qM))} (hrec : ∀ (v2 : Int32) (m : qM), qB E yX10_isNormal cX10_isNormal 3 (some .int) (fun _ => True) d bc bs 9 [(0, .ref (E.2.1 + v0)), (1, .int v1), (2, .int v2)] [] m (rec v2 m) (qGL (fun o rr => qJ E yX10_isNormal cX10_isNormal 3 (some .int) (fun _ => True) d bc bs 55 [(0, .ref (E.2.1 + v0)), (1, .int v1)] [] o rr) (fun r => (some (.int r.1), r.2)))) : qB E yX10_isNormal cX10_isNormal 3 (some .int) (fun _ => True) d bc bs 49 [(0, .ref (E.2.1 + v0)), (1, .int v1), (2, .int v2)] [] m0 (kX10_isNormal_49 N rec v0 v1 v2 m0) (qGL (fun o rr => qJ E yX10_isNormal cX10_isNormal 3 (some .int) (fun _ => True) d bc bs 55 [(0, .ref (E.2.1 + v0)), (1, .int v1)] [] o rr) (fun r => (some (.int r.1), r.2))) := by
  unfold kX10_isNormal_49
  refine j_iinc (q := 2) (np := 52) (lv2 := [(2, .int (v2 + (1 : Int32))), (0, .ref (E.2.1 + v0)), (1, .int v1)]) rfl (congrArg _ ci_1) (by decide) dX10_isNormal_49 rfl rfl ?_
  refine j_goto (tgt := 9) dX10_isNormal_52 rfl ?_
  refine j_sub (lv2 := [(0, .ref (E.2.1 + v0)), (1, .int v1), (2, .int (v2 + (1 : Int32)))]) [1, 2, 0] rfl ?_
  exact hrec _ _
def lX10_isNormal_9 (N : Nat) (v0 : Nat) (v1 : Int32) : Nat → Int32 → qM → Option ((qM) ⊕ (Int32 × qM))
  | 0, _, _ => none
  | n + 1, v2, m0 =>
    if (3 : Int32) ≤ v2 then (
    some (.inl m0)
    ) else (
    (qChk m0 v0 10 (fX10_isDesignated N v0 v1 m0)).bind fun b1 =>
    if b1.1 = 0 then (
    kX10_isNormal_49 N (lX10_isNormal_9 N v0 v1 n) v0 v1 v2 b1.2
    ) else (
    (qgR b1.2 v0 10 12).bind fun x2 =>
    (qaI b1.2 x2 12 (((3 : Int32) * v1) + v2)).bind fun x3 =>
    (qChk b1.2 v0 10 (fX10_isDesignated N v0 x3 b1.2)).bind fun b4 =>
    if b4.1 = 0 then (
    kX10_isNormal_49 N (lX10_isNormal_9 N v0 v1 n) v0 v1 v2 b4.2
    ) else (
    (qChk b4.2 v0 10 (fX10_isDesignated N v0 v2 b4.2)).bind fun b5 =>
    if b5.1 = 0 then (
    some (.inr ((0 : Int32), b5.2))
    ) else (
    kX10_isNormal_49 N (lX10_isNormal_9 N v0 v1 n) v0 v1 v2 b5.2
    )
    )
    )
    )
set_option maxRecDepth 100000 in
theorem lbX10_isNormal_9 {E : qE} {N d bc bs : Nat} (hd : 1 ≤ d) {v0 : Nat} {v1 : Int32} : ∀ (n : Nat) (v2 : Int32) (m0 : qM), qB E yX10_isNormal cX10_isNormal 3 (some .int) (fun _ => True) d bc bs 9 [(0, .ref (E.2.1 + v0)), (1, .int v1), (2, .int v2)] [] m0 (lX10_isNormal_9 N v0 v1 n v2 m0) (qGL (fun o rr => qJ E yX10_isNormal cX10_isNormal 3 (some .int) (fun _ => True) d bc bs 55 [(0, .ref (E.2.1 + v0)), (1, .int v1)] [] o rr) (fun r => (some (.int r.1), r.2))) := by
  intro n
  induction n with
  | zero =>
    intro v2 m0
    exact j_none
  | succ n ih =>
    intro v2 m0
    unfold lX10_isNormal_9
    refine j_iload_n (q := 2) (np := 10) rfl rfl dX10_isNormal_9 rfl ?_
    refine j_iconst (np := 11) ci_3 dX10_isNormal_10 rfl ?_
    refine j_icmp_ge (tgt := 55) (np := 14) dX10_isNormal_11 rfl rfl ?_ ?_
    · refine j_sub (lv2 := [(0, .ref (E.2.1 + v0)), (1, .int v1)]) [0, 1] rfl ?_
      exact j_exit (fun rr h => h)
    · refine j_aload_n (q := 0) (np := 15) rfl rfl dX10_isNormal_14 rfl ?_
      refine j_iload_n (q := 1) (np := 16) rfl rfl dX10_isNormal_15 rfl ?_
      refine j_callVi (ci := 10) (np := 19) (bc := bc) (bs := bs) (cb := 0) (cs := 0) (dd := d - 1) (As := [.int v1]) (st := []) caX10_isDesignated mlX10_219 imX10_isDesignated seX10_isDesignated rfl rfl (by decide) (fun b hb => wX10_isDesignated (by omega) hb) (by omega) rfl rfl (Nat.le_of_ble_eq_true rfl) dX10_isNormal_16 rfl (fun b1 => ?_)
      refine j_if_eq (tgt := 49) (np := 22) dX10_isNormal_19 rfl rfl ?_ ?_
      · exact kbX10_isNormal_49 hd ih
      · refine j_aload_n (q := 0) (np := 23) rfl rfl dX10_isNormal_22 rfl ?_
        refine j_aload_n (q := 0) (np := 24) rfl rfl dX10_isNormal_23 rfl ?_
        refine j_gR (np := 27) flX10_31 dX10_isNormal_24 rfl (fun x2 => ?_)
        refine j_iconst (np := 28) ci_3 dX10_isNormal_27 rfl ?_
        refine j_iload_n (q := 1) (np := 29) rfl rfl dX10_isNormal_28 rfl ?_
        refine j_imul (np := 30) dX10_isNormal_29 rfl ?_
        refine j_iload_n (q := 2) (np := 31) rfl rfl dX10_isNormal_30 rfl ?_
        refine j_iadd (np := 32) dX10_isNormal_31 rfl ?_
        refine j_iaload (np := 33) dX10_isNormal_32 rfl (fun x3 => ?_)
        refine j_callVi (ci := 10) (np := 36) (bc := bc) (bs := bs) (cb := 0) (cs := 0) (dd := d - 1) (As := [.int x3]) (st := []) caX10_isDesignated mlX10_219 imX10_isDesignated seX10_isDesignated rfl rfl (by decide) (fun b hb => wX10_isDesignated (by omega) hb) (by omega) rfl rfl (Nat.le_of_ble_eq_true rfl) dX10_isNormal_33 rfl (fun b4 => ?_)
        refine j_if_eq (tgt := 49) (np := 39) dX10_isNormal_36 rfl rfl ?_ ?_
        · exact kbX10_isNormal_49 hd ih
        · refine j_aload_n (q := 0) (np := 40) rfl rfl dX10_isNormal_39 rfl ?_
          refine j_iload_n (q := 2) (np := 41) rfl rfl dX10_isNormal_40 rfl ?_
          refine j_callVi (ci := 10) (np := 44) (bc := bc) (bs := bs) (cb := 0) (cs := 0) (dd := d - 1) (As := [.int v2]) (st := []) caX10_isDesignated mlX10_219 imX10_isDesignated seX10_isDesignated rfl rfl (by decide) (fun b hb => wX10_isDesignated (by omega) hb) (by omega) rfl rfl (Nat.le_of_ble_eq_true rfl) dX10_isNormal_41 rfl (fun b5 => ?_)
          refine j_if_ne (tgt := 49) (np := 47) dX10_isNormal_44 rfl rfl ?_ ?_
          · exact kbX10_isNormal_49 hd ih
          · refine j_iconst (np := 48) ci_0 dX10_isNormal_47 rfl ?_
            exact j_iret rfl dX10_isNormal_48 (fun rr h => h)
def lX10_isNormal_2 (N : Nat) (v0 : Nat) : Nat → Int32 → qM → Option ((qM) ⊕ (Int32 × qM))
  | 0, _, _ => none
  | n + 1, v1, m0 =>
    if (3 : Int32) ≤ v1 then (
    some (.inl m0)
    ) else (
    qTh (lX10_isNormal_9 N v0 v1 N (0 : Int32) m0) (fun o1 =>
    lX10_isNormal_2 N v0 n (v1 + (1 : Int32)) o1
    ) (fun r => .inr r)
    )
set_option maxRecDepth 100000 in
theorem lbX10_isNormal_2 {E : qE} {N d bc bs : Nat} (hd : 1 ≤ d) {v0 : Nat} : ∀ (n : Nat) (v1 : Int32) (m0 : qM), qB E yX10_isNormal cX10_isNormal 3 (some .int) (fun _ => True) d bc bs 2 [(0, .ref (E.2.1 + v0)), (1, .int v1)] [] m0 (lX10_isNormal_2 N v0 n v1 m0) (qGL (fun o rr => qJ E yX10_isNormal cX10_isNormal 3 (some .int) (fun _ => True) d bc bs 61 [] [] o rr) (fun r => (some (.int r.1), r.2))) := by
  intro n
  induction n with
  | zero =>
    intro v1 m0
    exact j_none
  | succ n ih =>
    intro v1 m0
    unfold lX10_isNormal_2
    refine j_iload_n (q := 1) (np := 3) rfl rfl dX10_isNormal_2 rfl ?_
    refine j_iconst (np := 4) ci_3 dX10_isNormal_3 rfl ?_
    refine j_icmp_ge (tgt := 61) (np := 7) dX10_isNormal_4 rfl rfl ?_ ?_
    · refine j_sub (lv2 := []) [] rfl ?_
      exact j_exit (fun rr h => h)
    · refine j_iconst (np := 8) ci_0 dX10_isNormal_7 rfl ?_
      refine j_istore_n (np := 9) (lv2 := [(2, .int (0 : Int32)), (0, .ref (E.2.1 + v0)), (1, .int v1)]) rfl (by decide) dX10_isNormal_8 rfl rfl ?_
      refine j_sub (lv2 := [(0, .ref (E.2.1 + v0)), (1, .int v1), (2, .int (0 : Int32))]) [1, 2, 0] rfl ?_
      refine j_loopG (xp := 55) (lvX := fun o1 => [(0, .ref (E.2.1 + v0)), (1, .int v1)]) (mX := fun o1 => o1) (lbX10_isNormal_9 hd _ _ _) (fun r rr h => h) (fun o1 => ?_)
      refine j_iinc (q := 1) (np := 58) (lv2 := [(1, .int (v1 + (1 : Int32))), (0, .ref (E.2.1 + v0))]) rfl (congrArg _ ci_1) (by decide) dX10_isNormal_55 rfl rfl ?_
      refine j_goto (tgt := 2) dX10_isNormal_58 rfl ?_
      refine j_sub (lv2 := [(0, .ref (E.2.1 + v0)), (1, .int (v1 + (1 : Int32)))]) [1, 0] rfl ?_
      exact ih _ _
def fX10_isNormal (N : Nat) (v0 : Nat) (m0 : qM) : Option (Int32 × qM) :=
  qTh (lX10_isNormal_2 N v0 N (0 : Int32) m0) (fun o1 =>
  some ((1 : Int32), o1)
  ) (fun r => r)
set_option maxRecDepth 100000 in
theorem bX10_isNormal {E : qE} {N d bc bs : Nat} (hd : 1 ≤ d) {v0 : Nat} {m0 : qM} : qB E yX10_isNormal cX10_isNormal 3 (some .int) (fun _ => True) d bc bs 0 [(0, .ref (E.2.1 + v0))] [] m0 (fX10_isNormal N v0 m0) (fun b rr => rr = (some (.int b.1), b.2)) := by
  unfold fX10_isNormal
  refine j_iconst (np := 1) ci_0 dX10_isNormal_0 rfl ?_
  refine j_istore_n (np := 2) (lv2 := [(1, .int (0 : Int32)), (0, .ref (E.2.1 + v0))]) rfl (by decide) dX10_isNormal_1 rfl rfl ?_
  refine j_sub (lv2 := [(0, .ref (E.2.1 + v0)), (1, .int (0 : Int32))]) [1, 0] rfl ?_
  refine j_loopG (xp := 61) (lvX := fun o1 => []) (mX := fun o1 => o1) (lbX10_isNormal_2 hd _ _ _) (fun r rr h => h) (fun o1 => ?_)
  refine j_iconst (np := 62) ci_1 dX10_isNormal_61 rfl ?_
  exact j_iret rfl dX10_isNormal_62 (fun rr h => h)
set_option maxRecDepth 100000 in
theorem wX10_isNormal {E : qE} {N d : Nat} (hd : 1 ≤ d) {v0 : Nat} {m0 : qM} {b : Int32 × qM} (h : fX10_isNormal N v0 m0 = some b) : qRun E yX10_isNormal cX10_isNormal 3 (some .int) d 0 0 [.ref (E.2.1 + v0)] m0 (some (.int b.1), b.2) := q_met pnX10 (Nat.le_of_ble_eq_true rfl) (bX10_isNormal hd b _ h rfl)
theorem dX10_valueAt_0 : decode cX10_valueAt 0 = .ok (.aload_n 0, 1) := by decide +kernel
theorem dX10_valueAt_1 : decode cX10_valueAt 1 = .ok (.getfield 9, 3) := by decide +kernel
theorem dX10_valueAt_4 : decode cX10_valueAt 4 = .ok (.bipush 39, 2) := by decide +kernel
theorem dX10_valueAt_6 : decode cX10_valueAt 6 = .ok (.iload_n 1, 1) := by decide +kernel
theorem dX10_valueAt_7 : decode cX10_valueAt 7 = .ok (.imul, 1) := by decide +kernel
theorem dX10_valueAt_8 : decode cX10_valueAt 8 = .ok (.aload_n 0, 1) := by decide +kernel
theorem dX10_valueAt_9 : decode cX10_valueAt 9 = .ok (.dup, 1) := by decide +kernel
theorem dX10_valueAt_10 : decode cX10_valueAt 10 = .ok (.getfield 138, 3) := by decide +kernel
theorem dX10_valueAt_13 : decode cX10_valueAt 13 = .ok (.dup_x1, 1) := by decide +kernel
theorem dX10_valueAt_14 : decode cX10_valueAt 14 = .ok (.iconst 1, 1) := by decide +kernel
theorem dX10_valueAt_15 : decode cX10_valueAt 15 = .ok (.iadd, 1) := by decide +kernel
theorem dX10_valueAt_16 : decode cX10_valueAt 16 = .ok (.putfield 138, 3) := by decide +kernel
theorem dX10_valueAt_19 : decode cX10_valueAt 19 = .ok (.iadd, 1) := by decide +kernel
theorem dX10_valueAt_20 : decode cX10_valueAt 20 = .ok (.iaload, 1) := by decide +kernel
theorem dX10_valueAt_21 : decode cX10_valueAt 21 = .ok (.istore_n 2, 1) := by decide +kernel
theorem dX10_valueAt_22 : decode cX10_valueAt 22 = .ok (.iload_n 2, 1) := by decide +kernel
theorem dX10_valueAt_23 : decode cX10_valueAt 23 = .ok (.bipush 99, 2) := by decide +kernel
theorem dX10_valueAt_25 : decode cX10_valueAt 25 = .ok (.if_icmp .eq 10, 3) := by decide +kernel
theorem dX10_valueAt_28 : decode cX10_valueAt 28 = .ok (.aload_n 0, 1) := by decide +kernel
theorem dX10_valueAt_29 : decode cX10_valueAt 29 = .ok (.getfield 38, 3) := by decide +kernel
theorem dX10_valueAt_32 : decode cX10_valueAt 32 = .ok (.iload_n 2, 1) := by decide +kernel
theorem dX10_valueAt_33 : decode cX10_valueAt 33 = .ok (.iaload, 1) := by decide +kernel
theorem dX10_valueAt_34 : decode cX10_valueAt 34 = .ok (.ireturn, 1) := by decide +kernel
theorem dX10_valueAt_35 : decode cX10_valueAt 35 = .ok (.aload_n 0, 1) := by decide +kernel
theorem dX10_valueAt_36 : decode cX10_valueAt 36 = .ok (.iload_n 1, 1) := by decide +kernel
theorem dX10_valueAt_37 : decode cX10_valueAt 37 = .ok (.invokevirtual 222, 3) := by decide +kernel
theorem dX10_valueAt_40 : decode cX10_valueAt 40 = .ok (.istore_n 3, 1) := by decide +kernel
theorem dX10_valueAt_41 : decode cX10_valueAt 41 = .ok (.aload_n 0, 1) := by decide +kernel
theorem dX10_valueAt_42 : decode cX10_valueAt 42 = .ok (.iload_n 1, 1) := by decide +kernel
theorem dX10_valueAt_43 : decode cX10_valueAt 43 = .ok (.invokevirtual 222, 3) := by decide +kernel
theorem dX10_valueAt_46 : decode cX10_valueAt 46 = .ok (.istore 4, 2) := by decide +kernel
theorem dX10_valueAt_48 : decode cX10_valueAt 48 = .ok (.aload_n 0, 1) := by decide +kernel
theorem dX10_valueAt_49 : decode cX10_valueAt 49 = .ok (.getfield 31, 3) := by decide +kernel
theorem dX10_valueAt_52 : decode cX10_valueAt 52 = .ok (.iconst 3, 1) := by decide +kernel
theorem dX10_valueAt_53 : decode cX10_valueAt 53 = .ok (.iload_n 3, 1) := by decide +kernel
theorem dX10_valueAt_54 : decode cX10_valueAt 54 = .ok (.imul, 1) := by decide +kernel
theorem dX10_valueAt_55 : decode cX10_valueAt 55 = .ok (.iload 4, 2) := by decide +kernel
theorem dX10_valueAt_57 : decode cX10_valueAt 57 = .ok (.iadd, 1) := by decide +kernel
theorem dX10_valueAt_58 : decode cX10_valueAt 58 = .ok (.iaload, 1) := by decide +kernel
theorem dX10_valueAt_59 : decode cX10_valueAt 59 = .ok (.ireturn, 1) := by decide +kernel
def fX10_valueAt (N : Nat) : Nat → Nat → Int32 → qM → Option (Int32 × qM)
  | 0, _, _, _ => none
  | k + 1, v0, v1, m0 =>
    (qgR m0 v0 10 0).bind fun x1 =>
    (qgI m0 v0 10 25).bind fun x2 =>
    (qpI m0 v0 10 25 (x2 + (1 : Int32))).bind fun m3 =>
    (qaI m3 x1 12 (((39 : Int32) * v1) + x2)).bind fun x4 =>
    if x4 = (99 : Int32) then (
    (qChk m3 v0 10 (fX10_valueAt N k v0 v1 m3)).bind fun b5 =>
    (qChk b5.2 v0 10 (fX10_valueAt N k v0 v1 b5.2)).bind fun b6 =>
    (qgR b6.2 v0 10 12).bind fun x7 =>
    (qaI b6.2 x7 12 (((3 : Int32) * b5.1) + b6.1)).bind fun x8 =>
    some (x8, b6.2)
    ) else (
    (qgR m3 v0 10 14).bind fun x9 =>
    (qaI m3 x9 12 x4).bind fun x10 =>
    some (x10, m3)
    )
set_option maxRecDepth 100000 in
theorem wX10_valueAt {E : qE} {N : Nat} : ∀ {k d : Nat} (hd : k + 1 ≤ d) {m0 : qM} {b : Int32 × qM} {v0 : Nat} {v1 : Int32} (h : fX10_valueAt N k v0 v1 m0 = some b), qRun E yX10_valueAt cX10_valueAt 5 (some .int) d 0 0 [.ref (E.2.1 + v0), .int v1] m0 (some (.int b.1), b.2) := by
  intro k
  induction k with
  | zero =>
    intro d hd m0 b v0 v1 h
    cases h
  | succ k ih =>
    intro d hd m0 b v0 v1 h
    have hfr : ∀ (m : qM) (b : Int32 × qM) (v0 : Nat) (v1 : Int32), fX10_valueAt N k v0 v1 m = some b → qRun E yX10_valueAt cX10_valueAt 5 (some .int) (d - 1) 0 0 [.ref (E.2.1 + v0), .int v1] m (some (.int b.1), b.2) := fun m b v0 v1 h => ih (by omega) h
    have hd : 1 ≤ d := by omega
    have bd : qB E yX10_valueAt cX10_valueAt 5 (some .int) (fun _ => True) d 0 0 0 [(0, .ref (E.2.1 + v0)), (1, .int v1)] [] m0 (fX10_valueAt N (k + 1) v0 v1 m0) (fun b rr => rr = (some (.int b.1), b.2)) := by
      unfold fX10_valueAt
      refine j_aload_n (q := 0) (np := 1) rfl rfl dX10_valueAt_0 rfl ?_
      refine j_gR (np := 4) flX10_9 dX10_valueAt_1 rfl (fun x1 => ?_)
      refine j_bipush (np := 6) cb_39 dX10_valueAt_4 rfl ?_
      refine j_iload_n (q := 1) (np := 7) rfl rfl dX10_valueAt_6 rfl ?_
      refine j_imul (np := 8) dX10_valueAt_7 rfl ?_
      refine j_aload_n (q := 0) (np := 9) rfl rfl dX10_valueAt_8 rfl ?_
      refine j_dup (np := 10) rfl dX10_valueAt_9 rfl ?_
      refine j_gI (np := 13) flX10_138 dX10_valueAt_10 rfl (fun x2 => ?_)
      refine j_dup_x1 (np := 14) rfl rfl dX10_valueAt_13 rfl ?_
      refine j_iconst (np := 15) ci_1 dX10_valueAt_14 rfl ?_
      refine j_iadd (np := 16) dX10_valueAt_15 rfl ?_
      refine j_pI (np := 19) flX10_138 dX10_valueAt_16 rfl (fun m3 => ?_)
      refine j_iadd (np := 20) dX10_valueAt_19 rfl ?_
      refine j_iaload (np := 21) dX10_valueAt_20 rfl (fun x4 => ?_)
      refine j_istore_n (np := 22) (lv2 := [(2, .int x4), (0, .ref (E.2.1 + v0)), (1, .int v1)]) rfl (by decide) dX10_valueAt_21 rfl rfl ?_
      refine j_iload_n (q := 0) (np := 23) rfl rfl dX10_valueAt_22 rfl ?_
      refine j_bipush (np := 25) cb_99 dX10_valueAt_23 rfl ?_
      refine j_icmp_eq (tgt := 35) (np := 28) dX10_valueAt_25 rfl rfl ?_ ?_
      · refine j_aload_n (q := 1) (np := 36) rfl rfl dX10_valueAt_35 rfl ?_
        refine j_iload_n (q := 2) (np := 37) rfl rfl dX10_valueAt_36 rfl ?_
        refine j_callVi (ci := 10) (np := 40) (bc := 0) (bs := 0) (cb := 0) (cs := 0) (dd := d - 1) (As := [.int v1]) (st := []) caX10_valueAt mlX10_222 imX10_valueAt seX10_valueAt rfl rfl (by decide) (fun b hb => hfr _ _ _ _ hb) (by omega) rfl rfl (Nat.le_of_ble_eq_true rfl) dX10_valueAt_37 rfl (fun b5 => ?_)
        refine j_istore_n (np := 41) (lv2 := [(3, .int b5.1), (2, .int x4), (0, .ref (E.2.1 + v0)), (1, .int v1)]) rfl (by decide) dX10_valueAt_40 rfl rfl ?_
        refine j_aload_n (q := 2) (np := 42) rfl rfl dX10_valueAt_41 rfl ?_
        refine j_iload_n (q := 3) (np := 43) rfl rfl dX10_valueAt_42 rfl ?_
        refine j_callVi (ci := 10) (np := 46) (bc := 0) (bs := 0) (cb := 0) (cs := 0) (dd := d - 1) (As := [.int v1]) (st := []) caX10_valueAt mlX10_222 imX10_valueAt seX10_valueAt rfl rfl (by decide) (fun b hb => hfr _ _ _ _ hb) (by omega) rfl rfl (Nat.le_of_ble_eq_true rfl) dX10_valueAt_43 rfl (fun b6 => ?_)
        refine j_istore (np := 48) (lv2 := [(4, .int b6.1), (3, .int b5.1), (2, .int x4), (0, .ref (E.2.1 + v0)), (1, .int v1)]) (by decide) dX10_valueAt_46 rfl rfl ?_
        refine j_aload_n (q := 3) (np := 49) rfl rfl dX10_valueAt_48 rfl ?_
        refine j_gR (np := 52) flX10_31 dX10_valueAt_49 rfl (fun x7 => ?_)
        refine j_iconst (np := 53) ci_3 dX10_valueAt_52 rfl ?_
        refine j_iload_n (q := 1) (np := 54) rfl rfl dX10_valueAt_53 rfl ?_
        refine j_imul (np := 55) dX10_valueAt_54 rfl ?_
        refine j_iload (q := 0) (np := 57) rfl dX10_valueAt_55 rfl ?_
        refine j_iadd (np := 58) dX10_valueAt_57 rfl ?_
        refine j_iaload (np := 59) dX10_valueAt_58 rfl (fun x8 => ?_)
        exact j_iret rfl dX10_valueAt_59 (fun rr h => h)
      · refine j_aload_n (q := 1) (np := 29) rfl rfl dX10_valueAt_28 rfl ?_
        refine j_gR (np := 32) flX10_38 dX10_valueAt_29 rfl (fun x9 => ?_)
        refine j_iload_n (q := 0) (np := 33) rfl rfl dX10_valueAt_32 rfl ?_
        refine j_iaload (np := 34) dX10_valueAt_33 rfl (fun x10 => ?_)
        exact j_iret rfl dX10_valueAt_34 (fun rr h => h)
    exact q_met pnX10 (Nat.le_of_ble_eq_true rfl) (bd b _ h rfl)
theorem dX10_valueOf_0 : decode cX10_valueOf 0 = .ok (.aload_n 0, 1) := by decide +kernel
theorem dX10_valueOf_1 : decode cX10_valueOf 1 = .ok (.iconst 0, 1) := by decide +kernel
theorem dX10_valueOf_2 : decode cX10_valueOf 2 = .ok (.putfield 138, 3) := by decide +kernel
theorem dX10_valueOf_5 : decode cX10_valueOf 5 = .ok (.aload_n 0, 1) := by decide +kernel
theorem dX10_valueOf_6 : decode cX10_valueOf 6 = .ok (.iload_n 1, 1) := by decide +kernel
theorem dX10_valueOf_7 : decode cX10_valueOf 7 = .ok (.invokevirtual 222, 3) := by decide +kernel
theorem dX10_valueOf_10 : decode cX10_valueOf 10 = .ok (.ireturn, 1) := by decide +kernel
def fX10_valueOf (N : Nat) (v0 : Nat) (v1 : Int32) (m0 : qM) : Option (Int32 × qM) :=
  (qpI m0 v0 10 25 (0 : Int32)).bind fun m1 =>
  (qChk m1 v0 10 (fX10_valueAt N kR v0 v1 m1)).bind fun b2 =>
  some (b2.1, b2.2)
set_option maxRecDepth 100000 in
theorem bX10_valueOf {E : qE} {N d bc bs : Nat} (hd : 132 ≤ d) {v0 : Nat} {v1 : Int32} {m0 : qM} : qB E yX10_valueOf cX10_valueOf 2 (some .int) (fun _ => True) d bc bs 0 [(0, .ref (E.2.1 + v0)), (1, .int v1)] [] m0 (fX10_valueOf N v0 v1 m0) (fun b rr => rr = (some (.int b.1), b.2)) := by
  unfold fX10_valueOf
  refine j_aload_n (q := 0) (np := 1) rfl rfl dX10_valueOf_0 rfl ?_
  refine j_iconst (np := 2) ci_0 dX10_valueOf_1 rfl ?_
  refine j_pI (np := 5) flX10_138 dX10_valueOf_2 rfl (fun m1 => ?_)
  refine j_aload_n (q := 0) (np := 6) rfl rfl dX10_valueOf_5 rfl ?_
  refine j_iload_n (q := 1) (np := 7) rfl rfl dX10_valueOf_6 rfl ?_
  refine j_callVi (ci := 10) (np := 10) (bc := bc) (bs := bs) (cb := 0) (cs := 0) (dd := d - 1) (As := [.int v1]) (st := []) caX10_valueAt mlX10_222 imX10_valueAt seX10_valueAt rfl rfl (by decide) (fun b hb => wX10_valueAt (by show 130 + _ ≤ _; omega) hb) (by omega) rfl rfl (Nat.le_of_ble_eq_true rfl) dX10_valueOf_7 rfl (fun b2 => ?_)
  exact j_iret rfl dX10_valueOf_10 (fun rr h => h)
set_option maxRecDepth 100000 in
theorem wX10_valueOf {E : qE} {N d : Nat} (hd : 132 ≤ d) {v0 : Nat} {v1 : Int32} {m0 : qM} {b : Int32 × qM} (h : fX10_valueOf N v0 v1 m0 = some b) : qRun E yX10_valueOf cX10_valueOf 2 (some .int) d 0 0 [.ref (E.2.1 + v0), .int v1] m0 (some (.int b.1), b.2) := q_met pnX10 (Nat.le_of_ble_eq_true rfl) (bX10_valueOf hd b _ h rfl)
theorem dX10_values_0 : decode cX10_values 0 = .ok (.iload_n 1, 1) := by decide +kernel
theorem dX10_values_1 : decode cX10_values 1 = .ok (.istore_n 3, 1) := by decide +kernel
theorem dX10_values_2 : decode cX10_values 2 = .ok (.iload_n 2, 1) := by decide +kernel
theorem dX10_values_3 : decode cX10_values 3 = .ok (.iconst 1, 1) := by decide +kernel
theorem dX10_values_4 : decode cX10_values 4 = .ok (.isub, 1) := by decide +kernel
theorem dX10_values_5 : decode cX10_values 5 = .ok (.istore 4, 2) := by decide +kernel
theorem dX10_values_7 : decode cX10_values 7 = .ok (.iload 4, 2) := by decide +kernel
theorem dX10_values_9 : decode cX10_values 9 = .ok (.ifCond .lt 23, 3) := by decide +kernel
theorem dX10_values_12 : decode cX10_values 12 = .ok (.aload_n 0, 1) := by decide +kernel
theorem dX10_values_13 : decode cX10_values 13 = .ok (.getfield 38, 3) := by decide +kernel
theorem dX10_values_16 : decode cX10_values 16 = .ok (.iload 4, 2) := by decide +kernel
theorem dX10_values_18 : decode cX10_values 18 = .ok (.iload_n 3, 1) := by decide +kernel
theorem dX10_values_19 : decode cX10_values 19 = .ok (.iconst 3, 1) := by decide +kernel
theorem dX10_values_20 : decode cX10_values 20 = .ok (.irem, 1) := by decide +kernel
theorem dX10_values_21 : decode cX10_values 21 = .ok (.iastore, 1) := by decide +kernel
theorem dX10_values_22 : decode cX10_values 22 = .ok (.iload_n 3, 1) := by decide +kernel
theorem dX10_values_23 : decode cX10_values 23 = .ok (.iconst 3, 1) := by decide +kernel
theorem dX10_values_24 : decode cX10_values 24 = .ok (.idiv, 1) := by decide +kernel
theorem dX10_values_25 : decode cX10_values 25 = .ok (.istore_n 3, 1) := by decide +kernel
theorem dX10_values_26 : decode cX10_values 26 = .ok (.iinc 4 (-1), 3) := by decide +kernel
theorem dX10_values_29 : decode cX10_values 29 = .ok (.goto (-22), 3) := by decide +kernel
theorem dX10_values_32 : decode cX10_values 32 = .ok (.return_, 1) := by decide +kernel
def lX10_values_7 (N : Nat) (v0 : Nat) : Nat → Int32 → Int32 → qM → Option (qM)
  | 0, _, _, _ => none
  | n + 1, v3, v4, m0 =>
    if v4 < 0 then (
    some m0
    ) else (
    (qgR m0 v0 10 14).bind fun x1 =>
    (qwI m0 x1 12 v4 (v3 - v3 / (3 : Int32) * (3 : Int32))).bind fun m2 =>
    lX10_values_7 N v0 n (v3 / (3 : Int32)) (v4 + (-1 : Int32)) m2
    )
set_option maxRecDepth 100000 in
theorem lbX10_values_7 {E : qE} {N d bc bs : Nat} (hd : 0 ≤ d) {v0 : Nat} : ∀ (n : Nat) (v3 : Int32) (v4 : Int32) (m0 : qM), qB E yX10_values cX10_values 5 none (fun _ => True) d bc bs 7 [(0, .ref (E.2.1 + v0)), (3, .int v3), (4, .int v4)] [] m0 (lX10_values_7 N v0 n v3 v4 m0) (fun o rr => qJ E yX10_values cX10_values 5 none (fun _ => True) d bc bs 32 [] [] o rr) := by
  intro n
  induction n with
  | zero =>
    intro v3 v4 m0
    exact j_none
  | succ n ih =>
    intro v3 v4 m0
    unfold lX10_values_7
    refine j_iload (q := 2) (np := 9) rfl dX10_values_7 rfl ?_
    refine j_if_lt (tgt := 32) (np := 12) dX10_values_9 rfl rfl ?_ ?_
    · refine j_sub (lv2 := []) [] rfl ?_
      exact j_exit (fun rr h => h)
    · refine j_aload_n (q := 0) (np := 13) rfl rfl dX10_values_12 rfl ?_
      refine j_gR (np := 16) flX10_38 dX10_values_13 rfl (fun x1 => ?_)
      refine j_iload (q := 2) (np := 18) rfl dX10_values_16 rfl ?_
      refine j_iload_n (q := 1) (np := 19) rfl rfl dX10_values_18 rfl ?_
      refine j_iconst (np := 20) ci_3 dX10_values_19 rfl ?_
      refine j_irem (np := 21) (by decide) dX10_values_20 rfl ?_
      refine j_iastore (np := 22) dX10_values_21 rfl (fun m2 => ?_)
      refine j_iload_n (q := 1) (np := 23) rfl rfl dX10_values_22 rfl ?_
      refine j_iconst (np := 24) ci_3 dX10_values_23 rfl ?_
      refine j_idiv (np := 25) (by decide) dX10_values_24 rfl ?_
      refine j_istore_n (np := 26) (lv2 := [(3, .int (v3 / (3 : Int32))), (0, .ref (E.2.1 + v0)), (4, .int v4)]) rfl (by decide) dX10_values_25 rfl rfl ?_
      refine j_iinc (q := 2) (np := 29) (lv2 := [(4, .int (v4 + (-1 : Int32))), (3, .int (v3 / (3 : Int32))), (0, .ref (E.2.1 + v0))]) rfl (congrArg _ ci_m1) (by decide) dX10_values_26 rfl rfl ?_
      refine j_goto (tgt := 7) dX10_values_29 rfl ?_
      refine j_sub (lv2 := [(0, .ref (E.2.1 + v0)), (3, .int (v3 / (3 : Int32))), (4, .int (v4 + (-1 : Int32)))]) [2, 1, 0] rfl ?_
      exact ih _ _ _
def fX10_values (N : Nat) (v0 : Nat) (v1 : Int32) (v2 : Int32) (m0 : qM) : Option (qM) :=
  (lX10_values_7 N v0 N v1 (v2 - (1 : Int32)) m0).bind fun o1 =>
  some o1
set_option maxRecDepth 100000 in
theorem bX10_values {E : qE} {N d bc bs : Nat} (hd : 0 ≤ d) {v0 : Nat} {v1 : Int32} {v2 : Int32} {m0 : qM} : qB E yX10_values cX10_values 5 none (fun _ => True) d bc bs 0 [(0, .ref (E.2.1 + v0)), (1, .int v1), (2, .int v2)] [] m0 (fX10_values N v0 v1 v2 m0) (fun b rr => rr = (none, b)) := by
  unfold fX10_values
  refine j_iload_n (q := 1) (np := 1) rfl rfl dX10_values_0 rfl ?_
  refine j_istore_n (np := 2) (lv2 := [(3, .int v1), (0, .ref (E.2.1 + v0)), (1, .int v1), (2, .int v2)]) rfl (by decide) dX10_values_1 rfl rfl ?_
  refine j_iload_n (q := 3) (np := 3) rfl rfl dX10_values_2 rfl ?_
  refine j_iconst (np := 4) ci_1 dX10_values_3 rfl ?_
  refine j_isub (np := 5) dX10_values_4 rfl ?_
  refine j_istore (np := 7) (lv2 := [(4, .int (v2 - (1 : Int32))), (3, .int v1), (0, .ref (E.2.1 + v0)), (1, .int v1), (2, .int v2)]) (by decide) dX10_values_5 rfl rfl ?_
  refine j_sub (lv2 := [(0, .ref (E.2.1 + v0)), (3, .int v1), (4, .int (v2 - (1 : Int32)))]) [2, 1, 0] rfl ?_
  refine j_loop (xp := 32) (lvX := fun o1 => []) (mX := fun o1 => o1) (lbX10_values_7 hd _ _ _ _) (fun o1 => ?_)
  exact j_vret rfl dX10_values_32 (fun rr h => h)
set_option maxRecDepth 100000 in
theorem wX10_values {E : qE} {N d : Nat} (hd : 0 ≤ d) {v0 : Nat} {v1 : Int32} {v2 : Int32} {m0 : qM} {b : qM} (h : fX10_values N v0 v1 v2 m0 = some b) : qRun E yX10_values cX10_values 5 none d 0 0 [.ref (E.2.1 + v0), .int v1, .int v2] m0 (none, b) := q_met pnX10 (Nat.le_of_ble_eq_true rfl) (bX10_values hd b _ h rfl)
theorem dX10_power_0 : decode cX10_power 0 = .ok (.iconst 1, 1) := by decide +kernel
theorem dX10_power_1 : decode cX10_power 1 = .ok (.istore_n 1, 1) := by decide +kernel
theorem dX10_power_2 : decode cX10_power 2 = .ok (.iconst 0, 1) := by decide +kernel
theorem dX10_power_3 : decode cX10_power 3 = .ok (.istore_n 2, 1) := by decide +kernel
theorem dX10_power_4 : decode cX10_power 4 = .ok (.iload_n 2, 1) := by decide +kernel
theorem dX10_power_5 : decode cX10_power 5 = .ok (.iload_n 0, 1) := by decide +kernel
theorem dX10_power_6 : decode cX10_power 6 = .ok (.if_icmp .ge 13, 3) := by decide +kernel
theorem dX10_power_9 : decode cX10_power 9 = .ok (.iload_n 1, 1) := by decide +kernel
theorem dX10_power_10 : decode cX10_power 10 = .ok (.iconst 3, 1) := by decide +kernel
theorem dX10_power_11 : decode cX10_power 11 = .ok (.imul, 1) := by decide +kernel
theorem dX10_power_12 : decode cX10_power 12 = .ok (.istore_n 1, 1) := by decide +kernel
theorem dX10_power_13 : decode cX10_power 13 = .ok (.iinc 2 1, 3) := by decide +kernel
theorem dX10_power_16 : decode cX10_power 16 = .ok (.goto (-12), 3) := by decide +kernel
theorem dX10_power_19 : decode cX10_power 19 = .ok (.iload_n 1, 1) := by decide +kernel
theorem dX10_power_20 : decode cX10_power 20 = .ok (.ireturn, 1) := by decide +kernel
def lX10_power_4 (N : Nat) (v0 : Int32) : Nat → Int32 → Int32 → qM → Option (Int32 × qM)
  | 0, _, _, _ => none
  | n + 1, v1, v2, m0 =>
    if v0 ≤ v2 then (
    some (v1, m0)
    ) else (
    lX10_power_4 N v0 n (v1 * (3 : Int32)) (v2 + (1 : Int32)) m0
    )
set_option maxRecDepth 100000 in
theorem lbX10_power_4 {E : qE} {N d bc bs : Nat} (hd : 0 ≤ d) {v0 : Int32} : ∀ (n : Nat) (v1 : Int32) (v2 : Int32) (m0 : qM), qB E yX10_power cX10_power 3 (some .int) (fun _ => True) d bc bs 4 [(0, .int v0), (1, .int v1), (2, .int v2)] [] m0 (lX10_power_4 N v0 n v1 v2 m0) (fun o rr => qJ E yX10_power cX10_power 3 (some .int) (fun _ => True) d bc bs 19 [(1, .int o.1)] [] o.2 rr) := by
  intro n
  induction n with
  | zero =>
    intro v1 v2 m0
    exact j_none
  | succ n ih =>
    intro v1 v2 m0
    unfold lX10_power_4
    refine j_iload_n (q := 2) (np := 5) rfl rfl dX10_power_4 rfl ?_
    refine j_iload_n (q := 0) (np := 6) rfl rfl dX10_power_5 rfl ?_
    refine j_icmp_ge (tgt := 19) (np := 9) dX10_power_6 rfl rfl ?_ ?_
    · refine j_sub (lv2 := [(1, .int v1)]) [1] rfl ?_
      exact j_exit (fun rr h => h)
    · refine j_iload_n (q := 1) (np := 10) rfl rfl dX10_power_9 rfl ?_
      refine j_iconst (np := 11) ci_3 dX10_power_10 rfl ?_
      refine j_imul (np := 12) dX10_power_11 rfl ?_
      refine j_istore_n (np := 13) (lv2 := [(1, .int (v1 * (3 : Int32))), (0, .int v0), (2, .int v2)]) rfl (by decide) dX10_power_12 rfl rfl ?_
      refine j_iinc (q := 2) (np := 16) (lv2 := [(2, .int (v2 + (1 : Int32))), (1, .int (v1 * (3 : Int32))), (0, .int v0)]) rfl (congrArg _ ci_1) (by decide) dX10_power_13 rfl rfl ?_
      refine j_goto (tgt := 4) dX10_power_16 rfl ?_
      refine j_sub (lv2 := [(0, .int v0), (1, .int (v1 * (3 : Int32))), (2, .int (v2 + (1 : Int32)))]) [2, 1, 0] rfl ?_
      exact ih _ _ _
def fX10_power (N : Nat) (v0 : Int32) (m0 : qM) : Option (Int32 × qM) :=
  (lX10_power_4 N v0 N (1 : Int32) (0 : Int32) m0).bind fun o1 =>
  some (o1.1, o1.2)
set_option maxRecDepth 100000 in
theorem bX10_power {E : qE} {N d bc bs : Nat} (hd : 0 ≤ d) {v0 : Int32} {m0 : qM} : qB E yX10_power cX10_power 3 (some .int) (fun _ => True) d bc bs 0 [(0, .int v0)] [] m0 (fX10_power N v0 m0) (fun b rr => rr = (some (.int b.1), b.2)) := by
  unfold fX10_power
  refine j_iconst (np := 1) ci_1 dX10_power_0 rfl ?_
  refine j_istore_n (np := 2) (lv2 := [(1, .int (1 : Int32)), (0, .int v0)]) rfl (by decide) dX10_power_1 rfl rfl ?_
  refine j_iconst (np := 3) ci_0 dX10_power_2 rfl ?_
  refine j_istore_n (np := 4) (lv2 := [(2, .int (0 : Int32)), (1, .int (1 : Int32)), (0, .int v0)]) rfl (by decide) dX10_power_3 rfl rfl ?_
  refine j_sub (lv2 := [(0, .int v0), (1, .int (1 : Int32)), (2, .int (0 : Int32))]) [2, 1, 0] rfl ?_
  refine j_loop (xp := 19) (lvX := fun o1 => [(1, .int o1.1)]) (mX := fun o1 => o1.2) (lbX10_power_4 hd _ _ _ _) (fun o1 => ?_)
  refine j_iload_n (q := 0) (np := 20) rfl rfl dX10_power_19 rfl ?_
  exact j_iret rfl dX10_power_20 (fun rr h => h)
set_option maxRecDepth 100000 in
theorem wX10_power {E : qE} {N d : Nat} (hd : 0 ≤ d) {v0 : Int32} {m0 : qM} {b : Int32 × qM} (h : fX10_power N v0 m0 = some b) : qRun E yX10_power cX10_power 3 (some .int) d 0 0 [.int v0] m0 (some (.int b.1), b.2) := q_met pnX10 (Nat.le_of_ble_eq_true rfl) (bX10_power hd b _ h rfl)
theorem dX10_refutes_0 : decode cX10_refutes 0 = .ok (.iconst 0, 1) := by decide +kernel
theorem dX10_refutes_1 : decode cX10_refutes 1 = .ok (.istore_n 3, 1) := by decide +kernel
theorem dX10_refutes_2 : decode cX10_refutes 2 = .ok (.iload_n 3, 1) := by decide +kernel
theorem dX10_refutes_3 : decode cX10_refutes 3 = .ok (.iload_n 2, 1) := by decide +kernel
theorem dX10_refutes_4 : decode cX10_refutes 4 = .ok (.invokestatic 225, 3) := by decide +kernel
theorem dX10_refutes_7 : decode cX10_refutes 7 = .ok (.if_icmp .ge 29, 3) := by decide +kernel
theorem dX10_refutes_10 : decode cX10_refutes 10 = .ok (.aload_n 0, 1) := by decide +kernel
theorem dX10_refutes_11 : decode cX10_refutes 11 = .ok (.iload_n 3, 1) := by decide +kernel
theorem dX10_refutes_12 : decode cX10_refutes 12 = .ok (.iload_n 2, 1) := by decide +kernel
theorem dX10_refutes_13 : decode cX10_refutes 13 = .ok (.invokevirtual 228, 3) := by decide +kernel
theorem dX10_refutes_16 : decode cX10_refutes 16 = .ok (.aload_n 0, 1) := by decide +kernel
theorem dX10_refutes_17 : decode cX10_refutes 17 = .ok (.aload_n 0, 1) := by decide +kernel
theorem dX10_refutes_18 : decode cX10_refutes 18 = .ok (.iload_n 1, 1) := by decide +kernel
theorem dX10_refutes_19 : decode cX10_refutes 19 = .ok (.invokevirtual 231, 3) := by decide +kernel
theorem dX10_refutes_22 : decode cX10_refutes 22 = .ok (.invokevirtual 219, 3) := by decide +kernel
theorem dX10_refutes_25 : decode cX10_refutes 25 = .ok (.ifCond .ne 5, 3) := by decide +kernel
theorem dX10_refutes_28 : decode cX10_refutes 28 = .ok (.iload_n 3, 1) := by decide +kernel
theorem dX10_refutes_29 : decode cX10_refutes 29 = .ok (.ireturn, 1) := by decide +kernel
theorem dX10_refutes_30 : decode cX10_refutes 30 = .ok (.iinc 3 1, 3) := by decide +kernel
theorem dX10_refutes_33 : decode cX10_refutes 33 = .ok (.goto (-31), 3) := by decide +kernel
theorem dX10_refutes_36 : decode cX10_refutes 36 = .ok (.iconst (-1), 1) := by decide +kernel
theorem dX10_refutes_37 : decode cX10_refutes 37 = .ok (.ireturn, 1) := by decide +kernel
def lX10_refutes_2 (N : Nat) (v0 : Nat) (v1 : Int32) (v2 : Int32) : Nat → Int32 → qM → Option ((qM) ⊕ (Int32 × qM))
  | 0, _, _ => none
  | n + 1, v3, m0 =>
    (fX10_power N v2 m0).bind fun b1 =>
    if b1.1 ≤ v3 then (
    some (.inl b1.2)
    ) else (
    (qChk b1.2 v0 10 (fX10_values N v0 v3 v2 b1.2)).bind fun b2 =>
    (qChk b2 v0 10 (fX10_valueOf N v0 v1 b2)).bind fun b3 =>
    (qChk b3.2 v0 10 (fX10_isDesignated N v0 b3.1 b3.2)).bind fun b4 =>
    if b4.1 = 0 then (
    some (.inr (v3, b4.2))
    ) else (
    lX10_refutes_2 N v0 v1 v2 n (v3 + (1 : Int32)) b4.2
    )
    )
set_option maxRecDepth 100000 in
theorem lbX10_refutes_2 {E : qE} {N d bc bs : Nat} (hd : 133 ≤ d) {v0 : Nat} {v1 : Int32} {v2 : Int32} : ∀ (n : Nat) (v3 : Int32) (m0 : qM), qB E yX10_refutes cX10_refutes 4 (some .int) (fun _ => True) d bc bs 2 [(0, .ref (E.2.1 + v0)), (1, .int v1), (2, .int v2), (3, .int v3)] [] m0 (lX10_refutes_2 N v0 v1 v2 n v3 m0) (qGL (fun o rr => qJ E yX10_refutes cX10_refutes 4 (some .int) (fun _ => True) d bc bs 36 [] [] o rr) (fun r => (some (.int r.1), r.2))) := by
  intro n
  induction n with
  | zero =>
    intro v3 m0
    exact j_none
  | succ n ih =>
    intro v3 m0
    unfold lX10_refutes_2
    refine j_iload_n (q := 3) (np := 3) rfl rfl dX10_refutes_2 rfl ?_
    refine j_iload_n (q := 2) (np := 4) rfl rfl dX10_refutes_3 rfl ?_
    refine j_callSi (np := 7) (bc := bc) (bs := bs) (cb := 0) (cs := 0) (dd := d - 1) (As := [.int v2]) (st := [.int v3]) caX10_power mlX10_225 stX10_power (fun b hb => wX10_power (by omega) hb) (by omega) rfl rfl (Nat.le_of_ble_eq_true rfl) dX10_refutes_4 rfl (fun b1 => ?_)
    refine j_icmp_ge (tgt := 36) (np := 10) dX10_refutes_7 rfl rfl ?_ ?_
    · refine j_sub (lv2 := []) [] rfl ?_
      exact j_exit (fun rr h => h)
    · refine j_aload_n (q := 0) (np := 11) rfl rfl dX10_refutes_10 rfl ?_
      refine j_iload_n (q := 3) (np := 12) rfl rfl dX10_refutes_11 rfl ?_
      refine j_iload_n (q := 2) (np := 13) rfl rfl dX10_refutes_12 rfl ?_
      refine j_callVv (ci := 10) (np := 16) (bc := bc) (bs := bs) (cb := 0) (cs := 0) (dd := d - 1) (As := [.int v3, .int v2]) (st := []) caX10_values mlX10_228 imX10_values seX10_values rfl rfl (by decide) (fun b hb => wX10_values (by omega) hb) (by omega) rfl rfl (Nat.le_of_ble_eq_true rfl) dX10_refutes_13 rfl (fun b2 => ?_)
      refine j_aload_n (q := 0) (np := 17) rfl rfl dX10_refutes_16 rfl ?_
      refine j_aload_n (q := 0) (np := 18) rfl rfl dX10_refutes_17 rfl ?_
      refine j_iload_n (q := 1) (np := 19) rfl rfl dX10_refutes_18 rfl ?_
      refine j_callVi (ci := 10) (np := 22) (bc := bc) (bs := bs) (cb := 0) (cs := 0) (dd := d - 1) (As := [.int v1]) (st := [.ref (E.2.1 + v0)]) caX10_valueOf mlX10_231 imX10_valueOf seX10_valueOf rfl rfl (by decide) (fun b hb => wX10_valueOf (by omega) hb) (by omega) rfl rfl (Nat.le_of_ble_eq_true rfl) dX10_refutes_19 rfl (fun b3 => ?_)
      refine j_callVi (ci := 10) (np := 25) (bc := bc) (bs := bs) (cb := 0) (cs := 0) (dd := d - 1) (As := [.int b3.1]) (st := []) caX10_isDesignated mlX10_219 imX10_isDesignated seX10_isDesignated rfl rfl (by decide) (fun b hb => wX10_isDesignated (by omega) hb) (by omega) rfl rfl (Nat.le_of_ble_eq_true rfl) dX10_refutes_22 rfl (fun b4 => ?_)
      refine j_if_ne (tgt := 30) (np := 28) dX10_refutes_25 rfl rfl ?_ ?_
      · refine j_iinc (q := 3) (np := 33) (lv2 := [(3, .int (v3 + (1 : Int32))), (0, .ref (E.2.1 + v0)), (1, .int v1), (2, .int v2)]) rfl (congrArg _ ci_1) (by decide) dX10_refutes_30 rfl rfl ?_
        refine j_goto (tgt := 2) dX10_refutes_33 rfl ?_
        refine j_sub (lv2 := [(0, .ref (E.2.1 + v0)), (1, .int v1), (2, .int v2), (3, .int (v3 + (1 : Int32)))]) [1, 2, 3, 0] rfl ?_
        exact ih _ _
      · refine j_iload_n (q := 3) (np := 29) rfl rfl dX10_refutes_28 rfl ?_
        exact j_iret rfl dX10_refutes_29 (fun rr h => h)
def fX10_refutes (N : Nat) (v0 : Nat) (v1 : Int32) (v2 : Int32) (m0 : qM) : Option (Int32 × qM) :=
  qTh (lX10_refutes_2 N v0 v1 v2 N (0 : Int32) m0) (fun o1 =>
  some ((-1 : Int32), o1)
  ) (fun r => r)
set_option maxRecDepth 100000 in
theorem bX10_refutes {E : qE} {N d bc bs : Nat} (hd : 133 ≤ d) {v0 : Nat} {v1 : Int32} {v2 : Int32} {m0 : qM} : qB E yX10_refutes cX10_refutes 4 (some .int) (fun _ => True) d bc bs 0 [(0, .ref (E.2.1 + v0)), (1, .int v1), (2, .int v2)] [] m0 (fX10_refutes N v0 v1 v2 m0) (fun b rr => rr = (some (.int b.1), b.2)) := by
  unfold fX10_refutes
  refine j_iconst (np := 1) ci_0 dX10_refutes_0 rfl ?_
  refine j_istore_n (np := 2) (lv2 := [(3, .int (0 : Int32)), (0, .ref (E.2.1 + v0)), (1, .int v1), (2, .int v2)]) rfl (by decide) dX10_refutes_1 rfl rfl ?_
  refine j_sub (lv2 := [(0, .ref (E.2.1 + v0)), (1, .int v1), (2, .int v2), (3, .int (0 : Int32))]) [1, 2, 3, 0] rfl ?_
  refine j_loopG (xp := 36) (lvX := fun o1 => []) (mX := fun o1 => o1) (lbX10_refutes_2 hd _ _ _) (fun r rr h => h) (fun o1 => ?_)
  refine j_iconst (np := 37) ci_m1 dX10_refutes_36 rfl ?_
  exact j_iret rfl dX10_refutes_37 (fun rr h => h)
set_option maxRecDepth 100000 in
theorem wX10_refutes {E : qE} {N d : Nat} (hd : 133 ≤ d) {v0 : Nat} {v1 : Int32} {v2 : Int32} {m0 : qM} {b : Int32 × qM} (h : fX10_refutes N v0 v1 v2 m0 = some b) : qRun E yX10_refutes cX10_refutes 4 (some .int) d 0 0 [.ref (E.2.1 + v0), .int v1, .int v2] m0 (some (.int b.1), b.2) := q_met pnX10 (Nat.le_of_ble_eq_true rfl) (bX10_refutes hd b _ h rfl)
theorem dX10_isValid_0 : decode cX10_isValid 0 = .ok (.aload_n 0, 1) := by decide +kernel
theorem dX10_isValid_1 : decode cX10_isValid 1 = .ok (.iload_n 1, 1) := by decide +kernel
theorem dX10_isValid_2 : decode cX10_isValid 2 = .ok (.invokevirtual 172, 3) := by decide +kernel
theorem dX10_isValid_5 : decode cX10_isValid 5 = .ok (.ifCond .ne 5, 3) := by decide +kernel
theorem dX10_isValid_8 : decode cX10_isValid 8 = .ok (.iconst (-1), 1) := by decide +kernel
theorem dX10_isValid_9 : decode cX10_isValid 9 = .ok (.ireturn, 1) := by decide +kernel
theorem dX10_isValid_10 : decode cX10_isValid 10 = .ok (.aload_n 0, 1) := by decide +kernel
theorem dX10_isValid_11 : decode cX10_isValid 11 = .ok (.iload_n 1, 1) := by decide +kernel
theorem dX10_isValid_12 : decode cX10_isValid 12 = .ok (.invokevirtual 193, 3) := by decide +kernel
theorem dX10_isValid_15 : decode cX10_isValid 15 = .ok (.istore_n 2, 1) := by decide +kernel
theorem dX10_isValid_16 : decode cX10_isValid 16 = .ok (.iload_n 2, 1) := by decide +kernel
theorem dX10_isValid_17 : decode cX10_isValid 17 = .ok (.bipush 8, 2) := by decide +kernel
theorem dX10_isValid_19 : decode cX10_isValid 19 = .ok (.if_icmp .le 6, 3) := by decide +kernel
theorem dX10_isValid_22 : decode cX10_isValid 22 = .ok (.bipush (-5), 2) := by decide +kernel
theorem dX10_isValid_24 : decode cX10_isValid 24 = .ok (.ireturn, 1) := by decide +kernel
theorem dX10_isValid_25 : decode cX10_isValid 25 = .ok (.aload_n 0, 1) := by decide +kernel
theorem dX10_isValid_26 : decode cX10_isValid 26 = .ok (.iload_n 1, 1) := by decide +kernel
theorem dX10_isValid_27 : decode cX10_isValid 27 = .ok (.iload_n 2, 1) := by decide +kernel
theorem dX10_isValid_28 : decode cX10_isValid 28 = .ok (.invokevirtual 234, 3) := by decide +kernel
theorem dX10_isValid_31 : decode cX10_isValid 31 = .ok (.ifCond .ge 7, 3) := by decide +kernel
theorem dX10_isValid_34 : decode cX10_isValid 34 = .ok (.iconst 1, 1) := by decide +kernel
theorem dX10_isValid_35 : decode cX10_isValid 35 = .ok (.goto 4, 3) := by decide +kernel
theorem dX10_isValid_38 : decode cX10_isValid 38 = .ok (.iconst 0, 1) := by decide +kernel
theorem dX10_isValid_39 : decode cX10_isValid 39 = .ok (.ireturn, 1) := by decide +kernel
def fX10_isValid (N : Nat) (v0 : Nat) (v1 : Int32) (m0 : qM) : Option (Int32 × qM) :=
  (qChk m0 v0 10 (fX10_isOne N v0 v1 m0)).bind fun b1 =>
  if b1.1 = 0 then (
  some ((-1 : Int32), b1.2)
  ) else (
  (qChk b1.2 v0 10 (fX10_variables N v0 v1 b1.2)).bind fun b2 =>
  if b2.1 ≤ (8 : Int32) then (
  (qChk b2.2 v0 10 (fX10_refutes N v0 v1 b2.1 b2.2)).bind fun b3 =>
  if 0 ≤ b3.1 then (
  some ((0 : Int32), b3.2)
  ) else (
  some ((1 : Int32), b3.2)
  )
  ) else (
  some ((-5 : Int32), b2.2)
  )
  )
set_option maxRecDepth 100000 in
theorem bX10_isValid {E : qE} {N d bc bs : Nat} (hd : 134 ≤ d) {v0 : Nat} {v1 : Int32} {m0 : qM} : qB E yX10_isValid cX10_isValid 3 (some .int) (fun _ => True) d bc bs 0 [(0, .ref (E.2.1 + v0)), (1, .int v1)] [] m0 (fX10_isValid N v0 v1 m0) (fun b rr => rr = (some (.int b.1), b.2)) := by
  unfold fX10_isValid
  refine j_aload_n (q := 0) (np := 1) rfl rfl dX10_isValid_0 rfl ?_
  refine j_iload_n (q := 1) (np := 2) rfl rfl dX10_isValid_1 rfl ?_
  refine j_callVi (ci := 10) (np := 5) (bc := bc) (bs := bs) (cb := 0) (cs := 0) (dd := d - 1) (As := [.int v1]) (st := []) caX10_isOne mlX10_172 imX10_isOne seX10_isOne rfl rfl (by decide) (fun b hb => wX10_isOne (by omega) hb) (by omega) rfl rfl (Nat.le_of_ble_eq_true rfl) dX10_isValid_2 rfl (fun b1 => ?_)
  refine j_if_ne (tgt := 10) (np := 8) dX10_isValid_5 rfl rfl ?_ ?_
  · refine j_aload_n (q := 0) (np := 11) rfl rfl dX10_isValid_10 rfl ?_
    refine j_iload_n (q := 1) (np := 12) rfl rfl dX10_isValid_11 rfl ?_
    refine j_callVi (ci := 10) (np := 15) (bc := bc) (bs := bs) (cb := 0) (cs := 0) (dd := d - 1) (As := [.int v1]) (st := []) caX10_variables mlX10_193 imX10_variables seX10_variables rfl rfl (by decide) (fun b hb => wX10_variables (by omega) hb) (by omega) rfl rfl (Nat.le_of_ble_eq_true rfl) dX10_isValid_12 rfl (fun b2 => ?_)
    refine j_istore_n (np := 16) (lv2 := [(2, .int b2.1), (0, .ref (E.2.1 + v0)), (1, .int v1)]) rfl (by decide) dX10_isValid_15 rfl rfl ?_
    refine j_iload_n (q := 0) (np := 17) rfl rfl dX10_isValid_16 rfl ?_
    refine j_bipush (np := 19) cb_8 dX10_isValid_17 rfl ?_
    refine j_icmp_le (tgt := 25) (np := 22) dX10_isValid_19 rfl rfl ?_ ?_
    · refine j_aload_n (q := 1) (np := 26) rfl rfl dX10_isValid_25 rfl ?_
      refine j_iload_n (q := 2) (np := 27) rfl rfl dX10_isValid_26 rfl ?_
      refine j_iload_n (q := 0) (np := 28) rfl rfl dX10_isValid_27 rfl ?_
      refine j_callVi (ci := 10) (np := 31) (bc := bc) (bs := bs) (cb := 0) (cs := 0) (dd := d - 1) (As := [.int v1, .int b2.1]) (st := []) caX10_refutes mlX10_234 imX10_refutes seX10_refutes rfl rfl (by decide) (fun b hb => wX10_refutes (by omega) hb) (by omega) rfl rfl (Nat.le_of_ble_eq_true rfl) dX10_isValid_28 rfl (fun b3 => ?_)
      refine j_if_ge (tgt := 38) (np := 34) dX10_isValid_31 rfl rfl ?_ ?_
      · refine j_iconst (np := 39) ci_0 dX10_isValid_38 rfl ?_
        exact j_iret rfl dX10_isValid_39 (fun rr h => h)
      · refine j_iconst (np := 35) ci_1 dX10_isValid_34 rfl ?_
        refine j_goto (tgt := 39) dX10_isValid_35 rfl ?_
        exact j_iret rfl dX10_isValid_39 (fun rr h => h)
    · refine j_bipush (np := 24) cb_m5 dX10_isValid_22 rfl ?_
      exact j_iret rfl dX10_isValid_24 (fun rr h => h)
  · refine j_iconst (np := 9) ci_m1 dX10_isValid_8 rfl ?_
    exact j_iret rfl dX10_isValid_9 (fun rr h => h)
set_option maxRecDepth 100000 in
theorem wX10_isValid {E : qE} {N d : Nat} (hd : 134 ≤ d) {v0 : Nat} {v1 : Int32} {m0 : qM} {b : Int32 × qM} (h : fX10_isValid N v0 v1 m0 = some b) : qRun E yX10_isValid cX10_isValid 3 (some .int) d 0 0 [.ref (E.2.1 + v0), .int v1] m0 (some (.int b.1), b.2) := q_met pnX10 (Nat.le_of_ble_eq_true rfl) (bX10_isValid hd b _ h rfl)
theorem dX10_refutation_0 : decode cX10_refutation 0 = .ok (.aload_n 0, 1) := by decide +kernel
theorem dX10_refutation_1 : decode cX10_refutation 1 = .ok (.iload_n 1, 1) := by decide +kernel
theorem dX10_refutation_2 : decode cX10_refutation 2 = .ok (.invokevirtual 172, 3) := by decide +kernel
theorem dX10_refutation_5 : decode cX10_refutation 5 = .ok (.ifCond .eq 18, 3) := by decide +kernel
theorem dX10_refutation_8 : decode cX10_refutation 8 = .ok (.iload_n 2, 1) := by decide +kernel
theorem dX10_refutation_9 : decode cX10_refutation 9 = .ok (.iconst 0, 1) := by decide +kernel
theorem dX10_refutation_10 : decode cX10_refutation 10 = .ok (.aload_n 0, 1) := by decide +kernel
theorem dX10_refutation_11 : decode cX10_refutation 11 = .ok (.iload_n 1, 1) := by decide +kernel
theorem dX10_refutation_12 : decode cX10_refutation 12 = .ok (.invokevirtual 193, 3) := by decide +kernel
theorem dX10_refutation_15 : decode cX10_refutation 15 = .ok (.iconst 1, 1) := by decide +kernel
theorem dX10_refutation_16 : decode cX10_refutation 16 = .ok (.isub, 1) := by decide +kernel
theorem dX10_refutation_17 : decode cX10_refutation 17 = .ok (.invokestatic 99, 3) := by decide +kernel
theorem dX10_refutation_20 : decode cX10_refutation 20 = .ok (.ifCond .ne 5, 3) := by decide +kernel
theorem dX10_refutation_23 : decode cX10_refutation 23 = .ok (.iconst (-1), 1) := by decide +kernel
theorem dX10_refutation_24 : decode cX10_refutation 24 = .ok (.ireturn, 1) := by decide +kernel
theorem dX10_refutation_25 : decode cX10_refutation 25 = .ok (.aload_n 0, 1) := by decide +kernel
theorem dX10_refutation_26 : decode cX10_refutation 26 = .ok (.iload_n 1, 1) := by decide +kernel
theorem dX10_refutation_27 : decode cX10_refutation 27 = .ok (.invokevirtual 193, 3) := by decide +kernel
theorem dX10_refutation_30 : decode cX10_refutation 30 = .ok (.istore_n 3, 1) := by decide +kernel
theorem dX10_refutation_31 : decode cX10_refutation 31 = .ok (.iload_n 3, 1) := by decide +kernel
theorem dX10_refutation_32 : decode cX10_refutation 32 = .ok (.bipush 8, 2) := by decide +kernel
theorem dX10_refutation_34 : decode cX10_refutation 34 = .ok (.if_icmp .le 6, 3) := by decide +kernel
theorem dX10_refutation_37 : decode cX10_refutation 37 = .ok (.bipush (-5), 2) := by decide +kernel
theorem dX10_refutation_39 : decode cX10_refutation 39 = .ok (.ireturn, 1) := by decide +kernel
theorem dX10_refutation_40 : decode cX10_refutation 40 = .ok (.aload_n 0, 1) := by decide +kernel
theorem dX10_refutation_41 : decode cX10_refutation 41 = .ok (.iload_n 1, 1) := by decide +kernel
theorem dX10_refutation_42 : decode cX10_refutation 42 = .ok (.iload_n 3, 1) := by decide +kernel
theorem dX10_refutation_43 : decode cX10_refutation 43 = .ok (.invokevirtual 234, 3) := by decide +kernel
theorem dX10_refutation_46 : decode cX10_refutation 46 = .ok (.istore 4, 2) := by decide +kernel
theorem dX10_refutation_48 : decode cX10_refutation 48 = .ok (.iload 4, 2) := by decide +kernel
theorem dX10_refutation_50 : decode cX10_refutation 50 = .ok (.ifCond .ge 6, 3) := by decide +kernel
theorem dX10_refutation_53 : decode cX10_refutation 53 = .ok (.bipush (-4), 2) := by decide +kernel
theorem dX10_refutation_55 : decode cX10_refutation 55 = .ok (.ireturn, 1) := by decide +kernel
theorem dX10_refutation_56 : decode cX10_refutation 56 = .ok (.aload_n 0, 1) := by decide +kernel
theorem dX10_refutation_57 : decode cX10_refutation 57 = .ok (.iload 4, 2) := by decide +kernel
theorem dX10_refutation_59 : decode cX10_refutation 59 = .ok (.iload_n 3, 1) := by decide +kernel
theorem dX10_refutation_60 : decode cX10_refutation 60 = .ok (.invokevirtual 228, 3) := by decide +kernel
theorem dX10_refutation_63 : decode cX10_refutation 63 = .ok (.aload_n 0, 1) := by decide +kernel
theorem dX10_refutation_64 : decode cX10_refutation 64 = .ok (.getfield 38, 3) := by decide +kernel
theorem dX10_refutation_67 : decode cX10_refutation 67 = .ok (.iload_n 2, 1) := by decide +kernel
theorem dX10_refutation_68 : decode cX10_refutation 68 = .ok (.iaload, 1) := by decide +kernel
theorem dX10_refutation_69 : decode cX10_refutation 69 = .ok (.ireturn, 1) := by decide +kernel
def fX10_refutation (N : Nat) (v0 : Nat) (v1 : Int32) (v2 : Int32) (m0 : qM) : Option (Int32 × qM) :=
  (qChk m0 v0 10 (fX10_isOne N v0 v1 m0)).bind fun b1 =>
  if b1.1 = 0 then (
  some ((-1 : Int32), b1.2)
  ) else (
  (qChk b1.2 v0 10 (fX10_variables N v0 v1 b1.2)).bind fun b2 =>
  (fX10_in N v2 (0 : Int32) (b2.1 - (1 : Int32)) b2.2).bind fun b3 =>
  if b3.1 = 0 then (
  some ((-1 : Int32), b3.2)
  ) else (
  (qChk b3.2 v0 10 (fX10_variables N v0 v1 b3.2)).bind fun b4 =>
  if b4.1 ≤ (8 : Int32) then (
  (qChk b4.2 v0 10 (fX10_refutes N v0 v1 b4.1 b4.2)).bind fun b5 =>
  if 0 ≤ b5.1 then (
  (qChk b5.2 v0 10 (fX10_values N v0 b5.1 b4.1 b5.2)).bind fun b6 =>
  (qgR b6 v0 10 14).bind fun x7 =>
  (qaI b6 x7 12 v2).bind fun x8 =>
  some (x8, b6)
  ) else (
  some ((-4 : Int32), b5.2)
  )
  ) else (
  some ((-5 : Int32), b4.2)
  )
  )
  )
set_option maxRecDepth 100000 in
theorem bX10_refutation {E : qE} {N d bc bs : Nat} (hd : 134 ≤ d) {v0 : Nat} {v1 : Int32} {v2 : Int32} {m0 : qM} : qB E yX10_refutation cX10_refutation 5 (some .int) (fun _ => True) d bc bs 0 [(0, .ref (E.2.1 + v0)), (1, .int v1), (2, .int v2)] [] m0 (fX10_refutation N v0 v1 v2 m0) (fun b rr => rr = (some (.int b.1), b.2)) := by
  unfold fX10_refutation
  refine j_aload_n (q := 0) (np := 1) rfl rfl dX10_refutation_0 rfl ?_
  refine j_iload_n (q := 1) (np := 2) rfl rfl dX10_refutation_1 rfl ?_
  refine j_callVi (ci := 10) (np := 5) (bc := bc) (bs := bs) (cb := 0) (cs := 0) (dd := d - 1) (As := [.int v1]) (st := []) caX10_isOne mlX10_172 imX10_isOne seX10_isOne rfl rfl (by decide) (fun b hb => wX10_isOne (by omega) hb) (by omega) rfl rfl (Nat.le_of_ble_eq_true rfl) dX10_refutation_2 rfl (fun b1 => ?_)
  refine j_if_eq (tgt := 23) (np := 8) dX10_refutation_5 rfl rfl ?_ ?_
  · refine j_iconst (np := 24) ci_m1 dX10_refutation_23 rfl ?_
    exact j_iret rfl dX10_refutation_24 (fun rr h => h)
  · refine j_iload_n (q := 2) (np := 9) rfl rfl dX10_refutation_8 rfl ?_
    refine j_iconst (np := 10) ci_0 dX10_refutation_9 rfl ?_
    refine j_aload_n (q := 0) (np := 11) rfl rfl dX10_refutation_10 rfl ?_
    refine j_iload_n (q := 1) (np := 12) rfl rfl dX10_refutation_11 rfl ?_
    refine j_callVi (ci := 10) (np := 15) (bc := bc) (bs := bs) (cb := 0) (cs := 0) (dd := d - 1) (As := [.int v1]) (st := [.int (0 : Int32), .int v2]) caX10_variables mlX10_193 imX10_variables seX10_variables rfl rfl (by decide) (fun b hb => wX10_variables (by omega) hb) (by omega) rfl rfl (Nat.le_of_ble_eq_true rfl) dX10_refutation_12 rfl (fun b2 => ?_)
    refine j_iconst (np := 16) ci_1 dX10_refutation_15 rfl ?_
    refine j_isub (np := 17) dX10_refutation_16 rfl ?_
    refine j_callSi (np := 20) (bc := bc) (bs := bs) (cb := 0) (cs := 0) (dd := d - 1) (As := [.int v2, .int (0 : Int32), .int (b2.1 - (1 : Int32))]) (st := []) caX10_in mlX10_99 stX10_in (fun b hb => wX10_in (by omega) hb) (by omega) rfl rfl (Nat.le_of_ble_eq_true rfl) dX10_refutation_17 rfl (fun b3 => ?_)
    refine j_if_ne (tgt := 25) (np := 23) dX10_refutation_20 rfl rfl ?_ ?_
    · refine j_aload_n (q := 0) (np := 26) rfl rfl dX10_refutation_25 rfl ?_
      refine j_iload_n (q := 1) (np := 27) rfl rfl dX10_refutation_26 rfl ?_
      refine j_callVi (ci := 10) (np := 30) (bc := bc) (bs := bs) (cb := 0) (cs := 0) (dd := d - 1) (As := [.int v1]) (st := []) caX10_variables mlX10_193 imX10_variables seX10_variables rfl rfl (by decide) (fun b hb => wX10_variables (by omega) hb) (by omega) rfl rfl (Nat.le_of_ble_eq_true rfl) dX10_refutation_27 rfl (fun b4 => ?_)
      refine j_istore_n (np := 31) (lv2 := [(3, .int b4.1), (0, .ref (E.2.1 + v0)), (1, .int v1), (2, .int v2)]) rfl (by decide) dX10_refutation_30 rfl rfl ?_
      refine j_iload_n (q := 0) (np := 32) rfl rfl dX10_refutation_31 rfl ?_
      refine j_bipush (np := 34) cb_8 dX10_refutation_32 rfl ?_
      refine j_icmp_le (tgt := 40) (np := 37) dX10_refutation_34 rfl rfl ?_ ?_
      · refine j_aload_n (q := 1) (np := 41) rfl rfl dX10_refutation_40 rfl ?_
        refine j_iload_n (q := 2) (np := 42) rfl rfl dX10_refutation_41 rfl ?_
        refine j_iload_n (q := 0) (np := 43) rfl rfl dX10_refutation_42 rfl ?_
        refine j_callVi (ci := 10) (np := 46) (bc := bc) (bs := bs) (cb := 0) (cs := 0) (dd := d - 1) (As := [.int v1, .int b4.1]) (st := []) caX10_refutes mlX10_234 imX10_refutes seX10_refutes rfl rfl (by decide) (fun b hb => wX10_refutes (by omega) hb) (by omega) rfl rfl (Nat.le_of_ble_eq_true rfl) dX10_refutation_43 rfl (fun b5 => ?_)
        refine j_istore (np := 48) (lv2 := [(4, .int b5.1), (3, .int b4.1), (0, .ref (E.2.1 + v0)), (1, .int v1), (2, .int v2)]) (by decide) dX10_refutation_46 rfl rfl ?_
        refine j_iload (q := 0) (np := 50) rfl dX10_refutation_48 rfl ?_
        refine j_if_ge (tgt := 56) (np := 53) dX10_refutation_50 rfl rfl ?_ ?_
        · refine j_aload_n (q := 2) (np := 57) rfl rfl dX10_refutation_56 rfl ?_
          refine j_iload (q := 0) (np := 59) rfl dX10_refutation_57 rfl ?_
          refine j_iload_n (q := 1) (np := 60) rfl rfl dX10_refutation_59 rfl ?_
          refine j_callVv (ci := 10) (np := 63) (bc := bc) (bs := bs) (cb := 0) (cs := 0) (dd := d - 1) (As := [.int b5.1, .int b4.1]) (st := []) caX10_values mlX10_228 imX10_values seX10_values rfl rfl (by decide) (fun b hb => wX10_values (by omega) hb) (by omega) rfl rfl (Nat.le_of_ble_eq_true rfl) dX10_refutation_60 rfl (fun b6 => ?_)
          refine j_aload_n (q := 2) (np := 64) rfl rfl dX10_refutation_63 rfl ?_
          refine j_gR (np := 67) flX10_38 dX10_refutation_64 rfl (fun x7 => ?_)
          refine j_iload_n (q := 4) (np := 68) rfl rfl dX10_refutation_67 rfl ?_
          refine j_iaload (np := 69) dX10_refutation_68 rfl (fun x8 => ?_)
          exact j_iret rfl dX10_refutation_69 (fun rr h => h)
        · refine j_bipush (np := 55) cb_m4 dX10_refutation_53 rfl ?_
          exact j_iret rfl dX10_refutation_55 (fun rr h => h)
      · refine j_bipush (np := 39) cb_m5 dX10_refutation_37 rfl ?_
        exact j_iret rfl dX10_refutation_39 (fun rr h => h)
    · refine j_iconst (np := 24) ci_m1 dX10_refutation_23 rfl ?_
      exact j_iret rfl dX10_refutation_24 (fun rr h => h)
set_option maxRecDepth 100000 in
theorem wX10_refutation {E : qE} {N d : Nat} (hd : 134 ≤ d) {v0 : Nat} {v1 : Int32} {v2 : Int32} {m0 : qM} {b : Int32 × qM} (h : fX10_refutation N v0 v1 v2 m0 = some b) : qRun E yX10_refutation cX10_refutation 5 (some .int) d 0 0 [.ref (E.2.1 + v0), .int v1, .int v2] m0 (some (.int b.1), b.2) := q_met pnX10 (Nat.le_of_ble_eq_true rfl) (bX10_refutation hd b _ h rfl)
theorem dX10_countValuations_0 : decode cX10_countValuations 0 = .ok (.aload_n 0, 1) := by decide +kernel
theorem dX10_countValuations_1 : decode cX10_countValuations 1 = .ok (.iload_n 1, 1) := by decide +kernel
theorem dX10_countValuations_2 : decode cX10_countValuations 2 = .ok (.invokevirtual 172, 3) := by decide +kernel
theorem dX10_countValuations_5 : decode cX10_countValuations 5 = .ok (.ifCond .eq 10, 3) := by decide +kernel
theorem dX10_countValuations_8 : decode cX10_countValuations 8 = .ok (.iload_n 2, 1) := by decide +kernel
theorem dX10_countValuations_9 : decode cX10_countValuations 9 = .ok (.invokestatic 216, 3) := by decide +kernel
theorem dX10_countValuations_12 : decode cX10_countValuations 12 = .ok (.ifCond .ne 5, 3) := by decide +kernel
theorem dX10_countValuations_15 : decode cX10_countValuations 15 = .ok (.iconst (-1), 1) := by decide +kernel
theorem dX10_countValuations_16 : decode cX10_countValuations 16 = .ok (.ireturn, 1) := by decide +kernel
theorem dX10_countValuations_17 : decode cX10_countValuations 17 = .ok (.aload_n 0, 1) := by decide +kernel
theorem dX10_countValuations_18 : decode cX10_countValuations 18 = .ok (.iload_n 1, 1) := by decide +kernel
theorem dX10_countValuations_19 : decode cX10_countValuations 19 = .ok (.invokevirtual 193, 3) := by decide +kernel
theorem dX10_countValuations_22 : decode cX10_countValuations 22 = .ok (.istore_n 3, 1) := by decide +kernel
theorem dX10_countValuations_23 : decode cX10_countValuations 23 = .ok (.iload_n 3, 1) := by decide +kernel
theorem dX10_countValuations_24 : decode cX10_countValuations 24 = .ok (.bipush 8, 2) := by decide +kernel
theorem dX10_countValuations_26 : decode cX10_countValuations 26 = .ok (.if_icmp .le 6, 3) := by decide +kernel
theorem dX10_countValuations_29 : decode cX10_countValuations 29 = .ok (.bipush (-5), 2) := by decide +kernel
theorem dX10_countValuations_31 : decode cX10_countValuations 31 = .ok (.ireturn, 1) := by decide +kernel
theorem dX10_countValuations_32 : decode cX10_countValuations 32 = .ok (.iconst 0, 1) := by decide +kernel
theorem dX10_countValuations_33 : decode cX10_countValuations 33 = .ok (.istore 4, 2) := by decide +kernel
theorem dX10_countValuations_35 : decode cX10_countValuations 35 = .ok (.iconst 0, 1) := by decide +kernel
theorem dX10_countValuations_36 : decode cX10_countValuations 36 = .ok (.istore 5, 2) := by decide +kernel
theorem dX10_countValuations_38 : decode cX10_countValuations 38 = .ok (.iload 5, 2) := by decide +kernel
theorem dX10_countValuations_40 : decode cX10_countValuations 40 = .ok (.iload_n 3, 1) := by decide +kernel
theorem dX10_countValuations_41 : decode cX10_countValuations 41 = .ok (.invokestatic 225, 3) := by decide +kernel
theorem dX10_countValuations_44 : decode cX10_countValuations 44 = .ok (.if_icmp .ge 28, 3) := by decide +kernel
theorem dX10_countValuations_47 : decode cX10_countValuations 47 = .ok (.aload_n 0, 1) := by decide +kernel
theorem dX10_countValuations_48 : decode cX10_countValuations 48 = .ok (.iload 5, 2) := by decide +kernel
theorem dX10_countValuations_50 : decode cX10_countValuations 50 = .ok (.iload_n 3, 1) := by decide +kernel
theorem dX10_countValuations_51 : decode cX10_countValuations 51 = .ok (.invokevirtual 228, 3) := by decide +kernel
theorem dX10_countValuations_54 : decode cX10_countValuations 54 = .ok (.aload_n 0, 1) := by decide +kernel
theorem dX10_countValuations_55 : decode cX10_countValuations 55 = .ok (.iload_n 1, 1) := by decide +kernel
theorem dX10_countValuations_56 : decode cX10_countValuations 56 = .ok (.invokevirtual 231, 3) := by decide +kernel
theorem dX10_countValuations_59 : decode cX10_countValuations 59 = .ok (.iload_n 2, 1) := by decide +kernel
theorem dX10_countValuations_60 : decode cX10_countValuations 60 = .ok (.if_icmp .ne 6, 3) := by decide +kernel
theorem dX10_countValuations_63 : decode cX10_countValuations 63 = .ok (.iinc 4 1, 3) := by decide +kernel
theorem dX10_countValuations_66 : decode cX10_countValuations 66 = .ok (.iinc 5 1, 3) := by decide +kernel
theorem dX10_countValuations_69 : decode cX10_countValuations 69 = .ok (.goto (-31), 3) := by decide +kernel
theorem dX10_countValuations_72 : decode cX10_countValuations 72 = .ok (.iload 4, 2) := by decide +kernel
theorem dX10_countValuations_74 : decode cX10_countValuations 74 = .ok (.ireturn, 1) := by decide +kernel
def kX10_countValuations_66 (N : Nat) (rec : Int32 → Int32 → qM → Option (Int32 × qM)) (v0 : Nat) (v1 : Int32) (v2 : Int32) (v3 : Int32) (v4 : Int32) (v5 : Int32)  (m0 : qM) : Option (Int32 × qM) :=
  rec v4 (v5 + (1 : Int32)) m0
set_option maxRecDepth 100000 in
theorem kbX10_countValuations_66 {E : qE} {N d bc bs : Nat} (hd : 133 ≤ d) {v0 : Nat} {v1 : Int32} {v2 : Int32} {v3 : Int32} {v4 : Int32} {v5 : Int32}  {m0 : qM} {rec : Int32 → Int32 → qM → Option (Int32 × qM)} (hrec : ∀ (v4 : Int32) (v5 : Int32) (m : qM), qB E yX10_countValuations cX10_countValuations 6 (some .int) (fun _ => True) d bc bs 38 [(0, .ref (E.2.1 + v0)), (1, .int v1), (2, .int v2), (3, .int v3), (4, .int v4), (5, .int v5)] [] m (rec v4 v5 m) (fun o rr => qJ E yX10_countValuations cX10_countValuations 6 (some .int) (fun _ => True) d bc bs 72 [(4, .int o.1)] [] o.2 rr)) : qB E yX10_countValuations cX10_countValuations 6 (some .int) (fun _ => True) d bc bs 66 [(0, .ref (E.2.1 + v0)), (1, .int v1), (2, .int v2), (3, .int v3), (4, .int v4), (5, .int v5)] [] m0 (kX10_countValuations_66 N rec v0 v1 v2 v3 v4 v5 m0) (fun o rr => qJ E yX10_countValuations cX10_countValuations 6 (some .int) (fun _ => True) d bc bs 72 [(4, .int o.1)] [] o.2 rr) := by
  unfold kX10_countValuations_66
  refine j_iinc (q := 5) (np := 69) (lv2 := [(5, .int (v5 + (1 : Int32))), (0, .ref (E.2.1 + v0)), (1, .int v1), (2, .int v2), (3, .int v3), (4, .int v4)]) rfl (congrArg _ ci_1) (by decide) dX10_countValuations_66 rfl rfl ?_
  refine j_goto (tgt := 38) dX10_countValuations_69 rfl ?_
  refine j_sub (lv2 := [(0, .ref (E.2.1 + v0)), (1, .int v1), (2, .int v2), (3, .int v3), (4, .int v4), (5, .int (v5 + (1 : Int32)))]) [1, 2, 3, 4, 5, 0] rfl ?_
  exact hrec _ _ _
def lX10_countValuations_38 (N : Nat) (v0 : Nat) (v1 : Int32) (v2 : Int32) (v3 : Int32) : Nat → Int32 → Int32 → qM → Option (Int32 × qM)
  | 0, _, _, _ => none
  | n + 1, v4, v5, m0 =>
    (fX10_power N v3 m0).bind fun b1 =>
    if b1.1 ≤ v5 then (
    some (v4, b1.2)
    ) else (
    (qChk b1.2 v0 10 (fX10_values N v0 v5 v3 b1.2)).bind fun b2 =>
    (qChk b2 v0 10 (fX10_valueOf N v0 v1 b2)).bind fun b3 =>
    if b3.1 = v2 then (
    kX10_countValuations_66 N (lX10_countValuations_38 N v0 v1 v2 v3 n) v0 v1 v2 v3 (v4 + (1 : Int32)) v5 b3.2
    ) else (
    kX10_countValuations_66 N (lX10_countValuations_38 N v0 v1 v2 v3 n) v0 v1 v2 v3 v4 v5 b3.2
    )
    )
set_option maxRecDepth 100000 in
theorem lbX10_countValuations_38 {E : qE} {N d bc bs : Nat} (hd : 133 ≤ d) {v0 : Nat} {v1 : Int32} {v2 : Int32} {v3 : Int32} : ∀ (n : Nat) (v4 : Int32) (v5 : Int32) (m0 : qM), qB E yX10_countValuations cX10_countValuations 6 (some .int) (fun _ => True) d bc bs 38 [(0, .ref (E.2.1 + v0)), (1, .int v1), (2, .int v2), (3, .int v3), (4, .int v4), (5, .int v5)] [] m0 (lX10_countValuations_38 N v0 v1 v2 v3 n v4 v5 m0) (fun o rr => qJ E yX10_countValuations cX10_countValuations 6 (some .int) (fun _ => True) d bc bs 72 [(4, .int o.1)] [] o.2 rr) := by
  intro n
  induction n with
  | zero =>
    intro v4 v5 m0
    exact j_none
  | succ n ih =>
    intro v4 v5 m0
    unfold lX10_countValuations_38
    refine j_iload (q := 5) (np := 40) rfl dX10_countValuations_38 rfl ?_
    refine j_iload_n (q := 3) (np := 41) rfl rfl dX10_countValuations_40 rfl ?_
    refine j_callSi (np := 44) (bc := bc) (bs := bs) (cb := 0) (cs := 0) (dd := d - 1) (As := [.int v3]) (st := [.int v5]) caX10_power mlX10_225 stX10_power (fun b hb => wX10_power (by omega) hb) (by omega) rfl rfl (Nat.le_of_ble_eq_true rfl) dX10_countValuations_41 rfl (fun b1 => ?_)
    refine j_icmp_ge (tgt := 72) (np := 47) dX10_countValuations_44 rfl rfl ?_ ?_
    · refine j_sub (lv2 := [(4, .int v4)]) [4] rfl ?_
      exact j_exit (fun rr h => h)
    · refine j_aload_n (q := 0) (np := 48) rfl rfl dX10_countValuations_47 rfl ?_
      refine j_iload (q := 5) (np := 50) rfl dX10_countValuations_48 rfl ?_
      refine j_iload_n (q := 3) (np := 51) rfl rfl dX10_countValuations_50 rfl ?_
      refine j_callVv (ci := 10) (np := 54) (bc := bc) (bs := bs) (cb := 0) (cs := 0) (dd := d - 1) (As := [.int v5, .int v3]) (st := []) caX10_values mlX10_228 imX10_values seX10_values rfl rfl (by decide) (fun b hb => wX10_values (by omega) hb) (by omega) rfl rfl (Nat.le_of_ble_eq_true rfl) dX10_countValuations_51 rfl (fun b2 => ?_)
      refine j_aload_n (q := 0) (np := 55) rfl rfl dX10_countValuations_54 rfl ?_
      refine j_iload_n (q := 1) (np := 56) rfl rfl dX10_countValuations_55 rfl ?_
      refine j_callVi (ci := 10) (np := 59) (bc := bc) (bs := bs) (cb := 0) (cs := 0) (dd := d - 1) (As := [.int v1]) (st := []) caX10_valueOf mlX10_231 imX10_valueOf seX10_valueOf rfl rfl (by decide) (fun b hb => wX10_valueOf (by omega) hb) (by omega) rfl rfl (Nat.le_of_ble_eq_true rfl) dX10_countValuations_56 rfl (fun b3 => ?_)
      refine j_iload_n (q := 2) (np := 60) rfl rfl dX10_countValuations_59 rfl ?_
      refine j_icmp_ne (tgt := 66) (np := 63) dX10_countValuations_60 rfl rfl ?_ ?_
      · exact kbX10_countValuations_66 hd ih
      · refine j_iinc (q := 4) (np := 66) (lv2 := [(4, .int (v4 + (1 : Int32))), (0, .ref (E.2.1 + v0)), (1, .int v1), (2, .int v2), (3, .int v3), (5, .int v5)]) rfl (congrArg _ ci_1) (by decide) dX10_countValuations_63 rfl rfl ?_
        refine j_sub (lv2 := [(0, .ref (E.2.1 + v0)), (1, .int v1), (2, .int v2), (3, .int v3), (4, .int (v4 + (1 : Int32))), (5, .int v5)]) [1, 2, 3, 4, 0, 5] rfl ?_
        exact kbX10_countValuations_66 hd ih
def fX10_countValuations (N : Nat) (v0 : Nat) (v1 : Int32) (v2 : Int32) (m0 : qM) : Option (Int32 × qM) :=
  (qChk m0 v0 10 (fX10_isOne N v0 v1 m0)).bind fun b1 =>
  if b1.1 = 0 then (
  some ((-1 : Int32), b1.2)
  ) else (
  (fX10_isValue N v2 b1.2).bind fun b2 =>
  if b2.1 = 0 then (
  some ((-1 : Int32), b2.2)
  ) else (
  (qChk b2.2 v0 10 (fX10_variables N v0 v1 b2.2)).bind fun b3 =>
  if b3.1 ≤ (8 : Int32) then (
  (lX10_countValuations_38 N v0 v1 v2 b3.1 N (0 : Int32) (0 : Int32) b3.2).bind fun o4 =>
  some (o4.1, o4.2)
  ) else (
  some ((-5 : Int32), b3.2)
  )
  )
  )
set_option maxRecDepth 100000 in
theorem bX10_countValuations {E : qE} {N d bc bs : Nat} (hd : 133 ≤ d) {v0 : Nat} {v1 : Int32} {v2 : Int32} {m0 : qM} : qB E yX10_countValuations cX10_countValuations 6 (some .int) (fun _ => True) d bc bs 0 [(0, .ref (E.2.1 + v0)), (1, .int v1), (2, .int v2)] [] m0 (fX10_countValuations N v0 v1 v2 m0) (fun b rr => rr = (some (.int b.1), b.2)) := by
  unfold fX10_countValuations
  refine j_aload_n (q := 0) (np := 1) rfl rfl dX10_countValuations_0 rfl ?_
  refine j_iload_n (q := 1) (np := 2) rfl rfl dX10_countValuations_1 rfl ?_
  refine j_callVi (ci := 10) (np := 5) (bc := bc) (bs := bs) (cb := 0) (cs := 0) (dd := d - 1) (As := [.int v1]) (st := []) caX10_isOne mlX10_172 imX10_isOne seX10_isOne rfl rfl (by decide) (fun b hb => wX10_isOne (by omega) hb) (by omega) rfl rfl (Nat.le_of_ble_eq_true rfl) dX10_countValuations_2 rfl (fun b1 => ?_)
  refine j_if_eq (tgt := 15) (np := 8) dX10_countValuations_5 rfl rfl ?_ ?_
  · refine j_iconst (np := 16) ci_m1 dX10_countValuations_15 rfl ?_
    exact j_iret rfl dX10_countValuations_16 (fun rr h => h)
  · refine j_iload_n (q := 2) (np := 9) rfl rfl dX10_countValuations_8 rfl ?_
    refine j_callSi (np := 12) (bc := bc) (bs := bs) (cb := 0) (cs := 0) (dd := d - 1) (As := [.int v2]) (st := []) caX10_isValue mlX10_216 stX10_isValue (fun b hb => wX10_isValue (by omega) hb) (by omega) rfl rfl (Nat.le_of_ble_eq_true rfl) dX10_countValuations_9 rfl (fun b2 => ?_)
    refine j_if_ne (tgt := 17) (np := 15) dX10_countValuations_12 rfl rfl ?_ ?_
    · refine j_aload_n (q := 0) (np := 18) rfl rfl dX10_countValuations_17 rfl ?_
      refine j_iload_n (q := 1) (np := 19) rfl rfl dX10_countValuations_18 rfl ?_
      refine j_callVi (ci := 10) (np := 22) (bc := bc) (bs := bs) (cb := 0) (cs := 0) (dd := d - 1) (As := [.int v1]) (st := []) caX10_variables mlX10_193 imX10_variables seX10_variables rfl rfl (by decide) (fun b hb => wX10_variables (by omega) hb) (by omega) rfl rfl (Nat.le_of_ble_eq_true rfl) dX10_countValuations_19 rfl (fun b3 => ?_)
      refine j_istore_n (np := 23) (lv2 := [(3, .int b3.1), (0, .ref (E.2.1 + v0)), (1, .int v1), (2, .int v2)]) rfl (by decide) dX10_countValuations_22 rfl rfl ?_
      refine j_iload_n (q := 0) (np := 24) rfl rfl dX10_countValuations_23 rfl ?_
      refine j_bipush (np := 26) cb_8 dX10_countValuations_24 rfl ?_
      refine j_icmp_le (tgt := 32) (np := 29) dX10_countValuations_26 rfl rfl ?_ ?_
      · refine j_iconst (np := 33) ci_0 dX10_countValuations_32 rfl ?_
        refine j_istore (np := 35) (lv2 := [(4, .int (0 : Int32)), (3, .int b3.1), (0, .ref (E.2.1 + v0)), (1, .int v1), (2, .int v2)]) (by decide) dX10_countValuations_33 rfl rfl ?_
        refine j_iconst (np := 36) ci_0 dX10_countValuations_35 rfl ?_
        refine j_istore (np := 38) (lv2 := [(5, .int (0 : Int32)), (4, .int (0 : Int32)), (3, .int b3.1), (0, .ref (E.2.1 + v0)), (1, .int v1), (2, .int v2)]) (by decide) dX10_countValuations_36 rfl rfl ?_
        refine j_sub (lv2 := [(0, .ref (E.2.1 + v0)), (1, .int v1), (2, .int v2), (3, .int b3.1), (4, .int (0 : Int32)), (5, .int (0 : Int32))]) [3, 4, 5, 2, 1, 0] rfl ?_
        refine j_loop (xp := 72) (lvX := fun o4 => [(4, .int o4.1)]) (mX := fun o4 => o4.2) (lbX10_countValuations_38 hd _ _ _ _) (fun o4 => ?_)
        refine j_iload (q := 0) (np := 74) rfl dX10_countValuations_72 rfl ?_
        exact j_iret rfl dX10_countValuations_74 (fun rr h => h)
      · refine j_bipush (np := 31) cb_m5 dX10_countValuations_29 rfl ?_
        exact j_iret rfl dX10_countValuations_31 (fun rr h => h)
    · refine j_iconst (np := 16) ci_m1 dX10_countValuations_15 rfl ?_
      exact j_iret rfl dX10_countValuations_16 (fun rr h => h)
set_option maxRecDepth 100000 in
theorem wX10_countValuations {E : qE} {N d : Nat} (hd : 133 ≤ d) {v0 : Nat} {v1 : Int32} {v2 : Int32} {m0 : qM} {b : Int32 × qM} (h : fX10_countValuations N v0 v1 v2 m0 = some b) : qRun E yX10_countValuations cX10_countValuations 6 (some .int) d 0 0 [.ref (E.2.1 + v0), .int v1, .int v2] m0 (some (.int b.1), b.2) := q_met pnX10 (Nat.le_of_ble_eq_true rfl) (bX10_countValuations hd b _ h rfl)
theorem dX10_keepsType_0 : decode cX10_keepsType 0 = .ok (.aload_n 0, 1) := by decide +kernel
theorem dX10_keepsType_1 : decode cX10_keepsType 1 = .ok (.getfield 84, 3) := by decide +kernel
theorem dX10_keepsType_4 : decode cX10_keepsType 4 = .ok (.aload_n 0, 1) := by decide +kernel
theorem dX10_keepsType_5 : decode cX10_keepsType 5 = .ok (.getfield 256, 3) := by decide +kernel
theorem dX10_keepsType_8 : decode cX10_keepsType 8 = .ok (.aload_n 0, 1) := by decide +kernel
theorem dX10_keepsType_9 : decode cX10_keepsType 9 = .ok (.getfield 109, 3) := by decide +kernel
theorem dX10_keepsType_12 : decode cX10_keepsType 12 = .ok (.iastore, 1) := by decide +kernel
theorem dX10_keepsType_13 : decode cX10_keepsType 13 = .ok (.iconst 0, 1) := by decide +kernel
theorem dX10_keepsType_14 : decode cX10_keepsType 14 = .ok (.istore_n 1, 1) := by decide +kernel
theorem dX10_keepsType_15 : decode cX10_keepsType 15 = .ok (.iload_n 1, 1) := by decide +kernel
theorem dX10_keepsType_16 : decode cX10_keepsType 16 = .ok (.aload_n 0, 1) := by decide +kernel
theorem dX10_keepsType_17 : decode cX10_keepsType 17 = .ok (.getfield 109, 3) := by decide +kernel
theorem dX10_keepsType_20 : decode cX10_keepsType 20 = .ok (.if_icmp .ge 29, 3) := by decide +kernel
theorem dX10_keepsType_23 : decode cX10_keepsType 23 = .ok (.aload_n 0, 1) := by decide +kernel
theorem dX10_keepsType_24 : decode cX10_keepsType 24 = .ok (.getfield 81, 3) := by decide +kernel
theorem dX10_keepsType_27 : decode cX10_keepsType 27 = .ok (.bipush 39, 2) := by decide +kernel
theorem dX10_keepsType_29 : decode cX10_keepsType 29 = .ok (.aload_n 0, 1) := by decide +kernel
theorem dX10_keepsType_30 : decode cX10_keepsType 30 = .ok (.getfield 256, 3) := by decide +kernel
theorem dX10_keepsType_33 : decode cX10_keepsType 33 = .ok (.imul, 1) := by decide +kernel
theorem dX10_keepsType_34 : decode cX10_keepsType 34 = .ok (.iload_n 1, 1) := by decide +kernel
theorem dX10_keepsType_35 : decode cX10_keepsType 35 = .ok (.iadd, 1) := by decide +kernel
theorem dX10_keepsType_36 : decode cX10_keepsType 36 = .ok (.aload_n 0, 1) := by decide +kernel
theorem dX10_keepsType_37 : decode cX10_keepsType 37 = .ok (.getfield 66, 3) := by decide +kernel
theorem dX10_keepsType_40 : decode cX10_keepsType 40 = .ok (.iload_n 1, 1) := by decide +kernel
theorem dX10_keepsType_41 : decode cX10_keepsType 41 = .ok (.iaload, 1) := by decide +kernel
theorem dX10_keepsType_42 : decode cX10_keepsType 42 = .ok (.iastore, 1) := by decide +kernel
theorem dX10_keepsType_43 : decode cX10_keepsType 43 = .ok (.iinc 1 1, 3) := by decide +kernel
theorem dX10_keepsType_46 : decode cX10_keepsType 46 = .ok (.goto (-31), 3) := by decide +kernel
theorem dX10_keepsType_49 : decode cX10_keepsType 49 = .ok (.aload_n 0, 1) := by decide +kernel
theorem dX10_keepsType_50 : decode cX10_keepsType 50 = .ok (.dup, 1) := by decide +kernel
theorem dX10_keepsType_51 : decode cX10_keepsType 51 = .ok (.getfield 256, 3) := by decide +kernel
theorem dX10_keepsType_54 : decode cX10_keepsType 54 = .ok (.iconst 1, 1) := by decide +kernel
theorem dX10_keepsType_55 : decode cX10_keepsType 55 = .ok (.iadd, 1) := by decide +kernel
theorem dX10_keepsType_56 : decode cX10_keepsType 56 = .ok (.putfield 256, 3) := by decide +kernel
theorem dX10_keepsType_59 : decode cX10_keepsType 59 = .ok (.return_, 1) := by decide +kernel
def lX10_keepsType_15 (N : Nat) (v0 : Nat) : Nat → Int32 → qM → Option (qM)
  | 0, _, _ => none
  | n + 1, v1, m0 =>
    (qgI m0 v0 10 27).bind fun x1 =>
    if x1 ≤ v1 then (
    some m0
    ) else (
    (qgR m0 v0 10 33).bind fun x2 =>
    (qgI m0 v0 10 35).bind fun x3 =>
    (qgR m0 v0 10 26).bind fun x4 =>
    (qaI m0 x4 12 v1).bind fun x5 =>
    (qwI m0 x2 12 (((39 : Int32) * x3) + v1) x5).bind fun m6 =>
    lX10_keepsType_15 N v0 n (v1 + (1 : Int32)) m6
    )
set_option maxRecDepth 100000 in
theorem lbX10_keepsType_15 {E : qE} {N d bc bs : Nat} (hd : 0 ≤ d) {v0 : Nat} : ∀ (n : Nat) (v1 : Int32) (m0 : qM), qB E yX10_keepsType cX10_keepsType 2 none (fun _ => True) d bc bs 15 [(0, .ref (E.2.1 + v0)), (1, .int v1)] [] m0 (lX10_keepsType_15 N v0 n v1 m0) (fun o rr => qJ E yX10_keepsType cX10_keepsType 2 none (fun _ => True) d bc bs 49 [(0, .ref (E.2.1 + v0))] [] o rr) := by
  intro n
  induction n with
  | zero =>
    intro v1 m0
    exact j_none
  | succ n ih =>
    intro v1 m0
    unfold lX10_keepsType_15
    refine j_iload_n (q := 1) (np := 16) rfl rfl dX10_keepsType_15 rfl ?_
    refine j_aload_n (q := 0) (np := 17) rfl rfl dX10_keepsType_16 rfl ?_
    refine j_gI (np := 20) flX10_109 dX10_keepsType_17 rfl (fun x1 => ?_)
    refine j_icmp_ge (tgt := 49) (np := 23) dX10_keepsType_20 rfl rfl ?_ ?_
    · refine j_sub (lv2 := [(0, .ref (E.2.1 + v0))]) [0] rfl ?_
      exact j_exit (fun rr h => h)
    · refine j_aload_n (q := 0) (np := 24) rfl rfl dX10_keepsType_23 rfl ?_
      refine j_gR (np := 27) flX10_81 dX10_keepsType_24 rfl (fun x2 => ?_)
      refine j_bipush (np := 29) cb_39 dX10_keepsType_27 rfl ?_
      refine j_aload_n (q := 0) (np := 30) rfl rfl dX10_keepsType_29 rfl ?_
      refine j_gI (np := 33) flX10_256 dX10_keepsType_30 rfl (fun x3 => ?_)
      refine j_imul (np := 34) dX10_keepsType_33 rfl ?_
      refine j_iload_n (q := 1) (np := 35) rfl rfl dX10_keepsType_34 rfl ?_
      refine j_iadd (np := 36) dX10_keepsType_35 rfl ?_
      refine j_aload_n (q := 0) (np := 37) rfl rfl dX10_keepsType_36 rfl ?_
      refine j_gR (np := 40) flX10_66 dX10_keepsType_37 rfl (fun x4 => ?_)
      refine j_iload_n (q := 1) (np := 41) rfl rfl dX10_keepsType_40 rfl ?_
      refine j_iaload (np := 42) dX10_keepsType_41 rfl (fun x5 => ?_)
      refine j_iastore (np := 43) dX10_keepsType_42 rfl (fun m6 => ?_)
      refine j_iinc (q := 1) (np := 46) (lv2 := [(1, .int (v1 + (1 : Int32))), (0, .ref (E.2.1 + v0))]) rfl (congrArg _ ci_1) (by decide) dX10_keepsType_43 rfl rfl ?_
      refine j_goto (tgt := 15) dX10_keepsType_46 rfl ?_
      refine j_sub (lv2 := [(0, .ref (E.2.1 + v0)), (1, .int (v1 + (1 : Int32)))]) [1, 0] rfl ?_
      exact ih _ _
def fX10_keepsType (N : Nat) (v0 : Nat) (m0 : qM) : Option (qM) :=
  (qgR m0 v0 10 34).bind fun x1 =>
  (qgI m0 v0 10 35).bind fun x2 =>
  (qgI m0 v0 10 27).bind fun x3 =>
  (qwI m0 x1 12 x2 x3).bind fun m4 =>
  (lX10_keepsType_15 N v0 N (0 : Int32) m4).bind fun o5 =>
  (qgI o5 v0 10 35).bind fun x6 =>
  (qpI o5 v0 10 35 (x6 + (1 : Int32))).bind fun m7 =>
  some m7
set_option maxRecDepth 100000 in
theorem bX10_keepsType {E : qE} {N d bc bs : Nat} (hd : 0 ≤ d) {v0 : Nat} {m0 : qM} : qB E yX10_keepsType cX10_keepsType 2 none (fun _ => True) d bc bs 0 [(0, .ref (E.2.1 + v0))] [] m0 (fX10_keepsType N v0 m0) (fun b rr => rr = (none, b)) := by
  unfold fX10_keepsType
  refine j_aload_n (q := 0) (np := 1) rfl rfl dX10_keepsType_0 rfl ?_
  refine j_gR (np := 4) flX10_84 dX10_keepsType_1 rfl (fun x1 => ?_)
  refine j_aload_n (q := 0) (np := 5) rfl rfl dX10_keepsType_4 rfl ?_
  refine j_gI (np := 8) flX10_256 dX10_keepsType_5 rfl (fun x2 => ?_)
  refine j_aload_n (q := 0) (np := 9) rfl rfl dX10_keepsType_8 rfl ?_
  refine j_gI (np := 12) flX10_109 dX10_keepsType_9 rfl (fun x3 => ?_)
  refine j_iastore (np := 13) dX10_keepsType_12 rfl (fun m4 => ?_)
  refine j_iconst (np := 14) ci_0 dX10_keepsType_13 rfl ?_
  refine j_istore_n (np := 15) (lv2 := [(1, .int (0 : Int32)), (0, .ref (E.2.1 + v0))]) rfl (by decide) dX10_keepsType_14 rfl rfl ?_
  refine j_sub (lv2 := [(0, .ref (E.2.1 + v0)), (1, .int (0 : Int32))]) [1, 0] rfl ?_
  refine j_loop (xp := 49) (lvX := fun o5 => [(0, .ref (E.2.1 + v0))]) (mX := fun o5 => o5) (lbX10_keepsType_15 hd _ _ _) (fun o5 => ?_)
  refine j_aload_n (q := 0) (np := 50) rfl rfl dX10_keepsType_49 rfl ?_
  refine j_dup (np := 51) rfl dX10_keepsType_50 rfl ?_
  refine j_gI (np := 54) flX10_256 dX10_keepsType_51 rfl (fun x6 => ?_)
  refine j_iconst (np := 55) ci_1 dX10_keepsType_54 rfl ?_
  refine j_iadd (np := 56) dX10_keepsType_55 rfl ?_
  refine j_pI (np := 59) flX10_256 dX10_keepsType_56 rfl (fun m7 => ?_)
  exact j_vret rfl dX10_keepsType_59 (fun rr h => h)
set_option maxRecDepth 100000 in
theorem wX10_keepsType {E : qE} {N d : Nat} (hd : 0 ≤ d) {v0 : Nat} {m0 : qM} {b : qM} (h : fX10_keepsType N v0 m0 = some b) : qRun E yX10_keepsType cX10_keepsType 2 none d 0 0 [.ref (E.2.1 + v0)] m0 (none, b) := q_met pnX10 (Nat.le_of_ble_eq_true rfl) (bX10_keepsType hd b _ h rfl)
theorem dX10_applies_0 : decode cX10_applies 0 = .ok (.aload_n 0, 1) := by decide +kernel
theorem dX10_applies_1 : decode cX10_applies 1 = .ok (.getfield 259, 3) := by decide +kernel
theorem dX10_applies_4 : decode cX10_applies 4 = .ok (.ifCond .ge 4, 3) := by decide +kernel
theorem dX10_applies_7 : decode cX10_applies 7 = .ok (.return_, 1) := by decide +kernel
theorem dX10_applies_8 : decode cX10_applies 8 = .ok (.aload_n 0, 1) := by decide +kernel
theorem dX10_applies_9 : decode cX10_applies 9 = .ok (.getfield 256, 3) := by decide +kernel
theorem dX10_applies_12 : decode cX10_applies 12 = .ok (.iconst 2, 1) := by decide +kernel
theorem dX10_applies_13 : decode cX10_applies 13 = .ok (.isub, 1) := by decide +kernel
theorem dX10_applies_14 : decode cX10_applies 14 = .ok (.istore_n 1, 1) := by decide +kernel
theorem dX10_applies_15 : decode cX10_applies 15 = .ok (.aload_n 0, 1) := by decide +kernel
theorem dX10_applies_16 : decode cX10_applies 16 = .ok (.aload_n 0, 1) := by decide +kernel
theorem dX10_applies_17 : decode cX10_applies 17 = .ok (.aload_n 0, 1) := by decide +kernel
theorem dX10_applies_18 : decode cX10_applies 18 = .ok (.getfield 81, 3) := by decide +kernel
theorem dX10_applies_21 : decode cX10_applies 21 = .ok (.bipush 39, 2) := by decide +kernel
theorem dX10_applies_23 : decode cX10_applies 23 = .ok (.iload_n 1, 1) := by decide +kernel
theorem dX10_applies_24 : decode cX10_applies 24 = .ok (.imul, 1) := by decide +kernel
theorem dX10_applies_25 : decode cX10_applies 25 = .ok (.aload_n 0, 1) := by decide +kernel
theorem dX10_applies_26 : decode cX10_applies 26 = .ok (.getfield 81, 3) := by decide +kernel
theorem dX10_applies_29 : decode cX10_applies 29 = .ok (.bipush 39, 2) := by decide +kernel
theorem dX10_applies_31 : decode cX10_applies 31 = .ok (.iload_n 1, 1) := by decide +kernel
theorem dX10_applies_32 : decode cX10_applies 32 = .ok (.iconst 1, 1) := by decide +kernel
theorem dX10_applies_33 : decode cX10_applies 33 = .ok (.iadd, 1) := by decide +kernel
theorem dX10_applies_34 : decode cX10_applies 34 = .ok (.imul, 1) := by decide +kernel
theorem dX10_applies_35 : decode cX10_applies 35 = .ok (.invokevirtual 168, 3) := by decide +kernel
theorem dX10_applies_38 : decode cX10_applies 38 = .ok (.putfield 259, 3) := by decide +kernel
theorem dX10_applies_41 : decode cX10_applies 41 = .ok (.aload_n 0, 1) := by decide +kernel
theorem dX10_applies_42 : decode cX10_applies 42 = .ok (.iload_n 1, 1) := by decide +kernel
theorem dX10_applies_43 : decode cX10_applies 43 = .ok (.putfield 256, 3) := by decide +kernel
theorem dX10_applies_46 : decode cX10_applies 46 = .ok (.aload_n 0, 1) := by decide +kernel
theorem dX10_applies_47 : decode cX10_applies 47 = .ok (.getfield 259, 3) := by decide +kernel
theorem dX10_applies_50 : decode cX10_applies 50 = .ok (.ifCond .ne 7, 3) := by decide +kernel
theorem dX10_applies_53 : decode cX10_applies 53 = .ok (.aload_n 0, 1) := by decide +kernel
theorem dX10_applies_54 : decode cX10_applies 54 = .ok (.invokevirtual 262, 3) := by decide +kernel
theorem dX10_applies_57 : decode cX10_applies 57 = .ok (.return_, 1) := by decide +kernel
def fX10_applies (N : Nat) (v0 : Nat) (m0 : qM) : Option (qM) :=
  (qgI m0 v0 10 36).bind fun x1 =>
  if 0 ≤ x1 then (
  (qgI m0 v0 10 35).bind fun x2 =>
  (qgR m0 v0 10 33).bind fun x3 =>
  (qgR m0 v0 10 33).bind fun x4 =>
  (qChk m0 v0 10 (fX10_detaches N v0 x3 ((39 : Int32) * (x2 - (2 : Int32))) x4 ((39 : Int32) * ((x2 - (2 : Int32)) + (1 : Int32))) m0)).bind fun b5 =>
  (qpI b5.2 v0 10 36 b5.1).bind fun m6 =>
  (qpI m6 v0 10 35 (x2 - (2 : Int32))).bind fun m7 =>
  (qgI m7 v0 10 36).bind fun x8 =>
  if x8 = 0 then (
  (qChk m7 v0 10 (fX10_keepsType N v0 m7)).bind fun b9 =>
  some b9
  ) else (
  some m7
  )
  ) else (
  some m0
  )
set_option maxRecDepth 100000 in
theorem bX10_applies {E : qE} {N d bc bs : Nat} (hd : 1144 ≤ d) {v0 : Nat} {m0 : qM} : qB E yX10_applies cX10_applies 2 none (fun _ => True) d bc bs 0 [(0, .ref (E.2.1 + v0))] [] m0 (fX10_applies N v0 m0) (fun b rr => rr = (none, b)) := by
  unfold fX10_applies
  refine j_aload_n (q := 0) (np := 1) rfl rfl dX10_applies_0 rfl ?_
  refine j_gI (np := 4) flX10_259 dX10_applies_1 rfl (fun x1 => ?_)
  refine j_if_ge (tgt := 8) (np := 7) dX10_applies_4 rfl rfl ?_ ?_
  · refine j_aload_n (q := 0) (np := 9) rfl rfl dX10_applies_8 rfl ?_
    refine j_gI (np := 12) flX10_256 dX10_applies_9 rfl (fun x2 => ?_)
    refine j_iconst (np := 13) ci_2 dX10_applies_12 rfl ?_
    refine j_isub (np := 14) dX10_applies_13 rfl ?_
    refine j_istore_n (np := 15) (lv2 := [(1, .int (x2 - (2 : Int32))), (0, .ref (E.2.1 + v0))]) rfl (by decide) dX10_applies_14 rfl rfl ?_
    refine j_aload_n (q := 1) (np := 16) rfl rfl dX10_applies_15 rfl ?_
    refine j_aload_n (q := 1) (np := 17) rfl rfl dX10_applies_16 rfl ?_
    refine j_aload_n (q := 1) (np := 18) rfl rfl dX10_applies_17 rfl ?_
    refine j_gR (np := 21) flX10_81 dX10_applies_18 rfl (fun x3 => ?_)
    refine j_bipush (np := 23) cb_39 dX10_applies_21 rfl ?_
    refine j_iload_n (q := 0) (np := 24) rfl rfl dX10_applies_23 rfl ?_
    refine j_imul (np := 25) dX10_applies_24 rfl ?_
    refine j_aload_n (q := 1) (np := 26) rfl rfl dX10_applies_25 rfl ?_
    refine j_gR (np := 29) flX10_81 dX10_applies_26 rfl (fun x4 => ?_)
    refine j_bipush (np := 31) cb_39 dX10_applies_29 rfl ?_
    refine j_iload_n (q := 0) (np := 32) rfl rfl dX10_applies_31 rfl ?_
    refine j_iconst (np := 33) ci_1 dX10_applies_32 rfl ?_
    refine j_iadd (np := 34) dX10_applies_33 rfl ?_
    refine j_imul (np := 35) dX10_applies_34 rfl ?_
    refine j_callVi (ci := 10) (np := 38) (bc := bc) (bs := bs) (cb := 0) (cs := 0) (dd := d - 1) (As := [.ref (E.2.1 + x3), .int ((39 : Int32) * (x2 - (2 : Int32))), .ref (E.2.1 + x4), .int ((39 : Int32) * ((x2 - (2 : Int32)) + (1 : Int32)))]) (st := [.ref (E.2.1 + v0)]) caX10_detaches mlX10_168 imX10_detaches seX10_detaches rfl rfl (by decide) (fun b hb => wX10_detaches (by omega) hb) (by omega) rfl rfl (Nat.le_of_ble_eq_true rfl) dX10_applies_35 rfl (fun b5 => ?_)
    refine j_pI (np := 41) flX10_259 dX10_applies_38 rfl (fun m6 => ?_)
    refine j_aload_n (q := 1) (np := 42) rfl rfl dX10_applies_41 rfl ?_
    refine j_iload_n (q := 0) (np := 43) rfl rfl dX10_applies_42 rfl ?_
    refine j_pI (np := 46) flX10_256 dX10_applies_43 rfl (fun m7 => ?_)
    refine j_aload_n (q := 1) (np := 47) rfl rfl dX10_applies_46 rfl ?_
    refine j_gI (np := 50) flX10_259 dX10_applies_47 rfl (fun x8 => ?_)
    refine j_if_ne (tgt := 57) (np := 53) dX10_applies_50 rfl rfl ?_ ?_
    · exact j_vret rfl dX10_applies_57 (fun rr h => h)
    · refine j_aload_n (q := 1) (np := 54) rfl rfl dX10_applies_53 rfl ?_
      refine j_callVv (ci := 10) (np := 57) (bc := bc) (bs := bs) (cb := 0) (cs := 0) (dd := d - 1) (As := []) (st := []) caX10_keepsType mlX10_262 imX10_keepsType seX10_keepsType rfl rfl (by decide) (fun b hb => wX10_keepsType (by omega) hb) (by omega) rfl rfl (Nat.le_of_ble_eq_true rfl) dX10_applies_54 rfl (fun b9 => ?_)
      exact j_vret rfl dX10_applies_57 (fun rr h => h)
  · exact j_vret rfl dX10_applies_7 (fun rr h => h)
set_option maxRecDepth 100000 in
theorem wX10_applies {E : qE} {N d : Nat} (hd : 1144 ≤ d) {v0 : Nat} {m0 : qM} {b : qM} (h : fX10_applies N v0 m0 = some b) : qRun E yX10_applies cX10_applies 2 none d 0 0 [.ref (E.2.1 + v0)] m0 (none, b) := q_met pnX10 (Nat.le_of_ble_eq_true rfl) (bX10_applies hd b _ h rfl)
theorem dX10_node_0 : decode cX10_node 0 = .ok (.aload_n 0, 1) := by decide +kernel
theorem dX10_node_1 : decode cX10_node 1 = .ok (.getfield 72, 3) := by decide +kernel
theorem dX10_node_4 : decode cX10_node 4 = .ok (.aload_n 0, 1) := by decide +kernel
theorem dX10_node_5 : decode cX10_node 5 = .ok (.getfield 284, 3) := by decide +kernel
theorem dX10_node_8 : decode cX10_node 8 = .ok (.iload_n 1, 1) := by decide +kernel
theorem dX10_node_9 : decode cX10_node 9 = .ok (.iastore, 1) := by decide +kernel
theorem dX10_node_10 : decode cX10_node 10 = .ok (.aload_n 0, 1) := by decide +kernel
theorem dX10_node_11 : decode cX10_node 11 = .ok (.getfield 75, 3) := by decide +kernel
theorem dX10_node_14 : decode cX10_node 14 = .ok (.aload_n 0, 1) := by decide +kernel
theorem dX10_node_15 : decode cX10_node 15 = .ok (.getfield 284, 3) := by decide +kernel
theorem dX10_node_18 : decode cX10_node 18 = .ok (.iload_n 2, 1) := by decide +kernel
theorem dX10_node_19 : decode cX10_node 19 = .ok (.iastore, 1) := by decide +kernel
theorem dX10_node_20 : decode cX10_node 20 = .ok (.aload_n 0, 1) := by decide +kernel
theorem dX10_node_21 : decode cX10_node 21 = .ok (.getfield 78, 3) := by decide +kernel
theorem dX10_node_24 : decode cX10_node 24 = .ok (.aload_n 0, 1) := by decide +kernel
theorem dX10_node_25 : decode cX10_node 25 = .ok (.getfield 284, 3) := by decide +kernel
theorem dX10_node_28 : decode cX10_node 28 = .ok (.iload_n 3, 1) := by decide +kernel
theorem dX10_node_29 : decode cX10_node 29 = .ok (.iastore, 1) := by decide +kernel
theorem dX10_node_30 : decode cX10_node 30 = .ok (.aload_n 0, 1) := by decide +kernel
theorem dX10_node_31 : decode cX10_node 31 = .ok (.dup, 1) := by decide +kernel
theorem dX10_node_32 : decode cX10_node 32 = .ok (.getfield 284, 3) := by decide +kernel
theorem dX10_node_35 : decode cX10_node 35 = .ok (.dup_x1, 1) := by decide +kernel
theorem dX10_node_36 : decode cX10_node 36 = .ok (.iconst 1, 1) := by decide +kernel
theorem dX10_node_37 : decode cX10_node 37 = .ok (.iadd, 1) := by decide +kernel
theorem dX10_node_38 : decode cX10_node 38 = .ok (.putfield 284, 3) := by decide +kernel
theorem dX10_node_41 : decode cX10_node 41 = .ok (.ireturn, 1) := by decide +kernel
def fX10_node (N : Nat) (v0 : Nat) (v1 : Int32) (v2 : Int32) (v3 : Int32) (m0 : qM) : Option (Int32 × qM) :=
  (qgR m0 v0 10 29).bind fun x1 =>
  (qgI m0 v0 10 32).bind fun x2 =>
  (qwI m0 x1 12 x2 v1).bind fun m3 =>
  (qgR m3 v0 10 30).bind fun x4 =>
  (qgI m3 v0 10 32).bind fun x5 =>
  (qwI m3 x4 12 x5 v2).bind fun m6 =>
  (qgR m6 v0 10 31).bind fun x7 =>
  (qgI m6 v0 10 32).bind fun x8 =>
  (qwI m6 x7 12 x8 v3).bind fun m9 =>
  (qgI m9 v0 10 32).bind fun x10 =>
  (qpI m9 v0 10 32 (x10 + (1 : Int32))).bind fun m11 =>
  some (x10, m11)
set_option maxRecDepth 100000 in
theorem bX10_node {E : qE} {N d bc bs : Nat} (hd : 0 ≤ d) {v0 : Nat} {v1 : Int32} {v2 : Int32} {v3 : Int32} {m0 : qM} : qB E yX10_node cX10_node 4 (some .int) (fun _ => True) d bc bs 0 [(0, .ref (E.2.1 + v0)), (1, .int v1), (2, .int v2), (3, .int v3)] [] m0 (fX10_node N v0 v1 v2 v3 m0) (fun b rr => rr = (some (.int b.1), b.2)) := by
  unfold fX10_node
  refine j_aload_n (q := 0) (np := 1) rfl rfl dX10_node_0 rfl ?_
  refine j_gR (np := 4) flX10_72 dX10_node_1 rfl (fun x1 => ?_)
  refine j_aload_n (q := 0) (np := 5) rfl rfl dX10_node_4 rfl ?_
  refine j_gI (np := 8) flX10_284 dX10_node_5 rfl (fun x2 => ?_)
  refine j_iload_n (q := 1) (np := 9) rfl rfl dX10_node_8 rfl ?_
  refine j_iastore (np := 10) dX10_node_9 rfl (fun m3 => ?_)
  refine j_aload_n (q := 0) (np := 11) rfl rfl dX10_node_10 rfl ?_
  refine j_gR (np := 14) flX10_75 dX10_node_11 rfl (fun x4 => ?_)
  refine j_aload_n (q := 0) (np := 15) rfl rfl dX10_node_14 rfl ?_
  refine j_gI (np := 18) flX10_284 dX10_node_15 rfl (fun x5 => ?_)
  refine j_iload_n (q := 2) (np := 19) rfl rfl dX10_node_18 rfl ?_
  refine j_iastore (np := 20) dX10_node_19 rfl (fun m6 => ?_)
  refine j_aload_n (q := 0) (np := 21) rfl rfl dX10_node_20 rfl ?_
  refine j_gR (np := 24) flX10_78 dX10_node_21 rfl (fun x7 => ?_)
  refine j_aload_n (q := 0) (np := 25) rfl rfl dX10_node_24 rfl ?_
  refine j_gI (np := 28) flX10_284 dX10_node_25 rfl (fun x8 => ?_)
  refine j_iload_n (q := 3) (np := 29) rfl rfl dX10_node_28 rfl ?_
  refine j_iastore (np := 30) dX10_node_29 rfl (fun m9 => ?_)
  refine j_aload_n (q := 0) (np := 31) rfl rfl dX10_node_30 rfl ?_
  refine j_dup (np := 32) rfl dX10_node_31 rfl ?_
  refine j_gI (np := 35) flX10_284 dX10_node_32 rfl (fun x10 => ?_)
  refine j_dup_x1 (np := 36) rfl rfl dX10_node_35 rfl ?_
  refine j_iconst (np := 37) ci_1 dX10_node_36 rfl ?_
  refine j_iadd (np := 38) dX10_node_37 rfl ?_
  refine j_pI (np := 41) flX10_284 dX10_node_38 rfl (fun m11 => ?_)
  exact j_iret rfl dX10_node_41 (fun rr h => h)
set_option maxRecDepth 100000 in
theorem wX10_node {E : qE} {N d : Nat} (hd : 0 ≤ d) {v0 : Nat} {v1 : Int32} {v2 : Int32} {v3 : Int32} {m0 : qM} {b : Int32 × qM} (h : fX10_node N v0 v1 v2 v3 m0 = some b) : qRun E yX10_node cX10_node 4 (some .int) d 0 0 [.ref (E.2.1 + v0), .int v1, .int v2, .int v3] m0 (some (.int b.1), b.2) := q_met pnX10 (Nat.le_of_ble_eq_true rfl) (bX10_node hd b _ h rfl)
theorem dX10_apply_0 : decode cX10_apply 0 = .ok (.aload_n 0, 1) := by decide +kernel
theorem dX10_apply_1 : decode cX10_apply 1 = .ok (.iconst (-1), 1) := by decide +kernel
theorem dX10_apply_2 : decode cX10_apply 2 = .ok (.iload_n 1, 1) := by decide +kernel
theorem dX10_apply_3 : decode cX10_apply 3 = .ok (.iload_n 2, 1) := by decide +kernel
theorem dX10_apply_4 : decode cX10_apply 4 = .ok (.invokevirtual 287, 3) := by decide +kernel
theorem dX10_apply_7 : decode cX10_apply 7 = .ok (.ireturn, 1) := by decide +kernel
def fX10_apply (N : Nat) (v0 : Nat) (v1 : Int32) (v2 : Int32) (m0 : qM) : Option (Int32 × qM) :=
  (qChk m0 v0 10 (fX10_node N v0 (-1 : Int32) v1 v2 m0)).bind fun b1 =>
  some (b1.1, b1.2)
set_option maxRecDepth 100000 in
theorem bX10_apply {E : qE} {N d bc bs : Nat} (hd : 1 ≤ d) {v0 : Nat} {v1 : Int32} {v2 : Int32} {m0 : qM} : qB E yX10_apply cX10_apply 3 (some .int) (fun _ => True) d bc bs 0 [(0, .ref (E.2.1 + v0)), (1, .int v1), (2, .int v2)] [] m0 (fX10_apply N v0 v1 v2 m0) (fun b rr => rr = (some (.int b.1), b.2)) := by
  unfold fX10_apply
  refine j_aload_n (q := 0) (np := 1) rfl rfl dX10_apply_0 rfl ?_
  refine j_iconst (np := 2) ci_m1 dX10_apply_1 rfl ?_
  refine j_iload_n (q := 1) (np := 3) rfl rfl dX10_apply_2 rfl ?_
  refine j_iload_n (q := 2) (np := 4) rfl rfl dX10_apply_3 rfl ?_
  refine j_callVi (ci := 10) (np := 7) (bc := bc) (bs := bs) (cb := 0) (cs := 0) (dd := d - 1) (As := [.int (-1 : Int32), .int v1, .int v2]) (st := []) caX10_node mlX10_287 imX10_node seX10_node rfl rfl (by decide) (fun b hb => wX10_node (by omega) hb) (by omega) rfl rfl (Nat.le_of_ble_eq_true rfl) dX10_apply_4 rfl (fun b1 => ?_)
  exact j_iret rfl dX10_apply_7 (fun rr h => h)
set_option maxRecDepth 100000 in
theorem wX10_apply {E : qE} {N d : Nat} (hd : 1 ≤ d) {v0 : Nat} {v1 : Int32} {v2 : Int32} {m0 : qM} {b : Int32 × qM} (h : fX10_apply N v0 v1 v2 m0 = some b) : qRun E yX10_apply cX10_apply 3 (some .int) d 0 0 [.ref (E.2.1 + v0), .int v1, .int v2] m0 (some (.int b.1), b.2) := q_met pnX10 (Nat.le_of_ble_eq_true rfl) (bX10_apply hd b _ h rfl)
theorem dX10_sizeOf_0 : decode cX10_sizeOf 0 = .ok (.aload_n 0, 1) := by decide +kernel
theorem dX10_sizeOf_1 : decode cX10_sizeOf 1 = .ok (.getfield 72, 3) := by decide +kernel
theorem dX10_sizeOf_4 : decode cX10_sizeOf 4 = .ok (.iload_n 1, 1) := by decide +kernel
theorem dX10_sizeOf_5 : decode cX10_sizeOf 5 = .ok (.iaload, 1) := by decide +kernel
theorem dX10_sizeOf_6 : decode cX10_sizeOf 6 = .ok (.ifCond .lt 7, 3) := by decide +kernel
theorem dX10_sizeOf_9 : decode cX10_sizeOf 9 = .ok (.iconst 1, 1) := by decide +kernel
theorem dX10_sizeOf_10 : decode cX10_sizeOf 10 = .ok (.goto 24, 3) := by decide +kernel
theorem dX10_sizeOf_13 : decode cX10_sizeOf 13 = .ok (.aload_n 0, 1) := by decide +kernel
theorem dX10_sizeOf_14 : decode cX10_sizeOf 14 = .ok (.aload_n 0, 1) := by decide +kernel
theorem dX10_sizeOf_15 : decode cX10_sizeOf 15 = .ok (.getfield 75, 3) := by decide +kernel
theorem dX10_sizeOf_18 : decode cX10_sizeOf 18 = .ok (.iload_n 1, 1) := by decide +kernel
theorem dX10_sizeOf_19 : decode cX10_sizeOf 19 = .ok (.iaload, 1) := by decide +kernel
theorem dX10_sizeOf_20 : decode cX10_sizeOf 20 = .ok (.invokevirtual 297, 3) := by decide +kernel
theorem dX10_sizeOf_23 : decode cX10_sizeOf 23 = .ok (.aload_n 0, 1) := by decide +kernel
theorem dX10_sizeOf_24 : decode cX10_sizeOf 24 = .ok (.aload_n 0, 1) := by decide +kernel
theorem dX10_sizeOf_25 : decode cX10_sizeOf 25 = .ok (.getfield 78, 3) := by decide +kernel
theorem dX10_sizeOf_28 : decode cX10_sizeOf 28 = .ok (.iload_n 1, 1) := by decide +kernel
theorem dX10_sizeOf_29 : decode cX10_sizeOf 29 = .ok (.iaload, 1) := by decide +kernel
theorem dX10_sizeOf_30 : decode cX10_sizeOf 30 = .ok (.invokevirtual 297, 3) := by decide +kernel
theorem dX10_sizeOf_33 : decode cX10_sizeOf 33 = .ok (.iadd, 1) := by decide +kernel
theorem dX10_sizeOf_34 : decode cX10_sizeOf 34 = .ok (.ireturn, 1) := by decide +kernel
def fX10_sizeOf (N : Nat) : Nat → Nat → Int32 → qM → Option (Int32 × qM)
  | 0, _, _, _ => none
  | k + 1, v0, v1, m0 =>
    (qgR m0 v0 10 29).bind fun x1 =>
    (qaI m0 x1 12 v1).bind fun x2 =>
    if x2 < 0 then (
    (qgR m0 v0 10 30).bind fun x3 =>
    (qaI m0 x3 12 v1).bind fun x4 =>
    (qChk m0 v0 10 (fX10_sizeOf N k v0 x4 m0)).bind fun b5 =>
    (qgR b5.2 v0 10 31).bind fun x6 =>
    (qaI b5.2 x6 12 v1).bind fun x7 =>
    (qChk b5.2 v0 10 (fX10_sizeOf N k v0 x7 b5.2)).bind fun b8 =>
    some (b5.1 + b8.1, b8.2)
    ) else (
    some ((1 : Int32), m0)
    )
set_option maxRecDepth 100000 in
theorem wX10_sizeOf {E : qE} {N : Nat} : ∀ {k d : Nat} (hd : k + 1 ≤ d) {m0 : qM} {b : Int32 × qM} {v0 : Nat} {v1 : Int32} (h : fX10_sizeOf N k v0 v1 m0 = some b), qRun E yX10_sizeOf cX10_sizeOf 2 (some .int) d 0 0 [.ref (E.2.1 + v0), .int v1] m0 (some (.int b.1), b.2) := by
  intro k
  induction k with
  | zero =>
    intro d hd m0 b v0 v1 h
    cases h
  | succ k ih =>
    intro d hd m0 b v0 v1 h
    have hfr : ∀ (m : qM) (b : Int32 × qM) (v0 : Nat) (v1 : Int32), fX10_sizeOf N k v0 v1 m = some b → qRun E yX10_sizeOf cX10_sizeOf 2 (some .int) (d - 1) 0 0 [.ref (E.2.1 + v0), .int v1] m (some (.int b.1), b.2) := fun m b v0 v1 h => ih (by omega) h
    have hd : 1 ≤ d := by omega
    have bd : qB E yX10_sizeOf cX10_sizeOf 2 (some .int) (fun _ => True) d 0 0 0 [(0, .ref (E.2.1 + v0)), (1, .int v1)] [] m0 (fX10_sizeOf N (k + 1) v0 v1 m0) (fun b rr => rr = (some (.int b.1), b.2)) := by
      unfold fX10_sizeOf
      refine j_aload_n (q := 0) (np := 1) rfl rfl dX10_sizeOf_0 rfl ?_
      refine j_gR (np := 4) flX10_72 dX10_sizeOf_1 rfl (fun x1 => ?_)
      refine j_iload_n (q := 1) (np := 5) rfl rfl dX10_sizeOf_4 rfl ?_
      refine j_iaload (np := 6) dX10_sizeOf_5 rfl (fun x2 => ?_)
      refine j_if_lt (tgt := 13) (np := 9) dX10_sizeOf_6 rfl rfl ?_ ?_
      · refine j_aload_n (q := 0) (np := 14) rfl rfl dX10_sizeOf_13 rfl ?_
        refine j_aload_n (q := 0) (np := 15) rfl rfl dX10_sizeOf_14 rfl ?_
        refine j_gR (np := 18) flX10_75 dX10_sizeOf_15 rfl (fun x3 => ?_)
        refine j_iload_n (q := 1) (np := 19) rfl rfl dX10_sizeOf_18 rfl ?_
        refine j_iaload (np := 20) dX10_sizeOf_19 rfl (fun x4 => ?_)
        refine j_callVi (ci := 10) (np := 23) (bc := 0) (bs := 0) (cb := 0) (cs := 0) (dd := d - 1) (As := [.int x4]) (st := []) caX10_sizeOf mlX10_297 imX10_sizeOf seX10_sizeOf rfl rfl (by decide) (fun b hb => hfr _ _ _ _ hb) (by omega) rfl rfl (Nat.le_of_ble_eq_true rfl) dX10_sizeOf_20 rfl (fun b5 => ?_)
        refine j_aload_n (q := 0) (np := 24) rfl rfl dX10_sizeOf_23 rfl ?_
        refine j_aload_n (q := 0) (np := 25) rfl rfl dX10_sizeOf_24 rfl ?_
        refine j_gR (np := 28) flX10_78 dX10_sizeOf_25 rfl (fun x6 => ?_)
        refine j_iload_n (q := 1) (np := 29) rfl rfl dX10_sizeOf_28 rfl ?_
        refine j_iaload (np := 30) dX10_sizeOf_29 rfl (fun x7 => ?_)
        refine j_callVi (ci := 10) (np := 33) (bc := 0) (bs := 0) (cb := 0) (cs := 0) (dd := d - 1) (As := [.int x7]) (st := [.int b5.1]) caX10_sizeOf mlX10_297 imX10_sizeOf seX10_sizeOf rfl rfl (by decide) (fun b hb => hfr _ _ _ _ hb) (by omega) rfl rfl (Nat.le_of_ble_eq_true rfl) dX10_sizeOf_30 rfl (fun b8 => ?_)
        refine j_iadd (np := 34) dX10_sizeOf_33 rfl ?_
        exact j_iret rfl dX10_sizeOf_34 (fun rr h => h)
      · refine j_iconst (np := 10) ci_1 dX10_sizeOf_9 rfl ?_
        refine j_goto (tgt := 34) dX10_sizeOf_10 rfl ?_
        exact j_iret rfl dX10_sizeOf_34 (fun rr h => h)
    exact q_met pnX10 (Nat.le_of_ble_eq_true rfl) (bd b _ h rfl)
theorem dX10_needs_0 : decode cX10_needs 0 = .ok (.iload_n 0, 1) := by decide +kernel
theorem dX10_needs_1 : decode cX10_needs 1 = .ok (.iconst 2, 1) := by decide +kernel
theorem dX10_needs_2 : decode cX10_needs 2 = .ok (.if_icmp .ne 7, 3) := by decide +kernel
theorem dX10_needs_5 : decode cX10_needs 5 = .ok (.iconst 1, 1) := by decide +kernel
theorem dX10_needs_6 : decode cX10_needs 6 = .ok (.goto 18, 3) := by decide +kernel
theorem dX10_needs_9 : decode cX10_needs 9 = .ok (.iload_n 0, 1) := by decide +kernel
theorem dX10_needs_10 : decode cX10_needs 10 = .ok (.iconst 1, 1) := by decide +kernel
theorem dX10_needs_11 : decode cX10_needs 11 = .ok (.if_icmp .eq 8, 3) := by decide +kernel
theorem dX10_needs_14 : decode cX10_needs 14 = .ok (.iload_n 0, 1) := by decide +kernel
theorem dX10_needs_15 : decode cX10_needs 15 = .ok (.iconst 5, 1) := by decide +kernel
theorem dX10_needs_16 : decode cX10_needs 16 = .ok (.if_icmp .ne 7, 3) := by decide +kernel
theorem dX10_needs_19 : decode cX10_needs 19 = .ok (.iconst 2, 1) := by decide +kernel
theorem dX10_needs_20 : decode cX10_needs 20 = .ok (.goto 4, 3) := by decide +kernel
theorem dX10_needs_23 : decode cX10_needs 23 = .ok (.iconst 3, 1) := by decide +kernel
theorem dX10_needs_24 : decode cX10_needs 24 = .ok (.ireturn, 1) := by decide +kernel
def fX10_needs (N : Nat) (v0 : Int32) (m0 : qM) : Option (Int32 × qM) :=
  if v0 = (2 : Int32) then (
  some ((1 : Int32), m0)
  ) else (
  if v0 = (1 : Int32) then (
  some ((2 : Int32), m0)
  ) else (
  if v0 = (5 : Int32) then (
  some ((2 : Int32), m0)
  ) else (
  some ((3 : Int32), m0)
  )
  )
  )
set_option maxRecDepth 100000 in
theorem bX10_needs {E : qE} {N d bc bs : Nat} (hd : 0 ≤ d) {v0 : Int32} {m0 : qM} : qB E yX10_needs cX10_needs 1 (some .int) (fun _ => True) d bc bs 0 [(0, .int v0)] [] m0 (fX10_needs N v0 m0) (fun b rr => rr = (some (.int b.1), b.2)) := by
  unfold fX10_needs
  refine j_iload_n (q := 0) (np := 1) rfl rfl dX10_needs_0 rfl ?_
  refine j_iconst (np := 2) ci_2 dX10_needs_1 rfl ?_
  refine j_icmp_ne (tgt := 9) (np := 5) dX10_needs_2 rfl rfl ?_ ?_
  · refine j_iload_n (q := 0) (np := 10) rfl rfl dX10_needs_9 rfl ?_
    refine j_iconst (np := 11) ci_1 dX10_needs_10 rfl ?_
    refine j_icmp_eq (tgt := 19) (np := 14) dX10_needs_11 rfl rfl ?_ ?_
    · refine j_iconst (np := 20) ci_2 dX10_needs_19 rfl ?_
      refine j_goto (tgt := 24) dX10_needs_20 rfl ?_
      exact j_iret rfl dX10_needs_24 (fun rr h => h)
    · refine j_iload_n (q := 0) (np := 15) rfl rfl dX10_needs_14 rfl ?_
      refine j_iconst (np := 16) ci_5 dX10_needs_15 rfl ?_
      refine j_icmp_ne (tgt := 23) (np := 19) dX10_needs_16 rfl rfl ?_ ?_
      · refine j_iconst (np := 24) ci_3 dX10_needs_23 rfl ?_
        exact j_iret rfl dX10_needs_24 (fun rr h => h)
      · refine j_iconst (np := 20) ci_2 dX10_needs_19 rfl ?_
        refine j_goto (tgt := 24) dX10_needs_20 rfl ?_
        exact j_iret rfl dX10_needs_24 (fun rr h => h)
  · refine j_iconst (np := 6) ci_1 dX10_needs_5 rfl ?_
    refine j_goto (tgt := 24) dX10_needs_6 rfl ?_
    exact j_iret rfl dX10_needs_24 (fun rr h => h)
set_option maxRecDepth 100000 in
theorem wX10_needs {E : qE} {N d : Nat} (hd : 0 ≤ d) {v0 : Int32} {m0 : qM} {b : Int32 × qM} (h : fX10_needs N v0 m0 = some b) : qRun E yX10_needs cX10_needs 1 (some .int) d 0 0 [.int v0] m0 (some (.int b.1), b.2) := q_met pnX10 (Nat.le_of_ble_eq_true rfl) (bX10_needs hd b _ h rfl)
theorem dX10_spine_0 : decode cX10_spine 0 = .ok (.iload_n 1, 1) := by decide +kernel
theorem dX10_spine_1 : decode cX10_spine 1 = .ok (.istore_n 2, 1) := by decide +kernel
theorem dX10_spine_2 : decode cX10_spine 2 = .ok (.iconst 0, 1) := by decide +kernel
theorem dX10_spine_3 : decode cX10_spine 3 = .ok (.istore_n 3, 1) := by decide +kernel
theorem dX10_spine_4 : decode cX10_spine 4 = .ok (.aload_n 0, 1) := by decide +kernel
theorem dX10_spine_5 : decode cX10_spine 5 = .ok (.getfield 72, 3) := by decide +kernel
theorem dX10_spine_8 : decode cX10_spine 8 = .ok (.iload_n 2, 1) := by decide +kernel
theorem dX10_spine_9 : decode cX10_spine 9 = .ok (.iaload, 1) := by decide +kernel
theorem dX10_spine_10 : decode cX10_spine 10 = .ok (.ifCond .ge 16, 3) := by decide +kernel
theorem dX10_spine_13 : decode cX10_spine 13 = .ok (.aload_n 0, 1) := by decide +kernel
theorem dX10_spine_14 : decode cX10_spine 14 = .ok (.getfield 75, 3) := by decide +kernel
theorem dX10_spine_17 : decode cX10_spine 17 = .ok (.iload_n 2, 1) := by decide +kernel
theorem dX10_spine_18 : decode cX10_spine 18 = .ok (.iaload, 1) := by decide +kernel
theorem dX10_spine_19 : decode cX10_spine 19 = .ok (.istore_n 2, 1) := by decide +kernel
theorem dX10_spine_20 : decode cX10_spine 20 = .ok (.iinc 3 1, 3) := by decide +kernel
theorem dX10_spine_23 : decode cX10_spine 23 = .ok (.goto (-19), 3) := by decide +kernel
theorem dX10_spine_26 : decode cX10_spine 26 = .ok (.aload_n 0, 1) := by decide +kernel
theorem dX10_spine_27 : decode cX10_spine 27 = .ok (.aload_n 0, 1) := by decide +kernel
theorem dX10_spine_28 : decode cX10_spine 28 = .ok (.getfield 72, 3) := by decide +kernel
theorem dX10_spine_31 : decode cX10_spine 31 = .ok (.iload_n 2, 1) := by decide +kernel
theorem dX10_spine_32 : decode cX10_spine 32 = .ok (.iaload, 1) := by decide +kernel
theorem dX10_spine_33 : decode cX10_spine 33 = .ok (.putfield 138, 3) := by decide +kernel
theorem dX10_spine_36 : decode cX10_spine 36 = .ok (.iload_n 3, 1) := by decide +kernel
theorem dX10_spine_37 : decode cX10_spine 37 = .ok (.ireturn, 1) := by decide +kernel
def lX10_spine_4 (N : Nat) (v0 : Nat) : Nat → Int32 → Int32 → qM → Option (Int32 × Int32 × qM)
  | 0, _, _, _ => none
  | n + 1, v2, v3, m0 =>
    (qgR m0 v0 10 29).bind fun x1 =>
    (qaI m0 x1 12 v2).bind fun x2 =>
    if 0 ≤ x2 then (
    some (v2, v3, m0)
    ) else (
    (qgR m0 v0 10 30).bind fun x3 =>
    (qaI m0 x3 12 v2).bind fun x4 =>
    lX10_spine_4 N v0 n x4 (v3 + (1 : Int32)) m0
    )
set_option maxRecDepth 100000 in
theorem lbX10_spine_4 {E : qE} {N d bc bs : Nat} (hd : 0 ≤ d) {v0 : Nat} : ∀ (n : Nat) (v2 : Int32) (v3 : Int32) (m0 : qM), qB E yX10_spine cX10_spine 4 (some .int) (fun _ => True) d bc bs 4 [(0, .ref (E.2.1 + v0)), (2, .int v2), (3, .int v3)] [] m0 (lX10_spine_4 N v0 n v2 v3 m0) (fun o rr => qJ E yX10_spine cX10_spine 4 (some .int) (fun _ => True) d bc bs 26 [(0, .ref (E.2.1 + v0)), (2, .int o.1), (3, .int o.2.1)] [] o.2.2 rr) := by
  intro n
  induction n with
  | zero =>
    intro v2 v3 m0
    exact j_none
  | succ n ih =>
    intro v2 v3 m0
    unfold lX10_spine_4
    refine j_aload_n (q := 0) (np := 5) rfl rfl dX10_spine_4 rfl ?_
    refine j_gR (np := 8) flX10_72 dX10_spine_5 rfl (fun x1 => ?_)
    refine j_iload_n (q := 1) (np := 9) rfl rfl dX10_spine_8 rfl ?_
    refine j_iaload (np := 10) dX10_spine_9 rfl (fun x2 => ?_)
    refine j_if_ge (tgt := 26) (np := 13) dX10_spine_10 rfl rfl ?_ ?_
    · exact j_exit (fun rr h => h)
    · refine j_aload_n (q := 0) (np := 14) rfl rfl dX10_spine_13 rfl ?_
      refine j_gR (np := 17) flX10_75 dX10_spine_14 rfl (fun x3 => ?_)
      refine j_iload_n (q := 1) (np := 18) rfl rfl dX10_spine_17 rfl ?_
      refine j_iaload (np := 19) dX10_spine_18 rfl (fun x4 => ?_)
      refine j_istore_n (np := 20) (lv2 := [(2, .int x4), (0, .ref (E.2.1 + v0)), (3, .int v3)]) rfl (by decide) dX10_spine_19 rfl rfl ?_
      refine j_iinc (q := 2) (np := 23) (lv2 := [(3, .int (v3 + (1 : Int32))), (2, .int x4), (0, .ref (E.2.1 + v0))]) rfl (congrArg _ ci_1) (by decide) dX10_spine_20 rfl rfl ?_
      refine j_goto (tgt := 4) dX10_spine_23 rfl ?_
      refine j_sub (lv2 := [(0, .ref (E.2.1 + v0)), (2, .int x4), (3, .int (v3 + (1 : Int32)))]) [2, 1, 0] rfl ?_
      exact ih _ _ _
def fX10_spine (N : Nat) (v0 : Nat) (v1 : Int32) (m0 : qM) : Option (Int32 × qM) :=
  (lX10_spine_4 N v0 N v1 (0 : Int32) m0).bind fun o1 =>
  (qgR o1.2.2 v0 10 29).bind fun x2 =>
  (qaI o1.2.2 x2 12 o1.1).bind fun x3 =>
  (qpI o1.2.2 v0 10 25 x3).bind fun m4 =>
  some (o1.2.1, m4)
set_option maxRecDepth 100000 in
theorem bX10_spine {E : qE} {N d bc bs : Nat} (hd : 0 ≤ d) {v0 : Nat} {v1 : Int32} {m0 : qM} : qB E yX10_spine cX10_spine 4 (some .int) (fun _ => True) d bc bs 0 [(0, .ref (E.2.1 + v0)), (1, .int v1)] [] m0 (fX10_spine N v0 v1 m0) (fun b rr => rr = (some (.int b.1), b.2)) := by
  unfold fX10_spine
  refine j_iload_n (q := 1) (np := 1) rfl rfl dX10_spine_0 rfl ?_
  refine j_istore_n (np := 2) (lv2 := [(2, .int v1), (0, .ref (E.2.1 + v0)), (1, .int v1)]) rfl (by decide) dX10_spine_1 rfl rfl ?_
  refine j_iconst (np := 3) ci_0 dX10_spine_2 rfl ?_
  refine j_istore_n (np := 4) (lv2 := [(3, .int (0 : Int32)), (2, .int v1), (0, .ref (E.2.1 + v0)), (1, .int v1)]) rfl (by decide) dX10_spine_3 rfl rfl ?_
  refine j_sub (lv2 := [(0, .ref (E.2.1 + v0)), (2, .int v1), (3, .int (0 : Int32))]) [2, 1, 0] rfl ?_
  refine j_loop (xp := 26) (lvX := fun o1 => [(0, .ref (E.2.1 + v0)), (2, .int o1.1), (3, .int o1.2.1)]) (mX := fun o1 => o1.2.2) (lbX10_spine_4 hd _ _ _ _) (fun o1 => ?_)
  refine j_aload_n (q := 0) (np := 27) rfl rfl dX10_spine_26 rfl ?_
  refine j_aload_n (q := 0) (np := 28) rfl rfl dX10_spine_27 rfl ?_
  refine j_gR (np := 31) flX10_72 dX10_spine_28 rfl (fun x2 => ?_)
  refine j_iload_n (q := 1) (np := 32) rfl rfl dX10_spine_31 rfl ?_
  refine j_iaload (np := 33) dX10_spine_32 rfl (fun x3 => ?_)
  refine j_pI (np := 36) flX10_138 dX10_spine_33 rfl (fun m4 => ?_)
  refine j_iload_n (q := 2) (np := 37) rfl rfl dX10_spine_36 rfl ?_
  exact j_iret rfl dX10_spine_37 (fun rr h => h)
set_option maxRecDepth 100000 in
theorem wX10_spine {E : qE} {N d : Nat} (hd : 0 ≤ d) {v0 : Nat} {v1 : Int32} {m0 : qM} {b : Int32 × qM} (h : fX10_spine N v0 v1 m0 = some b) : qRun E yX10_spine cX10_spine 4 (some .int) d 0 0 [.ref (E.2.1 + v0), .int v1] m0 (some (.int b.1), b.2) := q_met pnX10 (Nat.le_of_ble_eq_true rfl) (bX10_spine hd b _ h rfl)
theorem dX10_contracts_0 : decode cX10_contracts 0 = .ok (.aload_n 0, 1) := by decide +kernel
theorem dX10_contracts_1 : decode cX10_contracts 1 = .ok (.getfield 78, 3) := by decide +kernel
theorem dX10_contracts_4 : decode cX10_contracts 4 = .ok (.iload_n 1, 1) := by decide +kernel
theorem dX10_contracts_5 : decode cX10_contracts 5 = .ok (.iaload, 1) := by decide +kernel
theorem dX10_contracts_6 : decode cX10_contracts 6 = .ok (.istore_n 2, 1) := by decide +kernel
theorem dX10_contracts_7 : decode cX10_contracts 7 = .ok (.aload_n 0, 1) := by decide +kernel
theorem dX10_contracts_8 : decode cX10_contracts 8 = .ok (.getfield 138, 3) := by decide +kernel
theorem dX10_contracts_11 : decode cX10_contracts 11 = .ok (.iconst 2, 1) := by decide +kernel
theorem dX10_contracts_12 : decode cX10_contracts 12 = .ok (.if_icmp .ne 5, 3) := by decide +kernel
theorem dX10_contracts_15 : decode cX10_contracts 15 = .ok (.iload_n 2, 1) := by decide +kernel
theorem dX10_contracts_16 : decode cX10_contracts 16 = .ok (.ireturn, 1) := by decide +kernel
theorem dX10_contracts_17 : decode cX10_contracts 17 = .ok (.aload_n 0, 1) := by decide +kernel
theorem dX10_contracts_18 : decode cX10_contracts 18 = .ok (.getfield 78, 3) := by decide +kernel
theorem dX10_contracts_21 : decode cX10_contracts 21 = .ok (.aload_n 0, 1) := by decide +kernel
theorem dX10_contracts_22 : decode cX10_contracts 22 = .ok (.getfield 75, 3) := by decide +kernel
theorem dX10_contracts_25 : decode cX10_contracts 25 = .ok (.iload_n 1, 1) := by decide +kernel
theorem dX10_contracts_26 : decode cX10_contracts 26 = .ok (.iaload, 1) := by decide +kernel
theorem dX10_contracts_27 : decode cX10_contracts 27 = .ok (.iaload, 1) := by decide +kernel
theorem dX10_contracts_28 : decode cX10_contracts 28 = .ok (.istore_n 3, 1) := by decide +kernel
theorem dX10_contracts_29 : decode cX10_contracts 29 = .ok (.aload_n 0, 1) := by decide +kernel
theorem dX10_contracts_30 : decode cX10_contracts 30 = .ok (.getfield 138, 3) := by decide +kernel
theorem dX10_contracts_33 : decode cX10_contracts 33 = .ok (.iconst 1, 1) := by decide +kernel
theorem dX10_contracts_34 : decode cX10_contracts 34 = .ok (.if_icmp .ne 5, 3) := by decide +kernel
theorem dX10_contracts_37 : decode cX10_contracts 37 = .ok (.iload_n 3, 1) := by decide +kernel
theorem dX10_contracts_38 : decode cX10_contracts 38 = .ok (.ireturn, 1) := by decide +kernel
theorem dX10_contracts_39 : decode cX10_contracts 39 = .ok (.aload_n 0, 1) := by decide +kernel
theorem dX10_contracts_40 : decode cX10_contracts 40 = .ok (.getfield 138, 3) := by decide +kernel
theorem dX10_contracts_43 : decode cX10_contracts 43 = .ok (.iconst 5, 1) := by decide +kernel
theorem dX10_contracts_44 : decode cX10_contracts 44 = .ok (.if_icmp .ne 15, 3) := by decide +kernel
theorem dX10_contracts_47 : decode cX10_contracts 47 = .ok (.aload_n 0, 1) := by decide +kernel
theorem dX10_contracts_48 : decode cX10_contracts 48 = .ok (.aload_n 0, 1) := by decide +kernel
theorem dX10_contracts_49 : decode cX10_contracts 49 = .ok (.iload_n 3, 1) := by decide +kernel
theorem dX10_contracts_50 : decode cX10_contracts 50 = .ok (.iload_n 2, 1) := by decide +kernel
theorem dX10_contracts_51 : decode cX10_contracts 51 = .ok (.invokevirtual 294, 3) := by decide +kernel
theorem dX10_contracts_54 : decode cX10_contracts 54 = .ok (.iload_n 2, 1) := by decide +kernel
theorem dX10_contracts_55 : decode cX10_contracts 55 = .ok (.invokevirtual 294, 3) := by decide +kernel
theorem dX10_contracts_58 : decode cX10_contracts 58 = .ok (.ireturn, 1) := by decide +kernel
theorem dX10_contracts_59 : decode cX10_contracts 59 = .ok (.aload_n 0, 1) := by decide +kernel
theorem dX10_contracts_60 : decode cX10_contracts 60 = .ok (.getfield 78, 3) := by decide +kernel
theorem dX10_contracts_63 : decode cX10_contracts 63 = .ok (.aload_n 0, 1) := by decide +kernel
theorem dX10_contracts_64 : decode cX10_contracts 64 = .ok (.getfield 75, 3) := by decide +kernel
theorem dX10_contracts_67 : decode cX10_contracts 67 = .ok (.aload_n 0, 1) := by decide +kernel
theorem dX10_contracts_68 : decode cX10_contracts 68 = .ok (.getfield 75, 3) := by decide +kernel
theorem dX10_contracts_71 : decode cX10_contracts 71 = .ok (.iload_n 1, 1) := by decide +kernel
theorem dX10_contracts_72 : decode cX10_contracts 72 = .ok (.iaload, 1) := by decide +kernel
theorem dX10_contracts_73 : decode cX10_contracts 73 = .ok (.iaload, 1) := by decide +kernel
theorem dX10_contracts_74 : decode cX10_contracts 74 = .ok (.iaload, 1) := by decide +kernel
theorem dX10_contracts_75 : decode cX10_contracts 75 = .ok (.istore 4, 2) := by decide +kernel
theorem dX10_contracts_77 : decode cX10_contracts 77 = .ok (.aload_n 0, 1) := by decide +kernel
theorem dX10_contracts_78 : decode cX10_contracts 78 = .ok (.getfield 138, 3) := by decide +kernel
theorem dX10_contracts_81 : decode cX10_contracts 81 = .ok (.ifCond .ne 21, 3) := by decide +kernel
theorem dX10_contracts_84 : decode cX10_contracts 84 = .ok (.aload_n 0, 1) := by decide +kernel
theorem dX10_contracts_85 : decode cX10_contracts 85 = .ok (.aload_n 0, 1) := by decide +kernel
theorem dX10_contracts_86 : decode cX10_contracts 86 = .ok (.iload 4, 2) := by decide +kernel
theorem dX10_contracts_88 : decode cX10_contracts 88 = .ok (.iload_n 2, 1) := by decide +kernel
theorem dX10_contracts_89 : decode cX10_contracts 89 = .ok (.invokevirtual 294, 3) := by decide +kernel
theorem dX10_contracts_92 : decode cX10_contracts 92 = .ok (.aload_n 0, 1) := by decide +kernel
theorem dX10_contracts_93 : decode cX10_contracts 93 = .ok (.iload_n 3, 1) := by decide +kernel
theorem dX10_contracts_94 : decode cX10_contracts 94 = .ok (.iload_n 2, 1) := by decide +kernel
theorem dX10_contracts_95 : decode cX10_contracts 95 = .ok (.invokevirtual 294, 3) := by decide +kernel
theorem dX10_contracts_98 : decode cX10_contracts 98 = .ok (.invokevirtual 294, 3) := by decide +kernel
theorem dX10_contracts_101 : decode cX10_contracts 101 = .ok (.ireturn, 1) := by decide +kernel
theorem dX10_contracts_102 : decode cX10_contracts 102 = .ok (.aload_n 0, 1) := by decide +kernel
theorem dX10_contracts_103 : decode cX10_contracts 103 = .ok (.getfield 138, 3) := by decide +kernel
theorem dX10_contracts_106 : decode cX10_contracts 106 = .ok (.iconst 3, 1) := by decide +kernel
theorem dX10_contracts_107 : decode cX10_contracts 107 = .ok (.if_icmp .ne 18, 3) := by decide +kernel
theorem dX10_contracts_110 : decode cX10_contracts 110 = .ok (.aload_n 0, 1) := by decide +kernel
theorem dX10_contracts_111 : decode cX10_contracts 111 = .ok (.iload 4, 2) := by decide +kernel
theorem dX10_contracts_113 : decode cX10_contracts 113 = .ok (.aload_n 0, 1) := by decide +kernel
theorem dX10_contracts_114 : decode cX10_contracts 114 = .ok (.iload_n 3, 1) := by decide +kernel
theorem dX10_contracts_115 : decode cX10_contracts 115 = .ok (.iload_n 2, 1) := by decide +kernel
theorem dX10_contracts_116 : decode cX10_contracts 116 = .ok (.invokevirtual 294, 3) := by decide +kernel
theorem dX10_contracts_119 : decode cX10_contracts 119 = .ok (.invokevirtual 294, 3) := by decide +kernel
theorem dX10_contracts_122 : decode cX10_contracts 122 = .ok (.goto 15, 3) := by decide +kernel
theorem dX10_contracts_125 : decode cX10_contracts 125 = .ok (.aload_n 0, 1) := by decide +kernel
theorem dX10_contracts_126 : decode cX10_contracts 126 = .ok (.aload_n 0, 1) := by decide +kernel
theorem dX10_contracts_127 : decode cX10_contracts 127 = .ok (.iload 4, 2) := by decide +kernel
theorem dX10_contracts_129 : decode cX10_contracts 129 = .ok (.iload_n 2, 1) := by decide +kernel
theorem dX10_contracts_130 : decode cX10_contracts 130 = .ok (.invokevirtual 294, 3) := by decide +kernel
theorem dX10_contracts_133 : decode cX10_contracts 133 = .ok (.iload_n 3, 1) := by decide +kernel
theorem dX10_contracts_134 : decode cX10_contracts 134 = .ok (.invokevirtual 294, 3) := by decide +kernel
theorem dX10_contracts_137 : decode cX10_contracts 137 = .ok (.ireturn, 1) := by decide +kernel
def fX10_contracts (N : Nat) (v0 : Nat) (v1 : Int32) (m0 : qM) : Option (Int32 × qM) :=
  (qgR m0 v0 10 31).bind fun x1 =>
  (qaI m0 x1 12 v1).bind fun x2 =>
  (qgI m0 v0 10 25).bind fun x3 =>
  if x3 = (2 : Int32) then (
  some (x2, m0)
  ) else (
  (qgR m0 v0 10 31).bind fun x4 =>
  (qgR m0 v0 10 30).bind fun x5 =>
  (qaI m0 x5 12 v1).bind fun x6 =>
  (qaI m0 x4 12 x6).bind fun x7 =>
  (qgI m0 v0 10 25).bind fun x8 =>
  if x8 = (1 : Int32) then (
  some (x7, m0)
  ) else (
  (qgI m0 v0 10 25).bind fun x9 =>
  if x9 = (5 : Int32) then (
  (qChk m0 v0 10 (fX10_apply N v0 x7 x2 m0)).bind fun b25 =>
  (qChk b25.2 v0 10 (fX10_apply N v0 b25.1 x2 b25.2)).bind fun b26 =>
  some (b26.1, b26.2)
  ) else (
  (qgR m0 v0 10 31).bind fun x10 =>
  (qgR m0 v0 10 30).bind fun x11 =>
  (qgR m0 v0 10 30).bind fun x12 =>
  (qaI m0 x12 12 v1).bind fun x13 =>
  (qaI m0 x11 12 x13).bind fun x14 =>
  (qaI m0 x10 12 x14).bind fun x15 =>
  (qgI m0 v0 10 25).bind fun x16 =>
  if x16 = 0 then (
  (qChk m0 v0 10 (fX10_apply N v0 x15 x2 m0)).bind fun b22 =>
  (qChk b22.2 v0 10 (fX10_apply N v0 x7 x2 b22.2)).bind fun b23 =>
  (qChk b23.2 v0 10 (fX10_apply N v0 b22.1 b23.1 b23.2)).bind fun b24 =>
  some (b24.1, b24.2)
  ) else (
  (qgI m0 v0 10 25).bind fun x17 =>
  if x17 = (3 : Int32) then (
  (qChk m0 v0 10 (fX10_apply N v0 x7 x2 m0)).bind fun b20 =>
  (qChk b20.2 v0 10 (fX10_apply N v0 x15 b20.1 b20.2)).bind fun b21 =>
  some (b21.1, b21.2)
  ) else (
  (qChk m0 v0 10 (fX10_apply N v0 x15 x2 m0)).bind fun b18 =>
  (qChk b18.2 v0 10 (fX10_apply N v0 b18.1 x7 b18.2)).bind fun b19 =>
  some (b19.1, b19.2)
  )
  )
  )
  )
  )
set_option maxRecDepth 100000 in
theorem bX10_contracts {E : qE} {N d bc bs : Nat} (hd : 2 ≤ d) {v0 : Nat} {v1 : Int32} {m0 : qM} : qB E yX10_contracts cX10_contracts 5 (some .int) (fun _ => True) d bc bs 0 [(0, .ref (E.2.1 + v0)), (1, .int v1)] [] m0 (fX10_contracts N v0 v1 m0) (fun b rr => rr = (some (.int b.1), b.2)) := by
  unfold fX10_contracts
  refine j_aload_n (q := 0) (np := 1) rfl rfl dX10_contracts_0 rfl ?_
  refine j_gR (np := 4) flX10_78 dX10_contracts_1 rfl (fun x1 => ?_)
  refine j_iload_n (q := 1) (np := 5) rfl rfl dX10_contracts_4 rfl ?_
  refine j_iaload (np := 6) dX10_contracts_5 rfl (fun x2 => ?_)
  refine j_istore_n (np := 7) (lv2 := [(2, .int x2), (0, .ref (E.2.1 + v0)), (1, .int v1)]) rfl (by decide) dX10_contracts_6 rfl rfl ?_
  refine j_aload_n (q := 1) (np := 8) rfl rfl dX10_contracts_7 rfl ?_
  refine j_gI (np := 11) flX10_138 dX10_contracts_8 rfl (fun x3 => ?_)
  refine j_iconst (np := 12) ci_2 dX10_contracts_11 rfl ?_
  refine j_icmp_ne (tgt := 17) (np := 15) dX10_contracts_12 rfl rfl ?_ ?_
  · refine j_aload_n (q := 1) (np := 18) rfl rfl dX10_contracts_17 rfl ?_
    refine j_gR (np := 21) flX10_78 dX10_contracts_18 rfl (fun x4 => ?_)
    refine j_aload_n (q := 1) (np := 22) rfl rfl dX10_contracts_21 rfl ?_
    refine j_gR (np := 25) flX10_75 dX10_contracts_22 rfl (fun x5 => ?_)
    refine j_iload_n (q := 2) (np := 26) rfl rfl dX10_contracts_25 rfl ?_
    refine j_iaload (np := 27) dX10_contracts_26 rfl (fun x6 => ?_)
    refine j_iaload (np := 28) dX10_contracts_27 rfl (fun x7 => ?_)
    refine j_istore_n (np := 29) (lv2 := [(3, .int x7), (2, .int x2), (0, .ref (E.2.1 + v0)), (1, .int v1)]) rfl (by decide) dX10_contracts_28 rfl rfl ?_
    refine j_aload_n (q := 2) (np := 30) rfl rfl dX10_contracts_29 rfl ?_
    refine j_gI (np := 33) flX10_138 dX10_contracts_30 rfl (fun x8 => ?_)
    refine j_iconst (np := 34) ci_1 dX10_contracts_33 rfl ?_
    refine j_icmp_ne (tgt := 39) (np := 37) dX10_contracts_34 rfl rfl ?_ ?_
    · refine j_aload_n (q := 2) (np := 40) rfl rfl dX10_contracts_39 rfl ?_
      refine j_gI (np := 43) flX10_138 dX10_contracts_40 rfl (fun x9 => ?_)
      refine j_iconst (np := 44) ci_5 dX10_contracts_43 rfl ?_
      refine j_icmp_ne (tgt := 59) (np := 47) dX10_contracts_44 rfl rfl ?_ ?_
      · refine j_aload_n (q := 2) (np := 60) rfl rfl dX10_contracts_59 rfl ?_
        refine j_gR (np := 63) flX10_78 dX10_contracts_60 rfl (fun x10 => ?_)
        refine j_aload_n (q := 2) (np := 64) rfl rfl dX10_contracts_63 rfl ?_
        refine j_gR (np := 67) flX10_75 dX10_contracts_64 rfl (fun x11 => ?_)
        refine j_aload_n (q := 2) (np := 68) rfl rfl dX10_contracts_67 rfl ?_
        refine j_gR (np := 71) flX10_75 dX10_contracts_68 rfl (fun x12 => ?_)
        refine j_iload_n (q := 3) (np := 72) rfl rfl dX10_contracts_71 rfl ?_
        refine j_iaload (np := 73) dX10_contracts_72 rfl (fun x13 => ?_)
        refine j_iaload (np := 74) dX10_contracts_73 rfl (fun x14 => ?_)
        refine j_iaload (np := 75) dX10_contracts_74 rfl (fun x15 => ?_)
        refine j_istore (np := 77) (lv2 := [(4, .int x15), (3, .int x7), (2, .int x2), (0, .ref (E.2.1 + v0)), (1, .int v1)]) (by decide) dX10_contracts_75 rfl rfl ?_
        refine j_aload_n (q := 3) (np := 78) rfl rfl dX10_contracts_77 rfl ?_
        refine j_gI (np := 81) flX10_138 dX10_contracts_78 rfl (fun x16 => ?_)
        refine j_if_ne (tgt := 102) (np := 84) dX10_contracts_81 rfl rfl ?_ ?_
        · refine j_aload_n (q := 3) (np := 103) rfl rfl dX10_contracts_102 rfl ?_
          refine j_gI (np := 106) flX10_138 dX10_contracts_103 rfl (fun x17 => ?_)
          refine j_iconst (np := 107) ci_3 dX10_contracts_106 rfl ?_
          refine j_icmp_ne (tgt := 125) (np := 110) dX10_contracts_107 rfl rfl ?_ ?_
          · refine j_aload_n (q := 3) (np := 126) rfl rfl dX10_contracts_125 rfl ?_
            refine j_aload_n (q := 3) (np := 127) rfl rfl dX10_contracts_126 rfl ?_
            refine j_iload (q := 0) (np := 129) rfl dX10_contracts_127 rfl ?_
            refine j_iload_n (q := 2) (np := 130) rfl rfl dX10_contracts_129 rfl ?_
            refine j_callVi (ci := 10) (np := 133) (bc := bc) (bs := bs) (cb := 0) (cs := 0) (dd := d - 1) (As := [.int x15, .int x2]) (st := [.ref (E.2.1 + v0)]) caX10_apply mlX10_294 imX10_apply seX10_apply rfl rfl (by decide) (fun b hb => wX10_apply (by omega) hb) (by omega) rfl rfl (Nat.le_of_ble_eq_true rfl) dX10_contracts_130 rfl (fun b18 => ?_)
            refine j_iload_n (q := 1) (np := 134) rfl rfl dX10_contracts_133 rfl ?_
            refine j_callVi (ci := 10) (np := 137) (bc := bc) (bs := bs) (cb := 0) (cs := 0) (dd := d - 1) (As := [.int b18.1, .int x7]) (st := []) caX10_apply mlX10_294 imX10_apply seX10_apply rfl rfl (by decide) (fun b hb => wX10_apply (by omega) hb) (by omega) rfl rfl (Nat.le_of_ble_eq_true rfl) dX10_contracts_134 rfl (fun b19 => ?_)
            exact j_iret rfl dX10_contracts_137 (fun rr h => h)
          · refine j_aload_n (q := 3) (np := 111) rfl rfl dX10_contracts_110 rfl ?_
            refine j_iload (q := 0) (np := 113) rfl dX10_contracts_111 rfl ?_
            refine j_aload_n (q := 3) (np := 114) rfl rfl dX10_contracts_113 rfl ?_
            refine j_iload_n (q := 1) (np := 115) rfl rfl dX10_contracts_114 rfl ?_
            refine j_iload_n (q := 2) (np := 116) rfl rfl dX10_contracts_115 rfl ?_
            refine j_callVi (ci := 10) (np := 119) (bc := bc) (bs := bs) (cb := 0) (cs := 0) (dd := d - 1) (As := [.int x7, .int x2]) (st := [.int x15, .ref (E.2.1 + v0)]) caX10_apply mlX10_294 imX10_apply seX10_apply rfl rfl (by decide) (fun b hb => wX10_apply (by omega) hb) (by omega) rfl rfl (Nat.le_of_ble_eq_true rfl) dX10_contracts_116 rfl (fun b20 => ?_)
            refine j_callVi (ci := 10) (np := 122) (bc := bc) (bs := bs) (cb := 0) (cs := 0) (dd := d - 1) (As := [.int x15, .int b20.1]) (st := []) caX10_apply mlX10_294 imX10_apply seX10_apply rfl rfl (by decide) (fun b hb => wX10_apply (by omega) hb) (by omega) rfl rfl (Nat.le_of_ble_eq_true rfl) dX10_contracts_119 rfl (fun b21 => ?_)
            refine j_goto (tgt := 137) dX10_contracts_122 rfl ?_
            exact j_iret rfl dX10_contracts_137 (fun rr h => h)
        · refine j_aload_n (q := 3) (np := 85) rfl rfl dX10_contracts_84 rfl ?_
          refine j_aload_n (q := 3) (np := 86) rfl rfl dX10_contracts_85 rfl ?_
          refine j_iload (q := 0) (np := 88) rfl dX10_contracts_86 rfl ?_
          refine j_iload_n (q := 2) (np := 89) rfl rfl dX10_contracts_88 rfl ?_
          refine j_callVi (ci := 10) (np := 92) (bc := bc) (bs := bs) (cb := 0) (cs := 0) (dd := d - 1) (As := [.int x15, .int x2]) (st := [.ref (E.2.1 + v0)]) caX10_apply mlX10_294 imX10_apply seX10_apply rfl rfl (by decide) (fun b hb => wX10_apply (by omega) hb) (by omega) rfl rfl (Nat.le_of_ble_eq_true rfl) dX10_contracts_89 rfl (fun b22 => ?_)
          refine j_aload_n (q := 3) (np := 93) rfl rfl dX10_contracts_92 rfl ?_
          refine j_iload_n (q := 1) (np := 94) rfl rfl dX10_contracts_93 rfl ?_
          refine j_iload_n (q := 2) (np := 95) rfl rfl dX10_contracts_94 rfl ?_
          refine j_callVi (ci := 10) (np := 98) (bc := bc) (bs := bs) (cb := 0) (cs := 0) (dd := d - 1) (As := [.int x7, .int x2]) (st := [.int b22.1, .ref (E.2.1 + v0)]) caX10_apply mlX10_294 imX10_apply seX10_apply rfl rfl (by decide) (fun b hb => wX10_apply (by omega) hb) (by omega) rfl rfl (Nat.le_of_ble_eq_true rfl) dX10_contracts_95 rfl (fun b23 => ?_)
          refine j_callVi (ci := 10) (np := 101) (bc := bc) (bs := bs) (cb := 0) (cs := 0) (dd := d - 1) (As := [.int b22.1, .int b23.1]) (st := []) caX10_apply mlX10_294 imX10_apply seX10_apply rfl rfl (by decide) (fun b hb => wX10_apply (by omega) hb) (by omega) rfl rfl (Nat.le_of_ble_eq_true rfl) dX10_contracts_98 rfl (fun b24 => ?_)
          exact j_iret rfl dX10_contracts_101 (fun rr h => h)
      · refine j_aload_n (q := 2) (np := 48) rfl rfl dX10_contracts_47 rfl ?_
        refine j_aload_n (q := 2) (np := 49) rfl rfl dX10_contracts_48 rfl ?_
        refine j_iload_n (q := 0) (np := 50) rfl rfl dX10_contracts_49 rfl ?_
        refine j_iload_n (q := 1) (np := 51) rfl rfl dX10_contracts_50 rfl ?_
        refine j_callVi (ci := 10) (np := 54) (bc := bc) (bs := bs) (cb := 0) (cs := 0) (dd := d - 1) (As := [.int x7, .int x2]) (st := [.ref (E.2.1 + v0)]) caX10_apply mlX10_294 imX10_apply seX10_apply rfl rfl (by decide) (fun b hb => wX10_apply (by omega) hb) (by omega) rfl rfl (Nat.le_of_ble_eq_true rfl) dX10_contracts_51 rfl (fun b25 => ?_)
        refine j_iload_n (q := 1) (np := 55) rfl rfl dX10_contracts_54 rfl ?_
        refine j_callVi (ci := 10) (np := 58) (bc := bc) (bs := bs) (cb := 0) (cs := 0) (dd := d - 1) (As := [.int b25.1, .int x2]) (st := []) caX10_apply mlX10_294 imX10_apply seX10_apply rfl rfl (by decide) (fun b hb => wX10_apply (by omega) hb) (by omega) rfl rfl (Nat.le_of_ble_eq_true rfl) dX10_contracts_55 rfl (fun b26 => ?_)
        exact j_iret rfl dX10_contracts_58 (fun rr h => h)
    · refine j_iload_n (q := 0) (np := 38) rfl rfl dX10_contracts_37 rfl ?_
      exact j_iret rfl dX10_contracts_38 (fun rr h => h)
  · refine j_iload_n (q := 0) (np := 16) rfl rfl dX10_contracts_15 rfl ?_
    exact j_iret rfl dX10_contracts_16 (fun rr h => h)
set_option maxRecDepth 100000 in
theorem wX10_contracts {E : qE} {N d : Nat} (hd : 2 ≤ d) {v0 : Nat} {v1 : Int32} {m0 : qM} {b : Int32 × qM} (h : fX10_contracts N v0 v1 m0 = some b) : qRun E yX10_contracts cX10_contracts 5 (some .int) d 0 0 [.ref (E.2.1 + v0), .int v1] m0 (some (.int b.1), b.2) := q_met pnX10 (Nat.le_of_ble_eq_true rfl) (bX10_contracts hd b _ h rfl)
theorem dX10_reduces_0 : decode cX10_reduces 0 = .ok (.aload_n 0, 1) := by decide +kernel
theorem dX10_reduces_1 : decode cX10_reduces 1 = .ok (.getfield 72, 3) := by decide +kernel
theorem dX10_reduces_4 : decode cX10_reduces 4 = .ok (.iload_n 1, 1) := by decide +kernel
theorem dX10_reduces_5 : decode cX10_reduces 5 = .ok (.iaload, 1) := by decide +kernel
theorem dX10_reduces_6 : decode cX10_reduces 6 = .ok (.ifCond .lt 5, 3) := by decide +kernel
theorem dX10_reduces_9 : decode cX10_reduces 9 = .ok (.iconst (-1), 1) := by decide +kernel
theorem dX10_reduces_10 : decode cX10_reduces 10 = .ok (.ireturn, 1) := by decide +kernel
theorem dX10_reduces_11 : decode cX10_reduces 11 = .ok (.aload_n 0, 1) := by decide +kernel
theorem dX10_reduces_12 : decode cX10_reduces 12 = .ok (.iload_n 1, 1) := by decide +kernel
theorem dX10_reduces_13 : decode cX10_reduces 13 = .ok (.invokevirtual 300, 3) := by decide +kernel
theorem dX10_reduces_16 : decode cX10_reduces 16 = .ok (.aload_n 0, 1) := by decide +kernel
theorem dX10_reduces_17 : decode cX10_reduces 17 = .ok (.getfield 138, 3) := by decide +kernel
theorem dX10_reduces_20 : decode cX10_reduces 20 = .ok (.invokestatic 303, 3) := by decide +kernel
theorem dX10_reduces_23 : decode cX10_reduces 23 = .ok (.if_icmp .ne 9, 3) := by decide +kernel
theorem dX10_reduces_26 : decode cX10_reduces 26 = .ok (.aload_n 0, 1) := by decide +kernel
theorem dX10_reduces_27 : decode cX10_reduces 27 = .ok (.iload_n 1, 1) := by decide +kernel
theorem dX10_reduces_28 : decode cX10_reduces 28 = .ok (.invokevirtual 306, 3) := by decide +kernel
theorem dX10_reduces_31 : decode cX10_reduces 31 = .ok (.ireturn, 1) := by decide +kernel
theorem dX10_reduces_32 : decode cX10_reduces 32 = .ok (.aload_n 0, 1) := by decide +kernel
theorem dX10_reduces_33 : decode cX10_reduces 33 = .ok (.aload_n 0, 1) := by decide +kernel
theorem dX10_reduces_34 : decode cX10_reduces 34 = .ok (.getfield 75, 3) := by decide +kernel
theorem dX10_reduces_37 : decode cX10_reduces 37 = .ok (.iload_n 1, 1) := by decide +kernel
theorem dX10_reduces_38 : decode cX10_reduces 38 = .ok (.iaload, 1) := by decide +kernel
theorem dX10_reduces_39 : decode cX10_reduces 39 = .ok (.invokevirtual 309, 3) := by decide +kernel
theorem dX10_reduces_42 : decode cX10_reduces 42 = .ok (.istore_n 2, 1) := by decide +kernel
theorem dX10_reduces_43 : decode cX10_reduces 43 = .ok (.iload_n 2, 1) := by decide +kernel
theorem dX10_reduces_44 : decode cX10_reduces 44 = .ok (.ifCond .lt 15, 3) := by decide +kernel
theorem dX10_reduces_47 : decode cX10_reduces 47 = .ok (.aload_n 0, 1) := by decide +kernel
theorem dX10_reduces_48 : decode cX10_reduces 48 = .ok (.iload_n 2, 1) := by decide +kernel
theorem dX10_reduces_49 : decode cX10_reduces 49 = .ok (.aload_n 0, 1) := by decide +kernel
theorem dX10_reduces_50 : decode cX10_reduces 50 = .ok (.getfield 78, 3) := by decide +kernel
theorem dX10_reduces_53 : decode cX10_reduces 53 = .ok (.iload_n 1, 1) := by decide +kernel
theorem dX10_reduces_54 : decode cX10_reduces 54 = .ok (.iaload, 1) := by decide +kernel
theorem dX10_reduces_55 : decode cX10_reduces 55 = .ok (.invokevirtual 294, 3) := by decide +kernel
theorem dX10_reduces_58 : decode cX10_reduces 58 = .ok (.ireturn, 1) := by decide +kernel
theorem dX10_reduces_59 : decode cX10_reduces 59 = .ok (.aload_n 0, 1) := by decide +kernel
theorem dX10_reduces_60 : decode cX10_reduces 60 = .ok (.aload_n 0, 1) := by decide +kernel
theorem dX10_reduces_61 : decode cX10_reduces 61 = .ok (.getfield 78, 3) := by decide +kernel
theorem dX10_reduces_64 : decode cX10_reduces 64 = .ok (.iload_n 1, 1) := by decide +kernel
theorem dX10_reduces_65 : decode cX10_reduces 65 = .ok (.iaload, 1) := by decide +kernel
theorem dX10_reduces_66 : decode cX10_reduces 66 = .ok (.invokevirtual 309, 3) := by decide +kernel
theorem dX10_reduces_69 : decode cX10_reduces 69 = .ok (.istore_n 3, 1) := by decide +kernel
theorem dX10_reduces_70 : decode cX10_reduces 70 = .ok (.iload_n 3, 1) := by decide +kernel
theorem dX10_reduces_71 : decode cX10_reduces 71 = .ok (.ifCond .ge 7, 3) := by decide +kernel
theorem dX10_reduces_74 : decode cX10_reduces 74 = .ok (.iconst (-1), 1) := by decide +kernel
theorem dX10_reduces_75 : decode cX10_reduces 75 = .ok (.goto 14, 3) := by decide +kernel
theorem dX10_reduces_78 : decode cX10_reduces 78 = .ok (.aload_n 0, 1) := by decide +kernel
theorem dX10_reduces_79 : decode cX10_reduces 79 = .ok (.aload_n 0, 1) := by decide +kernel
theorem dX10_reduces_80 : decode cX10_reduces 80 = .ok (.getfield 75, 3) := by decide +kernel
theorem dX10_reduces_83 : decode cX10_reduces 83 = .ok (.iload_n 1, 1) := by decide +kernel
theorem dX10_reduces_84 : decode cX10_reduces 84 = .ok (.iaload, 1) := by decide +kernel
theorem dX10_reduces_85 : decode cX10_reduces 85 = .ok (.iload_n 3, 1) := by decide +kernel
theorem dX10_reduces_86 : decode cX10_reduces 86 = .ok (.invokevirtual 294, 3) := by decide +kernel
theorem dX10_reduces_89 : decode cX10_reduces 89 = .ok (.ireturn, 1) := by decide +kernel
def fX10_reduces (N : Nat) : Nat → Nat → Int32 → qM → Option (Int32 × qM)
  | 0, _, _, _ => none
  | k + 1, v0, v1, m0 =>
    (qgR m0 v0 10 29).bind fun x1 =>
    (qaI m0 x1 12 v1).bind fun x2 =>
    if x2 < 0 then (
    (qChk m0 v0 10 (fX10_spine N v0 v1 m0)).bind fun b3 =>
    (qgI b3.2 v0 10 25).bind fun x4 =>
    (fX10_needs N x4 b3.2).bind fun b5 =>
    if b3.1 = b5.1 then (
    (qChk b5.2 v0 10 (fX10_contracts N v0 v1 b5.2)).bind fun b18 =>
    some (b18.1, b18.2)
    ) else (
    (qgR b5.2 v0 10 30).bind fun x6 =>
    (qaI b5.2 x6 12 v1).bind fun x7 =>
    (qChk b5.2 v0 10 (fX10_reduces N k v0 x7 b5.2)).bind fun b8 =>
    if b8.1 < 0 then (
    (qgR b8.2 v0 10 31).bind fun x9 =>
    (qaI b8.2 x9 12 v1).bind fun x10 =>
    (qChk b8.2 v0 10 (fX10_reduces N k v0 x10 b8.2)).bind fun b11 =>
    if 0 ≤ b11.1 then (
    (qgR b11.2 v0 10 30).bind fun x12 =>
    (qaI b11.2 x12 12 v1).bind fun x13 =>
    (qChk b11.2 v0 10 (fX10_apply N v0 x13 b11.1 b11.2)).bind fun b14 =>
    some (b14.1, b14.2)
    ) else (
    some ((-1 : Int32), b11.2)
    )
    ) else (
    (qgR b8.2 v0 10 31).bind fun x15 =>
    (qaI b8.2 x15 12 v1).bind fun x16 =>
    (qChk b8.2 v0 10 (fX10_apply N v0 b8.1 x16 b8.2)).bind fun b17 =>
    some (b17.1, b17.2)
    )
    )
    ) else (
    some ((-1 : Int32), m0)
    )
set_option maxRecDepth 100000 in
theorem wX10_reduces {E : qE} {N : Nat} : ∀ {k d : Nat} (hd : k + 3 ≤ d) {m0 : qM} {b : Int32 × qM} {v0 : Nat} {v1 : Int32} (h : fX10_reduces N k v0 v1 m0 = some b), qRun E yX10_reduces cX10_reduces 4 (some .int) d 0 0 [.ref (E.2.1 + v0), .int v1] m0 (some (.int b.1), b.2) := by
  intro k
  induction k with
  | zero =>
    intro d hd m0 b v0 v1 h
    cases h
  | succ k ih =>
    intro d hd m0 b v0 v1 h
    have hfr : ∀ (m : qM) (b : Int32 × qM) (v0 : Nat) (v1 : Int32), fX10_reduces N k v0 v1 m = some b → qRun E yX10_reduces cX10_reduces 4 (some .int) (d - 1) 0 0 [.ref (E.2.1 + v0), .int v1] m (some (.int b.1), b.2) := fun m b v0 v1 h => ih (by omega) h
    have hd : 3 ≤ d := by omega
    have bd : qB E yX10_reduces cX10_reduces 4 (some .int) (fun _ => True) d 0 0 0 [(0, .ref (E.2.1 + v0)), (1, .int v1)] [] m0 (fX10_reduces N (k + 1) v0 v1 m0) (fun b rr => rr = (some (.int b.1), b.2)) := by
      unfold fX10_reduces
      refine j_aload_n (q := 0) (np := 1) rfl rfl dX10_reduces_0 rfl ?_
      refine j_gR (np := 4) flX10_72 dX10_reduces_1 rfl (fun x1 => ?_)
      refine j_iload_n (q := 1) (np := 5) rfl rfl dX10_reduces_4 rfl ?_
      refine j_iaload (np := 6) dX10_reduces_5 rfl (fun x2 => ?_)
      refine j_if_lt (tgt := 11) (np := 9) dX10_reduces_6 rfl rfl ?_ ?_
      · refine j_aload_n (q := 0) (np := 12) rfl rfl dX10_reduces_11 rfl ?_
        refine j_iload_n (q := 1) (np := 13) rfl rfl dX10_reduces_12 rfl ?_
        refine j_callVi (ci := 10) (np := 16) (bc := 0) (bs := 0) (cb := 0) (cs := 0) (dd := d - 1) (As := [.int v1]) (st := []) caX10_spine mlX10_300 imX10_spine seX10_spine rfl rfl (by decide) (fun b hb => wX10_spine (by omega) hb) (by omega) rfl rfl (Nat.le_of_ble_eq_true rfl) dX10_reduces_13 rfl (fun b3 => ?_)
        refine j_aload_n (q := 0) (np := 17) rfl rfl dX10_reduces_16 rfl ?_
        refine j_gI (np := 20) flX10_138 dX10_reduces_17 rfl (fun x4 => ?_)
        refine j_callSi (np := 23) (bc := 0) (bs := 0) (cb := 0) (cs := 0) (dd := d - 1) (As := [.int x4]) (st := [.int b3.1]) caX10_needs mlX10_303 stX10_needs (fun b hb => wX10_needs (by omega) hb) (by omega) rfl rfl (Nat.le_of_ble_eq_true rfl) dX10_reduces_20 rfl (fun b5 => ?_)
        refine j_icmp_ne (tgt := 32) (np := 26) dX10_reduces_23 rfl rfl ?_ ?_
        · refine j_aload_n (q := 0) (np := 33) rfl rfl dX10_reduces_32 rfl ?_
          refine j_aload_n (q := 0) (np := 34) rfl rfl dX10_reduces_33 rfl ?_
          refine j_gR (np := 37) flX10_75 dX10_reduces_34 rfl (fun x6 => ?_)
          refine j_iload_n (q := 1) (np := 38) rfl rfl dX10_reduces_37 rfl ?_
          refine j_iaload (np := 39) dX10_reduces_38 rfl (fun x7 => ?_)
          refine j_callVi (ci := 10) (np := 42) (bc := 0) (bs := 0) (cb := 0) (cs := 0) (dd := d - 1) (As := [.int x7]) (st := []) caX10_reduces mlX10_309 imX10_reduces seX10_reduces rfl rfl (by decide) (fun b hb => hfr _ _ _ _ hb) (by omega) rfl rfl (Nat.le_of_ble_eq_true rfl) dX10_reduces_39 rfl (fun b8 => ?_)
          refine j_istore_n (np := 43) (lv2 := [(2, .int b8.1), (0, .ref (E.2.1 + v0)), (1, .int v1)]) rfl (by decide) dX10_reduces_42 rfl rfl ?_
          refine j_iload_n (q := 0) (np := 44) rfl rfl dX10_reduces_43 rfl ?_
          refine j_if_lt (tgt := 59) (np := 47) dX10_reduces_44 rfl rfl ?_ ?_
          · refine j_aload_n (q := 1) (np := 60) rfl rfl dX10_reduces_59 rfl ?_
            refine j_aload_n (q := 1) (np := 61) rfl rfl dX10_reduces_60 rfl ?_
            refine j_gR (np := 64) flX10_78 dX10_reduces_61 rfl (fun x9 => ?_)
            refine j_iload_n (q := 2) (np := 65) rfl rfl dX10_reduces_64 rfl ?_
            refine j_iaload (np := 66) dX10_reduces_65 rfl (fun x10 => ?_)
            refine j_callVi (ci := 10) (np := 69) (bc := 0) (bs := 0) (cb := 0) (cs := 0) (dd := d - 1) (As := [.int x10]) (st := []) caX10_reduces mlX10_309 imX10_reduces seX10_reduces rfl rfl (by decide) (fun b hb => hfr _ _ _ _ hb) (by omega) rfl rfl (Nat.le_of_ble_eq_true rfl) dX10_reduces_66 rfl (fun b11 => ?_)
            refine j_istore_n (np := 70) (lv2 := [(3, .int b11.1), (2, .int b8.1), (0, .ref (E.2.1 + v0)), (1, .int v1)]) rfl (by decide) dX10_reduces_69 rfl rfl ?_
            refine j_iload_n (q := 0) (np := 71) rfl rfl dX10_reduces_70 rfl ?_
            refine j_if_ge (tgt := 78) (np := 74) dX10_reduces_71 rfl rfl ?_ ?_
            · refine j_aload_n (q := 2) (np := 79) rfl rfl dX10_reduces_78 rfl ?_
              refine j_aload_n (q := 2) (np := 80) rfl rfl dX10_reduces_79 rfl ?_
              refine j_gR (np := 83) flX10_75 dX10_reduces_80 rfl (fun x12 => ?_)
              refine j_iload_n (q := 3) (np := 84) rfl rfl dX10_reduces_83 rfl ?_
              refine j_iaload (np := 85) dX10_reduces_84 rfl (fun x13 => ?_)
              refine j_iload_n (q := 0) (np := 86) rfl rfl dX10_reduces_85 rfl ?_
              refine j_callVi (ci := 10) (np := 89) (bc := 0) (bs := 0) (cb := 0) (cs := 0) (dd := d - 1) (As := [.int x13, .int b11.1]) (st := []) caX10_apply mlX10_294 imX10_apply seX10_apply rfl rfl (by decide) (fun b hb => wX10_apply (by omega) hb) (by omega) rfl rfl (Nat.le_of_ble_eq_true rfl) dX10_reduces_86 rfl (fun b14 => ?_)
              exact j_iret rfl dX10_reduces_89 (fun rr h => h)
            · refine j_iconst (np := 75) ci_m1 dX10_reduces_74 rfl ?_
              refine j_goto (tgt := 89) dX10_reduces_75 rfl ?_
              exact j_iret rfl dX10_reduces_89 (fun rr h => h)
          · refine j_aload_n (q := 1) (np := 48) rfl rfl dX10_reduces_47 rfl ?_
            refine j_iload_n (q := 0) (np := 49) rfl rfl dX10_reduces_48 rfl ?_
            refine j_aload_n (q := 1) (np := 50) rfl rfl dX10_reduces_49 rfl ?_
            refine j_gR (np := 53) flX10_78 dX10_reduces_50 rfl (fun x15 => ?_)
            refine j_iload_n (q := 2) (np := 54) rfl rfl dX10_reduces_53 rfl ?_
            refine j_iaload (np := 55) dX10_reduces_54 rfl (fun x16 => ?_)
            refine j_callVi (ci := 10) (np := 58) (bc := 0) (bs := 0) (cb := 0) (cs := 0) (dd := d - 1) (As := [.int b8.1, .int x16]) (st := []) caX10_apply mlX10_294 imX10_apply seX10_apply rfl rfl (by decide) (fun b hb => wX10_apply (by omega) hb) (by omega) rfl rfl (Nat.le_of_ble_eq_true rfl) dX10_reduces_55 rfl (fun b17 => ?_)
            exact j_iret rfl dX10_reduces_58 (fun rr h => h)
        · refine j_aload_n (q := 0) (np := 27) rfl rfl dX10_reduces_26 rfl ?_
          refine j_iload_n (q := 1) (np := 28) rfl rfl dX10_reduces_27 rfl ?_
          refine j_callVi (ci := 10) (np := 31) (bc := 0) (bs := 0) (cb := 0) (cs := 0) (dd := d - 1) (As := [.int v1]) (st := []) caX10_contracts mlX10_306 imX10_contracts seX10_contracts rfl rfl (by decide) (fun b hb => wX10_contracts (by omega) hb) (by omega) rfl rfl (Nat.le_of_ble_eq_true rfl) dX10_reduces_28 rfl (fun b18 => ?_)
          exact j_iret rfl dX10_reduces_31 (fun rr h => h)
      · refine j_iconst (np := 10) ci_m1 dX10_reduces_9 rfl ?_
        exact j_iret rfl dX10_reduces_10 (fun rr h => h)
    exact q_met pnX10 (Nat.le_of_ble_eq_true rfl) (bd b _ h rfl)
theorem dX10_isRow_0 : decode cX10_isRow 0 = .ok (.iload_n 0, 1) := by decide +kernel
theorem dX10_isRow_1 : decode cX10_isRow 1 = .ok (.iconst 0, 1) := by decide +kernel
theorem dX10_isRow_2 : decode cX10_isRow 2 = .ok (.iconst 2, 1) := by decide +kernel
theorem dX10_isRow_3 : decode cX10_isRow 3 = .ok (.invokestatic 99, 3) := by decide +kernel
theorem dX10_isRow_6 : decode cX10_isRow 6 = .ok (.ireturn, 1) := by decide +kernel
def fX10_isRow (N : Nat) (v0 : Int32) (m0 : qM) : Option (Int32 × qM) :=
  (fX10_in N v0 (0 : Int32) (2 : Int32) m0).bind fun b1 =>
  some (b1.1 &&& 1, b1.2)
set_option maxRecDepth 100000 in
theorem bX10_isRow {E : qE} {N d bc bs : Nat} (hd : 1 ≤ d) {v0 : Int32} {m0 : qM} : qB E yX10_isRow cX10_isRow 1 (some .boolean) (fun _ => True) d bc bs 0 [(0, .int v0)] [] m0 (fX10_isRow N v0 m0) (fun b rr => rr = (some (.int b.1), b.2)) := by
  unfold fX10_isRow
  refine j_iload_n (q := 0) (np := 1) rfl rfl dX10_isRow_0 rfl ?_
  refine j_iconst (np := 2) ci_0 dX10_isRow_1 rfl ?_
  refine j_iconst (np := 3) ci_2 dX10_isRow_2 rfl ?_
  refine j_callSi (np := 6) (bc := bc) (bs := bs) (cb := 0) (cs := 0) (dd := d - 1) (As := [.int v0, .int (0 : Int32), .int (2 : Int32)]) (st := []) caX10_in mlX10_99 stX10_in (fun b hb => wX10_in (by omega) hb) (by omega) rfl rfl (Nat.le_of_ble_eq_true rfl) dX10_isRow_3 rfl (fun b1 => ?_)
  exact j_zret rfl dX10_isRow_6 (fun rr h => h)
set_option maxRecDepth 100000 in
theorem wX10_isRow {E : qE} {N d : Nat} (hd : 1 ≤ d) {v0 : Int32} {m0 : qM} {b : Int32 × qM} (h : fX10_isRow N v0 m0 = some b) : qRun E yX10_isRow cX10_isRow 1 (some .boolean) d 0 0 [.int v0] m0 (some (.int b.1), b.2) := q_met pnX10 (Nat.le_of_ble_eq_true rfl) (bX10_isRow hd b _ h rfl)
theorem dX10_allocate_0 : decode cX10_allocate 0 = .ok (.iload_n 1, 1) := by decide +kernel
theorem dX10_allocate_1 : decode cX10_allocate 1 = .ok (.invokestatic 316, 3) := by decide +kernel
theorem dX10_allocate_4 : decode cX10_allocate 4 = .ok (.ifCond .ne 5, 3) := by decide +kernel
theorem dX10_allocate_7 : decode cX10_allocate 7 = .ok (.iconst (-1), 1) := by decide +kernel
theorem dX10_allocate_8 : decode cX10_allocate 8 = .ok (.ireturn, 1) := by decide +kernel
theorem dX10_allocate_9 : decode cX10_allocate 9 = .ok (.iload_n 2, 1) := by decide +kernel
theorem dX10_allocate_10 : decode cX10_allocate 10 = .ok (.iconst 0, 1) := by decide +kernel
theorem dX10_allocate_11 : decode cX10_allocate 11 = .ok (.iconst 2, 1) := by decide +kernel
theorem dX10_allocate_12 : decode cX10_allocate 12 = .ok (.invokestatic 99, 3) := by decide +kernel
theorem dX10_allocate_15 : decode cX10_allocate 15 = .ok (.ifCond .eq 9, 3) := by decide +kernel
theorem dX10_allocate_18 : decode cX10_allocate 18 = .ok (.iload_n 3, 1) := by decide +kernel
theorem dX10_allocate_19 : decode cX10_allocate 19 = .ok (.bipush 80, 2) := by decide +kernel
theorem dX10_allocate_21 : decode cX10_allocate 21 = .ok (.if_icmp .le 6, 3) := by decide +kernel
theorem dX10_allocate_24 : decode cX10_allocate 24 = .ok (.bipush (-2), 2) := by decide +kernel
theorem dX10_allocate_26 : decode cX10_allocate 26 = .ok (.ireturn, 1) := by decide +kernel
theorem dX10_allocate_27 : decode cX10_allocate 27 = .ok (.iload_n 3, 1) := by decide +kernel
theorem dX10_allocate_28 : decode cX10_allocate 28 = .ok (.ifCond .ge 6, 3) := by decide +kernel
theorem dX10_allocate_31 : decode cX10_allocate 31 = .ok (.bipush (-9), 2) := by decide +kernel
theorem dX10_allocate_33 : decode cX10_allocate 33 = .ok (.ireturn, 1) := by decide +kernel
theorem dX10_allocate_34 : decode cX10_allocate 34 = .ok (.aload_n 0, 1) := by decide +kernel
theorem dX10_allocate_35 : decode cX10_allocate 35 = .ok (.getfield 41, 3) := by decide +kernel
theorem dX10_allocate_38 : decode cX10_allocate 38 = .ok (.iload_n 1, 1) := by decide +kernel
theorem dX10_allocate_39 : decode cX10_allocate 39 = .ok (.iload_n 2, 1) := by decide +kernel
theorem dX10_allocate_40 : decode cX10_allocate 40 = .ok (.iastore, 1) := by decide +kernel
theorem dX10_allocate_41 : decode cX10_allocate 41 = .ok (.aload_n 0, 1) := by decide +kernel
theorem dX10_allocate_42 : decode cX10_allocate 42 = .ok (.getfield 44, 3) := by decide +kernel
theorem dX10_allocate_45 : decode cX10_allocate 45 = .ok (.iload_n 1, 1) := by decide +kernel
theorem dX10_allocate_46 : decode cX10_allocate 46 = .ok (.iload_n 3, 1) := by decide +kernel
theorem dX10_allocate_47 : decode cX10_allocate 47 = .ok (.iastore, 1) := by decide +kernel
theorem dX10_allocate_48 : decode cX10_allocate 48 = .ok (.iconst 0, 1) := by decide +kernel
theorem dX10_allocate_49 : decode cX10_allocate 49 = .ok (.istore 4, 2) := by decide +kernel
theorem dX10_allocate_51 : decode cX10_allocate 51 = .ok (.iload 4, 2) := by decide +kernel
theorem dX10_allocate_53 : decode cX10_allocate 53 = .ok (.bipush 80, 2) := by decide +kernel
theorem dX10_allocate_55 : decode cX10_allocate 55 = .ok (.if_icmp .ge 22, 3) := by decide +kernel
theorem dX10_allocate_58 : decode cX10_allocate 58 = .ok (.aload_n 0, 1) := by decide +kernel
theorem dX10_allocate_59 : decode cX10_allocate 59 = .ok (.getfield 47, 3) := by decide +kernel
theorem dX10_allocate_62 : decode cX10_allocate 62 = .ok (.bipush 80, 2) := by decide +kernel
theorem dX10_allocate_64 : decode cX10_allocate 64 = .ok (.iload_n 1, 1) := by decide +kernel
theorem dX10_allocate_65 : decode cX10_allocate 65 = .ok (.imul, 1) := by decide +kernel
theorem dX10_allocate_66 : decode cX10_allocate 66 = .ok (.iload 4, 2) := by decide +kernel
theorem dX10_allocate_68 : decode cX10_allocate 68 = .ok (.iadd, 1) := by decide +kernel
theorem dX10_allocate_69 : decode cX10_allocate 69 = .ok (.iconst 0, 1) := by decide +kernel
theorem dX10_allocate_70 : decode cX10_allocate 70 = .ok (.iastore, 1) := by decide +kernel
theorem dX10_allocate_71 : decode cX10_allocate 71 = .ok (.iinc 4 1, 3) := by decide +kernel
theorem dX10_allocate_74 : decode cX10_allocate 74 = .ok (.goto (-23), 3) := by decide +kernel
theorem dX10_allocate_77 : decode cX10_allocate 77 = .ok (.iload_n 3, 1) := by decide +kernel
theorem dX10_allocate_78 : decode cX10_allocate 78 = .ok (.ireturn, 1) := by decide +kernel
def lX10_allocate_51 (N : Nat) (v0 : Nat) (v1 : Int32) (v3 : Int32) : Nat → Int32 → qM → Option (qM)
  | 0, _, _ => none
  | n + 1, v4, m0 =>
    if (80 : Int32) ≤ v4 then (
    some m0
    ) else (
    (qgR m0 v0 10 17).bind fun x1 =>
    (qwI m0 x1 12 (((80 : Int32) * v1) + v4) (0 : Int32)).bind fun m2 =>
    lX10_allocate_51 N v0 v1 v3 n (v4 + (1 : Int32)) m2
    )
set_option maxRecDepth 100000 in
theorem lbX10_allocate_51 {E : qE} {N d bc bs : Nat} (hd : 2 ≤ d) {v0 : Nat} {v1 : Int32} {v3 : Int32} : ∀ (n : Nat) (v4 : Int32) (m0 : qM), qB E yX10_allocate cX10_allocate 5 (some .int) (fun _ => True) d bc bs 51 [(0, .ref (E.2.1 + v0)), (1, .int v1), (3, .int v3), (4, .int v4)] [] m0 (lX10_allocate_51 N v0 v1 v3 n v4 m0) (fun o rr => qJ E yX10_allocate cX10_allocate 5 (some .int) (fun _ => True) d bc bs 77 [(3, .int v3)] [] o rr) := by
  intro n
  induction n with
  | zero =>
    intro v4 m0
    exact j_none
  | succ n ih =>
    intro v4 m0
    unfold lX10_allocate_51
    refine j_iload (q := 3) (np := 53) rfl dX10_allocate_51 rfl ?_
    refine j_bipush (np := 55) cb_80 dX10_allocate_53 rfl ?_
    refine j_icmp_ge (tgt := 77) (np := 58) dX10_allocate_55 rfl rfl ?_ ?_
    · refine j_sub (lv2 := [(3, .int v3)]) [2] rfl ?_
      exact j_exit (fun rr h => h)
    · refine j_aload_n (q := 0) (np := 59) rfl rfl dX10_allocate_58 rfl ?_
      refine j_gR (np := 62) flX10_47 dX10_allocate_59 rfl (fun x1 => ?_)
      refine j_bipush (np := 64) cb_80 dX10_allocate_62 rfl ?_
      refine j_iload_n (q := 1) (np := 65) rfl rfl dX10_allocate_64 rfl ?_
      refine j_imul (np := 66) dX10_allocate_65 rfl ?_
      refine j_iload (q := 3) (np := 68) rfl dX10_allocate_66 rfl ?_
      refine j_iadd (np := 69) dX10_allocate_68 rfl ?_
      refine j_iconst (np := 70) ci_0 dX10_allocate_69 rfl ?_
      refine j_iastore (np := 71) dX10_allocate_70 rfl (fun m2 => ?_)
      refine j_iinc (q := 3) (np := 74) (lv2 := [(4, .int (v4 + (1 : Int32))), (0, .ref (E.2.1 + v0)), (1, .int v1), (3, .int v3)]) rfl (congrArg _ ci_1) (by decide) dX10_allocate_71 rfl rfl ?_
      refine j_goto (tgt := 51) dX10_allocate_74 rfl ?_
      refine j_sub (lv2 := [(0, .ref (E.2.1 + v0)), (1, .int v1), (3, .int v3), (4, .int (v4 + (1 : Int32)))]) [1, 2, 3, 0] rfl ?_
      exact ih _ _
def fX10_allocate (N : Nat) (v0 : Nat) (v1 : Int32) (v2 : Int32) (v3 : Int32) (m0 : qM) : Option (Int32 × qM) :=
  (fX10_isRow N v1 m0).bind fun b1 =>
  if b1.1 = 0 then (
  some ((-1 : Int32), b1.2)
  ) else (
  (fX10_in N v2 (0 : Int32) (2 : Int32) b1.2).bind fun b2 =>
  if b2.1 = 0 then (
  some ((-2 : Int32), b2.2)
  ) else (
  if v3 ≤ (80 : Int32) then (
  if 0 ≤ v3 then (
  (qgR b2.2 v0 10 15).bind fun x3 =>
  (qwI b2.2 x3 12 v1 v2).bind fun m4 =>
  (qgR m4 v0 10 16).bind fun x5 =>
  (qwI m4 x5 12 v1 v3).bind fun m6 =>
  (lX10_allocate_51 N v0 v1 v3 N (0 : Int32) m6).bind fun o7 =>
  some (v3, o7)
  ) else (
  some ((-9 : Int32), b2.2)
  )
  ) else (
  some ((-2 : Int32), b2.2)
  )
  )
  )
set_option maxRecDepth 100000 in
theorem bX10_allocate {E : qE} {N d bc bs : Nat} (hd : 2 ≤ d) {v0 : Nat} {v1 : Int32} {v2 : Int32} {v3 : Int32} {m0 : qM} : qB E yX10_allocate cX10_allocate 5 (some .int) (fun _ => True) d bc bs 0 [(0, .ref (E.2.1 + v0)), (1, .int v1), (2, .int v2), (3, .int v3)] [] m0 (fX10_allocate N v0 v1 v2 v3 m0) (fun b rr => rr = (some (.int b.1), b.2)) := by
  unfold fX10_allocate
  refine j_iload_n (q := 1) (np := 1) rfl rfl dX10_allocate_0 rfl ?_
  refine j_callSi (np := 4) (bc := bc) (bs := bs) (cb := 0) (cs := 0) (dd := d - 1) (As := [.int v1]) (st := []) caX10_isRow mlX10_316 stX10_isRow (fun b hb => wX10_isRow (by omega) hb) (by omega) rfl rfl (Nat.le_of_ble_eq_true rfl) dX10_allocate_1 rfl (fun b1 => ?_)
  refine j_if_ne (tgt := 9) (np := 7) dX10_allocate_4 rfl rfl ?_ ?_
  · refine j_iload_n (q := 2) (np := 10) rfl rfl dX10_allocate_9 rfl ?_
    refine j_iconst (np := 11) ci_0 dX10_allocate_10 rfl ?_
    refine j_iconst (np := 12) ci_2 dX10_allocate_11 rfl ?_
    refine j_callSi (np := 15) (bc := bc) (bs := bs) (cb := 0) (cs := 0) (dd := d - 1) (As := [.int v2, .int (0 : Int32), .int (2 : Int32)]) (st := []) caX10_in mlX10_99 stX10_in (fun b hb => wX10_in (by omega) hb) (by omega) rfl rfl (Nat.le_of_ble_eq_true rfl) dX10_allocate_12 rfl (fun b2 => ?_)
    refine j_if_eq (tgt := 24) (np := 18) dX10_allocate_15 rfl rfl ?_ ?_
    · refine j_bipush (np := 26) cb_m2 dX10_allocate_24 rfl ?_
      exact j_iret rfl dX10_allocate_26 (fun rr h => h)
    · refine j_iload_n (q := 3) (np := 19) rfl rfl dX10_allocate_18 rfl ?_
      refine j_bipush (np := 21) cb_80 dX10_allocate_19 rfl ?_
      refine j_icmp_le (tgt := 27) (np := 24) dX10_allocate_21 rfl rfl ?_ ?_
      · refine j_iload_n (q := 3) (np := 28) rfl rfl dX10_allocate_27 rfl ?_
        refine j_if_ge (tgt := 34) (np := 31) dX10_allocate_28 rfl rfl ?_ ?_
        · refine j_aload_n (q := 0) (np := 35) rfl rfl dX10_allocate_34 rfl ?_
          refine j_gR (np := 38) flX10_41 dX10_allocate_35 rfl (fun x3 => ?_)
          refine j_iload_n (q := 1) (np := 39) rfl rfl dX10_allocate_38 rfl ?_
          refine j_iload_n (q := 2) (np := 40) rfl rfl dX10_allocate_39 rfl ?_
          refine j_iastore (np := 41) dX10_allocate_40 rfl (fun m4 => ?_)
          refine j_aload_n (q := 0) (np := 42) rfl rfl dX10_allocate_41 rfl ?_
          refine j_gR (np := 45) flX10_44 dX10_allocate_42 rfl (fun x5 => ?_)
          refine j_iload_n (q := 1) (np := 46) rfl rfl dX10_allocate_45 rfl ?_
          refine j_iload_n (q := 3) (np := 47) rfl rfl dX10_allocate_46 rfl ?_
          refine j_iastore (np := 48) dX10_allocate_47 rfl (fun m6 => ?_)
          refine j_iconst (np := 49) ci_0 dX10_allocate_48 rfl ?_
          refine j_istore (np := 51) (lv2 := [(4, .int (0 : Int32)), (0, .ref (E.2.1 + v0)), (1, .int v1), (2, .int v2), (3, .int v3)]) (by decide) dX10_allocate_49 rfl rfl ?_
          refine j_sub (lv2 := [(0, .ref (E.2.1 + v0)), (1, .int v1), (3, .int v3), (4, .int (0 : Int32))]) [1, 2, 4, 0] rfl ?_
          refine j_loop (xp := 77) (lvX := fun o7 => [(3, .int v3)]) (mX := fun o7 => o7) (lbX10_allocate_51 hd _ _ _) (fun o7 => ?_)
          refine j_iload_n (q := 0) (np := 78) rfl rfl dX10_allocate_77 rfl ?_
          exact j_iret rfl dX10_allocate_78 (fun rr h => h)
        · refine j_bipush (np := 33) cb_m9 dX10_allocate_31 rfl ?_
          exact j_iret rfl dX10_allocate_33 (fun rr h => h)
      · refine j_bipush (np := 26) cb_m2 dX10_allocate_24 rfl ?_
        exact j_iret rfl dX10_allocate_26 (fun rr h => h)
  · refine j_iconst (np := 8) ci_m1 dX10_allocate_7 rfl ?_
    exact j_iret rfl dX10_allocate_8 (fun rr h => h)
set_option maxRecDepth 100000 in
theorem wX10_allocate {E : qE} {N d : Nat} (hd : 2 ≤ d) {v0 : Nat} {v1 : Int32} {v2 : Int32} {v3 : Int32} {m0 : qM} {b : Int32 × qM} (h : fX10_allocate N v0 v1 v2 v3 m0 = some b) : qRun E yX10_allocate cX10_allocate 5 (some .int) d 0 0 [.ref (E.2.1 + v0), .int v1, .int v2, .int v3] m0 (some (.int b.1), b.2) := q_met pnX10 (Nat.le_of_ble_eq_true rfl) (bX10_allocate hd b _ h rfl)
theorem dX10_lacks_0 : decode cX10_lacks 0 = .ok (.iload_n 1, 1) := by decide +kernel
theorem dX10_lacks_1 : decode cX10_lacks 1 = .ok (.invokestatic 316, 3) := by decide +kernel
theorem dX10_lacks_4 : decode cX10_lacks 4 = .ok (.ifCond .ne 7, 3) := by decide +kernel
theorem dX10_lacks_7 : decode cX10_lacks 7 = .ok (.iconst (-1), 1) := by decide +kernel
theorem dX10_lacks_8 : decode cX10_lacks 8 = .ok (.goto 18, 3) := by decide +kernel
theorem dX10_lacks_11 : decode cX10_lacks 11 = .ok (.aload_n 0, 1) := by decide +kernel
theorem dX10_lacks_12 : decode cX10_lacks 12 = .ok (.getfield 41, 3) := by decide +kernel
theorem dX10_lacks_15 : decode cX10_lacks 15 = .ok (.iload_n 1, 1) := by decide +kernel
theorem dX10_lacks_16 : decode cX10_lacks 16 = .ok (.iaload, 1) := by decide +kernel
theorem dX10_lacks_17 : decode cX10_lacks 17 = .ok (.ifCond .ge 8, 3) := by decide +kernel
theorem dX10_lacks_20 : decode cX10_lacks 20 = .ok (.bipush (-6), 2) := by decide +kernel
theorem dX10_lacks_22 : decode cX10_lacks 22 = .ok (.goto 4, 3) := by decide +kernel
theorem dX10_lacks_25 : decode cX10_lacks 25 = .ok (.iconst 0, 1) := by decide +kernel
theorem dX10_lacks_26 : decode cX10_lacks 26 = .ok (.ireturn, 1) := by decide +kernel
def fX10_lacks (N : Nat) (v0 : Nat) (v1 : Int32) (m0 : qM) : Option (Int32 × qM) :=
  (fX10_isRow N v1 m0).bind fun b1 =>
  if b1.1 = 0 then (
  some ((-1 : Int32), b1.2)
  ) else (
  (qgR b1.2 v0 10 15).bind fun x2 =>
  (qaI b1.2 x2 12 v1).bind fun x3 =>
  if 0 ≤ x3 then (
  some ((0 : Int32), b1.2)
  ) else (
  some ((-6 : Int32), b1.2)
  )
  )
set_option maxRecDepth 100000 in
theorem bX10_lacks {E : qE} {N d bc bs : Nat} (hd : 2 ≤ d) {v0 : Nat} {v1 : Int32} {m0 : qM} : qB E yX10_lacks cX10_lacks 2 (some .int) (fun _ => True) d bc bs 0 [(0, .ref (E.2.1 + v0)), (1, .int v1)] [] m0 (fX10_lacks N v0 v1 m0) (fun b rr => rr = (some (.int b.1), b.2)) := by
  unfold fX10_lacks
  refine j_iload_n (q := 1) (np := 1) rfl rfl dX10_lacks_0 rfl ?_
  refine j_callSi (np := 4) (bc := bc) (bs := bs) (cb := 0) (cs := 0) (dd := d - 1) (As := [.int v1]) (st := []) caX10_isRow mlX10_316 stX10_isRow (fun b hb => wX10_isRow (by omega) hb) (by omega) rfl rfl (Nat.le_of_ble_eq_true rfl) dX10_lacks_1 rfl (fun b1 => ?_)
  refine j_if_ne (tgt := 11) (np := 7) dX10_lacks_4 rfl rfl ?_ ?_
  · refine j_aload_n (q := 0) (np := 12) rfl rfl dX10_lacks_11 rfl ?_
    refine j_gR (np := 15) flX10_41 dX10_lacks_12 rfl (fun x2 => ?_)
    refine j_iload_n (q := 1) (np := 16) rfl rfl dX10_lacks_15 rfl ?_
    refine j_iaload (np := 17) dX10_lacks_16 rfl (fun x3 => ?_)
    refine j_if_ge (tgt := 25) (np := 20) dX10_lacks_17 rfl rfl ?_ ?_
    · refine j_iconst (np := 26) ci_0 dX10_lacks_25 rfl ?_
      exact j_iret rfl dX10_lacks_26 (fun rr h => h)
    · refine j_bipush (np := 22) cb_m6 dX10_lacks_20 rfl ?_
      refine j_goto (tgt := 26) dX10_lacks_22 rfl ?_
      exact j_iret rfl dX10_lacks_26 (fun rr h => h)
  · refine j_iconst (np := 8) ci_m1 dX10_lacks_7 rfl ?_
    refine j_goto (tgt := 26) dX10_lacks_8 rfl ?_
    exact j_iret rfl dX10_lacks_26 (fun rr h => h)
set_option maxRecDepth 100000 in
theorem wX10_lacks {E : qE} {N d : Nat} (hd : 2 ≤ d) {v0 : Nat} {v1 : Int32} {m0 : qM} {b : Int32 × qM} (h : fX10_lacks N v0 v1 m0 = some b) : qRun E yX10_lacks cX10_lacks 2 (some .int) d 0 0 [.ref (E.2.1 + v0), .int v1] m0 (some (.int b.1), b.2) := q_met pnX10 (Nat.le_of_ble_eq_true rfl) (bX10_lacks hd b _ h rfl)
theorem dX10_sets_0 : decode cX10_sets 0 = .ok (.aload_n 0, 1) := by decide +kernel
theorem dX10_sets_1 : decode cX10_sets 1 = .ok (.getfield 47, 3) := by decide +kernel
theorem dX10_sets_4 : decode cX10_sets 4 = .ok (.bipush 80, 2) := by decide +kernel
theorem dX10_sets_6 : decode cX10_sets 6 = .ok (.iload_n 1, 1) := by decide +kernel
theorem dX10_sets_7 : decode cX10_sets 7 = .ok (.imul, 1) := by decide +kernel
theorem dX10_sets_8 : decode cX10_sets 8 = .ok (.iload_n 2, 1) := by decide +kernel
theorem dX10_sets_9 : decode cX10_sets 9 = .ok (.iadd, 1) := by decide +kernel
theorem dX10_sets_10 : decode cX10_sets 10 = .ok (.aload_n 0, 1) := by decide +kernel
theorem dX10_sets_11 : decode cX10_sets 11 = .ok (.getfield 41, 3) := by decide +kernel
theorem dX10_sets_14 : decode cX10_sets 14 = .ok (.iload_n 1, 1) := by decide +kernel
theorem dX10_sets_15 : decode cX10_sets 15 = .ok (.iaload, 1) := by decide +kernel
theorem dX10_sets_16 : decode cX10_sets 16 = .ok (.ifCond .ne 8, 3) := by decide +kernel
theorem dX10_sets_19 : decode cX10_sets 19 = .ok (.iload_n 3, 1) := by decide +kernel
theorem dX10_sets_20 : decode cX10_sets 20 = .ok (.i2b, 1) := by decide +kernel
theorem dX10_sets_21 : decode cX10_sets 21 = .ok (.goto 19, 3) := by decide +kernel
theorem dX10_sets_24 : decode cX10_sets 24 = .ok (.aload_n 0, 1) := by decide +kernel
theorem dX10_sets_25 : decode cX10_sets 25 = .ok (.getfield 41, 3) := by decide +kernel
theorem dX10_sets_28 : decode cX10_sets 28 = .ok (.iload_n 1, 1) := by decide +kernel
theorem dX10_sets_29 : decode cX10_sets 29 = .ok (.iaload, 1) := by decide +kernel
theorem dX10_sets_30 : decode cX10_sets 30 = .ok (.iconst 1, 1) := by decide +kernel
theorem dX10_sets_31 : decode cX10_sets 31 = .ok (.if_icmp .ne 8, 3) := by decide +kernel
theorem dX10_sets_34 : decode cX10_sets 34 = .ok (.iload_n 3, 1) := by decide +kernel
theorem dX10_sets_35 : decode cX10_sets 35 = .ok (.i2c, 1) := by decide +kernel
theorem dX10_sets_36 : decode cX10_sets 36 = .ok (.goto 4, 3) := by decide +kernel
theorem dX10_sets_39 : decode cX10_sets 39 = .ok (.iload_n 3, 1) := by decide +kernel
theorem dX10_sets_40 : decode cX10_sets 40 = .ok (.iastore, 1) := by decide +kernel
theorem dX10_sets_41 : decode cX10_sets 41 = .ok (.return_, 1) := by decide +kernel
def kX10_sets_40 (N : Nat)  (s0 : Nat) (s1 : Int32) (s2 : Int32) (m0 : qM) : Option (qM) :=
  (qwI m0 s0 12 s1 s2).bind fun m1 =>
  some m1
set_option maxRecDepth 100000 in
theorem kbX10_sets_40 {E : qE} {N d bc bs : Nat} (hd : 0 ≤ d)  {s0 : Nat} {s1 : Int32} {s2 : Int32} {m0 : qM} : qB E yX10_sets cX10_sets 4 none (fun _ => True) d bc bs 40 [] [.int s2, .int s1, .ref (E.2.1 + s0)] m0 (kX10_sets_40 N s0 s1 s2 m0) (fun b rr => rr = (none, b)) := by
  unfold kX10_sets_40
  refine j_iastore (np := 41) dX10_sets_40 rfl (fun m1 => ?_)
  exact j_vret rfl dX10_sets_41 (fun rr h => h)
def fX10_sets (N : Nat) (v0 : Nat) (v1 : Int32) (v2 : Int32) (v3 : Int32) (m0 : qM) : Option (qM) :=
  (qgR m0 v0 10 17).bind fun x1 =>
  (qgR m0 v0 10 15).bind fun x2 =>
  (qaI m0 x2 12 v1).bind fun x3 =>
  if x3 = 0 then (
  kX10_sets_40 N x1 (((80 : Int32) * v1) + v2) v3.toInt8.toInt32 m0
  ) else (
  (qgR m0 v0 10 15).bind fun x4 =>
  (qaI m0 x4 12 v1).bind fun x5 =>
  if x5 = (1 : Int32) then (
  kX10_sets_40 N x1 (((80 : Int32) * v1) + v2) ((v3.toUInt32 % 65536).toInt32) m0
  ) else (
  kX10_sets_40 N x1 (((80 : Int32) * v1) + v2) v3 m0
  )
  )
set_option maxRecDepth 100000 in
theorem bX10_sets {E : qE} {N d bc bs : Nat} (hd : 0 ≤ d) {v0 : Nat} {v1 : Int32} {v2 : Int32} {v3 : Int32} {m0 : qM} : qB E yX10_sets cX10_sets 4 none (fun _ => True) d bc bs 0 [(0, .ref (E.2.1 + v0)), (1, .int v1), (2, .int v2), (3, .int v3)] [] m0 (fX10_sets N v0 v1 v2 v3 m0) (fun b rr => rr = (none, b)) := by
  unfold fX10_sets
  refine j_aload_n (q := 0) (np := 1) rfl rfl dX10_sets_0 rfl ?_
  refine j_gR (np := 4) flX10_47 dX10_sets_1 rfl (fun x1 => ?_)
  refine j_bipush (np := 6) cb_80 dX10_sets_4 rfl ?_
  refine j_iload_n (q := 1) (np := 7) rfl rfl dX10_sets_6 rfl ?_
  refine j_imul (np := 8) dX10_sets_7 rfl ?_
  refine j_iload_n (q := 2) (np := 9) rfl rfl dX10_sets_8 rfl ?_
  refine j_iadd (np := 10) dX10_sets_9 rfl ?_
  refine j_aload_n (q := 0) (np := 11) rfl rfl dX10_sets_10 rfl ?_
  refine j_gR (np := 14) flX10_41 dX10_sets_11 rfl (fun x2 => ?_)
  refine j_iload_n (q := 1) (np := 15) rfl rfl dX10_sets_14 rfl ?_
  refine j_iaload (np := 16) dX10_sets_15 rfl (fun x3 => ?_)
  refine j_if_ne (tgt := 24) (np := 19) dX10_sets_16 rfl rfl ?_ ?_
  · refine j_aload_n (q := 0) (np := 25) rfl rfl dX10_sets_24 rfl ?_
    refine j_gR (np := 28) flX10_41 dX10_sets_25 rfl (fun x4 => ?_)
    refine j_iload_n (q := 1) (np := 29) rfl rfl dX10_sets_28 rfl ?_
    refine j_iaload (np := 30) dX10_sets_29 rfl (fun x5 => ?_)
    refine j_iconst (np := 31) ci_1 dX10_sets_30 rfl ?_
    refine j_icmp_ne (tgt := 39) (np := 34) dX10_sets_31 rfl rfl ?_ ?_
    · refine j_iload_n (q := 3) (np := 40) rfl rfl dX10_sets_39 rfl ?_
      refine j_sub (lv2 := []) [] rfl ?_
      exact kbX10_sets_40 hd
    · refine j_iload_n (q := 3) (np := 35) rfl rfl dX10_sets_34 rfl ?_
      refine j_i2c (np := 36) dX10_sets_35 rfl ?_
      refine j_goto (tgt := 40) dX10_sets_36 rfl ?_
      refine j_sub (lv2 := []) [] rfl ?_
      exact kbX10_sets_40 hd
  · refine j_iload_n (q := 3) (np := 20) rfl rfl dX10_sets_19 rfl ?_
    refine j_i2b (np := 21) dX10_sets_20 rfl ?_
    refine j_goto (tgt := 40) dX10_sets_21 rfl ?_
    refine j_sub (lv2 := []) [] rfl ?_
    exact kbX10_sets_40 hd
set_option maxRecDepth 100000 in
theorem wX10_sets {E : qE} {N d : Nat} (hd : 0 ≤ d) {v0 : Nat} {v1 : Int32} {v2 : Int32} {v3 : Int32} {m0 : qM} {b : qM} (h : fX10_sets N v0 v1 v2 v3 m0 = some b) : qRun E yX10_sets cX10_sets 4 none d 0 0 [.ref (E.2.1 + v0), .int v1, .int v2, .int v3] m0 (none, b) := q_met pnX10 (Nat.le_of_ble_eq_true rfl) (bX10_sets hd b _ h rfl)
theorem dX10_put_0 : decode cX10_put 0 = .ok (.aload_n 0, 1) := by decide +kernel
theorem dX10_put_1 : decode cX10_put 1 = .ok (.iload_n 1, 1) := by decide +kernel
theorem dX10_put_2 : decode cX10_put 2 = .ok (.invokevirtual 319, 3) := by decide +kernel
theorem dX10_put_5 : decode cX10_put 5 = .ok (.istore 4, 2) := by decide +kernel
theorem dX10_put_7 : decode cX10_put 7 = .ok (.iload 4, 2) := by decide +kernel
theorem dX10_put_9 : decode cX10_put 9 = .ok (.ifCond .ge 6, 3) := by decide +kernel
theorem dX10_put_12 : decode cX10_put 12 = .ok (.iload 4, 2) := by decide +kernel
theorem dX10_put_14 : decode cX10_put 14 = .ok (.ireturn, 1) := by decide +kernel
theorem dX10_put_15 : decode cX10_put 15 = .ok (.iload_n 2, 1) := by decide +kernel
theorem dX10_put_16 : decode cX10_put 16 = .ok (.iconst 0, 1) := by decide +kernel
theorem dX10_put_17 : decode cX10_put 17 = .ok (.aload_n 0, 1) := by decide +kernel
theorem dX10_put_18 : decode cX10_put 18 = .ok (.getfield 44, 3) := by decide +kernel
theorem dX10_put_21 : decode cX10_put 21 = .ok (.iload_n 1, 1) := by decide +kernel
theorem dX10_put_22 : decode cX10_put 22 = .ok (.iaload, 1) := by decide +kernel
theorem dX10_put_23 : decode cX10_put 23 = .ok (.iconst 1, 1) := by decide +kernel
theorem dX10_put_24 : decode cX10_put 24 = .ok (.isub, 1) := by decide +kernel
theorem dX10_put_25 : decode cX10_put 25 = .ok (.invokestatic 99, 3) := by decide +kernel
theorem dX10_put_28 : decode cX10_put 28 = .ok (.ifCond .ne 6, 3) := by decide +kernel
theorem dX10_put_31 : decode cX10_put 31 = .ok (.bipush (-8), 2) := by decide +kernel
theorem dX10_put_33 : decode cX10_put 33 = .ok (.ireturn, 1) := by decide +kernel
theorem dX10_put_34 : decode cX10_put 34 = .ok (.aload_n 0, 1) := by decide +kernel
theorem dX10_put_35 : decode cX10_put 35 = .ok (.iload_n 1, 1) := by decide +kernel
theorem dX10_put_36 : decode cX10_put 36 = .ok (.iload_n 2, 1) := by decide +kernel
theorem dX10_put_37 : decode cX10_put 37 = .ok (.iload_n 3, 1) := by decide +kernel
theorem dX10_put_38 : decode cX10_put 38 = .ok (.invokevirtual 322, 3) := by decide +kernel
theorem dX10_put_41 : decode cX10_put 41 = .ok (.iconst 1, 1) := by decide +kernel
theorem dX10_put_42 : decode cX10_put 42 = .ok (.ireturn, 1) := by decide +kernel
def fX10_put (N : Nat) (v0 : Nat) (v1 : Int32) (v2 : Int32) (v3 : Int32) (m0 : qM) : Option (Int32 × qM) :=
  (qChk m0 v0 10 (fX10_lacks N v0 v1 m0)).bind fun b1 =>
  if 0 ≤ b1.1 then (
  (qgR b1.2 v0 10 16).bind fun x2 =>
  (qaI b1.2 x2 12 v1).bind fun x3 =>
  (fX10_in N v2 (0 : Int32) (x3 - (1 : Int32)) b1.2).bind fun b4 =>
  if b4.1 = 0 then (
  some ((-8 : Int32), b4.2)
  ) else (
  (qChk b4.2 v0 10 (fX10_sets N v0 v1 v2 v3 b4.2)).bind fun b5 =>
  some ((1 : Int32), b5)
  )
  ) else (
  some (b1.1, b1.2)
  )
set_option maxRecDepth 100000 in
theorem bX10_put {E : qE} {N d bc bs : Nat} (hd : 3 ≤ d) {v0 : Nat} {v1 : Int32} {v2 : Int32} {v3 : Int32} {m0 : qM} : qB E yX10_put cX10_put 5 (some .int) (fun _ => True) d bc bs 0 [(0, .ref (E.2.1 + v0)), (1, .int v1), (2, .int v2), (3, .int v3)] [] m0 (fX10_put N v0 v1 v2 v3 m0) (fun b rr => rr = (some (.int b.1), b.2)) := by
  unfold fX10_put
  refine j_aload_n (q := 0) (np := 1) rfl rfl dX10_put_0 rfl ?_
  refine j_iload_n (q := 1) (np := 2) rfl rfl dX10_put_1 rfl ?_
  refine j_callVi (ci := 10) (np := 5) (bc := bc) (bs := bs) (cb := 0) (cs := 0) (dd := d - 1) (As := [.int v1]) (st := []) caX10_lacks mlX10_319 imX10_lacks seX10_lacks rfl rfl (by decide) (fun b hb => wX10_lacks (by omega) hb) (by omega) rfl rfl (Nat.le_of_ble_eq_true rfl) dX10_put_2 rfl (fun b1 => ?_)
  refine j_istore (np := 7) (lv2 := [(4, .int b1.1), (0, .ref (E.2.1 + v0)), (1, .int v1), (2, .int v2), (3, .int v3)]) (by decide) dX10_put_5 rfl rfl ?_
  refine j_iload (q := 0) (np := 9) rfl dX10_put_7 rfl ?_
  refine j_if_ge (tgt := 15) (np := 12) dX10_put_9 rfl rfl ?_ ?_
  · refine j_iload_n (q := 3) (np := 16) rfl rfl dX10_put_15 rfl ?_
    refine j_iconst (np := 17) ci_0 dX10_put_16 rfl ?_
    refine j_aload_n (q := 1) (np := 18) rfl rfl dX10_put_17 rfl ?_
    refine j_gR (np := 21) flX10_44 dX10_put_18 rfl (fun x2 => ?_)
    refine j_iload_n (q := 2) (np := 22) rfl rfl dX10_put_21 rfl ?_
    refine j_iaload (np := 23) dX10_put_22 rfl (fun x3 => ?_)
    refine j_iconst (np := 24) ci_1 dX10_put_23 rfl ?_
    refine j_isub (np := 25) dX10_put_24 rfl ?_
    refine j_callSi (np := 28) (bc := bc) (bs := bs) (cb := 0) (cs := 0) (dd := d - 1) (As := [.int v2, .int (0 : Int32), .int (x3 - (1 : Int32))]) (st := []) caX10_in mlX10_99 stX10_in (fun b hb => wX10_in (by omega) hb) (by omega) rfl rfl (Nat.le_of_ble_eq_true rfl) dX10_put_25 rfl (fun b4 => ?_)
    refine j_if_ne (tgt := 34) (np := 31) dX10_put_28 rfl rfl ?_ ?_
    · refine j_aload_n (q := 1) (np := 35) rfl rfl dX10_put_34 rfl ?_
      refine j_iload_n (q := 2) (np := 36) rfl rfl dX10_put_35 rfl ?_
      refine j_iload_n (q := 3) (np := 37) rfl rfl dX10_put_36 rfl ?_
      refine j_iload_n (q := 4) (np := 38) rfl rfl dX10_put_37 rfl ?_
      refine j_callVv (ci := 10) (np := 41) (bc := bc) (bs := bs) (cb := 0) (cs := 0) (dd := d - 1) (As := [.int v1, .int v2, .int v3]) (st := []) caX10_sets mlX10_322 imX10_sets seX10_sets rfl rfl (by decide) (fun b hb => wX10_sets (by omega) hb) (by omega) rfl rfl (Nat.le_of_ble_eq_true rfl) dX10_put_38 rfl (fun b5 => ?_)
      refine j_iconst (np := 42) ci_1 dX10_put_41 rfl ?_
      exact j_iret rfl dX10_put_42 (fun rr h => h)
    · refine j_bipush (np := 33) cb_m8 dX10_put_31 rfl ?_
      exact j_iret rfl dX10_put_33 (fun rr h => h)
  · refine j_iload (q := 0) (np := 14) rfl dX10_put_12 rfl ?_
    exact j_iret rfl dX10_put_14 (fun rr h => h)
set_option maxRecDepth 100000 in
theorem wX10_put {E : qE} {N d : Nat} (hd : 3 ≤ d) {v0 : Nat} {v1 : Int32} {v2 : Int32} {v3 : Int32} {m0 : qM} {b : Int32 × qM} (h : fX10_put N v0 v1 v2 v3 m0 = some b) : qRun E yX10_put cX10_put 5 (some .int) d 0 0 [.ref (E.2.1 + v0), .int v1, .int v2, .int v3] m0 (some (.int b.1), b.2) := q_met pnX10 (Nat.le_of_ble_eq_true rfl) (bX10_put hd b _ h rfl)
theorem dX10_rowElement_0 : decode cX10_rowElement 0 = .ok (.aload_n 0, 1) := by decide +kernel
theorem dX10_rowElement_1 : decode cX10_rowElement 1 = .ok (.iload_n 1, 1) := by decide +kernel
theorem dX10_rowElement_2 : decode cX10_rowElement 2 = .ok (.invokevirtual 319, 3) := by decide +kernel
theorem dX10_rowElement_5 : decode cX10_rowElement 5 = .ok (.ifCond .lt 19, 3) := by decide +kernel
theorem dX10_rowElement_8 : decode cX10_rowElement 8 = .ok (.iload_n 2, 1) := by decide +kernel
theorem dX10_rowElement_9 : decode cX10_rowElement 9 = .ok (.iconst 0, 1) := by decide +kernel
theorem dX10_rowElement_10 : decode cX10_rowElement 10 = .ok (.aload_n 0, 1) := by decide +kernel
theorem dX10_rowElement_11 : decode cX10_rowElement 11 = .ok (.getfield 44, 3) := by decide +kernel
theorem dX10_rowElement_14 : decode cX10_rowElement 14 = .ok (.iload_n 1, 1) := by decide +kernel
theorem dX10_rowElement_15 : decode cX10_rowElement 15 = .ok (.iaload, 1) := by decide +kernel
theorem dX10_rowElement_16 : decode cX10_rowElement 16 = .ok (.iconst 1, 1) := by decide +kernel
theorem dX10_rowElement_17 : decode cX10_rowElement 17 = .ok (.isub, 1) := by decide +kernel
theorem dX10_rowElement_18 : decode cX10_rowElement 18 = .ok (.invokestatic 99, 3) := by decide +kernel
theorem dX10_rowElement_21 : decode cX10_rowElement 21 = .ok (.ifCond .ne 9, 3) := by decide +kernel
theorem dX10_rowElement_24 : decode cX10_rowElement 24 = .ok (.ldc2_w 328, 3) := by decide +kernel
theorem dX10_rowElement_27 : decode cX10_rowElement 27 = .ok (.goto 15, 3) := by decide +kernel
theorem dX10_rowElement_30 : decode cX10_rowElement 30 = .ok (.aload_n 0, 1) := by decide +kernel
theorem dX10_rowElement_31 : decode cX10_rowElement 31 = .ok (.getfield 47, 3) := by decide +kernel
theorem dX10_rowElement_34 : decode cX10_rowElement 34 = .ok (.bipush 80, 2) := by decide +kernel
theorem dX10_rowElement_36 : decode cX10_rowElement 36 = .ok (.iload_n 1, 1) := by decide +kernel
theorem dX10_rowElement_37 : decode cX10_rowElement 37 = .ok (.imul, 1) := by decide +kernel
theorem dX10_rowElement_38 : decode cX10_rowElement 38 = .ok (.iload_n 2, 1) := by decide +kernel
theorem dX10_rowElement_39 : decode cX10_rowElement 39 = .ok (.iadd, 1) := by decide +kernel
theorem dX10_rowElement_40 : decode cX10_rowElement 40 = .ok (.iaload, 1) := by decide +kernel
theorem dX10_rowElement_41 : decode cX10_rowElement 41 = .ok (.i2l, 1) := by decide +kernel
theorem dX10_rowElement_42 : decode cX10_rowElement 42 = .ok (.lreturn, 1) := by decide +kernel
def fX10_rowElement (N : Nat) (v0 : Nat) (v1 : Int32) (v2 : Int32) (m0 : qM) : Option (Int64 × qM) :=
  (qChk m0 v0 10 (fX10_lacks N v0 v1 m0)).bind fun b1 =>
  if b1.1 < 0 then (
  some ((-9223372036854775808 : Int64), b1.2)
  ) else (
  (qgR b1.2 v0 10 16).bind fun x2 =>
  (qaI b1.2 x2 12 v1).bind fun x3 =>
  (fX10_in N v2 (0 : Int32) (x3 - (1 : Int32)) b1.2).bind fun b4 =>
  if b4.1 = 0 then (
  some ((-9223372036854775808 : Int64), b4.2)
  ) else (
  (qgR b4.2 v0 10 17).bind fun x5 =>
  (qaI b4.2 x5 12 (((80 : Int32) * v1) + v2)).bind fun x6 =>
  some (x6.toInt64, b4.2)
  )
  )
set_option maxRecDepth 100000 in
theorem bX10_rowElement {E : qE} {N d bc bs : Nat} (hd : 3 ≤ d) {v0 : Nat} {v1 : Int32} {v2 : Int32} {m0 : qM} : qB E yX10_rowElement cX10_rowElement 3 (some .long) (fun _ => True) d bc bs 0 [(0, .ref (E.2.1 + v0)), (1, .int v1), (2, .int v2)] [] m0 (fX10_rowElement N v0 v1 v2 m0) (fun b rr => rr = (some (.long b.1), b.2)) := by
  unfold fX10_rowElement
  refine j_aload_n (q := 0) (np := 1) rfl rfl dX10_rowElement_0 rfl ?_
  refine j_iload_n (q := 1) (np := 2) rfl rfl dX10_rowElement_1 rfl ?_
  refine j_callVi (ci := 10) (np := 5) (bc := bc) (bs := bs) (cb := 0) (cs := 0) (dd := d - 1) (As := [.int v1]) (st := []) caX10_lacks mlX10_319 imX10_lacks seX10_lacks rfl rfl (by decide) (fun b hb => wX10_lacks (by omega) hb) (by omega) rfl rfl (Nat.le_of_ble_eq_true rfl) dX10_rowElement_2 rfl (fun b1 => ?_)
  refine j_if_lt (tgt := 24) (np := 8) dX10_rowElement_5 rfl rfl ?_ ?_
  · refine j_ldc2 (np := 27) lgX10_328 dX10_rowElement_24 rfl ?_
    refine j_goto (tgt := 42) dX10_rowElement_27 rfl ?_
    exact j_lret rfl dX10_rowElement_42 (fun rr h => h)
  · refine j_iload_n (q := 2) (np := 9) rfl rfl dX10_rowElement_8 rfl ?_
    refine j_iconst (np := 10) ci_0 dX10_rowElement_9 rfl ?_
    refine j_aload_n (q := 0) (np := 11) rfl rfl dX10_rowElement_10 rfl ?_
    refine j_gR (np := 14) flX10_44 dX10_rowElement_11 rfl (fun x2 => ?_)
    refine j_iload_n (q := 1) (np := 15) rfl rfl dX10_rowElement_14 rfl ?_
    refine j_iaload (np := 16) dX10_rowElement_15 rfl (fun x3 => ?_)
    refine j_iconst (np := 17) ci_1 dX10_rowElement_16 rfl ?_
    refine j_isub (np := 18) dX10_rowElement_17 rfl ?_
    refine j_callSi (np := 21) (bc := bc) (bs := bs) (cb := 0) (cs := 0) (dd := d - 1) (As := [.int v2, .int (0 : Int32), .int (x3 - (1 : Int32))]) (st := []) caX10_in mlX10_99 stX10_in (fun b hb => wX10_in (by omega) hb) (by omega) rfl rfl (Nat.le_of_ble_eq_true rfl) dX10_rowElement_18 rfl (fun b4 => ?_)
    refine j_if_ne (tgt := 30) (np := 24) dX10_rowElement_21 rfl rfl ?_ ?_
    · refine j_aload_n (q := 0) (np := 31) rfl rfl dX10_rowElement_30 rfl ?_
      refine j_gR (np := 34) flX10_47 dX10_rowElement_31 rfl (fun x5 => ?_)
      refine j_bipush (np := 36) cb_80 dX10_rowElement_34 rfl ?_
      refine j_iload_n (q := 1) (np := 37) rfl rfl dX10_rowElement_36 rfl ?_
      refine j_imul (np := 38) dX10_rowElement_37 rfl ?_
      refine j_iload_n (q := 2) (np := 39) rfl rfl dX10_rowElement_38 rfl ?_
      refine j_iadd (np := 40) dX10_rowElement_39 rfl ?_
      refine j_iaload (np := 41) dX10_rowElement_40 rfl (fun x6 => ?_)
      refine j_i2l (np := 42) dX10_rowElement_41 rfl ?_
      exact j_lret rfl dX10_rowElement_42 (fun rr h => h)
    · refine j_ldc2 (np := 27) lgX10_328 dX10_rowElement_24 rfl ?_
      refine j_goto (tgt := 42) dX10_rowElement_27 rfl ?_
      exact j_lret rfl dX10_rowElement_42 (fun rr h => h)
set_option maxRecDepth 100000 in
theorem wX10_rowElement {E : qE} {N d : Nat} (hd : 3 ≤ d) {v0 : Nat} {v1 : Int32} {v2 : Int32} {m0 : qM} {b : Int64 × qM} (h : fX10_rowElement N v0 v1 v2 m0 = some b) : qRun E yX10_rowElement cX10_rowElement 3 (some .long) d 0 0 [.ref (E.2.1 + v0), .int v1, .int v2] m0 (some (.long b.1), b.2) := q_met pnX10 (Nat.le_of_ble_eq_true rfl) (bX10_rowElement hd b _ h rfl)
theorem dX10_storeOutput_0 : decode cX10_storeOutput 0 = .ok (.aload_n 0, 1) := by decide +kernel
theorem dX10_storeOutput_1 : decode cX10_storeOutput 1 = .ok (.iload_n 1, 1) := by decide +kernel
theorem dX10_storeOutput_2 : decode cX10_storeOutput 2 = .ok (.invokevirtual 319, 3) := by decide +kernel
theorem dX10_storeOutput_5 : decode cX10_storeOutput 5 = .ok (.istore_n 3, 1) := by decide +kernel
theorem dX10_storeOutput_6 : decode cX10_storeOutput 6 = .ok (.iload_n 3, 1) := by decide +kernel
theorem dX10_storeOutput_7 : decode cX10_storeOutput 7 = .ok (.ifCond .ge 5, 3) := by decide +kernel
theorem dX10_storeOutput_10 : decode cX10_storeOutput 10 = .ok (.iload_n 3, 1) := by decide +kernel
theorem dX10_storeOutput_11 : decode cX10_storeOutput 11 = .ok (.ireturn, 1) := by decide +kernel
theorem dX10_storeOutput_12 : decode cX10_storeOutput 12 = .ok (.iload_n 2, 1) := by decide +kernel
theorem dX10_storeOutput_13 : decode cX10_storeOutput 13 = .ok (.ifCond .lt 22, 3) := by decide +kernel
theorem dX10_storeOutput_16 : decode cX10_storeOutput 16 = .ok (.iload_n 2, 1) := by decide +kernel
theorem dX10_storeOutput_17 : decode cX10_storeOutput 17 = .ok (.i2l, 1) := by decide +kernel
theorem dX10_storeOutput_18 : decode cX10_storeOutput 18 = .ok (.aload_n 0, 1) := by decide +kernel
theorem dX10_storeOutput_19 : decode cX10_storeOutput 19 = .ok (.getfield 180, 3) := by decide +kernel
theorem dX10_storeOutput_22 : decode cX10_storeOutput 22 = .ok (.i2l, 1) := by decide +kernel
theorem dX10_storeOutput_23 : decode cX10_storeOutput 23 = .ok (.ladd, 1) := by decide +kernel
theorem dX10_storeOutput_24 : decode cX10_storeOutput 24 = .ok (.aload_n 0, 1) := by decide +kernel
theorem dX10_storeOutput_25 : decode cX10_storeOutput 25 = .ok (.getfield 44, 3) := by decide +kernel
theorem dX10_storeOutput_28 : decode cX10_storeOutput 28 = .ok (.iload_n 1, 1) := by decide +kernel
theorem dX10_storeOutput_29 : decode cX10_storeOutput 29 = .ok (.iaload, 1) := by decide +kernel
theorem dX10_storeOutput_30 : decode cX10_storeOutput 30 = .ok (.i2l, 1) := by decide +kernel
theorem dX10_storeOutput_31 : decode cX10_storeOutput 31 = .ok (.lcmp, 1) := by decide +kernel
theorem dX10_storeOutput_32 : decode cX10_storeOutput 32 = .ok (.ifCond .le 6, 3) := by decide +kernel
theorem dX10_storeOutput_35 : decode cX10_storeOutput 35 = .ok (.bipush (-8), 2) := by decide +kernel
theorem dX10_storeOutput_37 : decode cX10_storeOutput 37 = .ok (.ireturn, 1) := by decide +kernel
theorem dX10_storeOutput_38 : decode cX10_storeOutput 38 = .ok (.iconst 0, 1) := by decide +kernel
theorem dX10_storeOutput_39 : decode cX10_storeOutput 39 = .ok (.istore 4, 2) := by decide +kernel
theorem dX10_storeOutput_41 : decode cX10_storeOutput 41 = .ok (.iload 4, 2) := by decide +kernel
theorem dX10_storeOutput_43 : decode cX10_storeOutput 43 = .ok (.aload_n 0, 1) := by decide +kernel
theorem dX10_storeOutput_44 : decode cX10_storeOutput 44 = .ok (.getfield 180, 3) := by decide +kernel
theorem dX10_storeOutput_47 : decode cX10_storeOutput 47 = .ok (.if_icmp .ge 25, 3) := by decide +kernel
theorem dX10_storeOutput_50 : decode cX10_storeOutput 50 = .ok (.aload_n 0, 1) := by decide +kernel
theorem dX10_storeOutput_51 : decode cX10_storeOutput 51 = .ok (.iload_n 1, 1) := by decide +kernel
theorem dX10_storeOutput_52 : decode cX10_storeOutput 52 = .ok (.iload_n 2, 1) := by decide +kernel
theorem dX10_storeOutput_53 : decode cX10_storeOutput 53 = .ok (.iload 4, 2) := by decide +kernel
theorem dX10_storeOutput_55 : decode cX10_storeOutput 55 = .ok (.iadd, 1) := by decide +kernel
theorem dX10_storeOutput_56 : decode cX10_storeOutput 56 = .ok (.aload_n 0, 1) := by decide +kernel
theorem dX10_storeOutput_57 : decode cX10_storeOutput 57 = .ok (.getfield 28, 3) := by decide +kernel
theorem dX10_storeOutput_60 : decode cX10_storeOutput 60 = .ok (.iload 4, 2) := by decide +kernel
theorem dX10_storeOutput_62 : decode cX10_storeOutput 62 = .ok (.iaload, 1) := by decide +kernel
theorem dX10_storeOutput_63 : decode cX10_storeOutput 63 = .ok (.invokevirtual 322, 3) := by decide +kernel
theorem dX10_storeOutput_66 : decode cX10_storeOutput 66 = .ok (.iinc 4 1, 3) := by decide +kernel
theorem dX10_storeOutput_69 : decode cX10_storeOutput 69 = .ok (.goto (-28), 3) := by decide +kernel
theorem dX10_storeOutput_72 : decode cX10_storeOutput 72 = .ok (.aload_n 0, 1) := by decide +kernel
theorem dX10_storeOutput_73 : decode cX10_storeOutput 73 = .ok (.getfield 180, 3) := by decide +kernel
theorem dX10_storeOutput_76 : decode cX10_storeOutput 76 = .ok (.ireturn, 1) := by decide +kernel
def lX10_storeOutput_41 (N : Nat) (v0 : Nat) (v1 : Int32) (v2 : Int32) : Nat → Int32 → qM → Option (qM)
  | 0, _, _ => none
  | n + 1, v4, m0 =>
    (qgI m0 v0 10 11).bind fun x1 =>
    if x1 ≤ v4 then (
    some m0
    ) else (
    (qgR m0 v0 10 10).bind fun x2 =>
    (qaI m0 x2 12 v4).bind fun x3 =>
    (qChk m0 v0 10 (fX10_sets N v0 v1 (v2 + v4) x3 m0)).bind fun b4 =>
    lX10_storeOutput_41 N v0 v1 v2 n (v4 + (1 : Int32)) b4
    )
set_option maxRecDepth 100000 in
theorem lbX10_storeOutput_41 {E : qE} {N d bc bs : Nat} (hd : 3 ≤ d) {v0 : Nat} {v1 : Int32} {v2 : Int32} : ∀ (n : Nat) (v4 : Int32) (m0 : qM), qB E yX10_storeOutput cX10_storeOutput 5 (some .int) (fun _ => True) d bc bs 41 [(0, .ref (E.2.1 + v0)), (1, .int v1), (2, .int v2), (4, .int v4)] [] m0 (lX10_storeOutput_41 N v0 v1 v2 n v4 m0) (fun o rr => qJ E yX10_storeOutput cX10_storeOutput 5 (some .int) (fun _ => True) d bc bs 72 [(0, .ref (E.2.1 + v0))] [] o rr) := by
  intro n
  induction n with
  | zero =>
    intro v4 m0
    exact j_none
  | succ n ih =>
    intro v4 m0
    unfold lX10_storeOutput_41
    refine j_iload (q := 3) (np := 43) rfl dX10_storeOutput_41 rfl ?_
    refine j_aload_n (q := 0) (np := 44) rfl rfl dX10_storeOutput_43 rfl ?_
    refine j_gI (np := 47) flX10_180 dX10_storeOutput_44 rfl (fun x1 => ?_)
    refine j_icmp_ge (tgt := 72) (np := 50) dX10_storeOutput_47 rfl rfl ?_ ?_
    · refine j_sub (lv2 := [(0, .ref (E.2.1 + v0))]) [0] rfl ?_
      exact j_exit (fun rr h => h)
    · refine j_aload_n (q := 0) (np := 51) rfl rfl dX10_storeOutput_50 rfl ?_
      refine j_iload_n (q := 1) (np := 52) rfl rfl dX10_storeOutput_51 rfl ?_
      refine j_iload_n (q := 2) (np := 53) rfl rfl dX10_storeOutput_52 rfl ?_
      refine j_iload (q := 3) (np := 55) rfl dX10_storeOutput_53 rfl ?_
      refine j_iadd (np := 56) dX10_storeOutput_55 rfl ?_
      refine j_aload_n (q := 0) (np := 57) rfl rfl dX10_storeOutput_56 rfl ?_
      refine j_gR (np := 60) flX10_28 dX10_storeOutput_57 rfl (fun x2 => ?_)
      refine j_iload (q := 3) (np := 62) rfl dX10_storeOutput_60 rfl ?_
      refine j_iaload (np := 63) dX10_storeOutput_62 rfl (fun x3 => ?_)
      refine j_callVv (ci := 10) (np := 66) (bc := bc) (bs := bs) (cb := 0) (cs := 0) (dd := d - 1) (As := [.int v1, .int (v2 + v4), .int x3]) (st := []) caX10_sets mlX10_322 imX10_sets seX10_sets rfl rfl (by decide) (fun b hb => wX10_sets (by omega) hb) (by omega) rfl rfl (Nat.le_of_ble_eq_true rfl) dX10_storeOutput_63 rfl (fun b4 => ?_)
      refine j_iinc (q := 3) (np := 69) (lv2 := [(4, .int (v4 + (1 : Int32))), (0, .ref (E.2.1 + v0)), (1, .int v1), (2, .int v2)]) rfl (congrArg _ ci_1) (by decide) dX10_storeOutput_66 rfl rfl ?_
      refine j_goto (tgt := 41) dX10_storeOutput_69 rfl ?_
      refine j_sub (lv2 := [(0, .ref (E.2.1 + v0)), (1, .int v1), (2, .int v2), (4, .int (v4 + (1 : Int32)))]) [1, 2, 3, 0] rfl ?_
      exact ih _ _
def fX10_storeOutput (N : Nat) (v0 : Nat) (v1 : Int32) (v2 : Int32) (m0 : qM) : Option (Int32 × qM) :=
  (qChk m0 v0 10 (fX10_lacks N v0 v1 m0)).bind fun b1 =>
  if 0 ≤ b1.1 then (
  if v2 < 0 then (
  some ((-8 : Int32), b1.2)
  ) else (
  (qgI b1.2 v0 10 11).bind fun x2 =>
  (qgR b1.2 v0 10 16).bind fun x3 =>
  (qaI b1.2 x3 12 v1).bind fun x4 =>
  if lg_cmp (v2.toInt64 + x2.toInt64) x4.toInt64 ≤ 0 then (
  (lX10_storeOutput_41 N v0 v1 v2 N (0 : Int32) b1.2).bind fun o5 =>
  (qgI o5 v0 10 11).bind fun x6 =>
  some (x6, o5)
  ) else (
  some ((-8 : Int32), b1.2)
  )
  )
  ) else (
  some (b1.1, b1.2)
  )
set_option maxRecDepth 100000 in
theorem bX10_storeOutput {E : qE} {N d bc bs : Nat} (hd : 3 ≤ d) {v0 : Nat} {v1 : Int32} {v2 : Int32} {m0 : qM} : qB E yX10_storeOutput cX10_storeOutput 5 (some .int) (fun _ => True) d bc bs 0 [(0, .ref (E.2.1 + v0)), (1, .int v1), (2, .int v2)] [] m0 (fX10_storeOutput N v0 v1 v2 m0) (fun b rr => rr = (some (.int b.1), b.2)) := by
  unfold fX10_storeOutput
  refine j_aload_n (q := 0) (np := 1) rfl rfl dX10_storeOutput_0 rfl ?_
  refine j_iload_n (q := 1) (np := 2) rfl rfl dX10_storeOutput_1 rfl ?_
  refine j_callVi (ci := 10) (np := 5) (bc := bc) (bs := bs) (cb := 0) (cs := 0) (dd := d - 1) (As := [.int v1]) (st := []) caX10_lacks mlX10_319 imX10_lacks seX10_lacks rfl rfl (by decide) (fun b hb => wX10_lacks (by omega) hb) (by omega) rfl rfl (Nat.le_of_ble_eq_true rfl) dX10_storeOutput_2 rfl (fun b1 => ?_)
  refine j_istore_n (np := 6) (lv2 := [(3, .int b1.1), (0, .ref (E.2.1 + v0)), (1, .int v1), (2, .int v2)]) rfl (by decide) dX10_storeOutput_5 rfl rfl ?_
  refine j_iload_n (q := 0) (np := 7) rfl rfl dX10_storeOutput_6 rfl ?_
  refine j_if_ge (tgt := 12) (np := 10) dX10_storeOutput_7 rfl rfl ?_ ?_
  · refine j_iload_n (q := 3) (np := 13) rfl rfl dX10_storeOutput_12 rfl ?_
    refine j_if_lt (tgt := 35) (np := 16) dX10_storeOutput_13 rfl rfl ?_ ?_
    · refine j_bipush (np := 37) cb_m8 dX10_storeOutput_35 rfl ?_
      exact j_iret rfl dX10_storeOutput_37 (fun rr h => h)
    · refine j_iload_n (q := 3) (np := 17) rfl rfl dX10_storeOutput_16 rfl ?_
      refine j_i2l (np := 18) dX10_storeOutput_17 rfl ?_
      refine j_aload_n (q := 1) (np := 19) rfl rfl dX10_storeOutput_18 rfl ?_
      refine j_gI (np := 22) flX10_180 dX10_storeOutput_19 rfl (fun x2 => ?_)
      refine j_i2l (np := 23) dX10_storeOutput_22 rfl ?_
      refine j_ladd (np := 24) dX10_storeOutput_23 rfl ?_
      refine j_aload_n (q := 1) (np := 25) rfl rfl dX10_storeOutput_24 rfl ?_
      refine j_gR (np := 28) flX10_44 dX10_storeOutput_25 rfl (fun x3 => ?_)
      refine j_iload_n (q := 2) (np := 29) rfl rfl dX10_storeOutput_28 rfl ?_
      refine j_iaload (np := 30) dX10_storeOutput_29 rfl (fun x4 => ?_)
      refine j_i2l (np := 31) dX10_storeOutput_30 rfl ?_
      refine j_lcmp (np := 32) dX10_storeOutput_31 rfl ?_
      refine j_if_le (tgt := 38) (np := 35) dX10_storeOutput_32 rfl rfl ?_ ?_
      · refine j_iconst (np := 39) ci_0 dX10_storeOutput_38 rfl ?_
        refine j_istore (np := 41) (lv2 := [(4, .int (0 : Int32)), (3, .int b1.1), (0, .ref (E.2.1 + v0)), (1, .int v1), (2, .int v2)]) (by decide) dX10_storeOutput_39 rfl rfl ?_
        refine j_sub (lv2 := [(0, .ref (E.2.1 + v0)), (1, .int v1), (2, .int v2), (4, .int (0 : Int32))]) [2, 3, 4, 0] rfl ?_
        refine j_loop (xp := 72) (lvX := fun o5 => [(0, .ref (E.2.1 + v0))]) (mX := fun o5 => o5) (lbX10_storeOutput_41 hd _ _ _) (fun o5 => ?_)
        refine j_aload_n (q := 0) (np := 73) rfl rfl dX10_storeOutput_72 rfl ?_
        refine j_gI (np := 76) flX10_180 dX10_storeOutput_73 rfl (fun x6 => ?_)
        exact j_iret rfl dX10_storeOutput_76 (fun rr h => h)
      · refine j_bipush (np := 37) cb_m8 dX10_storeOutput_35 rfl ?_
        exact j_iret rfl dX10_storeOutput_37 (fun rr h => h)
  · refine j_iload_n (q := 0) (np := 11) rfl rfl dX10_storeOutput_10 rfl ?_
    exact j_iret rfl dX10_storeOutput_11 (fun rr h => h)
set_option maxRecDepth 100000 in
theorem wX10_storeOutput {E : qE} {N d : Nat} (hd : 3 ≤ d) {v0 : Nat} {v1 : Int32} {v2 : Int32} {m0 : qM} {b : Int32 × qM} (h : fX10_storeOutput N v0 v1 v2 m0 = some b) : qRun E yX10_storeOutput cX10_storeOutput 5 (some .int) d 0 0 [.ref (E.2.1 + v0), .int v1, .int v2] m0 (some (.int b.1), b.2) := q_met pnX10 (Nat.le_of_ble_eq_true rfl) (bX10_storeOutput hd b _ h rfl)
theorem dX10_loadText_0 : decode cX10_loadText 0 = .ok (.aload_n 0, 1) := by decide +kernel
theorem dX10_loadText_1 : decode cX10_loadText 1 = .ok (.iload_n 1, 1) := by decide +kernel
theorem dX10_loadText_2 : decode cX10_loadText 2 = .ok (.invokevirtual 319, 3) := by decide +kernel
theorem dX10_loadText_5 : decode cX10_loadText 5 = .ok (.istore 4, 2) := by decide +kernel
theorem dX10_loadText_7 : decode cX10_loadText 7 = .ok (.iload 4, 2) := by decide +kernel
theorem dX10_loadText_9 : decode cX10_loadText 9 = .ok (.ifCond .ge 6, 3) := by decide +kernel
theorem dX10_loadText_12 : decode cX10_loadText 12 = .ok (.iload 4, 2) := by decide +kernel
theorem dX10_loadText_14 : decode cX10_loadText 14 = .ok (.ireturn, 1) := by decide +kernel
theorem dX10_loadText_15 : decode cX10_loadText 15 = .ok (.iload_n 2, 1) := by decide +kernel
theorem dX10_loadText_16 : decode cX10_loadText 16 = .ok (.ifCond .lt 23, 3) := by decide +kernel
theorem dX10_loadText_19 : decode cX10_loadText 19 = .ok (.iload_n 3, 1) := by decide +kernel
theorem dX10_loadText_20 : decode cX10_loadText 20 = .ok (.ifCond .lt 19, 3) := by decide +kernel
theorem dX10_loadText_23 : decode cX10_loadText 23 = .ok (.iload_n 2, 1) := by decide +kernel
theorem dX10_loadText_24 : decode cX10_loadText 24 = .ok (.i2l, 1) := by decide +kernel
theorem dX10_loadText_25 : decode cX10_loadText 25 = .ok (.iload_n 3, 1) := by decide +kernel
theorem dX10_loadText_26 : decode cX10_loadText 26 = .ok (.i2l, 1) := by decide +kernel
theorem dX10_loadText_27 : decode cX10_loadText 27 = .ok (.ladd, 1) := by decide +kernel
theorem dX10_loadText_28 : decode cX10_loadText 28 = .ok (.aload_n 0, 1) := by decide +kernel
theorem dX10_loadText_29 : decode cX10_loadText 29 = .ok (.getfield 44, 3) := by decide +kernel
theorem dX10_loadText_32 : decode cX10_loadText 32 = .ok (.iload_n 1, 1) := by decide +kernel
theorem dX10_loadText_33 : decode cX10_loadText 33 = .ok (.iaload, 1) := by decide +kernel
theorem dX10_loadText_34 : decode cX10_loadText 34 = .ok (.i2l, 1) := by decide +kernel
theorem dX10_loadText_35 : decode cX10_loadText 35 = .ok (.lcmp, 1) := by decide +kernel
theorem dX10_loadText_36 : decode cX10_loadText 36 = .ok (.ifCond .le 6, 3) := by decide +kernel
theorem dX10_loadText_39 : decode cX10_loadText 39 = .ok (.bipush (-8), 2) := by decide +kernel
theorem dX10_loadText_41 : decode cX10_loadText 41 = .ok (.ireturn, 1) := by decide +kernel
theorem dX10_loadText_42 : decode cX10_loadText 42 = .ok (.iconst 0, 1) := by decide +kernel
theorem dX10_loadText_43 : decode cX10_loadText 43 = .ok (.istore 5, 2) := by decide +kernel
theorem dX10_loadText_45 : decode cX10_loadText 45 = .ok (.iload 5, 2) := by decide +kernel
theorem dX10_loadText_47 : decode cX10_loadText 47 = .ok (.iload_n 3, 1) := by decide +kernel
theorem dX10_loadText_48 : decode cX10_loadText 48 = .ok (.if_icmp .ge 30, 3) := by decide +kernel
theorem dX10_loadText_51 : decode cX10_loadText 51 = .ok (.aload_n 0, 1) := by decide +kernel
theorem dX10_loadText_52 : decode cX10_loadText 52 = .ok (.aload_n 0, 1) := by decide +kernel
theorem dX10_loadText_53 : decode cX10_loadText 53 = .ok (.getfield 47, 3) := by decide +kernel
theorem dX10_loadText_56 : decode cX10_loadText 56 = .ok (.bipush 80, 2) := by decide +kernel
theorem dX10_loadText_58 : decode cX10_loadText 58 = .ok (.iload_n 1, 1) := by decide +kernel
theorem dX10_loadText_59 : decode cX10_loadText 59 = .ok (.imul, 1) := by decide +kernel
theorem dX10_loadText_60 : decode cX10_loadText 60 = .ok (.iload_n 2, 1) := by decide +kernel
theorem dX10_loadText_61 : decode cX10_loadText 61 = .ok (.iadd, 1) := by decide +kernel
theorem dX10_loadText_62 : decode cX10_loadText 62 = .ok (.iload 5, 2) := by decide +kernel
theorem dX10_loadText_64 : decode cX10_loadText 64 = .ok (.iadd, 1) := by decide +kernel
theorem dX10_loadText_65 : decode cX10_loadText 65 = .ok (.iaload, 1) := by decide +kernel
theorem dX10_loadText_66 : decode cX10_loadText 66 = .ok (.invokevirtual 330, 3) := by decide +kernel
theorem dX10_loadText_69 : decode cX10_loadText 69 = .ok (.ifCond .le 9, 3) := by decide +kernel
theorem dX10_loadText_72 : decode cX10_loadText 72 = .ok (.iinc 5 1, 3) := by decide +kernel
theorem dX10_loadText_75 : decode cX10_loadText 75 = .ok (.goto (-30), 3) := by decide +kernel
theorem dX10_loadText_78 : decode cX10_loadText 78 = .ok (.iload 5, 2) := by decide +kernel
theorem dX10_loadText_80 : decode cX10_loadText 80 = .ok (.ireturn, 1) := by decide +kernel
def lX10_loadText_45 (N : Nat) (v0 : Nat) (v1 : Int32) (v2 : Int32) (v3 : Int32) : Nat → Int32 → qM → Option (Int32 × qM)
  | 0, _, _ => none
  | n + 1, v5, m0 =>
    if v3 ≤ v5 then (
    some (v5, m0)
    ) else (
    (qgR m0 v0 10 17).bind fun x1 =>
    (qaI m0 x1 12 ((((80 : Int32) * v1) + v2) + v5)).bind fun x2 =>
    (qChk m0 v0 10 (fX10_append N v0 x2 m0)).bind fun b3 =>
    if b3.1 ≤ 0 then (
    some (v5, b3.2)
    ) else (
    lX10_loadText_45 N v0 v1 v2 v3 n (v5 + (1 : Int32)) b3.2
    )
    )
set_option maxRecDepth 100000 in
theorem lbX10_loadText_45 {E : qE} {N d bc bs : Nat} (hd : 3 ≤ d) {v0 : Nat} {v1 : Int32} {v2 : Int32} {v3 : Int32} : ∀ (n : Nat) (v5 : Int32) (m0 : qM), qB E yX10_loadText cX10_loadText 6 (some .int) (fun _ => True) d bc bs 45 [(0, .ref (E.2.1 + v0)), (1, .int v1), (2, .int v2), (3, .int v3), (5, .int v5)] [] m0 (lX10_loadText_45 N v0 v1 v2 v3 n v5 m0) (fun o rr => qJ E yX10_loadText cX10_loadText 6 (some .int) (fun _ => True) d bc bs 78 [(5, .int o.1)] [] o.2 rr) := by
  intro n
  induction n with
  | zero =>
    intro v5 m0
    exact j_none
  | succ n ih =>
    intro v5 m0
    unfold lX10_loadText_45
    refine j_iload (q := 4) (np := 47) rfl dX10_loadText_45 rfl ?_
    refine j_iload_n (q := 3) (np := 48) rfl rfl dX10_loadText_47 rfl ?_
    refine j_icmp_ge (tgt := 78) (np := 51) dX10_loadText_48 rfl rfl ?_ ?_
    · refine j_sub (lv2 := [(5, .int v5)]) [4] rfl ?_
      exact j_exit (fun rr h => h)
    · refine j_aload_n (q := 0) (np := 52) rfl rfl dX10_loadText_51 rfl ?_
      refine j_aload_n (q := 0) (np := 53) rfl rfl dX10_loadText_52 rfl ?_
      refine j_gR (np := 56) flX10_47 dX10_loadText_53 rfl (fun x1 => ?_)
      refine j_bipush (np := 58) cb_80 dX10_loadText_56 rfl ?_
      refine j_iload_n (q := 1) (np := 59) rfl rfl dX10_loadText_58 rfl ?_
      refine j_imul (np := 60) dX10_loadText_59 rfl ?_
      refine j_iload_n (q := 2) (np := 61) rfl rfl dX10_loadText_60 rfl ?_
      refine j_iadd (np := 62) dX10_loadText_61 rfl ?_
      refine j_iload (q := 4) (np := 64) rfl dX10_loadText_62 rfl ?_
      refine j_iadd (np := 65) dX10_loadText_64 rfl ?_
      refine j_iaload (np := 66) dX10_loadText_65 rfl (fun x2 => ?_)
      refine j_callVi (ci := 10) (np := 69) (bc := bc) (bs := bs) (cb := 0) (cs := 0) (dd := d - 1) (As := [.int x2]) (st := []) caX10_append mlX10_330 imX10_append seX10_append rfl rfl (by decide) (fun b hb => wX10_append (by omega) hb) (by omega) rfl rfl (Nat.le_of_ble_eq_true rfl) dX10_loadText_66 rfl (fun b3 => ?_)
      refine j_if_le (tgt := 78) (np := 72) dX10_loadText_69 rfl rfl ?_ ?_
      · refine j_sub (lv2 := [(5, .int v5)]) [4] rfl ?_
        exact j_exit (fun rr h => h)
      · refine j_iinc (q := 4) (np := 75) (lv2 := [(5, .int (v5 + (1 : Int32))), (0, .ref (E.2.1 + v0)), (1, .int v1), (2, .int v2), (3, .int v3)]) rfl (congrArg _ ci_1) (by decide) dX10_loadText_72 rfl rfl ?_
        refine j_goto (tgt := 45) dX10_loadText_75 rfl ?_
        refine j_sub (lv2 := [(0, .ref (E.2.1 + v0)), (1, .int v1), (2, .int v2), (3, .int v3), (5, .int (v5 + (1 : Int32)))]) [1, 2, 3, 4, 0] rfl ?_
        exact ih _ _
def fX10_loadText (N : Nat) (v0 : Nat) (v1 : Int32) (v2 : Int32) (v3 : Int32) (m0 : qM) : Option (Int32 × qM) :=
  (qChk m0 v0 10 (fX10_lacks N v0 v1 m0)).bind fun b1 =>
  if 0 ≤ b1.1 then (
  if v2 < 0 then (
  some ((-8 : Int32), b1.2)
  ) else (
  if v3 < 0 then (
  some ((-8 : Int32), b1.2)
  ) else (
  (qgR b1.2 v0 10 16).bind fun x2 =>
  (qaI b1.2 x2 12 v1).bind fun x3 =>
  if lg_cmp (v2.toInt64 + v3.toInt64) x3.toInt64 ≤ 0 then (
  (lX10_loadText_45 N v0 v1 v2 v3 N (0 : Int32) b1.2).bind fun o4 =>
  some (o4.1, o4.2)
  ) else (
  some ((-8 : Int32), b1.2)
  )
  )
  )
  ) else (
  some (b1.1, b1.2)
  )
set_option maxRecDepth 100000 in
theorem bX10_loadText {E : qE} {N d bc bs : Nat} (hd : 3 ≤ d) {v0 : Nat} {v1 : Int32} {v2 : Int32} {v3 : Int32} {m0 : qM} : qB E yX10_loadText cX10_loadText 6 (some .int) (fun _ => True) d bc bs 0 [(0, .ref (E.2.1 + v0)), (1, .int v1), (2, .int v2), (3, .int v3)] [] m0 (fX10_loadText N v0 v1 v2 v3 m0) (fun b rr => rr = (some (.int b.1), b.2)) := by
  unfold fX10_loadText
  refine j_aload_n (q := 0) (np := 1) rfl rfl dX10_loadText_0 rfl ?_
  refine j_iload_n (q := 1) (np := 2) rfl rfl dX10_loadText_1 rfl ?_
  refine j_callVi (ci := 10) (np := 5) (bc := bc) (bs := bs) (cb := 0) (cs := 0) (dd := d - 1) (As := [.int v1]) (st := []) caX10_lacks mlX10_319 imX10_lacks seX10_lacks rfl rfl (by decide) (fun b hb => wX10_lacks (by omega) hb) (by omega) rfl rfl (Nat.le_of_ble_eq_true rfl) dX10_loadText_2 rfl (fun b1 => ?_)
  refine j_istore (np := 7) (lv2 := [(4, .int b1.1), (0, .ref (E.2.1 + v0)), (1, .int v1), (2, .int v2), (3, .int v3)]) (by decide) dX10_loadText_5 rfl rfl ?_
  refine j_iload (q := 0) (np := 9) rfl dX10_loadText_7 rfl ?_
  refine j_if_ge (tgt := 15) (np := 12) dX10_loadText_9 rfl rfl ?_ ?_
  · refine j_iload_n (q := 3) (np := 16) rfl rfl dX10_loadText_15 rfl ?_
    refine j_if_lt (tgt := 39) (np := 19) dX10_loadText_16 rfl rfl ?_ ?_
    · refine j_bipush (np := 41) cb_m8 dX10_loadText_39 rfl ?_
      exact j_iret rfl dX10_loadText_41 (fun rr h => h)
    · refine j_iload_n (q := 4) (np := 20) rfl rfl dX10_loadText_19 rfl ?_
      refine j_if_lt (tgt := 39) (np := 23) dX10_loadText_20 rfl rfl ?_ ?_
      · refine j_bipush (np := 41) cb_m8 dX10_loadText_39 rfl ?_
        exact j_iret rfl dX10_loadText_41 (fun rr h => h)
      · refine j_iload_n (q := 3) (np := 24) rfl rfl dX10_loadText_23 rfl ?_
        refine j_i2l (np := 25) dX10_loadText_24 rfl ?_
        refine j_iload_n (q := 4) (np := 26) rfl rfl dX10_loadText_25 rfl ?_
        refine j_i2l (np := 27) dX10_loadText_26 rfl ?_
        refine j_ladd (np := 28) dX10_loadText_27 rfl ?_
        refine j_aload_n (q := 1) (np := 29) rfl rfl dX10_loadText_28 rfl ?_
        refine j_gR (np := 32) flX10_44 dX10_loadText_29 rfl (fun x2 => ?_)
        refine j_iload_n (q := 2) (np := 33) rfl rfl dX10_loadText_32 rfl ?_
        refine j_iaload (np := 34) dX10_loadText_33 rfl (fun x3 => ?_)
        refine j_i2l (np := 35) dX10_loadText_34 rfl ?_
        refine j_lcmp (np := 36) dX10_loadText_35 rfl ?_
        refine j_if_le (tgt := 42) (np := 39) dX10_loadText_36 rfl rfl ?_ ?_
        · refine j_iconst (np := 43) ci_0 dX10_loadText_42 rfl ?_
          refine j_istore (np := 45) (lv2 := [(5, .int (0 : Int32)), (4, .int b1.1), (0, .ref (E.2.1 + v0)), (1, .int v1), (2, .int v2), (3, .int v3)]) (by decide) dX10_loadText_43 rfl rfl ?_
          refine j_sub (lv2 := [(0, .ref (E.2.1 + v0)), (1, .int v1), (2, .int v2), (3, .int v3), (5, .int (0 : Int32))]) [2, 3, 4, 5, 0] rfl ?_
          refine j_loop (xp := 78) (lvX := fun o4 => [(5, .int o4.1)]) (mX := fun o4 => o4.2) (lbX10_loadText_45 hd _ _ _) (fun o4 => ?_)
          refine j_iload (q := 0) (np := 80) rfl dX10_loadText_78 rfl ?_
          exact j_iret rfl dX10_loadText_80 (fun rr h => h)
        · refine j_bipush (np := 41) cb_m8 dX10_loadText_39 rfl ?_
          exact j_iret rfl dX10_loadText_41 (fun rr h => h)
  · refine j_iload (q := 0) (np := 14) rfl dX10_loadText_12 rfl ?_
    exact j_iret rfl dX10_loadText_14 (fun rr h => h)
set_option maxRecDepth 100000 in
theorem wX10_loadText {E : qE} {N d : Nat} (hd : 3 ≤ d) {v0 : Nat} {v1 : Int32} {v2 : Int32} {v3 : Int32} {m0 : qM} {b : Int32 × qM} (h : fX10_loadText N v0 v1 v2 v3 m0 = some b) : qRun E yX10_loadText cX10_loadText 6 (some .int) d 0 0 [.ref (E.2.1 + v0), .int v1, .int v2, .int v3] m0 (some (.int b.1), b.2) := q_met pnX10 (Nat.le_of_ble_eq_true rfl) (bX10_loadText hd b _ h rfl)
