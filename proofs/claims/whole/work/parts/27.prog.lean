theorem dX10_isValue_0 : decode cX10_isValue 0 = .ok (.iload_n 0, 1) := by decide +kernel
theorem dX10_isValue_1 : decode cX10_isValue 1 = .ok (.iconst 0, 1) := by decide +kernel
theorem dX10_isValue_2 : decode cX10_isValue 2 = .ok (.iconst 2, 1) := by decide +kernel
theorem dX10_isValue_3 : decode cX10_isValue 3 = .ok (.invokestatic 99, 3) := by decide +kernel
theorem dX10_isValue_6 : decode cX10_isValue 6 = .ok (.ireturn, 1) := by decide +kernel
def fX10_isValue (N : Nat) (v0 : Int32) (m0 : qM) : Option (Int32 × qM) :=
  (fX10_in N v0 (0 : Int32) (2 : Int32) m0).bind fun b1 =>
  some (b1.1 &&& 1, b1.2)
set_option maxRecDepth 100000 in
theorem bX10_isValue {E : qE} {N d bc bs : Nat} (hd : 1 ≤ d) {v0 : Int32} {m0 : qM} : qB E yX10_isValue cX10_isValue 1 (some .boolean) (fun _ => True) d bc bs 0 [(0, .int v0)] [] m0 (fX10_isValue N v0 m0) (fun b rr => rr = (some (.int b.1), b.2)) := by
  unfold fX10_isValue
  refine j_iload_n (q := 0) (np := 1) rfl rfl dX10_isValue_0 rfl ?_
  refine j_iconst (np := 2) ci_0 dX10_isValue_1 rfl ?_
  refine j_iconst (np := 3) ci_2 dX10_isValue_2 rfl ?_
  refine j_callSi (np := 6) (bc := bc) (bs := bs) (cb := 0) (cs := 0) (dd := d - 1) (As := [.int v0, .int (0 : Int32), .int (2 : Int32)]) (st := []) caX10_in mlX10_99 stX10_in (fun b hb => wX10_in (by omega) hb) (by omega) rfl rfl (Nat.le_of_ble_eq_true rfl) dX10_isValue_3 rfl (fun b1 => ?_)
  exact j_zret rfl dX10_isValue_6 (fun rr h => h)
set_option maxRecDepth 100000 in
theorem wX10_isValue {E : qE} {N d : Nat} (hd : 1 ≤ d) {v0 : Int32} {m0 : qM} {b : Int32 × qM} (h : fX10_isValue N v0 m0 = some b) : qRun E yX10_isValue cX10_isValue 1 (some .boolean) d 0 0 [.int v0] m0 (some (.int b.1), b.2) := q_met pnX10 (Nat.le_of_ble_eq_true rfl) (bX10_isValue hd b _ h rfl)
theorem dX10_isDesignated_0 : decode cX10_isDesignated 0 = .ok (.aload_n 0, 1) := by decide +kernel
theorem dX10_isDesignated_1 : decode cX10_isDesignated 1 = .ok (.getfield 34, 3) := by decide +kernel
theorem dX10_isDesignated_4 : decode cX10_isDesignated 4 = .ok (.iload_n 1, 1) := by decide +kernel
theorem dX10_isDesignated_5 : decode cX10_isDesignated 5 = .ok (.ishr, 1) := by decide +kernel
theorem dX10_isDesignated_6 : decode cX10_isDesignated 6 = .ok (.iconst 1, 1) := by decide +kernel
theorem dX10_isDesignated_7 : decode cX10_isDesignated 7 = .ok (.iand, 1) := by decide +kernel
theorem dX10_isDesignated_8 : decode cX10_isDesignated 8 = .ok (.iconst 1, 1) := by decide +kernel
theorem dX10_isDesignated_9 : decode cX10_isDesignated 9 = .ok (.if_icmp .ne 7, 3) := by decide +kernel
theorem dX10_isDesignated_12 : decode cX10_isDesignated 12 = .ok (.iconst 1, 1) := by decide +kernel
theorem dX10_isDesignated_13 : decode cX10_isDesignated 13 = .ok (.goto 4, 3) := by decide +kernel
theorem dX10_isDesignated_16 : decode cX10_isDesignated 16 = .ok (.iconst 0, 1) := by decide +kernel
theorem dX10_isDesignated_17 : decode cX10_isDesignated 17 = .ok (.ireturn, 1) := by decide +kernel
def fX10_isDesignated (N : Nat) (v0 : Nat) (v1 : Int32) (m0 : qM) : Option (Int32 × qM) :=
  (qgI m0 v0 10 13).bind fun x1 =>
  if (x1 >>> (v1 &&& 31)) &&& (1 : Int32) = (1 : Int32) then (
  some ((1 : Int32), m0)
  ) else (
  some ((0 : Int32), m0)
  )
set_option maxRecDepth 100000 in
theorem bX10_isDesignated {E : qE} {N d bc bs : Nat} (hd : 0 ≤ d) {v0 : Nat} {v1 : Int32} {m0 : qM} : qB E yX10_isDesignated cX10_isDesignated 2 (some .boolean) (fun _ => True) d bc bs 0 [(0, .ref (E.2.1 + v0)), (1, .int v1)] [] m0 (fX10_isDesignated N v0 v1 m0) (fun b rr => rr = (some (.int b.1), b.2)) := by
  unfold fX10_isDesignated
  refine j_aload_n (q := 0) (np := 1) rfl rfl dX10_isDesignated_0 rfl ?_
  refine j_gI (np := 4) flX10_34 dX10_isDesignated_1 rfl (fun x1 => ?_)
  refine j_iload_n (q := 1) (np := 5) rfl rfl dX10_isDesignated_4 rfl ?_
  refine j_ishr (np := 6) dX10_isDesignated_5 rfl ?_
  refine j_iconst (np := 7) ci_1 dX10_isDesignated_6 rfl ?_
  refine j_iand (np := 8) dX10_isDesignated_7 rfl ?_
  refine j_iconst (np := 9) ci_1 dX10_isDesignated_8 rfl ?_
  refine j_icmp_ne (tgt := 16) (np := 12) dX10_isDesignated_9 rfl rfl ?_ ?_
  · refine j_iconst (np := 17) ci_0 dX10_isDesignated_16 rfl ?_
    exact j_zret rfl dX10_isDesignated_17 (fun rr h => by rw [z0]; exact h)
  · refine j_iconst (np := 13) ci_1 dX10_isDesignated_12 rfl ?_
    refine j_goto (tgt := 17) dX10_isDesignated_13 rfl ?_
    exact j_zret rfl dX10_isDesignated_17 (fun rr h => by rw [z1]; exact h)
set_option maxRecDepth 100000 in
theorem wX10_isDesignated {E : qE} {N d : Nat} (hd : 0 ≤ d) {v0 : Nat} {v1 : Int32} {m0 : qM} {b : Int32 × qM} (h : fX10_isDesignated N v0 v1 m0 = some b) : qRun E yX10_isDesignated cX10_isDesignated 2 (some .boolean) d 0 0 [.ref (E.2.1 + v0), .int v1] m0 (some (.int b.1), b.2) := q_met pnX10 (Nat.le_of_ble_eq_true rfl) (bX10_isDesignated hd b _ h rfl)
theorem dX10_setEntry_0 : decode cX10_setEntry 0 = .ok (.iload_n 1, 1) := by decide +kernel
theorem dX10_setEntry_1 : decode cX10_setEntry 1 = .ok (.invokestatic 216, 3) := by decide +kernel
theorem dX10_setEntry_4 : decode cX10_setEntry 4 = .ok (.ifCond .eq 10, 3) := by decide +kernel
theorem dX10_setEntry_7 : decode cX10_setEntry 7 = .ok (.iload_n 2, 1) := by decide +kernel
theorem dX10_setEntry_8 : decode cX10_setEntry 8 = .ok (.invokestatic 216, 3) := by decide +kernel
theorem dX10_setEntry_11 : decode cX10_setEntry 11 = .ok (.ifCond .ne 5, 3) := by decide +kernel
theorem dX10_setEntry_14 : decode cX10_setEntry 14 = .ok (.iconst (-1), 1) := by decide +kernel
theorem dX10_setEntry_15 : decode cX10_setEntry 15 = .ok (.ireturn, 1) := by decide +kernel
theorem dX10_setEntry_16 : decode cX10_setEntry 16 = .ok (.iload_n 3, 1) := by decide +kernel
theorem dX10_setEntry_17 : decode cX10_setEntry 17 = .ok (.invokestatic 216, 3) := by decide +kernel
theorem dX10_setEntry_20 : decode cX10_setEntry 20 = .ok (.ifCond .ne 6, 3) := by decide +kernel
theorem dX10_setEntry_23 : decode cX10_setEntry 23 = .ok (.bipush (-2), 2) := by decide +kernel
theorem dX10_setEntry_25 : decode cX10_setEntry 25 = .ok (.ireturn, 1) := by decide +kernel
theorem dX10_setEntry_26 : decode cX10_setEntry 26 = .ok (.aload_n 0, 1) := by decide +kernel
theorem dX10_setEntry_27 : decode cX10_setEntry 27 = .ok (.getfield 31, 3) := by decide +kernel
theorem dX10_setEntry_30 : decode cX10_setEntry 30 = .ok (.iconst 3, 1) := by decide +kernel
theorem dX10_setEntry_31 : decode cX10_setEntry 31 = .ok (.iload_n 1, 1) := by decide +kernel
theorem dX10_setEntry_32 : decode cX10_setEntry 32 = .ok (.imul, 1) := by decide +kernel
theorem dX10_setEntry_33 : decode cX10_setEntry 33 = .ok (.iload_n 2, 1) := by decide +kernel
theorem dX10_setEntry_34 : decode cX10_setEntry 34 = .ok (.iadd, 1) := by decide +kernel
theorem dX10_setEntry_35 : decode cX10_setEntry 35 = .ok (.iaload, 1) := by decide +kernel
theorem dX10_setEntry_36 : decode cX10_setEntry 36 = .ok (.istore 4, 2) := by decide +kernel
theorem dX10_setEntry_38 : decode cX10_setEntry 38 = .ok (.aload_n 0, 1) := by decide +kernel
theorem dX10_setEntry_39 : decode cX10_setEntry 39 = .ok (.getfield 31, 3) := by decide +kernel
theorem dX10_setEntry_42 : decode cX10_setEntry 42 = .ok (.iconst 3, 1) := by decide +kernel
theorem dX10_setEntry_43 : decode cX10_setEntry 43 = .ok (.iload_n 1, 1) := by decide +kernel
theorem dX10_setEntry_44 : decode cX10_setEntry 44 = .ok (.imul, 1) := by decide +kernel
theorem dX10_setEntry_45 : decode cX10_setEntry 45 = .ok (.iload_n 2, 1) := by decide +kernel
theorem dX10_setEntry_46 : decode cX10_setEntry 46 = .ok (.iadd, 1) := by decide +kernel
theorem dX10_setEntry_47 : decode cX10_setEntry 47 = .ok (.iload_n 3, 1) := by decide +kernel
theorem dX10_setEntry_48 : decode cX10_setEntry 48 = .ok (.iastore, 1) := by decide +kernel
theorem dX10_setEntry_49 : decode cX10_setEntry 49 = .ok (.iload 4, 2) := by decide +kernel
theorem dX10_setEntry_51 : decode cX10_setEntry 51 = .ok (.ireturn, 1) := by decide +kernel
def fX10_setEntry (N : Nat) (v0 : Nat) (v1 : Int32) (v2 : Int32) (v3 : Int32) (m0 : qM) : Option (Int32 × qM) :=
  (fX10_isValue N v1 m0).bind fun b1 =>
  if b1.1 = 0 then (
  some ((-1 : Int32), b1.2)
  ) else (
  (fX10_isValue N v2 b1.2).bind fun b2 =>
  if b2.1 = 0 then (
  some ((-1 : Int32), b2.2)
  ) else (
  (fX10_isValue N v3 b2.2).bind fun b3 =>
  if b3.1 = 0 then (
  some ((-2 : Int32), b3.2)
  ) else (
  (qgR b3.2 v0 10 12).bind fun x4 =>
  (qaI b3.2 x4 12 (((3 : Int32) * v1) + v2)).bind fun x5 =>
  (qgR b3.2 v0 10 12).bind fun x6 =>
  (qwI b3.2 x6 12 (((3 : Int32) * v1) + v2) v3).bind fun m7 =>
  some (x5, m7)
  )
  )
  )
set_option maxRecDepth 100000 in
theorem bX10_setEntry {E : qE} {N d bc bs : Nat} (hd : 2 ≤ d) {v0 : Nat} {v1 : Int32} {v2 : Int32} {v3 : Int32} {m0 : qM} : qB E yX10_setEntry cX10_setEntry 5 (some .int) (fun _ => True) d bc bs 0 [(0, .ref (E.2.1 + v0)), (1, .int v1), (2, .int v2), (3, .int v3)] [] m0 (fX10_setEntry N v0 v1 v2 v3 m0) (fun b rr => rr = (some (.int b.1), b.2)) := by
  unfold fX10_setEntry
  refine j_iload_n (q := 1) (np := 1) rfl rfl dX10_setEntry_0 rfl ?_
  refine j_callSi (np := 4) (bc := bc) (bs := bs) (cb := 0) (cs := 0) (dd := d - 1) (As := [.int v1]) (st := []) caX10_isValue mlX10_216 stX10_isValue (fun b hb => wX10_isValue (by omega) hb) (by omega) rfl rfl (Nat.le_of_ble_eq_true rfl) dX10_setEntry_1 rfl (fun b1 => ?_)
  refine j_if_eq (tgt := 14) (np := 7) dX10_setEntry_4 rfl rfl ?_ ?_
  · refine j_iconst (np := 15) ci_m1 dX10_setEntry_14 rfl ?_
    exact j_iret rfl dX10_setEntry_15 (fun rr h => h)
  · refine j_iload_n (q := 2) (np := 8) rfl rfl dX10_setEntry_7 rfl ?_
    refine j_callSi (np := 11) (bc := bc) (bs := bs) (cb := 0) (cs := 0) (dd := d - 1) (As := [.int v2]) (st := []) caX10_isValue mlX10_216 stX10_isValue (fun b hb => wX10_isValue (by omega) hb) (by omega) rfl rfl (Nat.le_of_ble_eq_true rfl) dX10_setEntry_8 rfl (fun b2 => ?_)
    refine j_if_ne (tgt := 16) (np := 14) dX10_setEntry_11 rfl rfl ?_ ?_
    · refine j_iload_n (q := 3) (np := 17) rfl rfl dX10_setEntry_16 rfl ?_
      refine j_callSi (np := 20) (bc := bc) (bs := bs) (cb := 0) (cs := 0) (dd := d - 1) (As := [.int v3]) (st := []) caX10_isValue mlX10_216 stX10_isValue (fun b hb => wX10_isValue (by omega) hb) (by omega) rfl rfl (Nat.le_of_ble_eq_true rfl) dX10_setEntry_17 rfl (fun b3 => ?_)
      refine j_if_ne (tgt := 26) (np := 23) dX10_setEntry_20 rfl rfl ?_ ?_
      · refine j_aload_n (q := 0) (np := 27) rfl rfl dX10_setEntry_26 rfl ?_
        refine j_gR (np := 30) flX10_31 dX10_setEntry_27 rfl (fun x4 => ?_)
        refine j_iconst (np := 31) ci_3 dX10_setEntry_30 rfl ?_
        refine j_iload_n (q := 1) (np := 32) rfl rfl dX10_setEntry_31 rfl ?_
        refine j_imul (np := 33) dX10_setEntry_32 rfl ?_
        refine j_iload_n (q := 2) (np := 34) rfl rfl dX10_setEntry_33 rfl ?_
        refine j_iadd (np := 35) dX10_setEntry_34 rfl ?_
        refine j_iaload (np := 36) dX10_setEntry_35 rfl (fun x5 => ?_)
        refine j_istore (np := 38) (lv2 := [(4, .int x5), (0, .ref (E.2.1 + v0)), (1, .int v1), (2, .int v2), (3, .int v3)]) (by decide) dX10_setEntry_36 rfl rfl ?_
        refine j_aload_n (q := 1) (np := 39) rfl rfl dX10_setEntry_38 rfl ?_
        refine j_gR (np := 42) flX10_31 dX10_setEntry_39 rfl (fun x6 => ?_)
        refine j_iconst (np := 43) ci_3 dX10_setEntry_42 rfl ?_
        refine j_iload_n (q := 2) (np := 44) rfl rfl dX10_setEntry_43 rfl ?_
        refine j_imul (np := 45) dX10_setEntry_44 rfl ?_
        refine j_iload_n (q := 3) (np := 46) rfl rfl dX10_setEntry_45 rfl ?_
        refine j_iadd (np := 47) dX10_setEntry_46 rfl ?_
        refine j_iload_n (q := 4) (np := 48) rfl rfl dX10_setEntry_47 rfl ?_
        refine j_iastore (np := 49) dX10_setEntry_48 rfl (fun m7 => ?_)
        refine j_iload (q := 0) (np := 51) rfl dX10_setEntry_49 rfl ?_
        exact j_iret rfl dX10_setEntry_51 (fun rr h => h)
      · refine j_bipush (np := 25) cb_m2 dX10_setEntry_23 rfl ?_
        exact j_iret rfl dX10_setEntry_25 (fun rr h => h)
    · refine j_iconst (np := 15) ci_m1 dX10_setEntry_14 rfl ?_
      exact j_iret rfl dX10_setEntry_15 (fun rr h => h)
set_option maxRecDepth 100000 in
theorem wX10_setEntry {E : qE} {N d : Nat} (hd : 2 ≤ d) {v0 : Nat} {v1 : Int32} {v2 : Int32} {v3 : Int32} {m0 : qM} {b : Int32 × qM} (h : fX10_setEntry N v0 v1 v2 v3 m0 = some b) : qRun E yX10_setEntry cX10_setEntry 5 (some .int) d 0 0 [.ref (E.2.1 + v0), .int v1, .int v2, .int v3] m0 (some (.int b.1), b.2) := q_met pnX10 (Nat.le_of_ble_eq_true rfl) (bX10_setEntry hd b _ h rfl)
theorem dX10_setDesignated_0 : decode cX10_setDesignated 0 = .ok (.iload_n 1, 1) := by decide +kernel
theorem dX10_setDesignated_1 : decode cX10_setDesignated 1 = .ok (.iconst 0, 1) := by decide +kernel
theorem dX10_setDesignated_2 : decode cX10_setDesignated 2 = .ok (.bipush 7, 2) := by decide +kernel
theorem dX10_setDesignated_4 : decode cX10_setDesignated 4 = .ok (.invokestatic 99, 3) := by decide +kernel
theorem dX10_setDesignated_7 : decode cX10_setDesignated 7 = .ok (.ifCond .ne 6, 3) := by decide +kernel
theorem dX10_setDesignated_10 : decode cX10_setDesignated 10 = .ok (.bipush (-2), 2) := by decide +kernel
theorem dX10_setDesignated_12 : decode cX10_setDesignated 12 = .ok (.ireturn, 1) := by decide +kernel
theorem dX10_setDesignated_13 : decode cX10_setDesignated 13 = .ok (.aload_n 0, 1) := by decide +kernel
theorem dX10_setDesignated_14 : decode cX10_setDesignated 14 = .ok (.getfield 34, 3) := by decide +kernel
theorem dX10_setDesignated_17 : decode cX10_setDesignated 17 = .ok (.istore_n 2, 1) := by decide +kernel
theorem dX10_setDesignated_18 : decode cX10_setDesignated 18 = .ok (.aload_n 0, 1) := by decide +kernel
theorem dX10_setDesignated_19 : decode cX10_setDesignated 19 = .ok (.iload_n 1, 1) := by decide +kernel
theorem dX10_setDesignated_20 : decode cX10_setDesignated 20 = .ok (.putfield 34, 3) := by decide +kernel
theorem dX10_setDesignated_23 : decode cX10_setDesignated 23 = .ok (.iload_n 2, 1) := by decide +kernel
theorem dX10_setDesignated_24 : decode cX10_setDesignated 24 = .ok (.ireturn, 1) := by decide +kernel
def fX10_setDesignated (N : Nat) (v0 : Nat) (v1 : Int32) (m0 : qM) : Option (Int32 × qM) :=
  (fX10_in N v1 (0 : Int32) (7 : Int32) m0).bind fun b1 =>
  if b1.1 = 0 then (
  some ((-2 : Int32), b1.2)
  ) else (
  (qgI b1.2 v0 10 13).bind fun x2 =>
  (qpI b1.2 v0 10 13 v1).bind fun m3 =>
  some (x2, m3)
  )
set_option maxRecDepth 100000 in
theorem bX10_setDesignated {E : qE} {N d bc bs : Nat} (hd : 1 ≤ d) {v0 : Nat} {v1 : Int32} {m0 : qM} : qB E yX10_setDesignated cX10_setDesignated 3 (some .int) (fun _ => True) d bc bs 0 [(0, .ref (E.2.1 + v0)), (1, .int v1)] [] m0 (fX10_setDesignated N v0 v1 m0) (fun b rr => rr = (some (.int b.1), b.2)) := by
  unfold fX10_setDesignated
  refine j_iload_n (q := 1) (np := 1) rfl rfl dX10_setDesignated_0 rfl ?_
  refine j_iconst (np := 2) ci_0 dX10_setDesignated_1 rfl ?_
  refine j_bipush (np := 4) cb_7 dX10_setDesignated_2 rfl ?_
  refine j_callSi (np := 7) (bc := bc) (bs := bs) (cb := 0) (cs := 0) (dd := d - 1) (As := [.int v1, .int (0 : Int32), .int (7 : Int32)]) (st := []) caX10_in mlX10_99 stX10_in (fun b hb => wX10_in (by omega) hb) (by omega) rfl rfl (Nat.le_of_ble_eq_true rfl) dX10_setDesignated_4 rfl (fun b1 => ?_)
  refine j_if_ne (tgt := 13) (np := 10) dX10_setDesignated_7 rfl rfl ?_ ?_
  · refine j_aload_n (q := 0) (np := 14) rfl rfl dX10_setDesignated_13 rfl ?_
    refine j_gI (np := 17) flX10_34 dX10_setDesignated_14 rfl (fun x2 => ?_)
    refine j_istore_n (np := 18) (lv2 := [(2, .int x2), (0, .ref (E.2.1 + v0)), (1, .int v1)]) rfl (by decide) dX10_setDesignated_17 rfl rfl ?_
    refine j_aload_n (q := 1) (np := 19) rfl rfl dX10_setDesignated_18 rfl ?_
    refine j_iload_n (q := 2) (np := 20) rfl rfl dX10_setDesignated_19 rfl ?_
    refine j_pI (np := 23) flX10_34 dX10_setDesignated_20 rfl (fun m3 => ?_)
    refine j_iload_n (q := 0) (np := 24) rfl rfl dX10_setDesignated_23 rfl ?_
    exact j_iret rfl dX10_setDesignated_24 (fun rr h => h)
  · refine j_bipush (np := 12) cb_m2 dX10_setDesignated_10 rfl ?_
    exact j_iret rfl dX10_setDesignated_12 (fun rr h => h)
set_option maxRecDepth 100000 in
theorem wX10_setDesignated {E : qE} {N d : Nat} (hd : 1 ≤ d) {v0 : Nat} {v1 : Int32} {m0 : qM} {b : Int32 × qM} (h : fX10_setDesignated N v0 v1 m0 = some b) : qRun E yX10_setDesignated cX10_setDesignated 3 (some .int) d 0 0 [.ref (E.2.1 + v0), .int v1] m0 (some (.int b.1), b.2) := q_met pnX10 (Nat.le_of_ble_eq_true rfl) (bX10_setDesignated hd b _ h rfl)
theorem dX10_isNormal_0 : decode cX10_isNormal 0 = .ok (.iconst 0, 1) := by decide +kernel
theorem dX10_isNormal_1 : decode cX10_isNormal 1 = .ok (.istore_n 1, 1) := by decide +kernel
theorem dX10_isNormal_2 : decode cX10_isNormal 2 = .ok (.iload_n 1, 1) := by decide +kernel
theorem dX10_isNormal_3 : decode cX10_isNormal 3 = .ok (.iconst 3, 1) := by decide +kernel
theorem dX10_isNormal_4 : decode cX10_isNormal 4 = .ok (.if_icmp .ge 57, 3) := by decide +kernel
theorem dX10_isNormal_7 : decode cX10_isNormal 7 = .ok (.iconst 0, 1) := by decide +kernel
theorem dX10_isNormal_8 : decode cX10_isNormal 8 = .ok (.istore_n 2, 1) := by decide +kernel
theorem dX10_isNormal_9 : decode cX10_isNormal 9 = .ok (.iload_n 2, 1) := by decide +kernel
theorem dX10_isNormal_10 : decode cX10_isNormal 10 = .ok (.iconst 3, 1) := by decide +kernel
theorem dX10_isNormal_11 : decode cX10_isNormal 11 = .ok (.if_icmp .ge 44, 3) := by decide +kernel
theorem dX10_isNormal_14 : decode cX10_isNormal 14 = .ok (.aload_n 0, 1) := by decide +kernel
theorem dX10_isNormal_15 : decode cX10_isNormal 15 = .ok (.iload_n 1, 1) := by decide +kernel
theorem dX10_isNormal_16 : decode cX10_isNormal 16 = .ok (.invokevirtual 219, 3) := by decide +kernel
theorem dX10_isNormal_19 : decode cX10_isNormal 19 = .ok (.ifCond .eq 30, 3) := by decide +kernel
theorem dX10_isNormal_22 : decode cX10_isNormal 22 = .ok (.aload_n 0, 1) := by decide +kernel
theorem dX10_isNormal_23 : decode cX10_isNormal 23 = .ok (.aload_n 0, 1) := by decide +kernel
theorem dX10_isNormal_24 : decode cX10_isNormal 24 = .ok (.getfield 31, 3) := by decide +kernel
theorem dX10_isNormal_27 : decode cX10_isNormal 27 = .ok (.iconst 3, 1) := by decide +kernel
theorem dX10_isNormal_28 : decode cX10_isNormal 28 = .ok (.iload_n 1, 1) := by decide +kernel
theorem dX10_isNormal_29 : decode cX10_isNormal 29 = .ok (.imul, 1) := by decide +kernel
theorem dX10_isNormal_30 : decode cX10_isNormal 30 = .ok (.iload_n 2, 1) := by decide +kernel
theorem dX10_isNormal_31 : decode cX10_isNormal 31 = .ok (.iadd, 1) := by decide +kernel
theorem dX10_isNormal_32 : decode cX10_isNormal 32 = .ok (.iaload, 1) := by decide +kernel
theorem dX10_isNormal_33 : decode cX10_isNormal 33 = .ok (.invokevirtual 219, 3) := by decide +kernel
theorem dX10_isNormal_36 : decode cX10_isNormal 36 = .ok (.ifCond .eq 13, 3) := by decide +kernel
theorem dX10_isNormal_39 : decode cX10_isNormal 39 = .ok (.aload_n 0, 1) := by decide +kernel
theorem dX10_isNormal_40 : decode cX10_isNormal 40 = .ok (.iload_n 2, 1) := by decide +kernel
theorem dX10_isNormal_41 : decode cX10_isNormal 41 = .ok (.invokevirtual 219, 3) := by decide +kernel
theorem dX10_isNormal_44 : decode cX10_isNormal 44 = .ok (.ifCond .ne 5, 3) := by decide +kernel
theorem dX10_isNormal_47 : decode cX10_isNormal 47 = .ok (.iconst 0, 1) := by decide +kernel
theorem dX10_isNormal_48 : decode cX10_isNormal 48 = .ok (.ireturn, 1) := by decide +kernel
theorem dX10_isNormal_49 : decode cX10_isNormal 49 = .ok (.iinc 2 1, 3) := by decide +kernel
theorem dX10_isNormal_52 : decode cX10_isNormal 52 = .ok (.goto (-43), 3) := by decide +kernel
theorem dX10_isNormal_55 : decode cX10_isNormal 55 = .ok (.iinc 1 1, 3) := by decide +kernel
theorem dX10_isNormal_58 : decode cX10_isNormal 58 = .ok (.goto (-56), 3) := by decide +kernel
theorem dX10_isNormal_61 : decode cX10_isNormal 61 = .ok (.iconst 1, 1) := by decide +kernel
theorem dX10_isNormal_62 : decode cX10_isNormal 62 = .ok (.ireturn, 1) := by decide +kernel
def kX10_isNormal_49 (N : Nat) (rec : Int32 → qM → Option ((qM) ⊕ (Int32 × qM))) (v0 : Nat) (v1 : Int32) (v2 : Int32)  (m0 : qM) : Option ((qM) ⊕ (Int32 × qM)) :=
  rec (v2 + (1 : Int32)) m0
set_option maxRecDepth 100000 in
theorem kbX10_isNormal_49 {E : qE} {N d bc bs : Nat} (hd : 1 ≤ d) {v0 : Nat} {v1 : Int32} {v2 : Int32}  {m0 : qM} {rec : Int32 → qM → Option ((qM) ⊕ (Int32 × qM))} (hrec : ∀ (v2 : Int32) (m : qM), qB E yX10_isNormal cX10_isNormal 3 (some .int) (fun _ => True) d bc bs 9 [(0, .ref (E.2.1 + v0)), (1, .int v1), (2, .int v2)] [] m (rec v2 m) (qGL (fun o rr => qJ E yX10_isNormal cX10_isNormal 3 (some .int) (fun _ => True) d bc bs 55 [(0, .ref (E.2.1 + v0)), (1, .int v1)] [] o rr) (fun r => (some (.int r.1), r.2)))) : qB E yX10_isNormal cX10_isNormal 3 (some .int) (fun _ => True) d bc bs 49 [(0, .ref (E.2.1 + v0)), (1, .int v1), (2, .int v2)] [] m0 (kX10_isNormal_49 N rec v0 v1 v2 m0) (qGL (fun o rr => qJ E yX10_isNormal cX10_isNormal 3 (some .int) (fun _ => True) d bc bs 55 [(0, .ref (E.2.1 + v0)), (1, .int v1)] [] o rr) (fun r => (some (.int r.1), r.2))) := by
  unfold kX10_isNormal_49
  refine j_iinc (q := 2) (np := 52) (lv2 := [(2, .int (v2 + (1 : Int32))), (0, .ref (E.2.1 + v0)), (1, .int v1)]) rfl (congrArg _ ci_1) (by decide) dX10_isNormal_49 rfl rfl ?_
  refine j_goto (tgt := 9) dX10_isNormal_52 rfl ?_
  refine j_sub (lv2 := [(0, .ref (E.2.1 + v0)), (1, .int v1), (2, .int (v2 + (1 : Int32)))]) [1, 2, 0] rfl ?_
  exact hrec _ _
def lX10_isNormal_9 (N : Nat) (v0 : Nat) (v1 : Int32) : Nat → Int32 → qM → Option ((qM) ⊕ (Int32 × qM))
  | 0, _, _ => none
  | n + 1, v2, m0 =>
    if (3 : Int32) ≤ v2 then (
    some (.inl m0)
    ) else (
    (qChk m0 v0 10 (fX10_isDesignated N v0 v1 m0)).bind fun b1 =>
    if b1.1 = 0 then (
    kX10_isNormal_49 N (lX10_isNormal_9 N v0 v1 n) v0 v1 v2 b1.2
    ) else (
    (qgR b1.2 v0 10 12).bind fun x2 =>
    (qaI b1.2 x2 12 (((3 : Int32) * v1) + v2)).bind fun x3 =>
    (qChk b1.2 v0 10 (fX10_isDesignated N v0 x3 b1.2)).bind fun b4 =>
    if b4.1 = 0 then (
    kX10_isNormal_49 N (lX10_isNormal_9 N v0 v1 n) v0 v1 v2 b4.2
    ) else (
    (qChk b4.2 v0 10 (fX10_isDesignated N v0 v2 b4.2)).bind fun b5 =>
    if b5.1 = 0 then (
    some (.inr ((0 : Int32), b5.2))
    ) else (
    kX10_isNormal_49 N (lX10_isNormal_9 N v0 v1 n) v0 v1 v2 b5.2
    )
    )
    )
    )
set_option maxRecDepth 100000 in
theorem lbX10_isNormal_9 {E : qE} {N d bc bs : Nat} (hd : 1 ≤ d) {v0 : Nat} {v1 : Int32} : ∀ (n : Nat) (v2 : Int32) (m0 : qM), qB E yX10_isNormal cX10_isNormal 3 (some .int) (fun _ => True) d bc bs 9 [(0, .ref (E.2.1 + v0)), (1, .int v1), (2, .int v2)] [] m0 (lX10_isNormal_9 N v0 v1 n v2 m0) (qGL (fun o rr => qJ E yX10_isNormal cX10_isNormal 3 (some .int) (fun _ => True) d bc bs 55 [(0, .ref (E.2.1 + v0)), (1, .int v1)] [] o rr) (fun r => (some (.int r.1), r.2))) := by
  intro n
  induction n with
  | zero =>
    intro v2 m0
    exact j_none
  | succ n ih =>
    intro v2 m0
    unfold lX10_isNormal_9
    refine j_iload_n (q := 2) (np := 10) rfl rfl dX10_isNormal_9 rfl ?_
    refine j_iconst (np := 11) ci_3 dX10_isNormal_10 rfl ?_
    refine j_icmp_ge (tgt := 55) (np := 14) dX10_isNormal_11 rfl rfl ?_ ?_
    · refine j_sub (lv2 := [(0, .ref (E.2.1 + v0)), (1, .int v1)]) [0, 1] rfl ?_
      exact j_exit (fun rr h => h)
    · refine j_aload_n (q := 0) (np := 15) rfl rfl dX10_isNormal_14 rfl ?_
      refine j_iload_n (q := 1) (np := 16) rfl rfl dX10_isNormal_15 rfl ?_
      refine j_callVi (ci := 10) (np := 19) (bc := bc) (bs := bs) (cb := 0) (cs := 0) (dd := d - 1) (As := [.int v1]) (st := []) caX10_isDesignated mlX10_219 imX10_isDesignated seX10_isDesignated rfl rfl (by decide) (fun b hb => wX10_isDesignated (by omega) hb) (by omega) rfl rfl (Nat.le_of_ble_eq_true rfl) dX10_isNormal_16 rfl (fun b1 => ?_)
      refine j_if_eq (tgt := 49) (np := 22) dX10_isNormal_19 rfl rfl ?_ ?_
      · exact kbX10_isNormal_49 hd ih
      · refine j_aload_n (q := 0) (np := 23) rfl rfl dX10_isNormal_22 rfl ?_
        refine j_aload_n (q := 0) (np := 24) rfl rfl dX10_isNormal_23 rfl ?_
        refine j_gR (np := 27) flX10_31 dX10_isNormal_24 rfl (fun x2 => ?_)
        refine j_iconst (np := 28) ci_3 dX10_isNormal_27 rfl ?_
        refine j_iload_n (q := 1) (np := 29) rfl rfl dX10_isNormal_28 rfl ?_
        refine j_imul (np := 30) dX10_isNormal_29 rfl ?_
        refine j_iload_n (q := 2) (np := 31) rfl rfl dX10_isNormal_30 rfl ?_
        refine j_iadd (np := 32) dX10_isNormal_31 rfl ?_
        refine j_iaload (np := 33) dX10_isNormal_32 rfl (fun x3 => ?_)
        refine j_callVi (ci := 10) (np := 36) (bc := bc) (bs := bs) (cb := 0) (cs := 0) (dd := d - 1) (As := [.int x3]) (st := []) caX10_isDesignated mlX10_219 imX10_isDesignated seX10_isDesignated rfl rfl (by decide) (fun b hb => wX10_isDesignated (by omega) hb) (by omega) rfl rfl (Nat.le_of_ble_eq_true rfl) dX10_isNormal_33 rfl (fun b4 => ?_)
        refine j_if_eq (tgt := 49) (np := 39) dX10_isNormal_36 rfl rfl ?_ ?_
        · exact kbX10_isNormal_49 hd ih
        · refine j_aload_n (q := 0) (np := 40) rfl rfl dX10_isNormal_39 rfl ?_
          refine j_iload_n (q := 2) (np := 41) rfl rfl dX10_isNormal_40 rfl ?_
          refine j_callVi (ci := 10) (np := 44) (bc := bc) (bs := bs) (cb := 0) (cs := 0) (dd := d - 1) (As := [.int v2]) (st := []) caX10_isDesignated mlX10_219 imX10_isDesignated seX10_isDesignated rfl rfl (by decide) (fun b hb => wX10_isDesignated (by omega) hb) (by omega) rfl rfl (Nat.le_of_ble_eq_true rfl) dX10_isNormal_41 rfl (fun b5 => ?_)
          refine j_if_ne (tgt := 49) (np := 47) dX10_isNormal_44 rfl rfl ?_ ?_
          · exact kbX10_isNormal_49 hd ih
          · refine j_iconst (np := 48) ci_0 dX10_isNormal_47 rfl ?_
            exact j_iret rfl dX10_isNormal_48 (fun rr h => h)
def lX10_isNormal_2 (N : Nat) (v0 : Nat) : Nat → Int32 → qM → Option ((qM) ⊕ (Int32 × qM))
  | 0, _, _ => none
  | n + 1, v1, m0 =>
    if (3 : Int32) ≤ v1 then (
    some (.inl m0)
    ) else (
    qTh (lX10_isNormal_9 N v0 v1 N (0 : Int32) m0) (fun o1 =>
    lX10_isNormal_2 N v0 n (v1 + (1 : Int32)) o1
    ) (fun r => .inr r)
    )
set_option maxRecDepth 100000 in
theorem lbX10_isNormal_2 {E : qE} {N d bc bs : Nat} (hd : 1 ≤ d) {v0 : Nat} : ∀ (n : Nat) (v1 : Int32) (m0 : qM), qB E yX10_isNormal cX10_isNormal 3 (some .int) (fun _ => True) d bc bs 2 [(0, .ref (E.2.1 + v0)), (1, .int v1)] [] m0 (lX10_isNormal_2 N v0 n v1 m0) (qGL (fun o rr => qJ E yX10_isNormal cX10_isNormal 3 (some .int) (fun _ => True) d bc bs 61 [] [] o rr) (fun r => (some (.int r.1), r.2))) := by
  intro n
  induction n with
  | zero =>
    intro v1 m0
    exact j_none
  | succ n ih =>
    intro v1 m0
    unfold lX10_isNormal_2
    refine j_iload_n (q := 1) (np := 3) rfl rfl dX10_isNormal_2 rfl ?_
    refine j_iconst (np := 4) ci_3 dX10_isNormal_3 rfl ?_
    refine j_icmp_ge (tgt := 61) (np := 7) dX10_isNormal_4 rfl rfl ?_ ?_
    · refine j_sub (lv2 := []) [] rfl ?_
      exact j_exit (fun rr h => h)
    · refine j_iconst (np := 8) ci_0 dX10_isNormal_7 rfl ?_
      refine j_istore_n (np := 9) (lv2 := [(2, .int (0 : Int32)), (0, .ref (E.2.1 + v0)), (1, .int v1)]) rfl (by decide) dX10_isNormal_8 rfl rfl ?_
      refine j_sub (lv2 := [(0, .ref (E.2.1 + v0)), (1, .int v1), (2, .int (0 : Int32))]) [1, 2, 0] rfl ?_
      refine j_loopG (xp := 55) (lvX := fun o1 => [(0, .ref (E.2.1 + v0)), (1, .int v1)]) (mX := fun o1 => o1) (lbX10_isNormal_9 hd _ _ _) (fun r rr h => h) (fun o1 => ?_)
      refine j_iinc (q := 1) (np := 58) (lv2 := [(1, .int (v1 + (1 : Int32))), (0, .ref (E.2.1 + v0))]) rfl (congrArg _ ci_1) (by decide) dX10_isNormal_55 rfl rfl ?_
      refine j_goto (tgt := 2) dX10_isNormal_58 rfl ?_
      refine j_sub (lv2 := [(0, .ref (E.2.1 + v0)), (1, .int (v1 + (1 : Int32)))]) [1, 0] rfl ?_
      exact ih _ _
def fX10_isNormal (N : Nat) (v0 : Nat) (m0 : qM) : Option (Int32 × qM) :=
  qTh (lX10_isNormal_2 N v0 N (0 : Int32) m0) (fun o1 =>
  some ((1 : Int32), o1)
  ) (fun r => r)
set_option maxRecDepth 100000 in
theorem bX10_isNormal {E : qE} {N d bc bs : Nat} (hd : 1 ≤ d) {v0 : Nat} {m0 : qM} : qB E yX10_isNormal cX10_isNormal 3 (some .int) (fun _ => True) d bc bs 0 [(0, .ref (E.2.1 + v0))] [] m0 (fX10_isNormal N v0 m0) (fun b rr => rr = (some (.int b.1), b.2)) := by
  unfold fX10_isNormal
  refine j_iconst (np := 1) ci_0 dX10_isNormal_0 rfl ?_
  refine j_istore_n (np := 2) (lv2 := [(1, .int (0 : Int32)), (0, .ref (E.2.1 + v0))]) rfl (by decide) dX10_isNormal_1 rfl rfl ?_
  refine j_sub (lv2 := [(0, .ref (E.2.1 + v0)), (1, .int (0 : Int32))]) [1, 0] rfl ?_
  refine j_loopG (xp := 61) (lvX := fun o1 => []) (mX := fun o1 => o1) (lbX10_isNormal_2 hd _ _ _) (fun r rr h => h) (fun o1 => ?_)
  refine j_iconst (np := 62) ci_1 dX10_isNormal_61 rfl ?_
  exact j_iret rfl dX10_isNormal_62 (fun rr h => h)
set_option maxRecDepth 100000 in
theorem wX10_isNormal {E : qE} {N d : Nat} (hd : 1 ≤ d) {v0 : Nat} {m0 : qM} {b : Int32 × qM} (h : fX10_isNormal N v0 m0 = some b) : qRun E yX10_isNormal cX10_isNormal 3 (some .int) d 0 0 [.ref (E.2.1 + v0)] m0 (some (.int b.1), b.2) := q_met pnX10 (Nat.le_of_ble_eq_true rfl) (bX10_isNormal hd b _ h rfl)
theorem dX10_valueAt_0 : decode cX10_valueAt 0 = .ok (.aload_n 0, 1) := by decide +kernel
theorem dX10_valueAt_1 : decode cX10_valueAt 1 = .ok (.getfield 9, 3) := by decide +kernel
theorem dX10_valueAt_4 : decode cX10_valueAt 4 = .ok (.bipush 39, 2) := by decide +kernel
theorem dX10_valueAt_6 : decode cX10_valueAt 6 = .ok (.iload_n 1, 1) := by decide +kernel
theorem dX10_valueAt_7 : decode cX10_valueAt 7 = .ok (.imul, 1) := by decide +kernel
theorem dX10_valueAt_8 : decode cX10_valueAt 8 = .ok (.aload_n 0, 1) := by decide +kernel
theorem dX10_valueAt_9 : decode cX10_valueAt 9 = .ok (.dup, 1) := by decide +kernel
theorem dX10_valueAt_10 : decode cX10_valueAt 10 = .ok (.getfield 138, 3) := by decide +kernel
theorem dX10_valueAt_13 : decode cX10_valueAt 13 = .ok (.dup_x1, 1) := by decide +kernel
theorem dX10_valueAt_14 : decode cX10_valueAt 14 = .ok (.iconst 1, 1) := by decide +kernel
theorem dX10_valueAt_15 : decode cX10_valueAt 15 = .ok (.iadd, 1) := by decide +kernel
theorem dX10_valueAt_16 : decode cX10_valueAt 16 = .ok (.putfield 138, 3) := by decide +kernel
theorem dX10_valueAt_19 : decode cX10_valueAt 19 = .ok (.iadd, 1) := by decide +kernel
theorem dX10_valueAt_20 : decode cX10_valueAt 20 = .ok (.iaload, 1) := by decide +kernel
theorem dX10_valueAt_21 : decode cX10_valueAt 21 = .ok (.istore_n 2, 1) := by decide +kernel
theorem dX10_valueAt_22 : decode cX10_valueAt 22 = .ok (.iload_n 2, 1) := by decide +kernel
theorem dX10_valueAt_23 : decode cX10_valueAt 23 = .ok (.bipush 99, 2) := by decide +kernel
theorem dX10_valueAt_25 : decode cX10_valueAt 25 = .ok (.if_icmp .eq 10, 3) := by decide +kernel
theorem dX10_valueAt_28 : decode cX10_valueAt 28 = .ok (.aload_n 0, 1) := by decide +kernel
theorem dX10_valueAt_29 : decode cX10_valueAt 29 = .ok (.getfield 38, 3) := by decide +kernel
theorem dX10_valueAt_32 : decode cX10_valueAt 32 = .ok (.iload_n 2, 1) := by decide +kernel
theorem dX10_valueAt_33 : decode cX10_valueAt 33 = .ok (.iaload, 1) := by decide +kernel
theorem dX10_valueAt_34 : decode cX10_valueAt 34 = .ok (.ireturn, 1) := by decide +kernel
theorem dX10_valueAt_35 : decode cX10_valueAt 35 = .ok (.aload_n 0, 1) := by decide +kernel
theorem dX10_valueAt_36 : decode cX10_valueAt 36 = .ok (.iload_n 1, 1) := by decide +kernel
theorem dX10_valueAt_37 : decode cX10_valueAt 37 = .ok (.invokevirtual 222, 3) := by decide +kernel
theorem dX10_valueAt_40 : decode cX10_valueAt 40 = .ok (.istore_n 3, 1) := by decide +kernel
theorem dX10_valueAt_41 : decode cX10_valueAt 41 = .ok (.aload_n 0, 1) := by decide +kernel
theorem dX10_valueAt_42 : decode cX10_valueAt 42 = .ok (.iload_n 1, 1) := by decide +kernel
theorem dX10_valueAt_43 : decode cX10_valueAt 43 = .ok (.invokevirtual 222, 3) := by decide +kernel
theorem dX10_valueAt_46 : decode cX10_valueAt 46 = .ok (.istore 4, 2) := by decide +kernel
theorem dX10_valueAt_48 : decode cX10_valueAt 48 = .ok (.aload_n 0, 1) := by decide +kernel
theorem dX10_valueAt_49 : decode cX10_valueAt 49 = .ok (.getfield 31, 3) := by decide +kernel
theorem dX10_valueAt_52 : decode cX10_valueAt 52 = .ok (.iconst 3, 1) := by decide +kernel
theorem dX10_valueAt_53 : decode cX10_valueAt 53 = .ok (.iload_n 3, 1) := by decide +kernel
theorem dX10_valueAt_54 : decode cX10_valueAt 54 = .ok (.imul, 1) := by decide +kernel
theorem dX10_valueAt_55 : decode cX10_valueAt 55 = .ok (.iload 4, 2) := by decide +kernel
theorem dX10_valueAt_57 : decode cX10_valueAt 57 = .ok (.iadd, 1) := by decide +kernel
theorem dX10_valueAt_58 : decode cX10_valueAt 58 = .ok (.iaload, 1) := by decide +kernel
theorem dX10_valueAt_59 : decode cX10_valueAt 59 = .ok (.ireturn, 1) := by decide +kernel
def fX10_valueAt (N : Nat) : Nat → Nat → Int32 → qM → Option (Int32 × qM)
  | 0, _, _, _ => none
  | k + 1, v0, v1, m0 =>
    (qgR m0 v0 10 0).bind fun x1 =>
    (qgI m0 v0 10 25).bind fun x2 =>
    (qpI m0 v0 10 25 (x2 + (1 : Int32))).bind fun m3 =>
    (qaI m3 x1 12 (((39 : Int32) * v1) + x2)).bind fun x4 =>
    if x4 = (99 : Int32) then (
    (qChk m3 v0 10 (fX10_valueAt N k v0 v1 m3)).bind fun b5 =>
    (qChk b5.2 v0 10 (fX10_valueAt N k v0 v1 b5.2)).bind fun b6 =>
    (qgR b6.2 v0 10 12).bind fun x7 =>
    (qaI b6.2 x7 12 (((3 : Int32) * b5.1) + b6.1)).bind fun x8 =>
    some (x8, b6.2)
    ) else (
    (qgR m3 v0 10 14).bind fun x9 =>
    (qaI m3 x9 12 x4).bind fun x10 =>
    some (x10, m3)
    )
set_option maxRecDepth 100000 in
theorem wX10_valueAt {E : qE} {N : Nat} : ∀ {k d : Nat} (hd : k + 1 ≤ d) {m0 : qM} {b : Int32 × qM} {v0 : Nat} {v1 : Int32} (h : fX10_valueAt N k v0 v1 m0 = some b), qRun E yX10_valueAt cX10_valueAt 5 (some .int) d 0 0 [.ref (E.2.1 + v0), .int v1] m0 (some (.int b.1), b.2) := by
  intro k
  induction k with
  | zero =>
    intro d hd m0 b v0 v1 h
    cases h
  | succ k ih =>
    intro d hd m0 b v0 v1 h
    have hfr : ∀ (m : qM) (b : Int32 × qM) (v0 : Nat) (v1 : Int32), fX10_valueAt N k v0 v1 m = some b → qRun E yX10_valueAt cX10_valueAt 5 (some .int) (d - 1) 0 0 [.ref (E.2.1 + v0), .int v1] m (some (.int b.1), b.2) := fun m b v0 v1 h => ih (by omega) h
    have hd : 1 ≤ d := by omega
    have bd : qB E yX10_valueAt cX10_valueAt 5 (some .int) (fun _ => True) d 0 0 0 [(0, .ref (E.2.1 + v0)), (1, .int v1)] [] m0 (fX10_valueAt N (k + 1) v0 v1 m0) (fun b rr => rr = (some (.int b.1), b.2)) := by
      unfold fX10_valueAt
      refine j_aload_n (q := 0) (np := 1) rfl rfl dX10_valueAt_0 rfl ?_
      refine j_gR (np := 4) flX10_9 dX10_valueAt_1 rfl (fun x1 => ?_)
      refine j_bipush (np := 6) cb_39 dX10_valueAt_4 rfl ?_
      refine j_iload_n (q := 1) (np := 7) rfl rfl dX10_valueAt_6 rfl ?_
      refine j_imul (np := 8) dX10_valueAt_7 rfl ?_
      refine j_aload_n (q := 0) (np := 9) rfl rfl dX10_valueAt_8 rfl ?_
      refine j_dup (np := 10) rfl dX10_valueAt_9 rfl ?_
      refine j_gI (np := 13) flX10_138 dX10_valueAt_10 rfl (fun x2 => ?_)
      refine j_dup_x1 (np := 14) rfl rfl dX10_valueAt_13 rfl ?_
      refine j_iconst (np := 15) ci_1 dX10_valueAt_14 rfl ?_
      refine j_iadd (np := 16) dX10_valueAt_15 rfl ?_
      refine j_pI (np := 19) flX10_138 dX10_valueAt_16 rfl (fun m3 => ?_)
      refine j_iadd (np := 20) dX10_valueAt_19 rfl ?_
      refine j_iaload (np := 21) dX10_valueAt_20 rfl (fun x4 => ?_)
      refine j_istore_n (np := 22) (lv2 := [(2, .int x4), (0, .ref (E.2.1 + v0)), (1, .int v1)]) rfl (by decide) dX10_valueAt_21 rfl rfl ?_
      refine j_iload_n (q := 0) (np := 23) rfl rfl dX10_valueAt_22 rfl ?_
      refine j_bipush (np := 25) cb_99 dX10_valueAt_23 rfl ?_
      refine j_icmp_eq (tgt := 35) (np := 28) dX10_valueAt_25 rfl rfl ?_ ?_
      · refine j_aload_n (q := 1) (np := 36) rfl rfl dX10_valueAt_35 rfl ?_
        refine j_iload_n (q := 2) (np := 37) rfl rfl dX10_valueAt_36 rfl ?_
        refine j_callVi (ci := 10) (np := 40) (bc := 0) (bs := 0) (cb := 0) (cs := 0) (dd := d - 1) (As := [.int v1]) (st := []) caX10_valueAt mlX10_222 imX10_valueAt seX10_valueAt rfl rfl (by decide) (fun b hb => hfr _ _ _ _ hb) (by omega) rfl rfl (Nat.le_of_ble_eq_true rfl) dX10_valueAt_37 rfl (fun b5 => ?_)
        refine j_istore_n (np := 41) (lv2 := [(3, .int b5.1), (2, .int x4), (0, .ref (E.2.1 + v0)), (1, .int v1)]) rfl (by decide) dX10_valueAt_40 rfl rfl ?_
        refine j_aload_n (q := 2) (np := 42) rfl rfl dX10_valueAt_41 rfl ?_
        refine j_iload_n (q := 3) (np := 43) rfl rfl dX10_valueAt_42 rfl ?_
        refine j_callVi (ci := 10) (np := 46) (bc := 0) (bs := 0) (cb := 0) (cs := 0) (dd := d - 1) (As := [.int v1]) (st := []) caX10_valueAt mlX10_222 imX10_valueAt seX10_valueAt rfl rfl (by decide) (fun b hb => hfr _ _ _ _ hb) (by omega) rfl rfl (Nat.le_of_ble_eq_true rfl) dX10_valueAt_43 rfl (fun b6 => ?_)
        refine j_istore (np := 48) (lv2 := [(4, .int b6.1), (3, .int b5.1), (2, .int x4), (0, .ref (E.2.1 + v0)), (1, .int v1)]) (by decide) dX10_valueAt_46 rfl rfl ?_
        refine j_aload_n (q := 3) (np := 49) rfl rfl dX10_valueAt_48 rfl ?_
        refine j_gR (np := 52) flX10_31 dX10_valueAt_49 rfl (fun x7 => ?_)
        refine j_iconst (np := 53) ci_3 dX10_valueAt_52 rfl ?_
        refine j_iload_n (q := 1) (np := 54) rfl rfl dX10_valueAt_53 rfl ?_
        refine j_imul (np := 55) dX10_valueAt_54 rfl ?_
        refine j_iload (q := 0) (np := 57) rfl dX10_valueAt_55 rfl ?_
        refine j_iadd (np := 58) dX10_valueAt_57 rfl ?_
        refine j_iaload (np := 59) dX10_valueAt_58 rfl (fun x8 => ?_)
        exact j_iret rfl dX10_valueAt_59 (fun rr h => h)
      · refine j_aload_n (q := 1) (np := 29) rfl rfl dX10_valueAt_28 rfl ?_
        refine j_gR (np := 32) flX10_38 dX10_valueAt_29 rfl (fun x9 => ?_)
        refine j_iload_n (q := 0) (np := 33) rfl rfl dX10_valueAt_32 rfl ?_
        refine j_iaload (np := 34) dX10_valueAt_33 rfl (fun x10 => ?_)
        exact j_iret rfl dX10_valueAt_34 (fun rr h => h)
    exact q_met pnX10 (Nat.le_of_ble_eq_true rfl) (bd b _ h rfl)
theorem dX10_valueOf_0 : decode cX10_valueOf 0 = .ok (.aload_n 0, 1) := by decide +kernel
theorem dX10_valueOf_1 : decode cX10_valueOf 1 = .ok (.iconst 0, 1) := by decide +kernel
theorem dX10_valueOf_2 : decode cX10_valueOf 2 = .ok (.putfield 138, 3) := by decide +kernel
theorem dX10_valueOf_5 : decode cX10_valueOf 5 = .ok (.aload_n 0, 1) := by decide +kernel
theorem dX10_valueOf_6 : decode cX10_valueOf 6 = .ok (.iload_n 1, 1) := by decide +kernel
theorem dX10_valueOf_7 : decode cX10_valueOf 7 = .ok (.invokevirtual 222, 3) := by decide +kernel
theorem dX10_valueOf_10 : decode cX10_valueOf 10 = .ok (.ireturn, 1) := by decide +kernel
def fX10_valueOf (N : Nat) (v0 : Nat) (v1 : Int32) (m0 : qM) : Option (Int32 × qM) :=
  (qpI m0 v0 10 25 (0 : Int32)).bind fun m1 =>
  (qChk m1 v0 10 (fX10_valueAt N kR v0 v1 m1)).bind fun b2 =>
  some (b2.1, b2.2)
set_option maxRecDepth 100000 in
theorem bX10_valueOf {E : qE} {N d bc bs : Nat} (hd : 132 ≤ d) {v0 : Nat} {v1 : Int32} {m0 : qM} : qB E yX10_valueOf cX10_valueOf 2 (some .int) (fun _ => True) d bc bs 0 [(0, .ref (E.2.1 + v0)), (1, .int v1)] [] m0 (fX10_valueOf N v0 v1 m0) (fun b rr => rr = (some (.int b.1), b.2)) := by
  unfold fX10_valueOf
  refine j_aload_n (q := 0) (np := 1) rfl rfl dX10_valueOf_0 rfl ?_
  refine j_iconst (np := 2) ci_0 dX10_valueOf_1 rfl ?_
  refine j_pI (np := 5) flX10_138 dX10_valueOf_2 rfl (fun m1 => ?_)
  refine j_aload_n (q := 0) (np := 6) rfl rfl dX10_valueOf_5 rfl ?_
  refine j_iload_n (q := 1) (np := 7) rfl rfl dX10_valueOf_6 rfl ?_
  refine j_callVi (ci := 10) (np := 10) (bc := bc) (bs := bs) (cb := 0) (cs := 0) (dd := d - 1) (As := [.int v1]) (st := []) caX10_valueAt mlX10_222 imX10_valueAt seX10_valueAt rfl rfl (by decide) (fun b hb => wX10_valueAt (by show 130 + _ ≤ _; omega) hb) (by omega) rfl rfl (Nat.le_of_ble_eq_true rfl) dX10_valueOf_7 rfl (fun b2 => ?_)
  exact j_iret rfl dX10_valueOf_10 (fun rr h => h)
set_option maxRecDepth 100000 in
theorem wX10_valueOf {E : qE} {N d : Nat} (hd : 132 ≤ d) {v0 : Nat} {v1 : Int32} {m0 : qM} {b : Int32 × qM} (h : fX10_valueOf N v0 v1 m0 = some b) : qRun E yX10_valueOf cX10_valueOf 2 (some .int) d 0 0 [.ref (E.2.1 + v0), .int v1] m0 (some (.int b.1), b.2) := q_met pnX10 (Nat.le_of_ble_eq_true rfl) (bX10_valueOf hd b _ h rfl)
theorem dX10_values_0 : decode cX10_values 0 = .ok (.iload_n 1, 1) := by decide +kernel
theorem dX10_values_1 : decode cX10_values 1 = .ok (.istore_n 3, 1) := by decide +kernel
theorem dX10_values_2 : decode cX10_values 2 = .ok (.iload_n 2, 1) := by decide +kernel
theorem dX10_values_3 : decode cX10_values 3 = .ok (.iconst 1, 1) := by decide +kernel
theorem dX10_values_4 : decode cX10_values 4 = .ok (.isub, 1) := by decide +kernel
theorem dX10_values_5 : decode cX10_values 5 = .ok (.istore 4, 2) := by decide +kernel
theorem dX10_values_7 : decode cX10_values 7 = .ok (.iload 4, 2) := by decide +kernel
theorem dX10_values_9 : decode cX10_values 9 = .ok (.ifCond .lt 23, 3) := by decide +kernel
theorem dX10_values_12 : decode cX10_values 12 = .ok (.aload_n 0, 1) := by decide +kernel
theorem dX10_values_13 : decode cX10_values 13 = .ok (.getfield 38, 3) := by decide +kernel
theorem dX10_values_16 : decode cX10_values 16 = .ok (.iload 4, 2) := by decide +kernel
theorem dX10_values_18 : decode cX10_values 18 = .ok (.iload_n 3, 1) := by decide +kernel
theorem dX10_values_19 : decode cX10_values 19 = .ok (.iconst 3, 1) := by decide +kernel
theorem dX10_values_20 : decode cX10_values 20 = .ok (.irem, 1) := by decide +kernel
theorem dX10_values_21 : decode cX10_values 21 = .ok (.iastore, 1) := by decide +kernel
theorem dX10_values_22 : decode cX10_values 22 = .ok (.iload_n 3, 1) := by decide +kernel
theorem dX10_values_23 : decode cX10_values 23 = .ok (.iconst 3, 1) := by decide +kernel
theorem dX10_values_24 : decode cX10_values 24 = .ok (.idiv, 1) := by decide +kernel
theorem dX10_values_25 : decode cX10_values 25 = .ok (.istore_n 3, 1) := by decide +kernel
theorem dX10_values_26 : decode cX10_values 26 = .ok (.iinc 4 (-1), 3) := by decide +kernel
theorem dX10_values_29 : decode cX10_values 29 = .ok (.goto (-22), 3) := by decide +kernel
theorem dX10_values_32 : decode cX10_values 32 = .ok (.return_, 1) := by decide +kernel
def lX10_values_7 (N : Nat) (v0 : Nat) : Nat → Int32 → Int32 → qM → Option (qM)
  | 0, _, _, _ => none
  | n + 1, v3, v4, m0 =>
    if v4 < 0 then (
    some m0
    ) else (
    (qgR m0 v0 10 14).bind fun x1 =>
    (qwI m0 x1 12 v4 (v3 - v3 / (3 : Int32) * (3 : Int32))).bind fun m2 =>
    lX10_values_7 N v0 n (v3 / (3 : Int32)) (v4 + (-1 : Int32)) m2
    )
set_option maxRecDepth 100000 in
theorem lbX10_values_7 {E : qE} {N d bc bs : Nat} (hd : 0 ≤ d) {v0 : Nat} : ∀ (n : Nat) (v3 : Int32) (v4 : Int32) (m0 : qM), qB E yX10_values cX10_values 5 none (fun _ => True) d bc bs 7 [(0, .ref (E.2.1 + v0)), (3, .int v3), (4, .int v4)] [] m0 (lX10_values_7 N v0 n v3 v4 m0) (fun o rr => qJ E yX10_values cX10_values 5 none (fun _ => True) d bc bs 32 [] [] o rr) := by
  intro n
  induction n with
  | zero =>
    intro v3 v4 m0
    exact j_none
  | succ n ih =>
    intro v3 v4 m0
    unfold lX10_values_7
    refine j_iload (q := 2) (np := 9) rfl dX10_values_7 rfl ?_
    refine j_if_lt (tgt := 32) (np := 12) dX10_values_9 rfl rfl ?_ ?_
    · refine j_sub (lv2 := []) [] rfl ?_
      exact j_exit (fun rr h => h)
    · refine j_aload_n (q := 0) (np := 13) rfl rfl dX10_values_12 rfl ?_
      refine j_gR (np := 16) flX10_38 dX10_values_13 rfl (fun x1 => ?_)
      refine j_iload (q := 2) (np := 18) rfl dX10_values_16 rfl ?_
      refine j_iload_n (q := 1) (np := 19) rfl rfl dX10_values_18 rfl ?_
      refine j_iconst (np := 20) ci_3 dX10_values_19 rfl ?_
      refine j_irem (np := 21) (by decide) dX10_values_20 rfl ?_
      refine j_iastore (np := 22) dX10_values_21 rfl (fun m2 => ?_)
      refine j_iload_n (q := 1) (np := 23) rfl rfl dX10_values_22 rfl ?_
      refine j_iconst (np := 24) ci_3 dX10_values_23 rfl ?_
      refine j_idiv (np := 25) (by decide) dX10_values_24 rfl ?_
      refine j_istore_n (np := 26) (lv2 := [(3, .int (v3 / (3 : Int32))), (0, .ref (E.2.1 + v0)), (4, .int v4)]) rfl (by decide) dX10_values_25 rfl rfl ?_
      refine j_iinc (q := 2) (np := 29) (lv2 := [(4, .int (v4 + (-1 : Int32))), (3, .int (v3 / (3 : Int32))), (0, .ref (E.2.1 + v0))]) rfl (congrArg _ ci_m1) (by decide) dX10_values_26 rfl rfl ?_
      refine j_goto (tgt := 7) dX10_values_29 rfl ?_
      refine j_sub (lv2 := [(0, .ref (E.2.1 + v0)), (3, .int (v3 / (3 : Int32))), (4, .int (v4 + (-1 : Int32)))]) [2, 1, 0] rfl ?_
      exact ih _ _ _
def fX10_values (N : Nat) (v0 : Nat) (v1 : Int32) (v2 : Int32) (m0 : qM) : Option (qM) :=
  (lX10_values_7 N v0 N v1 (v2 - (1 : Int32)) m0).bind fun o1 =>
  some o1
set_option maxRecDepth 100000 in
theorem bX10_values {E : qE} {N d bc bs : Nat} (hd : 0 ≤ d) {v0 : Nat} {v1 : Int32} {v2 : Int32} {m0 : qM} : qB E yX10_values cX10_values 5 none (fun _ => True) d bc bs 0 [(0, .ref (E.2.1 + v0)), (1, .int v1), (2, .int v2)] [] m0 (fX10_values N v0 v1 v2 m0) (fun b rr => rr = (none, b)) := by
  unfold fX10_values
  refine j_iload_n (q := 1) (np := 1) rfl rfl dX10_values_0 rfl ?_
  refine j_istore_n (np := 2) (lv2 := [(3, .int v1), (0, .ref (E.2.1 + v0)), (1, .int v1), (2, .int v2)]) rfl (by decide) dX10_values_1 rfl rfl ?_
  refine j_iload_n (q := 3) (np := 3) rfl rfl dX10_values_2 rfl ?_
  refine j_iconst (np := 4) ci_1 dX10_values_3 rfl ?_
  refine j_isub (np := 5) dX10_values_4 rfl ?_
  refine j_istore (np := 7) (lv2 := [(4, .int (v2 - (1 : Int32))), (3, .int v1), (0, .ref (E.2.1 + v0)), (1, .int v1), (2, .int v2)]) (by decide) dX10_values_5 rfl rfl ?_
  refine j_sub (lv2 := [(0, .ref (E.2.1 + v0)), (3, .int v1), (4, .int (v2 - (1 : Int32)))]) [2, 1, 0] rfl ?_
  refine j_loop (xp := 32) (lvX := fun o1 => []) (mX := fun o1 => o1) (lbX10_values_7 hd _ _ _ _) (fun o1 => ?_)
  exact j_vret rfl dX10_values_32 (fun rr h => h)
set_option maxRecDepth 100000 in
theorem wX10_values {E : qE} {N d : Nat} (hd : 0 ≤ d) {v0 : Nat} {v1 : Int32} {v2 : Int32} {m0 : qM} {b : qM} (h : fX10_values N v0 v1 v2 m0 = some b) : qRun E yX10_values cX10_values 5 none d 0 0 [.ref (E.2.1 + v0), .int v1, .int v2] m0 (none, b) := q_met pnX10 (Nat.le_of_ble_eq_true rfl) (bX10_values hd b _ h rfl)
theorem dX10_power_0 : decode cX10_power 0 = .ok (.iconst 1, 1) := by decide +kernel
theorem dX10_power_1 : decode cX10_power 1 = .ok (.istore_n 1, 1) := by decide +kernel
theorem dX10_power_2 : decode cX10_power 2 = .ok (.iconst 0, 1) := by decide +kernel
theorem dX10_power_3 : decode cX10_power 3 = .ok (.istore_n 2, 1) := by decide +kernel
theorem dX10_power_4 : decode cX10_power 4 = .ok (.iload_n 2, 1) := by decide +kernel
theorem dX10_power_5 : decode cX10_power 5 = .ok (.iload_n 0, 1) := by decide +kernel
theorem dX10_power_6 : decode cX10_power 6 = .ok (.if_icmp .ge 13, 3) := by decide +kernel
theorem dX10_power_9 : decode cX10_power 9 = .ok (.iload_n 1, 1) := by decide +kernel
theorem dX10_power_10 : decode cX10_power 10 = .ok (.iconst 3, 1) := by decide +kernel
theorem dX10_power_11 : decode cX10_power 11 = .ok (.imul, 1) := by decide +kernel
theorem dX10_power_12 : decode cX10_power 12 = .ok (.istore_n 1, 1) := by decide +kernel
theorem dX10_power_13 : decode cX10_power 13 = .ok (.iinc 2 1, 3) := by decide +kernel
theorem dX10_power_16 : decode cX10_power 16 = .ok (.goto (-12), 3) := by decide +kernel
theorem dX10_power_19 : decode cX10_power 19 = .ok (.iload_n 1, 1) := by decide +kernel
theorem dX10_power_20 : decode cX10_power 20 = .ok (.ireturn, 1) := by decide +kernel
def lX10_power_4 (N : Nat) (v0 : Int32) : Nat → Int32 → Int32 → qM → Option (Int32 × qM)
  | 0, _, _, _ => none
  | n + 1, v1, v2, m0 =>
    if v0 ≤ v2 then (
    some (v1, m0)
    ) else (
    lX10_power_4 N v0 n (v1 * (3 : Int32)) (v2 + (1 : Int32)) m0
    )
set_option maxRecDepth 100000 in
theorem lbX10_power_4 {E : qE} {N d bc bs : Nat} (hd : 0 ≤ d) {v0 : Int32} : ∀ (n : Nat) (v1 : Int32) (v2 : Int32) (m0 : qM), qB E yX10_power cX10_power 3 (some .int) (fun _ => True) d bc bs 4 [(0, .int v0), (1, .int v1), (2, .int v2)] [] m0 (lX10_power_4 N v0 n v1 v2 m0) (fun o rr => qJ E yX10_power cX10_power 3 (some .int) (fun _ => True) d bc bs 19 [(1, .int o.1)] [] o.2 rr) := by
  intro n
  induction n with
  | zero =>
    intro v1 v2 m0
    exact j_none
  | succ n ih =>
    intro v1 v2 m0
    unfold lX10_power_4
    refine j_iload_n (q := 2) (np := 5) rfl rfl dX10_power_4 rfl ?_
    refine j_iload_n (q := 0) (np := 6) rfl rfl dX10_power_5 rfl ?_
    refine j_icmp_ge (tgt := 19) (np := 9) dX10_power_6 rfl rfl ?_ ?_
    · refine j_sub (lv2 := [(1, .int v1)]) [1] rfl ?_
      exact j_exit (fun rr h => h)
    · refine j_iload_n (q := 1) (np := 10) rfl rfl dX10_power_9 rfl ?_
      refine j_iconst (np := 11) ci_3 dX10_power_10 rfl ?_
      refine j_imul (np := 12) dX10_power_11 rfl ?_
      refine j_istore_n (np := 13) (lv2 := [(1, .int (v1 * (3 : Int32))), (0, .int v0), (2, .int v2)]) rfl (by decide) dX10_power_12 rfl rfl ?_
      refine j_iinc (q := 2) (np := 16) (lv2 := [(2, .int (v2 + (1 : Int32))), (1, .int (v1 * (3 : Int32))), (0, .int v0)]) rfl (congrArg _ ci_1) (by decide) dX10_power_13 rfl rfl ?_
      refine j_goto (tgt := 4) dX10_power_16 rfl ?_
      refine j_sub (lv2 := [(0, .int v0), (1, .int (v1 * (3 : Int32))), (2, .int (v2 + (1 : Int32)))]) [2, 1, 0] rfl ?_
      exact ih _ _ _
def fX10_power (N : Nat) (v0 : Int32) (m0 : qM) : Option (Int32 × qM) :=
  (lX10_power_4 N v0 N (1 : Int32) (0 : Int32) m0).bind fun o1 =>
  some (o1.1, o1.2)
set_option maxRecDepth 100000 in
theorem bX10_power {E : qE} {N d bc bs : Nat} (hd : 0 ≤ d) {v0 : Int32} {m0 : qM} : qB E yX10_power cX10_power 3 (some .int) (fun _ => True) d bc bs 0 [(0, .int v0)] [] m0 (fX10_power N v0 m0) (fun b rr => rr = (some (.int b.1), b.2)) := by
  unfold fX10_power
  refine j_iconst (np := 1) ci_1 dX10_power_0 rfl ?_
  refine j_istore_n (np := 2) (lv2 := [(1, .int (1 : Int32)), (0, .int v0)]) rfl (by decide) dX10_power_1 rfl rfl ?_
  refine j_iconst (np := 3) ci_0 dX10_power_2 rfl ?_
  refine j_istore_n (np := 4) (lv2 := [(2, .int (0 : Int32)), (1, .int (1 : Int32)), (0, .int v0)]) rfl (by decide) dX10_power_3 rfl rfl ?_
  refine j_sub (lv2 := [(0, .int v0), (1, .int (1 : Int32)), (2, .int (0 : Int32))]) [2, 1, 0] rfl ?_
  refine j_loop (xp := 19) (lvX := fun o1 => [(1, .int o1.1)]) (mX := fun o1 => o1.2) (lbX10_power_4 hd _ _ _ _) (fun o1 => ?_)
  refine j_iload_n (q := 0) (np := 20) rfl rfl dX10_power_19 rfl ?_
  exact j_iret rfl dX10_power_20 (fun rr h => h)
set_option maxRecDepth 100000 in
theorem wX10_power {E : qE} {N d : Nat} (hd : 0 ≤ d) {v0 : Int32} {m0 : qM} {b : Int32 × qM} (h : fX10_power N v0 m0 = some b) : qRun E yX10_power cX10_power 3 (some .int) d 0 0 [.int v0] m0 (some (.int b.1), b.2) := q_met pnX10 (Nat.le_of_ble_eq_true rfl) (bX10_power hd b _ h rfl)
theorem dX10_refutes_0 : decode cX10_refutes 0 = .ok (.iconst 0, 1) := by decide +kernel
theorem dX10_refutes_1 : decode cX10_refutes 1 = .ok (.istore_n 3, 1) := by decide +kernel
theorem dX10_refutes_2 : decode cX10_refutes 2 = .ok (.iload_n 3, 1) := by decide +kernel
theorem dX10_refutes_3 : decode cX10_refutes 3 = .ok (.iload_n 2, 1) := by decide +kernel
theorem dX10_refutes_4 : decode cX10_refutes 4 = .ok (.invokestatic 225, 3) := by decide +kernel
theorem dX10_refutes_7 : decode cX10_refutes 7 = .ok (.if_icmp .ge 29, 3) := by decide +kernel
theorem dX10_refutes_10 : decode cX10_refutes 10 = .ok (.aload_n 0, 1) := by decide +kernel
theorem dX10_refutes_11 : decode cX10_refutes 11 = .ok (.iload_n 3, 1) := by decide +kernel
theorem dX10_refutes_12 : decode cX10_refutes 12 = .ok (.iload_n 2, 1) := by decide +kernel
theorem dX10_refutes_13 : decode cX10_refutes 13 = .ok (.invokevirtual 228, 3) := by decide +kernel
theorem dX10_refutes_16 : decode cX10_refutes 16 = .ok (.aload_n 0, 1) := by decide +kernel
theorem dX10_refutes_17 : decode cX10_refutes 17 = .ok (.aload_n 0, 1) := by decide +kernel
theorem dX10_refutes_18 : decode cX10_refutes 18 = .ok (.iload_n 1, 1) := by decide +kernel
theorem dX10_refutes_19 : decode cX10_refutes 19 = .ok (.invokevirtual 231, 3) := by decide +kernel
theorem dX10_refutes_22 : decode cX10_refutes 22 = .ok (.invokevirtual 219, 3) := by decide +kernel
theorem dX10_refutes_25 : decode cX10_refutes 25 = .ok (.ifCond .ne 5, 3) := by decide +kernel
theorem dX10_refutes_28 : decode cX10_refutes 28 = .ok (.iload_n 3, 1) := by decide +kernel
theorem dX10_refutes_29 : decode cX10_refutes 29 = .ok (.ireturn, 1) := by decide +kernel
theorem dX10_refutes_30 : decode cX10_refutes 30 = .ok (.iinc 3 1, 3) := by decide +kernel
theorem dX10_refutes_33 : decode cX10_refutes 33 = .ok (.goto (-31), 3) := by decide +kernel
theorem dX10_refutes_36 : decode cX10_refutes 36 = .ok (.iconst (-1), 1) := by decide +kernel
theorem dX10_refutes_37 : decode cX10_refutes 37 = .ok (.ireturn, 1) := by decide +kernel
def lX10_refutes_2 (N : Nat) (v0 : Nat) (v1 : Int32) (v2 : Int32) : Nat → Int32 → qM → Option ((qM) ⊕ (Int32 × qM))
  | 0, _, _ => none
  | n + 1, v3, m0 =>
    (fX10_power N v2 m0).bind fun b1 =>
    if b1.1 ≤ v3 then (
    some (.inl b1.2)
    ) else (
    (qChk b1.2 v0 10 (fX10_values N v0 v3 v2 b1.2)).bind fun b2 =>
    (qChk b2 v0 10 (fX10_valueOf N v0 v1 b2)).bind fun b3 =>
    (qChk b3.2 v0 10 (fX10_isDesignated N v0 b3.1 b3.2)).bind fun b4 =>
    if b4.1 = 0 then (
    some (.inr (v3, b4.2))
    ) else (
    lX10_refutes_2 N v0 v1 v2 n (v3 + (1 : Int32)) b4.2
    )
    )
set_option maxRecDepth 100000 in
theorem lbX10_refutes_2 {E : qE} {N d bc bs : Nat} (hd : 133 ≤ d) {v0 : Nat} {v1 : Int32} {v2 : Int32} : ∀ (n : Nat) (v3 : Int32) (m0 : qM), qB E yX10_refutes cX10_refutes 4 (some .int) (fun _ => True) d bc bs 2 [(0, .ref (E.2.1 + v0)), (1, .int v1), (2, .int v2), (3, .int v3)] [] m0 (lX10_refutes_2 N v0 v1 v2 n v3 m0) (qGL (fun o rr => qJ E yX10_refutes cX10_refutes 4 (some .int) (fun _ => True) d bc bs 36 [] [] o rr) (fun r => (some (.int r.1), r.2))) := by
  intro n
  induction n with
  | zero =>
    intro v3 m0
    exact j_none
  | succ n ih =>
    intro v3 m0
    unfold lX10_refutes_2
    refine j_iload_n (q := 3) (np := 3) rfl rfl dX10_refutes_2 rfl ?_
    refine j_iload_n (q := 2) (np := 4) rfl rfl dX10_refutes_3 rfl ?_
    refine j_callSi (np := 7) (bc := bc) (bs := bs) (cb := 0) (cs := 0) (dd := d - 1) (As := [.int v2]) (st := [.int v3]) caX10_power mlX10_225 stX10_power (fun b hb => wX10_power (by omega) hb) (by omega) rfl rfl (Nat.le_of_ble_eq_true rfl) dX10_refutes_4 rfl (fun b1 => ?_)
    refine j_icmp_ge (tgt := 36) (np := 10) dX10_refutes_7 rfl rfl ?_ ?_
    · refine j_sub (lv2 := []) [] rfl ?_
      exact j_exit (fun rr h => h)
    · refine j_aload_n (q := 0) (np := 11) rfl rfl dX10_refutes_10 rfl ?_
      refine j_iload_n (q := 3) (np := 12) rfl rfl dX10_refutes_11 rfl ?_
      refine j_iload_n (q := 2) (np := 13) rfl rfl dX10_refutes_12 rfl ?_
      refine j_callVv (ci := 10) (np := 16) (bc := bc) (bs := bs) (cb := 0) (cs := 0) (dd := d - 1) (As := [.int v3, .int v2]) (st := []) caX10_values mlX10_228 imX10_values seX10_values rfl rfl (by decide) (fun b hb => wX10_values (by omega) hb) (by omega) rfl rfl (Nat.le_of_ble_eq_true rfl) dX10_refutes_13 rfl (fun b2 => ?_)
      refine j_aload_n (q := 0) (np := 17) rfl rfl dX10_refutes_16 rfl ?_
      refine j_aload_n (q := 0) (np := 18) rfl rfl dX10_refutes_17 rfl ?_
      refine j_iload_n (q := 1) (np := 19) rfl rfl dX10_refutes_18 rfl ?_
      refine j_callVi (ci := 10) (np := 22) (bc := bc) (bs := bs) (cb := 0) (cs := 0) (dd := d - 1) (As := [.int v1]) (st := [.ref (E.2.1 + v0)]) caX10_valueOf mlX10_231 imX10_valueOf seX10_valueOf rfl rfl (by decide) (fun b hb => wX10_valueOf (by omega) hb) (by omega) rfl rfl (Nat.le_of_ble_eq_true rfl) dX10_refutes_19 rfl (fun b3 => ?_)
      refine j_callVi (ci := 10) (np := 25) (bc := bc) (bs := bs) (cb := 0) (cs := 0) (dd := d - 1) (As := [.int b3.1]) (st := []) caX10_isDesignated mlX10_219 imX10_isDesignated seX10_isDesignated rfl rfl (by decide) (fun b hb => wX10_isDesignated (by omega) hb) (by omega) rfl rfl (Nat.le_of_ble_eq_true rfl) dX10_refutes_22 rfl (fun b4 => ?_)
      refine j_if_ne (tgt := 30) (np := 28) dX10_refutes_25 rfl rfl ?_ ?_
      · refine j_iinc (q := 3) (np := 33) (lv2 := [(3, .int (v3 + (1 : Int32))), (0, .ref (E.2.1 + v0)), (1, .int v1), (2, .int v2)]) rfl (congrArg _ ci_1) (by decide) dX10_refutes_30 rfl rfl ?_
        refine j_goto (tgt := 2) dX10_refutes_33 rfl ?_
        refine j_sub (lv2 := [(0, .ref (E.2.1 + v0)), (1, .int v1), (2, .int v2), (3, .int (v3 + (1 : Int32)))]) [1, 2, 3, 0] rfl ?_
        exact ih _ _
      · refine j_iload_n (q := 3) (np := 29) rfl rfl dX10_refutes_28 rfl ?_
        exact j_iret rfl dX10_refutes_29 (fun rr h => h)
def fX10_refutes (N : Nat) (v0 : Nat) (v1 : Int32) (v2 : Int32) (m0 : qM) : Option (Int32 × qM) :=
  qTh (lX10_refutes_2 N v0 v1 v2 N (0 : Int32) m0) (fun o1 =>
  some ((-1 : Int32), o1)
  ) (fun r => r)
set_option maxRecDepth 100000 in
theorem bX10_refutes {E : qE} {N d bc bs : Nat} (hd : 133 ≤ d) {v0 : Nat} {v1 : Int32} {v2 : Int32} {m0 : qM} : qB E yX10_refutes cX10_refutes 4 (some .int) (fun _ => True) d bc bs 0 [(0, .ref (E.2.1 + v0)), (1, .int v1), (2, .int v2)] [] m0 (fX10_refutes N v0 v1 v2 m0) (fun b rr => rr = (some (.int b.1), b.2)) := by
  unfold fX10_refutes
  refine j_iconst (np := 1) ci_0 dX10_refutes_0 rfl ?_
  refine j_istore_n (np := 2) (lv2 := [(3, .int (0 : Int32)), (0, .ref (E.2.1 + v0)), (1, .int v1), (2, .int v2)]) rfl (by decide) dX10_refutes_1 rfl rfl ?_
  refine j_sub (lv2 := [(0, .ref (E.2.1 + v0)), (1, .int v1), (2, .int v2), (3, .int (0 : Int32))]) [1, 2, 3, 0] rfl ?_
  refine j_loopG (xp := 36) (lvX := fun o1 => []) (mX := fun o1 => o1) (lbX10_refutes_2 hd _ _ _) (fun r rr h => h) (fun o1 => ?_)
  refine j_iconst (np := 37) ci_m1 dX10_refutes_36 rfl ?_
  exact j_iret rfl dX10_refutes_37 (fun rr h => h)
set_option maxRecDepth 100000 in
theorem wX10_refutes {E : qE} {N d : Nat} (hd : 133 ≤ d) {v0 : Nat} {v1 : Int32} {v2 : Int32} {m0 : qM} {b : Int32 × qM} (h : fX10_refutes N v0 v1 v2 m0 = some b) : qRun E yX10_refutes cX10_refutes 4 (some .int) d 0 0 [.ref (E.2.1 + v0), .int v1, .int v2] m0 (some (.int b.1), b.2) := q_met pnX10 (Nat.le_of_ble_eq_true rfl) (bX10_refutes hd b _ h rfl)
theorem dX10_isValid_0 : decode cX10_isValid 0 = .ok (.aload_n 0, 1) := by decide +kernel
theorem dX10_isValid_1 : decode cX10_isValid 1 = .ok (.iload_n 1, 1) := by decide +kernel
theorem dX10_isValid_2 : decode cX10_isValid 2 = .ok (.invokevirtual 172, 3) := by decide +kernel
theorem dX10_isValid_5 : decode cX10_isValid 5 = .ok (.ifCond .ne 5, 3) := by decide +kernel
theorem dX10_isValid_8 : decode cX10_isValid 8 = .ok (.iconst (-1), 1) := by decide +kernel
theorem dX10_isValid_9 : decode cX10_isValid 9 = .ok (.ireturn, 1) := by decide +kernel
theorem dX10_isValid_10 : decode cX10_isValid 10 = .ok (.aload_n 0, 1) := by decide +kernel
theorem dX10_isValid_11 : decode cX10_isValid 11 = .ok (.iload_n 1, 1) := by decide +kernel
theorem dX10_isValid_12 : decode cX10_isValid 12 = .ok (.invokevirtual 193, 3) := by decide +kernel
theorem dX10_isValid_15 : decode cX10_isValid 15 = .ok (.istore_n 2, 1) := by decide +kernel
theorem dX10_isValid_16 : decode cX10_isValid 16 = .ok (.iload_n 2, 1) := by decide +kernel
theorem dX10_isValid_17 : decode cX10_isValid 17 = .ok (.bipush 8, 2) := by decide +kernel
theorem dX10_isValid_19 : decode cX10_isValid 19 = .ok (.if_icmp .le 6, 3) := by decide +kernel
theorem dX10_isValid_22 : decode cX10_isValid 22 = .ok (.bipush (-5), 2) := by decide +kernel
theorem dX10_isValid_24 : decode cX10_isValid 24 = .ok (.ireturn, 1) := by decide +kernel
theorem dX10_isValid_25 : decode cX10_isValid 25 = .ok (.aload_n 0, 1) := by decide +kernel
theorem dX10_isValid_26 : decode cX10_isValid 26 = .ok (.iload_n 1, 1) := by decide +kernel
theorem dX10_isValid_27 : decode cX10_isValid 27 = .ok (.iload_n 2, 1) := by decide +kernel
theorem dX10_isValid_28 : decode cX10_isValid 28 = .ok (.invokevirtual 234, 3) := by decide +kernel
theorem dX10_isValid_31 : decode cX10_isValid 31 = .ok (.ifCond .ge 7, 3) := by decide +kernel
theorem dX10_isValid_34 : decode cX10_isValid 34 = .ok (.iconst 1, 1) := by decide +kernel
theorem dX10_isValid_35 : decode cX10_isValid 35 = .ok (.goto 4, 3) := by decide +kernel
theorem dX10_isValid_38 : decode cX10_isValid 38 = .ok (.iconst 0, 1) := by decide +kernel
theorem dX10_isValid_39 : decode cX10_isValid 39 = .ok (.ireturn, 1) := by decide +kernel
def fX10_isValid (N : Nat) (v0 : Nat) (v1 : Int32) (m0 : qM) : Option (Int32 × qM) :=
  (qChk m0 v0 10 (fX10_isOne N v0 v1 m0)).bind fun b1 =>
  if b1.1 = 0 then (
  some ((-1 : Int32), b1.2)
  ) else (
  (qChk b1.2 v0 10 (fX10_variables N v0 v1 b1.2)).bind fun b2 =>
  if b2.1 ≤ (8 : Int32) then (
  (qChk b2.2 v0 10 (fX10_refutes N v0 v1 b2.1 b2.2)).bind fun b3 =>
  if 0 ≤ b3.1 then (
  some ((0 : Int32), b3.2)
  ) else (
  some ((1 : Int32), b3.2)
  )
  ) else (
  some ((-5 : Int32), b2.2)
  )
  )
set_option maxRecDepth 100000 in
theorem bX10_isValid {E : qE} {N d bc bs : Nat} (hd : 134 ≤ d) {v0 : Nat} {v1 : Int32} {m0 : qM} : qB E yX10_isValid cX10_isValid 3 (some .int) (fun _ => True) d bc bs 0 [(0, .ref (E.2.1 + v0)), (1, .int v1)] [] m0 (fX10_isValid N v0 v1 m0) (fun b rr => rr = (some (.int b.1), b.2)) := by
  unfold fX10_isValid
  refine j_aload_n (q := 0) (np := 1) rfl rfl dX10_isValid_0 rfl ?_
  refine j_iload_n (q := 1) (np := 2) rfl rfl dX10_isValid_1 rfl ?_
  refine j_callVi (ci := 10) (np := 5) (bc := bc) (bs := bs) (cb := 0) (cs := 0) (dd := d - 1) (As := [.int v1]) (st := []) caX10_isOne mlX10_172 imX10_isOne seX10_isOne rfl rfl (by decide) (fun b hb => wX10_isOne (by omega) hb) (by omega) rfl rfl (Nat.le_of_ble_eq_true rfl) dX10_isValid_2 rfl (fun b1 => ?_)
  refine j_if_ne (tgt := 10) (np := 8) dX10_isValid_5 rfl rfl ?_ ?_
  · refine j_aload_n (q := 0) (np := 11) rfl rfl dX10_isValid_10 rfl ?_
    refine j_iload_n (q := 1) (np := 12) rfl rfl dX10_isValid_11 rfl ?_
    refine j_callVi (ci := 10) (np := 15) (bc := bc) (bs := bs) (cb := 0) (cs := 0) (dd := d - 1) (As := [.int v1]) (st := []) caX10_variables mlX10_193 imX10_variables seX10_variables rfl rfl (by decide) (fun b hb => wX10_variables (by omega) hb) (by omega) rfl rfl (Nat.le_of_ble_eq_true rfl) dX10_isValid_12 rfl (fun b2 => ?_)
    refine j_istore_n (np := 16) (lv2 := [(2, .int b2.1), (0, .ref (E.2.1 + v0)), (1, .int v1)]) rfl (by decide) dX10_isValid_15 rfl rfl ?_
    refine j_iload_n (q := 0) (np := 17) rfl rfl dX10_isValid_16 rfl ?_
    refine j_bipush (np := 19) cb_8 dX10_isValid_17 rfl ?_
    refine j_icmp_le (tgt := 25) (np := 22) dX10_isValid_19 rfl rfl ?_ ?_
    · refine j_aload_n (q := 1) (np := 26) rfl rfl dX10_isValid_25 rfl ?_
      refine j_iload_n (q := 2) (np := 27) rfl rfl dX10_isValid_26 rfl ?_
      refine j_iload_n (q := 0) (np := 28) rfl rfl dX10_isValid_27 rfl ?_
      refine j_callVi (ci := 10) (np := 31) (bc := bc) (bs := bs) (cb := 0) (cs := 0) (dd := d - 1) (As := [.int v1, .int b2.1]) (st := []) caX10_refutes mlX10_234 imX10_refutes seX10_refutes rfl rfl (by decide) (fun b hb => wX10_refutes (by omega) hb) (by omega) rfl rfl (Nat.le_of_ble_eq_true rfl) dX10_isValid_28 rfl (fun b3 => ?_)
      refine j_if_ge (tgt := 38) (np := 34) dX10_isValid_31 rfl rfl ?_ ?_
      · refine j_iconst (np := 39) ci_0 dX10_isValid_38 rfl ?_
        exact j_iret rfl dX10_isValid_39 (fun rr h => h)
      · refine j_iconst (np := 35) ci_1 dX10_isValid_34 rfl ?_
        refine j_goto (tgt := 39) dX10_isValid_35 rfl ?_
        exact j_iret rfl dX10_isValid_39 (fun rr h => h)
    · refine j_bipush (np := 24) cb_m5 dX10_isValid_22 rfl ?_
      exact j_iret rfl dX10_isValid_24 (fun rr h => h)
  · refine j_iconst (np := 9) ci_m1 dX10_isValid_8 rfl ?_
    exact j_iret rfl dX10_isValid_9 (fun rr h => h)
set_option maxRecDepth 100000 in
theorem wX10_isValid {E : qE} {N d : Nat} (hd : 134 ≤ d) {v0 : Nat} {v1 : Int32} {m0 : qM} {b : Int32 × qM} (h : fX10_isValid N v0 v1 m0 = some b) : qRun E yX10_isValid cX10_isValid 3 (some .int) d 0 0 [.ref (E.2.1 + v0), .int v1] m0 (some (.int b.1), b.2) := q_met pnX10 (Nat.le_of_ble_eq_true rfl) (bX10_isValid hd b _ h rfl)
theorem dX10_refutation_0 : decode cX10_refutation 0 = .ok (.aload_n 0, 1) := by decide +kernel
theorem dX10_refutation_1 : decode cX10_refutation 1 = .ok (.iload_n 1, 1) := by decide +kernel
theorem dX10_refutation_2 : decode cX10_refutation 2 = .ok (.invokevirtual 172, 3) := by decide +kernel
theorem dX10_refutation_5 : decode cX10_refutation 5 = .ok (.ifCond .eq 18, 3) := by decide +kernel
theorem dX10_refutation_8 : decode cX10_refutation 8 = .ok (.iload_n 2, 1) := by decide +kernel
theorem dX10_refutation_9 : decode cX10_refutation 9 = .ok (.iconst 0, 1) := by decide +kernel
theorem dX10_refutation_10 : decode cX10_refutation 10 = .ok (.aload_n 0, 1) := by decide +kernel
theorem dX10_refutation_11 : decode cX10_refutation 11 = .ok (.iload_n 1, 1) := by decide +kernel
theorem dX10_refutation_12 : decode cX10_refutation 12 = .ok (.invokevirtual 193, 3) := by decide +kernel
theorem dX10_refutation_15 : decode cX10_refutation 15 = .ok (.iconst 1, 1) := by decide +kernel
theorem dX10_refutation_16 : decode cX10_refutation 16 = .ok (.isub, 1) := by decide +kernel
theorem dX10_refutation_17 : decode cX10_refutation 17 = .ok (.invokestatic 99, 3) := by decide +kernel
theorem dX10_refutation_20 : decode cX10_refutation 20 = .ok (.ifCond .ne 5, 3) := by decide +kernel
theorem dX10_refutation_23 : decode cX10_refutation 23 = .ok (.iconst (-1), 1) := by decide +kernel
theorem dX10_refutation_24 : decode cX10_refutation 24 = .ok (.ireturn, 1) := by decide +kernel
theorem dX10_refutation_25 : decode cX10_refutation 25 = .ok (.aload_n 0, 1) := by decide +kernel
theorem dX10_refutation_26 : decode cX10_refutation 26 = .ok (.iload_n 1, 1) := by decide +kernel
theorem dX10_refutation_27 : decode cX10_refutation 27 = .ok (.invokevirtual 193, 3) := by decide +kernel
theorem dX10_refutation_30 : decode cX10_refutation 30 = .ok (.istore_n 3, 1) := by decide +kernel
theorem dX10_refutation_31 : decode cX10_refutation 31 = .ok (.iload_n 3, 1) := by decide +kernel
theorem dX10_refutation_32 : decode cX10_refutation 32 = .ok (.bipush 8, 2) := by decide +kernel
theorem dX10_refutation_34 : decode cX10_refutation 34 = .ok (.if_icmp .le 6, 3) := by decide +kernel
theorem dX10_refutation_37 : decode cX10_refutation 37 = .ok (.bipush (-5), 2) := by decide +kernel
theorem dX10_refutation_39 : decode cX10_refutation 39 = .ok (.ireturn, 1) := by decide +kernel
theorem dX10_refutation_40 : decode cX10_refutation 40 = .ok (.aload_n 0, 1) := by decide +kernel
theorem dX10_refutation_41 : decode cX10_refutation 41 = .ok (.iload_n 1, 1) := by decide +kernel
theorem dX10_refutation_42 : decode cX10_refutation 42 = .ok (.iload_n 3, 1) := by decide +kernel
theorem dX10_refutation_43 : decode cX10_refutation 43 = .ok (.invokevirtual 234, 3) := by decide +kernel
theorem dX10_refutation_46 : decode cX10_refutation 46 = .ok (.istore 4, 2) := by decide +kernel
theorem dX10_refutation_48 : decode cX10_refutation 48 = .ok (.iload 4, 2) := by decide +kernel
theorem dX10_refutation_50 : decode cX10_refutation 50 = .ok (.ifCond .ge 6, 3) := by decide +kernel
theorem dX10_refutation_53 : decode cX10_refutation 53 = .ok (.bipush (-4), 2) := by decide +kernel
theorem dX10_refutation_55 : decode cX10_refutation 55 = .ok (.ireturn, 1) := by decide +kernel
theorem dX10_refutation_56 : decode cX10_refutation 56 = .ok (.aload_n 0, 1) := by decide +kernel
theorem dX10_refutation_57 : decode cX10_refutation 57 = .ok (.iload 4, 2) := by decide +kernel
theorem dX10_refutation_59 : decode cX10_refutation 59 = .ok (.iload_n 3, 1) := by decide +kernel
theorem dX10_refutation_60 : decode cX10_refutation 60 = .ok (.invokevirtual 228, 3) := by decide +kernel
theorem dX10_refutation_63 : decode cX10_refutation 63 = .ok (.aload_n 0, 1) := by decide +kernel
theorem dX10_refutation_64 : decode cX10_refutation 64 = .ok (.getfield 38, 3) := by decide +kernel
theorem dX10_refutation_67 : decode cX10_refutation 67 = .ok (.iload_n 2, 1) := by decide +kernel
theorem dX10_refutation_68 : decode cX10_refutation 68 = .ok (.iaload, 1) := by decide +kernel
theorem dX10_refutation_69 : decode cX10_refutation 69 = .ok (.ireturn, 1) := by decide +kernel
def fX10_refutation (N : Nat) (v0 : Nat) (v1 : Int32) (v2 : Int32) (m0 : qM) : Option (Int32 × qM) :=
  (qChk m0 v0 10 (fX10_isOne N v0 v1 m0)).bind fun b1 =>
  if b1.1 = 0 then (
  some ((-1 : Int32), b1.2)
  ) else (
  (qChk b1.2 v0 10 (fX10_variables N v0 v1 b1.2)).bind fun b2 =>
  (fX10_in N v2 (0 : Int32) (b2.1 - (1 : Int32)) b2.2).bind fun b3 =>
  if b3.1 = 0 then (
  some ((-1 : Int32), b3.2)
  ) else (
  (qChk b3.2 v0 10 (fX10_variables N v0 v1 b3.2)).bind fun b4 =>
  if b4.1 ≤ (8 : Int32) then (
  (qChk b4.2 v0 10 (fX10_refutes N v0 v1 b4.1 b4.2)).bind fun b5 =>
  if 0 ≤ b5.1 then (
  (qChk b5.2 v0 10 (fX10_values N v0 b5.1 b4.1 b5.2)).bind fun b6 =>
  (qgR b6 v0 10 14).bind fun x7 =>
  (qaI b6 x7 12 v2).bind fun x8 =>
  some (x8, b6)
  ) else (
  some ((-4 : Int32), b5.2)
  )
  ) else (
  some ((-5 : Int32), b4.2)
  )
  )
  )
set_option maxRecDepth 100000 in
theorem bX10_refutation {E : qE} {N d bc bs : Nat} (hd : 134 ≤ d) {v0 : Nat} {v1 : Int32} {v2 : Int32} {m0 : qM} : qB E yX10_refutation cX10_refutation 5 (some .int) (fun _ => True) d bc bs 0 [(0, .ref (E.2.1 + v0)), (1, .int v1), (2, .int v2)] [] m0 (fX10_refutation N v0 v1 v2 m0) (fun b rr => rr = (some (.int b.1), b.2)) := by
  unfold fX10_refutation
  refine j_aload_n (q := 0) (np := 1) rfl rfl dX10_refutation_0 rfl ?_
  refine j_iload_n (q := 1) (np := 2) rfl rfl dX10_refutation_1 rfl ?_
  refine j_callVi (ci := 10) (np := 5) (bc := bc) (bs := bs) (cb := 0) (cs := 0) (dd := d - 1) (As := [.int v1]) (st := []) caX10_isOne mlX10_172 imX10_isOne seX10_isOne rfl rfl (by decide) (fun b hb => wX10_isOne (by omega) hb) (by omega) rfl rfl (Nat.le_of_ble_eq_true rfl) dX10_refutation_2 rfl (fun b1 => ?_)
  refine j_if_eq (tgt := 23) (np := 8) dX10_refutation_5 rfl rfl ?_ ?_
  · refine j_iconst (np := 24) ci_m1 dX10_refutation_23 rfl ?_
    exact j_iret rfl dX10_refutation_24 (fun rr h => h)
  · refine j_iload_n (q := 2) (np := 9) rfl rfl dX10_refutation_8 rfl ?_
    refine j_iconst (np := 10) ci_0 dX10_refutation_9 rfl ?_
    refine j_aload_n (q := 0) (np := 11) rfl rfl dX10_refutation_10 rfl ?_
    refine j_iload_n (q := 1) (np := 12) rfl rfl dX10_refutation_11 rfl ?_
    refine j_callVi (ci := 10) (np := 15) (bc := bc) (bs := bs) (cb := 0) (cs := 0) (dd := d - 1) (As := [.int v1]) (st := [.int (0 : Int32), .int v2]) caX10_variables mlX10_193 imX10_variables seX10_variables rfl rfl (by decide) (fun b hb => wX10_variables (by omega) hb) (by omega) rfl rfl (Nat.le_of_ble_eq_true rfl) dX10_refutation_12 rfl (fun b2 => ?_)
    refine j_iconst (np := 16) ci_1 dX10_refutation_15 rfl ?_
    refine j_isub (np := 17) dX10_refutation_16 rfl ?_
    refine j_callSi (np := 20) (bc := bc) (bs := bs) (cb := 0) (cs := 0) (dd := d - 1) (As := [.int v2, .int (0 : Int32), .int (b2.1 - (1 : Int32))]) (st := []) caX10_in mlX10_99 stX10_in (fun b hb => wX10_in (by omega) hb) (by omega) rfl rfl (Nat.le_of_ble_eq_true rfl) dX10_refutation_17 rfl (fun b3 => ?_)
    refine j_if_ne (tgt := 25) (np := 23) dX10_refutation_20 rfl rfl ?_ ?_
    · refine j_aload_n (q := 0) (np := 26) rfl rfl dX10_refutation_25 rfl ?_
      refine j_iload_n (q := 1) (np := 27) rfl rfl dX10_refutation_26 rfl ?_
      refine j_callVi (ci := 10) (np := 30) (bc := bc) (bs := bs) (cb := 0) (cs := 0) (dd := d - 1) (As := [.int v1]) (st := []) caX10_variables mlX10_193 imX10_variables seX10_variables rfl rfl (by decide) (fun b hb => wX10_variables (by omega) hb) (by omega) rfl rfl (Nat.le_of_ble_eq_true rfl) dX10_refutation_27 rfl (fun b4 => ?_)
      refine j_istore_n (np := 31) (lv2 := [(3, .int b4.1), (0, .ref (E.2.1 + v0)), (1, .int v1), (2, .int v2)]) rfl (by decide) dX10_refutation_30 rfl rfl ?_
      refine j_iload_n (q := 0) (np := 32) rfl rfl dX10_refutation_31 rfl ?_
      refine j_bipush (np := 34) cb_8 dX10_refutation_32 rfl ?_
      refine j_icmp_le (tgt := 40) (np := 37) dX10_refutation_34 rfl rfl ?_ ?_
      · refine j_aload_n (q := 1) (np := 41) rfl rfl dX10_refutation_40 rfl ?_
        refine j_iload_n (q := 2) (np := 42) rfl rfl dX10_refutation_41 rfl ?_
        refine j_iload_n (q := 0) (np := 43) rfl rfl dX10_refutation_42 rfl ?_
        refine j_callVi (ci := 10) (np := 46) (bc := bc) (bs := bs) (cb := 0) (cs := 0) (dd := d - 1) (As := [.int v1, .int b4.1]) (st := []) caX10_refutes mlX10_234 imX10_refutes seX10_refutes rfl rfl (by decide) (fun b hb => wX10_refutes (by omega) hb) (by omega) rfl rfl (Nat.le_of_ble_eq_true rfl) dX10_refutation_43 rfl (fun b5 => ?_)
        refine j_istore (np := 48) (lv2 := [(4, .int b5.1), (3, .int b4.1), (0, .ref (E.2.1 + v0)), (1, .int v1), (2, .int v2)]) (by decide) dX10_refutation_46 rfl rfl ?_
        refine j_iload (q := 0) (np := 50) rfl dX10_refutation_48 rfl ?_
        refine j_if_ge (tgt := 56) (np := 53) dX10_refutation_50 rfl rfl ?_ ?_
        · refine j_aload_n (q := 2) (np := 57) rfl rfl dX10_refutation_56 rfl ?_
          refine j_iload (q := 0) (np := 59) rfl dX10_refutation_57 rfl ?_
          refine j_iload_n (q := 1) (np := 60) rfl rfl dX10_refutation_59 rfl ?_
          refine j_callVv (ci := 10) (np := 63) (bc := bc) (bs := bs) (cb := 0) (cs := 0) (dd := d - 1) (As := [.int b5.1, .int b4.1]) (st := []) caX10_values mlX10_228 imX10_values seX10_values rfl rfl (by decide) (fun b hb => wX10_values (by omega) hb) (by omega) rfl rfl (Nat.le_of_ble_eq_true rfl) dX10_refutation_60 rfl (fun b6 => ?_)
          refine j_aload_n (q := 2) (np := 64) rfl rfl dX10_refutation_63 rfl ?_
          refine j_gR (np := 67) flX10_38 dX10_refutation_64 rfl (fun x7 => ?_)
          refine j_iload_n (q := 4) (np := 68) rfl rfl dX10_refutation_67 rfl ?_
          refine j_iaload (np := 69) dX10_refutation_68 rfl (fun x8 => ?_)
          exact j_iret rfl dX10_refutation_69 (fun rr h => h)
        · refine j_bipush (np := 55) cb_m4 dX10_refutation_53 rfl ?_
          exact j_iret rfl dX10_refutation_55 (fun rr h => h)
      · refine j_bipush (np := 39) cb_m5 dX10_refutation_37 rfl ?_
        exact j_iret rfl dX10_refutation_39 (fun rr h => h)
    · refine j_iconst (np := 24) ci_m1 dX10_refutation_23 rfl ?_
      exact j_iret rfl dX10_refutation_24 (fun rr h => h)
set_option maxRecDepth 100000 in
theorem wX10_refutation {E : qE} {N d : Nat} (hd : 134 ≤ d) {v0 : Nat} {v1 : Int32} {v2 : Int32} {m0 : qM} {b : Int32 × qM} (h : fX10_refutation N v0 v1 v2 m0 = some b) : qRun E yX10_refutation cX10_refutation 5 (some .int) d 0 0 [.ref (E.2.1 + v0), .int v1, .int v2] m0 (some (.int b.1), b.2) := q_met pnX10 (Nat.le_of_ble_eq_true rfl) (bX10_refutation hd b _ h rfl)
theorem dX10_countValuations_0 : decode cX10_countValuations 0 = .ok (.aload_n 0, 1) := by decide +kernel
theorem dX10_countValuations_1 : decode cX10_countValuations 1 = .ok (.iload_n 1, 1) := by decide +kernel
theorem dX10_countValuations_2 : decode cX10_countValuations 2 = .ok (.invokevirtual 172, 3) := by decide +kernel
theorem dX10_countValuations_5 : decode cX10_countValuations 5 = .ok (.ifCond .eq 10, 3) := by decide +kernel
theorem dX10_countValuations_8 : decode cX10_countValuations 8 = .ok (.iload_n 2, 1) := by decide +kernel
theorem dX10_countValuations_9 : decode cX10_countValuations 9 = .ok (.invokestatic 216, 3) := by decide +kernel
theorem dX10_countValuations_12 : decode cX10_countValuations 12 = .ok (.ifCond .ne 5, 3) := by decide +kernel
theorem dX10_countValuations_15 : decode cX10_countValuations 15 = .ok (.iconst (-1), 1) := by decide +kernel
theorem dX10_countValuations_16 : decode cX10_countValuations 16 = .ok (.ireturn, 1) := by decide +kernel
theorem dX10_countValuations_17 : decode cX10_countValuations 17 = .ok (.aload_n 0, 1) := by decide +kernel
theorem dX10_countValuations_18 : decode cX10_countValuations 18 = .ok (.iload_n 1, 1) := by decide +kernel
theorem dX10_countValuations_19 : decode cX10_countValuations 19 = .ok (.invokevirtual 193, 3) := by decide +kernel
theorem dX10_countValuations_22 : decode cX10_countValuations 22 = .ok (.istore_n 3, 1) := by decide +kernel
theorem dX10_countValuations_23 : decode cX10_countValuations 23 = .ok (.iload_n 3, 1) := by decide +kernel
theorem dX10_countValuations_24 : decode cX10_countValuations 24 = .ok (.bipush 8, 2) := by decide +kernel
theorem dX10_countValuations_26 : decode cX10_countValuations 26 = .ok (.if_icmp .le 6, 3) := by decide +kernel
theorem dX10_countValuations_29 : decode cX10_countValuations 29 = .ok (.bipush (-5), 2) := by decide +kernel
theorem dX10_countValuations_31 : decode cX10_countValuations 31 = .ok (.ireturn, 1) := by decide +kernel
theorem dX10_countValuations_32 : decode cX10_countValuations 32 = .ok (.iconst 0, 1) := by decide +kernel
theorem dX10_countValuations_33 : decode cX10_countValuations 33 = .ok (.istore 4, 2) := by decide +kernel
theorem dX10_countValuations_35 : decode cX10_countValuations 35 = .ok (.iconst 0, 1) := by decide +kernel
theorem dX10_countValuations_36 : decode cX10_countValuations 36 = .ok (.istore 5, 2) := by decide +kernel
theorem dX10_countValuations_38 : decode cX10_countValuations 38 = .ok (.iload 5, 2) := by decide +kernel
theorem dX10_countValuations_40 : decode cX10_countValuations 40 = .ok (.iload_n 3, 1) := by decide +kernel
theorem dX10_countValuations_41 : decode cX10_countValuations 41 = .ok (.invokestatic 225, 3) := by decide +kernel
theorem dX10_countValuations_44 : decode cX10_countValuations 44 = .ok (.if_icmp .ge 28, 3) := by decide +kernel
theorem dX10_countValuations_47 : decode cX10_countValuations 47 = .ok (.aload_n 0, 1) := by decide +kernel
theorem dX10_countValuations_48 : decode cX10_countValuations 48 = .ok (.iload 5, 2) := by decide +kernel
theorem dX10_countValuations_50 : decode cX10_countValuations 50 = .ok (.iload_n 3, 1) := by decide +kernel
theorem dX10_countValuations_51 : decode cX10_countValuations 51 = .ok (.invokevirtual 228, 3) := by decide +kernel
theorem dX10_countValuations_54 : decode cX10_countValuations 54 = .ok (.aload_n 0, 1) := by decide +kernel
theorem dX10_countValuations_55 : decode cX10_countValuations 55 = .ok (.iload_n 1, 1) := by decide +kernel
theorem dX10_countValuations_56 : decode cX10_countValuations 56 = .ok (.invokevirtual 231, 3) := by decide +kernel
theorem dX10_countValuations_59 : decode cX10_countValuations 59 = .ok (.iload_n 2, 1) := by decide +kernel
theorem dX10_countValuations_60 : decode cX10_countValuations 60 = .ok (.if_icmp .ne 6, 3) := by decide +kernel
theorem dX10_countValuations_63 : decode cX10_countValuations 63 = .ok (.iinc 4 1, 3) := by decide +kernel
theorem dX10_countValuations_66 : decode cX10_countValuations 66 = .ok (.iinc 5 1, 3) := by decide +kernel
theorem dX10_countValuations_69 : decode cX10_countValuations 69 = .ok (.goto (-31), 3) := by decide +kernel
theorem dX10_countValuations_72 : decode cX10_countValuations 72 = .ok (.iload 4, 2) := by decide +kernel
theorem dX10_countValuations_74 : decode cX10_countValuations 74 = .ok (.ireturn, 1) := by decide +kernel
def kX10_countValuations_66 (N : Nat) (rec : Int32 → Int32 → qM → Option (Int32 × qM)) (v0 : Nat) (v1 : Int32) (v2 : Int32) (v3 : Int32) (v4 : Int32) (v5 : Int32)  (m0 : qM) : Option (Int32 × qM) :=
  rec v4 (v5 + (1 : Int32)) m0
set_option maxRecDepth 100000 in
theorem kbX10_countValuations_66 {E : qE} {N d bc bs : Nat} (hd : 133 ≤ d) {v0 : Nat} {v1 : Int32} {v2 : Int32} {v3 : Int32} {v4 : Int32} {v5 : Int32}  {m0 : qM} {rec : Int32 → Int32 → qM → Option (Int32 × qM)} (hrec : ∀ (v4 : Int32) (v5 : Int32) (m : qM), qB E yX10_countValuations cX10_countValuations 6 (some .int) (fun _ => True) d bc bs 38 [(0, .ref (E.2.1 + v0)), (1, .int v1), (2, .int v2), (3, .int v3), (4, .int v4), (5, .int v5)] [] m (rec v4 v5 m) (fun o rr => qJ E yX10_countValuations cX10_countValuations 6 (some .int) (fun _ => True) d bc bs 72 [(4, .int o.1)] [] o.2 rr)) : qB E yX10_countValuations cX10_countValuations 6 (some .int) (fun _ => True) d bc bs 66 [(0, .ref (E.2.1 + v0)), (1, .int v1), (2, .int v2), (3, .int v3), (4, .int v4), (5, .int v5)] [] m0 (kX10_countValuations_66 N rec v0 v1 v2 v3 v4 v5 m0) (fun o rr => qJ E yX10_countValuations cX10_countValuations 6 (some .int) (fun _ => True) d bc bs 72 [(4, .int o.1)] [] o.2 rr) := by
  unfold kX10_countValuations_66
  refine j_iinc (q := 5) (np := 69) (lv2 := [(5, .int (v5 + (1 : Int32))), (0, .ref (E.2.1 + v0)), (1, .int v1), (2, .int v2), (3, .int v3), (4, .int v4)]) rfl (congrArg _ ci_1) (by decide) dX10_countValuations_66 rfl rfl ?_
  refine j_goto (tgt := 38) dX10_countValuations_69 rfl ?_
  refine j_sub (lv2 := [(0, .ref (E.2.1 + v0)), (1, .int v1), (2, .int v2), (3, .int v3), (4, .int v4), (5, .int (v5 + (1 : Int32)))]) [1, 2, 3, 4, 5, 0] rfl ?_
  exact hrec _ _ _
def lX10_countValuations_38 (N : Nat) (v0 : Nat) (v1 : Int32) (v2 : Int32) (v3 : Int32) : Nat → Int32 → Int32 → qM → Option (Int32 × qM)
  | 0, _, _, _ => none
  | n + 1, v4, v5, m0 =>
    (fX10_power N v3 m0).bind fun b1 =>
    if b1.1 ≤ v5 then (
    some (v4, b1.2)
    ) else (
    (qChk b1.2 v0 10 (fX10_values N v0 v5 v3 b1.2)).bind fun b2 =>
    (qChk b2 v0 10 (fX10_valueOf N v0 v1 b2)).bind fun b3 =>
    if b3.1 = v2 then (
    kX10_countValuations_66 N (lX10_countValuations_38 N v0 v1 v2 v3 n) v0 v1 v2 v3 (v4 + (1 : Int32)) v5 b3.2
    ) else (
    kX10_countValuations_66 N (lX10_countValuations_38 N v0 v1 v2 v3 n) v0 v1 v2 v3 v4 v5 b3.2
    )
    )
set_option maxRecDepth 100000 in
theorem lbX10_countValuations_38 {E : qE} {N d bc bs : Nat} (hd : 133 ≤ d) {v0 : Nat} {v1 : Int32} {v2 : Int32} {v3 : Int32} : ∀ (n : Nat) (v4 : Int32) (v5 : Int32) (m0 : qM), qB E yX10_countValuations cX10_countValuations 6 (some .int) (fun _ => True) d bc bs 38 [(0, .ref (E.2.1 + v0)), (1, .int v1), (2, .int v2), (3, .int v3), (4, .int v4), (5, .int v5)] [] m0 (lX10_countValuations_38 N v0 v1 v2 v3 n v4 v5 m0) (fun o rr => qJ E yX10_countValuations cX10_countValuations 6 (some .int) (fun _ => True) d bc bs 72 [(4, .int o.1)] [] o.2 rr) := by
  intro n
  induction n with
  | zero =>
    intro v4 v5 m0
    exact j_none
  | succ n ih =>
    intro v4 v5 m0
    unfold lX10_countValuations_38
    refine j_iload (q := 5) (np := 40) rfl dX10_countValuations_38 rfl ?_
    refine j_iload_n (q := 3) (np := 41) rfl rfl dX10_countValuations_40 rfl ?_
    refine j_callSi (np := 44) (bc := bc) (bs := bs) (cb := 0) (cs := 0) (dd := d - 1) (As := [.int v3]) (st := [.int v5]) caX10_power mlX10_225 stX10_power (fun b hb => wX10_power (by omega) hb) (by omega) rfl rfl (Nat.le_of_ble_eq_true rfl) dX10_countValuations_41 rfl (fun b1 => ?_)
    refine j_icmp_ge (tgt := 72) (np := 47) dX10_countValuations_44 rfl rfl ?_ ?_
    · refine j_sub (lv2 := [(4, .int v4)]) [4] rfl ?_
      exact j_exit (fun rr h => h)
    · refine j_aload_n (q := 0) (np := 48) rfl rfl dX10_countValuations_47 rfl ?_
      refine j_iload (q := 5) (np := 50) rfl dX10_countValuations_48 rfl ?_
      refine j_iload_n (q := 3) (np := 51) rfl rfl dX10_countValuations_50 rfl ?_
      refine j_callVv (ci := 10) (np := 54) (bc := bc) (bs := bs) (cb := 0) (cs := 0) (dd := d - 1) (As := [.int v5, .int v3]) (st := []) caX10_values mlX10_228 imX10_values seX10_values rfl rfl (by decide) (fun b hb => wX10_values (by omega) hb) (by omega) rfl rfl (Nat.le_of_ble_eq_true rfl) dX10_countValuations_51 rfl (fun b2 => ?_)
      refine j_aload_n (q := 0) (np := 55) rfl rfl dX10_countValuations_54 rfl ?_
      refine j_iload_n (q := 1) (np := 56) rfl rfl dX10_countValuations_55 rfl ?_
      refine j_callVi (ci := 10) (np := 59) (bc := bc) (bs := bs) (cb := 0) (cs := 0) (dd := d - 1) (As := [.int v1]) (st := []) caX10_valueOf mlX10_231 imX10_valueOf seX10_valueOf rfl rfl (by decide) (fun b hb => wX10_valueOf (by omega) hb) (by omega) rfl rfl (Nat.le_of_ble_eq_true rfl) dX10_countValuations_56 rfl (fun b3 => ?_)
      refine j_iload_n (q := 2) (np := 60) rfl rfl dX10_countValuations_59 rfl ?_
      refine j_icmp_ne (tgt := 66) (np := 63) dX10_countValuations_60 rfl rfl ?_ ?_
      · exact kbX10_countValuations_66 hd ih
      · refine j_iinc (q := 4) (np := 66) (lv2 := [(4, .int (v4 + (1 : Int32))), (0, .ref (E.2.1 + v0)), (1, .int v1), (2, .int v2), (3, .int v3), (5, .int v5)]) rfl (congrArg _ ci_1) (by decide) dX10_countValuations_63 rfl rfl ?_
        refine j_sub (lv2 := [(0, .ref (E.2.1 + v0)), (1, .int v1), (2, .int v2), (3, .int v3), (4, .int (v4 + (1 : Int32))), (5, .int v5)]) [1, 2, 3, 4, 0, 5] rfl ?_
        exact kbX10_countValuations_66 hd ih
def fX10_countValuations (N : Nat) (v0 : Nat) (v1 : Int32) (v2 : Int32) (m0 : qM) : Option (Int32 × qM) :=
  (qChk m0 v0 10 (fX10_isOne N v0 v1 m0)).bind fun b1 =>
  if b1.1 = 0 then (
  some ((-1 : Int32), b1.2)
  ) else (
  (fX10_isValue N v2 b1.2).bind fun b2 =>
  if b2.1 = 0 then (
  some ((-1 : Int32), b2.2)
  ) else (
  (qChk b2.2 v0 10 (fX10_variables N v0 v1 b2.2)).bind fun b3 =>
  if b3.1 ≤ (8 : Int32) then (
  (lX10_countValuations_38 N v0 v1 v2 b3.1 N (0 : Int32) (0 : Int32) b3.2).bind fun o4 =>
  some (o4.1, o4.2)
  ) else (
  some ((-5 : Int32), b3.2)
  )
  )
  )
set_option maxRecDepth 100000 in
theorem bX10_countValuations {E : qE} {N d bc bs : Nat} (hd : 133 ≤ d) {v0 : Nat} {v1 : Int32} {v2 : Int32} {m0 : qM} : qB E yX10_countValuations cX10_countValuations 6 (some .int) (fun _ => True) d bc bs 0 [(0, .ref (E.2.1 + v0)), (1, .int v1), (2, .int v2)] [] m0 (fX10_countValuations N v0 v1 v2 m0) (fun b rr => rr = (some (.int b.1), b.2)) := by
  unfold fX10_countValuations
  refine j_aload_n (q := 0) (np := 1) rfl rfl dX10_countValuations_0 rfl ?_
  refine j_iload_n (q := 1) (np := 2) rfl rfl dX10_countValuations_1 rfl ?_
  refine j_callVi (ci := 10) (np := 5) (bc := bc) (bs := bs) (cb := 0) (cs := 0) (dd := d - 1) (As := [.int v1]) (st := []) caX10_isOne mlX10_172 imX10_isOne seX10_isOne rfl rfl (by decide) (fun b hb => wX10_isOne (by omega) hb) (by omega) rfl rfl (Nat.le_of_ble_eq_true rfl) dX10_countValuations_2 rfl (fun b1 => ?_)
  refine j_if_eq (tgt := 15) (np := 8) dX10_countValuations_5 rfl rfl ?_ ?_
  · refine j_iconst (np := 16) ci_m1 dX10_countValuations_15 rfl ?_
    exact j_iret rfl dX10_countValuations_16 (fun rr h => h)
  · refine j_iload_n (q := 2) (np := 9) rfl rfl dX10_countValuations_8 rfl ?_
    refine j_callSi (np := 12) (bc := bc) (bs := bs) (cb := 0) (cs := 0) (dd := d - 1) (As := [.int v2]) (st := []) caX10_isValue mlX10_216 stX10_isValue (fun b hb => wX10_isValue (by omega) hb) (by omega) rfl rfl (Nat.le_of_ble_eq_true rfl) dX10_countValuations_9 rfl (fun b2 => ?_)
    refine j_if_ne (tgt := 17) (np := 15) dX10_countValuations_12 rfl rfl ?_ ?_
    · refine j_aload_n (q := 0) (np := 18) rfl rfl dX10_countValuations_17 rfl ?_
      refine j_iload_n (q := 1) (np := 19) rfl rfl dX10_countValuations_18 rfl ?_
      refine j_callVi (ci := 10) (np := 22) (bc := bc) (bs := bs) (cb := 0) (cs := 0) (dd := d - 1) (As := [.int v1]) (st := []) caX10_variables mlX10_193 imX10_variables seX10_variables rfl rfl (by decide) (fun b hb => wX10_variables (by omega) hb) (by omega) rfl rfl (Nat.le_of_ble_eq_true rfl) dX10_countValuations_19 rfl (fun b3 => ?_)
      refine j_istore_n (np := 23) (lv2 := [(3, .int b3.1), (0, .ref (E.2.1 + v0)), (1, .int v1), (2, .int v2)]) rfl (by decide) dX10_countValuations_22 rfl rfl ?_
      refine j_iload_n (q := 0) (np := 24) rfl rfl dX10_countValuations_23 rfl ?_
      refine j_bipush (np := 26) cb_8 dX10_countValuations_24 rfl ?_
      refine j_icmp_le (tgt := 32) (np := 29) dX10_countValuations_26 rfl rfl ?_ ?_
      · refine j_iconst (np := 33) ci_0 dX10_countValuations_32 rfl ?_
        refine j_istore (np := 35) (lv2 := [(4, .int (0 : Int32)), (3, .int b3.1), (0, .ref (E.2.1 + v0)), (1, .int v1), (2, .int v2)]) (by decide) dX10_countValuations_33 rfl rfl ?_
        refine j_iconst (np := 36) ci_0 dX10_countValuations_35 rfl ?_
        refine j_istore (np := 38) (lv2 := [(5, .int (0 : Int32)), (4, .int (0 : Int32)), (3, .int b3.1), (0, .ref (E.2.1 + v0)), (1, .int v1), (2, .int v2)]) (by decide) dX10_countValuations_36 rfl rfl ?_
        refine j_sub (lv2 := [(0, .ref (E.2.1 + v0)), (1, .int v1), (2, .int v2), (3, .int b3.1), (4, .int (0 : Int32)), (5, .int (0 : Int32))]) [3, 4, 5, 2, 1, 0] rfl ?_
        refine j_loop (xp := 72) (lvX := fun o4 => [(4, .int o4.1)]) (mX := fun o4 => o4.2) (lbX10_countValuations_38 hd _ _ _ _) (fun o4 => ?_)
        refine j_iload (q := 0) (np := 74) rfl dX10_countValuations_72 rfl ?_
        exact j_iret rfl dX10_countValuations_74 (fun rr h => h)
      · refine j_bipush (np := 31) cb_m5 dX10_countValuations_29 rfl ?_
        exact j_iret rfl dX10_countValuations_31 (fun rr h => h)
    · refine j_iconst (np := 16) ci_m1 dX10_countValuations_15 rfl ?_
      exact j_iret rfl dX10_countValuations_16 (fun rr h => h)
set_option maxRecDepth 100000 in
theorem wX10_countValuations {E : qE} {N d : Nat} (hd : 133 ≤ d) {v0 : Nat} {v1 : Int32} {v2 : Int32} {m0 : qM} {b : Int32 × qM} (h : fX10_countValuations N v0 v1 v2 m0 = some b) : qRun E yX10_countValuations cX10_countValuations 6 (some .int) d 0 0 [.ref (E.2.1 + v0), .int v1, .int v2] m0 (some (.int b.1), b.2) := q_met pnX10 (Nat.le_of_ble_eq_true rfl) (bX10_countValuations hd b _ h rfl)
theorem dJ1_canEncode_9a6ad_0 : decode cJ1_canEncode_9a6ad 0 = .ok (.iload_n 0, 1) := by decide +kernel
theorem dJ1_canEncode_9a6ad_1 : decode cJ1_canEncode_9a6ad 1 = .ok (.ifCond .lt 14, 3) := by decide +kernel
theorem dJ1_canEncode_9a6ad_4 : decode cJ1_canEncode_9a6ad 4 = .ok (.iload_n 0, 1) := by decide +kernel
theorem dJ1_canEncode_9a6ad_5 : decode cJ1_canEncode_9a6ad 5 = .ok (.sipush 255, 3) := by decide +kernel
theorem dJ1_canEncode_9a6ad_8 : decode cJ1_canEncode_9a6ad 8 = .ok (.if_icmp .gt 7, 3) := by decide +kernel
theorem dJ1_canEncode_9a6ad_11 : decode cJ1_canEncode_9a6ad 11 = .ok (.iconst 1, 1) := by decide +kernel
theorem dJ1_canEncode_9a6ad_12 : decode cJ1_canEncode_9a6ad 12 = .ok (.goto 4, 3) := by decide +kernel
theorem dJ1_canEncode_9a6ad_15 : decode cJ1_canEncode_9a6ad 15 = .ok (.iconst 0, 1) := by decide +kernel
theorem dJ1_canEncode_9a6ad_16 : decode cJ1_canEncode_9a6ad 16 = .ok (.ireturn, 1) := by decide +kernel
def fJ1_canEncode_9a6ad (N : Nat) (v0 : Int32) (m0 : qM) : Option (Int32 × qM) :=
  if v0 < 0 then (
  some ((0 : Int32), m0)
  ) else (
  if (255 : Int32) < v0 then (
  some ((0 : Int32), m0)
  ) else (
  some ((1 : Int32), m0)
  )
  )
set_option maxRecDepth 100000 in
theorem bJ1_canEncode_9a6ad {E : qE} {N d bc bs : Nat} (hd : 0 ≤ d) {v0 : Int32} {m0 : qM} : qB E yJ1_canEncode_9a6ad cJ1_canEncode_9a6ad 1 (some .boolean) (fun _ => True) d bc bs 0 [(0, .int v0)] [] m0 (fJ1_canEncode_9a6ad N v0 m0) (fun b rr => rr = (some (.int b.1), b.2)) := by
  unfold fJ1_canEncode_9a6ad
  refine j_iload_n (q := 0) (np := 1) rfl rfl dJ1_canEncode_9a6ad_0 rfl ?_
  refine j_if_lt (tgt := 15) (np := 4) dJ1_canEncode_9a6ad_1 rfl rfl ?_ ?_
  · refine j_iconst (np := 16) ci_0 dJ1_canEncode_9a6ad_15 rfl ?_
    exact j_zret rfl dJ1_canEncode_9a6ad_16 (fun rr h => by rw [z0]; exact h)
  · refine j_iload_n (q := 0) (np := 5) rfl rfl dJ1_canEncode_9a6ad_4 rfl ?_
    refine j_sipush (np := 8) cs_255 dJ1_canEncode_9a6ad_5 rfl ?_
    refine j_icmp_gt (tgt := 15) (np := 11) dJ1_canEncode_9a6ad_8 rfl rfl ?_ ?_
    · refine j_iconst (np := 16) ci_0 dJ1_canEncode_9a6ad_15 rfl ?_
      exact j_zret rfl dJ1_canEncode_9a6ad_16 (fun rr h => by rw [z0]; exact h)
    · refine j_iconst (np := 12) ci_1 dJ1_canEncode_9a6ad_11 rfl ?_
      refine j_goto (tgt := 16) dJ1_canEncode_9a6ad_12 rfl ?_
      exact j_zret rfl dJ1_canEncode_9a6ad_16 (fun rr h => by rw [z1]; exact h)
set_option maxRecDepth 100000 in
theorem wJ1_canEncode_9a6ad {E : qE} {N d : Nat} (hd : 0 ≤ d) {v0 : Int32} {m0 : qM} {b : Int32 × qM} (h : fJ1_canEncode_9a6ad N v0 m0 = some b) : qRun E yJ1_canEncode_9a6ad cJ1_canEncode_9a6ad 1 (some .boolean) d 0 0 [.int v0] m0 (some (.int b.1), b.2) := q_met pnJ1 (Nat.le_of_ble_eq_true rfl) (bJ1_canEncode_9a6ad hd b _ h rfl)
theorem dJ1_indexOfChar_4cfef_0 : decode cJ1_indexOfChar_4cfef 0 = .ok (.iload_n 1, 1) := by decide +kernel
theorem dJ1_indexOfChar_4cfef_1 : decode cJ1_indexOfChar_4cfef 1 = .ok (.i2b, 1) := by decide +kernel
theorem dJ1_indexOfChar_4cfef_2 : decode cJ1_indexOfChar_4cfef 2 = .ok (.istore 4, 2) := by decide +kernel
theorem dJ1_indexOfChar_4cfef_4 : decode cJ1_indexOfChar_4cfef 4 = .ok (.iload_n 2, 1) := by decide +kernel
theorem dJ1_indexOfChar_4cfef_5 : decode cJ1_indexOfChar_4cfef 5 = .ok (.istore 5, 2) := by decide +kernel
theorem dJ1_indexOfChar_4cfef_7 : decode cJ1_indexOfChar_4cfef 7 = .ok (.iload 5, 2) := by decide +kernel
theorem dJ1_indexOfChar_4cfef_9 : decode cJ1_indexOfChar_4cfef 9 = .ok (.iload_n 3, 1) := by decide +kernel
theorem dJ1_indexOfChar_4cfef_10 : decode cJ1_indexOfChar_4cfef 10 = .ok (.if_icmp .ge 21, 3) := by decide +kernel
theorem dJ1_indexOfChar_4cfef_13 : decode cJ1_indexOfChar_4cfef 13 = .ok (.aload_n 0, 1) := by decide +kernel
theorem dJ1_indexOfChar_4cfef_14 : decode cJ1_indexOfChar_4cfef 14 = .ok (.iload 5, 2) := by decide +kernel
theorem dJ1_indexOfChar_4cfef_16 : decode cJ1_indexOfChar_4cfef 16 = .ok (.baload, 1) := by decide +kernel
theorem dJ1_indexOfChar_4cfef_17 : decode cJ1_indexOfChar_4cfef 17 = .ok (.iload 4, 2) := by decide +kernel
theorem dJ1_indexOfChar_4cfef_19 : decode cJ1_indexOfChar_4cfef 19 = .ok (.if_icmp .ne 6, 3) := by decide +kernel
theorem dJ1_indexOfChar_4cfef_22 : decode cJ1_indexOfChar_4cfef 22 = .ok (.iload 5, 2) := by decide +kernel
theorem dJ1_indexOfChar_4cfef_24 : decode cJ1_indexOfChar_4cfef 24 = .ok (.ireturn, 1) := by decide +kernel
theorem dJ1_indexOfChar_4cfef_25 : decode cJ1_indexOfChar_4cfef 25 = .ok (.iinc 5 1, 3) := by decide +kernel
theorem dJ1_indexOfChar_4cfef_28 : decode cJ1_indexOfChar_4cfef 28 = .ok (.goto (-21), 3) := by decide +kernel
theorem dJ1_indexOfChar_4cfef_31 : decode cJ1_indexOfChar_4cfef 31 = .ok (.iconst (-1), 1) := by decide +kernel
theorem dJ1_indexOfChar_4cfef_32 : decode cJ1_indexOfChar_4cfef 32 = .ok (.ireturn, 1) := by decide +kernel
def lJ1_indexOfChar_4cfef_7 (N : Nat) (v0 : Nat) (v3 : Int32) (v4 : Int32) : Nat → Int32 → qM → Option ((qM) ⊕ (Int32 × qM))
  | 0, _, _ => none
  | n + 1, v5, m0 =>
    if v3 ≤ v5 then (
    some (.inl m0)
    ) else (
    (qba v0 v5).bind fun x1 =>
    if x1 = v4 then (
    some (.inr (v5, m0))
    ) else (
    lJ1_indexOfChar_4cfef_7 N v0 v3 v4 n (v5 + (1 : Int32)) m0
    )
    )
set_option maxRecDepth 100000 in
theorem lbJ1_indexOfChar_4cfef_7 {E : qE} {N d bc bs : Nat} (hd : 0 ≤ d) {v0 : Nat} {v3 : Int32} {v4 : Int32} : ∀ (n : Nat) (v5 : Int32) (m0 : qM), qB E yJ1_indexOfChar_4cfef cJ1_indexOfChar_4cfef 6 (some .int) (fun _ => True) d bc bs 7 [(0, .ref (E.2.2.2.2.2 v0)), (3, .int v3), (4, .int v4), (5, .int v5)] [] m0 (lJ1_indexOfChar_4cfef_7 N v0 v3 v4 n v5 m0) (qGL (fun o rr => qJ E yJ1_indexOfChar_4cfef cJ1_indexOfChar_4cfef 6 (some .int) (fun _ => True) d bc bs 31 [] [] o rr) (fun r => (some (.int r.1), r.2))) := by
  intro n
  induction n with
  | zero =>
    intro v5 m0
    exact j_none
  | succ n ih =>
    intro v5 m0
    unfold lJ1_indexOfChar_4cfef_7
    refine j_iload (q := 3) (np := 9) rfl dJ1_indexOfChar_4cfef_7 rfl ?_
    refine j_iload_n (q := 1) (np := 10) rfl rfl dJ1_indexOfChar_4cfef_9 rfl ?_
    refine j_icmp_ge (tgt := 31) (np := 13) dJ1_indexOfChar_4cfef_10 rfl rfl ?_ ?_
    · refine j_sub (lv2 := []) [] rfl ?_
      exact j_exit (fun rr h => h)
    · refine j_aload_n (q := 0) (np := 14) rfl rfl dJ1_indexOfChar_4cfef_13 rfl ?_
      refine j_iload (q := 3) (np := 16) rfl dJ1_indexOfChar_4cfef_14 rfl ?_
      refine j_bal8 (np := 17) dJ1_indexOfChar_4cfef_16 rfl (fun x1 => ?_)
      refine j_iload (q := 2) (np := 19) rfl dJ1_indexOfChar_4cfef_17 rfl ?_
      refine j_icmp_ne (tgt := 25) (np := 22) dJ1_indexOfChar_4cfef_19 rfl rfl ?_ ?_
      · refine j_iinc (q := 3) (np := 28) (lv2 := [(5, .int (v5 + (1 : Int32))), (0, .ref (E.2.2.2.2.2 v0)), (3, .int v3), (4, .int v4)]) rfl (congrArg _ ci_1) (by decide) dJ1_indexOfChar_4cfef_25 rfl rfl ?_
        refine j_goto (tgt := 7) dJ1_indexOfChar_4cfef_28 rfl ?_
        refine j_sub (lv2 := [(0, .ref (E.2.2.2.2.2 v0)), (3, .int v3), (4, .int v4), (5, .int (v5 + (1 : Int32)))]) [1, 2, 3, 0] rfl ?_
        exact ih _ _
      · refine j_iload (q := 3) (np := 24) rfl dJ1_indexOfChar_4cfef_22 rfl ?_
        exact j_iret rfl dJ1_indexOfChar_4cfef_24 (fun rr h => h)
def fJ1_indexOfChar_4cfef (N : Nat) (v0 : Nat) (v1 : Int32) (v2 : Int32) (v3 : Int32) (m0 : qM) : Option (Int32 × qM) :=
  qTh (lJ1_indexOfChar_4cfef_7 N v0 v3 v1.toInt8.toInt32 N v2 m0) (fun o1 =>
  some ((-1 : Int32), o1)
  ) (fun r => r)
set_option maxRecDepth 100000 in
theorem bJ1_indexOfChar_4cfef {E : qE} {N d bc bs : Nat} (hd : 0 ≤ d) {v0 : Nat} {v1 : Int32} {v2 : Int32} {v3 : Int32} {m0 : qM} : qB E yJ1_indexOfChar_4cfef cJ1_indexOfChar_4cfef 6 (some .int) (fun _ => True) d bc bs 0 [(0, .ref (E.2.2.2.2.2 v0)), (1, .int v1), (2, .int v2), (3, .int v3)] [] m0 (fJ1_indexOfChar_4cfef N v0 v1 v2 v3 m0) (fun b rr => rr = (some (.int b.1), b.2)) := by
  unfold fJ1_indexOfChar_4cfef
  refine j_iload_n (q := 1) (np := 1) rfl rfl dJ1_indexOfChar_4cfef_0 rfl ?_
  refine j_i2b (np := 2) dJ1_indexOfChar_4cfef_1 rfl ?_
  refine j_istore (np := 4) (lv2 := [(4, .int v1.toInt8.toInt32), (0, .ref (E.2.2.2.2.2 v0)), (1, .int v1), (2, .int v2), (3, .int v3)]) (by decide) dJ1_indexOfChar_4cfef_2 rfl rfl ?_
  refine j_iload_n (q := 3) (np := 5) rfl rfl dJ1_indexOfChar_4cfef_4 rfl ?_
  refine j_istore (np := 7) (lv2 := [(5, .int v2), (4, .int v1.toInt8.toInt32), (0, .ref (E.2.2.2.2.2 v0)), (1, .int v1), (2, .int v2), (3, .int v3)]) (by decide) dJ1_indexOfChar_4cfef_5 rfl rfl ?_
  refine j_sub (lv2 := [(0, .ref (E.2.2.2.2.2 v0)), (3, .int v3), (4, .int v1.toInt8.toInt32), (5, .int v2)]) [2, 5, 1, 0] rfl ?_
  refine j_loopG (xp := 31) (lvX := fun o1 => []) (mX := fun o1 => o1) (lbJ1_indexOfChar_4cfef_7 hd _ _ _) (fun r rr h => h) (fun o1 => ?_)
  refine j_iconst (np := 32) ci_m1 dJ1_indexOfChar_4cfef_31 rfl ?_
  exact j_iret rfl dJ1_indexOfChar_4cfef_32 (fun rr h => h)
set_option maxRecDepth 100000 in
theorem wJ1_indexOfChar_4cfef {E : qE} {N d : Nat} (hd : 0 ≤ d) {v0 : Nat} {v1 : Int32} {v2 : Int32} {v3 : Int32} {m0 : qM} {b : Int32 × qM} (h : fJ1_indexOfChar_4cfef N v0 v1 v2 v3 m0 = some b) : qRun E yJ1_indexOfChar_4cfef cJ1_indexOfChar_4cfef 6 (some .int) d 0 0 [.ref (E.2.2.2.2.2 v0), .int v1, .int v2, .int v3] m0 (some (.int b.1), b.2) := q_met pnJ1 (Nat.le_of_ble_eq_true rfl) (bJ1_indexOfChar_4cfef hd b _ h rfl)
theorem dJ1_indexOf_4cfef_0 : decode cJ1_indexOf_4cfef 0 = .ok (.iload_n 1, 1) := by decide +kernel
theorem dJ1_indexOf_4cfef_1 : decode cJ1_indexOf_4cfef 1 = .ok (.invokestatic 88, 3) := by decide +kernel
theorem dJ1_indexOf_4cfef_4 : decode cJ1_indexOf_4cfef 4 = .ok (.ifCond .ne 5, 3) := by decide +kernel
theorem dJ1_indexOf_4cfef_7 : decode cJ1_indexOf_4cfef 7 = .ok (.iconst (-1), 1) := by decide +kernel
theorem dJ1_indexOf_4cfef_8 : decode cJ1_indexOf_4cfef 8 = .ok (.ireturn, 1) := by decide +kernel
theorem dJ1_indexOf_4cfef_9 : decode cJ1_indexOf_4cfef 9 = .ok (.iload_n 2, 1) := by decide +kernel
theorem dJ1_indexOf_4cfef_10 : decode cJ1_indexOf_4cfef 10 = .ok (.iconst 0, 1) := by decide +kernel
theorem dJ1_indexOf_4cfef_11 : decode cJ1_indexOf_4cfef 11 = .ok (.invokestatic 92, 3) := by decide +kernel
theorem dJ1_indexOf_4cfef_14 : decode cJ1_indexOf_4cfef 14 = .ok (.istore_n 2, 1) := by decide +kernel
theorem dJ1_indexOf_4cfef_15 : decode cJ1_indexOf_4cfef 15 = .ok (.iload_n 3, 1) := by decide +kernel
theorem dJ1_indexOf_4cfef_16 : decode cJ1_indexOf_4cfef 16 = .ok (.aload_n 0, 1) := by decide +kernel
theorem dJ1_indexOf_4cfef_17 : decode cJ1_indexOf_4cfef 17 = .ok (.arraylength, 1) := by decide +kernel
theorem dJ1_indexOf_4cfef_18 : decode cJ1_indexOf_4cfef 18 = .ok (.invokestatic 38, 3) := by decide +kernel
theorem dJ1_indexOf_4cfef_21 : decode cJ1_indexOf_4cfef 21 = .ok (.istore_n 3, 1) := by decide +kernel
theorem dJ1_indexOf_4cfef_22 : decode cJ1_indexOf_4cfef 22 = .ok (.iload_n 2, 1) := by decide +kernel
theorem dJ1_indexOf_4cfef_23 : decode cJ1_indexOf_4cfef 23 = .ok (.iload_n 3, 1) := by decide +kernel
theorem dJ1_indexOf_4cfef_24 : decode cJ1_indexOf_4cfef 24 = .ok (.if_icmp .lt 5, 3) := by decide +kernel
theorem dJ1_indexOf_4cfef_27 : decode cJ1_indexOf_4cfef 27 = .ok (.iconst (-1), 1) := by decide +kernel
theorem dJ1_indexOf_4cfef_28 : decode cJ1_indexOf_4cfef 28 = .ok (.ireturn, 1) := by decide +kernel
theorem dJ1_indexOf_4cfef_29 : decode cJ1_indexOf_4cfef 29 = .ok (.aload_n 0, 1) := by decide +kernel
theorem dJ1_indexOf_4cfef_30 : decode cJ1_indexOf_4cfef 30 = .ok (.iload_n 1, 1) := by decide +kernel
theorem dJ1_indexOf_4cfef_31 : decode cJ1_indexOf_4cfef 31 = .ok (.iload_n 2, 1) := by decide +kernel
theorem dJ1_indexOf_4cfef_32 : decode cJ1_indexOf_4cfef 32 = .ok (.iload_n 3, 1) := by decide +kernel
theorem dJ1_indexOf_4cfef_33 : decode cJ1_indexOf_4cfef 33 = .ok (.invokestatic 95, 3) := by decide +kernel
theorem dJ1_indexOf_4cfef_36 : decode cJ1_indexOf_4cfef 36 = .ok (.ireturn, 1) := by decide +kernel
def fJ1_indexOf_4cfef (N : Nat) (v0 : Nat) (v1 : Int32) (v2 : Int32) (v3 : Int32) (m0 : qM) : Option (Int32 × qM) :=
  (fJ1_canEncode_9a6ad N v1 m0).bind fun b1 =>
  if b1.1 = 0 then (
  some ((-1 : Int32), b1.2)
  ) else (
  (qbl v0).bind fun x2 =>
  if (if v2 < (0 : Int32) then (0 : Int32) else v2) < (if x2 < v3 then x2 else v3) then (
  (fJ1_indexOfChar_4cfef N v0 v1 (if v2 < (0 : Int32) then (0 : Int32) else v2) (if x2 < v3 then x2 else v3) b1.2).bind fun b3 =>
  some (b3.1, b3.2)
  ) else (
  some ((-1 : Int32), b1.2)
  )
  )
set_option maxRecDepth 100000 in
theorem bJ1_indexOf_4cfef {E : qE} {N d bc bs : Nat} (hd : 1 ≤ d) {v0 : Nat} {v1 : Int32} {v2 : Int32} {v3 : Int32} {m0 : qM} : qB E yJ1_indexOf_4cfef cJ1_indexOf_4cfef 4 (some .int) (fun _ => True) d bc bs 0 [(0, .ref (E.2.2.2.2.2 v0)), (1, .int v1), (2, .int v2), (3, .int v3)] [] m0 (fJ1_indexOf_4cfef N v0 v1 v2 v3 m0) (fun b rr => rr = (some (.int b.1), b.2)) := by
  unfold fJ1_indexOf_4cfef
  refine j_iload_n (q := 1) (np := 1) rfl rfl dJ1_indexOf_4cfef_0 rfl ?_
  refine j_callSi (np := 4) (bc := bc) (bs := bs) (cb := 0) (cs := 0) (dd := d - 1) (As := [.int v1]) (st := []) caJ1_canEncode_9a6ad mlJ1_88 stJ1_canEncode_9a6ad (fun b hb => wJ1_canEncode_9a6ad (by omega) hb) (by omega) rfl rfl (Nat.le_of_ble_eq_true rfl) dJ1_indexOf_4cfef_1 rfl (fun b1 => ?_)
  refine j_if_ne (tgt := 9) (np := 7) dJ1_indexOf_4cfef_4 rfl rfl ?_ ?_
  · refine j_iload_n (q := 2) (np := 10) rfl rfl dJ1_indexOf_4cfef_9 rfl ?_
    refine j_iconst (np := 11) ci_0 dJ1_indexOf_4cfef_10 rfl ?_
    refine j_max (np := 14) mlJ1_92 stmax inMath cdmax (by omega) (Nat.le_of_ble_eq_true rfl) dJ1_indexOf_4cfef_11 rfl ?_
    refine j_istore_n (np := 15) (lv2 := [(2, .int (if v2 < (0 : Int32) then (0 : Int32) else v2)), (0, .ref (E.2.2.2.2.2 v0)), (1, .int v1), (3, .int v3)]) rfl (by decide) dJ1_indexOf_4cfef_14 rfl rfl ?_
    refine j_iload_n (q := 3) (np := 16) rfl rfl dJ1_indexOf_4cfef_15 rfl ?_
    refine j_aload_n (q := 1) (np := 17) rfl rfl dJ1_indexOf_4cfef_16 rfl ?_
    refine j_blen (np := 18) dJ1_indexOf_4cfef_17 rfl (fun x2 => ?_)
    refine j_min (np := 21) mlJ1_38 stmin inMath cdmin (by omega) (Nat.le_of_ble_eq_true rfl) dJ1_indexOf_4cfef_18 rfl ?_
    refine j_istore_n (np := 22) (lv2 := [(3, .int (if x2 < v3 then x2 else v3)), (2, .int (if v2 < (0 : Int32) then (0 : Int32) else v2)), (0, .ref (E.2.2.2.2.2 v0)), (1, .int v1)]) rfl (by decide) dJ1_indexOf_4cfef_21 rfl rfl ?_
    refine j_iload_n (q := 1) (np := 23) rfl rfl dJ1_indexOf_4cfef_22 rfl ?_
    refine j_iload_n (q := 0) (np := 24) rfl rfl dJ1_indexOf_4cfef_23 rfl ?_
    refine j_icmp_lt (tgt := 29) (np := 27) dJ1_indexOf_4cfef_24 rfl rfl ?_ ?_
    · refine j_aload_n (q := 2) (np := 30) rfl rfl dJ1_indexOf_4cfef_29 rfl ?_
      refine j_iload_n (q := 3) (np := 31) rfl rfl dJ1_indexOf_4cfef_30 rfl ?_
      refine j_iload_n (q := 1) (np := 32) rfl rfl dJ1_indexOf_4cfef_31 rfl ?_
      refine j_iload_n (q := 0) (np := 33) rfl rfl dJ1_indexOf_4cfef_32 rfl ?_
      refine j_callSi (np := 36) (bc := bc) (bs := bs) (cb := 0) (cs := 0) (dd := d - 1) (As := [.ref (E.2.2.2.2.2 v0), .int v1, .int (if v2 < (0 : Int32) then (0 : Int32) else v2), .int (if x2 < v3 then x2 else v3)]) (st := []) caJ1_indexOfChar_4cfef mlJ1_95 stJ1_indexOfChar_4cfef (fun b hb => wJ1_indexOfChar_4cfef (by omega) hb) (by omega) rfl rfl (Nat.le_of_ble_eq_true rfl) dJ1_indexOf_4cfef_33 rfl (fun b3 => ?_)
      exact j_iret rfl dJ1_indexOf_4cfef_36 (fun rr h => h)
    · refine j_iconst (np := 28) ci_m1 dJ1_indexOf_4cfef_27 rfl ?_
      exact j_iret rfl dJ1_indexOf_4cfef_28 (fun rr h => h)
  · refine j_iconst (np := 8) ci_m1 dJ1_indexOf_4cfef_7 rfl ?_
    exact j_iret rfl dJ1_indexOf_4cfef_8 (fun rr h => h)
set_option maxRecDepth 100000 in
theorem wJ1_indexOf_4cfef {E : qE} {N d : Nat} (hd : 1 ≤ d) {v0 : Nat} {v1 : Int32} {v2 : Int32} {v3 : Int32} {m0 : qM} {b : Int32 × qM} (h : fJ1_indexOf_4cfef N v0 v1 v2 v3 m0 = some b) : qRun E yJ1_indexOf_4cfef cJ1_indexOf_4cfef 4 (some .int) d 0 0 [.ref (E.2.2.2.2.2 v0), .int v1, .int v2, .int v3] m0 (some (.int b.1), b.2) := q_met pnJ1 (Nat.le_of_ble_eq_true rfl) (bJ1_indexOf_4cfef hd b _ h rfl)
theorem dJ0_indexOf_7cf53_0 : decode cJ0_indexOf_7cf53 0 = .ok (.aload_n 0, 1) := by decide +kernel
theorem dJ0_indexOf_7cf53_1 : decode cJ0_indexOf_7cf53 1 = .ok (.invokevirtual 492, 3) := by decide +kernel
theorem dJ0_indexOf_7cf53_4 : decode cJ0_indexOf_7cf53 4 = .ok (.ifCond .eq 19, 3) := by decide +kernel
theorem dJ0_indexOf_7cf53_7 : decode cJ0_indexOf_7cf53 7 = .ok (.aload_n 0, 1) := by decide +kernel
theorem dJ0_indexOf_7cf53_8 : decode cJ0_indexOf_7cf53 8 = .ok (.getfield 9, 3) := by decide +kernel
theorem dJ0_indexOf_7cf53_11 : decode cJ0_indexOf_7cf53 11 = .ok (.iload_n 1, 1) := by decide +kernel
theorem dJ0_indexOf_7cf53_12 : decode cJ0_indexOf_7cf53 12 = .ok (.iload_n 2, 1) := by decide +kernel
theorem dJ0_indexOf_7cf53_13 : decode cJ0_indexOf_7cf53 13 = .ok (.aload_n 0, 1) := by decide +kernel
theorem dJ0_indexOf_7cf53_14 : decode cJ0_indexOf_7cf53 14 = .ok (.invokevirtual 505, 3) := by decide +kernel
theorem dJ0_indexOf_7cf53_17 : decode cJ0_indexOf_7cf53 17 = .ok (.invokestatic 637, 3) := by decide +kernel
theorem dJ0_indexOf_7cf53_20 : decode cJ0_indexOf_7cf53 20 = .ok (.goto 16, 3) := by decide +kernel
theorem dJ0_indexOf_7cf53_23 : decode cJ0_indexOf_7cf53 23 = .ok (.aload_n 0, 1) := by decide +kernel
theorem dJ0_indexOf_7cf53_36 : decode cJ0_indexOf_7cf53 36 = .ok (.ireturn, 1) := by decide +kernel
def fJ0_indexOf_7cf53 (N : Nat) (v0 : Nat) (v1 : Int32) (v2 : Int32) (m0 : qM) : Option (Int32 × qM) :=
  (qChs v0 (fJ0_isLatin1_aae02 N v0 m0)).bind fun b1 =>
  if b1.1 = 0 then (
  none
  ) else (
  (qsv v0).bind fun x2 =>
  (qChs v0 (fJ0_length_8abf5 N v0 b1.2)).bind fun b3 =>
  (fJ1_indexOf_4cfef N x2 v1 v2 b3.1 b3.2).bind fun b4 =>
  some (b4.1, b4.2)
  )
set_option maxRecDepth 100000 in
theorem bJ0_indexOf_7cf53 {E : qE} {N d bc bs : Nat} (hd : 2 ≤ d) {v0 : Nat} {v1 : Int32} {v2 : Int32} {m0 : qM} : qB E yJ0_indexOf_7cf53 cJ0_indexOf_7cf53 3 (some .int) (fun _ => True) d bc bs 0 [(0, .ref (E.2.2.2.2.1 v0)), (1, .int v1), (2, .int v2)] [] m0 (fJ0_indexOf_7cf53 N v0 v1 v2 m0) (fun b rr => rr = (some (.int b.1), b.2)) := by
  unfold fJ0_indexOf_7cf53
  refine j_aload_n (q := 0) (np := 1) rfl rfl dJ0_indexOf_7cf53_0 rfl ?_
  refine j_callT (np := 4) (dd := d - 1) (As := []) (st := []) caJ0_isLatin1_aae02 mlJ0_492 imJ0_isLatin1_aae02 seJ0_isLatin1_aae02 rfl (fun b hb => wJ0_isLatin1_aae02 (by omega) hb) (by omega) rfl rfl (Nat.le_of_ble_eq_true rfl) dJ0_indexOf_7cf53_1 rfl (fun b1 => ?_)
  refine j_if_eq (tgt := 23) (np := 7) dJ0_indexOf_7cf53_4 rfl rfl ?_ ?_
  · exact j_none
  · refine j_aload_n (q := 0) (np := 8) rfl rfl dJ0_indexOf_7cf53_7 rfl ?_
    refine j_sval (np := 11) flJ0_9 dJ0_indexOf_7cf53_8 rfl (fun x2 => ?_)
    refine j_iload_n (q := 1) (np := 12) rfl rfl dJ0_indexOf_7cf53_11 rfl ?_
    refine j_iload_n (q := 2) (np := 13) rfl rfl dJ0_indexOf_7cf53_12 rfl ?_
    refine j_aload_n (q := 0) (np := 14) rfl rfl dJ0_indexOf_7cf53_13 rfl ?_
    refine j_callT (np := 17) (dd := d - 1) (As := []) (st := [.int v2, .int v1, .ref (E.2.2.2.2.2 x2)]) caJ0_length_8abf5 mlJ0_505 imJ0_length_8abf5 seJ0_length_8abf5 rfl (fun b hb => wJ0_length_8abf5 (by omega) hb) (by omega) rfl rfl (Nat.le_of_ble_eq_true rfl) dJ0_indexOf_7cf53_14 rfl (fun b3 => ?_)
    refine j_callSi (np := 20) (bc := bc) (bs := bs) (cb := 0) (cs := 0) (dd := d - 1) (As := [.ref (E.2.2.2.2.2 x2), .int v1, .int v2, .int b3.1]) (st := []) caJ1_indexOf_4cfef mlJ0_637 stJ1_indexOf_4cfef (fun b hb => wJ1_indexOf_4cfef (by omega) hb) (by omega) rfl rfl (Nat.le_of_ble_eq_true rfl) dJ0_indexOf_7cf53_17 rfl (fun b4 => ?_)
    refine j_goto (tgt := 36) dJ0_indexOf_7cf53_20 rfl ?_
    exact j_iret rfl dJ0_indexOf_7cf53_36 (fun rr h => h)
set_option maxRecDepth 100000 in
theorem wJ0_indexOf_7cf53 {E : qE} {N d : Nat} (hd : 2 ≤ d) {v0 : Nat} {v1 : Int32} {v2 : Int32} {m0 : qM} {b : Int32 × qM} (h : fJ0_indexOf_7cf53 N v0 v1 v2 m0 = some b) : qRun E yJ0_indexOf_7cf53 cJ0_indexOf_7cf53 3 (some .int) d 0 0 [.ref (E.2.2.2.2.1 v0), .int v1, .int v2] m0 (some (.int b.1), b.2) := q_met pnJ0 (Nat.le_of_ble_eq_true rfl) (bJ0_indexOf_7cf53 hd b _ h rfl)
theorem dJ0_indexOf_0f7a4_0 : decode cJ0_indexOf_0f7a4 0 = .ok (.aload_n 0, 1) := by decide +kernel
theorem dJ0_indexOf_0f7a4_1 : decode cJ0_indexOf_0f7a4 1 = .ok (.iload_n 1, 1) := by decide +kernel
theorem dJ0_indexOf_0f7a4_2 : decode cJ0_indexOf_0f7a4 2 = .ok (.iconst 0, 1) := by decide +kernel
theorem dJ0_indexOf_0f7a4_3 : decode cJ0_indexOf_0f7a4 3 = .ok (.invokevirtual 633, 3) := by decide +kernel
theorem dJ0_indexOf_0f7a4_6 : decode cJ0_indexOf_0f7a4 6 = .ok (.ireturn, 1) := by decide +kernel
def fJ0_indexOf_0f7a4 (N : Nat) (v0 : Nat) (v1 : Int32) (m0 : qM) : Option (Int32 × qM) :=
  (qChs v0 (fJ0_indexOf_7cf53 N v0 v1 (0 : Int32) m0)).bind fun b1 =>
  some (b1.1, b1.2)
set_option maxRecDepth 100000 in
theorem bJ0_indexOf_0f7a4 {E : qE} {N d bc bs : Nat} (hd : 3 ≤ d) {v0 : Nat} {v1 : Int32} {m0 : qM} : qB E yJ0_indexOf_0f7a4 cJ0_indexOf_0f7a4 2 (some .int) (fun _ => True) d bc bs 0 [(0, .ref (E.2.2.2.2.1 v0)), (1, .int v1)] [] m0 (fJ0_indexOf_0f7a4 N v0 v1 m0) (fun b rr => rr = (some (.int b.1), b.2)) := by
  unfold fJ0_indexOf_0f7a4
  refine j_aload_n (q := 0) (np := 1) rfl rfl dJ0_indexOf_0f7a4_0 rfl ?_
  refine j_iload_n (q := 1) (np := 2) rfl rfl dJ0_indexOf_0f7a4_1 rfl ?_
  refine j_iconst (np := 3) ci_0 dJ0_indexOf_0f7a4_2 rfl ?_
  refine j_callT (np := 6) (dd := d - 1) (As := [.int v1, .int (0 : Int32)]) (st := []) caJ0_indexOf_7cf53 mlJ0_633 imJ0_indexOf_7cf53 seJ0_indexOf_7cf53 rfl (fun b hb => wJ0_indexOf_7cf53 (by omega) hb) (by omega) rfl rfl (Nat.le_of_ble_eq_true rfl) dJ0_indexOf_0f7a4_3 rfl (fun b1 => ?_)
  exact j_iret rfl dJ0_indexOf_0f7a4_6 (fun rr h => h)
set_option maxRecDepth 100000 in
theorem wJ0_indexOf_0f7a4 {E : qE} {N d : Nat} (hd : 3 ≤ d) {v0 : Nat} {v1 : Int32} {m0 : qM} {b : Int32 × qM} (h : fJ0_indexOf_0f7a4 N v0 v1 m0 = some b) : qRun E yJ0_indexOf_0f7a4 cJ0_indexOf_0f7a4 2 (some .int) d 0 0 [.ref (E.2.2.2.2.1 v0), .int v1] m0 (some (.int b.1), b.2) := q_met pnJ0 (Nat.le_of_ble_eq_true rfl) (bJ0_indexOf_0f7a4 hd b _ h rfl)
theorem dX10_isTerm_0 : decode cX10_isTerm 0 = .ok (.iconst 0, 1) := by decide +kernel
theorem dX10_isTerm_1 : decode cX10_isTerm 1 = .ok (.istore_n 1, 1) := by decide +kernel
theorem dX10_isTerm_2 : decode cX10_isTerm 2 = .ok (.iconst 0, 1) := by decide +kernel
theorem dX10_isTerm_3 : decode cX10_isTerm 3 = .ok (.istore_n 2, 1) := by decide +kernel
theorem dX10_isTerm_4 : decode cX10_isTerm 4 = .ok (.iconst 0, 1) := by decide +kernel
theorem dX10_isTerm_5 : decode cX10_isTerm 5 = .ok (.istore_n 3, 1) := by decide +kernel
theorem dX10_isTerm_6 : decode cX10_isTerm 6 = .ok (.iload_n 3, 1) := by decide +kernel
theorem dX10_isTerm_7 : decode cX10_isTerm 7 = .ok (.aload_n 0, 1) := by decide +kernel
theorem dX10_isTerm_8 : decode cX10_isTerm 8 = .ok (.getfield 103, 3) := by decide +kernel
theorem dX10_isTerm_11 : decode cX10_isTerm 11 = .ok (.if_icmp .ge 82, 3) := by decide +kernel
theorem dX10_isTerm_14 : decode cX10_isTerm 14 = .ok (.aload_n 0, 1) := by decide +kernel
theorem dX10_isTerm_15 : decode cX10_isTerm 15 = .ok (.getfield 25, 3) := by decide +kernel
theorem dX10_isTerm_18 : decode cX10_isTerm 18 = .ok (.iload_n 3, 1) := by decide +kernel
theorem dX10_isTerm_19 : decode cX10_isTerm 19 = .ok (.iaload, 1) := by decide +kernel
theorem dX10_isTerm_20 : decode cX10_isTerm 20 = .ok (.istore 4, 2) := by decide +kernel
theorem dX10_isTerm_22 : decode cX10_isTerm 22 = .ok (.aload_n 0, 1) := by decide +kernel
theorem dX10_isTerm_23 : decode cX10_isTerm 23 = .ok (.iload_n 3, 1) := by decide +kernel
theorem dX10_isTerm_24 : decode cX10_isTerm 24 = .ok (.putfield 112, 3) := by decide +kernel
theorem dX10_isTerm_27 : decode cX10_isTerm 27 = .ok (.iload 4, 2) := by decide +kernel
theorem dX10_isTerm_29 : decode cX10_isTerm 29 = .ok (.bipush 40, 2) := by decide +kernel
theorem dX10_isTerm_31 : decode cX10_isTerm 31 = .ok (.if_icmp .ne 19, 3) := by decide +kernel
theorem dX10_isTerm_34 : decode cX10_isTerm 34 = .ok (.iload_n 1, 1) := by decide +kernel
theorem dX10_isTerm_35 : decode cX10_isTerm 35 = .ok (.bipush 8, 2) := by decide +kernel
theorem dX10_isTerm_37 : decode cX10_isTerm 37 = .ok (.if_icmp .ne 5, 3) := by decide +kernel
theorem dX10_isTerm_40 : decode cX10_isTerm 40 = .ok (.iconst 0, 1) := by decide +kernel
theorem dX10_isTerm_41 : decode cX10_isTerm 41 = .ok (.ireturn, 1) := by decide +kernel
theorem dX10_isTerm_42 : decode cX10_isTerm 42 = .ok (.iinc 1 1, 3) := by decide +kernel
theorem dX10_isTerm_45 : decode cX10_isTerm 45 = .ok (.iconst 0, 1) := by decide +kernel
theorem dX10_isTerm_46 : decode cX10_isTerm 46 = .ok (.istore_n 2, 1) := by decide +kernel
theorem dX10_isTerm_47 : decode cX10_isTerm 47 = .ok (.goto 40, 3) := by decide +kernel
theorem dX10_isTerm_50 : decode cX10_isTerm 50 = .ok (.iload 4, 2) := by decide +kernel
theorem dX10_isTerm_52 : decode cX10_isTerm 52 = .ok (.bipush 41, 2) := by decide +kernel
theorem dX10_isTerm_54 : decode cX10_isTerm 54 = .ok (.if_icmp .ne 19, 3) := by decide +kernel
theorem dX10_isTerm_57 : decode cX10_isTerm 57 = .ok (.iload_n 1, 1) := by decide +kernel
theorem dX10_isTerm_58 : decode cX10_isTerm 58 = .ok (.ifCond .eq 7, 3) := by decide +kernel
theorem dX10_isTerm_61 : decode cX10_isTerm 61 = .ok (.iload_n 2, 1) := by decide +kernel
theorem dX10_isTerm_62 : decode cX10_isTerm 62 = .ok (.ifCond .ne 5, 3) := by decide +kernel
theorem dX10_isTerm_65 : decode cX10_isTerm 65 = .ok (.iconst 0, 1) := by decide +kernel
theorem dX10_isTerm_66 : decode cX10_isTerm 66 = .ok (.ireturn, 1) := by decide +kernel
theorem dX10_isTerm_67 : decode cX10_isTerm 67 = .ok (.iinc 1 (-1), 3) := by decide +kernel
theorem dX10_isTerm_70 : decode cX10_isTerm 70 = .ok (.goto 17, 3) := by decide +kernel
theorem dX10_isTerm_73 : decode cX10_isTerm 73 = .ok (.ldc 237, 2) := by decide +kernel
theorem dX10_isTerm_75 : decode cX10_isTerm 75 = .ok (.iload 4, 2) := by decide +kernel
theorem dX10_isTerm_77 : decode cX10_isTerm 77 = .ok (.invokevirtual 239, 3) := by decide +kernel
theorem dX10_isTerm_80 : decode cX10_isTerm 80 = .ok (.ifCond .ge 5, 3) := by decide +kernel
theorem dX10_isTerm_83 : decode cX10_isTerm 83 = .ok (.iconst 0, 1) := by decide +kernel
theorem dX10_isTerm_84 : decode cX10_isTerm 84 = .ok (.ireturn, 1) := by decide +kernel
theorem dX10_isTerm_85 : decode cX10_isTerm 85 = .ok (.iconst 1, 1) := by decide +kernel
theorem dX10_isTerm_86 : decode cX10_isTerm 86 = .ok (.istore_n 2, 1) := by decide +kernel
theorem dX10_isTerm_87 : decode cX10_isTerm 87 = .ok (.iinc 3 1, 3) := by decide +kernel
theorem dX10_isTerm_90 : decode cX10_isTerm 90 = .ok (.goto (-84), 3) := by decide +kernel
theorem dX10_isTerm_93 : decode cX10_isTerm 93 = .ok (.aload_n 0, 1) := by decide +kernel
theorem dX10_isTerm_94 : decode cX10_isTerm 94 = .ok (.aload_n 0, 1) := by decide +kernel
theorem dX10_isTerm_95 : decode cX10_isTerm 95 = .ok (.getfield 103, 3) := by decide +kernel
theorem dX10_isTerm_98 : decode cX10_isTerm 98 = .ok (.putfield 112, 3) := by decide +kernel
theorem dX10_isTerm_101 : decode cX10_isTerm 101 = .ok (.iload_n 2, 1) := by decide +kernel
theorem dX10_isTerm_102 : decode cX10_isTerm 102 = .ok (.ifCond .eq 11, 3) := by decide +kernel
theorem dX10_isTerm_105 : decode cX10_isTerm 105 = .ok (.iload_n 1, 1) := by decide +kernel
theorem dX10_isTerm_106 : decode cX10_isTerm 106 = .ok (.ifCond .ne 7, 3) := by decide +kernel
theorem dX10_isTerm_109 : decode cX10_isTerm 109 = .ok (.iconst 1, 1) := by decide +kernel
theorem dX10_isTerm_110 : decode cX10_isTerm 110 = .ok (.goto 4, 3) := by decide +kernel
theorem dX10_isTerm_113 : decode cX10_isTerm 113 = .ok (.iconst 0, 1) := by decide +kernel
theorem dX10_isTerm_114 : decode cX10_isTerm 114 = .ok (.ireturn, 1) := by decide +kernel
def kX10_isTerm_87 (N : Nat) (rec : Int32 → Int32 → Int32 → qM → Option ((Int32 × Int32 × qM) ⊕ (Int32 × qM))) (v0 : Nat) (v1 : Int32) (v2 : Int32) (v3 : Int32)  (m0 : qM) : Option ((Int32 × Int32 × qM) ⊕ (Int32 × qM)) :=
  rec v1 v2 (v3 + (1 : Int32)) m0
set_option maxRecDepth 100000 in
theorem kbX10_isTerm_87 {E : qE} {N d bc bs : Nat} (hd : 4 ≤ d) {v0 : Nat} {v1 : Int32} {v2 : Int32} {v3 : Int32}  {m0 : qM} {rec : Int32 → Int32 → Int32 → qM → Option ((Int32 × Int32 × qM) ⊕ (Int32 × qM))} (hrec : ∀ (v1 : Int32) (v2 : Int32) (v3 : Int32) (m : qM), qB E yX10_isTerm cX10_isTerm 5 (some .boolean) (fun _ => True) d bc bs 6 [(0, .ref (E.2.1 + v0)), (1, .int v1), (2, .int v2), (3, .int v3)] [] m (rec v1 v2 v3 m) (qGL (fun o rr => qJ E yX10_isTerm cX10_isTerm 5 (some .boolean) (fun _ => True) d bc bs 93 [(0, .ref (E.2.1 + v0)), (1, .int o.1), (2, .int o.2.1)] [] o.2.2 rr) (fun r => (some (.int r.1), r.2)))) : qB E yX10_isTerm cX10_isTerm 5 (some .boolean) (fun _ => True) d bc bs 87 [(0, .ref (E.2.1 + v0)), (1, .int v1), (2, .int v2), (3, .int v3)] [] m0 (kX10_isTerm_87 N rec v0 v1 v2 v3 m0) (qGL (fun o rr => qJ E yX10_isTerm cX10_isTerm 5 (some .boolean) (fun _ => True) d bc bs 93 [(0, .ref (E.2.1 + v0)), (1, .int o.1), (2, .int o.2.1)] [] o.2.2 rr) (fun r => (some (.int r.1), r.2))) := by
  unfold kX10_isTerm_87
  refine j_iinc (q := 3) (np := 90) (lv2 := [(3, .int (v3 + (1 : Int32))), (0, .ref (E.2.1 + v0)), (1, .int v1), (2, .int v2)]) rfl (congrArg _ ci_1) (by decide) dX10_isTerm_87 rfl rfl ?_
  refine j_goto (tgt := 6) dX10_isTerm_90 rfl ?_
  refine j_sub (lv2 := [(0, .ref (E.2.1 + v0)), (1, .int v1), (2, .int v2), (3, .int (v3 + (1 : Int32)))]) [1, 2, 3, 0] rfl ?_
  exact hrec _ _ _ _
def lX10_isTerm_6 (N : Nat) (v0 : Nat) : Nat → Int32 → Int32 → Int32 → qM → Option ((Int32 × Int32 × qM) ⊕ (Int32 × qM))
  | 0, _, _, _, _ => none
  | n + 1, v1, v2, v3, m0 =>
    (qgI m0 v0 10 7).bind fun x1 =>
    if x1 ≤ v3 then (
    some (.inl (v1, v2, m0))
    ) else (
    (qgR m0 v0 10 6).bind fun x2 =>
    (qaI m0 x2 12 v3).bind fun x3 =>
    (qpI m0 v0 10 9 v3).bind fun m4 =>
    if x3 = (40 : Int32) then (
    if v1 = (8 : Int32) then (
    some (.inr ((0 : Int32), m4))
    ) else (
    kX10_isTerm_87 N (lX10_isTerm_6 N v0 n) v0 (v1 + (1 : Int32)) (0 : Int32) v3 m4
    )
    ) else (
    if x3 = (41 : Int32) then (
    if v1 = 0 then (
    some (.inr ((0 : Int32), m4))
    ) else (
    if v2 = 0 then (
    some (.inr ((0 : Int32), m4))
    ) else (
    kX10_isTerm_87 N (lX10_isTerm_6 N v0 n) v0 (v1 + (-1 : Int32)) v2 v3 m4
    )
    )
    ) else (
    (qChs 11 (fJ0_indexOf_0f7a4 N 11 x3 m4)).bind fun b5 =>
    if 0 ≤ b5.1 then (
    kX10_isTerm_87 N (lX10_isTerm_6 N v0 n) v0 v1 (1 : Int32) v3 b5.2
    ) else (
    some (.inr ((0 : Int32), b5.2))
    )
    )
    )
    )
set_option maxRecDepth 100000 in
theorem lbX10_isTerm_6 {E : qE} {N d bc bs : Nat} (hd : 4 ≤ d) {v0 : Nat} : ∀ (n : Nat) (v1 : Int32) (v2 : Int32) (v3 : Int32) (m0 : qM), qB E yX10_isTerm cX10_isTerm 5 (some .boolean) (fun _ => True) d bc bs 6 [(0, .ref (E.2.1 + v0)), (1, .int v1), (2, .int v2), (3, .int v3)] [] m0 (lX10_isTerm_6 N v0 n v1 v2 v3 m0) (qGL (fun o rr => qJ E yX10_isTerm cX10_isTerm 5 (some .boolean) (fun _ => True) d bc bs 93 [(0, .ref (E.2.1 + v0)), (1, .int o.1), (2, .int o.2.1)] [] o.2.2 rr) (fun r => (some (.int r.1), r.2))) := by
  intro n
  induction n with
  | zero =>
    intro v1 v2 v3 m0
    exact j_none
  | succ n ih =>
    intro v1 v2 v3 m0
    unfold lX10_isTerm_6
    refine j_iload_n (q := 3) (np := 7) rfl rfl dX10_isTerm_6 rfl ?_
    refine j_aload_n (q := 0) (np := 8) rfl rfl dX10_isTerm_7 rfl ?_
    refine j_gI (np := 11) flX10_103 dX10_isTerm_8 rfl (fun x1 => ?_)
    refine j_icmp_ge (tgt := 93) (np := 14) dX10_isTerm_11 rfl rfl ?_ ?_
    · refine j_sub (lv2 := [(0, .ref (E.2.1 + v0)), (1, .int v1), (2, .int v2)]) [0, 1, 2] rfl ?_
      exact j_exit (fun rr h => h)
    · refine j_aload_n (q := 0) (np := 15) rfl rfl dX10_isTerm_14 rfl ?_
      refine j_gR (np := 18) flX10_25 dX10_isTerm_15 rfl (fun x2 => ?_)
      refine j_iload_n (q := 3) (np := 19) rfl rfl dX10_isTerm_18 rfl ?_
      refine j_iaload (np := 20) dX10_isTerm_19 rfl (fun x3 => ?_)
      refine j_istore (np := 22) (lv2 := [(4, .int x3), (0, .ref (E.2.1 + v0)), (1, .int v1), (2, .int v2), (3, .int v3)]) (by decide) dX10_isTerm_20 rfl rfl ?_
      refine j_aload_n (q := 1) (np := 23) rfl rfl dX10_isTerm_22 rfl ?_
      refine j_iload_n (q := 4) (np := 24) rfl rfl dX10_isTerm_23 rfl ?_
      refine j_pI (np := 27) flX10_112 dX10_isTerm_24 rfl (fun m4 => ?_)
      refine j_iload (q := 0) (np := 29) rfl dX10_isTerm_27 rfl ?_
      refine j_bipush (np := 31) cb_40 dX10_isTerm_29 rfl ?_
      refine j_icmp_ne (tgt := 50) (np := 34) dX10_isTerm_31 rfl rfl ?_ ?_
      · refine j_iload (q := 0) (np := 52) rfl dX10_isTerm_50 rfl ?_
        refine j_bipush (np := 54) cb_41 dX10_isTerm_52 rfl ?_
        refine j_icmp_ne (tgt := 73) (np := 57) dX10_isTerm_54 rfl rfl ?_ ?_
        · refine j_ldcS (np := 75) (k := 11) (List.mem_of_getElem? (i := 11) rfl) dX10_isTerm_73 rfl ?_
          refine j_iload (q := 0) (np := 77) rfl dX10_isTerm_75 rfl ?_
          refine j_callT (np := 80) (dd := d - 1) (As := [.int x3]) (st := []) caJ0_indexOf_0f7a4 mlX10_239 imJ0_indexOf_0f7a4 seJ0_indexOf_0f7a4 rfl (fun b hb => wJ0_indexOf_0f7a4 (by omega) hb) (by omega) rfl rfl (Nat.le_of_ble_eq_true rfl) dX10_isTerm_77 rfl (fun b5 => ?_)
          refine j_if_ge (tgt := 85) (np := 83) dX10_isTerm_80 rfl rfl ?_ ?_
          · refine j_iconst (np := 86) ci_1 dX10_isTerm_85 rfl ?_
            refine j_istore_n (np := 87) (lv2 := [(2, .int (1 : Int32)), (4, .int x3), (0, .ref (E.2.1 + v0)), (1, .int v1), (3, .int v3)]) rfl (by decide) dX10_isTerm_86 rfl rfl ?_
            refine j_sub (lv2 := [(0, .ref (E.2.1 + v0)), (1, .int v1), (2, .int (1 : Int32)), (3, .int v3)]) [2, 3, 0, 4] rfl ?_
            exact kbX10_isTerm_87 hd ih
          · refine j_iconst (np := 84) ci_0 dX10_isTerm_83 rfl ?_
            exact j_zret rfl dX10_isTerm_84 (fun rr h => by rw [z0]; exact h)
        · refine j_iload_n (q := 2) (np := 58) rfl rfl dX10_isTerm_57 rfl ?_
          refine j_if_eq (tgt := 65) (np := 61) dX10_isTerm_58 rfl rfl ?_ ?_
          · refine j_iconst (np := 66) ci_0 dX10_isTerm_65 rfl ?_
            exact j_zret rfl dX10_isTerm_66 (fun rr h => by rw [z0]; exact h)
          · refine j_iload_n (q := 3) (np := 62) rfl rfl dX10_isTerm_61 rfl ?_
            refine j_if_ne (tgt := 67) (np := 65) dX10_isTerm_62 rfl rfl ?_ ?_
            · refine j_iinc (q := 2) (np := 70) (lv2 := [(1, .int (v1 + (-1 : Int32))), (4, .int x3), (0, .ref (E.2.1 + v0)), (2, .int v2), (3, .int v3)]) rfl (congrArg _ ci_m1) (by decide) dX10_isTerm_67 rfl rfl ?_
              refine j_goto (tgt := 87) dX10_isTerm_70 rfl ?_
              refine j_sub (lv2 := [(0, .ref (E.2.1 + v0)), (1, .int (v1 + (-1 : Int32))), (2, .int v2), (3, .int v3)]) [2, 0, 3, 4] rfl ?_
              exact kbX10_isTerm_87 hd ih
            · refine j_iconst (np := 66) ci_0 dX10_isTerm_65 rfl ?_
              exact j_zret rfl dX10_isTerm_66 (fun rr h => by rw [z0]; exact h)
      · refine j_iload_n (q := 2) (np := 35) rfl rfl dX10_isTerm_34 rfl ?_
        refine j_bipush (np := 37) cb_8 dX10_isTerm_35 rfl ?_
        refine j_icmp_ne (tgt := 42) (np := 40) dX10_isTerm_37 rfl rfl ?_ ?_
        · refine j_iinc (q := 2) (np := 45) (lv2 := [(1, .int (v1 + (1 : Int32))), (4, .int x3), (0, .ref (E.2.1 + v0)), (2, .int v2), (3, .int v3)]) rfl (congrArg _ ci_1) (by decide) dX10_isTerm_42 rfl rfl ?_
          refine j_iconst (np := 46) ci_0 dX10_isTerm_45 rfl ?_
          refine j_istore_n (np := 47) (lv2 := [(2, .int (0 : Int32)), (1, .int (v1 + (1 : Int32))), (4, .int x3), (0, .ref (E.2.1 + v0)), (3, .int v3)]) rfl (by decide) dX10_isTerm_46 rfl rfl ?_
          refine j_goto (tgt := 87) dX10_isTerm_47 rfl ?_
          refine j_sub (lv2 := [(0, .ref (E.2.1 + v0)), (1, .int (v1 + (1 : Int32))), (2, .int (0 : Int32)), (3, .int v3)]) [3, 1, 0, 4] rfl ?_
          exact kbX10_isTerm_87 hd ih
        · refine j_iconst (np := 41) ci_0 dX10_isTerm_40 rfl ?_
          exact j_zret rfl dX10_isTerm_41 (fun rr h => by rw [z0]; exact h)
def fX10_isTerm (N : Nat) (v0 : Nat) (m0 : qM) : Option (Int32 × qM) :=
  qTh (lX10_isTerm_6 N v0 N (0 : Int32) (0 : Int32) (0 : Int32) m0) (fun o1 =>
  (qgI o1.2.2 v0 10 7).bind fun x2 =>
  (qpI o1.2.2 v0 10 9 x2).bind fun m3 =>
  if o1.2.1 = 0 then (
  some ((0 : Int32), m3)
  ) else (
  if o1.1 = 0 then (
  some ((1 : Int32), m3)
  ) else (
  some ((0 : Int32), m3)
  )
  )
  ) (fun r => r)
set_option maxRecDepth 100000 in
theorem bX10_isTerm {E : qE} {N d bc bs : Nat} (hd : 4 ≤ d) {v0 : Nat} {m0 : qM} : qB E yX10_isTerm cX10_isTerm 5 (some .boolean) (fun _ => True) d bc bs 0 [(0, .ref (E.2.1 + v0))] [] m0 (fX10_isTerm N v0 m0) (fun b rr => rr = (some (.int b.1), b.2)) := by
  unfold fX10_isTerm
  refine j_iconst (np := 1) ci_0 dX10_isTerm_0 rfl ?_
  refine j_istore_n (np := 2) (lv2 := [(1, .int (0 : Int32)), (0, .ref (E.2.1 + v0))]) rfl (by decide) dX10_isTerm_1 rfl rfl ?_
  refine j_iconst (np := 3) ci_0 dX10_isTerm_2 rfl ?_
  refine j_istore_n (np := 4) (lv2 := [(2, .int (0 : Int32)), (1, .int (0 : Int32)), (0, .ref (E.2.1 + v0))]) rfl (by decide) dX10_isTerm_3 rfl rfl ?_
  refine j_iconst (np := 5) ci_0 dX10_isTerm_4 rfl ?_
  refine j_istore_n (np := 6) (lv2 := [(3, .int (0 : Int32)), (2, .int (0 : Int32)), (1, .int (0 : Int32)), (0, .ref (E.2.1 + v0))]) rfl (by decide) dX10_isTerm_5 rfl rfl ?_
  refine j_sub (lv2 := [(0, .ref (E.2.1 + v0)), (1, .int (0 : Int32)), (2, .int (0 : Int32)), (3, .int (0 : Int32))]) [3, 2, 1, 0] rfl ?_
  refine j_loopG (xp := 93) (lvX := fun o1 => [(0, .ref (E.2.1 + v0)), (1, .int o1.1), (2, .int o1.2.1)]) (mX := fun o1 => o1.2.2) (lbX10_isTerm_6 hd _ _ _ _ _) (fun r rr h => h) (fun o1 => ?_)
  refine j_aload_n (q := 0) (np := 94) rfl rfl dX10_isTerm_93 rfl ?_
  refine j_aload_n (q := 0) (np := 95) rfl rfl dX10_isTerm_94 rfl ?_
  refine j_gI (np := 98) flX10_103 dX10_isTerm_95 rfl (fun x2 => ?_)
  refine j_pI (np := 101) flX10_112 dX10_isTerm_98 rfl (fun m3 => ?_)
  refine j_iload_n (q := 2) (np := 102) rfl rfl dX10_isTerm_101 rfl ?_
  refine j_if_eq (tgt := 113) (np := 105) dX10_isTerm_102 rfl rfl ?_ ?_
  · refine j_iconst (np := 114) ci_0 dX10_isTerm_113 rfl ?_
    exact j_zret rfl dX10_isTerm_114 (fun rr h => by rw [z0]; exact h)
  · refine j_iload_n (q := 1) (np := 106) rfl rfl dX10_isTerm_105 rfl ?_
    refine j_if_ne (tgt := 113) (np := 109) dX10_isTerm_106 rfl rfl ?_ ?_
    · refine j_iconst (np := 114) ci_0 dX10_isTerm_113 rfl ?_
      exact j_zret rfl dX10_isTerm_114 (fun rr h => by rw [z0]; exact h)
    · refine j_iconst (np := 110) ci_1 dX10_isTerm_109 rfl ?_
      refine j_goto (tgt := 114) dX10_isTerm_110 rfl ?_
      exact j_zret rfl dX10_isTerm_114 (fun rr h => by rw [z1]; exact h)
set_option maxRecDepth 100000 in
theorem wX10_isTerm {E : qE} {N d : Nat} (hd : 4 ≤ d) {v0 : Nat} {m0 : qM} {b : Int32 × qM} (h : fX10_isTerm N v0 m0 = some b) : qRun E yX10_isTerm cX10_isTerm 5 (some .boolean) d 0 0 [.ref (E.2.1 + v0)] m0 (some (.int b.1), b.2) := q_met pnX10 (Nat.le_of_ble_eq_true rfl) (bX10_isTerm hd b _ h rfl)
theorem dX10_typeOf_0 : decode cX10_typeOf 0 = .ok (.iload_n 0, 1) := by decide +kernel
theorem dX10_typeOf_1 : decode cX10_typeOf 1 = .ok (.tableswitch 50 0 4 #[35, 38, 41, 44, 47], 35) := by decide +kernel
theorem dX10_typeOf_36 : decode cX10_typeOf 36 = .ok (.ldc 244, 2) := by decide +kernel
theorem dX10_typeOf_38 : decode cX10_typeOf 38 = .ok (.areturn, 1) := by decide +kernel
theorem dX10_typeOf_39 : decode cX10_typeOf 39 = .ok (.ldc 246, 2) := by decide +kernel
theorem dX10_typeOf_41 : decode cX10_typeOf 41 = .ok (.areturn, 1) := by decide +kernel
theorem dX10_typeOf_42 : decode cX10_typeOf 42 = .ok (.ldc 248, 2) := by decide +kernel
theorem dX10_typeOf_44 : decode cX10_typeOf 44 = .ok (.areturn, 1) := by decide +kernel
theorem dX10_typeOf_45 : decode cX10_typeOf 45 = .ok (.ldc 250, 2) := by decide +kernel
theorem dX10_typeOf_47 : decode cX10_typeOf 47 = .ok (.areturn, 1) := by decide +kernel
theorem dX10_typeOf_48 : decode cX10_typeOf 48 = .ok (.ldc 252, 2) := by decide +kernel
theorem dX10_typeOf_50 : decode cX10_typeOf 50 = .ok (.areturn, 1) := by decide +kernel
theorem dX10_typeOf_51 : decode cX10_typeOf 51 = .ok (.ldc 254, 2) := by decide +kernel
theorem dX10_typeOf_53 : decode cX10_typeOf 53 = .ok (.areturn, 1) := by decide +kernel
def fX10_typeOf (N : Nat) (v0 : Int32) (m0 : qM) : Option (Nat × qM) :=
  if v0 = (0 : Int32) then (
  some (1, m0)
  ) else (
  if v0 = (1 : Int32) then (
  some (0, m0)
  ) else (
  if v0 = (2 : Int32) then (
  some (5, m0)
  ) else (
  if v0 = (3 : Int32) then (
  some (2, m0)
  ) else (
  if v0 = (4 : Int32) then (
  some (3, m0)
  ) else (
  some (4, m0)
  )))))
set_option maxRecDepth 100000 in
theorem bX10_typeOf {E : qE} {N d bc bs : Nat} (hd : 0 ≤ d) {v0 : Int32} {m0 : qM} : qB E yX10_typeOf cX10_typeOf 1 (some (.object "java/lang/String")) (fun _ => True) d bc bs 0 [(0, .int v0)] [] m0 (fX10_typeOf N v0 m0) (fun b rr => rr = (some (.ref (E.2.2.2.2.1 b.1)), b.2)) := by
  unfold fX10_typeOf
  refine j_iload_n (q := 0) (np := 1) rfl rfl dX10_typeOf_0 rfl ?_
  refine j_split (fun h0 => ?_) (fun h0 => ?_)
  · refine j_tableIn (off := 35) (tgt := 36) dX10_typeOf_1 (by rw [h0]; decide) (by rw [h0]; decide) (by rw [h0]; decide) rfl ?_
    refine j_ldcS (np := 38) (k := 1) (List.mem_of_getElem? (i := 12) rfl) dX10_typeOf_36 rfl ?_
    exact j_aret rfl dX10_typeOf_38 (fun rr h => h)
  refine j_split (fun h1 => ?_) (fun h1 => ?_)
  · refine j_tableIn (off := 38) (tgt := 39) dX10_typeOf_1 (by rw [h1]; decide) (by rw [h1]; decide) (by rw [h1]; decide) rfl ?_
    refine j_ldcS (np := 41) (k := 0) (List.mem_of_getElem? (i := 13) rfl) dX10_typeOf_39 rfl ?_
    exact j_aret rfl dX10_typeOf_41 (fun rr h => h)
  refine j_split (fun h2 => ?_) (fun h2 => ?_)
  · refine j_tableIn (off := 41) (tgt := 42) dX10_typeOf_1 (by rw [h2]; decide) (by rw [h2]; decide) (by rw [h2]; decide) rfl ?_
    refine j_ldcS (np := 44) (k := 5) (List.mem_of_getElem? (i := 14) rfl) dX10_typeOf_42 rfl ?_
    exact j_aret rfl dX10_typeOf_44 (fun rr h => h)
  refine j_split (fun h3 => ?_) (fun h3 => ?_)
  · refine j_tableIn (off := 44) (tgt := 45) dX10_typeOf_1 (by rw [h3]; decide) (by rw [h3]; decide) (by rw [h3]; decide) rfl ?_
    refine j_ldcS (np := 47) (k := 2) (List.mem_of_getElem? (i := 15) rfl) dX10_typeOf_45 rfl ?_
    exact j_aret rfl dX10_typeOf_47 (fun rr h => h)
  refine j_split (fun h4 => ?_) (fun h4 => ?_)
  · refine j_tableIn (off := 47) (tgt := 48) dX10_typeOf_1 (by rw [h4]; decide) (by rw [h4]; decide) (by rw [h4]; decide) rfl ?_
    refine j_ldcS (np := 50) (k := 3) (List.mem_of_getElem? (i := 16) rfl) dX10_typeOf_48 rfl ?_
    exact j_aret rfl dX10_typeOf_50 (fun rr h => h)
  refine j_tableOut (tgt := 51) dX10_typeOf_1 (by have g0 := lv_neT (a := 0) h0 (by decide); have g1 := lv_neT (a := 1) h1 (by decide); have g2 := lv_neT (a := 2) h2 (by decide); have g3 := lv_neT (a := 3) h3 (by decide); have g4 := lv_neT (a := 4) h4 (by decide); omega) rfl ?_
  refine j_ldcS (np := 53) (k := 4) (List.mem_of_getElem? (i := 17) rfl) dX10_typeOf_51 rfl ?_
  exact j_aret rfl dX10_typeOf_53 (fun rr h => h)
set_option maxRecDepth 100000 in
theorem wX10_typeOf {E : qE} {N d : Nat} (hd : 0 ≤ d) {v0 : Int32} {m0 : qM} {b : Nat × qM} (h : fX10_typeOf N v0 m0 = some b) : qRun E yX10_typeOf cX10_typeOf 1 (some (.object "java/lang/String")) d 0 0 [.int v0] m0 (some (.ref (E.2.2.2.2.1 b.1)), b.2) := q_met pnX10 (Nat.le_of_ble_eq_true rfl) (bX10_typeOf hd b _ h rfl)
theorem dX10_keepsType_0 : decode cX10_keepsType 0 = .ok (.aload_n 0, 1) := by decide +kernel
theorem dX10_keepsType_1 : decode cX10_keepsType 1 = .ok (.getfield 84, 3) := by decide +kernel
theorem dX10_keepsType_4 : decode cX10_keepsType 4 = .ok (.aload_n 0, 1) := by decide +kernel
theorem dX10_keepsType_5 : decode cX10_keepsType 5 = .ok (.getfield 256, 3) := by decide +kernel
theorem dX10_keepsType_8 : decode cX10_keepsType 8 = .ok (.aload_n 0, 1) := by decide +kernel
theorem dX10_keepsType_9 : decode cX10_keepsType 9 = .ok (.getfield 109, 3) := by decide +kernel
theorem dX10_keepsType_12 : decode cX10_keepsType 12 = .ok (.iastore, 1) := by decide +kernel
theorem dX10_keepsType_13 : decode cX10_keepsType 13 = .ok (.iconst 0, 1) := by decide +kernel
theorem dX10_keepsType_14 : decode cX10_keepsType 14 = .ok (.istore_n 1, 1) := by decide +kernel
theorem dX10_keepsType_15 : decode cX10_keepsType 15 = .ok (.iload_n 1, 1) := by decide +kernel
theorem dX10_keepsType_16 : decode cX10_keepsType 16 = .ok (.aload_n 0, 1) := by decide +kernel
theorem dX10_keepsType_17 : decode cX10_keepsType 17 = .ok (.getfield 109, 3) := by decide +kernel
theorem dX10_keepsType_20 : decode cX10_keepsType 20 = .ok (.if_icmp .ge 29, 3) := by decide +kernel
theorem dX10_keepsType_23 : decode cX10_keepsType 23 = .ok (.aload_n 0, 1) := by decide +kernel
theorem dX10_keepsType_24 : decode cX10_keepsType 24 = .ok (.getfield 81, 3) := by decide +kernel
theorem dX10_keepsType_27 : decode cX10_keepsType 27 = .ok (.bipush 39, 2) := by decide +kernel
theorem dX10_keepsType_29 : decode cX10_keepsType 29 = .ok (.aload_n 0, 1) := by decide +kernel
theorem dX10_keepsType_30 : decode cX10_keepsType 30 = .ok (.getfield 256, 3) := by decide +kernel
theorem dX10_keepsType_33 : decode cX10_keepsType 33 = .ok (.imul, 1) := by decide +kernel
theorem dX10_keepsType_34 : decode cX10_keepsType 34 = .ok (.iload_n 1, 1) := by decide +kernel
theorem dX10_keepsType_35 : decode cX10_keepsType 35 = .ok (.iadd, 1) := by decide +kernel
theorem dX10_keepsType_36 : decode cX10_keepsType 36 = .ok (.aload_n 0, 1) := by decide +kernel
theorem dX10_keepsType_37 : decode cX10_keepsType 37 = .ok (.getfield 66, 3) := by decide +kernel
theorem dX10_keepsType_40 : decode cX10_keepsType 40 = .ok (.iload_n 1, 1) := by decide +kernel
theorem dX10_keepsType_41 : decode cX10_keepsType 41 = .ok (.iaload, 1) := by decide +kernel
theorem dX10_keepsType_42 : decode cX10_keepsType 42 = .ok (.iastore, 1) := by decide +kernel
theorem dX10_keepsType_43 : decode cX10_keepsType 43 = .ok (.iinc 1 1, 3) := by decide +kernel
theorem dX10_keepsType_46 : decode cX10_keepsType 46 = .ok (.goto (-31), 3) := by decide +kernel
theorem dX10_keepsType_49 : decode cX10_keepsType 49 = .ok (.aload_n 0, 1) := by decide +kernel
theorem dX10_keepsType_50 : decode cX10_keepsType 50 = .ok (.dup, 1) := by decide +kernel
theorem dX10_keepsType_51 : decode cX10_keepsType 51 = .ok (.getfield 256, 3) := by decide +kernel
theorem dX10_keepsType_54 : decode cX10_keepsType 54 = .ok (.iconst 1, 1) := by decide +kernel
theorem dX10_keepsType_55 : decode cX10_keepsType 55 = .ok (.iadd, 1) := by decide +kernel
theorem dX10_keepsType_56 : decode cX10_keepsType 56 = .ok (.putfield 256, 3) := by decide +kernel
theorem dX10_keepsType_59 : decode cX10_keepsType 59 = .ok (.return_, 1) := by decide +kernel
def lX10_keepsType_15 (N : Nat) (v0 : Nat) : Nat → Int32 → qM → Option (qM)
  | 0, _, _ => none
  | n + 1, v1, m0 =>
    (qgI m0 v0 10 27).bind fun x1 =>
    if x1 ≤ v1 then (
    some m0
    ) else (
    (qgR m0 v0 10 33).bind fun x2 =>
    (qgI m0 v0 10 35).bind fun x3 =>
    (qgR m0 v0 10 26).bind fun x4 =>
    (qaI m0 x4 12 v1).bind fun x5 =>
    (qwI m0 x2 12 (((39 : Int32) * x3) + v1) x5).bind fun m6 =>
    lX10_keepsType_15 N v0 n (v1 + (1 : Int32)) m6
    )
set_option maxRecDepth 100000 in
theorem lbX10_keepsType_15 {E : qE} {N d bc bs : Nat} (hd : 0 ≤ d) {v0 : Nat} : ∀ (n : Nat) (v1 : Int32) (m0 : qM), qB E yX10_keepsType cX10_keepsType 2 none (fun _ => True) d bc bs 15 [(0, .ref (E.2.1 + v0)), (1, .int v1)] [] m0 (lX10_keepsType_15 N v0 n v1 m0) (fun o rr => qJ E yX10_keepsType cX10_keepsType 2 none (fun _ => True) d bc bs 49 [(0, .ref (E.2.1 + v0))] [] o rr) := by
  intro n
  induction n with
  | zero =>
    intro v1 m0
    exact j_none
  | succ n ih =>
    intro v1 m0
    unfold lX10_keepsType_15
    refine j_iload_n (q := 1) (np := 16) rfl rfl dX10_keepsType_15 rfl ?_
    refine j_aload_n (q := 0) (np := 17) rfl rfl dX10_keepsType_16 rfl ?_
    refine j_gI (np := 20) flX10_109 dX10_keepsType_17 rfl (fun x1 => ?_)
    refine j_icmp_ge (tgt := 49) (np := 23) dX10_keepsType_20 rfl rfl ?_ ?_
    · refine j_sub (lv2 := [(0, .ref (E.2.1 + v0))]) [0] rfl ?_
      exact j_exit (fun rr h => h)
    · refine j_aload_n (q := 0) (np := 24) rfl rfl dX10_keepsType_23 rfl ?_
      refine j_gR (np := 27) flX10_81 dX10_keepsType_24 rfl (fun x2 => ?_)
      refine j_bipush (np := 29) cb_39 dX10_keepsType_27 rfl ?_
      refine j_aload_n (q := 0) (np := 30) rfl rfl dX10_keepsType_29 rfl ?_
      refine j_gI (np := 33) flX10_256 dX10_keepsType_30 rfl (fun x3 => ?_)
      refine j_imul (np := 34) dX10_keepsType_33 rfl ?_
      refine j_iload_n (q := 1) (np := 35) rfl rfl dX10_keepsType_34 rfl ?_
      refine j_iadd (np := 36) dX10_keepsType_35 rfl ?_
      refine j_aload_n (q := 0) (np := 37) rfl rfl dX10_keepsType_36 rfl ?_
      refine j_gR (np := 40) flX10_66 dX10_keepsType_37 rfl (fun x4 => ?_)
      refine j_iload_n (q := 1) (np := 41) rfl rfl dX10_keepsType_40 rfl ?_
      refine j_iaload (np := 42) dX10_keepsType_41 rfl (fun x5 => ?_)
      refine j_iastore (np := 43) dX10_keepsType_42 rfl (fun m6 => ?_)
      refine j_iinc (q := 1) (np := 46) (lv2 := [(1, .int (v1 + (1 : Int32))), (0, .ref (E.2.1 + v0))]) rfl (congrArg _ ci_1) (by decide) dX10_keepsType_43 rfl rfl ?_
      refine j_goto (tgt := 15) dX10_keepsType_46 rfl ?_
      refine j_sub (lv2 := [(0, .ref (E.2.1 + v0)), (1, .int (v1 + (1 : Int32)))]) [1, 0] rfl ?_
      exact ih _ _
def fX10_keepsType (N : Nat) (v0 : Nat) (m0 : qM) : Option (qM) :=
  (qgR m0 v0 10 34).bind fun x1 =>
  (qgI m0 v0 10 35).bind fun x2 =>
  (qgI m0 v0 10 27).bind fun x3 =>
  (qwI m0 x1 12 x2 x3).bind fun m4 =>
  (lX10_keepsType_15 N v0 N (0 : Int32) m4).bind fun o5 =>
  (qgI o5 v0 10 35).bind fun x6 =>
  (qpI o5 v0 10 35 (x6 + (1 : Int32))).bind fun m7 =>
  some m7
set_option maxRecDepth 100000 in
theorem bX10_keepsType {E : qE} {N d bc bs : Nat} (hd : 0 ≤ d) {v0 : Nat} {m0 : qM} : qB E yX10_keepsType cX10_keepsType 2 none (fun _ => True) d bc bs 0 [(0, .ref (E.2.1 + v0))] [] m0 (fX10_keepsType N v0 m0) (fun b rr => rr = (none, b)) := by
  unfold fX10_keepsType
  refine j_aload_n (q := 0) (np := 1) rfl rfl dX10_keepsType_0 rfl ?_
  refine j_gR (np := 4) flX10_84 dX10_keepsType_1 rfl (fun x1 => ?_)
  refine j_aload_n (q := 0) (np := 5) rfl rfl dX10_keepsType_4 rfl ?_
  refine j_gI (np := 8) flX10_256 dX10_keepsType_5 rfl (fun x2 => ?_)
  refine j_aload_n (q := 0) (np := 9) rfl rfl dX10_keepsType_8 rfl ?_
  refine j_gI (np := 12) flX10_109 dX10_keepsType_9 rfl (fun x3 => ?_)
  refine j_iastore (np := 13) dX10_keepsType_12 rfl (fun m4 => ?_)
  refine j_iconst (np := 14) ci_0 dX10_keepsType_13 rfl ?_
  refine j_istore_n (np := 15) (lv2 := [(1, .int (0 : Int32)), (0, .ref (E.2.1 + v0))]) rfl (by decide) dX10_keepsType_14 rfl rfl ?_
  refine j_sub (lv2 := [(0, .ref (E.2.1 + v0)), (1, .int (0 : Int32))]) [1, 0] rfl ?_
  refine j_loop (xp := 49) (lvX := fun o5 => [(0, .ref (E.2.1 + v0))]) (mX := fun o5 => o5) (lbX10_keepsType_15 hd _ _ _) (fun o5 => ?_)
  refine j_aload_n (q := 0) (np := 50) rfl rfl dX10_keepsType_49 rfl ?_
  refine j_dup (np := 51) rfl dX10_keepsType_50 rfl ?_
  refine j_gI (np := 54) flX10_256 dX10_keepsType_51 rfl (fun x6 => ?_)
  refine j_iconst (np := 55) ci_1 dX10_keepsType_54 rfl ?_
  refine j_iadd (np := 56) dX10_keepsType_55 rfl ?_
  refine j_pI (np := 59) flX10_256 dX10_keepsType_56 rfl (fun m7 => ?_)
  exact j_vret rfl dX10_keepsType_59 (fun rr h => h)
set_option maxRecDepth 100000 in
theorem wX10_keepsType {E : qE} {N d : Nat} (hd : 0 ≤ d) {v0 : Nat} {m0 : qM} {b : qM} (h : fX10_keepsType N v0 m0 = some b) : qRun E yX10_keepsType cX10_keepsType 2 none d 0 0 [.ref (E.2.1 + v0)] m0 (none, b) := q_met pnX10 (Nat.le_of_ble_eq_true rfl) (bX10_keepsType hd b _ h rfl)
theorem dX10_applies_0 : decode cX10_applies 0 = .ok (.aload_n 0, 1) := by decide +kernel
theorem dX10_applies_1 : decode cX10_applies 1 = .ok (.getfield 259, 3) := by decide +kernel
theorem dX10_applies_4 : decode cX10_applies 4 = .ok (.ifCond .ge 4, 3) := by decide +kernel
theorem dX10_applies_7 : decode cX10_applies 7 = .ok (.return_, 1) := by decide +kernel
theorem dX10_applies_8 : decode cX10_applies 8 = .ok (.aload_n 0, 1) := by decide +kernel
theorem dX10_applies_9 : decode cX10_applies 9 = .ok (.getfield 256, 3) := by decide +kernel
theorem dX10_applies_12 : decode cX10_applies 12 = .ok (.iconst 2, 1) := by decide +kernel
theorem dX10_applies_13 : decode cX10_applies 13 = .ok (.isub, 1) := by decide +kernel
theorem dX10_applies_14 : decode cX10_applies 14 = .ok (.istore_n 1, 1) := by decide +kernel
theorem dX10_applies_15 : decode cX10_applies 15 = .ok (.aload_n 0, 1) := by decide +kernel
theorem dX10_applies_16 : decode cX10_applies 16 = .ok (.aload_n 0, 1) := by decide +kernel
theorem dX10_applies_17 : decode cX10_applies 17 = .ok (.aload_n 0, 1) := by decide +kernel
theorem dX10_applies_18 : decode cX10_applies 18 = .ok (.getfield 81, 3) := by decide +kernel
theorem dX10_applies_21 : decode cX10_applies 21 = .ok (.bipush 39, 2) := by decide +kernel
theorem dX10_applies_23 : decode cX10_applies 23 = .ok (.iload_n 1, 1) := by decide +kernel
theorem dX10_applies_24 : decode cX10_applies 24 = .ok (.imul, 1) := by decide +kernel
theorem dX10_applies_25 : decode cX10_applies 25 = .ok (.aload_n 0, 1) := by decide +kernel
theorem dX10_applies_26 : decode cX10_applies 26 = .ok (.getfield 81, 3) := by decide +kernel
theorem dX10_applies_29 : decode cX10_applies 29 = .ok (.bipush 39, 2) := by decide +kernel
theorem dX10_applies_31 : decode cX10_applies 31 = .ok (.iload_n 1, 1) := by decide +kernel
theorem dX10_applies_32 : decode cX10_applies 32 = .ok (.iconst 1, 1) := by decide +kernel
theorem dX10_applies_33 : decode cX10_applies 33 = .ok (.iadd, 1) := by decide +kernel
theorem dX10_applies_34 : decode cX10_applies 34 = .ok (.imul, 1) := by decide +kernel
theorem dX10_applies_35 : decode cX10_applies 35 = .ok (.invokevirtual 168, 3) := by decide +kernel
theorem dX10_applies_38 : decode cX10_applies 38 = .ok (.putfield 259, 3) := by decide +kernel
theorem dX10_applies_41 : decode cX10_applies 41 = .ok (.aload_n 0, 1) := by decide +kernel
theorem dX10_applies_42 : decode cX10_applies 42 = .ok (.iload_n 1, 1) := by decide +kernel
theorem dX10_applies_43 : decode cX10_applies 43 = .ok (.putfield 256, 3) := by decide +kernel
theorem dX10_applies_46 : decode cX10_applies 46 = .ok (.aload_n 0, 1) := by decide +kernel
theorem dX10_applies_47 : decode cX10_applies 47 = .ok (.getfield 259, 3) := by decide +kernel
theorem dX10_applies_50 : decode cX10_applies 50 = .ok (.ifCond .ne 7, 3) := by decide +kernel
theorem dX10_applies_53 : decode cX10_applies 53 = .ok (.aload_n 0, 1) := by decide +kernel
theorem dX10_applies_54 : decode cX10_applies 54 = .ok (.invokevirtual 262, 3) := by decide +kernel
theorem dX10_applies_57 : decode cX10_applies 57 = .ok (.return_, 1) := by decide +kernel
def fX10_applies (N : Nat) (v0 : Nat) (m0 : qM) : Option (qM) :=
  (qgI m0 v0 10 36).bind fun x1 =>
  if 0 ≤ x1 then (
  (qgI m0 v0 10 35).bind fun x2 =>
  (qgR m0 v0 10 33).bind fun x3 =>
  (qgR m0 v0 10 33).bind fun x4 =>
  (qChk m0 v0 10 (fX10_detaches N v0 x3 ((39 : Int32) * (x2 - (2 : Int32))) x4 ((39 : Int32) * ((x2 - (2 : Int32)) + (1 : Int32))) m0)).bind fun b5 =>
  (qpI b5.2 v0 10 36 b5.1).bind fun m6 =>
  (qpI m6 v0 10 35 (x2 - (2 : Int32))).bind fun m7 =>
  (qgI m7 v0 10 36).bind fun x8 =>
  if x8 = 0 then (
  (qChk m7 v0 10 (fX10_keepsType N v0 m7)).bind fun b9 =>
  some b9
  ) else (
  some m7
  )
  ) else (
  some m0
  )
set_option maxRecDepth 100000 in
theorem bX10_applies {E : qE} {N d bc bs : Nat} (hd : 1144 ≤ d) {v0 : Nat} {m0 : qM} : qB E yX10_applies cX10_applies 2 none (fun _ => True) d bc bs 0 [(0, .ref (E.2.1 + v0))] [] m0 (fX10_applies N v0 m0) (fun b rr => rr = (none, b)) := by
  unfold fX10_applies
  refine j_aload_n (q := 0) (np := 1) rfl rfl dX10_applies_0 rfl ?_
  refine j_gI (np := 4) flX10_259 dX10_applies_1 rfl (fun x1 => ?_)
  refine j_if_ge (tgt := 8) (np := 7) dX10_applies_4 rfl rfl ?_ ?_
  · refine j_aload_n (q := 0) (np := 9) rfl rfl dX10_applies_8 rfl ?_
    refine j_gI (np := 12) flX10_256 dX10_applies_9 rfl (fun x2 => ?_)
    refine j_iconst (np := 13) ci_2 dX10_applies_12 rfl ?_
    refine j_isub (np := 14) dX10_applies_13 rfl ?_
    refine j_istore_n (np := 15) (lv2 := [(1, .int (x2 - (2 : Int32))), (0, .ref (E.2.1 + v0))]) rfl (by decide) dX10_applies_14 rfl rfl ?_
    refine j_aload_n (q := 1) (np := 16) rfl rfl dX10_applies_15 rfl ?_
    refine j_aload_n (q := 1) (np := 17) rfl rfl dX10_applies_16 rfl ?_
    refine j_aload_n (q := 1) (np := 18) rfl rfl dX10_applies_17 rfl ?_
    refine j_gR (np := 21) flX10_81 dX10_applies_18 rfl (fun x3 => ?_)
    refine j_bipush (np := 23) cb_39 dX10_applies_21 rfl ?_
    refine j_iload_n (q := 0) (np := 24) rfl rfl dX10_applies_23 rfl ?_
    refine j_imul (np := 25) dX10_applies_24 rfl ?_
    refine j_aload_n (q := 1) (np := 26) rfl rfl dX10_applies_25 rfl ?_
    refine j_gR (np := 29) flX10_81 dX10_applies_26 rfl (fun x4 => ?_)
    refine j_bipush (np := 31) cb_39 dX10_applies_29 rfl ?_
    refine j_iload_n (q := 0) (np := 32) rfl rfl dX10_applies_31 rfl ?_
    refine j_iconst (np := 33) ci_1 dX10_applies_32 rfl ?_
    refine j_iadd (np := 34) dX10_applies_33 rfl ?_
    refine j_imul (np := 35) dX10_applies_34 rfl ?_
    refine j_callVi (ci := 10) (np := 38) (bc := bc) (bs := bs) (cb := 0) (cs := 0) (dd := d - 1) (As := [.ref (E.2.1 + x3), .int ((39 : Int32) * (x2 - (2 : Int32))), .ref (E.2.1 + x4), .int ((39 : Int32) * ((x2 - (2 : Int32)) + (1 : Int32)))]) (st := [.ref (E.2.1 + v0)]) caX10_detaches mlX10_168 imX10_detaches seX10_detaches rfl rfl (by decide) (fun b hb => wX10_detaches (by omega) hb) (by omega) rfl rfl (Nat.le_of_ble_eq_true rfl) dX10_applies_35 rfl (fun b5 => ?_)
    refine j_pI (np := 41) flX10_259 dX10_applies_38 rfl (fun m6 => ?_)
    refine j_aload_n (q := 1) (np := 42) rfl rfl dX10_applies_41 rfl ?_
    refine j_iload_n (q := 0) (np := 43) rfl rfl dX10_applies_42 rfl ?_
    refine j_pI (np := 46) flX10_256 dX10_applies_43 rfl (fun m7 => ?_)
    refine j_aload_n (q := 1) (np := 47) rfl rfl dX10_applies_46 rfl ?_
    refine j_gI (np := 50) flX10_259 dX10_applies_47 rfl (fun x8 => ?_)
    refine j_if_ne (tgt := 57) (np := 53) dX10_applies_50 rfl rfl ?_ ?_
    · exact j_vret rfl dX10_applies_57 (fun rr h => h)
    · refine j_aload_n (q := 1) (np := 54) rfl rfl dX10_applies_53 rfl ?_
      refine j_callVv (ci := 10) (np := 57) (bc := bc) (bs := bs) (cb := 0) (cs := 0) (dd := d - 1) (As := []) (st := []) caX10_keepsType mlX10_262 imX10_keepsType seX10_keepsType rfl rfl (by decide) (fun b hb => wX10_keepsType (by omega) hb) (by omega) rfl rfl (Nat.le_of_ble_eq_true rfl) dX10_applies_54 rfl (fun b9 => ?_)
      exact j_vret rfl dX10_applies_57 (fun rr h => h)
  · exact j_vret rfl dX10_applies_7 (fun rr h => h)
set_option maxRecDepth 100000 in
theorem wX10_applies {E : qE} {N d : Nat} (hd : 1144 ≤ d) {v0 : Nat} {m0 : qM} {b : qM} (h : fX10_applies N v0 m0 = some b) : qRun E yX10_applies cX10_applies 2 none d 0 0 [.ref (E.2.1 + v0)] m0 (none, b) := q_met pnX10 (Nat.le_of_ble_eq_true rfl) (bX10_applies hd b _ h rfl)
theorem dX10_typesTerm_0 : decode cX10_typesTerm 0 = .ok (.iconst 1, 1) := by decide +kernel
theorem dX10_typesTerm_1 : decode cX10_typesTerm 1 = .ok (.istore_n 1, 1) := by decide +kernel
theorem dX10_typesTerm_2 : decode cX10_typesTerm 2 = .ok (.aload_n 0, 1) := by decide +kernel
theorem dX10_typesTerm_3 : decode cX10_typesTerm 3 = .ok (.getfield 259, 3) := by decide +kernel
theorem dX10_typesTerm_6 : decode cX10_typesTerm 6 = .ok (.ifCond .ne 153, 3) := by decide +kernel
theorem dX10_typesTerm_9 : decode cX10_typesTerm 9 = .ok (.aload_n 0, 1) := by decide +kernel
theorem dX10_typesTerm_10 : decode cX10_typesTerm 10 = .ok (.getfield 106, 3) := by decide +kernel
theorem dX10_typesTerm_13 : decode cX10_typesTerm 13 = .ok (.aload_n 0, 1) := by decide +kernel
theorem dX10_typesTerm_14 : decode cX10_typesTerm 14 = .ok (.getfield 103, 3) := by decide +kernel
theorem dX10_typesTerm_17 : decode cX10_typesTerm 17 = .ok (.if_icmp .ge 142, 3) := by decide +kernel
theorem dX10_typesTerm_20 : decode cX10_typesTerm 20 = .ok (.aload_n 0, 1) := by decide +kernel
theorem dX10_typesTerm_21 : decode cX10_typesTerm 21 = .ok (.getfield 25, 3) := by decide +kernel
theorem dX10_typesTerm_24 : decode cX10_typesTerm 24 = .ok (.aload_n 0, 1) := by decide +kernel
theorem dX10_typesTerm_25 : decode cX10_typesTerm 25 = .ok (.getfield 106, 3) := by decide +kernel
theorem dX10_typesTerm_28 : decode cX10_typesTerm 28 = .ok (.iaload, 1) := by decide +kernel
theorem dX10_typesTerm_29 : decode cX10_typesTerm 29 = .ok (.bipush 41, 2) := by decide +kernel
theorem dX10_typesTerm_31 : decode cX10_typesTerm 31 = .ok (.if_icmp .eq 128, 3) := by decide +kernel
theorem dX10_typesTerm_34 : decode cX10_typesTerm 34 = .ok (.aload_n 0, 1) := by decide +kernel
theorem dX10_typesTerm_35 : decode cX10_typesTerm 35 = .ok (.getfield 25, 3) := by decide +kernel
theorem dX10_typesTerm_38 : decode cX10_typesTerm 38 = .ok (.aload_n 0, 1) := by decide +kernel
theorem dX10_typesTerm_39 : decode cX10_typesTerm 39 = .ok (.dup, 1) := by decide +kernel
theorem dX10_typesTerm_40 : decode cX10_typesTerm 40 = .ok (.getfield 106, 3) := by decide +kernel
theorem dX10_typesTerm_43 : decode cX10_typesTerm 43 = .ok (.dup_x1, 1) := by decide +kernel
theorem dX10_typesTerm_44 : decode cX10_typesTerm 44 = .ok (.iconst 1, 1) := by decide +kernel
theorem dX10_typesTerm_45 : decode cX10_typesTerm 45 = .ok (.iadd, 1) := by decide +kernel
theorem dX10_typesTerm_46 : decode cX10_typesTerm 46 = .ok (.putfield 106, 3) := by decide +kernel
theorem dX10_typesTerm_49 : decode cX10_typesTerm 49 = .ok (.iaload, 1) := by decide +kernel
theorem dX10_typesTerm_50 : decode cX10_typesTerm 50 = .ok (.istore_n 2, 1) := by decide +kernel
theorem dX10_typesTerm_51 : decode cX10_typesTerm 51 = .ok (.iload_n 2, 1) := by decide +kernel
theorem dX10_typesTerm_52 : decode cX10_typesTerm 52 = .ok (.bipush 40, 2) := by decide +kernel
theorem dX10_typesTerm_54 : decode cX10_typesTerm 54 = .ok (.if_icmp .ne 20, 3) := by decide +kernel
theorem dX10_typesTerm_57 : decode cX10_typesTerm 57 = .ok (.aload_n 0, 1) := by decide +kernel
theorem dX10_typesTerm_58 : decode cX10_typesTerm 58 = .ok (.invokevirtual 265, 3) := by decide +kernel
theorem dX10_typesTerm_61 : decode cX10_typesTerm 61 = .ok (.aload_n 0, 1) := by decide +kernel
theorem dX10_typesTerm_62 : decode cX10_typesTerm 62 = .ok (.dup, 1) := by decide +kernel
theorem dX10_typesTerm_63 : decode cX10_typesTerm 63 = .ok (.getfield 106, 3) := by decide +kernel
theorem dX10_typesTerm_66 : decode cX10_typesTerm 66 = .ok (.iconst 1, 1) := by decide +kernel
theorem dX10_typesTerm_67 : decode cX10_typesTerm 67 = .ok (.iadd, 1) := by decide +kernel
theorem dX10_typesTerm_68 : decode cX10_typesTerm 68 = .ok (.putfield 106, 3) := by decide +kernel
theorem dX10_typesTerm_71 : decode cX10_typesTerm 71 = .ok (.goto 75, 3) := by decide +kernel
theorem dX10_typesTerm_74 : decode cX10_typesTerm 74 = .ok (.ldc 237, 2) := by decide +kernel
theorem dX10_typesTerm_76 : decode cX10_typesTerm 76 = .ok (.iload_n 2, 1) := by decide +kernel
theorem dX10_typesTerm_77 : decode cX10_typesTerm 77 = .ok (.invokevirtual 239, 3) := by decide +kernel
theorem dX10_typesTerm_80 : decode cX10_typesTerm 80 = .ok (.invokestatic 268, 3) := by decide +kernel
theorem dX10_typesTerm_83 : decode cX10_typesTerm 83 = .ok (.astore_n 3, 1) := by decide +kernel
theorem dX10_typesTerm_84 : decode cX10_typesTerm 84 = .ok (.aload_n 0, 1) := by decide +kernel
theorem dX10_typesTerm_85 : decode cX10_typesTerm 85 = .ok (.aload_n 3, 1) := by decide +kernel
theorem dX10_typesTerm_86 : decode cX10_typesTerm 86 = .ok (.invokevirtual 272, 3) := by decide +kernel
theorem dX10_typesTerm_89 : decode cX10_typesTerm 89 = .ok (.putfield 109, 3) := by decide +kernel
theorem dX10_typesTerm_92 : decode cX10_typesTerm 92 = .ok (.iconst 0, 1) := by decide +kernel
theorem dX10_typesTerm_93 : decode cX10_typesTerm 93 = .ok (.istore 4, 2) := by decide +kernel
theorem dX10_typesTerm_95 : decode cX10_typesTerm 95 = .ok (.iload 4, 2) := by decide +kernel
theorem dX10_typesTerm_97 : decode cX10_typesTerm 97 = .ok (.aload_n 0, 1) := by decide +kernel
theorem dX10_typesTerm_98 : decode cX10_typesTerm 98 = .ok (.getfield 109, 3) := by decide +kernel
theorem dX10_typesTerm_101 : decode cX10_typesTerm 101 = .ok (.if_icmp .ge 41, 3) := by decide +kernel
theorem dX10_typesTerm_104 : decode cX10_typesTerm 104 = .ok (.aload_n 0, 1) := by decide +kernel
theorem dX10_typesTerm_105 : decode cX10_typesTerm 105 = .ok (.getfield 66, 3) := by decide +kernel
theorem dX10_typesTerm_108 : decode cX10_typesTerm 108 = .ok (.iload 4, 2) := by decide +kernel
theorem dX10_typesTerm_110 : decode cX10_typesTerm 110 = .ok (.aload_n 3, 1) := by decide +kernel
theorem dX10_typesTerm_111 : decode cX10_typesTerm 111 = .ok (.iload 4, 2) := by decide +kernel
theorem dX10_typesTerm_113 : decode cX10_typesTerm 113 = .ok (.invokevirtual 274, 3) := by decide +kernel
theorem dX10_typesTerm_116 : decode cX10_typesTerm 116 = .ok (.bipush 67, 2) := by decide +kernel
theorem dX10_typesTerm_118 : decode cX10_typesTerm 118 = .ok (.if_icmp .ne 8, 3) := by decide +kernel
theorem dX10_typesTerm_121 : decode cX10_typesTerm 121 = .ok (.bipush 99, 2) := by decide +kernel
theorem dX10_typesTerm_123 : decode cX10_typesTerm 123 = .ok (.goto 12, 3) := by decide +kernel
theorem dX10_typesTerm_126 : decode cX10_typesTerm 126 = .ok (.aload_n 3, 1) := by decide +kernel
theorem dX10_typesTerm_127 : decode cX10_typesTerm 127 = .ok (.iload 4, 2) := by decide +kernel
theorem dX10_typesTerm_129 : decode cX10_typesTerm 129 = .ok (.invokevirtual 274, 3) := by decide +kernel
theorem dX10_typesTerm_132 : decode cX10_typesTerm 132 = .ok (.bipush 97, 2) := by decide +kernel
theorem dX10_typesTerm_134 : decode cX10_typesTerm 134 = .ok (.isub, 1) := by decide +kernel
theorem dX10_typesTerm_135 : decode cX10_typesTerm 135 = .ok (.iastore, 1) := by decide +kernel
theorem dX10_typesTerm_136 : decode cX10_typesTerm 136 = .ok (.iinc 4 1, 3) := by decide +kernel
theorem dX10_typesTerm_139 : decode cX10_typesTerm 139 = .ok (.goto (-44), 3) := by decide +kernel
theorem dX10_typesTerm_142 : decode cX10_typesTerm 142 = .ok (.aload_n 0, 1) := by decide +kernel
theorem dX10_typesTerm_143 : decode cX10_typesTerm 143 = .ok (.invokevirtual 262, 3) := by decide +kernel
theorem dX10_typesTerm_146 : decode cX10_typesTerm 146 = .ok (.iload_n 1, 1) := by decide +kernel
theorem dX10_typesTerm_147 : decode cX10_typesTerm 147 = .ok (.ifCond .ne 7, 3) := by decide +kernel
theorem dX10_typesTerm_150 : decode cX10_typesTerm 150 = .ok (.aload_n 0, 1) := by decide +kernel
theorem dX10_typesTerm_151 : decode cX10_typesTerm 151 = .ok (.invokevirtual 278, 3) := by decide +kernel
theorem dX10_typesTerm_154 : decode cX10_typesTerm 154 = .ok (.iconst 0, 1) := by decide +kernel
theorem dX10_typesTerm_155 : decode cX10_typesTerm 155 = .ok (.istore_n 1, 1) := by decide +kernel
theorem dX10_typesTerm_156 : decode cX10_typesTerm 156 = .ok (.goto (-154), 3) := by decide +kernel
theorem dX10_typesTerm_159 : decode cX10_typesTerm 159 = .ok (.return_, 1) := by decide +kernel
def kX10_typesTerm_135 (N : Nat) (fr : Nat → qM → Option (qM)) (rec : Int32 → qM → Option (qM)) (v0 : Nat) (v1 : Int32) (v3 : Nat) (v4 : Int32) (s0 : Nat) (s1 : Int32) (s2 : Int32) (m0 : qM) : Option (qM) :=
  (qwI m0 s0 12 s1 s2).bind fun m1 =>
  rec (v4 + (1 : Int32)) m1
set_option maxRecDepth 100000 in
theorem kbX10_typesTerm_135 {E : qE} {N d bc bs : Nat} (hd : 1145 ≤ d) {fr : Nat → qM → Option (qM)} (hfr : ∀ (m : qM) (b : qM) (v0 : Nat), fr v0 m = some b → qRun E yX10_typesTerm cX10_typesTerm 5 none (d - 1) 0 0 [.ref (E.2.1 + v0)] m (none, b)) {v0 : Nat} {v1 : Int32} {v3 : Nat} {v4 : Int32} {s0 : Nat} {s1 : Int32} {s2 : Int32} {m0 : qM} {rec : Int32 → qM → Option (qM)} (hrec : ∀ (v4 : Int32) (m : qM), qB E yX10_typesTerm cX10_typesTerm 5 none (fun _ => True) d bc bs 95 [(0, .ref (E.2.1 + v0)), (1, .int v1), (3, .ref (E.2.2.2.2.1 v3)), (4, .int v4)] [] m (rec v4 m) (fun o rr => qJ E yX10_typesTerm cX10_typesTerm 5 none (fun _ => True) d bc bs 142 [(0, .ref (E.2.1 + v0)), (1, .int v1)] [] o rr)) : qB E yX10_typesTerm cX10_typesTerm 5 none (fun _ => True) d bc bs 135 [(0, .ref (E.2.1 + v0)), (1, .int v1), (3, .ref (E.2.2.2.2.1 v3)), (4, .int v4)] [.int s2, .int s1, .ref (E.2.1 + s0)] m0 (kX10_typesTerm_135 N fr rec v0 v1 v3 v4 s0 s1 s2 m0) (fun o rr => qJ E yX10_typesTerm cX10_typesTerm 5 none (fun _ => True) d bc bs 142 [(0, .ref (E.2.1 + v0)), (1, .int v1)] [] o rr) := by
  unfold kX10_typesTerm_135
  refine j_iastore (np := 136) dX10_typesTerm_135 rfl (fun m1 => ?_)
  refine j_iinc (q := 3) (np := 139) (lv2 := [(4, .int (v4 + (1 : Int32))), (0, .ref (E.2.1 + v0)), (1, .int v1), (3, .ref (E.2.2.2.2.1 v3))]) rfl (congrArg _ ci_1) (by decide) dX10_typesTerm_136 rfl rfl ?_
  refine j_goto (tgt := 95) dX10_typesTerm_139 rfl ?_
  refine j_sub (lv2 := [(0, .ref (E.2.1 + v0)), (1, .int v1), (3, .ref (E.2.2.2.2.1 v3)), (4, .int (v4 + (1 : Int32)))]) [1, 2, 3, 0] rfl ?_
  exact hrec _ _
def lX10_typesTerm_95 (N : Nat) (fr : Nat → qM → Option (qM)) (v0 : Nat) (v1 : Int32) (v3 : Nat) : Nat → Int32 → qM → Option (qM)
  | 0, _, _ => none
  | n + 1, v4, m0 =>
    (qgI m0 v0 10 27).bind fun x1 =>
    if x1 ≤ v4 then (
    some m0
    ) else (
    (qgR m0 v0 10 26).bind fun x2 =>
    (qChs v3 (fJ0_charAt_5068e N v3 v4 m0)).bind fun b3 =>
    if b3.1 = (67 : Int32) then (
    kX10_typesTerm_135 N fr (lX10_typesTerm_95 N fr v0 v1 v3 n) v0 v1 v3 v4 x2 v4 (99 : Int32) b3.2
    ) else (
    (qChs v3 (fJ0_charAt_5068e N v3 v4 b3.2)).bind fun b4 =>
    kX10_typesTerm_135 N fr (lX10_typesTerm_95 N fr v0 v1 v3 n) v0 v1 v3 v4 x2 v4 (b4.1 - (97 : Int32)) b4.2
    )
    )
set_option maxRecDepth 100000 in
theorem lbX10_typesTerm_95 {E : qE} {N d bc bs : Nat} (hd : 1145 ≤ d) {fr : Nat → qM → Option (qM)} (hfr : ∀ (m : qM) (b : qM) (v0 : Nat), fr v0 m = some b → qRun E yX10_typesTerm cX10_typesTerm 5 none (d - 1) 0 0 [.ref (E.2.1 + v0)] m (none, b)) {v0 : Nat} {v1 : Int32} {v3 : Nat} : ∀ (n : Nat) (v4 : Int32) (m0 : qM), qB E yX10_typesTerm cX10_typesTerm 5 none (fun _ => True) d bc bs 95 [(0, .ref (E.2.1 + v0)), (1, .int v1), (3, .ref (E.2.2.2.2.1 v3)), (4, .int v4)] [] m0 (lX10_typesTerm_95 N fr v0 v1 v3 n v4 m0) (fun o rr => qJ E yX10_typesTerm cX10_typesTerm 5 none (fun _ => True) d bc bs 142 [(0, .ref (E.2.1 + v0)), (1, .int v1)] [] o rr) := by
  intro n
  induction n with
  | zero =>
    intro v4 m0
    exact j_none
  | succ n ih =>
    intro v4 m0
    unfold lX10_typesTerm_95
    refine j_iload (q := 3) (np := 97) rfl dX10_typesTerm_95 rfl ?_
    refine j_aload_n (q := 0) (np := 98) rfl rfl dX10_typesTerm_97 rfl ?_
    refine j_gI (np := 101) flX10_109 dX10_typesTerm_98 rfl (fun x1 => ?_)
    refine j_icmp_ge (tgt := 142) (np := 104) dX10_typesTerm_101 rfl rfl ?_ ?_
    · refine j_sub (lv2 := [(0, .ref (E.2.1 + v0)), (1, .int v1)]) [0, 1] rfl ?_
      exact j_exit (fun rr h => h)
    · refine j_aload_n (q := 0) (np := 105) rfl rfl dX10_typesTerm_104 rfl ?_
      refine j_gR (np := 108) flX10_66 dX10_typesTerm_105 rfl (fun x2 => ?_)
      refine j_iload (q := 3) (np := 110) rfl dX10_typesTerm_108 rfl ?_
      refine j_aload_n (q := 2) (np := 111) rfl rfl dX10_typesTerm_110 rfl ?_
      refine j_iload (q := 3) (np := 113) rfl dX10_typesTerm_111 rfl ?_
      refine j_callT (np := 116) (dd := d - 1) (As := [.int v4]) (st := [.int v4, .ref (E.2.1 + x2)]) caJ0_charAt_5068e mlX10_274 imJ0_charAt_5068e seJ0_charAt_5068e rfl (fun b hb => wJ0_charAt_5068e (by omega) hb) (by omega) rfl rfl (Nat.le_of_ble_eq_true rfl) dX10_typesTerm_113 rfl (fun b3 => ?_)
      refine j_bipush (np := 118) cb_67 dX10_typesTerm_116 rfl ?_
      refine j_icmp_ne (tgt := 126) (np := 121) dX10_typesTerm_118 rfl rfl ?_ ?_
      · refine j_aload_n (q := 2) (np := 127) rfl rfl dX10_typesTerm_126 rfl ?_
        refine j_iload (q := 3) (np := 129) rfl dX10_typesTerm_127 rfl ?_
        refine j_callT (np := 132) (dd := d - 1) (As := [.int v4]) (st := [.int v4, .ref (E.2.1 + x2)]) caJ0_charAt_5068e mlX10_274 imJ0_charAt_5068e seJ0_charAt_5068e rfl (fun b hb => wJ0_charAt_5068e (by omega) hb) (by omega) rfl rfl (Nat.le_of_ble_eq_true rfl) dX10_typesTerm_129 rfl (fun b4 => ?_)
        refine j_bipush (np := 134) cb_97 dX10_typesTerm_132 rfl ?_
        refine j_isub (np := 135) dX10_typesTerm_134 rfl ?_
        exact kbX10_typesTerm_135 hd hfr ih
      · refine j_bipush (np := 123) cb_99 dX10_typesTerm_121 rfl ?_
        refine j_goto (tgt := 135) dX10_typesTerm_123 rfl ?_
        exact kbX10_typesTerm_135 hd hfr ih
def kX10_typesTerm_154 (N : Nat) (fr : Nat → qM → Option (qM)) (rec : Int32 → qM → Option (qM)) (v0 : Nat)  (m0 : qM) : Option (qM) :=
  rec (0 : Int32) m0
set_option maxRecDepth 100000 in
theorem kbX10_typesTerm_154 {E : qE} {N d bc bs : Nat} (hd : 1145 ≤ d) {fr : Nat → qM → Option (qM)} (hfr : ∀ (m : qM) (b : qM) (v0 : Nat), fr v0 m = some b → qRun E yX10_typesTerm cX10_typesTerm 5 none (d - 1) 0 0 [.ref (E.2.1 + v0)] m (none, b)) {v0 : Nat}  {m0 : qM} {rec : Int32 → qM → Option (qM)} (hrec : ∀ (v1 : Int32) (m : qM), qB E yX10_typesTerm cX10_typesTerm 5 none (fun _ => True) d bc bs 2 [(0, .ref (E.2.1 + v0)), (1, .int v1)] [] m (rec v1 m) (fun o rr => qJ E yX10_typesTerm cX10_typesTerm 5 none (fun _ => True) d bc bs 159 [] [] o rr)) : qB E yX10_typesTerm cX10_typesTerm 5 none (fun _ => True) d bc bs 154 [(0, .ref (E.2.1 + v0))] [] m0 (kX10_typesTerm_154 N fr rec v0 m0) (fun o rr => qJ E yX10_typesTerm cX10_typesTerm 5 none (fun _ => True) d bc bs 159 [] [] o rr) := by
  unfold kX10_typesTerm_154
  refine j_iconst (np := 155) ci_0 dX10_typesTerm_154 rfl ?_
  refine j_istore_n (np := 156) (lv2 := [(1, .int (0 : Int32)), (0, .ref (E.2.1 + v0))]) rfl (by decide) dX10_typesTerm_155 rfl rfl ?_
  refine j_goto (tgt := 2) dX10_typesTerm_156 rfl ?_
  refine j_sub (lv2 := [(0, .ref (E.2.1 + v0)), (1, .int (0 : Int32))]) [1, 0] rfl ?_
  exact hrec _ _
def kX10_typesTerm_146 (N : Nat) (fr : Nat → qM → Option (qM)) (rec : Int32 → qM → Option (qM)) (v0 : Nat) (v1 : Int32)  (m0 : qM) : Option (qM) :=
  if v1 = 0 then (
  (qChk m0 v0 10 (fX10_applies N v0 m0)).bind fun b1 =>
  kX10_typesTerm_154 N fr (rec) v0 b1
  ) else (
  kX10_typesTerm_154 N fr (rec) v0 m0
  )
set_option maxRecDepth 100000 in
theorem kbX10_typesTerm_146 {E : qE} {N d bc bs : Nat} (hd : 1145 ≤ d) {fr : Nat → qM → Option (qM)} (hfr : ∀ (m : qM) (b : qM) (v0 : Nat), fr v0 m = some b → qRun E yX10_typesTerm cX10_typesTerm 5 none (d - 1) 0 0 [.ref (E.2.1 + v0)] m (none, b)) {v0 : Nat} {v1 : Int32}  {m0 : qM} {rec : Int32 → qM → Option (qM)} (hrec : ∀ (v1 : Int32) (m : qM), qB E yX10_typesTerm cX10_typesTerm 5 none (fun _ => True) d bc bs 2 [(0, .ref (E.2.1 + v0)), (1, .int v1)] [] m (rec v1 m) (fun o rr => qJ E yX10_typesTerm cX10_typesTerm 5 none (fun _ => True) d bc bs 159 [] [] o rr)) : qB E yX10_typesTerm cX10_typesTerm 5 none (fun _ => True) d bc bs 146 [(0, .ref (E.2.1 + v0)), (1, .int v1)] [] m0 (kX10_typesTerm_146 N fr rec v0 v1 m0) (fun o rr => qJ E yX10_typesTerm cX10_typesTerm 5 none (fun _ => True) d bc bs 159 [] [] o rr) := by
  unfold kX10_typesTerm_146
  refine j_iload_n (q := 1) (np := 147) rfl rfl dX10_typesTerm_146 rfl ?_
  refine j_if_ne (tgt := 154) (np := 150) dX10_typesTerm_147 rfl rfl ?_ ?_
  · refine j_sub (lv2 := [(0, .ref (E.2.1 + v0))]) [0] rfl ?_
    exact kbX10_typesTerm_154 hd hfr hrec
  · refine j_aload_n (q := 0) (np := 151) rfl rfl dX10_typesTerm_150 rfl ?_
    refine j_callVv (ci := 10) (np := 154) (bc := bc) (bs := bs) (cb := 0) (cs := 0) (dd := d - 1) (As := []) (st := []) caX10_applies mlX10_278 imX10_applies seX10_applies rfl rfl (by decide) (fun b hb => wX10_applies (by omega) hb) (by omega) rfl rfl (Nat.le_of_ble_eq_true rfl) dX10_typesTerm_151 rfl (fun b1 => ?_)
    refine j_sub (lv2 := [(0, .ref (E.2.1 + v0))]) [0] rfl ?_
    exact kbX10_typesTerm_154 hd hfr hrec
def lX10_typesTerm_2 (N : Nat) (fr : Nat → qM → Option (qM)) (v0 : Nat) : Nat → Int32 → qM → Option (qM)
  | 0, _, _ => none
  | n + 1, v1, m0 =>
    (qgI m0 v0 10 36).bind fun x1 =>
    if x1 = 0 then (
    (qgI m0 v0 10 8).bind fun x2 =>
    (qgI m0 v0 10 7).bind fun x3 =>
    if x3 ≤ x2 then (
    some m0
    ) else (
    (qgR m0 v0 10 6).bind fun x4 =>
    (qgI m0 v0 10 8).bind fun x5 =>
    (qaI m0 x4 12 x5).bind fun x6 =>
    if x6 = (41 : Int32) then (
    some m0
    ) else (
    (qgR m0 v0 10 6).bind fun x7 =>
    (qgI m0 v0 10 8).bind fun x8 =>
    (qpI m0 v0 10 8 (x8 + (1 : Int32))).bind fun m9 =>
    (qaI m9 x7 12 x8).bind fun x10 =>
    if x10 = (40 : Int32) then (
    (qChk m9 v0 10 (fr v0 m9)).bind fun b17 =>
    (qgI b17 v0 10 8).bind fun x18 =>
    (qpI b17 v0 10 8 (x18 + (1 : Int32))).bind fun m19 =>
    kX10_typesTerm_146 N fr (lX10_typesTerm_2 N fr v0 n) v0 v1 m19
    ) else (
    (qChs 11 (fJ0_indexOf_0f7a4 N 11 x10 m9)).bind fun b11 =>
    (fX10_typeOf N b11.1 b11.2).bind fun b12 =>
    (qChs b12.1 (fJ0_length_8abf5 N b12.1 b12.2)).bind fun b13 =>
    (qpI b13.2 v0 10 27 b13.1).bind fun m14 =>
    (lX10_typesTerm_95 N fr v0 v1 b12.1 N (0 : Int32) m14).bind fun o15 =>
    (qChk o15 v0 10 (fX10_keepsType N v0 o15)).bind fun b16 =>
    kX10_typesTerm_146 N fr (lX10_typesTerm_2 N fr v0 n) v0 v1 b16
    )
    )
    )
    ) else (
    some m0
    )
set_option maxRecDepth 100000 in
theorem lbX10_typesTerm_2 {E : qE} {N d bc bs : Nat} (hd : 1145 ≤ d) {fr : Nat → qM → Option (qM)} (hfr : ∀ (m : qM) (b : qM) (v0 : Nat), fr v0 m = some b → qRun E yX10_typesTerm cX10_typesTerm 5 none (d - 1) 0 0 [.ref (E.2.1 + v0)] m (none, b)) {v0 : Nat} : ∀ (n : Nat) (v1 : Int32) (m0 : qM), qB E yX10_typesTerm cX10_typesTerm 5 none (fun _ => True) d bc bs 2 [(0, .ref (E.2.1 + v0)), (1, .int v1)] [] m0 (lX10_typesTerm_2 N fr v0 n v1 m0) (fun o rr => qJ E yX10_typesTerm cX10_typesTerm 5 none (fun _ => True) d bc bs 159 [] [] o rr) := by
  intro n
  induction n with
  | zero =>
    intro v1 m0
    exact j_none
  | succ n ih =>
    intro v1 m0
    unfold lX10_typesTerm_2
    refine j_aload_n (q := 0) (np := 3) rfl rfl dX10_typesTerm_2 rfl ?_
    refine j_gI (np := 6) flX10_259 dX10_typesTerm_3 rfl (fun x1 => ?_)
    refine j_if_ne (tgt := 159) (np := 9) dX10_typesTerm_6 rfl rfl ?_ ?_
    · refine j_sub (lv2 := []) [] rfl ?_
      exact j_exit (fun rr h => h)
    · refine j_aload_n (q := 0) (np := 10) rfl rfl dX10_typesTerm_9 rfl ?_
      refine j_gI (np := 13) flX10_106 dX10_typesTerm_10 rfl (fun x2 => ?_)
      refine j_aload_n (q := 0) (np := 14) rfl rfl dX10_typesTerm_13 rfl ?_
      refine j_gI (np := 17) flX10_103 dX10_typesTerm_14 rfl (fun x3 => ?_)
      refine j_icmp_ge (tgt := 159) (np := 20) dX10_typesTerm_17 rfl rfl ?_ ?_
      · refine j_sub (lv2 := []) [] rfl ?_
        exact j_exit (fun rr h => h)
      · refine j_aload_n (q := 0) (np := 21) rfl rfl dX10_typesTerm_20 rfl ?_
        refine j_gR (np := 24) flX10_25 dX10_typesTerm_21 rfl (fun x4 => ?_)
        refine j_aload_n (q := 0) (np := 25) rfl rfl dX10_typesTerm_24 rfl ?_
        refine j_gI (np := 28) flX10_106 dX10_typesTerm_25 rfl (fun x5 => ?_)
        refine j_iaload (np := 29) dX10_typesTerm_28 rfl (fun x6 => ?_)
        refine j_bipush (np := 31) cb_41 dX10_typesTerm_29 rfl ?_
        refine j_icmp_eq (tgt := 159) (np := 34) dX10_typesTerm_31 rfl rfl ?_ ?_
        · refine j_sub (lv2 := []) [] rfl ?_
          exact j_exit (fun rr h => h)
        · refine j_aload_n (q := 0) (np := 35) rfl rfl dX10_typesTerm_34 rfl ?_
          refine j_gR (np := 38) flX10_25 dX10_typesTerm_35 rfl (fun x7 => ?_)
          refine j_aload_n (q := 0) (np := 39) rfl rfl dX10_typesTerm_38 rfl ?_
          refine j_dup (np := 40) rfl dX10_typesTerm_39 rfl ?_
          refine j_gI (np := 43) flX10_106 dX10_typesTerm_40 rfl (fun x8 => ?_)
          refine j_dup_x1 (np := 44) rfl rfl dX10_typesTerm_43 rfl ?_
          refine j_iconst (np := 45) ci_1 dX10_typesTerm_44 rfl ?_
          refine j_iadd (np := 46) dX10_typesTerm_45 rfl ?_
          refine j_pI (np := 49) flX10_106 dX10_typesTerm_46 rfl (fun m9 => ?_)
          refine j_iaload (np := 50) dX10_typesTerm_49 rfl (fun x10 => ?_)
          refine j_istore_n (np := 51) (lv2 := [(2, .int x10), (0, .ref (E.2.1 + v0)), (1, .int v1)]) rfl (by decide) dX10_typesTerm_50 rfl rfl ?_
          refine j_iload_n (q := 0) (np := 52) rfl rfl dX10_typesTerm_51 rfl ?_
          refine j_bipush (np := 54) cb_40 dX10_typesTerm_52 rfl ?_
          refine j_icmp_ne (tgt := 74) (np := 57) dX10_typesTerm_54 rfl rfl ?_ ?_
          · refine j_ldcS (np := 76) (k := 11) (List.mem_of_getElem? (i := 11) rfl) dX10_typesTerm_74 rfl ?_
            refine j_iload_n (q := 0) (np := 77) rfl rfl dX10_typesTerm_76 rfl ?_
            refine j_callT (np := 80) (dd := d - 1) (As := [.int x10]) (st := []) caJ0_indexOf_0f7a4 mlX10_239 imJ0_indexOf_0f7a4 seJ0_indexOf_0f7a4 rfl (fun b hb => wJ0_indexOf_0f7a4 (by omega) hb) (by omega) rfl rfl (Nat.le_of_ble_eq_true rfl) dX10_typesTerm_77 rfl (fun b11 => ?_)
            refine j_callSs (np := 83) (bc := bc) (bs := bs) (cb := 0) (cs := 0) (dd := d - 1) (As := [.int b11.1]) (st := []) caX10_typeOf mlX10_268 stX10_typeOf (fun b hb => wX10_typeOf (by omega) hb) (by omega) rfl rfl (Nat.le_of_ble_eq_true rfl) dX10_typesTerm_80 rfl (fun b12 => ?_)
            refine j_astore_n (np := 84) (lv2 := [(3, .ref (E.2.2.2.2.1 b12.1)), (2, .int x10), (0, .ref (E.2.1 + v0)), (1, .int v1)]) rfl (by decide) dX10_typesTerm_83 rfl rfl ?_
            refine j_aload_n (q := 2) (np := 85) rfl rfl dX10_typesTerm_84 rfl ?_
            refine j_aload_n (q := 0) (np := 86) rfl rfl dX10_typesTerm_85 rfl ?_
            refine j_callT (np := 89) (dd := d - 1) (As := []) (st := [.ref (E.2.1 + v0)]) caJ0_length_8abf5 mlX10_272 imJ0_length_8abf5 seJ0_length_8abf5 rfl (fun b hb => wJ0_length_8abf5 (by omega) hb) (by omega) rfl rfl (Nat.le_of_ble_eq_true rfl) dX10_typesTerm_86 rfl (fun b13 => ?_)
            refine j_pI (np := 92) flX10_109 dX10_typesTerm_89 rfl (fun m14 => ?_)
            refine j_iconst (np := 93) ci_0 dX10_typesTerm_92 rfl ?_
            refine j_istore (np := 95) (lv2 := [(4, .int (0 : Int32)), (3, .ref (E.2.2.2.2.1 b12.1)), (2, .int x10), (0, .ref (E.2.1 + v0)), (1, .int v1)]) (by decide) dX10_typesTerm_93 rfl rfl ?_
            refine j_sub (lv2 := [(0, .ref (E.2.1 + v0)), (1, .int v1), (3, .ref (E.2.2.2.2.1 b12.1)), (4, .int (0 : Int32))]) [3, 4, 1, 0] rfl ?_
            refine j_loop (xp := 142) (lvX := fun o15 => [(0, .ref (E.2.1 + v0)), (1, .int v1)]) (mX := fun o15 => o15) (lbX10_typesTerm_95 hd hfr _ _ _) (fun o15 => ?_)
            refine j_aload_n (q := 0) (np := 143) rfl rfl dX10_typesTerm_142 rfl ?_
            refine j_callVv (ci := 10) (np := 146) (bc := bc) (bs := bs) (cb := 0) (cs := 0) (dd := d - 1) (As := []) (st := []) caX10_keepsType mlX10_262 imX10_keepsType seX10_keepsType rfl rfl (by decide) (fun b hb => wX10_keepsType (by omega) hb) (by omega) rfl rfl (Nat.le_of_ble_eq_true rfl) dX10_typesTerm_143 rfl (fun b16 => ?_)
            exact kbX10_typesTerm_146 hd hfr ih
          · refine j_aload_n (q := 1) (np := 58) rfl rfl dX10_typesTerm_57 rfl ?_
            refine j_callVv (ci := 10) (np := 61) (bc := bc) (bs := bs) (cb := 0) (cs := 0) (dd := d - 1) (As := []) (st := []) caX10_typesTerm mlX10_265 imX10_typesTerm seX10_typesTerm rfl rfl (by decide) (fun b hb => hfr _ _ _ hb) (by omega) rfl rfl (Nat.le_of_ble_eq_true rfl) dX10_typesTerm_58 rfl (fun b17 => ?_)
            refine j_aload_n (q := 1) (np := 62) rfl rfl dX10_typesTerm_61 rfl ?_
            refine j_dup (np := 63) rfl dX10_typesTerm_62 rfl ?_
            refine j_gI (np := 66) flX10_106 dX10_typesTerm_63 rfl (fun x18 => ?_)
            refine j_iconst (np := 67) ci_1 dX10_typesTerm_66 rfl ?_
            refine j_iadd (np := 68) dX10_typesTerm_67 rfl ?_
            refine j_pI (np := 71) flX10_106 dX10_typesTerm_68 rfl (fun m19 => ?_)
            refine j_goto (tgt := 146) dX10_typesTerm_71 rfl ?_
            refine j_sub (lv2 := [(0, .ref (E.2.1 + v0)), (1, .int v1)]) [1, 2] rfl ?_
            exact kbX10_typesTerm_146 hd hfr ih
def fX10_typesTerm (N : Nat) : Nat → Nat → qM → Option (qM)
  | 0, _, _ => none
  | k + 1, v0, m0 =>
    (lX10_typesTerm_2 N (fX10_typesTerm N k) v0 N (1 : Int32) m0).bind fun o1 =>
    some o1
set_option maxRecDepth 100000 in
theorem wX10_typesTerm {E : qE} {N : Nat} : ∀ {k d : Nat} (hd : k + 1145 ≤ d) {m0 : qM} {b : qM} {v0 : Nat} (h : fX10_typesTerm N k v0 m0 = some b), qRun E yX10_typesTerm cX10_typesTerm 5 none d 0 0 [.ref (E.2.1 + v0)] m0 (none, b) := by
  intro k
  induction k with
  | zero =>
    intro d hd m0 b v0 h
    cases h
  | succ k ih =>
    intro d hd m0 b v0 h
    have hfr : ∀ (m : qM) (b : qM) (v0 : Nat), fX10_typesTerm N k v0 m = some b → qRun E yX10_typesTerm cX10_typesTerm 5 none (d - 1) 0 0 [.ref (E.2.1 + v0)] m (none, b) := fun m b v0 h => ih (by omega) h
    have hd : 1145 ≤ d := by omega
    have bd : qB E yX10_typesTerm cX10_typesTerm 5 none (fun _ => True) d 0 0 0 [(0, .ref (E.2.1 + v0))] [] m0 (fX10_typesTerm N (k + 1) v0 m0) (fun b rr => rr = (none, b)) := by
      unfold fX10_typesTerm
      refine j_iconst (np := 1) ci_1 dX10_typesTerm_0 rfl ?_
      refine j_istore_n (np := 2) (lv2 := [(1, .int (1 : Int32)), (0, .ref (E.2.1 + v0))]) rfl (by decide) dX10_typesTerm_1 rfl rfl ?_
      refine j_sub (lv2 := [(0, .ref (E.2.1 + v0)), (1, .int (1 : Int32))]) [1, 0] rfl ?_
      refine j_loop (xp := 159) (lvX := fun o1 => []) (mX := fun o1 => o1) (lbX10_typesTerm_2 hd hfr _ _ _) (fun o1 => ?_)
      exact j_vret rfl dX10_typesTerm_159 (fun rr h => h)
    exact q_met pnX10 (Nat.le_of_ble_eq_true rfl) (bd b _ h rfl)
theorem dX10_addType_0 : decode cX10_addType 0 = .ok (.aload_n 0, 1) := by decide +kernel
theorem dX10_addType_1 : decode cX10_addType 1 = .ok (.invokevirtual 281, 3) := by decide +kernel
theorem dX10_addType_4 : decode cX10_addType 4 = .ok (.istore_n 1, 1) := by decide +kernel
theorem dX10_addType_5 : decode cX10_addType 5 = .ok (.iload_n 1, 1) := by decide +kernel
theorem dX10_addType_6 : decode cX10_addType 6 = .ok (.ifCond .eq 22, 3) := by decide +kernel
theorem dX10_addType_9 : decode cX10_addType 9 = .ok (.aload_n 0, 1) := by decide +kernel
theorem dX10_addType_10 : decode cX10_addType 10 = .ok (.iconst 0, 1) := by decide +kernel
theorem dX10_addType_11 : decode cX10_addType 11 = .ok (.putfield 106, 3) := by decide +kernel
theorem dX10_addType_14 : decode cX10_addType 14 = .ok (.aload_n 0, 1) := by decide +kernel
theorem dX10_addType_15 : decode cX10_addType 15 = .ok (.iconst 0, 1) := by decide +kernel
theorem dX10_addType_16 : decode cX10_addType 16 = .ok (.putfield 259, 3) := by decide +kernel
theorem dX10_addType_19 : decode cX10_addType 19 = .ok (.aload_n 0, 1) := by decide +kernel
theorem dX10_addType_20 : decode cX10_addType 20 = .ok (.iconst 0, 1) := by decide +kernel
theorem dX10_addType_21 : decode cX10_addType 21 = .ok (.putfield 256, 3) := by decide +kernel
theorem dX10_addType_24 : decode cX10_addType 24 = .ok (.aload_n 0, 1) := by decide +kernel
theorem dX10_addType_25 : decode cX10_addType 25 = .ok (.invokevirtual 265, 3) := by decide +kernel
theorem dX10_addType_28 : decode cX10_addType 28 = .ok (.aload_n 0, 1) := by decide +kernel
theorem dX10_addType_29 : decode cX10_addType 29 = .ok (.iconst 0, 1) := by decide +kernel
theorem dX10_addType_30 : decode cX10_addType 30 = .ok (.putfield 103, 3) := by decide +kernel
theorem dX10_addType_33 : decode cX10_addType 33 = .ok (.iload_n 1, 1) := by decide +kernel
theorem dX10_addType_34 : decode cX10_addType 34 = .ok (.ifCond .ne 11, 3) := by decide +kernel
theorem dX10_addType_37 : decode cX10_addType 37 = .ok (.bipush (-100), 2) := by decide +kernel
theorem dX10_addType_39 : decode cX10_addType 39 = .ok (.aload_n 0, 1) := by decide +kernel
theorem dX10_addType_40 : decode cX10_addType 40 = .ok (.getfield 112, 3) := by decide +kernel
theorem dX10_addType_43 : decode cX10_addType 43 = .ok (.isub, 1) := by decide +kernel
theorem dX10_addType_44 : decode cX10_addType 44 = .ok (.ireturn, 1) := by decide +kernel
theorem dX10_addType_45 : decode cX10_addType 45 = .ok (.aload_n 0, 1) := by decide +kernel
theorem dX10_addType_46 : decode cX10_addType 46 = .ok (.getfield 259, 3) := by decide +kernel
theorem dX10_addType_49 : decode cX10_addType 49 = .ok (.ifCond .ge 8, 3) := by decide +kernel
theorem dX10_addType_52 : decode cX10_addType 52 = .ok (.aload_n 0, 1) := by decide +kernel
theorem dX10_addType_53 : decode cX10_addType 53 = .ok (.getfield 259, 3) := by decide +kernel
theorem dX10_addType_56 : decode cX10_addType 56 = .ok (.ireturn, 1) := by decide +kernel
theorem dX10_addType_57 : decode cX10_addType 57 = .ok (.aload_n 0, 1) := by decide +kernel
theorem dX10_addType_58 : decode cX10_addType 58 = .ok (.aload_n 0, 1) := by decide +kernel
theorem dX10_addType_59 : decode cX10_addType 59 = .ok (.getfield 84, 3) := by decide +kernel
theorem dX10_addType_62 : decode cX10_addType 62 = .ok (.iconst 0, 1) := by decide +kernel
theorem dX10_addType_63 : decode cX10_addType 63 = .ok (.iaload, 1) := by decide +kernel
theorem dX10_addType_64 : decode cX10_addType 64 = .ok (.putfield 109, 3) := by decide +kernel
theorem dX10_addType_67 : decode cX10_addType 67 = .ok (.iconst 0, 1) := by decide +kernel
theorem dX10_addType_68 : decode cX10_addType 68 = .ok (.istore_n 2, 1) := by decide +kernel
theorem dX10_addType_69 : decode cX10_addType 69 = .ok (.iload_n 2, 1) := by decide +kernel
theorem dX10_addType_70 : decode cX10_addType 70 = .ok (.aload_n 0, 1) := by decide +kernel
theorem dX10_addType_71 : decode cX10_addType 71 = .ok (.getfield 109, 3) := by decide +kernel
theorem dX10_addType_74 : decode cX10_addType 74 = .ok (.if_icmp .ge 21, 3) := by decide +kernel
theorem dX10_addType_77 : decode cX10_addType 77 = .ok (.aload_n 0, 1) := by decide +kernel
theorem dX10_addType_78 : decode cX10_addType 78 = .ok (.getfield 66, 3) := by decide +kernel
theorem dX10_addType_81 : decode cX10_addType 81 = .ok (.iload_n 2, 1) := by decide +kernel
theorem dX10_addType_82 : decode cX10_addType 82 = .ok (.aload_n 0, 1) := by decide +kernel
theorem dX10_addType_83 : decode cX10_addType 83 = .ok (.getfield 81, 3) := by decide +kernel
theorem dX10_addType_86 : decode cX10_addType 86 = .ok (.iload_n 2, 1) := by decide +kernel
theorem dX10_addType_87 : decode cX10_addType 87 = .ok (.iaload, 1) := by decide +kernel
theorem dX10_addType_88 : decode cX10_addType 88 = .ok (.iastore, 1) := by decide +kernel
theorem dX10_addType_89 : decode cX10_addType 89 = .ok (.iinc 2 1, 3) := by decide +kernel
theorem dX10_addType_92 : decode cX10_addType 92 = .ok (.goto (-23), 3) := by decide +kernel
theorem dX10_addType_95 : decode cX10_addType 95 = .ok (.aload_n 0, 1) := by decide +kernel
theorem dX10_addType_96 : decode cX10_addType 96 = .ok (.bipush (-4), 2) := by decide +kernel
theorem dX10_addType_98 : decode cX10_addType 98 = .ok (.bipush (-4), 2) := by decide +kernel
theorem dX10_addType_100 : decode cX10_addType 100 = .ok (.invokevirtual 132, 3) := by decide +kernel
theorem dX10_addType_103 : decode cX10_addType 103 = .ok (.ireturn, 1) := by decide +kernel
def lX10_addType_69 (N : Nat) (v0 : Nat) : Nat → Int32 → qM → Option (qM)
  | 0, _, _ => none
  | n + 1, v2, m0 =>
    (qgI m0 v0 10 27).bind fun x1 =>
    if x1 ≤ v2 then (
    some m0
    ) else (
    (qgR m0 v0 10 26).bind fun x2 =>
    (qgR m0 v0 10 33).bind fun x3 =>
    (qaI m0 x3 12 v2).bind fun x4 =>
    (qwI m0 x2 12 v2 x4).bind fun m5 =>
    lX10_addType_69 N v0 n (v2 + (1 : Int32)) m5
    )
set_option maxRecDepth 100000 in
theorem lbX10_addType_69 {E : qE} {N d bc bs : Nat} (hd : 1276 ≤ d) {v0 : Nat} : ∀ (n : Nat) (v2 : Int32) (m0 : qM), qB E yX10_addType cX10_addType 3 (some .int) (fun _ => True) d bc bs 69 [(0, .ref (E.2.1 + v0)), (2, .int v2)] [] m0 (lX10_addType_69 N v0 n v2 m0) (fun o rr => qJ E yX10_addType cX10_addType 3 (some .int) (fun _ => True) d bc bs 95 [(0, .ref (E.2.1 + v0))] [] o rr) := by
  intro n
  induction n with
  | zero =>
    intro v2 m0
    exact j_none
  | succ n ih =>
    intro v2 m0
    unfold lX10_addType_69
    refine j_iload_n (q := 1) (np := 70) rfl rfl dX10_addType_69 rfl ?_
    refine j_aload_n (q := 0) (np := 71) rfl rfl dX10_addType_70 rfl ?_
    refine j_gI (np := 74) flX10_109 dX10_addType_71 rfl (fun x1 => ?_)
    refine j_icmp_ge (tgt := 95) (np := 77) dX10_addType_74 rfl rfl ?_ ?_
    · refine j_sub (lv2 := [(0, .ref (E.2.1 + v0))]) [0] rfl ?_
      exact j_exit (fun rr h => h)
    · refine j_aload_n (q := 0) (np := 78) rfl rfl dX10_addType_77 rfl ?_
      refine j_gR (np := 81) flX10_66 dX10_addType_78 rfl (fun x2 => ?_)
      refine j_iload_n (q := 1) (np := 82) rfl rfl dX10_addType_81 rfl ?_
      refine j_aload_n (q := 0) (np := 83) rfl rfl dX10_addType_82 rfl ?_
      refine j_gR (np := 86) flX10_81 dX10_addType_83 rfl (fun x3 => ?_)
      refine j_iload_n (q := 1) (np := 87) rfl rfl dX10_addType_86 rfl ?_
      refine j_iaload (np := 88) dX10_addType_87 rfl (fun x4 => ?_)
      refine j_iastore (np := 89) dX10_addType_88 rfl (fun m5 => ?_)
      refine j_iinc (q := 1) (np := 92) (lv2 := [(2, .int (v2 + (1 : Int32))), (0, .ref (E.2.1 + v0))]) rfl (congrArg _ ci_1) (by decide) dX10_addType_89 rfl rfl ?_
      refine j_goto (tgt := 69) dX10_addType_92 rfl ?_
      refine j_sub (lv2 := [(0, .ref (E.2.1 + v0)), (2, .int (v2 + (1 : Int32)))]) [1, 0] rfl ?_
      exact ih _ _
def kX10_addType_28 (N : Nat) (v0 : Nat) (v1 : Int32)  (m0 : qM) : Option (Int32 × qM) :=
  (qpI m0 v0 10 7 (0 : Int32)).bind fun m1 =>
  if v1 = 0 then (
  (qgI m1 v0 10 9).bind fun x9 =>
  some ((-100 : Int32) - x9, m1)
  ) else (
  (qgI m1 v0 10 36).bind fun x2 =>
  if 0 ≤ x2 then (
  (qgR m1 v0 10 34).bind fun x3 =>
  (qaI m1 x3 12 (0 : Int32)).bind fun x4 =>
  (qpI m1 v0 10 27 x4).bind fun m5 =>
  (lX10_addType_69 N v0 N (0 : Int32) m5).bind fun o6 =>
  (qChk o6 v0 10 (fX10_enters N v0 (-4 : Int32) (-4 : Int32) o6)).bind fun b7 =>
  some (b7.1, b7.2)
  ) else (
  (qgI m1 v0 10 36).bind fun x8 =>
  some (x8, m1)
  )
  )
set_option maxRecDepth 100000 in
theorem kbX10_addType_28 {E : qE} {N d bc bs : Nat} (hd : 1276 ≤ d) {v0 : Nat} {v1 : Int32}  {m0 : qM} : qB E yX10_addType cX10_addType 3 (some .int) (fun _ => True) d bc bs 28 [(0, .ref (E.2.1 + v0)), (1, .int v1)] [] m0 (kX10_addType_28 N v0 v1 m0) (fun b rr => rr = (some (.int b.1), b.2)) := by
  unfold kX10_addType_28
  refine j_aload_n (q := 0) (np := 29) rfl rfl dX10_addType_28 rfl ?_
  refine j_iconst (np := 30) ci_0 dX10_addType_29 rfl ?_
  refine j_pI (np := 33) flX10_103 dX10_addType_30 rfl (fun m1 => ?_)
  refine j_iload_n (q := 1) (np := 34) rfl rfl dX10_addType_33 rfl ?_
  refine j_if_ne (tgt := 45) (np := 37) dX10_addType_34 rfl rfl ?_ ?_
  · refine j_aload_n (q := 0) (np := 46) rfl rfl dX10_addType_45 rfl ?_
    refine j_gI (np := 49) flX10_259 dX10_addType_46 rfl (fun x2 => ?_)
    refine j_if_ge (tgt := 57) (np := 52) dX10_addType_49 rfl rfl ?_ ?_
    · refine j_aload_n (q := 0) (np := 58) rfl rfl dX10_addType_57 rfl ?_
      refine j_aload_n (q := 0) (np := 59) rfl rfl dX10_addType_58 rfl ?_
      refine j_gR (np := 62) flX10_84 dX10_addType_59 rfl (fun x3 => ?_)
      refine j_iconst (np := 63) ci_0 dX10_addType_62 rfl ?_
      refine j_iaload (np := 64) dX10_addType_63 rfl (fun x4 => ?_)
      refine j_pI (np := 67) flX10_109 dX10_addType_64 rfl (fun m5 => ?_)
      refine j_iconst (np := 68) ci_0 dX10_addType_67 rfl ?_
      refine j_istore_n (np := 69) (lv2 := [(2, .int (0 : Int32)), (0, .ref (E.2.1 + v0)), (1, .int v1)]) rfl (by decide) dX10_addType_68 rfl rfl ?_
      refine j_sub (lv2 := [(0, .ref (E.2.1 + v0)), (2, .int (0 : Int32))]) [1, 0] rfl ?_
      refine j_loop (xp := 95) (lvX := fun o6 => [(0, .ref (E.2.1 + v0))]) (mX := fun o6 => o6) (lbX10_addType_69 hd _ _ _) (fun o6 => ?_)
      refine j_aload_n (q := 0) (np := 96) rfl rfl dX10_addType_95 rfl ?_
      refine j_bipush (np := 98) cb_m4 dX10_addType_96 rfl ?_
      refine j_bipush (np := 100) cb_m4 dX10_addType_98 rfl ?_
      refine j_callVi (ci := 10) (np := 103) (bc := bc) (bs := bs) (cb := 0) (cs := 0) (dd := d - 1) (As := [.int (-4 : Int32), .int (-4 : Int32)]) (st := []) caX10_enters mlX10_132 imX10_enters seX10_enters rfl rfl (by decide) (fun b hb => wX10_enters (by omega) hb) (by omega) rfl rfl (Nat.le_of_ble_eq_true rfl) dX10_addType_100 rfl (fun b7 => ?_)
      exact j_iret rfl dX10_addType_103 (fun rr h => h)
    · refine j_aload_n (q := 0) (np := 53) rfl rfl dX10_addType_52 rfl ?_
      refine j_gI (np := 56) flX10_259 dX10_addType_53 rfl (fun x8 => ?_)
      exact j_iret rfl dX10_addType_56 (fun rr h => h)
  · refine j_bipush (np := 39) cb_m100 dX10_addType_37 rfl ?_
    refine j_aload_n (q := 0) (np := 40) rfl rfl dX10_addType_39 rfl ?_
    refine j_gI (np := 43) flX10_112 dX10_addType_40 rfl (fun x9 => ?_)
    refine j_isub (np := 44) dX10_addType_43 rfl ?_
    exact j_iret rfl dX10_addType_44 (fun rr h => h)
def fX10_addType (N : Nat) (v0 : Nat) (m0 : qM) : Option (Int32 × qM) :=
  (qChk m0 v0 10 (fX10_isTerm N v0 m0)).bind fun b1 =>
  if b1.1 = 0 then (
  kX10_addType_28 N v0 b1.1 b1.2
  ) else (
  (qpI b1.2 v0 10 8 (0 : Int32)).bind fun m2 =>
  (qpI m2 v0 10 36 (0 : Int32)).bind fun m3 =>
  (qpI m3 v0 10 35 (0 : Int32)).bind fun m4 =>
  (qChk m4 v0 10 (fX10_typesTerm N kR v0 m4)).bind fun b5 =>
  kX10_addType_28 N v0 b1.1 b5
  )
set_option maxRecDepth 100000 in
theorem bX10_addType {E : qE} {N d bc bs : Nat} (hd : 1276 ≤ d) {v0 : Nat} {m0 : qM} : qB E yX10_addType cX10_addType 3 (some .int) (fun _ => True) d bc bs 0 [(0, .ref (E.2.1 + v0))] [] m0 (fX10_addType N v0 m0) (fun b rr => rr = (some (.int b.1), b.2)) := by
  unfold fX10_addType
  refine j_aload_n (q := 0) (np := 1) rfl rfl dX10_addType_0 rfl ?_
  refine j_callVi (ci := 10) (np := 4) (bc := bc) (bs := bs) (cb := 0) (cs := 0) (dd := d - 1) (As := []) (st := []) caX10_isTerm mlX10_281 imX10_isTerm seX10_isTerm rfl rfl (by decide) (fun b hb => wX10_isTerm (by omega) hb) (by omega) rfl rfl (Nat.le_of_ble_eq_true rfl) dX10_addType_1 rfl (fun b1 => ?_)
  refine j_istore_n (np := 5) (lv2 := [(1, .int b1.1), (0, .ref (E.2.1 + v0))]) rfl (by decide) dX10_addType_4 rfl rfl ?_
  refine j_iload_n (q := 0) (np := 6) rfl rfl dX10_addType_5 rfl ?_
  refine j_if_eq (tgt := 28) (np := 9) dX10_addType_6 rfl rfl ?_ ?_
  · refine j_sub (lv2 := [(0, .ref (E.2.1 + v0)), (1, .int b1.1)]) [1, 0] rfl ?_
    exact kbX10_addType_28 hd
  · refine j_aload_n (q := 1) (np := 10) rfl rfl dX10_addType_9 rfl ?_
    refine j_iconst (np := 11) ci_0 dX10_addType_10 rfl ?_
    refine j_pI (np := 14) flX10_106 dX10_addType_11 rfl (fun m2 => ?_)
    refine j_aload_n (q := 1) (np := 15) rfl rfl dX10_addType_14 rfl ?_
    refine j_iconst (np := 16) ci_0 dX10_addType_15 rfl ?_
    refine j_pI (np := 19) flX10_259 dX10_addType_16 rfl (fun m3 => ?_)
    refine j_aload_n (q := 1) (np := 20) rfl rfl dX10_addType_19 rfl ?_
    refine j_iconst (np := 21) ci_0 dX10_addType_20 rfl ?_
    refine j_pI (np := 24) flX10_256 dX10_addType_21 rfl (fun m4 => ?_)
    refine j_aload_n (q := 1) (np := 25) rfl rfl dX10_addType_24 rfl ?_
    refine j_callVv (ci := 10) (np := 28) (bc := bc) (bs := bs) (cb := 0) (cs := 0) (dd := d - 1) (As := []) (st := []) caX10_typesTerm mlX10_265 imX10_typesTerm seX10_typesTerm rfl rfl (by decide) (fun b hb => wX10_typesTerm (by show 130 + _ ≤ _; omega) hb) (by omega) rfl rfl (Nat.le_of_ble_eq_true rfl) dX10_addType_25 rfl (fun b5 => ?_)
    refine j_sub (lv2 := [(0, .ref (E.2.1 + v0)), (1, .int b1.1)]) [1, 0] rfl ?_
    exact kbX10_addType_28 hd
set_option maxRecDepth 100000 in
theorem wX10_addType {E : qE} {N d : Nat} (hd : 1276 ≤ d) {v0 : Nat} {m0 : qM} {b : Int32 × qM} (h : fX10_addType N v0 m0 = some b) : qRun E yX10_addType cX10_addType 3 (some .int) d 0 0 [.ref (E.2.1 + v0)] m0 (some (.int b.1), b.2) := q_met pnX10 (Nat.le_of_ble_eq_true rfl) (bX10_addType hd b _ h rfl)
theorem dX10_node_0 : decode cX10_node 0 = .ok (.aload_n 0, 1) := by decide +kernel
theorem dX10_node_1 : decode cX10_node 1 = .ok (.getfield 72, 3) := by decide +kernel
theorem dX10_node_4 : decode cX10_node 4 = .ok (.aload_n 0, 1) := by decide +kernel
theorem dX10_node_5 : decode cX10_node 5 = .ok (.getfield 284, 3) := by decide +kernel
theorem dX10_node_8 : decode cX10_node 8 = .ok (.iload_n 1, 1) := by decide +kernel
theorem dX10_node_9 : decode cX10_node 9 = .ok (.iastore, 1) := by decide +kernel
theorem dX10_node_10 : decode cX10_node 10 = .ok (.aload_n 0, 1) := by decide +kernel
theorem dX10_node_11 : decode cX10_node 11 = .ok (.getfield 75, 3) := by decide +kernel
theorem dX10_node_14 : decode cX10_node 14 = .ok (.aload_n 0, 1) := by decide +kernel
theorem dX10_node_15 : decode cX10_node 15 = .ok (.getfield 284, 3) := by decide +kernel
theorem dX10_node_18 : decode cX10_node 18 = .ok (.iload_n 2, 1) := by decide +kernel
theorem dX10_node_19 : decode cX10_node 19 = .ok (.iastore, 1) := by decide +kernel
theorem dX10_node_20 : decode cX10_node 20 = .ok (.aload_n 0, 1) := by decide +kernel
theorem dX10_node_21 : decode cX10_node 21 = .ok (.getfield 78, 3) := by decide +kernel
theorem dX10_node_24 : decode cX10_node 24 = .ok (.aload_n 0, 1) := by decide +kernel
theorem dX10_node_25 : decode cX10_node 25 = .ok (.getfield 284, 3) := by decide +kernel
theorem dX10_node_28 : decode cX10_node 28 = .ok (.iload_n 3, 1) := by decide +kernel
theorem dX10_node_29 : decode cX10_node 29 = .ok (.iastore, 1) := by decide +kernel
theorem dX10_node_30 : decode cX10_node 30 = .ok (.aload_n 0, 1) := by decide +kernel
theorem dX10_node_31 : decode cX10_node 31 = .ok (.dup, 1) := by decide +kernel
theorem dX10_node_32 : decode cX10_node 32 = .ok (.getfield 284, 3) := by decide +kernel
theorem dX10_node_35 : decode cX10_node 35 = .ok (.dup_x1, 1) := by decide +kernel
theorem dX10_node_36 : decode cX10_node 36 = .ok (.iconst 1, 1) := by decide +kernel
theorem dX10_node_37 : decode cX10_node 37 = .ok (.iadd, 1) := by decide +kernel
theorem dX10_node_38 : decode cX10_node 38 = .ok (.putfield 284, 3) := by decide +kernel
theorem dX10_node_41 : decode cX10_node 41 = .ok (.ireturn, 1) := by decide +kernel
def fX10_node (N : Nat) (v0 : Nat) (v1 : Int32) (v2 : Int32) (v3 : Int32) (m0 : qM) : Option (Int32 × qM) :=
  (qgR m0 v0 10 29).bind fun x1 =>
  (qgI m0 v0 10 32).bind fun x2 =>
  (qwI m0 x1 12 x2 v1).bind fun m3 =>
  (qgR m3 v0 10 30).bind fun x4 =>
  (qgI m3 v0 10 32).bind fun x5 =>
  (qwI m3 x4 12 x5 v2).bind fun m6 =>
  (qgR m6 v0 10 31).bind fun x7 =>
  (qgI m6 v0 10 32).bind fun x8 =>
  (qwI m6 x7 12 x8 v3).bind fun m9 =>
  (qgI m9 v0 10 32).bind fun x10 =>
  (qpI m9 v0 10 32 (x10 + (1 : Int32))).bind fun m11 =>
  some (x10, m11)
set_option maxRecDepth 100000 in
theorem bX10_node {E : qE} {N d bc bs : Nat} (hd : 0 ≤ d) {v0 : Nat} {v1 : Int32} {v2 : Int32} {v3 : Int32} {m0 : qM} : qB E yX10_node cX10_node 4 (some .int) (fun _ => True) d bc bs 0 [(0, .ref (E.2.1 + v0)), (1, .int v1), (2, .int v2), (3, .int v3)] [] m0 (fX10_node N v0 v1 v2 v3 m0) (fun b rr => rr = (some (.int b.1), b.2)) := by
  unfold fX10_node
  refine j_aload_n (q := 0) (np := 1) rfl rfl dX10_node_0 rfl ?_
  refine j_gR (np := 4) flX10_72 dX10_node_1 rfl (fun x1 => ?_)
  refine j_aload_n (q := 0) (np := 5) rfl rfl dX10_node_4 rfl ?_
  refine j_gI (np := 8) flX10_284 dX10_node_5 rfl (fun x2 => ?_)
  refine j_iload_n (q := 1) (np := 9) rfl rfl dX10_node_8 rfl ?_
  refine j_iastore (np := 10) dX10_node_9 rfl (fun m3 => ?_)
  refine j_aload_n (q := 0) (np := 11) rfl rfl dX10_node_10 rfl ?_
  refine j_gR (np := 14) flX10_75 dX10_node_11 rfl (fun x4 => ?_)
  refine j_aload_n (q := 0) (np := 15) rfl rfl dX10_node_14 rfl ?_
  refine j_gI (np := 18) flX10_284 dX10_node_15 rfl (fun x5 => ?_)
  refine j_iload_n (q := 2) (np := 19) rfl rfl dX10_node_18 rfl ?_
  refine j_iastore (np := 20) dX10_node_19 rfl (fun m6 => ?_)
  refine j_aload_n (q := 0) (np := 21) rfl rfl dX10_node_20 rfl ?_
  refine j_gR (np := 24) flX10_78 dX10_node_21 rfl (fun x7 => ?_)
  refine j_aload_n (q := 0) (np := 25) rfl rfl dX10_node_24 rfl ?_
  refine j_gI (np := 28) flX10_284 dX10_node_25 rfl (fun x8 => ?_)
  refine j_iload_n (q := 3) (np := 29) rfl rfl dX10_node_28 rfl ?_
  refine j_iastore (np := 30) dX10_node_29 rfl (fun m9 => ?_)
  refine j_aload_n (q := 0) (np := 31) rfl rfl dX10_node_30 rfl ?_
  refine j_dup (np := 32) rfl dX10_node_31 rfl ?_
  refine j_gI (np := 35) flX10_284 dX10_node_32 rfl (fun x10 => ?_)
  refine j_dup_x1 (np := 36) rfl rfl dX10_node_35 rfl ?_
  refine j_iconst (np := 37) ci_1 dX10_node_36 rfl ?_
  refine j_iadd (np := 38) dX10_node_37 rfl ?_
  refine j_pI (np := 41) flX10_284 dX10_node_38 rfl (fun m11 => ?_)
  exact j_iret rfl dX10_node_41 (fun rr h => h)
set_option maxRecDepth 100000 in
theorem wX10_node {E : qE} {N d : Nat} (hd : 0 ≤ d) {v0 : Nat} {v1 : Int32} {v2 : Int32} {v3 : Int32} {m0 : qM} {b : Int32 × qM} (h : fX10_node N v0 v1 v2 v3 m0 = some b) : qRun E yX10_node cX10_node 4 (some .int) d 0 0 [.ref (E.2.1 + v0), .int v1, .int v2, .int v3] m0 (some (.int b.1), b.2) := q_met pnX10 (Nat.le_of_ble_eq_true rfl) (bX10_node hd b _ h rfl)
theorem dX10_apply_0 : decode cX10_apply 0 = .ok (.aload_n 0, 1) := by decide +kernel
theorem dX10_apply_1 : decode cX10_apply 1 = .ok (.iconst (-1), 1) := by decide +kernel
theorem dX10_apply_2 : decode cX10_apply 2 = .ok (.iload_n 1, 1) := by decide +kernel
theorem dX10_apply_3 : decode cX10_apply 3 = .ok (.iload_n 2, 1) := by decide +kernel
theorem dX10_apply_4 : decode cX10_apply 4 = .ok (.invokevirtual 287, 3) := by decide +kernel
theorem dX10_apply_7 : decode cX10_apply 7 = .ok (.ireturn, 1) := by decide +kernel
def fX10_apply (N : Nat) (v0 : Nat) (v1 : Int32) (v2 : Int32) (m0 : qM) : Option (Int32 × qM) :=
  (qChk m0 v0 10 (fX10_node N v0 (-1 : Int32) v1 v2 m0)).bind fun b1 =>
  some (b1.1, b1.2)
set_option maxRecDepth 100000 in
theorem bX10_apply {E : qE} {N d bc bs : Nat} (hd : 1 ≤ d) {v0 : Nat} {v1 : Int32} {v2 : Int32} {m0 : qM} : qB E yX10_apply cX10_apply 3 (some .int) (fun _ => True) d bc bs 0 [(0, .ref (E.2.1 + v0)), (1, .int v1), (2, .int v2)] [] m0 (fX10_apply N v0 v1 v2 m0) (fun b rr => rr = (some (.int b.1), b.2)) := by
  unfold fX10_apply
  refine j_aload_n (q := 0) (np := 1) rfl rfl dX10_apply_0 rfl ?_
  refine j_iconst (np := 2) ci_m1 dX10_apply_1 rfl ?_
  refine j_iload_n (q := 1) (np := 3) rfl rfl dX10_apply_2 rfl ?_
  refine j_iload_n (q := 2) (np := 4) rfl rfl dX10_apply_3 rfl ?_
  refine j_callVi (ci := 10) (np := 7) (bc := bc) (bs := bs) (cb := 0) (cs := 0) (dd := d - 1) (As := [.int (-1 : Int32), .int v1, .int v2]) (st := []) caX10_node mlX10_287 imX10_node seX10_node rfl rfl (by decide) (fun b hb => wX10_node (by omega) hb) (by omega) rfl rfl (Nat.le_of_ble_eq_true rfl) dX10_apply_4 rfl (fun b1 => ?_)
  exact j_iret rfl dX10_apply_7 (fun rr h => h)
set_option maxRecDepth 100000 in
theorem wX10_apply {E : qE} {N d : Nat} (hd : 1 ≤ d) {v0 : Nat} {v1 : Int32} {v2 : Int32} {m0 : qM} {b : Int32 × qM} (h : fX10_apply N v0 v1 v2 m0 = some b) : qRun E yX10_apply cX10_apply 3 (some .int) d 0 0 [.ref (E.2.1 + v0), .int v1, .int v2] m0 (some (.int b.1), b.2) := q_met pnX10 (Nat.le_of_ble_eq_true rfl) (bX10_apply hd b _ h rfl)
theorem dX10_readsTerm_0 : decode cX10_readsTerm 0 = .ok (.iconst (-1), 1) := by decide +kernel
theorem dX10_readsTerm_1 : decode cX10_readsTerm 1 = .ok (.istore_n 1, 1) := by decide +kernel
theorem dX10_readsTerm_2 : decode cX10_readsTerm 2 = .ok (.aload_n 0, 1) := by decide +kernel
theorem dX10_readsTerm_3 : decode cX10_readsTerm 3 = .ok (.getfield 106, 3) := by decide +kernel
theorem dX10_readsTerm_6 : decode cX10_readsTerm 6 = .ok (.aload_n 0, 1) := by decide +kernel
theorem dX10_readsTerm_7 : decode cX10_readsTerm 7 = .ok (.getfield 103, 3) := by decide +kernel
theorem dX10_readsTerm_10 : decode cX10_readsTerm 10 = .ok (.if_icmp .ge 94, 3) := by decide +kernel
theorem dX10_readsTerm_13 : decode cX10_readsTerm 13 = .ok (.aload_n 0, 1) := by decide +kernel
theorem dX10_readsTerm_14 : decode cX10_readsTerm 14 = .ok (.getfield 25, 3) := by decide +kernel
theorem dX10_readsTerm_17 : decode cX10_readsTerm 17 = .ok (.aload_n 0, 1) := by decide +kernel
theorem dX10_readsTerm_18 : decode cX10_readsTerm 18 = .ok (.getfield 106, 3) := by decide +kernel
theorem dX10_readsTerm_21 : decode cX10_readsTerm 21 = .ok (.iaload, 1) := by decide +kernel
theorem dX10_readsTerm_22 : decode cX10_readsTerm 22 = .ok (.bipush 41, 2) := by decide +kernel
theorem dX10_readsTerm_24 : decode cX10_readsTerm 24 = .ok (.if_icmp .eq 80, 3) := by decide +kernel
theorem dX10_readsTerm_27 : decode cX10_readsTerm 27 = .ok (.aload_n 0, 1) := by decide +kernel
theorem dX10_readsTerm_28 : decode cX10_readsTerm 28 = .ok (.getfield 25, 3) := by decide +kernel
theorem dX10_readsTerm_31 : decode cX10_readsTerm 31 = .ok (.aload_n 0, 1) := by decide +kernel
theorem dX10_readsTerm_32 : decode cX10_readsTerm 32 = .ok (.dup, 1) := by decide +kernel
theorem dX10_readsTerm_33 : decode cX10_readsTerm 33 = .ok (.getfield 106, 3) := by decide +kernel
theorem dX10_readsTerm_36 : decode cX10_readsTerm 36 = .ok (.dup_x1, 1) := by decide +kernel
theorem dX10_readsTerm_37 : decode cX10_readsTerm 37 = .ok (.iconst 1, 1) := by decide +kernel
theorem dX10_readsTerm_38 : decode cX10_readsTerm 38 = .ok (.iadd, 1) := by decide +kernel
theorem dX10_readsTerm_39 : decode cX10_readsTerm 39 = .ok (.putfield 106, 3) := by decide +kernel
theorem dX10_readsTerm_42 : decode cX10_readsTerm 42 = .ok (.iaload, 1) := by decide +kernel
theorem dX10_readsTerm_43 : decode cX10_readsTerm 43 = .ok (.istore_n 2, 1) := by decide +kernel
theorem dX10_readsTerm_44 : decode cX10_readsTerm 44 = .ok (.iload_n 2, 1) := by decide +kernel
theorem dX10_readsTerm_45 : decode cX10_readsTerm 45 = .ok (.bipush 40, 2) := by decide +kernel
theorem dX10_readsTerm_47 : decode cX10_readsTerm 47 = .ok (.if_icmp .ne 10, 3) := by decide +kernel
theorem dX10_readsTerm_50 : decode cX10_readsTerm 50 = .ok (.aload_n 0, 1) := by decide +kernel
theorem dX10_readsTerm_51 : decode cX10_readsTerm 51 = .ok (.invokevirtual 291, 3) := by decide +kernel
theorem dX10_readsTerm_54 : decode cX10_readsTerm 54 = .ok (.goto 15, 3) := by decide +kernel
theorem dX10_readsTerm_57 : decode cX10_readsTerm 57 = .ok (.aload_n 0, 1) := by decide +kernel
theorem dX10_readsTerm_58 : decode cX10_readsTerm 58 = .ok (.ldc 237, 2) := by decide +kernel
theorem dX10_readsTerm_60 : decode cX10_readsTerm 60 = .ok (.iload_n 2, 1) := by decide +kernel
theorem dX10_readsTerm_61 : decode cX10_readsTerm 61 = .ok (.invokevirtual 239, 3) := by decide +kernel
theorem dX10_readsTerm_64 : decode cX10_readsTerm 64 = .ok (.iconst 0, 1) := by decide +kernel
theorem dX10_readsTerm_65 : decode cX10_readsTerm 65 = .ok (.iconst 0, 1) := by decide +kernel
theorem dX10_readsTerm_66 : decode cX10_readsTerm 66 = .ok (.invokevirtual 287, 3) := by decide +kernel
theorem dX10_readsTerm_69 : decode cX10_readsTerm 69 = .ok (.istore_n 3, 1) := by decide +kernel
theorem dX10_readsTerm_70 : decode cX10_readsTerm 70 = .ok (.iload_n 2, 1) := by decide +kernel
theorem dX10_readsTerm_71 : decode cX10_readsTerm 71 = .ok (.bipush 40, 2) := by decide +kernel
theorem dX10_readsTerm_73 : decode cX10_readsTerm 73 = .ok (.if_icmp .ne 13, 3) := by decide +kernel
theorem dX10_readsTerm_76 : decode cX10_readsTerm 76 = .ok (.aload_n 0, 1) := by decide +kernel
theorem dX10_readsTerm_77 : decode cX10_readsTerm 77 = .ok (.dup, 1) := by decide +kernel
theorem dX10_readsTerm_78 : decode cX10_readsTerm 78 = .ok (.getfield 106, 3) := by decide +kernel
theorem dX10_readsTerm_81 : decode cX10_readsTerm 81 = .ok (.iconst 1, 1) := by decide +kernel
theorem dX10_readsTerm_82 : decode cX10_readsTerm 82 = .ok (.iadd, 1) := by decide +kernel
theorem dX10_readsTerm_83 : decode cX10_readsTerm 83 = .ok (.putfield 106, 3) := by decide +kernel
theorem dX10_readsTerm_86 : decode cX10_readsTerm 86 = .ok (.iload_n 1, 1) := by decide +kernel
theorem dX10_readsTerm_87 : decode cX10_readsTerm 87 = .ok (.ifCond .ge 7, 3) := by decide +kernel
theorem dX10_readsTerm_90 : decode cX10_readsTerm 90 = .ok (.iload_n 3, 1) := by decide +kernel
theorem dX10_readsTerm_91 : decode cX10_readsTerm 91 = .ok (.goto 9, 3) := by decide +kernel
theorem dX10_readsTerm_94 : decode cX10_readsTerm 94 = .ok (.aload_n 0, 1) := by decide +kernel
theorem dX10_readsTerm_95 : decode cX10_readsTerm 95 = .ok (.iload_n 1, 1) := by decide +kernel
theorem dX10_readsTerm_96 : decode cX10_readsTerm 96 = .ok (.iload_n 3, 1) := by decide +kernel
theorem dX10_readsTerm_97 : decode cX10_readsTerm 97 = .ok (.invokevirtual 294, 3) := by decide +kernel
theorem dX10_readsTerm_100 : decode cX10_readsTerm 100 = .ok (.istore_n 1, 1) := by decide +kernel
theorem dX10_readsTerm_101 : decode cX10_readsTerm 101 = .ok (.goto (-99), 3) := by decide +kernel
theorem dX10_readsTerm_104 : decode cX10_readsTerm 104 = .ok (.iload_n 1, 1) := by decide +kernel
theorem dX10_readsTerm_105 : decode cX10_readsTerm 105 = .ok (.ireturn, 1) := by decide +kernel
def kX10_readsTerm_100 (N : Nat) (fr : Nat → qM → Option (Int32 × qM)) (rec : Int32 → qM → Option (Int32 × qM)) (v0 : Nat) (s0 : Int32) (m0 : qM) : Option (Int32 × qM) :=
  rec s0 m0
set_option maxRecDepth 100000 in
theorem kbX10_readsTerm_100 {E : qE} {N d bc bs : Nat} (hd : 4 ≤ d) {fr : Nat → qM → Option (Int32 × qM)} (hfr : ∀ (m : qM) (b : Int32 × qM) (v0 : Nat), fr v0 m = some b → qRun E yX10_readsTerm cX10_readsTerm 4 (some .int) (d - 1) 0 0 [.ref (E.2.1 + v0)] m (some (.int b.1), b.2)) {v0 : Nat} {s0 : Int32} {m0 : qM} {rec : Int32 → qM → Option (Int32 × qM)} (hrec : ∀ (v1 : Int32) (m : qM), qB E yX10_readsTerm cX10_readsTerm 4 (some .int) (fun _ => True) d bc bs 2 [(0, .ref (E.2.1 + v0)), (1, .int v1)] [] m (rec v1 m) (fun o rr => qJ E yX10_readsTerm cX10_readsTerm 4 (some .int) (fun _ => True) d bc bs 104 [(1, .int o.1)] [] o.2 rr)) : qB E yX10_readsTerm cX10_readsTerm 4 (some .int) (fun _ => True) d bc bs 100 [(0, .ref (E.2.1 + v0))] [.int s0] m0 (kX10_readsTerm_100 N fr rec v0 s0 m0) (fun o rr => qJ E yX10_readsTerm cX10_readsTerm 4 (some .int) (fun _ => True) d bc bs 104 [(1, .int o.1)] [] o.2 rr) := by
  unfold kX10_readsTerm_100
  refine j_istore_n (np := 101) (lv2 := [(1, .int s0), (0, .ref (E.2.1 + v0))]) rfl (by decide) dX10_readsTerm_100 rfl rfl ?_
  refine j_goto (tgt := 2) dX10_readsTerm_101 rfl ?_
  refine j_sub (lv2 := [(0, .ref (E.2.1 + v0)), (1, .int s0)]) [1, 0] rfl ?_
  exact hrec _ _
def kX10_readsTerm_86 (N : Nat) (fr : Nat → qM → Option (Int32 × qM)) (rec : Int32 → qM → Option (Int32 × qM)) (v0 : Nat) (v1 : Int32) (v3 : Int32)  (m0 : qM) : Option (Int32 × qM) :=
  if 0 ≤ v1 then (
  (qChk m0 v0 10 (fX10_apply N v0 v1 v3 m0)).bind fun b1 =>
  kX10_readsTerm_100 N fr (rec) v0 b1.1 b1.2
  ) else (
  kX10_readsTerm_100 N fr (rec) v0 v3 m0
  )
set_option maxRecDepth 100000 in
theorem kbX10_readsTerm_86 {E : qE} {N d bc bs : Nat} (hd : 4 ≤ d) {fr : Nat → qM → Option (Int32 × qM)} (hfr : ∀ (m : qM) (b : Int32 × qM) (v0 : Nat), fr v0 m = some b → qRun E yX10_readsTerm cX10_readsTerm 4 (some .int) (d - 1) 0 0 [.ref (E.2.1 + v0)] m (some (.int b.1), b.2)) {v0 : Nat} {v1 : Int32} {v3 : Int32}  {m0 : qM} {rec : Int32 → qM → Option (Int32 × qM)} (hrec : ∀ (v1 : Int32) (m : qM), qB E yX10_readsTerm cX10_readsTerm 4 (some .int) (fun _ => True) d bc bs 2 [(0, .ref (E.2.1 + v0)), (1, .int v1)] [] m (rec v1 m) (fun o rr => qJ E yX10_readsTerm cX10_readsTerm 4 (some .int) (fun _ => True) d bc bs 104 [(1, .int o.1)] [] o.2 rr)) : qB E yX10_readsTerm cX10_readsTerm 4 (some .int) (fun _ => True) d bc bs 86 [(0, .ref (E.2.1 + v0)), (1, .int v1), (3, .int v3)] [] m0 (kX10_readsTerm_86 N fr rec v0 v1 v3 m0) (fun o rr => qJ E yX10_readsTerm cX10_readsTerm 4 (some .int) (fun _ => True) d bc bs 104 [(1, .int o.1)] [] o.2 rr) := by
  unfold kX10_readsTerm_86
  refine j_iload_n (q := 1) (np := 87) rfl rfl dX10_readsTerm_86 rfl ?_
  refine j_if_ge (tgt := 94) (np := 90) dX10_readsTerm_87 rfl rfl ?_ ?_
  · refine j_aload_n (q := 0) (np := 95) rfl rfl dX10_readsTerm_94 rfl ?_
    refine j_iload_n (q := 1) (np := 96) rfl rfl dX10_readsTerm_95 rfl ?_
    refine j_iload_n (q := 2) (np := 97) rfl rfl dX10_readsTerm_96 rfl ?_
    refine j_callVi (ci := 10) (np := 100) (bc := bc) (bs := bs) (cb := 0) (cs := 0) (dd := d - 1) (As := [.int v1, .int v3]) (st := []) caX10_apply mlX10_294 imX10_apply seX10_apply rfl rfl (by decide) (fun b hb => wX10_apply (by omega) hb) (by omega) rfl rfl (Nat.le_of_ble_eq_true rfl) dX10_readsTerm_97 rfl (fun b1 => ?_)
    refine j_sub (lv2 := [(0, .ref (E.2.1 + v0))]) [0] rfl ?_
    exact kbX10_readsTerm_100 hd hfr hrec
  · refine j_iload_n (q := 2) (np := 91) rfl rfl dX10_readsTerm_90 rfl ?_
    refine j_goto (tgt := 100) dX10_readsTerm_91 rfl ?_
    refine j_sub (lv2 := [(0, .ref (E.2.1 + v0))]) [0] rfl ?_
    exact kbX10_readsTerm_100 hd hfr hrec
def kX10_readsTerm_69 (N : Nat) (fr : Nat → qM → Option (Int32 × qM)) (rec : Int32 → qM → Option (Int32 × qM)) (v0 : Nat) (v1 : Int32) (v2 : Int32) (s0 : Int32) (m0 : qM) : Option (Int32 × qM) :=
  if v2 = (40 : Int32) then (
  (qgI m0 v0 10 8).bind fun x1 =>
  (qpI m0 v0 10 8 (x1 + (1 : Int32))).bind fun m2 =>
  kX10_readsTerm_86 N fr (rec) v0 v1 s0 m2
  ) else (
  kX10_readsTerm_86 N fr (rec) v0 v1 s0 m0
  )
set_option maxRecDepth 100000 in
theorem kbX10_readsTerm_69 {E : qE} {N d bc bs : Nat} (hd : 4 ≤ d) {fr : Nat → qM → Option (Int32 × qM)} (hfr : ∀ (m : qM) (b : Int32 × qM) (v0 : Nat), fr v0 m = some b → qRun E yX10_readsTerm cX10_readsTerm 4 (some .int) (d - 1) 0 0 [.ref (E.2.1 + v0)] m (some (.int b.1), b.2)) {v0 : Nat} {v1 : Int32} {v2 : Int32} {s0 : Int32} {m0 : qM} {rec : Int32 → qM → Option (Int32 × qM)} (hrec : ∀ (v1 : Int32) (m : qM), qB E yX10_readsTerm cX10_readsTerm 4 (some .int) (fun _ => True) d bc bs 2 [(0, .ref (E.2.1 + v0)), (1, .int v1)] [] m (rec v1 m) (fun o rr => qJ E yX10_readsTerm cX10_readsTerm 4 (some .int) (fun _ => True) d bc bs 104 [(1, .int o.1)] [] o.2 rr)) : qB E yX10_readsTerm cX10_readsTerm 4 (some .int) (fun _ => True) d bc bs 69 [(0, .ref (E.2.1 + v0)), (1, .int v1), (2, .int v2)] [.int s0] m0 (kX10_readsTerm_69 N fr rec v0 v1 v2 s0 m0) (fun o rr => qJ E yX10_readsTerm cX10_readsTerm 4 (some .int) (fun _ => True) d bc bs 104 [(1, .int o.1)] [] o.2 rr) := by
  unfold kX10_readsTerm_69
  refine j_istore_n (np := 70) (lv2 := [(3, .int s0), (0, .ref (E.2.1 + v0)), (1, .int v1), (2, .int v2)]) rfl (by decide) dX10_readsTerm_69 rfl rfl ?_
  refine j_iload_n (q := 3) (np := 71) rfl rfl dX10_readsTerm_70 rfl ?_
  refine j_bipush (np := 73) cb_40 dX10_readsTerm_71 rfl ?_
  refine j_icmp_ne (tgt := 86) (np := 76) dX10_readsTerm_73 rfl rfl ?_ ?_
  · refine j_sub (lv2 := [(0, .ref (E.2.1 + v0)), (1, .int v1), (3, .int s0)]) [1, 2, 0] rfl ?_
    exact kbX10_readsTerm_86 hd hfr hrec
  · refine j_aload_n (q := 1) (np := 77) rfl rfl dX10_readsTerm_76 rfl ?_
    refine j_dup (np := 78) rfl dX10_readsTerm_77 rfl ?_
    refine j_gI (np := 81) flX10_106 dX10_readsTerm_78 rfl (fun x1 => ?_)
    refine j_iconst (np := 82) ci_1 dX10_readsTerm_81 rfl ?_
    refine j_iadd (np := 83) dX10_readsTerm_82 rfl ?_
    refine j_pI (np := 86) flX10_106 dX10_readsTerm_83 rfl (fun m2 => ?_)
    refine j_sub (lv2 := [(0, .ref (E.2.1 + v0)), (1, .int v1), (3, .int s0)]) [1, 2, 0] rfl ?_
    exact kbX10_readsTerm_86 hd hfr hrec
def lX10_readsTerm_2 (N : Nat) (fr : Nat → qM → Option (Int32 × qM)) (v0 : Nat) : Nat → Int32 → qM → Option (Int32 × qM)
  | 0, _, _ => none
  | n + 1, v1, m0 =>
    (qgI m0 v0 10 8).bind fun x1 =>
    (qgI m0 v0 10 7).bind fun x2 =>
    if x2 ≤ x1 then (
    some (v1, m0)
    ) else (
    (qgR m0 v0 10 6).bind fun x3 =>
    (qgI m0 v0 10 8).bind fun x4 =>
    (qaI m0 x3 12 x4).bind fun x5 =>
    if x5 = (41 : Int32) then (
    some (v1, m0)
    ) else (
    (qgR m0 v0 10 6).bind fun x6 =>
    (qgI m0 v0 10 8).bind fun x7 =>
    (qpI m0 v0 10 8 (x7 + (1 : Int32))).bind fun m8 =>
    (qaI m8 x6 12 x7).bind fun x9 =>
    if x9 = (40 : Int32) then (
    (qChk m8 v0 10 (fr v0 m8)).bind fun b12 =>
    kX10_readsTerm_69 N fr (lX10_readsTerm_2 N fr v0 n) v0 v1 x9 b12.1 b12.2
    ) else (
    (qChs 11 (fJ0_indexOf_0f7a4 N 11 x9 m8)).bind fun b10 =>
    (qChk b10.2 v0 10 (fX10_node N v0 b10.1 (0 : Int32) (0 : Int32) b10.2)).bind fun b11 =>
    kX10_readsTerm_69 N fr (lX10_readsTerm_2 N fr v0 n) v0 v1 x9 b11.1 b11.2
    )
    )
    )
set_option maxRecDepth 100000 in
theorem lbX10_readsTerm_2 {E : qE} {N d bc bs : Nat} (hd : 4 ≤ d) {fr : Nat → qM → Option (Int32 × qM)} (hfr : ∀ (m : qM) (b : Int32 × qM) (v0 : Nat), fr v0 m = some b → qRun E yX10_readsTerm cX10_readsTerm 4 (some .int) (d - 1) 0 0 [.ref (E.2.1 + v0)] m (some (.int b.1), b.2)) {v0 : Nat} : ∀ (n : Nat) (v1 : Int32) (m0 : qM), qB E yX10_readsTerm cX10_readsTerm 4 (some .int) (fun _ => True) d bc bs 2 [(0, .ref (E.2.1 + v0)), (1, .int v1)] [] m0 (lX10_readsTerm_2 N fr v0 n v1 m0) (fun o rr => qJ E yX10_readsTerm cX10_readsTerm 4 (some .int) (fun _ => True) d bc bs 104 [(1, .int o.1)] [] o.2 rr) := by
  intro n
  induction n with
  | zero =>
    intro v1 m0
    exact j_none
  | succ n ih =>
    intro v1 m0
    unfold lX10_readsTerm_2
    refine j_aload_n (q := 0) (np := 3) rfl rfl dX10_readsTerm_2 rfl ?_
    refine j_gI (np := 6) flX10_106 dX10_readsTerm_3 rfl (fun x1 => ?_)
    refine j_aload_n (q := 0) (np := 7) rfl rfl dX10_readsTerm_6 rfl ?_
    refine j_gI (np := 10) flX10_103 dX10_readsTerm_7 rfl (fun x2 => ?_)
    refine j_icmp_ge (tgt := 104) (np := 13) dX10_readsTerm_10 rfl rfl ?_ ?_
    · refine j_sub (lv2 := [(1, .int v1)]) [1] rfl ?_
      exact j_exit (fun rr h => h)
    · refine j_aload_n (q := 0) (np := 14) rfl rfl dX10_readsTerm_13 rfl ?_
      refine j_gR (np := 17) flX10_25 dX10_readsTerm_14 rfl (fun x3 => ?_)
      refine j_aload_n (q := 0) (np := 18) rfl rfl dX10_readsTerm_17 rfl ?_
      refine j_gI (np := 21) flX10_106 dX10_readsTerm_18 rfl (fun x4 => ?_)
      refine j_iaload (np := 22) dX10_readsTerm_21 rfl (fun x5 => ?_)
      refine j_bipush (np := 24) cb_41 dX10_readsTerm_22 rfl ?_
      refine j_icmp_eq (tgt := 104) (np := 27) dX10_readsTerm_24 rfl rfl ?_ ?_
      · refine j_sub (lv2 := [(1, .int v1)]) [1] rfl ?_
        exact j_exit (fun rr h => h)
      · refine j_aload_n (q := 0) (np := 28) rfl rfl dX10_readsTerm_27 rfl ?_
        refine j_gR (np := 31) flX10_25 dX10_readsTerm_28 rfl (fun x6 => ?_)
        refine j_aload_n (q := 0) (np := 32) rfl rfl dX10_readsTerm_31 rfl ?_
        refine j_dup (np := 33) rfl dX10_readsTerm_32 rfl ?_
        refine j_gI (np := 36) flX10_106 dX10_readsTerm_33 rfl (fun x7 => ?_)
        refine j_dup_x1 (np := 37) rfl rfl dX10_readsTerm_36 rfl ?_
        refine j_iconst (np := 38) ci_1 dX10_readsTerm_37 rfl ?_
        refine j_iadd (np := 39) dX10_readsTerm_38 rfl ?_
        refine j_pI (np := 42) flX10_106 dX10_readsTerm_39 rfl (fun m8 => ?_)
        refine j_iaload (np := 43) dX10_readsTerm_42 rfl (fun x9 => ?_)
        refine j_istore_n (np := 44) (lv2 := [(2, .int x9), (0, .ref (E.2.1 + v0)), (1, .int v1)]) rfl (by decide) dX10_readsTerm_43 rfl rfl ?_
        refine j_iload_n (q := 0) (np := 45) rfl rfl dX10_readsTerm_44 rfl ?_
        refine j_bipush (np := 47) cb_40 dX10_readsTerm_45 rfl ?_
        refine j_icmp_ne (tgt := 57) (np := 50) dX10_readsTerm_47 rfl rfl ?_ ?_
        · refine j_aload_n (q := 1) (np := 58) rfl rfl dX10_readsTerm_57 rfl ?_
          refine j_ldcS (np := 60) (k := 11) (List.mem_of_getElem? (i := 11) rfl) dX10_readsTerm_58 rfl ?_
          refine j_iload_n (q := 0) (np := 61) rfl rfl dX10_readsTerm_60 rfl ?_
          refine j_callT (np := 64) (dd := d - 1) (As := [.int x9]) (st := [.ref (E.2.1 + v0)]) caJ0_indexOf_0f7a4 mlX10_239 imJ0_indexOf_0f7a4 seJ0_indexOf_0f7a4 rfl (fun b hb => wJ0_indexOf_0f7a4 (by omega) hb) (by omega) rfl rfl (Nat.le_of_ble_eq_true rfl) dX10_readsTerm_61 rfl (fun b10 => ?_)
          refine j_iconst (np := 65) ci_0 dX10_readsTerm_64 rfl ?_
          refine j_iconst (np := 66) ci_0 dX10_readsTerm_65 rfl ?_
          refine j_callVi (ci := 10) (np := 69) (bc := bc) (bs := bs) (cb := 0) (cs := 0) (dd := d - 1) (As := [.int b10.1, .int (0 : Int32), .int (0 : Int32)]) (st := []) caX10_node mlX10_287 imX10_node seX10_node rfl rfl (by decide) (fun b hb => wX10_node (by omega) hb) (by omega) rfl rfl (Nat.le_of_ble_eq_true rfl) dX10_readsTerm_66 rfl (fun b11 => ?_)
          refine j_sub (lv2 := [(0, .ref (E.2.1 + v0)), (1, .int v1), (2, .int x9)]) [1, 2, 0] rfl ?_
          exact kbX10_readsTerm_69 hd hfr ih
        · refine j_aload_n (q := 1) (np := 51) rfl rfl dX10_readsTerm_50 rfl ?_
          refine j_callVi (ci := 10) (np := 54) (bc := bc) (bs := bs) (cb := 0) (cs := 0) (dd := d - 1) (As := []) (st := []) caX10_readsTerm mlX10_291 imX10_readsTerm seX10_readsTerm rfl rfl (by decide) (fun b hb => hfr _ _ _ hb) (by omega) rfl rfl (Nat.le_of_ble_eq_true rfl) dX10_readsTerm_51 rfl (fun b12 => ?_)
          refine j_goto (tgt := 69) dX10_readsTerm_54 rfl ?_
          refine j_sub (lv2 := [(0, .ref (E.2.1 + v0)), (1, .int v1), (2, .int x9)]) [1, 2, 0] rfl ?_
          exact kbX10_readsTerm_69 hd hfr ih
def fX10_readsTerm (N : Nat) : Nat → Nat → qM → Option (Int32 × qM)
  | 0, _, _ => none
  | k + 1, v0, m0 =>
    (lX10_readsTerm_2 N (fX10_readsTerm N k) v0 N (-1 : Int32) m0).bind fun o1 =>
    some (o1.1, o1.2)
set_option maxRecDepth 100000 in
theorem wX10_readsTerm {E : qE} {N : Nat} : ∀ {k d : Nat} (hd : k + 4 ≤ d) {m0 : qM} {b : Int32 × qM} {v0 : Nat} (h : fX10_readsTerm N k v0 m0 = some b), qRun E yX10_readsTerm cX10_readsTerm 4 (some .int) d 0 0 [.ref (E.2.1 + v0)] m0 (some (.int b.1), b.2) := by
  intro k
  induction k with
  | zero =>
    intro d hd m0 b v0 h
    cases h
  | succ k ih =>
    intro d hd m0 b v0 h
    have hfr : ∀ (m : qM) (b : Int32 × qM) (v0 : Nat), fX10_readsTerm N k v0 m = some b → qRun E yX10_readsTerm cX10_readsTerm 4 (some .int) (d - 1) 0 0 [.ref (E.2.1 + v0)] m (some (.int b.1), b.2) := fun m b v0 h => ih (by omega) h
    have hd : 4 ≤ d := by omega
    have bd : qB E yX10_readsTerm cX10_readsTerm 4 (some .int) (fun _ => True) d 0 0 0 [(0, .ref (E.2.1 + v0))] [] m0 (fX10_readsTerm N (k + 1) v0 m0) (fun b rr => rr = (some (.int b.1), b.2)) := by
      unfold fX10_readsTerm
      refine j_iconst (np := 1) ci_m1 dX10_readsTerm_0 rfl ?_
      refine j_istore_n (np := 2) (lv2 := [(1, .int (-1 : Int32)), (0, .ref (E.2.1 + v0))]) rfl (by decide) dX10_readsTerm_1 rfl rfl ?_
      refine j_sub (lv2 := [(0, .ref (E.2.1 + v0)), (1, .int (-1 : Int32))]) [1, 0] rfl ?_
      refine j_loop (xp := 104) (lvX := fun o1 => [(1, .int o1.1)]) (mX := fun o1 => o1.2) (lbX10_readsTerm_2 hd hfr _ _ _) (fun o1 => ?_)
      refine j_iload_n (q := 0) (np := 105) rfl rfl dX10_readsTerm_104 rfl ?_
      exact j_iret rfl dX10_readsTerm_105 (fun rr h => h)
    exact q_met pnX10 (Nat.le_of_ble_eq_true rfl) (bd b _ h rfl)
theorem dX10_sizeOf_0 : decode cX10_sizeOf 0 = .ok (.aload_n 0, 1) := by decide +kernel
theorem dX10_sizeOf_1 : decode cX10_sizeOf 1 = .ok (.getfield 72, 3) := by decide +kernel
theorem dX10_sizeOf_4 : decode cX10_sizeOf 4 = .ok (.iload_n 1, 1) := by decide +kernel
theorem dX10_sizeOf_5 : decode cX10_sizeOf 5 = .ok (.iaload, 1) := by decide +kernel
theorem dX10_sizeOf_6 : decode cX10_sizeOf 6 = .ok (.ifCond .lt 7, 3) := by decide +kernel
theorem dX10_sizeOf_9 : decode cX10_sizeOf 9 = .ok (.iconst 1, 1) := by decide +kernel
theorem dX10_sizeOf_10 : decode cX10_sizeOf 10 = .ok (.goto 24, 3) := by decide +kernel
theorem dX10_sizeOf_13 : decode cX10_sizeOf 13 = .ok (.aload_n 0, 1) := by decide +kernel
theorem dX10_sizeOf_14 : decode cX10_sizeOf 14 = .ok (.aload_n 0, 1) := by decide +kernel
theorem dX10_sizeOf_15 : decode cX10_sizeOf 15 = .ok (.getfield 75, 3) := by decide +kernel
theorem dX10_sizeOf_18 : decode cX10_sizeOf 18 = .ok (.iload_n 1, 1) := by decide +kernel
theorem dX10_sizeOf_19 : decode cX10_sizeOf 19 = .ok (.iaload, 1) := by decide +kernel
theorem dX10_sizeOf_20 : decode cX10_sizeOf 20 = .ok (.invokevirtual 297, 3) := by decide +kernel
theorem dX10_sizeOf_23 : decode cX10_sizeOf 23 = .ok (.aload_n 0, 1) := by decide +kernel
theorem dX10_sizeOf_24 : decode cX10_sizeOf 24 = .ok (.aload_n 0, 1) := by decide +kernel
theorem dX10_sizeOf_25 : decode cX10_sizeOf 25 = .ok (.getfield 78, 3) := by decide +kernel
theorem dX10_sizeOf_28 : decode cX10_sizeOf 28 = .ok (.iload_n 1, 1) := by decide +kernel
theorem dX10_sizeOf_29 : decode cX10_sizeOf 29 = .ok (.iaload, 1) := by decide +kernel
theorem dX10_sizeOf_30 : decode cX10_sizeOf 30 = .ok (.invokevirtual 297, 3) := by decide +kernel
theorem dX10_sizeOf_33 : decode cX10_sizeOf 33 = .ok (.iadd, 1) := by decide +kernel
theorem dX10_sizeOf_34 : decode cX10_sizeOf 34 = .ok (.ireturn, 1) := by decide +kernel
def fX10_sizeOf (N : Nat) : Nat → Nat → Int32 → qM → Option (Int32 × qM)
  | 0, _, _, _ => none
  | k + 1, v0, v1, m0 =>
    (qgR m0 v0 10 29).bind fun x1 =>
    (qaI m0 x1 12 v1).bind fun x2 =>
    if x2 < 0 then (
    (qgR m0 v0 10 30).bind fun x3 =>
    (qaI m0 x3 12 v1).bind fun x4 =>
    (qChk m0 v0 10 (fX10_sizeOf N k v0 x4 m0)).bind fun b5 =>
    (qgR b5.2 v0 10 31).bind fun x6 =>
    (qaI b5.2 x6 12 v1).bind fun x7 =>
    (qChk b5.2 v0 10 (fX10_sizeOf N k v0 x7 b5.2)).bind fun b8 =>
    some (b5.1 + b8.1, b8.2)
    ) else (
    some ((1 : Int32), m0)
    )
set_option maxRecDepth 100000 in
theorem wX10_sizeOf {E : qE} {N : Nat} : ∀ {k d : Nat} (hd : k + 1 ≤ d) {m0 : qM} {b : Int32 × qM} {v0 : Nat} {v1 : Int32} (h : fX10_sizeOf N k v0 v1 m0 = some b), qRun E yX10_sizeOf cX10_sizeOf 2 (some .int) d 0 0 [.ref (E.2.1 + v0), .int v1] m0 (some (.int b.1), b.2) := by
  intro k
  induction k with
  | zero =>
    intro d hd m0 b v0 v1 h
    cases h
  | succ k ih =>
    intro d hd m0 b v0 v1 h
    have hfr : ∀ (m : qM) (b : Int32 × qM) (v0 : Nat) (v1 : Int32), fX10_sizeOf N k v0 v1 m = some b → qRun E yX10_sizeOf cX10_sizeOf 2 (some .int) (d - 1) 0 0 [.ref (E.2.1 + v0), .int v1] m (some (.int b.1), b.2) := fun m b v0 v1 h => ih (by omega) h
    have hd : 1 ≤ d := by omega
    have bd : qB E yX10_sizeOf cX10_sizeOf 2 (some .int) (fun _ => True) d 0 0 0 [(0, .ref (E.2.1 + v0)), (1, .int v1)] [] m0 (fX10_sizeOf N (k + 1) v0 v1 m0) (fun b rr => rr = (some (.int b.1), b.2)) := by
      unfold fX10_sizeOf
      refine j_aload_n (q := 0) (np := 1) rfl rfl dX10_sizeOf_0 rfl ?_
      refine j_gR (np := 4) flX10_72 dX10_sizeOf_1 rfl (fun x1 => ?_)
      refine j_iload_n (q := 1) (np := 5) rfl rfl dX10_sizeOf_4 rfl ?_
      refine j_iaload (np := 6) dX10_sizeOf_5 rfl (fun x2 => ?_)
      refine j_if_lt (tgt := 13) (np := 9) dX10_sizeOf_6 rfl rfl ?_ ?_
      · refine j_aload_n (q := 0) (np := 14) rfl rfl dX10_sizeOf_13 rfl ?_
        refine j_aload_n (q := 0) (np := 15) rfl rfl dX10_sizeOf_14 rfl ?_
        refine j_gR (np := 18) flX10_75 dX10_sizeOf_15 rfl (fun x3 => ?_)
        refine j_iload_n (q := 1) (np := 19) rfl rfl dX10_sizeOf_18 rfl ?_
        refine j_iaload (np := 20) dX10_sizeOf_19 rfl (fun x4 => ?_)
        refine j_callVi (ci := 10) (np := 23) (bc := 0) (bs := 0) (cb := 0) (cs := 0) (dd := d - 1) (As := [.int x4]) (st := []) caX10_sizeOf mlX10_297 imX10_sizeOf seX10_sizeOf rfl rfl (by decide) (fun b hb => hfr _ _ _ _ hb) (by omega) rfl rfl (Nat.le_of_ble_eq_true rfl) dX10_sizeOf_20 rfl (fun b5 => ?_)
        refine j_aload_n (q := 0) (np := 24) rfl rfl dX10_sizeOf_23 rfl ?_
        refine j_aload_n (q := 0) (np := 25) rfl rfl dX10_sizeOf_24 rfl ?_
        refine j_gR (np := 28) flX10_78 dX10_sizeOf_25 rfl (fun x6 => ?_)
        refine j_iload_n (q := 1) (np := 29) rfl rfl dX10_sizeOf_28 rfl ?_
        refine j_iaload (np := 30) dX10_sizeOf_29 rfl (fun x7 => ?_)
        refine j_callVi (ci := 10) (np := 33) (bc := 0) (bs := 0) (cb := 0) (cs := 0) (dd := d - 1) (As := [.int x7]) (st := [.int b5.1]) caX10_sizeOf mlX10_297 imX10_sizeOf seX10_sizeOf rfl rfl (by decide) (fun b hb => hfr _ _ _ _ hb) (by omega) rfl rfl (Nat.le_of_ble_eq_true rfl) dX10_sizeOf_30 rfl (fun b8 => ?_)
        refine j_iadd (np := 34) dX10_sizeOf_33 rfl ?_
        exact j_iret rfl dX10_sizeOf_34 (fun rr h => h)
      · refine j_iconst (np := 10) ci_1 dX10_sizeOf_9 rfl ?_
        refine j_goto (tgt := 34) dX10_sizeOf_10 rfl ?_
        exact j_iret rfl dX10_sizeOf_34 (fun rr h => h)
    exact q_met pnX10 (Nat.le_of_ble_eq_true rfl) (bd b _ h rfl)
