theorem dX5_copyFrom_0 : decode cX5_copyFrom 0 = .ok (.aload_n 1, 1) := by decide +kernel
theorem dX5_copyFrom_1 : decode cX5_copyFrom 1 = .ok (.getfield 9, 3) := by decide +kernel
theorem dX5_copyFrom_4 : decode cX5_copyFrom 4 = .ok (.iload_n 2, 1) := by decide +kernel
theorem dX5_copyFrom_5 : decode cX5_copyFrom 5 = .ok (.aload_n 0, 1) := by decide +kernel
theorem dX5_copyFrom_6 : decode cX5_copyFrom 6 = .ok (.getfield 9, 3) := by decide +kernel
theorem dX5_copyFrom_9 : decode cX5_copyFrom 9 = .ok (.iload_n 3, 1) := by decide +kernel
theorem dX5_copyFrom_10 : decode cX5_copyFrom 10 = .ok (.iload 4, 2) := by decide +kernel
theorem dX5_copyFrom_12 : decode cX5_copyFrom 12 = .ok (.invokestatic 28, 3) := by decide +kernel
theorem dX5_copyFrom_15 : decode cX5_copyFrom 15 = .ok (.return_, 1) := by decide +kernel
def fX5_copyFrom (N : Nat) (v0 : Nat) (v1 : Nat) (v2 : Int32) (v3 : Int32) (v4 : Int32) (m0 : qM) : Option (qM) :=
  (qgR m0 v1 5 0).bind fun x1 =>
  (qgR m0 v0 5 0).bind fun x2 =>
  (qcpy m0 x1 v2 x2 v3 v4).bind fun m3 =>
  some m3
set_option maxRecDepth 100000 in
theorem bX5_copyFrom {E : qE} {N d bc bs : Nat} (hd : 1 ≤ d) {v0 : Nat} {v1 : Nat} {v2 : Int32} {v3 : Int32} {v4 : Int32} {m0 : qM} : qB E yX5_copyFrom cX5_copyFrom 5 none (fun _ => True) d bc bs 0 [(0, .ref (E.2.1 + v0)), (1, .ref (E.2.1 + v1)), (2, .int v2), (3, .int v3), (4, .int v4)] [] m0 (fX5_copyFrom N v0 v1 v2 v3 v4 m0) (fun b rr => rr = (none, b)) := by
  unfold fX5_copyFrom
  refine j_aload_n (q := 1) (np := 1) rfl rfl dX5_copyFrom_0 rfl ?_
  refine j_gR (np := 4) flX5_9 dX5_copyFrom_1 rfl (fun x1 => ?_)
  refine j_iload_n (q := 2) (np := 5) rfl rfl dX5_copyFrom_4 rfl ?_
  refine j_aload_n (q := 0) (np := 6) rfl rfl dX5_copyFrom_5 rfl ?_
  refine j_gR (np := 9) flX5_9 dX5_copyFrom_6 rfl (fun x2 => ?_)
  refine j_iload_n (q := 3) (np := 10) rfl rfl dX5_copyFrom_9 rfl ?_
  refine j_iload (q := 4) (np := 12) rfl dX5_copyFrom_10 rfl ?_
  refine j_copy (np := 15) mlX5_28 ntCopy stCopy inSys (by omega) (Nat.le_of_ble_eq_true rfl) dX5_copyFrom_12 rfl (fun m3 => ?_)
  exact j_vret rfl dX5_copyFrom_15 (fun rr h => h)
set_option maxRecDepth 100000 in
theorem wX5_copyFrom {E : qE} {N d : Nat} (hd : 1 ≤ d) {v0 : Nat} {v1 : Nat} {v2 : Int32} {v3 : Int32} {v4 : Int32} {m0 : qM} {b : qM} (h : fX5_copyFrom N v0 v1 v2 v3 v4 m0 = some b) : qRun E yX5_copyFrom cX5_copyFrom 5 none d 0 0 [.ref (E.2.1 + v0), .ref (E.2.1 + v1), .int v2, .int v3, .int v4] m0 (none, b) := q_met pnX5 (Nat.le_of_ble_eq_true rfl) (bX5_copyFrom hd b _ h rfl)
theorem dX6_arityOf_0 : decode cX6_arityOf 0 = .ok (.iload_n 0, 1) := by decide +kernel
theorem dX6_arityOf_1 : decode cX6_arityOf 1 = .ok (.lookupswitch 65 #[(66, 63), (67, 63), (73, 59), (75, 61), (83, 63), (87, 61)], 59) := by decide +kernel
theorem dX6_arityOf_60 : decode cX6_arityOf 60 = .ok (.iconst 1, 1) := by decide +kernel
theorem dX6_arityOf_61 : decode cX6_arityOf 61 = .ok (.ireturn, 1) := by decide +kernel
theorem dX6_arityOf_62 : decode cX6_arityOf 62 = .ok (.iconst 2, 1) := by decide +kernel
theorem dX6_arityOf_63 : decode cX6_arityOf 63 = .ok (.ireturn, 1) := by decide +kernel
theorem dX6_arityOf_64 : decode cX6_arityOf 64 = .ok (.iconst 3, 1) := by decide +kernel
theorem dX6_arityOf_65 : decode cX6_arityOf 65 = .ok (.ireturn, 1) := by decide +kernel
theorem dX6_arityOf_66 : decode cX6_arityOf 66 = .ok (.iconst 0, 1) := by decide +kernel
theorem dX6_arityOf_67 : decode cX6_arityOf 67 = .ok (.ireturn, 1) := by decide +kernel
def fX6_arityOf (N : Nat) (v0 : Int32) (m0 : qM) : Option (Int32 × qM) :=
  if v0 = (66 : Int32) then (
  some ((3 : Int32), m0)
  ) else (
  if v0 = (67 : Int32) then (
  some ((3 : Int32), m0)
  ) else (
  if v0 = (73 : Int32) then (
  some ((1 : Int32), m0)
  ) else (
  if v0 = (75 : Int32) then (
  some ((2 : Int32), m0)
  ) else (
  if v0 = (83 : Int32) then (
  some ((3 : Int32), m0)
  ) else (
  if v0 = (87 : Int32) then (
  some ((2 : Int32), m0)
  ) else (
  some ((0 : Int32), m0)
  ))))))
set_option maxRecDepth 100000 in
theorem bX6_arityOf {E : qE} {N d bc bs : Nat} (hd : 0 ≤ d) {v0 : Int32} {m0 : qM} : qB E yX6_arityOf cX6_arityOf 1 (some .int) (fun _ => True) d bc bs 0 [(0, .int v0)] [] m0 (fX6_arityOf N v0 m0) (fun b rr => rr = (some (.int b.1), b.2)) := by
  unfold fX6_arityOf
  refine j_iload_n (q := 0) (np := 1) rfl rfl dX6_arityOf_0 rfl ?_
  refine j_split (fun h66 => ?_) (fun h66 => ?_)
  · refine j_lookup (off := 63) (tgt := 64) dX6_arityOf_1 (by decide) (by rw [h66] <;> rfl) rfl ?_
    refine j_iconst (np := 65) ci_3 dX6_arityOf_64 rfl ?_
    exact j_iret rfl dX6_arityOf_65 (fun rr h => h)
  refine j_split (fun h67 => ?_) (fun h67 => ?_)
  · refine j_lookup (off := 63) (tgt := 64) dX6_arityOf_1 (by decide) (by rw [h67] <;> rfl) rfl ?_
    refine j_iconst (np := 65) ci_3 dX6_arityOf_64 rfl ?_
    exact j_iret rfl dX6_arityOf_65 (fun rr h => h)
  refine j_split (fun h73 => ?_) (fun h73 => ?_)
  · refine j_lookup (off := 59) (tgt := 60) dX6_arityOf_1 (by decide) (by rw [h73] <;> rfl) rfl ?_
    refine j_iconst (np := 61) ci_1 dX6_arityOf_60 rfl ?_
    exact j_iret rfl dX6_arityOf_61 (fun rr h => h)
  refine j_split (fun h75 => ?_) (fun h75 => ?_)
  · refine j_lookup (off := 61) (tgt := 62) dX6_arityOf_1 (by decide) (by rw [h75] <;> rfl) rfl ?_
    refine j_iconst (np := 63) ci_2 dX6_arityOf_62 rfl ?_
    exact j_iret rfl dX6_arityOf_63 (fun rr h => h)
  refine j_split (fun h83 => ?_) (fun h83 => ?_)
  · refine j_lookup (off := 63) (tgt := 64) dX6_arityOf_1 (by decide) (by rw [h83] <;> rfl) rfl ?_
    refine j_iconst (np := 65) ci_3 dX6_arityOf_64 rfl ?_
    exact j_iret rfl dX6_arityOf_65 (fun rr h => h)
  refine j_split (fun h87 => ?_) (fun h87 => ?_)
  · refine j_lookup (off := 61) (tgt := 62) dX6_arityOf_1 (by decide) (by rw [h87] <;> rfl) rfl ?_
    refine j_iconst (np := 63) ci_2 dX6_arityOf_62 rfl ?_
    exact j_iret rfl dX6_arityOf_63 (fun rr h => h)
  refine j_lookup (off := 65) (tgt := 66) dX6_arityOf_1 (by decide) (by show Op.lookupswitch.offset [(66, 63), (67, 63), (73, 59), (75, 61), (83, 63), (87, 61)] 65 _ = _; rw [lv_osw (a := 66) h66 (by decide), lv_osw (a := 67) h67 (by decide), lv_osw (a := 73) h73 (by decide), lv_osw (a := 75) h75 (by decide), lv_osw (a := 83) h83 (by decide), lv_osw (a := 87) h87 (by decide)] <;> rfl) rfl ?_
  refine j_iconst (np := 67) ci_0 dX6_arityOf_66 rfl ?_
  exact j_iret rfl dX6_arityOf_67 (fun rr h => h)
set_option maxRecDepth 100000 in
theorem wX6_arityOf {E : qE} {N d : Nat} (hd : 0 ≤ d) {v0 : Int32} {m0 : qM} {b : Int32 × qM} (h : fX6_arityOf N v0 m0 = some b) : qRun E yX6_arityOf cX6_arityOf 1 (some .int) d 0 0 [.int v0] m0 (some (.int b.1), b.2) := q_met pnX6 (Nat.le_of_ble_eq_true rfl) (bX6_arityOf hd b _ h rfl)
theorem dX6_length_0 : decode cX6_length 0 = .ok (.aload_n 0, 1) := by decide +kernel
theorem dX6_length_1 : decode cX6_length 1 = .ok (.getfield 57, 3) := by decide +kernel
theorem dX6_length_4 : decode cX6_length 4 = .ok (.ireturn, 1) := by decide +kernel
def fX6_length (N : Nat) (v0 : Nat) (m0 : qM) : Option (Int32 × qM) :=
  (qgI m0 v0 6 7).bind fun x1 =>
  some (x1, m0)
set_option maxRecDepth 100000 in
theorem bX6_length {E : qE} {N d bc bs : Nat} (hd : 0 ≤ d) {v0 : Nat} {m0 : qM} : qB E yX6_length cX6_length 1 (some .int) (fun _ => True) d bc bs 0 [(0, .ref (E.2.1 + v0))] [] m0 (fX6_length N v0 m0) (fun b rr => rr = (some (.int b.1), b.2)) := by
  unfold fX6_length
  refine j_aload_n (q := 0) (np := 1) rfl rfl dX6_length_0 rfl ?_
  refine j_gI (np := 4) flX6_57 dX6_length_1 rfl (fun x1 => ?_)
  exact j_iret rfl dX6_length_4 (fun rr h => h)
set_option maxRecDepth 100000 in
theorem wX6_length {E : qE} {N d : Nat} (hd : 0 ≤ d) {v0 : Nat} {m0 : qM} {b : Int32 × qM} (h : fX6_length N v0 m0 = some b) : qRun E yX6_length cX6_length 1 (some .int) d 0 0 [.ref (E.2.1 + v0)] m0 (some (.int b.1), b.2) := q_met pnX6 (Nat.le_of_ble_eq_true rfl) (bX6_length hd b _ h rfl)
theorem dX6_at_0 : decode cX6_at 0 = .ok (.aload_n 0, 1) := by decide +kernel
theorem dX6_at_1 : decode cX6_at 1 = .ok (.getfield 28, 3) := by decide +kernel
theorem dX6_at_4 : decode cX6_at 4 = .ok (.iload_n 1, 1) := by decide +kernel
theorem dX6_at_5 : decode cX6_at 5 = .ok (.caload, 1) := by decide +kernel
theorem dX6_at_6 : decode cX6_at 6 = .ok (.ireturn, 1) := by decide +kernel
def fX6_at (N : Nat) (v0 : Nat) (v1 : Int32) (m0 : qM) : Option (Int32 × qM) :=
  (qgR m0 v0 6 5).bind fun x1 =>
  (qaI m0 x1 11 v1).bind fun x2 =>
  some (x2.toUInt32.toUInt16.toUInt32.toInt32, m0)
set_option maxRecDepth 100000 in
theorem bX6_at {E : qE} {N d bc bs : Nat} (hd : 0 ≤ d) {v0 : Nat} {v1 : Int32} {m0 : qM} : qB E yX6_at cX6_at 2 (some .char) (fun _ => True) d bc bs 0 [(0, .ref (E.2.1 + v0)), (1, .int v1)] [] m0 (fX6_at N v0 v1 m0) (fun b rr => rr = (some (.int b.1), b.2)) := by
  unfold fX6_at
  refine j_aload_n (q := 0) (np := 1) rfl rfl dX6_at_0 rfl ?_
  refine j_gR (np := 4) flX6_28 dX6_at_1 rfl (fun x1 => ?_)
  refine j_iload_n (q := 1) (np := 5) rfl rfl dX6_at_4 rfl ?_
  refine j_caload (np := 6) dX6_at_5 rfl (fun x2 => ?_)
  exact j_cret rfl dX6_at_6 (fun rr h => h)
set_option maxRecDepth 100000 in
theorem wX6_at {E : qE} {N d : Nat} (hd : 0 ≤ d) {v0 : Nat} {v1 : Int32} {m0 : qM} {b : Int32 × qM} (h : fX6_at N v0 v1 m0 = some b) : qRun E yX6_at cX6_at 2 (some .char) d 0 0 [.ref (E.2.1 + v0), .int v1] m0 (some (.int b.1), b.2) := q_met pnX6 (Nat.le_of_ble_eq_true rfl) (bX6_at hd b _ h rfl)
theorem dX6_add_0 : decode cX6_add 0 = .ok (.aload_n 0, 1) := by decide +kernel
theorem dX6_add_1 : decode cX6_add 1 = .ok (.getfield 57, 3) := by decide +kernel
theorem dX6_add_4 : decode cX6_add 4 = .ok (.sipush 160, 3) := by decide +kernel
theorem dX6_add_7 : decode cX6_add 7 = .ok (.if_icmp .ge 23, 3) := by decide +kernel
theorem dX6_add_10 : decode cX6_add 10 = .ok (.aload_n 0, 1) := by decide +kernel
theorem dX6_add_11 : decode cX6_add 11 = .ok (.getfield 28, 3) := by decide +kernel
theorem dX6_add_14 : decode cX6_add 14 = .ok (.aload_n 0, 1) := by decide +kernel
theorem dX6_add_15 : decode cX6_add 15 = .ok (.getfield 57, 3) := by decide +kernel
theorem dX6_add_18 : decode cX6_add 18 = .ok (.iload_n 1, 1) := by decide +kernel
theorem dX6_add_19 : decode cX6_add 19 = .ok (.castore, 1) := by decide +kernel
theorem dX6_add_20 : decode cX6_add 20 = .ok (.aload_n 0, 1) := by decide +kernel
theorem dX6_add_21 : decode cX6_add 21 = .ok (.dup, 1) := by decide +kernel
theorem dX6_add_22 : decode cX6_add 22 = .ok (.getfield 57, 3) := by decide +kernel
theorem dX6_add_25 : decode cX6_add 25 = .ok (.iconst 1, 1) := by decide +kernel
theorem dX6_add_26 : decode cX6_add 26 = .ok (.iadd, 1) := by decide +kernel
theorem dX6_add_27 : decode cX6_add 27 = .ok (.putfield 57, 3) := by decide +kernel
theorem dX6_add_30 : decode cX6_add 30 = .ok (.return_, 1) := by decide +kernel
def fX6_add (N : Nat) (v0 : Nat) (v1 : Int32) (m0 : qM) : Option (qM) :=
  (qgI m0 v0 6 7).bind fun x1 =>
  if (160 : Int32) ≤ x1 then (
  some m0
  ) else (
  (qgR m0 v0 6 5).bind fun x2 =>
  (qgI m0 v0 6 7).bind fun x3 =>
  (qwI m0 x2 11 x3 v1.toUInt32.toUInt16.toUInt32.toInt32).bind fun m4 =>
  (qgI m4 v0 6 7).bind fun x5 =>
  (qpI m4 v0 6 7 (x5 + (1 : Int32))).bind fun m6 =>
  some m6
  )
set_option maxRecDepth 100000 in
theorem bX6_add {E : qE} {N d bc bs : Nat} (hd : 0 ≤ d) {v0 : Nat} {v1 : Int32} {m0 : qM} : qB E yX6_add cX6_add 2 none (fun _ => True) d bc bs 0 [(0, .ref (E.2.1 + v0)), (1, .int v1)] [] m0 (fX6_add N v0 v1 m0) (fun b rr => rr = (none, b)) := by
  unfold fX6_add
  refine j_aload_n (q := 0) (np := 1) rfl rfl dX6_add_0 rfl ?_
  refine j_gI (np := 4) flX6_57 dX6_add_1 rfl (fun x1 => ?_)
  refine j_sipush (np := 7) cs_160 dX6_add_4 rfl ?_
  refine j_icmp_ge (tgt := 30) (np := 10) dX6_add_7 rfl rfl ?_ ?_
  · exact j_vret rfl dX6_add_30 (fun rr h => h)
  · refine j_aload_n (q := 0) (np := 11) rfl rfl dX6_add_10 rfl ?_
    refine j_gR (np := 14) flX6_28 dX6_add_11 rfl (fun x2 => ?_)
    refine j_aload_n (q := 0) (np := 15) rfl rfl dX6_add_14 rfl ?_
    refine j_gI (np := 18) flX6_57 dX6_add_15 rfl (fun x3 => ?_)
    refine j_iload_n (q := 1) (np := 19) rfl rfl dX6_add_18 rfl ?_
    refine j_castore (np := 20) dX6_add_19 rfl (fun m4 => ?_)
    refine j_aload_n (q := 0) (np := 21) rfl rfl dX6_add_20 rfl ?_
    refine j_dup (np := 22) rfl dX6_add_21 rfl ?_
    refine j_gI (np := 25) flX6_57 dX6_add_22 rfl (fun x5 => ?_)
    refine j_iconst (np := 26) ci_1 dX6_add_25 rfl ?_
    refine j_iadd (np := 27) dX6_add_26 rfl ?_
    refine j_pI (np := 30) flX6_57 dX6_add_27 rfl (fun m6 => ?_)
    exact j_vret rfl dX6_add_30 (fun rr h => h)
set_option maxRecDepth 100000 in
theorem wX6_add {E : qE} {N d : Nat} (hd : 0 ≤ d) {v0 : Nat} {v1 : Int32} {m0 : qM} {b : qM} (h : fX6_add N v0 v1 m0 = some b) : qRun E yX6_add cX6_add 2 none d 0 0 [.ref (E.2.1 + v0), .int v1] m0 (none, b) := q_met pnX6 (Nat.le_of_ble_eq_true rfl) (bX6_add hd b _ h rfl)
theorem dX7_at_0 : decode cX7_at 0 = .ok (.aload_n 0, 1) := by decide +kernel
theorem dX7_at_1 : decode cX7_at 1 = .ok (.getfield 9, 3) := by decide +kernel
theorem dX7_at_4 : decode cX7_at 4 = .ok (.iload_n 1, 1) := by decide +kernel
theorem dX7_at_5 : decode cX7_at 5 = .ok (.caload, 1) := by decide +kernel
theorem dX7_at_6 : decode cX7_at 6 = .ok (.ireturn, 1) := by decide +kernel
def fX7_at (N : Nat) (v0 : Nat) (v1 : Int32) (m0 : qM) : Option (Int32 × qM) :=
  (qgR m0 v0 7 0).bind fun x1 =>
  (qaI m0 x1 11 v1).bind fun x2 =>
  some (x2.toUInt32.toUInt16.toUInt32.toInt32, m0)
set_option maxRecDepth 100000 in
theorem bX7_at {E : qE} {N d bc bs : Nat} (hd : 0 ≤ d) {v0 : Nat} {v1 : Int32} {m0 : qM} : qB E yX7_at cX7_at 2 (some .char) (fun _ => True) d bc bs 0 [(0, .ref (E.2.1 + v0)), (1, .int v1)] [] m0 (fX7_at N v0 v1 m0) (fun b rr => rr = (some (.int b.1), b.2)) := by
  unfold fX7_at
  refine j_aload_n (q := 0) (np := 1) rfl rfl dX7_at_0 rfl ?_
  refine j_gR (np := 4) flX7_9 dX7_at_1 rfl (fun x1 => ?_)
  refine j_iload_n (q := 1) (np := 5) rfl rfl dX7_at_4 rfl ?_
  refine j_caload (np := 6) dX7_at_5 rfl (fun x2 => ?_)
  exact j_cret rfl dX7_at_6 (fun rr h => h)
set_option maxRecDepth 100000 in
theorem wX7_at {E : qE} {N d : Nat} (hd : 0 ≤ d) {v0 : Nat} {v1 : Int32} {m0 : qM} {b : Int32 × qM} (h : fX7_at N v0 v1 m0 = some b) : qRun E yX7_at cX7_at 2 (some .char) d 0 0 [.ref (E.2.1 + v0), .int v1] m0 (some (.int b.1), b.2) := q_met pnX7 (Nat.le_of_ble_eq_true rfl) (bX7_at hd b _ h rfl)
theorem dX7_length_0 : decode cX7_length 0 = .ok (.aload_n 0, 1) := by decide +kernel
theorem dX7_length_1 : decode cX7_length 1 = .ok (.getfield 15, 3) := by decide +kernel
theorem dX7_length_4 : decode cX7_length 4 = .ok (.ireturn, 1) := by decide +kernel
def fX7_length (N : Nat) (v0 : Nat) (m0 : qM) : Option (Int32 × qM) :=
  (qgI m0 v0 7 1).bind fun x1 =>
  some (x1, m0)
set_option maxRecDepth 100000 in
theorem bX7_length {E : qE} {N d bc bs : Nat} (hd : 0 ≤ d) {v0 : Nat} {m0 : qM} : qB E yX7_length cX7_length 1 (some .int) (fun _ => True) d bc bs 0 [(0, .ref (E.2.1 + v0))] [] m0 (fX7_length N v0 m0) (fun b rr => rr = (some (.int b.1), b.2)) := by
  unfold fX7_length
  refine j_aload_n (q := 0) (np := 1) rfl rfl dX7_length_0 rfl ?_
  refine j_gI (np := 4) flX7_15 dX7_length_1 rfl (fun x1 => ?_)
  exact j_iret rfl dX7_length_4 (fun rr h => h)
set_option maxRecDepth 100000 in
theorem wX7_length {E : qE} {N d : Nat} (hd : 0 ≤ d) {v0 : Nat} {m0 : qM} {b : Int32 × qM} (h : fX7_length N v0 m0 = some b) : qRun E yX7_length cX7_length 1 (some .int) d 0 0 [.ref (E.2.1 + v0)] m0 (some (.int b.1), b.2) := q_met pnX7 (Nat.le_of_ble_eq_true rfl) (bX7_length hd b _ h rfl)
theorem dX6_read_0 : decode cX6_read 0 = .ok (.aload_n 0, 1) := by decide +kernel
theorem dX6_read_1 : decode cX6_read 1 = .ok (.iconst 0, 1) := by decide +kernel
theorem dX6_read_2 : decode cX6_read 2 = .ok (.putfield 57, 3) := by decide +kernel
theorem dX6_read_5 : decode cX6_read 5 = .ok (.iconst 0, 1) := by decide +kernel
theorem dX6_read_6 : decode cX6_read 6 = .ok (.istore_n 2, 1) := by decide +kernel
theorem dX6_read_7 : decode cX6_read 7 = .ok (.aload_n 0, 1) := by decide +kernel
theorem dX6_read_8 : decode cX6_read 8 = .ok (.getfield 9, 3) := by decide +kernel
theorem dX6_read_11 : decode cX6_read 11 = .ok (.iconst 0, 1) := by decide +kernel
theorem dX6_read_12 : decode cX6_read 12 = .ok (.iconst 0, 1) := by decide +kernel
theorem dX6_read_13 : decode cX6_read 13 = .ok (.bastore, 1) := by decide +kernel
theorem dX6_read_14 : decode cX6_read 14 = .ok (.iconst 0, 1) := by decide +kernel
theorem dX6_read_15 : decode cX6_read 15 = .ok (.istore_n 3, 1) := by decide +kernel
theorem dX6_read_16 : decode cX6_read 16 = .ok (.iload_n 3, 1) := by decide +kernel
theorem dX6_read_17 : decode cX6_read 17 = .ok (.aload_n 1, 1) := by decide +kernel
theorem dX6_read_18 : decode cX6_read 18 = .ok (.invokevirtual 61, 3) := by decide +kernel
theorem dX6_read_21 : decode cX6_read 21 = .ok (.if_icmp .ge 88, 3) := by decide +kernel
theorem dX6_read_24 : decode cX6_read 24 = .ok (.aload_n 1, 1) := by decide +kernel
theorem dX6_read_25 : decode cX6_read 25 = .ok (.iload_n 3, 1) := by decide +kernel
theorem dX6_read_26 : decode cX6_read 26 = .ok (.invokevirtual 66, 3) := by decide +kernel
theorem dX6_read_29 : decode cX6_read 29 = .ok (.istore 4, 2) := by decide +kernel
theorem dX6_read_31 : decode cX6_read 31 = .ok (.iload 4, 2) := by decide +kernel
theorem dX6_read_33 : decode cX6_read 33 = .ok (.bipush 40, 2) := by decide +kernel
theorem dX6_read_35 : decode cX6_read 35 = .ok (.if_icmp .ne 22, 3) := by decide +kernel
theorem dX6_read_38 : decode cX6_read 38 = .ok (.iload_n 2, 1) := by decide +kernel
theorem dX6_read_39 : decode cX6_read 39 = .ok (.iconst 1, 1) := by decide +kernel
theorem dX6_read_40 : decode cX6_read 40 = .ok (.iadd, 1) := by decide +kernel
theorem dX6_read_41 : decode cX6_read 41 = .ok (.bipush 8, 2) := by decide +kernel
theorem dX6_read_43 : decode cX6_read 43 = .ok (.invokestatic 70, 3) := by decide +kernel
theorem dX6_read_46 : decode cX6_read 46 = .ok (.istore_n 2, 1) := by decide +kernel
theorem dX6_read_47 : decode cX6_read 47 = .ok (.aload_n 0, 1) := by decide +kernel
theorem dX6_read_48 : decode cX6_read 48 = .ok (.getfield 9, 3) := by decide +kernel
theorem dX6_read_51 : decode cX6_read 51 = .ok (.iload_n 2, 1) := by decide +kernel
theorem dX6_read_52 : decode cX6_read 52 = .ok (.iconst 0, 1) := by decide +kernel
theorem dX6_read_53 : decode cX6_read 53 = .ok (.bastore, 1) := by decide +kernel
theorem dX6_read_54 : decode cX6_read 54 = .ok (.goto 49, 3) := by decide +kernel
theorem dX6_read_57 : decode cX6_read 57 = .ok (.iload 4, 2) := by decide +kernel
theorem dX6_read_59 : decode cX6_read 59 = .ok (.bipush 41, 2) := by decide +kernel
theorem dX6_read_61 : decode cX6_read 61 = .ok (.if_icmp .ne 14, 3) := by decide +kernel
theorem dX6_read_64 : decode cX6_read 64 = .ok (.iload_n 2, 1) := by decide +kernel
theorem dX6_read_65 : decode cX6_read 65 = .ok (.iconst 1, 1) := by decide +kernel
theorem dX6_read_66 : decode cX6_read 66 = .ok (.isub, 1) := by decide +kernel
theorem dX6_read_67 : decode cX6_read 67 = .ok (.iconst 0, 1) := by decide +kernel
theorem dX6_read_68 : decode cX6_read 68 = .ok (.invokestatic 76, 3) := by decide +kernel
theorem dX6_read_71 : decode cX6_read 71 = .ok (.istore_n 2, 1) := by decide +kernel
theorem dX6_read_72 : decode cX6_read 72 = .ok (.goto 9, 3) := by decide +kernel
theorem dX6_read_75 : decode cX6_read 75 = .ok (.aload_n 0, 1) := by decide +kernel
theorem dX6_read_76 : decode cX6_read 76 = .ok (.iload 4, 2) := by decide +kernel
theorem dX6_read_78 : decode cX6_read 78 = .ok (.invokevirtual 79, 3) := by decide +kernel
theorem dX6_read_81 : decode cX6_read 81 = .ok (.aload_n 0, 1) := by decide +kernel
theorem dX6_read_82 : decode cX6_read 82 = .ok (.getfield 9, 3) := by decide +kernel
theorem dX6_read_85 : decode cX6_read 85 = .ok (.iload_n 2, 1) := by decide +kernel
theorem dX6_read_86 : decode cX6_read 86 = .ok (.baload, 1) := by decide +kernel
theorem dX6_read_87 : decode cX6_read 87 = .ok (.ifCond .eq 9, 3) := by decide +kernel
theorem dX6_read_90 : decode cX6_read 90 = .ok (.aload_n 0, 1) := by decide +kernel
theorem dX6_read_91 : decode cX6_read 91 = .ok (.bipush 64, 2) := by decide +kernel
theorem dX6_read_93 : decode cX6_read 93 = .ok (.invokevirtual 79, 3) := by decide +kernel
theorem dX6_read_96 : decode cX6_read 96 = .ok (.aload_n 0, 1) := by decide +kernel
theorem dX6_read_97 : decode cX6_read 97 = .ok (.getfield 9, 3) := by decide +kernel
theorem dX6_read_100 : decode cX6_read 100 = .ok (.iload_n 2, 1) := by decide +kernel
theorem dX6_read_101 : decode cX6_read 101 = .ok (.iconst 1, 1) := by decide +kernel
theorem dX6_read_102 : decode cX6_read 102 = .ok (.bastore, 1) := by decide +kernel
theorem dX6_read_103 : decode cX6_read 103 = .ok (.iinc 3 1, 3) := by decide +kernel
theorem dX6_read_106 : decode cX6_read 106 = .ok (.goto (-90), 3) := by decide +kernel
theorem dX6_read_109 : decode cX6_read 109 = .ok (.return_, 1) := by decide +kernel
def kX6_read_103 (N : Nat) (rec : Int32 → Int32 → qM → Option (qM)) (v0 : Nat) (v1 : Nat) (v2 : Int32) (v3 : Int32)  (m0 : qM) : Option (qM) :=
  rec v2 (v3 + (1 : Int32)) m0
set_option maxRecDepth 100000 in
theorem kbX6_read_103 {E : qE} {N d bc bs : Nat} (hd : 1 ≤ d) {v0 : Nat} {v1 : Nat} {v2 : Int32} {v3 : Int32}  {m0 : qM} {rec : Int32 → Int32 → qM → Option (qM)} (hrec : ∀ (v2 : Int32) (v3 : Int32) (m : qM), qB E yX6_read cX6_read 5 none (fun _ => True) d bc bs 16 [(0, .ref (E.2.1 + v0)), (1, .ref (E.2.1 + v1)), (2, .int v2), (3, .int v3)] [] m (rec v2 v3 m) (fun o rr => qJ E yX6_read cX6_read 5 none (fun _ => True) d bc bs 109 [] [] o rr)) : qB E yX6_read cX6_read 5 none (fun _ => True) d bc bs 103 [(0, .ref (E.2.1 + v0)), (1, .ref (E.2.1 + v1)), (2, .int v2), (3, .int v3)] [] m0 (kX6_read_103 N rec v0 v1 v2 v3 m0) (fun o rr => qJ E yX6_read cX6_read 5 none (fun _ => True) d bc bs 109 [] [] o rr) := by
  unfold kX6_read_103
  refine j_iinc (q := 3) (np := 106) (lv2 := [(3, .int (v3 + (1 : Int32))), (0, .ref (E.2.1 + v0)), (1, .ref (E.2.1 + v1)), (2, .int v2)]) rfl (congrArg _ ci_1) (by decide) dX6_read_103 rfl rfl ?_
  refine j_goto (tgt := 16) dX6_read_106 rfl ?_
  refine j_sub (lv2 := [(0, .ref (E.2.1 + v0)), (1, .ref (E.2.1 + v1)), (2, .int v2), (3, .int (v3 + (1 : Int32)))]) [1, 2, 3, 0] rfl ?_
  exact hrec _ _ _
def kX6_read_96 (N : Nat) (rec : Int32 → Int32 → qM → Option (qM)) (v0 : Nat) (v1 : Nat) (v2 : Int32) (v3 : Int32)  (m0 : qM) : Option (qM) :=
  (qgR m0 v0 6 0).bind fun x1 =>
  (qwI m0 x1 14 v2 ((1 : Int32) &&& 1)).bind fun m2 =>
  kX6_read_103 N (rec) v0 v1 v2 v3 m2
set_option maxRecDepth 100000 in
theorem kbX6_read_96 {E : qE} {N d bc bs : Nat} (hd : 1 ≤ d) {v0 : Nat} {v1 : Nat} {v2 : Int32} {v3 : Int32}  {m0 : qM} {rec : Int32 → Int32 → qM → Option (qM)} (hrec : ∀ (v2 : Int32) (v3 : Int32) (m : qM), qB E yX6_read cX6_read 5 none (fun _ => True) d bc bs 16 [(0, .ref (E.2.1 + v0)), (1, .ref (E.2.1 + v1)), (2, .int v2), (3, .int v3)] [] m (rec v2 v3 m) (fun o rr => qJ E yX6_read cX6_read 5 none (fun _ => True) d bc bs 109 [] [] o rr)) : qB E yX6_read cX6_read 5 none (fun _ => True) d bc bs 96 [(0, .ref (E.2.1 + v0)), (1, .ref (E.2.1 + v1)), (2, .int v2), (3, .int v3)] [] m0 (kX6_read_96 N rec v0 v1 v2 v3 m0) (fun o rr => qJ E yX6_read cX6_read 5 none (fun _ => True) d bc bs 109 [] [] o rr) := by
  unfold kX6_read_96
  refine j_aload_n (q := 0) (np := 97) rfl rfl dX6_read_96 rfl ?_
  refine j_gR (np := 100) flX6_9 dX6_read_97 rfl (fun x1 => ?_)
  refine j_iload_n (q := 2) (np := 101) rfl rfl dX6_read_100 rfl ?_
  refine j_iconst (np := 102) ci_1 dX6_read_101 rfl ?_
  refine j_bastore (np := 103) dX6_read_102 rfl (fun m2 => ?_)
  exact kbX6_read_103 hd hrec
def kX6_read_81 (N : Nat) (rec : Int32 → Int32 → qM → Option (qM)) (v0 : Nat) (v1 : Nat) (v2 : Int32) (v3 : Int32)  (m0 : qM) : Option (qM) :=
  (qgR m0 v0 6 0).bind fun x1 =>
  (qaI m0 x1 14 v2).bind fun x2 =>
  if x2 = 0 then (
  kX6_read_96 N (rec) v0 v1 v2 v3 m0
  ) else (
  (qChk m0 v0 6 (fX6_add N v0 (64 : Int32) m0)).bind fun b3 =>
  kX6_read_96 N (rec) v0 v1 v2 v3 b3
  )
set_option maxRecDepth 100000 in
theorem kbX6_read_81 {E : qE} {N d bc bs : Nat} (hd : 1 ≤ d) {v0 : Nat} {v1 : Nat} {v2 : Int32} {v3 : Int32}  {m0 : qM} {rec : Int32 → Int32 → qM → Option (qM)} (hrec : ∀ (v2 : Int32) (v3 : Int32) (m : qM), qB E yX6_read cX6_read 5 none (fun _ => True) d bc bs 16 [(0, .ref (E.2.1 + v0)), (1, .ref (E.2.1 + v1)), (2, .int v2), (3, .int v3)] [] m (rec v2 v3 m) (fun o rr => qJ E yX6_read cX6_read 5 none (fun _ => True) d bc bs 109 [] [] o rr)) : qB E yX6_read cX6_read 5 none (fun _ => True) d bc bs 81 [(0, .ref (E.2.1 + v0)), (1, .ref (E.2.1 + v1)), (2, .int v2), (3, .int v3)] [] m0 (kX6_read_81 N rec v0 v1 v2 v3 m0) (fun o rr => qJ E yX6_read cX6_read 5 none (fun _ => True) d bc bs 109 [] [] o rr) := by
  unfold kX6_read_81
  refine j_aload_n (q := 0) (np := 82) rfl rfl dX6_read_81 rfl ?_
  refine j_gR (np := 85) flX6_9 dX6_read_82 rfl (fun x1 => ?_)
  refine j_iload_n (q := 2) (np := 86) rfl rfl dX6_read_85 rfl ?_
  refine j_baload (np := 87) dX6_read_86 rfl (fun x2 => ?_)
  refine j_if_eq (tgt := 96) (np := 90) dX6_read_87 rfl rfl ?_ ?_
  · exact kbX6_read_96 hd hrec
  · refine j_aload_n (q := 0) (np := 91) rfl rfl dX6_read_90 rfl ?_
    refine j_bipush (np := 93) cb_64 dX6_read_91 rfl ?_
    refine j_callVv (ci := 6) (np := 96) (bc := bc) (bs := bs) (cb := 0) (cs := 0) (dd := d - 1) (As := [.int (64 : Int32)]) (st := []) caX6_add mlX6_79 imX6_add seX6_add rfl rfl (by decide) (fun b hb => wX6_add (by omega) hb) (by omega) rfl rfl (Nat.le_of_ble_eq_true rfl) dX6_read_93 rfl (fun b3 => ?_)
    exact kbX6_read_96 hd hrec
def lX6_read_16 (N : Nat) (v0 : Nat) (v1 : Nat) : Nat → Int32 → Int32 → qM → Option (qM)
  | 0, _, _, _ => none
  | n + 1, v2, v3, m0 =>
    (qChk m0 v1 7 (fX7_length N v1 m0)).bind fun b1 =>
    if b1.1 ≤ v3 then (
    some b1.2
    ) else (
    (qChk b1.2 v1 7 (fX7_at N v1 v3 b1.2)).bind fun b2 =>
    if b2.1 = (40 : Int32) then (
    (qgR b2.2 v0 6 0).bind fun x4 =>
    (qwI b2.2 x4 14 (if (8 : Int32) < v2 + (1 : Int32) then (8 : Int32) else v2 + (1 : Int32)) ((0 : Int32) &&& 1)).bind fun m5 =>
    kX6_read_103 N (lX6_read_16 N v0 v1 n) v0 v1 (if (8 : Int32) < v2 + (1 : Int32) then (8 : Int32) else v2 + (1 : Int32)) v3 m5
    ) else (
    if b2.1 = (41 : Int32) then (
    kX6_read_81 N (lX6_read_16 N v0 v1 n) v0 v1 (if v2 - (1 : Int32) < (0 : Int32) then (0 : Int32) else v2 - (1 : Int32)) v3 b2.2
    ) else (
    (qChk b2.2 v0 6 (fX6_add N v0 b2.1 b2.2)).bind fun b3 =>
    kX6_read_81 N (lX6_read_16 N v0 v1 n) v0 v1 v2 v3 b3
    )
    )
    )
set_option maxRecDepth 100000 in
theorem lbX6_read_16 {E : qE} {N d bc bs : Nat} (hd : 1 ≤ d) {v0 : Nat} {v1 : Nat} : ∀ (n : Nat) (v2 : Int32) (v3 : Int32) (m0 : qM), qB E yX6_read cX6_read 5 none (fun _ => True) d bc bs 16 [(0, .ref (E.2.1 + v0)), (1, .ref (E.2.1 + v1)), (2, .int v2), (3, .int v3)] [] m0 (lX6_read_16 N v0 v1 n v2 v3 m0) (fun o rr => qJ E yX6_read cX6_read 5 none (fun _ => True) d bc bs 109 [] [] o rr) := by
  intro n
  induction n with
  | zero =>
    intro v2 v3 m0
    exact j_none
  | succ n ih =>
    intro v2 v3 m0
    unfold lX6_read_16
    refine j_iload_n (q := 3) (np := 17) rfl rfl dX6_read_16 rfl ?_
    refine j_aload_n (q := 1) (np := 18) rfl rfl dX6_read_17 rfl ?_
    refine j_callVi (ci := 7) (np := 21) (bc := bc) (bs := bs) (cb := 0) (cs := 0) (dd := d - 1) (As := []) (st := [.int v3]) caX7_length mlX6_61 imX7_length seX7_length rfl rfl (by decide) (fun b hb => wX7_length (by omega) hb) (by omega) rfl rfl (Nat.le_of_ble_eq_true rfl) dX6_read_18 rfl (fun b1 => ?_)
    refine j_icmp_ge (tgt := 109) (np := 24) dX6_read_21 rfl rfl ?_ ?_
    · refine j_sub (lv2 := []) [] rfl ?_
      exact j_exit (fun rr h => h)
    · refine j_aload_n (q := 1) (np := 25) rfl rfl dX6_read_24 rfl ?_
      refine j_iload_n (q := 3) (np := 26) rfl rfl dX6_read_25 rfl ?_
      refine j_callVi (ci := 7) (np := 29) (bc := bc) (bs := bs) (cb := 0) (cs := 0) (dd := d - 1) (As := [.int v3]) (st := []) caX7_at mlX6_66 imX7_at seX7_at rfl rfl (by decide) (fun b hb => wX7_at (by omega) hb) (by omega) rfl rfl (Nat.le_of_ble_eq_true rfl) dX6_read_26 rfl (fun b2 => ?_)
      refine j_istore (np := 31) (lv2 := [(4, .int b2.1), (0, .ref (E.2.1 + v0)), (1, .ref (E.2.1 + v1)), (2, .int v2), (3, .int v3)]) (by decide) dX6_read_29 rfl rfl ?_
      refine j_iload (q := 0) (np := 33) rfl dX6_read_31 rfl ?_
      refine j_bipush (np := 35) cb_40 dX6_read_33 rfl ?_
      refine j_icmp_ne (tgt := 57) (np := 38) dX6_read_35 rfl rfl ?_ ?_
      · refine j_iload (q := 0) (np := 59) rfl dX6_read_57 rfl ?_
        refine j_bipush (np := 61) cb_41 dX6_read_59 rfl ?_
        refine j_icmp_ne (tgt := 75) (np := 64) dX6_read_61 rfl rfl ?_ ?_
        · refine j_aload_n (q := 1) (np := 76) rfl rfl dX6_read_75 rfl ?_
          refine j_iload (q := 0) (np := 78) rfl dX6_read_76 rfl ?_
          refine j_callVv (ci := 6) (np := 81) (bc := bc) (bs := bs) (cb := 0) (cs := 0) (dd := d - 1) (As := [.int b2.1]) (st := []) caX6_add mlX6_79 imX6_add seX6_add rfl rfl (by decide) (fun b hb => wX6_add (by omega) hb) (by omega) rfl rfl (Nat.le_of_ble_eq_true rfl) dX6_read_78 rfl (fun b3 => ?_)
          refine j_sub (lv2 := [(0, .ref (E.2.1 + v0)), (1, .ref (E.2.1 + v1)), (2, .int v2), (3, .int v3)]) [1, 2, 3, 4] rfl ?_
          exact kbX6_read_81 hd ih
        · refine j_iload_n (q := 3) (np := 65) rfl rfl dX6_read_64 rfl ?_
          refine j_iconst (np := 66) ci_1 dX6_read_65 rfl ?_
          refine j_isub (np := 67) dX6_read_66 rfl ?_
          refine j_iconst (np := 68) ci_0 dX6_read_67 rfl ?_
          refine j_max (np := 71) mlX6_76 stmax inMath cdmax (by omega) (Nat.le_of_ble_eq_true rfl) dX6_read_68 rfl ?_
          refine j_istore_n (np := 72) (lv2 := [(2, .int (if v2 - (1 : Int32) < (0 : Int32) then (0 : Int32) else v2 - (1 : Int32))), (4, .int b2.1), (0, .ref (E.2.1 + v0)), (1, .ref (E.2.1 + v1)), (3, .int v3)]) rfl (by decide) dX6_read_71 rfl rfl ?_
          refine j_goto (tgt := 81) dX6_read_72 rfl ?_
          refine j_sub (lv2 := [(0, .ref (E.2.1 + v0)), (1, .ref (E.2.1 + v1)), (2, .int (if v2 - (1 : Int32) < (0 : Int32) then (0 : Int32) else v2 - (1 : Int32))), (3, .int v3)]) [2, 3, 0, 4] rfl ?_
          exact kbX6_read_81 hd ih
      · refine j_iload_n (q := 3) (np := 39) rfl rfl dX6_read_38 rfl ?_
        refine j_iconst (np := 40) ci_1 dX6_read_39 rfl ?_
        refine j_iadd (np := 41) dX6_read_40 rfl ?_
        refine j_bipush (np := 43) cb_8 dX6_read_41 rfl ?_
        refine j_min (np := 46) mlX6_70 stmin inMath cdmin (by omega) (Nat.le_of_ble_eq_true rfl) dX6_read_43 rfl ?_
        refine j_istore_n (np := 47) (lv2 := [(2, .int (if (8 : Int32) < v2 + (1 : Int32) then (8 : Int32) else v2 + (1 : Int32))), (4, .int b2.1), (0, .ref (E.2.1 + v0)), (1, .ref (E.2.1 + v1)), (3, .int v3)]) rfl (by decide) dX6_read_46 rfl rfl ?_
        refine j_aload_n (q := 2) (np := 48) rfl rfl dX6_read_47 rfl ?_
        refine j_gR (np := 51) flX6_9 dX6_read_48 rfl (fun x4 => ?_)
        refine j_iload_n (q := 0) (np := 52) rfl rfl dX6_read_51 rfl ?_
        refine j_iconst (np := 53) ci_0 dX6_read_52 rfl ?_
        refine j_bastore (np := 54) dX6_read_53 rfl (fun m5 => ?_)
        refine j_goto (tgt := 103) dX6_read_54 rfl ?_
        refine j_sub (lv2 := [(0, .ref (E.2.1 + v0)), (1, .ref (E.2.1 + v1)), (2, .int (if (8 : Int32) < v2 + (1 : Int32) then (8 : Int32) else v2 + (1 : Int32))), (3, .int v3)]) [2, 3, 0, 4] rfl ?_
        exact kbX6_read_103 hd ih
def fX6_read (N : Nat) (v0 : Nat) (v1 : Nat) (m0 : qM) : Option (qM) :=
  (qpI m0 v0 6 7 (0 : Int32)).bind fun m1 =>
  (qgR m1 v0 6 0).bind fun x2 =>
  (qwI m1 x2 14 (0 : Int32) ((0 : Int32) &&& 1)).bind fun m3 =>
  (lX6_read_16 N v0 v1 N (0 : Int32) (0 : Int32) m3).bind fun o4 =>
  some o4
set_option maxRecDepth 100000 in
theorem bX6_read {E : qE} {N d bc bs : Nat} (hd : 1 ≤ d) {v0 : Nat} {v1 : Nat} {m0 : qM} : qB E yX6_read cX6_read 5 none (fun _ => True) d bc bs 0 [(0, .ref (E.2.1 + v0)), (1, .ref (E.2.1 + v1))] [] m0 (fX6_read N v0 v1 m0) (fun b rr => rr = (none, b)) := by
  unfold fX6_read
  refine j_aload_n (q := 0) (np := 1) rfl rfl dX6_read_0 rfl ?_
  refine j_iconst (np := 2) ci_0 dX6_read_1 rfl ?_
  refine j_pI (np := 5) flX6_57 dX6_read_2 rfl (fun m1 => ?_)
  refine j_iconst (np := 6) ci_0 dX6_read_5 rfl ?_
  refine j_istore_n (np := 7) (lv2 := [(2, .int (0 : Int32)), (0, .ref (E.2.1 + v0)), (1, .ref (E.2.1 + v1))]) rfl (by decide) dX6_read_6 rfl rfl ?_
  refine j_aload_n (q := 1) (np := 8) rfl rfl dX6_read_7 rfl ?_
  refine j_gR (np := 11) flX6_9 dX6_read_8 rfl (fun x2 => ?_)
  refine j_iconst (np := 12) ci_0 dX6_read_11 rfl ?_
  refine j_iconst (np := 13) ci_0 dX6_read_12 rfl ?_
  refine j_bastore (np := 14) dX6_read_13 rfl (fun m3 => ?_)
  refine j_iconst (np := 15) ci_0 dX6_read_14 rfl ?_
  refine j_istore_n (np := 16) (lv2 := [(3, .int (0 : Int32)), (2, .int (0 : Int32)), (0, .ref (E.2.1 + v0)), (1, .ref (E.2.1 + v1))]) rfl (by decide) dX6_read_15 rfl rfl ?_
  refine j_sub (lv2 := [(0, .ref (E.2.1 + v0)), (1, .ref (E.2.1 + v1)), (2, .int (0 : Int32)), (3, .int (0 : Int32))]) [2, 3, 1, 0] rfl ?_
  refine j_loop (xp := 109) (lvX := fun o4 => []) (mX := fun o4 => o4) (lbX6_read_16 hd _ _ _ _) (fun o4 => ?_)
  exact j_vret rfl dX6_read_109 (fun rr h => h)
set_option maxRecDepth 100000 in
theorem wX6_read {E : qE} {N d : Nat} (hd : 1 ≤ d) {v0 : Nat} {v1 : Nat} {m0 : qM} {b : qM} (h : fX6_read N v0 v1 m0 = some b) : qRun E yX6_read cX6_read 5 none d 0 0 [.ref (E.2.1 + v0), .ref (E.2.1 + v1)] m0 (none, b) := q_met pnX6 (Nat.le_of_ble_eq_true rfl) (bX6_read hd b _ h rfl)
theorem dX6_findArguments_0 : decode cX6_findArguments 0 = .ok (.aload_n 0, 1) := by decide +kernel
theorem dX6_findArguments_1 : decode cX6_findArguments 1 = .ok (.getfield 28, 3) := by decide +kernel
theorem dX6_findArguments_4 : decode cX6_findArguments 4 = .ok (.iload_n 1, 1) := by decide +kernel
theorem dX6_findArguments_5 : decode cX6_findArguments 5 = .ok (.caload, 1) := by decide +kernel
theorem dX6_findArguments_6 : decode cX6_findArguments 6 = .ok (.invokestatic 90, 3) := by decide +kernel
theorem dX6_findArguments_9 : decode cX6_findArguments 9 = .ok (.istore_n 2, 1) := by decide +kernel
theorem dX6_findArguments_10 : decode cX6_findArguments 10 = .ok (.iconst 1, 1) := by decide +kernel
theorem dX6_findArguments_11 : decode cX6_findArguments 11 = .ok (.istore_n 3, 1) := by decide +kernel
theorem dX6_findArguments_12 : decode cX6_findArguments 12 = .ok (.iconst 0, 1) := by decide +kernel
theorem dX6_findArguments_13 : decode cX6_findArguments 13 = .ok (.istore 4, 2) := by decide +kernel
theorem dX6_findArguments_15 : decode cX6_findArguments 15 = .ok (.iload_n 1, 1) := by decide +kernel
theorem dX6_findArguments_16 : decode cX6_findArguments 16 = .ok (.iconst 1, 1) := by decide +kernel
theorem dX6_findArguments_17 : decode cX6_findArguments 17 = .ok (.iadd, 1) := by decide +kernel
theorem dX6_findArguments_18 : decode cX6_findArguments 18 = .ok (.istore 5, 2) := by decide +kernel
theorem dX6_findArguments_20 : decode cX6_findArguments 20 = .ok (.iload_n 1, 1) := by decide +kernel
theorem dX6_findArguments_21 : decode cX6_findArguments 21 = .ok (.iconst 1, 1) := by decide +kernel
theorem dX6_findArguments_22 : decode cX6_findArguments 22 = .ok (.iadd, 1) := by decide +kernel
theorem dX6_findArguments_23 : decode cX6_findArguments 23 = .ok (.istore 6, 2) := by decide +kernel
theorem dX6_findArguments_25 : decode cX6_findArguments 25 = .ok (.iload 6, 2) := by decide +kernel
theorem dX6_findArguments_27 : decode cX6_findArguments 27 = .ok (.aload_n 0, 1) := by decide +kernel
theorem dX6_findArguments_28 : decode cX6_findArguments 28 = .ok (.getfield 57, 3) := by decide +kernel
theorem dX6_findArguments_31 : decode cX6_findArguments 31 = .ok (.if_icmp .ge 71, 3) := by decide +kernel
theorem dX6_findArguments_34 : decode cX6_findArguments 34 = .ok (.iload_n 3, 1) := by decide +kernel
theorem dX6_findArguments_35 : decode cX6_findArguments 35 = .ok (.ifCond .le 67, 3) := by decide +kernel
theorem dX6_findArguments_38 : decode cX6_findArguments 38 = .ok (.iload 4, 2) := by decide +kernel
theorem dX6_findArguments_40 : decode cX6_findArguments 40 = .ok (.iload_n 2, 1) := by decide +kernel
theorem dX6_findArguments_41 : decode cX6_findArguments 41 = .ok (.if_icmp .ge 61, 3) := by decide +kernel
theorem dX6_findArguments_44 : decode cX6_findArguments 44 = .ok (.iload_n 3, 1) := by decide +kernel
theorem dX6_findArguments_45 : decode cX6_findArguments 45 = .ok (.aload_n 0, 1) := by decide +kernel
theorem dX6_findArguments_46 : decode cX6_findArguments 46 = .ok (.getfield 28, 3) := by decide +kernel
theorem dX6_findArguments_49 : decode cX6_findArguments 49 = .ok (.iload 6, 2) := by decide +kernel
theorem dX6_findArguments_51 : decode cX6_findArguments 51 = .ok (.caload, 1) := by decide +kernel
theorem dX6_findArguments_52 : decode cX6_findArguments 52 = .ok (.bipush 64, 2) := by decide +kernel
theorem dX6_findArguments_54 : decode cX6_findArguments 54 = .ok (.if_icmp .ne 7, 3) := by decide +kernel
theorem dX6_findArguments_57 : decode cX6_findArguments 57 = .ok (.iconst (-1), 1) := by decide +kernel
theorem dX6_findArguments_58 : decode cX6_findArguments 58 = .ok (.goto 4, 3) := by decide +kernel
theorem dX6_findArguments_61 : decode cX6_findArguments 61 = .ok (.iconst 1, 1) := by decide +kernel
theorem dX6_findArguments_62 : decode cX6_findArguments 62 = .ok (.iadd, 1) := by decide +kernel
theorem dX6_findArguments_63 : decode cX6_findArguments 63 = .ok (.istore_n 3, 1) := by decide +kernel
theorem dX6_findArguments_64 : decode cX6_findArguments 64 = .ok (.iload_n 3, 1) := by decide +kernel
theorem dX6_findArguments_65 : decode cX6_findArguments 65 = .ok (.iconst 1, 1) := by decide +kernel
theorem dX6_findArguments_66 : decode cX6_findArguments 66 = .ok (.if_icmp .ne 30, 3) := by decide +kernel
theorem dX6_findArguments_69 : decode cX6_findArguments 69 = .ok (.aload_n 0, 1) := by decide +kernel
theorem dX6_findArguments_70 : decode cX6_findArguments 70 = .ok (.getfield 22, 3) := by decide +kernel
theorem dX6_findArguments_73 : decode cX6_findArguments 73 = .ok (.iload 4, 2) := by decide +kernel
theorem dX6_findArguments_75 : decode cX6_findArguments 75 = .ok (.iload 5, 2) := by decide +kernel
theorem dX6_findArguments_77 : decode cX6_findArguments 77 = .ok (.iastore, 1) := by decide +kernel
theorem dX6_findArguments_78 : decode cX6_findArguments 78 = .ok (.aload_n 0, 1) := by decide +kernel
theorem dX6_findArguments_79 : decode cX6_findArguments 79 = .ok (.getfield 25, 3) := by decide +kernel
theorem dX6_findArguments_82 : decode cX6_findArguments 82 = .ok (.iload 4, 2) := by decide +kernel
theorem dX6_findArguments_84 : decode cX6_findArguments 84 = .ok (.iload 6, 2) := by decide +kernel
theorem dX6_findArguments_86 : decode cX6_findArguments 86 = .ok (.iastore, 1) := by decide +kernel
theorem dX6_findArguments_87 : decode cX6_findArguments 87 = .ok (.iload 6, 2) := by decide +kernel
theorem dX6_findArguments_89 : decode cX6_findArguments 89 = .ok (.iconst 1, 1) := by decide +kernel
theorem dX6_findArguments_90 : decode cX6_findArguments 90 = .ok (.iadd, 1) := by decide +kernel
theorem dX6_findArguments_91 : decode cX6_findArguments 91 = .ok (.istore 5, 2) := by decide +kernel
theorem dX6_findArguments_93 : decode cX6_findArguments 93 = .ok (.iinc 4 1, 3) := by decide +kernel
theorem dX6_findArguments_96 : decode cX6_findArguments 96 = .ok (.iinc 6 1, 3) := by decide +kernel
theorem dX6_findArguments_99 : decode cX6_findArguments 99 = .ok (.goto (-74), 3) := by decide +kernel
theorem dX6_findArguments_102 : decode cX6_findArguments 102 = .ok (.iload 4, 2) := by decide +kernel
theorem dX6_findArguments_104 : decode cX6_findArguments 104 = .ok (.iload_n 2, 1) := by decide +kernel
theorem dX6_findArguments_105 : decode cX6_findArguments 105 = .ok (.if_icmp .ne 7, 3) := by decide +kernel
theorem dX6_findArguments_108 : decode cX6_findArguments 108 = .ok (.iconst 1, 1) := by decide +kernel
theorem dX6_findArguments_109 : decode cX6_findArguments 109 = .ok (.goto 4, 3) := by decide +kernel
theorem dX6_findArguments_112 : decode cX6_findArguments 112 = .ok (.iconst 0, 1) := by decide +kernel
theorem dX6_findArguments_113 : decode cX6_findArguments 113 = .ok (.ireturn, 1) := by decide +kernel
def kX6_findArguments_96 (N : Nat) (rec : Int32 → Int32 → Int32 → Int32 → qM → Option (Int32 × qM)) (v0 : Nat) (v2 : Int32) (v3 : Int32) (v4 : Int32) (v5 : Int32) (v6 : Int32)  (m0 : qM) : Option (Int32 × qM) :=
  rec v3 v4 v5 (v6 + (1 : Int32)) m0
set_option maxRecDepth 100000 in
theorem kbX6_findArguments_96 {E : qE} {N d bc bs : Nat} (hd : 1 ≤ d) {v0 : Nat} {v2 : Int32} {v3 : Int32} {v4 : Int32} {v5 : Int32} {v6 : Int32}  {m0 : qM} {rec : Int32 → Int32 → Int32 → Int32 → qM → Option (Int32 × qM)} (hrec : ∀ (v3 : Int32) (v4 : Int32) (v5 : Int32) (v6 : Int32) (m : qM), qB E yX6_findArguments cX6_findArguments 7 (some .boolean) (fun _ => True) d bc bs 25 [(0, .ref (E.2.1 + v0)), (2, .int v2), (3, .int v3), (4, .int v4), (5, .int v5), (6, .int v6)] [] m (rec v3 v4 v5 v6 m) (fun o rr => qJ E yX6_findArguments cX6_findArguments 7 (some .boolean) (fun _ => True) d bc bs 102 [(2, .int v2), (4, .int o.1)] [] o.2 rr)) : qB E yX6_findArguments cX6_findArguments 7 (some .boolean) (fun _ => True) d bc bs 96 [(0, .ref (E.2.1 + v0)), (2, .int v2), (3, .int v3), (4, .int v4), (5, .int v5), (6, .int v6)] [] m0 (kX6_findArguments_96 N rec v0 v2 v3 v4 v5 v6 m0) (fun o rr => qJ E yX6_findArguments cX6_findArguments 7 (some .boolean) (fun _ => True) d bc bs 102 [(2, .int v2), (4, .int o.1)] [] o.2 rr) := by
  unfold kX6_findArguments_96
  refine j_iinc (q := 5) (np := 99) (lv2 := [(6, .int (v6 + (1 : Int32))), (0, .ref (E.2.1 + v0)), (2, .int v2), (3, .int v3), (4, .int v4), (5, .int v5)]) rfl (congrArg _ ci_1) (by decide) dX6_findArguments_96 rfl rfl ?_
  refine j_goto (tgt := 25) dX6_findArguments_99 rfl ?_
  refine j_sub (lv2 := [(0, .ref (E.2.1 + v0)), (2, .int v2), (3, .int v3), (4, .int v4), (5, .int v5), (6, .int (v6 + (1 : Int32)))]) [1, 2, 3, 4, 5, 0] rfl ?_
  exact hrec _ _ _ _ _
def kX6_findArguments_62 (N : Nat) (rec : Int32 → Int32 → Int32 → Int32 → qM → Option (Int32 × qM)) (v0 : Nat) (v2 : Int32) (v4 : Int32) (v5 : Int32) (v6 : Int32) (s0 : Int32) (s1 : Int32) (m0 : qM) : Option (Int32 × qM) :=
  if s0 + s1 = (1 : Int32) then (
  (qgR m0 v0 6 3).bind fun x1 =>
  (qwI m0 x1 12 v4 v5).bind fun m2 =>
  (qgR m2 v0 6 4).bind fun x3 =>
  (qwI m2 x3 12 v4 v6).bind fun m4 =>
  kX6_findArguments_96 N (rec) v0 v2 (s0 + s1) (v4 + (1 : Int32)) (v6 + (1 : Int32)) v6 m4
  ) else (
  kX6_findArguments_96 N (rec) v0 v2 (s0 + s1) v4 v5 v6 m0
  )
set_option maxRecDepth 100000 in
theorem kbX6_findArguments_62 {E : qE} {N d bc bs : Nat} (hd : 1 ≤ d) {v0 : Nat} {v2 : Int32} {v4 : Int32} {v5 : Int32} {v6 : Int32} {s0 : Int32} {s1 : Int32} {m0 : qM} {rec : Int32 → Int32 → Int32 → Int32 → qM → Option (Int32 × qM)} (hrec : ∀ (v3 : Int32) (v4 : Int32) (v5 : Int32) (v6 : Int32) (m : qM), qB E yX6_findArguments cX6_findArguments 7 (some .boolean) (fun _ => True) d bc bs 25 [(0, .ref (E.2.1 + v0)), (2, .int v2), (3, .int v3), (4, .int v4), (5, .int v5), (6, .int v6)] [] m (rec v3 v4 v5 v6 m) (fun o rr => qJ E yX6_findArguments cX6_findArguments 7 (some .boolean) (fun _ => True) d bc bs 102 [(2, .int v2), (4, .int o.1)] [] o.2 rr)) : qB E yX6_findArguments cX6_findArguments 7 (some .boolean) (fun _ => True) d bc bs 62 [(0, .ref (E.2.1 + v0)), (2, .int v2), (4, .int v4), (5, .int v5), (6, .int v6)] [.int s1, .int s0] m0 (kX6_findArguments_62 N rec v0 v2 v4 v5 v6 s0 s1 m0) (fun o rr => qJ E yX6_findArguments cX6_findArguments 7 (some .boolean) (fun _ => True) d bc bs 102 [(2, .int v2), (4, .int o.1)] [] o.2 rr) := by
  unfold kX6_findArguments_62
  refine j_iadd (np := 63) dX6_findArguments_62 rfl ?_
  refine j_istore_n (np := 64) (lv2 := [(3, .int (s0 + s1)), (0, .ref (E.2.1 + v0)), (2, .int v2), (4, .int v4), (5, .int v5), (6, .int v6)]) rfl (by decide) dX6_findArguments_63 rfl rfl ?_
  refine j_iload_n (q := 0) (np := 65) rfl rfl dX6_findArguments_64 rfl ?_
  refine j_iconst (np := 66) ci_1 dX6_findArguments_65 rfl ?_
  refine j_icmp_ne (tgt := 96) (np := 69) dX6_findArguments_66 rfl rfl ?_ ?_
  · refine j_sub (lv2 := [(0, .ref (E.2.1 + v0)), (2, .int v2), (3, .int (s0 + s1)), (4, .int v4), (5, .int v5), (6, .int v6)]) [1, 2, 0, 3, 4, 5] rfl ?_
    exact kbX6_findArguments_96 hd hrec
  · refine j_aload_n (q := 1) (np := 70) rfl rfl dX6_findArguments_69 rfl ?_
    refine j_gR (np := 73) flX6_22 dX6_findArguments_70 rfl (fun x1 => ?_)
    refine j_iload (q := 3) (np := 75) rfl dX6_findArguments_73 rfl ?_
    refine j_iload (q := 4) (np := 77) rfl dX6_findArguments_75 rfl ?_
    refine j_iastore (np := 78) dX6_findArguments_77 rfl (fun m2 => ?_)
    refine j_aload_n (q := 1) (np := 79) rfl rfl dX6_findArguments_78 rfl ?_
    refine j_gR (np := 82) flX6_25 dX6_findArguments_79 rfl (fun x3 => ?_)
    refine j_iload (q := 3) (np := 84) rfl dX6_findArguments_82 rfl ?_
    refine j_iload (q := 5) (np := 86) rfl dX6_findArguments_84 rfl ?_
    refine j_iastore (np := 87) dX6_findArguments_86 rfl (fun m4 => ?_)
    refine j_iload (q := 5) (np := 89) rfl dX6_findArguments_87 rfl ?_
    refine j_iconst (np := 90) ci_1 dX6_findArguments_89 rfl ?_
    refine j_iadd (np := 91) dX6_findArguments_90 rfl ?_
    refine j_istore (np := 93) (lv2 := [(5, .int (v6 + (1 : Int32))), (3, .int (s0 + s1)), (0, .ref (E.2.1 + v0)), (2, .int v2), (4, .int v4), (6, .int v6)]) (by decide) dX6_findArguments_91 rfl rfl ?_
    refine j_iinc (q := 4) (np := 96) (lv2 := [(4, .int (v4 + (1 : Int32))), (5, .int (v6 + (1 : Int32))), (3, .int (s0 + s1)), (0, .ref (E.2.1 + v0)), (2, .int v2), (6, .int v6)]) rfl (congrArg _ ci_1) (by decide) dX6_findArguments_93 rfl rfl ?_
    refine j_sub (lv2 := [(0, .ref (E.2.1 + v0)), (2, .int v2), (3, .int (s0 + s1)), (4, .int (v4 + (1 : Int32))), (5, .int (v6 + (1 : Int32))), (6, .int v6)]) [3, 4, 2, 0, 1, 5] rfl ?_
    exact kbX6_findArguments_96 hd hrec
def lX6_findArguments_25 (N : Nat) (v0 : Nat) (v2 : Int32) : Nat → Int32 → Int32 → Int32 → Int32 → qM → Option (Int32 × qM)
  | 0, _, _, _, _, _ => none
  | n + 1, v3, v4, v5, v6, m0 =>
    (qgI m0 v0 6 7).bind fun x1 =>
    if x1 ≤ v6 then (
    some (v4, m0)
    ) else (
    if v3 ≤ 0 then (
    some (v4, m0)
    ) else (
    if v2 ≤ v4 then (
    some (v4, m0)
    ) else (
    (qgR m0 v0 6 5).bind fun x2 =>
    (qaI m0 x2 11 v6).bind fun x3 =>
    if x3 = (64 : Int32) then (
    kX6_findArguments_62 N (lX6_findArguments_25 N v0 v2 n) v0 v2 v4 v5 v6 v3 (-1 : Int32) m0
    ) else (
    kX6_findArguments_62 N (lX6_findArguments_25 N v0 v2 n) v0 v2 v4 v5 v6 v3 (1 : Int32) m0
    )
    )
    )
    )
set_option maxRecDepth 100000 in
theorem lbX6_findArguments_25 {E : qE} {N d bc bs : Nat} (hd : 1 ≤ d) {v0 : Nat} {v2 : Int32} : ∀ (n : Nat) (v3 : Int32) (v4 : Int32) (v5 : Int32) (v6 : Int32) (m0 : qM), qB E yX6_findArguments cX6_findArguments 7 (some .boolean) (fun _ => True) d bc bs 25 [(0, .ref (E.2.1 + v0)), (2, .int v2), (3, .int v3), (4, .int v4), (5, .int v5), (6, .int v6)] [] m0 (lX6_findArguments_25 N v0 v2 n v3 v4 v5 v6 m0) (fun o rr => qJ E yX6_findArguments cX6_findArguments 7 (some .boolean) (fun _ => True) d bc bs 102 [(2, .int v2), (4, .int o.1)] [] o.2 rr) := by
  intro n
  induction n with
  | zero =>
    intro v3 v4 v5 v6 m0
    exact j_none
  | succ n ih =>
    intro v3 v4 v5 v6 m0
    unfold lX6_findArguments_25
    refine j_iload (q := 5) (np := 27) rfl dX6_findArguments_25 rfl ?_
    refine j_aload_n (q := 0) (np := 28) rfl rfl dX6_findArguments_27 rfl ?_
    refine j_gI (np := 31) flX6_57 dX6_findArguments_28 rfl (fun x1 => ?_)
    refine j_icmp_ge (tgt := 102) (np := 34) dX6_findArguments_31 rfl rfl ?_ ?_
    · refine j_sub (lv2 := [(2, .int v2), (4, .int v4)]) [1, 3] rfl ?_
      exact j_exit (fun rr h => h)
    · refine j_iload_n (q := 2) (np := 35) rfl rfl dX6_findArguments_34 rfl ?_
      refine j_if_le (tgt := 102) (np := 38) dX6_findArguments_35 rfl rfl ?_ ?_
      · refine j_sub (lv2 := [(2, .int v2), (4, .int v4)]) [1, 3] rfl ?_
        exact j_exit (fun rr h => h)
      · refine j_iload (q := 3) (np := 40) rfl dX6_findArguments_38 rfl ?_
        refine j_iload_n (q := 1) (np := 41) rfl rfl dX6_findArguments_40 rfl ?_
        refine j_icmp_ge (tgt := 102) (np := 44) dX6_findArguments_41 rfl rfl ?_ ?_
        · refine j_sub (lv2 := [(2, .int v2), (4, .int v4)]) [1, 3] rfl ?_
          exact j_exit (fun rr h => h)
        · refine j_iload_n (q := 2) (np := 45) rfl rfl dX6_findArguments_44 rfl ?_
          refine j_aload_n (q := 0) (np := 46) rfl rfl dX6_findArguments_45 rfl ?_
          refine j_gR (np := 49) flX6_28 dX6_findArguments_46 rfl (fun x2 => ?_)
          refine j_iload (q := 5) (np := 51) rfl dX6_findArguments_49 rfl ?_
          refine j_caload (np := 52) dX6_findArguments_51 rfl (fun x3 => ?_)
          refine j_bipush (np := 54) cb_64 dX6_findArguments_52 rfl ?_
          refine j_icmp_ne (tgt := 61) (np := 57) dX6_findArguments_54 rfl rfl ?_ ?_
          · refine j_iconst (np := 62) ci_1 dX6_findArguments_61 rfl ?_
            refine j_sub (lv2 := [(0, .ref (E.2.1 + v0)), (2, .int v2), (4, .int v4), (5, .int v5), (6, .int v6)]) [0, 1, 3, 4, 5] rfl ?_
            exact kbX6_findArguments_62 hd ih
          · refine j_iconst (np := 58) ci_m1 dX6_findArguments_57 rfl ?_
            refine j_goto (tgt := 62) dX6_findArguments_58 rfl ?_
            refine j_sub (lv2 := [(0, .ref (E.2.1 + v0)), (2, .int v2), (4, .int v4), (5, .int v5), (6, .int v6)]) [0, 1, 3, 4, 5] rfl ?_
            exact kbX6_findArguments_62 hd ih
def fX6_findArguments (N : Nat) (v0 : Nat) (v1 : Int32) (m0 : qM) : Option (Int32 × qM) :=
  (qgR m0 v0 6 5).bind fun x1 =>
  (qaI m0 x1 11 v1).bind fun x2 =>
  (fX6_arityOf N x2 m0).bind fun b3 =>
  (lX6_findArguments_25 N v0 b3.1 N (1 : Int32) (0 : Int32) (v1 + (1 : Int32)) (v1 + (1 : Int32)) b3.2).bind fun o4 =>
  if o4.1 = b3.1 then (
  some ((1 : Int32), o4.2)
  ) else (
  some ((0 : Int32), o4.2)
  )
set_option maxRecDepth 100000 in
theorem bX6_findArguments {E : qE} {N d bc bs : Nat} (hd : 1 ≤ d) {v0 : Nat} {v1 : Int32} {m0 : qM} : qB E yX6_findArguments cX6_findArguments 7 (some .boolean) (fun _ => True) d bc bs 0 [(0, .ref (E.2.1 + v0)), (1, .int v1)] [] m0 (fX6_findArguments N v0 v1 m0) (fun b rr => rr = (some (.int b.1), b.2)) := by
  unfold fX6_findArguments
  refine j_aload_n (q := 0) (np := 1) rfl rfl dX6_findArguments_0 rfl ?_
  refine j_gR (np := 4) flX6_28 dX6_findArguments_1 rfl (fun x1 => ?_)
  refine j_iload_n (q := 1) (np := 5) rfl rfl dX6_findArguments_4 rfl ?_
  refine j_caload (np := 6) dX6_findArguments_5 rfl (fun x2 => ?_)
  refine j_callSi (np := 9) (bc := bc) (bs := bs) (cb := 0) (cs := 0) (dd := d - 1) (As := [.int x2]) (st := []) caX6_arityOf mlX6_90 stX6_arityOf (fun b hb => wX6_arityOf (by omega) hb) (by omega) rfl rfl (Nat.le_of_ble_eq_true rfl) dX6_findArguments_6 rfl (fun b3 => ?_)
  refine j_istore_n (np := 10) (lv2 := [(2, .int b3.1), (0, .ref (E.2.1 + v0)), (1, .int v1)]) rfl (by decide) dX6_findArguments_9 rfl rfl ?_
  refine j_iconst (np := 11) ci_1 dX6_findArguments_10 rfl ?_
  refine j_istore_n (np := 12) (lv2 := [(3, .int (1 : Int32)), (2, .int b3.1), (0, .ref (E.2.1 + v0)), (1, .int v1)]) rfl (by decide) dX6_findArguments_11 rfl rfl ?_
  refine j_iconst (np := 13) ci_0 dX6_findArguments_12 rfl ?_
  refine j_istore (np := 15) (lv2 := [(4, .int (0 : Int32)), (3, .int (1 : Int32)), (2, .int b3.1), (0, .ref (E.2.1 + v0)), (1, .int v1)]) (by decide) dX6_findArguments_13 rfl rfl ?_
  refine j_iload_n (q := 4) (np := 16) rfl rfl dX6_findArguments_15 rfl ?_
  refine j_iconst (np := 17) ci_1 dX6_findArguments_16 rfl ?_
  refine j_iadd (np := 18) dX6_findArguments_17 rfl ?_
  refine j_istore (np := 20) (lv2 := [(5, .int (v1 + (1 : Int32))), (4, .int (0 : Int32)), (3, .int (1 : Int32)), (2, .int b3.1), (0, .ref (E.2.1 + v0)), (1, .int v1)]) (by decide) dX6_findArguments_18 rfl rfl ?_
  refine j_iload_n (q := 5) (np := 21) rfl rfl dX6_findArguments_20 rfl ?_
  refine j_iconst (np := 22) ci_1 dX6_findArguments_21 rfl ?_
  refine j_iadd (np := 23) dX6_findArguments_22 rfl ?_
  refine j_istore (np := 25) (lv2 := [(6, .int (v1 + (1 : Int32))), (5, .int (v1 + (1 : Int32))), (4, .int (0 : Int32)), (3, .int (1 : Int32)), (2, .int b3.1), (0, .ref (E.2.1 + v0)), (1, .int v1)]) (by decide) dX6_findArguments_23 rfl rfl ?_
  refine j_sub (lv2 := [(0, .ref (E.2.1 + v0)), (2, .int b3.1), (3, .int (1 : Int32)), (4, .int (0 : Int32)), (5, .int (v1 + (1 : Int32))), (6, .int (v1 + (1 : Int32)))]) [5, 4, 3, 2, 1, 0] rfl ?_
  refine j_loop (xp := 102) (lvX := fun o4 => [(2, .int b3.1), (4, .int o4.1)]) (mX := fun o4 => o4.2) (lbX6_findArguments_25 hd _ _ _ _ _ _) (fun o4 => ?_)
  refine j_iload (q := 1) (np := 104) rfl dX6_findArguments_102 rfl ?_
  refine j_iload_n (q := 0) (np := 105) rfl rfl dX6_findArguments_104 rfl ?_
  refine j_icmp_ne (tgt := 112) (np := 108) dX6_findArguments_105 rfl rfl ?_ ?_
  · refine j_iconst (np := 113) ci_0 dX6_findArguments_112 rfl ?_
    exact j_zret rfl dX6_findArguments_113 (fun rr h => by rw [z0]; exact h)
  · refine j_iconst (np := 109) ci_1 dX6_findArguments_108 rfl ?_
    refine j_goto (tgt := 113) dX6_findArguments_109 rfl ?_
    exact j_zret rfl dX6_findArguments_113 (fun rr h => by rw [z1]; exact h)
set_option maxRecDepth 100000 in
theorem wX6_findArguments {E : qE} {N d : Nat} (hd : 1 ≤ d) {v0 : Nat} {v1 : Int32} {m0 : qM} {b : Int32 × qM} (h : fX6_findArguments N v0 v1 m0 = some b) : qRun E yX6_findArguments cX6_findArguments 7 (some .boolean) d 0 0 [.ref (E.2.1 + v0), .int v1] m0 (some (.int b.1), b.2) := q_met pnX6 (Nat.le_of_ble_eq_true rfl) (bX6_findArguments hd b _ h rfl)
theorem dX6_findRedex_0 : decode cX6_findRedex 0 = .ok (.iconst 0, 1) := by decide +kernel
theorem dX6_findRedex_1 : decode cX6_findRedex 1 = .ok (.istore_n 1, 1) := by decide +kernel
theorem dX6_findRedex_2 : decode cX6_findRedex 2 = .ok (.iload_n 1, 1) := by decide +kernel
theorem dX6_findRedex_3 : decode cX6_findRedex 3 = .ok (.aload_n 0, 1) := by decide +kernel
theorem dX6_findRedex_4 : decode cX6_findRedex 4 = .ok (.getfield 57, 3) := by decide +kernel
theorem dX6_findRedex_7 : decode cX6_findRedex 7 = .ok (.if_icmp .ge 35, 3) := by decide +kernel
theorem dX6_findRedex_10 : decode cX6_findRedex 10 = .ok (.aload_n 0, 1) := by decide +kernel
theorem dX6_findRedex_11 : decode cX6_findRedex 11 = .ok (.getfield 28, 3) := by decide +kernel
theorem dX6_findRedex_14 : decode cX6_findRedex 14 = .ok (.iload_n 1, 1) := by decide +kernel
theorem dX6_findRedex_15 : decode cX6_findRedex 15 = .ok (.caload, 1) := by decide +kernel
theorem dX6_findRedex_16 : decode cX6_findRedex 16 = .ok (.bipush 64, 2) := by decide +kernel
theorem dX6_findRedex_18 : decode cX6_findRedex 18 = .ok (.if_icmp .eq 18, 3) := by decide +kernel
theorem dX6_findRedex_21 : decode cX6_findRedex 21 = .ok (.aload_n 0, 1) := by decide +kernel
theorem dX6_findRedex_22 : decode cX6_findRedex 22 = .ok (.iload_n 1, 1) := by decide +kernel
theorem dX6_findRedex_23 : decode cX6_findRedex 23 = .ok (.invokevirtual 83, 3) := by decide +kernel
theorem dX6_findRedex_26 : decode cX6_findRedex 26 = .ok (.ifCond .eq 10, 3) := by decide +kernel
theorem dX6_findRedex_29 : decode cX6_findRedex 29 = .ok (.aload_n 0, 1) := by decide +kernel
theorem dX6_findRedex_30 : decode cX6_findRedex 30 = .ok (.iload_n 1, 1) := by decide +kernel
theorem dX6_findRedex_31 : decode cX6_findRedex 31 = .ok (.putfield 87, 3) := by decide +kernel
theorem dX6_findRedex_34 : decode cX6_findRedex 34 = .ok (.iconst 1, 1) := by decide +kernel
theorem dX6_findRedex_35 : decode cX6_findRedex 35 = .ok (.ireturn, 1) := by decide +kernel
theorem dX6_findRedex_36 : decode cX6_findRedex 36 = .ok (.iinc 1 1, 3) := by decide +kernel
theorem dX6_findRedex_39 : decode cX6_findRedex 39 = .ok (.goto (-37), 3) := by decide +kernel
theorem dX6_findRedex_42 : decode cX6_findRedex 42 = .ok (.iconst 0, 1) := by decide +kernel
theorem dX6_findRedex_43 : decode cX6_findRedex 43 = .ok (.ireturn, 1) := by decide +kernel
def kX6_findRedex_36 (N : Nat) (rec : Int32 → qM → Option ((qM) ⊕ (Int32 × qM))) (v0 : Nat) (v1 : Int32)  (m0 : qM) : Option ((qM) ⊕ (Int32 × qM)) :=
  rec (v1 + (1 : Int32)) m0
set_option maxRecDepth 100000 in
theorem kbX6_findRedex_36 {E : qE} {N d bc bs : Nat} (hd : 2 ≤ d) {v0 : Nat} {v1 : Int32}  {m0 : qM} {rec : Int32 → qM → Option ((qM) ⊕ (Int32 × qM))} (hrec : ∀ (v1 : Int32) (m : qM), qB E yX6_findRedex cX6_findRedex 2 (some .boolean) (fun _ => True) d bc bs 2 [(0, .ref (E.2.1 + v0)), (1, .int v1)] [] m (rec v1 m) (qGL (fun o rr => qJ E yX6_findRedex cX6_findRedex 2 (some .boolean) (fun _ => True) d bc bs 42 [] [] o rr) (fun r => (some (.int r.1), r.2)))) : qB E yX6_findRedex cX6_findRedex 2 (some .boolean) (fun _ => True) d bc bs 36 [(0, .ref (E.2.1 + v0)), (1, .int v1)] [] m0 (kX6_findRedex_36 N rec v0 v1 m0) (qGL (fun o rr => qJ E yX6_findRedex cX6_findRedex 2 (some .boolean) (fun _ => True) d bc bs 42 [] [] o rr) (fun r => (some (.int r.1), r.2))) := by
  unfold kX6_findRedex_36
  refine j_iinc (q := 1) (np := 39) (lv2 := [(1, .int (v1 + (1 : Int32))), (0, .ref (E.2.1 + v0))]) rfl (congrArg _ ci_1) (by decide) dX6_findRedex_36 rfl rfl ?_
  refine j_goto (tgt := 2) dX6_findRedex_39 rfl ?_
  refine j_sub (lv2 := [(0, .ref (E.2.1 + v0)), (1, .int (v1 + (1 : Int32)))]) [1, 0] rfl ?_
  exact hrec _ _
def lX6_findRedex_2 (N : Nat) (v0 : Nat) : Nat → Int32 → qM → Option ((qM) ⊕ (Int32 × qM))
  | 0, _, _ => none
  | n + 1, v1, m0 =>
    (qgI m0 v0 6 7).bind fun x1 =>
    if x1 ≤ v1 then (
    some (.inl m0)
    ) else (
    (qgR m0 v0 6 5).bind fun x2 =>
    (qaI m0 x2 11 v1).bind fun x3 =>
    if x3 = (64 : Int32) then (
    kX6_findRedex_36 N (lX6_findRedex_2 N v0 n) v0 v1 m0
    ) else (
    (qChk m0 v0 6 (fX6_findArguments N v0 v1 m0)).bind fun b4 =>
    if b4.1 = 0 then (
    kX6_findRedex_36 N (lX6_findRedex_2 N v0 n) v0 v1 b4.2
    ) else (
    (qpI b4.2 v0 6 9 v1).bind fun m5 =>
    some (.inr ((1 : Int32), m5))
    )
    )
    )
set_option maxRecDepth 100000 in
theorem lbX6_findRedex_2 {E : qE} {N d bc bs : Nat} (hd : 2 ≤ d) {v0 : Nat} : ∀ (n : Nat) (v1 : Int32) (m0 : qM), qB E yX6_findRedex cX6_findRedex 2 (some .boolean) (fun _ => True) d bc bs 2 [(0, .ref (E.2.1 + v0)), (1, .int v1)] [] m0 (lX6_findRedex_2 N v0 n v1 m0) (qGL (fun o rr => qJ E yX6_findRedex cX6_findRedex 2 (some .boolean) (fun _ => True) d bc bs 42 [] [] o rr) (fun r => (some (.int r.1), r.2))) := by
  intro n
  induction n with
  | zero =>
    intro v1 m0
    exact j_none
  | succ n ih =>
    intro v1 m0
    unfold lX6_findRedex_2
    refine j_iload_n (q := 1) (np := 3) rfl rfl dX6_findRedex_2 rfl ?_
    refine j_aload_n (q := 0) (np := 4) rfl rfl dX6_findRedex_3 rfl ?_
    refine j_gI (np := 7) flX6_57 dX6_findRedex_4 rfl (fun x1 => ?_)
    refine j_icmp_ge (tgt := 42) (np := 10) dX6_findRedex_7 rfl rfl ?_ ?_
    · refine j_sub (lv2 := []) [] rfl ?_
      exact j_exit (fun rr h => h)
    · refine j_aload_n (q := 0) (np := 11) rfl rfl dX6_findRedex_10 rfl ?_
      refine j_gR (np := 14) flX6_28 dX6_findRedex_11 rfl (fun x2 => ?_)
      refine j_iload_n (q := 1) (np := 15) rfl rfl dX6_findRedex_14 rfl ?_
      refine j_caload (np := 16) dX6_findRedex_15 rfl (fun x3 => ?_)
      refine j_bipush (np := 18) cb_64 dX6_findRedex_16 rfl ?_
      refine j_icmp_eq (tgt := 36) (np := 21) dX6_findRedex_18 rfl rfl ?_ ?_
      · exact kbX6_findRedex_36 hd ih
      · refine j_aload_n (q := 0) (np := 22) rfl rfl dX6_findRedex_21 rfl ?_
        refine j_iload_n (q := 1) (np := 23) rfl rfl dX6_findRedex_22 rfl ?_
        refine j_callVi (ci := 6) (np := 26) (bc := bc) (bs := bs) (cb := 0) (cs := 0) (dd := d - 1) (As := [.int v1]) (st := []) caX6_findArguments mlX6_83 imX6_findArguments seX6_findArguments rfl rfl (by decide) (fun b hb => wX6_findArguments (by omega) hb) (by omega) rfl rfl (Nat.le_of_ble_eq_true rfl) dX6_findRedex_23 rfl (fun b4 => ?_)
        refine j_if_eq (tgt := 36) (np := 29) dX6_findRedex_26 rfl rfl ?_ ?_
        · exact kbX6_findRedex_36 hd ih
        · refine j_aload_n (q := 0) (np := 30) rfl rfl dX6_findRedex_29 rfl ?_
          refine j_iload_n (q := 1) (np := 31) rfl rfl dX6_findRedex_30 rfl ?_
          refine j_pI (np := 34) flX6_87 dX6_findRedex_31 rfl (fun m5 => ?_)
          refine j_iconst (np := 35) ci_1 dX6_findRedex_34 rfl ?_
          exact j_zret rfl dX6_findRedex_35 (fun rr h => by rw [z1]; exact h)
def fX6_findRedex (N : Nat) (v0 : Nat) (m0 : qM) : Option (Int32 × qM) :=
  qTh (lX6_findRedex_2 N v0 N (0 : Int32) m0) (fun o1 =>
  some ((0 : Int32), o1)
  ) (fun r => r)
set_option maxRecDepth 100000 in
theorem bX6_findRedex {E : qE} {N d bc bs : Nat} (hd : 2 ≤ d) {v0 : Nat} {m0 : qM} : qB E yX6_findRedex cX6_findRedex 2 (some .boolean) (fun _ => True) d bc bs 0 [(0, .ref (E.2.1 + v0))] [] m0 (fX6_findRedex N v0 m0) (fun b rr => rr = (some (.int b.1), b.2)) := by
  unfold fX6_findRedex
  refine j_iconst (np := 1) ci_0 dX6_findRedex_0 rfl ?_
  refine j_istore_n (np := 2) (lv2 := [(1, .int (0 : Int32)), (0, .ref (E.2.1 + v0))]) rfl (by decide) dX6_findRedex_1 rfl rfl ?_
  refine j_sub (lv2 := [(0, .ref (E.2.1 + v0)), (1, .int (0 : Int32))]) [1, 0] rfl ?_
  refine j_loopG (xp := 42) (lvX := fun o1 => []) (mX := fun o1 => o1) (lbX6_findRedex_2 hd _ _ _) (fun r rr h => h) (fun o1 => ?_)
  refine j_iconst (np := 43) ci_0 dX6_findRedex_42 rfl ?_
  exact j_zret rfl dX6_findRedex_43 (fun rr h => by rw [z0]; exact h)
set_option maxRecDepth 100000 in
theorem wX6_findRedex {E : qE} {N d : Nat} (hd : 2 ≤ d) {v0 : Nat} {m0 : qM} {b : Int32 × qM} (h : fX6_findRedex N v0 m0 = some b) : qRun E yX6_findRedex cX6_findRedex 2 (some .boolean) d 0 0 [.ref (E.2.1 + v0)] m0 (some (.int b.1), b.2) := q_met pnX6 (Nat.le_of_ble_eq_true rfl) (bX6_findRedex hd b _ h rfl)
theorem dX6_redexEnd_0 : decode cX6_redexEnd 0 = .ok (.aload_n 0, 1) := by decide +kernel
theorem dX6_redexEnd_1 : decode cX6_redexEnd 1 = .ok (.getfield 28, 3) := by decide +kernel
theorem dX6_redexEnd_4 : decode cX6_redexEnd 4 = .ok (.aload_n 0, 1) := by decide +kernel
theorem dX6_redexEnd_5 : decode cX6_redexEnd 5 = .ok (.getfield 87, 3) := by decide +kernel
theorem dX6_redexEnd_8 : decode cX6_redexEnd 8 = .ok (.caload, 1) := by decide +kernel
theorem dX6_redexEnd_9 : decode cX6_redexEnd 9 = .ok (.invokestatic 90, 3) := by decide +kernel
theorem dX6_redexEnd_12 : decode cX6_redexEnd 12 = .ok (.istore_n 1, 1) := by decide +kernel
theorem dX6_redexEnd_13 : decode cX6_redexEnd 13 = .ok (.iload_n 1, 1) := by decide +kernel
theorem dX6_redexEnd_14 : decode cX6_redexEnd 14 = .ok (.ifCond .le 16, 3) := by decide +kernel
theorem dX6_redexEnd_17 : decode cX6_redexEnd 17 = .ok (.aload_n 0, 1) := by decide +kernel
theorem dX6_redexEnd_18 : decode cX6_redexEnd 18 = .ok (.getfield 25, 3) := by decide +kernel
theorem dX6_redexEnd_21 : decode cX6_redexEnd 21 = .ok (.iload_n 1, 1) := by decide +kernel
theorem dX6_redexEnd_22 : decode cX6_redexEnd 22 = .ok (.iconst 1, 1) := by decide +kernel
theorem dX6_redexEnd_23 : decode cX6_redexEnd 23 = .ok (.isub, 1) := by decide +kernel
theorem dX6_redexEnd_24 : decode cX6_redexEnd 24 = .ok (.iaload, 1) := by decide +kernel
theorem dX6_redexEnd_25 : decode cX6_redexEnd 25 = .ok (.iconst 1, 1) := by decide +kernel
theorem dX6_redexEnd_26 : decode cX6_redexEnd 26 = .ok (.iadd, 1) := by decide +kernel
theorem dX6_redexEnd_27 : decode cX6_redexEnd 27 = .ok (.goto 7, 3) := by decide +kernel
theorem dX6_redexEnd_30 : decode cX6_redexEnd 30 = .ok (.aload_n 0, 1) := by decide +kernel
theorem dX6_redexEnd_31 : decode cX6_redexEnd 31 = .ok (.getfield 87, 3) := by decide +kernel
theorem dX6_redexEnd_34 : decode cX6_redexEnd 34 = .ok (.ireturn, 1) := by decide +kernel
def fX6_redexEnd (N : Nat) (v0 : Nat) (m0 : qM) : Option (Int32 × qM) :=
  (qgR m0 v0 6 5).bind fun x1 =>
  (qgI m0 v0 6 9).bind fun x2 =>
  (qaI m0 x1 11 x2).bind fun x3 =>
  (fX6_arityOf N x3 m0).bind fun b4 =>
  if b4.1 ≤ 0 then (
  (qgI b4.2 v0 6 9).bind fun x5 =>
  some (x5, b4.2)
  ) else (
  (qgR b4.2 v0 6 4).bind fun x6 =>
  (qaI b4.2 x6 12 (b4.1 - (1 : Int32))).bind fun x7 =>
  some (x7 + (1 : Int32), b4.2)
  )
set_option maxRecDepth 100000 in
theorem bX6_redexEnd {E : qE} {N d bc bs : Nat} (hd : 1 ≤ d) {v0 : Nat} {m0 : qM} : qB E yX6_redexEnd cX6_redexEnd 2 (some .int) (fun _ => True) d bc bs 0 [(0, .ref (E.2.1 + v0))] [] m0 (fX6_redexEnd N v0 m0) (fun b rr => rr = (some (.int b.1), b.2)) := by
  unfold fX6_redexEnd
  refine j_aload_n (q := 0) (np := 1) rfl rfl dX6_redexEnd_0 rfl ?_
  refine j_gR (np := 4) flX6_28 dX6_redexEnd_1 rfl (fun x1 => ?_)
  refine j_aload_n (q := 0) (np := 5) rfl rfl dX6_redexEnd_4 rfl ?_
  refine j_gI (np := 8) flX6_87 dX6_redexEnd_5 rfl (fun x2 => ?_)
  refine j_caload (np := 9) dX6_redexEnd_8 rfl (fun x3 => ?_)
  refine j_callSi (np := 12) (bc := bc) (bs := bs) (cb := 0) (cs := 0) (dd := d - 1) (As := [.int x3]) (st := []) caX6_arityOf mlX6_90 stX6_arityOf (fun b hb => wX6_arityOf (by omega) hb) (by omega) rfl rfl (Nat.le_of_ble_eq_true rfl) dX6_redexEnd_9 rfl (fun b4 => ?_)
  refine j_istore_n (np := 13) (lv2 := [(1, .int b4.1), (0, .ref (E.2.1 + v0))]) rfl (by decide) dX6_redexEnd_12 rfl rfl ?_
  refine j_iload_n (q := 0) (np := 14) rfl rfl dX6_redexEnd_13 rfl ?_
  refine j_if_le (tgt := 30) (np := 17) dX6_redexEnd_14 rfl rfl ?_ ?_
  · refine j_aload_n (q := 1) (np := 31) rfl rfl dX6_redexEnd_30 rfl ?_
    refine j_gI (np := 34) flX6_87 dX6_redexEnd_31 rfl (fun x5 => ?_)
    exact j_iret rfl dX6_redexEnd_34 (fun rr h => h)
  · refine j_aload_n (q := 1) (np := 18) rfl rfl dX6_redexEnd_17 rfl ?_
    refine j_gR (np := 21) flX6_25 dX6_redexEnd_18 rfl (fun x6 => ?_)
    refine j_iload_n (q := 0) (np := 22) rfl rfl dX6_redexEnd_21 rfl ?_
    refine j_iconst (np := 23) ci_1 dX6_redexEnd_22 rfl ?_
    refine j_isub (np := 24) dX6_redexEnd_23 rfl ?_
    refine j_iaload (np := 25) dX6_redexEnd_24 rfl (fun x7 => ?_)
    refine j_iconst (np := 26) ci_1 dX6_redexEnd_25 rfl ?_
    refine j_iadd (np := 27) dX6_redexEnd_26 rfl ?_
    refine j_goto (tgt := 34) dX6_redexEnd_27 rfl ?_
    exact j_iret rfl dX6_redexEnd_34 (fun rr h => h)
set_option maxRecDepth 100000 in
theorem wX6_redexEnd {E : qE} {N d : Nat} (hd : 1 ≤ d) {v0 : Nat} {m0 : qM} {b : Int32 × qM} (h : fX6_redexEnd N v0 m0 = some b) : qRun E yX6_redexEnd cX6_redexEnd 2 (some .int) d 0 0 [.ref (E.2.1 + v0)] m0 (some (.int b.1), b.2) := q_met pnX6 (Nat.le_of_ble_eq_true rfl) (bX6_redexEnd hd b _ h rfl)
theorem dX6_copyToSpare_0 : decode cX6_copyToSpare 0 = .ok (.iload_n 1, 1) := by decide +kernel
theorem dX6_copyToSpare_1 : decode cX6_copyToSpare 1 = .ok (.istore_n 3, 1) := by decide +kernel
theorem dX6_copyToSpare_2 : decode cX6_copyToSpare 2 = .ok (.iload_n 3, 1) := by decide +kernel
theorem dX6_copyToSpare_3 : decode cX6_copyToSpare 3 = .ok (.iload_n 2, 1) := by decide +kernel
theorem dX6_copyToSpare_4 : decode cX6_copyToSpare 4 = .ok (.if_icmp .ge 44, 3) := by decide +kernel
theorem dX6_copyToSpare_7 : decode cX6_copyToSpare 7 = .ok (.aload_n 0, 1) := by decide +kernel
theorem dX6_copyToSpare_8 : decode cX6_copyToSpare 8 = .ok (.getfield 107, 3) := by decide +kernel
theorem dX6_copyToSpare_11 : decode cX6_copyToSpare 11 = .ok (.sipush 160, 3) := by decide +kernel
theorem dX6_copyToSpare_14 : decode cX6_copyToSpare 14 = .ok (.if_icmp .ge 34, 3) := by decide +kernel
theorem dX6_copyToSpare_17 : decode cX6_copyToSpare 17 = .ok (.aload_n 0, 1) := by decide +kernel
theorem dX6_copyToSpare_18 : decode cX6_copyToSpare 18 = .ok (.getfield 32, 3) := by decide +kernel
theorem dX6_copyToSpare_21 : decode cX6_copyToSpare 21 = .ok (.aload_n 0, 1) := by decide +kernel
theorem dX6_copyToSpare_22 : decode cX6_copyToSpare 22 = .ok (.getfield 107, 3) := by decide +kernel
theorem dX6_copyToSpare_25 : decode cX6_copyToSpare 25 = .ok (.aload_n 0, 1) := by decide +kernel
theorem dX6_copyToSpare_26 : decode cX6_copyToSpare 26 = .ok (.getfield 28, 3) := by decide +kernel
theorem dX6_copyToSpare_29 : decode cX6_copyToSpare 29 = .ok (.iload_n 3, 1) := by decide +kernel
theorem dX6_copyToSpare_30 : decode cX6_copyToSpare 30 = .ok (.caload, 1) := by decide +kernel
theorem dX6_copyToSpare_31 : decode cX6_copyToSpare 31 = .ok (.castore, 1) := by decide +kernel
theorem dX6_copyToSpare_32 : decode cX6_copyToSpare 32 = .ok (.aload_n 0, 1) := by decide +kernel
theorem dX6_copyToSpare_33 : decode cX6_copyToSpare 33 = .ok (.dup, 1) := by decide +kernel
theorem dX6_copyToSpare_34 : decode cX6_copyToSpare 34 = .ok (.getfield 107, 3) := by decide +kernel
theorem dX6_copyToSpare_37 : decode cX6_copyToSpare 37 = .ok (.iconst 1, 1) := by decide +kernel
theorem dX6_copyToSpare_38 : decode cX6_copyToSpare 38 = .ok (.iadd, 1) := by decide +kernel
theorem dX6_copyToSpare_39 : decode cX6_copyToSpare 39 = .ok (.putfield 107, 3) := by decide +kernel
theorem dX6_copyToSpare_42 : decode cX6_copyToSpare 42 = .ok (.iinc 3 1, 3) := by decide +kernel
theorem dX6_copyToSpare_45 : decode cX6_copyToSpare 45 = .ok (.goto (-43), 3) := by decide +kernel
theorem dX6_copyToSpare_48 : decode cX6_copyToSpare 48 = .ok (.return_, 1) := by decide +kernel
def lX6_copyToSpare_2 (N : Nat) (v0 : Nat) (v2 : Int32) : Nat → Int32 → qM → Option (qM)
  | 0, _, _ => none
  | n + 1, v3, m0 =>
    if v2 ≤ v3 then (
    some m0
    ) else (
    (qgI m0 v0 6 8).bind fun x1 =>
    if (160 : Int32) ≤ x1 then (
    some m0
    ) else (
    (qgR m0 v0 6 6).bind fun x2 =>
    (qgI m0 v0 6 8).bind fun x3 =>
    (qgR m0 v0 6 5).bind fun x4 =>
    (qaI m0 x4 11 v3).bind fun x5 =>
    (qwI m0 x2 11 x3 x5.toUInt32.toUInt16.toUInt32.toInt32).bind fun m6 =>
    (qgI m6 v0 6 8).bind fun x7 =>
    (qpI m6 v0 6 8 (x7 + (1 : Int32))).bind fun m8 =>
    lX6_copyToSpare_2 N v0 v2 n (v3 + (1 : Int32)) m8
    )
    )
set_option maxRecDepth 100000 in
theorem lbX6_copyToSpare_2 {E : qE} {N d bc bs : Nat} (hd : 0 ≤ d) {v0 : Nat} {v2 : Int32} : ∀ (n : Nat) (v3 : Int32) (m0 : qM), qB E yX6_copyToSpare cX6_copyToSpare 4 none (fun _ => True) d bc bs 2 [(0, .ref (E.2.1 + v0)), (2, .int v2), (3, .int v3)] [] m0 (lX6_copyToSpare_2 N v0 v2 n v3 m0) (fun o rr => qJ E yX6_copyToSpare cX6_copyToSpare 4 none (fun _ => True) d bc bs 48 [] [] o rr) := by
  intro n
  induction n with
  | zero =>
    intro v3 m0
    exact j_none
  | succ n ih =>
    intro v3 m0
    unfold lX6_copyToSpare_2
    refine j_iload_n (q := 2) (np := 3) rfl rfl dX6_copyToSpare_2 rfl ?_
    refine j_iload_n (q := 1) (np := 4) rfl rfl dX6_copyToSpare_3 rfl ?_
    refine j_icmp_ge (tgt := 48) (np := 7) dX6_copyToSpare_4 rfl rfl ?_ ?_
    · refine j_sub (lv2 := []) [] rfl ?_
      exact j_exit (fun rr h => h)
    · refine j_aload_n (q := 0) (np := 8) rfl rfl dX6_copyToSpare_7 rfl ?_
      refine j_gI (np := 11) flX6_107 dX6_copyToSpare_8 rfl (fun x1 => ?_)
      refine j_sipush (np := 14) cs_160 dX6_copyToSpare_11 rfl ?_
      refine j_icmp_ge (tgt := 48) (np := 17) dX6_copyToSpare_14 rfl rfl ?_ ?_
      · refine j_sub (lv2 := []) [] rfl ?_
        exact j_exit (fun rr h => h)
      · refine j_aload_n (q := 0) (np := 18) rfl rfl dX6_copyToSpare_17 rfl ?_
        refine j_gR (np := 21) flX6_32 dX6_copyToSpare_18 rfl (fun x2 => ?_)
        refine j_aload_n (q := 0) (np := 22) rfl rfl dX6_copyToSpare_21 rfl ?_
        refine j_gI (np := 25) flX6_107 dX6_copyToSpare_22 rfl (fun x3 => ?_)
        refine j_aload_n (q := 0) (np := 26) rfl rfl dX6_copyToSpare_25 rfl ?_
        refine j_gR (np := 29) flX6_28 dX6_copyToSpare_26 rfl (fun x4 => ?_)
        refine j_iload_n (q := 2) (np := 30) rfl rfl dX6_copyToSpare_29 rfl ?_
        refine j_caload (np := 31) dX6_copyToSpare_30 rfl (fun x5 => ?_)
        refine j_castore (np := 32) dX6_copyToSpare_31 rfl (fun m6 => ?_)
        refine j_aload_n (q := 0) (np := 33) rfl rfl dX6_copyToSpare_32 rfl ?_
        refine j_dup (np := 34) rfl dX6_copyToSpare_33 rfl ?_
        refine j_gI (np := 37) flX6_107 dX6_copyToSpare_34 rfl (fun x7 => ?_)
        refine j_iconst (np := 38) ci_1 dX6_copyToSpare_37 rfl ?_
        refine j_iadd (np := 39) dX6_copyToSpare_38 rfl ?_
        refine j_pI (np := 42) flX6_107 dX6_copyToSpare_39 rfl (fun m8 => ?_)
        refine j_iinc (q := 2) (np := 45) (lv2 := [(3, .int (v3 + (1 : Int32))), (0, .ref (E.2.1 + v0)), (2, .int v2)]) rfl (congrArg _ ci_1) (by decide) dX6_copyToSpare_42 rfl rfl ?_
        refine j_goto (tgt := 2) dX6_copyToSpare_45 rfl ?_
        refine j_sub (lv2 := [(0, .ref (E.2.1 + v0)), (2, .int v2), (3, .int (v3 + (1 : Int32)))]) [1, 2, 0] rfl ?_
        exact ih _ _
def fX6_copyToSpare (N : Nat) (v0 : Nat) (v1 : Int32) (v2 : Int32) (m0 : qM) : Option (qM) :=
  (lX6_copyToSpare_2 N v0 v2 N v1 m0).bind fun o1 =>
  some o1
set_option maxRecDepth 100000 in
theorem bX6_copyToSpare {E : qE} {N d bc bs : Nat} (hd : 0 ≤ d) {v0 : Nat} {v1 : Int32} {v2 : Int32} {m0 : qM} : qB E yX6_copyToSpare cX6_copyToSpare 4 none (fun _ => True) d bc bs 0 [(0, .ref (E.2.1 + v0)), (1, .int v1), (2, .int v2)] [] m0 (fX6_copyToSpare N v0 v1 v2 m0) (fun b rr => rr = (none, b)) := by
  unfold fX6_copyToSpare
  refine j_iload_n (q := 1) (np := 1) rfl rfl dX6_copyToSpare_0 rfl ?_
  refine j_istore_n (np := 2) (lv2 := [(3, .int v1), (0, .ref (E.2.1 + v0)), (1, .int v1), (2, .int v2)]) rfl (by decide) dX6_copyToSpare_1 rfl rfl ?_
  refine j_sub (lv2 := [(0, .ref (E.2.1 + v0)), (2, .int v2), (3, .int v1)]) [1, 3, 0] rfl ?_
  refine j_loop (xp := 48) (lvX := fun o1 => []) (mX := fun o1 => o1) (lbX6_copyToSpare_2 hd _ _ _) (fun o1 => ?_)
  exact j_vret rfl dX6_copyToSpare_48 (fun rr h => h)
set_option maxRecDepth 100000 in
theorem wX6_copyToSpare {E : qE} {N d : Nat} (hd : 0 ≤ d) {v0 : Nat} {v1 : Int32} {v2 : Int32} {m0 : qM} {b : qM} (h : fX6_copyToSpare N v0 v1 v2 m0 = some b) : qRun E yX6_copyToSpare cX6_copyToSpare 4 none d 0 0 [.ref (E.2.1 + v0), .int v1, .int v2] m0 (none, b) := q_met pnX6 (Nat.le_of_ble_eq_true rfl) (bX6_copyToSpare hd b _ h rfl)
theorem dX6_markOpenings_0 : decode cX6_markOpenings 0 = .ok (.iconst 0, 1) := by decide +kernel
theorem dX6_markOpenings_1 : decode cX6_markOpenings 1 = .ok (.istore_n 1, 1) := by decide +kernel
theorem dX6_markOpenings_2 : decode cX6_markOpenings 2 = .ok (.iconst 0, 1) := by decide +kernel
theorem dX6_markOpenings_3 : decode cX6_markOpenings 3 = .ok (.istore_n 2, 1) := by decide +kernel
theorem dX6_markOpenings_4 : decode cX6_markOpenings 4 = .ok (.iload_n 2, 1) := by decide +kernel
theorem dX6_markOpenings_5 : decode cX6_markOpenings 5 = .ok (.aload_n 0, 1) := by decide +kernel
theorem dX6_markOpenings_6 : decode cX6_markOpenings 6 = .ok (.getfield 57, 3) := by decide +kernel
theorem dX6_markOpenings_9 : decode cX6_markOpenings 9 = .ok (.if_icmp .ge 73, 3) := by decide +kernel
theorem dX6_markOpenings_12 : decode cX6_markOpenings 12 = .ok (.aload_n 0, 1) := by decide +kernel
theorem dX6_markOpenings_13 : decode cX6_markOpenings 13 = .ok (.getfield 15, 3) := by decide +kernel
theorem dX6_markOpenings_16 : decode cX6_markOpenings 16 = .ok (.iload_n 2, 1) := by decide +kernel
theorem dX6_markOpenings_17 : decode cX6_markOpenings 17 = .ok (.iconst 0, 1) := by decide +kernel
theorem dX6_markOpenings_18 : decode cX6_markOpenings 18 = .ok (.bastore, 1) := by decide +kernel
theorem dX6_markOpenings_19 : decode cX6_markOpenings 19 = .ok (.aload_n 0, 1) := by decide +kernel
theorem dX6_markOpenings_20 : decode cX6_markOpenings 20 = .ok (.getfield 28, 3) := by decide +kernel
theorem dX6_markOpenings_23 : decode cX6_markOpenings 23 = .ok (.iload_n 2, 1) := by decide +kernel
theorem dX6_markOpenings_24 : decode cX6_markOpenings 24 = .ok (.caload, 1) := by decide +kernel
theorem dX6_markOpenings_25 : decode cX6_markOpenings 25 = .ok (.bipush 64, 2) := by decide +kernel
theorem dX6_markOpenings_27 : decode cX6_markOpenings 27 = .ok (.if_icmp .eq 16, 3) := by decide +kernel
theorem dX6_markOpenings_30 : decode cX6_markOpenings 30 = .ok (.aload_n 0, 1) := by decide +kernel
theorem dX6_markOpenings_31 : decode cX6_markOpenings 31 = .ok (.getfield 18, 3) := by decide +kernel
theorem dX6_markOpenings_34 : decode cX6_markOpenings 34 = .ok (.iload_n 1, 1) := by decide +kernel
theorem dX6_markOpenings_35 : decode cX6_markOpenings 35 = .ok (.iload_n 2, 1) := by decide +kernel
theorem dX6_markOpenings_36 : decode cX6_markOpenings 36 = .ok (.iastore, 1) := by decide +kernel
theorem dX6_markOpenings_37 : decode cX6_markOpenings 37 = .ok (.iinc 1 1, 3) := by decide +kernel
theorem dX6_markOpenings_40 : decode cX6_markOpenings 40 = .ok (.goto 36, 3) := by decide +kernel
theorem dX6_markOpenings_43 : decode cX6_markOpenings 43 = .ok (.iload_n 1, 1) := by decide +kernel
theorem dX6_markOpenings_44 : decode cX6_markOpenings 44 = .ok (.iconst 2, 1) := by decide +kernel
theorem dX6_markOpenings_45 : decode cX6_markOpenings 45 = .ok (.if_icmp .lt 31, 3) := by decide +kernel
theorem dX6_markOpenings_48 : decode cX6_markOpenings 48 = .ok (.iinc 1 (-1), 3) := by decide +kernel
theorem dX6_markOpenings_51 : decode cX6_markOpenings 51 = .ok (.aload_n 0, 1) := by decide +kernel
theorem dX6_markOpenings_52 : decode cX6_markOpenings 52 = .ok (.getfield 28, 3) := by decide +kernel
theorem dX6_markOpenings_55 : decode cX6_markOpenings 55 = .ok (.iload_n 2, 1) := by decide +kernel
theorem dX6_markOpenings_56 : decode cX6_markOpenings 56 = .ok (.iconst 1, 1) := by decide +kernel
theorem dX6_markOpenings_57 : decode cX6_markOpenings 57 = .ok (.isub, 1) := by decide +kernel
theorem dX6_markOpenings_58 : decode cX6_markOpenings 58 = .ok (.caload, 1) := by decide +kernel
theorem dX6_markOpenings_59 : decode cX6_markOpenings 59 = .ok (.bipush 64, 2) := by decide +kernel
theorem dX6_markOpenings_61 : decode cX6_markOpenings 61 = .ok (.if_icmp .ne 15, 3) := by decide +kernel
theorem dX6_markOpenings_64 : decode cX6_markOpenings 64 = .ok (.aload_n 0, 1) := by decide +kernel
theorem dX6_markOpenings_65 : decode cX6_markOpenings 65 = .ok (.getfield 15, 3) := by decide +kernel
theorem dX6_markOpenings_68 : decode cX6_markOpenings 68 = .ok (.aload_n 0, 1) := by decide +kernel
theorem dX6_markOpenings_69 : decode cX6_markOpenings 69 = .ok (.getfield 18, 3) := by decide +kernel
theorem dX6_markOpenings_72 : decode cX6_markOpenings 72 = .ok (.iload_n 1, 1) := by decide +kernel
theorem dX6_markOpenings_73 : decode cX6_markOpenings 73 = .ok (.iaload, 1) := by decide +kernel
theorem dX6_markOpenings_74 : decode cX6_markOpenings 74 = .ok (.iconst 1, 1) := by decide +kernel
theorem dX6_markOpenings_75 : decode cX6_markOpenings 75 = .ok (.bastore, 1) := by decide +kernel
theorem dX6_markOpenings_76 : decode cX6_markOpenings 76 = .ok (.iinc 2 1, 3) := by decide +kernel
theorem dX6_markOpenings_79 : decode cX6_markOpenings 79 = .ok (.goto (-75), 3) := by decide +kernel
theorem dX6_markOpenings_82 : decode cX6_markOpenings 82 = .ok (.return_, 1) := by decide +kernel
def kX6_markOpenings_76 (N : Nat) (rec : Int32 → Int32 → qM → Option (qM)) (v0 : Nat) (v1 : Int32) (v2 : Int32)  (m0 : qM) : Option (qM) :=
  rec v1 (v2 + (1 : Int32)) m0
set_option maxRecDepth 100000 in
theorem kbX6_markOpenings_76 {E : qE} {N d bc bs : Nat} (hd : 0 ≤ d) {v0 : Nat} {v1 : Int32} {v2 : Int32}  {m0 : qM} {rec : Int32 → Int32 → qM → Option (qM)} (hrec : ∀ (v1 : Int32) (v2 : Int32) (m : qM), qB E yX6_markOpenings cX6_markOpenings 3 none (fun _ => True) d bc bs 4 [(0, .ref (E.2.1 + v0)), (1, .int v1), (2, .int v2)] [] m (rec v1 v2 m) (fun o rr => qJ E yX6_markOpenings cX6_markOpenings 3 none (fun _ => True) d bc bs 82 [] [] o rr)) : qB E yX6_markOpenings cX6_markOpenings 3 none (fun _ => True) d bc bs 76 [(0, .ref (E.2.1 + v0)), (1, .int v1), (2, .int v2)] [] m0 (kX6_markOpenings_76 N rec v0 v1 v2 m0) (fun o rr => qJ E yX6_markOpenings cX6_markOpenings 3 none (fun _ => True) d bc bs 82 [] [] o rr) := by
  unfold kX6_markOpenings_76
  refine j_iinc (q := 2) (np := 79) (lv2 := [(2, .int (v2 + (1 : Int32))), (0, .ref (E.2.1 + v0)), (1, .int v1)]) rfl (congrArg _ ci_1) (by decide) dX6_markOpenings_76 rfl rfl ?_
  refine j_goto (tgt := 4) dX6_markOpenings_79 rfl ?_
  refine j_sub (lv2 := [(0, .ref (E.2.1 + v0)), (1, .int v1), (2, .int (v2 + (1 : Int32)))]) [1, 2, 0] rfl ?_
  exact hrec _ _ _
def lX6_markOpenings_4 (N : Nat) (v0 : Nat) : Nat → Int32 → Int32 → qM → Option (qM)
  | 0, _, _, _ => none
  | n + 1, v1, v2, m0 =>
    (qgI m0 v0 6 7).bind fun x1 =>
    if x1 ≤ v2 then (
    some m0
    ) else (
    (qgR m0 v0 6 1).bind fun x2 =>
    (qwI m0 x2 14 v2 ((0 : Int32) &&& 1)).bind fun m3 =>
    (qgR m3 v0 6 5).bind fun x4 =>
    (qaI m3 x4 11 v2).bind fun x5 =>
    if x5 = (64 : Int32) then (
    if v1 < (2 : Int32) then (
    kX6_markOpenings_76 N (lX6_markOpenings_4 N v0 n) v0 v1 v2 m3
    ) else (
    (qgR m3 v0 6 5).bind fun x6 =>
    (qaI m3 x6 11 (v2 - (1 : Int32))).bind fun x7 =>
    if x7 = (64 : Int32) then (
    (qgR m3 v0 6 1).bind fun x8 =>
    (qgR m3 v0 6 2).bind fun x9 =>
    (qaI m3 x9 12 (v1 + (-1 : Int32))).bind fun x10 =>
    (qwI m3 x8 14 x10 ((1 : Int32) &&& 1)).bind fun m11 =>
    kX6_markOpenings_76 N (lX6_markOpenings_4 N v0 n) v0 (v1 + (-1 : Int32)) v2 m11
    ) else (
    kX6_markOpenings_76 N (lX6_markOpenings_4 N v0 n) v0 (v1 + (-1 : Int32)) v2 m3
    )
    )
    ) else (
    (qgR m3 v0 6 2).bind fun x12 =>
    (qwI m3 x12 12 v1 v2).bind fun m13 =>
    kX6_markOpenings_76 N (lX6_markOpenings_4 N v0 n) v0 (v1 + (1 : Int32)) v2 m13
    )
    )
set_option maxRecDepth 100000 in
theorem lbX6_markOpenings_4 {E : qE} {N d bc bs : Nat} (hd : 0 ≤ d) {v0 : Nat} : ∀ (n : Nat) (v1 : Int32) (v2 : Int32) (m0 : qM), qB E yX6_markOpenings cX6_markOpenings 3 none (fun _ => True) d bc bs 4 [(0, .ref (E.2.1 + v0)), (1, .int v1), (2, .int v2)] [] m0 (lX6_markOpenings_4 N v0 n v1 v2 m0) (fun o rr => qJ E yX6_markOpenings cX6_markOpenings 3 none (fun _ => True) d bc bs 82 [] [] o rr) := by
  intro n
  induction n with
  | zero =>
    intro v1 v2 m0
    exact j_none
  | succ n ih =>
    intro v1 v2 m0
    unfold lX6_markOpenings_4
    refine j_iload_n (q := 2) (np := 5) rfl rfl dX6_markOpenings_4 rfl ?_
    refine j_aload_n (q := 0) (np := 6) rfl rfl dX6_markOpenings_5 rfl ?_
    refine j_gI (np := 9) flX6_57 dX6_markOpenings_6 rfl (fun x1 => ?_)
    refine j_icmp_ge (tgt := 82) (np := 12) dX6_markOpenings_9 rfl rfl ?_ ?_
    · refine j_sub (lv2 := []) [] rfl ?_
      exact j_exit (fun rr h => h)
    · refine j_aload_n (q := 0) (np := 13) rfl rfl dX6_markOpenings_12 rfl ?_
      refine j_gR (np := 16) flX6_15 dX6_markOpenings_13 rfl (fun x2 => ?_)
      refine j_iload_n (q := 2) (np := 17) rfl rfl dX6_markOpenings_16 rfl ?_
      refine j_iconst (np := 18) ci_0 dX6_markOpenings_17 rfl ?_
      refine j_bastore (np := 19) dX6_markOpenings_18 rfl (fun m3 => ?_)
      refine j_aload_n (q := 0) (np := 20) rfl rfl dX6_markOpenings_19 rfl ?_
      refine j_gR (np := 23) flX6_28 dX6_markOpenings_20 rfl (fun x4 => ?_)
      refine j_iload_n (q := 2) (np := 24) rfl rfl dX6_markOpenings_23 rfl ?_
      refine j_caload (np := 25) dX6_markOpenings_24 rfl (fun x5 => ?_)
      refine j_bipush (np := 27) cb_64 dX6_markOpenings_25 rfl ?_
      refine j_icmp_eq (tgt := 43) (np := 30) dX6_markOpenings_27 rfl rfl ?_ ?_
      · refine j_iload_n (q := 1) (np := 44) rfl rfl dX6_markOpenings_43 rfl ?_
        refine j_iconst (np := 45) ci_2 dX6_markOpenings_44 rfl ?_
        refine j_icmp_lt (tgt := 76) (np := 48) dX6_markOpenings_45 rfl rfl ?_ ?_
        · exact kbX6_markOpenings_76 hd ih
        · refine j_iinc (q := 1) (np := 51) (lv2 := [(1, .int (v1 + (-1 : Int32))), (0, .ref (E.2.1 + v0)), (2, .int v2)]) rfl (congrArg _ ci_m1) (by decide) dX6_markOpenings_48 rfl rfl ?_
          refine j_aload_n (q := 1) (np := 52) rfl rfl dX6_markOpenings_51 rfl ?_
          refine j_gR (np := 55) flX6_28 dX6_markOpenings_52 rfl (fun x6 => ?_)
          refine j_iload_n (q := 2) (np := 56) rfl rfl dX6_markOpenings_55 rfl ?_
          refine j_iconst (np := 57) ci_1 dX6_markOpenings_56 rfl ?_
          refine j_isub (np := 58) dX6_markOpenings_57 rfl ?_
          refine j_caload (np := 59) dX6_markOpenings_58 rfl (fun x7 => ?_)
          refine j_bipush (np := 61) cb_64 dX6_markOpenings_59 rfl ?_
          refine j_icmp_ne (tgt := 76) (np := 64) dX6_markOpenings_61 rfl rfl ?_ ?_
          · refine j_sub (lv2 := [(0, .ref (E.2.1 + v0)), (1, .int (v1 + (-1 : Int32))), (2, .int v2)]) [1, 0, 2] rfl ?_
            exact kbX6_markOpenings_76 hd ih
          · refine j_aload_n (q := 1) (np := 65) rfl rfl dX6_markOpenings_64 rfl ?_
            refine j_gR (np := 68) flX6_15 dX6_markOpenings_65 rfl (fun x8 => ?_)
            refine j_aload_n (q := 1) (np := 69) rfl rfl dX6_markOpenings_68 rfl ?_
            refine j_gR (np := 72) flX6_18 dX6_markOpenings_69 rfl (fun x9 => ?_)
            refine j_iload_n (q := 0) (np := 73) rfl rfl dX6_markOpenings_72 rfl ?_
            refine j_iaload (np := 74) dX6_markOpenings_73 rfl (fun x10 => ?_)
            refine j_iconst (np := 75) ci_1 dX6_markOpenings_74 rfl ?_
            refine j_bastore (np := 76) dX6_markOpenings_75 rfl (fun m11 => ?_)
            refine j_sub (lv2 := [(0, .ref (E.2.1 + v0)), (1, .int (v1 + (-1 : Int32))), (2, .int v2)]) [1, 0, 2] rfl ?_
            exact kbX6_markOpenings_76 hd ih
      · refine j_aload_n (q := 0) (np := 31) rfl rfl dX6_markOpenings_30 rfl ?_
        refine j_gR (np := 34) flX6_18 dX6_markOpenings_31 rfl (fun x12 => ?_)
        refine j_iload_n (q := 1) (np := 35) rfl rfl dX6_markOpenings_34 rfl ?_
        refine j_iload_n (q := 2) (np := 36) rfl rfl dX6_markOpenings_35 rfl ?_
        refine j_iastore (np := 37) dX6_markOpenings_36 rfl (fun m13 => ?_)
        refine j_iinc (q := 1) (np := 40) (lv2 := [(1, .int (v1 + (1 : Int32))), (0, .ref (E.2.1 + v0)), (2, .int v2)]) rfl (congrArg _ ci_1) (by decide) dX6_markOpenings_37 rfl rfl ?_
        refine j_goto (tgt := 76) dX6_markOpenings_40 rfl ?_
        refine j_sub (lv2 := [(0, .ref (E.2.1 + v0)), (1, .int (v1 + (1 : Int32))), (2, .int v2)]) [1, 0, 2] rfl ?_
        exact kbX6_markOpenings_76 hd ih
def fX6_markOpenings (N : Nat) (v0 : Nat) (m0 : qM) : Option (qM) :=
  (lX6_markOpenings_4 N v0 N (0 : Int32) (0 : Int32) m0).bind fun o1 =>
  some o1
set_option maxRecDepth 100000 in
theorem bX6_markOpenings {E : qE} {N d bc bs : Nat} (hd : 0 ≤ d) {v0 : Nat} {m0 : qM} : qB E yX6_markOpenings cX6_markOpenings 3 none (fun _ => True) d bc bs 0 [(0, .ref (E.2.1 + v0))] [] m0 (fX6_markOpenings N v0 m0) (fun b rr => rr = (none, b)) := by
  unfold fX6_markOpenings
  refine j_iconst (np := 1) ci_0 dX6_markOpenings_0 rfl ?_
  refine j_istore_n (np := 2) (lv2 := [(1, .int (0 : Int32)), (0, .ref (E.2.1 + v0))]) rfl (by decide) dX6_markOpenings_1 rfl rfl ?_
  refine j_iconst (np := 3) ci_0 dX6_markOpenings_2 rfl ?_
  refine j_istore_n (np := 4) (lv2 := [(2, .int (0 : Int32)), (1, .int (0 : Int32)), (0, .ref (E.2.1 + v0))]) rfl (by decide) dX6_markOpenings_3 rfl rfl ?_
  refine j_sub (lv2 := [(0, .ref (E.2.1 + v0)), (1, .int (0 : Int32)), (2, .int (0 : Int32))]) [2, 1, 0] rfl ?_
  refine j_loop (xp := 82) (lvX := fun o1 => []) (mX := fun o1 => o1) (lbX6_markOpenings_4 hd _ _ _ _) (fun o1 => ?_)
  exact j_vret rfl dX6_markOpenings_82 (fun rr h => h)
set_option maxRecDepth 100000 in
theorem wX6_markOpenings {E : qE} {N d : Nat} (hd : 0 ≤ d) {v0 : Nat} {m0 : qM} {b : qM} (h : fX6_markOpenings N v0 m0 = some b) : qRun E yX6_markOpenings cX6_markOpenings 3 none d 0 0 [.ref (E.2.1 + v0)] m0 (none, b) := q_met pnX6 (Nat.le_of_ble_eq_true rfl) (bX6_markOpenings hd b _ h rfl)
theorem dX6_writeTo_0 : decode cX6_writeTo 0 = .ok (.aload_n 0, 1) := by decide +kernel
theorem dX6_writeTo_1 : decode cX6_writeTo 1 = .ok (.invokevirtual 114, 3) := by decide +kernel
theorem dX6_writeTo_4 : decode cX6_writeTo 4 = .ok (.iconst 0, 1) := by decide +kernel
theorem dX6_writeTo_5 : decode cX6_writeTo 5 = .ok (.istore_n 2, 1) := by decide +kernel
theorem dX6_writeTo_6 : decode cX6_writeTo 6 = .ok (.iload_n 2, 1) := by decide +kernel
theorem dX6_writeTo_7 : decode cX6_writeTo 7 = .ok (.aload_n 0, 1) := by decide +kernel
theorem dX6_writeTo_8 : decode cX6_writeTo 8 = .ok (.getfield 57, 3) := by decide +kernel
theorem dX6_writeTo_11 : decode cX6_writeTo 11 = .ok (.if_icmp .ge 71, 3) := by decide +kernel
theorem dX6_writeTo_14 : decode cX6_writeTo 14 = .ok (.aload_n 0, 1) := by decide +kernel
theorem dX6_writeTo_15 : decode cX6_writeTo 15 = .ok (.getfield 15, 3) := by decide +kernel
theorem dX6_writeTo_18 : decode cX6_writeTo 18 = .ok (.iload_n 2, 1) := by decide +kernel
theorem dX6_writeTo_19 : decode cX6_writeTo 19 = .ok (.baload, 1) := by decide +kernel
theorem dX6_writeTo_20 : decode cX6_writeTo 20 = .ok (.ifCond .eq 9, 3) := by decide +kernel
theorem dX6_writeTo_23 : decode cX6_writeTo 23 = .ok (.aload_n 1, 1) := by decide +kernel
theorem dX6_writeTo_24 : decode cX6_writeTo 24 = .ok (.bipush 40, 2) := by decide +kernel
theorem dX6_writeTo_26 : decode cX6_writeTo 26 = .ok (.invokevirtual 117, 3) := by decide +kernel
theorem dX6_writeTo_29 : decode cX6_writeTo 29 = .ok (.aload_n 0, 1) := by decide +kernel
theorem dX6_writeTo_30 : decode cX6_writeTo 30 = .ok (.getfield 28, 3) := by decide +kernel
theorem dX6_writeTo_33 : decode cX6_writeTo 33 = .ok (.iload_n 2, 1) := by decide +kernel
theorem dX6_writeTo_34 : decode cX6_writeTo 34 = .ok (.caload, 1) := by decide +kernel
theorem dX6_writeTo_35 : decode cX6_writeTo 35 = .ok (.bipush 64, 2) := by decide +kernel
theorem dX6_writeTo_37 : decode cX6_writeTo 37 = .ok (.if_icmp .eq 16, 3) := by decide +kernel
theorem dX6_writeTo_40 : decode cX6_writeTo 40 = .ok (.aload_n 1, 1) := by decide +kernel
theorem dX6_writeTo_41 : decode cX6_writeTo 41 = .ok (.aload_n 0, 1) := by decide +kernel
theorem dX6_writeTo_42 : decode cX6_writeTo 42 = .ok (.getfield 28, 3) := by decide +kernel
theorem dX6_writeTo_45 : decode cX6_writeTo 45 = .ok (.iload_n 2, 1) := by decide +kernel
theorem dX6_writeTo_46 : decode cX6_writeTo 46 = .ok (.caload, 1) := by decide +kernel
theorem dX6_writeTo_47 : decode cX6_writeTo 47 = .ok (.invokevirtual 117, 3) := by decide +kernel
theorem dX6_writeTo_50 : decode cX6_writeTo 50 = .ok (.goto 26, 3) := by decide +kernel
theorem dX6_writeTo_53 : decode cX6_writeTo 53 = .ok (.iload_n 2, 1) := by decide +kernel
theorem dX6_writeTo_54 : decode cX6_writeTo 54 = .ok (.ifCond .le 22, 3) := by decide +kernel
theorem dX6_writeTo_57 : decode cX6_writeTo 57 = .ok (.aload_n 0, 1) := by decide +kernel
theorem dX6_writeTo_58 : decode cX6_writeTo 58 = .ok (.getfield 28, 3) := by decide +kernel
theorem dX6_writeTo_61 : decode cX6_writeTo 61 = .ok (.iload_n 2, 1) := by decide +kernel
theorem dX6_writeTo_62 : decode cX6_writeTo 62 = .ok (.iconst 1, 1) := by decide +kernel
theorem dX6_writeTo_63 : decode cX6_writeTo 63 = .ok (.isub, 1) := by decide +kernel
theorem dX6_writeTo_64 : decode cX6_writeTo 64 = .ok (.caload, 1) := by decide +kernel
theorem dX6_writeTo_65 : decode cX6_writeTo 65 = .ok (.bipush 64, 2) := by decide +kernel
theorem dX6_writeTo_67 : decode cX6_writeTo 67 = .ok (.if_icmp .ne 9, 3) := by decide +kernel
theorem dX6_writeTo_70 : decode cX6_writeTo 70 = .ok (.aload_n 1, 1) := by decide +kernel
theorem dX6_writeTo_71 : decode cX6_writeTo 71 = .ok (.bipush 41, 2) := by decide +kernel
theorem dX6_writeTo_73 : decode cX6_writeTo 73 = .ok (.invokevirtual 117, 3) := by decide +kernel
theorem dX6_writeTo_76 : decode cX6_writeTo 76 = .ok (.iinc 2 1, 3) := by decide +kernel
theorem dX6_writeTo_79 : decode cX6_writeTo 79 = .ok (.goto (-73), 3) := by decide +kernel
theorem dX6_writeTo_82 : decode cX6_writeTo 82 = .ok (.return_, 1) := by decide +kernel
def kX6_writeTo_76 (N : Nat) (rec : Int32 → qM → Option (qM)) (v0 : Nat) (v1 : Nat) (v2 : Int32)  (m0 : qM) : Option (qM) :=
  rec (v2 + (1 : Int32)) m0
set_option maxRecDepth 100000 in
theorem kbX6_writeTo_76 {E : qE} {N d bc bs : Nat} (hd : 1 ≤ d) {v0 : Nat} {v1 : Nat} {v2 : Int32}  {m0 : qM} {rec : Int32 → qM → Option (qM)} (hrec : ∀ (v2 : Int32) (m : qM), qB E yX6_writeTo cX6_writeTo 3 none (fun _ => True) d bc bs 6 [(0, .ref (E.2.1 + v0)), (1, .ref (E.2.1 + v1)), (2, .int v2)] [] m (rec v2 m) (fun o rr => qJ E yX6_writeTo cX6_writeTo 3 none (fun _ => True) d bc bs 82 [] [] o rr)) : qB E yX6_writeTo cX6_writeTo 3 none (fun _ => True) d bc bs 76 [(0, .ref (E.2.1 + v0)), (1, .ref (E.2.1 + v1)), (2, .int v2)] [] m0 (kX6_writeTo_76 N rec v0 v1 v2 m0) (fun o rr => qJ E yX6_writeTo cX6_writeTo 3 none (fun _ => True) d bc bs 82 [] [] o rr) := by
  unfold kX6_writeTo_76
  refine j_iinc (q := 2) (np := 79) (lv2 := [(2, .int (v2 + (1 : Int32))), (0, .ref (E.2.1 + v0)), (1, .ref (E.2.1 + v1))]) rfl (congrArg _ ci_1) (by decide) dX6_writeTo_76 rfl rfl ?_
  refine j_goto (tgt := 6) dX6_writeTo_79 rfl ?_
  refine j_sub (lv2 := [(0, .ref (E.2.1 + v0)), (1, .ref (E.2.1 + v1)), (2, .int (v2 + (1 : Int32)))]) [1, 2, 0] rfl ?_
  exact hrec _ _
def kX6_writeTo_29 (N : Nat) (rec : Int32 → qM → Option (qM)) (v0 : Nat) (v1 : Nat) (v2 : Int32)  (m0 : qM) : Option (qM) :=
  (qgR m0 v0 6 5).bind fun x1 =>
  (qaI m0 x1 11 v2).bind fun x2 =>
  if x2 = (64 : Int32) then (
  if v2 ≤ 0 then (
  kX6_writeTo_76 N (rec) v0 v1 v2 m0
  ) else (
  (qgR m0 v0 6 5).bind fun x3 =>
  (qaI m0 x3 11 (v2 - (1 : Int32))).bind fun x4 =>
  if x4 = (64 : Int32) then (
  (qChk m0 v1 7 (fX7_add N v1 (41 : Int32) m0)).bind fun b5 =>
  kX6_writeTo_76 N (rec) v0 v1 v2 b5
  ) else (
  kX6_writeTo_76 N (rec) v0 v1 v2 m0
  )
  )
  ) else (
  (qgR m0 v0 6 5).bind fun x6 =>
  (qaI m0 x6 11 v2).bind fun x7 =>
  (qChk m0 v1 7 (fX7_add N v1 x7 m0)).bind fun b8 =>
  kX6_writeTo_76 N (rec) v0 v1 v2 b8
  )
set_option maxRecDepth 100000 in
theorem kbX6_writeTo_29 {E : qE} {N d bc bs : Nat} (hd : 1 ≤ d) {v0 : Nat} {v1 : Nat} {v2 : Int32}  {m0 : qM} {rec : Int32 → qM → Option (qM)} (hrec : ∀ (v2 : Int32) (m : qM), qB E yX6_writeTo cX6_writeTo 3 none (fun _ => True) d bc bs 6 [(0, .ref (E.2.1 + v0)), (1, .ref (E.2.1 + v1)), (2, .int v2)] [] m (rec v2 m) (fun o rr => qJ E yX6_writeTo cX6_writeTo 3 none (fun _ => True) d bc bs 82 [] [] o rr)) : qB E yX6_writeTo cX6_writeTo 3 none (fun _ => True) d bc bs 29 [(0, .ref (E.2.1 + v0)), (1, .ref (E.2.1 + v1)), (2, .int v2)] [] m0 (kX6_writeTo_29 N rec v0 v1 v2 m0) (fun o rr => qJ E yX6_writeTo cX6_writeTo 3 none (fun _ => True) d bc bs 82 [] [] o rr) := by
  unfold kX6_writeTo_29
  refine j_aload_n (q := 0) (np := 30) rfl rfl dX6_writeTo_29 rfl ?_
  refine j_gR (np := 33) flX6_28 dX6_writeTo_30 rfl (fun x1 => ?_)
  refine j_iload_n (q := 2) (np := 34) rfl rfl dX6_writeTo_33 rfl ?_
  refine j_caload (np := 35) dX6_writeTo_34 rfl (fun x2 => ?_)
  refine j_bipush (np := 37) cb_64 dX6_writeTo_35 rfl ?_
  refine j_icmp_eq (tgt := 53) (np := 40) dX6_writeTo_37 rfl rfl ?_ ?_
  · refine j_iload_n (q := 2) (np := 54) rfl rfl dX6_writeTo_53 rfl ?_
    refine j_if_le (tgt := 76) (np := 57) dX6_writeTo_54 rfl rfl ?_ ?_
    · exact kbX6_writeTo_76 hd hrec
    · refine j_aload_n (q := 0) (np := 58) rfl rfl dX6_writeTo_57 rfl ?_
      refine j_gR (np := 61) flX6_28 dX6_writeTo_58 rfl (fun x3 => ?_)
      refine j_iload_n (q := 2) (np := 62) rfl rfl dX6_writeTo_61 rfl ?_
      refine j_iconst (np := 63) ci_1 dX6_writeTo_62 rfl ?_
      refine j_isub (np := 64) dX6_writeTo_63 rfl ?_
      refine j_caload (np := 65) dX6_writeTo_64 rfl (fun x4 => ?_)
      refine j_bipush (np := 67) cb_64 dX6_writeTo_65 rfl ?_
      refine j_icmp_ne (tgt := 76) (np := 70) dX6_writeTo_67 rfl rfl ?_ ?_
      · exact kbX6_writeTo_76 hd hrec
      · refine j_aload_n (q := 1) (np := 71) rfl rfl dX6_writeTo_70 rfl ?_
        refine j_bipush (np := 73) cb_41 dX6_writeTo_71 rfl ?_
        refine j_callVv (ci := 7) (np := 76) (bc := bc) (bs := bs) (cb := 0) (cs := 0) (dd := d - 1) (As := [.int (41 : Int32)]) (st := []) caX7_add mlX6_117 imX7_add seX7_add rfl rfl (by decide) (fun b hb => wX7_add (by omega) hb) (by omega) rfl rfl (Nat.le_of_ble_eq_true rfl) dX6_writeTo_73 rfl (fun b5 => ?_)
        exact kbX6_writeTo_76 hd hrec
  · refine j_aload_n (q := 1) (np := 41) rfl rfl dX6_writeTo_40 rfl ?_
    refine j_aload_n (q := 0) (np := 42) rfl rfl dX6_writeTo_41 rfl ?_
    refine j_gR (np := 45) flX6_28 dX6_writeTo_42 rfl (fun x6 => ?_)
    refine j_iload_n (q := 2) (np := 46) rfl rfl dX6_writeTo_45 rfl ?_
    refine j_caload (np := 47) dX6_writeTo_46 rfl (fun x7 => ?_)
    refine j_callVv (ci := 7) (np := 50) (bc := bc) (bs := bs) (cb := 0) (cs := 0) (dd := d - 1) (As := [.int x7]) (st := []) caX7_add mlX6_117 imX7_add seX7_add rfl rfl (by decide) (fun b hb => wX7_add (by omega) hb) (by omega) rfl rfl (Nat.le_of_ble_eq_true rfl) dX6_writeTo_47 rfl (fun b8 => ?_)
    refine j_goto (tgt := 76) dX6_writeTo_50 rfl ?_
    exact kbX6_writeTo_76 hd hrec
def lX6_writeTo_6 (N : Nat) (v0 : Nat) (v1 : Nat) : Nat → Int32 → qM → Option (qM)
  | 0, _, _ => none
  | n + 1, v2, m0 =>
    (qgI m0 v0 6 7).bind fun x1 =>
    if x1 ≤ v2 then (
    some m0
    ) else (
    (qgR m0 v0 6 1).bind fun x2 =>
    (qaI m0 x2 14 v2).bind fun x3 =>
    if x3 = 0 then (
    kX6_writeTo_29 N (lX6_writeTo_6 N v0 v1 n) v0 v1 v2 m0
    ) else (
    (qChk m0 v1 7 (fX7_add N v1 (40 : Int32) m0)).bind fun b4 =>
    kX6_writeTo_29 N (lX6_writeTo_6 N v0 v1 n) v0 v1 v2 b4
    )
    )
set_option maxRecDepth 100000 in
theorem lbX6_writeTo_6 {E : qE} {N d bc bs : Nat} (hd : 1 ≤ d) {v0 : Nat} {v1 : Nat} : ∀ (n : Nat) (v2 : Int32) (m0 : qM), qB E yX6_writeTo cX6_writeTo 3 none (fun _ => True) d bc bs 6 [(0, .ref (E.2.1 + v0)), (1, .ref (E.2.1 + v1)), (2, .int v2)] [] m0 (lX6_writeTo_6 N v0 v1 n v2 m0) (fun o rr => qJ E yX6_writeTo cX6_writeTo 3 none (fun _ => True) d bc bs 82 [] [] o rr) := by
  intro n
  induction n with
  | zero =>
    intro v2 m0
    exact j_none
  | succ n ih =>
    intro v2 m0
    unfold lX6_writeTo_6
    refine j_iload_n (q := 2) (np := 7) rfl rfl dX6_writeTo_6 rfl ?_
    refine j_aload_n (q := 0) (np := 8) rfl rfl dX6_writeTo_7 rfl ?_
    refine j_gI (np := 11) flX6_57 dX6_writeTo_8 rfl (fun x1 => ?_)
    refine j_icmp_ge (tgt := 82) (np := 14) dX6_writeTo_11 rfl rfl ?_ ?_
    · refine j_sub (lv2 := []) [] rfl ?_
      exact j_exit (fun rr h => h)
    · refine j_aload_n (q := 0) (np := 15) rfl rfl dX6_writeTo_14 rfl ?_
      refine j_gR (np := 18) flX6_15 dX6_writeTo_15 rfl (fun x2 => ?_)
      refine j_iload_n (q := 2) (np := 19) rfl rfl dX6_writeTo_18 rfl ?_
      refine j_baload (np := 20) dX6_writeTo_19 rfl (fun x3 => ?_)
      refine j_if_eq (tgt := 29) (np := 23) dX6_writeTo_20 rfl rfl ?_ ?_
      · exact kbX6_writeTo_29 hd ih
      · refine j_aload_n (q := 1) (np := 24) rfl rfl dX6_writeTo_23 rfl ?_
        refine j_bipush (np := 26) cb_40 dX6_writeTo_24 rfl ?_
        refine j_callVv (ci := 7) (np := 29) (bc := bc) (bs := bs) (cb := 0) (cs := 0) (dd := d - 1) (As := [.int (40 : Int32)]) (st := []) caX7_add mlX6_117 imX7_add seX7_add rfl rfl (by decide) (fun b hb => wX7_add (by omega) hb) (by omega) rfl rfl (Nat.le_of_ble_eq_true rfl) dX6_writeTo_26 rfl (fun b4 => ?_)
        exact kbX6_writeTo_29 hd ih
def fX6_writeTo (N : Nat) (v0 : Nat) (v1 : Nat) (m0 : qM) : Option (qM) :=
  (qChk m0 v0 6 (fX6_markOpenings N v0 m0)).bind fun b1 =>
  (lX6_writeTo_6 N v0 v1 N (0 : Int32) b1).bind fun o2 =>
  some o2
set_option maxRecDepth 100000 in
theorem bX6_writeTo {E : qE} {N d bc bs : Nat} (hd : 1 ≤ d) {v0 : Nat} {v1 : Nat} {m0 : qM} : qB E yX6_writeTo cX6_writeTo 3 none (fun _ => True) d bc bs 0 [(0, .ref (E.2.1 + v0)), (1, .ref (E.2.1 + v1))] [] m0 (fX6_writeTo N v0 v1 m0) (fun b rr => rr = (none, b)) := by
  unfold fX6_writeTo
  refine j_aload_n (q := 0) (np := 1) rfl rfl dX6_writeTo_0 rfl ?_
  refine j_callVv (ci := 6) (np := 4) (bc := bc) (bs := bs) (cb := 0) (cs := 0) (dd := d - 1) (As := []) (st := []) caX6_markOpenings mlX6_114 imX6_markOpenings seX6_markOpenings rfl rfl (by decide) (fun b hb => wX6_markOpenings (by omega) hb) (by omega) rfl rfl (Nat.le_of_ble_eq_true rfl) dX6_writeTo_1 rfl (fun b1 => ?_)
  refine j_iconst (np := 5) ci_0 dX6_writeTo_4 rfl ?_
  refine j_istore_n (np := 6) (lv2 := [(2, .int (0 : Int32)), (0, .ref (E.2.1 + v0)), (1, .ref (E.2.1 + v1))]) rfl (by decide) dX6_writeTo_5 rfl rfl ?_
  refine j_sub (lv2 := [(0, .ref (E.2.1 + v0)), (1, .ref (E.2.1 + v1)), (2, .int (0 : Int32))]) [1, 2, 0] rfl ?_
  refine j_loop (xp := 82) (lvX := fun o2 => []) (mX := fun o2 => o2) (lbX6_writeTo_6 hd _ _ _) (fun o2 => ?_)
  exact j_vret rfl dX6_writeTo_82 (fun rr h => h)
set_option maxRecDepth 100000 in
theorem wX6_writeTo {E : qE} {N d : Nat} (hd : 1 ≤ d) {v0 : Nat} {v1 : Nat} {m0 : qM} {b : qM} (h : fX6_writeTo N v0 v1 m0 = some b) : qRun E yX6_writeTo cX6_writeTo 3 none d 0 0 [.ref (E.2.1 + v0), .ref (E.2.1 + v1)] m0 (none, b) := q_met pnX6 (Nat.le_of_ble_eq_true rfl) (bX6_writeTo hd b _ h rfl)
theorem dX7_makeEmpty_0 : decode cX7_makeEmpty 0 = .ok (.aload_n 0, 1) := by decide +kernel
theorem dX7_makeEmpty_1 : decode cX7_makeEmpty 1 = .ok (.iconst 0, 1) := by decide +kernel
theorem dX7_makeEmpty_2 : decode cX7_makeEmpty 2 = .ok (.putfield 15, 3) := by decide +kernel
theorem dX7_makeEmpty_5 : decode cX7_makeEmpty 5 = .ok (.return_, 1) := by decide +kernel
def fX7_makeEmpty (N : Nat) (v0 : Nat) (m0 : qM) : Option (qM) :=
  (qpI m0 v0 7 1 (0 : Int32)).bind fun m1 =>
  some m1
set_option maxRecDepth 100000 in
theorem bX7_makeEmpty {E : qE} {N d bc bs : Nat} (hd : 0 ≤ d) {v0 : Nat} {m0 : qM} : qB E yX7_makeEmpty cX7_makeEmpty 1 none (fun _ => True) d bc bs 0 [(0, .ref (E.2.1 + v0))] [] m0 (fX7_makeEmpty N v0 m0) (fun b rr => rr = (none, b)) := by
  unfold fX7_makeEmpty
  refine j_aload_n (q := 0) (np := 1) rfl rfl dX7_makeEmpty_0 rfl ?_
  refine j_iconst (np := 2) ci_0 dX7_makeEmpty_1 rfl ?_
  refine j_pI (np := 5) flX7_15 dX7_makeEmpty_2 rfl (fun m1 => ?_)
  exact j_vret rfl dX7_makeEmpty_5 (fun rr h => h)
set_option maxRecDepth 100000 in
theorem wX7_makeEmpty {E : qE} {N d : Nat} (hd : 0 ≤ d) {v0 : Nat} {m0 : qM} {b : qM} (h : fX7_makeEmpty N v0 m0 = some b) : qRun E yX7_makeEmpty cX7_makeEmpty 1 none d 0 0 [.ref (E.2.1 + v0)] m0 (none, b) := q_met pnX7 (Nat.le_of_ble_eq_true rfl) (bX7_makeEmpty hd b _ h rfl)
theorem dX8_unifyInto_0 : decode cX8_unifyInto 0 = .ok (.aload_n 1, 1) := by decide +kernel
theorem dX8_unifyInto_1 : decode cX8_unifyInto 1 = .ok (.invokevirtual 45, 3) := by decide +kernel
theorem dX8_unifyInto_4 : decode cX8_unifyInto 4 = .ok (.istore 4, 2) := by decide +kernel
theorem dX8_unifyInto_6 : decode cX8_unifyInto 6 = .ok (.aload_n 0, 1) := by decide +kernel
theorem dX8_unifyInto_7 : decode cX8_unifyInto 7 = .ok (.aload_n 1, 1) := by decide +kernel
theorem dX8_unifyInto_8 : decode cX8_unifyInto 8 = .ok (.iconst 0, 1) := by decide +kernel
theorem dX8_unifyInto_9 : decode cX8_unifyInto 9 = .ok (.invokevirtual 49, 3) := by decide +kernel
theorem dX8_unifyInto_12 : decode cX8_unifyInto 12 = .ok (.aload_n 0, 1) := by decide +kernel
theorem dX8_unifyInto_13 : decode cX8_unifyInto 13 = .ok (.aload_n 2, 1) := by decide +kernel
theorem dX8_unifyInto_14 : decode cX8_unifyInto 14 = .ok (.iload 4, 2) := by decide +kernel
theorem dX8_unifyInto_16 : decode cX8_unifyInto 16 = .ok (.invokevirtual 49, 3) := by decide +kernel
theorem dX8_unifyInto_19 : decode cX8_unifyInto 19 = .ok (.aload_n 0, 1) := by decide +kernel
theorem dX8_unifyInto_20 : decode cX8_unifyInto 20 = .ok (.iconst 0, 1) := by decide +kernel
theorem dX8_unifyInto_21 : decode cX8_unifyInto 21 = .ok (.iload 4, 2) := by decide +kernel
theorem dX8_unifyInto_23 : decode cX8_unifyInto 23 = .ok (.invokevirtual 53, 3) := by decide +kernel
theorem dX8_unifyInto_26 : decode cX8_unifyInto 26 = .ok (.ifCond .eq 12, 3) := by decide +kernel
theorem dX8_unifyInto_29 : decode cX8_unifyInto 29 = .ok (.aload_n 0, 1) := by decide +kernel
theorem dX8_unifyInto_30 : decode cX8_unifyInto 30 = .ok (.iconst 0, 1) := by decide +kernel
theorem dX8_unifyInto_31 : decode cX8_unifyInto 31 = .ok (.aload_n 3, 1) := by decide +kernel
theorem dX8_unifyInto_32 : decode cX8_unifyInto 32 = .ok (.invokevirtual 57, 3) := by decide +kernel
theorem dX8_unifyInto_35 : decode cX8_unifyInto 35 = .ok (.goto 5, 3) := by decide +kernel
theorem dX8_unifyInto_38 : decode cX8_unifyInto 38 = .ok (.bipush (-4), 2) := by decide +kernel
theorem dX8_unifyInto_40 : decode cX8_unifyInto 40 = .ok (.ireturn, 1) := by decide +kernel
def fX8_unifyInto (N : Nat) (v0 : Nat) (v1 : Nat) (v2 : Nat) (v3 : Nat) (m0 : qM) : Option (Int32 × qM) :=
  (qChk m0 v1 0 (fX0_size N v1 m0)).bind fun b1 =>
  (qChk b1.2 v0 8 (fX8_load N v0 v1 (0 : Int32) b1.2)).bind fun b2 =>
  (qChk b2 v0 8 (fX8_load N v0 v2 b1.1 b2)).bind fun b3 =>
  (qChk b3 v0 8 (fX8_solve N v0 (0 : Int32) b1.1 b3)).bind fun b4 =>
  if b4.1 = 0 then (
  some ((-4 : Int32), b4.2)
  ) else (
  (qChk b4.2 v0 8 (fX8_writeOut N v0 (0 : Int32) v3 b4.2)).bind fun b5 =>
  some (b5.1, b5.2)
  )
set_option maxRecDepth 100000 in
theorem bX8_unifyInto {E : qE} {N d bc bs : Nat} (hd : 4 ≤ d) {v0 : Nat} {v1 : Nat} {v2 : Nat} {v3 : Nat} {m0 : qM} : qB E yX8_unifyInto cX8_unifyInto 5 (some .int) (fun _ => True) d bc bs 0 [(0, .ref (E.2.1 + v0)), (1, .ref (E.2.1 + v1)), (2, .ref (E.2.1 + v2)), (3, .ref (E.2.1 + v3))] [] m0 (fX8_unifyInto N v0 v1 v2 v3 m0) (fun b rr => rr = (some (.int b.1), b.2)) := by
  unfold fX8_unifyInto
  refine j_aload_n (q := 1) (np := 1) rfl rfl dX8_unifyInto_0 rfl ?_
  refine j_callVi (ci := 0) (np := 4) (bc := bc) (bs := bs) (cb := 0) (cs := 0) (dd := d - 1) (As := []) (st := []) caX0_size mlX8_45 imX0_size seX0_size rfl rfl (by decide) (fun b hb => wX0_size (by omega) hb) (by omega) rfl rfl (Nat.le_of_ble_eq_true rfl) dX8_unifyInto_1 rfl (fun b1 => ?_)
  refine j_istore (np := 6) (lv2 := [(4, .int b1.1), (0, .ref (E.2.1 + v0)), (1, .ref (E.2.1 + v1)), (2, .ref (E.2.1 + v2)), (3, .ref (E.2.1 + v3))]) (by decide) dX8_unifyInto_4 rfl rfl ?_
  refine j_aload_n (q := 1) (np := 7) rfl rfl dX8_unifyInto_6 rfl ?_
  refine j_aload_n (q := 2) (np := 8) rfl rfl dX8_unifyInto_7 rfl ?_
  refine j_iconst (np := 9) ci_0 dX8_unifyInto_8 rfl ?_
  refine j_callVv (ci := 8) (np := 12) (bc := bc) (bs := bs) (cb := 0) (cs := 0) (dd := d - 1) (As := [.ref (E.2.1 + v1), .int (0 : Int32)]) (st := []) caX8_load mlX8_49 imX8_load seX8_load rfl rfl (by decide) (fun b hb => wX8_load (by omega) hb) (by omega) rfl rfl (Nat.le_of_ble_eq_true rfl) dX8_unifyInto_9 rfl (fun b2 => ?_)
  refine j_aload_n (q := 1) (np := 13) rfl rfl dX8_unifyInto_12 rfl ?_
  refine j_aload_n (q := 3) (np := 14) rfl rfl dX8_unifyInto_13 rfl ?_
  refine j_iload (q := 0) (np := 16) rfl dX8_unifyInto_14 rfl ?_
  refine j_callVv (ci := 8) (np := 19) (bc := bc) (bs := bs) (cb := 0) (cs := 0) (dd := d - 1) (As := [.ref (E.2.1 + v2), .int b1.1]) (st := []) caX8_load mlX8_49 imX8_load seX8_load rfl rfl (by decide) (fun b hb => wX8_load (by omega) hb) (by omega) rfl rfl (Nat.le_of_ble_eq_true rfl) dX8_unifyInto_16 rfl (fun b3 => ?_)
  refine j_aload_n (q := 1) (np := 20) rfl rfl dX8_unifyInto_19 rfl ?_
  refine j_iconst (np := 21) ci_0 dX8_unifyInto_20 rfl ?_
  refine j_iload (q := 0) (np := 23) rfl dX8_unifyInto_21 rfl ?_
  refine j_callVi (ci := 8) (np := 26) (bc := bc) (bs := bs) (cb := 0) (cs := 0) (dd := d - 1) (As := [.int (0 : Int32), .int b1.1]) (st := []) caX8_solve mlX8_53 imX8_solve seX8_solve rfl rfl (by decide) (fun b hb => wX8_solve (by omega) hb) (by omega) rfl rfl (Nat.le_of_ble_eq_true rfl) dX8_unifyInto_23 rfl (fun b4 => ?_)
  refine j_if_eq (tgt := 38) (np := 29) dX8_unifyInto_26 rfl rfl ?_ ?_
  · refine j_bipush (np := 40) cb_m4 dX8_unifyInto_38 rfl ?_
    exact j_iret rfl dX8_unifyInto_40 (fun rr h => h)
  · refine j_aload_n (q := 1) (np := 30) rfl rfl dX8_unifyInto_29 rfl ?_
    refine j_iconst (np := 31) ci_0 dX8_unifyInto_30 rfl ?_
    refine j_aload_n (q := 4) (np := 32) rfl rfl dX8_unifyInto_31 rfl ?_
    refine j_callVi (ci := 8) (np := 35) (bc := bc) (bs := bs) (cb := 0) (cs := 0) (dd := d - 1) (As := [.int (0 : Int32), .ref (E.2.1 + v3)]) (st := []) caX8_writeOut mlX8_57 imX8_writeOut seX8_writeOut rfl rfl (by decide) (fun b hb => wX8_writeOut (by omega) hb) (by omega) rfl rfl (Nat.le_of_ble_eq_true rfl) dX8_unifyInto_32 rfl (fun b5 => ?_)
    refine j_goto (tgt := 40) dX8_unifyInto_35 rfl ?_
    exact j_iret rfl dX8_unifyInto_40 (fun rr h => h)
set_option maxRecDepth 100000 in
theorem wX8_unifyInto {E : qE} {N d : Nat} (hd : 4 ≤ d) {v0 : Nat} {v1 : Nat} {v2 : Nat} {v3 : Nat} {m0 : qM} {b : Int32 × qM} (h : fX8_unifyInto N v0 v1 v2 v3 m0 = some b) : qRun E yX8_unifyInto cX8_unifyInto 5 (some .int) d 0 0 [.ref (E.2.1 + v0), .ref (E.2.1 + v1), .ref (E.2.1 + v2), .ref (E.2.1 + v3)] m0 (some (.int b.1), b.2) := q_met pnX8 (Nat.le_of_ble_eq_true rfl) (bX8_unifyInto hd b _ h rfl)
theorem dX9_append_0 : decode cX9_append 0 = .ok (.iload_n 1, 1) := by decide +kernel
theorem dX9_append_1 : decode cX9_append 1 = .ok (.bipush 33, 2) := by decide +kernel
theorem dX9_append_3 : decode cX9_append 3 = .ok (.if_icmp .lt 9, 3) := by decide +kernel
theorem dX9_append_6 : decode cX9_append 6 = .ok (.iload_n 1, 1) := by decide +kernel
theorem dX9_append_7 : decode cX9_append 7 = .ok (.bipush 126, 2) := by decide +kernel
theorem dX9_append_9 : decode cX9_append 9 = .ok (.if_icmp .le 6, 3) := by decide +kernel
theorem dX9_append_12 : decode cX9_append 12 = .ok (.bipush (-2), 2) := by decide +kernel
theorem dX9_append_14 : decode cX9_append 14 = .ok (.ireturn, 1) := by decide +kernel
theorem dX9_append_15 : decode cX9_append 15 = .ok (.aload_n 0, 1) := by decide +kernel
theorem dX9_append_16 : decode cX9_append 16 = .ok (.getfield 12, 3) := by decide +kernel
theorem dX9_append_19 : decode cX9_append 19 = .ok (.invokevirtual 88, 3) := by decide +kernel
theorem dX9_append_22 : decode cX9_append 22 = .ok (.bipush 80, 2) := by decide +kernel
theorem dX9_append_24 : decode cX9_append 24 = .ok (.if_icmp .lt 6, 3) := by decide +kernel
theorem dX9_append_27 : decode cX9_append 27 = .ok (.bipush (-3), 2) := by decide +kernel
theorem dX9_append_29 : decode cX9_append 29 = .ok (.ireturn, 1) := by decide +kernel
theorem dX9_append_30 : decode cX9_append 30 = .ok (.aload_n 0, 1) := by decide +kernel
theorem dX9_append_31 : decode cX9_append 31 = .ok (.getfield 12, 3) := by decide +kernel
theorem dX9_append_34 : decode cX9_append 34 = .ok (.iload_n 1, 1) := by decide +kernel
theorem dX9_append_35 : decode cX9_append 35 = .ok (.i2c, 1) := by decide +kernel
theorem dX9_append_36 : decode cX9_append 36 = .ok (.invokevirtual 92, 3) := by decide +kernel
theorem dX9_append_39 : decode cX9_append 39 = .ok (.aload_n 0, 1) := by decide +kernel
theorem dX9_append_40 : decode cX9_append 40 = .ok (.getfield 12, 3) := by decide +kernel
theorem dX9_append_43 : decode cX9_append 43 = .ok (.invokevirtual 88, 3) := by decide +kernel
theorem dX9_append_46 : decode cX9_append 46 = .ok (.ireturn, 1) := by decide +kernel
def fX9_append (N : Nat) (v0 : Nat) (v1 : Int32) (m0 : qM) : Option (Int32 × qM) :=
  if v1 < (33 : Int32) then (
  some ((-2 : Int32), m0)
  ) else (
  if v1 ≤ (126 : Int32) then (
  (qgR m0 v0 9 0).bind fun x1 =>
  (qChk m0 x1 7 (fX7_length N x1 m0)).bind fun b2 =>
  if b2.1 < (80 : Int32) then (
  (qgR b2.2 v0 9 0).bind fun x3 =>
  (qChk b2.2 x3 7 (fX7_add N x3 ((v1.toUInt32 % 65536).toInt32) b2.2)).bind fun b4 =>
  (qgR b4 v0 9 0).bind fun x5 =>
  (qChk b4 x5 7 (fX7_length N x5 b4)).bind fun b6 =>
  some (b6.1, b6.2)
  ) else (
  some ((-3 : Int32), b2.2)
  )
  ) else (
  some ((-2 : Int32), m0)
  )
  )
set_option maxRecDepth 100000 in
theorem bX9_append {E : qE} {N d bc bs : Nat} (hd : 1 ≤ d) {v0 : Nat} {v1 : Int32} {m0 : qM} : qB E yX9_append cX9_append 2 (some .int) (fun _ => True) d bc bs 0 [(0, .ref (E.2.1 + v0)), (1, .int v1)] [] m0 (fX9_append N v0 v1 m0) (fun b rr => rr = (some (.int b.1), b.2)) := by
  unfold fX9_append
  refine j_iload_n (q := 1) (np := 1) rfl rfl dX9_append_0 rfl ?_
  refine j_bipush (np := 3) cb_33 dX9_append_1 rfl ?_
  refine j_icmp_lt (tgt := 12) (np := 6) dX9_append_3 rfl rfl ?_ ?_
  · refine j_bipush (np := 14) cb_m2 dX9_append_12 rfl ?_
    exact j_iret rfl dX9_append_14 (fun rr h => h)
  · refine j_iload_n (q := 1) (np := 7) rfl rfl dX9_append_6 rfl ?_
    refine j_bipush (np := 9) cb_126 dX9_append_7 rfl ?_
    refine j_icmp_le (tgt := 15) (np := 12) dX9_append_9 rfl rfl ?_ ?_
    · refine j_aload_n (q := 0) (np := 16) rfl rfl dX9_append_15 rfl ?_
      refine j_gR (np := 19) flX9_12 dX9_append_16 rfl (fun x1 => ?_)
      refine j_callVi (ci := 7) (np := 22) (bc := bc) (bs := bs) (cb := 0) (cs := 0) (dd := d - 1) (As := []) (st := []) caX7_length mlX9_88 imX7_length seX7_length rfl rfl (by decide) (fun b hb => wX7_length (by omega) hb) (by omega) rfl rfl (Nat.le_of_ble_eq_true rfl) dX9_append_19 rfl (fun b2 => ?_)
      refine j_bipush (np := 24) cb_80 dX9_append_22 rfl ?_
      refine j_icmp_lt (tgt := 30) (np := 27) dX9_append_24 rfl rfl ?_ ?_
      · refine j_aload_n (q := 0) (np := 31) rfl rfl dX9_append_30 rfl ?_
        refine j_gR (np := 34) flX9_12 dX9_append_31 rfl (fun x3 => ?_)
        refine j_iload_n (q := 1) (np := 35) rfl rfl dX9_append_34 rfl ?_
        refine j_i2c (np := 36) dX9_append_35 rfl ?_
        refine j_callVv (ci := 7) (np := 39) (bc := bc) (bs := bs) (cb := 0) (cs := 0) (dd := d - 1) (As := [.int ((v1.toUInt32 % 65536).toInt32)]) (st := []) caX7_add mlX9_92 imX7_add seX7_add rfl rfl (by decide) (fun b hb => wX7_add (by omega) hb) (by omega) rfl rfl (Nat.le_of_ble_eq_true rfl) dX9_append_36 rfl (fun b4 => ?_)
        refine j_aload_n (q := 0) (np := 40) rfl rfl dX9_append_39 rfl ?_
        refine j_gR (np := 43) flX9_12 dX9_append_40 rfl (fun x5 => ?_)
        refine j_callVi (ci := 7) (np := 46) (bc := bc) (bs := bs) (cb := 0) (cs := 0) (dd := d - 1) (As := []) (st := []) caX7_length mlX9_88 imX7_length seX7_length rfl rfl (by decide) (fun b hb => wX7_length (by omega) hb) (by omega) rfl rfl (Nat.le_of_ble_eq_true rfl) dX9_append_43 rfl (fun b6 => ?_)
        exact j_iret rfl dX9_append_46 (fun rr h => h)
      · refine j_bipush (np := 29) cb_m3 dX9_append_27 rfl ?_
        exact j_iret rfl dX9_append_29 (fun rr h => h)
    · refine j_bipush (np := 14) cb_m2 dX9_append_12 rfl ?_
      exact j_iret rfl dX9_append_14 (fun rr h => h)
set_option maxRecDepth 100000 in
theorem wX9_append {E : qE} {N d : Nat} (hd : 1 ≤ d) {v0 : Nat} {v1 : Int32} {m0 : qM} {b : Int32 × qM} (h : fX9_append N v0 v1 m0 = some b) : qRun E yX9_append cX9_append 2 (some .int) d 0 0 [.ref (E.2.1 + v0), .int v1] m0 (some (.int b.1), b.2) := q_met pnX9 (Nat.le_of_ble_eq_true rfl) (bX9_append hd b _ h rfl)
theorem dX9_clearText_0 : decode cX9_clearText 0 = .ok (.aload_n 0, 1) := by decide +kernel
theorem dX9_clearText_1 : decode cX9_clearText 1 = .ok (.getfield 12, 3) := by decide +kernel
theorem dX9_clearText_4 : decode cX9_clearText 4 = .ok (.invokevirtual 88, 3) := by decide +kernel
theorem dX9_clearText_7 : decode cX9_clearText 7 = .ok (.istore_n 1, 1) := by decide +kernel
theorem dX9_clearText_8 : decode cX9_clearText 8 = .ok (.aload_n 0, 1) := by decide +kernel
theorem dX9_clearText_9 : decode cX9_clearText 9 = .ok (.getfield 12, 3) := by decide +kernel
theorem dX9_clearText_12 : decode cX9_clearText 12 = .ok (.invokevirtual 96, 3) := by decide +kernel
theorem dX9_clearText_15 : decode cX9_clearText 15 = .ok (.iload_n 1, 1) := by decide +kernel
theorem dX9_clearText_16 : decode cX9_clearText 16 = .ok (.ireturn, 1) := by decide +kernel
def fX9_clearText (N : Nat) (v0 : Nat) (m0 : qM) : Option (Int32 × qM) :=
  (qgR m0 v0 9 0).bind fun x1 =>
  (qChk m0 x1 7 (fX7_length N x1 m0)).bind fun b2 =>
  (qgR b2.2 v0 9 0).bind fun x3 =>
  (qChk b2.2 x3 7 (fX7_makeEmpty N x3 b2.2)).bind fun b4 =>
  some (b2.1, b4)
set_option maxRecDepth 100000 in
theorem bX9_clearText {E : qE} {N d bc bs : Nat} (hd : 1 ≤ d) {v0 : Nat} {m0 : qM} : qB E yX9_clearText cX9_clearText 2 (some .int) (fun _ => True) d bc bs 0 [(0, .ref (E.2.1 + v0))] [] m0 (fX9_clearText N v0 m0) (fun b rr => rr = (some (.int b.1), b.2)) := by
  unfold fX9_clearText
  refine j_aload_n (q := 0) (np := 1) rfl rfl dX9_clearText_0 rfl ?_
  refine j_gR (np := 4) flX9_12 dX9_clearText_1 rfl (fun x1 => ?_)
  refine j_callVi (ci := 7) (np := 7) (bc := bc) (bs := bs) (cb := 0) (cs := 0) (dd := d - 1) (As := []) (st := []) caX7_length mlX9_88 imX7_length seX7_length rfl rfl (by decide) (fun b hb => wX7_length (by omega) hb) (by omega) rfl rfl (Nat.le_of_ble_eq_true rfl) dX9_clearText_4 rfl (fun b2 => ?_)
  refine j_istore_n (np := 8) (lv2 := [(1, .int b2.1), (0, .ref (E.2.1 + v0))]) rfl (by decide) dX9_clearText_7 rfl rfl ?_
  refine j_aload_n (q := 1) (np := 9) rfl rfl dX9_clearText_8 rfl ?_
  refine j_gR (np := 12) flX9_12 dX9_clearText_9 rfl (fun x3 => ?_)
  refine j_callVv (ci := 7) (np := 15) (bc := bc) (bs := bs) (cb := 0) (cs := 0) (dd := d - 1) (As := []) (st := []) caX7_makeEmpty mlX9_96 imX7_makeEmpty seX7_makeEmpty rfl rfl (by decide) (fun b hb => wX7_makeEmpty (by omega) hb) (by omega) rfl rfl (Nat.le_of_ble_eq_true rfl) dX9_clearText_12 rfl (fun b4 => ?_)
  refine j_iload_n (q := 0) (np := 16) rfl rfl dX9_clearText_15 rfl ?_
  exact j_iret rfl dX9_clearText_16 (fun rr h => h)
set_option maxRecDepth 100000 in
theorem wX9_clearText {E : qE} {N d : Nat} (hd : 1 ≤ d) {v0 : Nat} {m0 : qM} {b : Int32 × qM} (h : fX9_clearText N v0 m0 = some b) : qRun E yX9_clearText cX9_clearText 2 (some .int) d 0 0 [.ref (E.2.1 + v0)] m0 (some (.int b.1), b.2) := q_met pnX9 (Nat.le_of_ble_eq_true rfl) (bX9_clearText hd b _ h rfl)
theorem dX9_enterText_0 : decode cX9_enterText 0 = .ok (.aload_n 0, 1) := by decide +kernel
theorem dX9_enterText_1 : decode cX9_enterText 1 = .ok (.getfield 77, 3) := by decide +kernel
theorem dX9_enterText_4 : decode cX9_enterText 4 = .ok (.invokevirtual 261, 3) := by decide +kernel
theorem dX9_enterText_7 : decode cX9_enterText 7 = .ok (.iconst 0, 1) := by decide +kernel
theorem dX9_enterText_8 : decode cX9_enterText 8 = .ok (.istore_n 1, 1) := by decide +kernel
theorem dX9_enterText_9 : decode cX9_enterText 9 = .ok (.iload_n 1, 1) := by decide +kernel
theorem dX9_enterText_10 : decode cX9_enterText 10 = .ok (.aload_n 0, 1) := by decide +kernel
theorem dX9_enterText_11 : decode cX9_enterText 11 = .ok (.getfield 12, 3) := by decide +kernel
theorem dX9_enterText_14 : decode cX9_enterText 14 = .ok (.invokevirtual 88, 3) := by decide +kernel
theorem dX9_enterText_17 : decode cX9_enterText 17 = .ok (.if_icmp .ge 34, 3) := by decide +kernel
theorem dX9_enterText_20 : decode cX9_enterText 20 = .ok (.aload_n 0, 1) := by decide +kernel
theorem dX9_enterText_21 : decode cX9_enterText 21 = .ok (.getfield 77, 3) := by decide +kernel
theorem dX9_enterText_24 : decode cX9_enterText 24 = .ok (.aload_n 0, 1) := by decide +kernel
theorem dX9_enterText_25 : decode cX9_enterText 25 = .ok (.getfield 12, 3) := by decide +kernel
theorem dX9_enterText_28 : decode cX9_enterText 28 = .ok (.iload_n 1, 1) := by decide +kernel
theorem dX9_enterText_29 : decode cX9_enterText 29 = .ok (.invokevirtual 167, 3) := by decide +kernel
theorem dX9_enterText_32 : decode cX9_enterText 32 = .ok (.aload_n 0, 1) := by decide +kernel
theorem dX9_enterText_33 : decode cX9_enterText 33 = .ok (.getfield 81, 3) := by decide +kernel
theorem dX9_enterText_36 : decode cX9_enterText 36 = .ok (.invokevirtual 262, 3) := by decide +kernel
theorem dX9_enterText_39 : decode cX9_enterText 39 = .ok (.ifCond .ne 6, 3) := by decide +kernel
theorem dX9_enterText_42 : decode cX9_enterText 42 = .ok (.bipush (-5), 2) := by decide +kernel
theorem dX9_enterText_44 : decode cX9_enterText 44 = .ok (.ireturn, 1) := by decide +kernel
theorem dX9_enterText_45 : decode cX9_enterText 45 = .ok (.iinc 1 1, 3) := by decide +kernel
theorem dX9_enterText_48 : decode cX9_enterText 48 = .ok (.goto (-39), 3) := by decide +kernel
theorem dX9_enterText_51 : decode cX9_enterText 51 = .ok (.aload_n 0, 1) := by decide +kernel
theorem dX9_enterText_52 : decode cX9_enterText 52 = .ok (.getfield 22, 3) := by decide +kernel
theorem dX9_enterText_55 : decode cX9_enterText 55 = .ok (.aload_n 0, 1) := by decide +kernel
theorem dX9_enterText_56 : decode cX9_enterText 56 = .ok (.getfield 77, 3) := by decide +kernel
theorem dX9_enterText_59 : decode cX9_enterText 59 = .ok (.bipush (-4), 2) := by decide +kernel
theorem dX9_enterText_61 : decode cX9_enterText 61 = .ok (.bipush (-4), 2) := by decide +kernel
theorem dX9_enterText_63 : decode cX9_enterText 63 = .ok (.invokevirtual 266, 3) := by decide +kernel
theorem dX9_enterText_66 : decode cX9_enterText 66 = .ok (.ireturn, 1) := by decide +kernel
def lX9_enterText_9 (N : Nat) (v0 : Nat) : Nat → Int32 → qM → Option ((qM) ⊕ (Int32 × qM))
  | 0, _, _ => none
  | n + 1, v1, m0 =>
    (qgR m0 v0 9 0).bind fun x1 =>
    (qChk m0 x1 7 (fX7_length N x1 m0)).bind fun b2 =>
    if b2.1 ≤ v1 then (
    some (.inl b2.2)
    ) else (
    (qgR b2.2 v0 9 10).bind fun x3 =>
    (qgR b2.2 v0 9 0).bind fun x4 =>
    (qChk b2.2 x4 7 (fX7_at N x4 v1 b2.2)).bind fun b5 =>
    (qgR b5.2 v0 9 11).bind fun x6 =>
    (qChk b5.2 x3 0 (fX0_addLetter N x3 b5.1 x6 b5.2)).bind fun b7 =>
    if b7.1 = 0 then (
    some (.inr ((-5 : Int32), b7.2))
    ) else (
    lX9_enterText_9 N v0 n (v1 + (1 : Int32)) b7.2
    )
    )
set_option maxRecDepth 100000 in
theorem lbX9_enterText_9 {E : qE} {N d bc bs : Nat} (hd : 3 ≤ d) {v0 : Nat} : ∀ (n : Nat) (v1 : Int32) (m0 : qM), qB E yX9_enterText cX9_enterText 2 (some .int) (fun _ => True) d bc bs 9 [(0, .ref (E.2.1 + v0)), (1, .int v1)] [] m0 (lX9_enterText_9 N v0 n v1 m0) (qGL (fun o rr => qJ E yX9_enterText cX9_enterText 2 (some .int) (fun _ => True) d bc bs 51 [(0, .ref (E.2.1 + v0))] [] o rr) (fun r => (some (.int r.1), r.2))) := by
  intro n
  induction n with
  | zero =>
    intro v1 m0
    exact j_none
  | succ n ih =>
    intro v1 m0
    unfold lX9_enterText_9
    refine j_iload_n (q := 1) (np := 10) rfl rfl dX9_enterText_9 rfl ?_
    refine j_aload_n (q := 0) (np := 11) rfl rfl dX9_enterText_10 rfl ?_
    refine j_gR (np := 14) flX9_12 dX9_enterText_11 rfl (fun x1 => ?_)
    refine j_callVi (ci := 7) (np := 17) (bc := bc) (bs := bs) (cb := 0) (cs := 0) (dd := d - 1) (As := []) (st := [.int v1]) caX7_length mlX9_88 imX7_length seX7_length rfl rfl (by decide) (fun b hb => wX7_length (by omega) hb) (by omega) rfl rfl (Nat.le_of_ble_eq_true rfl) dX9_enterText_14 rfl (fun b2 => ?_)
    refine j_icmp_ge (tgt := 51) (np := 20) dX9_enterText_17 rfl rfl ?_ ?_
    · refine j_sub (lv2 := [(0, .ref (E.2.1 + v0))]) [0] rfl ?_
      exact j_exit (fun rr h => h)
    · refine j_aload_n (q := 0) (np := 21) rfl rfl dX9_enterText_20 rfl ?_
      refine j_gR (np := 24) flX9_77 dX9_enterText_21 rfl (fun x3 => ?_)
      refine j_aload_n (q := 0) (np := 25) rfl rfl dX9_enterText_24 rfl ?_
      refine j_gR (np := 28) flX9_12 dX9_enterText_25 rfl (fun x4 => ?_)
      refine j_iload_n (q := 1) (np := 29) rfl rfl dX9_enterText_28 rfl ?_
      refine j_callVi (ci := 7) (np := 32) (bc := bc) (bs := bs) (cb := 0) (cs := 0) (dd := d - 1) (As := [.int v1]) (st := [.ref (E.2.1 + x3)]) caX7_at mlX9_167 imX7_at seX7_at rfl rfl (by decide) (fun b hb => wX7_at (by omega) hb) (by omega) rfl rfl (Nat.le_of_ble_eq_true rfl) dX9_enterText_29 rfl (fun b5 => ?_)
      refine j_aload_n (q := 0) (np := 33) rfl rfl dX9_enterText_32 rfl ?_
      refine j_gR (np := 36) flX9_81 dX9_enterText_33 rfl (fun x6 => ?_)
      refine j_callVi (ci := 0) (np := 39) (bc := bc) (bs := bs) (cb := 0) (cs := 0) (dd := d - 1) (As := [.int b5.1, .ref (E.2.1 + x6)]) (st := []) caX0_addLetter mlX9_262 imX0_addLetter seX0_addLetter rfl rfl (by decide) (fun b hb => wX0_addLetter (by omega) hb) (by omega) rfl rfl (Nat.le_of_ble_eq_true rfl) dX9_enterText_36 rfl (fun b7 => ?_)
      refine j_if_ne (tgt := 45) (np := 42) dX9_enterText_39 rfl rfl ?_ ?_
      · refine j_iinc (q := 1) (np := 48) (lv2 := [(1, .int (v1 + (1 : Int32))), (0, .ref (E.2.1 + v0))]) rfl (congrArg _ ci_1) (by decide) dX9_enterText_45 rfl rfl ?_
        refine j_goto (tgt := 9) dX9_enterText_48 rfl ?_
        refine j_sub (lv2 := [(0, .ref (E.2.1 + v0)), (1, .int (v1 + (1 : Int32)))]) [1, 0] rfl ?_
        exact ih _ _
      · refine j_bipush (np := 44) cb_m5 dX9_enterText_42 rfl ?_
        exact j_iret rfl dX9_enterText_44 (fun rr h => h)
def fX9_enterText (N : Nat) (v0 : Nat) (m0 : qM) : Option (Int32 × qM) :=
  (qgR m0 v0 9 10).bind fun x1 =>
  (qChk m0 x1 0 (fX0_makeEmpty N x1 m0)).bind fun b2 =>
  qTh (lX9_enterText_9 N v0 N (0 : Int32) b2) (fun o3 =>
  (qgR o3 v0 9 2).bind fun x4 =>
  (qgR o3 v0 9 10).bind fun x5 =>
  (qChk o3 x4 1 (fX1_enter N x4 x5 (-4 : Int32) (-4 : Int32) o3)).bind fun b6 =>
  some (b6.1, b6.2)
  ) (fun r => r)
set_option maxRecDepth 100000 in
theorem bX9_enterText {E : qE} {N d bc bs : Nat} (hd : 3 ≤ d) {v0 : Nat} {m0 : qM} : qB E yX9_enterText cX9_enterText 2 (some .int) (fun _ => True) d bc bs 0 [(0, .ref (E.2.1 + v0))] [] m0 (fX9_enterText N v0 m0) (fun b rr => rr = (some (.int b.1), b.2)) := by
  unfold fX9_enterText
  refine j_aload_n (q := 0) (np := 1) rfl rfl dX9_enterText_0 rfl ?_
  refine j_gR (np := 4) flX9_77 dX9_enterText_1 rfl (fun x1 => ?_)
  refine j_callVv (ci := 0) (np := 7) (bc := bc) (bs := bs) (cb := 0) (cs := 0) (dd := d - 1) (As := []) (st := []) caX0_makeEmpty mlX9_261 imX0_makeEmpty seX0_makeEmpty rfl rfl (by decide) (fun b hb => wX0_makeEmpty (by omega) hb) (by omega) rfl rfl (Nat.le_of_ble_eq_true rfl) dX9_enterText_4 rfl (fun b2 => ?_)
  refine j_iconst (np := 8) ci_0 dX9_enterText_7 rfl ?_
  refine j_istore_n (np := 9) (lv2 := [(1, .int (0 : Int32)), (0, .ref (E.2.1 + v0))]) rfl (by decide) dX9_enterText_8 rfl rfl ?_
  refine j_sub (lv2 := [(0, .ref (E.2.1 + v0)), (1, .int (0 : Int32))]) [1, 0] rfl ?_
  refine j_loopG (xp := 51) (lvX := fun o3 => [(0, .ref (E.2.1 + v0))]) (mX := fun o3 => o3) (lbX9_enterText_9 hd _ _ _) (fun r rr h => h) (fun o3 => ?_)
  refine j_aload_n (q := 0) (np := 52) rfl rfl dX9_enterText_51 rfl ?_
  refine j_gR (np := 55) flX9_22 dX9_enterText_52 rfl (fun x4 => ?_)
  refine j_aload_n (q := 0) (np := 56) rfl rfl dX9_enterText_55 rfl ?_
  refine j_gR (np := 59) flX9_77 dX9_enterText_56 rfl (fun x5 => ?_)
  refine j_bipush (np := 61) cb_m4 dX9_enterText_59 rfl ?_
  refine j_bipush (np := 63) cb_m4 dX9_enterText_61 rfl ?_
  refine j_callVi (ci := 1) (np := 66) (bc := bc) (bs := bs) (cb := 0) (cs := 0) (dd := d - 1) (As := [.ref (E.2.1 + x5), .int (-4 : Int32), .int (-4 : Int32)]) (st := []) caX1_enter mlX9_266 imX1_enter seX1_enter rfl rfl (by decide) (fun b hb => wX1_enter (by omega) hb) (by omega) rfl rfl (Nat.le_of_ble_eq_true rfl) dX9_enterText_63 rfl (fun b6 => ?_)
  exact j_iret rfl dX9_enterText_66 (fun rr h => h)
set_option maxRecDepth 100000 in
theorem wX9_enterText {E : qE} {N d : Nat} (hd : 3 ≤ d) {v0 : Nat} {m0 : qM} {b : Int32 × qM} (h : fX9_enterText N v0 m0 = some b) : qRun E yX9_enterText cX9_enterText 2 (some .int) d 0 0 [.ref (E.2.1 + v0)] m0 (some (.int b.1), b.2) := q_met pnX9 (Nat.le_of_ble_eq_true rfl) (bX9_enterText hd b _ h rfl)
theorem dX9_polishError_0 : decode cX9_polishError 0 = .ok (.iconst 1, 1) := by decide +kernel
theorem dX9_polishError_1 : decode cX9_polishError 1 = .ok (.istore 4, 2) := by decide +kernel
theorem dX9_polishError_3 : decode cX9_polishError 3 = .ok (.iconst 0, 1) := by decide +kernel
theorem dX9_polishError_4 : decode cX9_polishError 4 = .ok (.istore 5, 2) := by decide +kernel
theorem dX9_polishError_6 : decode cX9_polishError 6 = .ok (.iload 5, 2) := by decide +kernel
theorem dX9_polishError_8 : decode cX9_polishError 8 = .ok (.aload_n 0, 1) := by decide +kernel
theorem dX9_polishError_9 : decode cX9_polishError 9 = .ok (.getfield 12, 3) := by decide +kernel
theorem dX9_polishError_12 : decode cX9_polishError 12 = .ok (.invokevirtual 88, 3) := by decide +kernel
theorem dX9_polishError_15 : decode cX9_polishError 15 = .ok (.if_icmp .ge 73, 3) := by decide +kernel
theorem dX9_polishError_18 : decode cX9_polishError 18 = .ok (.aload_n 0, 1) := by decide +kernel
theorem dX9_polishError_19 : decode cX9_polishError 19 = .ok (.getfield 12, 3) := by decide +kernel
theorem dX9_polishError_22 : decode cX9_polishError 22 = .ok (.iload 5, 2) := by decide +kernel
theorem dX9_polishError_24 : decode cX9_polishError 24 = .ok (.invokevirtual 167, 3) := by decide +kernel
theorem dX9_polishError_27 : decode cX9_polishError 27 = .ok (.istore 6, 2) := by decide +kernel
theorem dX9_polishError_29 : decode cX9_polishError 29 = .ok (.iload 6, 2) := by decide +kernel
theorem dX9_polishError_31 : decode cX9_polishError 31 = .ok (.iload_n 2, 1) := by decide +kernel
theorem dX9_polishError_32 : decode cX9_polishError 32 = .ok (.if_icmp .lt 13, 3) := by decide +kernel
theorem dX9_polishError_35 : decode cX9_polishError 35 = .ok (.iload 6, 2) := by decide +kernel
theorem dX9_polishError_37 : decode cX9_polishError 37 = .ok (.iload_n 3, 1) := by decide +kernel
theorem dX9_polishError_38 : decode cX9_polishError 38 = .ok (.if_icmp .gt 7, 3) := by decide +kernel
theorem dX9_polishError_41 : decode cX9_polishError 41 = .ok (.iconst 1, 1) := by decide +kernel
theorem dX9_polishError_42 : decode cX9_polishError 42 = .ok (.goto 4, 3) := by decide +kernel
theorem dX9_polishError_45 : decode cX9_polishError 45 = .ok (.iconst 0, 1) := by decide +kernel
theorem dX9_polishError_46 : decode cX9_polishError 46 = .ok (.istore 7, 2) := by decide +kernel
theorem dX9_polishError_48 : decode cX9_polishError 48 = .ok (.iload 4, 2) := by decide +kernel
theorem dX9_polishError_50 : decode cX9_polishError 50 = .ok (.ifCond .eq 14, 3) := by decide +kernel
theorem dX9_polishError_53 : decode cX9_polishError 53 = .ok (.iload 7, 2) := by decide +kernel
theorem dX9_polishError_55 : decode cX9_polishError 55 = .ok (.ifCond .ne 12, 3) := by decide +kernel
theorem dX9_polishError_58 : decode cX9_polishError 58 = .ok (.iload 6, 2) := by decide +kernel
theorem dX9_polishError_60 : decode cX9_polishError 60 = .ok (.iload_n 1, 1) := by decide +kernel
theorem dX9_polishError_61 : decode cX9_polishError 61 = .ok (.if_icmp .eq 6, 3) := by decide +kernel
theorem dX9_polishError_64 : decode cX9_polishError 64 = .ok (.iload 5, 2) := by decide +kernel
theorem dX9_polishError_66 : decode cX9_polishError 66 = .ok (.ireturn, 1) := by decide +kernel
theorem dX9_polishError_67 : decode cX9_polishError 67 = .ok (.iload 4, 2) := by decide +kernel
theorem dX9_polishError_69 : decode cX9_polishError 69 = .ok (.iload 7, 2) := by decide +kernel
theorem dX9_polishError_71 : decode cX9_polishError 71 = .ok (.ifCond .eq 7, 3) := by decide +kernel
theorem dX9_polishError_74 : decode cX9_polishError 74 = .ok (.iconst (-1), 1) := by decide +kernel
theorem dX9_polishError_75 : decode cX9_polishError 75 = .ok (.goto 4, 3) := by decide +kernel
theorem dX9_polishError_78 : decode cX9_polishError 78 = .ok (.iconst 1, 1) := by decide +kernel
theorem dX9_polishError_79 : decode cX9_polishError 79 = .ok (.iadd, 1) := by decide +kernel
theorem dX9_polishError_80 : decode cX9_polishError 80 = .ok (.istore 4, 2) := by decide +kernel
theorem dX9_polishError_82 : decode cX9_polishError 82 = .ok (.iinc 5 1, 3) := by decide +kernel
theorem dX9_polishError_85 : decode cX9_polishError 85 = .ok (.goto (-79), 3) := by decide +kernel
theorem dX9_polishError_88 : decode cX9_polishError 88 = .ok (.iload 4, 2) := by decide +kernel
theorem dX9_polishError_90 : decode cX9_polishError 90 = .ok (.ifCond .ne 7, 3) := by decide +kernel
theorem dX9_polishError_93 : decode cX9_polishError 93 = .ok (.iconst (-1), 1) := by decide +kernel
theorem dX9_polishError_94 : decode cX9_polishError 94 = .ok (.goto 10, 3) := by decide +kernel
theorem dX9_polishError_97 : decode cX9_polishError 97 = .ok (.aload_n 0, 1) := by decide +kernel
theorem dX9_polishError_98 : decode cX9_polishError 98 = .ok (.getfield 12, 3) := by decide +kernel
theorem dX9_polishError_101 : decode cX9_polishError 101 = .ok (.invokevirtual 88, 3) := by decide +kernel
theorem dX9_polishError_104 : decode cX9_polishError 104 = .ok (.ireturn, 1) := by decide +kernel
def kX9_polishError_79 (N : Nat) (rec : Int32 → Int32 → qM → Option ((Int32 × qM) ⊕ (Int32 × qM))) (v0 : Nat) (v1 : Int32) (v2 : Int32) (v3 : Int32) (v5 : Int32) (s0 : Int32) (s1 : Int32) (m0 : qM) : Option ((Int32 × qM) ⊕ (Int32 × qM)) :=
  rec (s0 + s1) (v5 + (1 : Int32)) m0
set_option maxRecDepth 100000 in
theorem kbX9_polishError_79 {E : qE} {N d bc bs : Nat} (hd : 1 ≤ d) {v0 : Nat} {v1 : Int32} {v2 : Int32} {v3 : Int32} {v5 : Int32} {s0 : Int32} {s1 : Int32} {m0 : qM} {rec : Int32 → Int32 → qM → Option ((Int32 × qM) ⊕ (Int32 × qM))} (hrec : ∀ (v4 : Int32) (v5 : Int32) (m : qM), qB E yX9_polishError cX9_polishError 8 (some .int) (fun _ => True) d bc bs 6 [(0, .ref (E.2.1 + v0)), (1, .int v1), (2, .int v2), (3, .int v3), (4, .int v4), (5, .int v5)] [] m (rec v4 v5 m) (qGL (fun o rr => qJ E yX9_polishError cX9_polishError 8 (some .int) (fun _ => True) d bc bs 88 [(0, .ref (E.2.1 + v0)), (4, .int o.1)] [] o.2 rr) (fun r => (some (.int r.1), r.2)))) : qB E yX9_polishError cX9_polishError 8 (some .int) (fun _ => True) d bc bs 79 [(0, .ref (E.2.1 + v0)), (1, .int v1), (2, .int v2), (3, .int v3), (5, .int v5)] [.int s1, .int s0] m0 (kX9_polishError_79 N rec v0 v1 v2 v3 v5 s0 s1 m0) (qGL (fun o rr => qJ E yX9_polishError cX9_polishError 8 (some .int) (fun _ => True) d bc bs 88 [(0, .ref (E.2.1 + v0)), (4, .int o.1)] [] o.2 rr) (fun r => (some (.int r.1), r.2))) := by
  unfold kX9_polishError_79
  refine j_iadd (np := 80) dX9_polishError_79 rfl ?_
  refine j_istore (np := 82) (lv2 := [(4, .int (s0 + s1)), (0, .ref (E.2.1 + v0)), (1, .int v1), (2, .int v2), (3, .int v3), (5, .int v5)]) (by decide) dX9_polishError_80 rfl rfl ?_
  refine j_iinc (q := 5) (np := 85) (lv2 := [(5, .int (v5 + (1 : Int32))), (4, .int (s0 + s1)), (0, .ref (E.2.1 + v0)), (1, .int v1), (2, .int v2), (3, .int v3)]) rfl (congrArg _ ci_1) (by decide) dX9_polishError_82 rfl rfl ?_
  refine j_goto (tgt := 6) dX9_polishError_85 rfl ?_
  refine j_sub (lv2 := [(0, .ref (E.2.1 + v0)), (1, .int v1), (2, .int v2), (3, .int v3), (4, .int (s0 + s1)), (5, .int (v5 + (1 : Int32)))]) [2, 3, 4, 5, 1, 0] rfl ?_
  exact hrec _ _ _
def kX9_polishError_67 (N : Nat) (rec : Int32 → Int32 → qM → Option ((Int32 × qM) ⊕ (Int32 × qM))) (v0 : Nat) (v1 : Int32) (v2 : Int32) (v3 : Int32) (v4 : Int32) (v5 : Int32) (v7 : Int32)  (m0 : qM) : Option ((Int32 × qM) ⊕ (Int32 × qM)) :=
  if v7 = 0 then (
  kX9_polishError_79 N (rec) v0 v1 v2 v3 v5 v4 (1 : Int32) m0
  ) else (
  kX9_polishError_79 N (rec) v0 v1 v2 v3 v5 v4 (-1 : Int32) m0
  )
set_option maxRecDepth 100000 in
theorem kbX9_polishError_67 {E : qE} {N d bc bs : Nat} (hd : 1 ≤ d) {v0 : Nat} {v1 : Int32} {v2 : Int32} {v3 : Int32} {v4 : Int32} {v5 : Int32} {v7 : Int32}  {m0 : qM} {rec : Int32 → Int32 → qM → Option ((Int32 × qM) ⊕ (Int32 × qM))} (hrec : ∀ (v4 : Int32) (v5 : Int32) (m : qM), qB E yX9_polishError cX9_polishError 8 (some .int) (fun _ => True) d bc bs 6 [(0, .ref (E.2.1 + v0)), (1, .int v1), (2, .int v2), (3, .int v3), (4, .int v4), (5, .int v5)] [] m (rec v4 v5 m) (qGL (fun o rr => qJ E yX9_polishError cX9_polishError 8 (some .int) (fun _ => True) d bc bs 88 [(0, .ref (E.2.1 + v0)), (4, .int o.1)] [] o.2 rr) (fun r => (some (.int r.1), r.2)))) : qB E yX9_polishError cX9_polishError 8 (some .int) (fun _ => True) d bc bs 67 [(0, .ref (E.2.1 + v0)), (1, .int v1), (2, .int v2), (3, .int v3), (4, .int v4), (5, .int v5), (7, .int v7)] [] m0 (kX9_polishError_67 N rec v0 v1 v2 v3 v4 v5 v7 m0) (qGL (fun o rr => qJ E yX9_polishError cX9_polishError 8 (some .int) (fun _ => True) d bc bs 88 [(0, .ref (E.2.1 + v0)), (4, .int o.1)] [] o.2 rr) (fun r => (some (.int r.1), r.2))) := by
  unfold kX9_polishError_67
  refine j_iload (q := 4) (np := 69) rfl dX9_polishError_67 rfl ?_
  refine j_iload (q := 6) (np := 71) rfl dX9_polishError_69 rfl ?_
  refine j_if_eq (tgt := 78) (np := 74) dX9_polishError_71 rfl rfl ?_ ?_
  · refine j_iconst (np := 79) ci_1 dX9_polishError_78 rfl ?_
    refine j_sub (lv2 := [(0, .ref (E.2.1 + v0)), (1, .int v1), (2, .int v2), (3, .int v3), (5, .int v5)]) [0, 1, 2, 3, 5] rfl ?_
    exact kbX9_polishError_79 hd hrec
  · refine j_iconst (np := 75) ci_m1 dX9_polishError_74 rfl ?_
    refine j_goto (tgt := 79) dX9_polishError_75 rfl ?_
    refine j_sub (lv2 := [(0, .ref (E.2.1 + v0)), (1, .int v1), (2, .int v2), (3, .int v3), (5, .int v5)]) [0, 1, 2, 3, 5] rfl ?_
    exact kbX9_polishError_79 hd hrec
def kX9_polishError_46 (N : Nat) (rec : Int32 → Int32 → qM → Option ((Int32 × qM) ⊕ (Int32 × qM))) (v0 : Nat) (v1 : Int32) (v2 : Int32) (v3 : Int32) (v4 : Int32) (v5 : Int32) (v6 : Int32) (s0 : Int32) (m0 : qM) : Option ((Int32 × qM) ⊕ (Int32 × qM)) :=
  if v4 = 0 then (
  some (.inr (v5, m0))
  ) else (
  if s0 = 0 then (
  if v6 = v1 then (
  kX9_polishError_67 N (rec) v0 v1 v2 v3 v4 v5 s0 m0
  ) else (
  some (.inr (v5, m0))
  )
  ) else (
  kX9_polishError_67 N (rec) v0 v1 v2 v3 v4 v5 s0 m0
  )
  )
set_option maxRecDepth 100000 in
theorem kbX9_polishError_46 {E : qE} {N d bc bs : Nat} (hd : 1 ≤ d) {v0 : Nat} {v1 : Int32} {v2 : Int32} {v3 : Int32} {v4 : Int32} {v5 : Int32} {v6 : Int32} {s0 : Int32} {m0 : qM} {rec : Int32 → Int32 → qM → Option ((Int32 × qM) ⊕ (Int32 × qM))} (hrec : ∀ (v4 : Int32) (v5 : Int32) (m : qM), qB E yX9_polishError cX9_polishError 8 (some .int) (fun _ => True) d bc bs 6 [(0, .ref (E.2.1 + v0)), (1, .int v1), (2, .int v2), (3, .int v3), (4, .int v4), (5, .int v5)] [] m (rec v4 v5 m) (qGL (fun o rr => qJ E yX9_polishError cX9_polishError 8 (some .int) (fun _ => True) d bc bs 88 [(0, .ref (E.2.1 + v0)), (4, .int o.1)] [] o.2 rr) (fun r => (some (.int r.1), r.2)))) : qB E yX9_polishError cX9_polishError 8 (some .int) (fun _ => True) d bc bs 46 [(0, .ref (E.2.1 + v0)), (1, .int v1), (2, .int v2), (3, .int v3), (4, .int v4), (5, .int v5), (6, .int v6)] [.int s0] m0 (kX9_polishError_46 N rec v0 v1 v2 v3 v4 v5 v6 s0 m0) (qGL (fun o rr => qJ E yX9_polishError cX9_polishError 8 (some .int) (fun _ => True) d bc bs 88 [(0, .ref (E.2.1 + v0)), (4, .int o.1)] [] o.2 rr) (fun r => (some (.int r.1), r.2))) := by
  unfold kX9_polishError_46
  refine j_istore (np := 48) (lv2 := [(7, .int s0), (0, .ref (E.2.1 + v0)), (1, .int v1), (2, .int v2), (3, .int v3), (4, .int v4), (5, .int v5), (6, .int v6)]) (by decide) dX9_polishError_46 rfl rfl ?_
  refine j_iload (q := 5) (np := 50) rfl dX9_polishError_48 rfl ?_
  refine j_if_eq (tgt := 64) (np := 53) dX9_polishError_50 rfl rfl ?_ ?_
  · refine j_iload (q := 6) (np := 66) rfl dX9_polishError_64 rfl ?_
    exact j_iret rfl dX9_polishError_66 (fun rr h => h)
  · refine j_iload (q := 0) (np := 55) rfl dX9_polishError_53 rfl ?_
    refine j_if_ne (tgt := 67) (np := 58) dX9_polishError_55 rfl rfl ?_ ?_
    · refine j_sub (lv2 := [(0, .ref (E.2.1 + v0)), (1, .int v1), (2, .int v2), (3, .int v3), (4, .int v4), (5, .int v5), (7, .int s0)]) [1, 2, 3, 4, 5, 6, 0] rfl ?_
      exact kbX9_polishError_67 hd hrec
    · refine j_iload (q := 7) (np := 60) rfl dX9_polishError_58 rfl ?_
      refine j_iload_n (q := 2) (np := 61) rfl rfl dX9_polishError_60 rfl ?_
      refine j_icmp_eq (tgt := 67) (np := 64) dX9_polishError_61 rfl rfl ?_ ?_
      · refine j_sub (lv2 := [(0, .ref (E.2.1 + v0)), (1, .int v1), (2, .int v2), (3, .int v3), (4, .int v4), (5, .int v5), (7, .int s0)]) [1, 2, 3, 4, 5, 6, 0] rfl ?_
        exact kbX9_polishError_67 hd hrec
      · refine j_iload (q := 6) (np := 66) rfl dX9_polishError_64 rfl ?_
        exact j_iret rfl dX9_polishError_66 (fun rr h => h)
def kX9_polishError_45 (N : Nat) (rec : Int32 → Int32 → qM → Option ((Int32 × qM) ⊕ (Int32 × qM))) (v0 : Nat) (v1 : Int32) (v2 : Int32) (v3 : Int32) (v4 : Int32) (v5 : Int32) (v6 : Int32)  (m0 : qM) : Option ((Int32 × qM) ⊕ (Int32 × qM)) :=
  kX9_polishError_46 N (rec) v0 v1 v2 v3 v4 v5 v6 (0 : Int32) m0
set_option maxRecDepth 100000 in
theorem kbX9_polishError_45 {E : qE} {N d bc bs : Nat} (hd : 1 ≤ d) {v0 : Nat} {v1 : Int32} {v2 : Int32} {v3 : Int32} {v4 : Int32} {v5 : Int32} {v6 : Int32}  {m0 : qM} {rec : Int32 → Int32 → qM → Option ((Int32 × qM) ⊕ (Int32 × qM))} (hrec : ∀ (v4 : Int32) (v5 : Int32) (m : qM), qB E yX9_polishError cX9_polishError 8 (some .int) (fun _ => True) d bc bs 6 [(0, .ref (E.2.1 + v0)), (1, .int v1), (2, .int v2), (3, .int v3), (4, .int v4), (5, .int v5)] [] m (rec v4 v5 m) (qGL (fun o rr => qJ E yX9_polishError cX9_polishError 8 (some .int) (fun _ => True) d bc bs 88 [(0, .ref (E.2.1 + v0)), (4, .int o.1)] [] o.2 rr) (fun r => (some (.int r.1), r.2)))) : qB E yX9_polishError cX9_polishError 8 (some .int) (fun _ => True) d bc bs 45 [(0, .ref (E.2.1 + v0)), (1, .int v1), (2, .int v2), (3, .int v3), (4, .int v4), (5, .int v5), (6, .int v6)] [] m0 (kX9_polishError_45 N rec v0 v1 v2 v3 v4 v5 v6 m0) (qGL (fun o rr => qJ E yX9_polishError cX9_polishError 8 (some .int) (fun _ => True) d bc bs 88 [(0, .ref (E.2.1 + v0)), (4, .int o.1)] [] o.2 rr) (fun r => (some (.int r.1), r.2))) := by
  unfold kX9_polishError_45
  refine j_iconst (np := 46) ci_0 dX9_polishError_45 rfl ?_
  exact kbX9_polishError_46 hd hrec
def lX9_polishError_6 (N : Nat) (v0 : Nat) (v1 : Int32) (v2 : Int32) (v3 : Int32) : Nat → Int32 → Int32 → qM → Option ((Int32 × qM) ⊕ (Int32 × qM))
  | 0, _, _, _ => none
  | n + 1, v4, v5, m0 =>
    (qgR m0 v0 9 0).bind fun x1 =>
    (qChk m0 x1 7 (fX7_length N x1 m0)).bind fun b2 =>
    if b2.1 ≤ v5 then (
    some (.inl (v4, b2.2))
    ) else (
    (qgR b2.2 v0 9 0).bind fun x3 =>
    (qChk b2.2 x3 7 (fX7_at N x3 v5 b2.2)).bind fun b4 =>
    if b4.1 < v2 then (
    kX9_polishError_45 N (lX9_polishError_6 N v0 v1 v2 v3 n) v0 v1 v2 v3 v4 v5 b4.1 b4.2
    ) else (
    if v3 < b4.1 then (
    kX9_polishError_45 N (lX9_polishError_6 N v0 v1 v2 v3 n) v0 v1 v2 v3 v4 v5 b4.1 b4.2
    ) else (
    kX9_polishError_46 N (lX9_polishError_6 N v0 v1 v2 v3 n) v0 v1 v2 v3 v4 v5 b4.1 (1 : Int32) b4.2
    )
    )
    )
set_option maxRecDepth 100000 in
theorem lbX9_polishError_6 {E : qE} {N d bc bs : Nat} (hd : 1 ≤ d) {v0 : Nat} {v1 : Int32} {v2 : Int32} {v3 : Int32} : ∀ (n : Nat) (v4 : Int32) (v5 : Int32) (m0 : qM), qB E yX9_polishError cX9_polishError 8 (some .int) (fun _ => True) d bc bs 6 [(0, .ref (E.2.1 + v0)), (1, .int v1), (2, .int v2), (3, .int v3), (4, .int v4), (5, .int v5)] [] m0 (lX9_polishError_6 N v0 v1 v2 v3 n v4 v5 m0) (qGL (fun o rr => qJ E yX9_polishError cX9_polishError 8 (some .int) (fun _ => True) d bc bs 88 [(0, .ref (E.2.1 + v0)), (4, .int o.1)] [] o.2 rr) (fun r => (some (.int r.1), r.2))) := by
  intro n
  induction n with
  | zero =>
    intro v4 v5 m0
    exact j_none
  | succ n ih =>
    intro v4 v5 m0
    unfold lX9_polishError_6
    refine j_iload (q := 5) (np := 8) rfl dX9_polishError_6 rfl ?_
    refine j_aload_n (q := 0) (np := 9) rfl rfl dX9_polishError_8 rfl ?_
    refine j_gR (np := 12) flX9_12 dX9_polishError_9 rfl (fun x1 => ?_)
    refine j_callVi (ci := 7) (np := 15) (bc := bc) (bs := bs) (cb := 0) (cs := 0) (dd := d - 1) (As := []) (st := [.int v5]) caX7_length mlX9_88 imX7_length seX7_length rfl rfl (by decide) (fun b hb => wX7_length (by omega) hb) (by omega) rfl rfl (Nat.le_of_ble_eq_true rfl) dX9_polishError_12 rfl (fun b2 => ?_)
    refine j_icmp_ge (tgt := 88) (np := 18) dX9_polishError_15 rfl rfl ?_ ?_
    · refine j_sub (lv2 := [(0, .ref (E.2.1 + v0)), (4, .int v4)]) [0, 4] rfl ?_
      exact j_exit (fun rr h => h)
    · refine j_aload_n (q := 0) (np := 19) rfl rfl dX9_polishError_18 rfl ?_
      refine j_gR (np := 22) flX9_12 dX9_polishError_19 rfl (fun x3 => ?_)
      refine j_iload (q := 5) (np := 24) rfl dX9_polishError_22 rfl ?_
      refine j_callVi (ci := 7) (np := 27) (bc := bc) (bs := bs) (cb := 0) (cs := 0) (dd := d - 1) (As := [.int v5]) (st := []) caX7_at mlX9_167 imX7_at seX7_at rfl rfl (by decide) (fun b hb => wX7_at (by omega) hb) (by omega) rfl rfl (Nat.le_of_ble_eq_true rfl) dX9_polishError_24 rfl (fun b4 => ?_)
      refine j_istore (np := 29) (lv2 := [(6, .int b4.1), (0, .ref (E.2.1 + v0)), (1, .int v1), (2, .int v2), (3, .int v3), (4, .int v4), (5, .int v5)]) (by decide) dX9_polishError_27 rfl rfl ?_
      refine j_iload (q := 0) (np := 31) rfl dX9_polishError_29 rfl ?_
      refine j_iload_n (q := 3) (np := 32) rfl rfl dX9_polishError_31 rfl ?_
      refine j_icmp_lt (tgt := 45) (np := 35) dX9_polishError_32 rfl rfl ?_ ?_
      · refine j_sub (lv2 := [(0, .ref (E.2.1 + v0)), (1, .int v1), (2, .int v2), (3, .int v3), (4, .int v4), (5, .int v5), (6, .int b4.1)]) [1, 2, 3, 4, 5, 6, 0] rfl ?_
        exact kbX9_polishError_45 hd ih
      · refine j_iload (q := 0) (np := 37) rfl dX9_polishError_35 rfl ?_
        refine j_iload_n (q := 4) (np := 38) rfl rfl dX9_polishError_37 rfl ?_
        refine j_icmp_gt (tgt := 45) (np := 41) dX9_polishError_38 rfl rfl ?_ ?_
        · refine j_sub (lv2 := [(0, .ref (E.2.1 + v0)), (1, .int v1), (2, .int v2), (3, .int v3), (4, .int v4), (5, .int v5), (6, .int b4.1)]) [1, 2, 3, 4, 5, 6, 0] rfl ?_
          exact kbX9_polishError_45 hd ih
        · refine j_iconst (np := 42) ci_1 dX9_polishError_41 rfl ?_
          refine j_goto (tgt := 46) dX9_polishError_42 rfl ?_
          refine j_sub (lv2 := [(0, .ref (E.2.1 + v0)), (1, .int v1), (2, .int v2), (3, .int v3), (4, .int v4), (5, .int v5), (6, .int b4.1)]) [1, 2, 3, 4, 5, 6, 0] rfl ?_
          exact kbX9_polishError_46 hd ih
def fX9_polishError (N : Nat) (v0 : Nat) (v1 : Int32) (v2 : Int32) (v3 : Int32) (m0 : qM) : Option (Int32 × qM) :=
  qTh (lX9_polishError_6 N v0 v1 v2 v3 N (1 : Int32) (0 : Int32) m0) (fun o1 =>
  if o1.1 = 0 then (
  some ((-1 : Int32), o1.2)
  ) else (
  (qgR o1.2 v0 9 0).bind fun x2 =>
  (qChk o1.2 x2 7 (fX7_length N x2 o1.2)).bind fun b3 =>
  some (b3.1, b3.2)
  )
  ) (fun r => r)
set_option maxRecDepth 100000 in
theorem bX9_polishError {E : qE} {N d bc bs : Nat} (hd : 1 ≤ d) {v0 : Nat} {v1 : Int32} {v2 : Int32} {v3 : Int32} {m0 : qM} : qB E yX9_polishError cX9_polishError 8 (some .int) (fun _ => True) d bc bs 0 [(0, .ref (E.2.1 + v0)), (1, .int v1), (2, .int v2), (3, .int v3)] [] m0 (fX9_polishError N v0 v1 v2 v3 m0) (fun b rr => rr = (some (.int b.1), b.2)) := by
  unfold fX9_polishError
  refine j_iconst (np := 1) ci_1 dX9_polishError_0 rfl ?_
  refine j_istore (np := 3) (lv2 := [(4, .int (1 : Int32)), (0, .ref (E.2.1 + v0)), (1, .int v1), (2, .int v2), (3, .int v3)]) (by decide) dX9_polishError_1 rfl rfl ?_
  refine j_iconst (np := 4) ci_0 dX9_polishError_3 rfl ?_
  refine j_istore (np := 6) (lv2 := [(5, .int (0 : Int32)), (4, .int (1 : Int32)), (0, .ref (E.2.1 + v0)), (1, .int v1), (2, .int v2), (3, .int v3)]) (by decide) dX9_polishError_4 rfl rfl ?_
  refine j_sub (lv2 := [(0, .ref (E.2.1 + v0)), (1, .int v1), (2, .int v2), (3, .int v3), (4, .int (1 : Int32)), (5, .int (0 : Int32))]) [2, 3, 4, 5, 1, 0] rfl ?_
  refine j_loopG (xp := 88) (lvX := fun o1 => [(0, .ref (E.2.1 + v0)), (4, .int o1.1)]) (mX := fun o1 => o1.2) (lbX9_polishError_6 hd _ _ _ _) (fun r rr h => h) (fun o1 => ?_)
  refine j_iload (q := 1) (np := 90) rfl dX9_polishError_88 rfl ?_
  refine j_if_ne (tgt := 97) (np := 93) dX9_polishError_90 rfl rfl ?_ ?_
  · refine j_aload_n (q := 0) (np := 98) rfl rfl dX9_polishError_97 rfl ?_
    refine j_gR (np := 101) flX9_12 dX9_polishError_98 rfl (fun x2 => ?_)
    refine j_callVi (ci := 7) (np := 104) (bc := bc) (bs := bs) (cb := 0) (cs := 0) (dd := d - 1) (As := []) (st := []) caX7_length mlX9_88 imX7_length seX7_length rfl rfl (by decide) (fun b hb => wX7_length (by omega) hb) (by omega) rfl rfl (Nat.le_of_ble_eq_true rfl) dX9_polishError_101 rfl (fun b3 => ?_)
    exact j_iret rfl dX9_polishError_104 (fun rr h => h)
  · refine j_iconst (np := 94) ci_m1 dX9_polishError_93 rfl ?_
    refine j_goto (tgt := 104) dX9_polishError_94 rfl ?_
    exact j_iret rfl dX9_polishError_104 (fun rr h => h)
set_option maxRecDepth 100000 in
theorem wX9_polishError {E : qE} {N d : Nat} (hd : 1 ≤ d) {v0 : Nat} {v1 : Int32} {v2 : Int32} {v3 : Int32} {m0 : qM} {b : Int32 × qM} (h : fX9_polishError N v0 v1 v2 v3 m0 = some b) : qRun E yX9_polishError cX9_polishError 8 (some .int) d 0 0 [.ref (E.2.1 + v0), .int v1, .int v2, .int v3] m0 (some (.int b.1), b.2) := q_met pnX9 (Nat.le_of_ble_eq_true rfl) (bX9_polishError hd b _ h rfl)
theorem dX9_addAxiom_0 : decode cX9_addAxiom 0 = .ok (.aload_n 0, 1) := by decide +kernel
theorem dX9_addAxiom_1 : decode cX9_addAxiom 1 = .ok (.bipush 67, 2) := by decide +kernel
theorem dX9_addAxiom_3 : decode cX9_addAxiom 3 = .ok (.bipush 97, 2) := by decide +kernel
theorem dX9_addAxiom_5 : decode cX9_addAxiom 5 = .ok (.bipush 122, 2) := by decide +kernel
theorem dX9_addAxiom_7 : decode cX9_addAxiom 7 = .ok (.invokevirtual 99, 3) := by decide +kernel
theorem dX9_addAxiom_10 : decode cX9_addAxiom 10 = .ok (.istore_n 1, 1) := by decide +kernel
theorem dX9_addAxiom_11 : decode cX9_addAxiom 11 = .ok (.iload_n 1, 1) := by decide +kernel
theorem dX9_addAxiom_12 : decode cX9_addAxiom 12 = .ok (.iconst (-1), 1) := by decide +kernel
theorem dX9_addAxiom_13 : decode cX9_addAxiom 13 = .ok (.if_icmp .ne 10, 3) := by decide +kernel
theorem dX9_addAxiom_16 : decode cX9_addAxiom 16 = .ok (.aload_n 0, 1) := by decide +kernel
theorem dX9_addAxiom_17 : decode cX9_addAxiom 17 = .ok (.invokevirtual 103, 3) := by decide +kernel
theorem dX9_addAxiom_20 : decode cX9_addAxiom 20 = .ok (.goto 7, 3) := by decide +kernel
theorem dX9_addAxiom_23 : decode cX9_addAxiom 23 = .ok (.bipush (-100), 2) := by decide +kernel
theorem dX9_addAxiom_25 : decode cX9_addAxiom 25 = .ok (.iload_n 1, 1) := by decide +kernel
theorem dX9_addAxiom_26 : decode cX9_addAxiom 26 = .ok (.isub, 1) := by decide +kernel
theorem dX9_addAxiom_27 : decode cX9_addAxiom 27 = .ok (.istore_n 2, 1) := by decide +kernel
theorem dX9_addAxiom_28 : decode cX9_addAxiom 28 = .ok (.aload_n 0, 1) := by decide +kernel
theorem dX9_addAxiom_29 : decode cX9_addAxiom 29 = .ok (.getfield 12, 3) := by decide +kernel
theorem dX9_addAxiom_32 : decode cX9_addAxiom 32 = .ok (.invokevirtual 96, 3) := by decide +kernel
theorem dX9_addAxiom_35 : decode cX9_addAxiom 35 = .ok (.iload_n 2, 1) := by decide +kernel
theorem dX9_addAxiom_36 : decode cX9_addAxiom 36 = .ok (.ireturn, 1) := by decide +kernel
def kX9_addAxiom_27 (N : Nat) (v0 : Nat) (s0 : Int32) (m0 : qM) : Option (Int32 × qM) :=
  (qgR m0 v0 9 0).bind fun x1 =>
  (qChk m0 x1 7 (fX7_makeEmpty N x1 m0)).bind fun b2 =>
  some (s0, b2)
set_option maxRecDepth 100000 in
theorem kbX9_addAxiom_27 {E : qE} {N d bc bs : Nat} (hd : 4 ≤ d) {v0 : Nat} {s0 : Int32} {m0 : qM} : qB E yX9_addAxiom cX9_addAxiom 3 (some .int) (fun _ => True) d bc bs 27 [(0, .ref (E.2.1 + v0))] [.int s0] m0 (kX9_addAxiom_27 N v0 s0 m0) (fun b rr => rr = (some (.int b.1), b.2)) := by
  unfold kX9_addAxiom_27
  refine j_istore_n (np := 28) (lv2 := [(2, .int s0), (0, .ref (E.2.1 + v0))]) rfl (by decide) dX9_addAxiom_27 rfl rfl ?_
  refine j_aload_n (q := 1) (np := 29) rfl rfl dX9_addAxiom_28 rfl ?_
  refine j_gR (np := 32) flX9_12 dX9_addAxiom_29 rfl (fun x1 => ?_)
  refine j_callVv (ci := 7) (np := 35) (bc := bc) (bs := bs) (cb := 0) (cs := 0) (dd := d - 1) (As := []) (st := []) caX7_makeEmpty mlX9_96 imX7_makeEmpty seX7_makeEmpty rfl rfl (by decide) (fun b hb => wX7_makeEmpty (by omega) hb) (by omega) rfl rfl (Nat.le_of_ble_eq_true rfl) dX9_addAxiom_32 rfl (fun b2 => ?_)
  refine j_iload_n (q := 0) (np := 36) rfl rfl dX9_addAxiom_35 rfl ?_
  exact j_iret rfl dX9_addAxiom_36 (fun rr h => h)
def fX9_addAxiom (N : Nat) (v0 : Nat) (m0 : qM) : Option (Int32 × qM) :=
  (qChk m0 v0 9 (fX9_polishError N v0 (67 : Int32) (97 : Int32) (122 : Int32) m0)).bind fun b1 =>
  if b1.1 = (-1 : Int32) then (
  (qChk b1.2 v0 9 (fX9_enterText N v0 b1.2)).bind fun b2 =>
  kX9_addAxiom_27 N v0 b2.1 b2.2
  ) else (
  kX9_addAxiom_27 N v0 ((-100 : Int32) - b1.1) b1.2
  )
set_option maxRecDepth 100000 in
theorem bX9_addAxiom {E : qE} {N d bc bs : Nat} (hd : 4 ≤ d) {v0 : Nat} {m0 : qM} : qB E yX9_addAxiom cX9_addAxiom 3 (some .int) (fun _ => True) d bc bs 0 [(0, .ref (E.2.1 + v0))] [] m0 (fX9_addAxiom N v0 m0) (fun b rr => rr = (some (.int b.1), b.2)) := by
  unfold fX9_addAxiom
  refine j_aload_n (q := 0) (np := 1) rfl rfl dX9_addAxiom_0 rfl ?_
  refine j_bipush (np := 3) cb_67 dX9_addAxiom_1 rfl ?_
  refine j_bipush (np := 5) cb_97 dX9_addAxiom_3 rfl ?_
  refine j_bipush (np := 7) cb_122 dX9_addAxiom_5 rfl ?_
  refine j_callVi (ci := 9) (np := 10) (bc := bc) (bs := bs) (cb := 0) (cs := 0) (dd := d - 1) (As := [.int (67 : Int32), .int (97 : Int32), .int (122 : Int32)]) (st := []) caX9_polishError mlX9_99 imX9_polishError seX9_polishError rfl rfl (by decide) (fun b hb => wX9_polishError (by omega) hb) (by omega) rfl rfl (Nat.le_of_ble_eq_true rfl) dX9_addAxiom_7 rfl (fun b1 => ?_)
  refine j_istore_n (np := 11) (lv2 := [(1, .int b1.1), (0, .ref (E.2.1 + v0))]) rfl (by decide) dX9_addAxiom_10 rfl rfl ?_
  refine j_iload_n (q := 0) (np := 12) rfl rfl dX9_addAxiom_11 rfl ?_
  refine j_iconst (np := 13) ci_m1 dX9_addAxiom_12 rfl ?_
  refine j_icmp_ne (tgt := 23) (np := 16) dX9_addAxiom_13 rfl rfl ?_ ?_
  · refine j_bipush (np := 25) cb_m100 dX9_addAxiom_23 rfl ?_
    refine j_iload_n (q := 0) (np := 26) rfl rfl dX9_addAxiom_25 rfl ?_
    refine j_isub (np := 27) dX9_addAxiom_26 rfl ?_
    refine j_sub (lv2 := [(0, .ref (E.2.1 + v0))]) [1] rfl ?_
    exact kbX9_addAxiom_27 hd
  · refine j_aload_n (q := 1) (np := 17) rfl rfl dX9_addAxiom_16 rfl ?_
    refine j_callVi (ci := 9) (np := 20) (bc := bc) (bs := bs) (cb := 0) (cs := 0) (dd := d - 1) (As := []) (st := []) caX9_enterText mlX9_103 imX9_enterText seX9_enterText rfl rfl (by decide) (fun b hb => wX9_enterText (by omega) hb) (by omega) rfl rfl (Nat.le_of_ble_eq_true rfl) dX9_addAxiom_17 rfl (fun b2 => ?_)
    refine j_goto (tgt := 27) dX9_addAxiom_20 rfl ?_
    refine j_sub (lv2 := [(0, .ref (E.2.1 + v0))]) [1] rfl ?_
    exact kbX9_addAxiom_27 hd
set_option maxRecDepth 100000 in
theorem wX9_addAxiom {E : qE} {N d : Nat} (hd : 4 ≤ d) {v0 : Nat} {m0 : qM} {b : Int32 × qM} (h : fX9_addAxiom N v0 m0 = some b) : qRun E yX9_addAxiom cX9_addAxiom 3 (some .int) d 0 0 [.ref (E.2.1 + v0)] m0 (some (.int b.1), b.2) := q_met pnX9 (Nat.le_of_ble_eq_true rfl) (bX9_addAxiom hd b _ h rfl)
theorem dX9_derive_0 : decode cX9_derive 0 = .ok (.aload_n 0, 1) := by decide +kernel
theorem dX9_derive_1 : decode cX9_derive 1 = .ok (.getfield 29, 3) := by decide +kernel
theorem dX9_derive_4 : decode cX9_derive 4 = .ok (.aload_n 0, 1) := by decide +kernel
theorem dX9_derive_5 : decode cX9_derive 5 = .ok (.getfield 22, 3) := by decide +kernel
theorem dX9_derive_8 : decode cX9_derive 8 = .ok (.iload_n 1, 1) := by decide +kernel
theorem dX9_derive_9 : decode cX9_derive 9 = .ok (.invokevirtual 129, 3) := by decide +kernel
theorem dX9_derive_12 : decode cX9_derive 12 = .ok (.aload_n 0, 1) := by decide +kernel
theorem dX9_derive_13 : decode cX9_derive 13 = .ok (.getfield 22, 3) := by decide +kernel
theorem dX9_derive_16 : decode cX9_derive 16 = .ok (.iload_n 2, 1) := by decide +kernel
theorem dX9_derive_17 : decode cX9_derive 17 = .ok (.invokevirtual 129, 3) := by decide +kernel
theorem dX9_derive_20 : decode cX9_derive 20 = .ok (.aload_n 0, 1) := by decide +kernel
theorem dX9_derive_21 : decode cX9_derive 21 = .ok (.getfield 77, 3) := by decide +kernel
theorem dX9_derive_24 : decode cX9_derive 24 = .ok (.invokevirtual 270, 3) := by decide +kernel
theorem dX9_derive_27 : decode cX9_derive 27 = .ok (.istore_n 3, 1) := by decide +kernel
theorem dX9_derive_28 : decode cX9_derive 28 = .ok (.iload_n 3, 1) := by decide +kernel
theorem dX9_derive_29 : decode cX9_derive 29 = .ok (.ifCond .ne 19, 3) := by decide +kernel
theorem dX9_derive_32 : decode cX9_derive 32 = .ok (.aload_n 0, 1) := by decide +kernel
theorem dX9_derive_33 : decode cX9_derive 33 = .ok (.getfield 22, 3) := by decide +kernel
theorem dX9_derive_36 : decode cX9_derive 36 = .ok (.aload_n 0, 1) := by decide +kernel
theorem dX9_derive_37 : decode cX9_derive 37 = .ok (.getfield 77, 3) := by decide +kernel
theorem dX9_derive_40 : decode cX9_derive 40 = .ok (.iload_n 1, 1) := by decide +kernel
theorem dX9_derive_41 : decode cX9_derive 41 = .ok (.iload_n 2, 1) := by decide +kernel
theorem dX9_derive_42 : decode cX9_derive 42 = .ok (.invokevirtual 266, 3) := by decide +kernel
theorem dX9_derive_45 : decode cX9_derive 45 = .ok (.goto 4, 3) := by decide +kernel
theorem dX9_derive_48 : decode cX9_derive 48 = .ok (.iload_n 3, 1) := by decide +kernel
theorem dX9_derive_49 : decode cX9_derive 49 = .ok (.ireturn, 1) := by decide +kernel
def fX9_derive (N : Nat) (v0 : Nat) (v1 : Int32) (v2 : Int32) (m0 : qM) : Option (Int32 × qM) :=
  (qgR m0 v0 9 3).bind fun x1 =>
  (qgR m0 v0 9 2).bind fun x2 =>
  (qChk m0 x2 1 (fX1_at N x2 v1 m0)).bind fun b3 =>
  (qgR b3.2 v0 9 2).bind fun x4 =>
  (qChk b3.2 x4 1 (fX1_at N x4 v2 b3.2)).bind fun b5 =>
  (qgR b5.2 v0 9 10).bind fun x6 =>
  (qChk b5.2 x1 8 (fX8_detachInto N x1 b3.1 b5.1 x6 b5.2)).bind fun b7 =>
  if b7.1 = 0 then (
  (qgR b7.2 v0 9 2).bind fun x8 =>
  (qgR b7.2 v0 9 10).bind fun x9 =>
  (qChk b7.2 x8 1 (fX1_enter N x8 x9 v1 v2 b7.2)).bind fun b10 =>
  some (b10.1, b10.2)
  ) else (
  some (b7.1, b7.2)
  )
set_option maxRecDepth 100000 in
theorem bX9_derive {E : qE} {N d bc bs : Nat} (hd : 5 ≤ d) {v0 : Nat} {v1 : Int32} {v2 : Int32} {m0 : qM} : qB E yX9_derive cX9_derive 4 (some .int) (fun _ => True) d bc bs 0 [(0, .ref (E.2.1 + v0)), (1, .int v1), (2, .int v2)] [] m0 (fX9_derive N v0 v1 v2 m0) (fun b rr => rr = (some (.int b.1), b.2)) := by
  unfold fX9_derive
  refine j_aload_n (q := 0) (np := 1) rfl rfl dX9_derive_0 rfl ?_
  refine j_gR (np := 4) flX9_29 dX9_derive_1 rfl (fun x1 => ?_)
  refine j_aload_n (q := 0) (np := 5) rfl rfl dX9_derive_4 rfl ?_
  refine j_gR (np := 8) flX9_22 dX9_derive_5 rfl (fun x2 => ?_)
  refine j_iload_n (q := 1) (np := 9) rfl rfl dX9_derive_8 rfl ?_
  refine j_callVr (ci := 1) (np := 12) (bc := bc) (bs := bs) (cb := 0) (cs := 0) (dd := d - 1) (As := [.int v1]) (st := [.ref (E.2.1 + x1)]) caX1_at mlX9_129 imX1_at seX1_at rfl rfl (by decide) (fun b hb => wX1_at (by omega) hb) (by omega) rfl rfl (Nat.le_of_ble_eq_true rfl) dX9_derive_9 rfl (fun b3 => ?_)
  refine j_aload_n (q := 0) (np := 13) rfl rfl dX9_derive_12 rfl ?_
  refine j_gR (np := 16) flX9_22 dX9_derive_13 rfl (fun x4 => ?_)
  refine j_iload_n (q := 2) (np := 17) rfl rfl dX9_derive_16 rfl ?_
  refine j_callVr (ci := 1) (np := 20) (bc := bc) (bs := bs) (cb := 0) (cs := 0) (dd := d - 1) (As := [.int v2]) (st := [.ref (E.2.1 + b3.1), .ref (E.2.1 + x1)]) caX1_at mlX9_129 imX1_at seX1_at rfl rfl (by decide) (fun b hb => wX1_at (by omega) hb) (by omega) rfl rfl (Nat.le_of_ble_eq_true rfl) dX9_derive_17 rfl (fun b5 => ?_)
  refine j_aload_n (q := 0) (np := 21) rfl rfl dX9_derive_20 rfl ?_
  refine j_gR (np := 24) flX9_77 dX9_derive_21 rfl (fun x6 => ?_)
  refine j_callVi (ci := 8) (np := 27) (bc := bc) (bs := bs) (cb := 0) (cs := 0) (dd := d - 1) (As := [.ref (E.2.1 + b3.1), .ref (E.2.1 + b5.1), .ref (E.2.1 + x6)]) (st := []) caX8_detachInto mlX9_270 imX8_detachInto seX8_detachInto rfl rfl (by decide) (fun b hb => wX8_detachInto (by omega) hb) (by omega) rfl rfl (Nat.le_of_ble_eq_true rfl) dX9_derive_24 rfl (fun b7 => ?_)
  refine j_istore_n (np := 28) (lv2 := [(3, .int b7.1), (0, .ref (E.2.1 + v0)), (1, .int v1), (2, .int v2)]) rfl (by decide) dX9_derive_27 rfl rfl ?_
  refine j_iload_n (q := 0) (np := 29) rfl rfl dX9_derive_28 rfl ?_
  refine j_if_ne (tgt := 48) (np := 32) dX9_derive_29 rfl rfl ?_ ?_
  · refine j_iload_n (q := 0) (np := 49) rfl rfl dX9_derive_48 rfl ?_
    exact j_iret rfl dX9_derive_49 (fun rr h => h)
  · refine j_aload_n (q := 1) (np := 33) rfl rfl dX9_derive_32 rfl ?_
    refine j_gR (np := 36) flX9_22 dX9_derive_33 rfl (fun x8 => ?_)
    refine j_aload_n (q := 1) (np := 37) rfl rfl dX9_derive_36 rfl ?_
    refine j_gR (np := 40) flX9_77 dX9_derive_37 rfl (fun x9 => ?_)
    refine j_iload_n (q := 2) (np := 41) rfl rfl dX9_derive_40 rfl ?_
    refine j_iload_n (q := 3) (np := 42) rfl rfl dX9_derive_41 rfl ?_
    refine j_callVi (ci := 1) (np := 45) (bc := bc) (bs := bs) (cb := 0) (cs := 0) (dd := d - 1) (As := [.ref (E.2.1 + x9), .int v1, .int v2]) (st := []) caX1_enter mlX9_266 imX1_enter seX1_enter rfl rfl (by decide) (fun b hb => wX1_enter (by omega) hb) (by omega) rfl rfl (Nat.le_of_ble_eq_true rfl) dX9_derive_42 rfl (fun b10 => ?_)
    refine j_goto (tgt := 49) dX9_derive_45 rfl ?_
    exact j_iret rfl dX9_derive_49 (fun rr h => h)
set_option maxRecDepth 100000 in
theorem wX9_derive {E : qE} {N d : Nat} (hd : 5 ≤ d) {v0 : Nat} {v1 : Int32} {v2 : Int32} {m0 : qM} {b : Int32 × qM} (h : fX9_derive N v0 v1 v2 m0 = some b) : qRun E yX9_derive cX9_derive 4 (some .int) d 0 0 [.ref (E.2.1 + v0), .int v1, .int v2] m0 (some (.int b.1), b.2) := q_met pnX9 (Nat.le_of_ble_eq_true rfl) (bX9_derive hd b _ h rfl)
theorem dX9_detach_0 : decode cX9_detach 0 = .ok (.aload_n 0, 1) := by decide +kernel
theorem dX9_detach_1 : decode cX9_detach 1 = .ok (.getfield 22, 3) := by decide +kernel
theorem dX9_detach_4 : decode cX9_detach 4 = .ok (.iload_n 1, 1) := by decide +kernel
theorem dX9_detach_5 : decode cX9_detach 5 = .ok (.invokevirtual 106, 3) := by decide +kernel
theorem dX9_detach_8 : decode cX9_detach 8 = .ok (.ifCond .eq 14, 3) := by decide +kernel
theorem dX9_detach_11 : decode cX9_detach 11 = .ok (.aload_n 0, 1) := by decide +kernel
theorem dX9_detach_12 : decode cX9_detach 12 = .ok (.getfield 22, 3) := by decide +kernel
theorem dX9_detach_15 : decode cX9_detach 15 = .ok (.iload_n 2, 1) := by decide +kernel
theorem dX9_detach_16 : decode cX9_detach 16 = .ok (.invokevirtual 106, 3) := by decide +kernel
theorem dX9_detach_19 : decode cX9_detach 19 = .ok (.ifCond .ne 5, 3) := by decide +kernel
theorem dX9_detach_22 : decode cX9_detach 22 = .ok (.iconst (-1), 1) := by decide +kernel
theorem dX9_detach_23 : decode cX9_detach 23 = .ok (.ireturn, 1) := by decide +kernel
theorem dX9_detach_24 : decode cX9_detach 24 = .ok (.aload_n 0, 1) := by decide +kernel
theorem dX9_detach_25 : decode cX9_detach 25 = .ok (.iload_n 1, 1) := by decide +kernel
theorem dX9_detach_26 : decode cX9_detach 26 = .ok (.iload_n 2, 1) := by decide +kernel
theorem dX9_detach_27 : decode cX9_detach 27 = .ok (.invokevirtual 110, 3) := by decide +kernel
theorem dX9_detach_30 : decode cX9_detach 30 = .ok (.ireturn, 1) := by decide +kernel
def fX9_detach (N : Nat) (v0 : Nat) (v1 : Int32) (v2 : Int32) (m0 : qM) : Option (Int32 × qM) :=
  (qgR m0 v0 9 2).bind fun x1 =>
  (qChk m0 x1 1 (fX1_has N x1 v1 m0)).bind fun b2 =>
  if b2.1 = 0 then (
  some ((-1 : Int32), b2.2)
  ) else (
  (qgR b2.2 v0 9 2).bind fun x3 =>
  (qChk b2.2 x3 1 (fX1_has N x3 v2 b2.2)).bind fun b4 =>
  if b4.1 = 0 then (
  some ((-1 : Int32), b4.2)
  ) else (
  (qChk b4.2 v0 9 (fX9_derive N v0 v1 v2 b4.2)).bind fun b5 =>
  some (b5.1, b5.2)
  )
  )
set_option maxRecDepth 100000 in
theorem bX9_detach {E : qE} {N d bc bs : Nat} (hd : 6 ≤ d) {v0 : Nat} {v1 : Int32} {v2 : Int32} {m0 : qM} : qB E yX9_detach cX9_detach 3 (some .int) (fun _ => True) d bc bs 0 [(0, .ref (E.2.1 + v0)), (1, .int v1), (2, .int v2)] [] m0 (fX9_detach N v0 v1 v2 m0) (fun b rr => rr = (some (.int b.1), b.2)) := by
  unfold fX9_detach
  refine j_aload_n (q := 0) (np := 1) rfl rfl dX9_detach_0 rfl ?_
  refine j_gR (np := 4) flX9_22 dX9_detach_1 rfl (fun x1 => ?_)
  refine j_iload_n (q := 1) (np := 5) rfl rfl dX9_detach_4 rfl ?_
  refine j_callVi (ci := 1) (np := 8) (bc := bc) (bs := bs) (cb := 0) (cs := 0) (dd := d - 1) (As := [.int v1]) (st := []) caX1_has mlX9_106 imX1_has seX1_has rfl rfl (by decide) (fun b hb => wX1_has (by omega) hb) (by omega) rfl rfl (Nat.le_of_ble_eq_true rfl) dX9_detach_5 rfl (fun b2 => ?_)
  refine j_if_eq (tgt := 22) (np := 11) dX9_detach_8 rfl rfl ?_ ?_
  · refine j_iconst (np := 23) ci_m1 dX9_detach_22 rfl ?_
    exact j_iret rfl dX9_detach_23 (fun rr h => h)
  · refine j_aload_n (q := 0) (np := 12) rfl rfl dX9_detach_11 rfl ?_
    refine j_gR (np := 15) flX9_22 dX9_detach_12 rfl (fun x3 => ?_)
    refine j_iload_n (q := 2) (np := 16) rfl rfl dX9_detach_15 rfl ?_
    refine j_callVi (ci := 1) (np := 19) (bc := bc) (bs := bs) (cb := 0) (cs := 0) (dd := d - 1) (As := [.int v2]) (st := []) caX1_has mlX9_106 imX1_has seX1_has rfl rfl (by decide) (fun b hb => wX1_has (by omega) hb) (by omega) rfl rfl (Nat.le_of_ble_eq_true rfl) dX9_detach_16 rfl (fun b4 => ?_)
    refine j_if_ne (tgt := 24) (np := 22) dX9_detach_19 rfl rfl ?_ ?_
    · refine j_aload_n (q := 0) (np := 25) rfl rfl dX9_detach_24 rfl ?_
      refine j_iload_n (q := 1) (np := 26) rfl rfl dX9_detach_25 rfl ?_
      refine j_iload_n (q := 2) (np := 27) rfl rfl dX9_detach_26 rfl ?_
      refine j_callVi (ci := 9) (np := 30) (bc := bc) (bs := bs) (cb := 0) (cs := 0) (dd := d - 1) (As := [.int v1, .int v2]) (st := []) caX9_derive mlX9_110 imX9_derive seX9_derive rfl rfl (by decide) (fun b hb => wX9_derive (by omega) hb) (by omega) rfl rfl (Nat.le_of_ble_eq_true rfl) dX9_detach_27 rfl (fun b5 => ?_)
      exact j_iret rfl dX9_detach_30 (fun rr h => h)
    · refine j_iconst (np := 23) ci_m1 dX9_detach_22 rfl ?_
      exact j_iret rfl dX9_detach_23 (fun rr h => h)
set_option maxRecDepth 100000 in
theorem wX9_detach {E : qE} {N d : Nat} (hd : 6 ≤ d) {v0 : Nat} {v1 : Int32} {v2 : Int32} {m0 : qM} {b : Int32 × qM} (h : fX9_detach N v0 v1 v2 m0 = some b) : qRun E yX9_detach cX9_detach 3 (some .int) d 0 0 [.ref (E.2.1 + v0), .int v1, .int v2] m0 (some (.int b.1), b.2) := q_met pnX9 (Nat.le_of_ble_eq_true rfl) (bX9_detach hd b _ h rfl)
theorem dX9_proveText_0 : decode cX9_proveText 0 = .ok (.aload_n 0, 1) := by decide +kernel
theorem dX9_proveText_1 : decode cX9_proveText 1 = .ok (.getfield 22, 3) := by decide +kernel
theorem dX9_proveText_4 : decode cX9_proveText 4 = .ok (.invokevirtual 114, 3) := by decide +kernel
theorem dX9_proveText_7 : decode cX9_proveText 7 = .ok (.istore_n 1, 1) := by decide +kernel
theorem dX9_proveText_8 : decode cX9_proveText 8 = .ok (.iconst 0, 1) := by decide +kernel
theorem dX9_proveText_9 : decode cX9_proveText 9 = .ok (.istore_n 2, 1) := by decide +kernel
theorem dX9_proveText_10 : decode cX9_proveText 10 = .ok (.iconst (-1), 1) := by decide +kernel
theorem dX9_proveText_11 : decode cX9_proveText 11 = .ok (.istore_n 3, 1) := by decide +kernel
theorem dX9_proveText_12 : decode cX9_proveText 12 = .ok (.iconst 0, 1) := by decide +kernel
theorem dX9_proveText_13 : decode cX9_proveText 13 = .ok (.istore 4, 2) := by decide +kernel
theorem dX9_proveText_15 : decode cX9_proveText 15 = .ok (.iload 4, 2) := by decide +kernel
theorem dX9_proveText_17 : decode cX9_proveText 17 = .ok (.aload_n 0, 1) := by decide +kernel
theorem dX9_proveText_18 : decode cX9_proveText 18 = .ok (.getfield 12, 3) := by decide +kernel
theorem dX9_proveText_21 : decode cX9_proveText 21 = .ok (.invokevirtual 88, 3) := by decide +kernel
theorem dX9_proveText_24 : decode cX9_proveText 24 = .ok (.if_icmp .ge 107, 3) := by decide +kernel
theorem dX9_proveText_27 : decode cX9_proveText 27 = .ok (.aload_n 0, 1) := by decide +kernel
theorem dX9_proveText_28 : decode cX9_proveText 28 = .ok (.getfield 12, 3) := by decide +kernel
theorem dX9_proveText_31 : decode cX9_proveText 31 = .ok (.iload 4, 2) := by decide +kernel
theorem dX9_proveText_33 : decode cX9_proveText 33 = .ok (.invokevirtual 167, 3) := by decide +kernel
theorem dX9_proveText_36 : decode cX9_proveText 36 = .ok (.bipush 68, 2) := by decide +kernel
theorem dX9_proveText_38 : decode cX9_proveText 38 = .ok (.if_icmp .ne 16, 3) := by decide +kernel
theorem dX9_proveText_41 : decode cX9_proveText 41 = .ok (.aload_n 0, 1) := by decide +kernel
theorem dX9_proveText_42 : decode cX9_proveText 42 = .ok (.getfield 85, 3) := by decide +kernel
theorem dX9_proveText_45 : decode cX9_proveText 45 = .ok (.iload_n 2, 1) := by decide +kernel
theorem dX9_proveText_46 : decode cX9_proveText 46 = .ok (.iconst (-1), 1) := by decide +kernel
theorem dX9_proveText_47 : decode cX9_proveText 47 = .ok (.iastore, 1) := by decide +kernel
theorem dX9_proveText_48 : decode cX9_proveText 48 = .ok (.iinc 2 1, 3) := by decide +kernel
theorem dX9_proveText_51 : decode cX9_proveText 51 = .ok (.goto 74, 3) := by decide +kernel
theorem dX9_proveText_54 : decode cX9_proveText 54 = .ok (.aload_n 0, 1) := by decide +kernel
theorem dX9_proveText_55 : decode cX9_proveText 55 = .ok (.getfield 12, 3) := by decide +kernel
theorem dX9_proveText_58 : decode cX9_proveText 58 = .ok (.iload 4, 2) := by decide +kernel
theorem dX9_proveText_60 : decode cX9_proveText 60 = .ok (.invokevirtual 167, 3) := by decide +kernel
theorem dX9_proveText_63 : decode cX9_proveText 63 = .ok (.bipush 49, 2) := by decide +kernel
theorem dX9_proveText_65 : decode cX9_proveText 65 = .ok (.isub, 1) := by decide +kernel
theorem dX9_proveText_66 : decode cX9_proveText 66 = .ok (.istore_n 3, 1) := by decide +kernel
theorem dX9_proveText_67 : decode cX9_proveText 67 = .ok (.iload_n 2, 1) := by decide +kernel
theorem dX9_proveText_68 : decode cX9_proveText 68 = .ok (.ifCond .le 44, 3) := by decide +kernel
theorem dX9_proveText_71 : decode cX9_proveText 71 = .ok (.aload_n 0, 1) := by decide +kernel
theorem dX9_proveText_72 : decode cX9_proveText 72 = .ok (.getfield 85, 3) := by decide +kernel
theorem dX9_proveText_75 : decode cX9_proveText 75 = .ok (.iload_n 2, 1) := by decide +kernel
theorem dX9_proveText_76 : decode cX9_proveText 76 = .ok (.iconst 1, 1) := by decide +kernel
theorem dX9_proveText_77 : decode cX9_proveText 77 = .ok (.isub, 1) := by decide +kernel
theorem dX9_proveText_78 : decode cX9_proveText 78 = .ok (.iaload, 1) := by decide +kernel
theorem dX9_proveText_79 : decode cX9_proveText 79 = .ok (.iconst (-1), 1) := by decide +kernel
theorem dX9_proveText_80 : decode cX9_proveText 80 = .ok (.if_icmp .eq 32, 3) := by decide +kernel
theorem dX9_proveText_83 : decode cX9_proveText 83 = .ok (.iinc 2 (-1), 3) := by decide +kernel
theorem dX9_proveText_86 : decode cX9_proveText 86 = .ok (.aload_n 0, 1) := by decide +kernel
theorem dX9_proveText_87 : decode cX9_proveText 87 = .ok (.aload_n 0, 1) := by decide +kernel
theorem dX9_proveText_88 : decode cX9_proveText 88 = .ok (.getfield 85, 3) := by decide +kernel
theorem dX9_proveText_91 : decode cX9_proveText 91 = .ok (.iload_n 2, 1) := by decide +kernel
theorem dX9_proveText_92 : decode cX9_proveText 92 = .ok (.iaload, 1) := by decide +kernel
theorem dX9_proveText_93 : decode cX9_proveText 93 = .ok (.iload_n 3, 1) := by decide +kernel
theorem dX9_proveText_94 : decode cX9_proveText 94 = .ok (.invokevirtual 110, 3) := by decide +kernel
theorem dX9_proveText_97 : decode cX9_proveText 97 = .ok (.istore_n 3, 1) := by decide +kernel
theorem dX9_proveText_98 : decode cX9_proveText 98 = .ok (.iload_n 3, 1) := by decide +kernel
theorem dX9_proveText_99 : decode cX9_proveText 99 = .ok (.ifCond .ge (-32), 3) := by decide +kernel
theorem dX9_proveText_102 : decode cX9_proveText 102 = .ok (.aload_n 0, 1) := by decide +kernel
theorem dX9_proveText_103 : decode cX9_proveText 103 = .ok (.getfield 22, 3) := by decide +kernel
theorem dX9_proveText_106 : decode cX9_proveText 106 = .ok (.iload_n 1, 1) := by decide +kernel
theorem dX9_proveText_107 : decode cX9_proveText 107 = .ok (.invokevirtual 125, 3) := by decide +kernel
theorem dX9_proveText_110 : decode cX9_proveText 110 = .ok (.iload_n 3, 1) := by decide +kernel
theorem dX9_proveText_111 : decode cX9_proveText 111 = .ok (.ireturn, 1) := by decide +kernel
theorem dX9_proveText_112 : decode cX9_proveText 112 = .ok (.iload_n 2, 1) := by decide +kernel
theorem dX9_proveText_113 : decode cX9_proveText 113 = .ok (.ifCond .le 12, 3) := by decide +kernel
theorem dX9_proveText_116 : decode cX9_proveText 116 = .ok (.aload_n 0, 1) := by decide +kernel
theorem dX9_proveText_117 : decode cX9_proveText 117 = .ok (.getfield 85, 3) := by decide +kernel
theorem dX9_proveText_120 : decode cX9_proveText 120 = .ok (.iload_n 2, 1) := by decide +kernel
theorem dX9_proveText_121 : decode cX9_proveText 121 = .ok (.iconst 1, 1) := by decide +kernel
theorem dX9_proveText_122 : decode cX9_proveText 122 = .ok (.isub, 1) := by decide +kernel
theorem dX9_proveText_123 : decode cX9_proveText 123 = .ok (.iload_n 3, 1) := by decide +kernel
theorem dX9_proveText_124 : decode cX9_proveText 124 = .ok (.iastore, 1) := by decide +kernel
theorem dX9_proveText_125 : decode cX9_proveText 125 = .ok (.iinc 4 1, 3) := by decide +kernel
theorem dX9_proveText_128 : decode cX9_proveText 128 = .ok (.goto (-113), 3) := by decide +kernel
theorem dX9_proveText_131 : decode cX9_proveText 131 = .ok (.iload_n 3, 1) := by decide +kernel
theorem dX9_proveText_132 : decode cX9_proveText 132 = .ok (.ireturn, 1) := by decide +kernel
def lX9_proveText_67 (N : Nat) (v0 : Nat) (v1 : Int32) (v4 : Int32) : Nat → Int32 → Int32 → qM → Option ((Int32 × Int32 × qM) ⊕ (Int32 × qM))
  | 0, _, _, _ => none
  | n + 1, v2, v3, m0 =>
    if v2 ≤ 0 then (
    some (.inl (v2, v3, m0))
    ) else (
    (qgR m0 v0 9 12).bind fun x1 =>
    (qaI m0 x1 12 (v2 - (1 : Int32))).bind fun x2 =>
    if x2 = (-1 : Int32) then (
    some (.inl (v2, v3, m0))
    ) else (
    (qgR m0 v0 9 12).bind fun x3 =>
    (qaI m0 x3 12 (v2 + (-1 : Int32))).bind fun x4 =>
    (qChk m0 v0 9 (fX9_derive N v0 x4 v3 m0)).bind fun b5 =>
    if 0 ≤ b5.1 then (
    lX9_proveText_67 N v0 v1 v4 n (v2 + (-1 : Int32)) b5.1 b5.2
    ) else (
    (qgR b5.2 v0 9 2).bind fun x6 =>
    (qChk b5.2 x6 1 (fX1_shrinkTo N x6 v1 b5.2)).bind fun b7 =>
    some (.inr (b5.1, b7))
    )
    )
    )
set_option maxRecDepth 100000 in
theorem lbX9_proveText_67 {E : qE} {N d bc bs : Nat} (hd : 6 ≤ d) {v0 : Nat} {v1 : Int32} {v4 : Int32} : ∀ (n : Nat) (v2 : Int32) (v3 : Int32) (m0 : qM), qB E yX9_proveText cX9_proveText 5 (some .int) (fun _ => True) d bc bs 67 [(0, .ref (E.2.1 + v0)), (1, .int v1), (2, .int v2), (3, .int v3), (4, .int v4)] [] m0 (lX9_proveText_67 N v0 v1 v4 n v2 v3 m0) (qGL (fun o rr => qJ E yX9_proveText cX9_proveText 5 (some .int) (fun _ => True) d bc bs 112 [(0, .ref (E.2.1 + v0)), (1, .int v1), (2, .int o.1), (3, .int o.2.1), (4, .int v4)] [] o.2.2 rr) (fun r => (some (.int r.1), r.2))) := by
  intro n
  induction n with
  | zero =>
    intro v2 v3 m0
    exact j_none
  | succ n ih =>
    intro v2 v3 m0
    unfold lX9_proveText_67
    refine j_iload_n (q := 2) (np := 68) rfl rfl dX9_proveText_67 rfl ?_
    refine j_if_le (tgt := 112) (np := 71) dX9_proveText_68 rfl rfl ?_ ?_
    · exact j_exit (fun rr h => h)
    · refine j_aload_n (q := 0) (np := 72) rfl rfl dX9_proveText_71 rfl ?_
      refine j_gR (np := 75) flX9_85 dX9_proveText_72 rfl (fun x1 => ?_)
      refine j_iload_n (q := 2) (np := 76) rfl rfl dX9_proveText_75 rfl ?_
      refine j_iconst (np := 77) ci_1 dX9_proveText_76 rfl ?_
      refine j_isub (np := 78) dX9_proveText_77 rfl ?_
      refine j_iaload (np := 79) dX9_proveText_78 rfl (fun x2 => ?_)
      refine j_iconst (np := 80) ci_m1 dX9_proveText_79 rfl ?_
      refine j_icmp_eq (tgt := 112) (np := 83) dX9_proveText_80 rfl rfl ?_ ?_
      · exact j_exit (fun rr h => h)
      · refine j_iinc (q := 2) (np := 86) (lv2 := [(2, .int (v2 + (-1 : Int32))), (0, .ref (E.2.1 + v0)), (1, .int v1), (3, .int v3), (4, .int v4)]) rfl (congrArg _ ci_m1) (by decide) dX9_proveText_83 rfl rfl ?_
        refine j_aload_n (q := 1) (np := 87) rfl rfl dX9_proveText_86 rfl ?_
        refine j_aload_n (q := 1) (np := 88) rfl rfl dX9_proveText_87 rfl ?_
        refine j_gR (np := 91) flX9_85 dX9_proveText_88 rfl (fun x3 => ?_)
        refine j_iload_n (q := 0) (np := 92) rfl rfl dX9_proveText_91 rfl ?_
        refine j_iaload (np := 93) dX9_proveText_92 rfl (fun x4 => ?_)
        refine j_iload_n (q := 3) (np := 94) rfl rfl dX9_proveText_93 rfl ?_
        refine j_callVi (ci := 9) (np := 97) (bc := bc) (bs := bs) (cb := 0) (cs := 0) (dd := d - 1) (As := [.int x4, .int v3]) (st := []) caX9_derive mlX9_110 imX9_derive seX9_derive rfl rfl (by decide) (fun b hb => wX9_derive (by omega) hb) (by omega) rfl rfl (Nat.le_of_ble_eq_true rfl) dX9_proveText_94 rfl (fun b5 => ?_)
        refine j_istore_n (np := 98) (lv2 := [(3, .int b5.1), (2, .int (v2 + (-1 : Int32))), (0, .ref (E.2.1 + v0)), (1, .int v1), (4, .int v4)]) rfl (by decide) dX9_proveText_97 rfl rfl ?_
        refine j_iload_n (q := 0) (np := 99) rfl rfl dX9_proveText_98 rfl ?_
        refine j_if_ge (tgt := 67) (np := 102) dX9_proveText_99 rfl rfl ?_ ?_
        · refine j_sub (lv2 := [(0, .ref (E.2.1 + v0)), (1, .int v1), (2, .int (v2 + (-1 : Int32))), (3, .int b5.1), (4, .int v4)]) [2, 3, 1, 0, 4] rfl ?_
          exact ih _ _ _
        · refine j_aload_n (q := 2) (np := 103) rfl rfl dX9_proveText_102 rfl ?_
          refine j_gR (np := 106) flX9_22 dX9_proveText_103 rfl (fun x6 => ?_)
          refine j_iload_n (q := 3) (np := 107) rfl rfl dX9_proveText_106 rfl ?_
          refine j_callVv (ci := 1) (np := 110) (bc := bc) (bs := bs) (cb := 0) (cs := 0) (dd := d - 1) (As := [.int v1]) (st := []) caX1_shrinkTo mlX9_125 imX1_shrinkTo seX1_shrinkTo rfl rfl (by decide) (fun b hb => wX1_shrinkTo (by omega) hb) (by omega) rfl rfl (Nat.le_of_ble_eq_true rfl) dX9_proveText_107 rfl (fun b7 => ?_)
          refine j_iload_n (q := 0) (np := 111) rfl rfl dX9_proveText_110 rfl ?_
          exact j_iret rfl dX9_proveText_111 (fun rr h => h)
def kX9_proveText_125 (N : Nat) (rec : Int32 → Int32 → Int32 → qM → Option ((Int32 × qM) ⊕ (Int32 × qM))) (v0 : Nat) (v1 : Int32) (v2 : Int32) (v3 : Int32) (v4 : Int32)  (m0 : qM) : Option ((Int32 × qM) ⊕ (Int32 × qM)) :=
  rec v2 v3 (v4 + (1 : Int32)) m0
set_option maxRecDepth 100000 in
theorem kbX9_proveText_125 {E : qE} {N d bc bs : Nat} (hd : 6 ≤ d) {v0 : Nat} {v1 : Int32} {v2 : Int32} {v3 : Int32} {v4 : Int32}  {m0 : qM} {rec : Int32 → Int32 → Int32 → qM → Option ((Int32 × qM) ⊕ (Int32 × qM))} (hrec : ∀ (v2 : Int32) (v3 : Int32) (v4 : Int32) (m : qM), qB E yX9_proveText cX9_proveText 5 (some .int) (fun _ => True) d bc bs 15 [(0, .ref (E.2.1 + v0)), (1, .int v1), (2, .int v2), (3, .int v3), (4, .int v4)] [] m (rec v2 v3 v4 m) (qGL (fun o rr => qJ E yX9_proveText cX9_proveText 5 (some .int) (fun _ => True) d bc bs 131 [(3, .int o.1)] [] o.2 rr) (fun r => (some (.int r.1), r.2)))) : qB E yX9_proveText cX9_proveText 5 (some .int) (fun _ => True) d bc bs 125 [(0, .ref (E.2.1 + v0)), (1, .int v1), (2, .int v2), (3, .int v3), (4, .int v4)] [] m0 (kX9_proveText_125 N rec v0 v1 v2 v3 v4 m0) (qGL (fun o rr => qJ E yX9_proveText cX9_proveText 5 (some .int) (fun _ => True) d bc bs 131 [(3, .int o.1)] [] o.2 rr) (fun r => (some (.int r.1), r.2))) := by
  unfold kX9_proveText_125
  refine j_iinc (q := 4) (np := 128) (lv2 := [(4, .int (v4 + (1 : Int32))), (0, .ref (E.2.1 + v0)), (1, .int v1), (2, .int v2), (3, .int v3)]) rfl (congrArg _ ci_1) (by decide) dX9_proveText_125 rfl rfl ?_
  refine j_goto (tgt := 15) dX9_proveText_128 rfl ?_
  refine j_sub (lv2 := [(0, .ref (E.2.1 + v0)), (1, .int v1), (2, .int v2), (3, .int v3), (4, .int (v4 + (1 : Int32)))]) [1, 2, 3, 4, 0] rfl ?_
  exact hrec _ _ _ _
def lX9_proveText_15 (N : Nat) (v0 : Nat) (v1 : Int32) : Nat → Int32 → Int32 → Int32 → qM → Option ((Int32 × qM) ⊕ (Int32 × qM))
  | 0, _, _, _, _ => none
  | n + 1, v2, v3, v4, m0 =>
    (qgR m0 v0 9 0).bind fun x1 =>
    (qChk m0 x1 7 (fX7_length N x1 m0)).bind fun b2 =>
    if b2.1 ≤ v4 then (
    some (.inl (v3, b2.2))
    ) else (
    (qgR b2.2 v0 9 0).bind fun x3 =>
    (qChk b2.2 x3 7 (fX7_at N x3 v4 b2.2)).bind fun b4 =>
    if b4.1 = (68 : Int32) then (
    (qgR b4.2 v0 9 12).bind fun x10 =>
    (qwI b4.2 x10 12 v2 (-1 : Int32)).bind fun m11 =>
    kX9_proveText_125 N (lX9_proveText_15 N v0 v1 n) v0 v1 (v2 + (1 : Int32)) v3 v4 m11
    ) else (
    (qgR b4.2 v0 9 0).bind fun x5 =>
    (qChk b4.2 x5 7 (fX7_at N x5 v4 b4.2)).bind fun b6 =>
    qTh (lX9_proveText_67 N v0 v1 v4 N v2 (b6.1 - (49 : Int32)) b6.2) (fun o7 =>
    if o7.1 ≤ 0 then (
    kX9_proveText_125 N (lX9_proveText_15 N v0 v1 n) v0 v1 o7.1 o7.2.1 v4 o7.2.2
    ) else (
    (qgR o7.2.2 v0 9 12).bind fun x8 =>
    (qwI o7.2.2 x8 12 (o7.1 - (1 : Int32)) o7.2.1).bind fun m9 =>
    kX9_proveText_125 N (lX9_proveText_15 N v0 v1 n) v0 v1 o7.1 o7.2.1 v4 m9
    )
    ) (fun r => .inr r)
    )
    )
set_option maxRecDepth 100000 in
theorem lbX9_proveText_15 {E : qE} {N d bc bs : Nat} (hd : 6 ≤ d) {v0 : Nat} {v1 : Int32} : ∀ (n : Nat) (v2 : Int32) (v3 : Int32) (v4 : Int32) (m0 : qM), qB E yX9_proveText cX9_proveText 5 (some .int) (fun _ => True) d bc bs 15 [(0, .ref (E.2.1 + v0)), (1, .int v1), (2, .int v2), (3, .int v3), (4, .int v4)] [] m0 (lX9_proveText_15 N v0 v1 n v2 v3 v4 m0) (qGL (fun o rr => qJ E yX9_proveText cX9_proveText 5 (some .int) (fun _ => True) d bc bs 131 [(3, .int o.1)] [] o.2 rr) (fun r => (some (.int r.1), r.2))) := by
  intro n
  induction n with
  | zero =>
    intro v2 v3 v4 m0
    exact j_none
  | succ n ih =>
    intro v2 v3 v4 m0
    unfold lX9_proveText_15
    refine j_iload (q := 4) (np := 17) rfl dX9_proveText_15 rfl ?_
    refine j_aload_n (q := 0) (np := 18) rfl rfl dX9_proveText_17 rfl ?_
    refine j_gR (np := 21) flX9_12 dX9_proveText_18 rfl (fun x1 => ?_)
    refine j_callVi (ci := 7) (np := 24) (bc := bc) (bs := bs) (cb := 0) (cs := 0) (dd := d - 1) (As := []) (st := [.int v4]) caX7_length mlX9_88 imX7_length seX7_length rfl rfl (by decide) (fun b hb => wX7_length (by omega) hb) (by omega) rfl rfl (Nat.le_of_ble_eq_true rfl) dX9_proveText_21 rfl (fun b2 => ?_)
    refine j_icmp_ge (tgt := 131) (np := 27) dX9_proveText_24 rfl rfl ?_ ?_
    · refine j_sub (lv2 := [(3, .int v3)]) [3] rfl ?_
      exact j_exit (fun rr h => h)
    · refine j_aload_n (q := 0) (np := 28) rfl rfl dX9_proveText_27 rfl ?_
      refine j_gR (np := 31) flX9_12 dX9_proveText_28 rfl (fun x3 => ?_)
      refine j_iload (q := 4) (np := 33) rfl dX9_proveText_31 rfl ?_
      refine j_callVi (ci := 7) (np := 36) (bc := bc) (bs := bs) (cb := 0) (cs := 0) (dd := d - 1) (As := [.int v4]) (st := []) caX7_at mlX9_167 imX7_at seX7_at rfl rfl (by decide) (fun b hb => wX7_at (by omega) hb) (by omega) rfl rfl (Nat.le_of_ble_eq_true rfl) dX9_proveText_33 rfl (fun b4 => ?_)
      refine j_bipush (np := 38) cb_68 dX9_proveText_36 rfl ?_
      refine j_icmp_ne (tgt := 54) (np := 41) dX9_proveText_38 rfl rfl ?_ ?_
      · refine j_aload_n (q := 0) (np := 55) rfl rfl dX9_proveText_54 rfl ?_
        refine j_gR (np := 58) flX9_12 dX9_proveText_55 rfl (fun x5 => ?_)
        refine j_iload (q := 4) (np := 60) rfl dX9_proveText_58 rfl ?_
        refine j_callVi (ci := 7) (np := 63) (bc := bc) (bs := bs) (cb := 0) (cs := 0) (dd := d - 1) (As := [.int v4]) (st := []) caX7_at mlX9_167 imX7_at seX7_at rfl rfl (by decide) (fun b hb => wX7_at (by omega) hb) (by omega) rfl rfl (Nat.le_of_ble_eq_true rfl) dX9_proveText_60 rfl (fun b6 => ?_)
        refine j_bipush (np := 65) cb_49 dX9_proveText_63 rfl ?_
        refine j_isub (np := 66) dX9_proveText_65 rfl ?_
        refine j_istore_n (np := 67) (lv2 := [(3, .int (b6.1 - (49 : Int32))), (0, .ref (E.2.1 + v0)), (1, .int v1), (2, .int v2), (4, .int v4)]) rfl (by decide) dX9_proveText_66 rfl rfl ?_
        refine j_sub (lv2 := [(0, .ref (E.2.1 + v0)), (1, .int v1), (2, .int v2), (3, .int (b6.1 - (49 : Int32))), (4, .int v4)]) [1, 2, 3, 0, 4] rfl ?_
        refine j_loopG (xp := 112) (lvX := fun o7 => [(0, .ref (E.2.1 + v0)), (1, .int v1), (2, .int o7.1), (3, .int o7.2.1), (4, .int v4)]) (mX := fun o7 => o7.2.2) (lbX9_proveText_67 hd _ _ _ _) (fun r rr h => h) (fun o7 => ?_)
        refine j_iload_n (q := 2) (np := 113) rfl rfl dX9_proveText_112 rfl ?_
        refine j_if_le (tgt := 125) (np := 116) dX9_proveText_113 rfl rfl ?_ ?_
        · exact kbX9_proveText_125 hd ih
        · refine j_aload_n (q := 0) (np := 117) rfl rfl dX9_proveText_116 rfl ?_
          refine j_gR (np := 120) flX9_85 dX9_proveText_117 rfl (fun x8 => ?_)
          refine j_iload_n (q := 2) (np := 121) rfl rfl dX9_proveText_120 rfl ?_
          refine j_iconst (np := 122) ci_1 dX9_proveText_121 rfl ?_
          refine j_isub (np := 123) dX9_proveText_122 rfl ?_
          refine j_iload_n (q := 3) (np := 124) rfl rfl dX9_proveText_123 rfl ?_
          refine j_iastore (np := 125) dX9_proveText_124 rfl (fun m9 => ?_)
          exact kbX9_proveText_125 hd ih
      · refine j_aload_n (q := 0) (np := 42) rfl rfl dX9_proveText_41 rfl ?_
        refine j_gR (np := 45) flX9_85 dX9_proveText_42 rfl (fun x10 => ?_)
        refine j_iload_n (q := 2) (np := 46) rfl rfl dX9_proveText_45 rfl ?_
        refine j_iconst (np := 47) ci_m1 dX9_proveText_46 rfl ?_
        refine j_iastore (np := 48) dX9_proveText_47 rfl (fun m11 => ?_)
        refine j_iinc (q := 2) (np := 51) (lv2 := [(2, .int (v2 + (1 : Int32))), (0, .ref (E.2.1 + v0)), (1, .int v1), (3, .int v3), (4, .int v4)]) rfl (congrArg _ ci_1) (by decide) dX9_proveText_48 rfl rfl ?_
        refine j_goto (tgt := 125) dX9_proveText_51 rfl ?_
        refine j_sub (lv2 := [(0, .ref (E.2.1 + v0)), (1, .int v1), (2, .int (v2 + (1 : Int32))), (3, .int v3), (4, .int v4)]) [1, 2, 0, 3, 4] rfl ?_
        exact kbX9_proveText_125 hd ih
def fX9_proveText (N : Nat) (v0 : Nat) (m0 : qM) : Option (Int32 × qM) :=
  (qgR m0 v0 9 2).bind fun x1 =>
  (qChk m0 x1 1 (fX1_count N x1 m0)).bind fun b2 =>
  qTh (lX9_proveText_15 N v0 b2.1 N (0 : Int32) (-1 : Int32) (0 : Int32) b2.2) (fun o3 =>
  some (o3.1, o3.2)
  ) (fun r => r)
set_option maxRecDepth 100000 in
theorem bX9_proveText {E : qE} {N d bc bs : Nat} (hd : 6 ≤ d) {v0 : Nat} {m0 : qM} : qB E yX9_proveText cX9_proveText 5 (some .int) (fun _ => True) d bc bs 0 [(0, .ref (E.2.1 + v0))] [] m0 (fX9_proveText N v0 m0) (fun b rr => rr = (some (.int b.1), b.2)) := by
  unfold fX9_proveText
  refine j_aload_n (q := 0) (np := 1) rfl rfl dX9_proveText_0 rfl ?_
  refine j_gR (np := 4) flX9_22 dX9_proveText_1 rfl (fun x1 => ?_)
  refine j_callVi (ci := 1) (np := 7) (bc := bc) (bs := bs) (cb := 0) (cs := 0) (dd := d - 1) (As := []) (st := []) caX1_count mlX9_114 imX1_count seX1_count rfl rfl (by decide) (fun b hb => wX1_count (by omega) hb) (by omega) rfl rfl (Nat.le_of_ble_eq_true rfl) dX9_proveText_4 rfl (fun b2 => ?_)
  refine j_istore_n (np := 8) (lv2 := [(1, .int b2.1), (0, .ref (E.2.1 + v0))]) rfl (by decide) dX9_proveText_7 rfl rfl ?_
  refine j_iconst (np := 9) ci_0 dX9_proveText_8 rfl ?_
  refine j_istore_n (np := 10) (lv2 := [(2, .int (0 : Int32)), (1, .int b2.1), (0, .ref (E.2.1 + v0))]) rfl (by decide) dX9_proveText_9 rfl rfl ?_
  refine j_iconst (np := 11) ci_m1 dX9_proveText_10 rfl ?_
  refine j_istore_n (np := 12) (lv2 := [(3, .int (-1 : Int32)), (2, .int (0 : Int32)), (1, .int b2.1), (0, .ref (E.2.1 + v0))]) rfl (by decide) dX9_proveText_11 rfl rfl ?_
  refine j_iconst (np := 13) ci_0 dX9_proveText_12 rfl ?_
  refine j_istore (np := 15) (lv2 := [(4, .int (0 : Int32)), (3, .int (-1 : Int32)), (2, .int (0 : Int32)), (1, .int b2.1), (0, .ref (E.2.1 + v0))]) (by decide) dX9_proveText_13 rfl rfl ?_
  refine j_sub (lv2 := [(0, .ref (E.2.1 + v0)), (1, .int b2.1), (2, .int (0 : Int32)), (3, .int (-1 : Int32)), (4, .int (0 : Int32))]) [4, 3, 2, 1, 0] rfl ?_
  refine j_loopG (xp := 131) (lvX := fun o3 => [(3, .int o3.1)]) (mX := fun o3 => o3.2) (lbX9_proveText_15 hd _ _ _ _ _) (fun r rr h => h) (fun o3 => ?_)
  refine j_iload_n (q := 0) (np := 132) rfl rfl dX9_proveText_131 rfl ?_
  exact j_iret rfl dX9_proveText_132 (fun rr h => h)
set_option maxRecDepth 100000 in
theorem wX9_proveText {E : qE} {N d : Nat} (hd : 6 ≤ d) {v0 : Nat} {m0 : qM} {b : Int32 × qM} (h : fX9_proveText N v0 m0 = some b) : qRun E yX9_proveText cX9_proveText 5 (some .int) d 0 0 [.ref (E.2.1 + v0)] m0 (some (.int b.1), b.2) := q_met pnX9 (Nat.le_of_ble_eq_true rfl) (bX9_proveText hd b _ h rfl)
theorem dX9_prove_0 : decode cX9_prove 0 = .ok (.bipush 48, 2) := by decide +kernel
theorem dX9_prove_2 : decode cX9_prove 2 = .ok (.bipush 9, 2) := by decide +kernel
theorem dX9_prove_4 : decode cX9_prove 4 = .ok (.aload_n 0, 1) := by decide +kernel
theorem dX9_prove_5 : decode cX9_prove 5 = .ok (.getfield 22, 3) := by decide +kernel
theorem dX9_prove_8 : decode cX9_prove 8 = .ok (.invokevirtual 114, 3) := by decide +kernel
theorem dX9_prove_11 : decode cX9_prove 11 = .ok (.invokestatic 117, 3) := by decide +kernel
theorem dX9_prove_14 : decode cX9_prove 14 = .ok (.iadd, 1) := by decide +kernel
theorem dX9_prove_15 : decode cX9_prove 15 = .ok (.i2c, 1) := by decide +kernel
theorem dX9_prove_16 : decode cX9_prove 16 = .ok (.istore_n 1, 1) := by decide +kernel
theorem dX9_prove_17 : decode cX9_prove 17 = .ok (.aload_n 0, 1) := by decide +kernel
theorem dX9_prove_18 : decode cX9_prove 18 = .ok (.bipush 68, 2) := by decide +kernel
theorem dX9_prove_20 : decode cX9_prove 20 = .ok (.bipush 49, 2) := by decide +kernel
theorem dX9_prove_22 : decode cX9_prove 22 = .ok (.iload_n 1, 1) := by decide +kernel
theorem dX9_prove_23 : decode cX9_prove 23 = .ok (.invokevirtual 99, 3) := by decide +kernel
theorem dX9_prove_26 : decode cX9_prove 26 = .ok (.istore_n 2, 1) := by decide +kernel
theorem dX9_prove_27 : decode cX9_prove 27 = .ok (.iload_n 2, 1) := by decide +kernel
theorem dX9_prove_28 : decode cX9_prove 28 = .ok (.iconst (-1), 1) := by decide +kernel
theorem dX9_prove_29 : decode cX9_prove 29 = .ok (.if_icmp .ne 10, 3) := by decide +kernel
theorem dX9_prove_32 : decode cX9_prove 32 = .ok (.aload_n 0, 1) := by decide +kernel
theorem dX9_prove_33 : decode cX9_prove 33 = .ok (.invokevirtual 122, 3) := by decide +kernel
theorem dX9_prove_36 : decode cX9_prove 36 = .ok (.goto 7, 3) := by decide +kernel
theorem dX9_prove_39 : decode cX9_prove 39 = .ok (.bipush (-100), 2) := by decide +kernel
theorem dX9_prove_41 : decode cX9_prove 41 = .ok (.iload_n 2, 1) := by decide +kernel
theorem dX9_prove_42 : decode cX9_prove 42 = .ok (.isub, 1) := by decide +kernel
theorem dX9_prove_43 : decode cX9_prove 43 = .ok (.istore_n 3, 1) := by decide +kernel
theorem dX9_prove_44 : decode cX9_prove 44 = .ok (.aload_n 0, 1) := by decide +kernel
theorem dX9_prove_45 : decode cX9_prove 45 = .ok (.getfield 12, 3) := by decide +kernel
theorem dX9_prove_48 : decode cX9_prove 48 = .ok (.invokevirtual 96, 3) := by decide +kernel
theorem dX9_prove_51 : decode cX9_prove 51 = .ok (.iload_n 3, 1) := by decide +kernel
theorem dX9_prove_52 : decode cX9_prove 52 = .ok (.ireturn, 1) := by decide +kernel
def kX9_prove_43 (N : Nat) (v0 : Nat) (s0 : Int32) (m0 : qM) : Option (Int32 × qM) :=
  (qgR m0 v0 9 0).bind fun x1 =>
  (qChk m0 x1 7 (fX7_makeEmpty N x1 m0)).bind fun b2 =>
  some (s0, b2)
set_option maxRecDepth 100000 in
theorem kbX9_prove_43 {E : qE} {N d bc bs : Nat} (hd : 7 ≤ d) {v0 : Nat} {s0 : Int32} {m0 : qM} : qB E yX9_prove cX9_prove 4 (some .int) (fun _ => True) d bc bs 43 [(0, .ref (E.2.1 + v0))] [.int s0] m0 (kX9_prove_43 N v0 s0 m0) (fun b rr => rr = (some (.int b.1), b.2)) := by
  unfold kX9_prove_43
  refine j_istore_n (np := 44) (lv2 := [(3, .int s0), (0, .ref (E.2.1 + v0))]) rfl (by decide) dX9_prove_43 rfl rfl ?_
  refine j_aload_n (q := 1) (np := 45) rfl rfl dX9_prove_44 rfl ?_
  refine j_gR (np := 48) flX9_12 dX9_prove_45 rfl (fun x1 => ?_)
  refine j_callVv (ci := 7) (np := 51) (bc := bc) (bs := bs) (cb := 0) (cs := 0) (dd := d - 1) (As := []) (st := []) caX7_makeEmpty mlX9_96 imX7_makeEmpty seX7_makeEmpty rfl rfl (by decide) (fun b hb => wX7_makeEmpty (by omega) hb) (by omega) rfl rfl (Nat.le_of_ble_eq_true rfl) dX9_prove_48 rfl (fun b2 => ?_)
  refine j_iload_n (q := 0) (np := 52) rfl rfl dX9_prove_51 rfl ?_
  exact j_iret rfl dX9_prove_52 (fun rr h => h)
def fX9_prove (N : Nat) (v0 : Nat) (m0 : qM) : Option (Int32 × qM) :=
  (qgR m0 v0 9 2).bind fun x1 =>
  (qChk m0 x1 1 (fX1_count N x1 m0)).bind fun b2 =>
  (qChk b2.2 v0 9 (fX9_polishError N v0 (68 : Int32) (49 : Int32) ((((48 : Int32) + (if b2.1 < (9 : Int32) then b2.1 else (9 : Int32))).toUInt32 % 65536).toInt32) b2.2)).bind fun b3 =>
  if b3.1 = (-1 : Int32) then (
  (qChk b3.2 v0 9 (fX9_proveText N v0 b3.2)).bind fun b4 =>
  kX9_prove_43 N v0 b4.1 b4.2
  ) else (
  kX9_prove_43 N v0 ((-100 : Int32) - b3.1) b3.2
  )
set_option maxRecDepth 100000 in
theorem bX9_prove {E : qE} {N d bc bs : Nat} (hd : 7 ≤ d) {v0 : Nat} {m0 : qM} : qB E yX9_prove cX9_prove 4 (some .int) (fun _ => True) d bc bs 0 [(0, .ref (E.2.1 + v0))] [] m0 (fX9_prove N v0 m0) (fun b rr => rr = (some (.int b.1), b.2)) := by
  unfold fX9_prove
  refine j_bipush (np := 2) cb_48 dX9_prove_0 rfl ?_
  refine j_bipush (np := 4) cb_9 dX9_prove_2 rfl ?_
  refine j_aload_n (q := 0) (np := 5) rfl rfl dX9_prove_4 rfl ?_
  refine j_gR (np := 8) flX9_22 dX9_prove_5 rfl (fun x1 => ?_)
  refine j_callVi (ci := 1) (np := 11) (bc := bc) (bs := bs) (cb := 0) (cs := 0) (dd := d - 1) (As := []) (st := [.int (9 : Int32), .int (48 : Int32)]) caX1_count mlX9_114 imX1_count seX1_count rfl rfl (by decide) (fun b hb => wX1_count (by omega) hb) (by omega) rfl rfl (Nat.le_of_ble_eq_true rfl) dX9_prove_8 rfl (fun b2 => ?_)
  refine j_min (np := 14) mlX9_117 stmin inMath cdmin (by omega) (Nat.le_of_ble_eq_true rfl) dX9_prove_11 rfl ?_
  refine j_iadd (np := 15) dX9_prove_14 rfl ?_
  refine j_i2c (np := 16) dX9_prove_15 rfl ?_
  refine j_istore_n (np := 17) (lv2 := [(1, .int ((((48 : Int32) + (if b2.1 < (9 : Int32) then b2.1 else (9 : Int32))).toUInt32 % 65536).toInt32)), (0, .ref (E.2.1 + v0))]) rfl (by decide) dX9_prove_16 rfl rfl ?_
  refine j_aload_n (q := 1) (np := 18) rfl rfl dX9_prove_17 rfl ?_
  refine j_bipush (np := 20) cb_68 dX9_prove_18 rfl ?_
  refine j_bipush (np := 22) cb_49 dX9_prove_20 rfl ?_
  refine j_iload_n (q := 0) (np := 23) rfl rfl dX9_prove_22 rfl ?_
  refine j_callVi (ci := 9) (np := 26) (bc := bc) (bs := bs) (cb := 0) (cs := 0) (dd := d - 1) (As := [.int (68 : Int32), .int (49 : Int32), .int ((((48 : Int32) + (if b2.1 < (9 : Int32) then b2.1 else (9 : Int32))).toUInt32 % 65536).toInt32)]) (st := []) caX9_polishError mlX9_99 imX9_polishError seX9_polishError rfl rfl (by decide) (fun b hb => wX9_polishError (by omega) hb) (by omega) rfl rfl (Nat.le_of_ble_eq_true rfl) dX9_prove_23 rfl (fun b3 => ?_)
  refine j_istore_n (np := 27) (lv2 := [(2, .int b3.1), (1, .int ((((48 : Int32) + (if b2.1 < (9 : Int32) then b2.1 else (9 : Int32))).toUInt32 % 65536).toInt32)), (0, .ref (E.2.1 + v0))]) rfl (by decide) dX9_prove_26 rfl rfl ?_
  refine j_iload_n (q := 0) (np := 28) rfl rfl dX9_prove_27 rfl ?_
  refine j_iconst (np := 29) ci_m1 dX9_prove_28 rfl ?_
  refine j_icmp_ne (tgt := 39) (np := 32) dX9_prove_29 rfl rfl ?_ ?_
  · refine j_bipush (np := 41) cb_m100 dX9_prove_39 rfl ?_
    refine j_iload_n (q := 0) (np := 42) rfl rfl dX9_prove_41 rfl ?_
    refine j_isub (np := 43) dX9_prove_42 rfl ?_
    refine j_sub (lv2 := [(0, .ref (E.2.1 + v0))]) [2] rfl ?_
    exact kbX9_prove_43 hd
  · refine j_aload_n (q := 2) (np := 33) rfl rfl dX9_prove_32 rfl ?_
    refine j_callVi (ci := 9) (np := 36) (bc := bc) (bs := bs) (cb := 0) (cs := 0) (dd := d - 1) (As := []) (st := []) caX9_proveText mlX9_122 imX9_proveText seX9_proveText rfl rfl (by decide) (fun b hb => wX9_proveText (by omega) hb) (by omega) rfl rfl (Nat.le_of_ble_eq_true rfl) dX9_prove_33 rfl (fun b4 => ?_)
    refine j_goto (tgt := 43) dX9_prove_36 rfl ?_
    refine j_sub (lv2 := [(0, .ref (E.2.1 + v0))]) [2] rfl ?_
    exact kbX9_prove_43 hd
set_option maxRecDepth 100000 in
theorem wX9_prove {E : qE} {N d : Nat} (hd : 7 ≤ d) {v0 : Nat} {m0 : qM} {b : Int32 × qM} (h : fX9_prove N v0 m0 = some b) : qRun E yX9_prove cX9_prove 4 (some .int) d 0 0 [.ref (E.2.1 + v0)] m0 (some (.int b.1), b.2) := q_met pnX9 (Nat.le_of_ble_eq_true rfl) (bX9_prove hd b _ h rfl)
theorem dX9_cut_0 : decode cX9_cut 0 = .ok (.aload_n 0, 1) := by decide +kernel
theorem dX9_cut_1 : decode cX9_cut 1 = .ok (.getfield 22, 3) := by decide +kernel
theorem dX9_cut_4 : decode cX9_cut 4 = .ok (.invokevirtual 114, 3) := by decide +kernel
theorem dX9_cut_7 : decode cX9_cut 7 = .ok (.istore_n 2, 1) := by decide +kernel
theorem dX9_cut_8 : decode cX9_cut 8 = .ok (.iload_n 1, 1) := by decide +kernel
theorem dX9_cut_9 : decode cX9_cut 9 = .ok (.ifCond .lt 8, 3) := by decide +kernel
theorem dX9_cut_12 : decode cX9_cut 12 = .ok (.iload_n 1, 1) := by decide +kernel
theorem dX9_cut_13 : decode cX9_cut 13 = .ok (.iload_n 2, 1) := by decide +kernel
theorem dX9_cut_14 : decode cX9_cut 14 = .ok (.if_icmp .le 6, 3) := by decide +kernel
theorem dX9_cut_17 : decode cX9_cut 17 = .ok (.bipush (-2), 2) := by decide +kernel
theorem dX9_cut_19 : decode cX9_cut 19 = .ok (.ireturn, 1) := by decide +kernel
theorem dX9_cut_20 : decode cX9_cut 20 = .ok (.aload_n 0, 1) := by decide +kernel
theorem dX9_cut_21 : decode cX9_cut 21 = .ok (.getfield 22, 3) := by decide +kernel
theorem dX9_cut_24 : decode cX9_cut 24 = .ok (.iload_n 1, 1) := by decide +kernel
theorem dX9_cut_25 : decode cX9_cut 25 = .ok (.invokevirtual 125, 3) := by decide +kernel
theorem dX9_cut_28 : decode cX9_cut 28 = .ok (.iload_n 2, 1) := by decide +kernel
theorem dX9_cut_29 : decode cX9_cut 29 = .ok (.iload_n 1, 1) := by decide +kernel
theorem dX9_cut_30 : decode cX9_cut 30 = .ok (.isub, 1) := by decide +kernel
theorem dX9_cut_31 : decode cX9_cut 31 = .ok (.ireturn, 1) := by decide +kernel
def fX9_cut (N : Nat) (v0 : Nat) (v1 : Int32) (m0 : qM) : Option (Int32 × qM) :=
  (qgR m0 v0 9 2).bind fun x1 =>
  (qChk m0 x1 1 (fX1_count N x1 m0)).bind fun b2 =>
  if v1 < 0 then (
  some ((-2 : Int32), b2.2)
  ) else (
  if v1 ≤ b2.1 then (
  (qgR b2.2 v0 9 2).bind fun x3 =>
  (qChk b2.2 x3 1 (fX1_shrinkTo N x3 v1 b2.2)).bind fun b4 =>
  some (b2.1 - v1, b4)
  ) else (
  some ((-2 : Int32), b2.2)
  )
  )
set_option maxRecDepth 100000 in
theorem bX9_cut {E : qE} {N d bc bs : Nat} (hd : 1 ≤ d) {v0 : Nat} {v1 : Int32} {m0 : qM} : qB E yX9_cut cX9_cut 3 (some .int) (fun _ => True) d bc bs 0 [(0, .ref (E.2.1 + v0)), (1, .int v1)] [] m0 (fX9_cut N v0 v1 m0) (fun b rr => rr = (some (.int b.1), b.2)) := by
  unfold fX9_cut
  refine j_aload_n (q := 0) (np := 1) rfl rfl dX9_cut_0 rfl ?_
  refine j_gR (np := 4) flX9_22 dX9_cut_1 rfl (fun x1 => ?_)
  refine j_callVi (ci := 1) (np := 7) (bc := bc) (bs := bs) (cb := 0) (cs := 0) (dd := d - 1) (As := []) (st := []) caX1_count mlX9_114 imX1_count seX1_count rfl rfl (by decide) (fun b hb => wX1_count (by omega) hb) (by omega) rfl rfl (Nat.le_of_ble_eq_true rfl) dX9_cut_4 rfl (fun b2 => ?_)
  refine j_istore_n (np := 8) (lv2 := [(2, .int b2.1), (0, .ref (E.2.1 + v0)), (1, .int v1)]) rfl (by decide) dX9_cut_7 rfl rfl ?_
  refine j_iload_n (q := 2) (np := 9) rfl rfl dX9_cut_8 rfl ?_
  refine j_if_lt (tgt := 17) (np := 12) dX9_cut_9 rfl rfl ?_ ?_
  · refine j_bipush (np := 19) cb_m2 dX9_cut_17 rfl ?_
    exact j_iret rfl dX9_cut_19 (fun rr h => h)
  · refine j_iload_n (q := 2) (np := 13) rfl rfl dX9_cut_12 rfl ?_
    refine j_iload_n (q := 0) (np := 14) rfl rfl dX9_cut_13 rfl ?_
    refine j_icmp_le (tgt := 20) (np := 17) dX9_cut_14 rfl rfl ?_ ?_
    · refine j_aload_n (q := 1) (np := 21) rfl rfl dX9_cut_20 rfl ?_
      refine j_gR (np := 24) flX9_22 dX9_cut_21 rfl (fun x3 => ?_)
      refine j_iload_n (q := 2) (np := 25) rfl rfl dX9_cut_24 rfl ?_
      refine j_callVv (ci := 1) (np := 28) (bc := bc) (bs := bs) (cb := 0) (cs := 0) (dd := d - 1) (As := [.int v1]) (st := []) caX1_shrinkTo mlX9_125 imX1_shrinkTo seX1_shrinkTo rfl rfl (by decide) (fun b hb => wX1_shrinkTo (by omega) hb) (by omega) rfl rfl (Nat.le_of_ble_eq_true rfl) dX9_cut_25 rfl (fun b4 => ?_)
      refine j_iload_n (q := 0) (np := 29) rfl rfl dX9_cut_28 rfl ?_
      refine j_iload_n (q := 2) (np := 30) rfl rfl dX9_cut_29 rfl ?_
      refine j_isub (np := 31) dX9_cut_30 rfl ?_
      exact j_iret rfl dX9_cut_31 (fun rr h => h)
    · refine j_bipush (np := 19) cb_m2 dX9_cut_17 rfl ?_
      exact j_iret rfl dX9_cut_19 (fun rr h => h)
set_option maxRecDepth 100000 in
theorem wX9_cut {E : qE} {N d : Nat} (hd : 1 ≤ d) {v0 : Nat} {v1 : Int32} {m0 : qM} {b : Int32 × qM} (h : fX9_cut N v0 v1 m0 = some b) : qRun E yX9_cut cX9_cut 3 (some .int) d 0 0 [.ref (E.2.1 + v0), .int v1] m0 (some (.int b.1), b.2) := q_met pnX9 (Nat.le_of_ble_eq_true rfl) (bX9_cut hd b _ h rfl)
theorem dX9_listSize_0 : decode cX9_listSize 0 = .ok (.aload_n 0, 1) := by decide +kernel
theorem dX9_listSize_1 : decode cX9_listSize 1 = .ok (.getfield 22, 3) := by decide +kernel
theorem dX9_listSize_4 : decode cX9_listSize 4 = .ok (.invokevirtual 114, 3) := by decide +kernel
theorem dX9_listSize_7 : decode cX9_listSize 7 = .ok (.ireturn, 1) := by decide +kernel
def fX9_listSize (N : Nat) (v0 : Nat) (m0 : qM) : Option (Int32 × qM) :=
  (qgR m0 v0 9 2).bind fun x1 =>
  (qChk m0 x1 1 (fX1_count N x1 m0)).bind fun b2 =>
  some (b2.1, b2.2)
set_option maxRecDepth 100000 in
theorem bX9_listSize {E : qE} {N d bc bs : Nat} (hd : 1 ≤ d) {v0 : Nat} {m0 : qM} : qB E yX9_listSize cX9_listSize 1 (some .int) (fun _ => True) d bc bs 0 [(0, .ref (E.2.1 + v0))] [] m0 (fX9_listSize N v0 m0) (fun b rr => rr = (some (.int b.1), b.2)) := by
  unfold fX9_listSize
  refine j_aload_n (q := 0) (np := 1) rfl rfl dX9_listSize_0 rfl ?_
  refine j_gR (np := 4) flX9_22 dX9_listSize_1 rfl (fun x1 => ?_)
  refine j_callVi (ci := 1) (np := 7) (bc := bc) (bs := bs) (cb := 0) (cs := 0) (dd := d - 1) (As := []) (st := []) caX1_count mlX9_114 imX1_count seX1_count rfl rfl (by decide) (fun b hb => wX1_count (by omega) hb) (by omega) rfl rfl (Nat.le_of_ble_eq_true rfl) dX9_listSize_4 rfl (fun b2 => ?_)
  exact j_iret rfl dX9_listSize_7 (fun rr h => h)
set_option maxRecDepth 100000 in
theorem wX9_listSize {E : qE} {N d : Nat} (hd : 1 ≤ d) {v0 : Nat} {m0 : qM} {b : Int32 × qM} (h : fX9_listSize N v0 m0 = some b) : qRun E yX9_listSize cX9_listSize 1 (some .int) d 0 0 [.ref (E.2.1 + v0)] m0 (some (.int b.1), b.2) := q_met pnX9 (Nat.le_of_ble_eq_true rfl) (bX9_listSize hd b _ h rfl)
theorem dX9_formulaSize_0 : decode cX9_formulaSize 0 = .ok (.aload_n 0, 1) := by decide +kernel
theorem dX9_formulaSize_1 : decode cX9_formulaSize 1 = .ok (.getfield 22, 3) := by decide +kernel
theorem dX9_formulaSize_4 : decode cX9_formulaSize 4 = .ok (.iload_n 1, 1) := by decide +kernel
theorem dX9_formulaSize_5 : decode cX9_formulaSize 5 = .ok (.invokevirtual 106, 3) := by decide +kernel
theorem dX9_formulaSize_8 : decode cX9_formulaSize 8 = .ok (.ifCond .eq 17, 3) := by decide +kernel
theorem dX9_formulaSize_11 : decode cX9_formulaSize 11 = .ok (.aload_n 0, 1) := by decide +kernel
theorem dX9_formulaSize_12 : decode cX9_formulaSize 12 = .ok (.getfield 22, 3) := by decide +kernel
theorem dX9_formulaSize_15 : decode cX9_formulaSize 15 = .ok (.iload_n 1, 1) := by decide +kernel
theorem dX9_formulaSize_16 : decode cX9_formulaSize 16 = .ok (.invokevirtual 129, 3) := by decide +kernel
theorem dX9_formulaSize_19 : decode cX9_formulaSize 19 = .ok (.invokevirtual 133, 3) := by decide +kernel
theorem dX9_formulaSize_22 : decode cX9_formulaSize 22 = .ok (.goto 4, 3) := by decide +kernel
theorem dX9_formulaSize_25 : decode cX9_formulaSize 25 = .ok (.iconst (-1), 1) := by decide +kernel
theorem dX9_formulaSize_26 : decode cX9_formulaSize 26 = .ok (.ireturn, 1) := by decide +kernel
def fX9_formulaSize (N : Nat) (v0 : Nat) (v1 : Int32) (m0 : qM) : Option (Int32 × qM) :=
  (qgR m0 v0 9 2).bind fun x1 =>
  (qChk m0 x1 1 (fX1_has N x1 v1 m0)).bind fun b2 =>
  if b2.1 = 0 then (
  some ((-1 : Int32), b2.2)
  ) else (
  (qgR b2.2 v0 9 2).bind fun x3 =>
  (qChk b2.2 x3 1 (fX1_at N x3 v1 b2.2)).bind fun b4 =>
  (qChk b4.2 b4.1 0 (fX0_size N b4.1 b4.2)).bind fun b5 =>
  some (b5.1, b5.2)
  )
set_option maxRecDepth 100000 in
theorem bX9_formulaSize {E : qE} {N d bc bs : Nat} (hd : 1 ≤ d) {v0 : Nat} {v1 : Int32} {m0 : qM} : qB E yX9_formulaSize cX9_formulaSize 2 (some .int) (fun _ => True) d bc bs 0 [(0, .ref (E.2.1 + v0)), (1, .int v1)] [] m0 (fX9_formulaSize N v0 v1 m0) (fun b rr => rr = (some (.int b.1), b.2)) := by
  unfold fX9_formulaSize
  refine j_aload_n (q := 0) (np := 1) rfl rfl dX9_formulaSize_0 rfl ?_
  refine j_gR (np := 4) flX9_22 dX9_formulaSize_1 rfl (fun x1 => ?_)
  refine j_iload_n (q := 1) (np := 5) rfl rfl dX9_formulaSize_4 rfl ?_
  refine j_callVi (ci := 1) (np := 8) (bc := bc) (bs := bs) (cb := 0) (cs := 0) (dd := d - 1) (As := [.int v1]) (st := []) caX1_has mlX9_106 imX1_has seX1_has rfl rfl (by decide) (fun b hb => wX1_has (by omega) hb) (by omega) rfl rfl (Nat.le_of_ble_eq_true rfl) dX9_formulaSize_5 rfl (fun b2 => ?_)
  refine j_if_eq (tgt := 25) (np := 11) dX9_formulaSize_8 rfl rfl ?_ ?_
  · refine j_iconst (np := 26) ci_m1 dX9_formulaSize_25 rfl ?_
    exact j_iret rfl dX9_formulaSize_26 (fun rr h => h)
  · refine j_aload_n (q := 0) (np := 12) rfl rfl dX9_formulaSize_11 rfl ?_
    refine j_gR (np := 15) flX9_22 dX9_formulaSize_12 rfl (fun x3 => ?_)
    refine j_iload_n (q := 1) (np := 16) rfl rfl dX9_formulaSize_15 rfl ?_
    refine j_callVr (ci := 1) (np := 19) (bc := bc) (bs := bs) (cb := 0) (cs := 0) (dd := d - 1) (As := [.int v1]) (st := []) caX1_at mlX9_129 imX1_at seX1_at rfl rfl (by decide) (fun b hb => wX1_at (by omega) hb) (by omega) rfl rfl (Nat.le_of_ble_eq_true rfl) dX9_formulaSize_16 rfl (fun b4 => ?_)
    refine j_callVi (ci := 0) (np := 22) (bc := bc) (bs := bs) (cb := 0) (cs := 0) (dd := d - 1) (As := []) (st := []) caX0_size mlX9_133 imX0_size seX0_size rfl rfl (by decide) (fun b hb => wX0_size (by omega) hb) (by omega) rfl rfl (Nat.le_of_ble_eq_true rfl) dX9_formulaSize_19 rfl (fun b5 => ?_)
    refine j_goto (tgt := 26) dX9_formulaSize_22 rfl ?_
    exact j_iret rfl dX9_formulaSize_26 (fun rr h => h)
set_option maxRecDepth 100000 in
theorem wX9_formulaSize {E : qE} {N d : Nat} (hd : 1 ≤ d) {v0 : Nat} {v1 : Int32} {m0 : qM} {b : Int32 × qM} (h : fX9_formulaSize N v0 v1 m0 = some b) : qRun E yX9_formulaSize cX9_formulaSize 2 (some .int) d 0 0 [.ref (E.2.1 + v0), .int v1] m0 (some (.int b.1), b.2) := q_met pnX9 (Nat.le_of_ble_eq_true rfl) (bX9_formulaSize hd b _ h rfl)
theorem dX9_variableCount_0 : decode cX9_variableCount 0 = .ok (.aload_n 0, 1) := by decide +kernel
theorem dX9_variableCount_1 : decode cX9_variableCount 1 = .ok (.getfield 22, 3) := by decide +kernel
theorem dX9_variableCount_4 : decode cX9_variableCount 4 = .ok (.iload_n 1, 1) := by decide +kernel
theorem dX9_variableCount_5 : decode cX9_variableCount 5 = .ok (.invokevirtual 106, 3) := by decide +kernel
theorem dX9_variableCount_8 : decode cX9_variableCount 8 = .ok (.ifCond .eq 17, 3) := by decide +kernel
theorem dX9_variableCount_11 : decode cX9_variableCount 11 = .ok (.aload_n 0, 1) := by decide +kernel
theorem dX9_variableCount_12 : decode cX9_variableCount 12 = .ok (.getfield 22, 3) := by decide +kernel
theorem dX9_variableCount_15 : decode cX9_variableCount 15 = .ok (.iload_n 1, 1) := by decide +kernel
theorem dX9_variableCount_16 : decode cX9_variableCount 16 = .ok (.invokevirtual 129, 3) := by decide +kernel
theorem dX9_variableCount_19 : decode cX9_variableCount 19 = .ok (.invokevirtual 136, 3) := by decide +kernel
theorem dX9_variableCount_22 : decode cX9_variableCount 22 = .ok (.goto 4, 3) := by decide +kernel
theorem dX9_variableCount_25 : decode cX9_variableCount 25 = .ok (.iconst (-1), 1) := by decide +kernel
theorem dX9_variableCount_26 : decode cX9_variableCount 26 = .ok (.ireturn, 1) := by decide +kernel
def fX9_variableCount (N : Nat) (v0 : Nat) (v1 : Int32) (m0 : qM) : Option (Int32 × qM) :=
  (qgR m0 v0 9 2).bind fun x1 =>
  (qChk m0 x1 1 (fX1_has N x1 v1 m0)).bind fun b2 =>
  if b2.1 = 0 then (
  some ((-1 : Int32), b2.2)
  ) else (
  (qgR b2.2 v0 9 2).bind fun x3 =>
  (qChk b2.2 x3 1 (fX1_at N x3 v1 b2.2)).bind fun b4 =>
  (qChk b4.2 b4.1 0 (fX0_variables N b4.1 b4.2)).bind fun b5 =>
  some (b5.1, b5.2)
  )
set_option maxRecDepth 100000 in
theorem bX9_variableCount {E : qE} {N d bc bs : Nat} (hd : 1 ≤ d) {v0 : Nat} {v1 : Int32} {m0 : qM} : qB E yX9_variableCount cX9_variableCount 2 (some .int) (fun _ => True) d bc bs 0 [(0, .ref (E.2.1 + v0)), (1, .int v1)] [] m0 (fX9_variableCount N v0 v1 m0) (fun b rr => rr = (some (.int b.1), b.2)) := by
  unfold fX9_variableCount
  refine j_aload_n (q := 0) (np := 1) rfl rfl dX9_variableCount_0 rfl ?_
  refine j_gR (np := 4) flX9_22 dX9_variableCount_1 rfl (fun x1 => ?_)
  refine j_iload_n (q := 1) (np := 5) rfl rfl dX9_variableCount_4 rfl ?_
  refine j_callVi (ci := 1) (np := 8) (bc := bc) (bs := bs) (cb := 0) (cs := 0) (dd := d - 1) (As := [.int v1]) (st := []) caX1_has mlX9_106 imX1_has seX1_has rfl rfl (by decide) (fun b hb => wX1_has (by omega) hb) (by omega) rfl rfl (Nat.le_of_ble_eq_true rfl) dX9_variableCount_5 rfl (fun b2 => ?_)
  refine j_if_eq (tgt := 25) (np := 11) dX9_variableCount_8 rfl rfl ?_ ?_
  · refine j_iconst (np := 26) ci_m1 dX9_variableCount_25 rfl ?_
    exact j_iret rfl dX9_variableCount_26 (fun rr h => h)
  · refine j_aload_n (q := 0) (np := 12) rfl rfl dX9_variableCount_11 rfl ?_
    refine j_gR (np := 15) flX9_22 dX9_variableCount_12 rfl (fun x3 => ?_)
    refine j_iload_n (q := 1) (np := 16) rfl rfl dX9_variableCount_15 rfl ?_
    refine j_callVr (ci := 1) (np := 19) (bc := bc) (bs := bs) (cb := 0) (cs := 0) (dd := d - 1) (As := [.int v1]) (st := []) caX1_at mlX9_129 imX1_at seX1_at rfl rfl (by decide) (fun b hb => wX1_at (by omega) hb) (by omega) rfl rfl (Nat.le_of_ble_eq_true rfl) dX9_variableCount_16 rfl (fun b4 => ?_)
    refine j_callVi (ci := 0) (np := 22) (bc := bc) (bs := bs) (cb := 0) (cs := 0) (dd := d - 1) (As := []) (st := []) caX0_variables mlX9_136 imX0_variables seX0_variables rfl rfl (by decide) (fun b hb => wX0_variables (by omega) hb) (by omega) rfl rfl (Nat.le_of_ble_eq_true rfl) dX9_variableCount_19 rfl (fun b5 => ?_)
    refine j_goto (tgt := 26) dX9_variableCount_22 rfl ?_
    exact j_iret rfl dX9_variableCount_26 (fun rr h => h)
set_option maxRecDepth 100000 in
theorem wX9_variableCount {E : qE} {N d : Nat} (hd : 1 ≤ d) {v0 : Nat} {v1 : Int32} {m0 : qM} {b : Int32 × qM} (h : fX9_variableCount N v0 v1 m0 = some b) : qRun E yX9_variableCount cX9_variableCount 2 (some .int) d 0 0 [.ref (E.2.1 + v0), .int v1] m0 (some (.int b.1), b.2) := q_met pnX9 (Nat.le_of_ble_eq_true rfl) (bX9_variableCount hd b _ h rfl)
theorem dX9_majorOf_0 : decode cX9_majorOf 0 = .ok (.aload_n 0, 1) := by decide +kernel
theorem dX9_majorOf_1 : decode cX9_majorOf 1 = .ok (.getfield 22, 3) := by decide +kernel
theorem dX9_majorOf_4 : decode cX9_majorOf 4 = .ok (.iload_n 1, 1) := by decide +kernel
theorem dX9_majorOf_5 : decode cX9_majorOf 5 = .ok (.invokevirtual 106, 3) := by decide +kernel
theorem dX9_majorOf_8 : decode cX9_majorOf 8 = .ok (.ifCond .eq 14, 3) := by decide +kernel
theorem dX9_majorOf_11 : decode cX9_majorOf 11 = .ok (.aload_n 0, 1) := by decide +kernel
theorem dX9_majorOf_12 : decode cX9_majorOf 12 = .ok (.getfield 22, 3) := by decide +kernel
theorem dX9_majorOf_15 : decode cX9_majorOf 15 = .ok (.iload_n 1, 1) := by decide +kernel
theorem dX9_majorOf_16 : decode cX9_majorOf 16 = .ok (.invokevirtual 139, 3) := by decide +kernel
theorem dX9_majorOf_19 : decode cX9_majorOf 19 = .ok (.goto 4, 3) := by decide +kernel
theorem dX9_majorOf_22 : decode cX9_majorOf 22 = .ok (.iconst (-1), 1) := by decide +kernel
theorem dX9_majorOf_23 : decode cX9_majorOf 23 = .ok (.ireturn, 1) := by decide +kernel
def fX9_majorOf (N : Nat) (v0 : Nat) (v1 : Int32) (m0 : qM) : Option (Int32 × qM) :=
  (qgR m0 v0 9 2).bind fun x1 =>
  (qChk m0 x1 1 (fX1_has N x1 v1 m0)).bind fun b2 =>
  if b2.1 = 0 then (
  some ((-1 : Int32), b2.2)
  ) else (
  (qgR b2.2 v0 9 2).bind fun x3 =>
  (qChk b2.2 x3 1 (fX1_major N x3 v1 b2.2)).bind fun b4 =>
  some (b4.1, b4.2)
  )
set_option maxRecDepth 100000 in
theorem bX9_majorOf {E : qE} {N d bc bs : Nat} (hd : 1 ≤ d) {v0 : Nat} {v1 : Int32} {m0 : qM} : qB E yX9_majorOf cX9_majorOf 2 (some .int) (fun _ => True) d bc bs 0 [(0, .ref (E.2.1 + v0)), (1, .int v1)] [] m0 (fX9_majorOf N v0 v1 m0) (fun b rr => rr = (some (.int b.1), b.2)) := by
  unfold fX9_majorOf
  refine j_aload_n (q := 0) (np := 1) rfl rfl dX9_majorOf_0 rfl ?_
  refine j_gR (np := 4) flX9_22 dX9_majorOf_1 rfl (fun x1 => ?_)
  refine j_iload_n (q := 1) (np := 5) rfl rfl dX9_majorOf_4 rfl ?_
  refine j_callVi (ci := 1) (np := 8) (bc := bc) (bs := bs) (cb := 0) (cs := 0) (dd := d - 1) (As := [.int v1]) (st := []) caX1_has mlX9_106 imX1_has seX1_has rfl rfl (by decide) (fun b hb => wX1_has (by omega) hb) (by omega) rfl rfl (Nat.le_of_ble_eq_true rfl) dX9_majorOf_5 rfl (fun b2 => ?_)
  refine j_if_eq (tgt := 22) (np := 11) dX9_majorOf_8 rfl rfl ?_ ?_
  · refine j_iconst (np := 23) ci_m1 dX9_majorOf_22 rfl ?_
    exact j_iret rfl dX9_majorOf_23 (fun rr h => h)
  · refine j_aload_n (q := 0) (np := 12) rfl rfl dX9_majorOf_11 rfl ?_
    refine j_gR (np := 15) flX9_22 dX9_majorOf_12 rfl (fun x3 => ?_)
    refine j_iload_n (q := 1) (np := 16) rfl rfl dX9_majorOf_15 rfl ?_
    refine j_callVi (ci := 1) (np := 19) (bc := bc) (bs := bs) (cb := 0) (cs := 0) (dd := d - 1) (As := [.int v1]) (st := []) caX1_major mlX9_139 imX1_major seX1_major rfl rfl (by decide) (fun b hb => wX1_major (by omega) hb) (by omega) rfl rfl (Nat.le_of_ble_eq_true rfl) dX9_majorOf_16 rfl (fun b4 => ?_)
    refine j_goto (tgt := 23) dX9_majorOf_19 rfl ?_
    exact j_iret rfl dX9_majorOf_23 (fun rr h => h)
set_option maxRecDepth 100000 in
theorem wX9_majorOf {E : qE} {N d : Nat} (hd : 1 ≤ d) {v0 : Nat} {v1 : Int32} {m0 : qM} {b : Int32 × qM} (h : fX9_majorOf N v0 v1 m0 = some b) : qRun E yX9_majorOf cX9_majorOf 2 (some .int) d 0 0 [.ref (E.2.1 + v0), .int v1] m0 (some (.int b.1), b.2) := q_met pnX9 (Nat.le_of_ble_eq_true rfl) (bX9_majorOf hd b _ h rfl)
theorem dX9_minorOf_0 : decode cX9_minorOf 0 = .ok (.aload_n 0, 1) := by decide +kernel
theorem dX9_minorOf_1 : decode cX9_minorOf 1 = .ok (.getfield 22, 3) := by decide +kernel
theorem dX9_minorOf_4 : decode cX9_minorOf 4 = .ok (.iload_n 1, 1) := by decide +kernel
theorem dX9_minorOf_5 : decode cX9_minorOf 5 = .ok (.invokevirtual 106, 3) := by decide +kernel
theorem dX9_minorOf_8 : decode cX9_minorOf 8 = .ok (.ifCond .eq 14, 3) := by decide +kernel
theorem dX9_minorOf_11 : decode cX9_minorOf 11 = .ok (.aload_n 0, 1) := by decide +kernel
theorem dX9_minorOf_12 : decode cX9_minorOf 12 = .ok (.getfield 22, 3) := by decide +kernel
theorem dX9_minorOf_15 : decode cX9_minorOf 15 = .ok (.iload_n 1, 1) := by decide +kernel
theorem dX9_minorOf_16 : decode cX9_minorOf 16 = .ok (.invokevirtual 143, 3) := by decide +kernel
theorem dX9_minorOf_19 : decode cX9_minorOf 19 = .ok (.goto 4, 3) := by decide +kernel
theorem dX9_minorOf_22 : decode cX9_minorOf 22 = .ok (.iconst (-1), 1) := by decide +kernel
theorem dX9_minorOf_23 : decode cX9_minorOf 23 = .ok (.ireturn, 1) := by decide +kernel
def fX9_minorOf (N : Nat) (v0 : Nat) (v1 : Int32) (m0 : qM) : Option (Int32 × qM) :=
  (qgR m0 v0 9 2).bind fun x1 =>
  (qChk m0 x1 1 (fX1_has N x1 v1 m0)).bind fun b2 =>
  if b2.1 = 0 then (
  some ((-1 : Int32), b2.2)
  ) else (
  (qgR b2.2 v0 9 2).bind fun x3 =>
  (qChk b2.2 x3 1 (fX1_minor N x3 v1 b2.2)).bind fun b4 =>
  some (b4.1, b4.2)
  )
set_option maxRecDepth 100000 in
theorem bX9_minorOf {E : qE} {N d bc bs : Nat} (hd : 1 ≤ d) {v0 : Nat} {v1 : Int32} {m0 : qM} : qB E yX9_minorOf cX9_minorOf 2 (some .int) (fun _ => True) d bc bs 0 [(0, .ref (E.2.1 + v0)), (1, .int v1)] [] m0 (fX9_minorOf N v0 v1 m0) (fun b rr => rr = (some (.int b.1), b.2)) := by
  unfold fX9_minorOf
  refine j_aload_n (q := 0) (np := 1) rfl rfl dX9_minorOf_0 rfl ?_
  refine j_gR (np := 4) flX9_22 dX9_minorOf_1 rfl (fun x1 => ?_)
  refine j_iload_n (q := 1) (np := 5) rfl rfl dX9_minorOf_4 rfl ?_
  refine j_callVi (ci := 1) (np := 8) (bc := bc) (bs := bs) (cb := 0) (cs := 0) (dd := d - 1) (As := [.int v1]) (st := []) caX1_has mlX9_106 imX1_has seX1_has rfl rfl (by decide) (fun b hb => wX1_has (by omega) hb) (by omega) rfl rfl (Nat.le_of_ble_eq_true rfl) dX9_minorOf_5 rfl (fun b2 => ?_)
  refine j_if_eq (tgt := 22) (np := 11) dX9_minorOf_8 rfl rfl ?_ ?_
  · refine j_iconst (np := 23) ci_m1 dX9_minorOf_22 rfl ?_
    exact j_iret rfl dX9_minorOf_23 (fun rr h => h)
  · refine j_aload_n (q := 0) (np := 12) rfl rfl dX9_minorOf_11 rfl ?_
    refine j_gR (np := 15) flX9_22 dX9_minorOf_12 rfl (fun x3 => ?_)
    refine j_iload_n (q := 1) (np := 16) rfl rfl dX9_minorOf_15 rfl ?_
    refine j_callVi (ci := 1) (np := 19) (bc := bc) (bs := bs) (cb := 0) (cs := 0) (dd := d - 1) (As := [.int v1]) (st := []) caX1_minor mlX9_143 imX1_minor seX1_minor rfl rfl (by decide) (fun b hb => wX1_minor (by omega) hb) (by omega) rfl rfl (Nat.le_of_ble_eq_true rfl) dX9_minorOf_16 rfl (fun b4 => ?_)
    refine j_goto (tgt := 23) dX9_minorOf_19 rfl ?_
    exact j_iret rfl dX9_minorOf_23 (fun rr h => h)
set_option maxRecDepth 100000 in
theorem wX9_minorOf {E : qE} {N d : Nat} (hd : 1 ≤ d) {v0 : Nat} {v1 : Int32} {m0 : qM} {b : Int32 × qM} (h : fX9_minorOf N v0 v1 m0 = some b) : qRun E yX9_minorOf cX9_minorOf 2 (some .int) d 0 0 [.ref (E.2.1 + v0), .int v1] m0 (some (.int b.1), b.2) := q_met pnX9 (Nat.le_of_ble_eq_true rfl) (bX9_minorOf hd b _ h rfl)
theorem dX9_proofDepth_0 : decode cX9_proofDepth 0 = .ok (.aload_n 0, 1) := by decide +kernel
theorem dX9_proofDepth_1 : decode cX9_proofDepth 1 = .ok (.getfield 22, 3) := by decide +kernel
theorem dX9_proofDepth_4 : decode cX9_proofDepth 4 = .ok (.iload_n 1, 1) := by decide +kernel
theorem dX9_proofDepth_5 : decode cX9_proofDepth 5 = .ok (.invokevirtual 106, 3) := by decide +kernel
theorem dX9_proofDepth_8 : decode cX9_proofDepth 8 = .ok (.ifCond .eq 14, 3) := by decide +kernel
theorem dX9_proofDepth_11 : decode cX9_proofDepth 11 = .ok (.aload_n 0, 1) := by decide +kernel
theorem dX9_proofDepth_12 : decode cX9_proofDepth 12 = .ok (.getfield 22, 3) := by decide +kernel
theorem dX9_proofDepth_15 : decode cX9_proofDepth 15 = .ok (.iload_n 1, 1) := by decide +kernel
theorem dX9_proofDepth_16 : decode cX9_proofDepth 16 = .ok (.invokevirtual 146, 3) := by decide +kernel
theorem dX9_proofDepth_19 : decode cX9_proofDepth 19 = .ok (.goto 4, 3) := by decide +kernel
theorem dX9_proofDepth_22 : decode cX9_proofDepth 22 = .ok (.iconst (-1), 1) := by decide +kernel
theorem dX9_proofDepth_23 : decode cX9_proofDepth 23 = .ok (.ireturn, 1) := by decide +kernel
def fX9_proofDepth (N : Nat) (v0 : Nat) (v1 : Int32) (m0 : qM) : Option (Int32 × qM) :=
  (qgR m0 v0 9 2).bind fun x1 =>
  (qChk m0 x1 1 (fX1_has N x1 v1 m0)).bind fun b2 =>
  if b2.1 = 0 then (
  some ((-1 : Int32), b2.2)
  ) else (
  (qgR b2.2 v0 9 2).bind fun x3 =>
  (qChk b2.2 x3 1 (fX1_depth N x3 v1 b2.2)).bind fun b4 =>
  some (b4.1, b4.2)
  )
set_option maxRecDepth 100000 in
theorem bX9_proofDepth {E : qE} {N d bc bs : Nat} (hd : 1 ≤ d) {v0 : Nat} {v1 : Int32} {m0 : qM} : qB E yX9_proofDepth cX9_proofDepth 2 (some .int) (fun _ => True) d bc bs 0 [(0, .ref (E.2.1 + v0)), (1, .int v1)] [] m0 (fX9_proofDepth N v0 v1 m0) (fun b rr => rr = (some (.int b.1), b.2)) := by
  unfold fX9_proofDepth
  refine j_aload_n (q := 0) (np := 1) rfl rfl dX9_proofDepth_0 rfl ?_
  refine j_gR (np := 4) flX9_22 dX9_proofDepth_1 rfl (fun x1 => ?_)
  refine j_iload_n (q := 1) (np := 5) rfl rfl dX9_proofDepth_4 rfl ?_
  refine j_callVi (ci := 1) (np := 8) (bc := bc) (bs := bs) (cb := 0) (cs := 0) (dd := d - 1) (As := [.int v1]) (st := []) caX1_has mlX9_106 imX1_has seX1_has rfl rfl (by decide) (fun b hb => wX1_has (by omega) hb) (by omega) rfl rfl (Nat.le_of_ble_eq_true rfl) dX9_proofDepth_5 rfl (fun b2 => ?_)
  refine j_if_eq (tgt := 22) (np := 11) dX9_proofDepth_8 rfl rfl ?_ ?_
  · refine j_iconst (np := 23) ci_m1 dX9_proofDepth_22 rfl ?_
    exact j_iret rfl dX9_proofDepth_23 (fun rr h => h)
  · refine j_aload_n (q := 0) (np := 12) rfl rfl dX9_proofDepth_11 rfl ?_
    refine j_gR (np := 15) flX9_22 dX9_proofDepth_12 rfl (fun x3 => ?_)
    refine j_iload_n (q := 1) (np := 16) rfl rfl dX9_proofDepth_15 rfl ?_
    refine j_callVi (ci := 1) (np := 19) (bc := bc) (bs := bs) (cb := 0) (cs := 0) (dd := d - 1) (As := [.int v1]) (st := []) caX1_depth mlX9_146 imX1_depth seX1_depth rfl rfl (by decide) (fun b hb => wX1_depth (by omega) hb) (by omega) rfl rfl (Nat.le_of_ble_eq_true rfl) dX9_proofDepth_16 rfl (fun b4 => ?_)
    refine j_goto (tgt := 23) dX9_proofDepth_19 rfl ?_
    exact j_iret rfl dX9_proofDepth_23 (fun rr h => h)
set_option maxRecDepth 100000 in
theorem wX9_proofDepth {E : qE} {N d : Nat} (hd : 1 ≤ d) {v0 : Nat} {v1 : Int32} {m0 : qM} {b : Int32 × qM} (h : fX9_proofDepth N v0 v1 m0 = some b) : qRun E yX9_proofDepth cX9_proofDepth 2 (some .int) d 0 0 [.ref (E.2.1 + v0), .int v1] m0 (some (.int b.1), b.2) := q_met pnX9 (Nat.le_of_ble_eq_true rfl) (bX9_proofDepth hd b _ h rfl)
theorem dX9_proofSize_0 : decode cX9_proofSize 0 = .ok (.aload_n 0, 1) := by decide +kernel
theorem dX9_proofSize_1 : decode cX9_proofSize 1 = .ok (.getfield 22, 3) := by decide +kernel
theorem dX9_proofSize_4 : decode cX9_proofSize 4 = .ok (.iload_n 1, 1) := by decide +kernel
theorem dX9_proofSize_5 : decode cX9_proofSize 5 = .ok (.invokevirtual 106, 3) := by decide +kernel
theorem dX9_proofSize_8 : decode cX9_proofSize 8 = .ok (.ifCond .eq 14, 3) := by decide +kernel
theorem dX9_proofSize_11 : decode cX9_proofSize 11 = .ok (.aload_n 0, 1) := by decide +kernel
theorem dX9_proofSize_12 : decode cX9_proofSize 12 = .ok (.getfield 22, 3) := by decide +kernel
theorem dX9_proofSize_15 : decode cX9_proofSize 15 = .ok (.iload_n 1, 1) := by decide +kernel
theorem dX9_proofSize_16 : decode cX9_proofSize 16 = .ok (.invokevirtual 149, 3) := by decide +kernel
theorem dX9_proofSize_19 : decode cX9_proofSize 19 = .ok (.goto 6, 3) := by decide +kernel
theorem dX9_proofSize_22 : decode cX9_proofSize 22 = .ok (.ldc2_w 153, 3) := by decide +kernel
theorem dX9_proofSize_25 : decode cX9_proofSize 25 = .ok (.lreturn, 1) := by decide +kernel
def fX9_proofSize (N : Nat) (v0 : Nat) (v1 : Int32) (m0 : qM) : Option (Int64 × qM) :=
  (qgR m0 v0 9 2).bind fun x1 =>
  (qChk m0 x1 1 (fX1_has N x1 v1 m0)).bind fun b2 =>
  if b2.1 = 0 then (
  some ((-1 : Int64), b2.2)
  ) else (
  (qgR b2.2 v0 9 2).bind fun x3 =>
  (qChk b2.2 x3 1 (fX1_proofSigns N x3 v1 b2.2)).bind fun b4 =>
  some (b4.1, b4.2)
  )
set_option maxRecDepth 100000 in
theorem bX9_proofSize {E : qE} {N d bc bs : Nat} (hd : 1 ≤ d) {v0 : Nat} {v1 : Int32} {m0 : qM} : qB E yX9_proofSize cX9_proofSize 2 (some .long) (fun _ => True) d bc bs 0 [(0, .ref (E.2.1 + v0)), (1, .int v1)] [] m0 (fX9_proofSize N v0 v1 m0) (fun b rr => rr = (some (.long b.1), b.2)) := by
  unfold fX9_proofSize
  refine j_aload_n (q := 0) (np := 1) rfl rfl dX9_proofSize_0 rfl ?_
  refine j_gR (np := 4) flX9_22 dX9_proofSize_1 rfl (fun x1 => ?_)
  refine j_iload_n (q := 1) (np := 5) rfl rfl dX9_proofSize_4 rfl ?_
  refine j_callVi (ci := 1) (np := 8) (bc := bc) (bs := bs) (cb := 0) (cs := 0) (dd := d - 1) (As := [.int v1]) (st := []) caX1_has mlX9_106 imX1_has seX1_has rfl rfl (by decide) (fun b hb => wX1_has (by omega) hb) (by omega) rfl rfl (Nat.le_of_ble_eq_true rfl) dX9_proofSize_5 rfl (fun b2 => ?_)
  refine j_if_eq (tgt := 22) (np := 11) dX9_proofSize_8 rfl rfl ?_ ?_
  · refine j_ldc2 (np := 25) lgX9_153 dX9_proofSize_22 rfl ?_
    exact j_lret rfl dX9_proofSize_25 (fun rr h => h)
  · refine j_aload_n (q := 0) (np := 12) rfl rfl dX9_proofSize_11 rfl ?_
    refine j_gR (np := 15) flX9_22 dX9_proofSize_12 rfl (fun x3 => ?_)
    refine j_iload_n (q := 1) (np := 16) rfl rfl dX9_proofSize_15 rfl ?_
    refine j_callVl (ci := 1) (np := 19) (bc := bc) (bs := bs) (cb := 0) (cs := 0) (dd := d - 1) (As := [.int v1]) (st := []) caX1_proofSigns mlX9_149 imX1_proofSigns seX1_proofSigns rfl rfl (by decide) (fun b hb => wX1_proofSigns (by omega) hb) (by omega) rfl rfl (Nat.le_of_ble_eq_true rfl) dX9_proofSize_16 rfl (fun b4 => ?_)
    refine j_goto (tgt := 25) dX9_proofSize_19 rfl ?_
    exact j_lret rfl dX9_proofSize_25 (fun rr h => h)
set_option maxRecDepth 100000 in
theorem wX9_proofSize {E : qE} {N d : Nat} (hd : 1 ≤ d) {v0 : Nat} {v1 : Int32} {m0 : qM} {b : Int64 × qM} (h : fX9_proofSize N v0 v1 m0 = some b) : qRun E yX9_proofSize cX9_proofSize 2 (some .long) d 0 0 [.ref (E.2.1 + v0), .int v1] m0 (some (.long b.1), b.2) := q_met pnX9 (Nat.le_of_ble_eq_true rfl) (bX9_proofSize hd b _ h rfl)
theorem dX9_outputFormula_0 : decode cX9_outputFormula 0 = .ok (.aload_n 0, 1) := by decide +kernel
theorem dX9_outputFormula_1 : decode cX9_outputFormula 1 = .ok (.getfield 16, 3) := by decide +kernel
theorem dX9_outputFormula_4 : decode cX9_outputFormula 4 = .ok (.invokevirtual 96, 3) := by decide +kernel
theorem dX9_outputFormula_7 : decode cX9_outputFormula 7 = .ok (.aload_n 1, 1) := by decide +kernel
theorem dX9_outputFormula_8 : decode cX9_outputFormula 8 = .ok (.aload_n 0, 1) := by decide +kernel
theorem dX9_outputFormula_9 : decode cX9_outputFormula 9 = .ok (.getfield 16, 3) := by decide +kernel
theorem dX9_outputFormula_12 : decode cX9_outputFormula 12 = .ok (.invokevirtual 273, 3) := by decide +kernel
theorem dX9_outputFormula_15 : decode cX9_outputFormula 15 = .ok (.aload_n 0, 1) := by decide +kernel
theorem dX9_outputFormula_16 : decode cX9_outputFormula 16 = .ok (.getfield 16, 3) := by decide +kernel
theorem dX9_outputFormula_19 : decode cX9_outputFormula 19 = .ok (.invokevirtual 88, 3) := by decide +kernel
theorem dX9_outputFormula_22 : decode cX9_outputFormula 22 = .ok (.ireturn, 1) := by decide +kernel
def fX9_outputFormula (N : Nat) (v0 : Nat) (v1 : Nat) (m0 : qM) : Option (Int32 × qM) :=
  (qgR m0 v0 9 1).bind fun x1 =>
  (qChk m0 x1 7 (fX7_makeEmpty N x1 m0)).bind fun b2 =>
  (qgR b2 v0 9 1).bind fun x3 =>
  (qChk b2 v1 0 (fX0_writeTo N v1 x3 b2)).bind fun b4 =>
  (qgR b4 v0 9 1).bind fun x5 =>
  (qChk b4 x5 7 (fX7_length N x5 b4)).bind fun b6 =>
  some (b6.1, b6.2)
set_option maxRecDepth 100000 in
theorem bX9_outputFormula {E : qE} {N d bc bs : Nat} (hd : 2 ≤ d) {v0 : Nat} {v1 : Nat} {m0 : qM} : qB E yX9_outputFormula cX9_outputFormula 2 (some .int) (fun _ => True) d bc bs 0 [(0, .ref (E.2.1 + v0)), (1, .ref (E.2.1 + v1))] [] m0 (fX9_outputFormula N v0 v1 m0) (fun b rr => rr = (some (.int b.1), b.2)) := by
  unfold fX9_outputFormula
  refine j_aload_n (q := 0) (np := 1) rfl rfl dX9_outputFormula_0 rfl ?_
  refine j_gR (np := 4) flX9_16 dX9_outputFormula_1 rfl (fun x1 => ?_)
  refine j_callVv (ci := 7) (np := 7) (bc := bc) (bs := bs) (cb := 0) (cs := 0) (dd := d - 1) (As := []) (st := []) caX7_makeEmpty mlX9_96 imX7_makeEmpty seX7_makeEmpty rfl rfl (by decide) (fun b hb => wX7_makeEmpty (by omega) hb) (by omega) rfl rfl (Nat.le_of_ble_eq_true rfl) dX9_outputFormula_4 rfl (fun b2 => ?_)
  refine j_aload_n (q := 1) (np := 8) rfl rfl dX9_outputFormula_7 rfl ?_
  refine j_aload_n (q := 0) (np := 9) rfl rfl dX9_outputFormula_8 rfl ?_
  refine j_gR (np := 12) flX9_16 dX9_outputFormula_9 rfl (fun x3 => ?_)
  refine j_callVv (ci := 0) (np := 15) (bc := bc) (bs := bs) (cb := 0) (cs := 0) (dd := d - 1) (As := [.ref (E.2.1 + x3)]) (st := []) caX0_writeTo mlX9_273 imX0_writeTo seX0_writeTo rfl rfl (by decide) (fun b hb => wX0_writeTo (by omega) hb) (by omega) rfl rfl (Nat.le_of_ble_eq_true rfl) dX9_outputFormula_12 rfl (fun b4 => ?_)
  refine j_aload_n (q := 0) (np := 16) rfl rfl dX9_outputFormula_15 rfl ?_
  refine j_gR (np := 19) flX9_16 dX9_outputFormula_16 rfl (fun x5 => ?_)
  refine j_callVi (ci := 7) (np := 22) (bc := bc) (bs := bs) (cb := 0) (cs := 0) (dd := d - 1) (As := []) (st := []) caX7_length mlX9_88 imX7_length seX7_length rfl rfl (by decide) (fun b hb => wX7_length (by omega) hb) (by omega) rfl rfl (Nat.le_of_ble_eq_true rfl) dX9_outputFormula_19 rfl (fun b6 => ?_)
  exact j_iret rfl dX9_outputFormula_22 (fun rr h => h)
set_option maxRecDepth 100000 in
theorem wX9_outputFormula {E : qE} {N d : Nat} (hd : 2 ≤ d) {v0 : Nat} {v1 : Nat} {m0 : qM} {b : Int32 × qM} (h : fX9_outputFormula N v0 v1 m0 = some b) : qRun E yX9_outputFormula cX9_outputFormula 2 (some .int) d 0 0 [.ref (E.2.1 + v0), .ref (E.2.1 + v1)] m0 (some (.int b.1), b.2) := q_met pnX9 (Nat.le_of_ble_eq_true rfl) (bX9_outputFormula hd b _ h rfl)
