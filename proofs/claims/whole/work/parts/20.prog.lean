def kR : Nat := 130
def kU : Nat := 1010
theorem dX0_size_0 : decode cX0_size 0 = .ok (.aload_n 0, 1) := by decide +kernel
theorem dX0_size_1 : decode cX0_size 1 = .ok (.getfield 15, 3) := by decide +kernel
theorem dX0_size_4 : decode cX0_size 4 = .ok (.ireturn, 1) := by decide +kernel
def fX0_size (N : Nat) (v0 : Nat) (m0 : qM) : Option (Int32 × qM) :=
  (qgI m0 v0 0 1).bind fun x1 =>
  some (x1, m0)
set_option maxRecDepth 100000 in
theorem bX0_size {E : qE} {N d bc bs : Nat} (hd : 0 ≤ d) {v0 : Nat} {m0 : qM} : qB E yX0_size cX0_size 1 (some .int) (fun _ => True) d bc bs 0 [(0, .ref (E.2.1 + v0))] [] m0 (fX0_size N v0 m0) (fun b rr => rr = (some (.int b.1), b.2)) := by
  unfold fX0_size
  refine j_aload_n (q := 0) (np := 1) rfl rfl dX0_size_0 rfl ?_
  refine j_gI (np := 4) flX0_15 dX0_size_1 rfl (fun x1 => ?_)
  exact j_iret rfl dX0_size_4 (fun rr h => h)
set_option maxRecDepth 100000 in
theorem wX0_size {E : qE} {N d : Nat} (hd : 0 ≤ d) {v0 : Nat} {m0 : qM} {b : Int32 × qM} (h : fX0_size N v0 m0 = some b) : qRun E yX0_size cX0_size 1 (some .int) d 0 0 [.ref (E.2.1 + v0)] m0 (some (.int b.1), b.2) := q_met pnX0 (Nat.le_of_ble_eq_true rfl) (bX0_size hd b _ h rfl)
theorem dX0_variables_0 : decode cX0_variables 0 = .ok (.aload_n 0, 1) := by decide +kernel
theorem dX0_variables_1 : decode cX0_variables 1 = .ok (.getfield 19, 3) := by decide +kernel
theorem dX0_variables_4 : decode cX0_variables 4 = .ok (.ireturn, 1) := by decide +kernel
def fX0_variables (N : Nat) (v0 : Nat) (m0 : qM) : Option (Int32 × qM) :=
  (qgI m0 v0 0 2).bind fun x1 =>
  some (x1, m0)
set_option maxRecDepth 100000 in
theorem bX0_variables {E : qE} {N d bc bs : Nat} (hd : 0 ≤ d) {v0 : Nat} {m0 : qM} : qB E yX0_variables cX0_variables 1 (some .int) (fun _ => True) d bc bs 0 [(0, .ref (E.2.1 + v0))] [] m0 (fX0_variables N v0 m0) (fun b rr => rr = (some (.int b.1), b.2)) := by
  unfold fX0_variables
  refine j_aload_n (q := 0) (np := 1) rfl rfl dX0_variables_0 rfl ?_
  refine j_gI (np := 4) flX0_19 dX0_variables_1 rfl (fun x1 => ?_)
  exact j_iret rfl dX0_variables_4 (fun rr h => h)
set_option maxRecDepth 100000 in
theorem wX0_variables {E : qE} {N d : Nat} (hd : 0 ≤ d) {v0 : Nat} {m0 : qM} {b : Int32 × qM} (h : fX0_variables N v0 m0 = some b) : qRun E yX0_variables cX0_variables 1 (some .int) d 0 0 [.ref (E.2.1 + v0)] m0 (some (.int b.1), b.2) := q_met pnX0 (Nat.le_of_ble_eq_true rfl) (bX0_variables hd b _ h rfl)
theorem dX0_at_0 : decode cX0_at 0 = .ok (.aload_n 0, 1) := by decide +kernel
theorem dX0_at_1 : decode cX0_at 1 = .ok (.getfield 9, 3) := by decide +kernel
theorem dX0_at_4 : decode cX0_at 4 = .ok (.iload_n 1, 1) := by decide +kernel
theorem dX0_at_5 : decode cX0_at 5 = .ok (.iaload, 1) := by decide +kernel
theorem dX0_at_6 : decode cX0_at 6 = .ok (.ireturn, 1) := by decide +kernel
def fX0_at (N : Nat) (v0 : Nat) (v1 : Int32) (m0 : qM) : Option (Int32 × qM) :=
  (qgR m0 v0 0 0).bind fun x1 =>
  (qaI m0 x1 12 v1).bind fun x2 =>
  some (x2, m0)
set_option maxRecDepth 100000 in
theorem bX0_at {E : qE} {N d bc bs : Nat} (hd : 0 ≤ d) {v0 : Nat} {v1 : Int32} {m0 : qM} : qB E yX0_at cX0_at 2 (some .int) (fun _ => True) d bc bs 0 [(0, .ref (E.2.1 + v0)), (1, .int v1)] [] m0 (fX0_at N v0 v1 m0) (fun b rr => rr = (some (.int b.1), b.2)) := by
  unfold fX0_at
  refine j_aload_n (q := 0) (np := 1) rfl rfl dX0_at_0 rfl ?_
  refine j_gR (np := 4) flX0_9 dX0_at_1 rfl (fun x1 => ?_)
  refine j_iload_n (q := 1) (np := 5) rfl rfl dX0_at_4 rfl ?_
  refine j_iaload (np := 6) dX0_at_5 rfl (fun x2 => ?_)
  exact j_iret rfl dX0_at_6 (fun rr h => h)
set_option maxRecDepth 100000 in
theorem wX0_at {E : qE} {N d : Nat} (hd : 0 ≤ d) {v0 : Nat} {v1 : Int32} {m0 : qM} {b : Int32 × qM} (h : fX0_at N v0 v1 m0 = some b) : qRun E yX0_at cX0_at 2 (some .int) d 0 0 [.ref (E.2.1 + v0), .int v1] m0 (some (.int b.1), b.2) := q_met pnX0 (Nat.le_of_ble_eq_true rfl) (bX0_at hd b _ h rfl)
theorem dX0_isImplication_0 : decode cX0_isImplication 0 = .ok (.aload_n 0, 1) := by decide +kernel
theorem dX0_isImplication_1 : decode cX0_isImplication 1 = .ok (.getfield 15, 3) := by decide +kernel
theorem dX0_isImplication_4 : decode cX0_isImplication 4 = .ok (.ifCond .le 17, 3) := by decide +kernel
theorem dX0_isImplication_7 : decode cX0_isImplication 7 = .ok (.aload_n 0, 1) := by decide +kernel
theorem dX0_isImplication_8 : decode cX0_isImplication 8 = .ok (.getfield 9, 3) := by decide +kernel
theorem dX0_isImplication_11 : decode cX0_isImplication 11 = .ok (.iconst 0, 1) := by decide +kernel
theorem dX0_isImplication_12 : decode cX0_isImplication 12 = .ok (.iaload, 1) := by decide +kernel
theorem dX0_isImplication_13 : decode cX0_isImplication 13 = .ok (.iconst (-1), 1) := by decide +kernel
theorem dX0_isImplication_14 : decode cX0_isImplication 14 = .ok (.if_icmp .ne 7, 3) := by decide +kernel
theorem dX0_isImplication_17 : decode cX0_isImplication 17 = .ok (.iconst 1, 1) := by decide +kernel
theorem dX0_isImplication_18 : decode cX0_isImplication 18 = .ok (.goto 4, 3) := by decide +kernel
theorem dX0_isImplication_21 : decode cX0_isImplication 21 = .ok (.iconst 0, 1) := by decide +kernel
theorem dX0_isImplication_22 : decode cX0_isImplication 22 = .ok (.ireturn, 1) := by decide +kernel
def fX0_isImplication (N : Nat) (v0 : Nat) (m0 : qM) : Option (Int32 × qM) :=
  (qgI m0 v0 0 1).bind fun x1 =>
  if x1 ≤ 0 then (
  some ((0 : Int32), m0)
  ) else (
  (qgR m0 v0 0 0).bind fun x2 =>
  (qaI m0 x2 12 (0 : Int32)).bind fun x3 =>
  if x3 = (-1 : Int32) then (
  some ((1 : Int32), m0)
  ) else (
  some ((0 : Int32), m0)
  )
  )
set_option maxRecDepth 100000 in
theorem bX0_isImplication {E : qE} {N d bc bs : Nat} (hd : 0 ≤ d) {v0 : Nat} {m0 : qM} : qB E yX0_isImplication cX0_isImplication 1 (some .boolean) (fun _ => True) d bc bs 0 [(0, .ref (E.2.1 + v0))] [] m0 (fX0_isImplication N v0 m0) (fun b rr => rr = (some (.int b.1), b.2)) := by
  unfold fX0_isImplication
  refine j_aload_n (q := 0) (np := 1) rfl rfl dX0_isImplication_0 rfl ?_
  refine j_gI (np := 4) flX0_15 dX0_isImplication_1 rfl (fun x1 => ?_)
  refine j_if_le (tgt := 21) (np := 7) dX0_isImplication_4 rfl rfl ?_ ?_
  · refine j_iconst (np := 22) ci_0 dX0_isImplication_21 rfl ?_
    exact j_zret rfl dX0_isImplication_22 (fun rr h => by rw [z0]; exact h)
  · refine j_aload_n (q := 0) (np := 8) rfl rfl dX0_isImplication_7 rfl ?_
    refine j_gR (np := 11) flX0_9 dX0_isImplication_8 rfl (fun x2 => ?_)
    refine j_iconst (np := 12) ci_0 dX0_isImplication_11 rfl ?_
    refine j_iaload (np := 13) dX0_isImplication_12 rfl (fun x3 => ?_)
    refine j_iconst (np := 14) ci_m1 dX0_isImplication_13 rfl ?_
    refine j_icmp_ne (tgt := 21) (np := 17) dX0_isImplication_14 rfl rfl ?_ ?_
    · refine j_iconst (np := 22) ci_0 dX0_isImplication_21 rfl ?_
      exact j_zret rfl dX0_isImplication_22 (fun rr h => by rw [z0]; exact h)
    · refine j_iconst (np := 18) ci_1 dX0_isImplication_17 rfl ?_
      refine j_goto (tgt := 22) dX0_isImplication_18 rfl ?_
      exact j_zret rfl dX0_isImplication_22 (fun rr h => by rw [z1]; exact h)
set_option maxRecDepth 100000 in
theorem wX0_isImplication {E : qE} {N d : Nat} (hd : 0 ≤ d) {v0 : Nat} {m0 : qM} {b : Int32 × qM} (h : fX0_isImplication N v0 m0 = some b) : qRun E yX0_isImplication cX0_isImplication 1 (some .boolean) d 0 0 [.ref (E.2.1 + v0)] m0 (some (.int b.1), b.2) := q_met pnX0 (Nat.le_of_ble_eq_true rfl) (bX0_isImplication hd b _ h rfl)
theorem dX0_makeEmpty_0 : decode cX0_makeEmpty 0 = .ok (.aload_n 0, 1) := by decide +kernel
theorem dX0_makeEmpty_1 : decode cX0_makeEmpty 1 = .ok (.iconst 0, 1) := by decide +kernel
theorem dX0_makeEmpty_2 : decode cX0_makeEmpty 2 = .ok (.putfield 15, 3) := by decide +kernel
theorem dX0_makeEmpty_5 : decode cX0_makeEmpty 5 = .ok (.aload_n 0, 1) := by decide +kernel
theorem dX0_makeEmpty_6 : decode cX0_makeEmpty 6 = .ok (.iconst 0, 1) := by decide +kernel
theorem dX0_makeEmpty_7 : decode cX0_makeEmpty 7 = .ok (.putfield 19, 3) := by decide +kernel
theorem dX0_makeEmpty_10 : decode cX0_makeEmpty 10 = .ok (.return_, 1) := by decide +kernel
def fX0_makeEmpty (N : Nat) (v0 : Nat) (m0 : qM) : Option (qM) :=
  (qpI m0 v0 0 1 (0 : Int32)).bind fun m1 =>
  (qpI m1 v0 0 2 (0 : Int32)).bind fun m2 =>
  some m2
set_option maxRecDepth 100000 in
theorem bX0_makeEmpty {E : qE} {N d bc bs : Nat} (hd : 0 ≤ d) {v0 : Nat} {m0 : qM} : qB E yX0_makeEmpty cX0_makeEmpty 1 none (fun _ => True) d bc bs 0 [(0, .ref (E.2.1 + v0))] [] m0 (fX0_makeEmpty N v0 m0) (fun b rr => rr = (none, b)) := by
  unfold fX0_makeEmpty
  refine j_aload_n (q := 0) (np := 1) rfl rfl dX0_makeEmpty_0 rfl ?_
  refine j_iconst (np := 2) ci_0 dX0_makeEmpty_1 rfl ?_
  refine j_pI (np := 5) flX0_15 dX0_makeEmpty_2 rfl (fun m1 => ?_)
  refine j_aload_n (q := 0) (np := 6) rfl rfl dX0_makeEmpty_5 rfl ?_
  refine j_iconst (np := 7) ci_0 dX0_makeEmpty_6 rfl ?_
  refine j_pI (np := 10) flX0_19 dX0_makeEmpty_7 rfl (fun m2 => ?_)
  exact j_vret rfl dX0_makeEmpty_10 (fun rr h => h)
set_option maxRecDepth 100000 in
theorem wX0_makeEmpty {E : qE} {N d : Nat} (hd : 0 ≤ d) {v0 : Nat} {m0 : qM} {b : qM} (h : fX0_makeEmpty N v0 m0 = some b) : qRun E yX0_makeEmpty cX0_makeEmpty 1 none d 0 0 [.ref (E.2.1 + v0)] m0 (none, b) := q_met pnX0 (Nat.le_of_ble_eq_true rfl) (bX0_makeEmpty hd b _ h rfl)
theorem dX0_addSign_0 : decode cX0_addSign 0 = .ok (.aload_n 0, 1) := by decide +kernel
theorem dX0_addSign_1 : decode cX0_addSign 1 = .ok (.getfield 15, 3) := by decide +kernel
theorem dX0_addSign_4 : decode cX0_addSign 4 = .ok (.bipush 39, 2) := by decide +kernel
theorem dX0_addSign_6 : decode cX0_addSign 6 = .ok (.if_icmp .lt 5, 3) := by decide +kernel
theorem dX0_addSign_9 : decode cX0_addSign 9 = .ok (.iconst 0, 1) := by decide +kernel
theorem dX0_addSign_10 : decode cX0_addSign 10 = .ok (.ireturn, 1) := by decide +kernel
theorem dX0_addSign_11 : decode cX0_addSign 11 = .ok (.aload_n 0, 1) := by decide +kernel
theorem dX0_addSign_12 : decode cX0_addSign 12 = .ok (.getfield 9, 3) := by decide +kernel
theorem dX0_addSign_15 : decode cX0_addSign 15 = .ok (.aload_n 0, 1) := by decide +kernel
theorem dX0_addSign_16 : decode cX0_addSign 16 = .ok (.getfield 15, 3) := by decide +kernel
theorem dX0_addSign_19 : decode cX0_addSign 19 = .ok (.iload_n 1, 1) := by decide +kernel
theorem dX0_addSign_20 : decode cX0_addSign 20 = .ok (.iastore, 1) := by decide +kernel
theorem dX0_addSign_21 : decode cX0_addSign 21 = .ok (.aload_n 0, 1) := by decide +kernel
theorem dX0_addSign_22 : decode cX0_addSign 22 = .ok (.dup, 1) := by decide +kernel
theorem dX0_addSign_23 : decode cX0_addSign 23 = .ok (.getfield 15, 3) := by decide +kernel
theorem dX0_addSign_26 : decode cX0_addSign 26 = .ok (.iconst 1, 1) := by decide +kernel
theorem dX0_addSign_27 : decode cX0_addSign 27 = .ok (.iadd, 1) := by decide +kernel
theorem dX0_addSign_28 : decode cX0_addSign 28 = .ok (.putfield 15, 3) := by decide +kernel
theorem dX0_addSign_31 : decode cX0_addSign 31 = .ok (.iconst 1, 1) := by decide +kernel
theorem dX0_addSign_32 : decode cX0_addSign 32 = .ok (.ireturn, 1) := by decide +kernel
def fX0_addSign (N : Nat) (v0 : Nat) (v1 : Int32) (m0 : qM) : Option (Int32 × qM) :=
  (qgI m0 v0 0 1).bind fun x1 =>
  if x1 < (39 : Int32) then (
  (qgR m0 v0 0 0).bind fun x2 =>
  (qgI m0 v0 0 1).bind fun x3 =>
  (qwI m0 x2 12 x3 v1).bind fun m4 =>
  (qgI m4 v0 0 1).bind fun x5 =>
  (qpI m4 v0 0 1 (x5 + (1 : Int32))).bind fun m6 =>
  some ((1 : Int32), m6)
  ) else (
  some ((0 : Int32), m0)
  )
set_option maxRecDepth 100000 in
theorem bX0_addSign {E : qE} {N d bc bs : Nat} (hd : 0 ≤ d) {v0 : Nat} {v1 : Int32} {m0 : qM} : qB E yX0_addSign cX0_addSign 2 (some .boolean) (fun _ => True) d bc bs 0 [(0, .ref (E.2.1 + v0)), (1, .int v1)] [] m0 (fX0_addSign N v0 v1 m0) (fun b rr => rr = (some (.int b.1), b.2)) := by
  unfold fX0_addSign
  refine j_aload_n (q := 0) (np := 1) rfl rfl dX0_addSign_0 rfl ?_
  refine j_gI (np := 4) flX0_15 dX0_addSign_1 rfl (fun x1 => ?_)
  refine j_bipush (np := 6) cb_39 dX0_addSign_4 rfl ?_
  refine j_icmp_lt (tgt := 11) (np := 9) dX0_addSign_6 rfl rfl ?_ ?_
  · refine j_aload_n (q := 0) (np := 12) rfl rfl dX0_addSign_11 rfl ?_
    refine j_gR (np := 15) flX0_9 dX0_addSign_12 rfl (fun x2 => ?_)
    refine j_aload_n (q := 0) (np := 16) rfl rfl dX0_addSign_15 rfl ?_
    refine j_gI (np := 19) flX0_15 dX0_addSign_16 rfl (fun x3 => ?_)
    refine j_iload_n (q := 1) (np := 20) rfl rfl dX0_addSign_19 rfl ?_
    refine j_iastore (np := 21) dX0_addSign_20 rfl (fun m4 => ?_)
    refine j_aload_n (q := 0) (np := 22) rfl rfl dX0_addSign_21 rfl ?_
    refine j_dup (np := 23) rfl dX0_addSign_22 rfl ?_
    refine j_gI (np := 26) flX0_15 dX0_addSign_23 rfl (fun x5 => ?_)
    refine j_iconst (np := 27) ci_1 dX0_addSign_26 rfl ?_
    refine j_iadd (np := 28) dX0_addSign_27 rfl ?_
    refine j_pI (np := 31) flX0_15 dX0_addSign_28 rfl (fun m6 => ?_)
    refine j_iconst (np := 32) ci_1 dX0_addSign_31 rfl ?_
    exact j_zret rfl dX0_addSign_32 (fun rr h => by rw [z1]; exact h)
  · refine j_iconst (np := 10) ci_0 dX0_addSign_9 rfl ?_
    exact j_zret rfl dX0_addSign_10 (fun rr h => by rw [z0]; exact h)
set_option maxRecDepth 100000 in
theorem wX0_addSign {E : qE} {N d : Nat} (hd : 0 ≤ d) {v0 : Nat} {v1 : Int32} {m0 : qM} {b : Int32 × qM} (h : fX0_addSign N v0 v1 m0 = some b) : qRun E yX0_addSign cX0_addSign 2 (some .boolean) d 0 0 [.ref (E.2.1 + v0), .int v1] m0 (some (.int b.1), b.2) := q_met pnX0 (Nat.le_of_ble_eq_true rfl) (bX0_addSign hd b _ h rfl)
theorem dX0_addVariable_0 : decode cX0_addVariable 0 = .ok (.iconst 0, 1) := by decide +kernel
theorem dX0_addVariable_1 : decode cX0_addVariable 1 = .ok (.istore_n 3, 1) := by decide +kernel
theorem dX0_addVariable_2 : decode cX0_addVariable 2 = .ok (.iload_n 3, 1) := by decide +kernel
theorem dX0_addVariable_3 : decode cX0_addVariable 3 = .ok (.aload_n 0, 1) := by decide +kernel
theorem dX0_addVariable_4 : decode cX0_addVariable 4 = .ok (.getfield 19, 3) := by decide +kernel
theorem dX0_addVariable_7 : decode cX0_addVariable 7 = .ok (.if_icmp .ge 16, 3) := by decide +kernel
theorem dX0_addVariable_10 : decode cX0_addVariable 10 = .ok (.aload_n 2, 1) := by decide +kernel
theorem dX0_addVariable_11 : decode cX0_addVariable 11 = .ok (.iload_n 3, 1) := by decide +kernel
theorem dX0_addVariable_12 : decode cX0_addVariable 12 = .ok (.iaload, 1) := by decide +kernel
theorem dX0_addVariable_13 : decode cX0_addVariable 13 = .ok (.iload_n 1, 1) := by decide +kernel
theorem dX0_addVariable_14 : decode cX0_addVariable 14 = .ok (.if_icmp .eq 9, 3) := by decide +kernel
theorem dX0_addVariable_17 : decode cX0_addVariable 17 = .ok (.iinc 3 1, 3) := by decide +kernel
theorem dX0_addVariable_20 : decode cX0_addVariable 20 = .ok (.goto (-18), 3) := by decide +kernel
theorem dX0_addVariable_23 : decode cX0_addVariable 23 = .ok (.iload_n 3, 1) := by decide +kernel
theorem dX0_addVariable_24 : decode cX0_addVariable 24 = .ok (.aload_n 0, 1) := by decide +kernel
theorem dX0_addVariable_25 : decode cX0_addVariable 25 = .ok (.getfield 19, 3) := by decide +kernel
theorem dX0_addVariable_28 : decode cX0_addVariable 28 = .ok (.if_icmp .ne 28, 3) := by decide +kernel
theorem dX0_addVariable_31 : decode cX0_addVariable 31 = .ok (.aload_n 0, 1) := by decide +kernel
theorem dX0_addVariable_32 : decode cX0_addVariable 32 = .ok (.getfield 19, 3) := by decide +kernel
theorem dX0_addVariable_35 : decode cX0_addVariable 35 = .ok (.bipush 12, 2) := by decide +kernel
theorem dX0_addVariable_37 : decode cX0_addVariable 37 = .ok (.if_icmp .lt 5, 3) := by decide +kernel
theorem dX0_addVariable_40 : decode cX0_addVariable 40 = .ok (.iconst 0, 1) := by decide +kernel
theorem dX0_addVariable_41 : decode cX0_addVariable 41 = .ok (.ireturn, 1) := by decide +kernel
theorem dX0_addVariable_42 : decode cX0_addVariable 42 = .ok (.aload_n 2, 1) := by decide +kernel
theorem dX0_addVariable_43 : decode cX0_addVariable 43 = .ok (.iload_n 3, 1) := by decide +kernel
theorem dX0_addVariable_44 : decode cX0_addVariable 44 = .ok (.iload_n 1, 1) := by decide +kernel
theorem dX0_addVariable_45 : decode cX0_addVariable 45 = .ok (.iastore, 1) := by decide +kernel
theorem dX0_addVariable_46 : decode cX0_addVariable 46 = .ok (.aload_n 0, 1) := by decide +kernel
theorem dX0_addVariable_47 : decode cX0_addVariable 47 = .ok (.dup, 1) := by decide +kernel
theorem dX0_addVariable_48 : decode cX0_addVariable 48 = .ok (.getfield 19, 3) := by decide +kernel
theorem dX0_addVariable_51 : decode cX0_addVariable 51 = .ok (.iconst 1, 1) := by decide +kernel
theorem dX0_addVariable_52 : decode cX0_addVariable 52 = .ok (.iadd, 1) := by decide +kernel
theorem dX0_addVariable_53 : decode cX0_addVariable 53 = .ok (.putfield 19, 3) := by decide +kernel
theorem dX0_addVariable_56 : decode cX0_addVariable 56 = .ok (.aload_n 0, 1) := by decide +kernel
theorem dX0_addVariable_57 : decode cX0_addVariable 57 = .ok (.iload_n 3, 1) := by decide +kernel
theorem dX0_addVariable_58 : decode cX0_addVariable 58 = .ok (.invokevirtual 22, 3) := by decide +kernel
theorem dX0_addVariable_61 : decode cX0_addVariable 61 = .ok (.ireturn, 1) := by decide +kernel
def lX0_addVariable_2 (N : Nat) (v0 : Nat) (v1 : Int32) (v2 : Nat) : Nat → Int32 → qM → Option (Int32 × qM)
  | 0, _, _ => none
  | n + 1, v3, m0 =>
    (qgI m0 v0 0 2).bind fun x1 =>
    if x1 ≤ v3 then (
    some (v3, m0)
    ) else (
    (qaI m0 v2 12 v3).bind fun x2 =>
    if x2 = v1 then (
    some (v3, m0)
    ) else (
    lX0_addVariable_2 N v0 v1 v2 n (v3 + (1 : Int32)) m0
    )
    )
set_option maxRecDepth 100000 in
theorem lbX0_addVariable_2 {E : qE} {N d bc bs : Nat} (hd : 1 ≤ d) {v0 : Nat} {v1 : Int32} {v2 : Nat} : ∀ (n : Nat) (v3 : Int32) (m0 : qM), qB E yX0_addVariable cX0_addVariable 4 (some .boolean) (fun _ => True) d bc bs 2 [(0, .ref (E.2.1 + v0)), (1, .int v1), (2, .ref (E.2.1 + v2)), (3, .int v3)] [] m0 (lX0_addVariable_2 N v0 v1 v2 n v3 m0) (fun o rr => qJ E yX0_addVariable cX0_addVariable 4 (some .boolean) (fun _ => True) d bc bs 23 [(0, .ref (E.2.1 + v0)), (1, .int v1), (2, .ref (E.2.1 + v2)), (3, .int o.1)] [] o.2 rr) := by
  intro n
  induction n with
  | zero =>
    intro v3 m0
    exact j_none
  | succ n ih =>
    intro v3 m0
    unfold lX0_addVariable_2
    refine j_iload_n (q := 3) (np := 3) rfl rfl dX0_addVariable_2 rfl ?_
    refine j_aload_n (q := 0) (np := 4) rfl rfl dX0_addVariable_3 rfl ?_
    refine j_gI (np := 7) flX0_19 dX0_addVariable_4 rfl (fun x1 => ?_)
    refine j_icmp_ge (tgt := 23) (np := 10) dX0_addVariable_7 rfl rfl ?_ ?_
    · exact j_exit (fun rr h => h)
    · refine j_aload_n (q := 2) (np := 11) rfl rfl dX0_addVariable_10 rfl ?_
      refine j_iload_n (q := 3) (np := 12) rfl rfl dX0_addVariable_11 rfl ?_
      refine j_iaload (np := 13) dX0_addVariable_12 rfl (fun x2 => ?_)
      refine j_iload_n (q := 1) (np := 14) rfl rfl dX0_addVariable_13 rfl ?_
      refine j_icmp_eq (tgt := 23) (np := 17) dX0_addVariable_14 rfl rfl ?_ ?_
      · exact j_exit (fun rr h => h)
      · refine j_iinc (q := 3) (np := 20) (lv2 := [(3, .int (v3 + (1 : Int32))), (0, .ref (E.2.1 + v0)), (1, .int v1), (2, .ref (E.2.1 + v2))]) rfl (congrArg _ ci_1) (by decide) dX0_addVariable_17 rfl rfl ?_
        refine j_goto (tgt := 2) dX0_addVariable_20 rfl ?_
        refine j_sub (lv2 := [(0, .ref (E.2.1 + v0)), (1, .int v1), (2, .ref (E.2.1 + v2)), (3, .int (v3 + (1 : Int32)))]) [1, 2, 3, 0] rfl ?_
        exact ih _ _
def kX0_addVariable_56 (N : Nat) (v0 : Nat) (v3 : Int32)  (m0 : qM) : Option (Int32 × qM) :=
  (qChk m0 v0 0 (fX0_addSign N v0 v3 m0)).bind fun b1 =>
  some (b1.1 &&& 1, b1.2)
set_option maxRecDepth 100000 in
theorem kbX0_addVariable_56 {E : qE} {N d bc bs : Nat} (hd : 1 ≤ d) {v0 : Nat} {v3 : Int32}  {m0 : qM} : qB E yX0_addVariable cX0_addVariable 4 (some .boolean) (fun _ => True) d bc bs 56 [(0, .ref (E.2.1 + v0)), (3, .int v3)] [] m0 (kX0_addVariable_56 N v0 v3 m0) (fun b rr => rr = (some (.int b.1), b.2)) := by
  unfold kX0_addVariable_56
  refine j_aload_n (q := 0) (np := 57) rfl rfl dX0_addVariable_56 rfl ?_
  refine j_iload_n (q := 1) (np := 58) rfl rfl dX0_addVariable_57 rfl ?_
  refine j_callVi (ci := 0) (np := 61) (bc := bc) (bs := bs) (cb := 0) (cs := 0) (dd := d - 1) (As := [.int v3]) (st := []) caX0_addSign mlX0_22 imX0_addSign seX0_addSign rfl rfl (by decide) (fun b hb => wX0_addSign (by omega) hb) (by omega) rfl rfl (Nat.le_of_ble_eq_true rfl) dX0_addVariable_58 rfl (fun b1 => ?_)
  exact j_zret rfl dX0_addVariable_61 (fun rr h => h)
def fX0_addVariable (N : Nat) (v0 : Nat) (v1 : Int32) (v2 : Nat) (m0 : qM) : Option (Int32 × qM) :=
  (lX0_addVariable_2 N v0 v1 v2 N (0 : Int32) m0).bind fun o1 =>
  (qgI o1.2 v0 0 2).bind fun x2 =>
  if o1.1 = x2 then (
  (qgI o1.2 v0 0 2).bind fun x3 =>
  if x3 < (12 : Int32) then (
  (qwI o1.2 v2 12 o1.1 v1).bind fun m4 =>
  (qgI m4 v0 0 2).bind fun x5 =>
  (qpI m4 v0 0 2 (x5 + (1 : Int32))).bind fun m6 =>
  kX0_addVariable_56 N v0 o1.1 m6
  ) else (
  some ((0 : Int32), o1.2)
  )
  ) else (
  kX0_addVariable_56 N v0 o1.1 o1.2
  )
set_option maxRecDepth 100000 in
theorem bX0_addVariable {E : qE} {N d bc bs : Nat} (hd : 1 ≤ d) {v0 : Nat} {v1 : Int32} {v2 : Nat} {m0 : qM} : qB E yX0_addVariable cX0_addVariable 4 (some .boolean) (fun _ => True) d bc bs 0 [(0, .ref (E.2.1 + v0)), (1, .int v1), (2, .ref (E.2.1 + v2))] [] m0 (fX0_addVariable N v0 v1 v2 m0) (fun b rr => rr = (some (.int b.1), b.2)) := by
  unfold fX0_addVariable
  refine j_iconst (np := 1) ci_0 dX0_addVariable_0 rfl ?_
  refine j_istore_n (np := 2) (lv2 := [(3, .int (0 : Int32)), (0, .ref (E.2.1 + v0)), (1, .int v1), (2, .ref (E.2.1 + v2))]) rfl (by decide) dX0_addVariable_1 rfl rfl ?_
  refine j_sub (lv2 := [(0, .ref (E.2.1 + v0)), (1, .int v1), (2, .ref (E.2.1 + v2)), (3, .int (0 : Int32))]) [1, 2, 3, 0] rfl ?_
  refine j_loop (xp := 23) (lvX := fun o1 => [(0, .ref (E.2.1 + v0)), (1, .int v1), (2, .ref (E.2.1 + v2)), (3, .int o1.1)]) (mX := fun o1 => o1.2) (lbX0_addVariable_2 hd _ _ _) (fun o1 => ?_)
  refine j_iload_n (q := 3) (np := 24) rfl rfl dX0_addVariable_23 rfl ?_
  refine j_aload_n (q := 0) (np := 25) rfl rfl dX0_addVariable_24 rfl ?_
  refine j_gI (np := 28) flX0_19 dX0_addVariable_25 rfl (fun x2 => ?_)
  refine j_icmp_ne (tgt := 56) (np := 31) dX0_addVariable_28 rfl rfl ?_ ?_
  · refine j_sub (lv2 := [(0, .ref (E.2.1 + v0)), (3, .int o1.1)]) [0, 3] rfl ?_
    exact kbX0_addVariable_56 hd
  · refine j_aload_n (q := 0) (np := 32) rfl rfl dX0_addVariable_31 rfl ?_
    refine j_gI (np := 35) flX0_19 dX0_addVariable_32 rfl (fun x3 => ?_)
    refine j_bipush (np := 37) cb_12 dX0_addVariable_35 rfl ?_
    refine j_icmp_lt (tgt := 42) (np := 40) dX0_addVariable_37 rfl rfl ?_ ?_
    · refine j_aload_n (q := 2) (np := 43) rfl rfl dX0_addVariable_42 rfl ?_
      refine j_iload_n (q := 3) (np := 44) rfl rfl dX0_addVariable_43 rfl ?_
      refine j_iload_n (q := 1) (np := 45) rfl rfl dX0_addVariable_44 rfl ?_
      refine j_iastore (np := 46) dX0_addVariable_45 rfl (fun m4 => ?_)
      refine j_aload_n (q := 0) (np := 47) rfl rfl dX0_addVariable_46 rfl ?_
      refine j_dup (np := 48) rfl dX0_addVariable_47 rfl ?_
      refine j_gI (np := 51) flX0_19 dX0_addVariable_48 rfl (fun x5 => ?_)
      refine j_iconst (np := 52) ci_1 dX0_addVariable_51 rfl ?_
      refine j_iadd (np := 53) dX0_addVariable_52 rfl ?_
      refine j_pI (np := 56) flX0_19 dX0_addVariable_53 rfl (fun m6 => ?_)
      refine j_sub (lv2 := [(0, .ref (E.2.1 + v0)), (3, .int o1.1)]) [0, 3] rfl ?_
      exact kbX0_addVariable_56 hd
    · refine j_iconst (np := 41) ci_0 dX0_addVariable_40 rfl ?_
      exact j_zret rfl dX0_addVariable_41 (fun rr h => by rw [z0]; exact h)
set_option maxRecDepth 100000 in
theorem wX0_addVariable {E : qE} {N d : Nat} (hd : 1 ≤ d) {v0 : Nat} {v1 : Int32} {v2 : Nat} {m0 : qM} {b : Int32 × qM} (h : fX0_addVariable N v0 v1 v2 m0 = some b) : qRun E yX0_addVariable cX0_addVariable 4 (some .boolean) d 0 0 [.ref (E.2.1 + v0), .int v1, .ref (E.2.1 + v2)] m0 (some (.int b.1), b.2) := q_met pnX0 (Nat.le_of_ble_eq_true rfl) (bX0_addVariable hd b _ h rfl)
theorem dX0_addLetter_0 : decode cX0_addLetter 0 = .ok (.iload_n 1, 1) := by decide +kernel
theorem dX0_addLetter_1 : decode cX0_addLetter 1 = .ok (.bipush 67, 2) := by decide +kernel
theorem dX0_addLetter_3 : decode cX0_addLetter 3 = .ok (.if_icmp .ne 11, 3) := by decide +kernel
theorem dX0_addLetter_6 : decode cX0_addLetter 6 = .ok (.aload_n 0, 1) := by decide +kernel
theorem dX0_addLetter_7 : decode cX0_addLetter 7 = .ok (.iconst (-1), 1) := by decide +kernel
theorem dX0_addLetter_8 : decode cX0_addLetter 8 = .ok (.invokevirtual 22, 3) := by decide +kernel
theorem dX0_addLetter_11 : decode cX0_addLetter 11 = .ok (.goto 9, 3) := by decide +kernel
theorem dX0_addLetter_14 : decode cX0_addLetter 14 = .ok (.aload_n 0, 1) := by decide +kernel
theorem dX0_addLetter_15 : decode cX0_addLetter 15 = .ok (.iload_n 1, 1) := by decide +kernel
theorem dX0_addLetter_16 : decode cX0_addLetter 16 = .ok (.aload_n 2, 1) := by decide +kernel
theorem dX0_addLetter_17 : decode cX0_addLetter 17 = .ok (.invokevirtual 26, 3) := by decide +kernel
theorem dX0_addLetter_20 : decode cX0_addLetter 20 = .ok (.ireturn, 1) := by decide +kernel
def fX0_addLetter (N : Nat) (v0 : Nat) (v1 : Int32) (v2 : Nat) (m0 : qM) : Option (Int32 × qM) :=
  if v1 = (67 : Int32) then (
  (qChk m0 v0 0 (fX0_addSign N v0 (-1 : Int32) m0)).bind fun b2 =>
  some (b2.1 &&& 1, b2.2)
  ) else (
  (qChk m0 v0 0 (fX0_addVariable N v0 v1 v2 m0)).bind fun b1 =>
  some (b1.1 &&& 1, b1.2)
  )
set_option maxRecDepth 100000 in
theorem bX0_addLetter {E : qE} {N d bc bs : Nat} (hd : 2 ≤ d) {v0 : Nat} {v1 : Int32} {v2 : Nat} {m0 : qM} : qB E yX0_addLetter cX0_addLetter 3 (some .boolean) (fun _ => True) d bc bs 0 [(0, .ref (E.2.1 + v0)), (1, .int v1), (2, .ref (E.2.1 + v2))] [] m0 (fX0_addLetter N v0 v1 v2 m0) (fun b rr => rr = (some (.int b.1), b.2)) := by
  unfold fX0_addLetter
  refine j_iload_n (q := 1) (np := 1) rfl rfl dX0_addLetter_0 rfl ?_
  refine j_bipush (np := 3) cb_67 dX0_addLetter_1 rfl ?_
  refine j_icmp_ne (tgt := 14) (np := 6) dX0_addLetter_3 rfl rfl ?_ ?_
  · refine j_aload_n (q := 0) (np := 15) rfl rfl dX0_addLetter_14 rfl ?_
    refine j_iload_n (q := 1) (np := 16) rfl rfl dX0_addLetter_15 rfl ?_
    refine j_aload_n (q := 2) (np := 17) rfl rfl dX0_addLetter_16 rfl ?_
    refine j_callVi (ci := 0) (np := 20) (bc := bc) (bs := bs) (cb := 0) (cs := 0) (dd := d - 1) (As := [.int v1, .ref (E.2.1 + v2)]) (st := []) caX0_addVariable mlX0_26 imX0_addVariable seX0_addVariable rfl rfl (by decide) (fun b hb => wX0_addVariable (by omega) hb) (by omega) rfl rfl (Nat.le_of_ble_eq_true rfl) dX0_addLetter_17 rfl (fun b1 => ?_)
    exact j_zret rfl dX0_addLetter_20 (fun rr h => h)
  · refine j_aload_n (q := 0) (np := 7) rfl rfl dX0_addLetter_6 rfl ?_
    refine j_iconst (np := 8) ci_m1 dX0_addLetter_7 rfl ?_
    refine j_callVi (ci := 0) (np := 11) (bc := bc) (bs := bs) (cb := 0) (cs := 0) (dd := d - 1) (As := [.int (-1 : Int32)]) (st := []) caX0_addSign mlX0_22 imX0_addSign seX0_addSign rfl rfl (by decide) (fun b hb => wX0_addSign (by omega) hb) (by omega) rfl rfl (Nat.le_of_ble_eq_true rfl) dX0_addLetter_8 rfl (fun b2 => ?_)
    refine j_goto (tgt := 20) dX0_addLetter_11 rfl ?_
    exact j_zret rfl dX0_addLetter_20 (fun rr h => h)
set_option maxRecDepth 100000 in
theorem wX0_addLetter {E : qE} {N d : Nat} (hd : 2 ≤ d) {v0 : Nat} {v1 : Int32} {v2 : Nat} {m0 : qM} {b : Int32 × qM} (h : fX0_addLetter N v0 v1 v2 m0 = some b) : qRun E yX0_addLetter cX0_addLetter 3 (some .boolean) d 0 0 [.ref (E.2.1 + v0), .int v1, .ref (E.2.1 + v2)] m0 (some (.int b.1), b.2) := q_met pnX0 (Nat.le_of_ble_eq_true rfl) (bX0_addLetter hd b _ h rfl)
theorem dX0_copyFrom_0 : decode cX0_copyFrom 0 = .ok (.aload_n 1, 1) := by decide +kernel
theorem dX0_copyFrom_1 : decode cX0_copyFrom 1 = .ok (.getfield 9, 3) := by decide +kernel
theorem dX0_copyFrom_4 : decode cX0_copyFrom 4 = .ok (.iconst 0, 1) := by decide +kernel
theorem dX0_copyFrom_5 : decode cX0_copyFrom 5 = .ok (.aload_n 0, 1) := by decide +kernel
theorem dX0_copyFrom_6 : decode cX0_copyFrom 6 = .ok (.getfield 9, 3) := by decide +kernel
theorem dX0_copyFrom_9 : decode cX0_copyFrom 9 = .ok (.iconst 0, 1) := by decide +kernel
theorem dX0_copyFrom_10 : decode cX0_copyFrom 10 = .ok (.aload_n 1, 1) := by decide +kernel
theorem dX0_copyFrom_11 : decode cX0_copyFrom 11 = .ok (.getfield 15, 3) := by decide +kernel
theorem dX0_copyFrom_14 : decode cX0_copyFrom 14 = .ok (.invokestatic 30, 3) := by decide +kernel
theorem dX0_copyFrom_17 : decode cX0_copyFrom 17 = .ok (.aload_n 0, 1) := by decide +kernel
theorem dX0_copyFrom_18 : decode cX0_copyFrom 18 = .ok (.aload_n 1, 1) := by decide +kernel
theorem dX0_copyFrom_19 : decode cX0_copyFrom 19 = .ok (.getfield 15, 3) := by decide +kernel
theorem dX0_copyFrom_22 : decode cX0_copyFrom 22 = .ok (.putfield 15, 3) := by decide +kernel
theorem dX0_copyFrom_25 : decode cX0_copyFrom 25 = .ok (.aload_n 0, 1) := by decide +kernel
theorem dX0_copyFrom_26 : decode cX0_copyFrom 26 = .ok (.aload_n 1, 1) := by decide +kernel
theorem dX0_copyFrom_27 : decode cX0_copyFrom 27 = .ok (.getfield 19, 3) := by decide +kernel
theorem dX0_copyFrom_30 : decode cX0_copyFrom 30 = .ok (.putfield 19, 3) := by decide +kernel
theorem dX0_copyFrom_33 : decode cX0_copyFrom 33 = .ok (.return_, 1) := by decide +kernel
def fX0_copyFrom (N : Nat) (v0 : Nat) (v1 : Nat) (m0 : qM) : Option (qM) :=
  (qgR m0 v1 0 0).bind fun x1 =>
  (qgR m0 v0 0 0).bind fun x2 =>
  (qgI m0 v1 0 1).bind fun x3 =>
  (qcpy m0 x1 (0 : Int32) x2 (0 : Int32) x3).bind fun m4 =>
  (qgI m4 v1 0 1).bind fun x5 =>
  (qpI m4 v0 0 1 x5).bind fun m6 =>
  (qgI m6 v1 0 2).bind fun x7 =>
  (qpI m6 v0 0 2 x7).bind fun m8 =>
  some m8
set_option maxRecDepth 100000 in
theorem bX0_copyFrom {E : qE} {N d bc bs : Nat} (hd : 1 ≤ d) {v0 : Nat} {v1 : Nat} {m0 : qM} : qB E yX0_copyFrom cX0_copyFrom 2 none (fun _ => True) d bc bs 0 [(0, .ref (E.2.1 + v0)), (1, .ref (E.2.1 + v1))] [] m0 (fX0_copyFrom N v0 v1 m0) (fun b rr => rr = (none, b)) := by
  unfold fX0_copyFrom
  refine j_aload_n (q := 1) (np := 1) rfl rfl dX0_copyFrom_0 rfl ?_
  refine j_gR (np := 4) flX0_9 dX0_copyFrom_1 rfl (fun x1 => ?_)
  refine j_iconst (np := 5) ci_0 dX0_copyFrom_4 rfl ?_
  refine j_aload_n (q := 0) (np := 6) rfl rfl dX0_copyFrom_5 rfl ?_
  refine j_gR (np := 9) flX0_9 dX0_copyFrom_6 rfl (fun x2 => ?_)
  refine j_iconst (np := 10) ci_0 dX0_copyFrom_9 rfl ?_
  refine j_aload_n (q := 1) (np := 11) rfl rfl dX0_copyFrom_10 rfl ?_
  refine j_gI (np := 14) flX0_15 dX0_copyFrom_11 rfl (fun x3 => ?_)
  refine j_copy (np := 17) mlX0_30 ntCopy stCopy inSys (by omega) (Nat.le_of_ble_eq_true rfl) dX0_copyFrom_14 rfl (fun m4 => ?_)
  refine j_aload_n (q := 0) (np := 18) rfl rfl dX0_copyFrom_17 rfl ?_
  refine j_aload_n (q := 1) (np := 19) rfl rfl dX0_copyFrom_18 rfl ?_
  refine j_gI (np := 22) flX0_15 dX0_copyFrom_19 rfl (fun x5 => ?_)
  refine j_pI (np := 25) flX0_15 dX0_copyFrom_22 rfl (fun m6 => ?_)
  refine j_aload_n (q := 0) (np := 26) rfl rfl dX0_copyFrom_25 rfl ?_
  refine j_aload_n (q := 1) (np := 27) rfl rfl dX0_copyFrom_26 rfl ?_
  refine j_gI (np := 30) flX0_19 dX0_copyFrom_27 rfl (fun x7 => ?_)
  refine j_pI (np := 33) flX0_19 dX0_copyFrom_30 rfl (fun m8 => ?_)
  exact j_vret rfl dX0_copyFrom_33 (fun rr h => h)
set_option maxRecDepth 100000 in
theorem wX0_copyFrom {E : qE} {N d : Nat} (hd : 1 ≤ d) {v0 : Nat} {v1 : Nat} {m0 : qM} {b : qM} (h : fX0_copyFrom N v0 v1 m0 = some b) : qRun E yX0_copyFrom cX0_copyFrom 2 none d 0 0 [.ref (E.2.1 + v0), .ref (E.2.1 + v1)] m0 (none, b) := q_met pnX0 (Nat.le_of_ble_eq_true rfl) (bX0_copyFrom hd b _ h rfl)
theorem dX0_sameSigns_0 : decode cX0_sameSigns 0 = .ok (.iconst 0, 1) := by decide +kernel
theorem dX0_sameSigns_1 : decode cX0_sameSigns 1 = .ok (.istore 5, 2) := by decide +kernel
theorem dX0_sameSigns_3 : decode cX0_sameSigns 3 = .ok (.iload 5, 2) := by decide +kernel
theorem dX0_sameSigns_5 : decode cX0_sameSigns 5 = .ok (.iload 4, 2) := by decide +kernel
theorem dX0_sameSigns_7 : decode cX0_sameSigns 7 = .ok (.if_icmp .ge 32, 3) := by decide +kernel
theorem dX0_sameSigns_10 : decode cX0_sameSigns 10 = .ok (.aload_n 0, 1) := by decide +kernel
theorem dX0_sameSigns_11 : decode cX0_sameSigns 11 = .ok (.getfield 9, 3) := by decide +kernel
theorem dX0_sameSigns_14 : decode cX0_sameSigns 14 = .ok (.iload_n 1, 1) := by decide +kernel
theorem dX0_sameSigns_15 : decode cX0_sameSigns 15 = .ok (.iload 5, 2) := by decide +kernel
theorem dX0_sameSigns_17 : decode cX0_sameSigns 17 = .ok (.iadd, 1) := by decide +kernel
theorem dX0_sameSigns_18 : decode cX0_sameSigns 18 = .ok (.iaload, 1) := by decide +kernel
theorem dX0_sameSigns_19 : decode cX0_sameSigns 19 = .ok (.aload_n 2, 1) := by decide +kernel
theorem dX0_sameSigns_20 : decode cX0_sameSigns 20 = .ok (.getfield 9, 3) := by decide +kernel
theorem dX0_sameSigns_23 : decode cX0_sameSigns 23 = .ok (.iload_n 3, 1) := by decide +kernel
theorem dX0_sameSigns_24 : decode cX0_sameSigns 24 = .ok (.iload 5, 2) := by decide +kernel
theorem dX0_sameSigns_26 : decode cX0_sameSigns 26 = .ok (.iadd, 1) := by decide +kernel
theorem dX0_sameSigns_27 : decode cX0_sameSigns 27 = .ok (.iaload, 1) := by decide +kernel
theorem dX0_sameSigns_28 : decode cX0_sameSigns 28 = .ok (.if_icmp .eq 5, 3) := by decide +kernel
theorem dX0_sameSigns_31 : decode cX0_sameSigns 31 = .ok (.iconst 0, 1) := by decide +kernel
theorem dX0_sameSigns_32 : decode cX0_sameSigns 32 = .ok (.ireturn, 1) := by decide +kernel
theorem dX0_sameSigns_33 : decode cX0_sameSigns 33 = .ok (.iinc 5 1, 3) := by decide +kernel
theorem dX0_sameSigns_36 : decode cX0_sameSigns 36 = .ok (.goto (-33), 3) := by decide +kernel
theorem dX0_sameSigns_39 : decode cX0_sameSigns 39 = .ok (.iconst 1, 1) := by decide +kernel
theorem dX0_sameSigns_40 : decode cX0_sameSigns 40 = .ok (.ireturn, 1) := by decide +kernel
def lX0_sameSigns_3 (N : Nat) (v0 : Nat) (v1 : Int32) (v2 : Nat) (v3 : Int32) (v4 : Int32) : Nat → Int32 → qM → Option ((qM) ⊕ (Int32 × qM))
  | 0, _, _ => none
  | n + 1, v5, m0 =>
    if v4 ≤ v5 then (
    some (.inl m0)
    ) else (
    (qgR m0 v0 0 0).bind fun x1 =>
    (qaI m0 x1 12 (v1 + v5)).bind fun x2 =>
    (qgR m0 v2 0 0).bind fun x3 =>
    (qaI m0 x3 12 (v3 + v5)).bind fun x4 =>
    if x2 = x4 then (
    lX0_sameSigns_3 N v0 v1 v2 v3 v4 n (v5 + (1 : Int32)) m0
    ) else (
    some (.inr ((0 : Int32), m0))
    )
    )
set_option maxRecDepth 100000 in
theorem lbX0_sameSigns_3 {E : qE} {N d bc bs : Nat} (hd : 0 ≤ d) {v0 : Nat} {v1 : Int32} {v2 : Nat} {v3 : Int32} {v4 : Int32} : ∀ (n : Nat) (v5 : Int32) (m0 : qM), qB E yX0_sameSigns cX0_sameSigns 6 (some .boolean) (fun _ => True) d bc bs 3 [(0, .ref (E.2.1 + v0)), (1, .int v1), (2, .ref (E.2.1 + v2)), (3, .int v3), (4, .int v4), (5, .int v5)] [] m0 (lX0_sameSigns_3 N v0 v1 v2 v3 v4 n v5 m0) (qGL (fun o rr => qJ E yX0_sameSigns cX0_sameSigns 6 (some .boolean) (fun _ => True) d bc bs 39 [] [] o rr) (fun r => (some (.int r.1), r.2))) := by
  intro n
  induction n with
  | zero =>
    intro v5 m0
    exact j_none
  | succ n ih =>
    intro v5 m0
    unfold lX0_sameSigns_3
    refine j_iload (q := 5) (np := 5) rfl dX0_sameSigns_3 rfl ?_
    refine j_iload (q := 4) (np := 7) rfl dX0_sameSigns_5 rfl ?_
    refine j_icmp_ge (tgt := 39) (np := 10) dX0_sameSigns_7 rfl rfl ?_ ?_
    · refine j_sub (lv2 := []) [] rfl ?_
      exact j_exit (fun rr h => h)
    · refine j_aload_n (q := 0) (np := 11) rfl rfl dX0_sameSigns_10 rfl ?_
      refine j_gR (np := 14) flX0_9 dX0_sameSigns_11 rfl (fun x1 => ?_)
      refine j_iload_n (q := 1) (np := 15) rfl rfl dX0_sameSigns_14 rfl ?_
      refine j_iload (q := 5) (np := 17) rfl dX0_sameSigns_15 rfl ?_
      refine j_iadd (np := 18) dX0_sameSigns_17 rfl ?_
      refine j_iaload (np := 19) dX0_sameSigns_18 rfl (fun x2 => ?_)
      refine j_aload_n (q := 2) (np := 20) rfl rfl dX0_sameSigns_19 rfl ?_
      refine j_gR (np := 23) flX0_9 dX0_sameSigns_20 rfl (fun x3 => ?_)
      refine j_iload_n (q := 3) (np := 24) rfl rfl dX0_sameSigns_23 rfl ?_
      refine j_iload (q := 5) (np := 26) rfl dX0_sameSigns_24 rfl ?_
      refine j_iadd (np := 27) dX0_sameSigns_26 rfl ?_
      refine j_iaload (np := 28) dX0_sameSigns_27 rfl (fun x4 => ?_)
      refine j_icmp_eq (tgt := 33) (np := 31) dX0_sameSigns_28 rfl rfl ?_ ?_
      · refine j_iinc (q := 5) (np := 36) (lv2 := [(5, .int (v5 + (1 : Int32))), (0, .ref (E.2.1 + v0)), (1, .int v1), (2, .ref (E.2.1 + v2)), (3, .int v3), (4, .int v4)]) rfl (congrArg _ ci_1) (by decide) dX0_sameSigns_33 rfl rfl ?_
        refine j_goto (tgt := 3) dX0_sameSigns_36 rfl ?_
        refine j_sub (lv2 := [(0, .ref (E.2.1 + v0)), (1, .int v1), (2, .ref (E.2.1 + v2)), (3, .int v3), (4, .int v4), (5, .int (v5 + (1 : Int32)))]) [1, 2, 3, 4, 5, 0] rfl ?_
        exact ih _ _
      · refine j_iconst (np := 32) ci_0 dX0_sameSigns_31 rfl ?_
        exact j_zret rfl dX0_sameSigns_32 (fun rr h => by rw [z0]; exact h)
def fX0_sameSigns (N : Nat) (v0 : Nat) (v1 : Int32) (v2 : Nat) (v3 : Int32) (v4 : Int32) (m0 : qM) : Option (Int32 × qM) :=
  qTh (lX0_sameSigns_3 N v0 v1 v2 v3 v4 N (0 : Int32) m0) (fun o1 =>
  some ((1 : Int32), o1)
  ) (fun r => r)
set_option maxRecDepth 100000 in
theorem bX0_sameSigns {E : qE} {N d bc bs : Nat} (hd : 0 ≤ d) {v0 : Nat} {v1 : Int32} {v2 : Nat} {v3 : Int32} {v4 : Int32} {m0 : qM} : qB E yX0_sameSigns cX0_sameSigns 6 (some .boolean) (fun _ => True) d bc bs 0 [(0, .ref (E.2.1 + v0)), (1, .int v1), (2, .ref (E.2.1 + v2)), (3, .int v3), (4, .int v4)] [] m0 (fX0_sameSigns N v0 v1 v2 v3 v4 m0) (fun b rr => rr = (some (.int b.1), b.2)) := by
  unfold fX0_sameSigns
  refine j_iconst (np := 1) ci_0 dX0_sameSigns_0 rfl ?_
  refine j_istore (np := 3) (lv2 := [(5, .int (0 : Int32)), (0, .ref (E.2.1 + v0)), (1, .int v1), (2, .ref (E.2.1 + v2)), (3, .int v3), (4, .int v4)]) (by decide) dX0_sameSigns_1 rfl rfl ?_
  refine j_sub (lv2 := [(0, .ref (E.2.1 + v0)), (1, .int v1), (2, .ref (E.2.1 + v2)), (3, .int v3), (4, .int v4), (5, .int (0 : Int32))]) [1, 2, 3, 4, 5, 0] rfl ?_
  refine j_loopG (xp := 39) (lvX := fun o1 => []) (mX := fun o1 => o1) (lbX0_sameSigns_3 hd _ _ _) (fun r rr h => h) (fun o1 => ?_)
  refine j_iconst (np := 40) ci_1 dX0_sameSigns_39 rfl ?_
  exact j_zret rfl dX0_sameSigns_40 (fun rr h => by rw [z1]; exact h)
set_option maxRecDepth 100000 in
theorem wX0_sameSigns {E : qE} {N d : Nat} (hd : 0 ≤ d) {v0 : Nat} {v1 : Int32} {v2 : Nat} {v3 : Int32} {v4 : Int32} {m0 : qM} {b : Int32 × qM} (h : fX0_sameSigns N v0 v1 v2 v3 v4 m0 = some b) : qRun E yX0_sameSigns cX0_sameSigns 6 (some .boolean) d 0 0 [.ref (E.2.1 + v0), .int v1, .ref (E.2.1 + v2), .int v3, .int v4] m0 (some (.int b.1), b.2) := q_met pnX0 (Nat.le_of_ble_eq_true rfl) (bX0_sameSigns hd b _ h rfl)
theorem dX0_sameAs_0 : decode cX0_sameAs 0 = .ok (.aload_n 0, 1) := by decide +kernel
theorem dX0_sameAs_1 : decode cX0_sameAs 1 = .ok (.getfield 15, 3) := by decide +kernel
theorem dX0_sameAs_4 : decode cX0_sameAs 4 = .ok (.aload_n 1, 1) := by decide +kernel
theorem dX0_sameAs_5 : decode cX0_sameAs 5 = .ok (.getfield 15, 3) := by decide +kernel
theorem dX0_sameAs_8 : decode cX0_sameAs 8 = .ok (.if_icmp .ne 21, 3) := by decide +kernel
theorem dX0_sameAs_11 : decode cX0_sameAs 11 = .ok (.aload_n 0, 1) := by decide +kernel
theorem dX0_sameAs_12 : decode cX0_sameAs 12 = .ok (.iconst 0, 1) := by decide +kernel
theorem dX0_sameAs_13 : decode cX0_sameAs 13 = .ok (.aload_n 1, 1) := by decide +kernel
theorem dX0_sameAs_14 : decode cX0_sameAs 14 = .ok (.iconst 0, 1) := by decide +kernel
theorem dX0_sameAs_15 : decode cX0_sameAs 15 = .ok (.aload_n 0, 1) := by decide +kernel
theorem dX0_sameAs_16 : decode cX0_sameAs 16 = .ok (.getfield 15, 3) := by decide +kernel
theorem dX0_sameAs_19 : decode cX0_sameAs 19 = .ok (.invokevirtual 36, 3) := by decide +kernel
theorem dX0_sameAs_22 : decode cX0_sameAs 22 = .ok (.ifCond .eq 7, 3) := by decide +kernel
theorem dX0_sameAs_25 : decode cX0_sameAs 25 = .ok (.iconst 1, 1) := by decide +kernel
theorem dX0_sameAs_26 : decode cX0_sameAs 26 = .ok (.goto 4, 3) := by decide +kernel
theorem dX0_sameAs_29 : decode cX0_sameAs 29 = .ok (.iconst 0, 1) := by decide +kernel
theorem dX0_sameAs_30 : decode cX0_sameAs 30 = .ok (.ireturn, 1) := by decide +kernel
def fX0_sameAs (N : Nat) (v0 : Nat) (v1 : Nat) (m0 : qM) : Option (Int32 × qM) :=
  (qgI m0 v0 0 1).bind fun x1 =>
  (qgI m0 v1 0 1).bind fun x2 =>
  if x1 = x2 then (
  (qgI m0 v0 0 1).bind fun x3 =>
  (qChk m0 v0 0 (fX0_sameSigns N v0 (0 : Int32) v1 (0 : Int32) x3 m0)).bind fun b4 =>
  if b4.1 = 0 then (
  some ((0 : Int32), b4.2)
  ) else (
  some ((1 : Int32), b4.2)
  )
  ) else (
  some ((0 : Int32), m0)
  )
set_option maxRecDepth 100000 in
theorem bX0_sameAs {E : qE} {N d bc bs : Nat} (hd : 1 ≤ d) {v0 : Nat} {v1 : Nat} {m0 : qM} : qB E yX0_sameAs cX0_sameAs 2 (some .boolean) (fun _ => True) d bc bs 0 [(0, .ref (E.2.1 + v0)), (1, .ref (E.2.1 + v1))] [] m0 (fX0_sameAs N v0 v1 m0) (fun b rr => rr = (some (.int b.1), b.2)) := by
  unfold fX0_sameAs
  refine j_aload_n (q := 0) (np := 1) rfl rfl dX0_sameAs_0 rfl ?_
  refine j_gI (np := 4) flX0_15 dX0_sameAs_1 rfl (fun x1 => ?_)
  refine j_aload_n (q := 1) (np := 5) rfl rfl dX0_sameAs_4 rfl ?_
  refine j_gI (np := 8) flX0_15 dX0_sameAs_5 rfl (fun x2 => ?_)
  refine j_icmp_ne (tgt := 29) (np := 11) dX0_sameAs_8 rfl rfl ?_ ?_
  · refine j_iconst (np := 30) ci_0 dX0_sameAs_29 rfl ?_
    exact j_zret rfl dX0_sameAs_30 (fun rr h => by rw [z0]; exact h)
  · refine j_aload_n (q := 0) (np := 12) rfl rfl dX0_sameAs_11 rfl ?_
    refine j_iconst (np := 13) ci_0 dX0_sameAs_12 rfl ?_
    refine j_aload_n (q := 1) (np := 14) rfl rfl dX0_sameAs_13 rfl ?_
    refine j_iconst (np := 15) ci_0 dX0_sameAs_14 rfl ?_
    refine j_aload_n (q := 0) (np := 16) rfl rfl dX0_sameAs_15 rfl ?_
    refine j_gI (np := 19) flX0_15 dX0_sameAs_16 rfl (fun x3 => ?_)
    refine j_callVi (ci := 0) (np := 22) (bc := bc) (bs := bs) (cb := 0) (cs := 0) (dd := d - 1) (As := [.int (0 : Int32), .ref (E.2.1 + v1), .int (0 : Int32), .int x3]) (st := []) caX0_sameSigns mlX0_36 imX0_sameSigns seX0_sameSigns rfl rfl (by decide) (fun b hb => wX0_sameSigns (by omega) hb) (by omega) rfl rfl (Nat.le_of_ble_eq_true rfl) dX0_sameAs_19 rfl (fun b4 => ?_)
    refine j_if_eq (tgt := 29) (np := 25) dX0_sameAs_22 rfl rfl ?_ ?_
    · refine j_iconst (np := 30) ci_0 dX0_sameAs_29 rfl ?_
      exact j_zret rfl dX0_sameAs_30 (fun rr h => by rw [z0]; exact h)
    · refine j_iconst (np := 26) ci_1 dX0_sameAs_25 rfl ?_
      refine j_goto (tgt := 30) dX0_sameAs_26 rfl ?_
      exact j_zret rfl dX0_sameAs_30 (fun rr h => by rw [z1]; exact h)
set_option maxRecDepth 100000 in
theorem wX0_sameAs {E : qE} {N d : Nat} (hd : 1 ≤ d) {v0 : Nat} {v1 : Nat} {m0 : qM} {b : Int32 × qM} (h : fX0_sameAs N v0 v1 m0 = some b) : qRun E yX0_sameAs cX0_sameAs 2 (some .boolean) d 0 0 [.ref (E.2.1 + v0), .ref (E.2.1 + v1)] m0 (some (.int b.1), b.2) := q_met pnX0 (Nat.le_of_ble_eq_true rfl) (bX0_sameAs hd b _ h rfl)
theorem dX0_endOf_0 : decode cX0_endOf 0 = .ok (.iconst 1, 1) := by decide +kernel
theorem dX0_endOf_1 : decode cX0_endOf 1 = .ok (.istore_n 2, 1) := by decide +kernel
theorem dX0_endOf_2 : decode cX0_endOf 2 = .ok (.iload_n 1, 1) := by decide +kernel
theorem dX0_endOf_3 : decode cX0_endOf 3 = .ok (.istore_n 3, 1) := by decide +kernel
theorem dX0_endOf_4 : decode cX0_endOf 4 = .ok (.iload_n 3, 1) := by decide +kernel
theorem dX0_endOf_5 : decode cX0_endOf 5 = .ok (.aload_n 0, 1) := by decide +kernel
theorem dX0_endOf_6 : decode cX0_endOf 6 = .ok (.getfield 15, 3) := by decide +kernel
theorem dX0_endOf_9 : decode cX0_endOf 9 = .ok (.if_icmp .ge 31, 3) := by decide +kernel
theorem dX0_endOf_12 : decode cX0_endOf 12 = .ok (.iload_n 2, 1) := by decide +kernel
theorem dX0_endOf_13 : decode cX0_endOf 13 = .ok (.ifCond .le 27, 3) := by decide +kernel
theorem dX0_endOf_16 : decode cX0_endOf 16 = .ok (.iload_n 2, 1) := by decide +kernel
theorem dX0_endOf_17 : decode cX0_endOf 17 = .ok (.aload_n 0, 1) := by decide +kernel
theorem dX0_endOf_18 : decode cX0_endOf 18 = .ok (.getfield 9, 3) := by decide +kernel
theorem dX0_endOf_21 : decode cX0_endOf 21 = .ok (.iload_n 3, 1) := by decide +kernel
theorem dX0_endOf_22 : decode cX0_endOf 22 = .ok (.iaload, 1) := by decide +kernel
theorem dX0_endOf_23 : decode cX0_endOf 23 = .ok (.iconst (-1), 1) := by decide +kernel
theorem dX0_endOf_24 : decode cX0_endOf 24 = .ok (.if_icmp .ne 7, 3) := by decide +kernel
theorem dX0_endOf_27 : decode cX0_endOf 27 = .ok (.iconst 1, 1) := by decide +kernel
theorem dX0_endOf_28 : decode cX0_endOf 28 = .ok (.goto 4, 3) := by decide +kernel
theorem dX0_endOf_31 : decode cX0_endOf 31 = .ok (.iconst (-1), 1) := by decide +kernel
theorem dX0_endOf_32 : decode cX0_endOf 32 = .ok (.iadd, 1) := by decide +kernel
theorem dX0_endOf_33 : decode cX0_endOf 33 = .ok (.istore_n 2, 1) := by decide +kernel
theorem dX0_endOf_34 : decode cX0_endOf 34 = .ok (.iinc 3 1, 3) := by decide +kernel
theorem dX0_endOf_37 : decode cX0_endOf 37 = .ok (.goto (-33), 3) := by decide +kernel
theorem dX0_endOf_40 : decode cX0_endOf 40 = .ok (.iload_n 3, 1) := by decide +kernel
theorem dX0_endOf_41 : decode cX0_endOf 41 = .ok (.ireturn, 1) := by decide +kernel
def kX0_endOf_32 (N : Nat) (rec : Int32 → Int32 → qM → Option (Int32 × qM)) (v0 : Nat) (v3 : Int32) (s0 : Int32) (s1 : Int32) (m0 : qM) : Option (Int32 × qM) :=
  rec (s0 + s1) (v3 + (1 : Int32)) m0
set_option maxRecDepth 100000 in
theorem kbX0_endOf_32 {E : qE} {N d bc bs : Nat} (hd : 0 ≤ d) {v0 : Nat} {v3 : Int32} {s0 : Int32} {s1 : Int32} {m0 : qM} {rec : Int32 → Int32 → qM → Option (Int32 × qM)} (hrec : ∀ (v2 : Int32) (v3 : Int32) (m : qM), qB E yX0_endOf cX0_endOf 4 (some .int) (fun _ => True) d bc bs 4 [(0, .ref (E.2.1 + v0)), (2, .int v2), (3, .int v3)] [] m (rec v2 v3 m) (fun o rr => qJ E yX0_endOf cX0_endOf 4 (some .int) (fun _ => True) d bc bs 40 [(3, .int o.1)] [] o.2 rr)) : qB E yX0_endOf cX0_endOf 4 (some .int) (fun _ => True) d bc bs 32 [(0, .ref (E.2.1 + v0)), (3, .int v3)] [.int s1, .int s0] m0 (kX0_endOf_32 N rec v0 v3 s0 s1 m0) (fun o rr => qJ E yX0_endOf cX0_endOf 4 (some .int) (fun _ => True) d bc bs 40 [(3, .int o.1)] [] o.2 rr) := by
  unfold kX0_endOf_32
  refine j_iadd (np := 33) dX0_endOf_32 rfl ?_
  refine j_istore_n (np := 34) (lv2 := [(2, .int (s0 + s1)), (0, .ref (E.2.1 + v0)), (3, .int v3)]) rfl (by decide) dX0_endOf_33 rfl rfl ?_
  refine j_iinc (q := 2) (np := 37) (lv2 := [(3, .int (v3 + (1 : Int32))), (2, .int (s0 + s1)), (0, .ref (E.2.1 + v0))]) rfl (congrArg _ ci_1) (by decide) dX0_endOf_34 rfl rfl ?_
  refine j_goto (tgt := 4) dX0_endOf_37 rfl ?_
  refine j_sub (lv2 := [(0, .ref (E.2.1 + v0)), (2, .int (s0 + s1)), (3, .int (v3 + (1 : Int32)))]) [2, 1, 0] rfl ?_
  exact hrec _ _ _
def lX0_endOf_4 (N : Nat) (v0 : Nat) : Nat → Int32 → Int32 → qM → Option (Int32 × qM)
  | 0, _, _, _ => none
  | n + 1, v2, v3, m0 =>
    (qgI m0 v0 0 1).bind fun x1 =>
    if x1 ≤ v3 then (
    some (v3, m0)
    ) else (
    if v2 ≤ 0 then (
    some (v3, m0)
    ) else (
    (qgR m0 v0 0 0).bind fun x2 =>
    (qaI m0 x2 12 v3).bind fun x3 =>
    if x3 = (-1 : Int32) then (
    kX0_endOf_32 N (lX0_endOf_4 N v0 n) v0 v3 v2 (1 : Int32) m0
    ) else (
    kX0_endOf_32 N (lX0_endOf_4 N v0 n) v0 v3 v2 (-1 : Int32) m0
    )
    )
    )
set_option maxRecDepth 100000 in
theorem lbX0_endOf_4 {E : qE} {N d bc bs : Nat} (hd : 0 ≤ d) {v0 : Nat} : ∀ (n : Nat) (v2 : Int32) (v3 : Int32) (m0 : qM), qB E yX0_endOf cX0_endOf 4 (some .int) (fun _ => True) d bc bs 4 [(0, .ref (E.2.1 + v0)), (2, .int v2), (3, .int v3)] [] m0 (lX0_endOf_4 N v0 n v2 v3 m0) (fun o rr => qJ E yX0_endOf cX0_endOf 4 (some .int) (fun _ => True) d bc bs 40 [(3, .int o.1)] [] o.2 rr) := by
  intro n
  induction n with
  | zero =>
    intro v2 v3 m0
    exact j_none
  | succ n ih =>
    intro v2 v3 m0
    unfold lX0_endOf_4
    refine j_iload_n (q := 2) (np := 5) rfl rfl dX0_endOf_4 rfl ?_
    refine j_aload_n (q := 0) (np := 6) rfl rfl dX0_endOf_5 rfl ?_
    refine j_gI (np := 9) flX0_15 dX0_endOf_6 rfl (fun x1 => ?_)
    refine j_icmp_ge (tgt := 40) (np := 12) dX0_endOf_9 rfl rfl ?_ ?_
    · refine j_sub (lv2 := [(3, .int v3)]) [2] rfl ?_
      exact j_exit (fun rr h => h)
    · refine j_iload_n (q := 1) (np := 13) rfl rfl dX0_endOf_12 rfl ?_
      refine j_if_le (tgt := 40) (np := 16) dX0_endOf_13 rfl rfl ?_ ?_
      · refine j_sub (lv2 := [(3, .int v3)]) [2] rfl ?_
        exact j_exit (fun rr h => h)
      · refine j_iload_n (q := 1) (np := 17) rfl rfl dX0_endOf_16 rfl ?_
        refine j_aload_n (q := 0) (np := 18) rfl rfl dX0_endOf_17 rfl ?_
        refine j_gR (np := 21) flX0_9 dX0_endOf_18 rfl (fun x2 => ?_)
        refine j_iload_n (q := 2) (np := 22) rfl rfl dX0_endOf_21 rfl ?_
        refine j_iaload (np := 23) dX0_endOf_22 rfl (fun x3 => ?_)
        refine j_iconst (np := 24) ci_m1 dX0_endOf_23 rfl ?_
        refine j_icmp_ne (tgt := 31) (np := 27) dX0_endOf_24 rfl rfl ?_ ?_
        · refine j_iconst (np := 32) ci_m1 dX0_endOf_31 rfl ?_
          refine j_sub (lv2 := [(0, .ref (E.2.1 + v0)), (3, .int v3)]) [0, 2] rfl ?_
          exact kbX0_endOf_32 hd ih
        · refine j_iconst (np := 28) ci_1 dX0_endOf_27 rfl ?_
          refine j_goto (tgt := 32) dX0_endOf_28 rfl ?_
          refine j_sub (lv2 := [(0, .ref (E.2.1 + v0)), (3, .int v3)]) [0, 2] rfl ?_
          exact kbX0_endOf_32 hd ih
def fX0_endOf (N : Nat) (v0 : Nat) (v1 : Int32) (m0 : qM) : Option (Int32 × qM) :=
  (lX0_endOf_4 N v0 N (1 : Int32) v1 m0).bind fun o1 =>
  some (o1.1, o1.2)
set_option maxRecDepth 100000 in
theorem bX0_endOf {E : qE} {N d bc bs : Nat} (hd : 0 ≤ d) {v0 : Nat} {v1 : Int32} {m0 : qM} : qB E yX0_endOf cX0_endOf 4 (some .int) (fun _ => True) d bc bs 0 [(0, .ref (E.2.1 + v0)), (1, .int v1)] [] m0 (fX0_endOf N v0 v1 m0) (fun b rr => rr = (some (.int b.1), b.2)) := by
  unfold fX0_endOf
  refine j_iconst (np := 1) ci_1 dX0_endOf_0 rfl ?_
  refine j_istore_n (np := 2) (lv2 := [(2, .int (1 : Int32)), (0, .ref (E.2.1 + v0)), (1, .int v1)]) rfl (by decide) dX0_endOf_1 rfl rfl ?_
  refine j_iload_n (q := 2) (np := 3) rfl rfl dX0_endOf_2 rfl ?_
  refine j_istore_n (np := 4) (lv2 := [(3, .int v1), (2, .int (1 : Int32)), (0, .ref (E.2.1 + v0)), (1, .int v1)]) rfl (by decide) dX0_endOf_3 rfl rfl ?_
  refine j_sub (lv2 := [(0, .ref (E.2.1 + v0)), (2, .int (1 : Int32)), (3, .int v1)]) [2, 1, 0] rfl ?_
  refine j_loop (xp := 40) (lvX := fun o1 => [(3, .int o1.1)]) (mX := fun o1 => o1.2) (lbX0_endOf_4 hd _ _ _ _) (fun o1 => ?_)
  refine j_iload_n (q := 0) (np := 41) rfl rfl dX0_endOf_40 rfl ?_
  exact j_iret rfl dX0_endOf_41 (fun rr h => h)
set_option maxRecDepth 100000 in
theorem wX0_endOf {E : qE} {N d : Nat} (hd : 0 ≤ d) {v0 : Nat} {v1 : Int32} {m0 : qM} {b : Int32 × qM} (h : fX0_endOf N v0 v1 m0 = some b) : qRun E yX0_endOf cX0_endOf 4 (some .int) d 0 0 [.ref (E.2.1 + v0), .int v1] m0 (some (.int b.1), b.2) := q_met pnX0 (Nat.le_of_ble_eq_true rfl) (bX0_endOf hd b _ h rfl)
theorem dX7_add_0 : decode cX7_add 0 = .ok (.aload_n 0, 1) := by decide +kernel
theorem dX7_add_1 : decode cX7_add 1 = .ok (.getfield 15, 3) := by decide +kernel
theorem dX7_add_4 : decode cX7_add 4 = .ok (.bipush 120, 2) := by decide +kernel
theorem dX7_add_6 : decode cX7_add 6 = .ok (.if_icmp .ge 23, 3) := by decide +kernel
theorem dX7_add_9 : decode cX7_add 9 = .ok (.aload_n 0, 1) := by decide +kernel
theorem dX7_add_10 : decode cX7_add 10 = .ok (.getfield 9, 3) := by decide +kernel
theorem dX7_add_13 : decode cX7_add 13 = .ok (.aload_n 0, 1) := by decide +kernel
theorem dX7_add_14 : decode cX7_add 14 = .ok (.getfield 15, 3) := by decide +kernel
theorem dX7_add_17 : decode cX7_add 17 = .ok (.iload_n 1, 1) := by decide +kernel
theorem dX7_add_18 : decode cX7_add 18 = .ok (.castore, 1) := by decide +kernel
theorem dX7_add_19 : decode cX7_add 19 = .ok (.aload_n 0, 1) := by decide +kernel
theorem dX7_add_20 : decode cX7_add 20 = .ok (.dup, 1) := by decide +kernel
theorem dX7_add_21 : decode cX7_add 21 = .ok (.getfield 15, 3) := by decide +kernel
theorem dX7_add_24 : decode cX7_add 24 = .ok (.iconst 1, 1) := by decide +kernel
theorem dX7_add_25 : decode cX7_add 25 = .ok (.iadd, 1) := by decide +kernel
theorem dX7_add_26 : decode cX7_add 26 = .ok (.putfield 15, 3) := by decide +kernel
theorem dX7_add_29 : decode cX7_add 29 = .ok (.return_, 1) := by decide +kernel
def fX7_add (N : Nat) (v0 : Nat) (v1 : Int32) (m0 : qM) : Option (qM) :=
  (qgI m0 v0 7 1).bind fun x1 =>
  if (120 : Int32) ≤ x1 then (
  some m0
  ) else (
  (qgR m0 v0 7 0).bind fun x2 =>
  (qgI m0 v0 7 1).bind fun x3 =>
  (qwI m0 x2 11 x3 v1.toUInt32.toUInt16.toUInt32.toInt32).bind fun m4 =>
  (qgI m4 v0 7 1).bind fun x5 =>
  (qpI m4 v0 7 1 (x5 + (1 : Int32))).bind fun m6 =>
  some m6
  )
set_option maxRecDepth 100000 in
theorem bX7_add {E : qE} {N d bc bs : Nat} (hd : 0 ≤ d) {v0 : Nat} {v1 : Int32} {m0 : qM} : qB E yX7_add cX7_add 2 none (fun _ => True) d bc bs 0 [(0, .ref (E.2.1 + v0)), (1, .int v1)] [] m0 (fX7_add N v0 v1 m0) (fun b rr => rr = (none, b)) := by
  unfold fX7_add
  refine j_aload_n (q := 0) (np := 1) rfl rfl dX7_add_0 rfl ?_
  refine j_gI (np := 4) flX7_15 dX7_add_1 rfl (fun x1 => ?_)
  refine j_bipush (np := 6) cb_120 dX7_add_4 rfl ?_
  refine j_icmp_ge (tgt := 29) (np := 9) dX7_add_6 rfl rfl ?_ ?_
  · exact j_vret rfl dX7_add_29 (fun rr h => h)
  · refine j_aload_n (q := 0) (np := 10) rfl rfl dX7_add_9 rfl ?_
    refine j_gR (np := 13) flX7_9 dX7_add_10 rfl (fun x2 => ?_)
    refine j_aload_n (q := 0) (np := 14) rfl rfl dX7_add_13 rfl ?_
    refine j_gI (np := 17) flX7_15 dX7_add_14 rfl (fun x3 => ?_)
    refine j_iload_n (q := 1) (np := 18) rfl rfl dX7_add_17 rfl ?_
    refine j_castore (np := 19) dX7_add_18 rfl (fun m4 => ?_)
    refine j_aload_n (q := 0) (np := 20) rfl rfl dX7_add_19 rfl ?_
    refine j_dup (np := 21) rfl dX7_add_20 rfl ?_
    refine j_gI (np := 24) flX7_15 dX7_add_21 rfl (fun x5 => ?_)
    refine j_iconst (np := 25) ci_1 dX7_add_24 rfl ?_
    refine j_iadd (np := 26) dX7_add_25 rfl ?_
    refine j_pI (np := 29) flX7_15 dX7_add_26 rfl (fun m6 => ?_)
    exact j_vret rfl dX7_add_29 (fun rr h => h)
set_option maxRecDepth 100000 in
theorem wX7_add {E : qE} {N d : Nat} (hd : 0 ≤ d) {v0 : Nat} {v1 : Int32} {m0 : qM} {b : qM} (h : fX7_add N v0 v1 m0 = some b) : qRun E yX7_add cX7_add 2 none d 0 0 [.ref (E.2.1 + v0), .int v1] m0 (none, b) := q_met pnX7 (Nat.le_of_ble_eq_true rfl) (bX7_add hd b _ h rfl)
theorem dX0_writeTo_0 : decode cX0_writeTo 0 = .ok (.iconst 0, 1) := by decide +kernel
theorem dX0_writeTo_1 : decode cX0_writeTo 1 = .ok (.istore_n 2, 1) := by decide +kernel
theorem dX0_writeTo_2 : decode cX0_writeTo 2 = .ok (.iload_n 2, 1) := by decide +kernel
theorem dX0_writeTo_3 : decode cX0_writeTo 3 = .ok (.aload_n 0, 1) := by decide +kernel
theorem dX0_writeTo_4 : decode cX0_writeTo 4 = .ok (.getfield 15, 3) := by decide +kernel
theorem dX0_writeTo_7 : decode cX0_writeTo 7 = .ok (.if_icmp .ge 38, 3) := by decide +kernel
theorem dX0_writeTo_10 : decode cX0_writeTo 10 = .ok (.aload_n 1, 1) := by decide +kernel
theorem dX0_writeTo_11 : decode cX0_writeTo 11 = .ok (.aload_n 0, 1) := by decide +kernel
theorem dX0_writeTo_12 : decode cX0_writeTo 12 = .ok (.getfield 9, 3) := by decide +kernel
theorem dX0_writeTo_15 : decode cX0_writeTo 15 = .ok (.iload_n 2, 1) := by decide +kernel
theorem dX0_writeTo_16 : decode cX0_writeTo 16 = .ok (.iaload, 1) := by decide +kernel
theorem dX0_writeTo_17 : decode cX0_writeTo 17 = .ok (.iconst (-1), 1) := by decide +kernel
theorem dX0_writeTo_18 : decode cX0_writeTo 18 = .ok (.if_icmp .ne 8, 3) := by decide +kernel
theorem dX0_writeTo_21 : decode cX0_writeTo 21 = .ok (.bipush 67, 2) := by decide +kernel
theorem dX0_writeTo_23 : decode cX0_writeTo 23 = .ok (.goto 13, 3) := by decide +kernel
theorem dX0_writeTo_26 : decode cX0_writeTo 26 = .ok (.bipush 97, 2) := by decide +kernel
theorem dX0_writeTo_28 : decode cX0_writeTo 28 = .ok (.aload_n 0, 1) := by decide +kernel
theorem dX0_writeTo_29 : decode cX0_writeTo 29 = .ok (.getfield 9, 3) := by decide +kernel
theorem dX0_writeTo_32 : decode cX0_writeTo 32 = .ok (.iload_n 2, 1) := by decide +kernel
theorem dX0_writeTo_33 : decode cX0_writeTo 33 = .ok (.iaload, 1) := by decide +kernel
theorem dX0_writeTo_34 : decode cX0_writeTo 34 = .ok (.iadd, 1) := by decide +kernel
theorem dX0_writeTo_35 : decode cX0_writeTo 35 = .ok (.i2c, 1) := by decide +kernel
theorem dX0_writeTo_36 : decode cX0_writeTo 36 = .ok (.invokevirtual 40, 3) := by decide +kernel
theorem dX0_writeTo_39 : decode cX0_writeTo 39 = .ok (.iinc 2 1, 3) := by decide +kernel
theorem dX0_writeTo_42 : decode cX0_writeTo 42 = .ok (.goto (-40), 3) := by decide +kernel
theorem dX0_writeTo_45 : decode cX0_writeTo 45 = .ok (.return_, 1) := by decide +kernel
def kX0_writeTo_36 (N : Nat) (rec : Int32 → qM → Option (qM)) (v0 : Nat) (v1 : Nat) (v2 : Int32) (s0 : Nat) (s1 : Int32) (m0 : qM) : Option (qM) :=
  (qChk m0 s0 7 (fX7_add N s0 s1 m0)).bind fun b1 =>
  rec (v2 + (1 : Int32)) b1
set_option maxRecDepth 100000 in
theorem kbX0_writeTo_36 {E : qE} {N d bc bs : Nat} (hd : 1 ≤ d) {v0 : Nat} {v1 : Nat} {v2 : Int32} {s0 : Nat} {s1 : Int32} {m0 : qM} {rec : Int32 → qM → Option (qM)} (hrec : ∀ (v2 : Int32) (m : qM), qB E yX0_writeTo cX0_writeTo 3 none (fun _ => True) d bc bs 2 [(0, .ref (E.2.1 + v0)), (1, .ref (E.2.1 + v1)), (2, .int v2)] [] m (rec v2 m) (fun o rr => qJ E yX0_writeTo cX0_writeTo 3 none (fun _ => True) d bc bs 45 [] [] o rr)) : qB E yX0_writeTo cX0_writeTo 3 none (fun _ => True) d bc bs 36 [(0, .ref (E.2.1 + v0)), (1, .ref (E.2.1 + v1)), (2, .int v2)] [.int s1, .ref (E.2.1 + s0)] m0 (kX0_writeTo_36 N rec v0 v1 v2 s0 s1 m0) (fun o rr => qJ E yX0_writeTo cX0_writeTo 3 none (fun _ => True) d bc bs 45 [] [] o rr) := by
  unfold kX0_writeTo_36
  refine j_callVv (ci := 7) (np := 39) (bc := bc) (bs := bs) (cb := 0) (cs := 0) (dd := d - 1) (As := [.int s1]) (st := []) caX7_add mlX0_40 imX7_add seX7_add rfl rfl (by decide) (fun b hb => wX7_add (by omega) hb) (by omega) rfl rfl (Nat.le_of_ble_eq_true rfl) dX0_writeTo_36 rfl (fun b1 => ?_)
  refine j_iinc (q := 2) (np := 42) (lv2 := [(2, .int (v2 + (1 : Int32))), (0, .ref (E.2.1 + v0)), (1, .ref (E.2.1 + v1))]) rfl (congrArg _ ci_1) (by decide) dX0_writeTo_39 rfl rfl ?_
  refine j_goto (tgt := 2) dX0_writeTo_42 rfl ?_
  refine j_sub (lv2 := [(0, .ref (E.2.1 + v0)), (1, .ref (E.2.1 + v1)), (2, .int (v2 + (1 : Int32)))]) [1, 2, 0] rfl ?_
  exact hrec _ _
def lX0_writeTo_2 (N : Nat) (v0 : Nat) (v1 : Nat) : Nat → Int32 → qM → Option (qM)
  | 0, _, _ => none
  | n + 1, v2, m0 =>
    (qgI m0 v0 0 1).bind fun x1 =>
    if x1 ≤ v2 then (
    some m0
    ) else (
    (qgR m0 v0 0 0).bind fun x2 =>
    (qaI m0 x2 12 v2).bind fun x3 =>
    if x3 = (-1 : Int32) then (
    kX0_writeTo_36 N (lX0_writeTo_2 N v0 v1 n) v0 v1 v2 v1 (67 : Int32) m0
    ) else (
    (qgR m0 v0 0 0).bind fun x4 =>
    (qaI m0 x4 12 v2).bind fun x5 =>
    kX0_writeTo_36 N (lX0_writeTo_2 N v0 v1 n) v0 v1 v2 v1 ((((97 : Int32) + x5).toUInt32 % 65536).toInt32) m0
    )
    )
set_option maxRecDepth 100000 in
theorem lbX0_writeTo_2 {E : qE} {N d bc bs : Nat} (hd : 1 ≤ d) {v0 : Nat} {v1 : Nat} : ∀ (n : Nat) (v2 : Int32) (m0 : qM), qB E yX0_writeTo cX0_writeTo 3 none (fun _ => True) d bc bs 2 [(0, .ref (E.2.1 + v0)), (1, .ref (E.2.1 + v1)), (2, .int v2)] [] m0 (lX0_writeTo_2 N v0 v1 n v2 m0) (fun o rr => qJ E yX0_writeTo cX0_writeTo 3 none (fun _ => True) d bc bs 45 [] [] o rr) := by
  intro n
  induction n with
  | zero =>
    intro v2 m0
    exact j_none
  | succ n ih =>
    intro v2 m0
    unfold lX0_writeTo_2
    refine j_iload_n (q := 2) (np := 3) rfl rfl dX0_writeTo_2 rfl ?_
    refine j_aload_n (q := 0) (np := 4) rfl rfl dX0_writeTo_3 rfl ?_
    refine j_gI (np := 7) flX0_15 dX0_writeTo_4 rfl (fun x1 => ?_)
    refine j_icmp_ge (tgt := 45) (np := 10) dX0_writeTo_7 rfl rfl ?_ ?_
    · refine j_sub (lv2 := []) [] rfl ?_
      exact j_exit (fun rr h => h)
    · refine j_aload_n (q := 1) (np := 11) rfl rfl dX0_writeTo_10 rfl ?_
      refine j_aload_n (q := 0) (np := 12) rfl rfl dX0_writeTo_11 rfl ?_
      refine j_gR (np := 15) flX0_9 dX0_writeTo_12 rfl (fun x2 => ?_)
      refine j_iload_n (q := 2) (np := 16) rfl rfl dX0_writeTo_15 rfl ?_
      refine j_iaload (np := 17) dX0_writeTo_16 rfl (fun x3 => ?_)
      refine j_iconst (np := 18) ci_m1 dX0_writeTo_17 rfl ?_
      refine j_icmp_ne (tgt := 26) (np := 21) dX0_writeTo_18 rfl rfl ?_ ?_
      · refine j_bipush (np := 28) cb_97 dX0_writeTo_26 rfl ?_
        refine j_aload_n (q := 0) (np := 29) rfl rfl dX0_writeTo_28 rfl ?_
        refine j_gR (np := 32) flX0_9 dX0_writeTo_29 rfl (fun x4 => ?_)
        refine j_iload_n (q := 2) (np := 33) rfl rfl dX0_writeTo_32 rfl ?_
        refine j_iaload (np := 34) dX0_writeTo_33 rfl (fun x5 => ?_)
        refine j_iadd (np := 35) dX0_writeTo_34 rfl ?_
        refine j_i2c (np := 36) dX0_writeTo_35 rfl ?_
        exact kbX0_writeTo_36 hd ih
      · refine j_bipush (np := 23) cb_67 dX0_writeTo_21 rfl ?_
        refine j_goto (tgt := 36) dX0_writeTo_23 rfl ?_
        exact kbX0_writeTo_36 hd ih
def fX0_writeTo (N : Nat) (v0 : Nat) (v1 : Nat) (m0 : qM) : Option (qM) :=
  (lX0_writeTo_2 N v0 v1 N (0 : Int32) m0).bind fun o1 =>
  some o1
set_option maxRecDepth 100000 in
theorem bX0_writeTo {E : qE} {N d bc bs : Nat} (hd : 1 ≤ d) {v0 : Nat} {v1 : Nat} {m0 : qM} : qB E yX0_writeTo cX0_writeTo 3 none (fun _ => True) d bc bs 0 [(0, .ref (E.2.1 + v0)), (1, .ref (E.2.1 + v1))] [] m0 (fX0_writeTo N v0 v1 m0) (fun b rr => rr = (none, b)) := by
  unfold fX0_writeTo
  refine j_iconst (np := 1) ci_0 dX0_writeTo_0 rfl ?_
  refine j_istore_n (np := 2) (lv2 := [(2, .int (0 : Int32)), (0, .ref (E.2.1 + v0)), (1, .ref (E.2.1 + v1))]) rfl (by decide) dX0_writeTo_1 rfl rfl ?_
  refine j_sub (lv2 := [(0, .ref (E.2.1 + v0)), (1, .ref (E.2.1 + v1)), (2, .int (0 : Int32))]) [1, 2, 0] rfl ?_
  refine j_loop (xp := 45) (lvX := fun o1 => []) (mX := fun o1 => o1) (lbX0_writeTo_2 hd _ _ _) (fun o1 => ?_)
  exact j_vret rfl dX0_writeTo_45 (fun rr h => h)
set_option maxRecDepth 100000 in
theorem wX0_writeTo {E : qE} {N d : Nat} (hd : 1 ≤ d) {v0 : Nat} {v1 : Nat} {m0 : qM} {b : qM} (h : fX0_writeTo N v0 v1 m0 = some b) : qRun E yX0_writeTo cX0_writeTo 3 none d 0 0 [.ref (E.2.1 + v0), .ref (E.2.1 + v1)] m0 (none, b) := q_met pnX0 (Nat.le_of_ble_eq_true rfl) (bX0_writeTo hd b _ h rfl)
theorem dX7_at_0 : decode cX7_at 0 = .ok (.aload_n 0, 1) := by decide +kernel
theorem dX7_at_1 : decode cX7_at 1 = .ok (.getfield 9, 3) := by decide +kernel
theorem dX7_at_4 : decode cX7_at 4 = .ok (.iload_n 1, 1) := by decide +kernel
theorem dX7_at_5 : decode cX7_at 5 = .ok (.caload, 1) := by decide +kernel
theorem dX7_at_6 : decode cX7_at 6 = .ok (.ireturn, 1) := by decide +kernel
def fX7_at (N : Nat) (v0 : Nat) (v1 : Int32) (m0 : qM) : Option (Int32 × qM) :=
  (qgR m0 v0 7 0).bind fun x1 =>
  (qaI m0 x1 11 v1).bind fun x2 =>
  some (x2.toUInt32.toUInt16.toUInt32.toInt32, m0)
set_option maxRecDepth 100000 in
theorem bX7_at {E : qE} {N d bc bs : Nat} (hd : 0 ≤ d) {v0 : Nat} {v1 : Int32} {m0 : qM} : qB E yX7_at cX7_at 2 (some .char) (fun _ => True) d bc bs 0 [(0, .ref (E.2.1 + v0)), (1, .int v1)] [] m0 (fX7_at N v0 v1 m0) (fun b rr => rr = (some (.int b.1), b.2)) := by
  unfold fX7_at
  refine j_aload_n (q := 0) (np := 1) rfl rfl dX7_at_0 rfl ?_
  refine j_gR (np := 4) flX7_9 dX7_at_1 rfl (fun x1 => ?_)
  refine j_iload_n (q := 1) (np := 5) rfl rfl dX7_at_4 rfl ?_
  refine j_caload (np := 6) dX7_at_5 rfl (fun x2 => ?_)
  exact j_cret rfl dX7_at_6 (fun rr h => h)
set_option maxRecDepth 100000 in
theorem wX7_at {E : qE} {N d : Nat} (hd : 0 ≤ d) {v0 : Nat} {v1 : Int32} {m0 : qM} {b : Int32 × qM} (h : fX7_at N v0 v1 m0 = some b) : qRun E yX7_at cX7_at 2 (some .char) d 0 0 [.ref (E.2.1 + v0), .int v1] m0 (some (.int b.1), b.2) := q_met pnX7 (Nat.le_of_ble_eq_true rfl) (bX7_at hd b _ h rfl)
theorem dX7_length_0 : decode cX7_length 0 = .ok (.aload_n 0, 1) := by decide +kernel
theorem dX7_length_1 : decode cX7_length 1 = .ok (.getfield 15, 3) := by decide +kernel
theorem dX7_length_4 : decode cX7_length 4 = .ok (.ireturn, 1) := by decide +kernel
def fX7_length (N : Nat) (v0 : Nat) (m0 : qM) : Option (Int32 × qM) :=
  (qgI m0 v0 7 1).bind fun x1 =>
  some (x1, m0)
set_option maxRecDepth 100000 in
theorem bX7_length {E : qE} {N d bc bs : Nat} (hd : 0 ≤ d) {v0 : Nat} {m0 : qM} : qB E yX7_length cX7_length 1 (some .int) (fun _ => True) d bc bs 0 [(0, .ref (E.2.1 + v0))] [] m0 (fX7_length N v0 m0) (fun b rr => rr = (some (.int b.1), b.2)) := by
  unfold fX7_length
  refine j_aload_n (q := 0) (np := 1) rfl rfl dX7_length_0 rfl ?_
  refine j_gI (np := 4) flX7_15 dX7_length_1 rfl (fun x1 => ?_)
  exact j_iret rfl dX7_length_4 (fun rr h => h)
set_option maxRecDepth 100000 in
theorem wX7_length {E : qE} {N d : Nat} (hd : 0 ≤ d) {v0 : Nat} {m0 : qM} {b : Int32 × qM} (h : fX7_length N v0 m0 = some b) : qRun E yX7_length cX7_length 1 (some .int) d 0 0 [.ref (E.2.1 + v0)] m0 (some (.int b.1), b.2) := q_met pnX7 (Nat.le_of_ble_eq_true rfl) (bX7_length hd b _ h rfl)
theorem dX7_makeEmpty_0 : decode cX7_makeEmpty 0 = .ok (.aload_n 0, 1) := by decide +kernel
theorem dX7_makeEmpty_1 : decode cX7_makeEmpty 1 = .ok (.iconst 0, 1) := by decide +kernel
theorem dX7_makeEmpty_2 : decode cX7_makeEmpty 2 = .ok (.putfield 15, 3) := by decide +kernel
theorem dX7_makeEmpty_5 : decode cX7_makeEmpty 5 = .ok (.return_, 1) := by decide +kernel
def fX7_makeEmpty (N : Nat) (v0 : Nat) (m0 : qM) : Option (qM) :=
  (qpI m0 v0 7 1 (0 : Int32)).bind fun m1 =>
  some m1
set_option maxRecDepth 100000 in
theorem bX7_makeEmpty {E : qE} {N d bc bs : Nat} (hd : 0 ≤ d) {v0 : Nat} {m0 : qM} : qB E yX7_makeEmpty cX7_makeEmpty 1 none (fun _ => True) d bc bs 0 [(0, .ref (E.2.1 + v0))] [] m0 (fX7_makeEmpty N v0 m0) (fun b rr => rr = (none, b)) := by
  unfold fX7_makeEmpty
  refine j_aload_n (q := 0) (np := 1) rfl rfl dX7_makeEmpty_0 rfl ?_
  refine j_iconst (np := 2) ci_0 dX7_makeEmpty_1 rfl ?_
  refine j_pI (np := 5) flX7_15 dX7_makeEmpty_2 rfl (fun m1 => ?_)
  exact j_vret rfl dX7_makeEmpty_5 (fun rr h => h)
set_option maxRecDepth 100000 in
theorem wX7_makeEmpty {E : qE} {N d : Nat} (hd : 0 ≤ d) {v0 : Nat} {m0 : qM} {b : qM} (h : fX7_makeEmpty N v0 m0 = some b) : qRun E yX7_makeEmpty cX7_makeEmpty 1 none d 0 0 [.ref (E.2.1 + v0)] m0 (none, b) := q_met pnX7 (Nat.le_of_ble_eq_true rfl) (bX7_makeEmpty hd b _ h rfl)
theorem dX10_in_0 : decode cX10_in 0 = .ok (.iload_n 0, 1) := by decide +kernel
theorem dX10_in_1 : decode cX10_in 1 = .ok (.iload_n 1, 1) := by decide +kernel
theorem dX10_in_2 : decode cX10_in 2 = .ok (.if_icmp .lt 12, 3) := by decide +kernel
theorem dX10_in_5 : decode cX10_in 5 = .ok (.iload_n 0, 1) := by decide +kernel
theorem dX10_in_6 : decode cX10_in 6 = .ok (.iload_n 2, 1) := by decide +kernel
theorem dX10_in_7 : decode cX10_in 7 = .ok (.if_icmp .gt 7, 3) := by decide +kernel
theorem dX10_in_10 : decode cX10_in 10 = .ok (.iconst 1, 1) := by decide +kernel
theorem dX10_in_11 : decode cX10_in 11 = .ok (.goto 4, 3) := by decide +kernel
theorem dX10_in_14 : decode cX10_in 14 = .ok (.iconst 0, 1) := by decide +kernel
theorem dX10_in_15 : decode cX10_in 15 = .ok (.ireturn, 1) := by decide +kernel
def fX10_in (N : Nat) (v0 : Int32) (v1 : Int32) (v2 : Int32) (m0 : qM) : Option (Int32 × qM) :=
  if v0 < v1 then (
  some ((0 : Int32), m0)
  ) else (
  if v2 < v0 then (
  some ((0 : Int32), m0)
  ) else (
  some ((1 : Int32), m0)
  )
  )
set_option maxRecDepth 100000 in
theorem bX10_in {E : qE} {N d bc bs : Nat} (hd : 0 ≤ d) {v0 : Int32} {v1 : Int32} {v2 : Int32} {m0 : qM} : qB E yX10_in cX10_in 3 (some .boolean) (fun _ => True) d bc bs 0 [(0, .int v0), (1, .int v1), (2, .int v2)] [] m0 (fX10_in N v0 v1 v2 m0) (fun b rr => rr = (some (.int b.1), b.2)) := by
  unfold fX10_in
  refine j_iload_n (q := 0) (np := 1) rfl rfl dX10_in_0 rfl ?_
  refine j_iload_n (q := 1) (np := 2) rfl rfl dX10_in_1 rfl ?_
  refine j_icmp_lt (tgt := 14) (np := 5) dX10_in_2 rfl rfl ?_ ?_
  · refine j_iconst (np := 15) ci_0 dX10_in_14 rfl ?_
    exact j_zret rfl dX10_in_15 (fun rr h => by rw [z0]; exact h)
  · refine j_iload_n (q := 0) (np := 6) rfl rfl dX10_in_5 rfl ?_
    refine j_iload_n (q := 2) (np := 7) rfl rfl dX10_in_6 rfl ?_
    refine j_icmp_gt (tgt := 14) (np := 10) dX10_in_7 rfl rfl ?_ ?_
    · refine j_iconst (np := 15) ci_0 dX10_in_14 rfl ?_
      exact j_zret rfl dX10_in_15 (fun rr h => by rw [z0]; exact h)
    · refine j_iconst (np := 11) ci_1 dX10_in_10 rfl ?_
      refine j_goto (tgt := 15) dX10_in_11 rfl ?_
      exact j_zret rfl dX10_in_15 (fun rr h => by rw [z1]; exact h)
set_option maxRecDepth 100000 in
theorem wX10_in {E : qE} {N d : Nat} (hd : 0 ≤ d) {v0 : Int32} {v1 : Int32} {v2 : Int32} {m0 : qM} {b : Int32 × qM} (h : fX10_in N v0 v1 v2 m0 = some b) : qRun E yX10_in cX10_in 3 (some .boolean) d 0 0 [.int v0, .int v1, .int v2] m0 (some (.int b.1), b.2) := q_met pnX10 (Nat.le_of_ble_eq_true rfl) (bX10_in hd b _ h rfl)
theorem dX10_isOne_0 : decode cX10_isOne 0 = .ok (.iload_n 1, 1) := by decide +kernel
theorem dX10_isOne_1 : decode cX10_isOne 1 = .ok (.iconst 0, 1) := by decide +kernel
theorem dX10_isOne_2 : decode cX10_isOne 2 = .ok (.aload_n 0, 1) := by decide +kernel
theorem dX10_isOne_3 : decode cX10_isOne 3 = .ok (.getfield 96, 3) := by decide +kernel
theorem dX10_isOne_6 : decode cX10_isOne 6 = .ok (.iconst 1, 1) := by decide +kernel
theorem dX10_isOne_7 : decode cX10_isOne 7 = .ok (.isub, 1) := by decide +kernel
theorem dX10_isOne_8 : decode cX10_isOne 8 = .ok (.invokestatic 99, 3) := by decide +kernel
theorem dX10_isOne_11 : decode cX10_isOne 11 = .ok (.ireturn, 1) := by decide +kernel
def fX10_isOne (N : Nat) (v0 : Nat) (v1 : Int32) (m0 : qM) : Option (Int32 × qM) :=
  (qgI m0 v0 10 5).bind fun x1 =>
  (fX10_in N v1 (0 : Int32) (x1 - (1 : Int32)) m0).bind fun b2 =>
  some (b2.1 &&& 1, b2.2)
set_option maxRecDepth 100000 in
theorem bX10_isOne {E : qE} {N d bc bs : Nat} (hd : 1 ≤ d) {v0 : Nat} {v1 : Int32} {m0 : qM} : qB E yX10_isOne cX10_isOne 2 (some .boolean) (fun _ => True) d bc bs 0 [(0, .ref (E.2.1 + v0)), (1, .int v1)] [] m0 (fX10_isOne N v0 v1 m0) (fun b rr => rr = (some (.int b.1), b.2)) := by
  unfold fX10_isOne
  refine j_iload_n (q := 1) (np := 1) rfl rfl dX10_isOne_0 rfl ?_
  refine j_iconst (np := 2) ci_0 dX10_isOne_1 rfl ?_
  refine j_aload_n (q := 0) (np := 3) rfl rfl dX10_isOne_2 rfl ?_
  refine j_gI (np := 6) flX10_96 dX10_isOne_3 rfl (fun x1 => ?_)
  refine j_iconst (np := 7) ci_1 dX10_isOne_6 rfl ?_
  refine j_isub (np := 8) dX10_isOne_7 rfl ?_
  refine j_callSi (np := 11) (bc := bc) (bs := bs) (cb := 0) (cs := 0) (dd := d - 1) (As := [.int v1, .int (0 : Int32), .int (x1 - (1 : Int32))]) (st := []) caX10_in mlX10_99 stX10_in (fun b hb => wX10_in (by omega) hb) (by omega) rfl rfl (Nat.le_of_ble_eq_true rfl) dX10_isOne_8 rfl (fun b2 => ?_)
  exact j_zret rfl dX10_isOne_11 (fun rr h => h)
set_option maxRecDepth 100000 in
theorem wX10_isOne {E : qE} {N d : Nat} (hd : 1 ≤ d) {v0 : Nat} {v1 : Int32} {m0 : qM} {b : Int32 × qM} (h : fX10_isOne N v0 v1 m0 = some b) : qRun E yX10_isOne cX10_isOne 2 (some .boolean) d 0 0 [.ref (E.2.1 + v0), .int v1] m0 (some (.int b.1), b.2) := q_met pnX10 (Nat.le_of_ble_eq_true rfl) (bX10_isOne hd b _ h rfl)
theorem dX10_append_0 : decode cX10_append 0 = .ok (.iload_n 1, 1) := by decide +kernel
theorem dX10_append_1 : decode cX10_append 1 = .ok (.bipush 33, 2) := by decide +kernel
theorem dX10_append_3 : decode cX10_append 3 = .ok (.bipush 126, 2) := by decide +kernel
theorem dX10_append_5 : decode cX10_append 5 = .ok (.invokestatic 99, 3) := by decide +kernel
theorem dX10_append_8 : decode cX10_append 8 = .ok (.ifCond .ne 6, 3) := by decide +kernel
theorem dX10_append_11 : decode cX10_append 11 = .ok (.bipush (-2), 2) := by decide +kernel
theorem dX10_append_13 : decode cX10_append 13 = .ok (.ireturn, 1) := by decide +kernel
theorem dX10_append_14 : decode cX10_append 14 = .ok (.aload_n 0, 1) := by decide +kernel
theorem dX10_append_15 : decode cX10_append 15 = .ok (.getfield 103, 3) := by decide +kernel
theorem dX10_append_18 : decode cX10_append 18 = .ok (.bipush 80, 2) := by decide +kernel
theorem dX10_append_20 : decode cX10_append 20 = .ok (.if_icmp .ne 6, 3) := by decide +kernel
theorem dX10_append_23 : decode cX10_append 23 = .ok (.bipush (-3), 2) := by decide +kernel
theorem dX10_append_25 : decode cX10_append 25 = .ok (.ireturn, 1) := by decide +kernel
theorem dX10_append_26 : decode cX10_append 26 = .ok (.aload_n 0, 1) := by decide +kernel
theorem dX10_append_27 : decode cX10_append 27 = .ok (.getfield 25, 3) := by decide +kernel
theorem dX10_append_30 : decode cX10_append 30 = .ok (.aload_n 0, 1) := by decide +kernel
theorem dX10_append_31 : decode cX10_append 31 = .ok (.dup, 1) := by decide +kernel
theorem dX10_append_32 : decode cX10_append 32 = .ok (.getfield 103, 3) := by decide +kernel
theorem dX10_append_35 : decode cX10_append 35 = .ok (.dup_x1, 1) := by decide +kernel
theorem dX10_append_36 : decode cX10_append 36 = .ok (.iconst 1, 1) := by decide +kernel
theorem dX10_append_37 : decode cX10_append 37 = .ok (.iadd, 1) := by decide +kernel
theorem dX10_append_38 : decode cX10_append 38 = .ok (.putfield 103, 3) := by decide +kernel
theorem dX10_append_41 : decode cX10_append 41 = .ok (.iload_n 1, 1) := by decide +kernel
theorem dX10_append_42 : decode cX10_append 42 = .ok (.iastore, 1) := by decide +kernel
theorem dX10_append_43 : decode cX10_append 43 = .ok (.aload_n 0, 1) := by decide +kernel
theorem dX10_append_44 : decode cX10_append 44 = .ok (.getfield 103, 3) := by decide +kernel
theorem dX10_append_47 : decode cX10_append 47 = .ok (.ireturn, 1) := by decide +kernel
def fX10_append (N : Nat) (v0 : Nat) (v1 : Int32) (m0 : qM) : Option (Int32 × qM) :=
  (fX10_in N v1 (33 : Int32) (126 : Int32) m0).bind fun b1 =>
  if b1.1 = 0 then (
  some ((-2 : Int32), b1.2)
  ) else (
  (qgI b1.2 v0 10 7).bind fun x2 =>
  if x2 = (80 : Int32) then (
  some ((-3 : Int32), b1.2)
  ) else (
  (qgR b1.2 v0 10 6).bind fun x3 =>
  (qgI b1.2 v0 10 7).bind fun x4 =>
  (qpI b1.2 v0 10 7 (x4 + (1 : Int32))).bind fun m5 =>
  (qwI m5 x3 12 x4 v1).bind fun m6 =>
  (qgI m6 v0 10 7).bind fun x7 =>
  some (x7, m6)
  )
  )
set_option maxRecDepth 100000 in
theorem bX10_append {E : qE} {N d bc bs : Nat} (hd : 1 ≤ d) {v0 : Nat} {v1 : Int32} {m0 : qM} : qB E yX10_append cX10_append 2 (some .int) (fun _ => True) d bc bs 0 [(0, .ref (E.2.1 + v0)), (1, .int v1)] [] m0 (fX10_append N v0 v1 m0) (fun b rr => rr = (some (.int b.1), b.2)) := by
  unfold fX10_append
  refine j_iload_n (q := 1) (np := 1) rfl rfl dX10_append_0 rfl ?_
  refine j_bipush (np := 3) cb_33 dX10_append_1 rfl ?_
  refine j_bipush (np := 5) cb_126 dX10_append_3 rfl ?_
  refine j_callSi (np := 8) (bc := bc) (bs := bs) (cb := 0) (cs := 0) (dd := d - 1) (As := [.int v1, .int (33 : Int32), .int (126 : Int32)]) (st := []) caX10_in mlX10_99 stX10_in (fun b hb => wX10_in (by omega) hb) (by omega) rfl rfl (Nat.le_of_ble_eq_true rfl) dX10_append_5 rfl (fun b1 => ?_)
  refine j_if_ne (tgt := 14) (np := 11) dX10_append_8 rfl rfl ?_ ?_
  · refine j_aload_n (q := 0) (np := 15) rfl rfl dX10_append_14 rfl ?_
    refine j_gI (np := 18) flX10_103 dX10_append_15 rfl (fun x2 => ?_)
    refine j_bipush (np := 20) cb_80 dX10_append_18 rfl ?_
    refine j_icmp_ne (tgt := 26) (np := 23) dX10_append_20 rfl rfl ?_ ?_
    · refine j_aload_n (q := 0) (np := 27) rfl rfl dX10_append_26 rfl ?_
      refine j_gR (np := 30) flX10_25 dX10_append_27 rfl (fun x3 => ?_)
      refine j_aload_n (q := 0) (np := 31) rfl rfl dX10_append_30 rfl ?_
      refine j_dup (np := 32) rfl dX10_append_31 rfl ?_
      refine j_gI (np := 35) flX10_103 dX10_append_32 rfl (fun x4 => ?_)
      refine j_dup_x1 (np := 36) rfl rfl dX10_append_35 rfl ?_
      refine j_iconst (np := 37) ci_1 dX10_append_36 rfl ?_
      refine j_iadd (np := 38) dX10_append_37 rfl ?_
      refine j_pI (np := 41) flX10_103 dX10_append_38 rfl (fun m5 => ?_)
      refine j_iload_n (q := 1) (np := 42) rfl rfl dX10_append_41 rfl ?_
      refine j_iastore (np := 43) dX10_append_42 rfl (fun m6 => ?_)
      refine j_aload_n (q := 0) (np := 44) rfl rfl dX10_append_43 rfl ?_
      refine j_gI (np := 47) flX10_103 dX10_append_44 rfl (fun x7 => ?_)
      exact j_iret rfl dX10_append_47 (fun rr h => h)
    · refine j_bipush (np := 25) cb_m3 dX10_append_23 rfl ?_
      exact j_iret rfl dX10_append_25 (fun rr h => h)
  · refine j_bipush (np := 13) cb_m2 dX10_append_11 rfl ?_
    exact j_iret rfl dX10_append_13 (fun rr h => h)
set_option maxRecDepth 100000 in
theorem wX10_append {E : qE} {N d : Nat} (hd : 1 ≤ d) {v0 : Nat} {v1 : Int32} {m0 : qM} {b : Int32 × qM} (h : fX10_append N v0 v1 m0 = some b) : qRun E yX10_append cX10_append 2 (some .int) d 0 0 [.ref (E.2.1 + v0), .int v1] m0 (some (.int b.1), b.2) := q_met pnX10 (Nat.le_of_ble_eq_true rfl) (bX10_append hd b _ h rfl)
