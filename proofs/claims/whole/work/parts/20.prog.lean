def kR : Nat := 130
def kU : Nat := 1010
theorem dX0_init_0 : decode cX0_init 0 = .ok (.aload_n 0, 1) := by decide +kernel
theorem dX0_init_1 : decode cX0_init 1 = .ok (.invokespecial 3, 3) := by decide +kernel
theorem dX0_init_4 : decode cX0_init 4 = .ok (.aload_n 0, 1) := by decide +kernel
theorem dX0_init_5 : decode cX0_init 5 = .ok (.bipush 39, 2) := by decide +kernel
theorem dX0_init_7 : decode cX0_init 7 = .ok (.newarray .int, 2) := by decide +kernel
theorem dX0_init_9 : decode cX0_init 9 = .ok (.putfield 9, 3) := by decide +kernel
theorem dX0_init_12 : decode cX0_init 12 = .ok (.return_, 1) := by decide +kernel
def fX0_init (N : Nat) (v0 : Nat) (m0 : qM) : Option (qM) :=
  if ¬ (39 : Int32) < 0 ∧ (39 : Int32).toNatClampNeg ≤ 39 then qNew m0 12 (39 : Int32).toNatClampNeg (fun a1 m2 =>
  (qpR m2 v0 0 0 a1).bind fun m3 =>
  some m3
  ) else none
set_option maxRecDepth 100000 in
theorem bX0_init {E : qE} {N d bc bs : Nat} (hd : 1 ≤ d) {v0 : Nat} {m0 : qM} : qB E yX0_init cX0_init 1 none (fun _ => True) d (bc + 1) (bs + 39) 0 [(0, .ref (E.2.1 + v0))] [] m0 (fX0_init N v0 m0) (fun b rr => rr = (none, b)) := by
  unfold fX0_init
  refine j_aload_n (q := 0) (np := 1) rfl rfl dX0_init_0 rfl ?_
  refine j_objInit (np := 4) mlX0_3 imObj cdObj (by omega) (Nat.le_of_ble_eq_true rfl) dX0_init_1 rfl ?_
  refine j_aload_n (q := 0) (np := 5) rfl rfl dX0_init_4 rfl ?_
  refine j_bipush (np := 7) cb_39 dX0_init_5 rfl ?_
  refine j_bud (b1 := bc + 1) (b2 := bs + 39) (by omega) (by omega) ?_
  refine j_newarr (bc := bc) (bs := bs) (c0 := 12) (t := 1) (n0 := 39) (np := 9) (atype := .int) (ty := .int) (Or.inr (Or.inl rfl)) rfl rfl (by decide) (by decide) (fun _ => rfl) (fun _ _ => rfl) ac_int dX0_init_7 rfl (fun a1 m2 => ?_)
  refine j_pR (np := 12) flX0_9 (fun _ => rfl) dX0_init_9 rfl (fun m3 => ?_)
  exact j_vret rfl dX0_init_12 (fun rr h => h)
set_option maxRecDepth 100000 in
theorem wX0_init {E : qE} {N d : Nat} (hd : 1 ≤ d) {v0 : Nat} {m0 : qM} {b : qM} (h : fX0_init N v0 m0 = some b) : qRun E yX0_init cX0_init 1 none d 1 39 [.ref (E.2.1 + v0)] m0 (none, b) := q_met pnX0 (Nat.le_of_ble_eq_true rfl) ((j_bud (by omega) (by omega) (bX0_init (bc := 0) (bs := 0) hd)) b _ h rfl)
theorem dX0_size_0 : decode cX0_size 0 = .ok (.aload_n 0, 1) := by decide +kernel
theorem dX0_size_1 : decode cX0_size 1 = .ok (.getfield 15, 3) := by decide +kernel
theorem dX0_size_4 : decode cX0_size 4 = .ok (.ireturn, 1) := by decide +kernel
def fX0_size (N : Nat) (v0 : Nat) (m0 : qM) : Option (Int32 × qM) :=
  (qgI m0 v0 0 1).bind fun x1 =>
  some (x1, m0)
set_option maxRecDepth 100000 in
theorem bX0_size {E : qE} {N d bc bs : Nat} (hd : 0 ≤ d) {v0 : Nat} {m0 : qM} : qB E yX0_size cX0_size 1 (some .int) (fun _ => True) d bc bs 0 [(0, .ref (E.2.1 + v0))] [] m0 (fX0_size N v0 m0) (fun b rr => rr = (some (.int b.1), b.2)) := by
  unfold fX0_size
  refine j_aload_n (q := 0) (np := 1) rfl rfl dX0_size_0 rfl ?_
  refine j_gI (np := 4) flX0_15 dX0_size_1 rfl (fun x1 => ?_)
  exact j_iret rfl dX0_size_4 (fun rr h => h)
set_option maxRecDepth 100000 in
theorem wX0_size {E : qE} {N d : Nat} (hd : 0 ≤ d) {v0 : Nat} {m0 : qM} {b : Int32 × qM} (h : fX0_size N v0 m0 = some b) : qRun E yX0_size cX0_size 1 (some .int) d 0 0 [.ref (E.2.1 + v0)] m0 (some (.int b.1), b.2) := q_met pnX0 (Nat.le_of_ble_eq_true rfl) (bX0_size hd b _ h rfl)
theorem dX0_variables_0 : decode cX0_variables 0 = .ok (.aload_n 0, 1) := by decide +kernel
theorem dX0_variables_1 : decode cX0_variables 1 = .ok (.getfield 19, 3) := by decide +kernel
theorem dX0_variables_4 : decode cX0_variables 4 = .ok (.ireturn, 1) := by decide +kernel
def fX0_variables (N : Nat) (v0 : Nat) (m0 : qM) : Option (Int32 × qM) :=
  (qgI m0 v0 0 2).bind fun x1 =>
  some (x1, m0)
set_option maxRecDepth 100000 in
theorem bX0_variables {E : qE} {N d bc bs : Nat} (hd : 0 ≤ d) {v0 : Nat} {m0 : qM} : qB E yX0_variables cX0_variables 1 (some .int) (fun _ => True) d bc bs 0 [(0, .ref (E.2.1 + v0))] [] m0 (fX0_variables N v0 m0) (fun b rr => rr = (some (.int b.1), b.2)) := by
  unfold fX0_variables
  refine j_aload_n (q := 0) (np := 1) rfl rfl dX0_variables_0 rfl ?_
  refine j_gI (np := 4) flX0_19 dX0_variables_1 rfl (fun x1 => ?_)
  exact j_iret rfl dX0_variables_4 (fun rr h => h)
set_option maxRecDepth 100000 in
theorem wX0_variables {E : qE} {N d : Nat} (hd : 0 ≤ d) {v0 : Nat} {m0 : qM} {b : Int32 × qM} (h : fX0_variables N v0 m0 = some b) : qRun E yX0_variables cX0_variables 1 (some .int) d 0 0 [.ref (E.2.1 + v0)] m0 (some (.int b.1), b.2) := q_met pnX0 (Nat.le_of_ble_eq_true rfl) (bX0_variables hd b _ h rfl)
theorem dX0_at_0 : decode cX0_at 0 = .ok (.aload_n 0, 1) := by decide +kernel
theorem dX0_at_1 : decode cX0_at 1 = .ok (.getfield 9, 3) := by decide +kernel
theorem dX0_at_4 : decode cX0_at 4 = .ok (.iload_n 1, 1) := by decide +kernel
theorem dX0_at_5 : decode cX0_at 5 = .ok (.iaload, 1) := by decide +kernel
theorem dX0_at_6 : decode cX0_at 6 = .ok (.ireturn, 1) := by decide +kernel
def fX0_at (N : Nat) (v0 : Nat) (v1 : Int32) (m0 : qM) : Option (Int32 × qM) :=
  (qgR m0 v0 0 0).bind fun x1 =>
  (qaI m0 x1 12 v1).bind fun x2 =>
  some (x2, m0)
set_option maxRecDepth 100000 in
theorem bX0_at {E : qE} {N d bc bs : Nat} (hd : 0 ≤ d) {v0 : Nat} {v1 : Int32} {m0 : qM} : qB E yX0_at cX0_at 2 (some .int) (fun _ => True) d bc bs 0 [(0, .ref (E.2.1 + v0)), (1, .int v1)] [] m0 (fX0_at N v0 v1 m0) (fun b rr => rr = (some (.int b.1), b.2)) := by
  unfold fX0_at
  refine j_aload_n (q := 0) (np := 1) rfl rfl dX0_at_0 rfl ?_
  refine j_gR (np := 4) flX0_9 dX0_at_1 rfl (fun x1 => ?_)
  refine j_iload_n (q := 1) (np := 5) rfl rfl dX0_at_4 rfl ?_
  refine j_iaload (np := 6) dX0_at_5 rfl (fun x2 => ?_)
  exact j_iret rfl dX0_at_6 (fun rr h => h)
set_option maxRecDepth 100000 in
theorem wX0_at {E : qE} {N d : Nat} (hd : 0 ≤ d) {v0 : Nat} {v1 : Int32} {m0 : qM} {b : Int32 × qM} (h : fX0_at N v0 v1 m0 = some b) : qRun E yX0_at cX0_at 2 (some .int) d 0 0 [.ref (E.2.1 + v0), .int v1] m0 (some (.int b.1), b.2) := q_met pnX0 (Nat.le_of_ble_eq_true rfl) (bX0_at hd b _ h rfl)
theorem dX0_isImplication_0 : decode cX0_isImplication 0 = .ok (.aload_n 0, 1) := by decide +kernel
theorem dX0_isImplication_1 : decode cX0_isImplication 1 = .ok (.getfield 15, 3) := by decide +kernel
theorem dX0_isImplication_4 : decode cX0_isImplication 4 = .ok (.ifCond .le 17, 3) := by decide +kernel
theorem dX0_isImplication_7 : decode cX0_isImplication 7 = .ok (.aload_n 0, 1) := by decide +kernel
theorem dX0_isImplication_8 : decode cX0_isImplication 8 = .ok (.getfield 9, 3) := by decide +kernel
theorem dX0_isImplication_11 : decode cX0_isImplication 11 = .ok (.iconst 0, 1) := by decide +kernel
theorem dX0_isImplication_12 : decode cX0_isImplication 12 = .ok (.iaload, 1) := by decide +kernel
theorem dX0_isImplication_13 : decode cX0_isImplication 13 = .ok (.iconst (-1), 1) := by decide +kernel
theorem dX0_isImplication_14 : decode cX0_isImplication 14 = .ok (.if_icmp .ne 7, 3) := by decide +kernel
theorem dX0_isImplication_17 : decode cX0_isImplication 17 = .ok (.iconst 1, 1) := by decide +kernel
theorem dX0_isImplication_18 : decode cX0_isImplication 18 = .ok (.goto 4, 3) := by decide +kernel
theorem dX0_isImplication_21 : decode cX0_isImplication 21 = .ok (.iconst 0, 1) := by decide +kernel
theorem dX0_isImplication_22 : decode cX0_isImplication 22 = .ok (.ireturn, 1) := by decide +kernel
def fX0_isImplication (N : Nat) (v0 : Nat) (m0 : qM) : Option (Int32 × qM) :=
  (qgI m0 v0 0 1).bind fun x1 =>
  if x1 ≤ 0 then (
  some ((0 : Int32), m0)
  ) else (
  (qgR m0 v0 0 0).bind fun x2 =>
  (qaI m0 x2 12 (0 : Int32)).bind fun x3 =>
  if x3 = (-1 : Int32) then (
  some ((1 : Int32), m0)
  ) else (
  some ((0 : Int32), m0)
  )
  )
set_option maxRecDepth 100000 in
theorem bX0_isImplication {E : qE} {N d bc bs : Nat} (hd : 0 ≤ d) {v0 : Nat} {m0 : qM} : qB E yX0_isImplication cX0_isImplication 1 (some .boolean) (fun _ => True) d bc bs 0 [(0, .ref (E.2.1 + v0))] [] m0 (fX0_isImplication N v0 m0) (fun b rr => rr = (some (.int b.1), b.2)) := by
  unfold fX0_isImplication
  refine j_aload_n (q := 0) (np := 1) rfl rfl dX0_isImplication_0 rfl ?_
  refine j_gI (np := 4) flX0_15 dX0_isImplication_1 rfl (fun x1 => ?_)
  refine j_if_le (tgt := 21) (np := 7) dX0_isImplication_4 rfl rfl ?_ ?_
  · refine j_iconst (np := 22) ci_0 dX0_isImplication_21 rfl ?_
    exact j_zret rfl dX0_isImplication_22 (fun rr h => by rw [z0]; exact h)
  · refine j_aload_n (q := 0) (np := 8) rfl rfl dX0_isImplication_7 rfl ?_
    refine j_gR (np := 11) flX0_9 dX0_isImplication_8 rfl (fun x2 => ?_)
    refine j_iconst (np := 12) ci_0 dX0_isImplication_11 rfl ?_
    refine j_iaload (np := 13) dX0_isImplication_12 rfl (fun x3 => ?_)
    refine j_iconst (np := 14) ci_m1 dX0_isImplication_13 rfl ?_
    refine j_icmp_ne (tgt := 21) (np := 17) dX0_isImplication_14 rfl rfl ?_ ?_
    · refine j_iconst (np := 22) ci_0 dX0_isImplication_21 rfl ?_
      exact j_zret rfl dX0_isImplication_22 (fun rr h => by rw [z0]; exact h)
    · refine j_iconst (np := 18) ci_1 dX0_isImplication_17 rfl ?_
      refine j_goto (tgt := 22) dX0_isImplication_18 rfl ?_
      exact j_zret rfl dX0_isImplication_22 (fun rr h => by rw [z1]; exact h)
set_option maxRecDepth 100000 in
theorem wX0_isImplication {E : qE} {N d : Nat} (hd : 0 ≤ d) {v0 : Nat} {m0 : qM} {b : Int32 × qM} (h : fX0_isImplication N v0 m0 = some b) : qRun E yX0_isImplication cX0_isImplication 1 (some .boolean) d 0 0 [.ref (E.2.1 + v0)] m0 (some (.int b.1), b.2) := q_met pnX0 (Nat.le_of_ble_eq_true rfl) (bX0_isImplication hd b _ h rfl)
theorem dX0_makeEmpty_0 : decode cX0_makeEmpty 0 = .ok (.aload_n 0, 1) := by decide +kernel
theorem dX0_makeEmpty_1 : decode cX0_makeEmpty 1 = .ok (.iconst 0, 1) := by decide +kernel
theorem dX0_makeEmpty_2 : decode cX0_makeEmpty 2 = .ok (.putfield 15, 3) := by decide +kernel
theorem dX0_makeEmpty_5 : decode cX0_makeEmpty 5 = .ok (.aload_n 0, 1) := by decide +kernel
theorem dX0_makeEmpty_6 : decode cX0_makeEmpty 6 = .ok (.iconst 0, 1) := by decide +kernel
theorem dX0_makeEmpty_7 : decode cX0_makeEmpty 7 = .ok (.putfield 19, 3) := by decide +kernel
theorem dX0_makeEmpty_10 : decode cX0_makeEmpty 10 = .ok (.return_, 1) := by decide +kernel
def fX0_makeEmpty (N : Nat) (v0 : Nat) (m0 : qM) : Option (qM) :=
  (qpI m0 v0 0 1 (0 : Int32)).bind fun m1 =>
  (qpI m1 v0 0 2 (0 : Int32)).bind fun m2 =>
  some m2
set_option maxRecDepth 100000 in
theorem bX0_makeEmpty {E : qE} {N d bc bs : Nat} (hd : 0 ≤ d) {v0 : Nat} {m0 : qM} : qB E yX0_makeEmpty cX0_makeEmpty 1 none (fun _ => True) d bc bs 0 [(0, .ref (E.2.1 + v0))] [] m0 (fX0_makeEmpty N v0 m0) (fun b rr => rr = (none, b)) := by
  unfold fX0_makeEmpty
  refine j_aload_n (q := 0) (np := 1) rfl rfl dX0_makeEmpty_0 rfl ?_
  refine j_iconst (np := 2) ci_0 dX0_makeEmpty_1 rfl ?_
  refine j_pI (np := 5) flX0_15 dX0_makeEmpty_2 rfl (fun m1 => ?_)
  refine j_aload_n (q := 0) (np := 6) rfl rfl dX0_makeEmpty_5 rfl ?_
  refine j_iconst (np := 7) ci_0 dX0_makeEmpty_6 rfl ?_
  refine j_pI (np := 10) flX0_19 dX0_makeEmpty_7 rfl (fun m2 => ?_)
  exact j_vret rfl dX0_makeEmpty_10 (fun rr h => h)
set_option maxRecDepth 100000 in
theorem wX0_makeEmpty {E : qE} {N d : Nat} (hd : 0 ≤ d) {v0 : Nat} {m0 : qM} {b : qM} (h : fX0_makeEmpty N v0 m0 = some b) : qRun E yX0_makeEmpty cX0_makeEmpty 1 none d 0 0 [.ref (E.2.1 + v0)] m0 (none, b) := q_met pnX0 (Nat.le_of_ble_eq_true rfl) (bX0_makeEmpty hd b _ h rfl)
theorem dX0_addSign_0 : decode cX0_addSign 0 = .ok (.aload_n 0, 1) := by decide +kernel
theorem dX0_addSign_1 : decode cX0_addSign 1 = .ok (.getfield 15, 3) := by decide +kernel
theorem dX0_addSign_4 : decode cX0_addSign 4 = .ok (.bipush 39, 2) := by decide +kernel
theorem dX0_addSign_6 : decode cX0_addSign 6 = .ok (.if_icmp .lt 5, 3) := by decide +kernel
theorem dX0_addSign_9 : decode cX0_addSign 9 = .ok (.iconst 0, 1) := by decide +kernel
theorem dX0_addSign_10 : decode cX0_addSign 10 = .ok (.ireturn, 1) := by decide +kernel
theorem dX0_addSign_11 : decode cX0_addSign 11 = .ok (.aload_n 0, 1) := by decide +kernel
theorem dX0_addSign_12 : decode cX0_addSign 12 = .ok (.getfield 9, 3) := by decide +kernel
theorem dX0_addSign_15 : decode cX0_addSign 15 = .ok (.aload_n 0, 1) := by decide +kernel
theorem dX0_addSign_16 : decode cX0_addSign 16 = .ok (.getfield 15, 3) := by decide +kernel
theorem dX0_addSign_19 : decode cX0_addSign 19 = .ok (.iload_n 1, 1) := by decide +kernel
theorem dX0_addSign_20 : decode cX0_addSign 20 = .ok (.iastore, 1) := by decide +kernel
theorem dX0_addSign_21 : decode cX0_addSign 21 = .ok (.aload_n 0, 1) := by decide +kernel
theorem dX0_addSign_22 : decode cX0_addSign 22 = .ok (.dup, 1) := by decide +kernel
theorem dX0_addSign_23 : decode cX0_addSign 23 = .ok (.getfield 15, 3) := by decide +kernel
theorem dX0_addSign_26 : decode cX0_addSign 26 = .ok (.iconst 1, 1) := by decide +kernel
theorem dX0_addSign_27 : decode cX0_addSign 27 = .ok (.iadd, 1) := by decide +kernel
theorem dX0_addSign_28 : decode cX0_addSign 28 = .ok (.putfield 15, 3) := by decide +kernel
theorem dX0_addSign_31 : decode cX0_addSign 31 = .ok (.iconst 1, 1) := by decide +kernel
theorem dX0_addSign_32 : decode cX0_addSign 32 = .ok (.ireturn, 1) := by decide +kernel
def fX0_addSign (N : Nat) (v0 : Nat) (v1 : Int32) (m0 : qM) : Option (Int32 × qM) :=
  (qgI m0 v0 0 1).bind fun x1 =>
  if x1 < (39 : Int32) then (
  (qgR m0 v0 0 0).bind fun x2 =>
  (qgI m0 v0 0 1).bind fun x3 =>
  (qwI m0 x2 12 x3 v1).bind fun m4 =>
  (qgI m4 v0 0 1).bind fun x5 =>
  (qpI m4 v0 0 1 (x5 + (1 : Int32))).bind fun m6 =>
  some ((1 : Int32), m6)
  ) else (
  some ((0 : Int32), m0)
  )
set_option maxRecDepth 100000 in
theorem bX0_addSign {E : qE} {N d bc bs : Nat} (hd : 0 ≤ d) {v0 : Nat} {v1 : Int32} {m0 : qM} : qB E yX0_addSign cX0_addSign 2 (some .boolean) (fun _ => True) d bc bs 0 [(0, .ref (E.2.1 + v0)), (1, .int v1)] [] m0 (fX0_addSign N v0 v1 m0) (fun b rr => rr = (some (.int b.1), b.2)) := by
  unfold fX0_addSign
  refine j_aload_n (q := 0) (np := 1) rfl rfl dX0_addSign_0 rfl ?_
  refine j_gI (np := 4) flX0_15 dX0_addSign_1 rfl (fun x1 => ?_)
  refine j_bipush (np := 6) cb_39 dX0_addSign_4 rfl ?_
  refine j_icmp_lt (tgt := 11) (np := 9) dX0_addSign_6 rfl rfl ?_ ?_
  · refine j_aload_n (q := 0) (np := 12) rfl rfl dX0_addSign_11 rfl ?_
    refine j_gR (np := 15) flX0_9 dX0_addSign_12 rfl (fun x2 => ?_)
    refine j_aload_n (q := 0) (np := 16) rfl rfl dX0_addSign_15 rfl ?_
    refine j_gI (np := 19) flX0_15 dX0_addSign_16 rfl (fun x3 => ?_)
    refine j_iload_n (q := 1) (np := 20) rfl rfl dX0_addSign_19 rfl ?_
    refine j_iastore (np := 21) dX0_addSign_20 rfl (fun m4 => ?_)
    refine j_aload_n (q := 0) (np := 22) rfl rfl dX0_addSign_21 rfl ?_
    refine j_dup (np := 23) rfl dX0_addSign_22 rfl ?_
    refine j_gI (np := 26) flX0_15 dX0_addSign_23 rfl (fun x5 => ?_)
    refine j_iconst (np := 27) ci_1 dX0_addSign_26 rfl ?_
    refine j_iadd (np := 28) dX0_addSign_27 rfl ?_
    refine j_pI (np := 31) flX0_15 dX0_addSign_28 rfl (fun m6 => ?_)
    refine j_iconst (np := 32) ci_1 dX0_addSign_31 rfl ?_
    exact j_zret rfl dX0_addSign_32 (fun rr h => by rw [z1]; exact h)
  · refine j_iconst (np := 10) ci_0 dX0_addSign_9 rfl ?_
    exact j_zret rfl dX0_addSign_10 (fun rr h => by rw [z0]; exact h)
set_option maxRecDepth 100000 in
theorem wX0_addSign {E : qE} {N d : Nat} (hd : 0 ≤ d) {v0 : Nat} {v1 : Int32} {m0 : qM} {b : Int32 × qM} (h : fX0_addSign N v0 v1 m0 = some b) : qRun E yX0_addSign cX0_addSign 2 (some .boolean) d 0 0 [.ref (E.2.1 + v0), .int v1] m0 (some (.int b.1), b.2) := q_met pnX0 (Nat.le_of_ble_eq_true rfl) (bX0_addSign hd b _ h rfl)
theorem dX0_addVariable_0 : decode cX0_addVariable 0 = .ok (.iconst 0, 1) := by decide +kernel
theorem dX0_addVariable_1 : decode cX0_addVariable 1 = .ok (.istore_n 3, 1) := by decide +kernel
theorem dX0_addVariable_2 : decode cX0_addVariable 2 = .ok (.iload_n 3, 1) := by decide +kernel
theorem dX0_addVariable_3 : decode cX0_addVariable 3 = .ok (.aload_n 0, 1) := by decide +kernel
theorem dX0_addVariable_4 : decode cX0_addVariable 4 = .ok (.getfield 19, 3) := by decide +kernel
theorem dX0_addVariable_7 : decode cX0_addVariable 7 = .ok (.if_icmp .ge 16, 3) := by decide +kernel
theorem dX0_addVariable_10 : decode cX0_addVariable 10 = .ok (.aload_n 2, 1) := by decide +kernel
theorem dX0_addVariable_11 : decode cX0_addVariable 11 = .ok (.iload_n 3, 1) := by decide +kernel
theorem dX0_addVariable_12 : decode cX0_addVariable 12 = .ok (.iaload, 1) := by decide +kernel
theorem dX0_addVariable_13 : decode cX0_addVariable 13 = .ok (.iload_n 1, 1) := by decide +kernel
theorem dX0_addVariable_14 : decode cX0_addVariable 14 = .ok (.if_icmp .eq 9, 3) := by decide +kernel
theorem dX0_addVariable_17 : decode cX0_addVariable 17 = .ok (.iinc 3 1, 3) := by decide +kernel
theorem dX0_addVariable_20 : decode cX0_addVariable 20 = .ok (.goto (-18), 3) := by decide +kernel
theorem dX0_addVariable_23 : decode cX0_addVariable 23 = .ok (.iload_n 3, 1) := by decide +kernel
theorem dX0_addVariable_24 : decode cX0_addVariable 24 = .ok (.aload_n 0, 1) := by decide +kernel
theorem dX0_addVariable_25 : decode cX0_addVariable 25 = .ok (.getfield 19, 3) := by decide +kernel
theorem dX0_addVariable_28 : decode cX0_addVariable 28 = .ok (.if_icmp .ne 28, 3) := by decide +kernel
theorem dX0_addVariable_31 : decode cX0_addVariable 31 = .ok (.aload_n 0, 1) := by decide +kernel
theorem dX0_addVariable_32 : decode cX0_addVariable 32 = .ok (.getfield 19, 3) := by decide +kernel
theorem dX0_addVariable_35 : decode cX0_addVariable 35 = .ok (.bipush 12, 2) := by decide +kernel
theorem dX0_addVariable_37 : decode cX0_addVariable 37 = .ok (.if_icmp .lt 5, 3) := by decide +kernel
theorem dX0_addVariable_40 : decode cX0_addVariable 40 = .ok (.iconst 0, 1) := by decide +kernel
theorem dX0_addVariable_41 : decode cX0_addVariable 41 = .ok (.ireturn, 1) := by decide +kernel
theorem dX0_addVariable_42 : decode cX0_addVariable 42 = .ok (.aload_n 2, 1) := by decide +kernel
theorem dX0_addVariable_43 : decode cX0_addVariable 43 = .ok (.iload_n 3, 1) := by decide +kernel
theorem dX0_addVariable_44 : decode cX0_addVariable 44 = .ok (.iload_n 1, 1) := by decide +kernel
theorem dX0_addVariable_45 : decode cX0_addVariable 45 = .ok (.iastore, 1) := by decide +kernel
theorem dX0_addVariable_46 : decode cX0_addVariable 46 = .ok (.aload_n 0, 1) := by decide +kernel
theorem dX0_addVariable_47 : decode cX0_addVariable 47 = .ok (.dup, 1) := by decide +kernel
theorem dX0_addVariable_48 : decode cX0_addVariable 48 = .ok (.getfield 19, 3) := by decide +kernel
theorem dX0_addVariable_51 : decode cX0_addVariable 51 = .ok (.iconst 1, 1) := by decide +kernel
theorem dX0_addVariable_52 : decode cX0_addVariable 52 = .ok (.iadd, 1) := by decide +kernel
theorem dX0_addVariable_53 : decode cX0_addVariable 53 = .ok (.putfield 19, 3) := by decide +kernel
theorem dX0_addVariable_56 : decode cX0_addVariable 56 = .ok (.aload_n 0, 1) := by decide +kernel
theorem dX0_addVariable_57 : decode cX0_addVariable 57 = .ok (.iload_n 3, 1) := by decide +kernel
theorem dX0_addVariable_58 : decode cX0_addVariable 58 = .ok (.invokevirtual 22, 3) := by decide +kernel
theorem dX0_addVariable_61 : decode cX0_addVariable 61 = .ok (.ireturn, 1) := by decide +kernel
def lX0_addVariable_2 (N : Nat) (v0 : Nat) (v1 : Int32) (v2 : Nat) : Nat → Int32 → qM → Option (Int32 × qM)
  | 0, _, _ => none
  | n + 1, v3, m0 =>
    (qgI m0 v0 0 2).bind fun x1 =>
    if x1 ≤ v3 then (
    some (v3, m0)
    ) else (
    (qaI m0 v2 12 v3).bind fun x2 =>
    if x2 = v1 then (
    some (v3, m0)
    ) else (
    lX0_addVariable_2 N v0 v1 v2 n (v3 + (1 : Int32)) m0
    )
    )
set_option maxRecDepth 100000 in
theorem lbX0_addVariable_2 {E : qE} {N d bc bs : Nat} (hd : 1 ≤ d) {v0 : Nat} {v1 : Int32} {v2 : Nat} : ∀ (n : Nat) (v3 : Int32) (m0 : qM), qB E yX0_addVariable cX0_addVariable 4 (some .boolean) (fun _ => True) d bc bs 2 [(0, .ref (E.2.1 + v0)), (1, .int v1), (2, .ref (E.2.1 + v2)), (3, .int v3)] [] m0 (lX0_addVariable_2 N v0 v1 v2 n v3 m0) (fun o rr => qJ E yX0_addVariable cX0_addVariable 4 (some .boolean) (fun _ => True) d bc bs 23 [(0, .ref (E.2.1 + v0)), (1, .int v1), (2, .ref (E.2.1 + v2)), (3, .int o.1)] [] o.2 rr) := by
  intro n
  induction n with
  | zero =>
    intro v3 m0
    exact j_none
  | succ n ih =>
    intro v3 m0
    unfold lX0_addVariable_2
    refine j_iload_n (q := 3) (np := 3) rfl rfl dX0_addVariable_2 rfl ?_
    refine j_aload_n (q := 0) (np := 4) rfl rfl dX0_addVariable_3 rfl ?_
    refine j_gI (np := 7) flX0_19 dX0_addVariable_4 rfl (fun x1 => ?_)
    refine j_icmp_ge (tgt := 23) (np := 10) dX0_addVariable_7 rfl rfl ?_ ?_
    · exact j_exit (fun rr h => h)
    · refine j_aload_n (q := 2) (np := 11) rfl rfl dX0_addVariable_10 rfl ?_
      refine j_iload_n (q := 3) (np := 12) rfl rfl dX0_addVariable_11 rfl ?_
      refine j_iaload (np := 13) dX0_addVariable_12 rfl (fun x2 => ?_)
      refine j_iload_n (q := 1) (np := 14) rfl rfl dX0_addVariable_13 rfl ?_
      refine j_icmp_eq (tgt := 23) (np := 17) dX0_addVariable_14 rfl rfl ?_ ?_
      · exact j_exit (fun rr h => h)
      · refine j_iinc (q := 3) (np := 20) (lv2 := [(3, .int (v3 + (1 : Int32))), (0, .ref (E.2.1 + v0)), (1, .int v1), (2, .ref (E.2.1 + v2))]) rfl (congrArg _ ci_1) (by decide) dX0_addVariable_17 rfl rfl ?_
        refine j_goto (tgt := 2) dX0_addVariable_20 rfl ?_
        refine j_sub (lv2 := [(0, .ref (E.2.1 + v0)), (1, .int v1), (2, .ref (E.2.1 + v2)), (3, .int (v3 + (1 : Int32)))]) [1, 2, 3, 0] rfl ?_
        exact ih _ _
def kX0_addVariable_56 (N : Nat) (v0 : Nat) (v3 : Int32)  (m0 : qM) : Option (Int32 × qM) :=
  (qChk m0 v0 0 (fX0_addSign N v0 v3 m0)).bind fun b1 =>
  some (b1.1 &&& 1, b1.2)
set_option maxRecDepth 100000 in
theorem kbX0_addVariable_56 {E : qE} {N d bc bs : Nat} (hd : 1 ≤ d) {v0 : Nat} {v3 : Int32}  {m0 : qM} : qB E yX0_addVariable cX0_addVariable 4 (some .boolean) (fun _ => True) d bc bs 56 [(0, .ref (E.2.1 + v0)), (3, .int v3)] [] m0 (kX0_addVariable_56 N v0 v3 m0) (fun b rr => rr = (some (.int b.1), b.2)) := by
  unfold kX0_addVariable_56
  refine j_aload_n (q := 0) (np := 57) rfl rfl dX0_addVariable_56 rfl ?_
  refine j_iload_n (q := 1) (np := 58) rfl rfl dX0_addVariable_57 rfl ?_
  refine j_callVi (ci := 0) (np := 61) (bc := bc) (bs := bs) (cb := 0) (cs := 0) (dd := d - 1) (As := [.int v3]) (st := []) caX0_addSign mlX0_22 imX0_addSign seX0_addSign rfl rfl (by decide) (fun b hb => wX0_addSign (by omega) hb) (by omega) rfl rfl (Nat.le_of_ble_eq_true rfl) dX0_addVariable_58 rfl (fun b1 => ?_)
  exact j_zret rfl dX0_addVariable_61 (fun rr h => h)
def fX0_addVariable (N : Nat) (v0 : Nat) (v1 : Int32) (v2 : Nat) (m0 : qM) : Option (Int32 × qM) :=
  (lX0_addVariable_2 N v0 v1 v2 N (0 : Int32) m0).bind fun o1 =>
  (qgI o1.2 v0 0 2).bind fun x2 =>
  if o1.1 = x2 then (
  (qgI o1.2 v0 0 2).bind fun x3 =>
  if x3 < (12 : Int32) then (
  (qwI o1.2 v2 12 o1.1 v1).bind fun m4 =>
  (qgI m4 v0 0 2).bind fun x5 =>
  (qpI m4 v0 0 2 (x5 + (1 : Int32))).bind fun m6 =>
  kX0_addVariable_56 N v0 o1.1 m6
  ) else (
  some ((0 : Int32), o1.2)
  )
  ) else (
  kX0_addVariable_56 N v0 o1.1 o1.2
  )
set_option maxRecDepth 100000 in
theorem bX0_addVariable {E : qE} {N d bc bs : Nat} (hd : 1 ≤ d) {v0 : Nat} {v1 : Int32} {v2 : Nat} {m0 : qM} : qB E yX0_addVariable cX0_addVariable 4 (some .boolean) (fun _ => True) d bc bs 0 [(0, .ref (E.2.1 + v0)), (1, .int v1), (2, .ref (E.2.1 + v2))] [] m0 (fX0_addVariable N v0 v1 v2 m0) (fun b rr => rr = (some (.int b.1), b.2)) := by
  unfold fX0_addVariable
  refine j_iconst (np := 1) ci_0 dX0_addVariable_0 rfl ?_
  refine j_istore_n (np := 2) (lv2 := [(3, .int (0 : Int32)), (0, .ref (E.2.1 + v0)), (1, .int v1), (2, .ref (E.2.1 + v2))]) rfl (by decide) dX0_addVariable_1 rfl rfl ?_
  refine j_sub (lv2 := [(0, .ref (E.2.1 + v0)), (1, .int v1), (2, .ref (E.2.1 + v2)), (3, .int (0 : Int32))]) [1, 2, 3, 0] rfl ?_
  refine j_loop (xp := 23) (lvX := fun o1 => [(0, .ref (E.2.1 + v0)), (1, .int v1), (2, .ref (E.2.1 + v2)), (3, .int o1.1)]) (mX := fun o1 => o1.2) (lbX0_addVariable_2 hd _ _ _) (fun o1 => ?_)
  refine j_iload_n (q := 3) (np := 24) rfl rfl dX0_addVariable_23 rfl ?_
  refine j_aload_n (q := 0) (np := 25) rfl rfl dX0_addVariable_24 rfl ?_
  refine j_gI (np := 28) flX0_19 dX0_addVariable_25 rfl (fun x2 => ?_)
  refine j_icmp_ne (tgt := 56) (np := 31) dX0_addVariable_28 rfl rfl ?_ ?_
  · refine j_sub (lv2 := [(0, .ref (E.2.1 + v0)), (3, .int o1.1)]) [0, 3] rfl ?_
    exact kbX0_addVariable_56 hd
  · refine j_aload_n (q := 0) (np := 32) rfl rfl dX0_addVariable_31 rfl ?_
    refine j_gI (np := 35) flX0_19 dX0_addVariable_32 rfl (fun x3 => ?_)
    refine j_bipush (np := 37) cb_12 dX0_addVariable_35 rfl ?_
    refine j_icmp_lt (tgt := 42) (np := 40) dX0_addVariable_37 rfl rfl ?_ ?_
    · refine j_aload_n (q := 2) (np := 43) rfl rfl dX0_addVariable_42 rfl ?_
      refine j_iload_n (q := 3) (np := 44) rfl rfl dX0_addVariable_43 rfl ?_
      refine j_iload_n (q := 1) (np := 45) rfl rfl dX0_addVariable_44 rfl ?_
      refine j_iastore (np := 46) dX0_addVariable_45 rfl (fun m4 => ?_)
      refine j_aload_n (q := 0) (np := 47) rfl rfl dX0_addVariable_46 rfl ?_
      refine j_dup (np := 48) rfl dX0_addVariable_47 rfl ?_
      refine j_gI (np := 51) flX0_19 dX0_addVariable_48 rfl (fun x5 => ?_)
      refine j_iconst (np := 52) ci_1 dX0_addVariable_51 rfl ?_
      refine j_iadd (np := 53) dX0_addVariable_52 rfl ?_
      refine j_pI (np := 56) flX0_19 dX0_addVariable_53 rfl (fun m6 => ?_)
      refine j_sub (lv2 := [(0, .ref (E.2.1 + v0)), (3, .int o1.1)]) [0, 3] rfl ?_
      exact kbX0_addVariable_56 hd
    · refine j_iconst (np := 41) ci_0 dX0_addVariable_40 rfl ?_
      exact j_zret rfl dX0_addVariable_41 (fun rr h => by rw [z0]; exact h)
set_option maxRecDepth 100000 in
theorem wX0_addVariable {E : qE} {N d : Nat} (hd : 1 ≤ d) {v0 : Nat} {v1 : Int32} {v2 : Nat} {m0 : qM} {b : Int32 × qM} (h : fX0_addVariable N v0 v1 v2 m0 = some b) : qRun E yX0_addVariable cX0_addVariable 4 (some .boolean) d 0 0 [.ref (E.2.1 + v0), .int v1, .ref (E.2.1 + v2)] m0 (some (.int b.1), b.2) := q_met pnX0 (Nat.le_of_ble_eq_true rfl) (bX0_addVariable hd b _ h rfl)
theorem dX0_addLetter_0 : decode cX0_addLetter 0 = .ok (.iload_n 1, 1) := by decide +kernel
theorem dX0_addLetter_1 : decode cX0_addLetter 1 = .ok (.bipush 67, 2) := by decide +kernel
theorem dX0_addLetter_3 : decode cX0_addLetter 3 = .ok (.if_icmp .ne 11, 3) := by decide +kernel
theorem dX0_addLetter_6 : decode cX0_addLetter 6 = .ok (.aload_n 0, 1) := by decide +kernel
theorem dX0_addLetter_7 : decode cX0_addLetter 7 = .ok (.iconst (-1), 1) := by decide +kernel
theorem dX0_addLetter_8 : decode cX0_addLetter 8 = .ok (.invokevirtual 22, 3) := by decide +kernel
theorem dX0_addLetter_11 : decode cX0_addLetter 11 = .ok (.goto 9, 3) := by decide +kernel
theorem dX0_addLetter_14 : decode cX0_addLetter 14 = .ok (.aload_n 0, 1) := by decide +kernel
theorem dX0_addLetter_15 : decode cX0_addLetter 15 = .ok (.iload_n 1, 1) := by decide +kernel
theorem dX0_addLetter_16 : decode cX0_addLetter 16 = .ok (.aload_n 2, 1) := by decide +kernel
theorem dX0_addLetter_17 : decode cX0_addLetter 17 = .ok (.invokevirtual 26, 3) := by decide +kernel
theorem dX0_addLetter_20 : decode cX0_addLetter 20 = .ok (.ireturn, 1) := by decide +kernel
def fX0_addLetter (N : Nat) (v0 : Nat) (v1 : Int32) (v2 : Nat) (m0 : qM) : Option (Int32 × qM) :=
  if v1 = (67 : Int32) then (
  (qChk m0 v0 0 (fX0_addSign N v0 (-1 : Int32) m0)).bind fun b2 =>
  some (b2.1 &&& 1, b2.2)
  ) else (
  (qChk m0 v0 0 (fX0_addVariable N v0 v1 v2 m0)).bind fun b1 =>
  some (b1.1 &&& 1, b1.2)
  )
set_option maxRecDepth 100000 in
theorem bX0_addLetter {E : qE} {N d bc bs : Nat} (hd : 2 ≤ d) {v0 : Nat} {v1 : Int32} {v2 : Nat} {m0 : qM} : qB E yX0_addLetter cX0_addLetter 3 (some .boolean) (fun _ => True) d bc bs 0 [(0, .ref (E.2.1 + v0)), (1, .int v1), (2, .ref (E.2.1 + v2))] [] m0 (fX0_addLetter N v0 v1 v2 m0) (fun b rr => rr = (some (.int b.1), b.2)) := by
  unfold fX0_addLetter
  refine j_iload_n (q := 1) (np := 1) rfl rfl dX0_addLetter_0 rfl ?_
  refine j_bipush (np := 3) cb_67 dX0_addLetter_1 rfl ?_
  refine j_icmp_ne (tgt := 14) (np := 6) dX0_addLetter_3 rfl rfl ?_ ?_
  · refine j_aload_n (q := 0) (np := 15) rfl rfl dX0_addLetter_14 rfl ?_
    refine j_iload_n (q := 1) (np := 16) rfl rfl dX0_addLetter_15 rfl ?_
    refine j_aload_n (q := 2) (np := 17) rfl rfl dX0_addLetter_16 rfl ?_
    refine j_callVi (ci := 0) (np := 20) (bc := bc) (bs := bs) (cb := 0) (cs := 0) (dd := d - 1) (As := [.int v1, .ref (E.2.1 + v2)]) (st := []) caX0_addVariable mlX0_26 imX0_addVariable seX0_addVariable rfl rfl (by decide) (fun b hb => wX0_addVariable (by omega) hb) (by omega) rfl rfl (Nat.le_of_ble_eq_true rfl) dX0_addLetter_17 rfl (fun b1 => ?_)
    exact j_zret rfl dX0_addLetter_20 (fun rr h => h)
  · refine j_aload_n (q := 0) (np := 7) rfl rfl dX0_addLetter_6 rfl ?_
    refine j_iconst (np := 8) ci_m1 dX0_addLetter_7 rfl ?_
    refine j_callVi (ci := 0) (np := 11) (bc := bc) (bs := bs) (cb := 0) (cs := 0) (dd := d - 1) (As := [.int (-1 : Int32)]) (st := []) caX0_addSign mlX0_22 imX0_addSign seX0_addSign rfl rfl (by decide) (fun b hb => wX0_addSign (by omega) hb) (by omega) rfl rfl (Nat.le_of_ble_eq_true rfl) dX0_addLetter_8 rfl (fun b2 => ?_)
    refine j_goto (tgt := 20) dX0_addLetter_11 rfl ?_
    exact j_zret rfl dX0_addLetter_20 (fun rr h => h)
set_option maxRecDepth 100000 in
theorem wX0_addLetter {E : qE} {N d : Nat} (hd : 2 ≤ d) {v0 : Nat} {v1 : Int32} {v2 : Nat} {m0 : qM} {b : Int32 × qM} (h : fX0_addLetter N v0 v1 v2 m0 = some b) : qRun E yX0_addLetter cX0_addLetter 3 (some .boolean) d 0 0 [.ref (E.2.1 + v0), .int v1, .ref (E.2.1 + v2)] m0 (some (.int b.1), b.2) := q_met pnX0 (Nat.le_of_ble_eq_true rfl) (bX0_addLetter hd b _ h rfl)
theorem dX0_copyFrom_0 : decode cX0_copyFrom 0 = .ok (.aload_n 1, 1) := by decide +kernel
theorem dX0_copyFrom_1 : decode cX0_copyFrom 1 = .ok (.getfield 9, 3) := by decide +kernel
theorem dX0_copyFrom_4 : decode cX0_copyFrom 4 = .ok (.iconst 0, 1) := by decide +kernel
theorem dX0_copyFrom_5 : decode cX0_copyFrom 5 = .ok (.aload_n 0, 1) := by decide +kernel
theorem dX0_copyFrom_6 : decode cX0_copyFrom 6 = .ok (.getfield 9, 3) := by decide +kernel
theorem dX0_copyFrom_9 : decode cX0_copyFrom 9 = .ok (.iconst 0, 1) := by decide +kernel
theorem dX0_copyFrom_10 : decode cX0_copyFrom 10 = .ok (.aload_n 1, 1) := by decide +kernel
theorem dX0_copyFrom_11 : decode cX0_copyFrom 11 = .ok (.getfield 15, 3) := by decide +kernel
theorem dX0_copyFrom_14 : decode cX0_copyFrom 14 = .ok (.invokestatic 30, 3) := by decide +kernel
theorem dX0_copyFrom_17 : decode cX0_copyFrom 17 = .ok (.aload_n 0, 1) := by decide +kernel
theorem dX0_copyFrom_18 : decode cX0_copyFrom 18 = .ok (.aload_n 1, 1) := by decide +kernel
theorem dX0_copyFrom_19 : decode cX0_copyFrom 19 = .ok (.getfield 15, 3) := by decide +kernel
theorem dX0_copyFrom_22 : decode cX0_copyFrom 22 = .ok (.putfield 15, 3) := by decide +kernel
theorem dX0_copyFrom_25 : decode cX0_copyFrom 25 = .ok (.aload_n 0, 1) := by decide +kernel
theorem dX0_copyFrom_26 : decode cX0_copyFrom 26 = .ok (.aload_n 1, 1) := by decide +kernel
theorem dX0_copyFrom_27 : decode cX0_copyFrom 27 = .ok (.getfield 19, 3) := by decide +kernel
theorem dX0_copyFrom_30 : decode cX0_copyFrom 30 = .ok (.putfield 19, 3) := by decide +kernel
theorem dX0_copyFrom_33 : decode cX0_copyFrom 33 = .ok (.return_, 1) := by decide +kernel
def fX0_copyFrom (N : Nat) (v0 : Nat) (v1 : Nat) (m0 : qM) : Option (qM) :=
  (qgR m0 v1 0 0).bind fun x1 =>
  (qgR m0 v0 0 0).bind fun x2 =>
  (qgI m0 v1 0 1).bind fun x3 =>
  (qcpy m0 x1 (0 : Int32) x2 (0 : Int32) x3).bind fun m4 =>
  (qgI m4 v1 0 1).bind fun x5 =>
  (qpI m4 v0 0 1 x5).bind fun m6 =>
  (qgI m6 v1 0 2).bind fun x7 =>
  (qpI m6 v0 0 2 x7).bind fun m8 =>
  some m8
set_option maxRecDepth 100000 in
theorem bX0_copyFrom {E : qE} {N d bc bs : Nat} (hd : 1 ≤ d) {v0 : Nat} {v1 : Nat} {m0 : qM} : qB E yX0_copyFrom cX0_copyFrom 2 none (fun _ => True) d bc bs 0 [(0, .ref (E.2.1 + v0)), (1, .ref (E.2.1 + v1))] [] m0 (fX0_copyFrom N v0 v1 m0) (fun b rr => rr = (none, b)) := by
  unfold fX0_copyFrom
  refine j_aload_n (q := 1) (np := 1) rfl rfl dX0_copyFrom_0 rfl ?_
  refine j_gR (np := 4) flX0_9 dX0_copyFrom_1 rfl (fun x1 => ?_)
  refine j_iconst (np := 5) ci_0 dX0_copyFrom_4 rfl ?_
  refine j_aload_n (q := 0) (np := 6) rfl rfl dX0_copyFrom_5 rfl ?_
  refine j_gR (np := 9) flX0_9 dX0_copyFrom_6 rfl (fun x2 => ?_)
  refine j_iconst (np := 10) ci_0 dX0_copyFrom_9 rfl ?_
  refine j_aload_n (q := 1) (np := 11) rfl rfl dX0_copyFrom_10 rfl ?_
  refine j_gI (np := 14) flX0_15 dX0_copyFrom_11 rfl (fun x3 => ?_)
  refine j_copy (np := 17) mlX0_30 ntCopy stCopy inSys (by omega) (Nat.le_of_ble_eq_true rfl) dX0_copyFrom_14 rfl (fun m4 => ?_)
  refine j_aload_n (q := 0) (np := 18) rfl rfl dX0_copyFrom_17 rfl ?_
  refine j_aload_n (q := 1) (np := 19) rfl rfl dX0_copyFrom_18 rfl ?_
  refine j_gI (np := 22) flX0_15 dX0_copyFrom_19 rfl (fun x5 => ?_)
  refine j_pI (np := 25) flX0_15 dX0_copyFrom_22 rfl (fun m6 => ?_)
  refine j_aload_n (q := 0) (np := 26) rfl rfl dX0_copyFrom_25 rfl ?_
  refine j_aload_n (q := 1) (np := 27) rfl rfl dX0_copyFrom_26 rfl ?_
  refine j_gI (np := 30) flX0_19 dX0_copyFrom_27 rfl (fun x7 => ?_)
  refine j_pI (np := 33) flX0_19 dX0_copyFrom_30 rfl (fun m8 => ?_)
  exact j_vret rfl dX0_copyFrom_33 (fun rr h => h)
set_option maxRecDepth 100000 in
theorem wX0_copyFrom {E : qE} {N d : Nat} (hd : 1 ≤ d) {v0 : Nat} {v1 : Nat} {m0 : qM} {b : qM} (h : fX0_copyFrom N v0 v1 m0 = some b) : qRun E yX0_copyFrom cX0_copyFrom 2 none d 0 0 [.ref (E.2.1 + v0), .ref (E.2.1 + v1)] m0 (none, b) := q_met pnX0 (Nat.le_of_ble_eq_true rfl) (bX0_copyFrom hd b _ h rfl)
theorem dX0_sameSigns_0 : decode cX0_sameSigns 0 = .ok (.iconst 0, 1) := by decide +kernel
theorem dX0_sameSigns_1 : decode cX0_sameSigns 1 = .ok (.istore 5, 2) := by decide +kernel
theorem dX0_sameSigns_3 : decode cX0_sameSigns 3 = .ok (.iload 5, 2) := by decide +kernel
theorem dX0_sameSigns_5 : decode cX0_sameSigns 5 = .ok (.iload 4, 2) := by decide +kernel
theorem dX0_sameSigns_7 : decode cX0_sameSigns 7 = .ok (.if_icmp .ge 32, 3) := by decide +kernel
theorem dX0_sameSigns_10 : decode cX0_sameSigns 10 = .ok (.aload_n 0, 1) := by decide +kernel
theorem dX0_sameSigns_11 : decode cX0_sameSigns 11 = .ok (.getfield 9, 3) := by decide +kernel
theorem dX0_sameSigns_14 : decode cX0_sameSigns 14 = .ok (.iload_n 1, 1) := by decide +kernel
theorem dX0_sameSigns_15 : decode cX0_sameSigns 15 = .ok (.iload 5, 2) := by decide +kernel
theorem dX0_sameSigns_17 : decode cX0_sameSigns 17 = .ok (.iadd, 1) := by decide +kernel
theorem dX0_sameSigns_18 : decode cX0_sameSigns 18 = .ok (.iaload, 1) := by decide +kernel
theorem dX0_sameSigns_19 : decode cX0_sameSigns 19 = .ok (.aload_n 2, 1) := by decide +kernel
theorem dX0_sameSigns_20 : decode cX0_sameSigns 20 = .ok (.getfield 9, 3) := by decide +kernel
theorem dX0_sameSigns_23 : decode cX0_sameSigns 23 = .ok (.iload_n 3, 1) := by decide +kernel
theorem dX0_sameSigns_24 : decode cX0_sameSigns 24 = .ok (.iload 5, 2) := by decide +kernel
theorem dX0_sameSigns_26 : decode cX0_sameSigns 26 = .ok (.iadd, 1) := by decide +kernel
theorem dX0_sameSigns_27 : decode cX0_sameSigns 27 = .ok (.iaload, 1) := by decide +kernel
theorem dX0_sameSigns_28 : decode cX0_sameSigns 28 = .ok (.if_icmp .eq 5, 3) := by decide +kernel
theorem dX0_sameSigns_31 : decode cX0_sameSigns 31 = .ok (.iconst 0, 1) := by decide +kernel
theorem dX0_sameSigns_32 : decode cX0_sameSigns 32 = .ok (.ireturn, 1) := by decide +kernel
theorem dX0_sameSigns_33 : decode cX0_sameSigns 33 = .ok (.iinc 5 1, 3) := by decide +kernel
theorem dX0_sameSigns_36 : decode cX0_sameSigns 36 = .ok (.goto (-33), 3) := by decide +kernel
theorem dX0_sameSigns_39 : decode cX0_sameSigns 39 = .ok (.iconst 1, 1) := by decide +kernel
theorem dX0_sameSigns_40 : decode cX0_sameSigns 40 = .ok (.ireturn, 1) := by decide +kernel
def lX0_sameSigns_3 (N : Nat) (v0 : Nat) (v1 : Int32) (v2 : Nat) (v3 : Int32) (v4 : Int32) : Nat → Int32 → qM → Option ((qM) ⊕ (Int32 × qM))
  | 0, _, _ => none
  | n + 1, v5, m0 =>
    if v4 ≤ v5 then (
    some (.inl m0)
    ) else (
    (qgR m0 v0 0 0).bind fun x1 =>
    (qaI m0 x1 12 (v1 + v5)).bind fun x2 =>
    (qgR m0 v2 0 0).bind fun x3 =>
    (qaI m0 x3 12 (v3 + v5)).bind fun x4 =>
    if x2 = x4 then (
    lX0_sameSigns_3 N v0 v1 v2 v3 v4 n (v5 + (1 : Int32)) m0
    ) else (
    some (.inr ((0 : Int32), m0))
    )
    )
set_option maxRecDepth 100000 in
theorem lbX0_sameSigns_3 {E : qE} {N d bc bs : Nat} (hd : 0 ≤ d) {v0 : Nat} {v1 : Int32} {v2 : Nat} {v3 : Int32} {v4 : Int32} : ∀ (n : Nat) (v5 : Int32) (m0 : qM), qB E yX0_sameSigns cX0_sameSigns 6 (some .boolean) (fun _ => True) d bc bs 3 [(0, .ref (E.2.1 + v0)), (1, .int v1), (2, .ref (E.2.1 + v2)), (3, .int v3), (4, .int v4), (5, .int v5)] [] m0 (lX0_sameSigns_3 N v0 v1 v2 v3 v4 n v5 m0) (qGL (fun o rr => qJ E yX0_sameSigns cX0_sameSigns 6 (some .boolean) (fun _ => True) d bc bs 39 [] [] o rr) (fun r => (some (.int r.1), r.2))) := by
  intro n
  induction n with
  | zero =>
    intro v5 m0
    exact j_none
  | succ n ih =>
    intro v5 m0
    unfold lX0_sameSigns_3
    refine j_iload (q := 5) (np := 5) rfl dX0_sameSigns_3 rfl ?_
    refine j_iload (q := 4) (np := 7) rfl dX0_sameSigns_5 rfl ?_
    refine j_icmp_ge (tgt := 39) (np := 10) dX0_sameSigns_7 rfl rfl ?_ ?_
    · refine j_sub (lv2 := []) [] rfl ?_
      exact j_exit (fun rr h => h)
    · refine j_aload_n (q := 0) (np := 11) rfl rfl dX0_sameSigns_10 rfl ?_
      refine j_gR (np := 14) flX0_9 dX0_sameSigns_11 rfl (fun x1 => ?_)
      refine j_iload_n (q := 1) (np := 15) rfl rfl dX0_sameSigns_14 rfl ?_
      refine j_iload (q := 5) (np := 17) rfl dX0_sameSigns_15 rfl ?_
      refine j_iadd (np := 18) dX0_sameSigns_17 rfl ?_
      refine j_iaload (np := 19) dX0_sameSigns_18 rfl (fun x2 => ?_)
      refine j_aload_n (q := 2) (np := 20) rfl rfl dX0_sameSigns_19 rfl ?_
      refine j_gR (np := 23) flX0_9 dX0_sameSigns_20 rfl (fun x3 => ?_)
      refine j_iload_n (q := 3) (np := 24) rfl rfl dX0_sameSigns_23 rfl ?_
      refine j_iload (q := 5) (np := 26) rfl dX0_sameSigns_24 rfl ?_
      refine j_iadd (np := 27) dX0_sameSigns_26 rfl ?_
      refine j_iaload (np := 28) dX0_sameSigns_27 rfl (fun x4 => ?_)
      refine j_icmp_eq (tgt := 33) (np := 31) dX0_sameSigns_28 rfl rfl ?_ ?_
      · refine j_iinc (q := 5) (np := 36) (lv2 := [(5, .int (v5 + (1 : Int32))), (0, .ref (E.2.1 + v0)), (1, .int v1), (2, .ref (E.2.1 + v2)), (3, .int v3), (4, .int v4)]) rfl (congrArg _ ci_1) (by decide) dX0_sameSigns_33 rfl rfl ?_
        refine j_goto (tgt := 3) dX0_sameSigns_36 rfl ?_
        refine j_sub (lv2 := [(0, .ref (E.2.1 + v0)), (1, .int v1), (2, .ref (E.2.1 + v2)), (3, .int v3), (4, .int v4), (5, .int (v5 + (1 : Int32)))]) [1, 2, 3, 4, 5, 0] rfl ?_
        exact ih _ _
      · refine j_iconst (np := 32) ci_0 dX0_sameSigns_31 rfl ?_
        exact j_zret rfl dX0_sameSigns_32 (fun rr h => by rw [z0]; exact h)
def fX0_sameSigns (N : Nat) (v0 : Nat) (v1 : Int32) (v2 : Nat) (v3 : Int32) (v4 : Int32) (m0 : qM) : Option (Int32 × qM) :=
  qTh (lX0_sameSigns_3 N v0 v1 v2 v3 v4 N (0 : Int32) m0) (fun o1 =>
  some ((1 : Int32), o1)
  ) (fun r => r)
set_option maxRecDepth 100000 in
theorem bX0_sameSigns {E : qE} {N d bc bs : Nat} (hd : 0 ≤ d) {v0 : Nat} {v1 : Int32} {v2 : Nat} {v3 : Int32} {v4 : Int32} {m0 : qM} : qB E yX0_sameSigns cX0_sameSigns 6 (some .boolean) (fun _ => True) d bc bs 0 [(0, .ref (E.2.1 + v0)), (1, .int v1), (2, .ref (E.2.1 + v2)), (3, .int v3), (4, .int v4)] [] m0 (fX0_sameSigns N v0 v1 v2 v3 v4 m0) (fun b rr => rr = (some (.int b.1), b.2)) := by
  unfold fX0_sameSigns
  refine j_iconst (np := 1) ci_0 dX0_sameSigns_0 rfl ?_
  refine j_istore (np := 3) (lv2 := [(5, .int (0 : Int32)), (0, .ref (E.2.1 + v0)), (1, .int v1), (2, .ref (E.2.1 + v2)), (3, .int v3), (4, .int v4)]) (by decide) dX0_sameSigns_1 rfl rfl ?_
  refine j_sub (lv2 := [(0, .ref (E.2.1 + v0)), (1, .int v1), (2, .ref (E.2.1 + v2)), (3, .int v3), (4, .int v4), (5, .int (0 : Int32))]) [1, 2, 3, 4, 5, 0] rfl ?_
  refine j_loopG (xp := 39) (lvX := fun o1 => []) (mX := fun o1 => o1) (lbX0_sameSigns_3 hd _ _ _) (fun r rr h => h) (fun o1 => ?_)
  refine j_iconst (np := 40) ci_1 dX0_sameSigns_39 rfl ?_
  exact j_zret rfl dX0_sameSigns_40 (fun rr h => by rw [z1]; exact h)
set_option maxRecDepth 100000 in
theorem wX0_sameSigns {E : qE} {N d : Nat} (hd : 0 ≤ d) {v0 : Nat} {v1 : Int32} {v2 : Nat} {v3 : Int32} {v4 : Int32} {m0 : qM} {b : Int32 × qM} (h : fX0_sameSigns N v0 v1 v2 v3 v4 m0 = some b) : qRun E yX0_sameSigns cX0_sameSigns 6 (some .boolean) d 0 0 [.ref (E.2.1 + v0), .int v1, .ref (E.2.1 + v2), .int v3, .int v4] m0 (some (.int b.1), b.2) := q_met pnX0 (Nat.le_of_ble_eq_true rfl) (bX0_sameSigns hd b _ h rfl)
theorem dX0_sameAs_0 : decode cX0_sameAs 0 = .ok (.aload_n 0, 1) := by decide +kernel
theorem dX0_sameAs_1 : decode cX0_sameAs 1 = .ok (.getfield 15, 3) := by decide +kernel
theorem dX0_sameAs_4 : decode cX0_sameAs 4 = .ok (.aload_n 1, 1) := by decide +kernel
theorem dX0_sameAs_5 : decode cX0_sameAs 5 = .ok (.getfield 15, 3) := by decide +kernel
theorem dX0_sameAs_8 : decode cX0_sameAs 8 = .ok (.if_icmp .ne 21, 3) := by decide +kernel
theorem dX0_sameAs_11 : decode cX0_sameAs 11 = .ok (.aload_n 0, 1) := by decide +kernel
theorem dX0_sameAs_12 : decode cX0_sameAs 12 = .ok (.iconst 0, 1) := by decide +kernel
theorem dX0_sameAs_13 : decode cX0_sameAs 13 = .ok (.aload_n 1, 1) := by decide +kernel
theorem dX0_sameAs_14 : decode cX0_sameAs 14 = .ok (.iconst 0, 1) := by decide +kernel
theorem dX0_sameAs_15 : decode cX0_sameAs 15 = .ok (.aload_n 0, 1) := by decide +kernel
theorem dX0_sameAs_16 : decode cX0_sameAs 16 = .ok (.getfield 15, 3) := by decide +kernel
theorem dX0_sameAs_19 : decode cX0_sameAs 19 = .ok (.invokevirtual 36, 3) := by decide +kernel
theorem dX0_sameAs_22 : decode cX0_sameAs 22 = .ok (.ifCond .eq 7, 3) := by decide +kernel
theorem dX0_sameAs_25 : decode cX0_sameAs 25 = .ok (.iconst 1, 1) := by decide +kernel
theorem dX0_sameAs_26 : decode cX0_sameAs 26 = .ok (.goto 4, 3) := by decide +kernel
theorem dX0_sameAs_29 : decode cX0_sameAs 29 = .ok (.iconst 0, 1) := by decide +kernel
theorem dX0_sameAs_30 : decode cX0_sameAs 30 = .ok (.ireturn, 1) := by decide +kernel
def fX0_sameAs (N : Nat) (v0 : Nat) (v1 : Nat) (m0 : qM) : Option (Int32 × qM) :=
  (qgI m0 v0 0 1).bind fun x1 =>
  (qgI m0 v1 0 1).bind fun x2 =>
  if x1 = x2 then (
  (qgI m0 v0 0 1).bind fun x3 =>
  (qChk m0 v0 0 (fX0_sameSigns N v0 (0 : Int32) v1 (0 : Int32) x3 m0)).bind fun b4 =>
  if b4.1 = 0 then (
  some ((0 : Int32), b4.2)
  ) else (
  some ((1 : Int32), b4.2)
  )
  ) else (
  some ((0 : Int32), m0)
  )
set_option maxRecDepth 100000 in
theorem bX0_sameAs {E : qE} {N d bc bs : Nat} (hd : 1 ≤ d) {v0 : Nat} {v1 : Nat} {m0 : qM} : qB E yX0_sameAs cX0_sameAs 2 (some .boolean) (fun _ => True) d bc bs 0 [(0, .ref (E.2.1 + v0)), (1, .ref (E.2.1 + v1))] [] m0 (fX0_sameAs N v0 v1 m0) (fun b rr => rr = (some (.int b.1), b.2)) := by
  unfold fX0_sameAs
  refine j_aload_n (q := 0) (np := 1) rfl rfl dX0_sameAs_0 rfl ?_
  refine j_gI (np := 4) flX0_15 dX0_sameAs_1 rfl (fun x1 => ?_)
  refine j_aload_n (q := 1) (np := 5) rfl rfl dX0_sameAs_4 rfl ?_
  refine j_gI (np := 8) flX0_15 dX0_sameAs_5 rfl (fun x2 => ?_)
  refine j_icmp_ne (tgt := 29) (np := 11) dX0_sameAs_8 rfl rfl ?_ ?_
  · refine j_iconst (np := 30) ci_0 dX0_sameAs_29 rfl ?_
    exact j_zret rfl dX0_sameAs_30 (fun rr h => by rw [z0]; exact h)
  · refine j_aload_n (q := 0) (np := 12) rfl rfl dX0_sameAs_11 rfl ?_
    refine j_iconst (np := 13) ci_0 dX0_sameAs_12 rfl ?_
    refine j_aload_n (q := 1) (np := 14) rfl rfl dX0_sameAs_13 rfl ?_
    refine j_iconst (np := 15) ci_0 dX0_sameAs_14 rfl ?_
    refine j_aload_n (q := 0) (np := 16) rfl rfl dX0_sameAs_15 rfl ?_
    refine j_gI (np := 19) flX0_15 dX0_sameAs_16 rfl (fun x3 => ?_)
    refine j_callVi (ci := 0) (np := 22) (bc := bc) (bs := bs) (cb := 0) (cs := 0) (dd := d - 1) (As := [.int (0 : Int32), .ref (E.2.1 + v1), .int (0 : Int32), .int x3]) (st := []) caX0_sameSigns mlX0_36 imX0_sameSigns seX0_sameSigns rfl rfl (by decide) (fun b hb => wX0_sameSigns (by omega) hb) (by omega) rfl rfl (Nat.le_of_ble_eq_true rfl) dX0_sameAs_19 rfl (fun b4 => ?_)
    refine j_if_eq (tgt := 29) (np := 25) dX0_sameAs_22 rfl rfl ?_ ?_
    · refine j_iconst (np := 30) ci_0 dX0_sameAs_29 rfl ?_
      exact j_zret rfl dX0_sameAs_30 (fun rr h => by rw [z0]; exact h)
    · refine j_iconst (np := 26) ci_1 dX0_sameAs_25 rfl ?_
      refine j_goto (tgt := 30) dX0_sameAs_26 rfl ?_
      exact j_zret rfl dX0_sameAs_30 (fun rr h => by rw [z1]; exact h)
set_option maxRecDepth 100000 in
theorem wX0_sameAs {E : qE} {N d : Nat} (hd : 1 ≤ d) {v0 : Nat} {v1 : Nat} {m0 : qM} {b : Int32 × qM} (h : fX0_sameAs N v0 v1 m0 = some b) : qRun E yX0_sameAs cX0_sameAs 2 (some .boolean) d 0 0 [.ref (E.2.1 + v0), .ref (E.2.1 + v1)] m0 (some (.int b.1), b.2) := q_met pnX0 (Nat.le_of_ble_eq_true rfl) (bX0_sameAs hd b _ h rfl)
theorem dX0_endOf_0 : decode cX0_endOf 0 = .ok (.iconst 1, 1) := by decide +kernel
theorem dX0_endOf_1 : decode cX0_endOf 1 = .ok (.istore_n 2, 1) := by decide +kernel
theorem dX0_endOf_2 : decode cX0_endOf 2 = .ok (.iload_n 1, 1) := by decide +kernel
theorem dX0_endOf_3 : decode cX0_endOf 3 = .ok (.istore_n 3, 1) := by decide +kernel
theorem dX0_endOf_4 : decode cX0_endOf 4 = .ok (.iload_n 3, 1) := by decide +kernel
theorem dX0_endOf_5 : decode cX0_endOf 5 = .ok (.aload_n 0, 1) := by decide +kernel
theorem dX0_endOf_6 : decode cX0_endOf 6 = .ok (.getfield 15, 3) := by decide +kernel
theorem dX0_endOf_9 : decode cX0_endOf 9 = .ok (.if_icmp .ge 31, 3) := by decide +kernel
theorem dX0_endOf_12 : decode cX0_endOf 12 = .ok (.iload_n 2, 1) := by decide +kernel
theorem dX0_endOf_13 : decode cX0_endOf 13 = .ok (.ifCond .le 27, 3) := by decide +kernel
theorem dX0_endOf_16 : decode cX0_endOf 16 = .ok (.iload_n 2, 1) := by decide +kernel
theorem dX0_endOf_17 : decode cX0_endOf 17 = .ok (.aload_n 0, 1) := by decide +kernel
theorem dX0_endOf_18 : decode cX0_endOf 18 = .ok (.getfield 9, 3) := by decide +kernel
theorem dX0_endOf_21 : decode cX0_endOf 21 = .ok (.iload_n 3, 1) := by decide +kernel
theorem dX0_endOf_22 : decode cX0_endOf 22 = .ok (.iaload, 1) := by decide +kernel
theorem dX0_endOf_23 : decode cX0_endOf 23 = .ok (.iconst (-1), 1) := by decide +kernel
theorem dX0_endOf_24 : decode cX0_endOf 24 = .ok (.if_icmp .ne 7, 3) := by decide +kernel
theorem dX0_endOf_27 : decode cX0_endOf 27 = .ok (.iconst 1, 1) := by decide +kernel
theorem dX0_endOf_28 : decode cX0_endOf 28 = .ok (.goto 4, 3) := by decide +kernel
theorem dX0_endOf_31 : decode cX0_endOf 31 = .ok (.iconst (-1), 1) := by decide +kernel
theorem dX0_endOf_32 : decode cX0_endOf 32 = .ok (.iadd, 1) := by decide +kernel
theorem dX0_endOf_33 : decode cX0_endOf 33 = .ok (.istore_n 2, 1) := by decide +kernel
theorem dX0_endOf_34 : decode cX0_endOf 34 = .ok (.iinc 3 1, 3) := by decide +kernel
theorem dX0_endOf_37 : decode cX0_endOf 37 = .ok (.goto (-33), 3) := by decide +kernel
theorem dX0_endOf_40 : decode cX0_endOf 40 = .ok (.iload_n 3, 1) := by decide +kernel
theorem dX0_endOf_41 : decode cX0_endOf 41 = .ok (.ireturn, 1) := by decide +kernel
def kX0_endOf_32 (N : Nat) (rec : Int32 → Int32 → qM → Option (Int32 × qM)) (v0 : Nat) (v3 : Int32) (s0 : Int32) (s1 : Int32) (m0 : qM) : Option (Int32 × qM) :=
  rec (s0 + s1) (v3 + (1 : Int32)) m0
set_option maxRecDepth 100000 in
theorem kbX0_endOf_32 {E : qE} {N d bc bs : Nat} (hd : 0 ≤ d) {v0 : Nat} {v3 : Int32} {s0 : Int32} {s1 : Int32} {m0 : qM} {rec : Int32 → Int32 → qM → Option (Int32 × qM)} (hrec : ∀ (v2 : Int32) (v3 : Int32) (m : qM), qB E yX0_endOf cX0_endOf 4 (some .int) (fun _ => True) d bc bs 4 [(0, .ref (E.2.1 + v0)), (2, .int v2), (3, .int v3)] [] m (rec v2 v3 m) (fun o rr => qJ E yX0_endOf cX0_endOf 4 (some .int) (fun _ => True) d bc bs 40 [(3, .int o.1)] [] o.2 rr)) : qB E yX0_endOf cX0_endOf 4 (some .int) (fun _ => True) d bc bs 32 [(0, .ref (E.2.1 + v0)), (3, .int v3)] [.int s1, .int s0] m0 (kX0_endOf_32 N rec v0 v3 s0 s1 m0) (fun o rr => qJ E yX0_endOf cX0_endOf 4 (some .int) (fun _ => True) d bc bs 40 [(3, .int o.1)] [] o.2 rr) := by
  unfold kX0_endOf_32
  refine j_iadd (np := 33) dX0_endOf_32 rfl ?_
  refine j_istore_n (np := 34) (lv2 := [(2, .int (s0 + s1)), (0, .ref (E.2.1 + v0)), (3, .int v3)]) rfl (by decide) dX0_endOf_33 rfl rfl ?_
  refine j_iinc (q := 2) (np := 37) (lv2 := [(3, .int (v3 + (1 : Int32))), (2, .int (s0 + s1)), (0, .ref (E.2.1 + v0))]) rfl (congrArg _ ci_1) (by decide) dX0_endOf_34 rfl rfl ?_
  refine j_goto (tgt := 4) dX0_endOf_37 rfl ?_
  refine j_sub (lv2 := [(0, .ref (E.2.1 + v0)), (2, .int (s0 + s1)), (3, .int (v3 + (1 : Int32)))]) [2, 1, 0] rfl ?_
  exact hrec _ _ _
def lX0_endOf_4 (N : Nat) (v0 : Nat) : Nat → Int32 → Int32 → qM → Option (Int32 × qM)
  | 0, _, _, _ => none
  | n + 1, v2, v3, m0 =>
    (qgI m0 v0 0 1).bind fun x1 =>
    if x1 ≤ v3 then (
    some (v3, m0)
    ) else (
    if v2 ≤ 0 then (
    some (v3, m0)
    ) else (
    (qgR m0 v0 0 0).bind fun x2 =>
    (qaI m0 x2 12 v3).bind fun x3 =>
    if x3 = (-1 : Int32) then (
    kX0_endOf_32 N (lX0_endOf_4 N v0 n) v0 v3 v2 (1 : Int32) m0
    ) else (
    kX0_endOf_32 N (lX0_endOf_4 N v0 n) v0 v3 v2 (-1 : Int32) m0
    )
    )
    )
set_option maxRecDepth 100000 in
theorem lbX0_endOf_4 {E : qE} {N d bc bs : Nat} (hd : 0 ≤ d) {v0 : Nat} : ∀ (n : Nat) (v2 : Int32) (v3 : Int32) (m0 : qM), qB E yX0_endOf cX0_endOf 4 (some .int) (fun _ => True) d bc bs 4 [(0, .ref (E.2.1 + v0)), (2, .int v2), (3, .int v3)] [] m0 (lX0_endOf_4 N v0 n v2 v3 m0) (fun o rr => qJ E yX0_endOf cX0_endOf 4 (some .int) (fun _ => True) d bc bs 40 [(3, .int o.1)] [] o.2 rr) := by
  intro n
  induction n with
  | zero =>
    intro v2 v3 m0
    exact j_none
  | succ n ih =>
    intro v2 v3 m0
    unfold lX0_endOf_4
    refine j_iload_n (q := 2) (np := 5) rfl rfl dX0_endOf_4 rfl ?_
    refine j_aload_n (q := 0) (np := 6) rfl rfl dX0_endOf_5 rfl ?_
    refine j_gI (np := 9) flX0_15 dX0_endOf_6 rfl (fun x1 => ?_)
    refine j_icmp_ge (tgt := 40) (np := 12) dX0_endOf_9 rfl rfl ?_ ?_
    · refine j_sub (lv2 := [(3, .int v3)]) [2] rfl ?_
      exact j_exit (fun rr h => h)
    · refine j_iload_n (q := 1) (np := 13) rfl rfl dX0_endOf_12 rfl ?_
      refine j_if_le (tgt := 40) (np := 16) dX0_endOf_13 rfl rfl ?_ ?_
      · refine j_sub (lv2 := [(3, .int v3)]) [2] rfl ?_
        exact j_exit (fun rr h => h)
      · refine j_iload_n (q := 1) (np := 17) rfl rfl dX0_endOf_16 rfl ?_
        refine j_aload_n (q := 0) (np := 18) rfl rfl dX0_endOf_17 rfl ?_
        refine j_gR (np := 21) flX0_9 dX0_endOf_18 rfl (fun x2 => ?_)
        refine j_iload_n (q := 2) (np := 22) rfl rfl dX0_endOf_21 rfl ?_
        refine j_iaload (np := 23) dX0_endOf_22 rfl (fun x3 => ?_)
        refine j_iconst (np := 24) ci_m1 dX0_endOf_23 rfl ?_
        refine j_icmp_ne (tgt := 31) (np := 27) dX0_endOf_24 rfl rfl ?_ ?_
        · refine j_iconst (np := 32) ci_m1 dX0_endOf_31 rfl ?_
          refine j_sub (lv2 := [(0, .ref (E.2.1 + v0)), (3, .int v3)]) [0, 2] rfl ?_
          exact kbX0_endOf_32 hd ih
        · refine j_iconst (np := 28) ci_1 dX0_endOf_27 rfl ?_
          refine j_goto (tgt := 32) dX0_endOf_28 rfl ?_
          refine j_sub (lv2 := [(0, .ref (E.2.1 + v0)), (3, .int v3)]) [0, 2] rfl ?_
          exact kbX0_endOf_32 hd ih
def fX0_endOf (N : Nat) (v0 : Nat) (v1 : Int32) (m0 : qM) : Option (Int32 × qM) :=
  (lX0_endOf_4 N v0 N (1 : Int32) v1 m0).bind fun o1 =>
  some (o1.1, o1.2)
set_option maxRecDepth 100000 in
theorem bX0_endOf {E : qE} {N d bc bs : Nat} (hd : 0 ≤ d) {v0 : Nat} {v1 : Int32} {m0 : qM} : qB E yX0_endOf cX0_endOf 4 (some .int) (fun _ => True) d bc bs 0 [(0, .ref (E.2.1 + v0)), (1, .int v1)] [] m0 (fX0_endOf N v0 v1 m0) (fun b rr => rr = (some (.int b.1), b.2)) := by
  unfold fX0_endOf
  refine j_iconst (np := 1) ci_1 dX0_endOf_0 rfl ?_
  refine j_istore_n (np := 2) (lv2 := [(2, .int (1 : Int32)), (0, .ref (E.2.1 + v0)), (1, .int v1)]) rfl (by decide) dX0_endOf_1 rfl rfl ?_
  refine j_iload_n (q := 2) (np := 3) rfl rfl dX0_endOf_2 rfl ?_
  refine j_istore_n (np := 4) (lv2 := [(3, .int v1), (2, .int (1 : Int32)), (0, .ref (E.2.1 + v0)), (1, .int v1)]) rfl (by decide) dX0_endOf_3 rfl rfl ?_
  refine j_sub (lv2 := [(0, .ref (E.2.1 + v0)), (2, .int (1 : Int32)), (3, .int v1)]) [2, 1, 0] rfl ?_
  refine j_loop (xp := 40) (lvX := fun o1 => [(3, .int o1.1)]) (mX := fun o1 => o1.2) (lbX0_endOf_4 hd _ _ _ _) (fun o1 => ?_)
  refine j_iload_n (q := 0) (np := 41) rfl rfl dX0_endOf_40 rfl ?_
  exact j_iret rfl dX0_endOf_41 (fun rr h => h)
set_option maxRecDepth 100000 in
theorem wX0_endOf {E : qE} {N d : Nat} (hd : 0 ≤ d) {v0 : Nat} {v1 : Int32} {m0 : qM} {b : Int32 × qM} (h : fX0_endOf N v0 v1 m0 = some b) : qRun E yX0_endOf cX0_endOf 4 (some .int) d 0 0 [.ref (E.2.1 + v0), .int v1] m0 (some (.int b.1), b.2) := q_met pnX0 (Nat.le_of_ble_eq_true rfl) (bX0_endOf hd b _ h rfl)
theorem dX7_add_0 : decode cX7_add 0 = .ok (.aload_n 0, 1) := by decide +kernel
theorem dX7_add_1 : decode cX7_add 1 = .ok (.getfield 15, 3) := by decide +kernel
theorem dX7_add_4 : decode cX7_add 4 = .ok (.bipush 120, 2) := by decide +kernel
theorem dX7_add_6 : decode cX7_add 6 = .ok (.if_icmp .ge 23, 3) := by decide +kernel
theorem dX7_add_9 : decode cX7_add 9 = .ok (.aload_n 0, 1) := by decide +kernel
theorem dX7_add_10 : decode cX7_add 10 = .ok (.getfield 9, 3) := by decide +kernel
theorem dX7_add_13 : decode cX7_add 13 = .ok (.aload_n 0, 1) := by decide +kernel
theorem dX7_add_14 : decode cX7_add 14 = .ok (.getfield 15, 3) := by decide +kernel
theorem dX7_add_17 : decode cX7_add 17 = .ok (.iload_n 1, 1) := by decide +kernel
theorem dX7_add_18 : decode cX7_add 18 = .ok (.castore, 1) := by decide +kernel
theorem dX7_add_19 : decode cX7_add 19 = .ok (.aload_n 0, 1) := by decide +kernel
theorem dX7_add_20 : decode cX7_add 20 = .ok (.dup, 1) := by decide +kernel
theorem dX7_add_21 : decode cX7_add 21 = .ok (.getfield 15, 3) := by decide +kernel
theorem dX7_add_24 : decode cX7_add 24 = .ok (.iconst 1, 1) := by decide +kernel
theorem dX7_add_25 : decode cX7_add 25 = .ok (.iadd, 1) := by decide +kernel
theorem dX7_add_26 : decode cX7_add 26 = .ok (.putfield 15, 3) := by decide +kernel
theorem dX7_add_29 : decode cX7_add 29 = .ok (.return_, 1) := by decide +kernel
def fX7_add (N : Nat) (v0 : Nat) (v1 : Int32) (m0 : qM) : Option (qM) :=
  (qgI m0 v0 7 1).bind fun x1 =>
  if (120 : Int32) ≤ x1 then (
  some m0
  ) else (
  (qgR m0 v0 7 0).bind fun x2 =>
  (qgI m0 v0 7 1).bind fun x3 =>
  (qwI m0 x2 11 x3 v1.toUInt32.toUInt16.toUInt32.toInt32).bind fun m4 =>
  (qgI m4 v0 7 1).bind fun x5 =>
  (qpI m4 v0 7 1 (x5 + (1 : Int32))).bind fun m6 =>
  some m6
  )
set_option maxRecDepth 100000 in
theorem bX7_add {E : qE} {N d bc bs : Nat} (hd : 0 ≤ d) {v0 : Nat} {v1 : Int32} {m0 : qM} : qB E yX7_add cX7_add 2 none (fun _ => True) d bc bs 0 [(0, .ref (E.2.1 + v0)), (1, .int v1)] [] m0 (fX7_add N v0 v1 m0) (fun b rr => rr = (none, b)) := by
  unfold fX7_add
  refine j_aload_n (q := 0) (np := 1) rfl rfl dX7_add_0 rfl ?_
  refine j_gI (np := 4) flX7_15 dX7_add_1 rfl (fun x1 => ?_)
  refine j_bipush (np := 6) cb_120 dX7_add_4 rfl ?_
  refine j_icmp_ge (tgt := 29) (np := 9) dX7_add_6 rfl rfl ?_ ?_
  · exact j_vret rfl dX7_add_29 (fun rr h => h)
  · refine j_aload_n (q := 0) (np := 10) rfl rfl dX7_add_9 rfl ?_
    refine j_gR (np := 13) flX7_9 dX7_add_10 rfl (fun x2 => ?_)
    refine j_aload_n (q := 0) (np := 14) rfl rfl dX7_add_13 rfl ?_
    refine j_gI (np := 17) flX7_15 dX7_add_14 rfl (fun x3 => ?_)
    refine j_iload_n (q := 1) (np := 18) rfl rfl dX7_add_17 rfl ?_
    refine j_castore (np := 19) dX7_add_18 rfl (fun m4 => ?_)
    refine j_aload_n (q := 0) (np := 20) rfl rfl dX7_add_19 rfl ?_
    refine j_dup (np := 21) rfl dX7_add_20 rfl ?_
    refine j_gI (np := 24) flX7_15 dX7_add_21 rfl (fun x5 => ?_)
    refine j_iconst (np := 25) ci_1 dX7_add_24 rfl ?_
    refine j_iadd (np := 26) dX7_add_25 rfl ?_
    refine j_pI (np := 29) flX7_15 dX7_add_26 rfl (fun m6 => ?_)
    exact j_vret rfl dX7_add_29 (fun rr h => h)
set_option maxRecDepth 100000 in
theorem wX7_add {E : qE} {N d : Nat} (hd : 0 ≤ d) {v0 : Nat} {v1 : Int32} {m0 : qM} {b : qM} (h : fX7_add N v0 v1 m0 = some b) : qRun E yX7_add cX7_add 2 none d 0 0 [.ref (E.2.1 + v0), .int v1] m0 (none, b) := q_met pnX7 (Nat.le_of_ble_eq_true rfl) (bX7_add hd b _ h rfl)
theorem dX0_writeTo_0 : decode cX0_writeTo 0 = .ok (.iconst 0, 1) := by decide +kernel
theorem dX0_writeTo_1 : decode cX0_writeTo 1 = .ok (.istore_n 2, 1) := by decide +kernel
theorem dX0_writeTo_2 : decode cX0_writeTo 2 = .ok (.iload_n 2, 1) := by decide +kernel
theorem dX0_writeTo_3 : decode cX0_writeTo 3 = .ok (.aload_n 0, 1) := by decide +kernel
theorem dX0_writeTo_4 : decode cX0_writeTo 4 = .ok (.getfield 15, 3) := by decide +kernel
theorem dX0_writeTo_7 : decode cX0_writeTo 7 = .ok (.if_icmp .ge 38, 3) := by decide +kernel
theorem dX0_writeTo_10 : decode cX0_writeTo 10 = .ok (.aload_n 1, 1) := by decide +kernel
theorem dX0_writeTo_11 : decode cX0_writeTo 11 = .ok (.aload_n 0, 1) := by decide +kernel
theorem dX0_writeTo_12 : decode cX0_writeTo 12 = .ok (.getfield 9, 3) := by decide +kernel
theorem dX0_writeTo_15 : decode cX0_writeTo 15 = .ok (.iload_n 2, 1) := by decide +kernel
theorem dX0_writeTo_16 : decode cX0_writeTo 16 = .ok (.iaload, 1) := by decide +kernel
theorem dX0_writeTo_17 : decode cX0_writeTo 17 = .ok (.iconst (-1), 1) := by decide +kernel
theorem dX0_writeTo_18 : decode cX0_writeTo 18 = .ok (.if_icmp .ne 8, 3) := by decide +kernel
theorem dX0_writeTo_21 : decode cX0_writeTo 21 = .ok (.bipush 67, 2) := by decide +kernel
theorem dX0_writeTo_23 : decode cX0_writeTo 23 = .ok (.goto 13, 3) := by decide +kernel
theorem dX0_writeTo_26 : decode cX0_writeTo 26 = .ok (.bipush 97, 2) := by decide +kernel
theorem dX0_writeTo_28 : decode cX0_writeTo 28 = .ok (.aload_n 0, 1) := by decide +kernel
theorem dX0_writeTo_29 : decode cX0_writeTo 29 = .ok (.getfield 9, 3) := by decide +kernel
theorem dX0_writeTo_32 : decode cX0_writeTo 32 = .ok (.iload_n 2, 1) := by decide +kernel
theorem dX0_writeTo_33 : decode cX0_writeTo 33 = .ok (.iaload, 1) := by decide +kernel
theorem dX0_writeTo_34 : decode cX0_writeTo 34 = .ok (.iadd, 1) := by decide +kernel
theorem dX0_writeTo_35 : decode cX0_writeTo 35 = .ok (.i2c, 1) := by decide +kernel
theorem dX0_writeTo_36 : decode cX0_writeTo 36 = .ok (.invokevirtual 40, 3) := by decide +kernel
theorem dX0_writeTo_39 : decode cX0_writeTo 39 = .ok (.iinc 2 1, 3) := by decide +kernel
theorem dX0_writeTo_42 : decode cX0_writeTo 42 = .ok (.goto (-40), 3) := by decide +kernel
theorem dX0_writeTo_45 : decode cX0_writeTo 45 = .ok (.return_, 1) := by decide +kernel
def kX0_writeTo_36 (N : Nat) (rec : Int32 → qM → Option (qM)) (v0 : Nat) (v1 : Nat) (v2 : Int32) (s0 : Nat) (s1 : Int32) (m0 : qM) : Option (qM) :=
  (qChk m0 s0 7 (fX7_add N s0 s1 m0)).bind fun b1 =>
  rec (v2 + (1 : Int32)) b1
set_option maxRecDepth 100000 in
theorem kbX0_writeTo_36 {E : qE} {N d bc bs : Nat} (hd : 1 ≤ d) {v0 : Nat} {v1 : Nat} {v2 : Int32} {s0 : Nat} {s1 : Int32} {m0 : qM} {rec : Int32 → qM → Option (qM)} (hrec : ∀ (v2 : Int32) (m : qM), qB E yX0_writeTo cX0_writeTo 3 none (fun _ => True) d bc bs 2 [(0, .ref (E.2.1 + v0)), (1, .ref (E.2.1 + v1)), (2, .int v2)] [] m (rec v2 m) (fun o rr => qJ E yX0_writeTo cX0_writeTo 3 none (fun _ => True) d bc bs 45 [] [] o rr)) : qB E yX0_writeTo cX0_writeTo 3 none (fun _ => True) d bc bs 36 [(0, .ref (E.2.1 + v0)), (1, .ref (E.2.1 + v1)), (2, .int v2)] [.int s1, .ref (E.2.1 + s0)] m0 (kX0_writeTo_36 N rec v0 v1 v2 s0 s1 m0) (fun o rr => qJ E yX0_writeTo cX0_writeTo 3 none (fun _ => True) d bc bs 45 [] [] o rr) := by
  unfold kX0_writeTo_36
  refine j_callVv (ci := 7) (np := 39) (bc := bc) (bs := bs) (cb := 0) (cs := 0) (dd := d - 1) (As := [.int s1]) (st := []) caX7_add mlX0_40 imX7_add seX7_add rfl rfl (by decide) (fun b hb => wX7_add (by omega) hb) (by omega) rfl rfl (Nat.le_of_ble_eq_true rfl) dX0_writeTo_36 rfl (fun b1 => ?_)
  refine j_iinc (q := 2) (np := 42) (lv2 := [(2, .int (v2 + (1 : Int32))), (0, .ref (E.2.1 + v0)), (1, .ref (E.2.1 + v1))]) rfl (congrArg _ ci_1) (by decide) dX0_writeTo_39 rfl rfl ?_
  refine j_goto (tgt := 2) dX0_writeTo_42 rfl ?_
  refine j_sub (lv2 := [(0, .ref (E.2.1 + v0)), (1, .ref (E.2.1 + v1)), (2, .int (v2 + (1 : Int32)))]) [1, 2, 0] rfl ?_
  exact hrec _ _
def lX0_writeTo_2 (N : Nat) (v0 : Nat) (v1 : Nat) : Nat → Int32 → qM → Option (qM)
  | 0, _, _ => none
  | n + 1, v2, m0 =>
    (qgI m0 v0 0 1).bind fun x1 =>
    if x1 ≤ v2 then (
    some m0
    ) else (
    (qgR m0 v0 0 0).bind fun x2 =>
    (qaI m0 x2 12 v2).bind fun x3 =>
    if x3 = (-1 : Int32) then (
    kX0_writeTo_36 N (lX0_writeTo_2 N v0 v1 n) v0 v1 v2 v1 (67 : Int32) m0
    ) else (
    (qgR m0 v0 0 0).bind fun x4 =>
    (qaI m0 x4 12 v2).bind fun x5 =>
    kX0_writeTo_36 N (lX0_writeTo_2 N v0 v1 n) v0 v1 v2 v1 ((((97 : Int32) + x5).toUInt32 % 65536).toInt32) m0
    )
    )
set_option maxRecDepth 100000 in
theorem lbX0_writeTo_2 {E : qE} {N d bc bs : Nat} (hd : 1 ≤ d) {v0 : Nat} {v1 : Nat} : ∀ (n : Nat) (v2 : Int32) (m0 : qM), qB E yX0_writeTo cX0_writeTo 3 none (fun _ => True) d bc bs 2 [(0, .ref (E.2.1 + v0)), (1, .ref (E.2.1 + v1)), (2, .int v2)] [] m0 (lX0_writeTo_2 N v0 v1 n v2 m0) (fun o rr => qJ E yX0_writeTo cX0_writeTo 3 none (fun _ => True) d bc bs 45 [] [] o rr) := by
  intro n
  induction n with
  | zero =>
    intro v2 m0
    exact j_none
  | succ n ih =>
    intro v2 m0
    unfold lX0_writeTo_2
    refine j_iload_n (q := 2) (np := 3) rfl rfl dX0_writeTo_2 rfl ?_
    refine j_aload_n (q := 0) (np := 4) rfl rfl dX0_writeTo_3 rfl ?_
    refine j_gI (np := 7) flX0_15 dX0_writeTo_4 rfl (fun x1 => ?_)
    refine j_icmp_ge (tgt := 45) (np := 10) dX0_writeTo_7 rfl rfl ?_ ?_
    · refine j_sub (lv2 := []) [] rfl ?_
      exact j_exit (fun rr h => h)
    · refine j_aload_n (q := 1) (np := 11) rfl rfl dX0_writeTo_10 rfl ?_
      refine j_aload_n (q := 0) (np := 12) rfl rfl dX0_writeTo_11 rfl ?_
      refine j_gR (np := 15) flX0_9 dX0_writeTo_12 rfl (fun x2 => ?_)
      refine j_iload_n (q := 2) (np := 16) rfl rfl dX0_writeTo_15 rfl ?_
      refine j_iaload (np := 17) dX0_writeTo_16 rfl (fun x3 => ?_)
      refine j_iconst (np := 18) ci_m1 dX0_writeTo_17 rfl ?_
      refine j_icmp_ne (tgt := 26) (np := 21) dX0_writeTo_18 rfl rfl ?_ ?_
      · refine j_bipush (np := 28) cb_97 dX0_writeTo_26 rfl ?_
        refine j_aload_n (q := 0) (np := 29) rfl rfl dX0_writeTo_28 rfl ?_
        refine j_gR (np := 32) flX0_9 dX0_writeTo_29 rfl (fun x4 => ?_)
        refine j_iload_n (q := 2) (np := 33) rfl rfl dX0_writeTo_32 rfl ?_
        refine j_iaload (np := 34) dX0_writeTo_33 rfl (fun x5 => ?_)
        refine j_iadd (np := 35) dX0_writeTo_34 rfl ?_
        refine j_i2c (np := 36) dX0_writeTo_35 rfl ?_
        exact kbX0_writeTo_36 hd ih
      · refine j_bipush (np := 23) cb_67 dX0_writeTo_21 rfl ?_
        refine j_goto (tgt := 36) dX0_writeTo_23 rfl ?_
        exact kbX0_writeTo_36 hd ih
def fX0_writeTo (N : Nat) (v0 : Nat) (v1 : Nat) (m0 : qM) : Option (qM) :=
  (lX0_writeTo_2 N v0 v1 N (0 : Int32) m0).bind fun o1 =>
  some o1
set_option maxRecDepth 100000 in
theorem bX0_writeTo {E : qE} {N d bc bs : Nat} (hd : 1 ≤ d) {v0 : Nat} {v1 : Nat} {m0 : qM} : qB E yX0_writeTo cX0_writeTo 3 none (fun _ => True) d bc bs 0 [(0, .ref (E.2.1 + v0)), (1, .ref (E.2.1 + v1))] [] m0 (fX0_writeTo N v0 v1 m0) (fun b rr => rr = (none, b)) := by
  unfold fX0_writeTo
  refine j_iconst (np := 1) ci_0 dX0_writeTo_0 rfl ?_
  refine j_istore_n (np := 2) (lv2 := [(2, .int (0 : Int32)), (0, .ref (E.2.1 + v0)), (1, .ref (E.2.1 + v1))]) rfl (by decide) dX0_writeTo_1 rfl rfl ?_
  refine j_sub (lv2 := [(0, .ref (E.2.1 + v0)), (1, .ref (E.2.1 + v1)), (2, .int (0 : Int32))]) [1, 2, 0] rfl ?_
  refine j_loop (xp := 45) (lvX := fun o1 => []) (mX := fun o1 => o1) (lbX0_writeTo_2 hd _ _ _) (fun o1 => ?_)
  exact j_vret rfl dX0_writeTo_45 (fun rr h => h)
set_option maxRecDepth 100000 in
theorem wX0_writeTo {E : qE} {N d : Nat} (hd : 1 ≤ d) {v0 : Nat} {v1 : Nat} {m0 : qM} {b : qM} (h : fX0_writeTo N v0 v1 m0 = some b) : qRun E yX0_writeTo cX0_writeTo 3 none d 0 0 [.ref (E.2.1 + v0), .ref (E.2.1 + v1)] m0 (none, b) := q_met pnX0 (Nat.le_of_ble_eq_true rfl) (bX0_writeTo hd b _ h rfl)
theorem dX1_init_0 : decode cX1_init 0 = .ok (.aload_n 0, 1) := by decide +kernel
theorem dX1_init_1 : decode cX1_init 1 = .ok (.invokespecial 3, 3) := by decide +kernel
theorem dX1_init_4 : decode cX1_init 4 = .ok (.aload_n 0, 1) := by decide +kernel
theorem dX1_init_5 : decode cX1_init 5 = .ok (.bipush 60, 2) := by decide +kernel
theorem dX1_init_7 : decode cX1_init 7 = .ok (.anewarray 9, 3) := by decide +kernel
theorem dX1_init_10 : decode cX1_init 10 = .ok (.putfield 11, 3) := by decide +kernel
theorem dX1_init_13 : decode cX1_init 13 = .ok (.aload_n 0, 1) := by decide +kernel
theorem dX1_init_14 : decode cX1_init 14 = .ok (.bipush 60, 2) := by decide +kernel
theorem dX1_init_16 : decode cX1_init 16 = .ok (.newarray .int, 2) := by decide +kernel
theorem dX1_init_18 : decode cX1_init 18 = .ok (.putfield 17, 3) := by decide +kernel
theorem dX1_init_21 : decode cX1_init 21 = .ok (.aload_n 0, 1) := by decide +kernel
theorem dX1_init_22 : decode cX1_init 22 = .ok (.bipush 60, 2) := by decide +kernel
theorem dX1_init_24 : decode cX1_init 24 = .ok (.newarray .int, 2) := by decide +kernel
theorem dX1_init_26 : decode cX1_init 26 = .ok (.putfield 21, 3) := by decide +kernel
theorem dX1_init_29 : decode cX1_init 29 = .ok (.aload_n 0, 1) := by decide +kernel
theorem dX1_init_30 : decode cX1_init 30 = .ok (.bipush 60, 2) := by decide +kernel
theorem dX1_init_32 : decode cX1_init 32 = .ok (.newarray .int, 2) := by decide +kernel
theorem dX1_init_34 : decode cX1_init 34 = .ok (.putfield 24, 3) := by decide +kernel
theorem dX1_init_37 : decode cX1_init 37 = .ok (.aload_n 0, 1) := by decide +kernel
theorem dX1_init_38 : decode cX1_init 38 = .ok (.bipush 60, 2) := by decide +kernel
theorem dX1_init_40 : decode cX1_init 40 = .ok (.newarray .int, 2) := by decide +kernel
theorem dX1_init_42 : decode cX1_init 42 = .ok (.putfield 27, 3) := by decide +kernel
theorem dX1_init_45 : decode cX1_init 45 = .ok (.aload_n 0, 1) := by decide +kernel
theorem dX1_init_46 : decode cX1_init 46 = .ok (.bipush 60, 2) := by decide +kernel
theorem dX1_init_48 : decode cX1_init 48 = .ok (.newarray .long, 2) := by decide +kernel
theorem dX1_init_50 : decode cX1_init 50 = .ok (.putfield 30, 3) := by decide +kernel
theorem dX1_init_53 : decode cX1_init 53 = .ok (.iconst 0, 1) := by decide +kernel
theorem dX1_init_54 : decode cX1_init 54 = .ok (.istore_n 1, 1) := by decide +kernel
theorem dX1_init_55 : decode cX1_init 55 = .ok (.iload_n 1, 1) := by decide +kernel
theorem dX1_init_56 : decode cX1_init 56 = .ok (.bipush 60, 2) := by decide +kernel
theorem dX1_init_58 : decode cX1_init 58 = .ok (.if_icmp .ge 22, 3) := by decide +kernel
theorem dX1_init_61 : decode cX1_init 61 = .ok (.aload_n 0, 1) := by decide +kernel
theorem dX1_init_62 : decode cX1_init 62 = .ok (.getfield 11, 3) := by decide +kernel
theorem dX1_init_65 : decode cX1_init 65 = .ok (.iload_n 1, 1) := by decide +kernel
theorem dX1_init_66 : decode cX1_init 66 = .ok (.new 9, 3) := by decide +kernel
theorem dX1_init_69 : decode cX1_init 69 = .ok (.dup, 1) := by decide +kernel
theorem dX1_init_70 : decode cX1_init 70 = .ok (.invokespecial 34, 3) := by decide +kernel
theorem dX1_init_73 : decode cX1_init 73 = .ok (.aastore, 1) := by decide +kernel
theorem dX1_init_74 : decode cX1_init 74 = .ok (.iinc 1 1, 3) := by decide +kernel
theorem dX1_init_77 : decode cX1_init 77 = .ok (.goto (-22), 3) := by decide +kernel
theorem dX1_init_80 : decode cX1_init 80 = .ok (.return_, 1) := by decide +kernel
def lX1_init_55 (N : Nat) (v0 : Nat) : Nat → Int32 → qM → Option (qM)
  | 0, _, _ => none
  | n + 1, v1, m0 =>
    if (60 : Int32) ≤ v1 then (
    some m0
    ) else (
    (qgR m0 v0 1 0).bind fun x1 =>
    qNew m0 0 0 (fun a2 m3 =>
    (fX0_init N a2 m3).bind fun b4 =>
    (qwR b4 x1 15 v1 a2).bind fun m5 =>
    lX1_init_55 N v0 n (v1 + (1 : Int32)) m5
    )
    )
set_option maxRecDepth 100000 in
theorem lbX1_init_55 {E : qE} {N d bc bs : Nat} (hd : 2 ≤ d) {v0 : Nat} : ∀ (n : Nat) (v1 : Int32) (m0 : qM), qB E yX1_init cX1_init 2 none (fun _ => True) d (bc + n * 2) (bs + n * 42) 55 [(0, .ref (E.2.1 + v0)), (1, .int v1)] [] m0 (lX1_init_55 N v0 n v1 m0) (fun o rr => qJ E yX1_init cX1_init 2 none (fun _ => True) d bc bs 80 [] [] o rr) := by
  intro n
  induction n with
  | zero =>
    intro v1 m0
    exact j_none
  | succ n ih =>
    intro v1 m0
    unfold lX1_init_55
    refine j_bud (b1 := ((bc + n * 2) + 2)) (b2 := ((bs + n * 42) + 42)) (by omega) (by omega) ?_
    refine j_iload_n (q := 1) (np := 56) rfl rfl dX1_init_55 rfl ?_
    refine j_bipush (np := 58) cb_60 dX1_init_56 rfl ?_
    refine j_icmp_ge (tgt := 80) (np := 61) dX1_init_58 rfl rfl ?_ ?_
    · refine j_sub (lv2 := []) [] rfl ?_
      refine j_bud (b1 := bc) (b2 := bs) (by omega) (by omega) ?_
      exact j_exit (fun rr h => h)
    · refine j_aload_n (q := 0) (np := 62) rfl rfl dX1_init_61 rfl ?_
      refine j_gR (np := 65) flX1_11 dX1_init_62 rfl (fun x1 => ?_)
      refine j_iload_n (q := 1) (np := 66) rfl rfl dX1_init_65 rfl ?_
      refine j_bud (b1 := ((bc + n * 2) + 1) + 1) (b2 := ((bs + n * 42) + 39) + 3) (by omega) (by omega) ?_
      refine j_new (bc := ((bc + n * 2) + 1)) (bs := ((bs + n * 42) + 39)) (np := 69) qC0 clX1_9 dX1_init_66 rfl (fun a2 m3 => ?_)
      refine j_dup (np := 70) rfl dX1_init_69 rfl ?_
      refine j_bud (b1 := (bc + n * 2) + 1) (b2 := (bs + n * 42) + 39) (by omega) (by omega) ?_
      refine j_callINw (np := 73) (bc := (bc + n * 2)) (bs := (bs + n * 42)) (cb := 1) (cs := 39) (dd := d - 1) (As := []) (st := [.ref (E.2.1 + a2), .int v1, .ref (E.2.1 + x1)]) (host := RX9) caX0_init (List.mem_of_getElem? (i := 7) rfl) imX0_init rfl (fun b hb => wX0_init (by omega) hb) (by omega) rfl rfl (Nat.le_of_ble_eq_true rfl) dX1_init_70 rfl (fun b4 => ?_)
      refine j_aastore (np := 74) (c0 := 15) (ci := 0) (t := 4) (r0 := (RX0, TX0, 3)) (Or.inl ⟨rfl, rfl⟩) rfl (fun _ => rfl) dX1_init_73 rfl (fun m5 => ?_)
      refine j_iinc (q := 1) (np := 77) (lv2 := [(1, .int (v1 + (1 : Int32))), (0, .ref (E.2.1 + v0))]) rfl (congrArg _ ci_1) (by decide) dX1_init_74 rfl rfl ?_
      refine j_goto (tgt := 55) dX1_init_77 rfl ?_
      refine j_sub (lv2 := [(0, .ref (E.2.1 + v0)), (1, .int (v1 + (1 : Int32)))]) [1, 0] rfl ?_
      exact ih _ _
def fX1_init (N : Nat) (v0 : Nat) (m0 : qM) : Option (qM) :=
  if ¬ (60 : Int32) < 0 ∧ (60 : Int32).toNatClampNeg ≤ 60 then qNew m0 15 (60 : Int32).toNatClampNeg (fun a1 m2 =>
  (qpR m2 v0 1 0 a1).bind fun m3 =>
  if ¬ (60 : Int32) < 0 ∧ (60 : Int32).toNatClampNeg ≤ 60 then qNew m3 12 (60 : Int32).toNatClampNeg (fun a4 m5 =>
  (qpR m5 v0 1 1 a4).bind fun m6 =>
  if ¬ (60 : Int32) < 0 ∧ (60 : Int32).toNatClampNeg ≤ 60 then qNew m6 12 (60 : Int32).toNatClampNeg (fun a7 m8 =>
  (qpR m8 v0 1 2 a7).bind fun m9 =>
  if ¬ (60 : Int32) < 0 ∧ (60 : Int32).toNatClampNeg ≤ 60 then qNew m9 12 (60 : Int32).toNatClampNeg (fun a10 m11 =>
  (qpR m11 v0 1 3 a10).bind fun m12 =>
  if ¬ (60 : Int32) < 0 ∧ (60 : Int32).toNatClampNeg ≤ 60 then qNew m12 12 (60 : Int32).toNatClampNeg (fun a13 m14 =>
  (qpR m14 v0 1 4 a13).bind fun m15 =>
  if ¬ (60 : Int32) < 0 ∧ (60 : Int32).toNatClampNeg ≤ 60 then qNew m15 13 (60 : Int32).toNatClampNeg (fun a16 m17 =>
  (qpR m17 v0 1 5 a16).bind fun m18 =>
  (lX1_init_55 N v0 N (0 : Int32) m18).bind fun o19 =>
  some o19
  ) else none
  ) else none
  ) else none
  ) else none
  ) else none
  ) else none
set_option maxRecDepth 100000 in
theorem bX1_init {E : qE} {N d bc bs : Nat} (hd : 2 ≤ d) {v0 : Nat} {m0 : qM} : qB E yX1_init cX1_init 2 none (fun _ => True) d (bc + (2 * N + 6)) (bs + (42 * N + 360)) 0 [(0, .ref (E.2.1 + v0))] [] m0 (fX1_init N v0 m0) (fun b rr => rr = (none, b)) := by
  unfold fX1_init
  refine j_aload_n (q := 0) (np := 1) rfl rfl dX1_init_0 rfl ?_
  refine j_objInit (np := 4) mlX1_3 imObj cdObj (by omega) (Nat.le_of_ble_eq_true rfl) dX1_init_1 rfl ?_
  refine j_aload_n (q := 0) (np := 5) rfl rfl dX1_init_4 rfl ?_
  refine j_bipush (np := 7) cb_60 dX1_init_5 rfl ?_
  refine j_bud (b1 := (bc + (2 * N + 5)) + 1) (b2 := (bs + (42 * N + 300)) + 60) (by omega) (by omega) ?_
  refine j_anew (bc := (bc + (2 * N + 5))) (bs := (bs + (42 * N + 300))) (c0 := 15) (t := 4) (n0 := 60) (np := 10) (C := "CondensedDetachment$Formula") (Or.inl rfl) (by decide) (fun _ => rfl) (fun E U h => h.2.2.1) clX1_9 dX1_init_7 rfl (fun a1 m2 => ?_)
  refine j_pR (np := 13) flX1_11 (fun _ => rfl) dX1_init_10 rfl (fun m3 => ?_)
  refine j_aload_n (q := 0) (np := 14) rfl rfl dX1_init_13 rfl ?_
  refine j_bipush (np := 16) cb_60 dX1_init_14 rfl ?_
  refine j_bud (b1 := (bc + (2 * N + 4)) + 1) (b2 := (bs + (42 * N + 240)) + 60) (by omega) (by omega) ?_
  refine j_newarr (bc := (bc + (2 * N + 4))) (bs := (bs + (42 * N + 240))) (c0 := 12) (t := 1) (n0 := 60) (np := 18) (atype := .int) (ty := .int) (Or.inr (Or.inl rfl)) rfl rfl (by decide) (by decide) (fun _ => rfl) (fun _ _ => rfl) ac_int dX1_init_16 rfl (fun a4 m5 => ?_)
  refine j_pR (np := 21) flX1_17 (fun _ => rfl) dX1_init_18 rfl (fun m6 => ?_)
  refine j_aload_n (q := 0) (np := 22) rfl rfl dX1_init_21 rfl ?_
  refine j_bipush (np := 24) cb_60 dX1_init_22 rfl ?_
  refine j_bud (b1 := (bc + (2 * N + 3)) + 1) (b2 := (bs + (42 * N + 180)) + 60) (by omega) (by omega) ?_
  refine j_newarr (bc := (bc + (2 * N + 3))) (bs := (bs + (42 * N + 180))) (c0 := 12) (t := 1) (n0 := 60) (np := 26) (atype := .int) (ty := .int) (Or.inr (Or.inl rfl)) rfl rfl (by decide) (by decide) (fun _ => rfl) (fun _ _ => rfl) ac_int dX1_init_24 rfl (fun a7 m8 => ?_)
  refine j_pR (np := 29) flX1_21 (fun _ => rfl) dX1_init_26 rfl (fun m9 => ?_)
  refine j_aload_n (q := 0) (np := 30) rfl rfl dX1_init_29 rfl ?_
  refine j_bipush (np := 32) cb_60 dX1_init_30 rfl ?_
  refine j_bud (b1 := (bc + (2 * N + 2)) + 1) (b2 := (bs + (42 * N + 120)) + 60) (by omega) (by omega) ?_
  refine j_newarr (bc := (bc + (2 * N + 2))) (bs := (bs + (42 * N + 120))) (c0 := 12) (t := 1) (n0 := 60) (np := 34) (atype := .int) (ty := .int) (Or.inr (Or.inl rfl)) rfl rfl (by decide) (by decide) (fun _ => rfl) (fun _ _ => rfl) ac_int dX1_init_32 rfl (fun a10 m11 => ?_)
  refine j_pR (np := 37) flX1_24 (fun _ => rfl) dX1_init_34 rfl (fun m12 => ?_)
  refine j_aload_n (q := 0) (np := 38) rfl rfl dX1_init_37 rfl ?_
  refine j_bipush (np := 40) cb_60 dX1_init_38 rfl ?_
  refine j_bud (b1 := (bc + (2 * N + 1)) + 1) (b2 := (bs + (42 * N + 60)) + 60) (by omega) (by omega) ?_
  refine j_newarr (bc := (bc + (2 * N + 1))) (bs := (bs + (42 * N + 60))) (c0 := 12) (t := 1) (n0 := 60) (np := 42) (atype := .int) (ty := .int) (Or.inr (Or.inl rfl)) rfl rfl (by decide) (by decide) (fun _ => rfl) (fun _ _ => rfl) ac_int dX1_init_40 rfl (fun a13 m14 => ?_)
  refine j_pR (np := 45) flX1_27 (fun _ => rfl) dX1_init_42 rfl (fun m15 => ?_)
  refine j_aload_n (q := 0) (np := 46) rfl rfl dX1_init_45 rfl ?_
  refine j_bipush (np := 48) cb_60 dX1_init_46 rfl ?_
  refine j_bud (b1 := (bc + (2 * N + 0)) + 1) (b2 := (bs + (42 * N + 0)) + 60) (by omega) (by omega) ?_
  refine j_newlong (bc := (bc + (2 * N + 0))) (bs := (bs + (42 * N + 0))) (n0 := 60) (np := 50) (by decide) ac_long dX1_init_48 rfl (fun a16 m17 => ?_)
  refine j_pR (np := 53) flX1_30 (fun _ => rfl) dX1_init_50 rfl (fun m18 => ?_)
  refine j_iconst (np := 54) ci_0 dX1_init_53 rfl ?_
  refine j_istore_n (np := 55) (lv2 := [(1, .int (0 : Int32)), (0, .ref (E.2.1 + v0))]) rfl (by decide) dX1_init_54 rfl rfl ?_
  refine j_sub (lv2 := [(0, .ref (E.2.1 + v0)), (1, .int (0 : Int32))]) [1, 0] rfl ?_
  refine j_bud (b1 := bc + N * 2) (b2 := bs + N * 42) (by omega) (by omega) ?_
  refine j_loop (xp := 80) (lvX := fun o19 => []) (mX := fun o19 => o19) (lbX1_init_55 (bc := bc) (bs := bs) hd _ _ _) (fun o19 => ?_)
  exact j_vret rfl dX1_init_80 (fun rr h => h)
set_option maxRecDepth 100000 in
theorem wX1_init {E : qE} {N d : Nat} (hd : 2 ≤ d) {v0 : Nat} {m0 : qM} {b : qM} (h : fX1_init N v0 m0 = some b) : qRun E yX1_init cX1_init 2 none d (2 * N + 6) (42 * N + 360) [.ref (E.2.1 + v0)] m0 (none, b) := q_met pnX1 (Nat.le_of_ble_eq_true rfl) ((j_bud (by omega) (by omega) (bX1_init (bc := 0) (bs := 0) hd)) b _ h rfl)
theorem dX1_count_0 : decode cX1_count 0 = .ok (.aload_n 0, 1) := by decide +kernel
theorem dX1_count_1 : decode cX1_count 1 = .ok (.getfield 35, 3) := by decide +kernel
theorem dX1_count_4 : decode cX1_count 4 = .ok (.ireturn, 1) := by decide +kernel
def fX1_count (N : Nat) (v0 : Nat) (m0 : qM) : Option (Int32 × qM) :=
  (qgI m0 v0 1 6).bind fun x1 =>
  some (x1, m0)
set_option maxRecDepth 100000 in
theorem bX1_count {E : qE} {N d bc bs : Nat} (hd : 0 ≤ d) {v0 : Nat} {m0 : qM} : qB E yX1_count cX1_count 1 (some .int) (fun _ => True) d bc bs 0 [(0, .ref (E.2.1 + v0))] [] m0 (fX1_count N v0 m0) (fun b rr => rr = (some (.int b.1), b.2)) := by
  unfold fX1_count
  refine j_aload_n (q := 0) (np := 1) rfl rfl dX1_count_0 rfl ?_
  refine j_gI (np := 4) flX1_35 dX1_count_1 rfl (fun x1 => ?_)
  exact j_iret rfl dX1_count_4 (fun rr h => h)
set_option maxRecDepth 100000 in
theorem wX1_count {E : qE} {N d : Nat} (hd : 0 ≤ d) {v0 : Nat} {m0 : qM} {b : Int32 × qM} (h : fX1_count N v0 m0 = some b) : qRun E yX1_count cX1_count 1 (some .int) d 0 0 [.ref (E.2.1 + v0)] m0 (some (.int b.1), b.2) := q_met pnX1 (Nat.le_of_ble_eq_true rfl) (bX1_count hd b _ h rfl)
theorem dX1_isFull_0 : decode cX1_isFull 0 = .ok (.aload_n 0, 1) := by decide +kernel
theorem dX1_isFull_1 : decode cX1_isFull 1 = .ok (.getfield 35, 3) := by decide +kernel
theorem dX1_isFull_4 : decode cX1_isFull 4 = .ok (.bipush 60, 2) := by decide +kernel
theorem dX1_isFull_6 : decode cX1_isFull 6 = .ok (.if_icmp .lt 7, 3) := by decide +kernel
theorem dX1_isFull_9 : decode cX1_isFull 9 = .ok (.iconst 1, 1) := by decide +kernel
theorem dX1_isFull_10 : decode cX1_isFull 10 = .ok (.goto 4, 3) := by decide +kernel
theorem dX1_isFull_13 : decode cX1_isFull 13 = .ok (.iconst 0, 1) := by decide +kernel
theorem dX1_isFull_14 : decode cX1_isFull 14 = .ok (.ireturn, 1) := by decide +kernel
def fX1_isFull (N : Nat) (v0 : Nat) (m0 : qM) : Option (Int32 × qM) :=
  (qgI m0 v0 1 6).bind fun x1 =>
  if x1 < (60 : Int32) then (
  some ((0 : Int32), m0)
  ) else (
  some ((1 : Int32), m0)
  )
set_option maxRecDepth 100000 in
theorem bX1_isFull {E : qE} {N d bc bs : Nat} (hd : 0 ≤ d) {v0 : Nat} {m0 : qM} : qB E yX1_isFull cX1_isFull 1 (some .boolean) (fun _ => True) d bc bs 0 [(0, .ref (E.2.1 + v0))] [] m0 (fX1_isFull N v0 m0) (fun b rr => rr = (some (.int b.1), b.2)) := by
  unfold fX1_isFull
  refine j_aload_n (q := 0) (np := 1) rfl rfl dX1_isFull_0 rfl ?_
  refine j_gI (np := 4) flX1_35 dX1_isFull_1 rfl (fun x1 => ?_)
  refine j_bipush (np := 6) cb_60 dX1_isFull_4 rfl ?_
  refine j_icmp_lt (tgt := 13) (np := 9) dX1_isFull_6 rfl rfl ?_ ?_
  · refine j_iconst (np := 14) ci_0 dX1_isFull_13 rfl ?_
    exact j_zret rfl dX1_isFull_14 (fun rr h => by rw [z0]; exact h)
  · refine j_iconst (np := 10) ci_1 dX1_isFull_9 rfl ?_
    refine j_goto (tgt := 14) dX1_isFull_10 rfl ?_
    exact j_zret rfl dX1_isFull_14 (fun rr h => by rw [z1]; exact h)
set_option maxRecDepth 100000 in
theorem wX1_isFull {E : qE} {N d : Nat} (hd : 0 ≤ d) {v0 : Nat} {m0 : qM} {b : Int32 × qM} (h : fX1_isFull N v0 m0 = some b) : qRun E yX1_isFull cX1_isFull 1 (some .boolean) d 0 0 [.ref (E.2.1 + v0)] m0 (some (.int b.1), b.2) := q_met pnX1 (Nat.le_of_ble_eq_true rfl) (bX1_isFull hd b _ h rfl)
theorem dX1_has_0 : decode cX1_has 0 = .ok (.iload_n 1, 1) := by decide +kernel
theorem dX1_has_1 : decode cX1_has 1 = .ok (.ifCond .lt 15, 3) := by decide +kernel
theorem dX1_has_4 : decode cX1_has 4 = .ok (.iload_n 1, 1) := by decide +kernel
theorem dX1_has_5 : decode cX1_has 5 = .ok (.aload_n 0, 1) := by decide +kernel
theorem dX1_has_6 : decode cX1_has 6 = .ok (.getfield 35, 3) := by decide +kernel
theorem dX1_has_9 : decode cX1_has 9 = .ok (.if_icmp .ge 7, 3) := by decide +kernel
theorem dX1_has_12 : decode cX1_has 12 = .ok (.iconst 1, 1) := by decide +kernel
theorem dX1_has_13 : decode cX1_has 13 = .ok (.goto 4, 3) := by decide +kernel
theorem dX1_has_16 : decode cX1_has 16 = .ok (.iconst 0, 1) := by decide +kernel
theorem dX1_has_17 : decode cX1_has 17 = .ok (.ireturn, 1) := by decide +kernel
def fX1_has (N : Nat) (v0 : Nat) (v1 : Int32) (m0 : qM) : Option (Int32 × qM) :=
  if v1 < 0 then (
  some ((0 : Int32), m0)
  ) else (
  (qgI m0 v0 1 6).bind fun x1 =>
  if x1 ≤ v1 then (
  some ((0 : Int32), m0)
  ) else (
  some ((1 : Int32), m0)
  )
  )
set_option maxRecDepth 100000 in
theorem bX1_has {E : qE} {N d bc bs : Nat} (hd : 0 ≤ d) {v0 : Nat} {v1 : Int32} {m0 : qM} : qB E yX1_has cX1_has 2 (some .boolean) (fun _ => True) d bc bs 0 [(0, .ref (E.2.1 + v0)), (1, .int v1)] [] m0 (fX1_has N v0 v1 m0) (fun b rr => rr = (some (.int b.1), b.2)) := by
  unfold fX1_has
  refine j_iload_n (q := 1) (np := 1) rfl rfl dX1_has_0 rfl ?_
  refine j_if_lt (tgt := 16) (np := 4) dX1_has_1 rfl rfl ?_ ?_
  · refine j_iconst (np := 17) ci_0 dX1_has_16 rfl ?_
    exact j_zret rfl dX1_has_17 (fun rr h => by rw [z0]; exact h)
  · refine j_iload_n (q := 1) (np := 5) rfl rfl dX1_has_4 rfl ?_
    refine j_aload_n (q := 0) (np := 6) rfl rfl dX1_has_5 rfl ?_
    refine j_gI (np := 9) flX1_35 dX1_has_6 rfl (fun x1 => ?_)
    refine j_icmp_ge (tgt := 16) (np := 12) dX1_has_9 rfl rfl ?_ ?_
    · refine j_iconst (np := 17) ci_0 dX1_has_16 rfl ?_
      exact j_zret rfl dX1_has_17 (fun rr h => by rw [z0]; exact h)
    · refine j_iconst (np := 13) ci_1 dX1_has_12 rfl ?_
      refine j_goto (tgt := 17) dX1_has_13 rfl ?_
      exact j_zret rfl dX1_has_17 (fun rr h => by rw [z1]; exact h)
set_option maxRecDepth 100000 in
theorem wX1_has {E : qE} {N d : Nat} (hd : 0 ≤ d) {v0 : Nat} {v1 : Int32} {m0 : qM} {b : Int32 × qM} (h : fX1_has N v0 v1 m0 = some b) : qRun E yX1_has cX1_has 2 (some .boolean) d 0 0 [.ref (E.2.1 + v0), .int v1] m0 (some (.int b.1), b.2) := q_met pnX1 (Nat.le_of_ble_eq_true rfl) (bX1_has hd b _ h rfl)
theorem dX1_at_0 : decode cX1_at 0 = .ok (.aload_n 0, 1) := by decide +kernel
theorem dX1_at_1 : decode cX1_at 1 = .ok (.getfield 11, 3) := by decide +kernel
theorem dX1_at_4 : decode cX1_at 4 = .ok (.iload_n 1, 1) := by decide +kernel
theorem dX1_at_5 : decode cX1_at 5 = .ok (.aaload, 1) := by decide +kernel
theorem dX1_at_6 : decode cX1_at 6 = .ok (.areturn, 1) := by decide +kernel
def fX1_at (N : Nat) (v0 : Nat) (v1 : Int32) (m0 : qM) : Option (Nat × qM) :=
  (qgR m0 v0 1 0).bind fun x1 =>
  (qaR m0 x1 15 v1).bind fun x2 =>
  some (x2, m0)
set_option maxRecDepth 100000 in
theorem bX1_at {E : qE} {N d bc bs : Nat} (hd : 0 ≤ d) {v0 : Nat} {v1 : Int32} {m0 : qM} : qB E yX1_at cX1_at 2 (some (.object "CondensedDetachment$Formula")) (fun _ => True) d bc bs 0 [(0, .ref (E.2.1 + v0)), (1, .int v1)] [] m0 (fX1_at N v0 v1 m0) (fun b rr => rr = (some (.ref (E.2.1 + b.1)), b.2)) := by
  unfold fX1_at
  refine j_aload_n (q := 0) (np := 1) rfl rfl dX1_at_0 rfl ?_
  refine j_gR (np := 4) flX1_11 dX1_at_1 rfl (fun x1 => ?_)
  refine j_iload_n (q := 1) (np := 5) rfl rfl dX1_at_4 rfl ?_
  refine j_aaload (np := 6) (c0 := 15) (t := 4) (C := "CondensedDetachment$Formula") (Or.inl rfl) (fun _ => rfl) dX1_at_5 rfl (fun x2 => ?_)
  exact j_aret rfl dX1_at_6 (fun rr h => h)
set_option maxRecDepth 100000 in
theorem wX1_at {E : qE} {N d : Nat} (hd : 0 ≤ d) {v0 : Nat} {v1 : Int32} {m0 : qM} {b : Nat × qM} (h : fX1_at N v0 v1 m0 = some b) : qRun E yX1_at cX1_at 2 (some (.object "CondensedDetachment$Formula")) d 0 0 [.ref (E.2.1 + v0), .int v1] m0 (some (.ref (E.2.1 + b.1)), b.2) := q_met pnX1 (Nat.le_of_ble_eq_true rfl) (bX1_at hd b _ h rfl)
theorem dX1_isAxiom_0 : decode cX1_isAxiom 0 = .ok (.aload_n 0, 1) := by decide +kernel
theorem dX1_isAxiom_1 : decode cX1_isAxiom 1 = .ok (.getfield 17, 3) := by decide +kernel
theorem dX1_isAxiom_4 : decode cX1_isAxiom 4 = .ok (.iload_n 1, 1) := by decide +kernel
theorem dX1_isAxiom_5 : decode cX1_isAxiom 5 = .ok (.iaload, 1) := by decide +kernel
theorem dX1_isAxiom_6 : decode cX1_isAxiom 6 = .ok (.bipush (-4), 2) := by decide +kernel
theorem dX1_isAxiom_8 : decode cX1_isAxiom 8 = .ok (.if_icmp .ne 7, 3) := by decide +kernel
theorem dX1_isAxiom_11 : decode cX1_isAxiom 11 = .ok (.iconst 1, 1) := by decide +kernel
theorem dX1_isAxiom_12 : decode cX1_isAxiom 12 = .ok (.goto 4, 3) := by decide +kernel
theorem dX1_isAxiom_15 : decode cX1_isAxiom 15 = .ok (.iconst 0, 1) := by decide +kernel
theorem dX1_isAxiom_16 : decode cX1_isAxiom 16 = .ok (.ireturn, 1) := by decide +kernel
def fX1_isAxiom (N : Nat) (v0 : Nat) (v1 : Int32) (m0 : qM) : Option (Int32 × qM) :=
  (qgR m0 v0 1 1).bind fun x1 =>
  (qaI m0 x1 12 v1).bind fun x2 =>
  if x2 = (-4 : Int32) then (
  some ((1 : Int32), m0)
  ) else (
  some ((0 : Int32), m0)
  )
set_option maxRecDepth 100000 in
theorem bX1_isAxiom {E : qE} {N d bc bs : Nat} (hd : 0 ≤ d) {v0 : Nat} {v1 : Int32} {m0 : qM} : qB E yX1_isAxiom cX1_isAxiom 2 (some .boolean) (fun _ => True) d bc bs 0 [(0, .ref (E.2.1 + v0)), (1, .int v1)] [] m0 (fX1_isAxiom N v0 v1 m0) (fun b rr => rr = (some (.int b.1), b.2)) := by
  unfold fX1_isAxiom
  refine j_aload_n (q := 0) (np := 1) rfl rfl dX1_isAxiom_0 rfl ?_
  refine j_gR (np := 4) flX1_17 dX1_isAxiom_1 rfl (fun x1 => ?_)
  refine j_iload_n (q := 1) (np := 5) rfl rfl dX1_isAxiom_4 rfl ?_
  refine j_iaload (np := 6) dX1_isAxiom_5 rfl (fun x2 => ?_)
  refine j_bipush (np := 8) cb_m4 dX1_isAxiom_6 rfl ?_
  refine j_icmp_ne (tgt := 15) (np := 11) dX1_isAxiom_8 rfl rfl ?_ ?_
  · refine j_iconst (np := 16) ci_0 dX1_isAxiom_15 rfl ?_
    exact j_zret rfl dX1_isAxiom_16 (fun rr h => by rw [z0]; exact h)
  · refine j_iconst (np := 12) ci_1 dX1_isAxiom_11 rfl ?_
    refine j_goto (tgt := 16) dX1_isAxiom_12 rfl ?_
    exact j_zret rfl dX1_isAxiom_16 (fun rr h => by rw [z1]; exact h)
set_option maxRecDepth 100000 in
theorem wX1_isAxiom {E : qE} {N d : Nat} (hd : 0 ≤ d) {v0 : Nat} {v1 : Int32} {m0 : qM} {b : Int32 × qM} (h : fX1_isAxiom N v0 v1 m0 = some b) : qRun E yX1_isAxiom cX1_isAxiom 2 (some .boolean) d 0 0 [.ref (E.2.1 + v0), .int v1] m0 (some (.int b.1), b.2) := q_met pnX1 (Nat.le_of_ble_eq_true rfl) (bX1_isAxiom hd b _ h rfl)
theorem dX1_major_0 : decode cX1_major 0 = .ok (.aload_n 0, 1) := by decide +kernel
theorem dX1_major_1 : decode cX1_major 1 = .ok (.getfield 17, 3) := by decide +kernel
theorem dX1_major_4 : decode cX1_major 4 = .ok (.iload_n 1, 1) := by decide +kernel
theorem dX1_major_5 : decode cX1_major 5 = .ok (.iaload, 1) := by decide +kernel
theorem dX1_major_6 : decode cX1_major 6 = .ok (.ireturn, 1) := by decide +kernel
def fX1_major (N : Nat) (v0 : Nat) (v1 : Int32) (m0 : qM) : Option (Int32 × qM) :=
  (qgR m0 v0 1 1).bind fun x1 =>
  (qaI m0 x1 12 v1).bind fun x2 =>
  some (x2, m0)
set_option maxRecDepth 100000 in
theorem bX1_major {E : qE} {N d bc bs : Nat} (hd : 0 ≤ d) {v0 : Nat} {v1 : Int32} {m0 : qM} : qB E yX1_major cX1_major 2 (some .int) (fun _ => True) d bc bs 0 [(0, .ref (E.2.1 + v0)), (1, .int v1)] [] m0 (fX1_major N v0 v1 m0) (fun b rr => rr = (some (.int b.1), b.2)) := by
  unfold fX1_major
  refine j_aload_n (q := 0) (np := 1) rfl rfl dX1_major_0 rfl ?_
  refine j_gR (np := 4) flX1_17 dX1_major_1 rfl (fun x1 => ?_)
  refine j_iload_n (q := 1) (np := 5) rfl rfl dX1_major_4 rfl ?_
  refine j_iaload (np := 6) dX1_major_5 rfl (fun x2 => ?_)
  exact j_iret rfl dX1_major_6 (fun rr h => h)
set_option maxRecDepth 100000 in
theorem wX1_major {E : qE} {N d : Nat} (hd : 0 ≤ d) {v0 : Nat} {v1 : Int32} {m0 : qM} {b : Int32 × qM} (h : fX1_major N v0 v1 m0 = some b) : qRun E yX1_major cX1_major 2 (some .int) d 0 0 [.ref (E.2.1 + v0), .int v1] m0 (some (.int b.1), b.2) := q_met pnX1 (Nat.le_of_ble_eq_true rfl) (bX1_major hd b _ h rfl)
theorem dX1_minor_0 : decode cX1_minor 0 = .ok (.aload_n 0, 1) := by decide +kernel
theorem dX1_minor_1 : decode cX1_minor 1 = .ok (.getfield 21, 3) := by decide +kernel
theorem dX1_minor_4 : decode cX1_minor 4 = .ok (.iload_n 1, 1) := by decide +kernel
theorem dX1_minor_5 : decode cX1_minor 5 = .ok (.iaload, 1) := by decide +kernel
theorem dX1_minor_6 : decode cX1_minor 6 = .ok (.ireturn, 1) := by decide +kernel
def fX1_minor (N : Nat) (v0 : Nat) (v1 : Int32) (m0 : qM) : Option (Int32 × qM) :=
  (qgR m0 v0 1 2).bind fun x1 =>
  (qaI m0 x1 12 v1).bind fun x2 =>
  some (x2, m0)
set_option maxRecDepth 100000 in
theorem bX1_minor {E : qE} {N d bc bs : Nat} (hd : 0 ≤ d) {v0 : Nat} {v1 : Int32} {m0 : qM} : qB E yX1_minor cX1_minor 2 (some .int) (fun _ => True) d bc bs 0 [(0, .ref (E.2.1 + v0)), (1, .int v1)] [] m0 (fX1_minor N v0 v1 m0) (fun b rr => rr = (some (.int b.1), b.2)) := by
  unfold fX1_minor
  refine j_aload_n (q := 0) (np := 1) rfl rfl dX1_minor_0 rfl ?_
  refine j_gR (np := 4) flX1_21 dX1_minor_1 rfl (fun x1 => ?_)
  refine j_iload_n (q := 1) (np := 5) rfl rfl dX1_minor_4 rfl ?_
  refine j_iaload (np := 6) dX1_minor_5 rfl (fun x2 => ?_)
  exact j_iret rfl dX1_minor_6 (fun rr h => h)
set_option maxRecDepth 100000 in
theorem wX1_minor {E : qE} {N d : Nat} (hd : 0 ≤ d) {v0 : Nat} {v1 : Int32} {m0 : qM} {b : Int32 × qM} (h : fX1_minor N v0 v1 m0 = some b) : qRun E yX1_minor cX1_minor 2 (some .int) d 0 0 [.ref (E.2.1 + v0), .int v1] m0 (some (.int b.1), b.2) := q_met pnX1 (Nat.le_of_ble_eq_true rfl) (bX1_minor hd b _ h rfl)
theorem dX1_depth_0 : decode cX1_depth 0 = .ok (.aload_n 0, 1) := by decide +kernel
theorem dX1_depth_1 : decode cX1_depth 1 = .ok (.getfield 24, 3) := by decide +kernel
theorem dX1_depth_4 : decode cX1_depth 4 = .ok (.iload_n 1, 1) := by decide +kernel
theorem dX1_depth_5 : decode cX1_depth 5 = .ok (.iaload, 1) := by decide +kernel
theorem dX1_depth_6 : decode cX1_depth 6 = .ok (.ireturn, 1) := by decide +kernel
def fX1_depth (N : Nat) (v0 : Nat) (v1 : Int32) (m0 : qM) : Option (Int32 × qM) :=
  (qgR m0 v0 1 3).bind fun x1 =>
  (qaI m0 x1 12 v1).bind fun x2 =>
  some (x2, m0)
set_option maxRecDepth 100000 in
theorem bX1_depth {E : qE} {N d bc bs : Nat} (hd : 0 ≤ d) {v0 : Nat} {v1 : Int32} {m0 : qM} : qB E yX1_depth cX1_depth 2 (some .int) (fun _ => True) d bc bs 0 [(0, .ref (E.2.1 + v0)), (1, .int v1)] [] m0 (fX1_depth N v0 v1 m0) (fun b rr => rr = (some (.int b.1), b.2)) := by
  unfold fX1_depth
  refine j_aload_n (q := 0) (np := 1) rfl rfl dX1_depth_0 rfl ?_
  refine j_gR (np := 4) flX1_24 dX1_depth_1 rfl (fun x1 => ?_)
  refine j_iload_n (q := 1) (np := 5) rfl rfl dX1_depth_4 rfl ?_
  refine j_iaload (np := 6) dX1_depth_5 rfl (fun x2 => ?_)
  exact j_iret rfl dX1_depth_6 (fun rr h => h)
set_option maxRecDepth 100000 in
theorem wX1_depth {E : qE} {N d : Nat} (hd : 0 ≤ d) {v0 : Nat} {v1 : Int32} {m0 : qM} {b : Int32 × qM} (h : fX1_depth N v0 v1 m0 = some b) : qRun E yX1_depth cX1_depth 2 (some .int) d 0 0 [.ref (E.2.1 + v0), .int v1] m0 (some (.int b.1), b.2) := q_met pnX1 (Nat.le_of_ble_eq_true rfl) (bX1_depth hd b _ h rfl)
theorem dX1_proofSigns_0 : decode cX1_proofSigns 0 = .ok (.aload_n 0, 1) := by decide +kernel
theorem dX1_proofSigns_1 : decode cX1_proofSigns 1 = .ok (.getfield 30, 3) := by decide +kernel
theorem dX1_proofSigns_4 : decode cX1_proofSigns 4 = .ok (.iload_n 1, 1) := by decide +kernel
theorem dX1_proofSigns_5 : decode cX1_proofSigns 5 = .ok (.laload, 1) := by decide +kernel
theorem dX1_proofSigns_6 : decode cX1_proofSigns 6 = .ok (.lreturn, 1) := by decide +kernel
def fX1_proofSigns (N : Nat) (v0 : Nat) (v1 : Int32) (m0 : qM) : Option (Int64 × qM) :=
  (qgR m0 v0 1 5).bind fun x1 =>
  (qaL m0 x1 v1).bind fun x2 =>
  some (x2, m0)
set_option maxRecDepth 100000 in
theorem bX1_proofSigns {E : qE} {N d bc bs : Nat} (hd : 0 ≤ d) {v0 : Nat} {v1 : Int32} {m0 : qM} : qB E yX1_proofSigns cX1_proofSigns 2 (some .long) (fun _ => True) d bc bs 0 [(0, .ref (E.2.1 + v0)), (1, .int v1)] [] m0 (fX1_proofSigns N v0 v1 m0) (fun b rr => rr = (some (.long b.1), b.2)) := by
  unfold fX1_proofSigns
  refine j_aload_n (q := 0) (np := 1) rfl rfl dX1_proofSigns_0 rfl ?_
  refine j_gR (np := 4) flX1_30 dX1_proofSigns_1 rfl (fun x1 => ?_)
  refine j_iload_n (q := 1) (np := 5) rfl rfl dX1_proofSigns_4 rfl ?_
  refine j_laload (np := 6) dX1_proofSigns_5 rfl (fun x2 => ?_)
  exact j_lret rfl dX1_proofSigns_6 (fun rr h => h)
set_option maxRecDepth 100000 in
theorem wX1_proofSigns {E : qE} {N d : Nat} (hd : 0 ≤ d) {v0 : Nat} {v1 : Int32} {m0 : qM} {b : Int64 × qM} (h : fX1_proofSigns N v0 v1 m0 = some b) : qRun E yX1_proofSigns cX1_proofSigns 2 (some .long) d 0 0 [.ref (E.2.1 + v0), .int v1] m0 (some (.long b.1), b.2) := q_met pnX1 (Nat.le_of_ble_eq_true rfl) (bX1_proofSigns hd b _ h rfl)
theorem dX1_lastAxiom_0 : decode cX1_lastAxiom 0 = .ok (.aload_n 0, 1) := by decide +kernel
theorem dX1_lastAxiom_1 : decode cX1_lastAxiom 1 = .ok (.getfield 27, 3) := by decide +kernel
theorem dX1_lastAxiom_4 : decode cX1_lastAxiom 4 = .ok (.iload_n 1, 1) := by decide +kernel
theorem dX1_lastAxiom_5 : decode cX1_lastAxiom 5 = .ok (.iaload, 1) := by decide +kernel
theorem dX1_lastAxiom_6 : decode cX1_lastAxiom 6 = .ok (.ireturn, 1) := by decide +kernel
def fX1_lastAxiom (N : Nat) (v0 : Nat) (v1 : Int32) (m0 : qM) : Option (Int32 × qM) :=
  (qgR m0 v0 1 4).bind fun x1 =>
  (qaI m0 x1 12 v1).bind fun x2 =>
  some (x2, m0)
set_option maxRecDepth 100000 in
theorem bX1_lastAxiom {E : qE} {N d bc bs : Nat} (hd : 0 ≤ d) {v0 : Nat} {v1 : Int32} {m0 : qM} : qB E yX1_lastAxiom cX1_lastAxiom 2 (some .int) (fun _ => True) d bc bs 0 [(0, .ref (E.2.1 + v0)), (1, .int v1)] [] m0 (fX1_lastAxiom N v0 v1 m0) (fun b rr => rr = (some (.int b.1), b.2)) := by
  unfold fX1_lastAxiom
  refine j_aload_n (q := 0) (np := 1) rfl rfl dX1_lastAxiom_0 rfl ?_
  refine j_gR (np := 4) flX1_27 dX1_lastAxiom_1 rfl (fun x1 => ?_)
  refine j_iload_n (q := 1) (np := 5) rfl rfl dX1_lastAxiom_4 rfl ?_
  refine j_iaload (np := 6) dX1_lastAxiom_5 rfl (fun x2 => ?_)
  exact j_iret rfl dX1_lastAxiom_6 (fun rr h => h)
set_option maxRecDepth 100000 in
theorem wX1_lastAxiom {E : qE} {N d : Nat} (hd : 0 ≤ d) {v0 : Nat} {v1 : Int32} {m0 : qM} {b : Int32 × qM} (h : fX1_lastAxiom N v0 v1 m0 = some b) : qRun E yX1_lastAxiom cX1_lastAxiom 2 (some .int) d 0 0 [.ref (E.2.1 + v0), .int v1] m0 (some (.int b.1), b.2) := q_met pnX1 (Nat.le_of_ble_eq_true rfl) (bX1_lastAxiom hd b _ h rfl)
theorem dX1_shrinkTo_0 : decode cX1_shrinkTo 0 = .ok (.aload_n 0, 1) := by decide +kernel
theorem dX1_shrinkTo_1 : decode cX1_shrinkTo 1 = .ok (.iload_n 1, 1) := by decide +kernel
theorem dX1_shrinkTo_2 : decode cX1_shrinkTo 2 = .ok (.putfield 35, 3) := by decide +kernel
theorem dX1_shrinkTo_5 : decode cX1_shrinkTo 5 = .ok (.return_, 1) := by decide +kernel
def fX1_shrinkTo (N : Nat) (v0 : Nat) (v1 : Int32) (m0 : qM) : Option (qM) :=
  (qpI m0 v0 1 6 v1).bind fun m1 =>
  some m1
set_option maxRecDepth 100000 in
theorem bX1_shrinkTo {E : qE} {N d bc bs : Nat} (hd : 0 ≤ d) {v0 : Nat} {v1 : Int32} {m0 : qM} : qB E yX1_shrinkTo cX1_shrinkTo 2 none (fun _ => True) d bc bs 0 [(0, .ref (E.2.1 + v0)), (1, .int v1)] [] m0 (fX1_shrinkTo N v0 v1 m0) (fun b rr => rr = (none, b)) := by
  unfold fX1_shrinkTo
  refine j_aload_n (q := 0) (np := 1) rfl rfl dX1_shrinkTo_0 rfl ?_
  refine j_iload_n (q := 1) (np := 2) rfl rfl dX1_shrinkTo_1 rfl ?_
  refine j_pI (np := 5) flX1_35 dX1_shrinkTo_2 rfl (fun m1 => ?_)
  exact j_vret rfl dX1_shrinkTo_5 (fun rr h => h)
set_option maxRecDepth 100000 in
theorem wX1_shrinkTo {E : qE} {N d : Nat} (hd : 0 ≤ d) {v0 : Nat} {v1 : Int32} {m0 : qM} {b : qM} (h : fX1_shrinkTo N v0 v1 m0 = some b) : qRun E yX1_shrinkTo cX1_shrinkTo 2 none d 0 0 [.ref (E.2.1 + v0), .int v1] m0 (none, b) := q_met pnX1 (Nat.le_of_ble_eq_true rfl) (bX1_shrinkTo hd b _ h rfl)
theorem dX1_enter_0 : decode cX1_enter 0 = .ok (.iconst 0, 1) := by decide +kernel
theorem dX1_enter_1 : decode cX1_enter 1 = .ok (.istore 4, 2) := by decide +kernel
theorem dX1_enter_3 : decode cX1_enter 3 = .ok (.iload 4, 2) := by decide +kernel
theorem dX1_enter_5 : decode cX1_enter 5 = .ok (.aload_n 0, 1) := by decide +kernel
theorem dX1_enter_6 : decode cX1_enter 6 = .ok (.getfield 35, 3) := by decide +kernel
theorem dX1_enter_9 : decode cX1_enter 9 = .ok (.if_icmp .ge 26, 3) := by decide +kernel
theorem dX1_enter_12 : decode cX1_enter 12 = .ok (.aload_n 0, 1) := by decide +kernel
theorem dX1_enter_13 : decode cX1_enter 13 = .ok (.getfield 11, 3) := by decide +kernel
theorem dX1_enter_16 : decode cX1_enter 16 = .ok (.iload 4, 2) := by decide +kernel
theorem dX1_enter_18 : decode cX1_enter 18 = .ok (.aaload, 1) := by decide +kernel
theorem dX1_enter_19 : decode cX1_enter 19 = .ok (.aload_n 1, 1) := by decide +kernel
theorem dX1_enter_20 : decode cX1_enter 20 = .ok (.invokevirtual 39, 3) := by decide +kernel
theorem dX1_enter_23 : decode cX1_enter 23 = .ok (.ifCond .eq 6, 3) := by decide +kernel
theorem dX1_enter_26 : decode cX1_enter 26 = .ok (.iload 4, 2) := by decide +kernel
theorem dX1_enter_28 : decode cX1_enter 28 = .ok (.ireturn, 1) := by decide +kernel
theorem dX1_enter_29 : decode cX1_enter 29 = .ok (.iinc 4 1, 3) := by decide +kernel
theorem dX1_enter_32 : decode cX1_enter 32 = .ok (.goto (-29), 3) := by decide +kernel
theorem dX1_enter_35 : decode cX1_enter 35 = .ok (.aload_n 0, 1) := by decide +kernel
theorem dX1_enter_36 : decode cX1_enter 36 = .ok (.invokevirtual 43, 3) := by decide +kernel
theorem dX1_enter_39 : decode cX1_enter 39 = .ok (.ifCond .eq 6, 3) := by decide +kernel
theorem dX1_enter_42 : decode cX1_enter 42 = .ok (.bipush (-3), 2) := by decide +kernel
theorem dX1_enter_44 : decode cX1_enter 44 = .ok (.ireturn, 1) := by decide +kernel
theorem dX1_enter_45 : decode cX1_enter 45 = .ok (.aload_n 0, 1) := by decide +kernel
theorem dX1_enter_46 : decode cX1_enter 46 = .ok (.getfield 11, 3) := by decide +kernel
theorem dX1_enter_49 : decode cX1_enter 49 = .ok (.aload_n 0, 1) := by decide +kernel
theorem dX1_enter_50 : decode cX1_enter 50 = .ok (.getfield 35, 3) := by decide +kernel
theorem dX1_enter_53 : decode cX1_enter 53 = .ok (.aaload, 1) := by decide +kernel
theorem dX1_enter_54 : decode cX1_enter 54 = .ok (.aload_n 1, 1) := by decide +kernel
theorem dX1_enter_55 : decode cX1_enter 55 = .ok (.invokevirtual 47, 3) := by decide +kernel
theorem dX1_enter_58 : decode cX1_enter 58 = .ok (.aload_n 0, 1) := by decide +kernel
theorem dX1_enter_59 : decode cX1_enter 59 = .ok (.getfield 17, 3) := by decide +kernel
theorem dX1_enter_62 : decode cX1_enter 62 = .ok (.aload_n 0, 1) := by decide +kernel
theorem dX1_enter_63 : decode cX1_enter 63 = .ok (.getfield 35, 3) := by decide +kernel
theorem dX1_enter_66 : decode cX1_enter 66 = .ok (.iload_n 2, 1) := by decide +kernel
theorem dX1_enter_67 : decode cX1_enter 67 = .ok (.iastore, 1) := by decide +kernel
theorem dX1_enter_68 : decode cX1_enter 68 = .ok (.aload_n 0, 1) := by decide +kernel
theorem dX1_enter_69 : decode cX1_enter 69 = .ok (.getfield 21, 3) := by decide +kernel
theorem dX1_enter_72 : decode cX1_enter 72 = .ok (.aload_n 0, 1) := by decide +kernel
theorem dX1_enter_73 : decode cX1_enter 73 = .ok (.getfield 35, 3) := by decide +kernel
theorem dX1_enter_76 : decode cX1_enter 76 = .ok (.iload_n 3, 1) := by decide +kernel
theorem dX1_enter_77 : decode cX1_enter 77 = .ok (.iastore, 1) := by decide +kernel
theorem dX1_enter_78 : decode cX1_enter 78 = .ok (.aload_n 0, 1) := by decide +kernel
theorem dX1_enter_79 : decode cX1_enter 79 = .ok (.iload_n 2, 1) := by decide +kernel
theorem dX1_enter_80 : decode cX1_enter 80 = .ok (.invokevirtual 51, 3) := by decide +kernel
theorem dX1_enter_83 : decode cX1_enter 83 = .ok (.ifCond .eq 15, 3) := by decide +kernel
theorem dX1_enter_86 : decode cX1_enter 86 = .ok (.aload_n 0, 1) := by decide +kernel
theorem dX1_enter_87 : decode cX1_enter 87 = .ok (.iload_n 3, 1) := by decide +kernel
theorem dX1_enter_88 : decode cX1_enter 88 = .ok (.invokevirtual 51, 3) := by decide +kernel
theorem dX1_enter_91 : decode cX1_enter 91 = .ok (.ifCond .eq 7, 3) := by decide +kernel
theorem dX1_enter_94 : decode cX1_enter 94 = .ok (.iconst 1, 1) := by decide +kernel
theorem dX1_enter_95 : decode cX1_enter 95 = .ok (.goto 4, 3) := by decide +kernel
theorem dX1_enter_98 : decode cX1_enter 98 = .ok (.iconst 0, 1) := by decide +kernel
theorem dX1_enter_99 : decode cX1_enter 99 = .ok (.istore 4, 2) := by decide +kernel
theorem dX1_enter_101 : decode cX1_enter 101 = .ok (.aload_n 0, 1) := by decide +kernel
theorem dX1_enter_102 : decode cX1_enter 102 = .ok (.getfield 24, 3) := by decide +kernel
theorem dX1_enter_105 : decode cX1_enter 105 = .ok (.aload_n 0, 1) := by decide +kernel
theorem dX1_enter_106 : decode cX1_enter 106 = .ok (.getfield 35, 3) := by decide +kernel
theorem dX1_enter_109 : decode cX1_enter 109 = .ok (.iload 4, 2) := by decide +kernel
theorem dX1_enter_111 : decode cX1_enter 111 = .ok (.ifCond .eq 23, 3) := by decide +kernel
theorem dX1_enter_114 : decode cX1_enter 114 = .ok (.iconst 1, 1) := by decide +kernel
theorem dX1_enter_115 : decode cX1_enter 115 = .ok (.aload_n 0, 1) := by decide +kernel
theorem dX1_enter_116 : decode cX1_enter 116 = .ok (.getfield 24, 3) := by decide +kernel
theorem dX1_enter_119 : decode cX1_enter 119 = .ok (.iload_n 2, 1) := by decide +kernel
theorem dX1_enter_120 : decode cX1_enter 120 = .ok (.iaload, 1) := by decide +kernel
theorem dX1_enter_121 : decode cX1_enter 121 = .ok (.aload_n 0, 1) := by decide +kernel
theorem dX1_enter_122 : decode cX1_enter 122 = .ok (.getfield 24, 3) := by decide +kernel
theorem dX1_enter_125 : decode cX1_enter 125 = .ok (.iload_n 3, 1) := by decide +kernel
theorem dX1_enter_126 : decode cX1_enter 126 = .ok (.iaload, 1) := by decide +kernel
theorem dX1_enter_127 : decode cX1_enter 127 = .ok (.invokestatic 55, 3) := by decide +kernel
theorem dX1_enter_130 : decode cX1_enter 130 = .ok (.iadd, 1) := by decide +kernel
theorem dX1_enter_131 : decode cX1_enter 131 = .ok (.goto 4, 3) := by decide +kernel
theorem dX1_enter_134 : decode cX1_enter 134 = .ok (.iconst 0, 1) := by decide +kernel
theorem dX1_enter_135 : decode cX1_enter 135 = .ok (.iastore, 1) := by decide +kernel
theorem dX1_enter_136 : decode cX1_enter 136 = .ok (.aload_n 0, 1) := by decide +kernel
theorem dX1_enter_137 : decode cX1_enter 137 = .ok (.getfield 30, 3) := by decide +kernel
theorem dX1_enter_140 : decode cX1_enter 140 = .ok (.aload_n 0, 1) := by decide +kernel
theorem dX1_enter_141 : decode cX1_enter 141 = .ok (.getfield 35, 3) := by decide +kernel
theorem dX1_enter_144 : decode cX1_enter 144 = .ok (.iload 4, 2) := by decide +kernel
theorem dX1_enter_146 : decode cX1_enter 146 = .ok (.ifCond .eq 21, 3) := by decide +kernel
theorem dX1_enter_149 : decode cX1_enter 149 = .ok (.lconst 1, 1) := by decide +kernel
theorem dX1_enter_150 : decode cX1_enter 150 = .ok (.aload_n 0, 1) := by decide +kernel
theorem dX1_enter_151 : decode cX1_enter 151 = .ok (.getfield 30, 3) := by decide +kernel
theorem dX1_enter_154 : decode cX1_enter 154 = .ok (.iload_n 2, 1) := by decide +kernel
theorem dX1_enter_155 : decode cX1_enter 155 = .ok (.laload, 1) := by decide +kernel
theorem dX1_enter_156 : decode cX1_enter 156 = .ok (.ladd, 1) := by decide +kernel
theorem dX1_enter_157 : decode cX1_enter 157 = .ok (.aload_n 0, 1) := by decide +kernel
theorem dX1_enter_158 : decode cX1_enter 158 = .ok (.getfield 30, 3) := by decide +kernel
theorem dX1_enter_161 : decode cX1_enter 161 = .ok (.iload_n 3, 1) := by decide +kernel
theorem dX1_enter_162 : decode cX1_enter 162 = .ok (.laload, 1) := by decide +kernel
theorem dX1_enter_163 : decode cX1_enter 163 = .ok (.ladd, 1) := by decide +kernel
theorem dX1_enter_164 : decode cX1_enter 164 = .ok (.goto 4, 3) := by decide +kernel
theorem dX1_enter_167 : decode cX1_enter 167 = .ok (.lconst 0, 1) := by decide +kernel
theorem dX1_enter_168 : decode cX1_enter 168 = .ok (.lastore, 1) := by decide +kernel
theorem dX1_enter_169 : decode cX1_enter 169 = .ok (.aload_n 0, 1) := by decide +kernel
theorem dX1_enter_170 : decode cX1_enter 170 = .ok (.getfield 27, 3) := by decide +kernel
theorem dX1_enter_173 : decode cX1_enter 173 = .ok (.aload_n 0, 1) := by decide +kernel
theorem dX1_enter_174 : decode cX1_enter 174 = .ok (.getfield 35, 3) := by decide +kernel
theorem dX1_enter_177 : decode cX1_enter 177 = .ok (.iload 4, 2) := by decide +kernel
theorem dX1_enter_179 : decode cX1_enter 179 = .ok (.ifCond .eq 21, 3) := by decide +kernel
theorem dX1_enter_182 : decode cX1_enter 182 = .ok (.aload_n 0, 1) := by decide +kernel
theorem dX1_enter_183 : decode cX1_enter 183 = .ok (.getfield 27, 3) := by decide +kernel
theorem dX1_enter_186 : decode cX1_enter 186 = .ok (.iload_n 2, 1) := by decide +kernel
theorem dX1_enter_187 : decode cX1_enter 187 = .ok (.iaload, 1) := by decide +kernel
theorem dX1_enter_188 : decode cX1_enter 188 = .ok (.aload_n 0, 1) := by decide +kernel
theorem dX1_enter_189 : decode cX1_enter 189 = .ok (.getfield 27, 3) := by decide +kernel
theorem dX1_enter_192 : decode cX1_enter 192 = .ok (.iload_n 3, 1) := by decide +kernel
theorem dX1_enter_193 : decode cX1_enter 193 = .ok (.iaload, 1) := by decide +kernel
theorem dX1_enter_194 : decode cX1_enter 194 = .ok (.invokestatic 55, 3) := by decide +kernel
theorem dX1_enter_197 : decode cX1_enter 197 = .ok (.goto 7, 3) := by decide +kernel
theorem dX1_enter_200 : decode cX1_enter 200 = .ok (.aload_n 0, 1) := by decide +kernel
theorem dX1_enter_201 : decode cX1_enter 201 = .ok (.getfield 35, 3) := by decide +kernel
theorem dX1_enter_204 : decode cX1_enter 204 = .ok (.iastore, 1) := by decide +kernel
theorem dX1_enter_205 : decode cX1_enter 205 = .ok (.aload_n 0, 1) := by decide +kernel
theorem dX1_enter_206 : decode cX1_enter 206 = .ok (.dup, 1) := by decide +kernel
theorem dX1_enter_207 : decode cX1_enter 207 = .ok (.getfield 35, 3) := by decide +kernel
theorem dX1_enter_210 : decode cX1_enter 210 = .ok (.iconst 1, 1) := by decide +kernel
theorem dX1_enter_211 : decode cX1_enter 211 = .ok (.iadd, 1) := by decide +kernel
theorem dX1_enter_212 : decode cX1_enter 212 = .ok (.putfield 35, 3) := by decide +kernel
theorem dX1_enter_215 : decode cX1_enter 215 = .ok (.aload_n 0, 1) := by decide +kernel
theorem dX1_enter_216 : decode cX1_enter 216 = .ok (.getfield 35, 3) := by decide +kernel
theorem dX1_enter_219 : decode cX1_enter 219 = .ok (.iconst 1, 1) := by decide +kernel
theorem dX1_enter_220 : decode cX1_enter 220 = .ok (.isub, 1) := by decide +kernel
theorem dX1_enter_221 : decode cX1_enter 221 = .ok (.ireturn, 1) := by decide +kernel
def lX1_enter_3 (N : Nat) (v0 : Nat) (v1 : Nat) (v2 : Int32) (v3 : Int32) : Nat → Int32 → qM → Option ((qM) ⊕ (Int32 × qM))
  | 0, _, _ => none
  | n + 1, v4, m0 =>
    (qgI m0 v0 1 6).bind fun x1 =>
    if x1 ≤ v4 then (
    some (.inl m0)
    ) else (
    (qgR m0 v0 1 0).bind fun x2 =>
    (qaR m0 x2 15 v4).bind fun x3 =>
    (qChk m0 x3 0 (fX0_sameAs N x3 v1 m0)).bind fun b4 =>
    if b4.1 = 0 then (
    lX1_enter_3 N v0 v1 v2 v3 n (v4 + (1 : Int32)) b4.2
    ) else (
    some (.inr (v4, b4.2))
    )
    )
set_option maxRecDepth 100000 in
theorem lbX1_enter_3 {E : qE} {N d bc bs : Nat} (hd : 2 ≤ d) {v0 : Nat} {v1 : Nat} {v2 : Int32} {v3 : Int32} : ∀ (n : Nat) (v4 : Int32) (m0 : qM), qB E yX1_enter cX1_enter 5 (some .int) (fun _ => True) d bc bs 3 [(0, .ref (E.2.1 + v0)), (1, .ref (E.2.1 + v1)), (2, .int v2), (3, .int v3), (4, .int v4)] [] m0 (lX1_enter_3 N v0 v1 v2 v3 n v4 m0) (qGL (fun o rr => qJ E yX1_enter cX1_enter 5 (some .int) (fun _ => True) d bc bs 35 [(0, .ref (E.2.1 + v0)), (1, .ref (E.2.1 + v1)), (2, .int v2), (3, .int v3)] [] o rr) (fun r => (some (.int r.1), r.2))) := by
  intro n
  induction n with
  | zero =>
    intro v4 m0
    exact j_none
  | succ n ih =>
    intro v4 m0
    unfold lX1_enter_3
    refine j_iload (q := 4) (np := 5) rfl dX1_enter_3 rfl ?_
    refine j_aload_n (q := 0) (np := 6) rfl rfl dX1_enter_5 rfl ?_
    refine j_gI (np := 9) flX1_35 dX1_enter_6 rfl (fun x1 => ?_)
    refine j_icmp_ge (tgt := 35) (np := 12) dX1_enter_9 rfl rfl ?_ ?_
    · refine j_sub (lv2 := [(0, .ref (E.2.1 + v0)), (1, .ref (E.2.1 + v1)), (2, .int v2), (3, .int v3)]) [0, 1, 2, 3] rfl ?_
      exact j_exit (fun rr h => h)
    · refine j_aload_n (q := 0) (np := 13) rfl rfl dX1_enter_12 rfl ?_
      refine j_gR (np := 16) flX1_11 dX1_enter_13 rfl (fun x2 => ?_)
      refine j_iload (q := 4) (np := 18) rfl dX1_enter_16 rfl ?_
      refine j_aaload (np := 19) (c0 := 15) (t := 4) (C := "CondensedDetachment$Formula") (Or.inl rfl) (fun _ => rfl) dX1_enter_18 rfl (fun x3 => ?_)
      refine j_aload_n (q := 1) (np := 20) rfl rfl dX1_enter_19 rfl ?_
      refine j_callVi (ci := 0) (np := 23) (bc := bc) (bs := bs) (cb := 0) (cs := 0) (dd := d - 1) (As := [.ref (E.2.1 + v1)]) (st := []) caX0_sameAs mlX1_39 imX0_sameAs seX0_sameAs rfl rfl (by decide) (fun b hb => wX0_sameAs (by omega) hb) (by omega) rfl rfl (Nat.le_of_ble_eq_true rfl) dX1_enter_20 rfl (fun b4 => ?_)
      refine j_if_eq (tgt := 29) (np := 26) dX1_enter_23 rfl rfl ?_ ?_
      · refine j_iinc (q := 4) (np := 32) (lv2 := [(4, .int (v4 + (1 : Int32))), (0, .ref (E.2.1 + v0)), (1, .ref (E.2.1 + v1)), (2, .int v2), (3, .int v3)]) rfl (congrArg _ ci_1) (by decide) dX1_enter_29 rfl rfl ?_
        refine j_goto (tgt := 3) dX1_enter_32 rfl ?_
        refine j_sub (lv2 := [(0, .ref (E.2.1 + v0)), (1, .ref (E.2.1 + v1)), (2, .int v2), (3, .int v3), (4, .int (v4 + (1 : Int32)))]) [1, 2, 3, 4, 0] rfl ?_
        exact ih _ _
      · refine j_iload (q := 4) (np := 28) rfl dX1_enter_26 rfl ?_
        exact j_iret rfl dX1_enter_28 (fun rr h => h)
def kX1_enter_204 (N : Nat) (v0 : Nat) (s0 : Nat) (s1 : Int32) (s2 : Int32) (m0 : qM) : Option (Int32 × qM) :=
  (qwI m0 s0 12 s1 s2).bind fun m1 =>
  (qgI m1 v0 1 6).bind fun x2 =>
  (qpI m1 v0 1 6 (x2 + (1 : Int32))).bind fun m3 =>
  (qgI m3 v0 1 6).bind fun x4 =>
  some (x4 - (1 : Int32), m3)
set_option maxRecDepth 100000 in
theorem kbX1_enter_204 {E : qE} {N d bc bs : Nat} (hd : 2 ≤ d) {v0 : Nat} {s0 : Nat} {s1 : Int32} {s2 : Int32} {m0 : qM} : qB E yX1_enter cX1_enter 5 (some .int) (fun _ => True) d bc bs 204 [(0, .ref (E.2.1 + v0))] [.int s2, .int s1, .ref (E.2.1 + s0)] m0 (kX1_enter_204 N v0 s0 s1 s2 m0) (fun b rr => rr = (some (.int b.1), b.2)) := by
  unfold kX1_enter_204
  refine j_iastore (np := 205) dX1_enter_204 rfl (fun m1 => ?_)
  refine j_aload_n (q := 0) (np := 206) rfl rfl dX1_enter_205 rfl ?_
  refine j_dup (np := 207) rfl dX1_enter_206 rfl ?_
  refine j_gI (np := 210) flX1_35 dX1_enter_207 rfl (fun x2 => ?_)
  refine j_iconst (np := 211) ci_1 dX1_enter_210 rfl ?_
  refine j_iadd (np := 212) dX1_enter_211 rfl ?_
  refine j_pI (np := 215) flX1_35 dX1_enter_212 rfl (fun m3 => ?_)
  refine j_aload_n (q := 0) (np := 216) rfl rfl dX1_enter_215 rfl ?_
  refine j_gI (np := 219) flX1_35 dX1_enter_216 rfl (fun x4 => ?_)
  refine j_iconst (np := 220) ci_1 dX1_enter_219 rfl ?_
  refine j_isub (np := 221) dX1_enter_220 rfl ?_
  exact j_iret rfl dX1_enter_221 (fun rr h => h)
def kX1_enter_168 (N : Nat) (v0 : Nat) (v2 : Int32) (v3 : Int32) (v4 : Int32) (s0 : Nat) (s1 : Int32) (s2 : Int64) (m0 : qM) : Option (Int32 × qM) :=
  (qwL m0 s0 s1 s2).bind fun m1 =>
  (qgR m1 v0 1 4).bind fun x2 =>
  (qgI m1 v0 1 6).bind fun x3 =>
  if v4 = 0 then (
  (qgI m1 v0 1 6).bind fun x4 =>
  kX1_enter_204 N v0 x2 x3 x4 m1
  ) else (
  (qgR m1 v0 1 4).bind fun x5 =>
  (qaI m1 x5 12 v2).bind fun x6 =>
  (qgR m1 v0 1 4).bind fun x7 =>
  (qaI m1 x7 12 v3).bind fun x8 =>
  kX1_enter_204 N v0 x2 x3 (if x6 < x8 then x8 else x6) m1
  )
set_option maxRecDepth 100000 in
theorem kbX1_enter_168 {E : qE} {N d bc bs : Nat} (hd : 2 ≤ d) {v0 : Nat} {v2 : Int32} {v3 : Int32} {v4 : Int32} {s0 : Nat} {s1 : Int32} {s2 : Int64} {m0 : qM} : qB E yX1_enter cX1_enter 5 (some .int) (fun _ => True) d bc bs 168 [(0, .ref (E.2.1 + v0)), (2, .int v2), (3, .int v3), (4, .int v4)] [.long s2, .int s1, .ref (E.2.1 + s0)] m0 (kX1_enter_168 N v0 v2 v3 v4 s0 s1 s2 m0) (fun b rr => rr = (some (.int b.1), b.2)) := by
  unfold kX1_enter_168
  refine j_lastore (np := 169) dX1_enter_168 rfl (fun m1 => ?_)
  refine j_aload_n (q := 0) (np := 170) rfl rfl dX1_enter_169 rfl ?_
  refine j_gR (np := 173) flX1_27 dX1_enter_170 rfl (fun x2 => ?_)
  refine j_aload_n (q := 0) (np := 174) rfl rfl dX1_enter_173 rfl ?_
  refine j_gI (np := 177) flX1_35 dX1_enter_174 rfl (fun x3 => ?_)
  refine j_iload (q := 3) (np := 179) rfl dX1_enter_177 rfl ?_
  refine j_if_eq (tgt := 200) (np := 182) dX1_enter_179 rfl rfl ?_ ?_
  · refine j_aload_n (q := 0) (np := 201) rfl rfl dX1_enter_200 rfl ?_
    refine j_gI (np := 204) flX1_35 dX1_enter_201 rfl (fun x4 => ?_)
    refine j_sub (lv2 := [(0, .ref (E.2.1 + v0))]) [0] rfl ?_
    exact kbX1_enter_204 hd
  · refine j_aload_n (q := 0) (np := 183) rfl rfl dX1_enter_182 rfl ?_
    refine j_gR (np := 186) flX1_27 dX1_enter_183 rfl (fun x5 => ?_)
    refine j_iload_n (q := 1) (np := 187) rfl rfl dX1_enter_186 rfl ?_
    refine j_iaload (np := 188) dX1_enter_187 rfl (fun x6 => ?_)
    refine j_aload_n (q := 0) (np := 189) rfl rfl dX1_enter_188 rfl ?_
    refine j_gR (np := 192) flX1_27 dX1_enter_189 rfl (fun x7 => ?_)
    refine j_iload_n (q := 2) (np := 193) rfl rfl dX1_enter_192 rfl ?_
    refine j_iaload (np := 194) dX1_enter_193 rfl (fun x8 => ?_)
    refine j_max (np := 197) mlX1_55 stmax inMath cdmax (by omega) (Nat.le_of_ble_eq_true rfl) dX1_enter_194 rfl ?_
    refine j_goto (tgt := 204) dX1_enter_197 rfl ?_
    refine j_sub (lv2 := [(0, .ref (E.2.1 + v0))]) [0] rfl ?_
    exact kbX1_enter_204 hd
def kX1_enter_135 (N : Nat) (v0 : Nat) (v2 : Int32) (v3 : Int32) (v4 : Int32) (s0 : Nat) (s1 : Int32) (s2 : Int32) (m0 : qM) : Option (Int32 × qM) :=
  (qwI m0 s0 12 s1 s2).bind fun m1 =>
  (qgR m1 v0 1 5).bind fun x2 =>
  (qgI m1 v0 1 6).bind fun x3 =>
  if v4 = 0 then (
  kX1_enter_168 N v0 v2 v3 v4 x2 x3 (0 : Int64) m1
  ) else (
  (qgR m1 v0 1 5).bind fun x4 =>
  (qaL m1 x4 v2).bind fun x5 =>
  (qgR m1 v0 1 5).bind fun x6 =>
  (qaL m1 x6 v3).bind fun x7 =>
  kX1_enter_168 N v0 v2 v3 v4 x2 x3 (((1 : Int64) + x5) + x7) m1
  )
set_option maxRecDepth 100000 in
theorem kbX1_enter_135 {E : qE} {N d bc bs : Nat} (hd : 2 ≤ d) {v0 : Nat} {v2 : Int32} {v3 : Int32} {v4 : Int32} {s0 : Nat} {s1 : Int32} {s2 : Int32} {m0 : qM} : qB E yX1_enter cX1_enter 5 (some .int) (fun _ => True) d bc bs 135 [(0, .ref (E.2.1 + v0)), (2, .int v2), (3, .int v3), (4, .int v4)] [.int s2, .int s1, .ref (E.2.1 + s0)] m0 (kX1_enter_135 N v0 v2 v3 v4 s0 s1 s2 m0) (fun b rr => rr = (some (.int b.1), b.2)) := by
  unfold kX1_enter_135
  refine j_iastore (np := 136) dX1_enter_135 rfl (fun m1 => ?_)
  refine j_aload_n (q := 0) (np := 137) rfl rfl dX1_enter_136 rfl ?_
  refine j_gR (np := 140) flX1_30 dX1_enter_137 rfl (fun x2 => ?_)
  refine j_aload_n (q := 0) (np := 141) rfl rfl dX1_enter_140 rfl ?_
  refine j_gI (np := 144) flX1_35 dX1_enter_141 rfl (fun x3 => ?_)
  refine j_iload (q := 3) (np := 146) rfl dX1_enter_144 rfl ?_
  refine j_if_eq (tgt := 167) (np := 149) dX1_enter_146 rfl rfl ?_ ?_
  · refine j_lconst (np := 168) (v := 0) rfl dX1_enter_167 rfl ?_
    exact kbX1_enter_168 hd
  · refine j_lconst (np := 150) (v := 1) rfl dX1_enter_149 rfl ?_
    refine j_aload_n (q := 0) (np := 151) rfl rfl dX1_enter_150 rfl ?_
    refine j_gR (np := 154) flX1_30 dX1_enter_151 rfl (fun x4 => ?_)
    refine j_iload_n (q := 1) (np := 155) rfl rfl dX1_enter_154 rfl ?_
    refine j_laload (np := 156) dX1_enter_155 rfl (fun x5 => ?_)
    refine j_ladd (np := 157) dX1_enter_156 rfl ?_
    refine j_aload_n (q := 0) (np := 158) rfl rfl dX1_enter_157 rfl ?_
    refine j_gR (np := 161) flX1_30 dX1_enter_158 rfl (fun x6 => ?_)
    refine j_iload_n (q := 2) (np := 162) rfl rfl dX1_enter_161 rfl ?_
    refine j_laload (np := 163) dX1_enter_162 rfl (fun x7 => ?_)
    refine j_ladd (np := 164) dX1_enter_163 rfl ?_
    refine j_goto (tgt := 168) dX1_enter_164 rfl ?_
    exact kbX1_enter_168 hd
def kX1_enter_99 (N : Nat) (v0 : Nat) (v2 : Int32) (v3 : Int32) (s0 : Int32) (m0 : qM) : Option (Int32 × qM) :=
  (qgR m0 v0 1 3).bind fun x1 =>
  (qgI m0 v0 1 6).bind fun x2 =>
  if s0 = 0 then (
  kX1_enter_135 N v0 v2 v3 s0 x1 x2 (0 : Int32) m0
  ) else (
  (qgR m0 v0 1 3).bind fun x3 =>
  (qaI m0 x3 12 v2).bind fun x4 =>
  (qgR m0 v0 1 3).bind fun x5 =>
  (qaI m0 x5 12 v3).bind fun x6 =>
  kX1_enter_135 N v0 v2 v3 s0 x1 x2 ((1 : Int32) + (if x4 < x6 then x6 else x4)) m0
  )
set_option maxRecDepth 100000 in
theorem kbX1_enter_99 {E : qE} {N d bc bs : Nat} (hd : 2 ≤ d) {v0 : Nat} {v2 : Int32} {v3 : Int32} {s0 : Int32} {m0 : qM} : qB E yX1_enter cX1_enter 5 (some .int) (fun _ => True) d bc bs 99 [(0, .ref (E.2.1 + v0)), (2, .int v2), (3, .int v3)] [.int s0] m0 (kX1_enter_99 N v0 v2 v3 s0 m0) (fun b rr => rr = (some (.int b.1), b.2)) := by
  unfold kX1_enter_99
  refine j_istore (np := 101) (lv2 := [(4, .int s0), (0, .ref (E.2.1 + v0)), (2, .int v2), (3, .int v3)]) (by decide) dX1_enter_99 rfl rfl ?_
  refine j_aload_n (q := 1) (np := 102) rfl rfl dX1_enter_101 rfl ?_
  refine j_gR (np := 105) flX1_24 dX1_enter_102 rfl (fun x1 => ?_)
  refine j_aload_n (q := 1) (np := 106) rfl rfl dX1_enter_105 rfl ?_
  refine j_gI (np := 109) flX1_35 dX1_enter_106 rfl (fun x2 => ?_)
  refine j_iload (q := 0) (np := 111) rfl dX1_enter_109 rfl ?_
  refine j_if_eq (tgt := 134) (np := 114) dX1_enter_111 rfl rfl ?_ ?_
  · refine j_iconst (np := 135) ci_0 dX1_enter_134 rfl ?_
    refine j_sub (lv2 := [(0, .ref (E.2.1 + v0)), (2, .int v2), (3, .int v3), (4, .int s0)]) [1, 2, 3, 0] rfl ?_
    exact kbX1_enter_135 hd
  · refine j_iconst (np := 115) ci_1 dX1_enter_114 rfl ?_
    refine j_aload_n (q := 1) (np := 116) rfl rfl dX1_enter_115 rfl ?_
    refine j_gR (np := 119) flX1_24 dX1_enter_116 rfl (fun x3 => ?_)
    refine j_iload_n (q := 2) (np := 120) rfl rfl dX1_enter_119 rfl ?_
    refine j_iaload (np := 121) dX1_enter_120 rfl (fun x4 => ?_)
    refine j_aload_n (q := 1) (np := 122) rfl rfl dX1_enter_121 rfl ?_
    refine j_gR (np := 125) flX1_24 dX1_enter_122 rfl (fun x5 => ?_)
    refine j_iload_n (q := 3) (np := 126) rfl rfl dX1_enter_125 rfl ?_
    refine j_iaload (np := 127) dX1_enter_126 rfl (fun x6 => ?_)
    refine j_max (np := 130) mlX1_55 stmax inMath cdmax (by omega) (Nat.le_of_ble_eq_true rfl) dX1_enter_127 rfl ?_
    refine j_iadd (np := 131) dX1_enter_130 rfl ?_
    refine j_goto (tgt := 135) dX1_enter_131 rfl ?_
    refine j_sub (lv2 := [(0, .ref (E.2.1 + v0)), (2, .int v2), (3, .int v3), (4, .int s0)]) [1, 2, 3, 0] rfl ?_
    exact kbX1_enter_135 hd
def kX1_enter_98 (N : Nat) (v0 : Nat) (v2 : Int32) (v3 : Int32)  (m0 : qM) : Option (Int32 × qM) :=
  kX1_enter_99 N v0 v2 v3 (0 : Int32) m0
set_option maxRecDepth 100000 in
theorem kbX1_enter_98 {E : qE} {N d bc bs : Nat} (hd : 2 ≤ d) {v0 : Nat} {v2 : Int32} {v3 : Int32}  {m0 : qM} : qB E yX1_enter cX1_enter 5 (some .int) (fun _ => True) d bc bs 98 [(0, .ref (E.2.1 + v0)), (2, .int v2), (3, .int v3)] [] m0 (kX1_enter_98 N v0 v2 v3 m0) (fun b rr => rr = (some (.int b.1), b.2)) := by
  unfold kX1_enter_98
  refine j_iconst (np := 99) ci_0 dX1_enter_98 rfl ?_
  exact kbX1_enter_99 hd
def fX1_enter (N : Nat) (v0 : Nat) (v1 : Nat) (v2 : Int32) (v3 : Int32) (m0 : qM) : Option (Int32 × qM) :=
  qTh (lX1_enter_3 N v0 v1 v2 v3 N (0 : Int32) m0) (fun o1 =>
  (qChk o1 v0 1 (fX1_isFull N v0 o1)).bind fun b2 =>
  if b2.1 = 0 then (
  (qgR b2.2 v0 1 0).bind fun x3 =>
  (qgI b2.2 v0 1 6).bind fun x4 =>
  (qaR b2.2 x3 15 x4).bind fun x5 =>
  (qChk b2.2 x5 0 (fX0_copyFrom N x5 v1 b2.2)).bind fun b6 =>
  (qgR b6 v0 1 1).bind fun x7 =>
  (qgI b6 v0 1 6).bind fun x8 =>
  (qwI b6 x7 12 x8 v2).bind fun m9 =>
  (qgR m9 v0 1 2).bind fun x10 =>
  (qgI m9 v0 1 6).bind fun x11 =>
  (qwI m9 x10 12 x11 v3).bind fun m12 =>
  (qChk m12 v0 1 (fX1_has N v0 v2 m12)).bind fun b13 =>
  if b13.1 = 0 then (
  kX1_enter_98 N v0 v2 v3 b13.2
  ) else (
  (qChk b13.2 v0 1 (fX1_has N v0 v3 b13.2)).bind fun b14 =>
  if b14.1 = 0 then (
  kX1_enter_98 N v0 v2 v3 b14.2
  ) else (
  kX1_enter_99 N v0 v2 v3 (1 : Int32) b14.2
  )
  )
  ) else (
  some ((-3 : Int32), b2.2)
  )
  ) (fun r => r)
set_option maxRecDepth 100000 in
theorem bX1_enter {E : qE} {N d bc bs : Nat} (hd : 2 ≤ d) {v0 : Nat} {v1 : Nat} {v2 : Int32} {v3 : Int32} {m0 : qM} : qB E yX1_enter cX1_enter 5 (some .int) (fun _ => True) d bc bs 0 [(0, .ref (E.2.1 + v0)), (1, .ref (E.2.1 + v1)), (2, .int v2), (3, .int v3)] [] m0 (fX1_enter N v0 v1 v2 v3 m0) (fun b rr => rr = (some (.int b.1), b.2)) := by
  unfold fX1_enter
  refine j_iconst (np := 1) ci_0 dX1_enter_0 rfl ?_
  refine j_istore (np := 3) (lv2 := [(4, .int (0 : Int32)), (0, .ref (E.2.1 + v0)), (1, .ref (E.2.1 + v1)), (2, .int v2), (3, .int v3)]) (by decide) dX1_enter_1 rfl rfl ?_
  refine j_sub (lv2 := [(0, .ref (E.2.1 + v0)), (1, .ref (E.2.1 + v1)), (2, .int v2), (3, .int v3), (4, .int (0 : Int32))]) [1, 2, 3, 4, 0] rfl ?_
  refine j_loopG (xp := 35) (lvX := fun o1 => [(0, .ref (E.2.1 + v0)), (1, .ref (E.2.1 + v1)), (2, .int v2), (3, .int v3)]) (mX := fun o1 => o1) (lbX1_enter_3 hd _ _ _) (fun r rr h => h) (fun o1 => ?_)
  refine j_aload_n (q := 0) (np := 36) rfl rfl dX1_enter_35 rfl ?_
  refine j_callVi (ci := 1) (np := 39) (bc := bc) (bs := bs) (cb := 0) (cs := 0) (dd := d - 1) (As := []) (st := []) caX1_isFull mlX1_43 imX1_isFull seX1_isFull rfl rfl (by decide) (fun b hb => wX1_isFull (by omega) hb) (by omega) rfl rfl (Nat.le_of_ble_eq_true rfl) dX1_enter_36 rfl (fun b2 => ?_)
  refine j_if_eq (tgt := 45) (np := 42) dX1_enter_39 rfl rfl ?_ ?_
  · refine j_aload_n (q := 0) (np := 46) rfl rfl dX1_enter_45 rfl ?_
    refine j_gR (np := 49) flX1_11 dX1_enter_46 rfl (fun x3 => ?_)
    refine j_aload_n (q := 0) (np := 50) rfl rfl dX1_enter_49 rfl ?_
    refine j_gI (np := 53) flX1_35 dX1_enter_50 rfl (fun x4 => ?_)
    refine j_aaload (np := 54) (c0 := 15) (t := 4) (C := "CondensedDetachment$Formula") (Or.inl rfl) (fun _ => rfl) dX1_enter_53 rfl (fun x5 => ?_)
    refine j_aload_n (q := 1) (np := 55) rfl rfl dX1_enter_54 rfl ?_
    refine j_callVv (ci := 0) (np := 58) (bc := bc) (bs := bs) (cb := 0) (cs := 0) (dd := d - 1) (As := [.ref (E.2.1 + v1)]) (st := []) caX0_copyFrom mlX1_47 imX0_copyFrom seX0_copyFrom rfl rfl (by decide) (fun b hb => wX0_copyFrom (by omega) hb) (by omega) rfl rfl (Nat.le_of_ble_eq_true rfl) dX1_enter_55 rfl (fun b6 => ?_)
    refine j_aload_n (q := 0) (np := 59) rfl rfl dX1_enter_58 rfl ?_
    refine j_gR (np := 62) flX1_17 dX1_enter_59 rfl (fun x7 => ?_)
    refine j_aload_n (q := 0) (np := 63) rfl rfl dX1_enter_62 rfl ?_
    refine j_gI (np := 66) flX1_35 dX1_enter_63 rfl (fun x8 => ?_)
    refine j_iload_n (q := 2) (np := 67) rfl rfl dX1_enter_66 rfl ?_
    refine j_iastore (np := 68) dX1_enter_67 rfl (fun m9 => ?_)
    refine j_aload_n (q := 0) (np := 69) rfl rfl dX1_enter_68 rfl ?_
    refine j_gR (np := 72) flX1_21 dX1_enter_69 rfl (fun x10 => ?_)
    refine j_aload_n (q := 0) (np := 73) rfl rfl dX1_enter_72 rfl ?_
    refine j_gI (np := 76) flX1_35 dX1_enter_73 rfl (fun x11 => ?_)
    refine j_iload_n (q := 3) (np := 77) rfl rfl dX1_enter_76 rfl ?_
    refine j_iastore (np := 78) dX1_enter_77 rfl (fun m12 => ?_)
    refine j_aload_n (q := 0) (np := 79) rfl rfl dX1_enter_78 rfl ?_
    refine j_iload_n (q := 2) (np := 80) rfl rfl dX1_enter_79 rfl ?_
    refine j_callVi (ci := 1) (np := 83) (bc := bc) (bs := bs) (cb := 0) (cs := 0) (dd := d - 1) (As := [.int v2]) (st := []) caX1_has mlX1_51 imX1_has seX1_has rfl rfl (by decide) (fun b hb => wX1_has (by omega) hb) (by omega) rfl rfl (Nat.le_of_ble_eq_true rfl) dX1_enter_80 rfl (fun b13 => ?_)
    refine j_if_eq (tgt := 98) (np := 86) dX1_enter_83 rfl rfl ?_ ?_
    · refine j_sub (lv2 := [(0, .ref (E.2.1 + v0)), (2, .int v2), (3, .int v3)]) [0, 2, 3] rfl ?_
      exact kbX1_enter_98 hd
    · refine j_aload_n (q := 0) (np := 87) rfl rfl dX1_enter_86 rfl ?_
      refine j_iload_n (q := 3) (np := 88) rfl rfl dX1_enter_87 rfl ?_
      refine j_callVi (ci := 1) (np := 91) (bc := bc) (bs := bs) (cb := 0) (cs := 0) (dd := d - 1) (As := [.int v3]) (st := []) caX1_has mlX1_51 imX1_has seX1_has rfl rfl (by decide) (fun b hb => wX1_has (by omega) hb) (by omega) rfl rfl (Nat.le_of_ble_eq_true rfl) dX1_enter_88 rfl (fun b14 => ?_)
      refine j_if_eq (tgt := 98) (np := 94) dX1_enter_91 rfl rfl ?_ ?_
      · refine j_sub (lv2 := [(0, .ref (E.2.1 + v0)), (2, .int v2), (3, .int v3)]) [0, 2, 3] rfl ?_
        exact kbX1_enter_98 hd
      · refine j_iconst (np := 95) ci_1 dX1_enter_94 rfl ?_
        refine j_goto (tgt := 99) dX1_enter_95 rfl ?_
        refine j_sub (lv2 := [(0, .ref (E.2.1 + v0)), (2, .int v2), (3, .int v3)]) [0, 2, 3] rfl ?_
        exact kbX1_enter_99 hd
  · refine j_bipush (np := 44) cb_m3 dX1_enter_42 rfl ?_
    exact j_iret rfl dX1_enter_44 (fun rr h => h)
set_option maxRecDepth 100000 in
theorem wX1_enter {E : qE} {N d : Nat} (hd : 2 ≤ d) {v0 : Nat} {v1 : Nat} {v2 : Int32} {v3 : Int32} {m0 : qM} {b : Int32 × qM} (h : fX1_enter N v0 v1 v2 v3 m0 = some b) : qRun E yX1_enter cX1_enter 5 (some .int) d 0 0 [.ref (E.2.1 + v0), .ref (E.2.1 + v1), .int v2, .int v3] m0 (some (.int b.1), b.2) := q_met pnX1 (Nat.le_of_ble_eq_true rfl) (bX1_enter hd b _ h rfl)
theorem dX3_matches_0 : decode cX3_matches 0 = .ok (.aload_n 2, 1) := by decide +kernel
theorem dX3_matches_1 : decode cX3_matches 1 = .ok (.invokevirtual 15, 3) := by decide +kernel
theorem dX3_matches_4 : decode cX3_matches 4 = .ok (.aload_n 1, 1) := by decide +kernel
theorem dX3_matches_5 : decode cX3_matches 5 = .ok (.invokevirtual 15, 3) := by decide +kernel
theorem dX3_matches_8 : decode cX3_matches 8 = .ok (.if_icmp .le 5, 3) := by decide +kernel
theorem dX3_matches_11 : decode cX3_matches 11 = .ok (.iconst 0, 1) := by decide +kernel
theorem dX3_matches_12 : decode cX3_matches 12 = .ok (.ireturn, 1) := by decide +kernel
theorem dX3_matches_13 : decode cX3_matches 13 = .ok (.iconst 0, 1) := by decide +kernel
theorem dX3_matches_14 : decode cX3_matches 14 = .ok (.istore_n 3, 1) := by decide +kernel
theorem dX3_matches_15 : decode cX3_matches 15 = .ok (.iconst 0, 1) := by decide +kernel
theorem dX3_matches_16 : decode cX3_matches 16 = .ok (.istore 4, 2) := by decide +kernel
theorem dX3_matches_18 : decode cX3_matches 18 = .ok (.iconst 0, 1) := by decide +kernel
theorem dX3_matches_19 : decode cX3_matches 19 = .ok (.istore 5, 2) := by decide +kernel
theorem dX3_matches_21 : decode cX3_matches 21 = .ok (.iload 5, 2) := by decide +kernel
theorem dX3_matches_23 : decode cX3_matches 23 = .ok (.aload_n 2, 1) := by decide +kernel
theorem dX3_matches_24 : decode cX3_matches 24 = .ok (.invokevirtual 15, 3) := by decide +kernel
theorem dX3_matches_27 : decode cX3_matches 27 = .ok (.if_icmp .ge 109, 3) := by decide +kernel
theorem dX3_matches_30 : decode cX3_matches 30 = .ok (.aload_n 2, 1) := by decide +kernel
theorem dX3_matches_31 : decode cX3_matches 31 = .ok (.iload 5, 2) := by decide +kernel
theorem dX3_matches_33 : decode cX3_matches 33 = .ok (.invokevirtual 21, 3) := by decide +kernel
theorem dX3_matches_36 : decode cX3_matches 36 = .ok (.istore 6, 2) := by decide +kernel
theorem dX3_matches_38 : decode cX3_matches 38 = .ok (.iload 4, 2) := by decide +kernel
theorem dX3_matches_40 : decode cX3_matches 40 = .ok (.aload_n 1, 1) := by decide +kernel
theorem dX3_matches_41 : decode cX3_matches 41 = .ok (.invokevirtual 15, 3) := by decide +kernel
theorem dX3_matches_44 : decode cX3_matches 44 = .ok (.if_icmp .lt 5, 3) := by decide +kernel
theorem dX3_matches_47 : decode cX3_matches 47 = .ok (.iconst 0, 1) := by decide +kernel
theorem dX3_matches_48 : decode cX3_matches 48 = .ok (.ireturn, 1) := by decide +kernel
theorem dX3_matches_49 : decode cX3_matches 49 = .ok (.iload 6, 2) := by decide +kernel
theorem dX3_matches_51 : decode cX3_matches 51 = .ok (.iconst (-1), 1) := by decide +kernel
theorem dX3_matches_52 : decode cX3_matches 52 = .ok (.if_icmp .ne 21, 3) := by decide +kernel
theorem dX3_matches_55 : decode cX3_matches 55 = .ok (.aload_n 1, 1) := by decide +kernel
theorem dX3_matches_56 : decode cX3_matches 56 = .ok (.iload 4, 2) := by decide +kernel
theorem dX3_matches_58 : decode cX3_matches 58 = .ok (.invokevirtual 21, 3) := by decide +kernel
theorem dX3_matches_61 : decode cX3_matches 61 = .ok (.iconst (-1), 1) := by decide +kernel
theorem dX3_matches_62 : decode cX3_matches 62 = .ok (.if_icmp .eq 5, 3) := by decide +kernel
theorem dX3_matches_65 : decode cX3_matches 65 = .ok (.iconst 0, 1) := by decide +kernel
theorem dX3_matches_66 : decode cX3_matches 66 = .ok (.ireturn, 1) := by decide +kernel
theorem dX3_matches_67 : decode cX3_matches 67 = .ok (.iinc 4 1, 3) := by decide +kernel
theorem dX3_matches_70 : decode cX3_matches 70 = .ok (.goto 60, 3) := by decide +kernel
theorem dX3_matches_73 : decode cX3_matches 73 = .ok (.aload_n 1, 1) := by decide +kernel
theorem dX3_matches_74 : decode cX3_matches 74 = .ok (.iload 4, 2) := by decide +kernel
theorem dX3_matches_76 : decode cX3_matches 76 = .ok (.invokevirtual 25, 3) := by decide +kernel
theorem dX3_matches_79 : decode cX3_matches 79 = .ok (.istore 7, 2) := by decide +kernel
theorem dX3_matches_81 : decode cX3_matches 81 = .ok (.iload 6, 2) := by decide +kernel
theorem dX3_matches_83 : decode cX3_matches 83 = .ok (.iload_n 3, 1) := by decide +kernel
theorem dX3_matches_84 : decode cX3_matches 84 = .ok (.if_icmp .ne 18, 3) := by decide +kernel
theorem dX3_matches_87 : decode cX3_matches 87 = .ok (.aload_n 0, 1) := by decide +kernel
theorem dX3_matches_88 : decode cX3_matches 88 = .ok (.getfield 9, 3) := by decide +kernel
theorem dX3_matches_91 : decode cX3_matches 91 = .ok (.iload 6, 2) := by decide +kernel
theorem dX3_matches_93 : decode cX3_matches 93 = .ok (.iload 4, 2) := by decide +kernel
theorem dX3_matches_95 : decode cX3_matches 95 = .ok (.iastore, 1) := by decide +kernel
theorem dX3_matches_96 : decode cX3_matches 96 = .ok (.iinc 3 1, 3) := by decide +kernel
theorem dX3_matches_99 : decode cX3_matches 99 = .ok (.goto 27, 3) := by decide +kernel
theorem dX3_matches_102 : decode cX3_matches 102 = .ok (.aload_n 1, 1) := by decide +kernel
theorem dX3_matches_103 : decode cX3_matches 103 = .ok (.iload 4, 2) := by decide +kernel
theorem dX3_matches_105 : decode cX3_matches 105 = .ok (.aload_n 1, 1) := by decide +kernel
theorem dX3_matches_106 : decode cX3_matches 106 = .ok (.aload_n 0, 1) := by decide +kernel
theorem dX3_matches_107 : decode cX3_matches 107 = .ok (.getfield 9, 3) := by decide +kernel
theorem dX3_matches_110 : decode cX3_matches 110 = .ok (.iload 6, 2) := by decide +kernel
theorem dX3_matches_112 : decode cX3_matches 112 = .ok (.iaload, 1) := by decide +kernel
theorem dX3_matches_113 : decode cX3_matches 113 = .ok (.iload 7, 2) := by decide +kernel
theorem dX3_matches_115 : decode cX3_matches 115 = .ok (.iload 4, 2) := by decide +kernel
theorem dX3_matches_117 : decode cX3_matches 117 = .ok (.isub, 1) := by decide +kernel
theorem dX3_matches_118 : decode cX3_matches 118 = .ok (.invokevirtual 28, 3) := by decide +kernel
theorem dX3_matches_121 : decode cX3_matches 121 = .ok (.ifCond .ne 5, 3) := by decide +kernel
theorem dX3_matches_124 : decode cX3_matches 124 = .ok (.iconst 0, 1) := by decide +kernel
theorem dX3_matches_125 : decode cX3_matches 125 = .ok (.ireturn, 1) := by decide +kernel
theorem dX3_matches_126 : decode cX3_matches 126 = .ok (.iload 7, 2) := by decide +kernel
theorem dX3_matches_128 : decode cX3_matches 128 = .ok (.istore 4, 2) := by decide +kernel
theorem dX3_matches_130 : decode cX3_matches 130 = .ok (.iinc 5 1, 3) := by decide +kernel
theorem dX3_matches_133 : decode cX3_matches 133 = .ok (.goto (-112), 3) := by decide +kernel
theorem dX3_matches_136 : decode cX3_matches 136 = .ok (.iconst 1, 1) := by decide +kernel
theorem dX3_matches_137 : decode cX3_matches 137 = .ok (.ireturn, 1) := by decide +kernel
def kX3_matches_130 (N : Nat) (rec : Int32 → Int32 → Int32 → qM → Option ((qM) ⊕ (Int32 × qM))) (v0 : Nat) (v1 : Nat) (v2 : Nat) (v3 : Int32) (v4 : Int32) (v5 : Int32)  (m0 : qM) : Option ((qM) ⊕ (Int32 × qM)) :=
  rec v3 v4 (v5 + (1 : Int32)) m0
set_option maxRecDepth 100000 in
theorem kbX3_matches_130 {E : qE} {N d bc bs : Nat} (hd : 1 ≤ d) {v0 : Nat} {v1 : Nat} {v2 : Nat} {v3 : Int32} {v4 : Int32} {v5 : Int32}  {m0 : qM} {rec : Int32 → Int32 → Int32 → qM → Option ((qM) ⊕ (Int32 × qM))} (hrec : ∀ (v3 : Int32) (v4 : Int32) (v5 : Int32) (m : qM), qB E yX3_matches cX3_matches 8 (some .boolean) (fun _ => True) d bc bs 21 [(0, .ref (E.2.1 + v0)), (1, .ref (E.2.1 + v1)), (2, .ref (E.2.1 + v2)), (3, .int v3), (4, .int v4), (5, .int v5)] [] m (rec v3 v4 v5 m) (qGL (fun o rr => qJ E yX3_matches cX3_matches 8 (some .boolean) (fun _ => True) d bc bs 136 [] [] o rr) (fun r => (some (.int r.1), r.2)))) : qB E yX3_matches cX3_matches 8 (some .boolean) (fun _ => True) d bc bs 130 [(0, .ref (E.2.1 + v0)), (1, .ref (E.2.1 + v1)), (2, .ref (E.2.1 + v2)), (3, .int v3), (4, .int v4), (5, .int v5)] [] m0 (kX3_matches_130 N rec v0 v1 v2 v3 v4 v5 m0) (qGL (fun o rr => qJ E yX3_matches cX3_matches 8 (some .boolean) (fun _ => True) d bc bs 136 [] [] o rr) (fun r => (some (.int r.1), r.2))) := by
  unfold kX3_matches_130
  refine j_iinc (q := 5) (np := 133) (lv2 := [(5, .int (v5 + (1 : Int32))), (0, .ref (E.2.1 + v0)), (1, .ref (E.2.1 + v1)), (2, .ref (E.2.1 + v2)), (3, .int v3), (4, .int v4)]) rfl (congrArg _ ci_1) (by decide) dX3_matches_130 rfl rfl ?_
  refine j_goto (tgt := 21) dX3_matches_133 rfl ?_
  refine j_sub (lv2 := [(0, .ref (E.2.1 + v0)), (1, .ref (E.2.1 + v1)), (2, .ref (E.2.1 + v2)), (3, .int v3), (4, .int v4), (5, .int (v5 + (1 : Int32)))]) [1, 2, 3, 4, 5, 0] rfl ?_
  exact hrec _ _ _ _
def kX3_matches_126 (N : Nat) (rec : Int32 → Int32 → Int32 → qM → Option ((qM) ⊕ (Int32 × qM))) (v0 : Nat) (v1 : Nat) (v2 : Nat) (v3 : Int32) (v5 : Int32) (v7 : Int32)  (m0 : qM) : Option ((qM) ⊕ (Int32 × qM)) :=
  kX3_matches_130 N (rec) v0 v1 v2 v3 v7 v5 m0
set_option maxRecDepth 100000 in
theorem kbX3_matches_126 {E : qE} {N d bc bs : Nat} (hd : 1 ≤ d) {v0 : Nat} {v1 : Nat} {v2 : Nat} {v3 : Int32} {v5 : Int32} {v7 : Int32}  {m0 : qM} {rec : Int32 → Int32 → Int32 → qM → Option ((qM) ⊕ (Int32 × qM))} (hrec : ∀ (v3 : Int32) (v4 : Int32) (v5 : Int32) (m : qM), qB E yX3_matches cX3_matches 8 (some .boolean) (fun _ => True) d bc bs 21 [(0, .ref (E.2.1 + v0)), (1, .ref (E.2.1 + v1)), (2, .ref (E.2.1 + v2)), (3, .int v3), (4, .int v4), (5, .int v5)] [] m (rec v3 v4 v5 m) (qGL (fun o rr => qJ E yX3_matches cX3_matches 8 (some .boolean) (fun _ => True) d bc bs 136 [] [] o rr) (fun r => (some (.int r.1), r.2)))) : qB E yX3_matches cX3_matches 8 (some .boolean) (fun _ => True) d bc bs 126 [(0, .ref (E.2.1 + v0)), (1, .ref (E.2.1 + v1)), (2, .ref (E.2.1 + v2)), (3, .int v3), (5, .int v5), (7, .int v7)] [] m0 (kX3_matches_126 N rec v0 v1 v2 v3 v5 v7 m0) (qGL (fun o rr => qJ E yX3_matches cX3_matches 8 (some .boolean) (fun _ => True) d bc bs 136 [] [] o rr) (fun r => (some (.int r.1), r.2))) := by
  unfold kX3_matches_126
  refine j_iload (q := 5) (np := 128) rfl dX3_matches_126 rfl ?_
  refine j_istore (np := 130) (lv2 := [(4, .int v7), (0, .ref (E.2.1 + v0)), (1, .ref (E.2.1 + v1)), (2, .ref (E.2.1 + v2)), (3, .int v3), (5, .int v5), (7, .int v7)]) (by decide) dX3_matches_128 rfl rfl ?_
  refine j_sub (lv2 := [(0, .ref (E.2.1 + v0)), (1, .ref (E.2.1 + v1)), (2, .ref (E.2.1 + v2)), (3, .int v3), (4, .int v7), (5, .int v5)]) [1, 2, 3, 4, 0, 5] rfl ?_
  exact kbX3_matches_130 hd hrec
def lX3_matches_21 (N : Nat) (v0 : Nat) (v1 : Nat) (v2 : Nat) : Nat → Int32 → Int32 → Int32 → qM → Option ((qM) ⊕ (Int32 × qM))
  | 0, _, _, _, _ => none
  | n + 1, v3, v4, v5, m0 =>
    (qChk m0 v2 0 (fX0_size N v2 m0)).bind fun b1 =>
    if b1.1 ≤ v5 then (
    some (.inl b1.2)
    ) else (
    (qChk b1.2 v2 0 (fX0_at N v2 v5 b1.2)).bind fun b2 =>
    (qChk b2.2 v1 0 (fX0_size N v1 b2.2)).bind fun b3 =>
    if v4 < b3.1 then (
    if b2.1 = (-1 : Int32) then (
    (qChk b3.2 v1 0 (fX0_at N v1 v4 b3.2)).bind fun b10 =>
    if b10.1 = (-1 : Int32) then (
    kX3_matches_130 N (lX3_matches_21 N v0 v1 v2 n) v0 v1 v2 v3 (v4 + (1 : Int32)) v5 b10.2
    ) else (
    some (.inr ((0 : Int32), b10.2))
    )
    ) else (
    (qChk b3.2 v1 0 (fX0_endOf N v1 v4 b3.2)).bind fun b4 =>
    if b2.1 = v3 then (
    (qgR b4.2 v0 3 0).bind fun x8 =>
    (qwI b4.2 x8 12 b2.1 v4).bind fun m9 =>
    kX3_matches_126 N (lX3_matches_21 N v0 v1 v2 n) v0 v1 v2 (v3 + (1 : Int32)) v5 b4.1 m9
    ) else (
    (qgR b4.2 v0 3 0).bind fun x5 =>
    (qaI b4.2 x5 12 b2.1).bind fun x6 =>
    (qChk b4.2 v1 0 (fX0_sameSigns N v1 v4 v1 x6 (b4.1 - v4) b4.2)).bind fun b7 =>
    if b7.1 = 0 then (
    some (.inr ((0 : Int32), b7.2))
    ) else (
    kX3_matches_126 N (lX3_matches_21 N v0 v1 v2 n) v0 v1 v2 v3 v5 b4.1 b7.2
    )
    )
    )
    ) else (
    some (.inr ((0 : Int32), b3.2))
    )
    )
set_option maxRecDepth 100000 in
theorem lbX3_matches_21 {E : qE} {N d bc bs : Nat} (hd : 1 ≤ d) {v0 : Nat} {v1 : Nat} {v2 : Nat} : ∀ (n : Nat) (v3 : Int32) (v4 : Int32) (v5 : Int32) (m0 : qM), qB E yX3_matches cX3_matches 8 (some .boolean) (fun _ => True) d bc bs 21 [(0, .ref (E.2.1 + v0)), (1, .ref (E.2.1 + v1)), (2, .ref (E.2.1 + v2)), (3, .int v3), (4, .int v4), (5, .int v5)] [] m0 (lX3_matches_21 N v0 v1 v2 n v3 v4 v5 m0) (qGL (fun o rr => qJ E yX3_matches cX3_matches 8 (some .boolean) (fun _ => True) d bc bs 136 [] [] o rr) (fun r => (some (.int r.1), r.2))) := by
  intro n
  induction n with
  | zero =>
    intro v3 v4 v5 m0
    exact j_none
  | succ n ih =>
    intro v3 v4 v5 m0
    unfold lX3_matches_21
    refine j_iload (q := 5) (np := 23) rfl dX3_matches_21 rfl ?_
    refine j_aload_n (q := 2) (np := 24) rfl rfl dX3_matches_23 rfl ?_
    refine j_callVi (ci := 0) (np := 27) (bc := bc) (bs := bs) (cb := 0) (cs := 0) (dd := d - 1) (As := []) (st := [.int v5]) caX0_size mlX3_15 imX0_size seX0_size rfl rfl (by decide) (fun b hb => wX0_size (by omega) hb) (by omega) rfl rfl (Nat.le_of_ble_eq_true rfl) dX3_matches_24 rfl (fun b1 => ?_)
    refine j_icmp_ge (tgt := 136) (np := 30) dX3_matches_27 rfl rfl ?_ ?_
    · refine j_sub (lv2 := []) [] rfl ?_
      exact j_exit (fun rr h => h)
    · refine j_aload_n (q := 2) (np := 31) rfl rfl dX3_matches_30 rfl ?_
      refine j_iload (q := 5) (np := 33) rfl dX3_matches_31 rfl ?_
      refine j_callVi (ci := 0) (np := 36) (bc := bc) (bs := bs) (cb := 0) (cs := 0) (dd := d - 1) (As := [.int v5]) (st := []) caX0_at mlX3_21 imX0_at seX0_at rfl rfl (by decide) (fun b hb => wX0_at (by omega) hb) (by omega) rfl rfl (Nat.le_of_ble_eq_true rfl) dX3_matches_33 rfl (fun b2 => ?_)
      refine j_istore (np := 38) (lv2 := [(6, .int b2.1), (0, .ref (E.2.1 + v0)), (1, .ref (E.2.1 + v1)), (2, .ref (E.2.1 + v2)), (3, .int v3), (4, .int v4), (5, .int v5)]) (by decide) dX3_matches_36 rfl rfl ?_
      refine j_iload (q := 5) (np := 40) rfl dX3_matches_38 rfl ?_
      refine j_aload_n (q := 2) (np := 41) rfl rfl dX3_matches_40 rfl ?_
      refine j_callVi (ci := 0) (np := 44) (bc := bc) (bs := bs) (cb := 0) (cs := 0) (dd := d - 1) (As := []) (st := [.int v4]) caX0_size mlX3_15 imX0_size seX0_size rfl rfl (by decide) (fun b hb => wX0_size (by omega) hb) (by omega) rfl rfl (Nat.le_of_ble_eq_true rfl) dX3_matches_41 rfl (fun b3 => ?_)
      refine j_icmp_lt (tgt := 49) (np := 47) dX3_matches_44 rfl rfl ?_ ?_
      · refine j_iload (q := 0) (np := 51) rfl dX3_matches_49 rfl ?_
        refine j_iconst (np := 52) ci_m1 dX3_matches_51 rfl ?_
        refine j_icmp_ne (tgt := 73) (np := 55) dX3_matches_52 rfl rfl ?_ ?_
        · refine j_aload_n (q := 2) (np := 74) rfl rfl dX3_matches_73 rfl ?_
          refine j_iload (q := 5) (np := 76) rfl dX3_matches_74 rfl ?_
          refine j_callVi (ci := 0) (np := 79) (bc := bc) (bs := bs) (cb := 0) (cs := 0) (dd := d - 1) (As := [.int v4]) (st := []) caX0_endOf mlX3_25 imX0_endOf seX0_endOf rfl rfl (by decide) (fun b hb => wX0_endOf (by omega) hb) (by omega) rfl rfl (Nat.le_of_ble_eq_true rfl) dX3_matches_76 rfl (fun b4 => ?_)
          refine j_istore (np := 81) (lv2 := [(7, .int b4.1), (6, .int b2.1), (0, .ref (E.2.1 + v0)), (1, .ref (E.2.1 + v1)), (2, .ref (E.2.1 + v2)), (3, .int v3), (4, .int v4), (5, .int v5)]) (by decide) dX3_matches_79 rfl rfl ?_
          refine j_iload (q := 1) (np := 83) rfl dX3_matches_81 rfl ?_
          refine j_iload_n (q := 5) (np := 84) rfl rfl dX3_matches_83 rfl ?_
          refine j_icmp_ne (tgt := 102) (np := 87) dX3_matches_84 rfl rfl ?_ ?_
          · refine j_aload_n (q := 3) (np := 103) rfl rfl dX3_matches_102 rfl ?_
            refine j_iload (q := 6) (np := 105) rfl dX3_matches_103 rfl ?_
            refine j_aload_n (q := 3) (np := 106) rfl rfl dX3_matches_105 rfl ?_
            refine j_aload_n (q := 2) (np := 107) rfl rfl dX3_matches_106 rfl ?_
            refine j_gR (np := 110) flX3_9 dX3_matches_107 rfl (fun x5 => ?_)
            refine j_iload (q := 1) (np := 112) rfl dX3_matches_110 rfl ?_
            refine j_iaload (np := 113) dX3_matches_112 rfl (fun x6 => ?_)
            refine j_iload (q := 0) (np := 115) rfl dX3_matches_113 rfl ?_
            refine j_iload (q := 6) (np := 117) rfl dX3_matches_115 rfl ?_
            refine j_isub (np := 118) dX3_matches_117 rfl ?_
            refine j_callVi (ci := 0) (np := 121) (bc := bc) (bs := bs) (cb := 0) (cs := 0) (dd := d - 1) (As := [.int v4, .ref (E.2.1 + v1), .int x6, .int (b4.1 - v4)]) (st := []) caX0_sameSigns mlX3_28 imX0_sameSigns seX0_sameSigns rfl rfl (by decide) (fun b hb => wX0_sameSigns (by omega) hb) (by omega) rfl rfl (Nat.le_of_ble_eq_true rfl) dX3_matches_118 rfl (fun b7 => ?_)
            refine j_if_ne (tgt := 126) (np := 124) dX3_matches_121 rfl rfl ?_ ?_
            · refine j_sub (lv2 := [(0, .ref (E.2.1 + v0)), (1, .ref (E.2.1 + v1)), (2, .ref (E.2.1 + v2)), (3, .int v3), (5, .int v5), (7, .int b4.1)]) [2, 3, 4, 5, 7, 0] rfl ?_
              exact kbX3_matches_126 hd ih
            · refine j_iconst (np := 125) ci_0 dX3_matches_124 rfl ?_
              exact j_zret rfl dX3_matches_125 (fun rr h => by rw [z0]; exact h)
          · refine j_aload_n (q := 2) (np := 88) rfl rfl dX3_matches_87 rfl ?_
            refine j_gR (np := 91) flX3_9 dX3_matches_88 rfl (fun x8 => ?_)
            refine j_iload (q := 1) (np := 93) rfl dX3_matches_91 rfl ?_
            refine j_iload (q := 6) (np := 95) rfl dX3_matches_93 rfl ?_
            refine j_iastore (np := 96) dX3_matches_95 rfl (fun m9 => ?_)
            refine j_iinc (q := 5) (np := 99) (lv2 := [(3, .int (v3 + (1 : Int32))), (7, .int b4.1), (6, .int b2.1), (0, .ref (E.2.1 + v0)), (1, .ref (E.2.1 + v1)), (2, .ref (E.2.1 + v2)), (4, .int v4), (5, .int v5)]) rfl (congrArg _ ci_1) (by decide) dX3_matches_96 rfl rfl ?_
            refine j_goto (tgt := 126) dX3_matches_99 rfl ?_
            refine j_sub (lv2 := [(0, .ref (E.2.1 + v0)), (1, .ref (E.2.1 + v1)), (2, .ref (E.2.1 + v2)), (3, .int (v3 + (1 : Int32))), (5, .int v5), (7, .int b4.1)]) [3, 4, 5, 0, 7, 1] rfl ?_
            exact kbX3_matches_126 hd ih
        · refine j_aload_n (q := 2) (np := 56) rfl rfl dX3_matches_55 rfl ?_
          refine j_iload (q := 5) (np := 58) rfl dX3_matches_56 rfl ?_
          refine j_callVi (ci := 0) (np := 61) (bc := bc) (bs := bs) (cb := 0) (cs := 0) (dd := d - 1) (As := [.int v4]) (st := []) caX0_at mlX3_21 imX0_at seX0_at rfl rfl (by decide) (fun b hb => wX0_at (by omega) hb) (by omega) rfl rfl (Nat.le_of_ble_eq_true rfl) dX3_matches_58 rfl (fun b10 => ?_)
          refine j_iconst (np := 62) ci_m1 dX3_matches_61 rfl ?_
          refine j_icmp_eq (tgt := 67) (np := 65) dX3_matches_62 rfl rfl ?_ ?_
          · refine j_iinc (q := 5) (np := 70) (lv2 := [(4, .int (v4 + (1 : Int32))), (6, .int b2.1), (0, .ref (E.2.1 + v0)), (1, .ref (E.2.1 + v1)), (2, .ref (E.2.1 + v2)), (3, .int v3), (5, .int v5)]) rfl (congrArg _ ci_1) (by decide) dX3_matches_67 rfl rfl ?_
            refine j_goto (tgt := 130) dX3_matches_70 rfl ?_
            refine j_sub (lv2 := [(0, .ref (E.2.1 + v0)), (1, .ref (E.2.1 + v1)), (2, .ref (E.2.1 + v2)), (3, .int v3), (4, .int (v4 + (1 : Int32))), (5, .int v5)]) [2, 3, 4, 5, 0, 6] rfl ?_
            exact kbX3_matches_130 hd ih
          · refine j_iconst (np := 66) ci_0 dX3_matches_65 rfl ?_
            exact j_zret rfl dX3_matches_66 (fun rr h => by rw [z0]; exact h)
      · refine j_iconst (np := 48) ci_0 dX3_matches_47 rfl ?_
        exact j_zret rfl dX3_matches_48 (fun rr h => by rw [z0]; exact h)
def fX3_matches (N : Nat) (v0 : Nat) (v1 : Nat) (v2 : Nat) (m0 : qM) : Option (Int32 × qM) :=
  (qChk m0 v2 0 (fX0_size N v2 m0)).bind fun b1 =>
  (qChk b1.2 v1 0 (fX0_size N v1 b1.2)).bind fun b2 =>
  if b1.1 ≤ b2.1 then (
  qTh (lX3_matches_21 N v0 v1 v2 N (0 : Int32) (0 : Int32) (0 : Int32) b2.2) (fun o3 =>
  some ((1 : Int32), o3)
  ) (fun r => r)
  ) else (
  some ((0 : Int32), b2.2)
  )
set_option maxRecDepth 100000 in
theorem bX3_matches {E : qE} {N d bc bs : Nat} (hd : 1 ≤ d) {v0 : Nat} {v1 : Nat} {v2 : Nat} {m0 : qM} : qB E yX3_matches cX3_matches 8 (some .boolean) (fun _ => True) d bc bs 0 [(0, .ref (E.2.1 + v0)), (1, .ref (E.2.1 + v1)), (2, .ref (E.2.1 + v2))] [] m0 (fX3_matches N v0 v1 v2 m0) (fun b rr => rr = (some (.int b.1), b.2)) := by
  unfold fX3_matches
  refine j_aload_n (q := 2) (np := 1) rfl rfl dX3_matches_0 rfl ?_
  refine j_callVi (ci := 0) (np := 4) (bc := bc) (bs := bs) (cb := 0) (cs := 0) (dd := d - 1) (As := []) (st := []) caX0_size mlX3_15 imX0_size seX0_size rfl rfl (by decide) (fun b hb => wX0_size (by omega) hb) (by omega) rfl rfl (Nat.le_of_ble_eq_true rfl) dX3_matches_1 rfl (fun b1 => ?_)
  refine j_aload_n (q := 1) (np := 5) rfl rfl dX3_matches_4 rfl ?_
  refine j_callVi (ci := 0) (np := 8) (bc := bc) (bs := bs) (cb := 0) (cs := 0) (dd := d - 1) (As := []) (st := [.int b1.1]) caX0_size mlX3_15 imX0_size seX0_size rfl rfl (by decide) (fun b hb => wX0_size (by omega) hb) (by omega) rfl rfl (Nat.le_of_ble_eq_true rfl) dX3_matches_5 rfl (fun b2 => ?_)
  refine j_icmp_le (tgt := 13) (np := 11) dX3_matches_8 rfl rfl ?_ ?_
  · refine j_iconst (np := 14) ci_0 dX3_matches_13 rfl ?_
    refine j_istore_n (np := 15) (lv2 := [(3, .int (0 : Int32)), (0, .ref (E.2.1 + v0)), (1, .ref (E.2.1 + v1)), (2, .ref (E.2.1 + v2))]) rfl (by decide) dX3_matches_14 rfl rfl ?_
    refine j_iconst (np := 16) ci_0 dX3_matches_15 rfl ?_
    refine j_istore (np := 18) (lv2 := [(4, .int (0 : Int32)), (3, .int (0 : Int32)), (0, .ref (E.2.1 + v0)), (1, .ref (E.2.1 + v1)), (2, .ref (E.2.1 + v2))]) (by decide) dX3_matches_16 rfl rfl ?_
    refine j_iconst (np := 19) ci_0 dX3_matches_18 rfl ?_
    refine j_istore (np := 21) (lv2 := [(5, .int (0 : Int32)), (4, .int (0 : Int32)), (3, .int (0 : Int32)), (0, .ref (E.2.1 + v0)), (1, .ref (E.2.1 + v1)), (2, .ref (E.2.1 + v2))]) (by decide) dX3_matches_19 rfl rfl ?_
    refine j_sub (lv2 := [(0, .ref (E.2.1 + v0)), (1, .ref (E.2.1 + v1)), (2, .ref (E.2.1 + v2)), (3, .int (0 : Int32)), (4, .int (0 : Int32)), (5, .int (0 : Int32))]) [3, 4, 5, 2, 1, 0] rfl ?_
    refine j_loopG (xp := 136) (lvX := fun o3 => []) (mX := fun o3 => o3) (lbX3_matches_21 hd _ _ _ _ _) (fun r rr h => h) (fun o3 => ?_)
    refine j_iconst (np := 137) ci_1 dX3_matches_136 rfl ?_
    exact j_zret rfl dX3_matches_137 (fun rr h => by rw [z1]; exact h)
  · refine j_iconst (np := 12) ci_0 dX3_matches_11 rfl ?_
    exact j_zret rfl dX3_matches_12 (fun rr h => by rw [z0]; exact h)
set_option maxRecDepth 100000 in
theorem wX3_matches {E : qE} {N d : Nat} (hd : 1 ≤ d) {v0 : Nat} {v1 : Nat} {v2 : Nat} {m0 : qM} {b : Int32 × qM} (h : fX3_matches N v0 v1 v2 m0 = some b) : qRun E yX3_matches cX3_matches 8 (some .boolean) d 0 0 [.ref (E.2.1 + v0), .ref (E.2.1 + v1), .ref (E.2.1 + v2)] m0 (some (.int b.1), b.2) := q_met pnX3 (Nat.le_of_ble_eq_true rfl) (bX3_matches hd b _ h rfl)
theorem dX1_covers_0 : decode cX1_covers 0 = .ok (.iconst 0, 1) := by decide +kernel
theorem dX1_covers_1 : decode cX1_covers 1 = .ok (.istore_n 3, 1) := by decide +kernel
theorem dX1_covers_2 : decode cX1_covers 2 = .ok (.iload_n 3, 1) := by decide +kernel
theorem dX1_covers_3 : decode cX1_covers 3 = .ok (.aload_n 0, 1) := by decide +kernel
theorem dX1_covers_4 : decode cX1_covers 4 = .ok (.getfield 35, 3) := by decide +kernel
theorem dX1_covers_7 : decode cX1_covers 7 = .ok (.if_icmp .ge 25, 3) := by decide +kernel
theorem dX1_covers_10 : decode cX1_covers 10 = .ok (.aload_n 2, 1) := by decide +kernel
theorem dX1_covers_11 : decode cX1_covers 11 = .ok (.aload_n 1, 1) := by decide +kernel
theorem dX1_covers_12 : decode cX1_covers 12 = .ok (.aload_n 0, 1) := by decide +kernel
theorem dX1_covers_13 : decode cX1_covers 13 = .ok (.getfield 11, 3) := by decide +kernel
theorem dX1_covers_16 : decode cX1_covers 16 = .ok (.iload_n 3, 1) := by decide +kernel
theorem dX1_covers_17 : decode cX1_covers 17 = .ok (.aaload, 1) := by decide +kernel
theorem dX1_covers_18 : decode cX1_covers 18 = .ok (.invokevirtual 61, 3) := by decide +kernel
theorem dX1_covers_21 : decode cX1_covers 21 = .ok (.ifCond .eq 5, 3) := by decide +kernel
theorem dX1_covers_24 : decode cX1_covers 24 = .ok (.iconst 1, 1) := by decide +kernel
theorem dX1_covers_25 : decode cX1_covers 25 = .ok (.ireturn, 1) := by decide +kernel
theorem dX1_covers_26 : decode cX1_covers 26 = .ok (.iinc 3 1, 3) := by decide +kernel
theorem dX1_covers_29 : decode cX1_covers 29 = .ok (.goto (-27), 3) := by decide +kernel
theorem dX1_covers_32 : decode cX1_covers 32 = .ok (.iconst 0, 1) := by decide +kernel
theorem dX1_covers_33 : decode cX1_covers 33 = .ok (.ireturn, 1) := by decide +kernel
def lX1_covers_2 (N : Nat) (v0 : Nat) (v1 : Nat) (v2 : Nat) : Nat → Int32 → qM → Option ((qM) ⊕ (Int32 × qM))
  | 0, _, _ => none
  | n + 1, v3, m0 =>
    (qgI m0 v0 1 6).bind fun x1 =>
    if x1 ≤ v3 then (
    some (.inl m0)
    ) else (
    (qgR m0 v0 1 0).bind fun x2 =>
    (qaR m0 x2 15 v3).bind fun x3 =>
    (qChk m0 v2 3 (fX3_matches N v2 v1 x3 m0)).bind fun b4 =>
    if b4.1 = 0 then (
    lX1_covers_2 N v0 v1 v2 n (v3 + (1 : Int32)) b4.2
    ) else (
    some (.inr ((1 : Int32), b4.2))
    )
    )
set_option maxRecDepth 100000 in
theorem lbX1_covers_2 {E : qE} {N d bc bs : Nat} (hd : 2 ≤ d) {v0 : Nat} {v1 : Nat} {v2 : Nat} : ∀ (n : Nat) (v3 : Int32) (m0 : qM), qB E yX1_covers cX1_covers 4 (some .boolean) (fun _ => True) d bc bs 2 [(0, .ref (E.2.1 + v0)), (1, .ref (E.2.1 + v1)), (2, .ref (E.2.1 + v2)), (3, .int v3)] [] m0 (lX1_covers_2 N v0 v1 v2 n v3 m0) (qGL (fun o rr => qJ E yX1_covers cX1_covers 4 (some .boolean) (fun _ => True) d bc bs 32 [] [] o rr) (fun r => (some (.int r.1), r.2))) := by
  intro n
  induction n with
  | zero =>
    intro v3 m0
    exact j_none
  | succ n ih =>
    intro v3 m0
    unfold lX1_covers_2
    refine j_iload_n (q := 3) (np := 3) rfl rfl dX1_covers_2 rfl ?_
    refine j_aload_n (q := 0) (np := 4) rfl rfl dX1_covers_3 rfl ?_
    refine j_gI (np := 7) flX1_35 dX1_covers_4 rfl (fun x1 => ?_)
    refine j_icmp_ge (tgt := 32) (np := 10) dX1_covers_7 rfl rfl ?_ ?_
    · refine j_sub (lv2 := []) [] rfl ?_
      exact j_exit (fun rr h => h)
    · refine j_aload_n (q := 2) (np := 11) rfl rfl dX1_covers_10 rfl ?_
      refine j_aload_n (q := 1) (np := 12) rfl rfl dX1_covers_11 rfl ?_
      refine j_aload_n (q := 0) (np := 13) rfl rfl dX1_covers_12 rfl ?_
      refine j_gR (np := 16) flX1_11 dX1_covers_13 rfl (fun x2 => ?_)
      refine j_iload_n (q := 3) (np := 17) rfl rfl dX1_covers_16 rfl ?_
      refine j_aaload (np := 18) (c0 := 15) (t := 4) (C := "CondensedDetachment$Formula") (Or.inl rfl) (fun _ => rfl) dX1_covers_17 rfl (fun x3 => ?_)
      refine j_callVi (ci := 3) (np := 21) (bc := bc) (bs := bs) (cb := 0) (cs := 0) (dd := d - 1) (As := [.ref (E.2.1 + v1), .ref (E.2.1 + x3)]) (st := []) caX3_matches mlX1_61 imX3_matches seX3_matches rfl rfl (by decide) (fun b hb => wX3_matches (by omega) hb) (by omega) rfl rfl (Nat.le_of_ble_eq_true rfl) dX1_covers_18 rfl (fun b4 => ?_)
      refine j_if_eq (tgt := 26) (np := 24) dX1_covers_21 rfl rfl ?_ ?_
      · refine j_iinc (q := 3) (np := 29) (lv2 := [(3, .int (v3 + (1 : Int32))), (0, .ref (E.2.1 + v0)), (1, .ref (E.2.1 + v1)), (2, .ref (E.2.1 + v2))]) rfl (congrArg _ ci_1) (by decide) dX1_covers_26 rfl rfl ?_
        refine j_goto (tgt := 2) dX1_covers_29 rfl ?_
        refine j_sub (lv2 := [(0, .ref (E.2.1 + v0)), (1, .ref (E.2.1 + v1)), (2, .ref (E.2.1 + v2)), (3, .int (v3 + (1 : Int32)))]) [1, 2, 3, 0] rfl ?_
        exact ih _ _
      · refine j_iconst (np := 25) ci_1 dX1_covers_24 rfl ?_
        exact j_zret rfl dX1_covers_25 (fun rr h => by rw [z1]; exact h)
def fX1_covers (N : Nat) (v0 : Nat) (v1 : Nat) (v2 : Nat) (m0 : qM) : Option (Int32 × qM) :=
  qTh (lX1_covers_2 N v0 v1 v2 N (0 : Int32) m0) (fun o1 =>
  some ((0 : Int32), o1)
  ) (fun r => r)
set_option maxRecDepth 100000 in
theorem bX1_covers {E : qE} {N d bc bs : Nat} (hd : 2 ≤ d) {v0 : Nat} {v1 : Nat} {v2 : Nat} {m0 : qM} : qB E yX1_covers cX1_covers 4 (some .boolean) (fun _ => True) d bc bs 0 [(0, .ref (E.2.1 + v0)), (1, .ref (E.2.1 + v1)), (2, .ref (E.2.1 + v2))] [] m0 (fX1_covers N v0 v1 v2 m0) (fun b rr => rr = (some (.int b.1), b.2)) := by
  unfold fX1_covers
  refine j_iconst (np := 1) ci_0 dX1_covers_0 rfl ?_
  refine j_istore_n (np := 2) (lv2 := [(3, .int (0 : Int32)), (0, .ref (E.2.1 + v0)), (1, .ref (E.2.1 + v1)), (2, .ref (E.2.1 + v2))]) rfl (by decide) dX1_covers_1 rfl rfl ?_
  refine j_sub (lv2 := [(0, .ref (E.2.1 + v0)), (1, .ref (E.2.1 + v1)), (2, .ref (E.2.1 + v2)), (3, .int (0 : Int32))]) [1, 2, 3, 0] rfl ?_
  refine j_loopG (xp := 32) (lvX := fun o1 => []) (mX := fun o1 => o1) (lbX1_covers_2 hd _ _ _) (fun r rr h => h) (fun o1 => ?_)
  refine j_iconst (np := 33) ci_0 dX1_covers_32 rfl ?_
  exact j_zret rfl dX1_covers_33 (fun rr h => by rw [z0]; exact h)
set_option maxRecDepth 100000 in
theorem wX1_covers {E : qE} {N d : Nat} (hd : 2 ≤ d) {v0 : Nat} {v1 : Nat} {v2 : Nat} {m0 : qM} {b : Int32 × qM} (h : fX1_covers N v0 v1 v2 m0 = some b) : qRun E yX1_covers cX1_covers 4 (some .boolean) d 0 0 [.ref (E.2.1 + v0), .ref (E.2.1 + v1), .ref (E.2.1 + v2)] m0 (some (.int b.1), b.2) := q_met pnX1 (Nat.le_of_ble_eq_true rfl) (bX1_covers hd b _ h rfl)
theorem dX2_init_0 : decode cX2_init 0 = .ok (.aload_n 0, 1) := by decide +kernel
theorem dX2_init_1 : decode cX2_init 1 = .ok (.invokespecial 3, 3) := by decide +kernel
theorem dX2_init_4 : decode cX2_init 4 = .ok (.aload_n 0, 1) := by decide +kernel
theorem dX2_init_5 : decode cX2_init 5 = .ok (.new 9, 3) := by decide +kernel
theorem dX2_init_8 : decode cX2_init 8 = .ok (.dup, 1) := by decide +kernel
theorem dX2_init_9 : decode cX2_init 9 = .ok (.invokespecial 11, 3) := by decide +kernel
theorem dX2_init_12 : decode cX2_init 12 = .ok (.putfield 12, 3) := by decide +kernel
theorem dX2_init_15 : decode cX2_init 15 = .ok (.aload_n 0, 1) := by decide +kernel
theorem dX2_init_16 : decode cX2_init 16 = .ok (.bipush 120, 2) := by decide +kernel
theorem dX2_init_18 : decode cX2_init 18 = .ok (.anewarray 9, 3) := by decide +kernel
theorem dX2_init_21 : decode cX2_init 21 = .ok (.putfield 18, 3) := by decide +kernel
theorem dX2_init_24 : decode cX2_init 24 = .ok (.aload_n 0, 1) := by decide +kernel
theorem dX2_init_25 : decode cX2_init 25 = .ok (.bipush 6, 2) := by decide +kernel
theorem dX2_init_27 : decode cX2_init 27 = .ok (.newarray .int, 2) := by decide +kernel
theorem dX2_init_29 : decode cX2_init 29 = .ok (.putfield 22, 3) := by decide +kernel
theorem dX2_init_32 : decode cX2_init 32 = .ok (.aload_n 0, 1) := by decide +kernel
theorem dX2_init_33 : decode cX2_init 33 = .ok (.aload_n 1, 1) := by decide +kernel
theorem dX2_init_34 : decode cX2_init 34 = .ok (.putfield 26, 3) := by decide +kernel
theorem dX2_init_37 : decode cX2_init 37 = .ok (.aload_n 0, 1) := by decide +kernel
theorem dX2_init_38 : decode cX2_init 38 = .ok (.aload_n 2, 1) := by decide +kernel
theorem dX2_init_39 : decode cX2_init 39 = .ok (.putfield 30, 3) := by decide +kernel
theorem dX2_init_42 : decode cX2_init 42 = .ok (.iconst 0, 1) := by decide +kernel
theorem dX2_init_43 : decode cX2_init 43 = .ok (.istore_n 3, 1) := by decide +kernel
theorem dX2_init_44 : decode cX2_init 44 = .ok (.iload_n 3, 1) := by decide +kernel
theorem dX2_init_45 : decode cX2_init 45 = .ok (.bipush 120, 2) := by decide +kernel
theorem dX2_init_47 : decode cX2_init 47 = .ok (.if_icmp .ge 22, 3) := by decide +kernel
theorem dX2_init_50 : decode cX2_init 50 = .ok (.aload_n 0, 1) := by decide +kernel
theorem dX2_init_51 : decode cX2_init 51 = .ok (.getfield 18, 3) := by decide +kernel
theorem dX2_init_54 : decode cX2_init 54 = .ok (.iload_n 3, 1) := by decide +kernel
theorem dX2_init_55 : decode cX2_init 55 = .ok (.new 9, 3) := by decide +kernel
theorem dX2_init_58 : decode cX2_init 58 = .ok (.dup, 1) := by decide +kernel
theorem dX2_init_59 : decode cX2_init 59 = .ok (.invokespecial 11, 3) := by decide +kernel
theorem dX2_init_62 : decode cX2_init 62 = .ok (.aastore, 1) := by decide +kernel
theorem dX2_init_63 : decode cX2_init 63 = .ok (.iinc 3 1, 3) := by decide +kernel
theorem dX2_init_66 : decode cX2_init 66 = .ok (.goto (-22), 3) := by decide +kernel
theorem dX2_init_69 : decode cX2_init 69 = .ok (.return_, 1) := by decide +kernel
def lX2_init_44 (N : Nat) (v0 : Nat) : Nat → Int32 → qM → Option (qM)
  | 0, _, _ => none
  | n + 1, v3, m0 =>
    if (120 : Int32) ≤ v3 then (
    some m0
    ) else (
    (qgR m0 v0 2 3).bind fun x1 =>
    qNew m0 0 0 (fun a2 m3 =>
    (fX0_init N a2 m3).bind fun b4 =>
    (qwR b4 x1 15 v3 a2).bind fun m5 =>
    lX2_init_44 N v0 n (v3 + (1 : Int32)) m5
    )
    )
set_option maxRecDepth 100000 in
theorem lbX2_init_44 {E : qE} {N d bc bs : Nat} (hd : 2 ≤ d) {v0 : Nat} : ∀ (n : Nat) (v3 : Int32) (m0 : qM), qB E yX2_init cX2_init 4 none (fun _ => True) d (bc + n * 2) (bs + n * 42) 44 [(0, .ref (E.2.1 + v0)), (3, .int v3)] [] m0 (lX2_init_44 N v0 n v3 m0) (fun o rr => qJ E yX2_init cX2_init 4 none (fun _ => True) d bc bs 69 [] [] o rr) := by
  intro n
  induction n with
  | zero =>
    intro v3 m0
    exact j_none
  | succ n ih =>
    intro v3 m0
    unfold lX2_init_44
    refine j_bud (b1 := ((bc + n * 2) + 2)) (b2 := ((bs + n * 42) + 42)) (by omega) (by omega) ?_
    refine j_iload_n (q := 1) (np := 45) rfl rfl dX2_init_44 rfl ?_
    refine j_bipush (np := 47) cb_120 dX2_init_45 rfl ?_
    refine j_icmp_ge (tgt := 69) (np := 50) dX2_init_47 rfl rfl ?_ ?_
    · refine j_sub (lv2 := []) [] rfl ?_
      refine j_bud (b1 := bc) (b2 := bs) (by omega) (by omega) ?_
      exact j_exit (fun rr h => h)
    · refine j_aload_n (q := 0) (np := 51) rfl rfl dX2_init_50 rfl ?_
      refine j_gR (np := 54) flX2_18 dX2_init_51 rfl (fun x1 => ?_)
      refine j_iload_n (q := 1) (np := 55) rfl rfl dX2_init_54 rfl ?_
      refine j_bud (b1 := ((bc + n * 2) + 1) + 1) (b2 := ((bs + n * 42) + 39) + 3) (by omega) (by omega) ?_
      refine j_new (bc := ((bc + n * 2) + 1)) (bs := ((bs + n * 42) + 39)) (np := 58) qC0 clX2_9 dX2_init_55 rfl (fun a2 m3 => ?_)
      refine j_dup (np := 59) rfl dX2_init_58 rfl ?_
      refine j_bud (b1 := (bc + n * 2) + 1) (b2 := (bs + n * 42) + 39) (by omega) (by omega) ?_
      refine j_callINw (np := 62) (bc := (bc + n * 2)) (bs := (bs + n * 42)) (cb := 1) (cs := 39) (dd := d - 1) (As := []) (st := [.ref (E.2.1 + a2), .int v3, .ref (E.2.1 + x1)]) (host := RX9) caX0_init (List.mem_of_getElem? (i := 8) rfl) imX0_init rfl (fun b hb => wX0_init (by omega) hb) (by omega) rfl rfl (Nat.le_of_ble_eq_true rfl) dX2_init_59 rfl (fun b4 => ?_)
      refine j_aastore (np := 63) (c0 := 15) (ci := 0) (t := 4) (r0 := (RX0, TX0, 3)) (Or.inl ⟨rfl, rfl⟩) rfl (fun _ => rfl) dX2_init_62 rfl (fun m5 => ?_)
      refine j_iinc (q := 1) (np := 66) (lv2 := [(3, .int (v3 + (1 : Int32))), (0, .ref (E.2.1 + v0))]) rfl (congrArg _ ci_1) (by decide) dX2_init_63 rfl rfl ?_
      refine j_goto (tgt := 44) dX2_init_66 rfl ?_
      refine j_sub (lv2 := [(0, .ref (E.2.1 + v0)), (3, .int (v3 + (1 : Int32)))]) [1, 0] rfl ?_
      exact ih _ _
def fX2_init (N : Nat) (v0 : Nat) (v1 : Nat) (v2 : Nat) (m0 : qM) : Option (qM) :=
  qNew m0 0 0 (fun a1 m2 =>
  (fX0_init N a1 m2).bind fun b3 =>
  (qpR b3 v0 2 2 a1).bind fun m4 =>
  if ¬ (120 : Int32) < 0 ∧ (120 : Int32).toNatClampNeg ≤ 120 then qNew m4 15 (120 : Int32).toNatClampNeg (fun a5 m6 =>
  (qpR m6 v0 2 3 a5).bind fun m7 =>
  if ¬ (6 : Int32) < 0 ∧ (6 : Int32).toNatClampNeg ≤ 6 then qNew m7 12 (6 : Int32).toNatClampNeg (fun a8 m9 =>
  (qpR m9 v0 2 4 a8).bind fun m10 =>
  (qpR m10 v0 2 0 v1).bind fun m11 =>
  (qpR m11 v0 2 1 v2).bind fun m12 =>
  (lX2_init_44 N v0 N (0 : Int32) m12).bind fun o13 =>
  some o13
  ) else none
  ) else none
  )
set_option maxRecDepth 100000 in
theorem bX2_init {E : qE} {N d bc bs : Nat} (hd : 2 ≤ d) {v0 : Nat} {v1 : Nat} {v2 : Nat} {m0 : qM} : qB E yX2_init cX2_init 4 none (fun _ => True) d (bc + (2 * N + 4)) (bs + (42 * N + 168)) 0 [(0, .ref (E.2.1 + v0)), (1, .ref (E.2.1 + v1)), (2, .ref (E.2.1 + v2))] [] m0 (fX2_init N v0 v1 v2 m0) (fun b rr => rr = (none, b)) := by
  unfold fX2_init
  refine j_aload_n (q := 0) (np := 1) rfl rfl dX2_init_0 rfl ?_
  refine j_objInit (np := 4) mlX2_3 imObj cdObj (by omega) (Nat.le_of_ble_eq_true rfl) dX2_init_1 rfl ?_
  refine j_aload_n (q := 0) (np := 5) rfl rfl dX2_init_4 rfl ?_
  refine j_bud (b1 := (bc + (2 * N + 3)) + 1) (b2 := (bs + (42 * N + 165)) + 3) (by omega) (by omega) ?_
  refine j_new (bc := (bc + (2 * N + 3))) (bs := (bs + (42 * N + 165))) (np := 8) qC0 clX2_9 dX2_init_5 rfl (fun a1 m2 => ?_)
  refine j_dup (np := 9) rfl dX2_init_8 rfl ?_
  refine j_bud (b1 := (bc + (2 * N + 2)) + 1) (b2 := (bs + (42 * N + 126)) + 39) (by omega) (by omega) ?_
  refine j_callINw (np := 12) (bc := (bc + (2 * N + 2))) (bs := (bs + (42 * N + 126))) (cb := 1) (cs := 39) (dd := d - 1) (As := []) (st := [.ref (E.2.1 + a1), .ref (E.2.1 + v0)]) (host := RX9) caX0_init (List.mem_of_getElem? (i := 8) rfl) imX0_init rfl (fun b hb => wX0_init (by omega) hb) (by omega) rfl rfl (Nat.le_of_ble_eq_true rfl) dX2_init_9 rfl (fun b3 => ?_)
  refine j_pR (np := 15) flX2_12 (fun _ => rfl) dX2_init_12 rfl (fun m4 => ?_)
  refine j_aload_n (q := 0) (np := 16) rfl rfl dX2_init_15 rfl ?_
  refine j_bipush (np := 18) cb_120 dX2_init_16 rfl ?_
  refine j_bud (b1 := (bc + (2 * N + 1)) + 1) (b2 := (bs + (42 * N + 6)) + 120) (by omega) (by omega) ?_
  refine j_anew (bc := (bc + (2 * N + 1))) (bs := (bs + (42 * N + 6))) (c0 := 15) (t := 4) (n0 := 120) (np := 21) (C := "CondensedDetachment$Formula") (Or.inl rfl) (by decide) (fun _ => rfl) (fun E U h => h.2.2.1) clX2_9 dX2_init_18 rfl (fun a5 m6 => ?_)
  refine j_pR (np := 24) flX2_18 (fun _ => rfl) dX2_init_21 rfl (fun m7 => ?_)
  refine j_aload_n (q := 0) (np := 25) rfl rfl dX2_init_24 rfl ?_
  refine j_bipush (np := 27) cb_6 dX2_init_25 rfl ?_
  refine j_bud (b1 := (bc + (2 * N + 0)) + 1) (b2 := (bs + (42 * N + 0)) + 6) (by omega) (by omega) ?_
  refine j_newarr (bc := (bc + (2 * N + 0))) (bs := (bs + (42 * N + 0))) (c0 := 12) (t := 1) (n0 := 6) (np := 29) (atype := .int) (ty := .int) (Or.inr (Or.inl rfl)) rfl rfl (by decide) (by decide) (fun _ => rfl) (fun _ _ => rfl) ac_int dX2_init_27 rfl (fun a8 m9 => ?_)
  refine j_pR (np := 32) flX2_22 (fun _ => rfl) dX2_init_29 rfl (fun m10 => ?_)
  refine j_aload_n (q := 0) (np := 33) rfl rfl dX2_init_32 rfl ?_
  refine j_aload_n (q := 1) (np := 34) rfl rfl dX2_init_33 rfl ?_
  refine j_pR (np := 37) flX2_26 (fun _ => rfl) dX2_init_34 rfl (fun m11 => ?_)
  refine j_aload_n (q := 0) (np := 38) rfl rfl dX2_init_37 rfl ?_
  refine j_aload_n (q := 2) (np := 39) rfl rfl dX2_init_38 rfl ?_
  refine j_pR (np := 42) flX2_30 (fun _ => rfl) dX2_init_39 rfl (fun m12 => ?_)
  refine j_iconst (np := 43) ci_0 dX2_init_42 rfl ?_
  refine j_istore_n (np := 44) (lv2 := [(3, .int (0 : Int32)), (0, .ref (E.2.1 + v0)), (1, .ref (E.2.1 + v1)), (2, .ref (E.2.1 + v2))]) rfl (by decide) dX2_init_43 rfl rfl ?_
  refine j_sub (lv2 := [(0, .ref (E.2.1 + v0)), (3, .int (0 : Int32))]) [1, 0] rfl ?_
  refine j_bud (b1 := bc + N * 2) (b2 := bs + N * 42) (by omega) (by omega) ?_
  refine j_loop (xp := 69) (lvX := fun o13 => []) (mX := fun o13 => o13) (lbX2_init_44 (bc := bc) (bs := bs) hd _ _ _) (fun o13 => ?_)
  exact j_vret rfl dX2_init_69 (fun rr h => h)
set_option maxRecDepth 100000 in
theorem wX2_init {E : qE} {N d : Nat} (hd : 2 ≤ d) {v0 : Nat} {v1 : Nat} {v2 : Nat} {m0 : qM} {b : qM} (h : fX2_init N v0 v1 v2 m0 = some b) : qRun E yX2_init cX2_init 4 none d (2 * N + 4) (42 * N + 168) [.ref (E.2.1 + v0), .ref (E.2.1 + v1), .ref (E.2.1 + v2)] m0 (none, b) := q_met pnX2 (Nat.le_of_ble_eq_true rfl) ((j_bud (by omega) (by omega) (bX2_init (bc := 0) (bs := 0) hd)) b _ h rfl)
theorem dX2_addNew_0 : decode cX2_addNew 0 = .ok (.aload_n 0, 1) := by decide +kernel
theorem dX2_addNew_1 : decode cX2_addNew 1 = .ok (.getfield 34, 3) := by decide +kernel
theorem dX2_addNew_4 : decode cX2_addNew 4 = .ok (.bipush 120, 2) := by decide +kernel
theorem dX2_addNew_6 : decode cX2_addNew 6 = .ok (.if_icmp .lt 5, 3) := by decide +kernel
theorem dX2_addNew_9 : decode cX2_addNew 9 = .ok (.iconst 0, 1) := by decide +kernel
theorem dX2_addNew_10 : decode cX2_addNew 10 = .ok (.ireturn, 1) := by decide +kernel
theorem dX2_addNew_11 : decode cX2_addNew 11 = .ok (.aload_n 0, 1) := by decide +kernel
theorem dX2_addNew_12 : decode cX2_addNew 12 = .ok (.getfield 18, 3) := by decide +kernel
theorem dX2_addNew_15 : decode cX2_addNew 15 = .ok (.aload_n 0, 1) := by decide +kernel
theorem dX2_addNew_16 : decode cX2_addNew 16 = .ok (.getfield 34, 3) := by decide +kernel
theorem dX2_addNew_19 : decode cX2_addNew 19 = .ok (.aaload, 1) := by decide +kernel
theorem dX2_addNew_20 : decode cX2_addNew 20 = .ok (.aload_n 1, 1) := by decide +kernel
theorem dX2_addNew_21 : decode cX2_addNew 21 = .ok (.invokevirtual 82, 3) := by decide +kernel
theorem dX2_addNew_24 : decode cX2_addNew 24 = .ok (.aload_n 0, 1) := by decide +kernel
theorem dX2_addNew_25 : decode cX2_addNew 25 = .ok (.dup, 1) := by decide +kernel
theorem dX2_addNew_26 : decode cX2_addNew 26 = .ok (.getfield 34, 3) := by decide +kernel
theorem dX2_addNew_29 : decode cX2_addNew 29 = .ok (.iconst 1, 1) := by decide +kernel
theorem dX2_addNew_30 : decode cX2_addNew 30 = .ok (.iadd, 1) := by decide +kernel
theorem dX2_addNew_31 : decode cX2_addNew 31 = .ok (.putfield 34, 3) := by decide +kernel
theorem dX2_addNew_34 : decode cX2_addNew 34 = .ok (.iconst 1, 1) := by decide +kernel
theorem dX2_addNew_35 : decode cX2_addNew 35 = .ok (.ireturn, 1) := by decide +kernel
def fX2_addNew (N : Nat) (v0 : Nat) (v1 : Nat) (m0 : qM) : Option (Int32 × qM) :=
  (qgI m0 v0 2 5).bind fun x1 =>
  if x1 < (120 : Int32) then (
  (qgR m0 v0 2 3).bind fun x2 =>
  (qgI m0 v0 2 5).bind fun x3 =>
  (qaR m0 x2 15 x3).bind fun x4 =>
  (qChk m0 x4 0 (fX0_copyFrom N x4 v1 m0)).bind fun b5 =>
  (qgI b5 v0 2 5).bind fun x6 =>
  (qpI b5 v0 2 5 (x6 + (1 : Int32))).bind fun m7 =>
  some ((1 : Int32), m7)
  ) else (
  some ((0 : Int32), m0)
  )
set_option maxRecDepth 100000 in
theorem bX2_addNew {E : qE} {N d bc bs : Nat} (hd : 2 ≤ d) {v0 : Nat} {v1 : Nat} {m0 : qM} : qB E yX2_addNew cX2_addNew 2 (some .boolean) (fun _ => True) d bc bs 0 [(0, .ref (E.2.1 + v0)), (1, .ref (E.2.1 + v1))] [] m0 (fX2_addNew N v0 v1 m0) (fun b rr => rr = (some (.int b.1), b.2)) := by
  unfold fX2_addNew
  refine j_aload_n (q := 0) (np := 1) rfl rfl dX2_addNew_0 rfl ?_
  refine j_gI (np := 4) flX2_34 dX2_addNew_1 rfl (fun x1 => ?_)
  refine j_bipush (np := 6) cb_120 dX2_addNew_4 rfl ?_
  refine j_icmp_lt (tgt := 11) (np := 9) dX2_addNew_6 rfl rfl ?_ ?_
  · refine j_aload_n (q := 0) (np := 12) rfl rfl dX2_addNew_11 rfl ?_
    refine j_gR (np := 15) flX2_18 dX2_addNew_12 rfl (fun x2 => ?_)
    refine j_aload_n (q := 0) (np := 16) rfl rfl dX2_addNew_15 rfl ?_
    refine j_gI (np := 19) flX2_34 dX2_addNew_16 rfl (fun x3 => ?_)
    refine j_aaload (np := 20) (c0 := 15) (t := 4) (C := "CondensedDetachment$Formula") (Or.inl rfl) (fun _ => rfl) dX2_addNew_19 rfl (fun x4 => ?_)
    refine j_aload_n (q := 1) (np := 21) rfl rfl dX2_addNew_20 rfl ?_
    refine j_callVv (ci := 0) (np := 24) (bc := bc) (bs := bs) (cb := 0) (cs := 0) (dd := d - 1) (As := [.ref (E.2.1 + v1)]) (st := []) caX0_copyFrom mlX2_82 imX0_copyFrom seX0_copyFrom rfl rfl (by decide) (fun b hb => wX0_copyFrom (by omega) hb) (by omega) rfl rfl (Nat.le_of_ble_eq_true rfl) dX2_addNew_21 rfl (fun b5 => ?_)
    refine j_aload_n (q := 0) (np := 25) rfl rfl dX2_addNew_24 rfl ?_
    refine j_dup (np := 26) rfl dX2_addNew_25 rfl ?_
    refine j_gI (np := 29) flX2_34 dX2_addNew_26 rfl (fun x6 => ?_)
    refine j_iconst (np := 30) ci_1 dX2_addNew_29 rfl ?_
    refine j_iadd (np := 31) dX2_addNew_30 rfl ?_
    refine j_pI (np := 34) flX2_34 dX2_addNew_31 rfl (fun m7 => ?_)
    refine j_iconst (np := 35) ci_1 dX2_addNew_34 rfl ?_
    exact j_zret rfl dX2_addNew_35 (fun rr h => by rw [z1]; exact h)
  · refine j_iconst (np := 10) ci_0 dX2_addNew_9 rfl ?_
    exact j_zret rfl dX2_addNew_10 (fun rr h => by rw [z0]; exact h)
set_option maxRecDepth 100000 in
theorem wX2_addNew {E : qE} {N d : Nat} (hd : 2 ≤ d) {v0 : Nat} {v1 : Nat} {m0 : qM} {b : Int32 × qM} (h : fX2_addNew N v0 v1 m0 = some b) : qRun E yX2_addNew cX2_addNew 2 (some .boolean) d 0 0 [.ref (E.2.1 + v0), .ref (E.2.1 + v1)] m0 (some (.int b.1), b.2) := q_met pnX2 (Nat.le_of_ble_eq_true rfl) (bX2_addNew hd b _ h rfl)
theorem dX2_addAxioms_0 : decode cX2_addAxioms 0 = .ok (.iconst 0, 1) := by decide +kernel
theorem dX2_addAxioms_1 : decode cX2_addAxioms 1 = .ok (.istore_n 2, 1) := by decide +kernel
theorem dX2_addAxioms_2 : decode cX2_addAxioms 2 = .ok (.iload_n 2, 1) := by decide +kernel
theorem dX2_addAxioms_3 : decode cX2_addAxioms 3 = .ok (.aload_n 1, 1) := by decide +kernel
theorem dX2_addAxioms_4 : decode cX2_addAxioms 4 = .ok (.invokevirtual 50, 3) := by decide +kernel
theorem dX2_addAxioms_7 : decode cX2_addAxioms 7 = .ok (.if_icmp .ge 31, 3) := by decide +kernel
theorem dX2_addAxioms_10 : decode cX2_addAxioms 10 = .ok (.aload_n 1, 1) := by decide +kernel
theorem dX2_addAxioms_11 : decode cX2_addAxioms 11 = .ok (.iload_n 2, 1) := by decide +kernel
theorem dX2_addAxioms_12 : decode cX2_addAxioms 12 = .ok (.invokevirtual 55, 3) := by decide +kernel
theorem dX2_addAxioms_15 : decode cX2_addAxioms 15 = .ok (.ifCond .eq 17, 3) := by decide +kernel
theorem dX2_addAxioms_18 : decode cX2_addAxioms 18 = .ok (.aload_n 0, 1) := by decide +kernel
theorem dX2_addAxioms_19 : decode cX2_addAxioms 19 = .ok (.aload_n 1, 1) := by decide +kernel
theorem dX2_addAxioms_20 : decode cX2_addAxioms 20 = .ok (.iload_n 2, 1) := by decide +kernel
theorem dX2_addAxioms_21 : decode cX2_addAxioms 21 = .ok (.invokevirtual 58, 3) := by decide +kernel
theorem dX2_addAxioms_24 : decode cX2_addAxioms 24 = .ok (.invokevirtual 62, 3) := by decide +kernel
theorem dX2_addAxioms_27 : decode cX2_addAxioms 27 = .ok (.ifCond .ne 5, 3) := by decide +kernel
theorem dX2_addAxioms_30 : decode cX2_addAxioms 30 = .ok (.iconst 0, 1) := by decide +kernel
theorem dX2_addAxioms_31 : decode cX2_addAxioms 31 = .ok (.ireturn, 1) := by decide +kernel
theorem dX2_addAxioms_32 : decode cX2_addAxioms 32 = .ok (.iinc 2 1, 3) := by decide +kernel
theorem dX2_addAxioms_35 : decode cX2_addAxioms 35 = .ok (.goto (-33), 3) := by decide +kernel
theorem dX2_addAxioms_38 : decode cX2_addAxioms 38 = .ok (.iconst 1, 1) := by decide +kernel
theorem dX2_addAxioms_39 : decode cX2_addAxioms 39 = .ok (.ireturn, 1) := by decide +kernel
def kX2_addAxioms_32 (N : Nat) (rec : Int32 → qM → Option ((qM) ⊕ (Int32 × qM))) (v0 : Nat) (v1 : Nat) (v2 : Int32)  (m0 : qM) : Option ((qM) ⊕ (Int32 × qM)) :=
  rec (v2 + (1 : Int32)) m0
set_option maxRecDepth 100000 in
theorem kbX2_addAxioms_32 {E : qE} {N d bc bs : Nat} (hd : 3 ≤ d) {v0 : Nat} {v1 : Nat} {v2 : Int32}  {m0 : qM} {rec : Int32 → qM → Option ((qM) ⊕ (Int32 × qM))} (hrec : ∀ (v2 : Int32) (m : qM), qB E yX2_addAxioms cX2_addAxioms 3 (some .boolean) (fun _ => True) d bc bs 2 [(0, .ref (E.2.1 + v0)), (1, .ref (E.2.1 + v1)), (2, .int v2)] [] m (rec v2 m) (qGL (fun o rr => qJ E yX2_addAxioms cX2_addAxioms 3 (some .boolean) (fun _ => True) d bc bs 38 [] [] o rr) (fun r => (some (.int r.1), r.2)))) : qB E yX2_addAxioms cX2_addAxioms 3 (some .boolean) (fun _ => True) d bc bs 32 [(0, .ref (E.2.1 + v0)), (1, .ref (E.2.1 + v1)), (2, .int v2)] [] m0 (kX2_addAxioms_32 N rec v0 v1 v2 m0) (qGL (fun o rr => qJ E yX2_addAxioms cX2_addAxioms 3 (some .boolean) (fun _ => True) d bc bs 38 [] [] o rr) (fun r => (some (.int r.1), r.2))) := by
  unfold kX2_addAxioms_32
  refine j_iinc (q := 2) (np := 35) (lv2 := [(2, .int (v2 + (1 : Int32))), (0, .ref (E.2.1 + v0)), (1, .ref (E.2.1 + v1))]) rfl (congrArg _ ci_1) (by decide) dX2_addAxioms_32 rfl rfl ?_
  refine j_goto (tgt := 2) dX2_addAxioms_35 rfl ?_
  refine j_sub (lv2 := [(0, .ref (E.2.1 + v0)), (1, .ref (E.2.1 + v1)), (2, .int (v2 + (1 : Int32)))]) [1, 2, 0] rfl ?_
  exact hrec _ _
def lX2_addAxioms_2 (N : Nat) (v0 : Nat) (v1 : Nat) : Nat → Int32 → qM → Option ((qM) ⊕ (Int32 × qM))
  | 0, _, _ => none
  | n + 1, v2, m0 =>
    (qChk m0 v1 1 (fX1_count N v1 m0)).bind fun b1 =>
    if b1.1 ≤ v2 then (
    some (.inl b1.2)
    ) else (
    (qChk b1.2 v1 1 (fX1_isAxiom N v1 v2 b1.2)).bind fun b2 =>
    if b2.1 = 0 then (
    kX2_addAxioms_32 N (lX2_addAxioms_2 N v0 v1 n) v0 v1 v2 b2.2
    ) else (
    (qChk b2.2 v1 1 (fX1_at N v1 v2 b2.2)).bind fun b3 =>
    (qChk b3.2 v0 2 (fX2_addNew N v0 b3.1 b3.2)).bind fun b4 =>
    if b4.1 = 0 then (
    some (.inr ((0 : Int32), b4.2))
    ) else (
    kX2_addAxioms_32 N (lX2_addAxioms_2 N v0 v1 n) v0 v1 v2 b4.2
    )
    )
    )
set_option maxRecDepth 100000 in
theorem lbX2_addAxioms_2 {E : qE} {N d bc bs : Nat} (hd : 3 ≤ d) {v0 : Nat} {v1 : Nat} : ∀ (n : Nat) (v2 : Int32) (m0 : qM), qB E yX2_addAxioms cX2_addAxioms 3 (some .boolean) (fun _ => True) d bc bs 2 [(0, .ref (E.2.1 + v0)), (1, .ref (E.2.1 + v1)), (2, .int v2)] [] m0 (lX2_addAxioms_2 N v0 v1 n v2 m0) (qGL (fun o rr => qJ E yX2_addAxioms cX2_addAxioms 3 (some .boolean) (fun _ => True) d bc bs 38 [] [] o rr) (fun r => (some (.int r.1), r.2))) := by
  intro n
  induction n with
  | zero =>
    intro v2 m0
    exact j_none
  | succ n ih =>
    intro v2 m0
    unfold lX2_addAxioms_2
    refine j_iload_n (q := 2) (np := 3) rfl rfl dX2_addAxioms_2 rfl ?_
    refine j_aload_n (q := 1) (np := 4) rfl rfl dX2_addAxioms_3 rfl ?_
    refine j_callVi (ci := 1) (np := 7) (bc := bc) (bs := bs) (cb := 0) (cs := 0) (dd := d - 1) (As := []) (st := [.int v2]) caX1_count mlX2_50 imX1_count seX1_count rfl rfl (by decide) (fun b hb => wX1_count (by omega) hb) (by omega) rfl rfl (Nat.le_of_ble_eq_true rfl) dX2_addAxioms_4 rfl (fun b1 => ?_)
    refine j_icmp_ge (tgt := 38) (np := 10) dX2_addAxioms_7 rfl rfl ?_ ?_
    · refine j_sub (lv2 := []) [] rfl ?_
      exact j_exit (fun rr h => h)
    · refine j_aload_n (q := 1) (np := 11) rfl rfl dX2_addAxioms_10 rfl ?_
      refine j_iload_n (q := 2) (np := 12) rfl rfl dX2_addAxioms_11 rfl ?_
      refine j_callVi (ci := 1) (np := 15) (bc := bc) (bs := bs) (cb := 0) (cs := 0) (dd := d - 1) (As := [.int v2]) (st := []) caX1_isAxiom mlX2_55 imX1_isAxiom seX1_isAxiom rfl rfl (by decide) (fun b hb => wX1_isAxiom (by omega) hb) (by omega) rfl rfl (Nat.le_of_ble_eq_true rfl) dX2_addAxioms_12 rfl (fun b2 => ?_)
      refine j_if_eq (tgt := 32) (np := 18) dX2_addAxioms_15 rfl rfl ?_ ?_
      · exact kbX2_addAxioms_32 hd ih
      · refine j_aload_n (q := 0) (np := 19) rfl rfl dX2_addAxioms_18 rfl ?_
        refine j_aload_n (q := 1) (np := 20) rfl rfl dX2_addAxioms_19 rfl ?_
        refine j_iload_n (q := 2) (np := 21) rfl rfl dX2_addAxioms_20 rfl ?_
        refine j_callVr (ci := 1) (np := 24) (bc := bc) (bs := bs) (cb := 0) (cs := 0) (dd := d - 1) (As := [.int v2]) (st := [.ref (E.2.1 + v0)]) caX1_at mlX2_58 imX1_at seX1_at rfl rfl (by decide) (fun b hb => wX1_at (by omega) hb) (by omega) rfl rfl (Nat.le_of_ble_eq_true rfl) dX2_addAxioms_21 rfl (fun b3 => ?_)
        refine j_callVi (ci := 2) (np := 27) (bc := bc) (bs := bs) (cb := 0) (cs := 0) (dd := d - 1) (As := [.ref (E.2.1 + b3.1)]) (st := []) caX2_addNew mlX2_62 imX2_addNew seX2_addNew rfl rfl (by decide) (fun b hb => wX2_addNew (by omega) hb) (by omega) rfl rfl (Nat.le_of_ble_eq_true rfl) dX2_addAxioms_24 rfl (fun b4 => ?_)
        refine j_if_ne (tgt := 32) (np := 30) dX2_addAxioms_27 rfl rfl ?_ ?_
        · exact kbX2_addAxioms_32 hd ih
        · refine j_iconst (np := 31) ci_0 dX2_addAxioms_30 rfl ?_
          exact j_zret rfl dX2_addAxioms_31 (fun rr h => by rw [z0]; exact h)
def fX2_addAxioms (N : Nat) (v0 : Nat) (v1 : Nat) (m0 : qM) : Option (Int32 × qM) :=
  qTh (lX2_addAxioms_2 N v0 v1 N (0 : Int32) m0) (fun o1 =>
  some ((1 : Int32), o1)
  ) (fun r => r)
set_option maxRecDepth 100000 in
theorem bX2_addAxioms {E : qE} {N d bc bs : Nat} (hd : 3 ≤ d) {v0 : Nat} {v1 : Nat} {m0 : qM} : qB E yX2_addAxioms cX2_addAxioms 3 (some .boolean) (fun _ => True) d bc bs 0 [(0, .ref (E.2.1 + v0)), (1, .ref (E.2.1 + v1))] [] m0 (fX2_addAxioms N v0 v1 m0) (fun b rr => rr = (some (.int b.1), b.2)) := by
  unfold fX2_addAxioms
  refine j_iconst (np := 1) ci_0 dX2_addAxioms_0 rfl ?_
  refine j_istore_n (np := 2) (lv2 := [(2, .int (0 : Int32)), (0, .ref (E.2.1 + v0)), (1, .ref (E.2.1 + v1))]) rfl (by decide) dX2_addAxioms_1 rfl rfl ?_
  refine j_sub (lv2 := [(0, .ref (E.2.1 + v0)), (1, .ref (E.2.1 + v1)), (2, .int (0 : Int32))]) [1, 2, 0] rfl ?_
  refine j_loopG (xp := 38) (lvX := fun o1 => []) (mX := fun o1 => o1) (lbX2_addAxioms_2 hd _ _ _) (fun r rr h => h) (fun o1 => ?_)
  refine j_iconst (np := 39) ci_1 dX2_addAxioms_38 rfl ?_
  exact j_zret rfl dX2_addAxioms_39 (fun rr h => by rw [z1]; exact h)
set_option maxRecDepth 100000 in
theorem wX2_addAxioms {E : qE} {N d : Nat} (hd : 3 ≤ d) {v0 : Nat} {v1 : Nat} {m0 : qM} {b : Int32 × qM} (h : fX2_addAxioms N v0 v1 m0 = some b) : qRun E yX2_addAxioms cX2_addAxioms 3 (some .boolean) d 0 0 [.ref (E.2.1 + v0), .ref (E.2.1 + v1)] m0 (some (.int b.1), b.2) := q_met pnX2 (Nat.le_of_ble_eq_true rfl) (bX2_addAxioms hd b _ h rfl)
theorem dX2_isKnown_0 : decode cX2_isKnown 0 = .ok (.iconst 0, 1) := by decide +kernel
theorem dX2_isKnown_1 : decode cX2_isKnown 1 = .ok (.istore_n 2, 1) := by decide +kernel
theorem dX2_isKnown_2 : decode cX2_isKnown 2 = .ok (.iload_n 2, 1) := by decide +kernel
theorem dX2_isKnown_3 : decode cX2_isKnown 3 = .ok (.aload_n 0, 1) := by decide +kernel
theorem dX2_isKnown_4 : decode cX2_isKnown 4 = .ok (.getfield 34, 3) := by decide +kernel
theorem dX2_isKnown_7 : decode cX2_isKnown 7 = .ok (.if_icmp .ge 24, 3) := by decide +kernel
theorem dX2_isKnown_10 : decode cX2_isKnown 10 = .ok (.aload_n 0, 1) := by decide +kernel
theorem dX2_isKnown_11 : decode cX2_isKnown 11 = .ok (.getfield 18, 3) := by decide +kernel
theorem dX2_isKnown_14 : decode cX2_isKnown 14 = .ok (.iload_n 2, 1) := by decide +kernel
theorem dX2_isKnown_15 : decode cX2_isKnown 15 = .ok (.aaload, 1) := by decide +kernel
theorem dX2_isKnown_16 : decode cX2_isKnown 16 = .ok (.aload_n 1, 1) := by decide +kernel
theorem dX2_isKnown_17 : decode cX2_isKnown 17 = .ok (.invokevirtual 79, 3) := by decide +kernel
theorem dX2_isKnown_20 : decode cX2_isKnown 20 = .ok (.ifCond .eq 5, 3) := by decide +kernel
theorem dX2_isKnown_23 : decode cX2_isKnown 23 = .ok (.iconst 1, 1) := by decide +kernel
theorem dX2_isKnown_24 : decode cX2_isKnown 24 = .ok (.ireturn, 1) := by decide +kernel
theorem dX2_isKnown_25 : decode cX2_isKnown 25 = .ok (.iinc 2 1, 3) := by decide +kernel
theorem dX2_isKnown_28 : decode cX2_isKnown 28 = .ok (.goto (-26), 3) := by decide +kernel
theorem dX2_isKnown_31 : decode cX2_isKnown 31 = .ok (.iconst 0, 1) := by decide +kernel
theorem dX2_isKnown_32 : decode cX2_isKnown 32 = .ok (.ireturn, 1) := by decide +kernel
def lX2_isKnown_2 (N : Nat) (v0 : Nat) (v1 : Nat) : Nat → Int32 → qM → Option ((qM) ⊕ (Int32 × qM))
  | 0, _, _ => none
  | n + 1, v2, m0 =>
    (qgI m0 v0 2 5).bind fun x1 =>
    if x1 ≤ v2 then (
    some (.inl m0)
    ) else (
    (qgR m0 v0 2 3).bind fun x2 =>
    (qaR m0 x2 15 v2).bind fun x3 =>
    (qChk m0 x3 0 (fX0_sameAs N x3 v1 m0)).bind fun b4 =>
    if b4.1 = 0 then (
    lX2_isKnown_2 N v0 v1 n (v2 + (1 : Int32)) b4.2
    ) else (
    some (.inr ((1 : Int32), b4.2))
    )
    )
set_option maxRecDepth 100000 in
theorem lbX2_isKnown_2 {E : qE} {N d bc bs : Nat} (hd : 2 ≤ d) {v0 : Nat} {v1 : Nat} : ∀ (n : Nat) (v2 : Int32) (m0 : qM), qB E yX2_isKnown cX2_isKnown 3 (some .boolean) (fun _ => True) d bc bs 2 [(0, .ref (E.2.1 + v0)), (1, .ref (E.2.1 + v1)), (2, .int v2)] [] m0 (lX2_isKnown_2 N v0 v1 n v2 m0) (qGL (fun o rr => qJ E yX2_isKnown cX2_isKnown 3 (some .boolean) (fun _ => True) d bc bs 31 [] [] o rr) (fun r => (some (.int r.1), r.2))) := by
  intro n
  induction n with
  | zero =>
    intro v2 m0
    exact j_none
  | succ n ih =>
    intro v2 m0
    unfold lX2_isKnown_2
    refine j_iload_n (q := 2) (np := 3) rfl rfl dX2_isKnown_2 rfl ?_
    refine j_aload_n (q := 0) (np := 4) rfl rfl dX2_isKnown_3 rfl ?_
    refine j_gI (np := 7) flX2_34 dX2_isKnown_4 rfl (fun x1 => ?_)
    refine j_icmp_ge (tgt := 31) (np := 10) dX2_isKnown_7 rfl rfl ?_ ?_
    · refine j_sub (lv2 := []) [] rfl ?_
      exact j_exit (fun rr h => h)
    · refine j_aload_n (q := 0) (np := 11) rfl rfl dX2_isKnown_10 rfl ?_
      refine j_gR (np := 14) flX2_18 dX2_isKnown_11 rfl (fun x2 => ?_)
      refine j_iload_n (q := 2) (np := 15) rfl rfl dX2_isKnown_14 rfl ?_
      refine j_aaload (np := 16) (c0 := 15) (t := 4) (C := "CondensedDetachment$Formula") (Or.inl rfl) (fun _ => rfl) dX2_isKnown_15 rfl (fun x3 => ?_)
      refine j_aload_n (q := 1) (np := 17) rfl rfl dX2_isKnown_16 rfl ?_
      refine j_callVi (ci := 0) (np := 20) (bc := bc) (bs := bs) (cb := 0) (cs := 0) (dd := d - 1) (As := [.ref (E.2.1 + v1)]) (st := []) caX0_sameAs mlX2_79 imX0_sameAs seX0_sameAs rfl rfl (by decide) (fun b hb => wX0_sameAs (by omega) hb) (by omega) rfl rfl (Nat.le_of_ble_eq_true rfl) dX2_isKnown_17 rfl (fun b4 => ?_)
      refine j_if_eq (tgt := 25) (np := 23) dX2_isKnown_20 rfl rfl ?_ ?_
      · refine j_iinc (q := 2) (np := 28) (lv2 := [(2, .int (v2 + (1 : Int32))), (0, .ref (E.2.1 + v0)), (1, .ref (E.2.1 + v1))]) rfl (congrArg _ ci_1) (by decide) dX2_isKnown_25 rfl rfl ?_
        refine j_goto (tgt := 2) dX2_isKnown_28 rfl ?_
        refine j_sub (lv2 := [(0, .ref (E.2.1 + v0)), (1, .ref (E.2.1 + v1)), (2, .int (v2 + (1 : Int32)))]) [1, 2, 0] rfl ?_
        exact ih _ _
      · refine j_iconst (np := 24) ci_1 dX2_isKnown_23 rfl ?_
        exact j_zret rfl dX2_isKnown_24 (fun rr h => by rw [z1]; exact h)
def fX2_isKnown (N : Nat) (v0 : Nat) (v1 : Nat) (m0 : qM) : Option (Int32 × qM) :=
  qTh (lX2_isKnown_2 N v0 v1 N (0 : Int32) m0) (fun o1 =>
  some ((0 : Int32), o1)
  ) (fun r => r)
set_option maxRecDepth 100000 in
theorem bX2_isKnown {E : qE} {N d bc bs : Nat} (hd : 2 ≤ d) {v0 : Nat} {v1 : Nat} {m0 : qM} : qB E yX2_isKnown cX2_isKnown 3 (some .boolean) (fun _ => True) d bc bs 0 [(0, .ref (E.2.1 + v0)), (1, .ref (E.2.1 + v1))] [] m0 (fX2_isKnown N v0 v1 m0) (fun b rr => rr = (some (.int b.1), b.2)) := by
  unfold fX2_isKnown
  refine j_iconst (np := 1) ci_0 dX2_isKnown_0 rfl ?_
  refine j_istore_n (np := 2) (lv2 := [(2, .int (0 : Int32)), (0, .ref (E.2.1 + v0)), (1, .ref (E.2.1 + v1))]) rfl (by decide) dX2_isKnown_1 rfl rfl ?_
  refine j_sub (lv2 := [(0, .ref (E.2.1 + v0)), (1, .ref (E.2.1 + v1)), (2, .int (0 : Int32))]) [1, 2, 0] rfl ?_
  refine j_loopG (xp := 31) (lvX := fun o1 => []) (mX := fun o1 => o1) (lbX2_isKnown_2 hd _ _ _) (fun r rr h => h) (fun o1 => ?_)
  refine j_iconst (np := 32) ci_0 dX2_isKnown_31 rfl ?_
  exact j_zret rfl dX2_isKnown_32 (fun rr h => by rw [z0]; exact h)
set_option maxRecDepth 100000 in
theorem wX2_isKnown {E : qE} {N d : Nat} (hd : 2 ≤ d) {v0 : Nat} {v1 : Nat} {m0 : qM} {b : Int32 × qM} (h : fX2_isKnown N v0 v1 m0 = some b) : qRun E yX2_isKnown cX2_isKnown 3 (some .boolean) d 0 0 [.ref (E.2.1 + v0), .ref (E.2.1 + v1)] m0 (some (.int b.1), b.2) := q_met pnX2 (Nat.le_of_ble_eq_true rfl) (bX2_isKnown hd b _ h rfl)
theorem dJ7_fill_53178_0 : decode cJ7_fill_53178 0 = .ok (.iconst 0, 1) := by decide +kernel
theorem dJ7_fill_53178_1 : decode cJ7_fill_53178 1 = .ok (.istore_n 2, 1) := by decide +kernel
theorem dJ7_fill_53178_2 : decode cJ7_fill_53178 2 = .ok (.aload_n 0, 1) := by decide +kernel
theorem dJ7_fill_53178_3 : decode cJ7_fill_53178 3 = .ok (.arraylength, 1) := by decide +kernel
theorem dJ7_fill_53178_4 : decode cJ7_fill_53178 4 = .ok (.istore_n 3, 1) := by decide +kernel
theorem dJ7_fill_53178_5 : decode cJ7_fill_53178 5 = .ok (.iload_n 2, 1) := by decide +kernel
theorem dJ7_fill_53178_6 : decode cJ7_fill_53178 6 = .ok (.iload_n 3, 1) := by decide +kernel
theorem dJ7_fill_53178_7 : decode cJ7_fill_53178 7 = .ok (.if_icmp .ge 13, 3) := by decide +kernel
theorem dJ7_fill_53178_10 : decode cJ7_fill_53178 10 = .ok (.aload_n 0, 1) := by decide +kernel
theorem dJ7_fill_53178_11 : decode cJ7_fill_53178 11 = .ok (.iload_n 2, 1) := by decide +kernel
theorem dJ7_fill_53178_12 : decode cJ7_fill_53178 12 = .ok (.iload_n 1, 1) := by decide +kernel
theorem dJ7_fill_53178_13 : decode cJ7_fill_53178 13 = .ok (.iastore, 1) := by decide +kernel
theorem dJ7_fill_53178_14 : decode cJ7_fill_53178 14 = .ok (.iinc 2 1, 3) := by decide +kernel
theorem dJ7_fill_53178_17 : decode cJ7_fill_53178 17 = .ok (.goto (-12), 3) := by decide +kernel
theorem dJ7_fill_53178_20 : decode cJ7_fill_53178 20 = .ok (.return_, 1) := by decide +kernel
def lJ7_fill_53178_5 (N : Nat) (v0 : Nat) (v1 : Int32) (v3 : Int32) : Nat → Int32 → qM → Option (qM)
  | 0, _, _ => none
  | n + 1, v2, m0 =>
    if v3 ≤ v2 then (
    some m0
    ) else (
    (qwI m0 v0 12 v2 v1).bind fun m1 =>
    lJ7_fill_53178_5 N v0 v1 v3 n (v2 + (1 : Int32)) m1
    )
set_option maxRecDepth 100000 in
theorem lbJ7_fill_53178_5 {E : qE} {N d bc bs : Nat} (hd : 0 ≤ d) {v0 : Nat} {v1 : Int32} {v3 : Int32} : ∀ (n : Nat) (v2 : Int32) (m0 : qM), qB E yJ7_fill_53178 cJ7_fill_53178 4 none (fun _ => True) d bc bs 5 [(0, .ref (E.2.1 + v0)), (1, .int v1), (2, .int v2), (3, .int v3)] [] m0 (lJ7_fill_53178_5 N v0 v1 v3 n v2 m0) (fun o rr => qJ E yJ7_fill_53178 cJ7_fill_53178 4 none (fun _ => True) d bc bs 20 [] [] o rr) := by
  intro n
  induction n with
  | zero =>
    intro v2 m0
    exact j_none
  | succ n ih =>
    intro v2 m0
    unfold lJ7_fill_53178_5
    refine j_iload_n (q := 2) (np := 6) rfl rfl dJ7_fill_53178_5 rfl ?_
    refine j_iload_n (q := 3) (np := 7) rfl rfl dJ7_fill_53178_6 rfl ?_
    refine j_icmp_ge (tgt := 20) (np := 10) dJ7_fill_53178_7 rfl rfl ?_ ?_
    · refine j_sub (lv2 := []) [] rfl ?_
      exact j_exit (fun rr h => h)
    · refine j_aload_n (q := 0) (np := 11) rfl rfl dJ7_fill_53178_10 rfl ?_
      refine j_iload_n (q := 2) (np := 12) rfl rfl dJ7_fill_53178_11 rfl ?_
      refine j_iload_n (q := 1) (np := 13) rfl rfl dJ7_fill_53178_12 rfl ?_
      refine j_iastore (np := 14) dJ7_fill_53178_13 rfl (fun m1 => ?_)
      refine j_iinc (q := 2) (np := 17) (lv2 := [(2, .int (v2 + (1 : Int32))), (0, .ref (E.2.1 + v0)), (1, .int v1), (3, .int v3)]) rfl (congrArg _ ci_1) (by decide) dJ7_fill_53178_14 rfl rfl ?_
      refine j_goto (tgt := 5) dJ7_fill_53178_17 rfl ?_
      refine j_sub (lv2 := [(0, .ref (E.2.1 + v0)), (1, .int v1), (2, .int (v2 + (1 : Int32))), (3, .int v3)]) [1, 2, 0, 3] rfl ?_
      exact ih _ _
def fJ7_fill_53178 (N : Nat) (v0 : Nat) (v1 : Int32) (m0 : qM) : Option (qM) :=
  (if qK m0 v0 = 12 then some (Int32.ofNat (qN m0 v0)) else none).bind fun x1 =>
  (lJ7_fill_53178_5 N v0 v1 x1 N (0 : Int32) m0).bind fun o2 =>
  some o2
set_option maxRecDepth 100000 in
theorem bJ7_fill_53178 {E : qE} {N d bc bs : Nat} (hd : 0 ≤ d) {v0 : Nat} {v1 : Int32} {m0 : qM} : qB E yJ7_fill_53178 cJ7_fill_53178 4 none (fun _ => True) d bc bs 0 [(0, .ref (E.2.1 + v0)), (1, .int v1)] [] m0 (fJ7_fill_53178 N v0 v1 m0) (fun b rr => rr = (none, b)) := by
  unfold fJ7_fill_53178
  refine j_iconst (np := 1) ci_0 dJ7_fill_53178_0 rfl ?_
  refine j_istore_n (np := 2) (lv2 := [(2, .int (0 : Int32)), (0, .ref (E.2.1 + v0)), (1, .int v1)]) rfl (by decide) dJ7_fill_53178_1 rfl rfl ?_
  refine j_aload_n (q := 1) (np := 3) rfl rfl dJ7_fill_53178_2 rfl ?_
  refine j_len (np := 4) dJ7_fill_53178_3 rfl (fun x1 => ?_)
  refine j_istore_n (np := 5) (lv2 := [(3, .int x1), (2, .int (0 : Int32)), (0, .ref (E.2.1 + v0)), (1, .int v1)]) rfl (by decide) dJ7_fill_53178_4 rfl rfl ?_
  refine j_sub (lv2 := [(0, .ref (E.2.1 + v0)), (1, .int v1), (2, .int (0 : Int32)), (3, .int x1)]) [2, 3, 1, 0] rfl ?_
  refine j_loop (xp := 20) (lvX := fun o2 => []) (mX := fun o2 => o2) (lbJ7_fill_53178_5 hd _ _ _) (fun o2 => ?_)
  exact j_vret rfl dJ7_fill_53178_20 (fun rr h => h)
set_option maxRecDepth 100000 in
theorem wJ7_fill_53178 {E : qE} {N d : Nat} (hd : 0 ≤ d) {v0 : Nat} {v1 : Int32} {m0 : qM} {b : qM} (h : fJ7_fill_53178 N v0 v1 m0 = some b) : qRun E yJ7_fill_53178 cJ7_fill_53178 4 none d 0 0 [.ref (E.2.1 + v0), .int v1] m0 (none, b) := q_met pnJ7 (Nat.le_of_ble_eq_true rfl) (bJ7_fill_53178 hd b _ h rfl)
theorem dX8_load_0 : decode cX8_load 0 = .ok (.aload_n 0, 1) := by decide +kernel
theorem dX8_load_1 : decode cX8_load 1 = .ok (.getfield 33, 3) := by decide +kernel
theorem dX8_load_4 : decode cX8_load 4 = .ok (.iconst (-1), 1) := by decide +kernel
theorem dX8_load_5 : decode cX8_load 5 = .ok (.invokestatic 64, 3) := by decide +kernel
theorem dX8_load_8 : decode cX8_load 8 = .ok (.iconst 0, 1) := by decide +kernel
theorem dX8_load_9 : decode cX8_load 9 = .ok (.istore_n 3, 1) := by decide +kernel
theorem dX8_load_10 : decode cX8_load 10 = .ok (.aload_n 1, 1) := by decide +kernel
theorem dX8_load_11 : decode cX8_load 11 = .ok (.invokevirtual 45, 3) := by decide +kernel
theorem dX8_load_14 : decode cX8_load 14 = .ok (.iconst 1, 1) := by decide +kernel
theorem dX8_load_15 : decode cX8_load 15 = .ok (.isub, 1) := by decide +kernel
theorem dX8_load_16 : decode cX8_load 16 = .ok (.istore 4, 2) := by decide +kernel
theorem dX8_load_18 : decode cX8_load 18 = .ok (.iload 4, 2) := by decide +kernel
theorem dX8_load_20 : decode cX8_load 20 = .ok (.ifCond .lt 136, 3) := by decide +kernel
theorem dX8_load_23 : decode cX8_load 23 = .ok (.iload_n 2, 1) := by decide +kernel
theorem dX8_load_24 : decode cX8_load 24 = .ok (.iload 4, 2) := by decide +kernel
theorem dX8_load_26 : decode cX8_load 26 = .ok (.iadd, 1) := by decide +kernel
theorem dX8_load_27 : decode cX8_load 27 = .ok (.istore 5, 2) := by decide +kernel
theorem dX8_load_29 : decode cX8_load 29 = .ok (.aload_n 1, 1) := by decide +kernel
theorem dX8_load_30 : decode cX8_load 30 = .ok (.iload 4, 2) := by decide +kernel
theorem dX8_load_32 : decode cX8_load 32 = .ok (.invokevirtual 70, 3) := by decide +kernel
theorem dX8_load_35 : decode cX8_load 35 = .ok (.istore 6, 2) := by decide +kernel
theorem dX8_load_37 : decode cX8_load 37 = .ok (.aload_n 0, 1) := by decide +kernel
theorem dX8_load_38 : decode cX8_load 38 = .ok (.getfield 15, 3) := by decide +kernel
theorem dX8_load_41 : decode cX8_load 41 = .ok (.iload 5, 2) := by decide +kernel
theorem dX8_load_43 : decode cX8_load 43 = .ok (.iload 5, 2) := by decide +kernel
theorem dX8_load_45 : decode cX8_load 45 = .ok (.iastore, 1) := by decide +kernel
theorem dX8_load_46 : decode cX8_load 46 = .ok (.iload 6, 2) := by decide +kernel
theorem dX8_load_48 : decode cX8_load 48 = .ok (.iconst (-1), 1) := by decide +kernel
theorem dX8_load_49 : decode cX8_load 49 = .ok (.if_icmp .eq 59, 3) := by decide +kernel
theorem dX8_load_52 : decode cX8_load 52 = .ok (.aload_n 0, 1) := by decide +kernel
theorem dX8_load_53 : decode cX8_load 53 = .ok (.getfield 18, 3) := by decide +kernel
theorem dX8_load_56 : decode cX8_load 56 = .ok (.iload 5, 2) := by decide +kernel
theorem dX8_load_58 : decode cX8_load 58 = .ok (.iconst (-1), 1) := by decide +kernel
theorem dX8_load_59 : decode cX8_load 59 = .ok (.iastore, 1) := by decide +kernel
theorem dX8_load_60 : decode cX8_load 60 = .ok (.aload_n 0, 1) := by decide +kernel
theorem dX8_load_61 : decode cX8_load 61 = .ok (.getfield 33, 3) := by decide +kernel
theorem dX8_load_64 : decode cX8_load 64 = .ok (.iload 6, 2) := by decide +kernel
theorem dX8_load_66 : decode cX8_load 66 = .ok (.iaload, 1) := by decide +kernel
theorem dX8_load_67 : decode cX8_load 67 = .ok (.iconst (-1), 1) := by decide +kernel
theorem dX8_load_68 : decode cX8_load 68 = .ok (.if_icmp .ne 12, 3) := by decide +kernel
theorem dX8_load_71 : decode cX8_load 71 = .ok (.aload_n 0, 1) := by decide +kernel
theorem dX8_load_72 : decode cX8_load 72 = .ok (.getfield 33, 3) := by decide +kernel
theorem dX8_load_75 : decode cX8_load 75 = .ok (.iload 6, 2) := by decide +kernel
theorem dX8_load_77 : decode cX8_load 77 = .ok (.iload 5, 2) := by decide +kernel
theorem dX8_load_79 : decode cX8_load 79 = .ok (.iastore, 1) := by decide +kernel
theorem dX8_load_80 : decode cX8_load 80 = .ok (.aload_n 0, 1) := by decide +kernel
theorem dX8_load_81 : decode cX8_load 81 = .ok (.getfield 15, 3) := by decide +kernel
theorem dX8_load_84 : decode cX8_load 84 = .ok (.iload 5, 2) := by decide +kernel
theorem dX8_load_86 : decode cX8_load 86 = .ok (.aload_n 0, 1) := by decide +kernel
theorem dX8_load_87 : decode cX8_load 87 = .ok (.getfield 33, 3) := by decide +kernel
theorem dX8_load_90 : decode cX8_load 90 = .ok (.iload 6, 2) := by decide +kernel
theorem dX8_load_92 : decode cX8_load 92 = .ok (.iaload, 1) := by decide +kernel
theorem dX8_load_93 : decode cX8_load 93 = .ok (.iastore, 1) := by decide +kernel
theorem dX8_load_94 : decode cX8_load 94 = .ok (.aload_n 0, 1) := by decide +kernel
theorem dX8_load_95 : decode cX8_load 95 = .ok (.getfield 24, 3) := by decide +kernel
theorem dX8_load_98 : decode cX8_load 98 = .ok (.iload_n 3, 1) := by decide +kernel
theorem dX8_load_99 : decode cX8_load 99 = .ok (.iload 5, 2) := by decide +kernel
theorem dX8_load_101 : decode cX8_load 101 = .ok (.iastore, 1) := by decide +kernel
theorem dX8_load_102 : decode cX8_load 102 = .ok (.iinc 3 1, 3) := by decide +kernel
theorem dX8_load_105 : decode cX8_load 105 = .ok (.goto 45, 3) := by decide +kernel
theorem dX8_load_108 : decode cX8_load 108 = .ok (.iload_n 3, 1) := by decide +kernel
theorem dX8_load_109 : decode cX8_load 109 = .ok (.iconst 2, 1) := by decide +kernel
theorem dX8_load_110 : decode cX8_load 110 = .ok (.if_icmp .lt 40, 3) := by decide +kernel
theorem dX8_load_113 : decode cX8_load 113 = .ok (.aload_n 0, 1) := by decide +kernel
theorem dX8_load_114 : decode cX8_load 114 = .ok (.getfield 18, 3) := by decide +kernel
theorem dX8_load_117 : decode cX8_load 117 = .ok (.iload 5, 2) := by decide +kernel
theorem dX8_load_119 : decode cX8_load 119 = .ok (.iload 5, 2) := by decide +kernel
theorem dX8_load_121 : decode cX8_load 121 = .ok (.iastore, 1) := by decide +kernel
theorem dX8_load_122 : decode cX8_load 122 = .ok (.iinc 3 (-1), 3) := by decide +kernel
theorem dX8_load_125 : decode cX8_load 125 = .ok (.aload_n 0, 1) := by decide +kernel
theorem dX8_load_126 : decode cX8_load 126 = .ok (.getfield 11, 3) := by decide +kernel
theorem dX8_load_129 : decode cX8_load 129 = .ok (.iload 5, 2) := by decide +kernel
theorem dX8_load_131 : decode cX8_load 131 = .ok (.aload_n 0, 1) := by decide +kernel
theorem dX8_load_132 : decode cX8_load 132 = .ok (.getfield 24, 3) := by decide +kernel
theorem dX8_load_135 : decode cX8_load 135 = .ok (.iload_n 3, 1) := by decide +kernel
theorem dX8_load_136 : decode cX8_load 136 = .ok (.iconst 1, 1) := by decide +kernel
theorem dX8_load_137 : decode cX8_load 137 = .ok (.isub, 1) := by decide +kernel
theorem dX8_load_138 : decode cX8_load 138 = .ok (.iaload, 1) := by decide +kernel
theorem dX8_load_139 : decode cX8_load 139 = .ok (.iastore, 1) := by decide +kernel
theorem dX8_load_140 : decode cX8_load 140 = .ok (.aload_n 0, 1) := by decide +kernel
theorem dX8_load_141 : decode cX8_load 141 = .ok (.getfield 24, 3) := by decide +kernel
theorem dX8_load_144 : decode cX8_load 144 = .ok (.iload_n 3, 1) := by decide +kernel
theorem dX8_load_145 : decode cX8_load 145 = .ok (.iconst 1, 1) := by decide +kernel
theorem dX8_load_146 : decode cX8_load 146 = .ok (.isub, 1) := by decide +kernel
theorem dX8_load_147 : decode cX8_load 147 = .ok (.iload 5, 2) := by decide +kernel
theorem dX8_load_149 : decode cX8_load 149 = .ok (.iastore, 1) := by decide +kernel
theorem dX8_load_150 : decode cX8_load 150 = .ok (.iinc 4 (-1), 3) := by decide +kernel
theorem dX8_load_153 : decode cX8_load 153 = .ok (.goto (-135), 3) := by decide +kernel
theorem dX8_load_156 : decode cX8_load 156 = .ok (.aload_n 0, 1) := by decide +kernel
theorem dX8_load_157 : decode cX8_load 157 = .ok (.iload_n 2, 1) := by decide +kernel
theorem dX8_load_158 : decode cX8_load 158 = .ok (.aload_n 1, 1) := by decide +kernel
theorem dX8_load_159 : decode cX8_load 159 = .ok (.invokevirtual 45, 3) := by decide +kernel
theorem dX8_load_162 : decode cX8_load 162 = .ok (.iadd, 1) := by decide +kernel
theorem dX8_load_163 : decode cX8_load 163 = .ok (.putfield 74, 3) := by decide +kernel
theorem dX8_load_166 : decode cX8_load 166 = .ok (.return_, 1) := by decide +kernel
def kX8_load_150 (N : Nat) (rec : Int32 → Int32 → qM → Option (qM)) (v0 : Nat) (v1 : Nat) (v2 : Int32) (v3 : Int32) (v4 : Int32)  (m0 : qM) : Option (qM) :=
  rec v3 (v4 + (-1 : Int32)) m0
set_option maxRecDepth 100000 in
theorem kbX8_load_150 {E : qE} {N d bc bs : Nat} (hd : 1 ≤ d) {v0 : Nat} {v1 : Nat} {v2 : Int32} {v3 : Int32} {v4 : Int32}  {m0 : qM} {rec : Int32 → Int32 → qM → Option (qM)} (hrec : ∀ (v3 : Int32) (v4 : Int32) (m : qM), qB E yX8_load cX8_load 7 none (fun _ => True) d bc bs 18 [(0, .ref (E.2.1 + v0)), (1, .ref (E.2.1 + v1)), (2, .int v2), (3, .int v3), (4, .int v4)] [] m (rec v3 v4 m) (fun o rr => qJ E yX8_load cX8_load 7 none (fun _ => True) d bc bs 156 [(0, .ref (E.2.1 + v0)), (1, .ref (E.2.1 + v1)), (2, .int v2)] [] o rr)) : qB E yX8_load cX8_load 7 none (fun _ => True) d bc bs 150 [(0, .ref (E.2.1 + v0)), (1, .ref (E.2.1 + v1)), (2, .int v2), (3, .int v3), (4, .int v4)] [] m0 (kX8_load_150 N rec v0 v1 v2 v3 v4 m0) (fun o rr => qJ E yX8_load cX8_load 7 none (fun _ => True) d bc bs 156 [(0, .ref (E.2.1 + v0)), (1, .ref (E.2.1 + v1)), (2, .int v2)] [] o rr) := by
  unfold kX8_load_150
  refine j_iinc (q := 4) (np := 153) (lv2 := [(4, .int (v4 + (-1 : Int32))), (0, .ref (E.2.1 + v0)), (1, .ref (E.2.1 + v1)), (2, .int v2), (3, .int v3)]) rfl (congrArg _ ci_m1) (by decide) dX8_load_150 rfl rfl ?_
  refine j_goto (tgt := 18) dX8_load_153 rfl ?_
  refine j_sub (lv2 := [(0, .ref (E.2.1 + v0)), (1, .ref (E.2.1 + v1)), (2, .int v2), (3, .int v3), (4, .int (v4 + (-1 : Int32)))]) [1, 2, 3, 4, 0] rfl ?_
  exact hrec _ _ _
def kX8_load_80 (N : Nat) (rec : Int32 → Int32 → qM → Option (qM)) (v0 : Nat) (v1 : Nat) (v2 : Int32) (v3 : Int32) (v4 : Int32) (v5 : Int32) (v6 : Int32)  (m0 : qM) : Option (qM) :=
  (qgR m0 v0 8 1).bind fun x1 =>
  (qgR m0 v0 8 7).bind fun x2 =>
  (qaI m0 x2 12 v6).bind fun x3 =>
  (qwI m0 x1 12 v5 x3).bind fun m4 =>
  (qgR m4 v0 8 4).bind fun x5 =>
  (qwI m4 x5 12 v3 v5).bind fun m6 =>
  kX8_load_150 N (rec) v0 v1 v2 (v3 + (1 : Int32)) v4 m6
set_option maxRecDepth 100000 in
theorem kbX8_load_80 {E : qE} {N d bc bs : Nat} (hd : 1 ≤ d) {v0 : Nat} {v1 : Nat} {v2 : Int32} {v3 : Int32} {v4 : Int32} {v5 : Int32} {v6 : Int32}  {m0 : qM} {rec : Int32 → Int32 → qM → Option (qM)} (hrec : ∀ (v3 : Int32) (v4 : Int32) (m : qM), qB E yX8_load cX8_load 7 none (fun _ => True) d bc bs 18 [(0, .ref (E.2.1 + v0)), (1, .ref (E.2.1 + v1)), (2, .int v2), (3, .int v3), (4, .int v4)] [] m (rec v3 v4 m) (fun o rr => qJ E yX8_load cX8_load 7 none (fun _ => True) d bc bs 156 [(0, .ref (E.2.1 + v0)), (1, .ref (E.2.1 + v1)), (2, .int v2)] [] o rr)) : qB E yX8_load cX8_load 7 none (fun _ => True) d bc bs 80 [(0, .ref (E.2.1 + v0)), (1, .ref (E.2.1 + v1)), (2, .int v2), (3, .int v3), (4, .int v4), (5, .int v5), (6, .int v6)] [] m0 (kX8_load_80 N rec v0 v1 v2 v3 v4 v5 v6 m0) (fun o rr => qJ E yX8_load cX8_load 7 none (fun _ => True) d bc bs 156 [(0, .ref (E.2.1 + v0)), (1, .ref (E.2.1 + v1)), (2, .int v2)] [] o rr) := by
  unfold kX8_load_80
  refine j_aload_n (q := 0) (np := 81) rfl rfl dX8_load_80 rfl ?_
  refine j_gR (np := 84) flX8_15 dX8_load_81 rfl (fun x1 => ?_)
  refine j_iload (q := 5) (np := 86) rfl dX8_load_84 rfl ?_
  refine j_aload_n (q := 0) (np := 87) rfl rfl dX8_load_86 rfl ?_
  refine j_gR (np := 90) flX8_33 dX8_load_87 rfl (fun x2 => ?_)
  refine j_iload (q := 6) (np := 92) rfl dX8_load_90 rfl ?_
  refine j_iaload (np := 93) dX8_load_92 rfl (fun x3 => ?_)
  refine j_iastore (np := 94) dX8_load_93 rfl (fun m4 => ?_)
  refine j_aload_n (q := 0) (np := 95) rfl rfl dX8_load_94 rfl ?_
  refine j_gR (np := 98) flX8_24 dX8_load_95 rfl (fun x5 => ?_)
  refine j_iload_n (q := 3) (np := 99) rfl rfl dX8_load_98 rfl ?_
  refine j_iload (q := 5) (np := 101) rfl dX8_load_99 rfl ?_
  refine j_iastore (np := 102) dX8_load_101 rfl (fun m6 => ?_)
  refine j_iinc (q := 3) (np := 105) (lv2 := [(3, .int (v3 + (1 : Int32))), (0, .ref (E.2.1 + v0)), (1, .ref (E.2.1 + v1)), (2, .int v2), (4, .int v4), (5, .int v5), (6, .int v6)]) rfl (congrArg _ ci_1) (by decide) dX8_load_102 rfl rfl ?_
  refine j_goto (tgt := 150) dX8_load_105 rfl ?_
  refine j_sub (lv2 := [(0, .ref (E.2.1 + v0)), (1, .ref (E.2.1 + v1)), (2, .int v2), (3, .int (v3 + (1 : Int32))), (4, .int v4)]) [1, 2, 3, 0, 4] rfl ?_
  exact kbX8_load_150 hd hrec
def lX8_load_18 (N : Nat) (v0 : Nat) (v1 : Nat) (v2 : Int32) : Nat → Int32 → Int32 → qM → Option (qM)
  | 0, _, _, _ => none
  | n + 1, v3, v4, m0 =>
    if v4 < 0 then (
    some m0
    ) else (
    (qChk m0 v1 0 (fX0_at N v1 v4 m0)).bind fun b1 =>
    (qgR b1.2 v0 8 1).bind fun x2 =>
    (qwI b1.2 x2 12 (v2 + v4) (v2 + v4)).bind fun m3 =>
    if b1.1 = (-1 : Int32) then (
    if v3 < (2 : Int32) then (
    kX8_load_150 N (lX8_load_18 N v0 v1 v2 n) v0 v1 v2 v3 v4 m3
    ) else (
    (qgR m3 v0 8 2).bind fun x4 =>
    (qwI m3 x4 12 (v2 + v4) (v2 + v4)).bind fun m5 =>
    (qgR m5 v0 8 0).bind fun x6 =>
    (qgR m5 v0 8 4).bind fun x7 =>
    (qaI m5 x7 12 ((v3 + (-1 : Int32)) - (1 : Int32))).bind fun x8 =>
    (qwI m5 x6 12 (v2 + v4) x8).bind fun m9 =>
    (qgR m9 v0 8 4).bind fun x10 =>
    (qwI m9 x10 12 ((v3 + (-1 : Int32)) - (1 : Int32)) (v2 + v4)).bind fun m11 =>
    kX8_load_150 N (lX8_load_18 N v0 v1 v2 n) v0 v1 v2 (v3 + (-1 : Int32)) v4 m11
    )
    ) else (
    (qgR m3 v0 8 2).bind fun x12 =>
    (qwI m3 x12 12 (v2 + v4) (-1 : Int32)).bind fun m13 =>
    (qgR m13 v0 8 7).bind fun x14 =>
    (qaI m13 x14 12 b1.1).bind fun x15 =>
    if x15 = (-1 : Int32) then (
    (qgR m13 v0 8 7).bind fun x16 =>
    (qwI m13 x16 12 b1.1 (v2 + v4)).bind fun m17 =>
    kX8_load_80 N (lX8_load_18 N v0 v1 v2 n) v0 v1 v2 v3 v4 (v2 + v4) b1.1 m17
    ) else (
    kX8_load_80 N (lX8_load_18 N v0 v1 v2 n) v0 v1 v2 v3 v4 (v2 + v4) b1.1 m13
    )
    )
    )
set_option maxRecDepth 100000 in
theorem lbX8_load_18 {E : qE} {N d bc bs : Nat} (hd : 1 ≤ d) {v0 : Nat} {v1 : Nat} {v2 : Int32} : ∀ (n : Nat) (v3 : Int32) (v4 : Int32) (m0 : qM), qB E yX8_load cX8_load 7 none (fun _ => True) d bc bs 18 [(0, .ref (E.2.1 + v0)), (1, .ref (E.2.1 + v1)), (2, .int v2), (3, .int v3), (4, .int v4)] [] m0 (lX8_load_18 N v0 v1 v2 n v3 v4 m0) (fun o rr => qJ E yX8_load cX8_load 7 none (fun _ => True) d bc bs 156 [(0, .ref (E.2.1 + v0)), (1, .ref (E.2.1 + v1)), (2, .int v2)] [] o rr) := by
  intro n
  induction n with
  | zero =>
    intro v3 v4 m0
    exact j_none
  | succ n ih =>
    intro v3 v4 m0
    unfold lX8_load_18
    refine j_iload (q := 4) (np := 20) rfl dX8_load_18 rfl ?_
    refine j_if_lt (tgt := 156) (np := 23) dX8_load_20 rfl rfl ?_ ?_
    · refine j_sub (lv2 := [(0, .ref (E.2.1 + v0)), (1, .ref (E.2.1 + v1)), (2, .int v2)]) [0, 1, 2] rfl ?_
      exact j_exit (fun rr h => h)
    · refine j_iload_n (q := 2) (np := 24) rfl rfl dX8_load_23 rfl ?_
      refine j_iload (q := 4) (np := 26) rfl dX8_load_24 rfl ?_
      refine j_iadd (np := 27) dX8_load_26 rfl ?_
      refine j_istore (np := 29) (lv2 := [(5, .int (v2 + v4)), (0, .ref (E.2.1 + v0)), (1, .ref (E.2.1 + v1)), (2, .int v2), (3, .int v3), (4, .int v4)]) (by decide) dX8_load_27 rfl rfl ?_
      refine j_aload_n (q := 2) (np := 30) rfl rfl dX8_load_29 rfl ?_
      refine j_iload (q := 5) (np := 32) rfl dX8_load_30 rfl ?_
      refine j_callVi (ci := 0) (np := 35) (bc := bc) (bs := bs) (cb := 0) (cs := 0) (dd := d - 1) (As := [.int v4]) (st := []) caX0_at mlX8_70 imX0_at seX0_at rfl rfl (by decide) (fun b hb => wX0_at (by omega) hb) (by omega) rfl rfl (Nat.le_of_ble_eq_true rfl) dX8_load_32 rfl (fun b1 => ?_)
      refine j_istore (np := 37) (lv2 := [(6, .int b1.1), (5, .int (v2 + v4)), (0, .ref (E.2.1 + v0)), (1, .ref (E.2.1 + v1)), (2, .int v2), (3, .int v3), (4, .int v4)]) (by decide) dX8_load_35 rfl rfl ?_
      refine j_aload_n (q := 2) (np := 38) rfl rfl dX8_load_37 rfl ?_
      refine j_gR (np := 41) flX8_15 dX8_load_38 rfl (fun x2 => ?_)
      refine j_iload (q := 1) (np := 43) rfl dX8_load_41 rfl ?_
      refine j_iload (q := 1) (np := 45) rfl dX8_load_43 rfl ?_
      refine j_iastore (np := 46) dX8_load_45 rfl (fun m3 => ?_)
      refine j_iload (q := 0) (np := 48) rfl dX8_load_46 rfl ?_
      refine j_iconst (np := 49) ci_m1 dX8_load_48 rfl ?_
      refine j_icmp_eq (tgt := 108) (np := 52) dX8_load_49 rfl rfl ?_ ?_
      · refine j_iload_n (q := 5) (np := 109) rfl rfl dX8_load_108 rfl ?_
        refine j_iconst (np := 110) ci_2 dX8_load_109 rfl ?_
        refine j_icmp_lt (tgt := 150) (np := 113) dX8_load_110 rfl rfl ?_ ?_
        · refine j_sub (lv2 := [(0, .ref (E.2.1 + v0)), (1, .ref (E.2.1 + v1)), (2, .int v2), (3, .int v3), (4, .int v4)]) [2, 3, 4, 5, 6] rfl ?_
          exact kbX8_load_150 hd ih
        · refine j_aload_n (q := 2) (np := 114) rfl rfl dX8_load_113 rfl ?_
          refine j_gR (np := 117) flX8_18 dX8_load_114 rfl (fun x4 => ?_)
          refine j_iload (q := 1) (np := 119) rfl dX8_load_117 rfl ?_
          refine j_iload (q := 1) (np := 121) rfl dX8_load_119 rfl ?_
          refine j_iastore (np := 122) dX8_load_121 rfl (fun m5 => ?_)
          refine j_iinc (q := 5) (np := 125) (lv2 := [(3, .int (v3 + (-1 : Int32))), (6, .int b1.1), (5, .int (v2 + v4)), (0, .ref (E.2.1 + v0)), (1, .ref (E.2.1 + v1)), (2, .int v2), (4, .int v4)]) rfl (congrArg _ ci_m1) (by decide) dX8_load_122 rfl rfl ?_
          refine j_aload_n (q := 3) (np := 126) rfl rfl dX8_load_125 rfl ?_
          refine j_gR (np := 129) flX8_11 dX8_load_126 rfl (fun x6 => ?_)
          refine j_iload (q := 2) (np := 131) rfl dX8_load_129 rfl ?_
          refine j_aload_n (q := 3) (np := 132) rfl rfl dX8_load_131 rfl ?_
          refine j_gR (np := 135) flX8_24 dX8_load_132 rfl (fun x7 => ?_)
          refine j_iload_n (q := 0) (np := 136) rfl rfl dX8_load_135 rfl ?_
          refine j_iconst (np := 137) ci_1 dX8_load_136 rfl ?_
          refine j_isub (np := 138) dX8_load_137 rfl ?_
          refine j_iaload (np := 139) dX8_load_138 rfl (fun x8 => ?_)
          refine j_iastore (np := 140) dX8_load_139 rfl (fun m9 => ?_)
          refine j_aload_n (q := 3) (np := 141) rfl rfl dX8_load_140 rfl ?_
          refine j_gR (np := 144) flX8_24 dX8_load_141 rfl (fun x10 => ?_)
          refine j_iload_n (q := 0) (np := 145) rfl rfl dX8_load_144 rfl ?_
          refine j_iconst (np := 146) ci_1 dX8_load_145 rfl ?_
          refine j_isub (np := 147) dX8_load_146 rfl ?_
          refine j_iload (q := 2) (np := 149) rfl dX8_load_147 rfl ?_
          refine j_iastore (np := 150) dX8_load_149 rfl (fun m11 => ?_)
          refine j_sub (lv2 := [(0, .ref (E.2.1 + v0)), (1, .ref (E.2.1 + v1)), (2, .int v2), (3, .int (v3 + (-1 : Int32))), (4, .int v4)]) [3, 4, 5, 0, 6] rfl ?_
          exact kbX8_load_150 hd ih
      · refine j_aload_n (q := 2) (np := 53) rfl rfl dX8_load_52 rfl ?_
        refine j_gR (np := 56) flX8_18 dX8_load_53 rfl (fun x12 => ?_)
        refine j_iload (q := 1) (np := 58) rfl dX8_load_56 rfl ?_
        refine j_iconst (np := 59) ci_m1 dX8_load_58 rfl ?_
        refine j_iastore (np := 60) dX8_load_59 rfl (fun m13 => ?_)
        refine j_aload_n (q := 2) (np := 61) rfl rfl dX8_load_60 rfl ?_
        refine j_gR (np := 64) flX8_33 dX8_load_61 rfl (fun x14 => ?_)
        refine j_iload (q := 0) (np := 66) rfl dX8_load_64 rfl ?_
        refine j_iaload (np := 67) dX8_load_66 rfl (fun x15 => ?_)
        refine j_iconst (np := 68) ci_m1 dX8_load_67 rfl ?_
        refine j_icmp_ne (tgt := 80) (np := 71) dX8_load_68 rfl rfl ?_ ?_
        · refine j_sub (lv2 := [(0, .ref (E.2.1 + v0)), (1, .ref (E.2.1 + v1)), (2, .int v2), (3, .int v3), (4, .int v4), (5, .int (v2 + v4)), (6, .int b1.1)]) [2, 3, 4, 5, 6, 1, 0] rfl ?_
          exact kbX8_load_80 hd ih
        · refine j_aload_n (q := 2) (np := 72) rfl rfl dX8_load_71 rfl ?_
          refine j_gR (np := 75) flX8_33 dX8_load_72 rfl (fun x16 => ?_)
          refine j_iload (q := 0) (np := 77) rfl dX8_load_75 rfl ?_
          refine j_iload (q := 1) (np := 79) rfl dX8_load_77 rfl ?_
          refine j_iastore (np := 80) dX8_load_79 rfl (fun m17 => ?_)
          refine j_sub (lv2 := [(0, .ref (E.2.1 + v0)), (1, .ref (E.2.1 + v1)), (2, .int v2), (3, .int v3), (4, .int v4), (5, .int (v2 + v4)), (6, .int b1.1)]) [2, 3, 4, 5, 6, 1, 0] rfl ?_
          exact kbX8_load_80 hd ih
def fX8_load (N : Nat) (v0 : Nat) (v1 : Nat) (v2 : Int32) (m0 : qM) : Option (qM) :=
  (qgR m0 v0 8 7).bind fun x1 =>
  (fJ7_fill_53178 N x1 (-1 : Int32) m0).bind fun b2 =>
  (qChk b2 v1 0 (fX0_size N v1 b2)).bind fun b3 =>
  (lX8_load_18 N v0 v1 v2 N (0 : Int32) (b3.1 - (1 : Int32)) b3.2).bind fun o4 =>
  (qChk o4 v1 0 (fX0_size N v1 o4)).bind fun b5 =>
  (qpI b5.2 v0 8 9 (v2 + b5.1)).bind fun m6 =>
  some m6
set_option maxRecDepth 100000 in
theorem bX8_load {E : qE} {N d bc bs : Nat} (hd : 1 ≤ d) {v0 : Nat} {v1 : Nat} {v2 : Int32} {m0 : qM} : qB E yX8_load cX8_load 7 none (fun _ => True) d bc bs 0 [(0, .ref (E.2.1 + v0)), (1, .ref (E.2.1 + v1)), (2, .int v2)] [] m0 (fX8_load N v0 v1 v2 m0) (fun b rr => rr = (none, b)) := by
  unfold fX8_load
  refine j_aload_n (q := 0) (np := 1) rfl rfl dX8_load_0 rfl ?_
  refine j_gR (np := 4) flX8_33 dX8_load_1 rfl (fun x1 => ?_)
  refine j_iconst (np := 5) ci_m1 dX8_load_4 rfl ?_
  refine j_callSv (np := 8) (bc := bc) (bs := bs) (cb := 0) (cs := 0) (dd := d - 1) (As := [.ref (E.2.1 + x1), .int (-1 : Int32)]) (st := []) caJ7_fill_53178 mlX8_64 stJ7_fill_53178 (fun b hb => wJ7_fill_53178 (by omega) hb) (by omega) rfl rfl (Nat.le_of_ble_eq_true rfl) dX8_load_5 rfl (fun b2 => ?_)
  refine j_iconst (np := 9) ci_0 dX8_load_8 rfl ?_
  refine j_istore_n (np := 10) (lv2 := [(3, .int (0 : Int32)), (0, .ref (E.2.1 + v0)), (1, .ref (E.2.1 + v1)), (2, .int v2)]) rfl (by decide) dX8_load_9 rfl rfl ?_
  refine j_aload_n (q := 2) (np := 11) rfl rfl dX8_load_10 rfl ?_
  refine j_callVi (ci := 0) (np := 14) (bc := bc) (bs := bs) (cb := 0) (cs := 0) (dd := d - 1) (As := []) (st := []) caX0_size mlX8_45 imX0_size seX0_size rfl rfl (by decide) (fun b hb => wX0_size (by omega) hb) (by omega) rfl rfl (Nat.le_of_ble_eq_true rfl) dX8_load_11 rfl (fun b3 => ?_)
  refine j_iconst (np := 15) ci_1 dX8_load_14 rfl ?_
  refine j_isub (np := 16) dX8_load_15 rfl ?_
  refine j_istore (np := 18) (lv2 := [(4, .int (b3.1 - (1 : Int32))), (3, .int (0 : Int32)), (0, .ref (E.2.1 + v0)), (1, .ref (E.2.1 + v1)), (2, .int v2)]) (by decide) dX8_load_16 rfl rfl ?_
  refine j_sub (lv2 := [(0, .ref (E.2.1 + v0)), (1, .ref (E.2.1 + v1)), (2, .int v2), (3, .int (0 : Int32)), (4, .int (b3.1 - (1 : Int32)))]) [2, 3, 4, 1, 0] rfl ?_
  refine j_loop (xp := 156) (lvX := fun o4 => [(0, .ref (E.2.1 + v0)), (1, .ref (E.2.1 + v1)), (2, .int v2)]) (mX := fun o4 => o4) (lbX8_load_18 hd _ _ _ _) (fun o4 => ?_)
  refine j_aload_n (q := 0) (np := 157) rfl rfl dX8_load_156 rfl ?_
  refine j_iload_n (q := 2) (np := 158) rfl rfl dX8_load_157 rfl ?_
  refine j_aload_n (q := 1) (np := 159) rfl rfl dX8_load_158 rfl ?_
  refine j_callVi (ci := 0) (np := 162) (bc := bc) (bs := bs) (cb := 0) (cs := 0) (dd := d - 1) (As := []) (st := [.int v2, .ref (E.2.1 + v0)]) caX0_size mlX8_45 imX0_size seX0_size rfl rfl (by decide) (fun b hb => wX0_size (by omega) hb) (by omega) rfl rfl (Nat.le_of_ble_eq_true rfl) dX8_load_159 rfl (fun b5 => ?_)
  refine j_iadd (np := 163) dX8_load_162 rfl ?_
  refine j_pI (np := 166) flX8_74 dX8_load_163 rfl (fun m6 => ?_)
  exact j_vret rfl dX8_load_166 (fun rr h => h)
set_option maxRecDepth 100000 in
theorem wX8_load {E : qE} {N d : Nat} (hd : 1 ≤ d) {v0 : Nat} {v1 : Nat} {v2 : Int32} {m0 : qM} {b : qM} (h : fX8_load N v0 v1 v2 m0 = some b) : qRun E yX8_load cX8_load 7 none d 0 0 [.ref (E.2.1 + v0), .ref (E.2.1 + v1), .int v2] m0 (none, b) := q_met pnX8 (Nat.le_of_ble_eq_true rfl) (bX8_load hd b _ h rfl)
