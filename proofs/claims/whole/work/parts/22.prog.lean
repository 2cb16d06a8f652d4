theorem dX4_refutes_0 : decode cX4_refutes 0 = .ok (.aload_n 0, 1) := by decide +kernel
theorem dX4_refutes_1 : decode cX4_refutes 1 = .ok (.aload_n 1, 1) := by decide +kernel
theorem dX4_refutes_2 : decode cX4_refutes 2 = .ok (.invokevirtual 29, 3) := by decide +kernel
theorem dX4_refutes_5 : decode cX4_refutes 5 = .ok (.invokevirtual 35, 3) := by decide +kernel
theorem dX4_refutes_8 : decode cX4_refutes 8 = .ok (.istore_n 2, 1) := by decide +kernel
theorem dX4_refutes_9 : decode cX4_refutes 9 = .ok (.iconst 0, 1) := by decide +kernel
theorem dX4_refutes_10 : decode cX4_refutes 10 = .ok (.istore_n 3, 1) := by decide +kernel
theorem dX4_refutes_11 : decode cX4_refutes 11 = .ok (.iload_n 3, 1) := by decide +kernel
theorem dX4_refutes_12 : decode cX4_refutes 12 = .ok (.iload_n 2, 1) := by decide +kernel
theorem dX4_refutes_13 : decode cX4_refutes 13 = .ok (.if_icmp .ge 31, 3) := by decide +kernel
theorem dX4_refutes_16 : decode cX4_refutes 16 = .ok (.aload_n 0, 1) := by decide +kernel
theorem dX4_refutes_17 : decode cX4_refutes 17 = .ok (.aload_n 0, 1) := by decide +kernel
theorem dX4_refutes_18 : decode cX4_refutes 18 = .ok (.aload_n 1, 1) := by decide +kernel
theorem dX4_refutes_19 : decode cX4_refutes 19 = .ok (.invokevirtual 39, 3) := by decide +kernel
theorem dX4_refutes_22 : decode cX4_refutes 22 = .ok (.invokevirtual 25, 3) := by decide +kernel
theorem dX4_refutes_25 : decode cX4_refutes 25 = .ok (.ifCond .ne 5, 3) := by decide +kernel
theorem dX4_refutes_28 : decode cX4_refutes 28 = .ok (.iconst 1, 1) := by decide +kernel
theorem dX4_refutes_29 : decode cX4_refutes 29 = .ok (.ireturn, 1) := by decide +kernel
theorem dX4_refutes_30 : decode cX4_refutes 30 = .ok (.aload_n 0, 1) := by decide +kernel
theorem dX4_refutes_31 : decode cX4_refutes 31 = .ok (.aload_n 1, 1) := by decide +kernel
theorem dX4_refutes_32 : decode cX4_refutes 32 = .ok (.invokevirtual 29, 3) := by decide +kernel
theorem dX4_refutes_35 : decode cX4_refutes 35 = .ok (.invokevirtual 43, 3) := by decide +kernel
theorem dX4_refutes_38 : decode cX4_refutes 38 = .ok (.iinc 3 1, 3) := by decide +kernel
theorem dX4_refutes_41 : decode cX4_refutes 41 = .ok (.goto (-30), 3) := by decide +kernel
theorem dX4_refutes_44 : decode cX4_refutes 44 = .ok (.iconst 0, 1) := by decide +kernel
theorem dX4_refutes_45 : decode cX4_refutes 45 = .ok (.ireturn, 1) := by decide +kernel
def lX4_refutes_11 (N : Nat) (v0 : Nat) (v1 : Nat) (v2 : Int32) : Nat → Int32 → qM → Option ((qM) ⊕ (Int32 × qM))
  | 0, _, _ => none
  | n + 1, v3, m0 =>
    if v2 ≤ v3 then (
    some (.inl m0)
    ) else (
    (qChk m0 v0 4 (fX4_valueOf N v0 v1 m0)).bind fun b1 =>
    (qChk b1.2 v0 4 (fX4_isDesignated N v0 b1.1 b1.2)).bind fun b2 =>
    if b2.1 = 0 then (
    some (.inr ((1 : Int32), b2.2))
    ) else (
    (qChk b2.2 v1 0 (fX0_variables N v1 b2.2)).bind fun b3 =>
    (qChk b3.2 v0 4 (fX4_nextValuation N v0 b3.1 b3.2)).bind fun b4 =>
    lX4_refutes_11 N v0 v1 v2 n (v3 + (1 : Int32)) b4
    )
    )
set_option maxRecDepth 100000 in
theorem lbX4_refutes_11 {E : qE} {N d bc bs : Nat} (hd : 2 ≤ d) {v0 : Nat} {v1 : Nat} {v2 : Int32} : ∀ (n : Nat) (v3 : Int32) (m0 : qM), qB E yX4_refutes cX4_refutes 4 (some .boolean) (fun _ => True) d bc bs 11 [(0, .ref (E.2.1 + v0)), (1, .ref (E.2.1 + v1)), (2, .int v2), (3, .int v3)] [] m0 (lX4_refutes_11 N v0 v1 v2 n v3 m0) (qGL (fun o rr => qJ E yX4_refutes cX4_refutes 4 (some .boolean) (fun _ => True) d bc bs 44 [] [] o rr) (fun r => (some (.int r.1), r.2))) := by
  intro n
  induction n with
  | zero =>
    intro v3 m0
    exact j_none
  | succ n ih =>
    intro v3 m0
    unfold lX4_refutes_11
    refine j_iload_n (q := 3) (np := 12) rfl rfl dX4_refutes_11 rfl ?_
    refine j_iload_n (q := 2) (np := 13) rfl rfl dX4_refutes_12 rfl ?_
    refine j_icmp_ge (tgt := 44) (np := 16) dX4_refutes_13 rfl rfl ?_ ?_
    · refine j_sub (lv2 := []) [] rfl ?_
      exact j_exit (fun rr h => h)
    · refine j_aload_n (q := 0) (np := 17) rfl rfl dX4_refutes_16 rfl ?_
      refine j_aload_n (q := 0) (np := 18) rfl rfl dX4_refutes_17 rfl ?_
      refine j_aload_n (q := 1) (np := 19) rfl rfl dX4_refutes_18 rfl ?_
      refine j_callVi (ci := 4) (np := 22) (bc := bc) (bs := bs) (cb := 0) (cs := 0) (dd := d - 1) (As := [.ref (E.2.1 + v1)]) (st := [.ref (E.2.1 + v0)]) caX4_valueOf mlX4_39 imX4_valueOf seX4_valueOf rfl rfl (by decide) (fun b hb => wX4_valueOf (by omega) hb) (by omega) rfl rfl (Nat.le_of_ble_eq_true rfl) dX4_refutes_19 rfl (fun b1 => ?_)
      refine j_callVi (ci := 4) (np := 25) (bc := bc) (bs := bs) (cb := 0) (cs := 0) (dd := d - 1) (As := [.int b1.1]) (st := []) caX4_isDesignated mlX4_25 imX4_isDesignated seX4_isDesignated rfl rfl (by decide) (fun b hb => wX4_isDesignated (by omega) hb) (by omega) rfl rfl (Nat.le_of_ble_eq_true rfl) dX4_refutes_22 rfl (fun b2 => ?_)
      refine j_if_ne (tgt := 30) (np := 28) dX4_refutes_25 rfl rfl ?_ ?_
      · refine j_aload_n (q := 0) (np := 31) rfl rfl dX4_refutes_30 rfl ?_
        refine j_aload_n (q := 1) (np := 32) rfl rfl dX4_refutes_31 rfl ?_
        refine j_callVi (ci := 0) (np := 35) (bc := bc) (bs := bs) (cb := 0) (cs := 0) (dd := d - 1) (As := []) (st := [.ref (E.2.1 + v0)]) caX0_variables mlX4_29 imX0_variables seX0_variables rfl rfl (by decide) (fun b hb => wX0_variables (by omega) hb) (by omega) rfl rfl (Nat.le_of_ble_eq_true rfl) dX4_refutes_32 rfl (fun b3 => ?_)
        refine j_callVv (ci := 4) (np := 38) (bc := bc) (bs := bs) (cb := 0) (cs := 0) (dd := d - 1) (As := [.int b3.1]) (st := []) caX4_nextValuation mlX4_43 imX4_nextValuation seX4_nextValuation rfl rfl (by decide) (fun b hb => wX4_nextValuation (by omega) hb) (by omega) rfl rfl (Nat.le_of_ble_eq_true rfl) dX4_refutes_35 rfl (fun b4 => ?_)
        refine j_iinc (q := 3) (np := 41) (lv2 := [(3, .int (v3 + (1 : Int32))), (0, .ref (E.2.1 + v0)), (1, .ref (E.2.1 + v1)), (2, .int v2)]) rfl (congrArg _ ci_1) (by decide) dX4_refutes_38 rfl rfl ?_
        refine j_goto (tgt := 11) dX4_refutes_41 rfl ?_
        refine j_sub (lv2 := [(0, .ref (E.2.1 + v0)), (1, .ref (E.2.1 + v1)), (2, .int v2), (3, .int (v3 + (1 : Int32)))]) [1, 2, 3, 0] rfl ?_
        exact ih _ _
      · refine j_iconst (np := 29) ci_1 dX4_refutes_28 rfl ?_
        exact j_zret rfl dX4_refutes_29 (fun rr h => by rw [z1]; exact h)
def fX4_refutes (N : Nat) (v0 : Nat) (v1 : Nat) (m0 : qM) : Option (Int32 × qM) :=
  (qChk m0 v1 0 (fX0_variables N v1 m0)).bind fun b1 =>
  (qChk b1.2 v0 4 (fX4_startValuations N v0 b1.1 b1.2)).bind fun b2 =>
  qTh (lX4_refutes_11 N v0 v1 b2.1 N (0 : Int32) b2.2) (fun o3 =>
  some ((0 : Int32), o3)
  ) (fun r => r)
set_option maxRecDepth 100000 in
theorem bX4_refutes {E : qE} {N d bc bs : Nat} (hd : 2 ≤ d) {v0 : Nat} {v1 : Nat} {m0 : qM} : qB E yX4_refutes cX4_refutes 4 (some .boolean) (fun _ => True) d bc bs 0 [(0, .ref (E.2.1 + v0)), (1, .ref (E.2.1 + v1))] [] m0 (fX4_refutes N v0 v1 m0) (fun b rr => rr = (some (.int b.1), b.2)) := by
  unfold fX4_refutes
  refine j_aload_n (q := 0) (np := 1) rfl rfl dX4_refutes_0 rfl ?_
  refine j_aload_n (q := 1) (np := 2) rfl rfl dX4_refutes_1 rfl ?_
  refine j_callVi (ci := 0) (np := 5) (bc := bc) (bs := bs) (cb := 0) (cs := 0) (dd := d - 1) (As := []) (st := [.ref (E.2.1 + v0)]) caX0_variables mlX4_29 imX0_variables seX0_variables rfl rfl (by decide) (fun b hb => wX0_variables (by omega) hb) (by omega) rfl rfl (Nat.le_of_ble_eq_true rfl) dX4_refutes_2 rfl (fun b1 => ?_)
  refine j_callVi (ci := 4) (np := 8) (bc := bc) (bs := bs) (cb := 0) (cs := 0) (dd := d - 1) (As := [.int b1.1]) (st := []) caX4_startValuations mlX4_35 imX4_startValuations seX4_startValuations rfl rfl (by decide) (fun b hb => wX4_startValuations (by omega) hb) (by omega) rfl rfl (Nat.le_of_ble_eq_true rfl) dX4_refutes_5 rfl (fun b2 => ?_)
  refine j_istore_n (np := 9) (lv2 := [(2, .int b2.1), (0, .ref (E.2.1 + v0)), (1, .ref (E.2.1 + v1))]) rfl (by decide) dX4_refutes_8 rfl rfl ?_
  refine j_iconst (np := 10) ci_0 dX4_refutes_9 rfl ?_
  refine j_istore_n (np := 11) (lv2 := [(3, .int (0 : Int32)), (2, .int b2.1), (0, .ref (E.2.1 + v0)), (1, .ref (E.2.1 + v1))]) rfl (by decide) dX4_refutes_10 rfl rfl ?_
  refine j_sub (lv2 := [(0, .ref (E.2.1 + v0)), (1, .ref (E.2.1 + v1)), (2, .int b2.1), (3, .int (0 : Int32))]) [2, 3, 1, 0] rfl ?_
  refine j_loopG (xp := 44) (lvX := fun o3 => []) (mX := fun o3 => o3) (lbX4_refutes_11 hd _ _ _) (fun r rr h => h) (fun o3 => ?_)
  refine j_iconst (np := 45) ci_0 dX4_refutes_44 rfl ?_
  exact j_zret rfl dX4_refutes_45 (fun rr h => by rw [z0]; exact h)
set_option maxRecDepth 100000 in
theorem wX4_refutes {E : qE} {N d : Nat} (hd : 2 ≤ d) {v0 : Nat} {v1 : Nat} {m0 : qM} {b : Int32 × qM} (h : fX4_refutes N v0 v1 m0 = some b) : qRun E yX4_refutes cX4_refutes 4 (some .boolean) d 0 0 [.ref (E.2.1 + v0), .ref (E.2.1 + v1)] m0 (some (.int b.1), b.2) := q_met pnX4 (Nat.le_of_ble_eq_true rfl) (bX4_refutes hd b _ h rfl)
theorem dX4_variableValue_0 : decode cX4_variableValue 0 = .ok (.aload_n 0, 1) := by decide +kernel
theorem dX4_variableValue_1 : decode cX4_variableValue 1 = .ok (.getfield 15, 3) := by decide +kernel
theorem dX4_variableValue_4 : decode cX4_variableValue 4 = .ok (.iload_n 1, 1) := by decide +kernel
theorem dX4_variableValue_5 : decode cX4_variableValue 5 = .ok (.iaload, 1) := by decide +kernel
theorem dX4_variableValue_6 : decode cX4_variableValue 6 = .ok (.ireturn, 1) := by decide +kernel
def fX4_variableValue (N : Nat) (v0 : Nat) (v1 : Int32) (m0 : qM) : Option (Int32 × qM) :=
  (qgR m0 v0 4 1).bind fun x1 =>
  (qaI m0 x1 12 v1).bind fun x2 =>
  some (x2, m0)
set_option maxRecDepth 100000 in
theorem bX4_variableValue {E : qE} {N d bc bs : Nat} (hd : 0 ≤ d) {v0 : Nat} {v1 : Int32} {m0 : qM} : qB E yX4_variableValue cX4_variableValue 2 (some .int) (fun _ => True) d bc bs 0 [(0, .ref (E.2.1 + v0)), (1, .int v1)] [] m0 (fX4_variableValue N v0 v1 m0) (fun b rr => rr = (some (.int b.1), b.2)) := by
  unfold fX4_variableValue
  refine j_aload_n (q := 0) (np := 1) rfl rfl dX4_variableValue_0 rfl ?_
  refine j_gR (np := 4) flX4_15 dX4_variableValue_1 rfl (fun x1 => ?_)
  refine j_iload_n (q := 1) (np := 5) rfl rfl dX4_variableValue_4 rfl ?_
  refine j_iaload (np := 6) dX4_variableValue_5 rfl (fun x2 => ?_)
  exact j_iret rfl dX4_variableValue_6 (fun rr h => h)
set_option maxRecDepth 100000 in
theorem wX4_variableValue {E : qE} {N d : Nat} (hd : 0 ≤ d) {v0 : Nat} {v1 : Int32} {m0 : qM} {b : Int32 × qM} (h : fX4_variableValue N v0 v1 m0 = some b) : qRun E yX4_variableValue cX4_variableValue 2 (some .int) d 0 0 [.ref (E.2.1 + v0), .int v1] m0 (some (.int b.1), b.2) := q_met pnX4 (Nat.le_of_ble_eq_true rfl) (bX4_variableValue hd b _ h rfl)
theorem dX4_countOf_0 : decode cX4_countOf 0 = .ok (.aload_n 0, 1) := by decide +kernel
theorem dX4_countOf_1 : decode cX4_countOf 1 = .ok (.aload_n 1, 1) := by decide +kernel
theorem dX4_countOf_2 : decode cX4_countOf 2 = .ok (.invokevirtual 29, 3) := by decide +kernel
theorem dX4_countOf_5 : decode cX4_countOf 5 = .ok (.invokevirtual 35, 3) := by decide +kernel
theorem dX4_countOf_8 : decode cX4_countOf 8 = .ok (.istore_n 3, 1) := by decide +kernel
theorem dX4_countOf_9 : decode cX4_countOf 9 = .ok (.iconst 0, 1) := by decide +kernel
theorem dX4_countOf_10 : decode cX4_countOf 10 = .ok (.istore 4, 2) := by decide +kernel
theorem dX4_countOf_12 : decode cX4_countOf 12 = .ok (.iconst 0, 1) := by decide +kernel
theorem dX4_countOf_13 : decode cX4_countOf 13 = .ok (.istore 5, 2) := by decide +kernel
theorem dX4_countOf_15 : decode cX4_countOf 15 = .ok (.iload 5, 2) := by decide +kernel
theorem dX4_countOf_17 : decode cX4_countOf 17 = .ok (.iload_n 3, 1) := by decide +kernel
theorem dX4_countOf_18 : decode cX4_countOf 18 = .ok (.if_icmp .ge 29, 3) := by decide +kernel
theorem dX4_countOf_21 : decode cX4_countOf 21 = .ok (.aload_n 0, 1) := by decide +kernel
theorem dX4_countOf_22 : decode cX4_countOf 22 = .ok (.aload_n 1, 1) := by decide +kernel
theorem dX4_countOf_23 : decode cX4_countOf 23 = .ok (.invokevirtual 39, 3) := by decide +kernel
theorem dX4_countOf_26 : decode cX4_countOf 26 = .ok (.iload_n 2, 1) := by decide +kernel
theorem dX4_countOf_27 : decode cX4_countOf 27 = .ok (.if_icmp .ne 6, 3) := by decide +kernel
theorem dX4_countOf_30 : decode cX4_countOf 30 = .ok (.iinc 4 1, 3) := by decide +kernel
theorem dX4_countOf_33 : decode cX4_countOf 33 = .ok (.aload_n 0, 1) := by decide +kernel
theorem dX4_countOf_34 : decode cX4_countOf 34 = .ok (.aload_n 1, 1) := by decide +kernel
theorem dX4_countOf_35 : decode cX4_countOf 35 = .ok (.invokevirtual 29, 3) := by decide +kernel
theorem dX4_countOf_38 : decode cX4_countOf 38 = .ok (.invokevirtual 43, 3) := by decide +kernel
theorem dX4_countOf_41 : decode cX4_countOf 41 = .ok (.iinc 5 1, 3) := by decide +kernel
theorem dX4_countOf_44 : decode cX4_countOf 44 = .ok (.goto (-29), 3) := by decide +kernel
theorem dX4_countOf_47 : decode cX4_countOf 47 = .ok (.iload 4, 2) := by decide +kernel
theorem dX4_countOf_49 : decode cX4_countOf 49 = .ok (.ireturn, 1) := by decide +kernel
def kX4_countOf_33 (N : Nat) (rec : Int32 → Int32 → qM → Option (Int32 × qM)) (v0 : Nat) (v1 : Nat) (v2 : Int32) (v3 : Int32) (v4 : Int32) (v5 : Int32)  (m0 : qM) : Option (Int32 × qM) :=
  (qChk m0 v1 0 (fX0_variables N v1 m0)).bind fun b1 =>
  (qChk b1.2 v0 4 (fX4_nextValuation N v0 b1.1 b1.2)).bind fun b2 =>
  rec v4 (v5 + (1 : Int32)) b2
set_option maxRecDepth 100000 in
theorem kbX4_countOf_33 {E : qE} {N d bc bs : Nat} (hd : 2 ≤ d) {v0 : Nat} {v1 : Nat} {v2 : Int32} {v3 : Int32} {v4 : Int32} {v5 : Int32}  {m0 : qM} {rec : Int32 → Int32 → qM → Option (Int32 × qM)} (hrec : ∀ (v4 : Int32) (v5 : Int32) (m : qM), qB E yX4_countOf cX4_countOf 6 (some .int) (fun _ => True) d bc bs 15 [(0, .ref (E.2.1 + v0)), (1, .ref (E.2.1 + v1)), (2, .int v2), (3, .int v3), (4, .int v4), (5, .int v5)] [] m (rec v4 v5 m) (fun o rr => qJ E yX4_countOf cX4_countOf 6 (some .int) (fun _ => True) d bc bs 47 [(4, .int o.1)] [] o.2 rr)) : qB E yX4_countOf cX4_countOf 6 (some .int) (fun _ => True) d bc bs 33 [(0, .ref (E.2.1 + v0)), (1, .ref (E.2.1 + v1)), (2, .int v2), (3, .int v3), (4, .int v4), (5, .int v5)] [] m0 (kX4_countOf_33 N rec v0 v1 v2 v3 v4 v5 m0) (fun o rr => qJ E yX4_countOf cX4_countOf 6 (some .int) (fun _ => True) d bc bs 47 [(4, .int o.1)] [] o.2 rr) := by
  unfold kX4_countOf_33
  refine j_aload_n (q := 0) (np := 34) rfl rfl dX4_countOf_33 rfl ?_
  refine j_aload_n (q := 1) (np := 35) rfl rfl dX4_countOf_34 rfl ?_
  refine j_callVi (ci := 0) (np := 38) (bc := bc) (bs := bs) (cb := 0) (cs := 0) (dd := d - 1) (As := []) (st := [.ref (E.2.1 + v0)]) caX0_variables mlX4_29 imX0_variables seX0_variables rfl rfl (by decide) (fun b hb => wX0_variables (by omega) hb) (by omega) rfl rfl (Nat.le_of_ble_eq_true rfl) dX4_countOf_35 rfl (fun b1 => ?_)
  refine j_callVv (ci := 4) (np := 41) (bc := bc) (bs := bs) (cb := 0) (cs := 0) (dd := d - 1) (As := [.int b1.1]) (st := []) caX4_nextValuation mlX4_43 imX4_nextValuation seX4_nextValuation rfl rfl (by decide) (fun b hb => wX4_nextValuation (by omega) hb) (by omega) rfl rfl (Nat.le_of_ble_eq_true rfl) dX4_countOf_38 rfl (fun b2 => ?_)
  refine j_iinc (q := 5) (np := 44) (lv2 := [(5, .int (v5 + (1 : Int32))), (0, .ref (E.2.1 + v0)), (1, .ref (E.2.1 + v1)), (2, .int v2), (3, .int v3), (4, .int v4)]) rfl (congrArg _ ci_1) (by decide) dX4_countOf_41 rfl rfl ?_
  refine j_goto (tgt := 15) dX4_countOf_44 rfl ?_
  refine j_sub (lv2 := [(0, .ref (E.2.1 + v0)), (1, .ref (E.2.1 + v1)), (2, .int v2), (3, .int v3), (4, .int v4), (5, .int (v5 + (1 : Int32)))]) [1, 2, 3, 4, 5, 0] rfl ?_
  exact hrec _ _ _
def lX4_countOf_15 (N : Nat) (v0 : Nat) (v1 : Nat) (v2 : Int32) (v3 : Int32) : Nat → Int32 → Int32 → qM → Option (Int32 × qM)
  | 0, _, _, _ => none
  | n + 1, v4, v5, m0 =>
    if v3 ≤ v5 then (
    some (v4, m0)
    ) else (
    (qChk m0 v0 4 (fX4_valueOf N v0 v1 m0)).bind fun b1 =>
    if b1.1 = v2 then (
    kX4_countOf_33 N (lX4_countOf_15 N v0 v1 v2 v3 n) v0 v1 v2 v3 (v4 + (1 : Int32)) v5 b1.2
    ) else (
    kX4_countOf_33 N (lX4_countOf_15 N v0 v1 v2 v3 n) v0 v1 v2 v3 v4 v5 b1.2
    )
    )
set_option maxRecDepth 100000 in
theorem lbX4_countOf_15 {E : qE} {N d bc bs : Nat} (hd : 2 ≤ d) {v0 : Nat} {v1 : Nat} {v2 : Int32} {v3 : Int32} : ∀ (n : Nat) (v4 : Int32) (v5 : Int32) (m0 : qM), qB E yX4_countOf cX4_countOf 6 (some .int) (fun _ => True) d bc bs 15 [(0, .ref (E.2.1 + v0)), (1, .ref (E.2.1 + v1)), (2, .int v2), (3, .int v3), (4, .int v4), (5, .int v5)] [] m0 (lX4_countOf_15 N v0 v1 v2 v3 n v4 v5 m0) (fun o rr => qJ E yX4_countOf cX4_countOf 6 (some .int) (fun _ => True) d bc bs 47 [(4, .int o.1)] [] o.2 rr) := by
  intro n
  induction n with
  | zero =>
    intro v4 v5 m0
    exact j_none
  | succ n ih =>
    intro v4 v5 m0
    unfold lX4_countOf_15
    refine j_iload (q := 5) (np := 17) rfl dX4_countOf_15 rfl ?_
    refine j_iload_n (q := 3) (np := 18) rfl rfl dX4_countOf_17 rfl ?_
    refine j_icmp_ge (tgt := 47) (np := 21) dX4_countOf_18 rfl rfl ?_ ?_
    · refine j_sub (lv2 := [(4, .int v4)]) [4] rfl ?_
      exact j_exit (fun rr h => h)
    · refine j_aload_n (q := 0) (np := 22) rfl rfl dX4_countOf_21 rfl ?_
      refine j_aload_n (q := 1) (np := 23) rfl rfl dX4_countOf_22 rfl ?_
      refine j_callVi (ci := 4) (np := 26) (bc := bc) (bs := bs) (cb := 0) (cs := 0) (dd := d - 1) (As := [.ref (E.2.1 + v1)]) (st := []) caX4_valueOf mlX4_39 imX4_valueOf seX4_valueOf rfl rfl (by decide) (fun b hb => wX4_valueOf (by omega) hb) (by omega) rfl rfl (Nat.le_of_ble_eq_true rfl) dX4_countOf_23 rfl (fun b1 => ?_)
      refine j_iload_n (q := 2) (np := 27) rfl rfl dX4_countOf_26 rfl ?_
      refine j_icmp_ne (tgt := 33) (np := 30) dX4_countOf_27 rfl rfl ?_ ?_
      · exact kbX4_countOf_33 hd ih
      · refine j_iinc (q := 4) (np := 33) (lv2 := [(4, .int (v4 + (1 : Int32))), (0, .ref (E.2.1 + v0)), (1, .ref (E.2.1 + v1)), (2, .int v2), (3, .int v3), (5, .int v5)]) rfl (congrArg _ ci_1) (by decide) dX4_countOf_30 rfl rfl ?_
        refine j_sub (lv2 := [(0, .ref (E.2.1 + v0)), (1, .ref (E.2.1 + v1)), (2, .int v2), (3, .int v3), (4, .int (v4 + (1 : Int32))), (5, .int v5)]) [1, 2, 3, 4, 0, 5] rfl ?_
        exact kbX4_countOf_33 hd ih
def fX4_countOf (N : Nat) (v0 : Nat) (v1 : Nat) (v2 : Int32) (m0 : qM) : Option (Int32 × qM) :=
  (qChk m0 v1 0 (fX0_variables N v1 m0)).bind fun b1 =>
  (qChk b1.2 v0 4 (fX4_startValuations N v0 b1.1 b1.2)).bind fun b2 =>
  (lX4_countOf_15 N v0 v1 v2 b2.1 N (0 : Int32) (0 : Int32) b2.2).bind fun o3 =>
  some (o3.1, o3.2)
set_option maxRecDepth 100000 in
theorem bX4_countOf {E : qE} {N d bc bs : Nat} (hd : 2 ≤ d) {v0 : Nat} {v1 : Nat} {v2 : Int32} {m0 : qM} : qB E yX4_countOf cX4_countOf 6 (some .int) (fun _ => True) d bc bs 0 [(0, .ref (E.2.1 + v0)), (1, .ref (E.2.1 + v1)), (2, .int v2)] [] m0 (fX4_countOf N v0 v1 v2 m0) (fun b rr => rr = (some (.int b.1), b.2)) := by
  unfold fX4_countOf
  refine j_aload_n (q := 0) (np := 1) rfl rfl dX4_countOf_0 rfl ?_
  refine j_aload_n (q := 1) (np := 2) rfl rfl dX4_countOf_1 rfl ?_
  refine j_callVi (ci := 0) (np := 5) (bc := bc) (bs := bs) (cb := 0) (cs := 0) (dd := d - 1) (As := []) (st := [.ref (E.2.1 + v0)]) caX0_variables mlX4_29 imX0_variables seX0_variables rfl rfl (by decide) (fun b hb => wX0_variables (by omega) hb) (by omega) rfl rfl (Nat.le_of_ble_eq_true rfl) dX4_countOf_2 rfl (fun b1 => ?_)
  refine j_callVi (ci := 4) (np := 8) (bc := bc) (bs := bs) (cb := 0) (cs := 0) (dd := d - 1) (As := [.int b1.1]) (st := []) caX4_startValuations mlX4_35 imX4_startValuations seX4_startValuations rfl rfl (by decide) (fun b hb => wX4_startValuations (by omega) hb) (by omega) rfl rfl (Nat.le_of_ble_eq_true rfl) dX4_countOf_5 rfl (fun b2 => ?_)
  refine j_istore_n (np := 9) (lv2 := [(3, .int b2.1), (0, .ref (E.2.1 + v0)), (1, .ref (E.2.1 + v1)), (2, .int v2)]) rfl (by decide) dX4_countOf_8 rfl rfl ?_
  refine j_iconst (np := 10) ci_0 dX4_countOf_9 rfl ?_
  refine j_istore (np := 12) (lv2 := [(4, .int (0 : Int32)), (3, .int b2.1), (0, .ref (E.2.1 + v0)), (1, .ref (E.2.1 + v1)), (2, .int v2)]) (by decide) dX4_countOf_10 rfl rfl ?_
  refine j_iconst (np := 13) ci_0 dX4_countOf_12 rfl ?_
  refine j_istore (np := 15) (lv2 := [(5, .int (0 : Int32)), (4, .int (0 : Int32)), (3, .int b2.1), (0, .ref (E.2.1 + v0)), (1, .ref (E.2.1 + v1)), (2, .int v2)]) (by decide) dX4_countOf_13 rfl rfl ?_
  refine j_sub (lv2 := [(0, .ref (E.2.1 + v0)), (1, .ref (E.2.1 + v1)), (2, .int v2), (3, .int b2.1), (4, .int (0 : Int32)), (5, .int (0 : Int32))]) [3, 4, 5, 2, 1, 0] rfl ?_
  refine j_loop (xp := 47) (lvX := fun o3 => [(4, .int o3.1)]) (mX := fun o3 => o3.2) (lbX4_countOf_15 hd _ _ _ _) (fun o3 => ?_)
  refine j_iload (q := 0) (np := 49) rfl dX4_countOf_47 rfl ?_
  exact j_iret rfl dX4_countOf_49 (fun rr h => h)
set_option maxRecDepth 100000 in
theorem wX4_countOf {E : qE} {N d : Nat} (hd : 2 ≤ d) {v0 : Nat} {v1 : Nat} {v2 : Int32} {m0 : qM} {b : Int32 × qM} (h : fX4_countOf N v0 v1 v2 m0 = some b) : qRun E yX4_countOf cX4_countOf 6 (some .int) d 0 0 [.ref (E.2.1 + v0), .ref (E.2.1 + v1), .int v2] m0 (some (.int b.1), b.2) := q_met pnX4 (Nat.le_of_ble_eq_true rfl) (bX4_countOf hd b _ h rfl)
theorem dX5_init_0 : decode cX5_init 0 = .ok (.aload_n 0, 1) := by decide +kernel
theorem dX5_init_1 : decode cX5_init 1 = .ok (.invokespecial 3, 3) := by decide +kernel
theorem dX5_init_4 : decode cX5_init 4 = .ok (.aload_n 0, 1) := by decide +kernel
theorem dX5_init_5 : decode cX5_init 5 = .ok (.bipush 80, 2) := by decide +kernel
theorem dX5_init_7 : decode cX5_init 7 = .ok (.newarray .int, 2) := by decide +kernel
theorem dX5_init_9 : decode cX5_init 9 = .ok (.putfield 9, 3) := by decide +kernel
theorem dX5_init_12 : decode cX5_init 12 = .ok (.aload_n 0, 1) := by decide +kernel
theorem dX5_init_13 : decode cX5_init 13 = .ok (.iconst (-1), 1) := by decide +kernel
theorem dX5_init_14 : decode cX5_init 14 = .ok (.putfield 15, 3) := by decide +kernel
theorem dX5_init_17 : decode cX5_init 17 = .ok (.return_, 1) := by decide +kernel
def fX5_init (N : Nat) (v0 : Nat) (m0 : qM) : Option (qM) :=
  if ¬ (80 : Int32) < 0 ∧ (80 : Int32).toNatClampNeg ≤ 80 then qNew m0 12 (80 : Int32).toNatClampNeg (fun a1 m2 =>
  (qpR m2 v0 5 0 a1).bind fun m3 =>
  (qpI m3 v0 5 2 (-1 : Int32)).bind fun m4 =>
  some m4
  ) else none
set_option maxRecDepth 100000 in
theorem bX5_init {E : qE} {N d bc bs : Nat} (hd : 1 ≤ d) {v0 : Nat} {m0 : qM} : qB E yX5_init cX5_init 1 none (fun _ => True) d (bc + 1) (bs + 80) 0 [(0, .ref (E.2.1 + v0))] [] m0 (fX5_init N v0 m0) (fun b rr => rr = (none, b)) := by
  unfold fX5_init
  refine j_aload_n (q := 0) (np := 1) rfl rfl dX5_init_0 rfl ?_
  refine j_objInit (np := 4) mlX5_3 imObj cdObj (by omega) (Nat.le_of_ble_eq_true rfl) dX5_init_1 rfl ?_
  refine j_aload_n (q := 0) (np := 5) rfl rfl dX5_init_4 rfl ?_
  refine j_bipush (np := 7) cb_80 dX5_init_5 rfl ?_
  refine j_bud (b1 := bc + 1) (b2 := bs + 80) (by omega) (by omega) ?_
  refine j_newarr (bc := bc) (bs := bs) (c0 := 12) (t := 1) (n0 := 80) (np := 9) (atype := .int) (ty := .int) (Or.inr (Or.inl rfl)) rfl rfl (by decide) (by decide) (fun _ => rfl) (fun _ _ => rfl) ac_int dX5_init_7 rfl (fun a1 m2 => ?_)
  refine j_pR (np := 12) flX5_9 (fun _ => rfl) dX5_init_9 rfl (fun m3 => ?_)
  refine j_aload_n (q := 0) (np := 13) rfl rfl dX5_init_12 rfl ?_
  refine j_iconst (np := 14) ci_m1 dX5_init_13 rfl ?_
  refine j_pI (np := 17) flX5_15 dX5_init_14 rfl (fun m4 => ?_)
  exact j_vret rfl dX5_init_17 (fun rr h => h)
set_option maxRecDepth 100000 in
theorem wX5_init {E : qE} {N d : Nat} (hd : 1 ≤ d) {v0 : Nat} {m0 : qM} {b : qM} (h : fX5_init N v0 m0 = some b) : qRun E yX5_init cX5_init 1 none d 1 80 [.ref (E.2.1 + v0)] m0 (none, b) := q_met pnX5 (Nat.le_of_ble_eq_true rfl) ((j_bud (by omega) (by omega) (bX5_init (bc := 0) (bs := 0) hd)) b _ h rfl)
theorem dX5_isMissing_0 : decode cX5_isMissing 0 = .ok (.aload_n 0, 1) := by decide +kernel
theorem dX5_isMissing_1 : decode cX5_isMissing 1 = .ok (.getfield 15, 3) := by decide +kernel
theorem dX5_isMissing_4 : decode cX5_isMissing 4 = .ok (.iconst (-1), 1) := by decide +kernel
theorem dX5_isMissing_5 : decode cX5_isMissing 5 = .ok (.if_icmp .ne 7, 3) := by decide +kernel
theorem dX5_isMissing_8 : decode cX5_isMissing 8 = .ok (.iconst 1, 1) := by decide +kernel
theorem dX5_isMissing_9 : decode cX5_isMissing 9 = .ok (.goto 4, 3) := by decide +kernel
theorem dX5_isMissing_12 : decode cX5_isMissing 12 = .ok (.iconst 0, 1) := by decide +kernel
theorem dX5_isMissing_13 : decode cX5_isMissing 13 = .ok (.ireturn, 1) := by decide +kernel
def fX5_isMissing (N : Nat) (v0 : Nat) (m0 : qM) : Option (Int32 × qM) :=
  (qgI m0 v0 5 2).bind fun x1 =>
  if x1 = (-1 : Int32) then (
  some ((1 : Int32), m0)
  ) else (
  some ((0 : Int32), m0)
  )
set_option maxRecDepth 100000 in
theorem bX5_isMissing {E : qE} {N d bc bs : Nat} (hd : 0 ≤ d) {v0 : Nat} {m0 : qM} : qB E yX5_isMissing cX5_isMissing 1 (some .boolean) (fun _ => True) d bc bs 0 [(0, .ref (E.2.1 + v0))] [] m0 (fX5_isMissing N v0 m0) (fun b rr => rr = (some (.int b.1), b.2)) := by
  unfold fX5_isMissing
  refine j_aload_n (q := 0) (np := 1) rfl rfl dX5_isMissing_0 rfl ?_
  refine j_gI (np := 4) flX5_15 dX5_isMissing_1 rfl (fun x1 => ?_)
  refine j_iconst (np := 5) ci_m1 dX5_isMissing_4 rfl ?_
  refine j_icmp_ne (tgt := 12) (np := 8) dX5_isMissing_5 rfl rfl ?_ ?_
  · refine j_iconst (np := 13) ci_0 dX5_isMissing_12 rfl ?_
    exact j_zret rfl dX5_isMissing_13 (fun rr h => by rw [z0]; exact h)
  · refine j_iconst (np := 9) ci_1 dX5_isMissing_8 rfl ?_
    refine j_goto (tgt := 13) dX5_isMissing_9 rfl ?_
    exact j_zret rfl dX5_isMissing_13 (fun rr h => by rw [z1]; exact h)
set_option maxRecDepth 100000 in
theorem wX5_isMissing {E : qE} {N d : Nat} (hd : 0 ≤ d) {v0 : Nat} {m0 : qM} {b : Int32 × qM} (h : fX5_isMissing N v0 m0 = some b) : qRun E yX5_isMissing cX5_isMissing 1 (some .boolean) d 0 0 [.ref (E.2.1 + v0)] m0 (some (.int b.1), b.2) := q_met pnX5 (Nat.le_of_ble_eq_true rfl) (bX5_isMissing hd b _ h rfl)
theorem dX5_type_0 : decode cX5_type 0 = .ok (.aload_n 0, 1) := by decide +kernel
theorem dX5_type_1 : decode cX5_type 1 = .ok (.getfield 19, 3) := by decide +kernel
theorem dX5_type_4 : decode cX5_type 4 = .ok (.ireturn, 1) := by decide +kernel
def fX5_type (N : Nat) (v0 : Nat) (m0 : qM) : Option (Int32 × qM) :=
  (qgI m0 v0 5 1).bind fun x1 =>
  some (x1, m0)
set_option maxRecDepth 100000 in
theorem bX5_type {E : qE} {N d bc bs : Nat} (hd : 0 ≤ d) {v0 : Nat} {m0 : qM} : qB E yX5_type cX5_type 1 (some .int) (fun _ => True) d bc bs 0 [(0, .ref (E.2.1 + v0))] [] m0 (fX5_type N v0 m0) (fun b rr => rr = (some (.int b.1), b.2)) := by
  unfold fX5_type
  refine j_aload_n (q := 0) (np := 1) rfl rfl dX5_type_0 rfl ?_
  refine j_gI (np := 4) flX5_19 dX5_type_1 rfl (fun x1 => ?_)
  exact j_iret rfl dX5_type_4 (fun rr h => h)
set_option maxRecDepth 100000 in
theorem wX5_type {E : qE} {N d : Nat} (hd : 0 ≤ d) {v0 : Nat} {m0 : qM} {b : Int32 × qM} (h : fX5_type N v0 m0 = some b) : qRun E yX5_type cX5_type 1 (some .int) d 0 0 [.ref (E.2.1 + v0)] m0 (some (.int b.1), b.2) := q_met pnX5 (Nat.le_of_ble_eq_true rfl) (bX5_type hd b _ h rfl)
theorem dX5_renew_0 : decode cX5_renew 0 = .ok (.aload_n 0, 1) := by decide +kernel
theorem dX5_renew_1 : decode cX5_renew 1 = .ok (.getfield 9, 3) := by decide +kernel
theorem dX5_renew_4 : decode cX5_renew 4 = .ok (.iconst 0, 1) := by decide +kernel
theorem dX5_renew_5 : decode cX5_renew 5 = .ok (.invokestatic 22, 3) := by decide +kernel
theorem dX5_renew_8 : decode cX5_renew 8 = .ok (.aload_n 0, 1) := by decide +kernel
theorem dX5_renew_9 : decode cX5_renew 9 = .ok (.iload_n 1, 1) := by decide +kernel
theorem dX5_renew_10 : decode cX5_renew 10 = .ok (.putfield 19, 3) := by decide +kernel
theorem dX5_renew_13 : decode cX5_renew 13 = .ok (.aload_n 0, 1) := by decide +kernel
theorem dX5_renew_14 : decode cX5_renew 14 = .ok (.iload_n 2, 1) := by decide +kernel
theorem dX5_renew_15 : decode cX5_renew 15 = .ok (.putfield 15, 3) := by decide +kernel
theorem dX5_renew_18 : decode cX5_renew 18 = .ok (.return_, 1) := by decide +kernel
def fX5_renew (N : Nat) (v0 : Nat) (v1 : Int32) (v2 : Int32) (m0 : qM) : Option (qM) :=
  (qgR m0 v0 5 0).bind fun x1 =>
  (fJ7_fill_53178 N x1 (0 : Int32) m0).bind fun b2 =>
  (qpI b2 v0 5 1 v1).bind fun m3 =>
  (qpI m3 v0 5 2 v2).bind fun m4 =>
  some m4
set_option maxRecDepth 100000 in
theorem bX5_renew {E : qE} {N d bc bs : Nat} (hd : 1 ≤ d) {v0 : Nat} {v1 : Int32} {v2 : Int32} {m0 : qM} : qB E yX5_renew cX5_renew 3 none (fun _ => True) d bc bs 0 [(0, .ref (E.2.1 + v0)), (1, .int v1), (2, .int v2)] [] m0 (fX5_renew N v0 v1 v2 m0) (fun b rr => rr = (none, b)) := by
  unfold fX5_renew
  refine j_aload_n (q := 0) (np := 1) rfl rfl dX5_renew_0 rfl ?_
  refine j_gR (np := 4) flX5_9 dX5_renew_1 rfl (fun x1 => ?_)
  refine j_iconst (np := 5) ci_0 dX5_renew_4 rfl ?_
  refine j_callSv (np := 8) (bc := bc) (bs := bs) (cb := 0) (cs := 0) (dd := d - 1) (As := [.ref (E.2.1 + x1), .int (0 : Int32)]) (st := []) caJ7_fill_53178 mlX5_22 stJ7_fill_53178 (fun b hb => wJ7_fill_53178 (by omega) hb) (by omega) rfl rfl (Nat.le_of_ble_eq_true rfl) dX5_renew_5 rfl (fun b2 => ?_)
  refine j_aload_n (q := 0) (np := 9) rfl rfl dX5_renew_8 rfl ?_
  refine j_iload_n (q := 1) (np := 10) rfl rfl dX5_renew_9 rfl ?_
  refine j_pI (np := 13) flX5_19 dX5_renew_10 rfl (fun m3 => ?_)
  refine j_aload_n (q := 0) (np := 14) rfl rfl dX5_renew_13 rfl ?_
  refine j_iload_n (q := 2) (np := 15) rfl rfl dX5_renew_14 rfl ?_
  refine j_pI (np := 18) flX5_15 dX5_renew_15 rfl (fun m4 => ?_)
  exact j_vret rfl dX5_renew_18 (fun rr h => h)
set_option maxRecDepth 100000 in
theorem wX5_renew {E : qE} {N d : Nat} (hd : 1 ≤ d) {v0 : Nat} {v1 : Int32} {v2 : Int32} {m0 : qM} {b : qM} (h : fX5_renew N v0 v1 v2 m0 = some b) : qRun E yX5_renew cX5_renew 3 none d 0 0 [.ref (E.2.1 + v0), .int v1, .int v2] m0 (none, b) := q_met pnX5 (Nat.le_of_ble_eq_true rfl) (bX5_renew hd b _ h rfl)
theorem dX5_spans_0 : decode cX5_spans 0 = .ok (.iload_n 1, 1) := by decide +kernel
theorem dX5_spans_1 : decode cX5_spans 1 = .ok (.ifCond .lt 21, 3) := by decide +kernel
theorem dX5_spans_4 : decode cX5_spans 4 = .ok (.iload_n 2, 1) := by decide +kernel
theorem dX5_spans_5 : decode cX5_spans 5 = .ok (.ifCond .lt 17, 3) := by decide +kernel
theorem dX5_spans_8 : decode cX5_spans 8 = .ok (.iload_n 1, 1) := by decide +kernel
theorem dX5_spans_9 : decode cX5_spans 9 = .ok (.aload_n 0, 1) := by decide +kernel
theorem dX5_spans_10 : decode cX5_spans 10 = .ok (.getfield 15, 3) := by decide +kernel
theorem dX5_spans_13 : decode cX5_spans 13 = .ok (.iload_n 2, 1) := by decide +kernel
theorem dX5_spans_14 : decode cX5_spans 14 = .ok (.isub, 1) := by decide +kernel
theorem dX5_spans_15 : decode cX5_spans 15 = .ok (.if_icmp .gt 7, 3) := by decide +kernel
theorem dX5_spans_18 : decode cX5_spans 18 = .ok (.iconst 1, 1) := by decide +kernel
theorem dX5_spans_19 : decode cX5_spans 19 = .ok (.goto 4, 3) := by decide +kernel
theorem dX5_spans_22 : decode cX5_spans 22 = .ok (.iconst 0, 1) := by decide +kernel
theorem dX5_spans_23 : decode cX5_spans 23 = .ok (.ireturn, 1) := by decide +kernel
def fX5_spans (N : Nat) (v0 : Nat) (v1 : Int32) (v2 : Int32) (m0 : qM) : Option (Int32 × qM) :=
  if v1 < 0 then (
  some ((0 : Int32), m0)
  ) else (
  if v2 < 0 then (
  some ((0 : Int32), m0)
  ) else (
  (qgI m0 v0 5 2).bind fun x1 =>
  if x1 - v2 < v1 then (
  some ((0 : Int32), m0)
  ) else (
  some ((1 : Int32), m0)
  )
  )
  )
set_option maxRecDepth 100000 in
theorem bX5_spans {E : qE} {N d bc bs : Nat} (hd : 0 ≤ d) {v0 : Nat} {v1 : Int32} {v2 : Int32} {m0 : qM} : qB E yX5_spans cX5_spans 3 (some .boolean) (fun _ => True) d bc bs 0 [(0, .ref (E.2.1 + v0)), (1, .int v1), (2, .int v2)] [] m0 (fX5_spans N v0 v1 v2 m0) (fun b rr => rr = (some (.int b.1), b.2)) := by
  unfold fX5_spans
  refine j_iload_n (q := 1) (np := 1) rfl rfl dX5_spans_0 rfl ?_
  refine j_if_lt (tgt := 22) (np := 4) dX5_spans_1 rfl rfl ?_ ?_
  · refine j_iconst (np := 23) ci_0 dX5_spans_22 rfl ?_
    exact j_zret rfl dX5_spans_23 (fun rr h => by rw [z0]; exact h)
  · refine j_iload_n (q := 2) (np := 5) rfl rfl dX5_spans_4 rfl ?_
    refine j_if_lt (tgt := 22) (np := 8) dX5_spans_5 rfl rfl ?_ ?_
    · refine j_iconst (np := 23) ci_0 dX5_spans_22 rfl ?_
      exact j_zret rfl dX5_spans_23 (fun rr h => by rw [z0]; exact h)
    · refine j_iload_n (q := 1) (np := 9) rfl rfl dX5_spans_8 rfl ?_
      refine j_aload_n (q := 0) (np := 10) rfl rfl dX5_spans_9 rfl ?_
      refine j_gI (np := 13) flX5_15 dX5_spans_10 rfl (fun x1 => ?_)
      refine j_iload_n (q := 2) (np := 14) rfl rfl dX5_spans_13 rfl ?_
      refine j_isub (np := 15) dX5_spans_14 rfl ?_
      refine j_icmp_gt (tgt := 22) (np := 18) dX5_spans_15 rfl rfl ?_ ?_
      · refine j_iconst (np := 23) ci_0 dX5_spans_22 rfl ?_
        exact j_zret rfl dX5_spans_23 (fun rr h => by rw [z0]; exact h)
      · refine j_iconst (np := 19) ci_1 dX5_spans_18 rfl ?_
        refine j_goto (tgt := 23) dX5_spans_19 rfl ?_
        exact j_zret rfl dX5_spans_23 (fun rr h => by rw [z1]; exact h)
set_option maxRecDepth 100000 in
theorem wX5_spans {E : qE} {N d : Nat} (hd : 0 ≤ d) {v0 : Nat} {v1 : Int32} {v2 : Int32} {m0 : qM} {b : Int32 × qM} (h : fX5_spans N v0 v1 v2 m0 = some b) : qRun E yX5_spans cX5_spans 3 (some .boolean) d 0 0 [.ref (E.2.1 + v0), .int v1, .int v2] m0 (some (.int b.1), b.2) := q_met pnX5 (Nat.le_of_ble_eq_true rfl) (bX5_spans hd b _ h rfl)
theorem dX5_at_0 : decode cX5_at 0 = .ok (.aload_n 0, 1) := by decide +kernel
theorem dX5_at_1 : decode cX5_at 1 = .ok (.getfield 9, 3) := by decide +kernel
theorem dX5_at_4 : decode cX5_at 4 = .ok (.iload_n 1, 1) := by decide +kernel
theorem dX5_at_5 : decode cX5_at 5 = .ok (.iaload, 1) := by decide +kernel
theorem dX5_at_6 : decode cX5_at 6 = .ok (.ireturn, 1) := by decide +kernel
def fX5_at (N : Nat) (v0 : Nat) (v1 : Int32) (m0 : qM) : Option (Int32 × qM) :=
  (qgR m0 v0 5 0).bind fun x1 =>
  (qaI m0 x1 12 v1).bind fun x2 =>
  some (x2, m0)
set_option maxRecDepth 100000 in
theorem bX5_at {E : qE} {N d bc bs : Nat} (hd : 0 ≤ d) {v0 : Nat} {v1 : Int32} {m0 : qM} : qB E yX5_at cX5_at 2 (some .int) (fun _ => True) d bc bs 0 [(0, .ref (E.2.1 + v0)), (1, .int v1)] [] m0 (fX5_at N v0 v1 m0) (fun b rr => rr = (some (.int b.1), b.2)) := by
  unfold fX5_at
  refine j_aload_n (q := 0) (np := 1) rfl rfl dX5_at_0 rfl ?_
  refine j_gR (np := 4) flX5_9 dX5_at_1 rfl (fun x1 => ?_)
  refine j_iload_n (q := 1) (np := 5) rfl rfl dX5_at_4 rfl ?_
  refine j_iaload (np := 6) dX5_at_5 rfl (fun x2 => ?_)
  exact j_iret rfl dX5_at_6 (fun rr h => h)
set_option maxRecDepth 100000 in
theorem wX5_at {E : qE} {N d : Nat} (hd : 0 ≤ d) {v0 : Nat} {v1 : Int32} {m0 : qM} {b : Int32 × qM} (h : fX5_at N v0 v1 m0 = some b) : qRun E yX5_at cX5_at 2 (some .int) d 0 0 [.ref (E.2.1 + v0), .int v1] m0 (some (.int b.1), b.2) := q_met pnX5 (Nat.le_of_ble_eq_true rfl) (bX5_at hd b _ h rfl)
theorem dX5_set_0 : decode cX5_set 0 = .ok (.aload_n 0, 1) := by decide +kernel
theorem dX5_set_1 : decode cX5_set 1 = .ok (.getfield 19, 3) := by decide +kernel
theorem dX5_set_4 : decode cX5_set 4 = .ok (.lookupswitch 50 #[(0, 28), (1, 39)], 28) := by decide +kernel
theorem dX5_set_32 : decode cX5_set 32 = .ok (.aload_n 0, 1) := by decide +kernel
theorem dX5_set_33 : decode cX5_set 33 = .ok (.getfield 9, 3) := by decide +kernel
theorem dX5_set_36 : decode cX5_set 36 = .ok (.iload_n 1, 1) := by decide +kernel
theorem dX5_set_37 : decode cX5_set 37 = .ok (.iload_n 2, 1) := by decide +kernel
theorem dX5_set_38 : decode cX5_set 38 = .ok (.i2b, 1) := by decide +kernel
theorem dX5_set_39 : decode cX5_set 39 = .ok (.iastore, 1) := by decide +kernel
theorem dX5_set_40 : decode cX5_set 40 = .ok (.goto 21, 3) := by decide +kernel
theorem dX5_set_43 : decode cX5_set 43 = .ok (.aload_n 0, 1) := by decide +kernel
theorem dX5_set_44 : decode cX5_set 44 = .ok (.getfield 9, 3) := by decide +kernel
theorem dX5_set_47 : decode cX5_set 47 = .ok (.iload_n 1, 1) := by decide +kernel
theorem dX5_set_48 : decode cX5_set 48 = .ok (.iload_n 2, 1) := by decide +kernel
theorem dX5_set_49 : decode cX5_set 49 = .ok (.i2c, 1) := by decide +kernel
theorem dX5_set_50 : decode cX5_set 50 = .ok (.iastore, 1) := by decide +kernel
theorem dX5_set_51 : decode cX5_set 51 = .ok (.goto 10, 3) := by decide +kernel
theorem dX5_set_54 : decode cX5_set 54 = .ok (.aload_n 0, 1) := by decide +kernel
theorem dX5_set_55 : decode cX5_set 55 = .ok (.getfield 9, 3) := by decide +kernel
theorem dX5_set_58 : decode cX5_set 58 = .ok (.iload_n 1, 1) := by decide +kernel
theorem dX5_set_59 : decode cX5_set 59 = .ok (.iload_n 2, 1) := by decide +kernel
theorem dX5_set_60 : decode cX5_set 60 = .ok (.iastore, 1) := by decide +kernel
theorem dX5_set_61 : decode cX5_set 61 = .ok (.return_, 1) := by decide +kernel
def fX5_set (N : Nat) (v0 : Nat) (v1 : Int32) (v2 : Int32) (m0 : qM) : Option (qM) :=
  (qgI m0 v0 5 1).bind fun x1 =>
  if x1 = (0 : Int32) then (
  (qgR m0 v0 5 0).bind fun x2 =>
  (qwI m0 x2 12 v1 v2.toInt8.toInt32).bind fun m3 =>
  some m3
  ) else (
  if x1 = (1 : Int32) then (
  (qgR m0 v0 5 0).bind fun x4 =>
  (qwI m0 x4 12 v1 ((v2.toUInt32 % 65536).toInt32)).bind fun m5 =>
  some m5
  ) else (
  (qgR m0 v0 5 0).bind fun x6 =>
  (qwI m0 x6 12 v1 v2).bind fun m7 =>
  some m7
  ))
set_option maxRecDepth 100000 in
theorem bX5_set {E : qE} {N d bc bs : Nat} (hd : 0 ≤ d) {v0 : Nat} {v1 : Int32} {v2 : Int32} {m0 : qM} : qB E yX5_set cX5_set 3 none (fun _ => True) d bc bs 0 [(0, .ref (E.2.1 + v0)), (1, .int v1), (2, .int v2)] [] m0 (fX5_set N v0 v1 v2 m0) (fun b rr => rr = (none, b)) := by
  unfold fX5_set
  refine j_aload_n (q := 0) (np := 1) rfl rfl dX5_set_0 rfl ?_
  refine j_gI (np := 4) flX5_19 dX5_set_1 rfl (fun x1 => ?_)
  refine j_split (fun h0 => ?_) (fun h0 => ?_)
  · refine j_lookup (off := 28) (tgt := 32) dX5_set_4 (by decide) (by rw [h0] <;> rfl) rfl ?_
    refine j_aload_n (q := 0) (np := 33) rfl rfl dX5_set_32 rfl ?_
    refine j_gR (np := 36) flX5_9 dX5_set_33 rfl (fun x2 => ?_)
    refine j_iload_n (q := 1) (np := 37) rfl rfl dX5_set_36 rfl ?_
    refine j_iload_n (q := 2) (np := 38) rfl rfl dX5_set_37 rfl ?_
    refine j_i2b (np := 39) dX5_set_38 rfl ?_
    refine j_iastore (np := 40) dX5_set_39 rfl (fun m3 => ?_)
    refine j_goto (tgt := 61) dX5_set_40 rfl ?_
    exact j_vret rfl dX5_set_61 (fun rr h => h)
  refine j_split (fun h1 => ?_) (fun h1 => ?_)
  · refine j_lookup (off := 39) (tgt := 43) dX5_set_4 (by decide) (by rw [h1] <;> rfl) rfl ?_
    refine j_aload_n (q := 0) (np := 44) rfl rfl dX5_set_43 rfl ?_
    refine j_gR (np := 47) flX5_9 dX5_set_44 rfl (fun x4 => ?_)
    refine j_iload_n (q := 1) (np := 48) rfl rfl dX5_set_47 rfl ?_
    refine j_iload_n (q := 2) (np := 49) rfl rfl dX5_set_48 rfl ?_
    refine j_i2c (np := 50) dX5_set_49 rfl ?_
    refine j_iastore (np := 51) dX5_set_50 rfl (fun m5 => ?_)
    refine j_goto (tgt := 61) dX5_set_51 rfl ?_
    exact j_vret rfl dX5_set_61 (fun rr h => h)
  refine j_lookup (off := 50) (tgt := 54) dX5_set_4 (by decide) (by show Op.lookupswitch.offset [(0, 28), (1, 39)] 50 _ = _; rw [lv_osw (a := 0) h0 (by decide), lv_osw (a := 1) h1 (by decide)] <;> rfl) rfl ?_
  refine j_aload_n (q := 0) (np := 55) rfl rfl dX5_set_54 rfl ?_
  refine j_gR (np := 58) flX5_9 dX5_set_55 rfl (fun x6 => ?_)
  refine j_iload_n (q := 1) (np := 59) rfl rfl dX5_set_58 rfl ?_
  refine j_iload_n (q := 2) (np := 60) rfl rfl dX5_set_59 rfl ?_
  refine j_iastore (np := 61) dX5_set_60 rfl (fun m7 => ?_)
  exact j_vret rfl dX5_set_61 (fun rr h => h)
set_option maxRecDepth 100000 in
theorem wX5_set {E : qE} {N d : Nat} (hd : 0 ≤ d) {v0 : Nat} {v1 : Int32} {v2 : Int32} {m0 : qM} {b : qM} (h : fX5_set N v0 v1 v2 m0 = some b) : qRun E yX5_set cX5_set 3 none d 0 0 [.ref (E.2.1 + v0), .int v1, .int v2] m0 (none, b) := q_met pnX5 (Nat.le_of_ble_eq_true rfl) (bX5_set hd b _ h rfl)
theorem dX5_copyFrom_0 : decode cX5_copyFrom 0 = .ok (.aload_n 1, 1) := by decide +kernel
theorem dX5_copyFrom_1 : decode cX5_copyFrom 1 = .ok (.getfield 9, 3) := by decide +kernel
theorem dX5_copyFrom_4 : decode cX5_copyFrom 4 = .ok (.iload_n 2, 1) := by decide +kernel
theorem dX5_copyFrom_5 : decode cX5_copyFrom 5 = .ok (.aload_n 0, 1) := by decide +kernel
theorem dX5_copyFrom_6 : decode cX5_copyFrom 6 = .ok (.getfield 9, 3) := by decide +kernel
theorem dX5_copyFrom_9 : decode cX5_copyFrom 9 = .ok (.iload_n 3, 1) := by decide +kernel
theorem dX5_copyFrom_10 : decode cX5_copyFrom 10 = .ok (.iload 4, 2) := by decide +kernel
theorem dX5_copyFrom_12 : decode cX5_copyFrom 12 = .ok (.invokestatic 28, 3) := by decide +kernel
theorem dX5_copyFrom_15 : decode cX5_copyFrom 15 = .ok (.return_, 1) := by decide +kernel
def fX5_copyFrom (N : Nat) (v0 : Nat) (v1 : Nat) (v2 : Int32) (v3 : Int32) (v4 : Int32) (m0 : qM) : Option (qM) :=
  (qgR m0 v1 5 0).bind fun x1 =>
  (qgR m0 v0 5 0).bind fun x2 =>
  (qcpy m0 x1 v2 x2 v3 v4).bind fun m3 =>
  some m3
set_option maxRecDepth 100000 in
theorem bX5_copyFrom {E : qE} {N d bc bs : Nat} (hd : 1 ≤ d) {v0 : Nat} {v1 : Nat} {v2 : Int32} {v3 : Int32} {v4 : Int32} {m0 : qM} : qB E yX5_copyFrom cX5_copyFrom 5 none (fun _ => True) d bc bs 0 [(0, .ref (E.2.1 + v0)), (1, .ref (E.2.1 + v1)), (2, .int v2), (3, .int v3), (4, .int v4)] [] m0 (fX5_copyFrom N v0 v1 v2 v3 v4 m0) (fun b rr => rr = (none, b)) := by
  unfold fX5_copyFrom
  refine j_aload_n (q := 1) (np := 1) rfl rfl dX5_copyFrom_0 rfl ?_
  refine j_gR (np := 4) flX5_9 dX5_copyFrom_1 rfl (fun x1 => ?_)
  refine j_iload_n (q := 2) (np := 5) rfl rfl dX5_copyFrom_4 rfl ?_
  refine j_aload_n (q := 0) (np := 6) rfl rfl dX5_copyFrom_5 rfl ?_
  refine j_gR (np := 9) flX5_9 dX5_copyFrom_6 rfl (fun x2 => ?_)
  refine j_iload_n (q := 3) (np := 10) rfl rfl dX5_copyFrom_9 rfl ?_
  refine j_iload (q := 4) (np := 12) rfl dX5_copyFrom_10 rfl ?_
  refine j_copy (np := 15) mlX5_28 ntCopy stCopy inSys (by omega) (Nat.le_of_ble_eq_true rfl) dX5_copyFrom_12 rfl (fun m3 => ?_)
  exact j_vret rfl dX5_copyFrom_15 (fun rr h => h)
set_option maxRecDepth 100000 in
theorem wX5_copyFrom {E : qE} {N d : Nat} (hd : 1 ≤ d) {v0 : Nat} {v1 : Nat} {v2 : Int32} {v3 : Int32} {v4 : Int32} {m0 : qM} {b : qM} (h : fX5_copyFrom N v0 v1 v2 v3 v4 m0 = some b) : qRun E yX5_copyFrom cX5_copyFrom 5 none d 0 0 [.ref (E.2.1 + v0), .ref (E.2.1 + v1), .int v2, .int v3, .int v4] m0 (none, b) := q_met pnX5 (Nat.le_of_ble_eq_true rfl) (bX5_copyFrom hd b _ h rfl)
theorem dX6_init_0 : decode cX6_init 0 = .ok (.aload_n 0, 1) := by decide +kernel
theorem dX6_init_1 : decode cX6_init 1 = .ok (.invokespecial 3, 3) := by decide +kernel
theorem dX6_init_4 : decode cX6_init 4 = .ok (.aload_n 0, 1) := by decide +kernel
theorem dX6_init_5 : decode cX6_init 5 = .ok (.bipush 9, 2) := by decide +kernel
theorem dX6_init_7 : decode cX6_init 7 = .ok (.newarray .boolean, 2) := by decide +kernel
theorem dX6_init_9 : decode cX6_init 9 = .ok (.putfield 9, 3) := by decide +kernel
theorem dX6_init_12 : decode cX6_init 12 = .ok (.aload_n 0, 1) := by decide +kernel
theorem dX6_init_13 : decode cX6_init 13 = .ok (.sipush 160, 3) := by decide +kernel
theorem dX6_init_16 : decode cX6_init 16 = .ok (.newarray .boolean, 2) := by decide +kernel
theorem dX6_init_18 : decode cX6_init 18 = .ok (.putfield 15, 3) := by decide +kernel
theorem dX6_init_21 : decode cX6_init 21 = .ok (.aload_n 0, 1) := by decide +kernel
theorem dX6_init_22 : decode cX6_init 22 = .ok (.sipush 160, 3) := by decide +kernel
theorem dX6_init_25 : decode cX6_init 25 = .ok (.newarray .int, 2) := by decide +kernel
theorem dX6_init_27 : decode cX6_init 27 = .ok (.putfield 18, 3) := by decide +kernel
theorem dX6_init_30 : decode cX6_init 30 = .ok (.aload_n 0, 1) := by decide +kernel
theorem dX6_init_31 : decode cX6_init 31 = .ok (.iconst 3, 1) := by decide +kernel
theorem dX6_init_32 : decode cX6_init 32 = .ok (.newarray .int, 2) := by decide +kernel
theorem dX6_init_34 : decode cX6_init 34 = .ok (.putfield 22, 3) := by decide +kernel
theorem dX6_init_37 : decode cX6_init 37 = .ok (.aload_n 0, 1) := by decide +kernel
theorem dX6_init_38 : decode cX6_init 38 = .ok (.iconst 3, 1) := by decide +kernel
theorem dX6_init_39 : decode cX6_init 39 = .ok (.newarray .int, 2) := by decide +kernel
theorem dX6_init_41 : decode cX6_init 41 = .ok (.putfield 25, 3) := by decide +kernel
theorem dX6_init_44 : decode cX6_init 44 = .ok (.aload_n 0, 1) := by decide +kernel
theorem dX6_init_45 : decode cX6_init 45 = .ok (.sipush 160, 3) := by decide +kernel
theorem dX6_init_48 : decode cX6_init 48 = .ok (.newarray .char, 2) := by decide +kernel
theorem dX6_init_50 : decode cX6_init 50 = .ok (.putfield 28, 3) := by decide +kernel
theorem dX6_init_53 : decode cX6_init 53 = .ok (.aload_n 0, 1) := by decide +kernel
theorem dX6_init_54 : decode cX6_init 54 = .ok (.sipush 160, 3) := by decide +kernel
theorem dX6_init_57 : decode cX6_init 57 = .ok (.newarray .char, 2) := by decide +kernel
theorem dX6_init_59 : decode cX6_init 59 = .ok (.putfield 32, 3) := by decide +kernel
theorem dX6_init_62 : decode cX6_init 62 = .ok (.return_, 1) := by decide +kernel
def fX6_init (N : Nat) (v0 : Nat) (m0 : qM) : Option (qM) :=
  if ¬ (9 : Int32) < 0 ∧ (9 : Int32).toNatClampNeg ≤ 9 then qNew m0 14 (9 : Int32).toNatClampNeg (fun a1 m2 =>
  (qpR m2 v0 6 0 a1).bind fun m3 =>
  if ¬ (160 : Int32) < 0 ∧ (160 : Int32).toNatClampNeg ≤ 160 then qNew m3 14 (160 : Int32).toNatClampNeg (fun a4 m5 =>
  (qpR m5 v0 6 1 a4).bind fun m6 =>
  if ¬ (160 : Int32) < 0 ∧ (160 : Int32).toNatClampNeg ≤ 160 then qNew m6 12 (160 : Int32).toNatClampNeg (fun a7 m8 =>
  (qpR m8 v0 6 2 a7).bind fun m9 =>
  if ¬ (3 : Int32) < 0 ∧ (3 : Int32).toNatClampNeg ≤ 3 then qNew m9 12 (3 : Int32).toNatClampNeg (fun a10 m11 =>
  (qpR m11 v0 6 3 a10).bind fun m12 =>
  if ¬ (3 : Int32) < 0 ∧ (3 : Int32).toNatClampNeg ≤ 3 then qNew m12 12 (3 : Int32).toNatClampNeg (fun a13 m14 =>
  (qpR m14 v0 6 4 a13).bind fun m15 =>
  if ¬ (160 : Int32) < 0 ∧ (160 : Int32).toNatClampNeg ≤ 160 then qNew m15 11 (160 : Int32).toNatClampNeg (fun a16 m17 =>
  (qpR m17 v0 6 5 a16).bind fun m18 =>
  if ¬ (160 : Int32) < 0 ∧ (160 : Int32).toNatClampNeg ≤ 160 then qNew m18 11 (160 : Int32).toNatClampNeg (fun a19 m20 =>
  (qpR m20 v0 6 6 a19).bind fun m21 =>
  some m21
  ) else none
  ) else none
  ) else none
  ) else none
  ) else none
  ) else none
  ) else none
set_option maxRecDepth 100000 in
theorem bX6_init {E : qE} {N d bc bs : Nat} (hd : 1 ≤ d) {v0 : Nat} {m0 : qM} : qB E yX6_init cX6_init 1 none (fun _ => True) d (bc + 7) (bs + 655) 0 [(0, .ref (E.2.1 + v0))] [] m0 (fX6_init N v0 m0) (fun b rr => rr = (none, b)) := by
  unfold fX6_init
  refine j_aload_n (q := 0) (np := 1) rfl rfl dX6_init_0 rfl ?_
  refine j_objInit (np := 4) mlX6_3 imObj cdObj (by omega) (Nat.le_of_ble_eq_true rfl) dX6_init_1 rfl ?_
  refine j_aload_n (q := 0) (np := 5) rfl rfl dX6_init_4 rfl ?_
  refine j_bipush (np := 7) cb_9 dX6_init_5 rfl ?_
  refine j_bud (b1 := (bc + 6) + 1) (b2 := (bs + 646) + 9) (by omega) (by omega) ?_
  refine j_newarr (bc := (bc + 6)) (bs := (bs + 646)) (c0 := 14) (t := 3) (n0 := 9) (np := 9) (atype := .boolean) (ty := .boolean) (Or.inr (Or.inr rfl)) rfl rfl (by decide) (by decide) (fun _ => rfl) (fun _ _ => rfl) ac_boolean dX6_init_7 rfl (fun a1 m2 => ?_)
  refine j_pR (np := 12) flX6_9 (fun _ => rfl) dX6_init_9 rfl (fun m3 => ?_)
  refine j_aload_n (q := 0) (np := 13) rfl rfl dX6_init_12 rfl ?_
  refine j_sipush (np := 16) cs_160 dX6_init_13 rfl ?_
  refine j_bud (b1 := (bc + 5) + 1) (b2 := (bs + 486) + 160) (by omega) (by omega) ?_
  refine j_newarr (bc := (bc + 5)) (bs := (bs + 486)) (c0 := 14) (t := 3) (n0 := 160) (np := 18) (atype := .boolean) (ty := .boolean) (Or.inr (Or.inr rfl)) rfl rfl (by decide) (by decide) (fun _ => rfl) (fun _ _ => rfl) ac_boolean dX6_init_16 rfl (fun a4 m5 => ?_)
  refine j_pR (np := 21) flX6_15 (fun _ => rfl) dX6_init_18 rfl (fun m6 => ?_)
  refine j_aload_n (q := 0) (np := 22) rfl rfl dX6_init_21 rfl ?_
  refine j_sipush (np := 25) cs_160 dX6_init_22 rfl ?_
  refine j_bud (b1 := (bc + 4) + 1) (b2 := (bs + 326) + 160) (by omega) (by omega) ?_
  refine j_newarr (bc := (bc + 4)) (bs := (bs + 326)) (c0 := 12) (t := 1) (n0 := 160) (np := 27) (atype := .int) (ty := .int) (Or.inr (Or.inl rfl)) rfl rfl (by decide) (by decide) (fun _ => rfl) (fun _ _ => rfl) ac_int dX6_init_25 rfl (fun a7 m8 => ?_)
  refine j_pR (np := 30) flX6_18 (fun _ => rfl) dX6_init_27 rfl (fun m9 => ?_)
  refine j_aload_n (q := 0) (np := 31) rfl rfl dX6_init_30 rfl ?_
  refine j_iconst (np := 32) ci_3 dX6_init_31 rfl ?_
  refine j_bud (b1 := (bc + 3) + 1) (b2 := (bs + 323) + 3) (by omega) (by omega) ?_
  refine j_newarr (bc := (bc + 3)) (bs := (bs + 323)) (c0 := 12) (t := 1) (n0 := 3) (np := 34) (atype := .int) (ty := .int) (Or.inr (Or.inl rfl)) rfl rfl (by decide) (by decide) (fun _ => rfl) (fun _ _ => rfl) ac_int dX6_init_32 rfl (fun a10 m11 => ?_)
  refine j_pR (np := 37) flX6_22 (fun _ => rfl) dX6_init_34 rfl (fun m12 => ?_)
  refine j_aload_n (q := 0) (np := 38) rfl rfl dX6_init_37 rfl ?_
  refine j_iconst (np := 39) ci_3 dX6_init_38 rfl ?_
  refine j_bud (b1 := (bc + 2) + 1) (b2 := (bs + 320) + 3) (by omega) (by omega) ?_
  refine j_newarr (bc := (bc + 2)) (bs := (bs + 320)) (c0 := 12) (t := 1) (n0 := 3) (np := 41) (atype := .int) (ty := .int) (Or.inr (Or.inl rfl)) rfl rfl (by decide) (by decide) (fun _ => rfl) (fun _ _ => rfl) ac_int dX6_init_39 rfl (fun a13 m14 => ?_)
  refine j_pR (np := 44) flX6_25 (fun _ => rfl) dX6_init_41 rfl (fun m15 => ?_)
  refine j_aload_n (q := 0) (np := 45) rfl rfl dX6_init_44 rfl ?_
  refine j_sipush (np := 48) cs_160 dX6_init_45 rfl ?_
  refine j_bud (b1 := (bc + 1) + 1) (b2 := (bs + 160) + 160) (by omega) (by omega) ?_
  refine j_newarr (bc := (bc + 1)) (bs := (bs + 160)) (c0 := 11) (t := 0) (n0 := 160) (np := 50) (atype := .char) (ty := .char) (Or.inl rfl) rfl rfl (by decide) (by decide) (fun _ => rfl) (fun _ _ => rfl) ac_char dX6_init_48 rfl (fun a16 m17 => ?_)
  refine j_pR (np := 53) flX6_28 (fun h => by cases h) dX6_init_50 rfl (fun m18 => ?_)
  refine j_aload_n (q := 0) (np := 54) rfl rfl dX6_init_53 rfl ?_
  refine j_sipush (np := 57) cs_160 dX6_init_54 rfl ?_
  refine j_bud (b1 := bc + 1) (b2 := bs + 160) (by omega) (by omega) ?_
  refine j_newarr (bc := bc) (bs := bs) (c0 := 11) (t := 0) (n0 := 160) (np := 59) (atype := .char) (ty := .char) (Or.inl rfl) rfl rfl (by decide) (by decide) (fun _ => rfl) (fun _ _ => rfl) ac_char dX6_init_57 rfl (fun a19 m20 => ?_)
  refine j_pR (np := 62) flX6_32 (fun h => by cases h) dX6_init_59 rfl (fun m21 => ?_)
  exact j_vret rfl dX6_init_62 (fun rr h => h)
set_option maxRecDepth 100000 in
theorem wX6_init {E : qE} {N d : Nat} (hd : 1 ≤ d) {v0 : Nat} {m0 : qM} {b : qM} (h : fX6_init N v0 m0 = some b) : qRun E yX6_init cX6_init 1 none d 7 655 [.ref (E.2.1 + v0)] m0 (none, b) := q_met pnX6 (Nat.le_of_ble_eq_true rfl) ((j_bud (by omega) (by omega) (bX6_init (bc := 0) (bs := 0) hd)) b _ h rfl)
theorem dX6_arityOf_0 : decode cX6_arityOf 0 = .ok (.iload_n 0, 1) := by decide +kernel
theorem dX6_arityOf_1 : decode cX6_arityOf 1 = .ok (.lookupswitch 65 #[(66, 63), (67, 63), (73, 59), (75, 61), (83, 63), (87, 61)], 59) := by decide +kernel
theorem dX6_arityOf_60 : decode cX6_arityOf 60 = .ok (.iconst 1, 1) := by decide +kernel
theorem dX6_arityOf_61 : decode cX6_arityOf 61 = .ok (.ireturn, 1) := by decide +kernel
theorem dX6_arityOf_62 : decode cX6_arityOf 62 = .ok (.iconst 2, 1) := by decide +kernel
theorem dX6_arityOf_63 : decode cX6_arityOf 63 = .ok (.ireturn, 1) := by decide +kernel
theorem dX6_arityOf_64 : decode cX6_arityOf 64 = .ok (.iconst 3, 1) := by decide +kernel
theorem dX6_arityOf_65 : decode cX6_arityOf 65 = .ok (.ireturn, 1) := by decide +kernel
theorem dX6_arityOf_66 : decode cX6_arityOf 66 = .ok (.iconst 0, 1) := by decide +kernel
theorem dX6_arityOf_67 : decode cX6_arityOf 67 = .ok (.ireturn, 1) := by decide +kernel
def fX6_arityOf (N : Nat) (v0 : Int32) (m0 : qM) : Option (Int32 × qM) :=
  if v0 = (66 : Int32) then (
  some ((3 : Int32), m0)
  ) else (
  if v0 = (67 : Int32) then (
  some ((3 : Int32), m0)
  ) else (
  if v0 = (73 : Int32) then (
  some ((1 : Int32), m0)
  ) else (
  if v0 = (75 : Int32) then (
  some ((2 : Int32), m0)
  ) else (
  if v0 = (83 : Int32) then (
  some ((3 : Int32), m0)
  ) else (
  if v0 = (87 : Int32) then (
  some ((2 : Int32), m0)
  ) else (
  some ((0 : Int32), m0)
  ))))))
set_option maxRecDepth 100000 in
theorem bX6_arityOf {E : qE} {N d bc bs : Nat} (hd : 0 ≤ d) {v0 : Int32} {m0 : qM} : qB E yX6_arityOf cX6_arityOf 1 (some .int) (fun _ => True) d bc bs 0 [(0, .int v0)] [] m0 (fX6_arityOf N v0 m0) (fun b rr => rr = (some (.int b.1), b.2)) := by
  unfold fX6_arityOf
  refine j_iload_n (q := 0) (np := 1) rfl rfl dX6_arityOf_0 rfl ?_
  refine j_split (fun h66 => ?_) (fun h66 => ?_)
  · refine j_lookup (off := 63) (tgt := 64) dX6_arityOf_1 (by decide) (by rw [h66] <;> rfl) rfl ?_
    refine j_iconst (np := 65) ci_3 dX6_arityOf_64 rfl ?_
    exact j_iret rfl dX6_arityOf_65 (fun rr h => h)
  refine j_split (fun h67 => ?_) (fun h67 => ?_)
  · refine j_lookup (off := 63) (tgt := 64) dX6_arityOf_1 (by decide) (by rw [h67] <;> rfl) rfl ?_
    refine j_iconst (np := 65) ci_3 dX6_arityOf_64 rfl ?_
    exact j_iret rfl dX6_arityOf_65 (fun rr h => h)
  refine j_split (fun h73 => ?_) (fun h73 => ?_)
  · refine j_lookup (off := 59) (tgt := 60) dX6_arityOf_1 (by decide) (by rw [h73] <;> rfl) rfl ?_
    refine j_iconst (np := 61) ci_1 dX6_arityOf_60 rfl ?_
    exact j_iret rfl dX6_arityOf_61 (fun rr h => h)
  refine j_split (fun h75 => ?_) (fun h75 => ?_)
  · refine j_lookup (off := 61) (tgt := 62) dX6_arityOf_1 (by decide) (by rw [h75] <;> rfl) rfl ?_
    refine j_iconst (np := 63) ci_2 dX6_arityOf_62 rfl ?_
    exact j_iret rfl dX6_arityOf_63 (fun rr h => h)
  refine j_split (fun h83 => ?_) (fun h83 => ?_)
  · refine j_lookup (off := 63) (tgt := 64) dX6_arityOf_1 (by decide) (by rw [h83] <;> rfl) rfl ?_
    refine j_iconst (np := 65) ci_3 dX6_arityOf_64 rfl ?_
    exact j_iret rfl dX6_arityOf_65 (fun rr h => h)
  refine j_split (fun h87 => ?_) (fun h87 => ?_)
  · refine j_lookup (off := 61) (tgt := 62) dX6_arityOf_1 (by decide) (by rw [h87] <;> rfl) rfl ?_
    refine j_iconst (np := 63) ci_2 dX6_arityOf_62 rfl ?_
    exact j_iret rfl dX6_arityOf_63 (fun rr h => h)
  refine j_lookup (off := 65) (tgt := 66) dX6_arityOf_1 (by decide) (by show Op.lookupswitch.offset [(66, 63), (67, 63), (73, 59), (75, 61), (83, 63), (87, 61)] 65 _ = _; rw [lv_osw (a := 66) h66 (by decide), lv_osw (a := 67) h67 (by decide), lv_osw (a := 73) h73 (by decide), lv_osw (a := 75) h75 (by decide), lv_osw (a := 83) h83 (by decide), lv_osw (a := 87) h87 (by decide)] <;> rfl) rfl ?_
  refine j_iconst (np := 67) ci_0 dX6_arityOf_66 rfl ?_
  exact j_iret rfl dX6_arityOf_67 (fun rr h => h)
set_option maxRecDepth 100000 in
theorem wX6_arityOf {E : qE} {N d : Nat} (hd : 0 ≤ d) {v0 : Int32} {m0 : qM} {b : Int32 × qM} (h : fX6_arityOf N v0 m0 = some b) : qRun E yX6_arityOf cX6_arityOf 1 (some .int) d 0 0 [.int v0] m0 (some (.int b.1), b.2) := q_met pnX6 (Nat.le_of_ble_eq_true rfl) (bX6_arityOf hd b _ h rfl)
theorem dX6_typeOf_0 : decode cX6_typeOf 0 = .ok (.iload_n 0, 1) := by decide +kernel
theorem dX6_typeOf_1 : decode cX6_typeOf 1 = .ok (.lookupswitch 66 #[(66, 57), (67, 60), (75, 51), (83, 54), (87, 63)], 51) := by decide +kernel
theorem dX6_typeOf_52 : decode cX6_typeOf 52 = .ok (.ldc 35, 2) := by decide +kernel
theorem dX6_typeOf_54 : decode cX6_typeOf 54 = .ok (.areturn, 1) := by decide +kernel
theorem dX6_typeOf_55 : decode cX6_typeOf 55 = .ok (.ldc 37, 2) := by decide +kernel
theorem dX6_typeOf_57 : decode cX6_typeOf 57 = .ok (.areturn, 1) := by decide +kernel
theorem dX6_typeOf_58 : decode cX6_typeOf 58 = .ok (.ldc 39, 2) := by decide +kernel
theorem dX6_typeOf_60 : decode cX6_typeOf 60 = .ok (.areturn, 1) := by decide +kernel
theorem dX6_typeOf_61 : decode cX6_typeOf 61 = .ok (.ldc 41, 2) := by decide +kernel
theorem dX6_typeOf_63 : decode cX6_typeOf 63 = .ok (.areturn, 1) := by decide +kernel
theorem dX6_typeOf_64 : decode cX6_typeOf 64 = .ok (.ldc 43, 2) := by decide +kernel
theorem dX6_typeOf_66 : decode cX6_typeOf 66 = .ok (.areturn, 1) := by decide +kernel
theorem dX6_typeOf_67 : decode cX6_typeOf 67 = .ok (.ldc 45, 2) := by decide +kernel
theorem dX6_typeOf_69 : decode cX6_typeOf 69 = .ok (.areturn, 1) := by decide +kernel
def fX6_typeOf (N : Nat) (v0 : Int32) (m0 : qM) : Option (Nat × qM) :=
  if v0 = (66 : Int32) then (
  some (2, m0)
  ) else (
  if v0 = (67 : Int32) then (
  some (3, m0)
  ) else (
  if v0 = (75 : Int32) then (
  some (0, m0)
  ) else (
  if v0 = (83 : Int32) then (
  some (1, m0)
  ) else (
  if v0 = (87 : Int32) then (
  some (4, m0)
  ) else (
  some (5, m0)
  )))))
set_option maxRecDepth 100000 in
theorem bX6_typeOf {E : qE} {N d bc bs : Nat} (hd : 0 ≤ d) {v0 : Int32} {m0 : qM} : qB E yX6_typeOf cX6_typeOf 1 (some (.object "java/lang/String")) (fun _ => True) d bc bs 0 [(0, .int v0)] [] m0 (fX6_typeOf N v0 m0) (fun b rr => rr = (some (.ref (E.2.2.2.2.1 b.1)), b.2)) := by
  unfold fX6_typeOf
  refine j_iload_n (q := 0) (np := 1) rfl rfl dX6_typeOf_0 rfl ?_
  refine j_split (fun h66 => ?_) (fun h66 => ?_)
  · refine j_lookup (off := 57) (tgt := 58) dX6_typeOf_1 (by decide) (by rw [h66] <;> rfl) rfl ?_
    refine j_ldcS (np := 60) (k := 2) (List.mem_of_getElem? (i := 2) rfl) dX6_typeOf_58 rfl ?_
    exact j_aret rfl dX6_typeOf_60 (fun rr h => h)
  refine j_split (fun h67 => ?_) (fun h67 => ?_)
  · refine j_lookup (off := 60) (tgt := 61) dX6_typeOf_1 (by decide) (by rw [h67] <;> rfl) rfl ?_
    refine j_ldcS (np := 63) (k := 3) (List.mem_of_getElem? (i := 3) rfl) dX6_typeOf_61 rfl ?_
    exact j_aret rfl dX6_typeOf_63 (fun rr h => h)
  refine j_split (fun h75 => ?_) (fun h75 => ?_)
  · refine j_lookup (off := 51) (tgt := 52) dX6_typeOf_1 (by decide) (by rw [h75] <;> rfl) rfl ?_
    refine j_ldcS (np := 54) (k := 0) (List.mem_of_getElem? (i := 0) rfl) dX6_typeOf_52 rfl ?_
    exact j_aret rfl dX6_typeOf_54 (fun rr h => h)
  refine j_split (fun h83 => ?_) (fun h83 => ?_)
  · refine j_lookup (off := 54) (tgt := 55) dX6_typeOf_1 (by decide) (by rw [h83] <;> rfl) rfl ?_
    refine j_ldcS (np := 57) (k := 1) (List.mem_of_getElem? (i := 1) rfl) dX6_typeOf_55 rfl ?_
    exact j_aret rfl dX6_typeOf_57 (fun rr h => h)
  refine j_split (fun h87 => ?_) (fun h87 => ?_)
  · refine j_lookup (off := 63) (tgt := 64) dX6_typeOf_1 (by decide) (by rw [h87] <;> rfl) rfl ?_
    refine j_ldcS (np := 66) (k := 4) (List.mem_of_getElem? (i := 4) rfl) dX6_typeOf_64 rfl ?_
    exact j_aret rfl dX6_typeOf_66 (fun rr h => h)
  refine j_lookup (off := 66) (tgt := 67) dX6_typeOf_1 (by decide) (by show Op.lookupswitch.offset [(66, 57), (67, 60), (75, 51), (83, 54), (87, 63)] 66 _ = _; rw [lv_osw (a := 66) h66 (by decide), lv_osw (a := 67) h67 (by decide), lv_osw (a := 75) h75 (by decide), lv_osw (a := 83) h83 (by decide), lv_osw (a := 87) h87 (by decide)] <;> rfl) rfl ?_
  refine j_ldcS (np := 69) (k := 5) (List.mem_of_getElem? (i := 5) rfl) dX6_typeOf_67 rfl ?_
  exact j_aret rfl dX6_typeOf_69 (fun rr h => h)
set_option maxRecDepth 100000 in
theorem wX6_typeOf {E : qE} {N d : Nat} (hd : 0 ≤ d) {v0 : Int32} {m0 : qM} {b : Nat × qM} (h : fX6_typeOf N v0 m0 = some b) : qRun E yX6_typeOf cX6_typeOf 1 (some (.object "java/lang/String")) d 0 0 [.int v0] m0 (some (.ref (E.2.2.2.2.1 b.1)), b.2) := q_met pnX6 (Nat.le_of_ble_eq_true rfl) (bX6_typeOf hd b _ h rfl)
theorem dX6_contractumOf_0 : decode cX6_contractumOf 0 = .ok (.iload_n 0, 1) := by decide +kernel
theorem dX6_contractumOf_1 : decode cX6_contractumOf 1 = .ok (.lookupswitch 55 #[(66, 46), (67, 49), (83, 43), (87, 52)], 43) := by decide +kernel
theorem dX6_contractumOf_44 : decode cX6_contractumOf 44 = .ok (.ldc 47, 2) := by decide +kernel
theorem dX6_contractumOf_46 : decode cX6_contractumOf 46 = .ok (.areturn, 1) := by decide +kernel
theorem dX6_contractumOf_47 : decode cX6_contractumOf 47 = .ok (.ldc 49, 2) := by decide +kernel
theorem dX6_contractumOf_49 : decode cX6_contractumOf 49 = .ok (.areturn, 1) := by decide +kernel
theorem dX6_contractumOf_50 : decode cX6_contractumOf 50 = .ok (.ldc 51, 2) := by decide +kernel
theorem dX6_contractumOf_52 : decode cX6_contractumOf 52 = .ok (.areturn, 1) := by decide +kernel
theorem dX6_contractumOf_53 : decode cX6_contractumOf 53 = .ok (.ldc 53, 2) := by decide +kernel
theorem dX6_contractumOf_55 : decode cX6_contractumOf 55 = .ok (.areturn, 1) := by decide +kernel
theorem dX6_contractumOf_56 : decode cX6_contractumOf 56 = .ok (.ldc 55, 2) := by decide +kernel
theorem dX6_contractumOf_58 : decode cX6_contractumOf 58 = .ok (.areturn, 1) := by decide +kernel
def fX6_contractumOf (N : Nat) (v0 : Int32) (m0 : qM) : Option (Nat × qM) :=
  if v0 = (66 : Int32) then (
  some (7, m0)
  ) else (
  if v0 = (67 : Int32) then (
  some (8, m0)
  ) else (
  if v0 = (83 : Int32) then (
  some (6, m0)
  ) else (
  if v0 = (87 : Int32) then (
  some (9, m0)
  ) else (
  some (10, m0)
  ))))
set_option maxRecDepth 100000 in
theorem bX6_contractumOf {E : qE} {N d bc bs : Nat} (hd : 0 ≤ d) {v0 : Int32} {m0 : qM} : qB E yX6_contractumOf cX6_contractumOf 1 (some (.object "java/lang/String")) (fun _ => True) d bc bs 0 [(0, .int v0)] [] m0 (fX6_contractumOf N v0 m0) (fun b rr => rr = (some (.ref (E.2.2.2.2.1 b.1)), b.2)) := by
  unfold fX6_contractumOf
  refine j_iload_n (q := 0) (np := 1) rfl rfl dX6_contractumOf_0 rfl ?_
  refine j_split (fun h66 => ?_) (fun h66 => ?_)
  · refine j_lookup (off := 46) (tgt := 47) dX6_contractumOf_1 (by decide) (by rw [h66] <;> rfl) rfl ?_
    refine j_ldcS (np := 49) (k := 7) (List.mem_of_getElem? (i := 7) rfl) dX6_contractumOf_47 rfl ?_
    exact j_aret rfl dX6_contractumOf_49 (fun rr h => h)
  refine j_split (fun h67 => ?_) (fun h67 => ?_)
  · refine j_lookup (off := 49) (tgt := 50) dX6_contractumOf_1 (by decide) (by rw [h67] <;> rfl) rfl ?_
    refine j_ldcS (np := 52) (k := 8) (List.mem_of_getElem? (i := 8) rfl) dX6_contractumOf_50 rfl ?_
    exact j_aret rfl dX6_contractumOf_52 (fun rr h => h)
  refine j_split (fun h83 => ?_) (fun h83 => ?_)
  · refine j_lookup (off := 43) (tgt := 44) dX6_contractumOf_1 (by decide) (by rw [h83] <;> rfl) rfl ?_
    refine j_ldcS (np := 46) (k := 6) (List.mem_of_getElem? (i := 6) rfl) dX6_contractumOf_44 rfl ?_
    exact j_aret rfl dX6_contractumOf_46 (fun rr h => h)
  refine j_split (fun h87 => ?_) (fun h87 => ?_)
  · refine j_lookup (off := 52) (tgt := 53) dX6_contractumOf_1 (by decide) (by rw [h87] <;> rfl) rfl ?_
    refine j_ldcS (np := 55) (k := 9) (List.mem_of_getElem? (i := 9) rfl) dX6_contractumOf_53 rfl ?_
    exact j_aret rfl dX6_contractumOf_55 (fun rr h => h)
  refine j_lookup (off := 55) (tgt := 56) dX6_contractumOf_1 (by decide) (by show Op.lookupswitch.offset [(66, 46), (67, 49), (83, 43), (87, 52)] 55 _ = _; rw [lv_osw (a := 66) h66 (by decide), lv_osw (a := 67) h67 (by decide), lv_osw (a := 83) h83 (by decide), lv_osw (a := 87) h87 (by decide)] <;> rfl) rfl ?_
  refine j_ldcS (np := 58) (k := 10) (List.mem_of_getElem? (i := 10) rfl) dX6_contractumOf_56 rfl ?_
  exact j_aret rfl dX6_contractumOf_58 (fun rr h => h)
set_option maxRecDepth 100000 in
theorem wX6_contractumOf {E : qE} {N d : Nat} (hd : 0 ≤ d) {v0 : Int32} {m0 : qM} {b : Nat × qM} (h : fX6_contractumOf N v0 m0 = some b) : qRun E yX6_contractumOf cX6_contractumOf 1 (some (.object "java/lang/String")) d 0 0 [.int v0] m0 (some (.ref (E.2.2.2.2.1 b.1)), b.2) := q_met pnX6 (Nat.le_of_ble_eq_true rfl) (bX6_contractumOf hd b _ h rfl)
theorem dX6_length_0 : decode cX6_length 0 = .ok (.aload_n 0, 1) := by decide +kernel
theorem dX6_length_1 : decode cX6_length 1 = .ok (.getfield 57, 3) := by decide +kernel
theorem dX6_length_4 : decode cX6_length 4 = .ok (.ireturn, 1) := by decide +kernel
def fX6_length (N : Nat) (v0 : Nat) (m0 : qM) : Option (Int32 × qM) :=
  (qgI m0 v0 6 7).bind fun x1 =>
  some (x1, m0)
set_option maxRecDepth 100000 in
theorem bX6_length {E : qE} {N d bc bs : Nat} (hd : 0 ≤ d) {v0 : Nat} {m0 : qM} : qB E yX6_length cX6_length 1 (some .int) (fun _ => True) d bc bs 0 [(0, .ref (E.2.1 + v0))] [] m0 (fX6_length N v0 m0) (fun b rr => rr = (some (.int b.1), b.2)) := by
  unfold fX6_length
  refine j_aload_n (q := 0) (np := 1) rfl rfl dX6_length_0 rfl ?_
  refine j_gI (np := 4) flX6_57 dX6_length_1 rfl (fun x1 => ?_)
  exact j_iret rfl dX6_length_4 (fun rr h => h)
set_option maxRecDepth 100000 in
theorem wX6_length {E : qE} {N d : Nat} (hd : 0 ≤ d) {v0 : Nat} {m0 : qM} {b : Int32 × qM} (h : fX6_length N v0 m0 = some b) : qRun E yX6_length cX6_length 1 (some .int) d 0 0 [.ref (E.2.1 + v0)] m0 (some (.int b.1), b.2) := q_met pnX6 (Nat.le_of_ble_eq_true rfl) (bX6_length hd b _ h rfl)
theorem dX6_at_0 : decode cX6_at 0 = .ok (.aload_n 0, 1) := by decide +kernel
theorem dX6_at_1 : decode cX6_at 1 = .ok (.getfield 28, 3) := by decide +kernel
theorem dX6_at_4 : decode cX6_at 4 = .ok (.iload_n 1, 1) := by decide +kernel
theorem dX6_at_5 : decode cX6_at 5 = .ok (.caload, 1) := by decide +kernel
theorem dX6_at_6 : decode cX6_at 6 = .ok (.ireturn, 1) := by decide +kernel
def fX6_at (N : Nat) (v0 : Nat) (v1 : Int32) (m0 : qM) : Option (Int32 × qM) :=
  (qgR m0 v0 6 5).bind fun x1 =>
  (qaI m0 x1 11 v1).bind fun x2 =>
  some (x2.toUInt32.toUInt16.toUInt32.toInt32, m0)
set_option maxRecDepth 100000 in
theorem bX6_at {E : qE} {N d bc bs : Nat} (hd : 0 ≤ d) {v0 : Nat} {v1 : Int32} {m0 : qM} : qB E yX6_at cX6_at 2 (some .char) (fun _ => True) d bc bs 0 [(0, .ref (E.2.1 + v0)), (1, .int v1)] [] m0 (fX6_at N v0 v1 m0) (fun b rr => rr = (some (.int b.1), b.2)) := by
  unfold fX6_at
  refine j_aload_n (q := 0) (np := 1) rfl rfl dX6_at_0 rfl ?_
  refine j_gR (np := 4) flX6_28 dX6_at_1 rfl (fun x1 => ?_)
  refine j_iload_n (q := 1) (np := 5) rfl rfl dX6_at_4 rfl ?_
  refine j_caload (np := 6) dX6_at_5 rfl (fun x2 => ?_)
  exact j_cret rfl dX6_at_6 (fun rr h => h)
set_option maxRecDepth 100000 in
theorem wX6_at {E : qE} {N d : Nat} (hd : 0 ≤ d) {v0 : Nat} {v1 : Int32} {m0 : qM} {b : Int32 × qM} (h : fX6_at N v0 v1 m0 = some b) : qRun E yX6_at cX6_at 2 (some .char) d 0 0 [.ref (E.2.1 + v0), .int v1] m0 (some (.int b.1), b.2) := q_met pnX6 (Nat.le_of_ble_eq_true rfl) (bX6_at hd b _ h rfl)
theorem dX6_add_0 : decode cX6_add 0 = .ok (.aload_n 0, 1) := by decide +kernel
theorem dX6_add_1 : decode cX6_add 1 = .ok (.getfield 57, 3) := by decide +kernel
theorem dX6_add_4 : decode cX6_add 4 = .ok (.sipush 160, 3) := by decide +kernel
theorem dX6_add_7 : decode cX6_add 7 = .ok (.if_icmp .ge 23, 3) := by decide +kernel
theorem dX6_add_10 : decode cX6_add 10 = .ok (.aload_n 0, 1) := by decide +kernel
theorem dX6_add_11 : decode cX6_add 11 = .ok (.getfield 28, 3) := by decide +kernel
theorem dX6_add_14 : decode cX6_add 14 = .ok (.aload_n 0, 1) := by decide +kernel
theorem dX6_add_15 : decode cX6_add 15 = .ok (.getfield 57, 3) := by decide +kernel
theorem dX6_add_18 : decode cX6_add 18 = .ok (.iload_n 1, 1) := by decide +kernel
theorem dX6_add_19 : decode cX6_add 19 = .ok (.castore, 1) := by decide +kernel
theorem dX6_add_20 : decode cX6_add 20 = .ok (.aload_n 0, 1) := by decide +kernel
theorem dX6_add_21 : decode cX6_add 21 = .ok (.dup, 1) := by decide +kernel
theorem dX6_add_22 : decode cX6_add 22 = .ok (.getfield 57, 3) := by decide +kernel
theorem dX6_add_25 : decode cX6_add 25 = .ok (.iconst 1, 1) := by decide +kernel
theorem dX6_add_26 : decode cX6_add 26 = .ok (.iadd, 1) := by decide +kernel
theorem dX6_add_27 : decode cX6_add 27 = .ok (.putfield 57, 3) := by decide +kernel
theorem dX6_add_30 : decode cX6_add 30 = .ok (.return_, 1) := by decide +kernel
def fX6_add (N : Nat) (v0 : Nat) (v1 : Int32) (m0 : qM) : Option (qM) :=
  (qgI m0 v0 6 7).bind fun x1 =>
  if (160 : Int32) ≤ x1 then (
  some m0
  ) else (
  (qgR m0 v0 6 5).bind fun x2 =>
  (qgI m0 v0 6 7).bind fun x3 =>
  (qwI m0 x2 11 x3 v1.toUInt32.toUInt16.toUInt32.toInt32).bind fun m4 =>
  (qgI m4 v0 6 7).bind fun x5 =>
  (qpI m4 v0 6 7 (x5 + (1 : Int32))).bind fun m6 =>
  some m6
  )
set_option maxRecDepth 100000 in
theorem bX6_add {E : qE} {N d bc bs : Nat} (hd : 0 ≤ d) {v0 : Nat} {v1 : Int32} {m0 : qM} : qB E yX6_add cX6_add 2 none (fun _ => True) d bc bs 0 [(0, .ref (E.2.1 + v0)), (1, .int v1)] [] m0 (fX6_add N v0 v1 m0) (fun b rr => rr = (none, b)) := by
  unfold fX6_add
  refine j_aload_n (q := 0) (np := 1) rfl rfl dX6_add_0 rfl ?_
  refine j_gI (np := 4) flX6_57 dX6_add_1 rfl (fun x1 => ?_)
  refine j_sipush (np := 7) cs_160 dX6_add_4 rfl ?_
  refine j_icmp_ge (tgt := 30) (np := 10) dX6_add_7 rfl rfl ?_ ?_
  · exact j_vret rfl dX6_add_30 (fun rr h => h)
  · refine j_aload_n (q := 0) (np := 11) rfl rfl dX6_add_10 rfl ?_
    refine j_gR (np := 14) flX6_28 dX6_add_11 rfl (fun x2 => ?_)
    refine j_aload_n (q := 0) (np := 15) rfl rfl dX6_add_14 rfl ?_
    refine j_gI (np := 18) flX6_57 dX6_add_15 rfl (fun x3 => ?_)
    refine j_iload_n (q := 1) (np := 19) rfl rfl dX6_add_18 rfl ?_
    refine j_castore (np := 20) dX6_add_19 rfl (fun m4 => ?_)
    refine j_aload_n (q := 0) (np := 21) rfl rfl dX6_add_20 rfl ?_
    refine j_dup (np := 22) rfl dX6_add_21 rfl ?_
    refine j_gI (np := 25) flX6_57 dX6_add_22 rfl (fun x5 => ?_)
    refine j_iconst (np := 26) ci_1 dX6_add_25 rfl ?_
    refine j_iadd (np := 27) dX6_add_26 rfl ?_
    refine j_pI (np := 30) flX6_57 dX6_add_27 rfl (fun m6 => ?_)
    exact j_vret rfl dX6_add_30 (fun rr h => h)
set_option maxRecDepth 100000 in
theorem wX6_add {E : qE} {N d : Nat} (hd : 0 ≤ d) {v0 : Nat} {v1 : Int32} {m0 : qM} {b : qM} (h : fX6_add N v0 v1 m0 = some b) : qRun E yX6_add cX6_add 2 none d 0 0 [.ref (E.2.1 + v0), .int v1] m0 (none, b) := q_met pnX6 (Nat.le_of_ble_eq_true rfl) (bX6_add hd b _ h rfl)
theorem dX7_at_0 : decode cX7_at 0 = .ok (.aload_n 0, 1) := by decide +kernel
theorem dX7_at_1 : decode cX7_at 1 = .ok (.getfield 9, 3) := by decide +kernel
theorem dX7_at_4 : decode cX7_at 4 = .ok (.iload_n 1, 1) := by decide +kernel
theorem dX7_at_5 : decode cX7_at 5 = .ok (.caload, 1) := by decide +kernel
theorem dX7_at_6 : decode cX7_at 6 = .ok (.ireturn, 1) := by decide +kernel
def fX7_at (N : Nat) (v0 : Nat) (v1 : Int32) (m0 : qM) : Option (Int32 × qM) :=
  (qgR m0 v0 7 0).bind fun x1 =>
  (qaI m0 x1 11 v1).bind fun x2 =>
  some (x2.toUInt32.toUInt16.toUInt32.toInt32, m0)
set_option maxRecDepth 100000 in
theorem bX7_at {E : qE} {N d bc bs : Nat} (hd : 0 ≤ d) {v0 : Nat} {v1 : Int32} {m0 : qM} : qB E yX7_at cX7_at 2 (some .char) (fun _ => True) d bc bs 0 [(0, .ref (E.2.1 + v0)), (1, .int v1)] [] m0 (fX7_at N v0 v1 m0) (fun b rr => rr = (some (.int b.1), b.2)) := by
  unfold fX7_at
  refine j_aload_n (q := 0) (np := 1) rfl rfl dX7_at_0 rfl ?_
  refine j_gR (np := 4) flX7_9 dX7_at_1 rfl (fun x1 => ?_)
  refine j_iload_n (q := 1) (np := 5) rfl rfl dX7_at_4 rfl ?_
  refine j_caload (np := 6) dX7_at_5 rfl (fun x2 => ?_)
  exact j_cret rfl dX7_at_6 (fun rr h => h)
set_option maxRecDepth 100000 in
theorem wX7_at {E : qE} {N d : Nat} (hd : 0 ≤ d) {v0 : Nat} {v1 : Int32} {m0 : qM} {b : Int32 × qM} (h : fX7_at N v0 v1 m0 = some b) : qRun E yX7_at cX7_at 2 (some .char) d 0 0 [.ref (E.2.1 + v0), .int v1] m0 (some (.int b.1), b.2) := q_met pnX7 (Nat.le_of_ble_eq_true rfl) (bX7_at hd b _ h rfl)
theorem dX7_length_0 : decode cX7_length 0 = .ok (.aload_n 0, 1) := by decide +kernel
theorem dX7_length_1 : decode cX7_length 1 = .ok (.getfield 15, 3) := by decide +kernel
theorem dX7_length_4 : decode cX7_length 4 = .ok (.ireturn, 1) := by decide +kernel
def fX7_length (N : Nat) (v0 : Nat) (m0 : qM) : Option (Int32 × qM) :=
  (qgI m0 v0 7 1).bind fun x1 =>
  some (x1, m0)
set_option maxRecDepth 100000 in
theorem bX7_length {E : qE} {N d bc bs : Nat} (hd : 0 ≤ d) {v0 : Nat} {m0 : qM} : qB E yX7_length cX7_length 1 (some .int) (fun _ => True) d bc bs 0 [(0, .ref (E.2.1 + v0))] [] m0 (fX7_length N v0 m0) (fun b rr => rr = (some (.int b.1), b.2)) := by
  unfold fX7_length
  refine j_aload_n (q := 0) (np := 1) rfl rfl dX7_length_0 rfl ?_
  refine j_gI (np := 4) flX7_15 dX7_length_1 rfl (fun x1 => ?_)
  exact j_iret rfl dX7_length_4 (fun rr h => h)
set_option maxRecDepth 100000 in
theorem wX7_length {E : qE} {N d : Nat} (hd : 0 ≤ d) {v0 : Nat} {m0 : qM} {b : Int32 × qM} (h : fX7_length N v0 m0 = some b) : qRun E yX7_length cX7_length 1 (some .int) d 0 0 [.ref (E.2.1 + v0)] m0 (some (.int b.1), b.2) := q_met pnX7 (Nat.le_of_ble_eq_true rfl) (bX7_length hd b _ h rfl)
theorem dX6_read_0 : decode cX6_read 0 = .ok (.aload_n 0, 1) := by decide +kernel
theorem dX6_read_1 : decode cX6_read 1 = .ok (.iconst 0, 1) := by decide +kernel
theorem dX6_read_2 : decode cX6_read 2 = .ok (.putfield 57, 3) := by decide +kernel
theorem dX6_read_5 : decode cX6_read 5 = .ok (.iconst 0, 1) := by decide +kernel
theorem dX6_read_6 : decode cX6_read 6 = .ok (.istore_n 2, 1) := by decide +kernel
theorem dX6_read_7 : decode cX6_read 7 = .ok (.aload_n 0, 1) := by decide +kernel
theorem dX6_read_8 : decode cX6_read 8 = .ok (.getfield 9, 3) := by decide +kernel
theorem dX6_read_11 : decode cX6_read 11 = .ok (.iconst 0, 1) := by decide +kernel
theorem dX6_read_12 : decode cX6_read 12 = .ok (.iconst 0, 1) := by decide +kernel
theorem dX6_read_13 : decode cX6_read 13 = .ok (.bastore, 1) := by decide +kernel
theorem dX6_read_14 : decode cX6_read 14 = .ok (.iconst 0, 1) := by decide +kernel
theorem dX6_read_15 : decode cX6_read 15 = .ok (.istore_n 3, 1) := by decide +kernel
theorem dX6_read_16 : decode cX6_read 16 = .ok (.iload_n 3, 1) := by decide +kernel
theorem dX6_read_17 : decode cX6_read 17 = .ok (.aload_n 1, 1) := by decide +kernel
theorem dX6_read_18 : decode cX6_read 18 = .ok (.invokevirtual 61, 3) := by decide +kernel
theorem dX6_read_21 : decode cX6_read 21 = .ok (.if_icmp .ge 88, 3) := by decide +kernel
theorem dX6_read_24 : decode cX6_read 24 = .ok (.aload_n 1, 1) := by decide +kernel
theorem dX6_read_25 : decode cX6_read 25 = .ok (.iload_n 3, 1) := by decide +kernel
theorem dX6_read_26 : decode cX6_read 26 = .ok (.invokevirtual 66, 3) := by decide +kernel
theorem dX6_read_29 : decode cX6_read 29 = .ok (.istore 4, 2) := by decide +kernel
theorem dX6_read_31 : decode cX6_read 31 = .ok (.iload 4, 2) := by decide +kernel
theorem dX6_read_33 : decode cX6_read 33 = .ok (.bipush 40, 2) := by decide +kernel
theorem dX6_read_35 : decode cX6_read 35 = .ok (.if_icmp .ne 22, 3) := by decide +kernel
theorem dX6_read_38 : decode cX6_read 38 = .ok (.iload_n 2, 1) := by decide +kernel
theorem dX6_read_39 : decode cX6_read 39 = .ok (.iconst 1, 1) := by decide +kernel
theorem dX6_read_40 : decode cX6_read 40 = .ok (.iadd, 1) := by decide +kernel
theorem dX6_read_41 : decode cX6_read 41 = .ok (.bipush 8, 2) := by decide +kernel
theorem dX6_read_43 : decode cX6_read 43 = .ok (.invokestatic 70, 3) := by decide +kernel
theorem dX6_read_46 : decode cX6_read 46 = .ok (.istore_n 2, 1) := by decide +kernel
theorem dX6_read_47 : decode cX6_read 47 = .ok (.aload_n 0, 1) := by decide +kernel
theorem dX6_read_48 : decode cX6_read 48 = .ok (.getfield 9, 3) := by decide +kernel
theorem dX6_read_51 : decode cX6_read 51 = .ok (.iload_n 2, 1) := by decide +kernel
theorem dX6_read_52 : decode cX6_read 52 = .ok (.iconst 0, 1) := by decide +kernel
theorem dX6_read_53 : decode cX6_read 53 = .ok (.bastore, 1) := by decide +kernel
theorem dX6_read_54 : decode cX6_read 54 = .ok (.goto 49, 3) := by decide +kernel
theorem dX6_read_57 : decode cX6_read 57 = .ok (.iload 4, 2) := by decide +kernel
theorem dX6_read_59 : decode cX6_read 59 = .ok (.bipush 41, 2) := by decide +kernel
theorem dX6_read_61 : decode cX6_read 61 = .ok (.if_icmp .ne 14, 3) := by decide +kernel
theorem dX6_read_64 : decode cX6_read 64 = .ok (.iload_n 2, 1) := by decide +kernel
theorem dX6_read_65 : decode cX6_read 65 = .ok (.iconst 1, 1) := by decide +kernel
theorem dX6_read_66 : decode cX6_read 66 = .ok (.isub, 1) := by decide +kernel
theorem dX6_read_67 : decode cX6_read 67 = .ok (.iconst 0, 1) := by decide +kernel
theorem dX6_read_68 : decode cX6_read 68 = .ok (.invokestatic 76, 3) := by decide +kernel
theorem dX6_read_71 : decode cX6_read 71 = .ok (.istore_n 2, 1) := by decide +kernel
theorem dX6_read_72 : decode cX6_read 72 = .ok (.goto 9, 3) := by decide +kernel
theorem dX6_read_75 : decode cX6_read 75 = .ok (.aload_n 0, 1) := by decide +kernel
theorem dX6_read_76 : decode cX6_read 76 = .ok (.iload 4, 2) := by decide +kernel
theorem dX6_read_78 : decode cX6_read 78 = .ok (.invokevirtual 79, 3) := by decide +kernel
theorem dX6_read_81 : decode cX6_read 81 = .ok (.aload_n 0, 1) := by decide +kernel
theorem dX6_read_82 : decode cX6_read 82 = .ok (.getfield 9, 3) := by decide +kernel
theorem dX6_read_85 : decode cX6_read 85 = .ok (.iload_n 2, 1) := by decide +kernel
theorem dX6_read_86 : decode cX6_read 86 = .ok (.baload, 1) := by decide +kernel
theorem dX6_read_87 : decode cX6_read 87 = .ok (.ifCond .eq 9, 3) := by decide +kernel
theorem dX6_read_90 : decode cX6_read 90 = .ok (.aload_n 0, 1) := by decide +kernel
theorem dX6_read_91 : decode cX6_read 91 = .ok (.bipush 64, 2) := by decide +kernel
theorem dX6_read_93 : decode cX6_read 93 = .ok (.invokevirtual 79, 3) := by decide +kernel
theorem dX6_read_96 : decode cX6_read 96 = .ok (.aload_n 0, 1) := by decide +kernel
theorem dX6_read_97 : decode cX6_read 97 = .ok (.getfield 9, 3) := by decide +kernel
theorem dX6_read_100 : decode cX6_read 100 = .ok (.iload_n 2, 1) := by decide +kernel
theorem dX6_read_101 : decode cX6_read 101 = .ok (.iconst 1, 1) := by decide +kernel
theorem dX6_read_102 : decode cX6_read 102 = .ok (.bastore, 1) := by decide +kernel
theorem dX6_read_103 : decode cX6_read 103 = .ok (.iinc 3 1, 3) := by decide +kernel
theorem dX6_read_106 : decode cX6_read 106 = .ok (.goto (-90), 3) := by decide +kernel
theorem dX6_read_109 : decode cX6_read 109 = .ok (.return_, 1) := by decide +kernel
def kX6_read_103 (N : Nat) (rec : Int32 → Int32 → qM → Option (qM)) (v0 : Nat) (v1 : Nat) (v2 : Int32) (v3 : Int32)  (m0 : qM) : Option (qM) :=
  rec v2 (v3 + (1 : Int32)) m0
set_option maxRecDepth 100000 in
theorem kbX6_read_103 {E : qE} {N d bc bs : Nat} (hd : 1 ≤ d) {v0 : Nat} {v1 : Nat} {v2 : Int32} {v3 : Int32}  {m0 : qM} {rec : Int32 → Int32 → qM → Option (qM)} (hrec : ∀ (v2 : Int32) (v3 : Int32) (m : qM), qB E yX6_read cX6_read 5 none (fun _ => True) d bc bs 16 [(0, .ref (E.2.1 + v0)), (1, .ref (E.2.1 + v1)), (2, .int v2), (3, .int v3)] [] m (rec v2 v3 m) (fun o rr => qJ E yX6_read cX6_read 5 none (fun _ => True) d bc bs 109 [] [] o rr)) : qB E yX6_read cX6_read 5 none (fun _ => True) d bc bs 103 [(0, .ref (E.2.1 + v0)), (1, .ref (E.2.1 + v1)), (2, .int v2), (3, .int v3)] [] m0 (kX6_read_103 N rec v0 v1 v2 v3 m0) (fun o rr => qJ E yX6_read cX6_read 5 none (fun _ => True) d bc bs 109 [] [] o rr) := by
  unfold kX6_read_103
  refine j_iinc (q := 3) (np := 106) (lv2 := [(3, .int (v3 + (1 : Int32))), (0, .ref (E.2.1 + v0)), (1, .ref (E.2.1 + v1)), (2, .int v2)]) rfl (congrArg _ ci_1) (by decide) dX6_read_103 rfl rfl ?_
  refine j_goto (tgt := 16) dX6_read_106 rfl ?_
  refine j_sub (lv2 := [(0, .ref (E.2.1 + v0)), (1, .ref (E.2.1 + v1)), (2, .int v2), (3, .int (v3 + (1 : Int32)))]) [1, 2, 3, 0] rfl ?_
  exact hrec _ _ _
def kX6_read_96 (N : Nat) (rec : Int32 → Int32 → qM → Option (qM)) (v0 : Nat) (v1 : Nat) (v2 : Int32) (v3 : Int32)  (m0 : qM) : Option (qM) :=
  (qgR m0 v0 6 0).bind fun x1 =>
  (qwI m0 x1 14 v2 ((1 : Int32) &&& 1)).bind fun m2 =>
  kX6_read_103 N (rec) v0 v1 v2 v3 m2
set_option maxRecDepth 100000 in
theorem kbX6_read_96 {E : qE} {N d bc bs : Nat} (hd : 1 ≤ d) {v0 : Nat} {v1 : Nat} {v2 : Int32} {v3 : Int32}  {m0 : qM} {rec : Int32 → Int32 → qM → Option (qM)} (hrec : ∀ (v2 : Int32) (v3 : Int32) (m : qM), qB E yX6_read cX6_read 5 none (fun _ => True) d bc bs 16 [(0, .ref (E.2.1 + v0)), (1, .ref (E.2.1 + v1)), (2, .int v2), (3, .int v3)] [] m (rec v2 v3 m) (fun o rr => qJ E yX6_read cX6_read 5 none (fun _ => True) d bc bs 109 [] [] o rr)) : qB E yX6_read cX6_read 5 none (fun _ => True) d bc bs 96 [(0, .ref (E.2.1 + v0)), (1, .ref (E.2.1 + v1)), (2, .int v2), (3, .int v3)] [] m0 (kX6_read_96 N rec v0 v1 v2 v3 m0) (fun o rr => qJ E yX6_read cX6_read 5 none (fun _ => True) d bc bs 109 [] [] o rr) := by
  unfold kX6_read_96
  refine j_aload_n (q := 0) (np := 97) rfl rfl dX6_read_96 rfl ?_
  refine j_gR (np := 100) flX6_9 dX6_read_97 rfl (fun x1 => ?_)
  refine j_iload_n (q := 2) (np := 101) rfl rfl dX6_read_100 rfl ?_
  refine j_iconst (np := 102) ci_1 dX6_read_101 rfl ?_
  refine j_bastore (np := 103) dX6_read_102 rfl (fun m2 => ?_)
  exact kbX6_read_103 hd hrec
def kX6_read_81 (N : Nat) (rec : Int32 → Int32 → qM → Option (qM)) (v0 : Nat) (v1 : Nat) (v2 : Int32) (v3 : Int32)  (m0 : qM) : Option (qM) :=
  (qgR m0 v0 6 0).bind fun x1 =>
  (qaI m0 x1 14 v2).bind fun x2 =>
  if x2 = 0 then (
  kX6_read_96 N (rec) v0 v1 v2 v3 m0
  ) else (
  (qChk m0 v0 6 (fX6_add N v0 (64 : Int32) m0)).bind fun b3 =>
  kX6_read_96 N (rec) v0 v1 v2 v3 b3
  )
set_option maxRecDepth 100000 in
theorem kbX6_read_81 {E : qE} {N d bc bs : Nat} (hd : 1 ≤ d) {v0 : Nat} {v1 : Nat} {v2 : Int32} {v3 : Int32}  {m0 : qM} {rec : Int32 → Int32 → qM → Option (qM)} (hrec : ∀ (v2 : Int32) (v3 : Int32) (m : qM), qB E yX6_read cX6_read 5 none (fun _ => True) d bc bs 16 [(0, .ref (E.2.1 + v0)), (1, .ref (E.2.1 + v1)), (2, .int v2), (3, .int v3)] [] m (rec v2 v3 m) (fun o rr => qJ E yX6_read cX6_read 5 none (fun _ => True) d bc bs 109 [] [] o rr)) : qB E yX6_read cX6_read 5 none (fun _ => True) d bc bs 81 [(0, .ref (E.2.1 + v0)), (1, .ref (E.2.1 + v1)), (2, .int v2), (3, .int v3)] [] m0 (kX6_read_81 N rec v0 v1 v2 v3 m0) (fun o rr => qJ E yX6_read cX6_read 5 none (fun _ => True) d bc bs 109 [] [] o rr) := by
  unfold kX6_read_81
  refine j_aload_n (q := 0) (np := 82) rfl rfl dX6_read_81 rfl ?_
  refine j_gR (np := 85) flX6_9 dX6_read_82 rfl (fun x1 => ?_)
  refine j_iload_n (q := 2) (np := 86) rfl rfl dX6_read_85 rfl ?_
  refine j_baload (np := 87) dX6_read_86 rfl (fun x2 => ?_)
  refine j_if_eq (tgt := 96) (np := 90) dX6_read_87 rfl rfl ?_ ?_
  · exact kbX6_read_96 hd hrec
  · refine j_aload_n (q := 0) (np := 91) rfl rfl dX6_read_90 rfl ?_
    refine j_bipush (np := 93) cb_64 dX6_read_91 rfl ?_
    refine j_callVv (ci := 6) (np := 96) (bc := bc) (bs := bs) (cb := 0) (cs := 0) (dd := d - 1) (As := [.int (64 : Int32)]) (st := []) caX6_add mlX6_79 imX6_add seX6_add rfl rfl (by decide) (fun b hb => wX6_add (by omega) hb) (by omega) rfl rfl (Nat.le_of_ble_eq_true rfl) dX6_read_93 rfl (fun b3 => ?_)
    exact kbX6_read_96 hd hrec
def lX6_read_16 (N : Nat) (v0 : Nat) (v1 : Nat) : Nat → Int32 → Int32 → qM → Option (qM)
  | 0, _, _, _ => none
  | n + 1, v2, v3, m0 =>
    (qChk m0 v1 7 (fX7_length N v1 m0)).bind fun b1 =>
    if b1.1 ≤ v3 then (
    some b1.2
    ) else (
    (qChk b1.2 v1 7 (fX7_at N v1 v3 b1.2)).bind fun b2 =>
    if b2.1 = (40 : Int32) then (
    (qgR b2.2 v0 6 0).bind fun x4 =>
    (qwI b2.2 x4 14 (if (8 : Int32) < v2 + (1 : Int32) then (8 : Int32) else v2 + (1 : Int32)) ((0 : Int32) &&& 1)).bind fun m5 =>
    kX6_read_103 N (lX6_read_16 N v0 v1 n) v0 v1 (if (8 : Int32) < v2 + (1 : Int32) then (8 : Int32) else v2 + (1 : Int32)) v3 m5
    ) else (
    if b2.1 = (41 : Int32) then (
    kX6_read_81 N (lX6_read_16 N v0 v1 n) v0 v1 (if v2 - (1 : Int32) < (0 : Int32) then (0 : Int32) else v2 - (1 : Int32)) v3 b2.2
    ) else (
    (qChk b2.2 v0 6 (fX6_add N v0 b2.1 b2.2)).bind fun b3 =>
    kX6_read_81 N (lX6_read_16 N v0 v1 n) v0 v1 v2 v3 b3
    )
    )
    )
set_option maxRecDepth 100000 in
theorem lbX6_read_16 {E : qE} {N d bc bs : Nat} (hd : 1 ≤ d) {v0 : Nat} {v1 : Nat} : ∀ (n : Nat) (v2 : Int32) (v3 : Int32) (m0 : qM), qB E yX6_read cX6_read 5 none (fun _ => True) d bc bs 16 [(0, .ref (E.2.1 + v0)), (1, .ref (E.2.1 + v1)), (2, .int v2), (3, .int v3)] [] m0 (lX6_read_16 N v0 v1 n v2 v3 m0) (fun o rr => qJ E yX6_read cX6_read 5 none (fun _ => True) d bc bs 109 [] [] o rr) := by
  intro n
  induction n with
  | zero =>
    intro v2 v3 m0
    exact j_none
  | succ n ih =>
    intro v2 v3 m0
    unfold lX6_read_16
    refine j_iload_n (q := 3) (np := 17) rfl rfl dX6_read_16 rfl ?_
    refine j_aload_n (q := 1) (np := 18) rfl rfl dX6_read_17 rfl ?_
    refine j_callVi (ci := 7) (np := 21) (bc := bc) (bs := bs) (cb := 0) (cs := 0) (dd := d - 1) (As := []) (st := [.int v3]) caX7_length mlX6_61 imX7_length seX7_length rfl rfl (by decide) (fun b hb => wX7_length (by omega) hb) (by omega) rfl rfl (Nat.le_of_ble_eq_true rfl) dX6_read_18 rfl (fun b1 => ?_)
    refine j_icmp_ge (tgt := 109) (np := 24) dX6_read_21 rfl rfl ?_ ?_
    · refine j_sub (lv2 := []) [] rfl ?_
      exact j_exit (fun rr h => h)
    · refine j_aload_n (q := 1) (np := 25) rfl rfl dX6_read_24 rfl ?_
      refine j_iload_n (q := 3) (np := 26) rfl rfl dX6_read_25 rfl ?_
      refine j_callVi (ci := 7) (np := 29) (bc := bc) (bs := bs) (cb := 0) (cs := 0) (dd := d - 1) (As := [.int v3]) (st := []) caX7_at mlX6_66 imX7_at seX7_at rfl rfl (by decide) (fun b hb => wX7_at (by omega) hb) (by omega) rfl rfl (Nat.le_of_ble_eq_true rfl) dX6_read_26 rfl (fun b2 => ?_)
      refine j_istore (np := 31) (lv2 := [(4, .int b2.1), (0, .ref (E.2.1 + v0)), (1, .ref (E.2.1 + v1)), (2, .int v2), (3, .int v3)]) (by decide) dX6_read_29 rfl rfl ?_
      refine j_iload (q := 0) (np := 33) rfl dX6_read_31 rfl ?_
      refine j_bipush (np := 35) cb_40 dX6_read_33 rfl ?_
      refine j_icmp_ne (tgt := 57) (np := 38) dX6_read_35 rfl rfl ?_ ?_
      · refine j_iload (q := 0) (np := 59) rfl dX6_read_57 rfl ?_
        refine j_bipush (np := 61) cb_41 dX6_read_59 rfl ?_
        refine j_icmp_ne (tgt := 75) (np := 64) dX6_read_61 rfl rfl ?_ ?_
        · refine j_aload_n (q := 1) (np := 76) rfl rfl dX6_read_75 rfl ?_
          refine j_iload (q := 0) (np := 78) rfl dX6_read_76 rfl ?_
          refine j_callVv (ci := 6) (np := 81) (bc := bc) (bs := bs) (cb := 0) (cs := 0) (dd := d - 1) (As := [.int b2.1]) (st := []) caX6_add mlX6_79 imX6_add seX6_add rfl rfl (by decide) (fun b hb => wX6_add (by omega) hb) (by omega) rfl rfl (Nat.le_of_ble_eq_true rfl) dX6_read_78 rfl (fun b3 => ?_)
          refine j_sub (lv2 := [(0, .ref (E.2.1 + v0)), (1, .ref (E.2.1 + v1)), (2, .int v2), (3, .int v3)]) [1, 2, 3, 4] rfl ?_
          exact kbX6_read_81 hd ih
        · refine j_iload_n (q := 3) (np := 65) rfl rfl dX6_read_64 rfl ?_
          refine j_iconst (np := 66) ci_1 dX6_read_65 rfl ?_
          refine j_isub (np := 67) dX6_read_66 rfl ?_
          refine j_iconst (np := 68) ci_0 dX6_read_67 rfl ?_
          refine j_max (np := 71) mlX6_76 stmax inMath cdmax (by omega) (Nat.le_of_ble_eq_true rfl) dX6_read_68 rfl ?_
          refine j_istore_n (np := 72) (lv2 := [(2, .int (if v2 - (1 : Int32) < (0 : Int32) then (0 : Int32) else v2 - (1 : Int32))), (4, .int b2.1), (0, .ref (E.2.1 + v0)), (1, .ref (E.2.1 + v1)), (3, .int v3)]) rfl (by decide) dX6_read_71 rfl rfl ?_
          refine j_goto (tgt := 81) dX6_read_72 rfl ?_
          refine j_sub (lv2 := [(0, .ref (E.2.1 + v0)), (1, .ref (E.2.1 + v1)), (2, .int (if v2 - (1 : Int32) < (0 : Int32) then (0 : Int32) else v2 - (1 : Int32))), (3, .int v3)]) [2, 3, 0, 4] rfl ?_
          exact kbX6_read_81 hd ih
      · refine j_iload_n (q := 3) (np := 39) rfl rfl dX6_read_38 rfl ?_
        refine j_iconst (np := 40) ci_1 dX6_read_39 rfl ?_
        refine j_iadd (np := 41) dX6_read_40 rfl ?_
        refine j_bipush (np := 43) cb_8 dX6_read_41 rfl ?_
        refine j_min (np := 46) mlX6_70 stmin inMath cdmin (by omega) (Nat.le_of_ble_eq_true rfl) dX6_read_43 rfl ?_
        refine j_istore_n (np := 47) (lv2 := [(2, .int (if (8 : Int32) < v2 + (1 : Int32) then (8 : Int32) else v2 + (1 : Int32))), (4, .int b2.1), (0, .ref (E.2.1 + v0)), (1, .ref (E.2.1 + v1)), (3, .int v3)]) rfl (by decide) dX6_read_46 rfl rfl ?_
        refine j_aload_n (q := 2) (np := 48) rfl rfl dX6_read_47 rfl ?_
        refine j_gR (np := 51) flX6_9 dX6_read_48 rfl (fun x4 => ?_)
        refine j_iload_n (q := 0) (np := 52) rfl rfl dX6_read_51 rfl ?_
        refine j_iconst (np := 53) ci_0 dX6_read_52 rfl ?_
        refine j_bastore (np := 54) dX6_read_53 rfl (fun m5 => ?_)
        refine j_goto (tgt := 103) dX6_read_54 rfl ?_
        refine j_sub (lv2 := [(0, .ref (E.2.1 + v0)), (1, .ref (E.2.1 + v1)), (2, .int (if (8 : Int32) < v2 + (1 : Int32) then (8 : Int32) else v2 + (1 : Int32))), (3, .int v3)]) [2, 3, 0, 4] rfl ?_
        exact kbX6_read_103 hd ih
def fX6_read (N : Nat) (v0 : Nat) (v1 : Nat) (m0 : qM) : Option (qM) :=
  (qpI m0 v0 6 7 (0 : Int32)).bind fun m1 =>
  (qgR m1 v0 6 0).bind fun x2 =>
  (qwI m1 x2 14 (0 : Int32) ((0 : Int32) &&& 1)).bind fun m3 =>
  (lX6_read_16 N v0 v1 N (0 : Int32) (0 : Int32) m3).bind fun o4 =>
  some o4
set_option maxRecDepth 100000 in
theorem bX6_read {E : qE} {N d bc bs : Nat} (hd : 1 ≤ d) {v0 : Nat} {v1 : Nat} {m0 : qM} : qB E yX6_read cX6_read 5 none (fun _ => True) d bc bs 0 [(0, .ref (E.2.1 + v0)), (1, .ref (E.2.1 + v1))] [] m0 (fX6_read N v0 v1 m0) (fun b rr => rr = (none, b)) := by
  unfold fX6_read
  refine j_aload_n (q := 0) (np := 1) rfl rfl dX6_read_0 rfl ?_
  refine j_iconst (np := 2) ci_0 dX6_read_1 rfl ?_
  refine j_pI (np := 5) flX6_57 dX6_read_2 rfl (fun m1 => ?_)
  refine j_iconst (np := 6) ci_0 dX6_read_5 rfl ?_
  refine j_istore_n (np := 7) (lv2 := [(2, .int (0 : Int32)), (0, .ref (E.2.1 + v0)), (1, .ref (E.2.1 + v1))]) rfl (by decide) dX6_read_6 rfl rfl ?_
  refine j_aload_n (q := 1) (np := 8) rfl rfl dX6_read_7 rfl ?_
  refine j_gR (np := 11) flX6_9 dX6_read_8 rfl (fun x2 => ?_)
  refine j_iconst (np := 12) ci_0 dX6_read_11 rfl ?_
  refine j_iconst (np := 13) ci_0 dX6_read_12 rfl ?_
  refine j_bastore (np := 14) dX6_read_13 rfl (fun m3 => ?_)
  refine j_iconst (np := 15) ci_0 dX6_read_14 rfl ?_
  refine j_istore_n (np := 16) (lv2 := [(3, .int (0 : Int32)), (2, .int (0 : Int32)), (0, .ref (E.2.1 + v0)), (1, .ref (E.2.1 + v1))]) rfl (by decide) dX6_read_15 rfl rfl ?_
  refine j_sub (lv2 := [(0, .ref (E.2.1 + v0)), (1, .ref (E.2.1 + v1)), (2, .int (0 : Int32)), (3, .int (0 : Int32))]) [2, 3, 1, 0] rfl ?_
  refine j_loop (xp := 109) (lvX := fun o4 => []) (mX := fun o4 => o4) (lbX6_read_16 hd _ _ _ _) (fun o4 => ?_)
  exact j_vret rfl dX6_read_109 (fun rr h => h)
set_option maxRecDepth 100000 in
theorem wX6_read {E : qE} {N d : Nat} (hd : 1 ≤ d) {v0 : Nat} {v1 : Nat} {m0 : qM} {b : qM} (h : fX6_read N v0 v1 m0 = some b) : qRun E yX6_read cX6_read 5 none d 0 0 [.ref (E.2.1 + v0), .ref (E.2.1 + v1)] m0 (none, b) := q_met pnX6 (Nat.le_of_ble_eq_true rfl) (bX6_read hd b _ h rfl)
theorem dX6_findArguments_0 : decode cX6_findArguments 0 = .ok (.aload_n 0, 1) := by decide +kernel
theorem dX6_findArguments_1 : decode cX6_findArguments 1 = .ok (.getfield 28, 3) := by decide +kernel
theorem dX6_findArguments_4 : decode cX6_findArguments 4 = .ok (.iload_n 1, 1) := by decide +kernel
theorem dX6_findArguments_5 : decode cX6_findArguments 5 = .ok (.caload, 1) := by decide +kernel
theorem dX6_findArguments_6 : decode cX6_findArguments 6 = .ok (.invokestatic 90, 3) := by decide +kernel
theorem dX6_findArguments_9 : decode cX6_findArguments 9 = .ok (.istore_n 2, 1) := by decide +kernel
theorem dX6_findArguments_10 : decode cX6_findArguments 10 = .ok (.iconst 1, 1) := by decide +kernel
theorem dX6_findArguments_11 : decode cX6_findArguments 11 = .ok (.istore_n 3, 1) := by decide +kernel
theorem dX6_findArguments_12 : decode cX6_findArguments 12 = .ok (.iconst 0, 1) := by decide +kernel
theorem dX6_findArguments_13 : decode cX6_findArguments 13 = .ok (.istore 4, 2) := by decide +kernel
theorem dX6_findArguments_15 : decode cX6_findArguments 15 = .ok (.iload_n 1, 1) := by decide +kernel
theorem dX6_findArguments_16 : decode cX6_findArguments 16 = .ok (.iconst 1, 1) := by decide +kernel
theorem dX6_findArguments_17 : decode cX6_findArguments 17 = .ok (.iadd, 1) := by decide +kernel
theorem dX6_findArguments_18 : decode cX6_findArguments 18 = .ok (.istore 5, 2) := by decide +kernel
theorem dX6_findArguments_20 : decode cX6_findArguments 20 = .ok (.iload_n 1, 1) := by decide +kernel
theorem dX6_findArguments_21 : decode cX6_findArguments 21 = .ok (.iconst 1, 1) := by decide +kernel
theorem dX6_findArguments_22 : decode cX6_findArguments 22 = .ok (.iadd, 1) := by decide +kernel
theorem dX6_findArguments_23 : decode cX6_findArguments 23 = .ok (.istore 6, 2) := by decide +kernel
theorem dX6_findArguments_25 : decode cX6_findArguments 25 = .ok (.iload 6, 2) := by decide +kernel
theorem dX6_findArguments_27 : decode cX6_findArguments 27 = .ok (.aload_n 0, 1) := by decide +kernel
theorem dX6_findArguments_28 : decode cX6_findArguments 28 = .ok (.getfield 57, 3) := by decide +kernel
theorem dX6_findArguments_31 : decode cX6_findArguments 31 = .ok (.if_icmp .ge 71, 3) := by decide +kernel
theorem dX6_findArguments_34 : decode cX6_findArguments 34 = .ok (.iload_n 3, 1) := by decide +kernel
theorem dX6_findArguments_35 : decode cX6_findArguments 35 = .ok (.ifCond .le 67, 3) := by decide +kernel
theorem dX6_findArguments_38 : decode cX6_findArguments 38 = .ok (.iload 4, 2) := by decide +kernel
theorem dX6_findArguments_40 : decode cX6_findArguments 40 = .ok (.iload_n 2, 1) := by decide +kernel
theorem dX6_findArguments_41 : decode cX6_findArguments 41 = .ok (.if_icmp .ge 61, 3) := by decide +kernel
theorem dX6_findArguments_44 : decode cX6_findArguments 44 = .ok (.iload_n 3, 1) := by decide +kernel
theorem dX6_findArguments_45 : decode cX6_findArguments 45 = .ok (.aload_n 0, 1) := by decide +kernel
theorem dX6_findArguments_46 : decode cX6_findArguments 46 = .ok (.getfield 28, 3) := by decide +kernel
theorem dX6_findArguments_49 : decode cX6_findArguments 49 = .ok (.iload 6, 2) := by decide +kernel
theorem dX6_findArguments_51 : decode cX6_findArguments 51 = .ok (.caload, 1) := by decide +kernel
theorem dX6_findArguments_52 : decode cX6_findArguments 52 = .ok (.bipush 64, 2) := by decide +kernel
theorem dX6_findArguments_54 : decode cX6_findArguments 54 = .ok (.if_icmp .ne 7, 3) := by decide +kernel
theorem dX6_findArguments_57 : decode cX6_findArguments 57 = .ok (.iconst (-1), 1) := by decide +kernel
theorem dX6_findArguments_58 : decode cX6_findArguments 58 = .ok (.goto 4, 3) := by decide +kernel
theorem dX6_findArguments_61 : decode cX6_findArguments 61 = .ok (.iconst 1, 1) := by decide +kernel
theorem dX6_findArguments_62 : decode cX6_findArguments 62 = .ok (.iadd, 1) := by decide +kernel
theorem dX6_findArguments_63 : decode cX6_findArguments 63 = .ok (.istore_n 3, 1) := by decide +kernel
theorem dX6_findArguments_64 : decode cX6_findArguments 64 = .ok (.iload_n 3, 1) := by decide +kernel
theorem dX6_findArguments_65 : decode cX6_findArguments 65 = .ok (.iconst 1, 1) := by decide +kernel
theorem dX6_findArguments_66 : decode cX6_findArguments 66 = .ok (.if_icmp .ne 30, 3) := by decide +kernel
theorem dX6_findArguments_69 : decode cX6_findArguments 69 = .ok (.aload_n 0, 1) := by decide +kernel
theorem dX6_findArguments_70 : decode cX6_findArguments 70 = .ok (.getfield 22, 3) := by decide +kernel
theorem dX6_findArguments_73 : decode cX6_findArguments 73 = .ok (.iload 4, 2) := by decide +kernel
theorem dX6_findArguments_75 : decode cX6_findArguments 75 = .ok (.iload 5, 2) := by decide +kernel
theorem dX6_findArguments_77 : decode cX6_findArguments 77 = .ok (.iastore, 1) := by decide +kernel
theorem dX6_findArguments_78 : decode cX6_findArguments 78 = .ok (.aload_n 0, 1) := by decide +kernel
theorem dX6_findArguments_79 : decode cX6_findArguments 79 = .ok (.getfield 25, 3) := by decide +kernel
theorem dX6_findArguments_82 : decode cX6_findArguments 82 = .ok (.iload 4, 2) := by decide +kernel
theorem dX6_findArguments_84 : decode cX6_findArguments 84 = .ok (.iload 6, 2) := by decide +kernel
theorem dX6_findArguments_86 : decode cX6_findArguments 86 = .ok (.iastore, 1) := by decide +kernel
theorem dX6_findArguments_87 : decode cX6_findArguments 87 = .ok (.iload 6, 2) := by decide +kernel
theorem dX6_findArguments_89 : decode cX6_findArguments 89 = .ok (.iconst 1, 1) := by decide +kernel
theorem dX6_findArguments_90 : decode cX6_findArguments 90 = .ok (.iadd, 1) := by decide +kernel
theorem dX6_findArguments_91 : decode cX6_findArguments 91 = .ok (.istore 5, 2) := by decide +kernel
theorem dX6_findArguments_93 : decode cX6_findArguments 93 = .ok (.iinc 4 1, 3) := by decide +kernel
theorem dX6_findArguments_96 : decode cX6_findArguments 96 = .ok (.iinc 6 1, 3) := by decide +kernel
theorem dX6_findArguments_99 : decode cX6_findArguments 99 = .ok (.goto (-74), 3) := by decide +kernel
theorem dX6_findArguments_102 : decode cX6_findArguments 102 = .ok (.iload 4, 2) := by decide +kernel
theorem dX6_findArguments_104 : decode cX6_findArguments 104 = .ok (.iload_n 2, 1) := by decide +kernel
theorem dX6_findArguments_105 : decode cX6_findArguments 105 = .ok (.if_icmp .ne 7, 3) := by decide +kernel
theorem dX6_findArguments_108 : decode cX6_findArguments 108 = .ok (.iconst 1, 1) := by decide +kernel
theorem dX6_findArguments_109 : decode cX6_findArguments 109 = .ok (.goto 4, 3) := by decide +kernel
theorem dX6_findArguments_112 : decode cX6_findArguments 112 = .ok (.iconst 0, 1) := by decide +kernel
theorem dX6_findArguments_113 : decode cX6_findArguments 113 = .ok (.ireturn, 1) := by decide +kernel
def kX6_findArguments_96 (N : Nat) (rec : Int32 → Int32 → Int32 → Int32 → qM → Option (Int32 × qM)) (v0 : Nat) (v2 : Int32) (v3 : Int32) (v4 : Int32) (v5 : Int32) (v6 : Int32)  (m0 : qM) : Option (Int32 × qM) :=
  rec v3 v4 v5 (v6 + (1 : Int32)) m0
set_option maxRecDepth 100000 in
theorem kbX6_findArguments_96 {E : qE} {N d bc bs : Nat} (hd : 1 ≤ d) {v0 : Nat} {v2 : Int32} {v3 : Int32} {v4 : Int32} {v5 : Int32} {v6 : Int32}  {m0 : qM} {rec : Int32 → Int32 → Int32 → Int32 → qM → Option (Int32 × qM)} (hrec : ∀ (v3 : Int32) (v4 : Int32) (v5 : Int32) (v6 : Int32) (m : qM), qB E yX6_findArguments cX6_findArguments 7 (some .boolean) (fun _ => True) d bc bs 25 [(0, .ref (E.2.1 + v0)), (2, .int v2), (3, .int v3), (4, .int v4), (5, .int v5), (6, .int v6)] [] m (rec v3 v4 v5 v6 m) (fun o rr => qJ E yX6_findArguments cX6_findArguments 7 (some .boolean) (fun _ => True) d bc bs 102 [(2, .int v2), (4, .int o.1)] [] o.2 rr)) : qB E yX6_findArguments cX6_findArguments 7 (some .boolean) (fun _ => True) d bc bs 96 [(0, .ref (E.2.1 + v0)), (2, .int v2), (3, .int v3), (4, .int v4), (5, .int v5), (6, .int v6)] [] m0 (kX6_findArguments_96 N rec v0 v2 v3 v4 v5 v6 m0) (fun o rr => qJ E yX6_findArguments cX6_findArguments 7 (some .boolean) (fun _ => True) d bc bs 102 [(2, .int v2), (4, .int o.1)] [] o.2 rr) := by
  unfold kX6_findArguments_96
  refine j_iinc (q := 5) (np := 99) (lv2 := [(6, .int (v6 + (1 : Int32))), (0, .ref (E.2.1 + v0)), (2, .int v2), (3, .int v3), (4, .int v4), (5, .int v5)]) rfl (congrArg _ ci_1) (by decide) dX6_findArguments_96 rfl rfl ?_
  refine j_goto (tgt := 25) dX6_findArguments_99 rfl ?_
  refine j_sub (lv2 := [(0, .ref (E.2.1 + v0)), (2, .int v2), (3, .int v3), (4, .int v4), (5, .int v5), (6, .int (v6 + (1 : Int32)))]) [1, 2, 3, 4, 5, 0] rfl ?_
  exact hrec _ _ _ _ _
def kX6_findArguments_62 (N : Nat) (rec : Int32 → Int32 → Int32 → Int32 → qM → Option (Int32 × qM)) (v0 : Nat) (v2 : Int32) (v4 : Int32) (v5 : Int32) (v6 : Int32) (s0 : Int32) (s1 : Int32) (m0 : qM) : Option (Int32 × qM) :=
  if s0 + s1 = (1 : Int32) then (
  (qgR m0 v0 6 3).bind fun x1 =>
  (qwI m0 x1 12 v4 v5).bind fun m2 =>
  (qgR m2 v0 6 4).bind fun x3 =>
  (qwI m2 x3 12 v4 v6).bind fun m4 =>
  kX6_findArguments_96 N (rec) v0 v2 (s0 + s1) (v4 + (1 : Int32)) (v6 + (1 : Int32)) v6 m4
  ) else (
  kX6_findArguments_96 N (rec) v0 v2 (s0 + s1) v4 v5 v6 m0
  )
set_option maxRecDepth 100000 in
theorem kbX6_findArguments_62 {E : qE} {N d bc bs : Nat} (hd : 1 ≤ d) {v0 : Nat} {v2 : Int32} {v4 : Int32} {v5 : Int32} {v6 : Int32} {s0 : Int32} {s1 : Int32} {m0 : qM} {rec : Int32 → Int32 → Int32 → Int32 → qM → Option (Int32 × qM)} (hrec : ∀ (v3 : Int32) (v4 : Int32) (v5 : Int32) (v6 : Int32) (m : qM), qB E yX6_findArguments cX6_findArguments 7 (some .boolean) (fun _ => True) d bc bs 25 [(0, .ref (E.2.1 + v0)), (2, .int v2), (3, .int v3), (4, .int v4), (5, .int v5), (6, .int v6)] [] m (rec v3 v4 v5 v6 m) (fun o rr => qJ E yX6_findArguments cX6_findArguments 7 (some .boolean) (fun _ => True) d bc bs 102 [(2, .int v2), (4, .int o.1)] [] o.2 rr)) : qB E yX6_findArguments cX6_findArguments 7 (some .boolean) (fun _ => True) d bc bs 62 [(0, .ref (E.2.1 + v0)), (2, .int v2), (4, .int v4), (5, .int v5), (6, .int v6)] [.int s1, .int s0] m0 (kX6_findArguments_62 N rec v0 v2 v4 v5 v6 s0 s1 m0) (fun o rr => qJ E yX6_findArguments cX6_findArguments 7 (some .boolean) (fun _ => True) d bc bs 102 [(2, .int v2), (4, .int o.1)] [] o.2 rr) := by
  unfold kX6_findArguments_62
  refine j_iadd (np := 63) dX6_findArguments_62 rfl ?_
  refine j_istore_n (np := 64) (lv2 := [(3, .int (s0 + s1)), (0, .ref (E.2.1 + v0)), (2, .int v2), (4, .int v4), (5, .int v5), (6, .int v6)]) rfl (by decide) dX6_findArguments_63 rfl rfl ?_
  refine j_iload_n (q := 0) (np := 65) rfl rfl dX6_findArguments_64 rfl ?_
  refine j_iconst (np := 66) ci_1 dX6_findArguments_65 rfl ?_
  refine j_icmp_ne (tgt := 96) (np := 69) dX6_findArguments_66 rfl rfl ?_ ?_
  · refine j_sub (lv2 := [(0, .ref (E.2.1 + v0)), (2, .int v2), (3, .int (s0 + s1)), (4, .int v4), (5, .int v5), (6, .int v6)]) [1, 2, 0, 3, 4, 5] rfl ?_
    exact kbX6_findArguments_96 hd hrec
  · refine j_aload_n (q := 1) (np := 70) rfl rfl dX6_findArguments_69 rfl ?_
    refine j_gR (np := 73) flX6_22 dX6_findArguments_70 rfl (fun x1 => ?_)
    refine j_iload (q := 3) (np := 75) rfl dX6_findArguments_73 rfl ?_
    refine j_iload (q := 4) (np := 77) rfl dX6_findArguments_75 rfl ?_
    refine j_iastore (np := 78) dX6_findArguments_77 rfl (fun m2 => ?_)
    refine j_aload_n (q := 1) (np := 79) rfl rfl dX6_findArguments_78 rfl ?_
    refine j_gR (np := 82) flX6_25 dX6_findArguments_79 rfl (fun x3 => ?_)
    refine j_iload (q := 3) (np := 84) rfl dX6_findArguments_82 rfl ?_
    refine j_iload (q := 5) (np := 86) rfl dX6_findArguments_84 rfl ?_
    refine j_iastore (np := 87) dX6_findArguments_86 rfl (fun m4 => ?_)
    refine j_iload (q := 5) (np := 89) rfl dX6_findArguments_87 rfl ?_
    refine j_iconst (np := 90) ci_1 dX6_findArguments_89 rfl ?_
    refine j_iadd (np := 91) dX6_findArguments_90 rfl ?_
    refine j_istore (np := 93) (lv2 := [(5, .int (v6 + (1 : Int32))), (3, .int (s0 + s1)), (0, .ref (E.2.1 + v0)), (2, .int v2), (4, .int v4), (6, .int v6)]) (by decide) dX6_findArguments_91 rfl rfl ?_
    refine j_iinc (q := 4) (np := 96) (lv2 := [(4, .int (v4 + (1 : Int32))), (5, .int (v6 + (1 : Int32))), (3, .int (s0 + s1)), (0, .ref (E.2.1 + v0)), (2, .int v2), (6, .int v6)]) rfl (congrArg _ ci_1) (by decide) dX6_findArguments_93 rfl rfl ?_
    refine j_sub (lv2 := [(0, .ref (E.2.1 + v0)), (2, .int v2), (3, .int (s0 + s1)), (4, .int (v4 + (1 : Int32))), (5, .int (v6 + (1 : Int32))), (6, .int v6)]) [3, 4, 2, 0, 1, 5] rfl ?_
    exact kbX6_findArguments_96 hd hrec
def lX6_findArguments_25 (N : Nat) (v0 : Nat) (v2 : Int32) : Nat → Int32 → Int32 → Int32 → Int32 → qM → Option (Int32 × qM)
  | 0, _, _, _, _, _ => none
  | n + 1, v3, v4, v5, v6, m0 =>
    (qgI m0 v0 6 7).bind fun x1 =>
    if x1 ≤ v6 then (
    some (v4, m0)
    ) else (
    if v3 ≤ 0 then (
    some (v4, m0)
    ) else (
    if v2 ≤ v4 then (
    some (v4, m0)
    ) else (
    (qgR m0 v0 6 5).bind fun x2 =>
    (qaI m0 x2 11 v6).bind fun x3 =>
    if x3 = (64 : Int32) then (
    kX6_findArguments_62 N (lX6_findArguments_25 N v0 v2 n) v0 v2 v4 v5 v6 v3 (-1 : Int32) m0
    ) else (
    kX6_findArguments_62 N (lX6_findArguments_25 N v0 v2 n) v0 v2 v4 v5 v6 v3 (1 : Int32) m0
    )
    )
    )
    )
set_option maxRecDepth 100000 in
theorem lbX6_findArguments_25 {E : qE} {N d bc bs : Nat} (hd : 1 ≤ d) {v0 : Nat} {v2 : Int32} : ∀ (n : Nat) (v3 : Int32) (v4 : Int32) (v5 : Int32) (v6 : Int32) (m0 : qM), qB E yX6_findArguments cX6_findArguments 7 (some .boolean) (fun _ => True) d bc bs 25 [(0, .ref (E.2.1 + v0)), (2, .int v2), (3, .int v3), (4, .int v4), (5, .int v5), (6, .int v6)] [] m0 (lX6_findArguments_25 N v0 v2 n v3 v4 v5 v6 m0) (fun o rr => qJ E yX6_findArguments cX6_findArguments 7 (some .boolean) (fun _ => True) d bc bs 102 [(2, .int v2), (4, .int o.1)] [] o.2 rr) := by
  intro n
  induction n with
  | zero =>
    intro v3 v4 v5 v6 m0
    exact j_none
  | succ n ih =>
    intro v3 v4 v5 v6 m0
    unfold lX6_findArguments_25
    refine j_iload (q := 5) (np := 27) rfl dX6_findArguments_25 rfl ?_
    refine j_aload_n (q := 0) (np := 28) rfl rfl dX6_findArguments_27 rfl ?_
    refine j_gI (np := 31) flX6_57 dX6_findArguments_28 rfl (fun x1 => ?_)
    refine j_icmp_ge (tgt := 102) (np := 34) dX6_findArguments_31 rfl rfl ?_ ?_
    · refine j_sub (lv2 := [(2, .int v2), (4, .int v4)]) [1, 3] rfl ?_
      exact j_exit (fun rr h => h)
    · refine j_iload_n (q := 2) (np := 35) rfl rfl dX6_findArguments_34 rfl ?_
      refine j_if_le (tgt := 102) (np := 38) dX6_findArguments_35 rfl rfl ?_ ?_
      · refine j_sub (lv2 := [(2, .int v2), (4, .int v4)]) [1, 3] rfl ?_
        exact j_exit (fun rr h => h)
      · refine j_iload (q := 3) (np := 40) rfl dX6_findArguments_38 rfl ?_
        refine j_iload_n (q := 1) (np := 41) rfl rfl dX6_findArguments_40 rfl ?_
        refine j_icmp_ge (tgt := 102) (np := 44) dX6_findArguments_41 rfl rfl ?_ ?_
        · refine j_sub (lv2 := [(2, .int v2), (4, .int v4)]) [1, 3] rfl ?_
          exact j_exit (fun rr h => h)
        · refine j_iload_n (q := 2) (np := 45) rfl rfl dX6_findArguments_44 rfl ?_
          refine j_aload_n (q := 0) (np := 46) rfl rfl dX6_findArguments_45 rfl ?_
          refine j_gR (np := 49) flX6_28 dX6_findArguments_46 rfl (fun x2 => ?_)
          refine j_iload (q := 5) (np := 51) rfl dX6_findArguments_49 rfl ?_
          refine j_caload (np := 52) dX6_findArguments_51 rfl (fun x3 => ?_)
          refine j_bipush (np := 54) cb_64 dX6_findArguments_52 rfl ?_
          refine j_icmp_ne (tgt := 61) (np := 57) dX6_findArguments_54 rfl rfl ?_ ?_
          · refine j_iconst (np := 62) ci_1 dX6_findArguments_61 rfl ?_
            refine j_sub (lv2 := [(0, .ref (E.2.1 + v0)), (2, .int v2), (4, .int v4), (5, .int v5), (6, .int v6)]) [0, 1, 3, 4, 5] rfl ?_
            exact kbX6_findArguments_62 hd ih
          · refine j_iconst (np := 58) ci_m1 dX6_findArguments_57 rfl ?_
            refine j_goto (tgt := 62) dX6_findArguments_58 rfl ?_
            refine j_sub (lv2 := [(0, .ref (E.2.1 + v0)), (2, .int v2), (4, .int v4), (5, .int v5), (6, .int v6)]) [0, 1, 3, 4, 5] rfl ?_
            exact kbX6_findArguments_62 hd ih
def fX6_findArguments (N : Nat) (v0 : Nat) (v1 : Int32) (m0 : qM) : Option (Int32 × qM) :=
  (qgR m0 v0 6 5).bind fun x1 =>
  (qaI m0 x1 11 v1).bind fun x2 =>
  (fX6_arityOf N x2 m0).bind fun b3 =>
  (lX6_findArguments_25 N v0 b3.1 N (1 : Int32) (0 : Int32) (v1 + (1 : Int32)) (v1 + (1 : Int32)) b3.2).bind fun o4 =>
  if o4.1 = b3.1 then (
  some ((1 : Int32), o4.2)
  ) else (
  some ((0 : Int32), o4.2)
  )
set_option maxRecDepth 100000 in
theorem bX6_findArguments {E : qE} {N d bc bs : Nat} (hd : 1 ≤ d) {v0 : Nat} {v1 : Int32} {m0 : qM} : qB E yX6_findArguments cX6_findArguments 7 (some .boolean) (fun _ => True) d bc bs 0 [(0, .ref (E.2.1 + v0)), (1, .int v1)] [] m0 (fX6_findArguments N v0 v1 m0) (fun b rr => rr = (some (.int b.1), b.2)) := by
  unfold fX6_findArguments
  refine j_aload_n (q := 0) (np := 1) rfl rfl dX6_findArguments_0 rfl ?_
  refine j_gR (np := 4) flX6_28 dX6_findArguments_1 rfl (fun x1 => ?_)
  refine j_iload_n (q := 1) (np := 5) rfl rfl dX6_findArguments_4 rfl ?_
  refine j_caload (np := 6) dX6_findArguments_5 rfl (fun x2 => ?_)
  refine j_callSi (np := 9) (bc := bc) (bs := bs) (cb := 0) (cs := 0) (dd := d - 1) (As := [.int x2]) (st := []) caX6_arityOf mlX6_90 stX6_arityOf (fun b hb => wX6_arityOf (by omega) hb) (by omega) rfl rfl (Nat.le_of_ble_eq_true rfl) dX6_findArguments_6 rfl (fun b3 => ?_)
  refine j_istore_n (np := 10) (lv2 := [(2, .int b3.1), (0, .ref (E.2.1 + v0)), (1, .int v1)]) rfl (by decide) dX6_findArguments_9 rfl rfl ?_
  refine j_iconst (np := 11) ci_1 dX6_findArguments_10 rfl ?_
  refine j_istore_n (np := 12) (lv2 := [(3, .int (1 : Int32)), (2, .int b3.1), (0, .ref (E.2.1 + v0)), (1, .int v1)]) rfl (by decide) dX6_findArguments_11 rfl rfl ?_
  refine j_iconst (np := 13) ci_0 dX6_findArguments_12 rfl ?_
  refine j_istore (np := 15) (lv2 := [(4, .int (0 : Int32)), (3, .int (1 : Int32)), (2, .int b3.1), (0, .ref (E.2.1 + v0)), (1, .int v1)]) (by decide) dX6_findArguments_13 rfl rfl ?_
  refine j_iload_n (q := 4) (np := 16) rfl rfl dX6_findArguments_15 rfl ?_
  refine j_iconst (np := 17) ci_1 dX6_findArguments_16 rfl ?_
  refine j_iadd (np := 18) dX6_findArguments_17 rfl ?_
  refine j_istore (np := 20) (lv2 := [(5, .int (v1 + (1 : Int32))), (4, .int (0 : Int32)), (3, .int (1 : Int32)), (2, .int b3.1), (0, .ref (E.2.1 + v0)), (1, .int v1)]) (by decide) dX6_findArguments_18 rfl rfl ?_
  refine j_iload_n (q := 5) (np := 21) rfl rfl dX6_findArguments_20 rfl ?_
  refine j_iconst (np := 22) ci_1 dX6_findArguments_21 rfl ?_
  refine j_iadd (np := 23) dX6_findArguments_22 rfl ?_
  refine j_istore (np := 25) (lv2 := [(6, .int (v1 + (1 : Int32))), (5, .int (v1 + (1 : Int32))), (4, .int (0 : Int32)), (3, .int (1 : Int32)), (2, .int b3.1), (0, .ref (E.2.1 + v0)), (1, .int v1)]) (by decide) dX6_findArguments_23 rfl rfl ?_
  refine j_sub (lv2 := [(0, .ref (E.2.1 + v0)), (2, .int b3.1), (3, .int (1 : Int32)), (4, .int (0 : Int32)), (5, .int (v1 + (1 : Int32))), (6, .int (v1 + (1 : Int32)))]) [5, 4, 3, 2, 1, 0] rfl ?_
  refine j_loop (xp := 102) (lvX := fun o4 => [(2, .int b3.1), (4, .int o4.1)]) (mX := fun o4 => o4.2) (lbX6_findArguments_25 hd _ _ _ _ _ _) (fun o4 => ?_)
  refine j_iload (q := 1) (np := 104) rfl dX6_findArguments_102 rfl ?_
  refine j_iload_n (q := 0) (np := 105) rfl rfl dX6_findArguments_104 rfl ?_
  refine j_icmp_ne (tgt := 112) (np := 108) dX6_findArguments_105 rfl rfl ?_ ?_
  · refine j_iconst (np := 113) ci_0 dX6_findArguments_112 rfl ?_
    exact j_zret rfl dX6_findArguments_113 (fun rr h => by rw [z0]; exact h)
  · refine j_iconst (np := 109) ci_1 dX6_findArguments_108 rfl ?_
    refine j_goto (tgt := 113) dX6_findArguments_109 rfl ?_
    exact j_zret rfl dX6_findArguments_113 (fun rr h => by rw [z1]; exact h)
set_option maxRecDepth 100000 in
theorem wX6_findArguments {E : qE} {N d : Nat} (hd : 1 ≤ d) {v0 : Nat} {v1 : Int32} {m0 : qM} {b : Int32 × qM} (h : fX6_findArguments N v0 v1 m0 = some b) : qRun E yX6_findArguments cX6_findArguments 7 (some .boolean) d 0 0 [.ref (E.2.1 + v0), .int v1] m0 (some (.int b.1), b.2) := q_met pnX6 (Nat.le_of_ble_eq_true rfl) (bX6_findArguments hd b _ h rfl)
theorem dX6_findRedex_0 : decode cX6_findRedex 0 = .ok (.iconst 0, 1) := by decide +kernel
theorem dX6_findRedex_1 : decode cX6_findRedex 1 = .ok (.istore_n 1, 1) := by decide +kernel
theorem dX6_findRedex_2 : decode cX6_findRedex 2 = .ok (.iload_n 1, 1) := by decide +kernel
theorem dX6_findRedex_3 : decode cX6_findRedex 3 = .ok (.aload_n 0, 1) := by decide +kernel
theorem dX6_findRedex_4 : decode cX6_findRedex 4 = .ok (.getfield 57, 3) := by decide +kernel
theorem dX6_findRedex_7 : decode cX6_findRedex 7 = .ok (.if_icmp .ge 35, 3) := by decide +kernel
theorem dX6_findRedex_10 : decode cX6_findRedex 10 = .ok (.aload_n 0, 1) := by decide +kernel
theorem dX6_findRedex_11 : decode cX6_findRedex 11 = .ok (.getfield 28, 3) := by decide +kernel
theorem dX6_findRedex_14 : decode cX6_findRedex 14 = .ok (.iload_n 1, 1) := by decide +kernel
theorem dX6_findRedex_15 : decode cX6_findRedex 15 = .ok (.caload, 1) := by decide +kernel
theorem dX6_findRedex_16 : decode cX6_findRedex 16 = .ok (.bipush 64, 2) := by decide +kernel
theorem dX6_findRedex_18 : decode cX6_findRedex 18 = .ok (.if_icmp .eq 18, 3) := by decide +kernel
theorem dX6_findRedex_21 : decode cX6_findRedex 21 = .ok (.aload_n 0, 1) := by decide +kernel
theorem dX6_findRedex_22 : decode cX6_findRedex 22 = .ok (.iload_n 1, 1) := by decide +kernel
theorem dX6_findRedex_23 : decode cX6_findRedex 23 = .ok (.invokevirtual 83, 3) := by decide +kernel
theorem dX6_findRedex_26 : decode cX6_findRedex 26 = .ok (.ifCond .eq 10, 3) := by decide +kernel
theorem dX6_findRedex_29 : decode cX6_findRedex 29 = .ok (.aload_n 0, 1) := by decide +kernel
theorem dX6_findRedex_30 : decode cX6_findRedex 30 = .ok (.iload_n 1, 1) := by decide +kernel
theorem dX6_findRedex_31 : decode cX6_findRedex 31 = .ok (.putfield 87, 3) := by decide +kernel
theorem dX6_findRedex_34 : decode cX6_findRedex 34 = .ok (.iconst 1, 1) := by decide +kernel
theorem dX6_findRedex_35 : decode cX6_findRedex 35 = .ok (.ireturn, 1) := by decide +kernel
theorem dX6_findRedex_36 : decode cX6_findRedex 36 = .ok (.iinc 1 1, 3) := by decide +kernel
theorem dX6_findRedex_39 : decode cX6_findRedex 39 = .ok (.goto (-37), 3) := by decide +kernel
theorem dX6_findRedex_42 : decode cX6_findRedex 42 = .ok (.iconst 0, 1) := by decide +kernel
theorem dX6_findRedex_43 : decode cX6_findRedex 43 = .ok (.ireturn, 1) := by decide +kernel
def kX6_findRedex_36 (N : Nat) (rec : Int32 → qM → Option ((qM) ⊕ (Int32 × qM))) (v0 : Nat) (v1 : Int32)  (m0 : qM) : Option ((qM) ⊕ (Int32 × qM)) :=
  rec (v1 + (1 : Int32)) m0
set_option maxRecDepth 100000 in
theorem kbX6_findRedex_36 {E : qE} {N d bc bs : Nat} (hd : 2 ≤ d) {v0 : Nat} {v1 : Int32}  {m0 : qM} {rec : Int32 → qM → Option ((qM) ⊕ (Int32 × qM))} (hrec : ∀ (v1 : Int32) (m : qM), qB E yX6_findRedex cX6_findRedex 2 (some .boolean) (fun _ => True) d bc bs 2 [(0, .ref (E.2.1 + v0)), (1, .int v1)] [] m (rec v1 m) (qGL (fun o rr => qJ E yX6_findRedex cX6_findRedex 2 (some .boolean) (fun _ => True) d bc bs 42 [] [] o rr) (fun r => (some (.int r.1), r.2)))) : qB E yX6_findRedex cX6_findRedex 2 (some .boolean) (fun _ => True) d bc bs 36 [(0, .ref (E.2.1 + v0)), (1, .int v1)] [] m0 (kX6_findRedex_36 N rec v0 v1 m0) (qGL (fun o rr => qJ E yX6_findRedex cX6_findRedex 2 (some .boolean) (fun _ => True) d bc bs 42 [] [] o rr) (fun r => (some (.int r.1), r.2))) := by
  unfold kX6_findRedex_36
  refine j_iinc (q := 1) (np := 39) (lv2 := [(1, .int (v1 + (1 : Int32))), (0, .ref (E.2.1 + v0))]) rfl (congrArg _ ci_1) (by decide) dX6_findRedex_36 rfl rfl ?_
  refine j_goto (tgt := 2) dX6_findRedex_39 rfl ?_
  refine j_sub (lv2 := [(0, .ref (E.2.1 + v0)), (1, .int (v1 + (1 : Int32)))]) [1, 0] rfl ?_
  exact hrec _ _
def lX6_findRedex_2 (N : Nat) (v0 : Nat) : Nat → Int32 → qM → Option ((qM) ⊕ (Int32 × qM))
  | 0, _, _ => none
  | n + 1, v1, m0 =>
    (qgI m0 v0 6 7).bind fun x1 =>
    if x1 ≤ v1 then (
    some (.inl m0)
    ) else (
    (qgR m0 v0 6 5).bind fun x2 =>
    (qaI m0 x2 11 v1).bind fun x3 =>
    if x3 = (64 : Int32) then (
    kX6_findRedex_36 N (lX6_findRedex_2 N v0 n) v0 v1 m0
    ) else (
    (qChk m0 v0 6 (fX6_findArguments N v0 v1 m0)).bind fun b4 =>
    if b4.1 = 0 then (
    kX6_findRedex_36 N (lX6_findRedex_2 N v0 n) v0 v1 b4.2
    ) else (
    (qpI b4.2 v0 6 9 v1).bind fun m5 =>
    some (.inr ((1 : Int32), m5))
    )
    )
    )
set_option maxRecDepth 100000 in
theorem lbX6_findRedex_2 {E : qE} {N d bc bs : Nat} (hd : 2 ≤ d) {v0 : Nat} : ∀ (n : Nat) (v1 : Int32) (m0 : qM), qB E yX6_findRedex cX6_findRedex 2 (some .boolean) (fun _ => True) d bc bs 2 [(0, .ref (E.2.1 + v0)), (1, .int v1)] [] m0 (lX6_findRedex_2 N v0 n v1 m0) (qGL (fun o rr => qJ E yX6_findRedex cX6_findRedex 2 (some .boolean) (fun _ => True) d bc bs 42 [] [] o rr) (fun r => (some (.int r.1), r.2))) := by
  intro n
  induction n with
  | zero =>
    intro v1 m0
    exact j_none
  | succ n ih =>
    intro v1 m0
    unfold lX6_findRedex_2
    refine j_iload_n (q := 1) (np := 3) rfl rfl dX6_findRedex_2 rfl ?_
    refine j_aload_n (q := 0) (np := 4) rfl rfl dX6_findRedex_3 rfl ?_
    refine j_gI (np := 7) flX6_57 dX6_findRedex_4 rfl (fun x1 => ?_)
    refine j_icmp_ge (tgt := 42) (np := 10) dX6_findRedex_7 rfl rfl ?_ ?_
    · refine j_sub (lv2 := []) [] rfl ?_
      exact j_exit (fun rr h => h)
    · refine j_aload_n (q := 0) (np := 11) rfl rfl dX6_findRedex_10 rfl ?_
      refine j_gR (np := 14) flX6_28 dX6_findRedex_11 rfl (fun x2 => ?_)
      refine j_iload_n (q := 1) (np := 15) rfl rfl dX6_findRedex_14 rfl ?_
      refine j_caload (np := 16) dX6_findRedex_15 rfl (fun x3 => ?_)
      refine j_bipush (np := 18) cb_64 dX6_findRedex_16 rfl ?_
      refine j_icmp_eq (tgt := 36) (np := 21) dX6_findRedex_18 rfl rfl ?_ ?_
      · exact kbX6_findRedex_36 hd ih
      · refine j_aload_n (q := 0) (np := 22) rfl rfl dX6_findRedex_21 rfl ?_
        refine j_iload_n (q := 1) (np := 23) rfl rfl dX6_findRedex_22 rfl ?_
        refine j_callVi (ci := 6) (np := 26) (bc := bc) (bs := bs) (cb := 0) (cs := 0) (dd := d - 1) (As := [.int v1]) (st := []) caX6_findArguments mlX6_83 imX6_findArguments seX6_findArguments rfl rfl (by decide) (fun b hb => wX6_findArguments (by omega) hb) (by omega) rfl rfl (Nat.le_of_ble_eq_true rfl) dX6_findRedex_23 rfl (fun b4 => ?_)
        refine j_if_eq (tgt := 36) (np := 29) dX6_findRedex_26 rfl rfl ?_ ?_
        · exact kbX6_findRedex_36 hd ih
        · refine j_aload_n (q := 0) (np := 30) rfl rfl dX6_findRedex_29 rfl ?_
          refine j_iload_n (q := 1) (np := 31) rfl rfl dX6_findRedex_30 rfl ?_
          refine j_pI (np := 34) flX6_87 dX6_findRedex_31 rfl (fun m5 => ?_)
          refine j_iconst (np := 35) ci_1 dX6_findRedex_34 rfl ?_
          exact j_zret rfl dX6_findRedex_35 (fun rr h => by rw [z1]; exact h)
def fX6_findRedex (N : Nat) (v0 : Nat) (m0 : qM) : Option (Int32 × qM) :=
  qTh (lX6_findRedex_2 N v0 N (0 : Int32) m0) (fun o1 =>
  some ((0 : Int32), o1)
  ) (fun r => r)
set_option maxRecDepth 100000 in
theorem bX6_findRedex {E : qE} {N d bc bs : Nat} (hd : 2 ≤ d) {v0 : Nat} {m0 : qM} : qB E yX6_findRedex cX6_findRedex 2 (some .boolean) (fun _ => True) d bc bs 0 [(0, .ref (E.2.1 + v0))] [] m0 (fX6_findRedex N v0 m0) (fun b rr => rr = (some (.int b.1), b.2)) := by
  unfold fX6_findRedex
  refine j_iconst (np := 1) ci_0 dX6_findRedex_0 rfl ?_
  refine j_istore_n (np := 2) (lv2 := [(1, .int (0 : Int32)), (0, .ref (E.2.1 + v0))]) rfl (by decide) dX6_findRedex_1 rfl rfl ?_
  refine j_sub (lv2 := [(0, .ref (E.2.1 + v0)), (1, .int (0 : Int32))]) [1, 0] rfl ?_
  refine j_loopG (xp := 42) (lvX := fun o1 => []) (mX := fun o1 => o1) (lbX6_findRedex_2 hd _ _ _) (fun r rr h => h) (fun o1 => ?_)
  refine j_iconst (np := 43) ci_0 dX6_findRedex_42 rfl ?_
  exact j_zret rfl dX6_findRedex_43 (fun rr h => by rw [z0]; exact h)
set_option maxRecDepth 100000 in
theorem wX6_findRedex {E : qE} {N d : Nat} (hd : 2 ≤ d) {v0 : Nat} {m0 : qM} {b : Int32 × qM} (h : fX6_findRedex N v0 m0 = some b) : qRun E yX6_findRedex cX6_findRedex 2 (some .boolean) d 0 0 [.ref (E.2.1 + v0)] m0 (some (.int b.1), b.2) := q_met pnX6 (Nat.le_of_ble_eq_true rfl) (bX6_findRedex hd b _ h rfl)
theorem dJ0_isLatin1_aae02_0 : decode cJ0_isLatin1_aae02 0 = .ok (.getstatic 38, 3) := by decide +kernel
theorem dJ0_isLatin1_aae02_3 : decode cJ0_isLatin1_aae02 3 = .ok (.ifCond .eq 14, 3) := by decide +kernel
theorem dJ0_isLatin1_aae02_6 : decode cJ0_isLatin1_aae02 6 = .ok (.aload_n 0, 1) := by decide +kernel
theorem dJ0_isLatin1_aae02_7 : decode cJ0_isLatin1_aae02 7 = .ok (.getfield 15, 3) := by decide +kernel
theorem dJ0_isLatin1_aae02_10 : decode cJ0_isLatin1_aae02 10 = .ok (.ifCond .ne 7, 3) := by decide +kernel
theorem dJ0_isLatin1_aae02_13 : decode cJ0_isLatin1_aae02 13 = .ok (.iconst 1, 1) := by decide +kernel
theorem dJ0_isLatin1_aae02_14 : decode cJ0_isLatin1_aae02 14 = .ok (.goto 4, 3) := by decide +kernel
theorem dJ0_isLatin1_aae02_17 : decode cJ0_isLatin1_aae02 17 = .ok (.iconst 0, 1) := by decide +kernel
theorem dJ0_isLatin1_aae02_18 : decode cJ0_isLatin1_aae02 18 = .ok (.ireturn, 1) := by decide +kernel
def fJ0_isLatin1_aae02 (N : Nat) (v0 : Nat) (m0 : qM) : Option (Int32 × qM) :=
  if (1 : Int32) = 0 then (
  some ((0 : Int32), m0)
  ) else (
  (qsc v0).bind fun x1 =>
  if x1 = 0 then (
  some ((1 : Int32), m0)
  ) else (
  some ((0 : Int32), m0)
  )
  )
set_option maxRecDepth 100000 in
theorem bJ0_isLatin1_aae02 {E : qE} {N d bc bs : Nat} (hd : 0 ≤ d) {v0 : Nat} {m0 : qM} : qB E yJ0_isLatin1_aae02 cJ0_isLatin1_aae02 1 (some .boolean) (fun _ => True) d bc bs 0 [(0, .ref (E.2.2.2.2.1 v0))] [] m0 (fJ0_isLatin1_aae02 N v0 m0) (fun b rr => rr = (some (.int b.1), b.2)) := by
  unfold fJ0_isLatin1_aae02
  refine j_cmpct (np := 3) flJ0_38 dJ0_isLatin1_aae02_0 rfl ?_
  refine j_if_eq (tgt := 17) (np := 6) dJ0_isLatin1_aae02_3 rfl rfl ?_ ?_
  · refine j_iconst (np := 18) ci_0 dJ0_isLatin1_aae02_17 rfl ?_
    exact j_zret rfl dJ0_isLatin1_aae02_18 (fun rr h => by rw [z0]; exact h)
  · refine j_aload_n (q := 0) (np := 7) rfl rfl dJ0_isLatin1_aae02_6 rfl ?_
    refine j_scod (np := 10) flJ0_15 dJ0_isLatin1_aae02_7 rfl (fun x1 => ?_)
    refine j_if_ne (tgt := 17) (np := 13) dJ0_isLatin1_aae02_10 rfl rfl ?_ ?_
    · refine j_iconst (np := 18) ci_0 dJ0_isLatin1_aae02_17 rfl ?_
      exact j_zret rfl dJ0_isLatin1_aae02_18 (fun rr h => by rw [z0]; exact h)
    · refine j_iconst (np := 14) ci_1 dJ0_isLatin1_aae02_13 rfl ?_
      refine j_goto (tgt := 18) dJ0_isLatin1_aae02_14 rfl ?_
      exact j_zret rfl dJ0_isLatin1_aae02_18 (fun rr h => by rw [z1]; exact h)
set_option maxRecDepth 100000 in
theorem wJ0_isLatin1_aae02 {E : qE} {N d : Nat} (hd : 0 ≤ d) {v0 : Nat} {m0 : qM} {b : Int32 × qM} (h : fJ0_isLatin1_aae02 N v0 m0 = some b) : qRun E yJ0_isLatin1_aae02 cJ0_isLatin1_aae02 1 (some .boolean) d 0 0 [.ref (E.2.2.2.2.1 v0)] m0 (some (.int b.1), b.2) := q_met pnJ0 (Nat.le_of_ble_eq_true rfl) (bJ0_isLatin1_aae02 hd b _ h rfl)
theorem dJ3_checkIndex_8e157_0 : decode cJ3_checkIndex_8e157 0 = .ok (.iload_n 0, 1) := by decide +kernel
theorem dJ3_checkIndex_8e157_1 : decode cJ3_checkIndex_8e157 1 = .ok (.ifCond .lt 8, 3) := by decide +kernel
theorem dJ3_checkIndex_8e157_4 : decode cJ3_checkIndex_8e157 4 = .ok (.iload_n 0, 1) := by decide +kernel
theorem dJ3_checkIndex_8e157_5 : decode cJ3_checkIndex_8e157 5 = .ok (.iload_n 1, 1) := by decide +kernel
theorem dJ3_checkIndex_8e157_6 : decode cJ3_checkIndex_8e157 6 = .ok (.if_icmp .lt 10, 3) := by decide +kernel
theorem dJ3_checkIndex_8e157_9 : decode cJ3_checkIndex_8e157 9 = .ok (.aload_n 2, 1) := by decide +kernel
theorem dJ3_checkIndex_8e157_16 : decode cJ3_checkIndex_8e157 16 = .ok (.iload_n 0, 1) := by decide +kernel
theorem dJ3_checkIndex_8e157_17 : decode cJ3_checkIndex_8e157 17 = .ok (.ireturn, 1) := by decide +kernel
def fJ3_checkIndex_8e157 (N : Nat) (v0 : Int32) (v1 : Int32) (m0 : qM) : Option (Int32 × qM) :=
  if v0 < 0 then (
  none
  ) else (
  if v0 < v1 then (
  some (v0, m0)
  ) else (
  none
  )
  )
set_option maxRecDepth 100000 in
theorem bJ3_checkIndex_8e157 {E : qE} {N d bc bs : Nat} (hd : 0 ≤ d) {v0 : Int32} {v1 : Int32} {v2 : Option Nat} {m0 : qM} : qB E yJ3_checkIndex_8e157 cJ3_checkIndex_8e157 3 (some .int) (fun _ => True) d bc bs 0 [(0, .int v0), (1, .int v1), (2, va_rf v2)] [] m0 (fJ3_checkIndex_8e157 N v0 v1 m0) (fun b rr => rr = (some (.int b.1), b.2)) := by
  unfold fJ3_checkIndex_8e157
  refine j_iload_n (q := 0) (np := 1) rfl rfl dJ3_checkIndex_8e157_0 rfl ?_
  refine j_if_lt (tgt := 9) (np := 4) dJ3_checkIndex_8e157_1 rfl rfl ?_ ?_
  · exact j_none
  · refine j_iload_n (q := 0) (np := 5) rfl rfl dJ3_checkIndex_8e157_4 rfl ?_
    refine j_iload_n (q := 1) (np := 6) rfl rfl dJ3_checkIndex_8e157_5 rfl ?_
    refine j_icmp_lt (tgt := 16) (np := 9) dJ3_checkIndex_8e157_6 rfl rfl ?_ ?_
    · refine j_iload_n (q := 0) (np := 17) rfl rfl dJ3_checkIndex_8e157_16 rfl ?_
      exact j_iret rfl dJ3_checkIndex_8e157_17 (fun rr h => h)
    · exact j_none
set_option maxRecDepth 100000 in
theorem wJ3_checkIndex_8e157 {E : qE} {N d : Nat} (hd : 0 ≤ d) {v0 : Int32} {v1 : Int32} {v2 : Option Nat} {m0 : qM} {b : Int32 × qM} (h : fJ3_checkIndex_8e157 N v0 v1 m0 = some b) : qRun E yJ3_checkIndex_8e157 cJ3_checkIndex_8e157 3 (some .int) d 0 0 [.int v0, .int v1, va_rf v2] m0 (some (.int b.1), b.2) := by cases v2 <;> exact q_met pnJ3 (Nat.le_of_ble_eq_true rfl) (bJ3_checkIndex_8e157 hd b _ h rfl)
theorem dJ0_checkIndex_df160_0 : decode cJ0_checkIndex_df160 0 = .ok (.iload_n 0, 1) := by decide +kernel
theorem dJ0_checkIndex_df160_1 : decode cJ0_checkIndex_df160 1 = .ok (.iload_n 1, 1) := by decide +kernel
theorem dJ0_checkIndex_df160_2 : decode cJ0_checkIndex_df160 2 = .ok (.getstatic 1053, 3) := by decide +kernel
theorem dJ0_checkIndex_df160_5 : decode cJ0_checkIndex_df160 5 = .ok (.invokestatic 1059, 3) := by decide +kernel
theorem dJ0_checkIndex_df160_8 : decode cJ0_checkIndex_df160 8 = .ok (.pop, 1) := by decide +kernel
theorem dJ0_checkIndex_df160_9 : decode cJ0_checkIndex_df160 9 = .ok (.return_, 1) := by decide +kernel
def fJ0_checkIndex_df160 (N : Nat) (v0 : Int32) (v1 : Int32) (m0 : qM) : Option (qM) :=
  (fJ3_checkIndex_8e157 N v0 v1 m0).bind fun b2 =>
  some b2.2
set_option maxRecDepth 100000 in
theorem bJ0_checkIndex_df160 {E : qE} {N d bc bs : Nat} (hd : 1 ≤ d) {v0 : Int32} {v1 : Int32} {m0 : qM} : qB E yJ0_checkIndex_df160 cJ0_checkIndex_df160 2 none (fun _ => True) d bc bs 0 [(0, .int v0), (1, .int v1)] [] m0 (fJ0_checkIndex_df160 N v0 v1 m0) (fun b rr => rr = (none, b)) := by
  unfold fJ0_checkIndex_df160
  refine j_iload_n (q := 0) (np := 1) rfl rfl dJ0_checkIndex_df160_0 rfl ?_
  refine j_iload_n (q := 1) (np := 2) rfl rfl dJ0_checkIndex_df160_1 rfl ?_
  refine j_frm (np := 5) flJ0_1053 dJ0_checkIndex_df160_2 rfl (fun y1 => ?_)
  refine j_callSi (np := 8) (bc := bc) (bs := bs) (cb := 0) (cs := 0) (dd := d - 1) (As := [.int v0, .int v1, va_rf y1]) (st := []) caJ3_checkIndex_8e157 mlJ0_1059 stJ3_checkIndex_8e157 (fun b hb => wJ3_checkIndex_8e157 (by omega) hb) (by omega) rfl rfl (Nat.le_of_ble_eq_true rfl) dJ0_checkIndex_df160_5 rfl (fun b2 => ?_)
  refine j_pop (np := 9) rfl dJ0_checkIndex_df160_8 rfl ?_
  exact j_vret rfl dJ0_checkIndex_df160_9 (fun rr h => h)
set_option maxRecDepth 100000 in
theorem wJ0_checkIndex_df160 {E : qE} {N d : Nat} (hd : 1 ≤ d) {v0 : Int32} {v1 : Int32} {m0 : qM} {b : qM} (h : fJ0_checkIndex_df160 N v0 v1 m0 = some b) : qRun E yJ0_checkIndex_df160 cJ0_checkIndex_df160 2 none d 0 0 [.int v0, .int v1] m0 (none, b) := q_met pnJ0 (Nat.le_of_ble_eq_true rfl) (bJ0_checkIndex_df160 hd b _ h rfl)
theorem dJ1_charAt_3b067_0 : decode cJ1_charAt_3b067 0 = .ok (.iload_n 1, 1) := by decide +kernel
theorem dJ1_charAt_3b067_1 : decode cJ1_charAt_3b067 1 = .ok (.aload_n 0, 1) := by decide +kernel
theorem dJ1_charAt_3b067_2 : decode cJ1_charAt_3b067 2 = .ok (.arraylength, 1) := by decide +kernel
theorem dJ1_charAt_3b067_3 : decode cJ1_charAt_3b067 3 = .ok (.invokestatic 9, 3) := by decide +kernel
theorem dJ1_charAt_3b067_6 : decode cJ1_charAt_3b067 6 = .ok (.aload_n 0, 1) := by decide +kernel
theorem dJ1_charAt_3b067_7 : decode cJ1_charAt_3b067 7 = .ok (.iload_n 1, 1) := by decide +kernel
theorem dJ1_charAt_3b067_8 : decode cJ1_charAt_3b067 8 = .ok (.baload, 1) := by decide +kernel
theorem dJ1_charAt_3b067_9 : decode cJ1_charAt_3b067 9 = .ok (.sipush 255, 3) := by decide +kernel
theorem dJ1_charAt_3b067_12 : decode cJ1_charAt_3b067 12 = .ok (.iand, 1) := by decide +kernel
theorem dJ1_charAt_3b067_13 : decode cJ1_charAt_3b067 13 = .ok (.i2c, 1) := by decide +kernel
theorem dJ1_charAt_3b067_14 : decode cJ1_charAt_3b067 14 = .ok (.ireturn, 1) := by decide +kernel
def fJ1_charAt_3b067 (N : Nat) (v0 : Nat) (v1 : Int32) (m0 : qM) : Option (Int32 × qM) :=
  (qbl v0).bind fun x1 =>
  (fJ0_checkIndex_df160 N v1 x1 m0).bind fun b2 =>
  (qba v0 v1).bind fun x3 =>
  some ((((x3 &&& (255 : Int32)).toUInt32 % 65536).toInt32).toUInt32.toUInt16.toUInt32.toInt32, b2)
set_option maxRecDepth 100000 in
theorem bJ1_charAt_3b067 {E : qE} {N d bc bs : Nat} (hd : 2 ≤ d) {v0 : Nat} {v1 : Int32} {m0 : qM} : qB E yJ1_charAt_3b067 cJ1_charAt_3b067 2 (some .char) (fun _ => True) d bc bs 0 [(0, .ref (E.2.2.2.2.2 v0)), (1, .int v1)] [] m0 (fJ1_charAt_3b067 N v0 v1 m0) (fun b rr => rr = (some (.int b.1), b.2)) := by
  unfold fJ1_charAt_3b067
  refine j_iload_n (q := 1) (np := 1) rfl rfl dJ1_charAt_3b067_0 rfl ?_
  refine j_aload_n (q := 0) (np := 2) rfl rfl dJ1_charAt_3b067_1 rfl ?_
  refine j_blen (np := 3) dJ1_charAt_3b067_2 rfl (fun x1 => ?_)
  refine j_callSv (np := 6) (bc := bc) (bs := bs) (cb := 0) (cs := 0) (dd := d - 1) (As := [.int v1, .int x1]) (st := []) caJ0_checkIndex_df160 mlJ1_9 stJ0_checkIndex_df160 (fun b hb => wJ0_checkIndex_df160 (by omega) hb) (by omega) rfl rfl (Nat.le_of_ble_eq_true rfl) dJ1_charAt_3b067_3 rfl (fun b2 => ?_)
  refine j_aload_n (q := 0) (np := 7) rfl rfl dJ1_charAt_3b067_6 rfl ?_
  refine j_iload_n (q := 1) (np := 8) rfl rfl dJ1_charAt_3b067_7 rfl ?_
  refine j_bal8 (np := 9) dJ1_charAt_3b067_8 rfl (fun x3 => ?_)
  refine j_sipush (np := 12) cs_255 dJ1_charAt_3b067_9 rfl ?_
  refine j_iand (np := 13) dJ1_charAt_3b067_12 rfl ?_
  refine j_i2c (np := 14) dJ1_charAt_3b067_13 rfl ?_
  exact j_cret rfl dJ1_charAt_3b067_14 (fun rr h => h)
set_option maxRecDepth 100000 in
theorem wJ1_charAt_3b067 {E : qE} {N d : Nat} (hd : 2 ≤ d) {v0 : Nat} {v1 : Int32} {m0 : qM} {b : Int32 × qM} (h : fJ1_charAt_3b067 N v0 v1 m0 = some b) : qRun E yJ1_charAt_3b067 cJ1_charAt_3b067 2 (some .char) d 0 0 [.ref (E.2.2.2.2.2 v0), .int v1] m0 (some (.int b.1), b.2) := q_met pnJ1 (Nat.le_of_ble_eq_true rfl) (bJ1_charAt_3b067 hd b _ h rfl)
theorem dJ0_charAt_5068e_0 : decode cJ0_charAt_5068e 0 = .ok (.aload_n 0, 1) := by decide +kernel
theorem dJ0_charAt_5068e_1 : decode cJ0_charAt_5068e 1 = .ok (.invokevirtual 492, 3) := by decide +kernel
theorem dJ0_charAt_5068e_4 : decode cJ0_charAt_5068e 4 = .ok (.ifCond .eq 12, 3) := by decide +kernel
theorem dJ0_charAt_5068e_7 : decode cJ0_charAt_5068e 7 = .ok (.aload_n 0, 1) := by decide +kernel
theorem dJ0_charAt_5068e_8 : decode cJ0_charAt_5068e 8 = .ok (.getfield 9, 3) := by decide +kernel
theorem dJ0_charAt_5068e_11 : decode cJ0_charAt_5068e 11 = .ok (.iload_n 1, 1) := by decide +kernel
theorem dJ0_charAt_5068e_12 : decode cJ0_charAt_5068e 12 = .ok (.invokestatic 495, 3) := by decide +kernel
theorem dJ0_charAt_5068e_15 : decode cJ0_charAt_5068e 15 = .ok (.ireturn, 1) := by decide +kernel
theorem dJ0_charAt_5068e_16 : decode cJ0_charAt_5068e 16 = .ok (.aload_n 0, 1) := by decide +kernel
def fJ0_charAt_5068e (N : Nat) (v0 : Nat) (v1 : Int32) (m0 : qM) : Option (Int32 × qM) :=
  (qChs v0 (fJ0_isLatin1_aae02 N v0 m0)).bind fun b1 =>
  if b1.1 = 0 then (
  none
  ) else (
  (qsv v0).bind fun x2 =>
  (fJ1_charAt_3b067 N x2 v1 b1.2).bind fun b3 =>
  some (b3.1.toUInt32.toUInt16.toUInt32.toInt32, b3.2)
  )
set_option maxRecDepth 100000 in
theorem bJ0_charAt_5068e {E : qE} {N d bc bs : Nat} (hd : 3 ≤ d) {v0 : Nat} {v1 : Int32} {m0 : qM} : qB E yJ0_charAt_5068e cJ0_charAt_5068e 2 (some .char) (fun _ => True) d bc bs 0 [(0, .ref (E.2.2.2.2.1 v0)), (1, .int v1)] [] m0 (fJ0_charAt_5068e N v0 v1 m0) (fun b rr => rr = (some (.int b.1), b.2)) := by
  unfold fJ0_charAt_5068e
  refine j_aload_n (q := 0) (np := 1) rfl rfl dJ0_charAt_5068e_0 rfl ?_
  refine j_callT (np := 4) (dd := d - 1) (As := []) (st := []) caJ0_isLatin1_aae02 mlJ0_492 imJ0_isLatin1_aae02 seJ0_isLatin1_aae02 rfl (fun b hb => wJ0_isLatin1_aae02 (by omega) hb) (by omega) rfl rfl (Nat.le_of_ble_eq_true rfl) dJ0_charAt_5068e_1 rfl (fun b1 => ?_)
  refine j_if_eq (tgt := 16) (np := 7) dJ0_charAt_5068e_4 rfl rfl ?_ ?_
  · exact j_none
  · refine j_aload_n (q := 0) (np := 8) rfl rfl dJ0_charAt_5068e_7 rfl ?_
    refine j_sval (np := 11) flJ0_9 dJ0_charAt_5068e_8 rfl (fun x2 => ?_)
    refine j_iload_n (q := 1) (np := 12) rfl rfl dJ0_charAt_5068e_11 rfl ?_
    refine j_callSi (np := 15) (bc := bc) (bs := bs) (cb := 0) (cs := 0) (dd := d - 1) (As := [.ref (E.2.2.2.2.2 x2), .int v1]) (st := []) caJ1_charAt_3b067 mlJ0_495 stJ1_charAt_3b067 (fun b hb => wJ1_charAt_3b067 (by omega) hb) (by omega) rfl rfl (Nat.le_of_ble_eq_true rfl) dJ0_charAt_5068e_12 rfl (fun b3 => ?_)
    exact j_cret rfl dJ0_charAt_5068e_15 (fun rr h => h)
set_option maxRecDepth 100000 in
theorem wJ0_charAt_5068e {E : qE} {N d : Nat} (hd : 3 ≤ d) {v0 : Nat} {v1 : Int32} {m0 : qM} {b : Int32 × qM} (h : fJ0_charAt_5068e N v0 v1 m0 = some b) : qRun E yJ0_charAt_5068e cJ0_charAt_5068e 2 (some .char) d 0 0 [.ref (E.2.2.2.2.1 v0), .int v1] m0 (some (.int b.1), b.2) := q_met pnJ0 (Nat.le_of_ble_eq_true rfl) (bJ0_charAt_5068e hd b _ h rfl)
theorem dJ0_coder_7d493_0 : decode cJ0_coder_7d493 0 = .ok (.getstatic 38, 3) := by decide +kernel
theorem dJ0_coder_7d493_3 : decode cJ0_coder_7d493 3 = .ok (.ifCond .eq 10, 3) := by decide +kernel
theorem dJ0_coder_7d493_6 : decode cJ0_coder_7d493 6 = .ok (.aload_n 0, 1) := by decide +kernel
theorem dJ0_coder_7d493_7 : decode cJ0_coder_7d493 7 = .ok (.getfield 15, 3) := by decide +kernel
theorem dJ0_coder_7d493_10 : decode cJ0_coder_7d493 10 = .ok (.goto 4, 3) := by decide +kernel
theorem dJ0_coder_7d493_13 : decode cJ0_coder_7d493 13 = .ok (.iconst 1, 1) := by decide +kernel
theorem dJ0_coder_7d493_14 : decode cJ0_coder_7d493 14 = .ok (.ireturn, 1) := by decide +kernel
def fJ0_coder_7d493 (N : Nat) (v0 : Nat) (m0 : qM) : Option (Int32 × qM) :=
  if (1 : Int32) = 0 then (
  some ((1 : Int32).toInt8.toInt32, m0)
  ) else (
  (qsc v0).bind fun x1 =>
  some (x1.toInt8.toInt32, m0)
  )
set_option maxRecDepth 100000 in
theorem bJ0_coder_7d493 {E : qE} {N d bc bs : Nat} (hd : 0 ≤ d) {v0 : Nat} {m0 : qM} : qB E yJ0_coder_7d493 cJ0_coder_7d493 1 (some .byte) (fun _ => True) d bc bs 0 [(0, .ref (E.2.2.2.2.1 v0))] [] m0 (fJ0_coder_7d493 N v0 m0) (fun b rr => rr = (some (.int b.1), b.2)) := by
  unfold fJ0_coder_7d493
  refine j_cmpct (np := 3) flJ0_38 dJ0_coder_7d493_0 rfl ?_
  refine j_if_eq (tgt := 13) (np := 6) dJ0_coder_7d493_3 rfl rfl ?_ ?_
  · refine j_iconst (np := 14) ci_1 dJ0_coder_7d493_13 rfl ?_
    exact j_bret rfl dJ0_coder_7d493_14 (fun rr h => h)
  · refine j_aload_n (q := 0) (np := 7) rfl rfl dJ0_coder_7d493_6 rfl ?_
    refine j_scod (np := 10) flJ0_15 dJ0_coder_7d493_7 rfl (fun x1 => ?_)
    refine j_goto (tgt := 14) dJ0_coder_7d493_10 rfl ?_
    exact j_bret rfl dJ0_coder_7d493_14 (fun rr h => h)
set_option maxRecDepth 100000 in
theorem wJ0_coder_7d493 {E : qE} {N d : Nat} (hd : 0 ≤ d) {v0 : Nat} {m0 : qM} {b : Int32 × qM} (h : fJ0_coder_7d493 N v0 m0 = some b) : qRun E yJ0_coder_7d493 cJ0_coder_7d493 1 (some .byte) d 0 0 [.ref (E.2.2.2.2.1 v0)] m0 (some (.int b.1), b.2) := q_met pnJ0 (Nat.le_of_ble_eq_true rfl) (bJ0_coder_7d493 hd b _ h rfl)
theorem dJ0_length_8abf5_0 : decode cJ0_length_8abf5 0 = .ok (.aload_n 0, 1) := by decide +kernel
theorem dJ0_length_8abf5_1 : decode cJ0_length_8abf5 1 = .ok (.getfield 9, 3) := by decide +kernel
theorem dJ0_length_8abf5_4 : decode cJ0_length_8abf5 4 = .ok (.arraylength, 1) := by decide +kernel
theorem dJ0_length_8abf5_5 : decode cJ0_length_8abf5 5 = .ok (.aload_n 0, 1) := by decide +kernel
theorem dJ0_length_8abf5_6 : decode cJ0_length_8abf5 6 = .ok (.invokevirtual 335, 3) := by decide +kernel
theorem dJ0_length_8abf5_9 : decode cJ0_length_8abf5 9 = .ok (.ishr, 1) := by decide +kernel
theorem dJ0_length_8abf5_10 : decode cJ0_length_8abf5 10 = .ok (.ireturn, 1) := by decide +kernel
def fJ0_length_8abf5 (N : Nat) (v0 : Nat) (m0 : qM) : Option (Int32 × qM) :=
  (qsv v0).bind fun x1 =>
  (qbl x1).bind fun x2 =>
  (qChs v0 (fJ0_coder_7d493 N v0 m0)).bind fun b3 =>
  some (x2 >>> (b3.1 &&& 31), b3.2)
set_option maxRecDepth 100000 in
theorem bJ0_length_8abf5 {E : qE} {N d bc bs : Nat} (hd : 1 ≤ d) {v0 : Nat} {m0 : qM} : qB E yJ0_length_8abf5 cJ0_length_8abf5 1 (some .int) (fun _ => True) d bc bs 0 [(0, .ref (E.2.2.2.2.1 v0))] [] m0 (fJ0_length_8abf5 N v0 m0) (fun b rr => rr = (some (.int b.1), b.2)) := by
  unfold fJ0_length_8abf5
  refine j_aload_n (q := 0) (np := 1) rfl rfl dJ0_length_8abf5_0 rfl ?_
  refine j_sval (np := 4) flJ0_9 dJ0_length_8abf5_1 rfl (fun x1 => ?_)
  refine j_blen (np := 5) dJ0_length_8abf5_4 rfl (fun x2 => ?_)
  refine j_aload_n (q := 0) (np := 6) rfl rfl dJ0_length_8abf5_5 rfl ?_
  refine j_callT (np := 9) (dd := d - 1) (As := []) (st := [.int x2]) caJ0_coder_7d493 mlJ0_335 imJ0_coder_7d493 seJ0_coder_7d493 rfl (fun b hb => wJ0_coder_7d493 (by omega) hb) (by omega) rfl rfl (Nat.le_of_ble_eq_true rfl) dJ0_length_8abf5_6 rfl (fun b3 => ?_)
  refine j_ishr (np := 10) dJ0_length_8abf5_9 rfl ?_
  exact j_iret rfl dJ0_length_8abf5_10 (fun rr h => h)
set_option maxRecDepth 100000 in
theorem wJ0_length_8abf5 {E : qE} {N d : Nat} (hd : 1 ≤ d) {v0 : Nat} {m0 : qM} {b : Int32 × qM} (h : fJ0_length_8abf5 N v0 m0 = some b) : qRun E yJ0_length_8abf5 cJ0_length_8abf5 1 (some .int) d 0 0 [.ref (E.2.2.2.2.1 v0)] m0 (some (.int b.1), b.2) := q_met pnJ0 (Nat.le_of_ble_eq_true rfl) (bJ0_length_8abf5 hd b _ h rfl)
theorem dX6_redexEnd_0 : decode cX6_redexEnd 0 = .ok (.aload_n 0, 1) := by decide +kernel
theorem dX6_redexEnd_1 : decode cX6_redexEnd 1 = .ok (.getfield 28, 3) := by decide +kernel
theorem dX6_redexEnd_4 : decode cX6_redexEnd 4 = .ok (.aload_n 0, 1) := by decide +kernel
theorem dX6_redexEnd_5 : decode cX6_redexEnd 5 = .ok (.getfield 87, 3) := by decide +kernel
theorem dX6_redexEnd_8 : decode cX6_redexEnd 8 = .ok (.caload, 1) := by decide +kernel
theorem dX6_redexEnd_9 : decode cX6_redexEnd 9 = .ok (.invokestatic 90, 3) := by decide +kernel
theorem dX6_redexEnd_12 : decode cX6_redexEnd 12 = .ok (.istore_n 1, 1) := by decide +kernel
theorem dX6_redexEnd_13 : decode cX6_redexEnd 13 = .ok (.iload_n 1, 1) := by decide +kernel
theorem dX6_redexEnd_14 : decode cX6_redexEnd 14 = .ok (.ifCond .le 16, 3) := by decide +kernel
theorem dX6_redexEnd_17 : decode cX6_redexEnd 17 = .ok (.aload_n 0, 1) := by decide +kernel
theorem dX6_redexEnd_18 : decode cX6_redexEnd 18 = .ok (.getfield 25, 3) := by decide +kernel
theorem dX6_redexEnd_21 : decode cX6_redexEnd 21 = .ok (.iload_n 1, 1) := by decide +kernel
theorem dX6_redexEnd_22 : decode cX6_redexEnd 22 = .ok (.iconst 1, 1) := by decide +kernel
theorem dX6_redexEnd_23 : decode cX6_redexEnd 23 = .ok (.isub, 1) := by decide +kernel
theorem dX6_redexEnd_24 : decode cX6_redexEnd 24 = .ok (.iaload, 1) := by decide +kernel
theorem dX6_redexEnd_25 : decode cX6_redexEnd 25 = .ok (.iconst 1, 1) := by decide +kernel
theorem dX6_redexEnd_26 : decode cX6_redexEnd 26 = .ok (.iadd, 1) := by decide +kernel
theorem dX6_redexEnd_27 : decode cX6_redexEnd 27 = .ok (.goto 7, 3) := by decide +kernel
theorem dX6_redexEnd_30 : decode cX6_redexEnd 30 = .ok (.aload_n 0, 1) := by decide +kernel
theorem dX6_redexEnd_31 : decode cX6_redexEnd 31 = .ok (.getfield 87, 3) := by decide +kernel
theorem dX6_redexEnd_34 : decode cX6_redexEnd 34 = .ok (.ireturn, 1) := by decide +kernel
def fX6_redexEnd (N : Nat) (v0 : Nat) (m0 : qM) : Option (Int32 × qM) :=
  (qgR m0 v0 6 5).bind fun x1 =>
  (qgI m0 v0 6 9).bind fun x2 =>
  (qaI m0 x1 11 x2).bind fun x3 =>
  (fX6_arityOf N x3 m0).bind fun b4 =>
  if b4.1 ≤ 0 then (
  (qgI b4.2 v0 6 9).bind fun x5 =>
  some (x5, b4.2)
  ) else (
  (qgR b4.2 v0 6 4).bind fun x6 =>
  (qaI b4.2 x6 12 (b4.1 - (1 : Int32))).bind fun x7 =>
  some (x7 + (1 : Int32), b4.2)
  )
set_option maxRecDepth 100000 in
theorem bX6_redexEnd {E : qE} {N d bc bs : Nat} (hd : 1 ≤ d) {v0 : Nat} {m0 : qM} : qB E yX6_redexEnd cX6_redexEnd 2 (some .int) (fun _ => True) d bc bs 0 [(0, .ref (E.2.1 + v0))] [] m0 (fX6_redexEnd N v0 m0) (fun b rr => rr = (some (.int b.1), b.2)) := by
  unfold fX6_redexEnd
  refine j_aload_n (q := 0) (np := 1) rfl rfl dX6_redexEnd_0 rfl ?_
  refine j_gR (np := 4) flX6_28 dX6_redexEnd_1 rfl (fun x1 => ?_)
  refine j_aload_n (q := 0) (np := 5) rfl rfl dX6_redexEnd_4 rfl ?_
  refine j_gI (np := 8) flX6_87 dX6_redexEnd_5 rfl (fun x2 => ?_)
  refine j_caload (np := 9) dX6_redexEnd_8 rfl (fun x3 => ?_)
  refine j_callSi (np := 12) (bc := bc) (bs := bs) (cb := 0) (cs := 0) (dd := d - 1) (As := [.int x3]) (st := []) caX6_arityOf mlX6_90 stX6_arityOf (fun b hb => wX6_arityOf (by omega) hb) (by omega) rfl rfl (Nat.le_of_ble_eq_true rfl) dX6_redexEnd_9 rfl (fun b4 => ?_)
  refine j_istore_n (np := 13) (lv2 := [(1, .int b4.1), (0, .ref (E.2.1 + v0))]) rfl (by decide) dX6_redexEnd_12 rfl rfl ?_
  refine j_iload_n (q := 0) (np := 14) rfl rfl dX6_redexEnd_13 rfl ?_
  refine j_if_le (tgt := 30) (np := 17) dX6_redexEnd_14 rfl rfl ?_ ?_
  · refine j_aload_n (q := 1) (np := 31) rfl rfl dX6_redexEnd_30 rfl ?_
    refine j_gI (np := 34) flX6_87 dX6_redexEnd_31 rfl (fun x5 => ?_)
    exact j_iret rfl dX6_redexEnd_34 (fun rr h => h)
  · refine j_aload_n (q := 1) (np := 18) rfl rfl dX6_redexEnd_17 rfl ?_
    refine j_gR (np := 21) flX6_25 dX6_redexEnd_18 rfl (fun x6 => ?_)
    refine j_iload_n (q := 0) (np := 22) rfl rfl dX6_redexEnd_21 rfl ?_
    refine j_iconst (np := 23) ci_1 dX6_redexEnd_22 rfl ?_
    refine j_isub (np := 24) dX6_redexEnd_23 rfl ?_
    refine j_iaload (np := 25) dX6_redexEnd_24 rfl (fun x7 => ?_)
    refine j_iconst (np := 26) ci_1 dX6_redexEnd_25 rfl ?_
    refine j_iadd (np := 27) dX6_redexEnd_26 rfl ?_
    refine j_goto (tgt := 34) dX6_redexEnd_27 rfl ?_
    exact j_iret rfl dX6_redexEnd_34 (fun rr h => h)
set_option maxRecDepth 100000 in
theorem wX6_redexEnd {E : qE} {N d : Nat} (hd : 1 ≤ d) {v0 : Nat} {m0 : qM} {b : Int32 × qM} (h : fX6_redexEnd N v0 m0 = some b) : qRun E yX6_redexEnd cX6_redexEnd 2 (some .int) d 0 0 [.ref (E.2.1 + v0)] m0 (some (.int b.1), b.2) := q_met pnX6 (Nat.le_of_ble_eq_true rfl) (bX6_redexEnd hd b _ h rfl)
theorem dX6_sizeAfterStep_0 : decode cX6_sizeAfterStep 0 = .ok (.aload_n 0, 1) := by decide +kernel
theorem dX6_sizeAfterStep_1 : decode cX6_sizeAfterStep 1 = .ok (.getfield 28, 3) := by decide +kernel
theorem dX6_sizeAfterStep_4 : decode cX6_sizeAfterStep 4 = .ok (.aload_n 0, 1) := by decide +kernel
theorem dX6_sizeAfterStep_5 : decode cX6_sizeAfterStep 5 = .ok (.getfield 87, 3) := by decide +kernel
theorem dX6_sizeAfterStep_8 : decode cX6_sizeAfterStep 8 = .ok (.caload, 1) := by decide +kernel
theorem dX6_sizeAfterStep_9 : decode cX6_sizeAfterStep 9 = .ok (.invokestatic 94, 3) := by decide +kernel
theorem dX6_sizeAfterStep_12 : decode cX6_sizeAfterStep 12 = .ok (.astore_n 1, 1) := by decide +kernel
theorem dX6_sizeAfterStep_13 : decode cX6_sizeAfterStep 13 = .ok (.aload_n 0, 1) := by decide +kernel
theorem dX6_sizeAfterStep_14 : decode cX6_sizeAfterStep 14 = .ok (.getfield 57, 3) := by decide +kernel
theorem dX6_sizeAfterStep_17 : decode cX6_sizeAfterStep 17 = .ok (.aload_n 0, 1) := by decide +kernel
theorem dX6_sizeAfterStep_18 : decode cX6_sizeAfterStep 18 = .ok (.invokevirtual 98, 3) := by decide +kernel
theorem dX6_sizeAfterStep_21 : decode cX6_sizeAfterStep 21 = .ok (.aload_n 0, 1) := by decide +kernel
theorem dX6_sizeAfterStep_22 : decode cX6_sizeAfterStep 22 = .ok (.getfield 87, 3) := by decide +kernel
theorem dX6_sizeAfterStep_25 : decode cX6_sizeAfterStep 25 = .ok (.isub, 1) := by decide +kernel
theorem dX6_sizeAfterStep_26 : decode cX6_sizeAfterStep 26 = .ok (.isub, 1) := by decide +kernel
theorem dX6_sizeAfterStep_27 : decode cX6_sizeAfterStep 27 = .ok (.istore_n 2, 1) := by decide +kernel
theorem dX6_sizeAfterStep_28 : decode cX6_sizeAfterStep 28 = .ok (.iconst 0, 1) := by decide +kernel
theorem dX6_sizeAfterStep_29 : decode cX6_sizeAfterStep 29 = .ok (.istore_n 3, 1) := by decide +kernel
theorem dX6_sizeAfterStep_30 : decode cX6_sizeAfterStep 30 = .ok (.iload_n 3, 1) := by decide +kernel
theorem dX6_sizeAfterStep_31 : decode cX6_sizeAfterStep 31 = .ok (.aload_n 1, 1) := by decide +kernel
theorem dX6_sizeAfterStep_32 : decode cX6_sizeAfterStep 32 = .ok (.invokevirtual 101, 3) := by decide +kernel
theorem dX6_sizeAfterStep_35 : decode cX6_sizeAfterStep 35 = .ok (.if_icmp .ge 64, 3) := by decide +kernel
theorem dX6_sizeAfterStep_38 : decode cX6_sizeAfterStep 38 = .ok (.aload_n 1, 1) := by decide +kernel
theorem dX6_sizeAfterStep_39 : decode cX6_sizeAfterStep 39 = .ok (.iload_n 3, 1) := by decide +kernel
theorem dX6_sizeAfterStep_40 : decode cX6_sizeAfterStep 40 = .ok (.invokevirtual 104, 3) := by decide +kernel
theorem dX6_sizeAfterStep_43 : decode cX6_sizeAfterStep 43 = .ok (.bipush 48, 2) := by decide +kernel
theorem dX6_sizeAfterStep_45 : decode cX6_sizeAfterStep 45 = .ok (.isub, 1) := by decide +kernel
theorem dX6_sizeAfterStep_46 : decode cX6_sizeAfterStep 46 = .ok (.istore 4, 2) := by decide +kernel
theorem dX6_sizeAfterStep_48 : decode cX6_sizeAfterStep 48 = .ok (.iload 4, 2) := by decide +kernel
theorem dX6_sizeAfterStep_50 : decode cX6_sizeAfterStep 50 = .ok (.ifCond .lt 13, 3) := by decide +kernel
theorem dX6_sizeAfterStep_53 : decode cX6_sizeAfterStep 53 = .ok (.iload 4, 2) := by decide +kernel
theorem dX6_sizeAfterStep_55 : decode cX6_sizeAfterStep 55 = .ok (.iconst 3, 1) := by decide +kernel
theorem dX6_sizeAfterStep_56 : decode cX6_sizeAfterStep 56 = .ok (.if_icmp .ge 7, 3) := by decide +kernel
theorem dX6_sizeAfterStep_59 : decode cX6_sizeAfterStep 59 = .ok (.iconst 1, 1) := by decide +kernel
theorem dX6_sizeAfterStep_60 : decode cX6_sizeAfterStep 60 = .ok (.goto 4, 3) := by decide +kernel
theorem dX6_sizeAfterStep_63 : decode cX6_sizeAfterStep 63 = .ok (.iconst 0, 1) := by decide +kernel
theorem dX6_sizeAfterStep_64 : decode cX6_sizeAfterStep 64 = .ok (.istore 5, 2) := by decide +kernel
theorem dX6_sizeAfterStep_66 : decode cX6_sizeAfterStep 66 = .ok (.iload_n 2, 1) := by decide +kernel
theorem dX6_sizeAfterStep_67 : decode cX6_sizeAfterStep 67 = .ok (.iload 5, 2) := by decide +kernel
theorem dX6_sizeAfterStep_69 : decode cX6_sizeAfterStep 69 = .ok (.ifCond .eq 21, 3) := by decide +kernel
theorem dX6_sizeAfterStep_72 : decode cX6_sizeAfterStep 72 = .ok (.aload_n 0, 1) := by decide +kernel
theorem dX6_sizeAfterStep_73 : decode cX6_sizeAfterStep 73 = .ok (.getfield 25, 3) := by decide +kernel
theorem dX6_sizeAfterStep_76 : decode cX6_sizeAfterStep 76 = .ok (.iload 4, 2) := by decide +kernel
theorem dX6_sizeAfterStep_78 : decode cX6_sizeAfterStep 78 = .ok (.iaload, 1) := by decide +kernel
theorem dX6_sizeAfterStep_79 : decode cX6_sizeAfterStep 79 = .ok (.aload_n 0, 1) := by decide +kernel
theorem dX6_sizeAfterStep_80 : decode cX6_sizeAfterStep 80 = .ok (.getfield 22, 3) := by decide +kernel
theorem dX6_sizeAfterStep_83 : decode cX6_sizeAfterStep 83 = .ok (.iload 4, 2) := by decide +kernel
theorem dX6_sizeAfterStep_85 : decode cX6_sizeAfterStep 85 = .ok (.iaload, 1) := by decide +kernel
theorem dX6_sizeAfterStep_86 : decode cX6_sizeAfterStep 86 = .ok (.isub, 1) := by decide +kernel
theorem dX6_sizeAfterStep_87 : decode cX6_sizeAfterStep 87 = .ok (.goto 4, 3) := by decide +kernel
theorem dX6_sizeAfterStep_90 : decode cX6_sizeAfterStep 90 = .ok (.iconst 1, 1) := by decide +kernel
theorem dX6_sizeAfterStep_91 : decode cX6_sizeAfterStep 91 = .ok (.iadd, 1) := by decide +kernel
theorem dX6_sizeAfterStep_92 : decode cX6_sizeAfterStep 92 = .ok (.istore_n 2, 1) := by decide +kernel
theorem dX6_sizeAfterStep_93 : decode cX6_sizeAfterStep 93 = .ok (.iinc 3 1, 3) := by decide +kernel
theorem dX6_sizeAfterStep_96 : decode cX6_sizeAfterStep 96 = .ok (.goto (-66), 3) := by decide +kernel
theorem dX6_sizeAfterStep_99 : decode cX6_sizeAfterStep 99 = .ok (.iload_n 2, 1) := by decide +kernel
theorem dX6_sizeAfterStep_100 : decode cX6_sizeAfterStep 100 = .ok (.iconst 1, 1) := by decide +kernel
theorem dX6_sizeAfterStep_101 : decode cX6_sizeAfterStep 101 = .ok (.iadd, 1) := by decide +kernel
theorem dX6_sizeAfterStep_102 : decode cX6_sizeAfterStep 102 = .ok (.iconst 2, 1) := by decide +kernel
theorem dX6_sizeAfterStep_103 : decode cX6_sizeAfterStep 103 = .ok (.idiv, 1) := by decide +kernel
theorem dX6_sizeAfterStep_104 : decode cX6_sizeAfterStep 104 = .ok (.ireturn, 1) := by decide +kernel
def kX6_sizeAfterStep_91 (N : Nat) (rec : Int32 → Int32 → qM → Option (Int32 × qM)) (v0 : Nat) (v1 : Nat) (v3 : Int32) (s0 : Int32) (s1 : Int32) (m0 : qM) : Option (Int32 × qM) :=
  rec (s0 + s1) (v3 + (1 : Int32)) m0
set_option maxRecDepth 100000 in
theorem kbX6_sizeAfterStep_91 {E : qE} {N d bc bs : Nat} (hd : 4 ≤ d) {v0 : Nat} {v1 : Nat} {v3 : Int32} {s0 : Int32} {s1 : Int32} {m0 : qM} {rec : Int32 → Int32 → qM → Option (Int32 × qM)} (hrec : ∀ (v2 : Int32) (v3 : Int32) (m : qM), qB E yX6_sizeAfterStep cX6_sizeAfterStep 6 (some .int) (fun _ => True) d bc bs 30 [(0, .ref (E.2.1 + v0)), (1, .ref (E.2.2.2.2.1 v1)), (2, .int v2), (3, .int v3)] [] m (rec v2 v3 m) (fun o rr => qJ E yX6_sizeAfterStep cX6_sizeAfterStep 6 (some .int) (fun _ => True) d bc bs 99 [(2, .int o.1)] [] o.2 rr)) : qB E yX6_sizeAfterStep cX6_sizeAfterStep 6 (some .int) (fun _ => True) d bc bs 91 [(0, .ref (E.2.1 + v0)), (1, .ref (E.2.2.2.2.1 v1)), (3, .int v3)] [.int s1, .int s0] m0 (kX6_sizeAfterStep_91 N rec v0 v1 v3 s0 s1 m0) (fun o rr => qJ E yX6_sizeAfterStep cX6_sizeAfterStep 6 (some .int) (fun _ => True) d bc bs 99 [(2, .int o.1)] [] o.2 rr) := by
  unfold kX6_sizeAfterStep_91
  refine j_iadd (np := 92) dX6_sizeAfterStep_91 rfl ?_
  refine j_istore_n (np := 93) (lv2 := [(2, .int (s0 + s1)), (0, .ref (E.2.1 + v0)), (1, .ref (E.2.2.2.2.1 v1)), (3, .int v3)]) rfl (by decide) dX6_sizeAfterStep_92 rfl rfl ?_
  refine j_iinc (q := 3) (np := 96) (lv2 := [(3, .int (v3 + (1 : Int32))), (2, .int (s0 + s1)), (0, .ref (E.2.1 + v0)), (1, .ref (E.2.2.2.2.1 v1))]) rfl (congrArg _ ci_1) (by decide) dX6_sizeAfterStep_93 rfl rfl ?_
  refine j_goto (tgt := 30) dX6_sizeAfterStep_96 rfl ?_
  refine j_sub (lv2 := [(0, .ref (E.2.1 + v0)), (1, .ref (E.2.2.2.2.1 v1)), (2, .int (s0 + s1)), (3, .int (v3 + (1 : Int32)))]) [2, 3, 1, 0] rfl ?_
  exact hrec _ _ _
def kX6_sizeAfterStep_64 (N : Nat) (rec : Int32 → Int32 → qM → Option (Int32 × qM)) (v0 : Nat) (v1 : Nat) (v2 : Int32) (v3 : Int32) (v4 : Int32) (s0 : Int32) (m0 : qM) : Option (Int32 × qM) :=
  if s0 = 0 then (
  kX6_sizeAfterStep_91 N (rec) v0 v1 v3 v2 (1 : Int32) m0
  ) else (
  (qgR m0 v0 6 4).bind fun x1 =>
  (qaI m0 x1 12 v4).bind fun x2 =>
  (qgR m0 v0 6 3).bind fun x3 =>
  (qaI m0 x3 12 v4).bind fun x4 =>
  kX6_sizeAfterStep_91 N (rec) v0 v1 v3 v2 (x2 - x4) m0
  )
set_option maxRecDepth 100000 in
theorem kbX6_sizeAfterStep_64 {E : qE} {N d bc bs : Nat} (hd : 4 ≤ d) {v0 : Nat} {v1 : Nat} {v2 : Int32} {v3 : Int32} {v4 : Int32} {s0 : Int32} {m0 : qM} {rec : Int32 → Int32 → qM → Option (Int32 × qM)} (hrec : ∀ (v2 : Int32) (v3 : Int32) (m : qM), qB E yX6_sizeAfterStep cX6_sizeAfterStep 6 (some .int) (fun _ => True) d bc bs 30 [(0, .ref (E.2.1 + v0)), (1, .ref (E.2.2.2.2.1 v1)), (2, .int v2), (3, .int v3)] [] m (rec v2 v3 m) (fun o rr => qJ E yX6_sizeAfterStep cX6_sizeAfterStep 6 (some .int) (fun _ => True) d bc bs 99 [(2, .int o.1)] [] o.2 rr)) : qB E yX6_sizeAfterStep cX6_sizeAfterStep 6 (some .int) (fun _ => True) d bc bs 64 [(0, .ref (E.2.1 + v0)), (1, .ref (E.2.2.2.2.1 v1)), (2, .int v2), (3, .int v3), (4, .int v4)] [.int s0] m0 (kX6_sizeAfterStep_64 N rec v0 v1 v2 v3 v4 s0 m0) (fun o rr => qJ E yX6_sizeAfterStep cX6_sizeAfterStep 6 (some .int) (fun _ => True) d bc bs 99 [(2, .int o.1)] [] o.2 rr) := by
  unfold kX6_sizeAfterStep_64
  refine j_istore (np := 66) (lv2 := [(5, .int s0), (0, .ref (E.2.1 + v0)), (1, .ref (E.2.2.2.2.1 v1)), (2, .int v2), (3, .int v3), (4, .int v4)]) (by decide) dX6_sizeAfterStep_64 rfl rfl ?_
  refine j_iload_n (q := 3) (np := 67) rfl rfl dX6_sizeAfterStep_66 rfl ?_
  refine j_iload (q := 0) (np := 69) rfl dX6_sizeAfterStep_67 rfl ?_
  refine j_if_eq (tgt := 90) (np := 72) dX6_sizeAfterStep_69 rfl rfl ?_ ?_
  · refine j_iconst (np := 91) ci_1 dX6_sizeAfterStep_90 rfl ?_
    refine j_sub (lv2 := [(0, .ref (E.2.1 + v0)), (1, .ref (E.2.2.2.2.1 v1)), (3, .int v3)]) [1, 2, 4] rfl ?_
    exact kbX6_sizeAfterStep_91 hd hrec
  · refine j_aload_n (q := 1) (np := 73) rfl rfl dX6_sizeAfterStep_72 rfl ?_
    refine j_gR (np := 76) flX6_25 dX6_sizeAfterStep_73 rfl (fun x1 => ?_)
    refine j_iload (q := 5) (np := 78) rfl dX6_sizeAfterStep_76 rfl ?_
    refine j_iaload (np := 79) dX6_sizeAfterStep_78 rfl (fun x2 => ?_)
    refine j_aload_n (q := 1) (np := 80) rfl rfl dX6_sizeAfterStep_79 rfl ?_
    refine j_gR (np := 83) flX6_22 dX6_sizeAfterStep_80 rfl (fun x3 => ?_)
    refine j_iload (q := 5) (np := 85) rfl dX6_sizeAfterStep_83 rfl ?_
    refine j_iaload (np := 86) dX6_sizeAfterStep_85 rfl (fun x4 => ?_)
    refine j_isub (np := 87) dX6_sizeAfterStep_86 rfl ?_
    refine j_goto (tgt := 91) dX6_sizeAfterStep_87 rfl ?_
    refine j_sub (lv2 := [(0, .ref (E.2.1 + v0)), (1, .ref (E.2.2.2.2.1 v1)), (3, .int v3)]) [1, 2, 4] rfl ?_
    exact kbX6_sizeAfterStep_91 hd hrec
def kX6_sizeAfterStep_63 (N : Nat) (rec : Int32 → Int32 → qM → Option (Int32 × qM)) (v0 : Nat) (v1 : Nat) (v2 : Int32) (v3 : Int32) (v4 : Int32)  (m0 : qM) : Option (Int32 × qM) :=
  kX6_sizeAfterStep_64 N (rec) v0 v1 v2 v3 v4 (0 : Int32) m0
set_option maxRecDepth 100000 in
theorem kbX6_sizeAfterStep_63 {E : qE} {N d bc bs : Nat} (hd : 4 ≤ d) {v0 : Nat} {v1 : Nat} {v2 : Int32} {v3 : Int32} {v4 : Int32}  {m0 : qM} {rec : Int32 → Int32 → qM → Option (Int32 × qM)} (hrec : ∀ (v2 : Int32) (v3 : Int32) (m : qM), qB E yX6_sizeAfterStep cX6_sizeAfterStep 6 (some .int) (fun _ => True) d bc bs 30 [(0, .ref (E.2.1 + v0)), (1, .ref (E.2.2.2.2.1 v1)), (2, .int v2), (3, .int v3)] [] m (rec v2 v3 m) (fun o rr => qJ E yX6_sizeAfterStep cX6_sizeAfterStep 6 (some .int) (fun _ => True) d bc bs 99 [(2, .int o.1)] [] o.2 rr)) : qB E yX6_sizeAfterStep cX6_sizeAfterStep 6 (some .int) (fun _ => True) d bc bs 63 [(0, .ref (E.2.1 + v0)), (1, .ref (E.2.2.2.2.1 v1)), (2, .int v2), (3, .int v3), (4, .int v4)] [] m0 (kX6_sizeAfterStep_63 N rec v0 v1 v2 v3 v4 m0) (fun o rr => qJ E yX6_sizeAfterStep cX6_sizeAfterStep 6 (some .int) (fun _ => True) d bc bs 99 [(2, .int o.1)] [] o.2 rr) := by
  unfold kX6_sizeAfterStep_63
  refine j_iconst (np := 64) ci_0 dX6_sizeAfterStep_63 rfl ?_
  exact kbX6_sizeAfterStep_64 hd hrec
def lX6_sizeAfterStep_30 (N : Nat) (v0 : Nat) (v1 : Nat) : Nat → Int32 → Int32 → qM → Option (Int32 × qM)
  | 0, _, _, _ => none
  | n + 1, v2, v3, m0 =>
    (qChs v1 (fJ0_length_8abf5 N v1 m0)).bind fun b1 =>
    if b1.1 ≤ v3 then (
    some (v2, b1.2)
    ) else (
    (qChs v1 (fJ0_charAt_5068e N v1 v3 b1.2)).bind fun b2 =>
    if b2.1 - (48 : Int32) < 0 then (
    kX6_sizeAfterStep_63 N (lX6_sizeAfterStep_30 N v0 v1 n) v0 v1 v2 v3 (b2.1 - (48 : Int32)) b2.2
    ) else (
    if (3 : Int32) ≤ b2.1 - (48 : Int32) then (
    kX6_sizeAfterStep_63 N (lX6_sizeAfterStep_30 N v0 v1 n) v0 v1 v2 v3 (b2.1 - (48 : Int32)) b2.2
    ) else (
    kX6_sizeAfterStep_64 N (lX6_sizeAfterStep_30 N v0 v1 n) v0 v1 v2 v3 (b2.1 - (48 : Int32)) (1 : Int32) b2.2
    )
    )
    )
set_option maxRecDepth 100000 in
theorem lbX6_sizeAfterStep_30 {E : qE} {N d bc bs : Nat} (hd : 4 ≤ d) {v0 : Nat} {v1 : Nat} : ∀ (n : Nat) (v2 : Int32) (v3 : Int32) (m0 : qM), qB E yX6_sizeAfterStep cX6_sizeAfterStep 6 (some .int) (fun _ => True) d bc bs 30 [(0, .ref (E.2.1 + v0)), (1, .ref (E.2.2.2.2.1 v1)), (2, .int v2), (3, .int v3)] [] m0 (lX6_sizeAfterStep_30 N v0 v1 n v2 v3 m0) (fun o rr => qJ E yX6_sizeAfterStep cX6_sizeAfterStep 6 (some .int) (fun _ => True) d bc bs 99 [(2, .int o.1)] [] o.2 rr) := by
  intro n
  induction n with
  | zero =>
    intro v2 v3 m0
    exact j_none
  | succ n ih =>
    intro v2 v3 m0
    unfold lX6_sizeAfterStep_30
    refine j_iload_n (q := 3) (np := 31) rfl rfl dX6_sizeAfterStep_30 rfl ?_
    refine j_aload_n (q := 1) (np := 32) rfl rfl dX6_sizeAfterStep_31 rfl ?_
    refine j_callT (np := 35) (dd := d - 1) (As := []) (st := [.int v3]) caJ0_length_8abf5 mlX6_101 imJ0_length_8abf5 seJ0_length_8abf5 rfl (fun b hb => wJ0_length_8abf5 (by omega) hb) (by omega) rfl rfl (Nat.le_of_ble_eq_true rfl) dX6_sizeAfterStep_32 rfl (fun b1 => ?_)
    refine j_icmp_ge (tgt := 99) (np := 38) dX6_sizeAfterStep_35 rfl rfl ?_ ?_
    · refine j_sub (lv2 := [(2, .int v2)]) [2] rfl ?_
      exact j_exit (fun rr h => h)
    · refine j_aload_n (q := 1) (np := 39) rfl rfl dX6_sizeAfterStep_38 rfl ?_
      refine j_iload_n (q := 3) (np := 40) rfl rfl dX6_sizeAfterStep_39 rfl ?_
      refine j_callT (np := 43) (dd := d - 1) (As := [.int v3]) (st := []) caJ0_charAt_5068e mlX6_104 imJ0_charAt_5068e seJ0_charAt_5068e rfl (fun b hb => wJ0_charAt_5068e (by omega) hb) (by omega) rfl rfl (Nat.le_of_ble_eq_true rfl) dX6_sizeAfterStep_40 rfl (fun b2 => ?_)
      refine j_bipush (np := 45) cb_48 dX6_sizeAfterStep_43 rfl ?_
      refine j_isub (np := 46) dX6_sizeAfterStep_45 rfl ?_
      refine j_istore (np := 48) (lv2 := [(4, .int (b2.1 - (48 : Int32))), (0, .ref (E.2.1 + v0)), (1, .ref (E.2.2.2.2.1 v1)), (2, .int v2), (3, .int v3)]) (by decide) dX6_sizeAfterStep_46 rfl rfl ?_
      refine j_iload (q := 0) (np := 50) rfl dX6_sizeAfterStep_48 rfl ?_
      refine j_if_lt (tgt := 63) (np := 53) dX6_sizeAfterStep_50 rfl rfl ?_ ?_
      · refine j_sub (lv2 := [(0, .ref (E.2.1 + v0)), (1, .ref (E.2.2.2.2.1 v1)), (2, .int v2), (3, .int v3), (4, .int (b2.1 - (48 : Int32)))]) [1, 2, 3, 4, 0] rfl ?_
        exact kbX6_sizeAfterStep_63 hd ih
      · refine j_iload (q := 0) (np := 55) rfl dX6_sizeAfterStep_53 rfl ?_
        refine j_iconst (np := 56) ci_3 dX6_sizeAfterStep_55 rfl ?_
        refine j_icmp_ge (tgt := 63) (np := 59) dX6_sizeAfterStep_56 rfl rfl ?_ ?_
        · refine j_sub (lv2 := [(0, .ref (E.2.1 + v0)), (1, .ref (E.2.2.2.2.1 v1)), (2, .int v2), (3, .int v3), (4, .int (b2.1 - (48 : Int32)))]) [1, 2, 3, 4, 0] rfl ?_
          exact kbX6_sizeAfterStep_63 hd ih
        · refine j_iconst (np := 60) ci_1 dX6_sizeAfterStep_59 rfl ?_
          refine j_goto (tgt := 64) dX6_sizeAfterStep_60 rfl ?_
          refine j_sub (lv2 := [(0, .ref (E.2.1 + v0)), (1, .ref (E.2.2.2.2.1 v1)), (2, .int v2), (3, .int v3), (4, .int (b2.1 - (48 : Int32)))]) [1, 2, 3, 4, 0] rfl ?_
          exact kbX6_sizeAfterStep_64 hd ih
def fX6_sizeAfterStep (N : Nat) (v0 : Nat) (m0 : qM) : Option (Int32 × qM) :=
  (qgR m0 v0 6 5).bind fun x1 =>
  (qgI m0 v0 6 9).bind fun x2 =>
  (qaI m0 x1 11 x2).bind fun x3 =>
  (fX6_contractumOf N x3 m0).bind fun b4 =>
  (qgI b4.2 v0 6 7).bind fun x5 =>
  (qChk b4.2 v0 6 (fX6_redexEnd N v0 b4.2)).bind fun b6 =>
  (qgI b6.2 v0 6 9).bind fun x7 =>
  (lX6_sizeAfterStep_30 N v0 b4.1 N (x5 - (b6.1 - x7)) (0 : Int32) b6.2).bind fun o8 =>
  some ((o8.1 + (1 : Int32)) / (2 : Int32), o8.2)
set_option maxRecDepth 100000 in
theorem bX6_sizeAfterStep {E : qE} {N d bc bs : Nat} (hd : 4 ≤ d) {v0 : Nat} {m0 : qM} : qB E yX6_sizeAfterStep cX6_sizeAfterStep 6 (some .int) (fun _ => True) d bc bs 0 [(0, .ref (E.2.1 + v0))] [] m0 (fX6_sizeAfterStep N v0 m0) (fun b rr => rr = (some (.int b.1), b.2)) := by
  unfold fX6_sizeAfterStep
  refine j_aload_n (q := 0) (np := 1) rfl rfl dX6_sizeAfterStep_0 rfl ?_
  refine j_gR (np := 4) flX6_28 dX6_sizeAfterStep_1 rfl (fun x1 => ?_)
  refine j_aload_n (q := 0) (np := 5) rfl rfl dX6_sizeAfterStep_4 rfl ?_
  refine j_gI (np := 8) flX6_87 dX6_sizeAfterStep_5 rfl (fun x2 => ?_)
  refine j_caload (np := 9) dX6_sizeAfterStep_8 rfl (fun x3 => ?_)
  refine j_callSs (np := 12) (bc := bc) (bs := bs) (cb := 0) (cs := 0) (dd := d - 1) (As := [.int x3]) (st := []) caX6_contractumOf mlX6_94 stX6_contractumOf (fun b hb => wX6_contractumOf (by omega) hb) (by omega) rfl rfl (Nat.le_of_ble_eq_true rfl) dX6_sizeAfterStep_9 rfl (fun b4 => ?_)
  refine j_astore_n (np := 13) (lv2 := [(1, .ref (E.2.2.2.2.1 b4.1)), (0, .ref (E.2.1 + v0))]) rfl (by decide) dX6_sizeAfterStep_12 rfl rfl ?_
  refine j_aload_n (q := 1) (np := 14) rfl rfl dX6_sizeAfterStep_13 rfl ?_
  refine j_gI (np := 17) flX6_57 dX6_sizeAfterStep_14 rfl (fun x5 => ?_)
  refine j_aload_n (q := 1) (np := 18) rfl rfl dX6_sizeAfterStep_17 rfl ?_
  refine j_callVi (ci := 6) (np := 21) (bc := bc) (bs := bs) (cb := 0) (cs := 0) (dd := d - 1) (As := []) (st := [.int x5]) caX6_redexEnd mlX6_98 imX6_redexEnd seX6_redexEnd rfl rfl (by decide) (fun b hb => wX6_redexEnd (by omega) hb) (by omega) rfl rfl (Nat.le_of_ble_eq_true rfl) dX6_sizeAfterStep_18 rfl (fun b6 => ?_)
  refine j_aload_n (q := 1) (np := 22) rfl rfl dX6_sizeAfterStep_21 rfl ?_
  refine j_gI (np := 25) flX6_87 dX6_sizeAfterStep_22 rfl (fun x7 => ?_)
  refine j_isub (np := 26) dX6_sizeAfterStep_25 rfl ?_
  refine j_isub (np := 27) dX6_sizeAfterStep_26 rfl ?_
  refine j_istore_n (np := 28) (lv2 := [(2, .int (x5 - (b6.1 - x7))), (1, .ref (E.2.2.2.2.1 b4.1)), (0, .ref (E.2.1 + v0))]) rfl (by decide) dX6_sizeAfterStep_27 rfl rfl ?_
  refine j_iconst (np := 29) ci_0 dX6_sizeAfterStep_28 rfl ?_
  refine j_istore_n (np := 30) (lv2 := [(3, .int (0 : Int32)), (2, .int (x5 - (b6.1 - x7))), (1, .ref (E.2.2.2.2.1 b4.1)), (0, .ref (E.2.1 + v0))]) rfl (by decide) dX6_sizeAfterStep_29 rfl rfl ?_
  refine j_sub (lv2 := [(0, .ref (E.2.1 + v0)), (1, .ref (E.2.2.2.2.1 b4.1)), (2, .int (x5 - (b6.1 - x7))), (3, .int (0 : Int32))]) [3, 2, 1, 0] rfl ?_
  refine j_loop (xp := 99) (lvX := fun o8 => [(2, .int o8.1)]) (mX := fun o8 => o8.2) (lbX6_sizeAfterStep_30 hd _ _ _ _) (fun o8 => ?_)
  refine j_iload_n (q := 0) (np := 100) rfl rfl dX6_sizeAfterStep_99 rfl ?_
  refine j_iconst (np := 101) ci_1 dX6_sizeAfterStep_100 rfl ?_
  refine j_iadd (np := 102) dX6_sizeAfterStep_101 rfl ?_
  refine j_iconst (np := 103) ci_2 dX6_sizeAfterStep_102 rfl ?_
  refine j_idiv (np := 104) (by decide) dX6_sizeAfterStep_103 rfl ?_
  exact j_iret rfl dX6_sizeAfterStep_104 (fun rr h => h)
set_option maxRecDepth 100000 in
theorem wX6_sizeAfterStep {E : qE} {N d : Nat} (hd : 4 ≤ d) {v0 : Nat} {m0 : qM} {b : Int32 × qM} (h : fX6_sizeAfterStep N v0 m0 = some b) : qRun E yX6_sizeAfterStep cX6_sizeAfterStep 6 (some .int) d 0 0 [.ref (E.2.1 + v0)] m0 (some (.int b.1), b.2) := q_met pnX6 (Nat.le_of_ble_eq_true rfl) (bX6_sizeAfterStep hd b _ h rfl)
theorem dX6_copyToSpare_0 : decode cX6_copyToSpare 0 = .ok (.iload_n 1, 1) := by decide +kernel
theorem dX6_copyToSpare_1 : decode cX6_copyToSpare 1 = .ok (.istore_n 3, 1) := by decide +kernel
theorem dX6_copyToSpare_2 : decode cX6_copyToSpare 2 = .ok (.iload_n 3, 1) := by decide +kernel
theorem dX6_copyToSpare_3 : decode cX6_copyToSpare 3 = .ok (.iload_n 2, 1) := by decide +kernel
theorem dX6_copyToSpare_4 : decode cX6_copyToSpare 4 = .ok (.if_icmp .ge 44, 3) := by decide +kernel
theorem dX6_copyToSpare_7 : decode cX6_copyToSpare 7 = .ok (.aload_n 0, 1) := by decide +kernel
theorem dX6_copyToSpare_8 : decode cX6_copyToSpare 8 = .ok (.getfield 107, 3) := by decide +kernel
theorem dX6_copyToSpare_11 : decode cX6_copyToSpare 11 = .ok (.sipush 160, 3) := by decide +kernel
theorem dX6_copyToSpare_14 : decode cX6_copyToSpare 14 = .ok (.if_icmp .ge 34, 3) := by decide +kernel
theorem dX6_copyToSpare_17 : decode cX6_copyToSpare 17 = .ok (.aload_n 0, 1) := by decide +kernel
theorem dX6_copyToSpare_18 : decode cX6_copyToSpare 18 = .ok (.getfield 32, 3) := by decide +kernel
theorem dX6_copyToSpare_21 : decode cX6_copyToSpare 21 = .ok (.aload_n 0, 1) := by decide +kernel
theorem dX6_copyToSpare_22 : decode cX6_copyToSpare 22 = .ok (.getfield 107, 3) := by decide +kernel
theorem dX6_copyToSpare_25 : decode cX6_copyToSpare 25 = .ok (.aload_n 0, 1) := by decide +kernel
theorem dX6_copyToSpare_26 : decode cX6_copyToSpare 26 = .ok (.getfield 28, 3) := by decide +kernel
theorem dX6_copyToSpare_29 : decode cX6_copyToSpare 29 = .ok (.iload_n 3, 1) := by decide +kernel
theorem dX6_copyToSpare_30 : decode cX6_copyToSpare 30 = .ok (.caload, 1) := by decide +kernel
theorem dX6_copyToSpare_31 : decode cX6_copyToSpare 31 = .ok (.castore, 1) := by decide +kernel
theorem dX6_copyToSpare_32 : decode cX6_copyToSpare 32 = .ok (.aload_n 0, 1) := by decide +kernel
theorem dX6_copyToSpare_33 : decode cX6_copyToSpare 33 = .ok (.dup, 1) := by decide +kernel
theorem dX6_copyToSpare_34 : decode cX6_copyToSpare 34 = .ok (.getfield 107, 3) := by decide +kernel
theorem dX6_copyToSpare_37 : decode cX6_copyToSpare 37 = .ok (.iconst 1, 1) := by decide +kernel
theorem dX6_copyToSpare_38 : decode cX6_copyToSpare 38 = .ok (.iadd, 1) := by decide +kernel
theorem dX6_copyToSpare_39 : decode cX6_copyToSpare 39 = .ok (.putfield 107, 3) := by decide +kernel
theorem dX6_copyToSpare_42 : decode cX6_copyToSpare 42 = .ok (.iinc 3 1, 3) := by decide +kernel
theorem dX6_copyToSpare_45 : decode cX6_copyToSpare 45 = .ok (.goto (-43), 3) := by decide +kernel
theorem dX6_copyToSpare_48 : decode cX6_copyToSpare 48 = .ok (.return_, 1) := by decide +kernel
def lX6_copyToSpare_2 (N : Nat) (v0 : Nat) (v2 : Int32) : Nat → Int32 → qM → Option (qM)
  | 0, _, _ => none
  | n + 1, v3, m0 =>
    if v2 ≤ v3 then (
    some m0
    ) else (
    (qgI m0 v0 6 8).bind fun x1 =>
    if (160 : Int32) ≤ x1 then (
    some m0
    ) else (
    (qgR m0 v0 6 6).bind fun x2 =>
    (qgI m0 v0 6 8).bind fun x3 =>
    (qgR m0 v0 6 5).bind fun x4 =>
    (qaI m0 x4 11 v3).bind fun x5 =>
    (qwI m0 x2 11 x3 x5.toUInt32.toUInt16.toUInt32.toInt32).bind fun m6 =>
    (qgI m6 v0 6 8).bind fun x7 =>
    (qpI m6 v0 6 8 (x7 + (1 : Int32))).bind fun m8 =>
    lX6_copyToSpare_2 N v0 v2 n (v3 + (1 : Int32)) m8
    )
    )
set_option maxRecDepth 100000 in
theorem lbX6_copyToSpare_2 {E : qE} {N d bc bs : Nat} (hd : 0 ≤ d) {v0 : Nat} {v2 : Int32} : ∀ (n : Nat) (v3 : Int32) (m0 : qM), qB E yX6_copyToSpare cX6_copyToSpare 4 none (fun _ => True) d bc bs 2 [(0, .ref (E.2.1 + v0)), (2, .int v2), (3, .int v3)] [] m0 (lX6_copyToSpare_2 N v0 v2 n v3 m0) (fun o rr => qJ E yX6_copyToSpare cX6_copyToSpare 4 none (fun _ => True) d bc bs 48 [] [] o rr) := by
  intro n
  induction n with
  | zero =>
    intro v3 m0
    exact j_none
  | succ n ih =>
    intro v3 m0
    unfold lX6_copyToSpare_2
    refine j_iload_n (q := 2) (np := 3) rfl rfl dX6_copyToSpare_2 rfl ?_
    refine j_iload_n (q := 1) (np := 4) rfl rfl dX6_copyToSpare_3 rfl ?_
    refine j_icmp_ge (tgt := 48) (np := 7) dX6_copyToSpare_4 rfl rfl ?_ ?_
    · refine j_sub (lv2 := []) [] rfl ?_
      exact j_exit (fun rr h => h)
    · refine j_aload_n (q := 0) (np := 8) rfl rfl dX6_copyToSpare_7 rfl ?_
      refine j_gI (np := 11) flX6_107 dX6_copyToSpare_8 rfl (fun x1 => ?_)
      refine j_sipush (np := 14) cs_160 dX6_copyToSpare_11 rfl ?_
      refine j_icmp_ge (tgt := 48) (np := 17) dX6_copyToSpare_14 rfl rfl ?_ ?_
      · refine j_sub (lv2 := []) [] rfl ?_
        exact j_exit (fun rr h => h)
      · refine j_aload_n (q := 0) (np := 18) rfl rfl dX6_copyToSpare_17 rfl ?_
        refine j_gR (np := 21) flX6_32 dX6_copyToSpare_18 rfl (fun x2 => ?_)
        refine j_aload_n (q := 0) (np := 22) rfl rfl dX6_copyToSpare_21 rfl ?_
        refine j_gI (np := 25) flX6_107 dX6_copyToSpare_22 rfl (fun x3 => ?_)
        refine j_aload_n (q := 0) (np := 26) rfl rfl dX6_copyToSpare_25 rfl ?_
        refine j_gR (np := 29) flX6_28 dX6_copyToSpare_26 rfl (fun x4 => ?_)
        refine j_iload_n (q := 2) (np := 30) rfl rfl dX6_copyToSpare_29 rfl ?_
        refine j_caload (np := 31) dX6_copyToSpare_30 rfl (fun x5 => ?_)
        refine j_castore (np := 32) dX6_copyToSpare_31 rfl (fun m6 => ?_)
        refine j_aload_n (q := 0) (np := 33) rfl rfl dX6_copyToSpare_32 rfl ?_
        refine j_dup (np := 34) rfl dX6_copyToSpare_33 rfl ?_
        refine j_gI (np := 37) flX6_107 dX6_copyToSpare_34 rfl (fun x7 => ?_)
        refine j_iconst (np := 38) ci_1 dX6_copyToSpare_37 rfl ?_
        refine j_iadd (np := 39) dX6_copyToSpare_38 rfl ?_
        refine j_pI (np := 42) flX6_107 dX6_copyToSpare_39 rfl (fun m8 => ?_)
        refine j_iinc (q := 2) (np := 45) (lv2 := [(3, .int (v3 + (1 : Int32))), (0, .ref (E.2.1 + v0)), (2, .int v2)]) rfl (congrArg _ ci_1) (by decide) dX6_copyToSpare_42 rfl rfl ?_
        refine j_goto (tgt := 2) dX6_copyToSpare_45 rfl ?_
        refine j_sub (lv2 := [(0, .ref (E.2.1 + v0)), (2, .int v2), (3, .int (v3 + (1 : Int32)))]) [1, 2, 0] rfl ?_
        exact ih _ _
def fX6_copyToSpare (N : Nat) (v0 : Nat) (v1 : Int32) (v2 : Int32) (m0 : qM) : Option (qM) :=
  (lX6_copyToSpare_2 N v0 v2 N v1 m0).bind fun o1 =>
  some o1
set_option maxRecDepth 100000 in
theorem bX6_copyToSpare {E : qE} {N d bc bs : Nat} (hd : 0 ≤ d) {v0 : Nat} {v1 : Int32} {v2 : Int32} {m0 : qM} : qB E yX6_copyToSpare cX6_copyToSpare 4 none (fun _ => True) d bc bs 0 [(0, .ref (E.2.1 + v0)), (1, .int v1), (2, .int v2)] [] m0 (fX6_copyToSpare N v0 v1 v2 m0) (fun b rr => rr = (none, b)) := by
  unfold fX6_copyToSpare
  refine j_iload_n (q := 1) (np := 1) rfl rfl dX6_copyToSpare_0 rfl ?_
  refine j_istore_n (np := 2) (lv2 := [(3, .int v1), (0, .ref (E.2.1 + v0)), (1, .int v1), (2, .int v2)]) rfl (by decide) dX6_copyToSpare_1 rfl rfl ?_
  refine j_sub (lv2 := [(0, .ref (E.2.1 + v0)), (2, .int v2), (3, .int v1)]) [1, 3, 0] rfl ?_
  refine j_loop (xp := 48) (lvX := fun o1 => []) (mX := fun o1 => o1) (lbX6_copyToSpare_2 hd _ _ _) (fun o1 => ?_)
  exact j_vret rfl dX6_copyToSpare_48 (fun rr h => h)
set_option maxRecDepth 100000 in
theorem wX6_copyToSpare {E : qE} {N d : Nat} (hd : 0 ≤ d) {v0 : Nat} {v1 : Int32} {v2 : Int32} {m0 : qM} {b : qM} (h : fX6_copyToSpare N v0 v1 v2 m0 = some b) : qRun E yX6_copyToSpare cX6_copyToSpare 4 none d 0 0 [.ref (E.2.1 + v0), .int v1, .int v2] m0 (none, b) := q_met pnX6 (Nat.le_of_ble_eq_true rfl) (bX6_copyToSpare hd b _ h rfl)
theorem dX6_makeStep_0 : decode cX6_makeStep 0 = .ok (.aload_n 0, 1) := by decide +kernel
theorem dX6_makeStep_1 : decode cX6_makeStep 1 = .ok (.getfield 28, 3) := by decide +kernel
theorem dX6_makeStep_4 : decode cX6_makeStep 4 = .ok (.aload_n 0, 1) := by decide +kernel
theorem dX6_makeStep_5 : decode cX6_makeStep 5 = .ok (.getfield 87, 3) := by decide +kernel
theorem dX6_makeStep_8 : decode cX6_makeStep 8 = .ok (.caload, 1) := by decide +kernel
theorem dX6_makeStep_9 : decode cX6_makeStep 9 = .ok (.invokestatic 94, 3) := by decide +kernel
theorem dX6_makeStep_12 : decode cX6_makeStep 12 = .ok (.astore_n 1, 1) := by decide +kernel
theorem dX6_makeStep_13 : decode cX6_makeStep 13 = .ok (.aload_n 0, 1) := by decide +kernel
theorem dX6_makeStep_14 : decode cX6_makeStep 14 = .ok (.iconst 0, 1) := by decide +kernel
theorem dX6_makeStep_15 : decode cX6_makeStep 15 = .ok (.putfield 107, 3) := by decide +kernel
theorem dX6_makeStep_18 : decode cX6_makeStep 18 = .ok (.aload_n 0, 1) := by decide +kernel
theorem dX6_makeStep_19 : decode cX6_makeStep 19 = .ok (.iconst 0, 1) := by decide +kernel
theorem dX6_makeStep_20 : decode cX6_makeStep 20 = .ok (.aload_n 0, 1) := by decide +kernel
theorem dX6_makeStep_21 : decode cX6_makeStep 21 = .ok (.getfield 87, 3) := by decide +kernel
theorem dX6_makeStep_24 : decode cX6_makeStep 24 = .ok (.invokevirtual 110, 3) := by decide +kernel
theorem dX6_makeStep_27 : decode cX6_makeStep 27 = .ok (.iconst 0, 1) := by decide +kernel
theorem dX6_makeStep_28 : decode cX6_makeStep 28 = .ok (.istore_n 2, 1) := by decide +kernel
theorem dX6_makeStep_29 : decode cX6_makeStep 29 = .ok (.iload_n 2, 1) := by decide +kernel
theorem dX6_makeStep_30 : decode cX6_makeStep 30 = .ok (.aload_n 1, 1) := by decide +kernel
theorem dX6_makeStep_31 : decode cX6_makeStep 31 = .ok (.invokevirtual 101, 3) := by decide +kernel
theorem dX6_makeStep_34 : decode cX6_makeStep 34 = .ok (.if_icmp .ge 77, 3) := by decide +kernel
theorem dX6_makeStep_37 : decode cX6_makeStep 37 = .ok (.aload_n 1, 1) := by decide +kernel
theorem dX6_makeStep_38 : decode cX6_makeStep 38 = .ok (.iload_n 2, 1) := by decide +kernel
theorem dX6_makeStep_39 : decode cX6_makeStep 39 = .ok (.invokevirtual 104, 3) := by decide +kernel
theorem dX6_makeStep_42 : decode cX6_makeStep 42 = .ok (.bipush 48, 2) := by decide +kernel
theorem dX6_makeStep_44 : decode cX6_makeStep 44 = .ok (.isub, 1) := by decide +kernel
theorem dX6_makeStep_45 : decode cX6_makeStep 45 = .ok (.istore_n 3, 1) := by decide +kernel
theorem dX6_makeStep_46 : decode cX6_makeStep 46 = .ok (.iload_n 3, 1) := by decide +kernel
theorem dX6_makeStep_47 : decode cX6_makeStep 47 = .ok (.ifCond .lt 27, 3) := by decide +kernel
theorem dX6_makeStep_50 : decode cX6_makeStep 50 = .ok (.iload_n 3, 1) := by decide +kernel
theorem dX6_makeStep_51 : decode cX6_makeStep 51 = .ok (.iconst 3, 1) := by decide +kernel
theorem dX6_makeStep_52 : decode cX6_makeStep 52 = .ok (.if_icmp .ge 22, 3) := by decide +kernel
theorem dX6_makeStep_55 : decode cX6_makeStep 55 = .ok (.aload_n 0, 1) := by decide +kernel
theorem dX6_makeStep_56 : decode cX6_makeStep 56 = .ok (.aload_n 0, 1) := by decide +kernel
theorem dX6_makeStep_57 : decode cX6_makeStep 57 = .ok (.getfield 22, 3) := by decide +kernel
theorem dX6_makeStep_60 : decode cX6_makeStep 60 = .ok (.iload_n 3, 1) := by decide +kernel
theorem dX6_makeStep_61 : decode cX6_makeStep 61 = .ok (.iaload, 1) := by decide +kernel
theorem dX6_makeStep_62 : decode cX6_makeStep 62 = .ok (.aload_n 0, 1) := by decide +kernel
theorem dX6_makeStep_63 : decode cX6_makeStep 63 = .ok (.getfield 25, 3) := by decide +kernel
theorem dX6_makeStep_66 : decode cX6_makeStep 66 = .ok (.iload_n 3, 1) := by decide +kernel
theorem dX6_makeStep_67 : decode cX6_makeStep 67 = .ok (.iaload, 1) := by decide +kernel
theorem dX6_makeStep_68 : decode cX6_makeStep 68 = .ok (.invokevirtual 110, 3) := by decide +kernel
theorem dX6_makeStep_71 : decode cX6_makeStep 71 = .ok (.goto 34, 3) := by decide +kernel
theorem dX6_makeStep_74 : decode cX6_makeStep 74 = .ok (.aload_n 0, 1) := by decide +kernel
theorem dX6_makeStep_75 : decode cX6_makeStep 75 = .ok (.getfield 107, 3) := by decide +kernel
theorem dX6_makeStep_78 : decode cX6_makeStep 78 = .ok (.sipush 160, 3) := by decide +kernel
theorem dX6_makeStep_81 : decode cX6_makeStep 81 = .ok (.if_icmp .ge 24, 3) := by decide +kernel
theorem dX6_makeStep_84 : decode cX6_makeStep 84 = .ok (.aload_n 0, 1) := by decide +kernel
theorem dX6_makeStep_85 : decode cX6_makeStep 85 = .ok (.getfield 32, 3) := by decide +kernel
theorem dX6_makeStep_88 : decode cX6_makeStep 88 = .ok (.aload_n 0, 1) := by decide +kernel
theorem dX6_makeStep_89 : decode cX6_makeStep 89 = .ok (.getfield 107, 3) := by decide +kernel
theorem dX6_makeStep_92 : decode cX6_makeStep 92 = .ok (.bipush 64, 2) := by decide +kernel
theorem dX6_makeStep_94 : decode cX6_makeStep 94 = .ok (.castore, 1) := by decide +kernel
theorem dX6_makeStep_95 : decode cX6_makeStep 95 = .ok (.aload_n 0, 1) := by decide +kernel
theorem dX6_makeStep_96 : decode cX6_makeStep 96 = .ok (.dup, 1) := by decide +kernel
theorem dX6_makeStep_97 : decode cX6_makeStep 97 = .ok (.getfield 107, 3) := by decide +kernel
theorem dX6_makeStep_100 : decode cX6_makeStep 100 = .ok (.iconst 1, 1) := by decide +kernel
theorem dX6_makeStep_101 : decode cX6_makeStep 101 = .ok (.iadd, 1) := by decide +kernel
theorem dX6_makeStep_102 : decode cX6_makeStep 102 = .ok (.putfield 107, 3) := by decide +kernel
theorem dX6_makeStep_105 : decode cX6_makeStep 105 = .ok (.iinc 2 1, 3) := by decide +kernel
theorem dX6_makeStep_108 : decode cX6_makeStep 108 = .ok (.goto (-79), 3) := by decide +kernel
theorem dX6_makeStep_111 : decode cX6_makeStep 111 = .ok (.aload_n 0, 1) := by decide +kernel
theorem dX6_makeStep_112 : decode cX6_makeStep 112 = .ok (.aload_n 0, 1) := by decide +kernel
theorem dX6_makeStep_113 : decode cX6_makeStep 113 = .ok (.invokevirtual 98, 3) := by decide +kernel
theorem dX6_makeStep_116 : decode cX6_makeStep 116 = .ok (.aload_n 0, 1) := by decide +kernel
theorem dX6_makeStep_117 : decode cX6_makeStep 117 = .ok (.getfield 57, 3) := by decide +kernel
theorem dX6_makeStep_120 : decode cX6_makeStep 120 = .ok (.invokevirtual 110, 3) := by decide +kernel
theorem dX6_makeStep_123 : decode cX6_makeStep 123 = .ok (.aload_n 0, 1) := by decide +kernel
theorem dX6_makeStep_124 : decode cX6_makeStep 124 = .ok (.getfield 28, 3) := by decide +kernel
theorem dX6_makeStep_127 : decode cX6_makeStep 127 = .ok (.astore_n 2, 1) := by decide +kernel
theorem dX6_makeStep_128 : decode cX6_makeStep 128 = .ok (.aload_n 0, 1) := by decide +kernel
theorem dX6_makeStep_129 : decode cX6_makeStep 129 = .ok (.aload_n 0, 1) := by decide +kernel
theorem dX6_makeStep_130 : decode cX6_makeStep 130 = .ok (.getfield 32, 3) := by decide +kernel
theorem dX6_makeStep_133 : decode cX6_makeStep 133 = .ok (.putfield 28, 3) := by decide +kernel
theorem dX6_makeStep_136 : decode cX6_makeStep 136 = .ok (.aload_n 0, 1) := by decide +kernel
theorem dX6_makeStep_137 : decode cX6_makeStep 137 = .ok (.aload_n 2, 1) := by decide +kernel
theorem dX6_makeStep_138 : decode cX6_makeStep 138 = .ok (.putfield 32, 3) := by decide +kernel
theorem dX6_makeStep_141 : decode cX6_makeStep 141 = .ok (.aload_n 0, 1) := by decide +kernel
theorem dX6_makeStep_142 : decode cX6_makeStep 142 = .ok (.aload_n 0, 1) := by decide +kernel
theorem dX6_makeStep_143 : decode cX6_makeStep 143 = .ok (.getfield 107, 3) := by decide +kernel
theorem dX6_makeStep_146 : decode cX6_makeStep 146 = .ok (.putfield 57, 3) := by decide +kernel
theorem dX6_makeStep_149 : decode cX6_makeStep 149 = .ok (.return_, 1) := by decide +kernel
def kX6_makeStep_105 (N : Nat) (rec : Int32 → qM → Option (qM)) (v0 : Nat) (v1 : Nat) (v2 : Int32)  (m0 : qM) : Option (qM) :=
  rec (v2 + (1 : Int32)) m0
set_option maxRecDepth 100000 in
theorem kbX6_makeStep_105 {E : qE} {N d bc bs : Nat} (hd : 4 ≤ d) {v0 : Nat} {v1 : Nat} {v2 : Int32}  {m0 : qM} {rec : Int32 → qM → Option (qM)} (hrec : ∀ (v2 : Int32) (m : qM), qB E yX6_makeStep cX6_makeStep 4 none (fun _ => True) d bc bs 29 [(0, .ref (E.2.1 + v0)), (1, .ref (E.2.2.2.2.1 v1)), (2, .int v2)] [] m (rec v2 m) (fun o rr => qJ E yX6_makeStep cX6_makeStep 4 none (fun _ => True) d bc bs 111 [(0, .ref (E.2.1 + v0))] [] o rr)) : qB E yX6_makeStep cX6_makeStep 4 none (fun _ => True) d bc bs 105 [(0, .ref (E.2.1 + v0)), (1, .ref (E.2.2.2.2.1 v1)), (2, .int v2)] [] m0 (kX6_makeStep_105 N rec v0 v1 v2 m0) (fun o rr => qJ E yX6_makeStep cX6_makeStep 4 none (fun _ => True) d bc bs 111 [(0, .ref (E.2.1 + v0))] [] o rr) := by
  unfold kX6_makeStep_105
  refine j_iinc (q := 2) (np := 108) (lv2 := [(2, .int (v2 + (1 : Int32))), (0, .ref (E.2.1 + v0)), (1, .ref (E.2.2.2.2.1 v1))]) rfl (congrArg _ ci_1) (by decide) dX6_makeStep_105 rfl rfl ?_
  refine j_goto (tgt := 29) dX6_makeStep_108 rfl ?_
  refine j_sub (lv2 := [(0, .ref (E.2.1 + v0)), (1, .ref (E.2.2.2.2.1 v1)), (2, .int (v2 + (1 : Int32)))]) [1, 2, 0] rfl ?_
  exact hrec _ _
def kX6_makeStep_74 (N : Nat) (rec : Int32 → qM → Option (qM)) (v0 : Nat) (v1 : Nat) (v2 : Int32)  (m0 : qM) : Option (qM) :=
  (qgI m0 v0 6 8).bind fun x1 =>
  if (160 : Int32) ≤ x1 then (
  kX6_makeStep_105 N (rec) v0 v1 v2 m0
  ) else (
  (qgR m0 v0 6 6).bind fun x2 =>
  (qgI m0 v0 6 8).bind fun x3 =>
  (qwI m0 x2 11 x3 ((64 : Int32).toUInt32.toUInt16.toUInt32.toInt32)).bind fun m4 =>
  (qgI m4 v0 6 8).bind fun x5 =>
  (qpI m4 v0 6 8 (x5 + (1 : Int32))).bind fun m6 =>
  kX6_makeStep_105 N (rec) v0 v1 v2 m6
  )
set_option maxRecDepth 100000 in
theorem kbX6_makeStep_74 {E : qE} {N d bc bs : Nat} (hd : 4 ≤ d) {v0 : Nat} {v1 : Nat} {v2 : Int32}  {m0 : qM} {rec : Int32 → qM → Option (qM)} (hrec : ∀ (v2 : Int32) (m : qM), qB E yX6_makeStep cX6_makeStep 4 none (fun _ => True) d bc bs 29 [(0, .ref (E.2.1 + v0)), (1, .ref (E.2.2.2.2.1 v1)), (2, .int v2)] [] m (rec v2 m) (fun o rr => qJ E yX6_makeStep cX6_makeStep 4 none (fun _ => True) d bc bs 111 [(0, .ref (E.2.1 + v0))] [] o rr)) : qB E yX6_makeStep cX6_makeStep 4 none (fun _ => True) d bc bs 74 [(0, .ref (E.2.1 + v0)), (1, .ref (E.2.2.2.2.1 v1)), (2, .int v2)] [] m0 (kX6_makeStep_74 N rec v0 v1 v2 m0) (fun o rr => qJ E yX6_makeStep cX6_makeStep 4 none (fun _ => True) d bc bs 111 [(0, .ref (E.2.1 + v0))] [] o rr) := by
  unfold kX6_makeStep_74
  refine j_aload_n (q := 0) (np := 75) rfl rfl dX6_makeStep_74 rfl ?_
  refine j_gI (np := 78) flX6_107 dX6_makeStep_75 rfl (fun x1 => ?_)
  refine j_sipush (np := 81) cs_160 dX6_makeStep_78 rfl ?_
  refine j_icmp_ge (tgt := 105) (np := 84) dX6_makeStep_81 rfl rfl ?_ ?_
  · exact kbX6_makeStep_105 hd hrec
  · refine j_aload_n (q := 0) (np := 85) rfl rfl dX6_makeStep_84 rfl ?_
    refine j_gR (np := 88) flX6_32 dX6_makeStep_85 rfl (fun x2 => ?_)
    refine j_aload_n (q := 0) (np := 89) rfl rfl dX6_makeStep_88 rfl ?_
    refine j_gI (np := 92) flX6_107 dX6_makeStep_89 rfl (fun x3 => ?_)
    refine j_bipush (np := 94) cb_64 dX6_makeStep_92 rfl ?_
    refine j_castore (np := 95) dX6_makeStep_94 rfl (fun m4 => ?_)
    refine j_aload_n (q := 0) (np := 96) rfl rfl dX6_makeStep_95 rfl ?_
    refine j_dup (np := 97) rfl dX6_makeStep_96 rfl ?_
    refine j_gI (np := 100) flX6_107 dX6_makeStep_97 rfl (fun x5 => ?_)
    refine j_iconst (np := 101) ci_1 dX6_makeStep_100 rfl ?_
    refine j_iadd (np := 102) dX6_makeStep_101 rfl ?_
    refine j_pI (np := 105) flX6_107 dX6_makeStep_102 rfl (fun m6 => ?_)
    exact kbX6_makeStep_105 hd hrec
def lX6_makeStep_29 (N : Nat) (v0 : Nat) (v1 : Nat) : Nat → Int32 → qM → Option (qM)
  | 0, _, _ => none
  | n + 1, v2, m0 =>
    (qChs v1 (fJ0_length_8abf5 N v1 m0)).bind fun b1 =>
    if b1.1 ≤ v2 then (
    some b1.2
    ) else (
    (qChs v1 (fJ0_charAt_5068e N v1 v2 b1.2)).bind fun b2 =>
    if b2.1 - (48 : Int32) < 0 then (
    kX6_makeStep_74 N (lX6_makeStep_29 N v0 v1 n) v0 v1 v2 b2.2
    ) else (
    if (3 : Int32) ≤ b2.1 - (48 : Int32) then (
    kX6_makeStep_74 N (lX6_makeStep_29 N v0 v1 n) v0 v1 v2 b2.2
    ) else (
    (qgR b2.2 v0 6 3).bind fun x3 =>
    (qaI b2.2 x3 12 (b2.1 - (48 : Int32))).bind fun x4 =>
    (qgR b2.2 v0 6 4).bind fun x5 =>
    (qaI b2.2 x5 12 (b2.1 - (48 : Int32))).bind fun x6 =>
    (qChk b2.2 v0 6 (fX6_copyToSpare N v0 x4 x6 b2.2)).bind fun b7 =>
    kX6_makeStep_105 N (lX6_makeStep_29 N v0 v1 n) v0 v1 v2 b7
    )
    )
    )
set_option maxRecDepth 100000 in
theorem lbX6_makeStep_29 {E : qE} {N d bc bs : Nat} (hd : 4 ≤ d) {v0 : Nat} {v1 : Nat} : ∀ (n : Nat) (v2 : Int32) (m0 : qM), qB E yX6_makeStep cX6_makeStep 4 none (fun _ => True) d bc bs 29 [(0, .ref (E.2.1 + v0)), (1, .ref (E.2.2.2.2.1 v1)), (2, .int v2)] [] m0 (lX6_makeStep_29 N v0 v1 n v2 m0) (fun o rr => qJ E yX6_makeStep cX6_makeStep 4 none (fun _ => True) d bc bs 111 [(0, .ref (E.2.1 + v0))] [] o rr) := by
  intro n
  induction n with
  | zero =>
    intro v2 m0
    exact j_none
  | succ n ih =>
    intro v2 m0
    unfold lX6_makeStep_29
    refine j_iload_n (q := 2) (np := 30) rfl rfl dX6_makeStep_29 rfl ?_
    refine j_aload_n (q := 1) (np := 31) rfl rfl dX6_makeStep_30 rfl ?_
    refine j_callT (np := 34) (dd := d - 1) (As := []) (st := [.int v2]) caJ0_length_8abf5 mlX6_101 imJ0_length_8abf5 seJ0_length_8abf5 rfl (fun b hb => wJ0_length_8abf5 (by omega) hb) (by omega) rfl rfl (Nat.le_of_ble_eq_true rfl) dX6_makeStep_31 rfl (fun b1 => ?_)
    refine j_icmp_ge (tgt := 111) (np := 37) dX6_makeStep_34 rfl rfl ?_ ?_
    · refine j_sub (lv2 := [(0, .ref (E.2.1 + v0))]) [0] rfl ?_
      exact j_exit (fun rr h => h)
    · refine j_aload_n (q := 1) (np := 38) rfl rfl dX6_makeStep_37 rfl ?_
      refine j_iload_n (q := 2) (np := 39) rfl rfl dX6_makeStep_38 rfl ?_
      refine j_callT (np := 42) (dd := d - 1) (As := [.int v2]) (st := []) caJ0_charAt_5068e mlX6_104 imJ0_charAt_5068e seJ0_charAt_5068e rfl (fun b hb => wJ0_charAt_5068e (by omega) hb) (by omega) rfl rfl (Nat.le_of_ble_eq_true rfl) dX6_makeStep_39 rfl (fun b2 => ?_)
      refine j_bipush (np := 44) cb_48 dX6_makeStep_42 rfl ?_
      refine j_isub (np := 45) dX6_makeStep_44 rfl ?_
      refine j_istore_n (np := 46) (lv2 := [(3, .int (b2.1 - (48 : Int32))), (0, .ref (E.2.1 + v0)), (1, .ref (E.2.2.2.2.1 v1)), (2, .int v2)]) rfl (by decide) dX6_makeStep_45 rfl rfl ?_
      refine j_iload_n (q := 0) (np := 47) rfl rfl dX6_makeStep_46 rfl ?_
      refine j_if_lt (tgt := 74) (np := 50) dX6_makeStep_47 rfl rfl ?_ ?_
      · refine j_sub (lv2 := [(0, .ref (E.2.1 + v0)), (1, .ref (E.2.2.2.2.1 v1)), (2, .int v2)]) [1, 2, 3] rfl ?_
        exact kbX6_makeStep_74 hd ih
      · refine j_iload_n (q := 0) (np := 51) rfl rfl dX6_makeStep_50 rfl ?_
        refine j_iconst (np := 52) ci_3 dX6_makeStep_51 rfl ?_
        refine j_icmp_ge (tgt := 74) (np := 55) dX6_makeStep_52 rfl rfl ?_ ?_
        · refine j_sub (lv2 := [(0, .ref (E.2.1 + v0)), (1, .ref (E.2.2.2.2.1 v1)), (2, .int v2)]) [1, 2, 3] rfl ?_
          exact kbX6_makeStep_74 hd ih
        · refine j_aload_n (q := 1) (np := 56) rfl rfl dX6_makeStep_55 rfl ?_
          refine j_aload_n (q := 1) (np := 57) rfl rfl dX6_makeStep_56 rfl ?_
          refine j_gR (np := 60) flX6_22 dX6_makeStep_57 rfl (fun x3 => ?_)
          refine j_iload_n (q := 0) (np := 61) rfl rfl dX6_makeStep_60 rfl ?_
          refine j_iaload (np := 62) dX6_makeStep_61 rfl (fun x4 => ?_)
          refine j_aload_n (q := 1) (np := 63) rfl rfl dX6_makeStep_62 rfl ?_
          refine j_gR (np := 66) flX6_25 dX6_makeStep_63 rfl (fun x5 => ?_)
          refine j_iload_n (q := 0) (np := 67) rfl rfl dX6_makeStep_66 rfl ?_
          refine j_iaload (np := 68) dX6_makeStep_67 rfl (fun x6 => ?_)
          refine j_callVv (ci := 6) (np := 71) (bc := bc) (bs := bs) (cb := 0) (cs := 0) (dd := d - 1) (As := [.int x4, .int x6]) (st := []) caX6_copyToSpare mlX6_110 imX6_copyToSpare seX6_copyToSpare rfl rfl (by decide) (fun b hb => wX6_copyToSpare (by omega) hb) (by omega) rfl rfl (Nat.le_of_ble_eq_true rfl) dX6_makeStep_68 rfl (fun b7 => ?_)
          refine j_goto (tgt := 105) dX6_makeStep_71 rfl ?_
          refine j_sub (lv2 := [(0, .ref (E.2.1 + v0)), (1, .ref (E.2.2.2.2.1 v1)), (2, .int v2)]) [1, 2, 3] rfl ?_
          exact kbX6_makeStep_105 hd ih
def fX6_makeStep (N : Nat) (v0 : Nat) (m0 : qM) : Option (qM) :=
  (qgR m0 v0 6 5).bind fun x1 =>
  (qgI m0 v0 6 9).bind fun x2 =>
  (qaI m0 x1 11 x2).bind fun x3 =>
  (fX6_contractumOf N x3 m0).bind fun b4 =>
  (qpI b4.2 v0 6 8 (0 : Int32)).bind fun m5 =>
  (qgI m5 v0 6 9).bind fun x6 =>
  (qChk m5 v0 6 (fX6_copyToSpare N v0 (0 : Int32) x6 m5)).bind fun b7 =>
  (lX6_makeStep_29 N v0 b4.1 N (0 : Int32) b7).bind fun o8 =>
  (qChk o8 v0 6 (fX6_redexEnd N v0 o8)).bind fun b9 =>
  (qgI b9.2 v0 6 7).bind fun x10 =>
  (qChk b9.2 v0 6 (fX6_copyToSpare N v0 b9.1 x10 b9.2)).bind fun b11 =>
  (qgR b11 v0 6 5).bind fun x12 =>
  (qgR b11 v0 6 6).bind fun x13 =>
  (qpR b11 v0 6 5 x13).bind fun m14 =>
  (qpR m14 v0 6 6 x12).bind fun m15 =>
  (qgI m15 v0 6 8).bind fun x16 =>
  (qpI m15 v0 6 7 x16).bind fun m17 =>
  some m17
set_option maxRecDepth 100000 in
theorem bX6_makeStep {E : qE} {N d bc bs : Nat} (hd : 4 ≤ d) {v0 : Nat} {m0 : qM} : qB E yX6_makeStep cX6_makeStep 4 none (fun _ => True) d bc bs 0 [(0, .ref (E.2.1 + v0))] [] m0 (fX6_makeStep N v0 m0) (fun b rr => rr = (none, b)) := by
  unfold fX6_makeStep
  refine j_aload_n (q := 0) (np := 1) rfl rfl dX6_makeStep_0 rfl ?_
  refine j_gR (np := 4) flX6_28 dX6_makeStep_1 rfl (fun x1 => ?_)
  refine j_aload_n (q := 0) (np := 5) rfl rfl dX6_makeStep_4 rfl ?_
  refine j_gI (np := 8) flX6_87 dX6_makeStep_5 rfl (fun x2 => ?_)
  refine j_caload (np := 9) dX6_makeStep_8 rfl (fun x3 => ?_)
  refine j_callSs (np := 12) (bc := bc) (bs := bs) (cb := 0) (cs := 0) (dd := d - 1) (As := [.int x3]) (st := []) caX6_contractumOf mlX6_94 stX6_contractumOf (fun b hb => wX6_contractumOf (by omega) hb) (by omega) rfl rfl (Nat.le_of_ble_eq_true rfl) dX6_makeStep_9 rfl (fun b4 => ?_)
  refine j_astore_n (np := 13) (lv2 := [(1, .ref (E.2.2.2.2.1 b4.1)), (0, .ref (E.2.1 + v0))]) rfl (by decide) dX6_makeStep_12 rfl rfl ?_
  refine j_aload_n (q := 1) (np := 14) rfl rfl dX6_makeStep_13 rfl ?_
  refine j_iconst (np := 15) ci_0 dX6_makeStep_14 rfl ?_
  refine j_pI (np := 18) flX6_107 dX6_makeStep_15 rfl (fun m5 => ?_)
  refine j_aload_n (q := 1) (np := 19) rfl rfl dX6_makeStep_18 rfl ?_
  refine j_iconst (np := 20) ci_0 dX6_makeStep_19 rfl ?_
  refine j_aload_n (q := 1) (np := 21) rfl rfl dX6_makeStep_20 rfl ?_
  refine j_gI (np := 24) flX6_87 dX6_makeStep_21 rfl (fun x6 => ?_)
  refine j_callVv (ci := 6) (np := 27) (bc := bc) (bs := bs) (cb := 0) (cs := 0) (dd := d - 1) (As := [.int (0 : Int32), .int x6]) (st := []) caX6_copyToSpare mlX6_110 imX6_copyToSpare seX6_copyToSpare rfl rfl (by decide) (fun b hb => wX6_copyToSpare (by omega) hb) (by omega) rfl rfl (Nat.le_of_ble_eq_true rfl) dX6_makeStep_24 rfl (fun b7 => ?_)
  refine j_iconst (np := 28) ci_0 dX6_makeStep_27 rfl ?_
  refine j_istore_n (np := 29) (lv2 := [(2, .int (0 : Int32)), (1, .ref (E.2.2.2.2.1 b4.1)), (0, .ref (E.2.1 + v0))]) rfl (by decide) dX6_makeStep_28 rfl rfl ?_
  refine j_sub (lv2 := [(0, .ref (E.2.1 + v0)), (1, .ref (E.2.2.2.2.1 b4.1)), (2, .int (0 : Int32))]) [2, 1, 0] rfl ?_
  refine j_loop (xp := 111) (lvX := fun o8 => [(0, .ref (E.2.1 + v0))]) (mX := fun o8 => o8) (lbX6_makeStep_29 hd _ _ _) (fun o8 => ?_)
  refine j_aload_n (q := 0) (np := 112) rfl rfl dX6_makeStep_111 rfl ?_
  refine j_aload_n (q := 0) (np := 113) rfl rfl dX6_makeStep_112 rfl ?_
  refine j_callVi (ci := 6) (np := 116) (bc := bc) (bs := bs) (cb := 0) (cs := 0) (dd := d - 1) (As := []) (st := [.ref (E.2.1 + v0)]) caX6_redexEnd mlX6_98 imX6_redexEnd seX6_redexEnd rfl rfl (by decide) (fun b hb => wX6_redexEnd (by omega) hb) (by omega) rfl rfl (Nat.le_of_ble_eq_true rfl) dX6_makeStep_113 rfl (fun b9 => ?_)
  refine j_aload_n (q := 0) (np := 117) rfl rfl dX6_makeStep_116 rfl ?_
  refine j_gI (np := 120) flX6_57 dX6_makeStep_117 rfl (fun x10 => ?_)
  refine j_callVv (ci := 6) (np := 123) (bc := bc) (bs := bs) (cb := 0) (cs := 0) (dd := d - 1) (As := [.int b9.1, .int x10]) (st := []) caX6_copyToSpare mlX6_110 imX6_copyToSpare seX6_copyToSpare rfl rfl (by decide) (fun b hb => wX6_copyToSpare (by omega) hb) (by omega) rfl rfl (Nat.le_of_ble_eq_true rfl) dX6_makeStep_120 rfl (fun b11 => ?_)
  refine j_aload_n (q := 0) (np := 124) rfl rfl dX6_makeStep_123 rfl ?_
  refine j_gR (np := 127) flX6_28 dX6_makeStep_124 rfl (fun x12 => ?_)
  refine j_astore_n (np := 128) (lv2 := [(2, .ref (E.2.1 + x12)), (0, .ref (E.2.1 + v0))]) rfl (by decide) dX6_makeStep_127 rfl rfl ?_
  refine j_aload_n (q := 1) (np := 129) rfl rfl dX6_makeStep_128 rfl ?_
  refine j_aload_n (q := 1) (np := 130) rfl rfl dX6_makeStep_129 rfl ?_
  refine j_gR (np := 133) flX6_32 dX6_makeStep_130 rfl (fun x13 => ?_)
  refine j_pR (np := 136) flX6_28 (fun h => by cases h) dX6_makeStep_133 rfl (fun m14 => ?_)
  refine j_aload_n (q := 1) (np := 137) rfl rfl dX6_makeStep_136 rfl ?_
  refine j_aload_n (q := 0) (np := 138) rfl rfl dX6_makeStep_137 rfl ?_
  refine j_pR (np := 141) flX6_32 (fun h => by cases h) dX6_makeStep_138 rfl (fun m15 => ?_)
  refine j_aload_n (q := 1) (np := 142) rfl rfl dX6_makeStep_141 rfl ?_
  refine j_aload_n (q := 1) (np := 143) rfl rfl dX6_makeStep_142 rfl ?_
  refine j_gI (np := 146) flX6_107 dX6_makeStep_143 rfl (fun x16 => ?_)
  refine j_pI (np := 149) flX6_57 dX6_makeStep_146 rfl (fun m17 => ?_)
  exact j_vret rfl dX6_makeStep_149 (fun rr h => h)
set_option maxRecDepth 100000 in
theorem wX6_makeStep {E : qE} {N d : Nat} (hd : 4 ≤ d) {v0 : Nat} {m0 : qM} {b : qM} (h : fX6_makeStep N v0 m0 = some b) : qRun E yX6_makeStep cX6_makeStep 4 none d 0 0 [.ref (E.2.1 + v0)] m0 (none, b) := q_met pnX6 (Nat.le_of_ble_eq_true rfl) (bX6_makeStep hd b _ h rfl)
theorem dX6_markOpenings_0 : decode cX6_markOpenings 0 = .ok (.iconst 0, 1) := by decide +kernel
theorem dX6_markOpenings_1 : decode cX6_markOpenings 1 = .ok (.istore_n 1, 1) := by decide +kernel
theorem dX6_markOpenings_2 : decode cX6_markOpenings 2 = .ok (.iconst 0, 1) := by decide +kernel
theorem dX6_markOpenings_3 : decode cX6_markOpenings 3 = .ok (.istore_n 2, 1) := by decide +kernel
theorem dX6_markOpenings_4 : decode cX6_markOpenings 4 = .ok (.iload_n 2, 1) := by decide +kernel
theorem dX6_markOpenings_5 : decode cX6_markOpenings 5 = .ok (.aload_n 0, 1) := by decide +kernel
theorem dX6_markOpenings_6 : decode cX6_markOpenings 6 = .ok (.getfield 57, 3) := by decide +kernel
theorem dX6_markOpenings_9 : decode cX6_markOpenings 9 = .ok (.if_icmp .ge 73, 3) := by decide +kernel
theorem dX6_markOpenings_12 : decode cX6_markOpenings 12 = .ok (.aload_n 0, 1) := by decide +kernel
theorem dX6_markOpenings_13 : decode cX6_markOpenings 13 = .ok (.getfield 15, 3) := by decide +kernel
theorem dX6_markOpenings_16 : decode cX6_markOpenings 16 = .ok (.iload_n 2, 1) := by decide +kernel
theorem dX6_markOpenings_17 : decode cX6_markOpenings 17 = .ok (.iconst 0, 1) := by decide +kernel
theorem dX6_markOpenings_18 : decode cX6_markOpenings 18 = .ok (.bastore, 1) := by decide +kernel
theorem dX6_markOpenings_19 : decode cX6_markOpenings 19 = .ok (.aload_n 0, 1) := by decide +kernel
theorem dX6_markOpenings_20 : decode cX6_markOpenings 20 = .ok (.getfield 28, 3) := by decide +kernel
theorem dX6_markOpenings_23 : decode cX6_markOpenings 23 = .ok (.iload_n 2, 1) := by decide +kernel
theorem dX6_markOpenings_24 : decode cX6_markOpenings 24 = .ok (.caload, 1) := by decide +kernel
theorem dX6_markOpenings_25 : decode cX6_markOpenings 25 = .ok (.bipush 64, 2) := by decide +kernel
theorem dX6_markOpenings_27 : decode cX6_markOpenings 27 = .ok (.if_icmp .eq 16, 3) := by decide +kernel
theorem dX6_markOpenings_30 : decode cX6_markOpenings 30 = .ok (.aload_n 0, 1) := by decide +kernel
theorem dX6_markOpenings_31 : decode cX6_markOpenings 31 = .ok (.getfield 18, 3) := by decide +kernel
theorem dX6_markOpenings_34 : decode cX6_markOpenings 34 = .ok (.iload_n 1, 1) := by decide +kernel
theorem dX6_markOpenings_35 : decode cX6_markOpenings 35 = .ok (.iload_n 2, 1) := by decide +kernel
theorem dX6_markOpenings_36 : decode cX6_markOpenings 36 = .ok (.iastore, 1) := by decide +kernel
theorem dX6_markOpenings_37 : decode cX6_markOpenings 37 = .ok (.iinc 1 1, 3) := by decide +kernel
theorem dX6_markOpenings_40 : decode cX6_markOpenings 40 = .ok (.goto 36, 3) := by decide +kernel
theorem dX6_markOpenings_43 : decode cX6_markOpenings 43 = .ok (.iload_n 1, 1) := by decide +kernel
theorem dX6_markOpenings_44 : decode cX6_markOpenings 44 = .ok (.iconst 2, 1) := by decide +kernel
theorem dX6_markOpenings_45 : decode cX6_markOpenings 45 = .ok (.if_icmp .lt 31, 3) := by decide +kernel
theorem dX6_markOpenings_48 : decode cX6_markOpenings 48 = .ok (.iinc 1 (-1), 3) := by decide +kernel
theorem dX6_markOpenings_51 : decode cX6_markOpenings 51 = .ok (.aload_n 0, 1) := by decide +kernel
theorem dX6_markOpenings_52 : decode cX6_markOpenings 52 = .ok (.getfield 28, 3) := by decide +kernel
theorem dX6_markOpenings_55 : decode cX6_markOpenings 55 = .ok (.iload_n 2, 1) := by decide +kernel
theorem dX6_markOpenings_56 : decode cX6_markOpenings 56 = .ok (.iconst 1, 1) := by decide +kernel
theorem dX6_markOpenings_57 : decode cX6_markOpenings 57 = .ok (.isub, 1) := by decide +kernel
theorem dX6_markOpenings_58 : decode cX6_markOpenings 58 = .ok (.caload, 1) := by decide +kernel
theorem dX6_markOpenings_59 : decode cX6_markOpenings 59 = .ok (.bipush 64, 2) := by decide +kernel
theorem dX6_markOpenings_61 : decode cX6_markOpenings 61 = .ok (.if_icmp .ne 15, 3) := by decide +kernel
theorem dX6_markOpenings_64 : decode cX6_markOpenings 64 = .ok (.aload_n 0, 1) := by decide +kernel
theorem dX6_markOpenings_65 : decode cX6_markOpenings 65 = .ok (.getfield 15, 3) := by decide +kernel
theorem dX6_markOpenings_68 : decode cX6_markOpenings 68 = .ok (.aload_n 0, 1) := by decide +kernel
theorem dX6_markOpenings_69 : decode cX6_markOpenings 69 = .ok (.getfield 18, 3) := by decide +kernel
theorem dX6_markOpenings_72 : decode cX6_markOpenings 72 = .ok (.iload_n 1, 1) := by decide +kernel
theorem dX6_markOpenings_73 : decode cX6_markOpenings 73 = .ok (.iaload, 1) := by decide +kernel
theorem dX6_markOpenings_74 : decode cX6_markOpenings 74 = .ok (.iconst 1, 1) := by decide +kernel
theorem dX6_markOpenings_75 : decode cX6_markOpenings 75 = .ok (.bastore, 1) := by decide +kernel
theorem dX6_markOpenings_76 : decode cX6_markOpenings 76 = .ok (.iinc 2 1, 3) := by decide +kernel
theorem dX6_markOpenings_79 : decode cX6_markOpenings 79 = .ok (.goto (-75), 3) := by decide +kernel
theorem dX6_markOpenings_82 : decode cX6_markOpenings 82 = .ok (.return_, 1) := by decide +kernel
def kX6_markOpenings_76 (N : Nat) (rec : Int32 → Int32 → qM → Option (qM)) (v0 : Nat) (v1 : Int32) (v2 : Int32)  (m0 : qM) : Option (qM) :=
  rec v1 (v2 + (1 : Int32)) m0
set_option maxRecDepth 100000 in
theorem kbX6_markOpenings_76 {E : qE} {N d bc bs : Nat} (hd : 0 ≤ d) {v0 : Nat} {v1 : Int32} {v2 : Int32}  {m0 : qM} {rec : Int32 → Int32 → qM → Option (qM)} (hrec : ∀ (v1 : Int32) (v2 : Int32) (m : qM), qB E yX6_markOpenings cX6_markOpenings 3 none (fun _ => True) d bc bs 4 [(0, .ref (E.2.1 + v0)), (1, .int v1), (2, .int v2)] [] m (rec v1 v2 m) (fun o rr => qJ E yX6_markOpenings cX6_markOpenings 3 none (fun _ => True) d bc bs 82 [] [] o rr)) : qB E yX6_markOpenings cX6_markOpenings 3 none (fun _ => True) d bc bs 76 [(0, .ref (E.2.1 + v0)), (1, .int v1), (2, .int v2)] [] m0 (kX6_markOpenings_76 N rec v0 v1 v2 m0) (fun o rr => qJ E yX6_markOpenings cX6_markOpenings 3 none (fun _ => True) d bc bs 82 [] [] o rr) := by
  unfold kX6_markOpenings_76
  refine j_iinc (q := 2) (np := 79) (lv2 := [(2, .int (v2 + (1 : Int32))), (0, .ref (E.2.1 + v0)), (1, .int v1)]) rfl (congrArg _ ci_1) (by decide) dX6_markOpenings_76 rfl rfl ?_
  refine j_goto (tgt := 4) dX6_markOpenings_79 rfl ?_
  refine j_sub (lv2 := [(0, .ref (E.2.1 + v0)), (1, .int v1), (2, .int (v2 + (1 : Int32)))]) [1, 2, 0] rfl ?_
  exact hrec _ _ _
def lX6_markOpenings_4 (N : Nat) (v0 : Nat) : Nat → Int32 → Int32 → qM → Option (qM)
  | 0, _, _, _ => none
  | n + 1, v1, v2, m0 =>
    (qgI m0 v0 6 7).bind fun x1 =>
    if x1 ≤ v2 then (
    some m0
    ) else (
    (qgR m0 v0 6 1).bind fun x2 =>
    (qwI m0 x2 14 v2 ((0 : Int32) &&& 1)).bind fun m3 =>
    (qgR m3 v0 6 5).bind fun x4 =>
    (qaI m3 x4 11 v2).bind fun x5 =>
    if x5 = (64 : Int32) then (
    if v1 < (2 : Int32) then (
    kX6_markOpenings_76 N (lX6_markOpenings_4 N v0 n) v0 v1 v2 m3
    ) else (
    (qgR m3 v0 6 5).bind fun x6 =>
    (qaI m3 x6 11 (v2 - (1 : Int32))).bind fun x7 =>
    if x7 = (64 : Int32) then (
    (qgR m3 v0 6 1).bind fun x8 =>
    (qgR m3 v0 6 2).bind fun x9 =>
    (qaI m3 x9 12 (v1 + (-1 : Int32))).bind fun x10 =>
    (qwI m3 x8 14 x10 ((1 : Int32) &&& 1)).bind fun m11 =>
    kX6_markOpenings_76 N (lX6_markOpenings_4 N v0 n) v0 (v1 + (-1 : Int32)) v2 m11
    ) else (
    kX6_markOpenings_76 N (lX6_markOpenings_4 N v0 n) v0 (v1 + (-1 : Int32)) v2 m3
    )
    )
    ) else (
    (qgR m3 v0 6 2).bind fun x12 =>
    (qwI m3 x12 12 v1 v2).bind fun m13 =>
    kX6_markOpenings_76 N (lX6_markOpenings_4 N v0 n) v0 (v1 + (1 : Int32)) v2 m13
    )
    )
set_option maxRecDepth 100000 in
theorem lbX6_markOpenings_4 {E : qE} {N d bc bs : Nat} (hd : 0 ≤ d) {v0 : Nat} : ∀ (n : Nat) (v1 : Int32) (v2 : Int32) (m0 : qM), qB E yX6_markOpenings cX6_markOpenings 3 none (fun _ => True) d bc bs 4 [(0, .ref (E.2.1 + v0)), (1, .int v1), (2, .int v2)] [] m0 (lX6_markOpenings_4 N v0 n v1 v2 m0) (fun o rr => qJ E yX6_markOpenings cX6_markOpenings 3 none (fun _ => True) d bc bs 82 [] [] o rr) := by
  intro n
  induction n with
  | zero =>
    intro v1 v2 m0
    exact j_none
  | succ n ih =>
    intro v1 v2 m0
    unfold lX6_markOpenings_4
    refine j_iload_n (q := 2) (np := 5) rfl rfl dX6_markOpenings_4 rfl ?_
    refine j_aload_n (q := 0) (np := 6) rfl rfl dX6_markOpenings_5 rfl ?_
    refine j_gI (np := 9) flX6_57 dX6_markOpenings_6 rfl (fun x1 => ?_)
    refine j_icmp_ge (tgt := 82) (np := 12) dX6_markOpenings_9 rfl rfl ?_ ?_
    · refine j_sub (lv2 := []) [] rfl ?_
      exact j_exit (fun rr h => h)
    · refine j_aload_n (q := 0) (np := 13) rfl rfl dX6_markOpenings_12 rfl ?_
      refine j_gR (np := 16) flX6_15 dX6_markOpenings_13 rfl (fun x2 => ?_)
      refine j_iload_n (q := 2) (np := 17) rfl rfl dX6_markOpenings_16 rfl ?_
      refine j_iconst (np := 18) ci_0 dX6_markOpenings_17 rfl ?_
      refine j_bastore (np := 19) dX6_markOpenings_18 rfl (fun m3 => ?_)
      refine j_aload_n (q := 0) (np := 20) rfl rfl dX6_markOpenings_19 rfl ?_
      refine j_gR (np := 23) flX6_28 dX6_markOpenings_20 rfl (fun x4 => ?_)
      refine j_iload_n (q := 2) (np := 24) rfl rfl dX6_markOpenings_23 rfl ?_
      refine j_caload (np := 25) dX6_markOpenings_24 rfl (fun x5 => ?_)
      refine j_bipush (np := 27) cb_64 dX6_markOpenings_25 rfl ?_
      refine j_icmp_eq (tgt := 43) (np := 30) dX6_markOpenings_27 rfl rfl ?_ ?_
      · refine j_iload_n (q := 1) (np := 44) rfl rfl dX6_markOpenings_43 rfl ?_
        refine j_iconst (np := 45) ci_2 dX6_markOpenings_44 rfl ?_
        refine j_icmp_lt (tgt := 76) (np := 48) dX6_markOpenings_45 rfl rfl ?_ ?_
        · exact kbX6_markOpenings_76 hd ih
        · refine j_iinc (q := 1) (np := 51) (lv2 := [(1, .int (v1 + (-1 : Int32))), (0, .ref (E.2.1 + v0)), (2, .int v2)]) rfl (congrArg _ ci_m1) (by decide) dX6_markOpenings_48 rfl rfl ?_
          refine j_aload_n (q := 1) (np := 52) rfl rfl dX6_markOpenings_51 rfl ?_
          refine j_gR (np := 55) flX6_28 dX6_markOpenings_52 rfl (fun x6 => ?_)
          refine j_iload_n (q := 2) (np := 56) rfl rfl dX6_markOpenings_55 rfl ?_
          refine j_iconst (np := 57) ci_1 dX6_markOpenings_56 rfl ?_
          refine j_isub (np := 58) dX6_markOpenings_57 rfl ?_
          refine j_caload (np := 59) dX6_markOpenings_58 rfl (fun x7 => ?_)
          refine j_bipush (np := 61) cb_64 dX6_markOpenings_59 rfl ?_
          refine j_icmp_ne (tgt := 76) (np := 64) dX6_markOpenings_61 rfl rfl ?_ ?_
          · refine j_sub (lv2 := [(0, .ref (E.2.1 + v0)), (1, .int (v1 + (-1 : Int32))), (2, .int v2)]) [1, 0, 2] rfl ?_
            exact kbX6_markOpenings_76 hd ih
          · refine j_aload_n (q := 1) (np := 65) rfl rfl dX6_markOpenings_64 rfl ?_
            refine j_gR (np := 68) flX6_15 dX6_markOpenings_65 rfl (fun x8 => ?_)
            refine j_aload_n (q := 1) (np := 69) rfl rfl dX6_markOpenings_68 rfl ?_
            refine j_gR (np := 72) flX6_18 dX6_markOpenings_69 rfl (fun x9 => ?_)
            refine j_iload_n (q := 0) (np := 73) rfl rfl dX6_markOpenings_72 rfl ?_
            refine j_iaload (np := 74) dX6_markOpenings_73 rfl (fun x10 => ?_)
            refine j_iconst (np := 75) ci_1 dX6_markOpenings_74 rfl ?_
            refine j_bastore (np := 76) dX6_markOpenings_75 rfl (fun m11 => ?_)
            refine j_sub (lv2 := [(0, .ref (E.2.1 + v0)), (1, .int (v1 + (-1 : Int32))), (2, .int v2)]) [1, 0, 2] rfl ?_
            exact kbX6_markOpenings_76 hd ih
      · refine j_aload_n (q := 0) (np := 31) rfl rfl dX6_markOpenings_30 rfl ?_
        refine j_gR (np := 34) flX6_18 dX6_markOpenings_31 rfl (fun x12 => ?_)
        refine j_iload_n (q := 1) (np := 35) rfl rfl dX6_markOpenings_34 rfl ?_
        refine j_iload_n (q := 2) (np := 36) rfl rfl dX6_markOpenings_35 rfl ?_
        refine j_iastore (np := 37) dX6_markOpenings_36 rfl (fun m13 => ?_)
        refine j_iinc (q := 1) (np := 40) (lv2 := [(1, .int (v1 + (1 : Int32))), (0, .ref (E.2.1 + v0)), (2, .int v2)]) rfl (congrArg _ ci_1) (by decide) dX6_markOpenings_37 rfl rfl ?_
        refine j_goto (tgt := 76) dX6_markOpenings_40 rfl ?_
        refine j_sub (lv2 := [(0, .ref (E.2.1 + v0)), (1, .int (v1 + (1 : Int32))), (2, .int v2)]) [1, 0, 2] rfl ?_
        exact kbX6_markOpenings_76 hd ih
def fX6_markOpenings (N : Nat) (v0 : Nat) (m0 : qM) : Option (qM) :=
  (lX6_markOpenings_4 N v0 N (0 : Int32) (0 : Int32) m0).bind fun o1 =>
  some o1
set_option maxRecDepth 100000 in
theorem bX6_markOpenings {E : qE} {N d bc bs : Nat} (hd : 0 ≤ d) {v0 : Nat} {m0 : qM} : qB E yX6_markOpenings cX6_markOpenings 3 none (fun _ => True) d bc bs 0 [(0, .ref (E.2.1 + v0))] [] m0 (fX6_markOpenings N v0 m0) (fun b rr => rr = (none, b)) := by
  unfold fX6_markOpenings
  refine j_iconst (np := 1) ci_0 dX6_markOpenings_0 rfl ?_
  refine j_istore_n (np := 2) (lv2 := [(1, .int (0 : Int32)), (0, .ref (E.2.1 + v0))]) rfl (by decide) dX6_markOpenings_1 rfl rfl ?_
  refine j_iconst (np := 3) ci_0 dX6_markOpenings_2 rfl ?_
  refine j_istore_n (np := 4) (lv2 := [(2, .int (0 : Int32)), (1, .int (0 : Int32)), (0, .ref (E.2.1 + v0))]) rfl (by decide) dX6_markOpenings_3 rfl rfl ?_
  refine j_sub (lv2 := [(0, .ref (E.2.1 + v0)), (1, .int (0 : Int32)), (2, .int (0 : Int32))]) [2, 1, 0] rfl ?_
  refine j_loop (xp := 82) (lvX := fun o1 => []) (mX := fun o1 => o1) (lbX6_markOpenings_4 hd _ _ _ _) (fun o1 => ?_)
  exact j_vret rfl dX6_markOpenings_82 (fun rr h => h)
set_option maxRecDepth 100000 in
theorem wX6_markOpenings {E : qE} {N d : Nat} (hd : 0 ≤ d) {v0 : Nat} {m0 : qM} {b : qM} (h : fX6_markOpenings N v0 m0 = some b) : qRun E yX6_markOpenings cX6_markOpenings 3 none d 0 0 [.ref (E.2.1 + v0)] m0 (none, b) := q_met pnX6 (Nat.le_of_ble_eq_true rfl) (bX6_markOpenings hd b _ h rfl)
theorem dX6_writeTo_0 : decode cX6_writeTo 0 = .ok (.aload_n 0, 1) := by decide +kernel
theorem dX6_writeTo_1 : decode cX6_writeTo 1 = .ok (.invokevirtual 114, 3) := by decide +kernel
theorem dX6_writeTo_4 : decode cX6_writeTo 4 = .ok (.iconst 0, 1) := by decide +kernel
theorem dX6_writeTo_5 : decode cX6_writeTo 5 = .ok (.istore_n 2, 1) := by decide +kernel
theorem dX6_writeTo_6 : decode cX6_writeTo 6 = .ok (.iload_n 2, 1) := by decide +kernel
theorem dX6_writeTo_7 : decode cX6_writeTo 7 = .ok (.aload_n 0, 1) := by decide +kernel
theorem dX6_writeTo_8 : decode cX6_writeTo 8 = .ok (.getfield 57, 3) := by decide +kernel
theorem dX6_writeTo_11 : decode cX6_writeTo 11 = .ok (.if_icmp .ge 71, 3) := by decide +kernel
theorem dX6_writeTo_14 : decode cX6_writeTo 14 = .ok (.aload_n 0, 1) := by decide +kernel
theorem dX6_writeTo_15 : decode cX6_writeTo 15 = .ok (.getfield 15, 3) := by decide +kernel
theorem dX6_writeTo_18 : decode cX6_writeTo 18 = .ok (.iload_n 2, 1) := by decide +kernel
theorem dX6_writeTo_19 : decode cX6_writeTo 19 = .ok (.baload, 1) := by decide +kernel
theorem dX6_writeTo_20 : decode cX6_writeTo 20 = .ok (.ifCond .eq 9, 3) := by decide +kernel
theorem dX6_writeTo_23 : decode cX6_writeTo 23 = .ok (.aload_n 1, 1) := by decide +kernel
theorem dX6_writeTo_24 : decode cX6_writeTo 24 = .ok (.bipush 40, 2) := by decide +kernel
theorem dX6_writeTo_26 : decode cX6_writeTo 26 = .ok (.invokevirtual 117, 3) := by decide +kernel
theorem dX6_writeTo_29 : decode cX6_writeTo 29 = .ok (.aload_n 0, 1) := by decide +kernel
theorem dX6_writeTo_30 : decode cX6_writeTo 30 = .ok (.getfield 28, 3) := by decide +kernel
theorem dX6_writeTo_33 : decode cX6_writeTo 33 = .ok (.iload_n 2, 1) := by decide +kernel
theorem dX6_writeTo_34 : decode cX6_writeTo 34 = .ok (.caload, 1) := by decide +kernel
theorem dX6_writeTo_35 : decode cX6_writeTo 35 = .ok (.bipush 64, 2) := by decide +kernel
theorem dX6_writeTo_37 : decode cX6_writeTo 37 = .ok (.if_icmp .eq 16, 3) := by decide +kernel
theorem dX6_writeTo_40 : decode cX6_writeTo 40 = .ok (.aload_n 1, 1) := by decide +kernel
theorem dX6_writeTo_41 : decode cX6_writeTo 41 = .ok (.aload_n 0, 1) := by decide +kernel
theorem dX6_writeTo_42 : decode cX6_writeTo 42 = .ok (.getfield 28, 3) := by decide +kernel
theorem dX6_writeTo_45 : decode cX6_writeTo 45 = .ok (.iload_n 2, 1) := by decide +kernel
theorem dX6_writeTo_46 : decode cX6_writeTo 46 = .ok (.caload, 1) := by decide +kernel
theorem dX6_writeTo_47 : decode cX6_writeTo 47 = .ok (.invokevirtual 117, 3) := by decide +kernel
theorem dX6_writeTo_50 : decode cX6_writeTo 50 = .ok (.goto 26, 3) := by decide +kernel
theorem dX6_writeTo_53 : decode cX6_writeTo 53 = .ok (.iload_n 2, 1) := by decide +kernel
theorem dX6_writeTo_54 : decode cX6_writeTo 54 = .ok (.ifCond .le 22, 3) := by decide +kernel
theorem dX6_writeTo_57 : decode cX6_writeTo 57 = .ok (.aload_n 0, 1) := by decide +kernel
theorem dX6_writeTo_58 : decode cX6_writeTo 58 = .ok (.getfield 28, 3) := by decide +kernel
theorem dX6_writeTo_61 : decode cX6_writeTo 61 = .ok (.iload_n 2, 1) := by decide +kernel
theorem dX6_writeTo_62 : decode cX6_writeTo 62 = .ok (.iconst 1, 1) := by decide +kernel
theorem dX6_writeTo_63 : decode cX6_writeTo 63 = .ok (.isub, 1) := by decide +kernel
theorem dX6_writeTo_64 : decode cX6_writeTo 64 = .ok (.caload, 1) := by decide +kernel
theorem dX6_writeTo_65 : decode cX6_writeTo 65 = .ok (.bipush 64, 2) := by decide +kernel
theorem dX6_writeTo_67 : decode cX6_writeTo 67 = .ok (.if_icmp .ne 9, 3) := by decide +kernel
theorem dX6_writeTo_70 : decode cX6_writeTo 70 = .ok (.aload_n 1, 1) := by decide +kernel
theorem dX6_writeTo_71 : decode cX6_writeTo 71 = .ok (.bipush 41, 2) := by decide +kernel
theorem dX6_writeTo_73 : decode cX6_writeTo 73 = .ok (.invokevirtual 117, 3) := by decide +kernel
theorem dX6_writeTo_76 : decode cX6_writeTo 76 = .ok (.iinc 2 1, 3) := by decide +kernel
theorem dX6_writeTo_79 : decode cX6_writeTo 79 = .ok (.goto (-73), 3) := by decide +kernel
theorem dX6_writeTo_82 : decode cX6_writeTo 82 = .ok (.return_, 1) := by decide +kernel
def kX6_writeTo_76 (N : Nat) (rec : Int32 → qM → Option (qM)) (v0 : Nat) (v1 : Nat) (v2 : Int32)  (m0 : qM) : Option (qM) :=
  rec (v2 + (1 : Int32)) m0
set_option maxRecDepth 100000 in
theorem kbX6_writeTo_76 {E : qE} {N d bc bs : Nat} (hd : 1 ≤ d) {v0 : Nat} {v1 : Nat} {v2 : Int32}  {m0 : qM} {rec : Int32 → qM → Option (qM)} (hrec : ∀ (v2 : Int32) (m : qM), qB E yX6_writeTo cX6_writeTo 3 none (fun _ => True) d bc bs 6 [(0, .ref (E.2.1 + v0)), (1, .ref (E.2.1 + v1)), (2, .int v2)] [] m (rec v2 m) (fun o rr => qJ E yX6_writeTo cX6_writeTo 3 none (fun _ => True) d bc bs 82 [] [] o rr)) : qB E yX6_writeTo cX6_writeTo 3 none (fun _ => True) d bc bs 76 [(0, .ref (E.2.1 + v0)), (1, .ref (E.2.1 + v1)), (2, .int v2)] [] m0 (kX6_writeTo_76 N rec v0 v1 v2 m0) (fun o rr => qJ E yX6_writeTo cX6_writeTo 3 none (fun _ => True) d bc bs 82 [] [] o rr) := by
  unfold kX6_writeTo_76
  refine j_iinc (q := 2) (np := 79) (lv2 := [(2, .int (v2 + (1 : Int32))), (0, .ref (E.2.1 + v0)), (1, .ref (E.2.1 + v1))]) rfl (congrArg _ ci_1) (by decide) dX6_writeTo_76 rfl rfl ?_
  refine j_goto (tgt := 6) dX6_writeTo_79 rfl ?_
  refine j_sub (lv2 := [(0, .ref (E.2.1 + v0)), (1, .ref (E.2.1 + v1)), (2, .int (v2 + (1 : Int32)))]) [1, 2, 0] rfl ?_
  exact hrec _ _
def kX6_writeTo_29 (N : Nat) (rec : Int32 → qM → Option (qM)) (v0 : Nat) (v1 : Nat) (v2 : Int32)  (m0 : qM) : Option (qM) :=
  (qgR m0 v0 6 5).bind fun x1 =>
  (qaI m0 x1 11 v2).bind fun x2 =>
  if x2 = (64 : Int32) then (
  if v2 ≤ 0 then (
  kX6_writeTo_76 N (rec) v0 v1 v2 m0
  ) else (
  (qgR m0 v0 6 5).bind fun x3 =>
  (qaI m0 x3 11 (v2 - (1 : Int32))).bind fun x4 =>
  if x4 = (64 : Int32) then (
  (qChk m0 v1 7 (fX7_add N v1 (41 : Int32) m0)).bind fun b5 =>
  kX6_writeTo_76 N (rec) v0 v1 v2 b5
  ) else (
  kX6_writeTo_76 N (rec) v0 v1 v2 m0
  )
  )
  ) else (
  (qgR m0 v0 6 5).bind fun x6 =>
  (qaI m0 x6 11 v2).bind fun x7 =>
  (qChk m0 v1 7 (fX7_add N v1 x7 m0)).bind fun b8 =>
  kX6_writeTo_76 N (rec) v0 v1 v2 b8
  )
set_option maxRecDepth 100000 in
theorem kbX6_writeTo_29 {E : qE} {N d bc bs : Nat} (hd : 1 ≤ d) {v0 : Nat} {v1 : Nat} {v2 : Int32}  {m0 : qM} {rec : Int32 → qM → Option (qM)} (hrec : ∀ (v2 : Int32) (m : qM), qB E yX6_writeTo cX6_writeTo 3 none (fun _ => True) d bc bs 6 [(0, .ref (E.2.1 + v0)), (1, .ref (E.2.1 + v1)), (2, .int v2)] [] m (rec v2 m) (fun o rr => qJ E yX6_writeTo cX6_writeTo 3 none (fun _ => True) d bc bs 82 [] [] o rr)) : qB E yX6_writeTo cX6_writeTo 3 none (fun _ => True) d bc bs 29 [(0, .ref (E.2.1 + v0)), (1, .ref (E.2.1 + v1)), (2, .int v2)] [] m0 (kX6_writeTo_29 N rec v0 v1 v2 m0) (fun o rr => qJ E yX6_writeTo cX6_writeTo 3 none (fun _ => True) d bc bs 82 [] [] o rr) := by
  unfold kX6_writeTo_29
  refine j_aload_n (q := 0) (np := 30) rfl rfl dX6_writeTo_29 rfl ?_
  refine j_gR (np := 33) flX6_28 dX6_writeTo_30 rfl (fun x1 => ?_)
  refine j_iload_n (q := 2) (np := 34) rfl rfl dX6_writeTo_33 rfl ?_
  refine j_caload (np := 35) dX6_writeTo_34 rfl (fun x2 => ?_)
  refine j_bipush (np := 37) cb_64 dX6_writeTo_35 rfl ?_
  refine j_icmp_eq (tgt := 53) (np := 40) dX6_writeTo_37 rfl rfl ?_ ?_
  · refine j_iload_n (q := 2) (np := 54) rfl rfl dX6_writeTo_53 rfl ?_
    refine j_if_le (tgt := 76) (np := 57) dX6_writeTo_54 rfl rfl ?_ ?_
    · exact kbX6_writeTo_76 hd hrec
    · refine j_aload_n (q := 0) (np := 58) rfl rfl dX6_writeTo_57 rfl ?_
      refine j_gR (np := 61) flX6_28 dX6_writeTo_58 rfl (fun x3 => ?_)
      refine j_iload_n (q := 2) (np := 62) rfl rfl dX6_writeTo_61 rfl ?_
      refine j_iconst (np := 63) ci_1 dX6_writeTo_62 rfl ?_
      refine j_isub (np := 64) dX6_writeTo_63 rfl ?_
      refine j_caload (np := 65) dX6_writeTo_64 rfl (fun x4 => ?_)
      refine j_bipush (np := 67) cb_64 dX6_writeTo_65 rfl ?_
      refine j_icmp_ne (tgt := 76) (np := 70) dX6_writeTo_67 rfl rfl ?_ ?_
      · exact kbX6_writeTo_76 hd hrec
      · refine j_aload_n (q := 1) (np := 71) rfl rfl dX6_writeTo_70 rfl ?_
        refine j_bipush (np := 73) cb_41 dX6_writeTo_71 rfl ?_
        refine j_callVv (ci := 7) (np := 76) (bc := bc) (bs := bs) (cb := 0) (cs := 0) (dd := d - 1) (As := [.int (41 : Int32)]) (st := []) caX7_add mlX6_117 imX7_add seX7_add rfl rfl (by decide) (fun b hb => wX7_add (by omega) hb) (by omega) rfl rfl (Nat.le_of_ble_eq_true rfl) dX6_writeTo_73 rfl (fun b5 => ?_)
        exact kbX6_writeTo_76 hd hrec
  · refine j_aload_n (q := 1) (np := 41) rfl rfl dX6_writeTo_40 rfl ?_
    refine j_aload_n (q := 0) (np := 42) rfl rfl dX6_writeTo_41 rfl ?_
    refine j_gR (np := 45) flX6_28 dX6_writeTo_42 rfl (fun x6 => ?_)
    refine j_iload_n (q := 2) (np := 46) rfl rfl dX6_writeTo_45 rfl ?_
    refine j_caload (np := 47) dX6_writeTo_46 rfl (fun x7 => ?_)
    refine j_callVv (ci := 7) (np := 50) (bc := bc) (bs := bs) (cb := 0) (cs := 0) (dd := d - 1) (As := [.int x7]) (st := []) caX7_add mlX6_117 imX7_add seX7_add rfl rfl (by decide) (fun b hb => wX7_add (by omega) hb) (by omega) rfl rfl (Nat.le_of_ble_eq_true rfl) dX6_writeTo_47 rfl (fun b8 => ?_)
    refine j_goto (tgt := 76) dX6_writeTo_50 rfl ?_
    exact kbX6_writeTo_76 hd hrec
def lX6_writeTo_6 (N : Nat) (v0 : Nat) (v1 : Nat) : Nat → Int32 → qM → Option (qM)
  | 0, _, _ => none
  | n + 1, v2, m0 =>
    (qgI m0 v0 6 7).bind fun x1 =>
    if x1 ≤ v2 then (
    some m0
    ) else (
    (qgR m0 v0 6 1).bind fun x2 =>
    (qaI m0 x2 14 v2).bind fun x3 =>
    if x3 = 0 then (
    kX6_writeTo_29 N (lX6_writeTo_6 N v0 v1 n) v0 v1 v2 m0
    ) else (
    (qChk m0 v1 7 (fX7_add N v1 (40 : Int32) m0)).bind fun b4 =>
    kX6_writeTo_29 N (lX6_writeTo_6 N v0 v1 n) v0 v1 v2 b4
    )
    )
set_option maxRecDepth 100000 in
theorem lbX6_writeTo_6 {E : qE} {N d bc bs : Nat} (hd : 1 ≤ d) {v0 : Nat} {v1 : Nat} : ∀ (n : Nat) (v2 : Int32) (m0 : qM), qB E yX6_writeTo cX6_writeTo 3 none (fun _ => True) d bc bs 6 [(0, .ref (E.2.1 + v0)), (1, .ref (E.2.1 + v1)), (2, .int v2)] [] m0 (lX6_writeTo_6 N v0 v1 n v2 m0) (fun o rr => qJ E yX6_writeTo cX6_writeTo 3 none (fun _ => True) d bc bs 82 [] [] o rr) := by
  intro n
  induction n with
  | zero =>
    intro v2 m0
    exact j_none
  | succ n ih =>
    intro v2 m0
    unfold lX6_writeTo_6
    refine j_iload_n (q := 2) (np := 7) rfl rfl dX6_writeTo_6 rfl ?_
    refine j_aload_n (q := 0) (np := 8) rfl rfl dX6_writeTo_7 rfl ?_
    refine j_gI (np := 11) flX6_57 dX6_writeTo_8 rfl (fun x1 => ?_)
    refine j_icmp_ge (tgt := 82) (np := 14) dX6_writeTo_11 rfl rfl ?_ ?_
    · refine j_sub (lv2 := []) [] rfl ?_
      exact j_exit (fun rr h => h)
    · refine j_aload_n (q := 0) (np := 15) rfl rfl dX6_writeTo_14 rfl ?_
      refine j_gR (np := 18) flX6_15 dX6_writeTo_15 rfl (fun x2 => ?_)
      refine j_iload_n (q := 2) (np := 19) rfl rfl dX6_writeTo_18 rfl ?_
      refine j_baload (np := 20) dX6_writeTo_19 rfl (fun x3 => ?_)
      refine j_if_eq (tgt := 29) (np := 23) dX6_writeTo_20 rfl rfl ?_ ?_
      · exact kbX6_writeTo_29 hd ih
      · refine j_aload_n (q := 1) (np := 24) rfl rfl dX6_writeTo_23 rfl ?_
        refine j_bipush (np := 26) cb_40 dX6_writeTo_24 rfl ?_
        refine j_callVv (ci := 7) (np := 29) (bc := bc) (bs := bs) (cb := 0) (cs := 0) (dd := d - 1) (As := [.int (40 : Int32)]) (st := []) caX7_add mlX6_117 imX7_add seX7_add rfl rfl (by decide) (fun b hb => wX7_add (by omega) hb) (by omega) rfl rfl (Nat.le_of_ble_eq_true rfl) dX6_writeTo_26 rfl (fun b4 => ?_)
        exact kbX6_writeTo_29 hd ih
def fX6_writeTo (N : Nat) (v0 : Nat) (v1 : Nat) (m0 : qM) : Option (qM) :=
  (qChk m0 v0 6 (fX6_markOpenings N v0 m0)).bind fun b1 =>
  (lX6_writeTo_6 N v0 v1 N (0 : Int32) b1).bind fun o2 =>
  some o2
set_option maxRecDepth 100000 in
theorem bX6_writeTo {E : qE} {N d bc bs : Nat} (hd : 1 ≤ d) {v0 : Nat} {v1 : Nat} {m0 : qM} : qB E yX6_writeTo cX6_writeTo 3 none (fun _ => True) d bc bs 0 [(0, .ref (E.2.1 + v0)), (1, .ref (E.2.1 + v1))] [] m0 (fX6_writeTo N v0 v1 m0) (fun b rr => rr = (none, b)) := by
  unfold fX6_writeTo
  refine j_aload_n (q := 0) (np := 1) rfl rfl dX6_writeTo_0 rfl ?_
  refine j_callVv (ci := 6) (np := 4) (bc := bc) (bs := bs) (cb := 0) (cs := 0) (dd := d - 1) (As := []) (st := []) caX6_markOpenings mlX6_114 imX6_markOpenings seX6_markOpenings rfl rfl (by decide) (fun b hb => wX6_markOpenings (by omega) hb) (by omega) rfl rfl (Nat.le_of_ble_eq_true rfl) dX6_writeTo_1 rfl (fun b1 => ?_)
  refine j_iconst (np := 5) ci_0 dX6_writeTo_4 rfl ?_
  refine j_istore_n (np := 6) (lv2 := [(2, .int (0 : Int32)), (0, .ref (E.2.1 + v0)), (1, .ref (E.2.1 + v1))]) rfl (by decide) dX6_writeTo_5 rfl rfl ?_
  refine j_sub (lv2 := [(0, .ref (E.2.1 + v0)), (1, .ref (E.2.1 + v1)), (2, .int (0 : Int32))]) [1, 2, 0] rfl ?_
  refine j_loop (xp := 82) (lvX := fun o2 => []) (mX := fun o2 => o2) (lbX6_writeTo_6 hd _ _ _) (fun o2 => ?_)
  exact j_vret rfl dX6_writeTo_82 (fun rr h => h)
set_option maxRecDepth 100000 in
theorem wX6_writeTo {E : qE} {N d : Nat} (hd : 1 ≤ d) {v0 : Nat} {v1 : Nat} {m0 : qM} {b : qM} (h : fX6_writeTo N v0 v1 m0 = some b) : qRun E yX6_writeTo cX6_writeTo 3 none d 0 0 [.ref (E.2.1 + v0), .ref (E.2.1 + v1)] m0 (none, b) := q_met pnX6 (Nat.le_of_ble_eq_true rfl) (bX6_writeTo hd b _ h rfl)
theorem dX7_init_0 : decode cX7_init 0 = .ok (.aload_n 0, 1) := by decide +kernel
theorem dX7_init_1 : decode cX7_init 1 = .ok (.invokespecial 3, 3) := by decide +kernel
theorem dX7_init_4 : decode cX7_init 4 = .ok (.aload_n 0, 1) := by decide +kernel
theorem dX7_init_5 : decode cX7_init 5 = .ok (.bipush 120, 2) := by decide +kernel
theorem dX7_init_7 : decode cX7_init 7 = .ok (.newarray .char, 2) := by decide +kernel
theorem dX7_init_9 : decode cX7_init 9 = .ok (.putfield 9, 3) := by decide +kernel
theorem dX7_init_12 : decode cX7_init 12 = .ok (.return_, 1) := by decide +kernel
def fX7_init (N : Nat) (v0 : Nat) (m0 : qM) : Option (qM) :=
  if ¬ (120 : Int32) < 0 ∧ (120 : Int32).toNatClampNeg ≤ 120 then qNew m0 11 (120 : Int32).toNatClampNeg (fun a1 m2 =>
  (qpR m2 v0 7 0 a1).bind fun m3 =>
  some m3
  ) else none
set_option maxRecDepth 100000 in
theorem bX7_init {E : qE} {N d bc bs : Nat} (hd : 1 ≤ d) {v0 : Nat} {m0 : qM} : qB E yX7_init cX7_init 1 none (fun _ => True) d (bc + 1) (bs + 120) 0 [(0, .ref (E.2.1 + v0))] [] m0 (fX7_init N v0 m0) (fun b rr => rr = (none, b)) := by
  unfold fX7_init
  refine j_aload_n (q := 0) (np := 1) rfl rfl dX7_init_0 rfl ?_
  refine j_objInit (np := 4) mlX7_3 imObj cdObj (by omega) (Nat.le_of_ble_eq_true rfl) dX7_init_1 rfl ?_
  refine j_aload_n (q := 0) (np := 5) rfl rfl dX7_init_4 rfl ?_
  refine j_bipush (np := 7) cb_120 dX7_init_5 rfl ?_
  refine j_bud (b1 := bc + 1) (b2 := bs + 120) (by omega) (by omega) ?_
  refine j_newarr (bc := bc) (bs := bs) (c0 := 11) (t := 0) (n0 := 120) (np := 9) (atype := .char) (ty := .char) (Or.inl rfl) rfl rfl (by decide) (by decide) (fun _ => rfl) (fun _ _ => rfl) ac_char dX7_init_7 rfl (fun a1 m2 => ?_)
  refine j_pR (np := 12) flX7_9 (fun _ => rfl) dX7_init_9 rfl (fun m3 => ?_)
  exact j_vret rfl dX7_init_12 (fun rr h => h)
set_option maxRecDepth 100000 in
theorem wX7_init {E : qE} {N d : Nat} (hd : 1 ≤ d) {v0 : Nat} {m0 : qM} {b : qM} (h : fX7_init N v0 m0 = some b) : qRun E yX7_init cX7_init 1 none d 1 120 [.ref (E.2.1 + v0)] m0 (none, b) := q_met pnX7 (Nat.le_of_ble_eq_true rfl) ((j_bud (by omega) (by omega) (bX7_init (bc := 0) (bs := 0) hd)) b _ h rfl)
