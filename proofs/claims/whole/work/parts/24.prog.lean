theorem dX9_round_0 : decode cX9_round 0 = .ok (.iload_n 1, 1) := by decide +kernel
theorem dX9_round_1 : decode cX9_round 1 = .ok (.iconst 1, 1) := by decide +kernel
theorem dX9_round_2 : decode cX9_round 2 = .ok (.if_icmp .lt 9, 3) := by decide +kernel
theorem dX9_round_5 : decode cX9_round 5 = .ok (.iload_n 1, 1) := by decide +kernel
theorem dX9_round_6 : decode cX9_round 6 = .ok (.bipush 39, 2) := by decide +kernel
theorem dX9_round_8 : decode cX9_round 8 = .ok (.if_icmp .le 6, 3) := by decide +kernel
theorem dX9_round_11 : decode cX9_round 11 = .ok (.bipush (-2), 2) := by decide +kernel
theorem dX9_round_13 : decode cX9_round 13 = .ok (.ireturn, 1) := by decide +kernel
theorem dX9_round_14 : decode cX9_round 14 = .ok (.aload_n 0, 1) := by decide +kernel
theorem dX9_round_15 : decode cX9_round 15 = .ok (.getfield 22, 3) := by decide +kernel
theorem dX9_round_18 : decode cX9_round 18 = .ok (.invokevirtual 114, 3) := by decide +kernel
theorem dX9_round_21 : decode cX9_round 21 = .ok (.istore_n 2, 1) := by decide +kernel
theorem dX9_round_22 : decode cX9_round 22 = .ok (.iconst 0, 1) := by decide +kernel
theorem dX9_round_23 : decode cX9_round 23 = .ok (.istore_n 3, 1) := by decide +kernel
theorem dX9_round_24 : decode cX9_round 24 = .ok (.iload_n 3, 1) := by decide +kernel
theorem dX9_round_25 : decode cX9_round 25 = .ok (.iload_n 2, 1) := by decide +kernel
theorem dX9_round_26 : decode cX9_round 26 = .ok (.if_icmp .ge 52, 3) := by decide +kernel
theorem dX9_round_29 : decode cX9_round 29 = .ok (.aload_n 0, 1) := by decide +kernel
theorem dX9_round_30 : decode cX9_round 30 = .ok (.getfield 22, 3) := by decide +kernel
theorem dX9_round_33 : decode cX9_round 33 = .ok (.invokevirtual 178, 3) := by decide +kernel
theorem dX9_round_36 : decode cX9_round 36 = .ok (.ifCond .ne 42, 3) := by decide +kernel
theorem dX9_round_39 : decode cX9_round 39 = .ok (.iconst 0, 1) := by decide +kernel
theorem dX9_round_40 : decode cX9_round 40 = .ok (.istore 4, 2) := by decide +kernel
theorem dX9_round_42 : decode cX9_round 42 = .ok (.iload 4, 2) := by decide +kernel
theorem dX9_round_44 : decode cX9_round 44 = .ok (.iload_n 2, 1) := by decide +kernel
theorem dX9_round_45 : decode cX9_round 45 = .ok (.if_icmp .ge 27, 3) := by decide +kernel
theorem dX9_round_48 : decode cX9_round 48 = .ok (.aload_n 0, 1) := by decide +kernel
theorem dX9_round_49 : decode cX9_round 49 = .ok (.getfield 22, 3) := by decide +kernel
theorem dX9_round_52 : decode cX9_round 52 = .ok (.invokevirtual 178, 3) := by decide +kernel
theorem dX9_round_55 : decode cX9_round 55 = .ok (.ifCond .ne 17, 3) := by decide +kernel
theorem dX9_round_58 : decode cX9_round 58 = .ok (.aload_n 0, 1) := by decide +kernel
theorem dX9_round_59 : decode cX9_round 59 = .ok (.iload_n 3, 1) := by decide +kernel
theorem dX9_round_60 : decode cX9_round 60 = .ok (.iload 4, 2) := by decide +kernel
theorem dX9_round_62 : decode cX9_round 62 = .ok (.iload_n 1, 1) := by decide +kernel
theorem dX9_round_63 : decode cX9_round 63 = .ok (.invokevirtual 182, 3) := by decide +kernel
theorem dX9_round_66 : decode cX9_round 66 = .ok (.iinc 4 1, 3) := by decide +kernel
theorem dX9_round_69 : decode cX9_round 69 = .ok (.goto (-27), 3) := by decide +kernel
theorem dX9_round_72 : decode cX9_round 72 = .ok (.iinc 3 1, 3) := by decide +kernel
theorem dX9_round_75 : decode cX9_round 75 = .ok (.goto (-51), 3) := by decide +kernel
theorem dX9_round_78 : decode cX9_round 78 = .ok (.aload_n 0, 1) := by decide +kernel
theorem dX9_round_79 : decode cX9_round 79 = .ok (.getfield 22, 3) := by decide +kernel
theorem dX9_round_82 : decode cX9_round 82 = .ok (.invokevirtual 114, 3) := by decide +kernel
theorem dX9_round_85 : decode cX9_round 85 = .ok (.iload_n 2, 1) := by decide +kernel
theorem dX9_round_86 : decode cX9_round 86 = .ok (.isub, 1) := by decide +kernel
theorem dX9_round_87 : decode cX9_round 87 = .ok (.ireturn, 1) := by decide +kernel
def lX9_round_42 (N : Nat) (v0 : Nat) (v1 : Int32) (v2 : Int32) (v3 : Int32) : Nat → Int32 → qM → Option (qM)
  | 0, _, _ => none
  | n + 1, v4, m0 =>
    if v2 ≤ v4 then (
    some m0
    ) else (
    (qgR m0 v0 9 2).bind fun x1 =>
    (qChk m0 x1 1 (fX1_isFull N x1 m0)).bind fun b2 =>
    if b2.1 = 0 then (
    (qChk b2.2 v0 9 (fX9_tryInRound N v0 v3 v4 v1 b2.2)).bind fun b3 =>
    lX9_round_42 N v0 v1 v2 v3 n (v4 + (1 : Int32)) b3
    ) else (
    some b2.2
    )
    )
set_option maxRecDepth 100000 in
theorem lbX9_round_42 {E : qE} {N d bc bs : Nat} (hd : 5 ≤ d) {v0 : Nat} {v1 : Int32} {v2 : Int32} {v3 : Int32} : ∀ (n : Nat) (v4 : Int32) (m0 : qM), qB E yX9_round cX9_round 5 (some .int) (fun _ => True) d bc bs 42 [(0, .ref (E.2.1 + v0)), (1, .int v1), (2, .int v2), (3, .int v3), (4, .int v4)] [] m0 (lX9_round_42 N v0 v1 v2 v3 n v4 m0) (fun o rr => qJ E yX9_round cX9_round 5 (some .int) (fun _ => True) d bc bs 72 [(0, .ref (E.2.1 + v0)), (1, .int v1), (2, .int v2), (3, .int v3)] [] o rr) := by
  intro n
  induction n with
  | zero =>
    intro v4 m0
    exact j_none
  | succ n ih =>
    intro v4 m0
    unfold lX9_round_42
    refine j_iload (q := 4) (np := 44) rfl dX9_round_42 rfl ?_
    refine j_iload_n (q := 2) (np := 45) rfl rfl dX9_round_44 rfl ?_
    refine j_icmp_ge (tgt := 72) (np := 48) dX9_round_45 rfl rfl ?_ ?_
    · refine j_sub (lv2 := [(0, .ref (E.2.1 + v0)), (1, .int v1), (2, .int v2), (3, .int v3)]) [0, 1, 2, 3] rfl ?_
      exact j_exit (fun rr h => h)
    · refine j_aload_n (q := 0) (np := 49) rfl rfl dX9_round_48 rfl ?_
      refine j_gR (np := 52) flX9_22 dX9_round_49 rfl (fun x1 => ?_)
      refine j_callVi (ci := 1) (np := 55) (bc := bc) (bs := bs) (cb := 0) (cs := 0) (dd := d - 1) (As := []) (st := []) caX1_isFull mlX9_178 imX1_isFull seX1_isFull rfl rfl (by decide) (fun b hb => wX1_isFull (by omega) hb) (by omega) rfl rfl (Nat.le_of_ble_eq_true rfl) dX9_round_52 rfl (fun b2 => ?_)
      refine j_if_ne (tgt := 72) (np := 58) dX9_round_55 rfl rfl ?_ ?_
      · refine j_sub (lv2 := [(0, .ref (E.2.1 + v0)), (1, .int v1), (2, .int v2), (3, .int v3)]) [0, 1, 2, 3] rfl ?_
        exact j_exit (fun rr h => h)
      · refine j_aload_n (q := 0) (np := 59) rfl rfl dX9_round_58 rfl ?_
        refine j_iload_n (q := 3) (np := 60) rfl rfl dX9_round_59 rfl ?_
        refine j_iload (q := 4) (np := 62) rfl dX9_round_60 rfl ?_
        refine j_iload_n (q := 1) (np := 63) rfl rfl dX9_round_62 rfl ?_
        refine j_callVv (ci := 9) (np := 66) (bc := bc) (bs := bs) (cb := 0) (cs := 0) (dd := d - 1) (As := [.int v3, .int v4, .int v1]) (st := []) caX9_tryInRound mlX9_182 imX9_tryInRound seX9_tryInRound rfl rfl (by decide) (fun b hb => wX9_tryInRound (by omega) hb) (by omega) rfl rfl (Nat.le_of_ble_eq_true rfl) dX9_round_63 rfl (fun b3 => ?_)
        refine j_iinc (q := 4) (np := 69) (lv2 := [(4, .int (v4 + (1 : Int32))), (0, .ref (E.2.1 + v0)), (1, .int v1), (2, .int v2), (3, .int v3)]) rfl (congrArg _ ci_1) (by decide) dX9_round_66 rfl rfl ?_
        refine j_goto (tgt := 42) dX9_round_69 rfl ?_
        refine j_sub (lv2 := [(0, .ref (E.2.1 + v0)), (1, .int v1), (2, .int v2), (3, .int v3), (4, .int (v4 + (1 : Int32)))]) [1, 2, 3, 4, 0] rfl ?_
        exact ih _ _
def lX9_round_24 (N : Nat) (v0 : Nat) (v1 : Int32) (v2 : Int32) : Nat → Int32 → qM → Option (qM)
  | 0, _, _ => none
  | n + 1, v3, m0 =>
    if v2 ≤ v3 then (
    some m0
    ) else (
    (qgR m0 v0 9 2).bind fun x1 =>
    (qChk m0 x1 1 (fX1_isFull N x1 m0)).bind fun b2 =>
    if b2.1 = 0 then (
    (lX9_round_42 N v0 v1 v2 v3 N (0 : Int32) b2.2).bind fun o3 =>
    lX9_round_24 N v0 v1 v2 n (v3 + (1 : Int32)) o3
    ) else (
    some b2.2
    )
    )
set_option maxRecDepth 100000 in
theorem lbX9_round_24 {E : qE} {N d bc bs : Nat} (hd : 5 ≤ d) {v0 : Nat} {v1 : Int32} {v2 : Int32} : ∀ (n : Nat) (v3 : Int32) (m0 : qM), qB E yX9_round cX9_round 5 (some .int) (fun _ => True) d bc bs 24 [(0, .ref (E.2.1 + v0)), (1, .int v1), (2, .int v2), (3, .int v3)] [] m0 (lX9_round_24 N v0 v1 v2 n v3 m0) (fun o rr => qJ E yX9_round cX9_round 5 (some .int) (fun _ => True) d bc bs 78 [(0, .ref (E.2.1 + v0)), (2, .int v2)] [] o rr) := by
  intro n
  induction n with
  | zero =>
    intro v3 m0
    exact j_none
  | succ n ih =>
    intro v3 m0
    unfold lX9_round_24
    refine j_iload_n (q := 3) (np := 25) rfl rfl dX9_round_24 rfl ?_
    refine j_iload_n (q := 2) (np := 26) rfl rfl dX9_round_25 rfl ?_
    refine j_icmp_ge (tgt := 78) (np := 29) dX9_round_26 rfl rfl ?_ ?_
    · refine j_sub (lv2 := [(0, .ref (E.2.1 + v0)), (2, .int v2)]) [0, 2] rfl ?_
      exact j_exit (fun rr h => h)
    · refine j_aload_n (q := 0) (np := 30) rfl rfl dX9_round_29 rfl ?_
      refine j_gR (np := 33) flX9_22 dX9_round_30 rfl (fun x1 => ?_)
      refine j_callVi (ci := 1) (np := 36) (bc := bc) (bs := bs) (cb := 0) (cs := 0) (dd := d - 1) (As := []) (st := []) caX1_isFull mlX9_178 imX1_isFull seX1_isFull rfl rfl (by decide) (fun b hb => wX1_isFull (by omega) hb) (by omega) rfl rfl (Nat.le_of_ble_eq_true rfl) dX9_round_33 rfl (fun b2 => ?_)
      refine j_if_ne (tgt := 78) (np := 39) dX9_round_36 rfl rfl ?_ ?_
      · refine j_sub (lv2 := [(0, .ref (E.2.1 + v0)), (2, .int v2)]) [0, 2] rfl ?_
        exact j_exit (fun rr h => h)
      · refine j_iconst (np := 40) ci_0 dX9_round_39 rfl ?_
        refine j_istore (np := 42) (lv2 := [(4, .int (0 : Int32)), (0, .ref (E.2.1 + v0)), (1, .int v1), (2, .int v2), (3, .int v3)]) (by decide) dX9_round_40 rfl rfl ?_
        refine j_sub (lv2 := [(0, .ref (E.2.1 + v0)), (1, .int v1), (2, .int v2), (3, .int v3), (4, .int (0 : Int32))]) [1, 2, 3, 4, 0] rfl ?_
        refine j_loop (xp := 72) (lvX := fun o3 => [(0, .ref (E.2.1 + v0)), (1, .int v1), (2, .int v2), (3, .int v3)]) (mX := fun o3 => o3) (lbX9_round_42 hd _ _ _) (fun o3 => ?_)
        refine j_iinc (q := 3) (np := 75) (lv2 := [(3, .int (v3 + (1 : Int32))), (0, .ref (E.2.1 + v0)), (1, .int v1), (2, .int v2)]) rfl (congrArg _ ci_1) (by decide) dX9_round_72 rfl rfl ?_
        refine j_goto (tgt := 24) dX9_round_75 rfl ?_
        refine j_sub (lv2 := [(0, .ref (E.2.1 + v0)), (1, .int v1), (2, .int v2), (3, .int (v3 + (1 : Int32)))]) [1, 2, 3, 0] rfl ?_
        exact ih _ _
def fX9_round (N : Nat) (v0 : Nat) (v1 : Int32) (m0 : qM) : Option (Int32 × qM) :=
  if v1 < (1 : Int32) then (
  some ((-2 : Int32), m0)
  ) else (
  if v1 ≤ (39 : Int32) then (
  (qgR m0 v0 9 2).bind fun x1 =>
  (qChk m0 x1 1 (fX1_count N x1 m0)).bind fun b2 =>
  (lX9_round_24 N v0 v1 b2.1 N (0 : Int32) b2.2).bind fun o3 =>
  (qgR o3 v0 9 2).bind fun x4 =>
  (qChk o3 x4 1 (fX1_count N x4 o3)).bind fun b5 =>
  some (b5.1 - b2.1, b5.2)
  ) else (
  some ((-2 : Int32), m0)
  )
  )
set_option maxRecDepth 100000 in
theorem bX9_round {E : qE} {N d bc bs : Nat} (hd : 5 ≤ d) {v0 : Nat} {v1 : Int32} {m0 : qM} : qB E yX9_round cX9_round 5 (some .int) (fun _ => True) d bc bs 0 [(0, .ref (E.2.1 + v0)), (1, .int v1)] [] m0 (fX9_round N v0 v1 m0) (fun b rr => rr = (some (.int b.1), b.2)) := by
  unfold fX9_round
  refine j_iload_n (q := 1) (np := 1) rfl rfl dX9_round_0 rfl ?_
  refine j_iconst (np := 2) ci_1 dX9_round_1 rfl ?_
  refine j_icmp_lt (tgt := 11) (np := 5) dX9_round_2 rfl rfl ?_ ?_
  · refine j_bipush (np := 13) cb_m2 dX9_round_11 rfl ?_
    exact j_iret rfl dX9_round_13 (fun rr h => h)
  · refine j_iload_n (q := 1) (np := 6) rfl rfl dX9_round_5 rfl ?_
    refine j_bipush (np := 8) cb_39 dX9_round_6 rfl ?_
    refine j_icmp_le (tgt := 14) (np := 11) dX9_round_8 rfl rfl ?_ ?_
    · refine j_aload_n (q := 0) (np := 15) rfl rfl dX9_round_14 rfl ?_
      refine j_gR (np := 18) flX9_22 dX9_round_15 rfl (fun x1 => ?_)
      refine j_callVi (ci := 1) (np := 21) (bc := bc) (bs := bs) (cb := 0) (cs := 0) (dd := d - 1) (As := []) (st := []) caX1_count mlX9_114 imX1_count seX1_count rfl rfl (by decide) (fun b hb => wX1_count (by omega) hb) (by omega) rfl rfl (Nat.le_of_ble_eq_true rfl) dX9_round_18 rfl (fun b2 => ?_)
      refine j_istore_n (np := 22) (lv2 := [(2, .int b2.1), (0, .ref (E.2.1 + v0)), (1, .int v1)]) rfl (by decide) dX9_round_21 rfl rfl ?_
      refine j_iconst (np := 23) ci_0 dX9_round_22 rfl ?_
      refine j_istore_n (np := 24) (lv2 := [(3, .int (0 : Int32)), (2, .int b2.1), (0, .ref (E.2.1 + v0)), (1, .int v1)]) rfl (by decide) dX9_round_23 rfl rfl ?_
      refine j_sub (lv2 := [(0, .ref (E.2.1 + v0)), (1, .int v1), (2, .int b2.1), (3, .int (0 : Int32))]) [2, 3, 1, 0] rfl ?_
      refine j_loop (xp := 78) (lvX := fun o3 => [(0, .ref (E.2.1 + v0)), (2, .int b2.1)]) (mX := fun o3 => o3) (lbX9_round_24 hd _ _ _) (fun o3 => ?_)
      refine j_aload_n (q := 0) (np := 79) rfl rfl dX9_round_78 rfl ?_
      refine j_gR (np := 82) flX9_22 dX9_round_79 rfl (fun x4 => ?_)
      refine j_callVi (ci := 1) (np := 85) (bc := bc) (bs := bs) (cb := 0) (cs := 0) (dd := d - 1) (As := []) (st := []) caX1_count mlX9_114 imX1_count seX1_count rfl rfl (by decide) (fun b hb => wX1_count (by omega) hb) (by omega) rfl rfl (Nat.le_of_ble_eq_true rfl) dX9_round_82 rfl (fun b5 => ?_)
      refine j_iload_n (q := 1) (np := 86) rfl rfl dX9_round_85 rfl ?_
      refine j_isub (np := 87) dX9_round_86 rfl ?_
      exact j_iret rfl dX9_round_87 (fun rr h => h)
    · refine j_bipush (np := 13) cb_m2 dX9_round_11 rfl ?_
      exact j_iret rfl dX9_round_13 (fun rr h => h)
set_option maxRecDepth 100000 in
theorem wX9_round {E : qE} {N d : Nat} (hd : 5 ≤ d) {v0 : Nat} {v1 : Int32} {m0 : qM} {b : Int32 × qM} (h : fX9_round N v0 v1 m0 = some b) : qRun E yX9_round cX9_round 5 (some .int) d 0 0 [.ref (E.2.1 + v0), .int v1] m0 (some (.int b.1), b.2) := q_met pnX9 (Nat.le_of_ble_eq_true rfl) (bX9_round hd b _ h rfl)
theorem dX9_shortest_0 : decode cX9_shortest 0 = .ok (.aload_n 0, 1) := by decide +kernel
theorem dX9_shortest_1 : decode cX9_shortest 1 = .ok (.getfield 22, 3) := by decide +kernel
theorem dX9_shortest_4 : decode cX9_shortest 4 = .ok (.iload_n 1, 1) := by decide +kernel
theorem dX9_shortest_5 : decode cX9_shortest 5 = .ok (.invokevirtual 106, 3) := by decide +kernel
theorem dX9_shortest_8 : decode cX9_shortest 8 = .ok (.ifCond .ne 5, 3) := by decide +kernel
theorem dX9_shortest_11 : decode cX9_shortest 11 = .ok (.iconst (-1), 1) := by decide +kernel
theorem dX9_shortest_12 : decode cX9_shortest 12 = .ok (.ireturn, 1) := by decide +kernel
theorem dX9_shortest_13 : decode cX9_shortest 13 = .ok (.iload_n 2, 1) := by decide +kernel
theorem dX9_shortest_14 : decode cX9_shortest 14 = .ok (.ifCond .lt 8, 3) := by decide +kernel
theorem dX9_shortest_17 : decode cX9_shortest 17 = .ok (.iload_n 2, 1) := by decide +kernel
theorem dX9_shortest_18 : decode cX9_shortest 18 = .ok (.iconst 4, 1) := by decide +kernel
theorem dX9_shortest_19 : decode cX9_shortest 19 = .ok (.if_icmp .le 6, 3) := by decide +kernel
theorem dX9_shortest_22 : decode cX9_shortest 22 = .ok (.bipush (-2), 2) := by decide +kernel
theorem dX9_shortest_24 : decode cX9_shortest 24 = .ok (.ireturn, 1) := by decide +kernel
theorem dX9_shortest_25 : decode cX9_shortest 25 = .ok (.aload_n 0, 1) := by decide +kernel
theorem dX9_shortest_26 : decode cX9_shortest 26 = .ok (.getfield 45, 3) := by decide +kernel
theorem dX9_shortest_29 : decode cX9_shortest 29 = .ok (.aload_n 0, 1) := by decide +kernel
theorem dX9_shortest_30 : decode cX9_shortest 30 = .ok (.getfield 22, 3) := by decide +kernel
theorem dX9_shortest_33 : decode cX9_shortest 33 = .ok (.aload_n 0, 1) := by decide +kernel
theorem dX9_shortest_34 : decode cX9_shortest 34 = .ok (.getfield 22, 3) := by decide +kernel
theorem dX9_shortest_37 : decode cX9_shortest 37 = .ok (.iload_n 1, 1) := by decide +kernel
theorem dX9_shortest_38 : decode cX9_shortest 38 = .ok (.invokevirtual 129, 3) := by decide +kernel
theorem dX9_shortest_41 : decode cX9_shortest 41 = .ok (.iload_n 2, 1) := by decide +kernel
theorem dX9_shortest_42 : decode cX9_shortest 42 = .ok (.invokevirtual 186, 3) := by decide +kernel
theorem dX9_shortest_45 : decode cX9_shortest 45 = .ok (.ireturn, 1) := by decide +kernel
def fX9_shortest (N : Nat) (v0 : Nat) (v1 : Int32) (v2 : Int32) (m0 : qM) : Option (Int32 × qM) :=
  (qgR m0 v0 9 2).bind fun x1 =>
  (qChk m0 x1 1 (fX1_has N x1 v1 m0)).bind fun b2 =>
  if b2.1 = 0 then (
  some ((-1 : Int32), b2.2)
  ) else (
  if v2 < 0 then (
  some ((-2 : Int32), b2.2)
  ) else (
  if v2 ≤ (4 : Int32) then (
  (qgR b2.2 v0 9 5).bind fun x3 =>
  (qgR b2.2 v0 9 2).bind fun x4 =>
  (qgR b2.2 v0 9 2).bind fun x5 =>
  (qChk b2.2 x5 1 (fX1_at N x5 v1 b2.2)).bind fun b6 =>
  (qChk b6.2 x3 2 (fX2_search N x3 x4 b6.1 v2 b6.2)).bind fun b7 =>
  some (b7.1, b7.2)
  ) else (
  some ((-2 : Int32), b2.2)
  )
  )
  )
set_option maxRecDepth 100000 in
theorem bX9_shortest {E : qE} {N d bc bs : Nat} (hd : 7 ≤ d) {v0 : Nat} {v1 : Int32} {v2 : Int32} {m0 : qM} : qB E yX9_shortest cX9_shortest 3 (some .int) (fun _ => True) d bc bs 0 [(0, .ref (E.2.1 + v0)), (1, .int v1), (2, .int v2)] [] m0 (fX9_shortest N v0 v1 v2 m0) (fun b rr => rr = (some (.int b.1), b.2)) := by
  unfold fX9_shortest
  refine j_aload_n (q := 0) (np := 1) rfl rfl dX9_shortest_0 rfl ?_
  refine j_gR (np := 4) flX9_22 dX9_shortest_1 rfl (fun x1 => ?_)
  refine j_iload_n (q := 1) (np := 5) rfl rfl dX9_shortest_4 rfl ?_
  refine j_callVi (ci := 1) (np := 8) (bc := bc) (bs := bs) (cb := 0) (cs := 0) (dd := d - 1) (As := [.int v1]) (st := []) caX1_has mlX9_106 imX1_has seX1_has rfl rfl (by decide) (fun b hb => wX1_has (by omega) hb) (by omega) rfl rfl (Nat.le_of_ble_eq_true rfl) dX9_shortest_5 rfl (fun b2 => ?_)
  refine j_if_ne (tgt := 13) (np := 11) dX9_shortest_8 rfl rfl ?_ ?_
  · refine j_iload_n (q := 2) (np := 14) rfl rfl dX9_shortest_13 rfl ?_
    refine j_if_lt (tgt := 22) (np := 17) dX9_shortest_14 rfl rfl ?_ ?_
    · refine j_bipush (np := 24) cb_m2 dX9_shortest_22 rfl ?_
      exact j_iret rfl dX9_shortest_24 (fun rr h => h)
    · refine j_iload_n (q := 2) (np := 18) rfl rfl dX9_shortest_17 rfl ?_
      refine j_iconst (np := 19) ci_4 dX9_shortest_18 rfl ?_
      refine j_icmp_le (tgt := 25) (np := 22) dX9_shortest_19 rfl rfl ?_ ?_
      · refine j_aload_n (q := 0) (np := 26) rfl rfl dX9_shortest_25 rfl ?_
        refine j_gR (np := 29) flX9_45 dX9_shortest_26 rfl (fun x3 => ?_)
        refine j_aload_n (q := 0) (np := 30) rfl rfl dX9_shortest_29 rfl ?_
        refine j_gR (np := 33) flX9_22 dX9_shortest_30 rfl (fun x4 => ?_)
        refine j_aload_n (q := 0) (np := 34) rfl rfl dX9_shortest_33 rfl ?_
        refine j_gR (np := 37) flX9_22 dX9_shortest_34 rfl (fun x5 => ?_)
        refine j_iload_n (q := 1) (np := 38) rfl rfl dX9_shortest_37 rfl ?_
        refine j_callVr (ci := 1) (np := 41) (bc := bc) (bs := bs) (cb := 0) (cs := 0) (dd := d - 1) (As := [.int v1]) (st := [.ref (E.2.1 + x4), .ref (E.2.1 + x3)]) caX1_at mlX9_129 imX1_at seX1_at rfl rfl (by decide) (fun b hb => wX1_at (by omega) hb) (by omega) rfl rfl (Nat.le_of_ble_eq_true rfl) dX9_shortest_38 rfl (fun b6 => ?_)
        refine j_iload_n (q := 2) (np := 42) rfl rfl dX9_shortest_41 rfl ?_
        refine j_callVi (ci := 2) (np := 45) (bc := bc) (bs := bs) (cb := 0) (cs := 0) (dd := d - 1) (As := [.ref (E.2.1 + x4), .ref (E.2.1 + b6.1), .int v2]) (st := []) caX2_search mlX9_186 imX2_search seX2_search rfl rfl (by decide) (fun b hb => wX2_search (by omega) hb) (by omega) rfl rfl (Nat.le_of_ble_eq_true rfl) dX9_shortest_42 rfl (fun b7 => ?_)
        exact j_iret rfl dX9_shortest_45 (fun rr h => h)
      · refine j_bipush (np := 24) cb_m2 dX9_shortest_22 rfl ?_
        exact j_iret rfl dX9_shortest_24 (fun rr h => h)
  · refine j_iconst (np := 12) ci_m1 dX9_shortest_11 rfl ?_
    exact j_iret rfl dX9_shortest_12 (fun rr h => h)
set_option maxRecDepth 100000 in
theorem wX9_shortest {E : qE} {N d : Nat} (hd : 7 ≤ d) {v0 : Nat} {v1 : Int32} {v2 : Int32} {m0 : qM} {b : Int32 × qM} (h : fX9_shortest N v0 v1 v2 m0 = some b) : qRun E yX9_shortest cX9_shortest 3 (some .int) d 0 0 [.ref (E.2.1 + v0), .int v1, .int v2] m0 (some (.int b.1), b.2) := q_met pnX9 (Nat.le_of_ble_eq_true rfl) (bX9_shortest hd b _ h rfl)
theorem dX9_isTruthValue_0 : decode cX9_isTruthValue 0 = .ok (.iload_n 0, 1) := by decide +kernel
theorem dX9_isTruthValue_1 : decode cX9_isTruthValue 1 = .ok (.ifCond .lt 12, 3) := by decide +kernel
theorem dX9_isTruthValue_4 : decode cX9_isTruthValue 4 = .ok (.iload_n 0, 1) := by decide +kernel
theorem dX9_isTruthValue_5 : decode cX9_isTruthValue 5 = .ok (.iconst 3, 1) := by decide +kernel
theorem dX9_isTruthValue_6 : decode cX9_isTruthValue 6 = .ok (.if_icmp .ge 7, 3) := by decide +kernel
theorem dX9_isTruthValue_9 : decode cX9_isTruthValue 9 = .ok (.iconst 1, 1) := by decide +kernel
theorem dX9_isTruthValue_10 : decode cX9_isTruthValue 10 = .ok (.goto 4, 3) := by decide +kernel
theorem dX9_isTruthValue_13 : decode cX9_isTruthValue 13 = .ok (.iconst 0, 1) := by decide +kernel
theorem dX9_isTruthValue_14 : decode cX9_isTruthValue 14 = .ok (.ireturn, 1) := by decide +kernel
def fX9_isTruthValue (N : Nat) (v0 : Int32) (m0 : qM) : Option (Int32 × qM) :=
  if v0 < 0 then (
  some ((0 : Int32), m0)
  ) else (
  if (3 : Int32) ≤ v0 then (
  some ((0 : Int32), m0)
  ) else (
  some ((1 : Int32), m0)
  )
  )
set_option maxRecDepth 100000 in
theorem bX9_isTruthValue {E : qE} {N d bc bs : Nat} (hd : 0 ≤ d) {v0 : Int32} {m0 : qM} : qB E yX9_isTruthValue cX9_isTruthValue 1 (some .boolean) (fun _ => True) d bc bs 0 [(0, .int v0)] [] m0 (fX9_isTruthValue N v0 m0) (fun b rr => rr = (some (.int b.1), b.2)) := by
  unfold fX9_isTruthValue
  refine j_iload_n (q := 0) (np := 1) rfl rfl dX9_isTruthValue_0 rfl ?_
  refine j_if_lt (tgt := 13) (np := 4) dX9_isTruthValue_1 rfl rfl ?_ ?_
  · refine j_iconst (np := 14) ci_0 dX9_isTruthValue_13 rfl ?_
    exact j_zret rfl dX9_isTruthValue_14 (fun rr h => by rw [z0]; exact h)
  · refine j_iload_n (q := 0) (np := 5) rfl rfl dX9_isTruthValue_4 rfl ?_
    refine j_iconst (np := 6) ci_3 dX9_isTruthValue_5 rfl ?_
    refine j_icmp_ge (tgt := 13) (np := 9) dX9_isTruthValue_6 rfl rfl ?_ ?_
    · refine j_iconst (np := 14) ci_0 dX9_isTruthValue_13 rfl ?_
      exact j_zret rfl dX9_isTruthValue_14 (fun rr h => by rw [z0]; exact h)
    · refine j_iconst (np := 10) ci_1 dX9_isTruthValue_9 rfl ?_
      refine j_goto (tgt := 14) dX9_isTruthValue_10 rfl ?_
      exact j_zret rfl dX9_isTruthValue_14 (fun rr h => by rw [z1]; exact h)
set_option maxRecDepth 100000 in
theorem wX9_isTruthValue {E : qE} {N d : Nat} (hd : 0 ≤ d) {v0 : Int32} {m0 : qM} {b : Int32 × qM} (h : fX9_isTruthValue N v0 m0 = some b) : qRun E yX9_isTruthValue cX9_isTruthValue 1 (some .boolean) d 0 0 [.int v0] m0 (some (.int b.1), b.2) := q_met pnX9 (Nat.le_of_ble_eq_true rfl) (bX9_isTruthValue hd b _ h rfl)
theorem dX9_setEntry_0 : decode cX9_setEntry 0 = .ok (.iload_n 1, 1) := by decide +kernel
theorem dX9_setEntry_1 : decode cX9_setEntry 1 = .ok (.invokestatic 190, 3) := by decide +kernel
theorem dX9_setEntry_4 : decode cX9_setEntry 4 = .ok (.ifCond .eq 10, 3) := by decide +kernel
theorem dX9_setEntry_7 : decode cX9_setEntry 7 = .ok (.iload_n 2, 1) := by decide +kernel
theorem dX9_setEntry_8 : decode cX9_setEntry 8 = .ok (.invokestatic 190, 3) := by decide +kernel
theorem dX9_setEntry_11 : decode cX9_setEntry 11 = .ok (.ifCond .ne 5, 3) := by decide +kernel
theorem dX9_setEntry_14 : decode cX9_setEntry 14 = .ok (.iconst (-1), 1) := by decide +kernel
theorem dX9_setEntry_15 : decode cX9_setEntry 15 = .ok (.ireturn, 1) := by decide +kernel
theorem dX9_setEntry_16 : decode cX9_setEntry 16 = .ok (.iload_n 3, 1) := by decide +kernel
theorem dX9_setEntry_17 : decode cX9_setEntry 17 = .ok (.invokestatic 190, 3) := by decide +kernel
theorem dX9_setEntry_20 : decode cX9_setEntry 20 = .ok (.ifCond .eq 16, 3) := by decide +kernel
theorem dX9_setEntry_23 : decode cX9_setEntry 23 = .ok (.aload_n 0, 1) := by decide +kernel
theorem dX9_setEntry_24 : decode cX9_setEntry 24 = .ok (.getfield 52, 3) := by decide +kernel
theorem dX9_setEntry_27 : decode cX9_setEntry 27 = .ok (.iload_n 1, 1) := by decide +kernel
theorem dX9_setEntry_28 : decode cX9_setEntry 28 = .ok (.iload_n 2, 1) := by decide +kernel
theorem dX9_setEntry_29 : decode cX9_setEntry 29 = .ok (.iload_n 3, 1) := by decide +kernel
theorem dX9_setEntry_30 : decode cX9_setEntry 30 = .ok (.invokevirtual 193, 3) := by decide +kernel
theorem dX9_setEntry_33 : decode cX9_setEntry 33 = .ok (.goto 5, 3) := by decide +kernel
theorem dX9_setEntry_36 : decode cX9_setEntry 36 = .ok (.bipush (-2), 2) := by decide +kernel
theorem dX9_setEntry_38 : decode cX9_setEntry 38 = .ok (.ireturn, 1) := by decide +kernel
def fX9_setEntry (N : Nat) (v0 : Nat) (v1 : Int32) (v2 : Int32) (v3 : Int32) (m0 : qM) : Option (Int32 × qM) :=
  (fX9_isTruthValue N v1 m0).bind fun b1 =>
  if b1.1 = 0 then (
  some ((-1 : Int32), b1.2)
  ) else (
  (fX9_isTruthValue N v2 b1.2).bind fun b2 =>
  if b2.1 = 0 then (
  some ((-1 : Int32), b2.2)
  ) else (
  (fX9_isTruthValue N v3 b2.2).bind fun b3 =>
  if b3.1 = 0 then (
  some ((-2 : Int32), b3.2)
  ) else (
  (qgR b3.2 v0 9 6).bind fun x4 =>
  (qChk b3.2 x4 4 (fX4_replaceEntry N x4 v1 v2 v3 b3.2)).bind fun b5 =>
  some (b5.1, b5.2)
  )
  )
  )
set_option maxRecDepth 100000 in
theorem bX9_setEntry {E : qE} {N d bc bs : Nat} (hd : 1 ≤ d) {v0 : Nat} {v1 : Int32} {v2 : Int32} {v3 : Int32} {m0 : qM} : qB E yX9_setEntry cX9_setEntry 4 (some .int) (fun _ => True) d bc bs 0 [(0, .ref (E.2.1 + v0)), (1, .int v1), (2, .int v2), (3, .int v3)] [] m0 (fX9_setEntry N v0 v1 v2 v3 m0) (fun b rr => rr = (some (.int b.1), b.2)) := by
  unfold fX9_setEntry
  refine j_iload_n (q := 1) (np := 1) rfl rfl dX9_setEntry_0 rfl ?_
  refine j_callSi (np := 4) (bc := bc) (bs := bs) (cb := 0) (cs := 0) (dd := d - 1) (As := [.int v1]) (st := []) caX9_isTruthValue mlX9_190 stX9_isTruthValue (fun b hb => wX9_isTruthValue (by omega) hb) (by omega) rfl rfl (Nat.le_of_ble_eq_true rfl) dX9_setEntry_1 rfl (fun b1 => ?_)
  refine j_if_eq (tgt := 14) (np := 7) dX9_setEntry_4 rfl rfl ?_ ?_
  · refine j_iconst (np := 15) ci_m1 dX9_setEntry_14 rfl ?_
    exact j_iret rfl dX9_setEntry_15 (fun rr h => h)
  · refine j_iload_n (q := 2) (np := 8) rfl rfl dX9_setEntry_7 rfl ?_
    refine j_callSi (np := 11) (bc := bc) (bs := bs) (cb := 0) (cs := 0) (dd := d - 1) (As := [.int v2]) (st := []) caX9_isTruthValue mlX9_190 stX9_isTruthValue (fun b hb => wX9_isTruthValue (by omega) hb) (by omega) rfl rfl (Nat.le_of_ble_eq_true rfl) dX9_setEntry_8 rfl (fun b2 => ?_)
    refine j_if_ne (tgt := 16) (np := 14) dX9_setEntry_11 rfl rfl ?_ ?_
    · refine j_iload_n (q := 3) (np := 17) rfl rfl dX9_setEntry_16 rfl ?_
      refine j_callSi (np := 20) (bc := bc) (bs := bs) (cb := 0) (cs := 0) (dd := d - 1) (As := [.int v3]) (st := []) caX9_isTruthValue mlX9_190 stX9_isTruthValue (fun b hb => wX9_isTruthValue (by omega) hb) (by omega) rfl rfl (Nat.le_of_ble_eq_true rfl) dX9_setEntry_17 rfl (fun b3 => ?_)
      refine j_if_eq (tgt := 36) (np := 23) dX9_setEntry_20 rfl rfl ?_ ?_
      · refine j_bipush (np := 38) cb_m2 dX9_setEntry_36 rfl ?_
        exact j_iret rfl dX9_setEntry_38 (fun rr h => h)
      · refine j_aload_n (q := 0) (np := 24) rfl rfl dX9_setEntry_23 rfl ?_
        refine j_gR (np := 27) flX9_52 dX9_setEntry_24 rfl (fun x4 => ?_)
        refine j_iload_n (q := 1) (np := 28) rfl rfl dX9_setEntry_27 rfl ?_
        refine j_iload_n (q := 2) (np := 29) rfl rfl dX9_setEntry_28 rfl ?_
        refine j_iload_n (q := 3) (np := 30) rfl rfl dX9_setEntry_29 rfl ?_
        refine j_callVi (ci := 4) (np := 33) (bc := bc) (bs := bs) (cb := 0) (cs := 0) (dd := d - 1) (As := [.int v1, .int v2, .int v3]) (st := []) caX4_replaceEntry mlX9_193 imX4_replaceEntry seX4_replaceEntry rfl rfl (by decide) (fun b hb => wX4_replaceEntry (by omega) hb) (by omega) rfl rfl (Nat.le_of_ble_eq_true rfl) dX9_setEntry_30 rfl (fun b5 => ?_)
        refine j_goto (tgt := 38) dX9_setEntry_33 rfl ?_
        exact j_iret rfl dX9_setEntry_38 (fun rr h => h)
    · refine j_iconst (np := 15) ci_m1 dX9_setEntry_14 rfl ?_
      exact j_iret rfl dX9_setEntry_15 (fun rr h => h)
set_option maxRecDepth 100000 in
theorem wX9_setEntry {E : qE} {N d : Nat} (hd : 1 ≤ d) {v0 : Nat} {v1 : Int32} {v2 : Int32} {v3 : Int32} {m0 : qM} {b : Int32 × qM} (h : fX9_setEntry N v0 v1 v2 v3 m0 = some b) : qRun E yX9_setEntry cX9_setEntry 4 (some .int) d 0 0 [.ref (E.2.1 + v0), .int v1, .int v2, .int v3] m0 (some (.int b.1), b.2) := q_met pnX9 (Nat.le_of_ble_eq_true rfl) (bX9_setEntry hd b _ h rfl)
theorem dX9_setDesignated_0 : decode cX9_setDesignated 0 = .ok (.iload_n 1, 1) := by decide +kernel
theorem dX9_setDesignated_1 : decode cX9_setDesignated 1 = .ok (.ifCond .lt 9, 3) := by decide +kernel
theorem dX9_setDesignated_4 : decode cX9_setDesignated 4 = .ok (.iload_n 1, 1) := by decide +kernel
theorem dX9_setDesignated_5 : decode cX9_setDesignated 5 = .ok (.bipush 7, 2) := by decide +kernel
theorem dX9_setDesignated_7 : decode cX9_setDesignated 7 = .ok (.if_icmp .le 8, 3) := by decide +kernel
theorem dX9_setDesignated_10 : decode cX9_setDesignated 10 = .ok (.bipush (-2), 2) := by decide +kernel
theorem dX9_setDesignated_12 : decode cX9_setDesignated 12 = .ok (.goto 11, 3) := by decide +kernel
theorem dX9_setDesignated_15 : decode cX9_setDesignated 15 = .ok (.aload_n 0, 1) := by decide +kernel
theorem dX9_setDesignated_16 : decode cX9_setDesignated 16 = .ok (.getfield 52, 3) := by decide +kernel
theorem dX9_setDesignated_19 : decode cX9_setDesignated 19 = .ok (.iload_n 1, 1) := by decide +kernel
theorem dX9_setDesignated_20 : decode cX9_setDesignated 20 = .ok (.invokevirtual 197, 3) := by decide +kernel
theorem dX9_setDesignated_23 : decode cX9_setDesignated 23 = .ok (.ireturn, 1) := by decide +kernel
def fX9_setDesignated (N : Nat) (v0 : Nat) (v1 : Int32) (m0 : qM) : Option (Int32 × qM) :=
  if v1 < 0 then (
  some ((-2 : Int32), m0)
  ) else (
  if v1 ≤ (7 : Int32) then (
  (qgR m0 v0 9 6).bind fun x1 =>
  (qChk m0 x1 4 (fX4_replaceDesignated N x1 v1 m0)).bind fun b2 =>
  some (b2.1, b2.2)
  ) else (
  some ((-2 : Int32), m0)
  )
  )
set_option maxRecDepth 100000 in
theorem bX9_setDesignated {E : qE} {N d bc bs : Nat} (hd : 1 ≤ d) {v0 : Nat} {v1 : Int32} {m0 : qM} : qB E yX9_setDesignated cX9_setDesignated 2 (some .int) (fun _ => True) d bc bs 0 [(0, .ref (E.2.1 + v0)), (1, .int v1)] [] m0 (fX9_setDesignated N v0 v1 m0) (fun b rr => rr = (some (.int b.1), b.2)) := by
  unfold fX9_setDesignated
  refine j_iload_n (q := 1) (np := 1) rfl rfl dX9_setDesignated_0 rfl ?_
  refine j_if_lt (tgt := 10) (np := 4) dX9_setDesignated_1 rfl rfl ?_ ?_
  · refine j_bipush (np := 12) cb_m2 dX9_setDesignated_10 rfl ?_
    refine j_goto (tgt := 23) dX9_setDesignated_12 rfl ?_
    exact j_iret rfl dX9_setDesignated_23 (fun rr h => h)
  · refine j_iload_n (q := 1) (np := 5) rfl rfl dX9_setDesignated_4 rfl ?_
    refine j_bipush (np := 7) cb_7 dX9_setDesignated_5 rfl ?_
    refine j_icmp_le (tgt := 15) (np := 10) dX9_setDesignated_7 rfl rfl ?_ ?_
    · refine j_aload_n (q := 0) (np := 16) rfl rfl dX9_setDesignated_15 rfl ?_
      refine j_gR (np := 19) flX9_52 dX9_setDesignated_16 rfl (fun x1 => ?_)
      refine j_iload_n (q := 1) (np := 20) rfl rfl dX9_setDesignated_19 rfl ?_
      refine j_callVi (ci := 4) (np := 23) (bc := bc) (bs := bs) (cb := 0) (cs := 0) (dd := d - 1) (As := [.int v1]) (st := []) caX4_replaceDesignated mlX9_197 imX4_replaceDesignated seX4_replaceDesignated rfl rfl (by decide) (fun b hb => wX4_replaceDesignated (by omega) hb) (by omega) rfl rfl (Nat.le_of_ble_eq_true rfl) dX9_setDesignated_20 rfl (fun b2 => ?_)
      exact j_iret rfl dX9_setDesignated_23 (fun rr h => h)
    · refine j_bipush (np := 12) cb_m2 dX9_setDesignated_10 rfl ?_
      refine j_goto (tgt := 23) dX9_setDesignated_12 rfl ?_
      exact j_iret rfl dX9_setDesignated_23 (fun rr h => h)
set_option maxRecDepth 100000 in
theorem wX9_setDesignated {E : qE} {N d : Nat} (hd : 1 ≤ d) {v0 : Nat} {v1 : Int32} {m0 : qM} {b : Int32 × qM} (h : fX9_setDesignated N v0 v1 m0 = some b) : qRun E yX9_setDesignated cX9_setDesignated 2 (some .int) d 0 0 [.ref (E.2.1 + v0), .int v1] m0 (some (.int b.1), b.2) := q_met pnX9 (Nat.le_of_ble_eq_true rfl) (bX9_setDesignated hd b _ h rfl)
theorem dX9_isNormal_0 : decode cX9_isNormal 0 = .ok (.aload_n 0, 1) := by decide +kernel
theorem dX9_isNormal_1 : decode cX9_isNormal 1 = .ok (.getfield 52, 3) := by decide +kernel
theorem dX9_isNormal_4 : decode cX9_isNormal 4 = .ok (.invokevirtual 200, 3) := by decide +kernel
theorem dX9_isNormal_7 : decode cX9_isNormal 7 = .ok (.ifCond .eq 7, 3) := by decide +kernel
theorem dX9_isNormal_10 : decode cX9_isNormal 10 = .ok (.iconst 1, 1) := by decide +kernel
theorem dX9_isNormal_11 : decode cX9_isNormal 11 = .ok (.goto 4, 3) := by decide +kernel
theorem dX9_isNormal_14 : decode cX9_isNormal 14 = .ok (.iconst 0, 1) := by decide +kernel
theorem dX9_isNormal_15 : decode cX9_isNormal 15 = .ok (.ireturn, 1) := by decide +kernel
def fX9_isNormal (N : Nat) (v0 : Nat) (m0 : qM) : Option (Int32 × qM) :=
  (qgR m0 v0 9 6).bind fun x1 =>
  (qChk m0 x1 4 (fX4_keepsDesignation N x1 m0)).bind fun b2 =>
  if b2.1 = 0 then (
  some ((0 : Int32), b2.2)
  ) else (
  some ((1 : Int32), b2.2)
  )
set_option maxRecDepth 100000 in
theorem bX9_isNormal {E : qE} {N d bc bs : Nat} (hd : 2 ≤ d) {v0 : Nat} {m0 : qM} : qB E yX9_isNormal cX9_isNormal 1 (some .int) (fun _ => True) d bc bs 0 [(0, .ref (E.2.1 + v0))] [] m0 (fX9_isNormal N v0 m0) (fun b rr => rr = (some (.int b.1), b.2)) := by
  unfold fX9_isNormal
  refine j_aload_n (q := 0) (np := 1) rfl rfl dX9_isNormal_0 rfl ?_
  refine j_gR (np := 4) flX9_52 dX9_isNormal_1 rfl (fun x1 => ?_)
  refine j_callVi (ci := 4) (np := 7) (bc := bc) (bs := bs) (cb := 0) (cs := 0) (dd := d - 1) (As := []) (st := []) caX4_keepsDesignation mlX9_200 imX4_keepsDesignation seX4_keepsDesignation rfl rfl (by decide) (fun b hb => wX4_keepsDesignation (by omega) hb) (by omega) rfl rfl (Nat.le_of_ble_eq_true rfl) dX9_isNormal_4 rfl (fun b2 => ?_)
  refine j_if_eq (tgt := 14) (np := 10) dX9_isNormal_7 rfl rfl ?_ ?_
  · refine j_iconst (np := 15) ci_0 dX9_isNormal_14 rfl ?_
    exact j_iret rfl dX9_isNormal_15 (fun rr h => h)
  · refine j_iconst (np := 11) ci_1 dX9_isNormal_10 rfl ?_
    refine j_goto (tgt := 15) dX9_isNormal_11 rfl ?_
    exact j_iret rfl dX9_isNormal_15 (fun rr h => h)
set_option maxRecDepth 100000 in
theorem wX9_isNormal {E : qE} {N d : Nat} (hd : 2 ≤ d) {v0 : Nat} {m0 : qM} {b : Int32 × qM} (h : fX9_isNormal N v0 m0 = some b) : qRun E yX9_isNormal cX9_isNormal 1 (some .int) d 0 0 [.ref (E.2.1 + v0)] m0 (some (.int b.1), b.2) := q_met pnX9 (Nat.le_of_ble_eq_true rfl) (bX9_isNormal hd b _ h rfl)
theorem dX9_isValid_0 : decode cX9_isValid 0 = .ok (.aload_n 0, 1) := by decide +kernel
theorem dX9_isValid_1 : decode cX9_isValid 1 = .ok (.getfield 22, 3) := by decide +kernel
theorem dX9_isValid_4 : decode cX9_isValid 4 = .ok (.iload_n 1, 1) := by decide +kernel
theorem dX9_isValid_5 : decode cX9_isValid 5 = .ok (.invokevirtual 106, 3) := by decide +kernel
theorem dX9_isValid_8 : decode cX9_isValid 8 = .ok (.ifCond .ne 5, 3) := by decide +kernel
theorem dX9_isValid_11 : decode cX9_isValid 11 = .ok (.iconst (-1), 1) := by decide +kernel
theorem dX9_isValid_12 : decode cX9_isValid 12 = .ok (.ireturn, 1) := by decide +kernel
theorem dX9_isValid_13 : decode cX9_isValid 13 = .ok (.aload_n 0, 1) := by decide +kernel
theorem dX9_isValid_14 : decode cX9_isValid 14 = .ok (.getfield 22, 3) := by decide +kernel
theorem dX9_isValid_17 : decode cX9_isValid 17 = .ok (.iload_n 1, 1) := by decide +kernel
theorem dX9_isValid_18 : decode cX9_isValid 18 = .ok (.invokevirtual 129, 3) := by decide +kernel
theorem dX9_isValid_21 : decode cX9_isValid 21 = .ok (.invokevirtual 136, 3) := by decide +kernel
theorem dX9_isValid_24 : decode cX9_isValid 24 = .ok (.bipush 8, 2) := by decide +kernel
theorem dX9_isValid_26 : decode cX9_isValid 26 = .ok (.if_icmp .le 6, 3) := by decide +kernel
theorem dX9_isValid_29 : decode cX9_isValid 29 = .ok (.bipush (-5), 2) := by decide +kernel
theorem dX9_isValid_31 : decode cX9_isValid 31 = .ok (.ireturn, 1) := by decide +kernel
theorem dX9_isValid_32 : decode cX9_isValid 32 = .ok (.aload_n 0, 1) := by decide +kernel
theorem dX9_isValid_33 : decode cX9_isValid 33 = .ok (.getfield 52, 3) := by decide +kernel
theorem dX9_isValid_36 : decode cX9_isValid 36 = .ok (.aload_n 0, 1) := by decide +kernel
theorem dX9_isValid_37 : decode cX9_isValid 37 = .ok (.getfield 22, 3) := by decide +kernel
theorem dX9_isValid_40 : decode cX9_isValid 40 = .ok (.iload_n 1, 1) := by decide +kernel
theorem dX9_isValid_41 : decode cX9_isValid 41 = .ok (.invokevirtual 129, 3) := by decide +kernel
theorem dX9_isValid_44 : decode cX9_isValid 44 = .ok (.invokevirtual 203, 3) := by decide +kernel
theorem dX9_isValid_47 : decode cX9_isValid 47 = .ok (.ifCond .eq 7, 3) := by decide +kernel
theorem dX9_isValid_50 : decode cX9_isValid 50 = .ok (.iconst 0, 1) := by decide +kernel
theorem dX9_isValid_51 : decode cX9_isValid 51 = .ok (.goto 4, 3) := by decide +kernel
theorem dX9_isValid_54 : decode cX9_isValid 54 = .ok (.iconst 1, 1) := by decide +kernel
theorem dX9_isValid_55 : decode cX9_isValid 55 = .ok (.ireturn, 1) := by decide +kernel
def fX9_isValid (N : Nat) (v0 : Nat) (v1 : Int32) (m0 : qM) : Option (Int32 × qM) :=
  (qgR m0 v0 9 2).bind fun x1 =>
  (qChk m0 x1 1 (fX1_has N x1 v1 m0)).bind fun b2 =>
  if b2.1 = 0 then (
  some ((-1 : Int32), b2.2)
  ) else (
  (qgR b2.2 v0 9 2).bind fun x3 =>
  (qChk b2.2 x3 1 (fX1_at N x3 v1 b2.2)).bind fun b4 =>
  (qChk b4.2 b4.1 0 (fX0_variables N b4.1 b4.2)).bind fun b5 =>
  if b5.1 ≤ (8 : Int32) then (
  (qgR b5.2 v0 9 6).bind fun x6 =>
  (qgR b5.2 v0 9 2).bind fun x7 =>
  (qChk b5.2 x7 1 (fX1_at N x7 v1 b5.2)).bind fun b8 =>
  (qChk b8.2 x6 4 (fX4_refutes N x6 b8.1 b8.2)).bind fun b9 =>
  if b9.1 = 0 then (
  some ((1 : Int32), b9.2)
  ) else (
  some ((0 : Int32), b9.2)
  )
  ) else (
  some ((-5 : Int32), b5.2)
  )
  )
set_option maxRecDepth 100000 in
theorem bX9_isValid {E : qE} {N d bc bs : Nat} (hd : 3 ≤ d) {v0 : Nat} {v1 : Int32} {m0 : qM} : qB E yX9_isValid cX9_isValid 2 (some .int) (fun _ => True) d bc bs 0 [(0, .ref (E.2.1 + v0)), (1, .int v1)] [] m0 (fX9_isValid N v0 v1 m0) (fun b rr => rr = (some (.int b.1), b.2)) := by
  unfold fX9_isValid
  refine j_aload_n (q := 0) (np := 1) rfl rfl dX9_isValid_0 rfl ?_
  refine j_gR (np := 4) flX9_22 dX9_isValid_1 rfl (fun x1 => ?_)
  refine j_iload_n (q := 1) (np := 5) rfl rfl dX9_isValid_4 rfl ?_
  refine j_callVi (ci := 1) (np := 8) (bc := bc) (bs := bs) (cb := 0) (cs := 0) (dd := d - 1) (As := [.int v1]) (st := []) caX1_has mlX9_106 imX1_has seX1_has rfl rfl (by decide) (fun b hb => wX1_has (by omega) hb) (by omega) rfl rfl (Nat.le_of_ble_eq_true rfl) dX9_isValid_5 rfl (fun b2 => ?_)
  refine j_if_ne (tgt := 13) (np := 11) dX9_isValid_8 rfl rfl ?_ ?_
  · refine j_aload_n (q := 0) (np := 14) rfl rfl dX9_isValid_13 rfl ?_
    refine j_gR (np := 17) flX9_22 dX9_isValid_14 rfl (fun x3 => ?_)
    refine j_iload_n (q := 1) (np := 18) rfl rfl dX9_isValid_17 rfl ?_
    refine j_callVr (ci := 1) (np := 21) (bc := bc) (bs := bs) (cb := 0) (cs := 0) (dd := d - 1) (As := [.int v1]) (st := []) caX1_at mlX9_129 imX1_at seX1_at rfl rfl (by decide) (fun b hb => wX1_at (by omega) hb) (by omega) rfl rfl (Nat.le_of_ble_eq_true rfl) dX9_isValid_18 rfl (fun b4 => ?_)
    refine j_callVi (ci := 0) (np := 24) (bc := bc) (bs := bs) (cb := 0) (cs := 0) (dd := d - 1) (As := []) (st := []) caX0_variables mlX9_136 imX0_variables seX0_variables rfl rfl (by decide) (fun b hb => wX0_variables (by omega) hb) (by omega) rfl rfl (Nat.le_of_ble_eq_true rfl) dX9_isValid_21 rfl (fun b5 => ?_)
    refine j_bipush (np := 26) cb_8 dX9_isValid_24 rfl ?_
    refine j_icmp_le (tgt := 32) (np := 29) dX9_isValid_26 rfl rfl ?_ ?_
    · refine j_aload_n (q := 0) (np := 33) rfl rfl dX9_isValid_32 rfl ?_
      refine j_gR (np := 36) flX9_52 dX9_isValid_33 rfl (fun x6 => ?_)
      refine j_aload_n (q := 0) (np := 37) rfl rfl dX9_isValid_36 rfl ?_
      refine j_gR (np := 40) flX9_22 dX9_isValid_37 rfl (fun x7 => ?_)
      refine j_iload_n (q := 1) (np := 41) rfl rfl dX9_isValid_40 rfl ?_
      refine j_callVr (ci := 1) (np := 44) (bc := bc) (bs := bs) (cb := 0) (cs := 0) (dd := d - 1) (As := [.int v1]) (st := [.ref (E.2.1 + x6)]) caX1_at mlX9_129 imX1_at seX1_at rfl rfl (by decide) (fun b hb => wX1_at (by omega) hb) (by omega) rfl rfl (Nat.le_of_ble_eq_true rfl) dX9_isValid_41 rfl (fun b8 => ?_)
      refine j_callVi (ci := 4) (np := 47) (bc := bc) (bs := bs) (cb := 0) (cs := 0) (dd := d - 1) (As := [.ref (E.2.1 + b8.1)]) (st := []) caX4_refutes mlX9_203 imX4_refutes seX4_refutes rfl rfl (by decide) (fun b hb => wX4_refutes (by omega) hb) (by omega) rfl rfl (Nat.le_of_ble_eq_true rfl) dX9_isValid_44 rfl (fun b9 => ?_)
      refine j_if_eq (tgt := 54) (np := 50) dX9_isValid_47 rfl rfl ?_ ?_
      · refine j_iconst (np := 55) ci_1 dX9_isValid_54 rfl ?_
        exact j_iret rfl dX9_isValid_55 (fun rr h => h)
      · refine j_iconst (np := 51) ci_0 dX9_isValid_50 rfl ?_
        refine j_goto (tgt := 55) dX9_isValid_51 rfl ?_
        exact j_iret rfl dX9_isValid_55 (fun rr h => h)
    · refine j_bipush (np := 31) cb_m5 dX9_isValid_29 rfl ?_
      exact j_iret rfl dX9_isValid_31 (fun rr h => h)
  · refine j_iconst (np := 12) ci_m1 dX9_isValid_11 rfl ?_
    exact j_iret rfl dX9_isValid_12 (fun rr h => h)
set_option maxRecDepth 100000 in
theorem wX9_isValid {E : qE} {N d : Nat} (hd : 3 ≤ d) {v0 : Nat} {v1 : Int32} {m0 : qM} {b : Int32 × qM} (h : fX9_isValid N v0 v1 m0 = some b) : qRun E yX9_isValid cX9_isValid 2 (some .int) d 0 0 [.ref (E.2.1 + v0), .int v1] m0 (some (.int b.1), b.2) := q_met pnX9 (Nat.le_of_ble_eq_true rfl) (bX9_isValid hd b _ h rfl)
theorem dX9_refutation_0 : decode cX9_refutation 0 = .ok (.aload_n 0, 1) := by decide +kernel
theorem dX9_refutation_1 : decode cX9_refutation 1 = .ok (.getfield 22, 3) := by decide +kernel
theorem dX9_refutation_4 : decode cX9_refutation 4 = .ok (.iload_n 1, 1) := by decide +kernel
theorem dX9_refutation_5 : decode cX9_refutation 5 = .ok (.invokevirtual 106, 3) := by decide +kernel
theorem dX9_refutation_8 : decode cX9_refutation 8 = .ok (.ifCond .eq 22, 3) := by decide +kernel
theorem dX9_refutation_11 : decode cX9_refutation 11 = .ok (.iload_n 2, 1) := by decide +kernel
theorem dX9_refutation_12 : decode cX9_refutation 12 = .ok (.ifCond .lt 18, 3) := by decide +kernel
theorem dX9_refutation_15 : decode cX9_refutation 15 = .ok (.iload_n 2, 1) := by decide +kernel
theorem dX9_refutation_16 : decode cX9_refutation 16 = .ok (.aload_n 0, 1) := by decide +kernel
theorem dX9_refutation_17 : decode cX9_refutation 17 = .ok (.getfield 22, 3) := by decide +kernel
theorem dX9_refutation_20 : decode cX9_refutation 20 = .ok (.iload_n 1, 1) := by decide +kernel
theorem dX9_refutation_21 : decode cX9_refutation 21 = .ok (.invokevirtual 129, 3) := by decide +kernel
theorem dX9_refutation_24 : decode cX9_refutation 24 = .ok (.invokevirtual 136, 3) := by decide +kernel
theorem dX9_refutation_27 : decode cX9_refutation 27 = .ok (.if_icmp .lt 5, 3) := by decide +kernel
theorem dX9_refutation_30 : decode cX9_refutation 30 = .ok (.iconst (-1), 1) := by decide +kernel
theorem dX9_refutation_31 : decode cX9_refutation 31 = .ok (.ireturn, 1) := by decide +kernel
theorem dX9_refutation_32 : decode cX9_refutation 32 = .ok (.aload_n 0, 1) := by decide +kernel
theorem dX9_refutation_33 : decode cX9_refutation 33 = .ok (.getfield 22, 3) := by decide +kernel
theorem dX9_refutation_36 : decode cX9_refutation 36 = .ok (.iload_n 1, 1) := by decide +kernel
theorem dX9_refutation_37 : decode cX9_refutation 37 = .ok (.invokevirtual 129, 3) := by decide +kernel
theorem dX9_refutation_40 : decode cX9_refutation 40 = .ok (.invokevirtual 136, 3) := by decide +kernel
theorem dX9_refutation_43 : decode cX9_refutation 43 = .ok (.bipush 8, 2) := by decide +kernel
theorem dX9_refutation_45 : decode cX9_refutation 45 = .ok (.if_icmp .le 6, 3) := by decide +kernel
theorem dX9_refutation_48 : decode cX9_refutation 48 = .ok (.bipush (-5), 2) := by decide +kernel
theorem dX9_refutation_50 : decode cX9_refutation 50 = .ok (.ireturn, 1) := by decide +kernel
theorem dX9_refutation_51 : decode cX9_refutation 51 = .ok (.aload_n 0, 1) := by decide +kernel
theorem dX9_refutation_52 : decode cX9_refutation 52 = .ok (.getfield 52, 3) := by decide +kernel
theorem dX9_refutation_55 : decode cX9_refutation 55 = .ok (.aload_n 0, 1) := by decide +kernel
theorem dX9_refutation_56 : decode cX9_refutation 56 = .ok (.getfield 22, 3) := by decide +kernel
theorem dX9_refutation_59 : decode cX9_refutation 59 = .ok (.iload_n 1, 1) := by decide +kernel
theorem dX9_refutation_60 : decode cX9_refutation 60 = .ok (.invokevirtual 129, 3) := by decide +kernel
theorem dX9_refutation_63 : decode cX9_refutation 63 = .ok (.invokevirtual 203, 3) := by decide +kernel
theorem dX9_refutation_66 : decode cX9_refutation 66 = .ok (.ifCond .eq 14, 3) := by decide +kernel
theorem dX9_refutation_69 : decode cX9_refutation 69 = .ok (.aload_n 0, 1) := by decide +kernel
theorem dX9_refutation_70 : decode cX9_refutation 70 = .ok (.getfield 52, 3) := by decide +kernel
theorem dX9_refutation_73 : decode cX9_refutation 73 = .ok (.iload_n 2, 1) := by decide +kernel
theorem dX9_refutation_74 : decode cX9_refutation 74 = .ok (.invokevirtual 207, 3) := by decide +kernel
theorem dX9_refutation_77 : decode cX9_refutation 77 = .ok (.goto 5, 3) := by decide +kernel
theorem dX9_refutation_80 : decode cX9_refutation 80 = .ok (.bipush (-4), 2) := by decide +kernel
theorem dX9_refutation_82 : decode cX9_refutation 82 = .ok (.ireturn, 1) := by decide +kernel
def fX9_refutation (N : Nat) (v0 : Nat) (v1 : Int32) (v2 : Int32) (m0 : qM) : Option (Int32 × qM) :=
  (qgR m0 v0 9 2).bind fun x1 =>
  (qChk m0 x1 1 (fX1_has N x1 v1 m0)).bind fun b2 =>
  if b2.1 = 0 then (
  some ((-1 : Int32), b2.2)
  ) else (
  if v2 < 0 then (
  some ((-1 : Int32), b2.2)
  ) else (
  (qgR b2.2 v0 9 2).bind fun x3 =>
  (qChk b2.2 x3 1 (fX1_at N x3 v1 b2.2)).bind fun b4 =>
  (qChk b4.2 b4.1 0 (fX0_variables N b4.1 b4.2)).bind fun b5 =>
  if v2 < b5.1 then (
  (qgR b5.2 v0 9 2).bind fun x6 =>
  (qChk b5.2 x6 1 (fX1_at N x6 v1 b5.2)).bind fun b7 =>
  (qChk b7.2 b7.1 0 (fX0_variables N b7.1 b7.2)).bind fun b8 =>
  if b8.1 ≤ (8 : Int32) then (
  (qgR b8.2 v0 9 6).bind fun x9 =>
  (qgR b8.2 v0 9 2).bind fun x10 =>
  (qChk b8.2 x10 1 (fX1_at N x10 v1 b8.2)).bind fun b11 =>
  (qChk b11.2 x9 4 (fX4_refutes N x9 b11.1 b11.2)).bind fun b12 =>
  if b12.1 = 0 then (
  some ((-4 : Int32), b12.2)
  ) else (
  (qgR b12.2 v0 9 6).bind fun x13 =>
  (qChk b12.2 x13 4 (fX4_variableValue N x13 v2 b12.2)).bind fun b14 =>
  some (b14.1, b14.2)
  )
  ) else (
  some ((-5 : Int32), b8.2)
  )
  ) else (
  some ((-1 : Int32), b5.2)
  )
  )
  )
set_option maxRecDepth 100000 in
theorem bX9_refutation {E : qE} {N d bc bs : Nat} (hd : 3 ≤ d) {v0 : Nat} {v1 : Int32} {v2 : Int32} {m0 : qM} : qB E yX9_refutation cX9_refutation 3 (some .int) (fun _ => True) d bc bs 0 [(0, .ref (E.2.1 + v0)), (1, .int v1), (2, .int v2)] [] m0 (fX9_refutation N v0 v1 v2 m0) (fun b rr => rr = (some (.int b.1), b.2)) := by
  unfold fX9_refutation
  refine j_aload_n (q := 0) (np := 1) rfl rfl dX9_refutation_0 rfl ?_
  refine j_gR (np := 4) flX9_22 dX9_refutation_1 rfl (fun x1 => ?_)
  refine j_iload_n (q := 1) (np := 5) rfl rfl dX9_refutation_4 rfl ?_
  refine j_callVi (ci := 1) (np := 8) (bc := bc) (bs := bs) (cb := 0) (cs := 0) (dd := d - 1) (As := [.int v1]) (st := []) caX1_has mlX9_106 imX1_has seX1_has rfl rfl (by decide) (fun b hb => wX1_has (by omega) hb) (by omega) rfl rfl (Nat.le_of_ble_eq_true rfl) dX9_refutation_5 rfl (fun b2 => ?_)
  refine j_if_eq (tgt := 30) (np := 11) dX9_refutation_8 rfl rfl ?_ ?_
  · refine j_iconst (np := 31) ci_m1 dX9_refutation_30 rfl ?_
    exact j_iret rfl dX9_refutation_31 (fun rr h => h)
  · refine j_iload_n (q := 2) (np := 12) rfl rfl dX9_refutation_11 rfl ?_
    refine j_if_lt (tgt := 30) (np := 15) dX9_refutation_12 rfl rfl ?_ ?_
    · refine j_iconst (np := 31) ci_m1 dX9_refutation_30 rfl ?_
      exact j_iret rfl dX9_refutation_31 (fun rr h => h)
    · refine j_iload_n (q := 2) (np := 16) rfl rfl dX9_refutation_15 rfl ?_
      refine j_aload_n (q := 0) (np := 17) rfl rfl dX9_refutation_16 rfl ?_
      refine j_gR (np := 20) flX9_22 dX9_refutation_17 rfl (fun x3 => ?_)
      refine j_iload_n (q := 1) (np := 21) rfl rfl dX9_refutation_20 rfl ?_
      refine j_callVr (ci := 1) (np := 24) (bc := bc) (bs := bs) (cb := 0) (cs := 0) (dd := d - 1) (As := [.int v1]) (st := [.int v2]) caX1_at mlX9_129 imX1_at seX1_at rfl rfl (by decide) (fun b hb => wX1_at (by omega) hb) (by omega) rfl rfl (Nat.le_of_ble_eq_true rfl) dX9_refutation_21 rfl (fun b4 => ?_)
      refine j_callVi (ci := 0) (np := 27) (bc := bc) (bs := bs) (cb := 0) (cs := 0) (dd := d - 1) (As := []) (st := [.int v2]) caX0_variables mlX9_136 imX0_variables seX0_variables rfl rfl (by decide) (fun b hb => wX0_variables (by omega) hb) (by omega) rfl rfl (Nat.le_of_ble_eq_true rfl) dX9_refutation_24 rfl (fun b5 => ?_)
      refine j_icmp_lt (tgt := 32) (np := 30) dX9_refutation_27 rfl rfl ?_ ?_
      · refine j_aload_n (q := 0) (np := 33) rfl rfl dX9_refutation_32 rfl ?_
        refine j_gR (np := 36) flX9_22 dX9_refutation_33 rfl (fun x6 => ?_)
        refine j_iload_n (q := 1) (np := 37) rfl rfl dX9_refutation_36 rfl ?_
        refine j_callVr (ci := 1) (np := 40) (bc := bc) (bs := bs) (cb := 0) (cs := 0) (dd := d - 1) (As := [.int v1]) (st := []) caX1_at mlX9_129 imX1_at seX1_at rfl rfl (by decide) (fun b hb => wX1_at (by omega) hb) (by omega) rfl rfl (Nat.le_of_ble_eq_true rfl) dX9_refutation_37 rfl (fun b7 => ?_)
        refine j_callVi (ci := 0) (np := 43) (bc := bc) (bs := bs) (cb := 0) (cs := 0) (dd := d - 1) (As := []) (st := []) caX0_variables mlX9_136 imX0_variables seX0_variables rfl rfl (by decide) (fun b hb => wX0_variables (by omega) hb) (by omega) rfl rfl (Nat.le_of_ble_eq_true rfl) dX9_refutation_40 rfl (fun b8 => ?_)
        refine j_bipush (np := 45) cb_8 dX9_refutation_43 rfl ?_
        refine j_icmp_le (tgt := 51) (np := 48) dX9_refutation_45 rfl rfl ?_ ?_
        · refine j_aload_n (q := 0) (np := 52) rfl rfl dX9_refutation_51 rfl ?_
          refine j_gR (np := 55) flX9_52 dX9_refutation_52 rfl (fun x9 => ?_)
          refine j_aload_n (q := 0) (np := 56) rfl rfl dX9_refutation_55 rfl ?_
          refine j_gR (np := 59) flX9_22 dX9_refutation_56 rfl (fun x10 => ?_)
          refine j_iload_n (q := 1) (np := 60) rfl rfl dX9_refutation_59 rfl ?_
          refine j_callVr (ci := 1) (np := 63) (bc := bc) (bs := bs) (cb := 0) (cs := 0) (dd := d - 1) (As := [.int v1]) (st := [.ref (E.2.1 + x9)]) caX1_at mlX9_129 imX1_at seX1_at rfl rfl (by decide) (fun b hb => wX1_at (by omega) hb) (by omega) rfl rfl (Nat.le_of_ble_eq_true rfl) dX9_refutation_60 rfl (fun b11 => ?_)
          refine j_callVi (ci := 4) (np := 66) (bc := bc) (bs := bs) (cb := 0) (cs := 0) (dd := d - 1) (As := [.ref (E.2.1 + b11.1)]) (st := []) caX4_refutes mlX9_203 imX4_refutes seX4_refutes rfl rfl (by decide) (fun b hb => wX4_refutes (by omega) hb) (by omega) rfl rfl (Nat.le_of_ble_eq_true rfl) dX9_refutation_63 rfl (fun b12 => ?_)
          refine j_if_eq (tgt := 80) (np := 69) dX9_refutation_66 rfl rfl ?_ ?_
          · refine j_bipush (np := 82) cb_m4 dX9_refutation_80 rfl ?_
            exact j_iret rfl dX9_refutation_82 (fun rr h => h)
          · refine j_aload_n (q := 0) (np := 70) rfl rfl dX9_refutation_69 rfl ?_
            refine j_gR (np := 73) flX9_52 dX9_refutation_70 rfl (fun x13 => ?_)
            refine j_iload_n (q := 2) (np := 74) rfl rfl dX9_refutation_73 rfl ?_
            refine j_callVi (ci := 4) (np := 77) (bc := bc) (bs := bs) (cb := 0) (cs := 0) (dd := d - 1) (As := [.int v2]) (st := []) caX4_variableValue mlX9_207 imX4_variableValue seX4_variableValue rfl rfl (by decide) (fun b hb => wX4_variableValue (by omega) hb) (by omega) rfl rfl (Nat.le_of_ble_eq_true rfl) dX9_refutation_74 rfl (fun b14 => ?_)
            refine j_goto (tgt := 82) dX9_refutation_77 rfl ?_
            exact j_iret rfl dX9_refutation_82 (fun rr h => h)
        · refine j_bipush (np := 50) cb_m5 dX9_refutation_48 rfl ?_
          exact j_iret rfl dX9_refutation_50 (fun rr h => h)
      · refine j_iconst (np := 31) ci_m1 dX9_refutation_30 rfl ?_
        exact j_iret rfl dX9_refutation_31 (fun rr h => h)
set_option maxRecDepth 100000 in
theorem wX9_refutation {E : qE} {N d : Nat} (hd : 3 ≤ d) {v0 : Nat} {v1 : Int32} {v2 : Int32} {m0 : qM} {b : Int32 × qM} (h : fX9_refutation N v0 v1 v2 m0 = some b) : qRun E yX9_refutation cX9_refutation 3 (some .int) d 0 0 [.ref (E.2.1 + v0), .int v1, .int v2] m0 (some (.int b.1), b.2) := q_met pnX9 (Nat.le_of_ble_eq_true rfl) (bX9_refutation hd b _ h rfl)
theorem dX9_countValuations_0 : decode cX9_countValuations 0 = .ok (.aload_n 0, 1) := by decide +kernel
theorem dX9_countValuations_1 : decode cX9_countValuations 1 = .ok (.getfield 22, 3) := by decide +kernel
theorem dX9_countValuations_4 : decode cX9_countValuations 4 = .ok (.iload_n 1, 1) := by decide +kernel
theorem dX9_countValuations_5 : decode cX9_countValuations 5 = .ok (.invokevirtual 106, 3) := by decide +kernel
theorem dX9_countValuations_8 : decode cX9_countValuations 8 = .ok (.ifCond .eq 10, 3) := by decide +kernel
theorem dX9_countValuations_11 : decode cX9_countValuations 11 = .ok (.iload_n 2, 1) := by decide +kernel
theorem dX9_countValuations_12 : decode cX9_countValuations 12 = .ok (.invokestatic 190, 3) := by decide +kernel
theorem dX9_countValuations_15 : decode cX9_countValuations 15 = .ok (.ifCond .ne 5, 3) := by decide +kernel
theorem dX9_countValuations_18 : decode cX9_countValuations 18 = .ok (.iconst (-1), 1) := by decide +kernel
theorem dX9_countValuations_19 : decode cX9_countValuations 19 = .ok (.ireturn, 1) := by decide +kernel
theorem dX9_countValuations_20 : decode cX9_countValuations 20 = .ok (.aload_n 0, 1) := by decide +kernel
theorem dX9_countValuations_21 : decode cX9_countValuations 21 = .ok (.getfield 22, 3) := by decide +kernel
theorem dX9_countValuations_24 : decode cX9_countValuations 24 = .ok (.iload_n 1, 1) := by decide +kernel
theorem dX9_countValuations_25 : decode cX9_countValuations 25 = .ok (.invokevirtual 129, 3) := by decide +kernel
theorem dX9_countValuations_28 : decode cX9_countValuations 28 = .ok (.invokevirtual 136, 3) := by decide +kernel
theorem dX9_countValuations_31 : decode cX9_countValuations 31 = .ok (.bipush 8, 2) := by decide +kernel
theorem dX9_countValuations_33 : decode cX9_countValuations 33 = .ok (.if_icmp .le 6, 3) := by decide +kernel
theorem dX9_countValuations_36 : decode cX9_countValuations 36 = .ok (.bipush (-5), 2) := by decide +kernel
theorem dX9_countValuations_38 : decode cX9_countValuations 38 = .ok (.ireturn, 1) := by decide +kernel
theorem dX9_countValuations_39 : decode cX9_countValuations 39 = .ok (.aload_n 0, 1) := by decide +kernel
theorem dX9_countValuations_40 : decode cX9_countValuations 40 = .ok (.getfield 52, 3) := by decide +kernel
theorem dX9_countValuations_43 : decode cX9_countValuations 43 = .ok (.aload_n 0, 1) := by decide +kernel
theorem dX9_countValuations_44 : decode cX9_countValuations 44 = .ok (.getfield 22, 3) := by decide +kernel
theorem dX9_countValuations_47 : decode cX9_countValuations 47 = .ok (.iload_n 1, 1) := by decide +kernel
theorem dX9_countValuations_48 : decode cX9_countValuations 48 = .ok (.invokevirtual 129, 3) := by decide +kernel
theorem dX9_countValuations_51 : decode cX9_countValuations 51 = .ok (.iload_n 2, 1) := by decide +kernel
theorem dX9_countValuations_52 : decode cX9_countValuations 52 = .ok (.invokevirtual 210, 3) := by decide +kernel
theorem dX9_countValuations_55 : decode cX9_countValuations 55 = .ok (.ireturn, 1) := by decide +kernel
def fX9_countValuations (N : Nat) (v0 : Nat) (v1 : Int32) (v2 : Int32) (m0 : qM) : Option (Int32 × qM) :=
  (qgR m0 v0 9 2).bind fun x1 =>
  (qChk m0 x1 1 (fX1_has N x1 v1 m0)).bind fun b2 =>
  if b2.1 = 0 then (
  some ((-1 : Int32), b2.2)
  ) else (
  (fX9_isTruthValue N v2 b2.2).bind fun b3 =>
  if b3.1 = 0 then (
  some ((-1 : Int32), b3.2)
  ) else (
  (qgR b3.2 v0 9 2).bind fun x4 =>
  (qChk b3.2 x4 1 (fX1_at N x4 v1 b3.2)).bind fun b5 =>
  (qChk b5.2 b5.1 0 (fX0_variables N b5.1 b5.2)).bind fun b6 =>
  if b6.1 ≤ (8 : Int32) then (
  (qgR b6.2 v0 9 6).bind fun x7 =>
  (qgR b6.2 v0 9 2).bind fun x8 =>
  (qChk b6.2 x8 1 (fX1_at N x8 v1 b6.2)).bind fun b9 =>
  (qChk b9.2 x7 4 (fX4_countOf N x7 b9.1 v2 b9.2)).bind fun b10 =>
  some (b10.1, b10.2)
  ) else (
  some ((-5 : Int32), b6.2)
  )
  )
  )
set_option maxRecDepth 100000 in
theorem bX9_countValuations {E : qE} {N d bc bs : Nat} (hd : 3 ≤ d) {v0 : Nat} {v1 : Int32} {v2 : Int32} {m0 : qM} : qB E yX9_countValuations cX9_countValuations 3 (some .int) (fun _ => True) d bc bs 0 [(0, .ref (E.2.1 + v0)), (1, .int v1), (2, .int v2)] [] m0 (fX9_countValuations N v0 v1 v2 m0) (fun b rr => rr = (some (.int b.1), b.2)) := by
  unfold fX9_countValuations
  refine j_aload_n (q := 0) (np := 1) rfl rfl dX9_countValuations_0 rfl ?_
  refine j_gR (np := 4) flX9_22 dX9_countValuations_1 rfl (fun x1 => ?_)
  refine j_iload_n (q := 1) (np := 5) rfl rfl dX9_countValuations_4 rfl ?_
  refine j_callVi (ci := 1) (np := 8) (bc := bc) (bs := bs) (cb := 0) (cs := 0) (dd := d - 1) (As := [.int v1]) (st := []) caX1_has mlX9_106 imX1_has seX1_has rfl rfl (by decide) (fun b hb => wX1_has (by omega) hb) (by omega) rfl rfl (Nat.le_of_ble_eq_true rfl) dX9_countValuations_5 rfl (fun b2 => ?_)
  refine j_if_eq (tgt := 18) (np := 11) dX9_countValuations_8 rfl rfl ?_ ?_
  · refine j_iconst (np := 19) ci_m1 dX9_countValuations_18 rfl ?_
    exact j_iret rfl dX9_countValuations_19 (fun rr h => h)
  · refine j_iload_n (q := 2) (np := 12) rfl rfl dX9_countValuations_11 rfl ?_
    refine j_callSi (np := 15) (bc := bc) (bs := bs) (cb := 0) (cs := 0) (dd := d - 1) (As := [.int v2]) (st := []) caX9_isTruthValue mlX9_190 stX9_isTruthValue (fun b hb => wX9_isTruthValue (by omega) hb) (by omega) rfl rfl (Nat.le_of_ble_eq_true rfl) dX9_countValuations_12 rfl (fun b3 => ?_)
    refine j_if_ne (tgt := 20) (np := 18) dX9_countValuations_15 rfl rfl ?_ ?_
    · refine j_aload_n (q := 0) (np := 21) rfl rfl dX9_countValuations_20 rfl ?_
      refine j_gR (np := 24) flX9_22 dX9_countValuations_21 rfl (fun x4 => ?_)
      refine j_iload_n (q := 1) (np := 25) rfl rfl dX9_countValuations_24 rfl ?_
      refine j_callVr (ci := 1) (np := 28) (bc := bc) (bs := bs) (cb := 0) (cs := 0) (dd := d - 1) (As := [.int v1]) (st := []) caX1_at mlX9_129 imX1_at seX1_at rfl rfl (by decide) (fun b hb => wX1_at (by omega) hb) (by omega) rfl rfl (Nat.le_of_ble_eq_true rfl) dX9_countValuations_25 rfl (fun b5 => ?_)
      refine j_callVi (ci := 0) (np := 31) (bc := bc) (bs := bs) (cb := 0) (cs := 0) (dd := d - 1) (As := []) (st := []) caX0_variables mlX9_136 imX0_variables seX0_variables rfl rfl (by decide) (fun b hb => wX0_variables (by omega) hb) (by omega) rfl rfl (Nat.le_of_ble_eq_true rfl) dX9_countValuations_28 rfl (fun b6 => ?_)
      refine j_bipush (np := 33) cb_8 dX9_countValuations_31 rfl ?_
      refine j_icmp_le (tgt := 39) (np := 36) dX9_countValuations_33 rfl rfl ?_ ?_
      · refine j_aload_n (q := 0) (np := 40) rfl rfl dX9_countValuations_39 rfl ?_
        refine j_gR (np := 43) flX9_52 dX9_countValuations_40 rfl (fun x7 => ?_)
        refine j_aload_n (q := 0) (np := 44) rfl rfl dX9_countValuations_43 rfl ?_
        refine j_gR (np := 47) flX9_22 dX9_countValuations_44 rfl (fun x8 => ?_)
        refine j_iload_n (q := 1) (np := 48) rfl rfl dX9_countValuations_47 rfl ?_
        refine j_callVr (ci := 1) (np := 51) (bc := bc) (bs := bs) (cb := 0) (cs := 0) (dd := d - 1) (As := [.int v1]) (st := [.ref (E.2.1 + x7)]) caX1_at mlX9_129 imX1_at seX1_at rfl rfl (by decide) (fun b hb => wX1_at (by omega) hb) (by omega) rfl rfl (Nat.le_of_ble_eq_true rfl) dX9_countValuations_48 rfl (fun b9 => ?_)
        refine j_iload_n (q := 2) (np := 52) rfl rfl dX9_countValuations_51 rfl ?_
        refine j_callVi (ci := 4) (np := 55) (bc := bc) (bs := bs) (cb := 0) (cs := 0) (dd := d - 1) (As := [.ref (E.2.1 + b9.1), .int v2]) (st := []) caX4_countOf mlX9_210 imX4_countOf seX4_countOf rfl rfl (by decide) (fun b hb => wX4_countOf (by omega) hb) (by omega) rfl rfl (Nat.le_of_ble_eq_true rfl) dX9_countValuations_52 rfl (fun b10 => ?_)
        exact j_iret rfl dX9_countValuations_55 (fun rr h => h)
      · refine j_bipush (np := 38) cb_m5 dX9_countValuations_36 rfl ?_
        exact j_iret rfl dX9_countValuations_38 (fun rr h => h)
    · refine j_iconst (np := 19) ci_m1 dX9_countValuations_18 rfl ?_
      exact j_iret rfl dX9_countValuations_19 (fun rr h => h)
set_option maxRecDepth 100000 in
theorem wX9_countValuations {E : qE} {N d : Nat} (hd : 3 ≤ d) {v0 : Nat} {v1 : Int32} {v2 : Int32} {m0 : qM} {b : Int32 × qM} (h : fX9_countValuations N v0 v1 v2 m0 = some b) : qRun E yX9_countValuations cX9_countValuations 3 (some .int) d 0 0 [.ref (E.2.1 + v0), .int v1, .int v2] m0 (some (.int b.1), b.2) := q_met pnX9 (Nat.le_of_ble_eq_true rfl) (bX9_countValuations hd b _ h rfl)
theorem dX9_readType_0 : decode cX9_readType 0 = .ok (.iload_n 1, 1) := by decide +kernel
theorem dX9_readType_1 : decode cX9_readType 1 = .ok (.invokestatic 293, 3) := by decide +kernel
theorem dX9_readType_4 : decode cX9_readType 4 = .ok (.astore_n 3, 1) := by decide +kernel
theorem dX9_readType_5 : decode cX9_readType 5 = .ok (.aload_n 2, 1) := by decide +kernel
theorem dX9_readType_6 : decode cX9_readType 6 = .ok (.invokevirtual 261, 3) := by decide +kernel
theorem dX9_readType_9 : decode cX9_readType 9 = .ok (.iconst 0, 1) := by decide +kernel
theorem dX9_readType_10 : decode cX9_readType 10 = .ok (.istore 4, 2) := by decide +kernel
theorem dX9_readType_12 : decode cX9_readType 12 = .ok (.iload 4, 2) := by decide +kernel
theorem dX9_readType_14 : decode cX9_readType 14 = .ok (.aload_n 3, 1) := by decide +kernel
theorem dX9_readType_15 : decode cX9_readType 15 = .ok (.invokevirtual 297, 3) := by decide +kernel
theorem dX9_readType_18 : decode cX9_readType 18 = .ok (.if_icmp .ge 24, 3) := by decide +kernel
theorem dX9_readType_21 : decode cX9_readType 21 = .ok (.aload_n 2, 1) := by decide +kernel
theorem dX9_readType_22 : decode cX9_readType 22 = .ok (.aload_n 3, 1) := by decide +kernel
theorem dX9_readType_23 : decode cX9_readType 23 = .ok (.iload 4, 2) := by decide +kernel
theorem dX9_readType_25 : decode cX9_readType 25 = .ok (.invokevirtual 300, 3) := by decide +kernel
theorem dX9_readType_28 : decode cX9_readType 28 = .ok (.aload_n 0, 1) := by decide +kernel
theorem dX9_readType_29 : decode cX9_readType 29 = .ok (.getfield 81, 3) := by decide +kernel
theorem dX9_readType_32 : decode cX9_readType 32 = .ok (.invokevirtual 262, 3) := by decide +kernel
theorem dX9_readType_35 : decode cX9_readType 35 = .ok (.pop, 1) := by decide +kernel
theorem dX9_readType_36 : decode cX9_readType 36 = .ok (.iinc 4 1, 3) := by decide +kernel
theorem dX9_readType_39 : decode cX9_readType 39 = .ok (.goto (-27), 3) := by decide +kernel
theorem dX9_readType_42 : decode cX9_readType 42 = .ok (.return_, 1) := by decide +kernel
def lX9_readType_12 (N : Nat) (v0 : Nat) (v2 : Nat) (v3 : Nat) : Nat → Int32 → qM → Option (qM)
  | 0, _, _ => none
  | n + 1, v4, m0 =>
    (qChs v3 (fJ0_length_8abf5 N v3 m0)).bind fun b1 =>
    if b1.1 ≤ v4 then (
    some b1.2
    ) else (
    (qChs v3 (fJ0_charAt_5068e N v3 v4 b1.2)).bind fun b2 =>
    (qgR b2.2 v0 9 11).bind fun x3 =>
    (qChk b2.2 v2 0 (fX0_addLetter N v2 b2.1 x3 b2.2)).bind fun b4 =>
    lX9_readType_12 N v0 v2 v3 n (v4 + (1 : Int32)) b4.2
    )
set_option maxRecDepth 100000 in
theorem lbX9_readType_12 {E : qE} {N d bc bs : Nat} (hd : 4 ≤ d) {v0 : Nat} {v2 : Nat} {v3 : Nat} : ∀ (n : Nat) (v4 : Int32) (m0 : qM), qB E yX9_readType cX9_readType 5 none (fun _ => True) d bc bs 12 [(0, .ref (E.2.1 + v0)), (2, .ref (E.2.1 + v2)), (3, .ref (E.2.2.2.2.1 v3)), (4, .int v4)] [] m0 (lX9_readType_12 N v0 v2 v3 n v4 m0) (fun o rr => qJ E yX9_readType cX9_readType 5 none (fun _ => True) d bc bs 42 [] [] o rr) := by
  intro n
  induction n with
  | zero =>
    intro v4 m0
    exact j_none
  | succ n ih =>
    intro v4 m0
    unfold lX9_readType_12
    refine j_iload (q := 3) (np := 14) rfl dX9_readType_12 rfl ?_
    refine j_aload_n (q := 2) (np := 15) rfl rfl dX9_readType_14 rfl ?_
    refine j_callT (np := 18) (dd := d - 1) (As := []) (st := [.int v4]) caJ0_length_8abf5 mlX9_297 imJ0_length_8abf5 seJ0_length_8abf5 rfl (fun b hb => wJ0_length_8abf5 (by omega) hb) (by omega) rfl rfl (Nat.le_of_ble_eq_true rfl) dX9_readType_15 rfl (fun b1 => ?_)
    refine j_icmp_ge (tgt := 42) (np := 21) dX9_readType_18 rfl rfl ?_ ?_
    · refine j_sub (lv2 := []) [] rfl ?_
      exact j_exit (fun rr h => h)
    · refine j_aload_n (q := 1) (np := 22) rfl rfl dX9_readType_21 rfl ?_
      refine j_aload_n (q := 2) (np := 23) rfl rfl dX9_readType_22 rfl ?_
      refine j_iload (q := 3) (np := 25) rfl dX9_readType_23 rfl ?_
      refine j_callT (np := 28) (dd := d - 1) (As := [.int v4]) (st := [.ref (E.2.1 + v2)]) caJ0_charAt_5068e mlX9_300 imJ0_charAt_5068e seJ0_charAt_5068e rfl (fun b hb => wJ0_charAt_5068e (by omega) hb) (by omega) rfl rfl (Nat.le_of_ble_eq_true rfl) dX9_readType_25 rfl (fun b2 => ?_)
      refine j_aload_n (q := 0) (np := 29) rfl rfl dX9_readType_28 rfl ?_
      refine j_gR (np := 32) flX9_81 dX9_readType_29 rfl (fun x3 => ?_)
      refine j_callVi (ci := 0) (np := 35) (bc := bc) (bs := bs) (cb := 0) (cs := 0) (dd := d - 1) (As := [.int b2.1, .ref (E.2.1 + x3)]) (st := []) caX0_addLetter mlX9_262 imX0_addLetter seX0_addLetter rfl rfl (by decide) (fun b hb => wX0_addLetter (by omega) hb) (by omega) rfl rfl (Nat.le_of_ble_eq_true rfl) dX9_readType_32 rfl (fun b4 => ?_)
      refine j_pop (np := 36) rfl dX9_readType_35 rfl ?_
      refine j_iinc (q := 3) (np := 39) (lv2 := [(4, .int (v4 + (1 : Int32))), (0, .ref (E.2.1 + v0)), (2, .ref (E.2.1 + v2)), (3, .ref (E.2.2.2.2.1 v3))]) rfl (congrArg _ ci_1) (by decide) dX9_readType_36 rfl rfl ?_
      refine j_goto (tgt := 12) dX9_readType_39 rfl ?_
      refine j_sub (lv2 := [(0, .ref (E.2.1 + v0)), (2, .ref (E.2.1 + v2)), (3, .ref (E.2.2.2.2.1 v3)), (4, .int (v4 + (1 : Int32)))]) [1, 2, 3, 0] rfl ?_
      exact ih _ _
def fX9_readType (N : Nat) (v0 : Nat) (v1 : Int32) (v2 : Nat) (m0 : qM) : Option (qM) :=
  (fX6_typeOf N v1 m0).bind fun b1 =>
  (qChk b1.2 v2 0 (fX0_makeEmpty N v2 b1.2)).bind fun b2 =>
  (lX9_readType_12 N v0 v2 b1.1 N (0 : Int32) b2).bind fun o3 =>
  some o3
set_option maxRecDepth 100000 in
theorem bX9_readType {E : qE} {N d bc bs : Nat} (hd : 4 ≤ d) {v0 : Nat} {v1 : Int32} {v2 : Nat} {m0 : qM} : qB E yX9_readType cX9_readType 5 none (fun _ => True) d bc bs 0 [(0, .ref (E.2.1 + v0)), (1, .int v1), (2, .ref (E.2.1 + v2))] [] m0 (fX9_readType N v0 v1 v2 m0) (fun b rr => rr = (none, b)) := by
  unfold fX9_readType
  refine j_iload_n (q := 1) (np := 1) rfl rfl dX9_readType_0 rfl ?_
  refine j_callSs (np := 4) (bc := bc) (bs := bs) (cb := 0) (cs := 0) (dd := d - 1) (As := [.int v1]) (st := []) caX6_typeOf mlX9_293 stX6_typeOf (fun b hb => wX6_typeOf (by omega) hb) (by omega) rfl rfl (Nat.le_of_ble_eq_true rfl) dX9_readType_1 rfl (fun b1 => ?_)
  refine j_astore_n (np := 5) (lv2 := [(3, .ref (E.2.2.2.2.1 b1.1)), (0, .ref (E.2.1 + v0)), (1, .int v1), (2, .ref (E.2.1 + v2))]) rfl (by decide) dX9_readType_4 rfl rfl ?_
  refine j_aload_n (q := 3) (np := 6) rfl rfl dX9_readType_5 rfl ?_
  refine j_callVv (ci := 0) (np := 9) (bc := bc) (bs := bs) (cb := 0) (cs := 0) (dd := d - 1) (As := []) (st := []) caX0_makeEmpty mlX9_261 imX0_makeEmpty seX0_makeEmpty rfl rfl (by decide) (fun b hb => wX0_makeEmpty (by omega) hb) (by omega) rfl rfl (Nat.le_of_ble_eq_true rfl) dX9_readType_6 rfl (fun b2 => ?_)
  refine j_iconst (np := 10) ci_0 dX9_readType_9 rfl ?_
  refine j_istore (np := 12) (lv2 := [(4, .int (0 : Int32)), (3, .ref (E.2.2.2.2.1 b1.1)), (0, .ref (E.2.1 + v0)), (1, .int v1), (2, .ref (E.2.1 + v2))]) (by decide) dX9_readType_10 rfl rfl ?_
  refine j_sub (lv2 := [(0, .ref (E.2.1 + v0)), (2, .ref (E.2.1 + v2)), (3, .ref (E.2.2.2.2.1 b1.1)), (4, .int (0 : Int32))]) [2, 4, 1, 0] rfl ?_
  refine j_loop (xp := 42) (lvX := fun o3 => []) (mX := fun o3 => o3) (lbX9_readType_12 hd _ _ _) (fun o3 => ?_)
  exact j_vret rfl dX9_readType_42 (fun rr h => h)
set_option maxRecDepth 100000 in
theorem wX9_readType {E : qE} {N d : Nat} (hd : 4 ≤ d) {v0 : Nat} {v1 : Int32} {v2 : Nat} {m0 : qM} {b : qM} (h : fX9_readType N v0 v1 v2 m0 = some b) : qRun E yX9_readType cX9_readType 5 none d 0 0 [.ref (E.2.1 + v0), .int v1, .ref (E.2.1 + v2)] m0 (none, b) := q_met pnX9 (Nat.le_of_ble_eq_true rfl) (bX9_readType hd b _ h rfl)
theorem dX9_enterType_0 : decode cX9_enterType 0 = .ok (.aload_n 0, 1) := by decide +kernel
theorem dX9_enterType_1 : decode cX9_enterType 1 = .ok (.getfield 59, 3) := by decide +kernel
theorem dX9_enterType_4 : decode cX9_enterType 4 = .ok (.aload_n 0, 1) := by decide +kernel
theorem dX9_enterType_5 : decode cX9_enterType 5 = .ok (.getfield 12, 3) := by decide +kernel
theorem dX9_enterType_8 : decode cX9_enterType 8 = .ok (.invokevirtual 284, 3) := by decide +kernel
theorem dX9_enterType_11 : decode cX9_enterType 11 = .ok (.iconst 0, 1) := by decide +kernel
theorem dX9_enterType_12 : decode cX9_enterType 12 = .ok (.istore_n 1, 1) := by decide +kernel
theorem dX9_enterType_13 : decode cX9_enterType 13 = .ok (.iconst 0, 1) := by decide +kernel
theorem dX9_enterType_14 : decode cX9_enterType 14 = .ok (.istore_n 2, 1) := by decide +kernel
theorem dX9_enterType_15 : decode cX9_enterType 15 = .ok (.iload_n 2, 1) := by decide +kernel
theorem dX9_enterType_16 : decode cX9_enterType 16 = .ok (.aload_n 0, 1) := by decide +kernel
theorem dX9_enterType_17 : decode cX9_enterType 17 = .ok (.getfield 59, 3) := by decide +kernel
theorem dX9_enterType_20 : decode cX9_enterType 20 = .ok (.invokevirtual 287, 3) := by decide +kernel
theorem dX9_enterType_23 : decode cX9_enterType 23 = .ok (.if_icmp .ge 100, 3) := by decide +kernel
theorem dX9_enterType_26 : decode cX9_enterType 26 = .ok (.aload_n 0, 1) := by decide +kernel
theorem dX9_enterType_27 : decode cX9_enterType 27 = .ok (.getfield 59, 3) := by decide +kernel
theorem dX9_enterType_30 : decode cX9_enterType 30 = .ok (.iload_n 2, 1) := by decide +kernel
theorem dX9_enterType_31 : decode cX9_enterType 31 = .ok (.invokevirtual 288, 3) := by decide +kernel
theorem dX9_enterType_34 : decode cX9_enterType 34 = .ok (.istore_n 3, 1) := by decide +kernel
theorem dX9_enterType_35 : decode cX9_enterType 35 = .ok (.iload_n 3, 1) := by decide +kernel
theorem dX9_enterType_36 : decode cX9_enterType 36 = .ok (.bipush 64, 2) := by decide +kernel
theorem dX9_enterType_38 : decode cX9_enterType 38 = .ok (.if_icmp .ne 53, 3) := by decide +kernel
theorem dX9_enterType_41 : decode cX9_enterType 41 = .ok (.iload_n 1, 1) := by decide +kernel
theorem dX9_enterType_42 : decode cX9_enterType 42 = .ok (.iconst 2, 1) := by decide +kernel
theorem dX9_enterType_43 : decode cX9_enterType 43 = .ok (.if_icmp .lt 48, 3) := by decide +kernel
theorem dX9_enterType_46 : decode cX9_enterType 46 = .ok (.iinc 1 (-1), 3) := by decide +kernel
theorem dX9_enterType_49 : decode cX9_enterType 49 = .ok (.aload_n 0, 1) := by decide +kernel
theorem dX9_enterType_50 : decode cX9_enterType 50 = .ok (.getfield 29, 3) := by decide +kernel
theorem dX9_enterType_53 : decode cX9_enterType 53 = .ok (.aload_n 0, 1) := by decide +kernel
theorem dX9_enterType_54 : decode cX9_enterType 54 = .ok (.getfield 72, 3) := by decide +kernel
theorem dX9_enterType_57 : decode cX9_enterType 57 = .ok (.iload_n 1, 1) := by decide +kernel
theorem dX9_enterType_58 : decode cX9_enterType 58 = .ok (.iconst 1, 1) := by decide +kernel
theorem dX9_enterType_59 : decode cX9_enterType 59 = .ok (.isub, 1) := by decide +kernel
theorem dX9_enterType_60 : decode cX9_enterType 60 = .ok (.aaload, 1) := by decide +kernel
theorem dX9_enterType_61 : decode cX9_enterType 61 = .ok (.aload_n 0, 1) := by decide +kernel
theorem dX9_enterType_62 : decode cX9_enterType 62 = .ok (.getfield 72, 3) := by decide +kernel
theorem dX9_enterType_65 : decode cX9_enterType 65 = .ok (.iload_n 1, 1) := by decide +kernel
theorem dX9_enterType_66 : decode cX9_enterType 66 = .ok (.aaload, 1) := by decide +kernel
theorem dX9_enterType_67 : decode cX9_enterType 67 = .ok (.aload_n 0, 1) := by decide +kernel
theorem dX9_enterType_68 : decode cX9_enterType 68 = .ok (.getfield 72, 3) := by decide +kernel
theorem dX9_enterType_71 : decode cX9_enterType 71 = .ok (.iload_n 1, 1) := by decide +kernel
theorem dX9_enterType_72 : decode cX9_enterType 72 = .ok (.iconst 1, 1) := by decide +kernel
theorem dX9_enterType_73 : decode cX9_enterType 73 = .ok (.isub, 1) := by decide +kernel
theorem dX9_enterType_74 : decode cX9_enterType 74 = .ok (.aaload, 1) := by decide +kernel
theorem dX9_enterType_75 : decode cX9_enterType 75 = .ok (.invokevirtual 270, 3) := by decide +kernel
theorem dX9_enterType_78 : decode cX9_enterType 78 = .ok (.istore 4, 2) := by decide +kernel
theorem dX9_enterType_80 : decode cX9_enterType 80 = .ok (.iload 4, 2) := by decide +kernel
theorem dX9_enterType_82 : decode cX9_enterType 82 = .ok (.ifCond .eq 6, 3) := by decide +kernel
theorem dX9_enterType_85 : decode cX9_enterType 85 = .ok (.iload 4, 2) := by decide +kernel
theorem dX9_enterType_87 : decode cX9_enterType 87 = .ok (.ireturn, 1) := by decide +kernel
theorem dX9_enterType_88 : decode cX9_enterType 88 = .ok (.goto 29, 3) := by decide +kernel
theorem dX9_enterType_91 : decode cX9_enterType 91 = .ok (.iload_n 3, 1) := by decide +kernel
theorem dX9_enterType_92 : decode cX9_enterType 92 = .ok (.bipush 64, 2) := by decide +kernel
theorem dX9_enterType_94 : decode cX9_enterType 94 = .ok (.if_icmp .eq 23, 3) := by decide +kernel
theorem dX9_enterType_97 : decode cX9_enterType 97 = .ok (.iload_n 1, 1) := by decide +kernel
theorem dX9_enterType_98 : decode cX9_enterType 98 = .ok (.bipush 10, 2) := by decide +kernel
theorem dX9_enterType_100 : decode cX9_enterType 100 = .ok (.if_icmp .ge 17, 3) := by decide +kernel
theorem dX9_enterType_103 : decode cX9_enterType 103 = .ok (.aload_n 0, 1) := by decide +kernel
theorem dX9_enterType_104 : decode cX9_enterType 104 = .ok (.iload_n 3, 1) := by decide +kernel
theorem dX9_enterType_105 : decode cX9_enterType 105 = .ok (.aload_n 0, 1) := by decide +kernel
theorem dX9_enterType_106 : decode cX9_enterType 106 = .ok (.getfield 72, 3) := by decide +kernel
theorem dX9_enterType_109 : decode cX9_enterType 109 = .ok (.iload_n 1, 1) := by decide +kernel
theorem dX9_enterType_110 : decode cX9_enterType 110 = .ok (.aaload, 1) := by decide +kernel
theorem dX9_enterType_111 : decode cX9_enterType 111 = .ok (.invokevirtual 289, 3) := by decide +kernel
theorem dX9_enterType_114 : decode cX9_enterType 114 = .ok (.iinc 1 1, 3) := by decide +kernel
theorem dX9_enterType_117 : decode cX9_enterType 117 = .ok (.iinc 2 1, 3) := by decide +kernel
theorem dX9_enterType_120 : decode cX9_enterType 120 = .ok (.goto (-105), 3) := by decide +kernel
theorem dX9_enterType_123 : decode cX9_enterType 123 = .ok (.aload_n 0, 1) := by decide +kernel
theorem dX9_enterType_124 : decode cX9_enterType 124 = .ok (.getfield 22, 3) := by decide +kernel
theorem dX9_enterType_127 : decode cX9_enterType 127 = .ok (.aload_n 0, 1) := by decide +kernel
theorem dX9_enterType_128 : decode cX9_enterType 128 = .ok (.getfield 72, 3) := by decide +kernel
theorem dX9_enterType_131 : decode cX9_enterType 131 = .ok (.iconst 0, 1) := by decide +kernel
theorem dX9_enterType_132 : decode cX9_enterType 132 = .ok (.aaload, 1) := by decide +kernel
theorem dX9_enterType_133 : decode cX9_enterType 133 = .ok (.bipush (-4), 2) := by decide +kernel
theorem dX9_enterType_135 : decode cX9_enterType 135 = .ok (.bipush (-4), 2) := by decide +kernel
theorem dX9_enterType_137 : decode cX9_enterType 137 = .ok (.invokevirtual 266, 3) := by decide +kernel
theorem dX9_enterType_140 : decode cX9_enterType 140 = .ok (.ireturn, 1) := by decide +kernel
def kX9_enterType_117 (N : Nat) (rec : Int32 → Int32 → qM → Option ((qM) ⊕ (Int32 × qM))) (v0 : Nat) (v1 : Int32) (v2 : Int32)  (m0 : qM) : Option ((qM) ⊕ (Int32 × qM)) :=
  rec v1 (v2 + (1 : Int32)) m0
set_option maxRecDepth 100000 in
theorem kbX9_enterType_117 {E : qE} {N d bc bs : Nat} (hd : 5 ≤ d) {v0 : Nat} {v1 : Int32} {v2 : Int32}  {m0 : qM} {rec : Int32 → Int32 → qM → Option ((qM) ⊕ (Int32 × qM))} (hrec : ∀ (v1 : Int32) (v2 : Int32) (m : qM), qB E yX9_enterType cX9_enterType 5 (some .int) (fun _ => True) d bc bs 15 [(0, .ref (E.2.1 + v0)), (1, .int v1), (2, .int v2)] [] m (rec v1 v2 m) (qGL (fun o rr => qJ E yX9_enterType cX9_enterType 5 (some .int) (fun _ => True) d bc bs 123 [(0, .ref (E.2.1 + v0))] [] o rr) (fun r => (some (.int r.1), r.2)))) : qB E yX9_enterType cX9_enterType 5 (some .int) (fun _ => True) d bc bs 117 [(0, .ref (E.2.1 + v0)), (1, .int v1), (2, .int v2)] [] m0 (kX9_enterType_117 N rec v0 v1 v2 m0) (qGL (fun o rr => qJ E yX9_enterType cX9_enterType 5 (some .int) (fun _ => True) d bc bs 123 [(0, .ref (E.2.1 + v0))] [] o rr) (fun r => (some (.int r.1), r.2))) := by
  unfold kX9_enterType_117
  refine j_iinc (q := 2) (np := 120) (lv2 := [(2, .int (v2 + (1 : Int32))), (0, .ref (E.2.1 + v0)), (1, .int v1)]) rfl (congrArg _ ci_1) (by decide) dX9_enterType_117 rfl rfl ?_
  refine j_goto (tgt := 15) dX9_enterType_120 rfl ?_
  refine j_sub (lv2 := [(0, .ref (E.2.1 + v0)), (1, .int v1), (2, .int (v2 + (1 : Int32)))]) [1, 2, 0] rfl ?_
  exact hrec _ _ _
def kX9_enterType_91 (N : Nat) (rec : Int32 → Int32 → qM → Option ((qM) ⊕ (Int32 × qM))) (v0 : Nat) (v1 : Int32) (v2 : Int32) (v3 : Int32)  (m0 : qM) : Option ((qM) ⊕ (Int32 × qM)) :=
  if v3 = (64 : Int32) then (
  kX9_enterType_117 N (rec) v0 v1 v2 m0
  ) else (
  if (10 : Int32) ≤ v1 then (
  kX9_enterType_117 N (rec) v0 v1 v2 m0
  ) else (
  (qgR m0 v0 9 9).bind fun x1 =>
  (qaR m0 x1 15 v1).bind fun x2 =>
  (qChk m0 v0 9 (fX9_readType N v0 v3 x2 m0)).bind fun b3 =>
  kX9_enterType_117 N (rec) v0 (v1 + (1 : Int32)) v2 b3
  )
  )
set_option maxRecDepth 100000 in
theorem kbX9_enterType_91 {E : qE} {N d bc bs : Nat} (hd : 5 ≤ d) {v0 : Nat} {v1 : Int32} {v2 : Int32} {v3 : Int32}  {m0 : qM} {rec : Int32 → Int32 → qM → Option ((qM) ⊕ (Int32 × qM))} (hrec : ∀ (v1 : Int32) (v2 : Int32) (m : qM), qB E yX9_enterType cX9_enterType 5 (some .int) (fun _ => True) d bc bs 15 [(0, .ref (E.2.1 + v0)), (1, .int v1), (2, .int v2)] [] m (rec v1 v2 m) (qGL (fun o rr => qJ E yX9_enterType cX9_enterType 5 (some .int) (fun _ => True) d bc bs 123 [(0, .ref (E.2.1 + v0))] [] o rr) (fun r => (some (.int r.1), r.2)))) : qB E yX9_enterType cX9_enterType 5 (some .int) (fun _ => True) d bc bs 91 [(0, .ref (E.2.1 + v0)), (1, .int v1), (2, .int v2), (3, .int v3)] [] m0 (kX9_enterType_91 N rec v0 v1 v2 v3 m0) (qGL (fun o rr => qJ E yX9_enterType cX9_enterType 5 (some .int) (fun _ => True) d bc bs 123 [(0, .ref (E.2.1 + v0))] [] o rr) (fun r => (some (.int r.1), r.2))) := by
  unfold kX9_enterType_91
  refine j_iload_n (q := 3) (np := 92) rfl rfl dX9_enterType_91 rfl ?_
  refine j_bipush (np := 94) cb_64 dX9_enterType_92 rfl ?_
  refine j_icmp_eq (tgt := 117) (np := 97) dX9_enterType_94 rfl rfl ?_ ?_
  · refine j_sub (lv2 := [(0, .ref (E.2.1 + v0)), (1, .int v1), (2, .int v2)]) [0, 1, 2] rfl ?_
    exact kbX9_enterType_117 hd hrec
  · refine j_iload_n (q := 1) (np := 98) rfl rfl dX9_enterType_97 rfl ?_
    refine j_bipush (np := 100) cb_10 dX9_enterType_98 rfl ?_
    refine j_icmp_ge (tgt := 117) (np := 103) dX9_enterType_100 rfl rfl ?_ ?_
    · refine j_sub (lv2 := [(0, .ref (E.2.1 + v0)), (1, .int v1), (2, .int v2)]) [0, 1, 2] rfl ?_
      exact kbX9_enterType_117 hd hrec
    · refine j_aload_n (q := 0) (np := 104) rfl rfl dX9_enterType_103 rfl ?_
      refine j_iload_n (q := 3) (np := 105) rfl rfl dX9_enterType_104 rfl ?_
      refine j_aload_n (q := 0) (np := 106) rfl rfl dX9_enterType_105 rfl ?_
      refine j_gR (np := 109) flX9_72 dX9_enterType_106 rfl (fun x1 => ?_)
      refine j_iload_n (q := 1) (np := 110) rfl rfl dX9_enterType_109 rfl ?_
      refine j_aaload (np := 111) (c0 := 15) (t := 4) (C := "CondensedDetachment$Formula") (Or.inl rfl) (fun _ => rfl) dX9_enterType_110 rfl (fun x2 => ?_)
      refine j_callVv (ci := 9) (np := 114) (bc := bc) (bs := bs) (cb := 0) (cs := 0) (dd := d - 1) (As := [.int v3, .ref (E.2.1 + x2)]) (st := []) caX9_readType mlX9_289 imX9_readType seX9_readType rfl rfl (by decide) (fun b hb => wX9_readType (by omega) hb) (by omega) rfl rfl (Nat.le_of_ble_eq_true rfl) dX9_enterType_111 rfl (fun b3 => ?_)
      refine j_iinc (q := 1) (np := 117) (lv2 := [(1, .int (v1 + (1 : Int32))), (0, .ref (E.2.1 + v0)), (2, .int v2), (3, .int v3)]) rfl (congrArg _ ci_1) (by decide) dX9_enterType_114 rfl rfl ?_
      refine j_sub (lv2 := [(0, .ref (E.2.1 + v0)), (1, .int (v1 + (1 : Int32))), (2, .int v2)]) [1, 0, 2] rfl ?_
      exact kbX9_enterType_117 hd hrec
def lX9_enterType_15 (N : Nat) (v0 : Nat) : Nat → Int32 → Int32 → qM → Option ((qM) ⊕ (Int32 × qM))
  | 0, _, _, _ => none
  | n + 1, v1, v2, m0 =>
    (qgR m0 v0 9 7).bind fun x1 =>
    (qChk m0 x1 6 (fX6_length N x1 m0)).bind fun b2 =>
    if b2.1 ≤ v2 then (
    some (.inl b2.2)
    ) else (
    (qgR b2.2 v0 9 7).bind fun x3 =>
    (qChk b2.2 x3 6 (fX6_at N x3 v2 b2.2)).bind fun b4 =>
    if b4.1 = (64 : Int32) then (
    if v1 < (2 : Int32) then (
    kX9_enterType_91 N (lX9_enterType_15 N v0 n) v0 v1 v2 b4.1 b4.2
    ) else (
    (qgR b4.2 v0 9 3).bind fun x5 =>
    (qgR b4.2 v0 9 9).bind fun x6 =>
    (qaR b4.2 x6 15 ((v1 + (-1 : Int32)) - (1 : Int32))).bind fun x7 =>
    (qgR b4.2 v0 9 9).bind fun x8 =>
    (qaR b4.2 x8 15 (v1 + (-1 : Int32))).bind fun x9 =>
    (qgR b4.2 v0 9 9).bind fun x10 =>
    (qaR b4.2 x10 15 ((v1 + (-1 : Int32)) - (1 : Int32))).bind fun x11 =>
    (qChk b4.2 x5 8 (fX8_detachInto N x5 x7 x9 x11 b4.2)).bind fun b12 =>
    if b12.1 = 0 then (
    kX9_enterType_117 N (lX9_enterType_15 N v0 n) v0 (v1 + (-1 : Int32)) v2 b12.2
    ) else (
    some (.inr (b12.1, b12.2))
    )
    )
    ) else (
    kX9_enterType_91 N (lX9_enterType_15 N v0 n) v0 v1 v2 b4.1 b4.2
    )
    )
set_option maxRecDepth 100000 in
theorem lbX9_enterType_15 {E : qE} {N d bc bs : Nat} (hd : 5 ≤ d) {v0 : Nat} : ∀ (n : Nat) (v1 : Int32) (v2 : Int32) (m0 : qM), qB E yX9_enterType cX9_enterType 5 (some .int) (fun _ => True) d bc bs 15 [(0, .ref (E.2.1 + v0)), (1, .int v1), (2, .int v2)] [] m0 (lX9_enterType_15 N v0 n v1 v2 m0) (qGL (fun o rr => qJ E yX9_enterType cX9_enterType 5 (some .int) (fun _ => True) d bc bs 123 [(0, .ref (E.2.1 + v0))] [] o rr) (fun r => (some (.int r.1), r.2))) := by
  intro n
  induction n with
  | zero =>
    intro v1 v2 m0
    exact j_none
  | succ n ih =>
    intro v1 v2 m0
    unfold lX9_enterType_15
    refine j_iload_n (q := 2) (np := 16) rfl rfl dX9_enterType_15 rfl ?_
    refine j_aload_n (q := 0) (np := 17) rfl rfl dX9_enterType_16 rfl ?_
    refine j_gR (np := 20) flX9_59 dX9_enterType_17 rfl (fun x1 => ?_)
    refine j_callVi (ci := 6) (np := 23) (bc := bc) (bs := bs) (cb := 0) (cs := 0) (dd := d - 1) (As := []) (st := [.int v2]) caX6_length mlX9_287 imX6_length seX6_length rfl rfl (by decide) (fun b hb => wX6_length (by omega) hb) (by omega) rfl rfl (Nat.le_of_ble_eq_true rfl) dX9_enterType_20 rfl (fun b2 => ?_)
    refine j_icmp_ge (tgt := 123) (np := 26) dX9_enterType_23 rfl rfl ?_ ?_
    · refine j_sub (lv2 := [(0, .ref (E.2.1 + v0))]) [0] rfl ?_
      exact j_exit (fun rr h => h)
    · refine j_aload_n (q := 0) (np := 27) rfl rfl dX9_enterType_26 rfl ?_
      refine j_gR (np := 30) flX9_59 dX9_enterType_27 rfl (fun x3 => ?_)
      refine j_iload_n (q := 2) (np := 31) rfl rfl dX9_enterType_30 rfl ?_
      refine j_callVi (ci := 6) (np := 34) (bc := bc) (bs := bs) (cb := 0) (cs := 0) (dd := d - 1) (As := [.int v2]) (st := []) caX6_at mlX9_288 imX6_at seX6_at rfl rfl (by decide) (fun b hb => wX6_at (by omega) hb) (by omega) rfl rfl (Nat.le_of_ble_eq_true rfl) dX9_enterType_31 rfl (fun b4 => ?_)
      refine j_istore_n (np := 35) (lv2 := [(3, .int b4.1), (0, .ref (E.2.1 + v0)), (1, .int v1), (2, .int v2)]) rfl (by decide) dX9_enterType_34 rfl rfl ?_
      refine j_iload_n (q := 0) (np := 36) rfl rfl dX9_enterType_35 rfl ?_
      refine j_bipush (np := 38) cb_64 dX9_enterType_36 rfl ?_
      refine j_icmp_ne (tgt := 91) (np := 41) dX9_enterType_38 rfl rfl ?_ ?_
      · refine j_sub (lv2 := [(0, .ref (E.2.1 + v0)), (1, .int v1), (2, .int v2), (3, .int b4.1)]) [1, 2, 3, 0] rfl ?_
        exact kbX9_enterType_91 hd ih
      · refine j_iload_n (q := 2) (np := 42) rfl rfl dX9_enterType_41 rfl ?_
        refine j_iconst (np := 43) ci_2 dX9_enterType_42 rfl ?_
        refine j_icmp_lt (tgt := 91) (np := 46) dX9_enterType_43 rfl rfl ?_ ?_
        · refine j_sub (lv2 := [(0, .ref (E.2.1 + v0)), (1, .int v1), (2, .int v2), (3, .int b4.1)]) [1, 2, 3, 0] rfl ?_
          exact kbX9_enterType_91 hd ih
        · refine j_iinc (q := 2) (np := 49) (lv2 := [(1, .int (v1 + (-1 : Int32))), (3, .int b4.1), (0, .ref (E.2.1 + v0)), (2, .int v2)]) rfl (congrArg _ ci_m1) (by decide) dX9_enterType_46 rfl rfl ?_
          refine j_aload_n (q := 2) (np := 50) rfl rfl dX9_enterType_49 rfl ?_
          refine j_gR (np := 53) flX9_29 dX9_enterType_50 rfl (fun x5 => ?_)
          refine j_aload_n (q := 2) (np := 54) rfl rfl dX9_enterType_53 rfl ?_
          refine j_gR (np := 57) flX9_72 dX9_enterType_54 rfl (fun x6 => ?_)
          refine j_iload_n (q := 0) (np := 58) rfl rfl dX9_enterType_57 rfl ?_
          refine j_iconst (np := 59) ci_1 dX9_enterType_58 rfl ?_
          refine j_isub (np := 60) dX9_enterType_59 rfl ?_
          refine j_aaload (np := 61) (c0 := 15) (t := 4) (C := "CondensedDetachment$Formula") (Or.inl rfl) (fun _ => rfl) dX9_enterType_60 rfl (fun x7 => ?_)
          refine j_aload_n (q := 2) (np := 62) rfl rfl dX9_enterType_61 rfl ?_
          refine j_gR (np := 65) flX9_72 dX9_enterType_62 rfl (fun x8 => ?_)
          refine j_iload_n (q := 0) (np := 66) rfl rfl dX9_enterType_65 rfl ?_
          refine j_aaload (np := 67) (c0 := 15) (t := 4) (C := "CondensedDetachment$Formula") (Or.inl rfl) (fun _ => rfl) dX9_enterType_66 rfl (fun x9 => ?_)
          refine j_aload_n (q := 2) (np := 68) rfl rfl dX9_enterType_67 rfl ?_
          refine j_gR (np := 71) flX9_72 dX9_enterType_68 rfl (fun x10 => ?_)
          refine j_iload_n (q := 0) (np := 72) rfl rfl dX9_enterType_71 rfl ?_
          refine j_iconst (np := 73) ci_1 dX9_enterType_72 rfl ?_
          refine j_isub (np := 74) dX9_enterType_73 rfl ?_
          refine j_aaload (np := 75) (c0 := 15) (t := 4) (C := "CondensedDetachment$Formula") (Or.inl rfl) (fun _ => rfl) dX9_enterType_74 rfl (fun x11 => ?_)
          refine j_callVi (ci := 8) (np := 78) (bc := bc) (bs := bs) (cb := 0) (cs := 0) (dd := d - 1) (As := [.ref (E.2.1 + x7), .ref (E.2.1 + x9), .ref (E.2.1 + x11)]) (st := []) caX8_detachInto mlX9_270 imX8_detachInto seX8_detachInto rfl rfl (by decide) (fun b hb => wX8_detachInto (by omega) hb) (by omega) rfl rfl (Nat.le_of_ble_eq_true rfl) dX9_enterType_75 rfl (fun b12 => ?_)
          refine j_istore (np := 80) (lv2 := [(4, .int b12.1), (1, .int (v1 + (-1 : Int32))), (3, .int b4.1), (0, .ref (E.2.1 + v0)), (2, .int v2)]) (by decide) dX9_enterType_78 rfl rfl ?_
          refine j_iload (q := 0) (np := 82) rfl dX9_enterType_80 rfl ?_
          refine j_if_eq (tgt := 88) (np := 85) dX9_enterType_82 rfl rfl ?_ ?_
          · refine j_goto (tgt := 117) dX9_enterType_88 rfl ?_
            refine j_sub (lv2 := [(0, .ref (E.2.1 + v0)), (1, .int (v1 + (-1 : Int32))), (2, .int v2)]) [3, 1, 4] rfl ?_
            exact kbX9_enterType_117 hd ih
          · refine j_iload (q := 0) (np := 87) rfl dX9_enterType_85 rfl ?_
            exact j_iret rfl dX9_enterType_87 (fun rr h => h)
def fX9_enterType (N : Nat) (v0 : Nat) (m0 : qM) : Option (Int32 × qM) :=
  (qgR m0 v0 9 7).bind fun x1 =>
  (qgR m0 v0 9 0).bind fun x2 =>
  (qChk m0 x1 6 (fX6_read N x1 x2 m0)).bind fun b3 =>
  qTh (lX9_enterType_15 N v0 N (0 : Int32) (0 : Int32) b3) (fun o4 =>
  (qgR o4 v0 9 2).bind fun x5 =>
  (qgR o4 v0 9 9).bind fun x6 =>
  (qaR o4 x6 15 (0 : Int32)).bind fun x7 =>
  (qChk o4 x5 1 (fX1_enter N x5 x7 (-4 : Int32) (-4 : Int32) o4)).bind fun b8 =>
  some (b8.1, b8.2)
  ) (fun r => r)
set_option maxRecDepth 100000 in
theorem bX9_enterType {E : qE} {N d bc bs : Nat} (hd : 5 ≤ d) {v0 : Nat} {m0 : qM} : qB E yX9_enterType cX9_enterType 5 (some .int) (fun _ => True) d bc bs 0 [(0, .ref (E.2.1 + v0))] [] m0 (fX9_enterType N v0 m0) (fun b rr => rr = (some (.int b.1), b.2)) := by
  unfold fX9_enterType
  refine j_aload_n (q := 0) (np := 1) rfl rfl dX9_enterType_0 rfl ?_
  refine j_gR (np := 4) flX9_59 dX9_enterType_1 rfl (fun x1 => ?_)
  refine j_aload_n (q := 0) (np := 5) rfl rfl dX9_enterType_4 rfl ?_
  refine j_gR (np := 8) flX9_12 dX9_enterType_5 rfl (fun x2 => ?_)
  refine j_callVv (ci := 6) (np := 11) (bc := bc) (bs := bs) (cb := 0) (cs := 0) (dd := d - 1) (As := [.ref (E.2.1 + x2)]) (st := []) caX6_read mlX9_284 imX6_read seX6_read rfl rfl (by decide) (fun b hb => wX6_read (by omega) hb) (by omega) rfl rfl (Nat.le_of_ble_eq_true rfl) dX9_enterType_8 rfl (fun b3 => ?_)
  refine j_iconst (np := 12) ci_0 dX9_enterType_11 rfl ?_
  refine j_istore_n (np := 13) (lv2 := [(1, .int (0 : Int32)), (0, .ref (E.2.1 + v0))]) rfl (by decide) dX9_enterType_12 rfl rfl ?_
  refine j_iconst (np := 14) ci_0 dX9_enterType_13 rfl ?_
  refine j_istore_n (np := 15) (lv2 := [(2, .int (0 : Int32)), (1, .int (0 : Int32)), (0, .ref (E.2.1 + v0))]) rfl (by decide) dX9_enterType_14 rfl rfl ?_
  refine j_sub (lv2 := [(0, .ref (E.2.1 + v0)), (1, .int (0 : Int32)), (2, .int (0 : Int32))]) [2, 1, 0] rfl ?_
  refine j_loopG (xp := 123) (lvX := fun o4 => [(0, .ref (E.2.1 + v0))]) (mX := fun o4 => o4) (lbX9_enterType_15 hd _ _ _ _) (fun r rr h => h) (fun o4 => ?_)
  refine j_aload_n (q := 0) (np := 124) rfl rfl dX9_enterType_123 rfl ?_
  refine j_gR (np := 127) flX9_22 dX9_enterType_124 rfl (fun x5 => ?_)
  refine j_aload_n (q := 0) (np := 128) rfl rfl dX9_enterType_127 rfl ?_
  refine j_gR (np := 131) flX9_72 dX9_enterType_128 rfl (fun x6 => ?_)
  refine j_iconst (np := 132) ci_0 dX9_enterType_131 rfl ?_
  refine j_aaload (np := 133) (c0 := 15) (t := 4) (C := "CondensedDetachment$Formula") (Or.inl rfl) (fun _ => rfl) dX9_enterType_132 rfl (fun x7 => ?_)
  refine j_bipush (np := 135) cb_m4 dX9_enterType_133 rfl ?_
  refine j_bipush (np := 137) cb_m4 dX9_enterType_135 rfl ?_
  refine j_callVi (ci := 1) (np := 140) (bc := bc) (bs := bs) (cb := 0) (cs := 0) (dd := d - 1) (As := [.ref (E.2.1 + x7), .int (-4 : Int32), .int (-4 : Int32)]) (st := []) caX1_enter mlX9_266 imX1_enter seX1_enter rfl rfl (by decide) (fun b hb => wX1_enter (by omega) hb) (by omega) rfl rfl (Nat.le_of_ble_eq_true rfl) dX9_enterType_137 rfl (fun b8 => ?_)
  exact j_iret rfl dX9_enterType_140 (fun rr h => h)
set_option maxRecDepth 100000 in
theorem wX9_enterType {E : qE} {N d : Nat} (hd : 5 ≤ d) {v0 : Nat} {m0 : qM} {b : Int32 × qM} (h : fX9_enterType N v0 m0 = some b) : qRun E yX9_enterType cX9_enterType 5 (some .int) d 0 0 [.ref (E.2.1 + v0)] m0 (some (.int b.1), b.2) := q_met pnX9 (Nat.le_of_ble_eq_true rfl) (bX9_enterType hd b _ h rfl)
theorem dX9_termError_0 : decode cX9_termError 0 = .ok (.iconst 0, 1) := by decide +kernel
theorem dX9_termError_1 : decode cX9_termError 1 = .ok (.istore_n 1, 1) := by decide +kernel
theorem dX9_termError_2 : decode cX9_termError 2 = .ok (.iconst 1, 1) := by decide +kernel
theorem dX9_termError_3 : decode cX9_termError 3 = .ok (.istore_n 2, 1) := by decide +kernel
theorem dX9_termError_4 : decode cX9_termError 4 = .ok (.iconst 0, 1) := by decide +kernel
theorem dX9_termError_5 : decode cX9_termError 5 = .ok (.istore_n 3, 1) := by decide +kernel
theorem dX9_termError_6 : decode cX9_termError 6 = .ok (.iload_n 3, 1) := by decide +kernel
theorem dX9_termError_7 : decode cX9_termError 7 = .ok (.aload_n 0, 1) := by decide +kernel
theorem dX9_termError_8 : decode cX9_termError 8 = .ok (.getfield 12, 3) := by decide +kernel
theorem dX9_termError_11 : decode cX9_termError 11 = .ok (.invokevirtual 88, 3) := by decide +kernel
theorem dX9_termError_14 : decode cX9_termError 14 = .ok (.if_icmp .ge 80, 3) := by decide +kernel
theorem dX9_termError_17 : decode cX9_termError 17 = .ok (.aload_n 0, 1) := by decide +kernel
theorem dX9_termError_18 : decode cX9_termError 18 = .ok (.getfield 12, 3) := by decide +kernel
theorem dX9_termError_21 : decode cX9_termError 21 = .ok (.iload_n 3, 1) := by decide +kernel
theorem dX9_termError_22 : decode cX9_termError 22 = .ok (.invokevirtual 167, 3) := by decide +kernel
theorem dX9_termError_25 : decode cX9_termError 25 = .ok (.istore 4, 2) := by decide +kernel
theorem dX9_termError_27 : decode cX9_termError 27 = .ok (.iload 4, 2) := by decide +kernel
theorem dX9_termError_29 : decode cX9_termError 29 = .ok (.bipush 40, 2) := by decide +kernel
theorem dX9_termError_31 : decode cX9_termError 31 = .ok (.if_icmp .ne 19, 3) := by decide +kernel
theorem dX9_termError_34 : decode cX9_termError 34 = .ok (.iload_n 1, 1) := by decide +kernel
theorem dX9_termError_35 : decode cX9_termError 35 = .ok (.bipush 8, 2) := by decide +kernel
theorem dX9_termError_37 : decode cX9_termError 37 = .ok (.if_icmp .lt 5, 3) := by decide +kernel
theorem dX9_termError_40 : decode cX9_termError 40 = .ok (.iload_n 3, 1) := by decide +kernel
theorem dX9_termError_41 : decode cX9_termError 41 = .ok (.ireturn, 1) := by decide +kernel
theorem dX9_termError_42 : decode cX9_termError 42 = .ok (.iinc 1 1, 3) := by decide +kernel
theorem dX9_termError_45 : decode cX9_termError 45 = .ok (.iconst 1, 1) := by decide +kernel
theorem dX9_termError_46 : decode cX9_termError 46 = .ok (.istore_n 2, 1) := by decide +kernel
theorem dX9_termError_47 : decode cX9_termError 47 = .ok (.goto 41, 3) := by decide +kernel
theorem dX9_termError_50 : decode cX9_termError 50 = .ok (.iload 4, 2) := by decide +kernel
theorem dX9_termError_52 : decode cX9_termError 52 = .ok (.bipush 41, 2) := by decide +kernel
theorem dX9_termError_54 : decode cX9_termError 54 = .ok (.if_icmp .ne 19, 3) := by decide +kernel
theorem dX9_termError_57 : decode cX9_termError 57 = .ok (.iload_n 1, 1) := by decide +kernel
theorem dX9_termError_58 : decode cX9_termError 58 = .ok (.ifCond .eq 7, 3) := by decide +kernel
theorem dX9_termError_61 : decode cX9_termError 61 = .ok (.iload_n 2, 1) := by decide +kernel
theorem dX9_termError_62 : decode cX9_termError 62 = .ok (.ifCond .eq 5, 3) := by decide +kernel
theorem dX9_termError_65 : decode cX9_termError 65 = .ok (.iload_n 3, 1) := by decide +kernel
theorem dX9_termError_66 : decode cX9_termError 66 = .ok (.ireturn, 1) := by decide +kernel
theorem dX9_termError_67 : decode cX9_termError 67 = .ok (.iinc 1 (-1), 3) := by decide +kernel
theorem dX9_termError_70 : decode cX9_termError 70 = .ok (.goto 18, 3) := by decide +kernel
theorem dX9_termError_73 : decode cX9_termError 73 = .ok (.iload 4, 2) := by decide +kernel
theorem dX9_termError_75 : decode cX9_termError 75 = .ok (.invokestatic 257, 3) := by decide +kernel
theorem dX9_termError_78 : decode cX9_termError 78 = .ok (.ifCond .le 8, 3) := by decide +kernel
theorem dX9_termError_81 : decode cX9_termError 81 = .ok (.iconst 0, 1) := by decide +kernel
theorem dX9_termError_82 : decode cX9_termError 82 = .ok (.istore_n 2, 1) := by decide +kernel
theorem dX9_termError_83 : decode cX9_termError 83 = .ok (.goto 5, 3) := by decide +kernel
theorem dX9_termError_86 : decode cX9_termError 86 = .ok (.iload_n 3, 1) := by decide +kernel
theorem dX9_termError_87 : decode cX9_termError 87 = .ok (.ireturn, 1) := by decide +kernel
theorem dX9_termError_88 : decode cX9_termError 88 = .ok (.iinc 3 1, 3) := by decide +kernel
theorem dX9_termError_91 : decode cX9_termError 91 = .ok (.goto (-85), 3) := by decide +kernel
theorem dX9_termError_94 : decode cX9_termError 94 = .ok (.iload_n 1, 1) := by decide +kernel
theorem dX9_termError_95 : decode cX9_termError 95 = .ok (.ifCond .ne 11, 3) := by decide +kernel
theorem dX9_termError_98 : decode cX9_termError 98 = .ok (.iload_n 2, 1) := by decide +kernel
theorem dX9_termError_99 : decode cX9_termError 99 = .ok (.ifCond .ne 7, 3) := by decide +kernel
theorem dX9_termError_102 : decode cX9_termError 102 = .ok (.iconst (-1), 1) := by decide +kernel
theorem dX9_termError_103 : decode cX9_termError 103 = .ok (.goto 10, 3) := by decide +kernel
theorem dX9_termError_106 : decode cX9_termError 106 = .ok (.aload_n 0, 1) := by decide +kernel
theorem dX9_termError_107 : decode cX9_termError 107 = .ok (.getfield 12, 3) := by decide +kernel
theorem dX9_termError_110 : decode cX9_termError 110 = .ok (.invokevirtual 88, 3) := by decide +kernel
theorem dX9_termError_113 : decode cX9_termError 113 = .ok (.ireturn, 1) := by decide +kernel
def kX9_termError_88 (N : Nat) (rec : Int32 → Int32 → Int32 → qM → Option ((Int32 × Int32 × qM) ⊕ (Int32 × qM))) (v0 : Nat) (v1 : Int32) (v2 : Int32) (v3 : Int32)  (m0 : qM) : Option ((Int32 × Int32 × qM) ⊕ (Int32 × qM)) :=
  rec v1 v2 (v3 + (1 : Int32)) m0
set_option maxRecDepth 100000 in
theorem kbX9_termError_88 {E : qE} {N d bc bs : Nat} (hd : 1 ≤ d) {v0 : Nat} {v1 : Int32} {v2 : Int32} {v3 : Int32}  {m0 : qM} {rec : Int32 → Int32 → Int32 → qM → Option ((Int32 × Int32 × qM) ⊕ (Int32 × qM))} (hrec : ∀ (v1 : Int32) (v2 : Int32) (v3 : Int32) (m : qM), qB E yX9_termError cX9_termError 5 (some .int) (fun _ => True) d bc bs 6 [(0, .ref (E.2.1 + v0)), (1, .int v1), (2, .int v2), (3, .int v3)] [] m (rec v1 v2 v3 m) (qGL (fun o rr => qJ E yX9_termError cX9_termError 5 (some .int) (fun _ => True) d bc bs 94 [(0, .ref (E.2.1 + v0)), (1, .int o.1), (2, .int o.2.1)] [] o.2.2 rr) (fun r => (some (.int r.1), r.2)))) : qB E yX9_termError cX9_termError 5 (some .int) (fun _ => True) d bc bs 88 [(0, .ref (E.2.1 + v0)), (1, .int v1), (2, .int v2), (3, .int v3)] [] m0 (kX9_termError_88 N rec v0 v1 v2 v3 m0) (qGL (fun o rr => qJ E yX9_termError cX9_termError 5 (some .int) (fun _ => True) d bc bs 94 [(0, .ref (E.2.1 + v0)), (1, .int o.1), (2, .int o.2.1)] [] o.2.2 rr) (fun r => (some (.int r.1), r.2))) := by
  unfold kX9_termError_88
  refine j_iinc (q := 3) (np := 91) (lv2 := [(3, .int (v3 + (1 : Int32))), (0, .ref (E.2.1 + v0)), (1, .int v1), (2, .int v2)]) rfl (congrArg _ ci_1) (by decide) dX9_termError_88 rfl rfl ?_
  refine j_goto (tgt := 6) dX9_termError_91 rfl ?_
  refine j_sub (lv2 := [(0, .ref (E.2.1 + v0)), (1, .int v1), (2, .int v2), (3, .int (v3 + (1 : Int32)))]) [1, 2, 3, 0] rfl ?_
  exact hrec _ _ _ _
def lX9_termError_6 (N : Nat) (v0 : Nat) : Nat → Int32 → Int32 → Int32 → qM → Option ((Int32 × Int32 × qM) ⊕ (Int32 × qM))
  | 0, _, _, _, _ => none
  | n + 1, v1, v2, v3, m0 =>
    (qgR m0 v0 9 0).bind fun x1 =>
    (qChk m0 x1 7 (fX7_length N x1 m0)).bind fun b2 =>
    if b2.1 ≤ v3 then (
    some (.inl (v1, v2, b2.2))
    ) else (
    (qgR b2.2 v0 9 0).bind fun x3 =>
    (qChk b2.2 x3 7 (fX7_at N x3 v3 b2.2)).bind fun b4 =>
    if b4.1 = (40 : Int32) then (
    if v1 < (8 : Int32) then (
    kX9_termError_88 N (lX9_termError_6 N v0 n) v0 (v1 + (1 : Int32)) (1 : Int32) v3 b4.2
    ) else (
    some (.inr (v3, b4.2))
    )
    ) else (
    if b4.1 = (41 : Int32) then (
    if v1 = 0 then (
    some (.inr (v3, b4.2))
    ) else (
    if v2 = 0 then (
    kX9_termError_88 N (lX9_termError_6 N v0 n) v0 (v1 + (-1 : Int32)) v2 v3 b4.2
    ) else (
    some (.inr (v3, b4.2))
    )
    )
    ) else (
    (fX6_arityOf N b4.1 b4.2).bind fun b5 =>
    if b5.1 ≤ 0 then (
    some (.inr (v3, b5.2))
    ) else (
    kX9_termError_88 N (lX9_termError_6 N v0 n) v0 v1 (0 : Int32) v3 b5.2
    )
    )
    )
    )
set_option maxRecDepth 100000 in
theorem lbX9_termError_6 {E : qE} {N d bc bs : Nat} (hd : 1 ≤ d) {v0 : Nat} : ∀ (n : Nat) (v1 : Int32) (v2 : Int32) (v3 : Int32) (m0 : qM), qB E yX9_termError cX9_termError 5 (some .int) (fun _ => True) d bc bs 6 [(0, .ref (E.2.1 + v0)), (1, .int v1), (2, .int v2), (3, .int v3)] [] m0 (lX9_termError_6 N v0 n v1 v2 v3 m0) (qGL (fun o rr => qJ E yX9_termError cX9_termError 5 (some .int) (fun _ => True) d bc bs 94 [(0, .ref (E.2.1 + v0)), (1, .int o.1), (2, .int o.2.1)] [] o.2.2 rr) (fun r => (some (.int r.1), r.2))) := by
  intro n
  induction n with
  | zero =>
    intro v1 v2 v3 m0
    exact j_none
  | succ n ih =>
    intro v1 v2 v3 m0
    unfold lX9_termError_6
    refine j_iload_n (q := 3) (np := 7) rfl rfl dX9_termError_6 rfl ?_
    refine j_aload_n (q := 0) (np := 8) rfl rfl dX9_termError_7 rfl ?_
    refine j_gR (np := 11) flX9_12 dX9_termError_8 rfl (fun x1 => ?_)
    refine j_callVi (ci := 7) (np := 14) (bc := bc) (bs := bs) (cb := 0) (cs := 0) (dd := d - 1) (As := []) (st := [.int v3]) caX7_length mlX9_88 imX7_length seX7_length rfl rfl (by decide) (fun b hb => wX7_length (by omega) hb) (by omega) rfl rfl (Nat.le_of_ble_eq_true rfl) dX9_termError_11 rfl (fun b2 => ?_)
    refine j_icmp_ge (tgt := 94) (np := 17) dX9_termError_14 rfl rfl ?_ ?_
    · refine j_sub (lv2 := [(0, .ref (E.2.1 + v0)), (1, .int v1), (2, .int v2)]) [0, 1, 2] rfl ?_
      exact j_exit (fun rr h => h)
    · refine j_aload_n (q := 0) (np := 18) rfl rfl dX9_termError_17 rfl ?_
      refine j_gR (np := 21) flX9_12 dX9_termError_18 rfl (fun x3 => ?_)
      refine j_iload_n (q := 3) (np := 22) rfl rfl dX9_termError_21 rfl ?_
      refine j_callVi (ci := 7) (np := 25) (bc := bc) (bs := bs) (cb := 0) (cs := 0) (dd := d - 1) (As := [.int v3]) (st := []) caX7_at mlX9_167 imX7_at seX7_at rfl rfl (by decide) (fun b hb => wX7_at (by omega) hb) (by omega) rfl rfl (Nat.le_of_ble_eq_true rfl) dX9_termError_22 rfl (fun b4 => ?_)
      refine j_istore (np := 27) (lv2 := [(4, .int b4.1), (0, .ref (E.2.1 + v0)), (1, .int v1), (2, .int v2), (3, .int v3)]) (by decide) dX9_termError_25 rfl rfl ?_
      refine j_iload (q := 0) (np := 29) rfl dX9_termError_27 rfl ?_
      refine j_bipush (np := 31) cb_40 dX9_termError_29 rfl ?_
      refine j_icmp_ne (tgt := 50) (np := 34) dX9_termError_31 rfl rfl ?_ ?_
      · refine j_iload (q := 0) (np := 52) rfl dX9_termError_50 rfl ?_
        refine j_bipush (np := 54) cb_41 dX9_termError_52 rfl ?_
        refine j_icmp_ne (tgt := 73) (np := 57) dX9_termError_54 rfl rfl ?_ ?_
        · refine j_iload (q := 0) (np := 75) rfl dX9_termError_73 rfl ?_
          refine j_callSi (np := 78) (bc := bc) (bs := bs) (cb := 0) (cs := 0) (dd := d - 1) (As := [.int b4.1]) (st := []) caX6_arityOf mlX9_257 stX6_arityOf (fun b hb => wX6_arityOf (by omega) hb) (by omega) rfl rfl (Nat.le_of_ble_eq_true rfl) dX9_termError_75 rfl (fun b5 => ?_)
          refine j_if_le (tgt := 86) (np := 81) dX9_termError_78 rfl rfl ?_ ?_
          · refine j_iload_n (q := 4) (np := 87) rfl rfl dX9_termError_86 rfl ?_
            exact j_iret rfl dX9_termError_87 (fun rr h => h)
          · refine j_iconst (np := 82) ci_0 dX9_termError_81 rfl ?_
            refine j_istore_n (np := 83) (lv2 := [(2, .int (0 : Int32)), (4, .int b4.1), (0, .ref (E.2.1 + v0)), (1, .int v1), (3, .int v3)]) rfl (by decide) dX9_termError_82 rfl rfl ?_
            refine j_goto (tgt := 88) dX9_termError_83 rfl ?_
            refine j_sub (lv2 := [(0, .ref (E.2.1 + v0)), (1, .int v1), (2, .int (0 : Int32)), (3, .int v3)]) [2, 3, 0, 4] rfl ?_
            exact kbX9_termError_88 hd ih
        · refine j_iload_n (q := 2) (np := 58) rfl rfl dX9_termError_57 rfl ?_
          refine j_if_eq (tgt := 65) (np := 61) dX9_termError_58 rfl rfl ?_ ?_
          · refine j_iload_n (q := 4) (np := 66) rfl rfl dX9_termError_65 rfl ?_
            exact j_iret rfl dX9_termError_66 (fun rr h => h)
          · refine j_iload_n (q := 3) (np := 62) rfl rfl dX9_termError_61 rfl ?_
            refine j_if_eq (tgt := 67) (np := 65) dX9_termError_62 rfl rfl ?_ ?_
            · refine j_iinc (q := 2) (np := 70) (lv2 := [(1, .int (v1 + (-1 : Int32))), (4, .int b4.1), (0, .ref (E.2.1 + v0)), (2, .int v2), (3, .int v3)]) rfl (congrArg _ ci_m1) (by decide) dX9_termError_67 rfl rfl ?_
              refine j_goto (tgt := 88) dX9_termError_70 rfl ?_
              refine j_sub (lv2 := [(0, .ref (E.2.1 + v0)), (1, .int (v1 + (-1 : Int32))), (2, .int v2), (3, .int v3)]) [2, 0, 3, 4] rfl ?_
              exact kbX9_termError_88 hd ih
            · refine j_iload_n (q := 4) (np := 66) rfl rfl dX9_termError_65 rfl ?_
              exact j_iret rfl dX9_termError_66 (fun rr h => h)
      · refine j_iload_n (q := 2) (np := 35) rfl rfl dX9_termError_34 rfl ?_
        refine j_bipush (np := 37) cb_8 dX9_termError_35 rfl ?_
        refine j_icmp_lt (tgt := 42) (np := 40) dX9_termError_37 rfl rfl ?_ ?_
        · refine j_iinc (q := 2) (np := 45) (lv2 := [(1, .int (v1 + (1 : Int32))), (4, .int b4.1), (0, .ref (E.2.1 + v0)), (2, .int v2), (3, .int v3)]) rfl (congrArg _ ci_1) (by decide) dX9_termError_42 rfl rfl ?_
          refine j_iconst (np := 46) ci_1 dX9_termError_45 rfl ?_
          refine j_istore_n (np := 47) (lv2 := [(2, .int (1 : Int32)), (1, .int (v1 + (1 : Int32))), (4, .int b4.1), (0, .ref (E.2.1 + v0)), (3, .int v3)]) rfl (by decide) dX9_termError_46 rfl rfl ?_
          refine j_goto (tgt := 88) dX9_termError_47 rfl ?_
          refine j_sub (lv2 := [(0, .ref (E.2.1 + v0)), (1, .int (v1 + (1 : Int32))), (2, .int (1 : Int32)), (3, .int v3)]) [3, 1, 0, 4] rfl ?_
          exact kbX9_termError_88 hd ih
        · refine j_iload_n (q := 4) (np := 41) rfl rfl dX9_termError_40 rfl ?_
          exact j_iret rfl dX9_termError_41 (fun rr h => h)
def kX9_termError_106 (N : Nat) (v0 : Nat)  (m0 : qM) : Option (Int32 × qM) :=
  (qgR m0 v0 9 0).bind fun x1 =>
  (qChk m0 x1 7 (fX7_length N x1 m0)).bind fun b2 =>
  some (b2.1, b2.2)
set_option maxRecDepth 100000 in
theorem kbX9_termError_106 {E : qE} {N d bc bs : Nat} (hd : 1 ≤ d) {v0 : Nat}  {m0 : qM} : qB E yX9_termError cX9_termError 5 (some .int) (fun _ => True) d bc bs 106 [(0, .ref (E.2.1 + v0))] [] m0 (kX9_termError_106 N v0 m0) (fun b rr => rr = (some (.int b.1), b.2)) := by
  unfold kX9_termError_106
  refine j_aload_n (q := 0) (np := 107) rfl rfl dX9_termError_106 rfl ?_
  refine j_gR (np := 110) flX9_12 dX9_termError_107 rfl (fun x1 => ?_)
  refine j_callVi (ci := 7) (np := 113) (bc := bc) (bs := bs) (cb := 0) (cs := 0) (dd := d - 1) (As := []) (st := []) caX7_length mlX9_88 imX7_length seX7_length rfl rfl (by decide) (fun b hb => wX7_length (by omega) hb) (by omega) rfl rfl (Nat.le_of_ble_eq_true rfl) dX9_termError_110 rfl (fun b2 => ?_)
  exact j_iret rfl dX9_termError_113 (fun rr h => h)
def fX9_termError (N : Nat) (v0 : Nat) (m0 : qM) : Option (Int32 × qM) :=
  qTh (lX9_termError_6 N v0 N (0 : Int32) (1 : Int32) (0 : Int32) m0) (fun o1 =>
  if o1.1 = 0 then (
  if o1.2.1 = 0 then (
  some ((-1 : Int32), o1.2.2)
  ) else (
  kX9_termError_106 N v0 o1.2.2
  )
  ) else (
  kX9_termError_106 N v0 o1.2.2
  )
  ) (fun r => r)
set_option maxRecDepth 100000 in
theorem bX9_termError {E : qE} {N d bc bs : Nat} (hd : 1 ≤ d) {v0 : Nat} {m0 : qM} : qB E yX9_termError cX9_termError 5 (some .int) (fun _ => True) d bc bs 0 [(0, .ref (E.2.1 + v0))] [] m0 (fX9_termError N v0 m0) (fun b rr => rr = (some (.int b.1), b.2)) := by
  unfold fX9_termError
  refine j_iconst (np := 1) ci_0 dX9_termError_0 rfl ?_
  refine j_istore_n (np := 2) (lv2 := [(1, .int (0 : Int32)), (0, .ref (E.2.1 + v0))]) rfl (by decide) dX9_termError_1 rfl rfl ?_
  refine j_iconst (np := 3) ci_1 dX9_termError_2 rfl ?_
  refine j_istore_n (np := 4) (lv2 := [(2, .int (1 : Int32)), (1, .int (0 : Int32)), (0, .ref (E.2.1 + v0))]) rfl (by decide) dX9_termError_3 rfl rfl ?_
  refine j_iconst (np := 5) ci_0 dX9_termError_4 rfl ?_
  refine j_istore_n (np := 6) (lv2 := [(3, .int (0 : Int32)), (2, .int (1 : Int32)), (1, .int (0 : Int32)), (0, .ref (E.2.1 + v0))]) rfl (by decide) dX9_termError_5 rfl rfl ?_
  refine j_sub (lv2 := [(0, .ref (E.2.1 + v0)), (1, .int (0 : Int32)), (2, .int (1 : Int32)), (3, .int (0 : Int32))]) [3, 2, 1, 0] rfl ?_
  refine j_loopG (xp := 94) (lvX := fun o1 => [(0, .ref (E.2.1 + v0)), (1, .int o1.1), (2, .int o1.2.1)]) (mX := fun o1 => o1.2.2) (lbX9_termError_6 hd _ _ _ _ _) (fun r rr h => h) (fun o1 => ?_)
  refine j_iload_n (q := 1) (np := 95) rfl rfl dX9_termError_94 rfl ?_
  refine j_if_ne (tgt := 106) (np := 98) dX9_termError_95 rfl rfl ?_ ?_
  · refine j_sub (lv2 := [(0, .ref (E.2.1 + v0))]) [0] rfl ?_
    exact kbX9_termError_106 hd
  · refine j_iload_n (q := 2) (np := 99) rfl rfl dX9_termError_98 rfl ?_
    refine j_if_ne (tgt := 106) (np := 102) dX9_termError_99 rfl rfl ?_ ?_
    · refine j_sub (lv2 := [(0, .ref (E.2.1 + v0))]) [0] rfl ?_
      exact kbX9_termError_106 hd
    · refine j_iconst (np := 103) ci_m1 dX9_termError_102 rfl ?_
      refine j_goto (tgt := 113) dX9_termError_103 rfl ?_
      exact j_iret rfl dX9_termError_113 (fun rr h => h)
set_option maxRecDepth 100000 in
theorem wX9_termError {E : qE} {N d : Nat} (hd : 1 ≤ d) {v0 : Nat} {m0 : qM} {b : Int32 × qM} (h : fX9_termError N v0 m0 = some b) : qRun E yX9_termError cX9_termError 5 (some .int) d 0 0 [.ref (E.2.1 + v0)] m0 (some (.int b.1), b.2) := q_met pnX9 (Nat.le_of_ble_eq_true rfl) (bX9_termError hd b _ h rfl)
theorem dX9_addType_0 : decode cX9_addType 0 = .ok (.aload_n 0, 1) := by decide +kernel
theorem dX9_addType_1 : decode cX9_addType 1 = .ok (.invokevirtual 214, 3) := by decide +kernel
theorem dX9_addType_4 : decode cX9_addType 4 = .ok (.istore_n 1, 1) := by decide +kernel
theorem dX9_addType_5 : decode cX9_addType 5 = .ok (.iload_n 1, 1) := by decide +kernel
theorem dX9_addType_6 : decode cX9_addType 6 = .ok (.iconst (-1), 1) := by decide +kernel
theorem dX9_addType_7 : decode cX9_addType 7 = .ok (.if_icmp .ne 10, 3) := by decide +kernel
theorem dX9_addType_10 : decode cX9_addType 10 = .ok (.aload_n 0, 1) := by decide +kernel
theorem dX9_addType_11 : decode cX9_addType 11 = .ok (.invokevirtual 217, 3) := by decide +kernel
theorem dX9_addType_14 : decode cX9_addType 14 = .ok (.goto 7, 3) := by decide +kernel
theorem dX9_addType_17 : decode cX9_addType 17 = .ok (.bipush (-100), 2) := by decide +kernel
theorem dX9_addType_19 : decode cX9_addType 19 = .ok (.iload_n 1, 1) := by decide +kernel
theorem dX9_addType_20 : decode cX9_addType 20 = .ok (.isub, 1) := by decide +kernel
theorem dX9_addType_21 : decode cX9_addType 21 = .ok (.istore_n 2, 1) := by decide +kernel
theorem dX9_addType_22 : decode cX9_addType 22 = .ok (.aload_n 0, 1) := by decide +kernel
theorem dX9_addType_23 : decode cX9_addType 23 = .ok (.getfield 12, 3) := by decide +kernel
theorem dX9_addType_26 : decode cX9_addType 26 = .ok (.invokevirtual 96, 3) := by decide +kernel
theorem dX9_addType_29 : decode cX9_addType 29 = .ok (.iload_n 2, 1) := by decide +kernel
theorem dX9_addType_30 : decode cX9_addType 30 = .ok (.ireturn, 1) := by decide +kernel
def kX9_addType_21 (N : Nat) (v0 : Nat) (s0 : Int32) (m0 : qM) : Option (Int32 × qM) :=
  (qgR m0 v0 9 0).bind fun x1 =>
  (qChk m0 x1 7 (fX7_makeEmpty N x1 m0)).bind fun b2 =>
  some (s0, b2)
set_option maxRecDepth 100000 in
theorem kbX9_addType_21 {E : qE} {N d bc bs : Nat} (hd : 6 ≤ d) {v0 : Nat} {s0 : Int32} {m0 : qM} : qB E yX9_addType cX9_addType 3 (some .int) (fun _ => True) d bc bs 21 [(0, .ref (E.2.1 + v0))] [.int s0] m0 (kX9_addType_21 N v0 s0 m0) (fun b rr => rr = (some (.int b.1), b.2)) := by
  unfold kX9_addType_21
  refine j_istore_n (np := 22) (lv2 := [(2, .int s0), (0, .ref (E.2.1 + v0))]) rfl (by decide) dX9_addType_21 rfl rfl ?_
  refine j_aload_n (q := 1) (np := 23) rfl rfl dX9_addType_22 rfl ?_
  refine j_gR (np := 26) flX9_12 dX9_addType_23 rfl (fun x1 => ?_)
  refine j_callVv (ci := 7) (np := 29) (bc := bc) (bs := bs) (cb := 0) (cs := 0) (dd := d - 1) (As := []) (st := []) caX7_makeEmpty mlX9_96 imX7_makeEmpty seX7_makeEmpty rfl rfl (by decide) (fun b hb => wX7_makeEmpty (by omega) hb) (by omega) rfl rfl (Nat.le_of_ble_eq_true rfl) dX9_addType_26 rfl (fun b2 => ?_)
  refine j_iload_n (q := 0) (np := 30) rfl rfl dX9_addType_29 rfl ?_
  exact j_iret rfl dX9_addType_30 (fun rr h => h)
def fX9_addType (N : Nat) (v0 : Nat) (m0 : qM) : Option (Int32 × qM) :=
  (qChk m0 v0 9 (fX9_termError N v0 m0)).bind fun b1 =>
  if b1.1 = (-1 : Int32) then (
  (qChk b1.2 v0 9 (fX9_enterType N v0 b1.2)).bind fun b2 =>
  kX9_addType_21 N v0 b2.1 b2.2
  ) else (
  kX9_addType_21 N v0 ((-100 : Int32) - b1.1) b1.2
  )
set_option maxRecDepth 100000 in
theorem bX9_addType {E : qE} {N d bc bs : Nat} (hd : 6 ≤ d) {v0 : Nat} {m0 : qM} : qB E yX9_addType cX9_addType 3 (some .int) (fun _ => True) d bc bs 0 [(0, .ref (E.2.1 + v0))] [] m0 (fX9_addType N v0 m0) (fun b rr => rr = (some (.int b.1), b.2)) := by
  unfold fX9_addType
  refine j_aload_n (q := 0) (np := 1) rfl rfl dX9_addType_0 rfl ?_
  refine j_callVi (ci := 9) (np := 4) (bc := bc) (bs := bs) (cb := 0) (cs := 0) (dd := d - 1) (As := []) (st := []) caX9_termError mlX9_214 imX9_termError seX9_termError rfl rfl (by decide) (fun b hb => wX9_termError (by omega) hb) (by omega) rfl rfl (Nat.le_of_ble_eq_true rfl) dX9_addType_1 rfl (fun b1 => ?_)
  refine j_istore_n (np := 5) (lv2 := [(1, .int b1.1), (0, .ref (E.2.1 + v0))]) rfl (by decide) dX9_addType_4 rfl rfl ?_
  refine j_iload_n (q := 0) (np := 6) rfl rfl dX9_addType_5 rfl ?_
  refine j_iconst (np := 7) ci_m1 dX9_addType_6 rfl ?_
  refine j_icmp_ne (tgt := 17) (np := 10) dX9_addType_7 rfl rfl ?_ ?_
  · refine j_bipush (np := 19) cb_m100 dX9_addType_17 rfl ?_
    refine j_iload_n (q := 0) (np := 20) rfl rfl dX9_addType_19 rfl ?_
    refine j_isub (np := 21) dX9_addType_20 rfl ?_
    refine j_sub (lv2 := [(0, .ref (E.2.1 + v0))]) [1] rfl ?_
    exact kbX9_addType_21 hd
  · refine j_aload_n (q := 1) (np := 11) rfl rfl dX9_addType_10 rfl ?_
    refine j_callVi (ci := 9) (np := 14) (bc := bc) (bs := bs) (cb := 0) (cs := 0) (dd := d - 1) (As := []) (st := []) caX9_enterType mlX9_217 imX9_enterType seX9_enterType rfl rfl (by decide) (fun b hb => wX9_enterType (by omega) hb) (by omega) rfl rfl (Nat.le_of_ble_eq_true rfl) dX9_addType_11 rfl (fun b2 => ?_)
    refine j_goto (tgt := 21) dX9_addType_14 rfl ?_
    refine j_sub (lv2 := [(0, .ref (E.2.1 + v0))]) [1] rfl ?_
    exact kbX9_addType_21 hd
set_option maxRecDepth 100000 in
theorem wX9_addType {E : qE} {N d : Nat} (hd : 6 ≤ d) {v0 : Nat} {m0 : qM} {b : Int32 × qM} (h : fX9_addType N v0 m0 = some b) : qRun E yX9_addType cX9_addType 3 (some .int) d 0 0 [.ref (E.2.1 + v0)] m0 (some (.int b.1), b.2) := q_met pnX9 (Nat.le_of_ble_eq_true rfl) (bX9_addType hd b _ h rfl)
theorem dX9_reduceText_0 : decode cX9_reduceText 0 = .ok (.aload_n 0, 1) := by decide +kernel
theorem dX9_reduceText_1 : decode cX9_reduceText 1 = .ok (.getfield 59, 3) := by decide +kernel
theorem dX9_reduceText_4 : decode cX9_reduceText 4 = .ok (.aload_n 0, 1) := by decide +kernel
theorem dX9_reduceText_5 : decode cX9_reduceText 5 = .ok (.getfield 12, 3) := by decide +kernel
theorem dX9_reduceText_8 : decode cX9_reduceText 8 = .ok (.invokevirtual 284, 3) := by decide +kernel
theorem dX9_reduceText_11 : decode cX9_reduceText 11 = .ok (.iconst 0, 1) := by decide +kernel
theorem dX9_reduceText_12 : decode cX9_reduceText 12 = .ok (.istore_n 2, 1) := by decide +kernel
theorem dX9_reduceText_13 : decode cX9_reduceText 13 = .ok (.iload_n 2, 1) := by decide +kernel
theorem dX9_reduceText_14 : decode cX9_reduceText 14 = .ok (.iload_n 1, 1) := by decide +kernel
theorem dX9_reduceText_15 : decode cX9_reduceText 15 = .ok (.if_icmp .ge 41, 3) := by decide +kernel
theorem dX9_reduceText_18 : decode cX9_reduceText 18 = .ok (.aload_n 0, 1) := by decide +kernel
theorem dX9_reduceText_19 : decode cX9_reduceText 19 = .ok (.getfield 59, 3) := by decide +kernel
theorem dX9_reduceText_22 : decode cX9_reduceText 22 = .ok (.invokevirtual 303, 3) := by decide +kernel
theorem dX9_reduceText_25 : decode cX9_reduceText 25 = .ok (.ifCond .eq 31, 3) := by decide +kernel
theorem dX9_reduceText_28 : decode cX9_reduceText 28 = .ok (.aload_n 0, 1) := by decide +kernel
theorem dX9_reduceText_29 : decode cX9_reduceText 29 = .ok (.getfield 59, 3) := by decide +kernel
theorem dX9_reduceText_32 : decode cX9_reduceText 32 = .ok (.invokevirtual 306, 3) := by decide +kernel
theorem dX9_reduceText_35 : decode cX9_reduceText 35 = .ok (.bipush 40, 2) := by decide +kernel
theorem dX9_reduceText_37 : decode cX9_reduceText 37 = .ok (.if_icmp .le 6, 3) := by decide +kernel
theorem dX9_reduceText_40 : decode cX9_reduceText 40 = .ok (.bipush (-5), 2) := by decide +kernel
theorem dX9_reduceText_42 : decode cX9_reduceText 42 = .ok (.ireturn, 1) := by decide +kernel
theorem dX9_reduceText_43 : decode cX9_reduceText 43 = .ok (.aload_n 0, 1) := by decide +kernel
theorem dX9_reduceText_44 : decode cX9_reduceText 44 = .ok (.getfield 59, 3) := by decide +kernel
theorem dX9_reduceText_47 : decode cX9_reduceText 47 = .ok (.invokevirtual 309, 3) := by decide +kernel
theorem dX9_reduceText_50 : decode cX9_reduceText 50 = .ok (.iinc 2 1, 3) := by decide +kernel
theorem dX9_reduceText_53 : decode cX9_reduceText 53 = .ok (.goto (-40), 3) := by decide +kernel
theorem dX9_reduceText_56 : decode cX9_reduceText 56 = .ok (.aload_n 0, 1) := by decide +kernel
theorem dX9_reduceText_57 : decode cX9_reduceText 57 = .ok (.getfield 16, 3) := by decide +kernel
theorem dX9_reduceText_60 : decode cX9_reduceText 60 = .ok (.invokevirtual 96, 3) := by decide +kernel
theorem dX9_reduceText_63 : decode cX9_reduceText 63 = .ok (.aload_n 0, 1) := by decide +kernel
theorem dX9_reduceText_64 : decode cX9_reduceText 64 = .ok (.getfield 59, 3) := by decide +kernel
theorem dX9_reduceText_67 : decode cX9_reduceText 67 = .ok (.aload_n 0, 1) := by decide +kernel
theorem dX9_reduceText_68 : decode cX9_reduceText 68 = .ok (.getfield 16, 3) := by decide +kernel
theorem dX9_reduceText_71 : decode cX9_reduceText 71 = .ok (.invokevirtual 312, 3) := by decide +kernel
theorem dX9_reduceText_74 : decode cX9_reduceText 74 = .ok (.iload_n 2, 1) := by decide +kernel
theorem dX9_reduceText_75 : decode cX9_reduceText 75 = .ok (.ireturn, 1) := by decide +kernel
def lX9_reduceText_13 (N : Nat) (v0 : Nat) (v1 : Int32) : Nat → Int32 → qM → Option ((Int32 × qM) ⊕ (Int32 × qM))
  | 0, _, _ => none
  | n + 1, v2, m0 =>
    if v1 ≤ v2 then (
    some (.inl (v2, m0))
    ) else (
    (qgR m0 v0 9 7).bind fun x1 =>
    (qChk m0 x1 6 (fX6_findRedex N x1 m0)).bind fun b2 =>
    if b2.1 = 0 then (
    some (.inl (v2, b2.2))
    ) else (
    (qgR b2.2 v0 9 7).bind fun x3 =>
    (qChk b2.2 x3 6 (fX6_sizeAfterStep N x3 b2.2)).bind fun b4 =>
    if b4.1 ≤ (40 : Int32) then (
    (qgR b4.2 v0 9 7).bind fun x5 =>
    (qChk b4.2 x5 6 (fX6_makeStep N x5 b4.2)).bind fun b6 =>
    lX9_reduceText_13 N v0 v1 n (v2 + (1 : Int32)) b6
    ) else (
    some (.inr ((-5 : Int32), b4.2))
    )
    )
    )
set_option maxRecDepth 100000 in
theorem lbX9_reduceText_13 {E : qE} {N d bc bs : Nat} (hd : 5 ≤ d) {v0 : Nat} {v1 : Int32} : ∀ (n : Nat) (v2 : Int32) (m0 : qM), qB E yX9_reduceText cX9_reduceText 3 (some .int) (fun _ => True) d bc bs 13 [(0, .ref (E.2.1 + v0)), (1, .int v1), (2, .int v2)] [] m0 (lX9_reduceText_13 N v0 v1 n v2 m0) (qGL (fun o rr => qJ E yX9_reduceText cX9_reduceText 3 (some .int) (fun _ => True) d bc bs 56 [(0, .ref (E.2.1 + v0)), (2, .int o.1)] [] o.2 rr) (fun r => (some (.int r.1), r.2))) := by
  intro n
  induction n with
  | zero =>
    intro v2 m0
    exact j_none
  | succ n ih =>
    intro v2 m0
    unfold lX9_reduceText_13
    refine j_iload_n (q := 2) (np := 14) rfl rfl dX9_reduceText_13 rfl ?_
    refine j_iload_n (q := 1) (np := 15) rfl rfl dX9_reduceText_14 rfl ?_
    refine j_icmp_ge (tgt := 56) (np := 18) dX9_reduceText_15 rfl rfl ?_ ?_
    · refine j_sub (lv2 := [(0, .ref (E.2.1 + v0)), (2, .int v2)]) [0, 2] rfl ?_
      exact j_exit (fun rr h => h)
    · refine j_aload_n (q := 0) (np := 19) rfl rfl dX9_reduceText_18 rfl ?_
      refine j_gR (np := 22) flX9_59 dX9_reduceText_19 rfl (fun x1 => ?_)
      refine j_callVi (ci := 6) (np := 25) (bc := bc) (bs := bs) (cb := 0) (cs := 0) (dd := d - 1) (As := []) (st := []) caX6_findRedex mlX9_303 imX6_findRedex seX6_findRedex rfl rfl (by decide) (fun b hb => wX6_findRedex (by omega) hb) (by omega) rfl rfl (Nat.le_of_ble_eq_true rfl) dX9_reduceText_22 rfl (fun b2 => ?_)
      refine j_if_eq (tgt := 56) (np := 28) dX9_reduceText_25 rfl rfl ?_ ?_
      · refine j_sub (lv2 := [(0, .ref (E.2.1 + v0)), (2, .int v2)]) [0, 2] rfl ?_
        exact j_exit (fun rr h => h)
      · refine j_aload_n (q := 0) (np := 29) rfl rfl dX9_reduceText_28 rfl ?_
        refine j_gR (np := 32) flX9_59 dX9_reduceText_29 rfl (fun x3 => ?_)
        refine j_callVi (ci := 6) (np := 35) (bc := bc) (bs := bs) (cb := 0) (cs := 0) (dd := d - 1) (As := []) (st := []) caX6_sizeAfterStep mlX9_306 imX6_sizeAfterStep seX6_sizeAfterStep rfl rfl (by decide) (fun b hb => wX6_sizeAfterStep (by omega) hb) (by omega) rfl rfl (Nat.le_of_ble_eq_true rfl) dX9_reduceText_32 rfl (fun b4 => ?_)
        refine j_bipush (np := 37) cb_40 dX9_reduceText_35 rfl ?_
        refine j_icmp_le (tgt := 43) (np := 40) dX9_reduceText_37 rfl rfl ?_ ?_
        · refine j_aload_n (q := 0) (np := 44) rfl rfl dX9_reduceText_43 rfl ?_
          refine j_gR (np := 47) flX9_59 dX9_reduceText_44 rfl (fun x5 => ?_)
          refine j_callVv (ci := 6) (np := 50) (bc := bc) (bs := bs) (cb := 0) (cs := 0) (dd := d - 1) (As := []) (st := []) caX6_makeStep mlX9_309 imX6_makeStep seX6_makeStep rfl rfl (by decide) (fun b hb => wX6_makeStep (by omega) hb) (by omega) rfl rfl (Nat.le_of_ble_eq_true rfl) dX9_reduceText_47 rfl (fun b6 => ?_)
          refine j_iinc (q := 2) (np := 53) (lv2 := [(2, .int (v2 + (1 : Int32))), (0, .ref (E.2.1 + v0)), (1, .int v1)]) rfl (congrArg _ ci_1) (by decide) dX9_reduceText_50 rfl rfl ?_
          refine j_goto (tgt := 13) dX9_reduceText_53 rfl ?_
          refine j_sub (lv2 := [(0, .ref (E.2.1 + v0)), (1, .int v1), (2, .int (v2 + (1 : Int32)))]) [1, 2, 0] rfl ?_
          exact ih _ _
        · refine j_bipush (np := 42) cb_m5 dX9_reduceText_40 rfl ?_
          exact j_iret rfl dX9_reduceText_42 (fun rr h => h)
def fX9_reduceText (N : Nat) (v0 : Nat) (v1 : Int32) (m0 : qM) : Option (Int32 × qM) :=
  (qgR m0 v0 9 7).bind fun x1 =>
  (qgR m0 v0 9 0).bind fun x2 =>
  (qChk m0 x1 6 (fX6_read N x1 x2 m0)).bind fun b3 =>
  qTh (lX9_reduceText_13 N v0 v1 N (0 : Int32) b3) (fun o4 =>
  (qgR o4.2 v0 9 1).bind fun x5 =>
  (qChk o4.2 x5 7 (fX7_makeEmpty N x5 o4.2)).bind fun b6 =>
  (qgR b6 v0 9 7).bind fun x7 =>
  (qgR b6 v0 9 1).bind fun x8 =>
  (qChk b6 x7 6 (fX6_writeTo N x7 x8 b6)).bind fun b9 =>
  some (o4.1, b9)
  ) (fun r => r)
set_option maxRecDepth 100000 in
theorem bX9_reduceText {E : qE} {N d bc bs : Nat} (hd : 5 ≤ d) {v0 : Nat} {v1 : Int32} {m0 : qM} : qB E yX9_reduceText cX9_reduceText 3 (some .int) (fun _ => True) d bc bs 0 [(0, .ref (E.2.1 + v0)), (1, .int v1)] [] m0 (fX9_reduceText N v0 v1 m0) (fun b rr => rr = (some (.int b.1), b.2)) := by
  unfold fX9_reduceText
  refine j_aload_n (q := 0) (np := 1) rfl rfl dX9_reduceText_0 rfl ?_
  refine j_gR (np := 4) flX9_59 dX9_reduceText_1 rfl (fun x1 => ?_)
  refine j_aload_n (q := 0) (np := 5) rfl rfl dX9_reduceText_4 rfl ?_
  refine j_gR (np := 8) flX9_12 dX9_reduceText_5 rfl (fun x2 => ?_)
  refine j_callVv (ci := 6) (np := 11) (bc := bc) (bs := bs) (cb := 0) (cs := 0) (dd := d - 1) (As := [.ref (E.2.1 + x2)]) (st := []) caX6_read mlX9_284 imX6_read seX6_read rfl rfl (by decide) (fun b hb => wX6_read (by omega) hb) (by omega) rfl rfl (Nat.le_of_ble_eq_true rfl) dX9_reduceText_8 rfl (fun b3 => ?_)
  refine j_iconst (np := 12) ci_0 dX9_reduceText_11 rfl ?_
  refine j_istore_n (np := 13) (lv2 := [(2, .int (0 : Int32)), (0, .ref (E.2.1 + v0)), (1, .int v1)]) rfl (by decide) dX9_reduceText_12 rfl rfl ?_
  refine j_sub (lv2 := [(0, .ref (E.2.1 + v0)), (1, .int v1), (2, .int (0 : Int32))]) [1, 2, 0] rfl ?_
  refine j_loopG (xp := 56) (lvX := fun o4 => [(0, .ref (E.2.1 + v0)), (2, .int o4.1)]) (mX := fun o4 => o4.2) (lbX9_reduceText_13 hd _ _ _) (fun r rr h => h) (fun o4 => ?_)
  refine j_aload_n (q := 0) (np := 57) rfl rfl dX9_reduceText_56 rfl ?_
  refine j_gR (np := 60) flX9_16 dX9_reduceText_57 rfl (fun x5 => ?_)
  refine j_callVv (ci := 7) (np := 63) (bc := bc) (bs := bs) (cb := 0) (cs := 0) (dd := d - 1) (As := []) (st := []) caX7_makeEmpty mlX9_96 imX7_makeEmpty seX7_makeEmpty rfl rfl (by decide) (fun b hb => wX7_makeEmpty (by omega) hb) (by omega) rfl rfl (Nat.le_of_ble_eq_true rfl) dX9_reduceText_60 rfl (fun b6 => ?_)
  refine j_aload_n (q := 0) (np := 64) rfl rfl dX9_reduceText_63 rfl ?_
  refine j_gR (np := 67) flX9_59 dX9_reduceText_64 rfl (fun x7 => ?_)
  refine j_aload_n (q := 0) (np := 68) rfl rfl dX9_reduceText_67 rfl ?_
  refine j_gR (np := 71) flX9_16 dX9_reduceText_68 rfl (fun x8 => ?_)
  refine j_callVv (ci := 6) (np := 74) (bc := bc) (bs := bs) (cb := 0) (cs := 0) (dd := d - 1) (As := [.ref (E.2.1 + x8)]) (st := []) caX6_writeTo mlX9_312 imX6_writeTo seX6_writeTo rfl rfl (by decide) (fun b hb => wX6_writeTo (by omega) hb) (by omega) rfl rfl (Nat.le_of_ble_eq_true rfl) dX9_reduceText_71 rfl (fun b9 => ?_)
  refine j_iload_n (q := 1) (np := 75) rfl rfl dX9_reduceText_74 rfl ?_
  exact j_iret rfl dX9_reduceText_75 (fun rr h => h)
set_option maxRecDepth 100000 in
theorem wX9_reduceText {E : qE} {N d : Nat} (hd : 5 ≤ d) {v0 : Nat} {v1 : Int32} {m0 : qM} {b : Int32 × qM} (h : fX9_reduceText N v0 v1 m0 = some b) : qRun E yX9_reduceText cX9_reduceText 3 (some .int) d 0 0 [.ref (E.2.1 + v0), .int v1] m0 (some (.int b.1), b.2) := q_met pnX9 (Nat.le_of_ble_eq_true rfl) (bX9_reduceText hd b _ h rfl)
theorem dX9_reduceTerm_0 : decode cX9_reduceTerm 0 = .ok (.bipush (-2), 2) := by decide +kernel
theorem dX9_reduceTerm_2 : decode cX9_reduceTerm 2 = .ok (.istore_n 2, 1) := by decide +kernel
theorem dX9_reduceTerm_3 : decode cX9_reduceTerm 3 = .ok (.iload_n 1, 1) := by decide +kernel
theorem dX9_reduceTerm_4 : decode cX9_reduceTerm 4 = .ok (.ifCond .lt 32, 3) := by decide +kernel
theorem dX9_reduceTerm_7 : decode cX9_reduceTerm 7 = .ok (.iload_n 1, 1) := by decide +kernel
theorem dX9_reduceTerm_8 : decode cX9_reduceTerm 8 = .ok (.bipush 50, 2) := by decide +kernel
theorem dX9_reduceTerm_10 : decode cX9_reduceTerm 10 = .ok (.if_icmp .gt 26, 3) := by decide +kernel
theorem dX9_reduceTerm_13 : decode cX9_reduceTerm 13 = .ok (.aload_n 0, 1) := by decide +kernel
theorem dX9_reduceTerm_14 : decode cX9_reduceTerm 14 = .ok (.invokevirtual 214, 3) := by decide +kernel
theorem dX9_reduceTerm_17 : decode cX9_reduceTerm 17 = .ok (.istore_n 3, 1) := by decide +kernel
theorem dX9_reduceTerm_18 : decode cX9_reduceTerm 18 = .ok (.iload_n 3, 1) := by decide +kernel
theorem dX9_reduceTerm_19 : decode cX9_reduceTerm 19 = .ok (.iconst (-1), 1) := by decide +kernel
theorem dX9_reduceTerm_20 : decode cX9_reduceTerm 20 = .ok (.if_icmp .ne 11, 3) := by decide +kernel
theorem dX9_reduceTerm_23 : decode cX9_reduceTerm 23 = .ok (.aload_n 0, 1) := by decide +kernel
theorem dX9_reduceTerm_24 : decode cX9_reduceTerm 24 = .ok (.iload_n 1, 1) := by decide +kernel
theorem dX9_reduceTerm_25 : decode cX9_reduceTerm 25 = .ok (.invokevirtual 220, 3) := by decide +kernel
theorem dX9_reduceTerm_28 : decode cX9_reduceTerm 28 = .ok (.goto 7, 3) := by decide +kernel
theorem dX9_reduceTerm_31 : decode cX9_reduceTerm 31 = .ok (.bipush (-100), 2) := by decide +kernel
theorem dX9_reduceTerm_33 : decode cX9_reduceTerm 33 = .ok (.iload_n 3, 1) := by decide +kernel
theorem dX9_reduceTerm_34 : decode cX9_reduceTerm 34 = .ok (.isub, 1) := by decide +kernel
theorem dX9_reduceTerm_35 : decode cX9_reduceTerm 35 = .ok (.istore_n 2, 1) := by decide +kernel
theorem dX9_reduceTerm_36 : decode cX9_reduceTerm 36 = .ok (.aload_n 0, 1) := by decide +kernel
theorem dX9_reduceTerm_37 : decode cX9_reduceTerm 37 = .ok (.getfield 12, 3) := by decide +kernel
theorem dX9_reduceTerm_40 : decode cX9_reduceTerm 40 = .ok (.invokevirtual 96, 3) := by decide +kernel
theorem dX9_reduceTerm_43 : decode cX9_reduceTerm 43 = .ok (.iload_n 2, 1) := by decide +kernel
theorem dX9_reduceTerm_44 : decode cX9_reduceTerm 44 = .ok (.ireturn, 1) := by decide +kernel
def kX9_reduceTerm_36 (N : Nat) (v0 : Nat) (v2 : Int32)  (m0 : qM) : Option (Int32 × qM) :=
  (qgR m0 v0 9 0).bind fun x1 =>
  (qChk m0 x1 7 (fX7_makeEmpty N x1 m0)).bind fun b2 =>
  some (v2, b2)
set_option maxRecDepth 100000 in
theorem kbX9_reduceTerm_36 {E : qE} {N d bc bs : Nat} (hd : 6 ≤ d) {v0 : Nat} {v2 : Int32}  {m0 : qM} : qB E yX9_reduceTerm cX9_reduceTerm 4 (some .int) (fun _ => True) d bc bs 36 [(0, .ref (E.2.1 + v0)), (2, .int v2)] [] m0 (kX9_reduceTerm_36 N v0 v2 m0) (fun b rr => rr = (some (.int b.1), b.2)) := by
  unfold kX9_reduceTerm_36
  refine j_aload_n (q := 0) (np := 37) rfl rfl dX9_reduceTerm_36 rfl ?_
  refine j_gR (np := 40) flX9_12 dX9_reduceTerm_37 rfl (fun x1 => ?_)
  refine j_callVv (ci := 7) (np := 43) (bc := bc) (bs := bs) (cb := 0) (cs := 0) (dd := d - 1) (As := []) (st := []) caX7_makeEmpty mlX9_96 imX7_makeEmpty seX7_makeEmpty rfl rfl (by decide) (fun b hb => wX7_makeEmpty (by omega) hb) (by omega) rfl rfl (Nat.le_of_ble_eq_true rfl) dX9_reduceTerm_40 rfl (fun b2 => ?_)
  refine j_iload_n (q := 1) (np := 44) rfl rfl dX9_reduceTerm_43 rfl ?_
  exact j_iret rfl dX9_reduceTerm_44 (fun rr h => h)
def kX9_reduceTerm_35 (N : Nat) (v0 : Nat) (s0 : Int32) (m0 : qM) : Option (Int32 × qM) :=
  kX9_reduceTerm_36 N v0 s0 m0
set_option maxRecDepth 100000 in
theorem kbX9_reduceTerm_35 {E : qE} {N d bc bs : Nat} (hd : 6 ≤ d) {v0 : Nat} {s0 : Int32} {m0 : qM} : qB E yX9_reduceTerm cX9_reduceTerm 4 (some .int) (fun _ => True) d bc bs 35 [(0, .ref (E.2.1 + v0))] [.int s0] m0 (kX9_reduceTerm_35 N v0 s0 m0) (fun b rr => rr = (some (.int b.1), b.2)) := by
  unfold kX9_reduceTerm_35
  refine j_istore_n (np := 36) (lv2 := [(2, .int s0), (0, .ref (E.2.1 + v0))]) rfl (by decide) dX9_reduceTerm_35 rfl rfl ?_
  refine j_sub (lv2 := [(0, .ref (E.2.1 + v0)), (2, .int s0)]) [1, 0] rfl ?_
  exact kbX9_reduceTerm_36 hd
def fX9_reduceTerm (N : Nat) (v0 : Nat) (v1 : Int32) (m0 : qM) : Option (Int32 × qM) :=
  if v1 < 0 then (
  kX9_reduceTerm_36 N v0 (-2 : Int32) m0
  ) else (
  if (50 : Int32) < v1 then (
  kX9_reduceTerm_36 N v0 (-2 : Int32) m0
  ) else (
  (qChk m0 v0 9 (fX9_termError N v0 m0)).bind fun b1 =>
  if b1.1 = (-1 : Int32) then (
  (qChk b1.2 v0 9 (fX9_reduceText N v0 v1 b1.2)).bind fun b2 =>
  kX9_reduceTerm_35 N v0 b2.1 b2.2
  ) else (
  kX9_reduceTerm_35 N v0 ((-100 : Int32) - b1.1) b1.2
  )
  )
  )
set_option maxRecDepth 100000 in
theorem bX9_reduceTerm {E : qE} {N d bc bs : Nat} (hd : 6 ≤ d) {v0 : Nat} {v1 : Int32} {m0 : qM} : qB E yX9_reduceTerm cX9_reduceTerm 4 (some .int) (fun _ => True) d bc bs 0 [(0, .ref (E.2.1 + v0)), (1, .int v1)] [] m0 (fX9_reduceTerm N v0 v1 m0) (fun b rr => rr = (some (.int b.1), b.2)) := by
  unfold fX9_reduceTerm
  refine j_bipush (np := 2) cb_m2 dX9_reduceTerm_0 rfl ?_
  refine j_istore_n (np := 3) (lv2 := [(2, .int (-2 : Int32)), (0, .ref (E.2.1 + v0)), (1, .int v1)]) rfl (by decide) dX9_reduceTerm_2 rfl rfl ?_
  refine j_iload_n (q := 2) (np := 4) rfl rfl dX9_reduceTerm_3 rfl ?_
  refine j_if_lt (tgt := 36) (np := 7) dX9_reduceTerm_4 rfl rfl ?_ ?_
  · refine j_sub (lv2 := [(0, .ref (E.2.1 + v0)), (2, .int (-2 : Int32))]) [1, 0] rfl ?_
    exact kbX9_reduceTerm_36 hd
  · refine j_iload_n (q := 2) (np := 8) rfl rfl dX9_reduceTerm_7 rfl ?_
    refine j_bipush (np := 10) cb_50 dX9_reduceTerm_8 rfl ?_
    refine j_icmp_gt (tgt := 36) (np := 13) dX9_reduceTerm_10 rfl rfl ?_ ?_
    · refine j_sub (lv2 := [(0, .ref (E.2.1 + v0)), (2, .int (-2 : Int32))]) [1, 0] rfl ?_
      exact kbX9_reduceTerm_36 hd
    · refine j_aload_n (q := 1) (np := 14) rfl rfl dX9_reduceTerm_13 rfl ?_
      refine j_callVi (ci := 9) (np := 17) (bc := bc) (bs := bs) (cb := 0) (cs := 0) (dd := d - 1) (As := []) (st := []) caX9_termError mlX9_214 imX9_termError seX9_termError rfl rfl (by decide) (fun b hb => wX9_termError (by omega) hb) (by omega) rfl rfl (Nat.le_of_ble_eq_true rfl) dX9_reduceTerm_14 rfl (fun b1 => ?_)
      refine j_istore_n (np := 18) (lv2 := [(3, .int b1.1), (2, .int (-2 : Int32)), (0, .ref (E.2.1 + v0)), (1, .int v1)]) rfl (by decide) dX9_reduceTerm_17 rfl rfl ?_
      refine j_iload_n (q := 0) (np := 19) rfl rfl dX9_reduceTerm_18 rfl ?_
      refine j_iconst (np := 20) ci_m1 dX9_reduceTerm_19 rfl ?_
      refine j_icmp_ne (tgt := 31) (np := 23) dX9_reduceTerm_20 rfl rfl ?_ ?_
      · refine j_bipush (np := 33) cb_m100 dX9_reduceTerm_31 rfl ?_
        refine j_iload_n (q := 0) (np := 34) rfl rfl dX9_reduceTerm_33 rfl ?_
        refine j_isub (np := 35) dX9_reduceTerm_34 rfl ?_
        refine j_sub (lv2 := [(0, .ref (E.2.1 + v0))]) [2] rfl ?_
        exact kbX9_reduceTerm_35 hd
      · refine j_aload_n (q := 2) (np := 24) rfl rfl dX9_reduceTerm_23 rfl ?_
        refine j_iload_n (q := 3) (np := 25) rfl rfl dX9_reduceTerm_24 rfl ?_
        refine j_callVi (ci := 9) (np := 28) (bc := bc) (bs := bs) (cb := 0) (cs := 0) (dd := d - 1) (As := [.int v1]) (st := []) caX9_reduceText mlX9_220 imX9_reduceText seX9_reduceText rfl rfl (by decide) (fun b hb => wX9_reduceText (by omega) hb) (by omega) rfl rfl (Nat.le_of_ble_eq_true rfl) dX9_reduceTerm_25 rfl (fun b2 => ?_)
        refine j_goto (tgt := 35) dX9_reduceTerm_28 rfl ?_
        refine j_sub (lv2 := [(0, .ref (E.2.1 + v0))]) [2] rfl ?_
        exact kbX9_reduceTerm_35 hd
set_option maxRecDepth 100000 in
theorem wX9_reduceTerm {E : qE} {N d : Nat} (hd : 6 ≤ d) {v0 : Nat} {v1 : Int32} {m0 : qM} {b : Int32 × qM} (h : fX9_reduceTerm N v0 v1 m0 = some b) : qRun E yX9_reduceTerm cX9_reduceTerm 4 (some .int) d 0 0 [.ref (E.2.1 + v0), .int v1] m0 (some (.int b.1), b.2) := q_met pnX9 (Nat.le_of_ble_eq_true rfl) (bX9_reduceTerm hd b _ h rfl)
theorem dX9_isRow_0 : decode cX9_isRow 0 = .ok (.iload_n 0, 1) := by decide +kernel
theorem dX9_isRow_1 : decode cX9_isRow 1 = .ok (.ifCond .lt 12, 3) := by decide +kernel
theorem dX9_isRow_4 : decode cX9_isRow 4 = .ok (.iload_n 0, 1) := by decide +kernel
theorem dX9_isRow_5 : decode cX9_isRow 5 = .ok (.iconst 3, 1) := by decide +kernel
theorem dX9_isRow_6 : decode cX9_isRow 6 = .ok (.if_icmp .ge 7, 3) := by decide +kernel
theorem dX9_isRow_9 : decode cX9_isRow 9 = .ok (.iconst 1, 1) := by decide +kernel
theorem dX9_isRow_10 : decode cX9_isRow 10 = .ok (.goto 4, 3) := by decide +kernel
theorem dX9_isRow_13 : decode cX9_isRow 13 = .ok (.iconst 0, 1) := by decide +kernel
theorem dX9_isRow_14 : decode cX9_isRow 14 = .ok (.ireturn, 1) := by decide +kernel
def fX9_isRow (N : Nat) (v0 : Int32) (m0 : qM) : Option (Int32 × qM) :=
  if v0 < 0 then (
  some ((0 : Int32), m0)
  ) else (
  if (3 : Int32) ≤ v0 then (
  some ((0 : Int32), m0)
  ) else (
  some ((1 : Int32), m0)
  )
  )
set_option maxRecDepth 100000 in
theorem bX9_isRow {E : qE} {N d bc bs : Nat} (hd : 0 ≤ d) {v0 : Int32} {m0 : qM} : qB E yX9_isRow cX9_isRow 1 (some .boolean) (fun _ => True) d bc bs 0 [(0, .int v0)] [] m0 (fX9_isRow N v0 m0) (fun b rr => rr = (some (.int b.1), b.2)) := by
  unfold fX9_isRow
  refine j_iload_n (q := 0) (np := 1) rfl rfl dX9_isRow_0 rfl ?_
  refine j_if_lt (tgt := 13) (np := 4) dX9_isRow_1 rfl rfl ?_ ?_
  · refine j_iconst (np := 14) ci_0 dX9_isRow_13 rfl ?_
    exact j_zret rfl dX9_isRow_14 (fun rr h => by rw [z0]; exact h)
  · refine j_iload_n (q := 0) (np := 5) rfl rfl dX9_isRow_4 rfl ?_
    refine j_iconst (np := 6) ci_3 dX9_isRow_5 rfl ?_
    refine j_icmp_ge (tgt := 13) (np := 9) dX9_isRow_6 rfl rfl ?_ ?_
    · refine j_iconst (np := 14) ci_0 dX9_isRow_13 rfl ?_
      exact j_zret rfl dX9_isRow_14 (fun rr h => by rw [z0]; exact h)
    · refine j_iconst (np := 10) ci_1 dX9_isRow_9 rfl ?_
      refine j_goto (tgt := 14) dX9_isRow_10 rfl ?_
      exact j_zret rfl dX9_isRow_14 (fun rr h => by rw [z1]; exact h)
set_option maxRecDepth 100000 in
theorem wX9_isRow {E : qE} {N d : Nat} (hd : 0 ≤ d) {v0 : Int32} {m0 : qM} {b : Int32 × qM} (h : fX9_isRow N v0 m0 = some b) : qRun E yX9_isRow cX9_isRow 1 (some .boolean) d 0 0 [.int v0] m0 (some (.int b.1), b.2) := q_met pnX9 (Nat.le_of_ble_eq_true rfl) (bX9_isRow hd b _ h rfl)
theorem dX9_allocate_0 : decode cX9_allocate 0 = .ok (.iload_n 1, 1) := by decide +kernel
theorem dX9_allocate_1 : decode cX9_allocate 1 = .ok (.invokestatic 223, 3) := by decide +kernel
theorem dX9_allocate_4 : decode cX9_allocate 4 = .ok (.ifCond .ne 5, 3) := by decide +kernel
theorem dX9_allocate_7 : decode cX9_allocate 7 = .ok (.iconst (-1), 1) := by decide +kernel
theorem dX9_allocate_8 : decode cX9_allocate 8 = .ok (.ireturn, 1) := by decide +kernel
theorem dX9_allocate_9 : decode cX9_allocate 9 = .ok (.iload_n 2, 1) := by decide +kernel
theorem dX9_allocate_10 : decode cX9_allocate 10 = .ok (.ifCond .lt 14, 3) := by decide +kernel
theorem dX9_allocate_13 : decode cX9_allocate 13 = .ok (.iload_n 2, 1) := by decide +kernel
theorem dX9_allocate_14 : decode cX9_allocate 14 = .ok (.iconst 2, 1) := by decide +kernel
theorem dX9_allocate_15 : decode cX9_allocate 15 = .ok (.if_icmp .gt 9, 3) := by decide +kernel
theorem dX9_allocate_18 : decode cX9_allocate 18 = .ok (.iload_n 3, 1) := by decide +kernel
theorem dX9_allocate_19 : decode cX9_allocate 19 = .ok (.bipush 80, 2) := by decide +kernel
theorem dX9_allocate_21 : decode cX9_allocate 21 = .ok (.if_icmp .le 6, 3) := by decide +kernel
theorem dX9_allocate_24 : decode cX9_allocate 24 = .ok (.bipush (-2), 2) := by decide +kernel
theorem dX9_allocate_26 : decode cX9_allocate 26 = .ok (.ireturn, 1) := by decide +kernel
theorem dX9_allocate_27 : decode cX9_allocate 27 = .ok (.iload_n 3, 1) := by decide +kernel
theorem dX9_allocate_28 : decode cX9_allocate 28 = .ok (.ifCond .ge 6, 3) := by decide +kernel
theorem dX9_allocate_31 : decode cX9_allocate 31 = .ok (.bipush (-9), 2) := by decide +kernel
theorem dX9_allocate_33 : decode cX9_allocate 33 = .ok (.ireturn, 1) := by decide +kernel
theorem dX9_allocate_34 : decode cX9_allocate 34 = .ok (.aload_n 0, 1) := by decide +kernel
theorem dX9_allocate_35 : decode cX9_allocate 35 = .ok (.getfield 65, 3) := by decide +kernel
theorem dX9_allocate_38 : decode cX9_allocate 38 = .ok (.iload_n 1, 1) := by decide +kernel
theorem dX9_allocate_39 : decode cX9_allocate 39 = .ok (.aaload, 1) := by decide +kernel
theorem dX9_allocate_40 : decode cX9_allocate 40 = .ok (.iload_n 2, 1) := by decide +kernel
theorem dX9_allocate_41 : decode cX9_allocate 41 = .ok (.iload_n 3, 1) := by decide +kernel
theorem dX9_allocate_42 : decode cX9_allocate 42 = .ok (.invokevirtual 226, 3) := by decide +kernel
theorem dX9_allocate_45 : decode cX9_allocate 45 = .ok (.iload_n 3, 1) := by decide +kernel
theorem dX9_allocate_46 : decode cX9_allocate 46 = .ok (.ireturn, 1) := by decide +kernel
def fX9_allocate (N : Nat) (v0 : Nat) (v1 : Int32) (v2 : Int32) (v3 : Int32) (m0 : qM) : Option (Int32 × qM) :=
  (fX9_isRow N v1 m0).bind fun b1 =>
  if b1.1 = 0 then (
  some ((-1 : Int32), b1.2)
  ) else (
  if v2 < 0 then (
  some ((-2 : Int32), b1.2)
  ) else (
  if (2 : Int32) < v2 then (
  some ((-2 : Int32), b1.2)
  ) else (
  if v3 ≤ (80 : Int32) then (
  if 0 ≤ v3 then (
  (qgR b1.2 v0 9 8).bind fun x2 =>
  (qaR b1.2 x2 16 v1).bind fun x3 =>
  (qChk b1.2 x3 5 (fX5_renew N x3 v2 v3 b1.2)).bind fun b4 =>
  some (v3, b4)
  ) else (
  some ((-9 : Int32), b1.2)
  )
  ) else (
  some ((-2 : Int32), b1.2)
  )
  )
  )
  )
set_option maxRecDepth 100000 in
theorem bX9_allocate {E : qE} {N d bc bs : Nat} (hd : 2 ≤ d) {v0 : Nat} {v1 : Int32} {v2 : Int32} {v3 : Int32} {m0 : qM} : qB E yX9_allocate cX9_allocate 4 (some .int) (fun _ => True) d bc bs 0 [(0, .ref (E.2.1 + v0)), (1, .int v1), (2, .int v2), (3, .int v3)] [] m0 (fX9_allocate N v0 v1 v2 v3 m0) (fun b rr => rr = (some (.int b.1), b.2)) := by
  unfold fX9_allocate
  refine j_iload_n (q := 1) (np := 1) rfl rfl dX9_allocate_0 rfl ?_
  refine j_callSi (np := 4) (bc := bc) (bs := bs) (cb := 0) (cs := 0) (dd := d - 1) (As := [.int v1]) (st := []) caX9_isRow mlX9_223 stX9_isRow (fun b hb => wX9_isRow (by omega) hb) (by omega) rfl rfl (Nat.le_of_ble_eq_true rfl) dX9_allocate_1 rfl (fun b1 => ?_)
  refine j_if_ne (tgt := 9) (np := 7) dX9_allocate_4 rfl rfl ?_ ?_
  · refine j_iload_n (q := 2) (np := 10) rfl rfl dX9_allocate_9 rfl ?_
    refine j_if_lt (tgt := 24) (np := 13) dX9_allocate_10 rfl rfl ?_ ?_
    · refine j_bipush (np := 26) cb_m2 dX9_allocate_24 rfl ?_
      exact j_iret rfl dX9_allocate_26 (fun rr h => h)
    · refine j_iload_n (q := 2) (np := 14) rfl rfl dX9_allocate_13 rfl ?_
      refine j_iconst (np := 15) ci_2 dX9_allocate_14 rfl ?_
      refine j_icmp_gt (tgt := 24) (np := 18) dX9_allocate_15 rfl rfl ?_ ?_
      · refine j_bipush (np := 26) cb_m2 dX9_allocate_24 rfl ?_
        exact j_iret rfl dX9_allocate_26 (fun rr h => h)
      · refine j_iload_n (q := 3) (np := 19) rfl rfl dX9_allocate_18 rfl ?_
        refine j_bipush (np := 21) cb_80 dX9_allocate_19 rfl ?_
        refine j_icmp_le (tgt := 27) (np := 24) dX9_allocate_21 rfl rfl ?_ ?_
        · refine j_iload_n (q := 3) (np := 28) rfl rfl dX9_allocate_27 rfl ?_
          refine j_if_ge (tgt := 34) (np := 31) dX9_allocate_28 rfl rfl ?_ ?_
          · refine j_aload_n (q := 0) (np := 35) rfl rfl dX9_allocate_34 rfl ?_
            refine j_gR (np := 38) flX9_65 dX9_allocate_35 rfl (fun x2 => ?_)
            refine j_iload_n (q := 1) (np := 39) rfl rfl dX9_allocate_38 rfl ?_
            refine j_aaload (np := 40) (c0 := 16) (t := 5) (C := "CondensedDetachment$Row") (Or.inr rfl) (fun _ => rfl) dX9_allocate_39 rfl (fun x3 => ?_)
            refine j_iload_n (q := 2) (np := 41) rfl rfl dX9_allocate_40 rfl ?_
            refine j_iload_n (q := 3) (np := 42) rfl rfl dX9_allocate_41 rfl ?_
            refine j_callVv (ci := 5) (np := 45) (bc := bc) (bs := bs) (cb := 0) (cs := 0) (dd := d - 1) (As := [.int v2, .int v3]) (st := []) caX5_renew mlX9_226 imX5_renew seX5_renew rfl rfl (by decide) (fun b hb => wX5_renew (by omega) hb) (by omega) rfl rfl (Nat.le_of_ble_eq_true rfl) dX9_allocate_42 rfl (fun b4 => ?_)
            refine j_iload_n (q := 3) (np := 46) rfl rfl dX9_allocate_45 rfl ?_
            exact j_iret rfl dX9_allocate_46 (fun rr h => h)
          · refine j_bipush (np := 33) cb_m9 dX9_allocate_31 rfl ?_
            exact j_iret rfl dX9_allocate_33 (fun rr h => h)
        · refine j_bipush (np := 26) cb_m2 dX9_allocate_24 rfl ?_
          exact j_iret rfl dX9_allocate_26 (fun rr h => h)
  · refine j_iconst (np := 8) ci_m1 dX9_allocate_7 rfl ?_
    exact j_iret rfl dX9_allocate_8 (fun rr h => h)
set_option maxRecDepth 100000 in
theorem wX9_allocate {E : qE} {N d : Nat} (hd : 2 ≤ d) {v0 : Nat} {v1 : Int32} {v2 : Int32} {v3 : Int32} {m0 : qM} {b : Int32 × qM} (h : fX9_allocate N v0 v1 v2 v3 m0 = some b) : qRun E yX9_allocate cX9_allocate 4 (some .int) d 0 0 [.ref (E.2.1 + v0), .int v1, .int v2, .int v3] m0 (some (.int b.1), b.2) := q_met pnX9 (Nat.le_of_ble_eq_true rfl) (bX9_allocate hd b _ h rfl)
theorem dX9_rowFault_0 : decode cX9_rowFault 0 = .ok (.iload_n 1, 1) := by decide +kernel
theorem dX9_rowFault_1 : decode cX9_rowFault 1 = .ok (.invokestatic 223, 3) := by decide +kernel
theorem dX9_rowFault_4 : decode cX9_rowFault 4 = .ok (.ifCond .ne 5, 3) := by decide +kernel
theorem dX9_rowFault_7 : decode cX9_rowFault 7 = .ok (.iconst (-1), 1) := by decide +kernel
theorem dX9_rowFault_8 : decode cX9_rowFault 8 = .ok (.ireturn, 1) := by decide +kernel
theorem dX9_rowFault_9 : decode cX9_rowFault 9 = .ok (.aload_n 0, 1) := by decide +kernel
theorem dX9_rowFault_10 : decode cX9_rowFault 10 = .ok (.getfield 65, 3) := by decide +kernel
theorem dX9_rowFault_13 : decode cX9_rowFault 13 = .ok (.iload_n 1, 1) := by decide +kernel
theorem dX9_rowFault_14 : decode cX9_rowFault 14 = .ok (.aaload, 1) := by decide +kernel
theorem dX9_rowFault_15 : decode cX9_rowFault 15 = .ok (.invokevirtual 244, 3) := by decide +kernel
theorem dX9_rowFault_18 : decode cX9_rowFault 18 = .ok (.ifCond .eq 8, 3) := by decide +kernel
theorem dX9_rowFault_21 : decode cX9_rowFault 21 = .ok (.bipush (-6), 2) := by decide +kernel
theorem dX9_rowFault_23 : decode cX9_rowFault 23 = .ok (.goto 4, 3) := by decide +kernel
theorem dX9_rowFault_26 : decode cX9_rowFault 26 = .ok (.iconst 0, 1) := by decide +kernel
theorem dX9_rowFault_27 : decode cX9_rowFault 27 = .ok (.ireturn, 1) := by decide +kernel
def fX9_rowFault (N : Nat) (v0 : Nat) (v1 : Int32) (m0 : qM) : Option (Int32 × qM) :=
  (fX9_isRow N v1 m0).bind fun b1 =>
  if b1.1 = 0 then (
  some ((-1 : Int32), b1.2)
  ) else (
  (qgR b1.2 v0 9 8).bind fun x2 =>
  (qaR b1.2 x2 16 v1).bind fun x3 =>
  (qChk b1.2 x3 5 (fX5_isMissing N x3 b1.2)).bind fun b4 =>
  if b4.1 = 0 then (
  some ((0 : Int32), b4.2)
  ) else (
  some ((-6 : Int32), b4.2)
  )
  )
set_option maxRecDepth 100000 in
theorem bX9_rowFault {E : qE} {N d bc bs : Nat} (hd : 1 ≤ d) {v0 : Nat} {v1 : Int32} {m0 : qM} : qB E yX9_rowFault cX9_rowFault 2 (some .int) (fun _ => True) d bc bs 0 [(0, .ref (E.2.1 + v0)), (1, .int v1)] [] m0 (fX9_rowFault N v0 v1 m0) (fun b rr => rr = (some (.int b.1), b.2)) := by
  unfold fX9_rowFault
  refine j_iload_n (q := 1) (np := 1) rfl rfl dX9_rowFault_0 rfl ?_
  refine j_callSi (np := 4) (bc := bc) (bs := bs) (cb := 0) (cs := 0) (dd := d - 1) (As := [.int v1]) (st := []) caX9_isRow mlX9_223 stX9_isRow (fun b hb => wX9_isRow (by omega) hb) (by omega) rfl rfl (Nat.le_of_ble_eq_true rfl) dX9_rowFault_1 rfl (fun b1 => ?_)
  refine j_if_ne (tgt := 9) (np := 7) dX9_rowFault_4 rfl rfl ?_ ?_
  · refine j_aload_n (q := 0) (np := 10) rfl rfl dX9_rowFault_9 rfl ?_
    refine j_gR (np := 13) flX9_65 dX9_rowFault_10 rfl (fun x2 => ?_)
    refine j_iload_n (q := 1) (np := 14) rfl rfl dX9_rowFault_13 rfl ?_
    refine j_aaload (np := 15) (c0 := 16) (t := 5) (C := "CondensedDetachment$Row") (Or.inr rfl) (fun _ => rfl) dX9_rowFault_14 rfl (fun x3 => ?_)
    refine j_callVi (ci := 5) (np := 18) (bc := bc) (bs := bs) (cb := 0) (cs := 0) (dd := d - 1) (As := []) (st := []) caX5_isMissing mlX9_244 imX5_isMissing seX5_isMissing rfl rfl (by decide) (fun b hb => wX5_isMissing (by omega) hb) (by omega) rfl rfl (Nat.le_of_ble_eq_true rfl) dX9_rowFault_15 rfl (fun b4 => ?_)
    refine j_if_eq (tgt := 26) (np := 21) dX9_rowFault_18 rfl rfl ?_ ?_
    · refine j_iconst (np := 27) ci_0 dX9_rowFault_26 rfl ?_
      exact j_iret rfl dX9_rowFault_27 (fun rr h => h)
    · refine j_bipush (np := 23) cb_m6 dX9_rowFault_21 rfl ?_
      refine j_goto (tgt := 27) dX9_rowFault_23 rfl ?_
      exact j_iret rfl dX9_rowFault_27 (fun rr h => h)
  · refine j_iconst (np := 8) ci_m1 dX9_rowFault_7 rfl ?_
    exact j_iret rfl dX9_rowFault_8 (fun rr h => h)
set_option maxRecDepth 100000 in
theorem wX9_rowFault {E : qE} {N d : Nat} (hd : 1 ≤ d) {v0 : Nat} {v1 : Int32} {m0 : qM} {b : Int32 × qM} (h : fX9_rowFault N v0 v1 m0 = some b) : qRun E yX9_rowFault cX9_rowFault 2 (some .int) d 0 0 [.ref (E.2.1 + v0), .int v1] m0 (some (.int b.1), b.2) := q_met pnX9 (Nat.le_of_ble_eq_true rfl) (bX9_rowFault hd b _ h rfl)
theorem dX9_put_0 : decode cX9_put 0 = .ok (.aload_n 0, 1) := by decide +kernel
theorem dX9_put_1 : decode cX9_put 1 = .ok (.iload_n 1, 1) := by decide +kernel
theorem dX9_put_2 : decode cX9_put 2 = .ok (.invokevirtual 230, 3) := by decide +kernel
theorem dX9_put_5 : decode cX9_put 5 = .ok (.istore 4, 2) := by decide +kernel
theorem dX9_put_7 : decode cX9_put 7 = .ok (.iload 4, 2) := by decide +kernel
theorem dX9_put_9 : decode cX9_put 9 = .ok (.ifCond .eq 6, 3) := by decide +kernel
theorem dX9_put_12 : decode cX9_put 12 = .ok (.iload 4, 2) := by decide +kernel
theorem dX9_put_14 : decode cX9_put 14 = .ok (.ireturn, 1) := by decide +kernel
theorem dX9_put_15 : decode cX9_put 15 = .ok (.aload_n 0, 1) := by decide +kernel
theorem dX9_put_16 : decode cX9_put 16 = .ok (.getfield 65, 3) := by decide +kernel
theorem dX9_put_19 : decode cX9_put 19 = .ok (.iload_n 1, 1) := by decide +kernel
theorem dX9_put_20 : decode cX9_put 20 = .ok (.aaload, 1) := by decide +kernel
theorem dX9_put_21 : decode cX9_put 21 = .ok (.iload_n 2, 1) := by decide +kernel
theorem dX9_put_22 : decode cX9_put 22 = .ok (.iconst 1, 1) := by decide +kernel
theorem dX9_put_23 : decode cX9_put 23 = .ok (.invokevirtual 233, 3) := by decide +kernel
theorem dX9_put_26 : decode cX9_put 26 = .ok (.ifCond .ne 6, 3) := by decide +kernel
theorem dX9_put_29 : decode cX9_put 29 = .ok (.bipush (-8), 2) := by decide +kernel
theorem dX9_put_31 : decode cX9_put 31 = .ok (.ireturn, 1) := by decide +kernel
theorem dX9_put_32 : decode cX9_put 32 = .ok (.aload_n 0, 1) := by decide +kernel
theorem dX9_put_33 : decode cX9_put 33 = .ok (.getfield 65, 3) := by decide +kernel
theorem dX9_put_36 : decode cX9_put 36 = .ok (.iload_n 1, 1) := by decide +kernel
theorem dX9_put_37 : decode cX9_put 37 = .ok (.aaload, 1) := by decide +kernel
theorem dX9_put_38 : decode cX9_put 38 = .ok (.iload_n 2, 1) := by decide +kernel
theorem dX9_put_39 : decode cX9_put 39 = .ok (.iload_n 3, 1) := by decide +kernel
theorem dX9_put_40 : decode cX9_put 40 = .ok (.invokevirtual 237, 3) := by decide +kernel
theorem dX9_put_43 : decode cX9_put 43 = .ok (.iconst 1, 1) := by decide +kernel
theorem dX9_put_44 : decode cX9_put 44 = .ok (.ireturn, 1) := by decide +kernel
def fX9_put (N : Nat) (v0 : Nat) (v1 : Int32) (v2 : Int32) (v3 : Int32) (m0 : qM) : Option (Int32 × qM) :=
  (qChk m0 v0 9 (fX9_rowFault N v0 v1 m0)).bind fun b1 =>
  if b1.1 = 0 then (
  (qgR b1.2 v0 9 8).bind fun x2 =>
  (qaR b1.2 x2 16 v1).bind fun x3 =>
  (qChk b1.2 x3 5 (fX5_spans N x3 v2 (1 : Int32) b1.2)).bind fun b4 =>
  if b4.1 = 0 then (
  some ((-8 : Int32), b4.2)
  ) else (
  (qgR b4.2 v0 9 8).bind fun x5 =>
  (qaR b4.2 x5 16 v1).bind fun x6 =>
  (qChk b4.2 x6 5 (fX5_set N x6 v2 v3 b4.2)).bind fun b7 =>
  some ((1 : Int32), b7)
  )
  ) else (
  some (b1.1, b1.2)
  )
set_option maxRecDepth 100000 in
theorem bX9_put {E : qE} {N d bc bs : Nat} (hd : 2 ≤ d) {v0 : Nat} {v1 : Int32} {v2 : Int32} {v3 : Int32} {m0 : qM} : qB E yX9_put cX9_put 5 (some .int) (fun _ => True) d bc bs 0 [(0, .ref (E.2.1 + v0)), (1, .int v1), (2, .int v2), (3, .int v3)] [] m0 (fX9_put N v0 v1 v2 v3 m0) (fun b rr => rr = (some (.int b.1), b.2)) := by
  unfold fX9_put
  refine j_aload_n (q := 0) (np := 1) rfl rfl dX9_put_0 rfl ?_
  refine j_iload_n (q := 1) (np := 2) rfl rfl dX9_put_1 rfl ?_
  refine j_callVi (ci := 9) (np := 5) (bc := bc) (bs := bs) (cb := 0) (cs := 0) (dd := d - 1) (As := [.int v1]) (st := []) caX9_rowFault mlX9_230 imX9_rowFault seX9_rowFault rfl rfl (by decide) (fun b hb => wX9_rowFault (by omega) hb) (by omega) rfl rfl (Nat.le_of_ble_eq_true rfl) dX9_put_2 rfl (fun b1 => ?_)
  refine j_istore (np := 7) (lv2 := [(4, .int b1.1), (0, .ref (E.2.1 + v0)), (1, .int v1), (2, .int v2), (3, .int v3)]) (by decide) dX9_put_5 rfl rfl ?_
  refine j_iload (q := 0) (np := 9) rfl dX9_put_7 rfl ?_
  refine j_if_eq (tgt := 15) (np := 12) dX9_put_9 rfl rfl ?_ ?_
  · refine j_aload_n (q := 1) (np := 16) rfl rfl dX9_put_15 rfl ?_
    refine j_gR (np := 19) flX9_65 dX9_put_16 rfl (fun x2 => ?_)
    refine j_iload_n (q := 2) (np := 20) rfl rfl dX9_put_19 rfl ?_
    refine j_aaload (np := 21) (c0 := 16) (t := 5) (C := "CondensedDetachment$Row") (Or.inr rfl) (fun _ => rfl) dX9_put_20 rfl (fun x3 => ?_)
    refine j_iload_n (q := 3) (np := 22) rfl rfl dX9_put_21 rfl ?_
    refine j_iconst (np := 23) ci_1 dX9_put_22 rfl ?_
    refine j_callVi (ci := 5) (np := 26) (bc := bc) (bs := bs) (cb := 0) (cs := 0) (dd := d - 1) (As := [.int v2, .int (1 : Int32)]) (st := []) caX5_spans mlX9_233 imX5_spans seX5_spans rfl rfl (by decide) (fun b hb => wX5_spans (by omega) hb) (by omega) rfl rfl (Nat.le_of_ble_eq_true rfl) dX9_put_23 rfl (fun b4 => ?_)
    refine j_if_ne (tgt := 32) (np := 29) dX9_put_26 rfl rfl ?_ ?_
    · refine j_aload_n (q := 1) (np := 33) rfl rfl dX9_put_32 rfl ?_
      refine j_gR (np := 36) flX9_65 dX9_put_33 rfl (fun x5 => ?_)
      refine j_iload_n (q := 2) (np := 37) rfl rfl dX9_put_36 rfl ?_
      refine j_aaload (np := 38) (c0 := 16) (t := 5) (C := "CondensedDetachment$Row") (Or.inr rfl) (fun _ => rfl) dX9_put_37 rfl (fun x6 => ?_)
      refine j_iload_n (q := 3) (np := 39) rfl rfl dX9_put_38 rfl ?_
      refine j_iload_n (q := 4) (np := 40) rfl rfl dX9_put_39 rfl ?_
      refine j_callVv (ci := 5) (np := 43) (bc := bc) (bs := bs) (cb := 0) (cs := 0) (dd := d - 1) (As := [.int v2, .int v3]) (st := []) caX5_set mlX9_237 imX5_set seX5_set rfl rfl (by decide) (fun b hb => wX5_set (by omega) hb) (by omega) rfl rfl (Nat.le_of_ble_eq_true rfl) dX9_put_40 rfl (fun b7 => ?_)
      refine j_iconst (np := 44) ci_1 dX9_put_43 rfl ?_
      exact j_iret rfl dX9_put_44 (fun rr h => h)
    · refine j_bipush (np := 31) cb_m8 dX9_put_29 rfl ?_
      exact j_iret rfl dX9_put_31 (fun rr h => h)
  · refine j_iload (q := 0) (np := 14) rfl dX9_put_12 rfl ?_
    exact j_iret rfl dX9_put_14 (fun rr h => h)
set_option maxRecDepth 100000 in
theorem wX9_put {E : qE} {N d : Nat} (hd : 2 ≤ d) {v0 : Nat} {v1 : Int32} {v2 : Int32} {v3 : Int32} {m0 : qM} {b : Int32 × qM} (h : fX9_put N v0 v1 v2 v3 m0 = some b) : qRun E yX9_put cX9_put 5 (some .int) d 0 0 [.ref (E.2.1 + v0), .int v1, .int v2, .int v3] m0 (some (.int b.1), b.2) := q_met pnX9 (Nat.le_of_ble_eq_true rfl) (bX9_put hd b _ h rfl)
theorem dX9_rowElement_0 : decode cX9_rowElement 0 = .ok (.aload_n 0, 1) := by decide +kernel
theorem dX9_rowElement_1 : decode cX9_rowElement 1 = .ok (.iload_n 1, 1) := by decide +kernel
theorem dX9_rowElement_2 : decode cX9_rowElement 2 = .ok (.invokevirtual 230, 3) := by decide +kernel
theorem dX9_rowElement_5 : decode cX9_rowElement 5 = .ok (.ifCond .ne 17, 3) := by decide +kernel
theorem dX9_rowElement_8 : decode cX9_rowElement 8 = .ok (.aload_n 0, 1) := by decide +kernel
theorem dX9_rowElement_9 : decode cX9_rowElement 9 = .ok (.getfield 65, 3) := by decide +kernel
theorem dX9_rowElement_12 : decode cX9_rowElement 12 = .ok (.iload_n 1, 1) := by decide +kernel
theorem dX9_rowElement_13 : decode cX9_rowElement 13 = .ok (.aaload, 1) := by decide +kernel
theorem dX9_rowElement_14 : decode cX9_rowElement 14 = .ok (.iload_n 2, 1) := by decide +kernel
theorem dX9_rowElement_15 : decode cX9_rowElement 15 = .ok (.iconst 1, 1) := by decide +kernel
theorem dX9_rowElement_16 : decode cX9_rowElement 16 = .ok (.invokevirtual 233, 3) := by decide +kernel
theorem dX9_rowElement_19 : decode cX9_rowElement 19 = .ok (.ifCond .ne 7, 3) := by decide +kernel
theorem dX9_rowElement_22 : decode cX9_rowElement 22 = .ok (.ldc2_w 240, 3) := by decide +kernel
theorem dX9_rowElement_25 : decode cX9_rowElement 25 = .ok (.lreturn, 1) := by decide +kernel
theorem dX9_rowElement_26 : decode cX9_rowElement 26 = .ok (.aload_n 0, 1) := by decide +kernel
theorem dX9_rowElement_27 : decode cX9_rowElement 27 = .ok (.getfield 65, 3) := by decide +kernel
theorem dX9_rowElement_30 : decode cX9_rowElement 30 = .ok (.iload_n 1, 1) := by decide +kernel
theorem dX9_rowElement_31 : decode cX9_rowElement 31 = .ok (.aaload, 1) := by decide +kernel
theorem dX9_rowElement_32 : decode cX9_rowElement 32 = .ok (.iload_n 2, 1) := by decide +kernel
theorem dX9_rowElement_33 : decode cX9_rowElement 33 = .ok (.invokevirtual 242, 3) := by decide +kernel
theorem dX9_rowElement_36 : decode cX9_rowElement 36 = .ok (.i2l, 1) := by decide +kernel
theorem dX9_rowElement_37 : decode cX9_rowElement 37 = .ok (.lreturn, 1) := by decide +kernel
def fX9_rowElement (N : Nat) (v0 : Nat) (v1 : Int32) (v2 : Int32) (m0 : qM) : Option (Int64 × qM) :=
  (qChk m0 v0 9 (fX9_rowFault N v0 v1 m0)).bind fun b1 =>
  if b1.1 = 0 then (
  (qgR b1.2 v0 9 8).bind fun x2 =>
  (qaR b1.2 x2 16 v1).bind fun x3 =>
  (qChk b1.2 x3 5 (fX5_spans N x3 v2 (1 : Int32) b1.2)).bind fun b4 =>
  if b4.1 = 0 then (
  some ((-9223372036854775808 : Int64), b4.2)
  ) else (
  (qgR b4.2 v0 9 8).bind fun x5 =>
  (qaR b4.2 x5 16 v1).bind fun x6 =>
  (qChk b4.2 x6 5 (fX5_at N x6 v2 b4.2)).bind fun b7 =>
  some (b7.1.toInt64, b7.2)
  )
  ) else (
  some ((-9223372036854775808 : Int64), b1.2)
  )
set_option maxRecDepth 100000 in
theorem bX9_rowElement {E : qE} {N d bc bs : Nat} (hd : 2 ≤ d) {v0 : Nat} {v1 : Int32} {v2 : Int32} {m0 : qM} : qB E yX9_rowElement cX9_rowElement 3 (some .long) (fun _ => True) d bc bs 0 [(0, .ref (E.2.1 + v0)), (1, .int v1), (2, .int v2)] [] m0 (fX9_rowElement N v0 v1 v2 m0) (fun b rr => rr = (some (.long b.1), b.2)) := by
  unfold fX9_rowElement
  refine j_aload_n (q := 0) (np := 1) rfl rfl dX9_rowElement_0 rfl ?_
  refine j_iload_n (q := 1) (np := 2) rfl rfl dX9_rowElement_1 rfl ?_
  refine j_callVi (ci := 9) (np := 5) (bc := bc) (bs := bs) (cb := 0) (cs := 0) (dd := d - 1) (As := [.int v1]) (st := []) caX9_rowFault mlX9_230 imX9_rowFault seX9_rowFault rfl rfl (by decide) (fun b hb => wX9_rowFault (by omega) hb) (by omega) rfl rfl (Nat.le_of_ble_eq_true rfl) dX9_rowElement_2 rfl (fun b1 => ?_)
  refine j_if_ne (tgt := 22) (np := 8) dX9_rowElement_5 rfl rfl ?_ ?_
  · refine j_ldc2 (np := 25) lgX9_240 dX9_rowElement_22 rfl ?_
    exact j_lret rfl dX9_rowElement_25 (fun rr h => h)
  · refine j_aload_n (q := 0) (np := 9) rfl rfl dX9_rowElement_8 rfl ?_
    refine j_gR (np := 12) flX9_65 dX9_rowElement_9 rfl (fun x2 => ?_)
    refine j_iload_n (q := 1) (np := 13) rfl rfl dX9_rowElement_12 rfl ?_
    refine j_aaload (np := 14) (c0 := 16) (t := 5) (C := "CondensedDetachment$Row") (Or.inr rfl) (fun _ => rfl) dX9_rowElement_13 rfl (fun x3 => ?_)
    refine j_iload_n (q := 2) (np := 15) rfl rfl dX9_rowElement_14 rfl ?_
    refine j_iconst (np := 16) ci_1 dX9_rowElement_15 rfl ?_
    refine j_callVi (ci := 5) (np := 19) (bc := bc) (bs := bs) (cb := 0) (cs := 0) (dd := d - 1) (As := [.int v2, .int (1 : Int32)]) (st := []) caX5_spans mlX9_233 imX5_spans seX5_spans rfl rfl (by decide) (fun b hb => wX5_spans (by omega) hb) (by omega) rfl rfl (Nat.le_of_ble_eq_true rfl) dX9_rowElement_16 rfl (fun b4 => ?_)
    refine j_if_ne (tgt := 26) (np := 22) dX9_rowElement_19 rfl rfl ?_ ?_
    · refine j_aload_n (q := 0) (np := 27) rfl rfl dX9_rowElement_26 rfl ?_
      refine j_gR (np := 30) flX9_65 dX9_rowElement_27 rfl (fun x5 => ?_)
      refine j_iload_n (q := 1) (np := 31) rfl rfl dX9_rowElement_30 rfl ?_
      refine j_aaload (np := 32) (c0 := 16) (t := 5) (C := "CondensedDetachment$Row") (Or.inr rfl) (fun _ => rfl) dX9_rowElement_31 rfl (fun x6 => ?_)
      refine j_iload_n (q := 2) (np := 33) rfl rfl dX9_rowElement_32 rfl ?_
      refine j_callVi (ci := 5) (np := 36) (bc := bc) (bs := bs) (cb := 0) (cs := 0) (dd := d - 1) (As := [.int v2]) (st := []) caX5_at mlX9_242 imX5_at seX5_at rfl rfl (by decide) (fun b hb => wX5_at (by omega) hb) (by omega) rfl rfl (Nat.le_of_ble_eq_true rfl) dX9_rowElement_33 rfl (fun b7 => ?_)
      refine j_i2l (np := 37) dX9_rowElement_36 rfl ?_
      exact j_lret rfl dX9_rowElement_37 (fun rr h => h)
    · refine j_ldc2 (np := 25) lgX9_240 dX9_rowElement_22 rfl ?_
      exact j_lret rfl dX9_rowElement_25 (fun rr h => h)
set_option maxRecDepth 100000 in
theorem wX9_rowElement {E : qE} {N d : Nat} (hd : 2 ≤ d) {v0 : Nat} {v1 : Int32} {v2 : Int32} {m0 : qM} {b : Int64 × qM} (h : fX9_rowElement N v0 v1 v2 m0 = some b) : qRun E yX9_rowElement cX9_rowElement 3 (some .long) d 0 0 [.ref (E.2.1 + v0), .int v1, .int v2] m0 (some (.long b.1), b.2) := q_met pnX9 (Nat.le_of_ble_eq_true rfl) (bX9_rowElement hd b _ h rfl)
theorem dX9_copyElements_0 : decode cX9_copyElements 0 = .ok (.iload_n 1, 1) := by decide +kernel
theorem dX9_copyElements_1 : decode cX9_copyElements 1 = .ok (.invokestatic 223, 3) := by decide +kernel
theorem dX9_copyElements_4 : decode cX9_copyElements 4 = .ok (.ifCond .eq 10, 3) := by decide +kernel
theorem dX9_copyElements_7 : decode cX9_copyElements 7 = .ok (.iload_n 3, 1) := by decide +kernel
theorem dX9_copyElements_8 : decode cX9_copyElements 8 = .ok (.invokestatic 223, 3) := by decide +kernel
theorem dX9_copyElements_11 : decode cX9_copyElements 11 = .ok (.ifCond .ne 5, 3) := by decide +kernel
theorem dX9_copyElements_14 : decode cX9_copyElements 14 = .ok (.iconst (-1), 1) := by decide +kernel
theorem dX9_copyElements_15 : decode cX9_copyElements 15 = .ok (.ireturn, 1) := by decide +kernel
theorem dX9_copyElements_16 : decode cX9_copyElements 16 = .ok (.aload_n 0, 1) := by decide +kernel
theorem dX9_copyElements_17 : decode cX9_copyElements 17 = .ok (.getfield 65, 3) := by decide +kernel
theorem dX9_copyElements_20 : decode cX9_copyElements 20 = .ok (.iload_n 1, 1) := by decide +kernel
theorem dX9_copyElements_21 : decode cX9_copyElements 21 = .ok (.aaload, 1) := by decide +kernel
theorem dX9_copyElements_22 : decode cX9_copyElements 22 = .ok (.invokevirtual 244, 3) := by decide +kernel
theorem dX9_copyElements_25 : decode cX9_copyElements 25 = .ok (.ifCond .ne 15, 3) := by decide +kernel
theorem dX9_copyElements_28 : decode cX9_copyElements 28 = .ok (.aload_n 0, 1) := by decide +kernel
theorem dX9_copyElements_29 : decode cX9_copyElements 29 = .ok (.getfield 65, 3) := by decide +kernel
theorem dX9_copyElements_32 : decode cX9_copyElements 32 = .ok (.iload_n 3, 1) := by decide +kernel
theorem dX9_copyElements_33 : decode cX9_copyElements 33 = .ok (.aaload, 1) := by decide +kernel
theorem dX9_copyElements_34 : decode cX9_copyElements 34 = .ok (.invokevirtual 244, 3) := by decide +kernel
theorem dX9_copyElements_37 : decode cX9_copyElements 37 = .ok (.ifCond .eq 6, 3) := by decide +kernel
theorem dX9_copyElements_40 : decode cX9_copyElements 40 = .ok (.bipush (-6), 2) := by decide +kernel
theorem dX9_copyElements_42 : decode cX9_copyElements 42 = .ok (.ireturn, 1) := by decide +kernel
theorem dX9_copyElements_43 : decode cX9_copyElements 43 = .ok (.aload_n 0, 1) := by decide +kernel
theorem dX9_copyElements_44 : decode cX9_copyElements 44 = .ok (.getfield 65, 3) := by decide +kernel
theorem dX9_copyElements_47 : decode cX9_copyElements 47 = .ok (.iload_n 1, 1) := by decide +kernel
theorem dX9_copyElements_48 : decode cX9_copyElements 48 = .ok (.aaload, 1) := by decide +kernel
theorem dX9_copyElements_49 : decode cX9_copyElements 49 = .ok (.invokevirtual 247, 3) := by decide +kernel
theorem dX9_copyElements_52 : decode cX9_copyElements 52 = .ok (.aload_n 0, 1) := by decide +kernel
theorem dX9_copyElements_53 : decode cX9_copyElements 53 = .ok (.getfield 65, 3) := by decide +kernel
theorem dX9_copyElements_56 : decode cX9_copyElements 56 = .ok (.iload_n 3, 1) := by decide +kernel
theorem dX9_copyElements_57 : decode cX9_copyElements 57 = .ok (.aaload, 1) := by decide +kernel
theorem dX9_copyElements_58 : decode cX9_copyElements 58 = .ok (.invokevirtual 247, 3) := by decide +kernel
theorem dX9_copyElements_61 : decode cX9_copyElements 61 = .ok (.if_icmp .eq 6, 3) := by decide +kernel
theorem dX9_copyElements_64 : decode cX9_copyElements 64 = .ok (.bipush (-7), 2) := by decide +kernel
theorem dX9_copyElements_66 : decode cX9_copyElements 66 = .ok (.ireturn, 1) := by decide +kernel
theorem dX9_copyElements_67 : decode cX9_copyElements 67 = .ok (.aload_n 0, 1) := by decide +kernel
theorem dX9_copyElements_68 : decode cX9_copyElements 68 = .ok (.getfield 65, 3) := by decide +kernel
theorem dX9_copyElements_71 : decode cX9_copyElements 71 = .ok (.iload_n 1, 1) := by decide +kernel
theorem dX9_copyElements_72 : decode cX9_copyElements 72 = .ok (.aaload, 1) := by decide +kernel
theorem dX9_copyElements_73 : decode cX9_copyElements 73 = .ok (.iload_n 2, 1) := by decide +kernel
theorem dX9_copyElements_74 : decode cX9_copyElements 74 = .ok (.iload 5, 2) := by decide +kernel
theorem dX9_copyElements_76 : decode cX9_copyElements 76 = .ok (.invokevirtual 233, 3) := by decide +kernel
theorem dX9_copyElements_79 : decode cX9_copyElements 79 = .ok (.ifCond .eq 19, 3) := by decide +kernel
theorem dX9_copyElements_82 : decode cX9_copyElements 82 = .ok (.aload_n 0, 1) := by decide +kernel
theorem dX9_copyElements_83 : decode cX9_copyElements 83 = .ok (.getfield 65, 3) := by decide +kernel
theorem dX9_copyElements_86 : decode cX9_copyElements 86 = .ok (.iload_n 3, 1) := by decide +kernel
theorem dX9_copyElements_87 : decode cX9_copyElements 87 = .ok (.aaload, 1) := by decide +kernel
theorem dX9_copyElements_88 : decode cX9_copyElements 88 = .ok (.iload 4, 2) := by decide +kernel
theorem dX9_copyElements_90 : decode cX9_copyElements 90 = .ok (.iload 5, 2) := by decide +kernel
theorem dX9_copyElements_92 : decode cX9_copyElements 92 = .ok (.invokevirtual 233, 3) := by decide +kernel
theorem dX9_copyElements_95 : decode cX9_copyElements 95 = .ok (.ifCond .ne 6, 3) := by decide +kernel
theorem dX9_copyElements_98 : decode cX9_copyElements 98 = .ok (.bipush (-8), 2) := by decide +kernel
theorem dX9_copyElements_100 : decode cX9_copyElements 100 = .ok (.ireturn, 1) := by decide +kernel
theorem dX9_copyElements_101 : decode cX9_copyElements 101 = .ok (.aload_n 0, 1) := by decide +kernel
theorem dX9_copyElements_102 : decode cX9_copyElements 102 = .ok (.getfield 65, 3) := by decide +kernel
theorem dX9_copyElements_105 : decode cX9_copyElements 105 = .ok (.iload_n 3, 1) := by decide +kernel
theorem dX9_copyElements_106 : decode cX9_copyElements 106 = .ok (.aaload, 1) := by decide +kernel
theorem dX9_copyElements_107 : decode cX9_copyElements 107 = .ok (.aload_n 0, 1) := by decide +kernel
theorem dX9_copyElements_108 : decode cX9_copyElements 108 = .ok (.getfield 65, 3) := by decide +kernel
theorem dX9_copyElements_111 : decode cX9_copyElements 111 = .ok (.iload_n 1, 1) := by decide +kernel
theorem dX9_copyElements_112 : decode cX9_copyElements 112 = .ok (.aaload, 1) := by decide +kernel
theorem dX9_copyElements_113 : decode cX9_copyElements 113 = .ok (.iload_n 2, 1) := by decide +kernel
theorem dX9_copyElements_114 : decode cX9_copyElements 114 = .ok (.iload 4, 2) := by decide +kernel
theorem dX9_copyElements_116 : decode cX9_copyElements 116 = .ok (.iload 5, 2) := by decide +kernel
theorem dX9_copyElements_118 : decode cX9_copyElements 118 = .ok (.invokevirtual 250, 3) := by decide +kernel
theorem dX9_copyElements_121 : decode cX9_copyElements 121 = .ok (.iload 5, 2) := by decide +kernel
theorem dX9_copyElements_123 : decode cX9_copyElements 123 = .ok (.ireturn, 1) := by decide +kernel
def fX9_copyElements (N : Nat) (v0 : Nat) (v1 : Int32) (v2 : Int32) (v3 : Int32) (v4 : Int32) (v5 : Int32) (m0 : qM) : Option (Int32 × qM) :=
  (fX9_isRow N v1 m0).bind fun b1 =>
  if b1.1 = 0 then (
  some ((-1 : Int32), b1.2)
  ) else (
  (fX9_isRow N v3 b1.2).bind fun b2 =>
  if b2.1 = 0 then (
  some ((-1 : Int32), b2.2)
  ) else (
  (qgR b2.2 v0 9 8).bind fun x3 =>
  (qaR b2.2 x3 16 v1).bind fun x4 =>
  (qChk b2.2 x4 5 (fX5_isMissing N x4 b2.2)).bind fun b5 =>
  if b5.1 = 0 then (
  (qgR b5.2 v0 9 8).bind fun x6 =>
  (qaR b5.2 x6 16 v3).bind fun x7 =>
  (qChk b5.2 x7 5 (fX5_isMissing N x7 b5.2)).bind fun b8 =>
  if b8.1 = 0 then (
  (qgR b8.2 v0 9 8).bind fun x9 =>
  (qaR b8.2 x9 16 v1).bind fun x10 =>
  (qChk b8.2 x10 5 (fX5_type N x10 b8.2)).bind fun b11 =>
  (qgR b11.2 v0 9 8).bind fun x12 =>
  (qaR b11.2 x12 16 v3).bind fun x13 =>
  (qChk b11.2 x13 5 (fX5_type N x13 b11.2)).bind fun b14 =>
  if b11.1 = b14.1 then (
  (qgR b14.2 v0 9 8).bind fun x15 =>
  (qaR b14.2 x15 16 v1).bind fun x16 =>
  (qChk b14.2 x16 5 (fX5_spans N x16 v2 v5 b14.2)).bind fun b17 =>
  if b17.1 = 0 then (
  some ((-8 : Int32), b17.2)
  ) else (
  (qgR b17.2 v0 9 8).bind fun x18 =>
  (qaR b17.2 x18 16 v3).bind fun x19 =>
  (qChk b17.2 x19 5 (fX5_spans N x19 v4 v5 b17.2)).bind fun b20 =>
  if b20.1 = 0 then (
  some ((-8 : Int32), b20.2)
  ) else (
  (qgR b20.2 v0 9 8).bind fun x21 =>
  (qaR b20.2 x21 16 v3).bind fun x22 =>
  (qgR b20.2 v0 9 8).bind fun x23 =>
  (qaR b20.2 x23 16 v1).bind fun x24 =>
  (qChk b20.2 x22 5 (fX5_copyFrom N x22 x24 v2 v4 v5 b20.2)).bind fun b25 =>
  some (v5, b25)
  )
  )
  ) else (
  some ((-7 : Int32), b14.2)
  )
  ) else (
  some ((-6 : Int32), b8.2)
  )
  ) else (
  some ((-6 : Int32), b5.2)
  )
  )
  )
set_option maxRecDepth 100000 in
theorem bX9_copyElements {E : qE} {N d bc bs : Nat} (hd : 2 ≤ d) {v0 : Nat} {v1 : Int32} {v2 : Int32} {v3 : Int32} {v4 : Int32} {v5 : Int32} {m0 : qM} : qB E yX9_copyElements cX9_copyElements 6 (some .int) (fun _ => True) d bc bs 0 [(0, .ref (E.2.1 + v0)), (1, .int v1), (2, .int v2), (3, .int v3), (4, .int v4), (5, .int v5)] [] m0 (fX9_copyElements N v0 v1 v2 v3 v4 v5 m0) (fun b rr => rr = (some (.int b.1), b.2)) := by
  unfold fX9_copyElements
  refine j_iload_n (q := 1) (np := 1) rfl rfl dX9_copyElements_0 rfl ?_
  refine j_callSi (np := 4) (bc := bc) (bs := bs) (cb := 0) (cs := 0) (dd := d - 1) (As := [.int v1]) (st := []) caX9_isRow mlX9_223 stX9_isRow (fun b hb => wX9_isRow (by omega) hb) (by omega) rfl rfl (Nat.le_of_ble_eq_true rfl) dX9_copyElements_1 rfl (fun b1 => ?_)
  refine j_if_eq (tgt := 14) (np := 7) dX9_copyElements_4 rfl rfl ?_ ?_
  · refine j_iconst (np := 15) ci_m1 dX9_copyElements_14 rfl ?_
    exact j_iret rfl dX9_copyElements_15 (fun rr h => h)
  · refine j_iload_n (q := 3) (np := 8) rfl rfl dX9_copyElements_7 rfl ?_
    refine j_callSi (np := 11) (bc := bc) (bs := bs) (cb := 0) (cs := 0) (dd := d - 1) (As := [.int v3]) (st := []) caX9_isRow mlX9_223 stX9_isRow (fun b hb => wX9_isRow (by omega) hb) (by omega) rfl rfl (Nat.le_of_ble_eq_true rfl) dX9_copyElements_8 rfl (fun b2 => ?_)
    refine j_if_ne (tgt := 16) (np := 14) dX9_copyElements_11 rfl rfl ?_ ?_
    · refine j_aload_n (q := 0) (np := 17) rfl rfl dX9_copyElements_16 rfl ?_
      refine j_gR (np := 20) flX9_65 dX9_copyElements_17 rfl (fun x3 => ?_)
      refine j_iload_n (q := 1) (np := 21) rfl rfl dX9_copyElements_20 rfl ?_
      refine j_aaload (np := 22) (c0 := 16) (t := 5) (C := "CondensedDetachment$Row") (Or.inr rfl) (fun _ => rfl) dX9_copyElements_21 rfl (fun x4 => ?_)
      refine j_callVi (ci := 5) (np := 25) (bc := bc) (bs := bs) (cb := 0) (cs := 0) (dd := d - 1) (As := []) (st := []) caX5_isMissing mlX9_244 imX5_isMissing seX5_isMissing rfl rfl (by decide) (fun b hb => wX5_isMissing (by omega) hb) (by omega) rfl rfl (Nat.le_of_ble_eq_true rfl) dX9_copyElements_22 rfl (fun b5 => ?_)
      refine j_if_ne (tgt := 40) (np := 28) dX9_copyElements_25 rfl rfl ?_ ?_
      · refine j_bipush (np := 42) cb_m6 dX9_copyElements_40 rfl ?_
        exact j_iret rfl dX9_copyElements_42 (fun rr h => h)
      · refine j_aload_n (q := 0) (np := 29) rfl rfl dX9_copyElements_28 rfl ?_
        refine j_gR (np := 32) flX9_65 dX9_copyElements_29 rfl (fun x6 => ?_)
        refine j_iload_n (q := 3) (np := 33) rfl rfl dX9_copyElements_32 rfl ?_
        refine j_aaload (np := 34) (c0 := 16) (t := 5) (C := "CondensedDetachment$Row") (Or.inr rfl) (fun _ => rfl) dX9_copyElements_33 rfl (fun x7 => ?_)
        refine j_callVi (ci := 5) (np := 37) (bc := bc) (bs := bs) (cb := 0) (cs := 0) (dd := d - 1) (As := []) (st := []) caX5_isMissing mlX9_244 imX5_isMissing seX5_isMissing rfl rfl (by decide) (fun b hb => wX5_isMissing (by omega) hb) (by omega) rfl rfl (Nat.le_of_ble_eq_true rfl) dX9_copyElements_34 rfl (fun b8 => ?_)
        refine j_if_eq (tgt := 43) (np := 40) dX9_copyElements_37 rfl rfl ?_ ?_
        · refine j_aload_n (q := 0) (np := 44) rfl rfl dX9_copyElements_43 rfl ?_
          refine j_gR (np := 47) flX9_65 dX9_copyElements_44 rfl (fun x9 => ?_)
          refine j_iload_n (q := 1) (np := 48) rfl rfl dX9_copyElements_47 rfl ?_
          refine j_aaload (np := 49) (c0 := 16) (t := 5) (C := "CondensedDetachment$Row") (Or.inr rfl) (fun _ => rfl) dX9_copyElements_48 rfl (fun x10 => ?_)
          refine j_callVi (ci := 5) (np := 52) (bc := bc) (bs := bs) (cb := 0) (cs := 0) (dd := d - 1) (As := []) (st := []) caX5_type mlX9_247 imX5_type seX5_type rfl rfl (by decide) (fun b hb => wX5_type (by omega) hb) (by omega) rfl rfl (Nat.le_of_ble_eq_true rfl) dX9_copyElements_49 rfl (fun b11 => ?_)
          refine j_aload_n (q := 0) (np := 53) rfl rfl dX9_copyElements_52 rfl ?_
          refine j_gR (np := 56) flX9_65 dX9_copyElements_53 rfl (fun x12 => ?_)
          refine j_iload_n (q := 3) (np := 57) rfl rfl dX9_copyElements_56 rfl ?_
          refine j_aaload (np := 58) (c0 := 16) (t := 5) (C := "CondensedDetachment$Row") (Or.inr rfl) (fun _ => rfl) dX9_copyElements_57 rfl (fun x13 => ?_)
          refine j_callVi (ci := 5) (np := 61) (bc := bc) (bs := bs) (cb := 0) (cs := 0) (dd := d - 1) (As := []) (st := [.int b11.1]) caX5_type mlX9_247 imX5_type seX5_type rfl rfl (by decide) (fun b hb => wX5_type (by omega) hb) (by omega) rfl rfl (Nat.le_of_ble_eq_true rfl) dX9_copyElements_58 rfl (fun b14 => ?_)
          refine j_icmp_eq (tgt := 67) (np := 64) dX9_copyElements_61 rfl rfl ?_ ?_
          · refine j_aload_n (q := 0) (np := 68) rfl rfl dX9_copyElements_67 rfl ?_
            refine j_gR (np := 71) flX9_65 dX9_copyElements_68 rfl (fun x15 => ?_)
            refine j_iload_n (q := 1) (np := 72) rfl rfl dX9_copyElements_71 rfl ?_
            refine j_aaload (np := 73) (c0 := 16) (t := 5) (C := "CondensedDetachment$Row") (Or.inr rfl) (fun _ => rfl) dX9_copyElements_72 rfl (fun x16 => ?_)
            refine j_iload_n (q := 2) (np := 74) rfl rfl dX9_copyElements_73 rfl ?_
            refine j_iload (q := 5) (np := 76) rfl dX9_copyElements_74 rfl ?_
            refine j_callVi (ci := 5) (np := 79) (bc := bc) (bs := bs) (cb := 0) (cs := 0) (dd := d - 1) (As := [.int v2, .int v5]) (st := []) caX5_spans mlX9_233 imX5_spans seX5_spans rfl rfl (by decide) (fun b hb => wX5_spans (by omega) hb) (by omega) rfl rfl (Nat.le_of_ble_eq_true rfl) dX9_copyElements_76 rfl (fun b17 => ?_)
            refine j_if_eq (tgt := 98) (np := 82) dX9_copyElements_79 rfl rfl ?_ ?_
            · refine j_bipush (np := 100) cb_m8 dX9_copyElements_98 rfl ?_
              exact j_iret rfl dX9_copyElements_100 (fun rr h => h)
            · refine j_aload_n (q := 0) (np := 83) rfl rfl dX9_copyElements_82 rfl ?_
              refine j_gR (np := 86) flX9_65 dX9_copyElements_83 rfl (fun x18 => ?_)
              refine j_iload_n (q := 3) (np := 87) rfl rfl dX9_copyElements_86 rfl ?_
              refine j_aaload (np := 88) (c0 := 16) (t := 5) (C := "CondensedDetachment$Row") (Or.inr rfl) (fun _ => rfl) dX9_copyElements_87 rfl (fun x19 => ?_)
              refine j_iload (q := 4) (np := 90) rfl dX9_copyElements_88 rfl ?_
              refine j_iload (q := 5) (np := 92) rfl dX9_copyElements_90 rfl ?_
              refine j_callVi (ci := 5) (np := 95) (bc := bc) (bs := bs) (cb := 0) (cs := 0) (dd := d - 1) (As := [.int v4, .int v5]) (st := []) caX5_spans mlX9_233 imX5_spans seX5_spans rfl rfl (by decide) (fun b hb => wX5_spans (by omega) hb) (by omega) rfl rfl (Nat.le_of_ble_eq_true rfl) dX9_copyElements_92 rfl (fun b20 => ?_)
              refine j_if_ne (tgt := 101) (np := 98) dX9_copyElements_95 rfl rfl ?_ ?_
              · refine j_aload_n (q := 0) (np := 102) rfl rfl dX9_copyElements_101 rfl ?_
                refine j_gR (np := 105) flX9_65 dX9_copyElements_102 rfl (fun x21 => ?_)
                refine j_iload_n (q := 3) (np := 106) rfl rfl dX9_copyElements_105 rfl ?_
                refine j_aaload (np := 107) (c0 := 16) (t := 5) (C := "CondensedDetachment$Row") (Or.inr rfl) (fun _ => rfl) dX9_copyElements_106 rfl (fun x22 => ?_)
                refine j_aload_n (q := 0) (np := 108) rfl rfl dX9_copyElements_107 rfl ?_
                refine j_gR (np := 111) flX9_65 dX9_copyElements_108 rfl (fun x23 => ?_)
                refine j_iload_n (q := 1) (np := 112) rfl rfl dX9_copyElements_111 rfl ?_
                refine j_aaload (np := 113) (c0 := 16) (t := 5) (C := "CondensedDetachment$Row") (Or.inr rfl) (fun _ => rfl) dX9_copyElements_112 rfl (fun x24 => ?_)
                refine j_iload_n (q := 2) (np := 114) rfl rfl dX9_copyElements_113 rfl ?_
                refine j_iload (q := 4) (np := 116) rfl dX9_copyElements_114 rfl ?_
                refine j_iload (q := 5) (np := 118) rfl dX9_copyElements_116 rfl ?_
                refine j_callVv (ci := 5) (np := 121) (bc := bc) (bs := bs) (cb := 0) (cs := 0) (dd := d - 1) (As := [.ref (E.2.1 + x24), .int v2, .int v4, .int v5]) (st := []) caX5_copyFrom mlX9_250 imX5_copyFrom seX5_copyFrom rfl rfl (by decide) (fun b hb => wX5_copyFrom (by omega) hb) (by omega) rfl rfl (Nat.le_of_ble_eq_true rfl) dX9_copyElements_118 rfl (fun b25 => ?_)
                refine j_iload (q := 5) (np := 123) rfl dX9_copyElements_121 rfl ?_
                exact j_iret rfl dX9_copyElements_123 (fun rr h => h)
              · refine j_bipush (np := 100) cb_m8 dX9_copyElements_98 rfl ?_
                exact j_iret rfl dX9_copyElements_100 (fun rr h => h)
          · refine j_bipush (np := 66) cb_m7 dX9_copyElements_64 rfl ?_
            exact j_iret rfl dX9_copyElements_66 (fun rr h => h)
        · refine j_bipush (np := 42) cb_m6 dX9_copyElements_40 rfl ?_
          exact j_iret rfl dX9_copyElements_42 (fun rr h => h)
    · refine j_iconst (np := 15) ci_m1 dX9_copyElements_14 rfl ?_
      exact j_iret rfl dX9_copyElements_15 (fun rr h => h)
set_option maxRecDepth 100000 in
theorem wX9_copyElements {E : qE} {N d : Nat} (hd : 2 ≤ d) {v0 : Nat} {v1 : Int32} {v2 : Int32} {v3 : Int32} {v4 : Int32} {v5 : Int32} {m0 : qM} {b : Int32 × qM} (h : fX9_copyElements N v0 v1 v2 v3 v4 v5 m0 = some b) : qRun E yX9_copyElements cX9_copyElements 6 (some .int) d 0 0 [.ref (E.2.1 + v0), .int v1, .int v2, .int v3, .int v4, .int v5] m0 (some (.int b.1), b.2) := q_met pnX9 (Nat.le_of_ble_eq_true rfl) (bX9_copyElements hd b _ h rfl)
theorem dX9_storeOutput_0 : decode cX9_storeOutput 0 = .ok (.aload_n 0, 1) := by decide +kernel
theorem dX9_storeOutput_1 : decode cX9_storeOutput 1 = .ok (.iload_n 1, 1) := by decide +kernel
theorem dX9_storeOutput_2 : decode cX9_storeOutput 2 = .ok (.invokevirtual 230, 3) := by decide +kernel
theorem dX9_storeOutput_5 : decode cX9_storeOutput 5 = .ok (.istore_n 3, 1) := by decide +kernel
theorem dX9_storeOutput_6 : decode cX9_storeOutput 6 = .ok (.iload_n 3, 1) := by decide +kernel
theorem dX9_storeOutput_7 : decode cX9_storeOutput 7 = .ok (.ifCond .eq 5, 3) := by decide +kernel
theorem dX9_storeOutput_10 : decode cX9_storeOutput 10 = .ok (.iload_n 3, 1) := by decide +kernel
theorem dX9_storeOutput_11 : decode cX9_storeOutput 11 = .ok (.ireturn, 1) := by decide +kernel
theorem dX9_storeOutput_12 : decode cX9_storeOutput 12 = .ok (.aload_n 0, 1) := by decide +kernel
theorem dX9_storeOutput_13 : decode cX9_storeOutput 13 = .ok (.getfield 65, 3) := by decide +kernel
theorem dX9_storeOutput_16 : decode cX9_storeOutput 16 = .ok (.iload_n 1, 1) := by decide +kernel
theorem dX9_storeOutput_17 : decode cX9_storeOutput 17 = .ok (.aaload, 1) := by decide +kernel
theorem dX9_storeOutput_18 : decode cX9_storeOutput 18 = .ok (.iload_n 2, 1) := by decide +kernel
theorem dX9_storeOutput_19 : decode cX9_storeOutput 19 = .ok (.aload_n 0, 1) := by decide +kernel
theorem dX9_storeOutput_20 : decode cX9_storeOutput 20 = .ok (.getfield 16, 3) := by decide +kernel
theorem dX9_storeOutput_23 : decode cX9_storeOutput 23 = .ok (.invokevirtual 88, 3) := by decide +kernel
theorem dX9_storeOutput_26 : decode cX9_storeOutput 26 = .ok (.invokevirtual 233, 3) := by decide +kernel
theorem dX9_storeOutput_29 : decode cX9_storeOutput 29 = .ok (.ifCond .ne 6, 3) := by decide +kernel
theorem dX9_storeOutput_32 : decode cX9_storeOutput 32 = .ok (.bipush (-8), 2) := by decide +kernel
theorem dX9_storeOutput_34 : decode cX9_storeOutput 34 = .ok (.ireturn, 1) := by decide +kernel
theorem dX9_storeOutput_35 : decode cX9_storeOutput 35 = .ok (.iconst 0, 1) := by decide +kernel
theorem dX9_storeOutput_36 : decode cX9_storeOutput 36 = .ok (.istore 4, 2) := by decide +kernel
theorem dX9_storeOutput_38 : decode cX9_storeOutput 38 = .ok (.iload 4, 2) := by decide +kernel
theorem dX9_storeOutput_40 : decode cX9_storeOutput 40 = .ok (.aload_n 0, 1) := by decide +kernel
theorem dX9_storeOutput_41 : decode cX9_storeOutput 41 = .ok (.getfield 16, 3) := by decide +kernel
theorem dX9_storeOutput_44 : decode cX9_storeOutput 44 = .ok (.invokevirtual 88, 3) := by decide +kernel
theorem dX9_storeOutput_47 : decode cX9_storeOutput 47 = .ok (.if_icmp .ge 31, 3) := by decide +kernel
theorem dX9_storeOutput_50 : decode cX9_storeOutput 50 = .ok (.aload_n 0, 1) := by decide +kernel
theorem dX9_storeOutput_51 : decode cX9_storeOutput 51 = .ok (.getfield 65, 3) := by decide +kernel
theorem dX9_storeOutput_54 : decode cX9_storeOutput 54 = .ok (.iload_n 1, 1) := by decide +kernel
theorem dX9_storeOutput_55 : decode cX9_storeOutput 55 = .ok (.aaload, 1) := by decide +kernel
theorem dX9_storeOutput_56 : decode cX9_storeOutput 56 = .ok (.iload_n 2, 1) := by decide +kernel
theorem dX9_storeOutput_57 : decode cX9_storeOutput 57 = .ok (.iload 4, 2) := by decide +kernel
theorem dX9_storeOutput_59 : decode cX9_storeOutput 59 = .ok (.iadd, 1) := by decide +kernel
theorem dX9_storeOutput_60 : decode cX9_storeOutput 60 = .ok (.aload_n 0, 1) := by decide +kernel
theorem dX9_storeOutput_61 : decode cX9_storeOutput 61 = .ok (.getfield 16, 3) := by decide +kernel
theorem dX9_storeOutput_64 : decode cX9_storeOutput 64 = .ok (.iload 4, 2) := by decide +kernel
theorem dX9_storeOutput_66 : decode cX9_storeOutput 66 = .ok (.invokevirtual 167, 3) := by decide +kernel
theorem dX9_storeOutput_69 : decode cX9_storeOutput 69 = .ok (.invokevirtual 237, 3) := by decide +kernel
theorem dX9_storeOutput_72 : decode cX9_storeOutput 72 = .ok (.iinc 4 1, 3) := by decide +kernel
theorem dX9_storeOutput_75 : decode cX9_storeOutput 75 = .ok (.goto (-37), 3) := by decide +kernel
theorem dX9_storeOutput_78 : decode cX9_storeOutput 78 = .ok (.aload_n 0, 1) := by decide +kernel
theorem dX9_storeOutput_79 : decode cX9_storeOutput 79 = .ok (.getfield 16, 3) := by decide +kernel
theorem dX9_storeOutput_82 : decode cX9_storeOutput 82 = .ok (.invokevirtual 88, 3) := by decide +kernel
theorem dX9_storeOutput_85 : decode cX9_storeOutput 85 = .ok (.ireturn, 1) := by decide +kernel
def lX9_storeOutput_38 (N : Nat) (v0 : Nat) (v1 : Int32) (v2 : Int32) : Nat → Int32 → qM → Option (qM)
  | 0, _, _ => none
  | n + 1, v4, m0 =>
    (qgR m0 v0 9 1).bind fun x1 =>
    (qChk m0 x1 7 (fX7_length N x1 m0)).bind fun b2 =>
    if b2.1 ≤ v4 then (
    some b2.2
    ) else (
    (qgR b2.2 v0 9 8).bind fun x3 =>
    (qaR b2.2 x3 16 v1).bind fun x4 =>
    (qgR b2.2 v0 9 1).bind fun x5 =>
    (qChk b2.2 x5 7 (fX7_at N x5 v4 b2.2)).bind fun b6 =>
    (qChk b6.2 x4 5 (fX5_set N x4 (v2 + v4) b6.1 b6.2)).bind fun b7 =>
    lX9_storeOutput_38 N v0 v1 v2 n (v4 + (1 : Int32)) b7
    )
set_option maxRecDepth 100000 in
theorem lbX9_storeOutput_38 {E : qE} {N d bc bs : Nat} (hd : 2 ≤ d) {v0 : Nat} {v1 : Int32} {v2 : Int32} : ∀ (n : Nat) (v4 : Int32) (m0 : qM), qB E yX9_storeOutput cX9_storeOutput 5 (some .int) (fun _ => True) d bc bs 38 [(0, .ref (E.2.1 + v0)), (1, .int v1), (2, .int v2), (4, .int v4)] [] m0 (lX9_storeOutput_38 N v0 v1 v2 n v4 m0) (fun o rr => qJ E yX9_storeOutput cX9_storeOutput 5 (some .int) (fun _ => True) d bc bs 78 [(0, .ref (E.2.1 + v0))] [] o rr) := by
  intro n
  induction n with
  | zero =>
    intro v4 m0
    exact j_none
  | succ n ih =>
    intro v4 m0
    unfold lX9_storeOutput_38
    refine j_iload (q := 3) (np := 40) rfl dX9_storeOutput_38 rfl ?_
    refine j_aload_n (q := 0) (np := 41) rfl rfl dX9_storeOutput_40 rfl ?_
    refine j_gR (np := 44) flX9_16 dX9_storeOutput_41 rfl (fun x1 => ?_)
    refine j_callVi (ci := 7) (np := 47) (bc := bc) (bs := bs) (cb := 0) (cs := 0) (dd := d - 1) (As := []) (st := [.int v4]) caX7_length mlX9_88 imX7_length seX7_length rfl rfl (by decide) (fun b hb => wX7_length (by omega) hb) (by omega) rfl rfl (Nat.le_of_ble_eq_true rfl) dX9_storeOutput_44 rfl (fun b2 => ?_)
    refine j_icmp_ge (tgt := 78) (np := 50) dX9_storeOutput_47 rfl rfl ?_ ?_
    · refine j_sub (lv2 := [(0, .ref (E.2.1 + v0))]) [0] rfl ?_
      exact j_exit (fun rr h => h)
    · refine j_aload_n (q := 0) (np := 51) rfl rfl dX9_storeOutput_50 rfl ?_
      refine j_gR (np := 54) flX9_65 dX9_storeOutput_51 rfl (fun x3 => ?_)
      refine j_iload_n (q := 1) (np := 55) rfl rfl dX9_storeOutput_54 rfl ?_
      refine j_aaload (np := 56) (c0 := 16) (t := 5) (C := "CondensedDetachment$Row") (Or.inr rfl) (fun _ => rfl) dX9_storeOutput_55 rfl (fun x4 => ?_)
      refine j_iload_n (q := 2) (np := 57) rfl rfl dX9_storeOutput_56 rfl ?_
      refine j_iload (q := 3) (np := 59) rfl dX9_storeOutput_57 rfl ?_
      refine j_iadd (np := 60) dX9_storeOutput_59 rfl ?_
      refine j_aload_n (q := 0) (np := 61) rfl rfl dX9_storeOutput_60 rfl ?_
      refine j_gR (np := 64) flX9_16 dX9_storeOutput_61 rfl (fun x5 => ?_)
      refine j_iload (q := 3) (np := 66) rfl dX9_storeOutput_64 rfl ?_
      refine j_callVi (ci := 7) (np := 69) (bc := bc) (bs := bs) (cb := 0) (cs := 0) (dd := d - 1) (As := [.int v4]) (st := [.int (v2 + v4), .ref (E.2.1 + x4)]) caX7_at mlX9_167 imX7_at seX7_at rfl rfl (by decide) (fun b hb => wX7_at (by omega) hb) (by omega) rfl rfl (Nat.le_of_ble_eq_true rfl) dX9_storeOutput_66 rfl (fun b6 => ?_)
      refine j_callVv (ci := 5) (np := 72) (bc := bc) (bs := bs) (cb := 0) (cs := 0) (dd := d - 1) (As := [.int (v2 + v4), .int b6.1]) (st := []) caX5_set mlX9_237 imX5_set seX5_set rfl rfl (by decide) (fun b hb => wX5_set (by omega) hb) (by omega) rfl rfl (Nat.le_of_ble_eq_true rfl) dX9_storeOutput_69 rfl (fun b7 => ?_)
      refine j_iinc (q := 3) (np := 75) (lv2 := [(4, .int (v4 + (1 : Int32))), (0, .ref (E.2.1 + v0)), (1, .int v1), (2, .int v2)]) rfl (congrArg _ ci_1) (by decide) dX9_storeOutput_72 rfl rfl ?_
      refine j_goto (tgt := 38) dX9_storeOutput_75 rfl ?_
      refine j_sub (lv2 := [(0, .ref (E.2.1 + v0)), (1, .int v1), (2, .int v2), (4, .int (v4 + (1 : Int32)))]) [1, 2, 3, 0] rfl ?_
      exact ih _ _
def fX9_storeOutput (N : Nat) (v0 : Nat) (v1 : Int32) (v2 : Int32) (m0 : qM) : Option (Int32 × qM) :=
  (qChk m0 v0 9 (fX9_rowFault N v0 v1 m0)).bind fun b1 =>
  if b1.1 = 0 then (
  (qgR b1.2 v0 9 8).bind fun x2 =>
  (qaR b1.2 x2 16 v1).bind fun x3 =>
  (qgR b1.2 v0 9 1).bind fun x4 =>
  (qChk b1.2 x4 7 (fX7_length N x4 b1.2)).bind fun b5 =>
  (qChk b5.2 x3 5 (fX5_spans N x3 v2 b5.1 b5.2)).bind fun b6 =>
  if b6.1 = 0 then (
  some ((-8 : Int32), b6.2)
  ) else (
  (lX9_storeOutput_38 N v0 v1 v2 N (0 : Int32) b6.2).bind fun o7 =>
  (qgR o7 v0 9 1).bind fun x8 =>
  (qChk o7 x8 7 (fX7_length N x8 o7)).bind fun b9 =>
  some (b9.1, b9.2)
  )
  ) else (
  some (b1.1, b1.2)
  )
set_option maxRecDepth 100000 in
theorem bX9_storeOutput {E : qE} {N d bc bs : Nat} (hd : 2 ≤ d) {v0 : Nat} {v1 : Int32} {v2 : Int32} {m0 : qM} : qB E yX9_storeOutput cX9_storeOutput 5 (some .int) (fun _ => True) d bc bs 0 [(0, .ref (E.2.1 + v0)), (1, .int v1), (2, .int v2)] [] m0 (fX9_storeOutput N v0 v1 v2 m0) (fun b rr => rr = (some (.int b.1), b.2)) := by
  unfold fX9_storeOutput
  refine j_aload_n (q := 0) (np := 1) rfl rfl dX9_storeOutput_0 rfl ?_
  refine j_iload_n (q := 1) (np := 2) rfl rfl dX9_storeOutput_1 rfl ?_
  refine j_callVi (ci := 9) (np := 5) (bc := bc) (bs := bs) (cb := 0) (cs := 0) (dd := d - 1) (As := [.int v1]) (st := []) caX9_rowFault mlX9_230 imX9_rowFault seX9_rowFault rfl rfl (by decide) (fun b hb => wX9_rowFault (by omega) hb) (by omega) rfl rfl (Nat.le_of_ble_eq_true rfl) dX9_storeOutput_2 rfl (fun b1 => ?_)
  refine j_istore_n (np := 6) (lv2 := [(3, .int b1.1), (0, .ref (E.2.1 + v0)), (1, .int v1), (2, .int v2)]) rfl (by decide) dX9_storeOutput_5 rfl rfl ?_
  refine j_iload_n (q := 0) (np := 7) rfl rfl dX9_storeOutput_6 rfl ?_
  refine j_if_eq (tgt := 12) (np := 10) dX9_storeOutput_7 rfl rfl ?_ ?_
  · refine j_aload_n (q := 1) (np := 13) rfl rfl dX9_storeOutput_12 rfl ?_
    refine j_gR (np := 16) flX9_65 dX9_storeOutput_13 rfl (fun x2 => ?_)
    refine j_iload_n (q := 2) (np := 17) rfl rfl dX9_storeOutput_16 rfl ?_
    refine j_aaload (np := 18) (c0 := 16) (t := 5) (C := "CondensedDetachment$Row") (Or.inr rfl) (fun _ => rfl) dX9_storeOutput_17 rfl (fun x3 => ?_)
    refine j_iload_n (q := 3) (np := 19) rfl rfl dX9_storeOutput_18 rfl ?_
    refine j_aload_n (q := 1) (np := 20) rfl rfl dX9_storeOutput_19 rfl ?_
    refine j_gR (np := 23) flX9_16 dX9_storeOutput_20 rfl (fun x4 => ?_)
    refine j_callVi (ci := 7) (np := 26) (bc := bc) (bs := bs) (cb := 0) (cs := 0) (dd := d - 1) (As := []) (st := [.int v2, .ref (E.2.1 + x3)]) caX7_length mlX9_88 imX7_length seX7_length rfl rfl (by decide) (fun b hb => wX7_length (by omega) hb) (by omega) rfl rfl (Nat.le_of_ble_eq_true rfl) dX9_storeOutput_23 rfl (fun b5 => ?_)
    refine j_callVi (ci := 5) (np := 29) (bc := bc) (bs := bs) (cb := 0) (cs := 0) (dd := d - 1) (As := [.int v2, .int b5.1]) (st := []) caX5_spans mlX9_233 imX5_spans seX5_spans rfl rfl (by decide) (fun b hb => wX5_spans (by omega) hb) (by omega) rfl rfl (Nat.le_of_ble_eq_true rfl) dX9_storeOutput_26 rfl (fun b6 => ?_)
    refine j_if_ne (tgt := 35) (np := 32) dX9_storeOutput_29 rfl rfl ?_ ?_
    · refine j_iconst (np := 36) ci_0 dX9_storeOutput_35 rfl ?_
      refine j_istore (np := 38) (lv2 := [(4, .int (0 : Int32)), (3, .int b1.1), (0, .ref (E.2.1 + v0)), (1, .int v1), (2, .int v2)]) (by decide) dX9_storeOutput_36 rfl rfl ?_
      refine j_sub (lv2 := [(0, .ref (E.2.1 + v0)), (1, .int v1), (2, .int v2), (4, .int (0 : Int32))]) [2, 3, 4, 0] rfl ?_
      refine j_loop (xp := 78) (lvX := fun o7 => [(0, .ref (E.2.1 + v0))]) (mX := fun o7 => o7) (lbX9_storeOutput_38 hd _ _ _) (fun o7 => ?_)
      refine j_aload_n (q := 0) (np := 79) rfl rfl dX9_storeOutput_78 rfl ?_
      refine j_gR (np := 82) flX9_16 dX9_storeOutput_79 rfl (fun x8 => ?_)
      refine j_callVi (ci := 7) (np := 85) (bc := bc) (bs := bs) (cb := 0) (cs := 0) (dd := d - 1) (As := []) (st := []) caX7_length mlX9_88 imX7_length seX7_length rfl rfl (by decide) (fun b hb => wX7_length (by omega) hb) (by omega) rfl rfl (Nat.le_of_ble_eq_true rfl) dX9_storeOutput_82 rfl (fun b9 => ?_)
      exact j_iret rfl dX9_storeOutput_85 (fun rr h => h)
    · refine j_bipush (np := 34) cb_m8 dX9_storeOutput_32 rfl ?_
      exact j_iret rfl dX9_storeOutput_34 (fun rr h => h)
  · refine j_iload_n (q := 0) (np := 11) rfl rfl dX9_storeOutput_10 rfl ?_
    exact j_iret rfl dX9_storeOutput_11 (fun rr h => h)
set_option maxRecDepth 100000 in
theorem wX9_storeOutput {E : qE} {N d : Nat} (hd : 2 ≤ d) {v0 : Nat} {v1 : Int32} {v2 : Int32} {m0 : qM} {b : Int32 × qM} (h : fX9_storeOutput N v0 v1 v2 m0 = some b) : qRun E yX9_storeOutput cX9_storeOutput 5 (some .int) d 0 0 [.ref (E.2.1 + v0), .int v1, .int v2] m0 (some (.int b.1), b.2) := q_met pnX9 (Nat.le_of_ble_eq_true rfl) (bX9_storeOutput hd b _ h rfl)
theorem dX9_loadText_0 : decode cX9_loadText 0 = .ok (.aload_n 0, 1) := by decide +kernel
theorem dX9_loadText_1 : decode cX9_loadText 1 = .ok (.iload_n 1, 1) := by decide +kernel
theorem dX9_loadText_2 : decode cX9_loadText 2 = .ok (.invokevirtual 230, 3) := by decide +kernel
theorem dX9_loadText_5 : decode cX9_loadText 5 = .ok (.istore 4, 2) := by decide +kernel
theorem dX9_loadText_7 : decode cX9_loadText 7 = .ok (.iload 4, 2) := by decide +kernel
theorem dX9_loadText_9 : decode cX9_loadText 9 = .ok (.ifCond .eq 6, 3) := by decide +kernel
theorem dX9_loadText_12 : decode cX9_loadText 12 = .ok (.iload 4, 2) := by decide +kernel
theorem dX9_loadText_14 : decode cX9_loadText 14 = .ok (.ireturn, 1) := by decide +kernel
theorem dX9_loadText_15 : decode cX9_loadText 15 = .ok (.aload_n 0, 1) := by decide +kernel
theorem dX9_loadText_16 : decode cX9_loadText 16 = .ok (.getfield 65, 3) := by decide +kernel
theorem dX9_loadText_19 : decode cX9_loadText 19 = .ok (.iload_n 1, 1) := by decide +kernel
theorem dX9_loadText_20 : decode cX9_loadText 20 = .ok (.aaload, 1) := by decide +kernel
theorem dX9_loadText_21 : decode cX9_loadText 21 = .ok (.iload_n 2, 1) := by decide +kernel
theorem dX9_loadText_22 : decode cX9_loadText 22 = .ok (.iload_n 3, 1) := by decide +kernel
theorem dX9_loadText_23 : decode cX9_loadText 23 = .ok (.invokevirtual 233, 3) := by decide +kernel
theorem dX9_loadText_26 : decode cX9_loadText 26 = .ok (.ifCond .ne 6, 3) := by decide +kernel
theorem dX9_loadText_29 : decode cX9_loadText 29 = .ok (.bipush (-8), 2) := by decide +kernel
theorem dX9_loadText_31 : decode cX9_loadText 31 = .ok (.ireturn, 1) := by decide +kernel
theorem dX9_loadText_32 : decode cX9_loadText 32 = .ok (.iconst 0, 1) := by decide +kernel
theorem dX9_loadText_33 : decode cX9_loadText 33 = .ok (.istore 5, 2) := by decide +kernel
theorem dX9_loadText_35 : decode cX9_loadText 35 = .ok (.iload 5, 2) := by decide +kernel
theorem dX9_loadText_37 : decode cX9_loadText 37 = .ok (.iload_n 3, 1) := by decide +kernel
theorem dX9_loadText_38 : decode cX9_loadText 38 = .ok (.if_icmp .ge 29, 3) := by decide +kernel
theorem dX9_loadText_41 : decode cX9_loadText 41 = .ok (.aload_n 0, 1) := by decide +kernel
theorem dX9_loadText_42 : decode cX9_loadText 42 = .ok (.aload_n 0, 1) := by decide +kernel
theorem dX9_loadText_43 : decode cX9_loadText 43 = .ok (.getfield 65, 3) := by decide +kernel
theorem dX9_loadText_46 : decode cX9_loadText 46 = .ok (.iload_n 1, 1) := by decide +kernel
theorem dX9_loadText_47 : decode cX9_loadText 47 = .ok (.aaload, 1) := by decide +kernel
theorem dX9_loadText_48 : decode cX9_loadText 48 = .ok (.iload_n 2, 1) := by decide +kernel
theorem dX9_loadText_49 : decode cX9_loadText 49 = .ok (.iload 5, 2) := by decide +kernel
theorem dX9_loadText_51 : decode cX9_loadText 51 = .ok (.iadd, 1) := by decide +kernel
theorem dX9_loadText_52 : decode cX9_loadText 52 = .ok (.invokevirtual 242, 3) := by decide +kernel
theorem dX9_loadText_55 : decode cX9_loadText 55 = .ok (.invokevirtual 254, 3) := by decide +kernel
theorem dX9_loadText_58 : decode cX9_loadText 58 = .ok (.ifCond .le 9, 3) := by decide +kernel
theorem dX9_loadText_61 : decode cX9_loadText 61 = .ok (.iinc 5 1, 3) := by decide +kernel
theorem dX9_loadText_64 : decode cX9_loadText 64 = .ok (.goto (-29), 3) := by decide +kernel
theorem dX9_loadText_67 : decode cX9_loadText 67 = .ok (.iload 5, 2) := by decide +kernel
theorem dX9_loadText_69 : decode cX9_loadText 69 = .ok (.ireturn, 1) := by decide +kernel
def lX9_loadText_35 (N : Nat) (v0 : Nat) (v1 : Int32) (v2 : Int32) (v3 : Int32) : Nat → Int32 → qM → Option (Int32 × qM)
  | 0, _, _ => none
  | n + 1, v5, m0 =>
    if v3 ≤ v5 then (
    some (v5, m0)
    ) else (
    (qgR m0 v0 9 8).bind fun x1 =>
    (qaR m0 x1 16 v1).bind fun x2 =>
    (qChk m0 x2 5 (fX5_at N x2 (v2 + v5) m0)).bind fun b3 =>
    (qChk b3.2 v0 9 (fX9_append N v0 b3.1 b3.2)).bind fun b4 =>
    if b4.1 ≤ 0 then (
    some (v5, b4.2)
    ) else (
    lX9_loadText_35 N v0 v1 v2 v3 n (v5 + (1 : Int32)) b4.2
    )
    )
set_option maxRecDepth 100000 in
theorem lbX9_loadText_35 {E : qE} {N d bc bs : Nat} (hd : 2 ≤ d) {v0 : Nat} {v1 : Int32} {v2 : Int32} {v3 : Int32} : ∀ (n : Nat) (v5 : Int32) (m0 : qM), qB E yX9_loadText cX9_loadText 6 (some .int) (fun _ => True) d bc bs 35 [(0, .ref (E.2.1 + v0)), (1, .int v1), (2, .int v2), (3, .int v3), (5, .int v5)] [] m0 (lX9_loadText_35 N v0 v1 v2 v3 n v5 m0) (fun o rr => qJ E yX9_loadText cX9_loadText 6 (some .int) (fun _ => True) d bc bs 67 [(5, .int o.1)] [] o.2 rr) := by
  intro n
  induction n with
  | zero =>
    intro v5 m0
    exact j_none
  | succ n ih =>
    intro v5 m0
    unfold lX9_loadText_35
    refine j_iload (q := 4) (np := 37) rfl dX9_loadText_35 rfl ?_
    refine j_iload_n (q := 3) (np := 38) rfl rfl dX9_loadText_37 rfl ?_
    refine j_icmp_ge (tgt := 67) (np := 41) dX9_loadText_38 rfl rfl ?_ ?_
    · refine j_sub (lv2 := [(5, .int v5)]) [4] rfl ?_
      exact j_exit (fun rr h => h)
    · refine j_aload_n (q := 0) (np := 42) rfl rfl dX9_loadText_41 rfl ?_
      refine j_aload_n (q := 0) (np := 43) rfl rfl dX9_loadText_42 rfl ?_
      refine j_gR (np := 46) flX9_65 dX9_loadText_43 rfl (fun x1 => ?_)
      refine j_iload_n (q := 1) (np := 47) rfl rfl dX9_loadText_46 rfl ?_
      refine j_aaload (np := 48) (c0 := 16) (t := 5) (C := "CondensedDetachment$Row") (Or.inr rfl) (fun _ => rfl) dX9_loadText_47 rfl (fun x2 => ?_)
      refine j_iload_n (q := 2) (np := 49) rfl rfl dX9_loadText_48 rfl ?_
      refine j_iload (q := 4) (np := 51) rfl dX9_loadText_49 rfl ?_
      refine j_iadd (np := 52) dX9_loadText_51 rfl ?_
      refine j_callVi (ci := 5) (np := 55) (bc := bc) (bs := bs) (cb := 0) (cs := 0) (dd := d - 1) (As := [.int (v2 + v5)]) (st := [.ref (E.2.1 + v0)]) caX5_at mlX9_242 imX5_at seX5_at rfl rfl (by decide) (fun b hb => wX5_at (by omega) hb) (by omega) rfl rfl (Nat.le_of_ble_eq_true rfl) dX9_loadText_52 rfl (fun b3 => ?_)
      refine j_callVi (ci := 9) (np := 58) (bc := bc) (bs := bs) (cb := 0) (cs := 0) (dd := d - 1) (As := [.int b3.1]) (st := []) caX9_append mlX9_254 imX9_append seX9_append rfl rfl (by decide) (fun b hb => wX9_append (by omega) hb) (by omega) rfl rfl (Nat.le_of_ble_eq_true rfl) dX9_loadText_55 rfl (fun b4 => ?_)
      refine j_if_le (tgt := 67) (np := 61) dX9_loadText_58 rfl rfl ?_ ?_
      · refine j_sub (lv2 := [(5, .int v5)]) [4] rfl ?_
        exact j_exit (fun rr h => h)
      · refine j_iinc (q := 4) (np := 64) (lv2 := [(5, .int (v5 + (1 : Int32))), (0, .ref (E.2.1 + v0)), (1, .int v1), (2, .int v2), (3, .int v3)]) rfl (congrArg _ ci_1) (by decide) dX9_loadText_61 rfl rfl ?_
        refine j_goto (tgt := 35) dX9_loadText_64 rfl ?_
        refine j_sub (lv2 := [(0, .ref (E.2.1 + v0)), (1, .int v1), (2, .int v2), (3, .int v3), (5, .int (v5 + (1 : Int32)))]) [1, 2, 3, 4, 0] rfl ?_
        exact ih _ _
def fX9_loadText (N : Nat) (v0 : Nat) (v1 : Int32) (v2 : Int32) (v3 : Int32) (m0 : qM) : Option (Int32 × qM) :=
  (qChk m0 v0 9 (fX9_rowFault N v0 v1 m0)).bind fun b1 =>
  if b1.1 = 0 then (
  (qgR b1.2 v0 9 8).bind fun x2 =>
  (qaR b1.2 x2 16 v1).bind fun x3 =>
  (qChk b1.2 x3 5 (fX5_spans N x3 v2 v3 b1.2)).bind fun b4 =>
  if b4.1 = 0 then (
  some ((-8 : Int32), b4.2)
  ) else (
  (lX9_loadText_35 N v0 v1 v2 v3 N (0 : Int32) b4.2).bind fun o5 =>
  some (o5.1, o5.2)
  )
  ) else (
  some (b1.1, b1.2)
  )
set_option maxRecDepth 100000 in
theorem bX9_loadText {E : qE} {N d bc bs : Nat} (hd : 2 ≤ d) {v0 : Nat} {v1 : Int32} {v2 : Int32} {v3 : Int32} {m0 : qM} : qB E yX9_loadText cX9_loadText 6 (some .int) (fun _ => True) d bc bs 0 [(0, .ref (E.2.1 + v0)), (1, .int v1), (2, .int v2), (3, .int v3)] [] m0 (fX9_loadText N v0 v1 v2 v3 m0) (fun b rr => rr = (some (.int b.1), b.2)) := by
  unfold fX9_loadText
  refine j_aload_n (q := 0) (np := 1) rfl rfl dX9_loadText_0 rfl ?_
  refine j_iload_n (q := 1) (np := 2) rfl rfl dX9_loadText_1 rfl ?_
  refine j_callVi (ci := 9) (np := 5) (bc := bc) (bs := bs) (cb := 0) (cs := 0) (dd := d - 1) (As := [.int v1]) (st := []) caX9_rowFault mlX9_230 imX9_rowFault seX9_rowFault rfl rfl (by decide) (fun b hb => wX9_rowFault (by omega) hb) (by omega) rfl rfl (Nat.le_of_ble_eq_true rfl) dX9_loadText_2 rfl (fun b1 => ?_)
  refine j_istore (np := 7) (lv2 := [(4, .int b1.1), (0, .ref (E.2.1 + v0)), (1, .int v1), (2, .int v2), (3, .int v3)]) (by decide) dX9_loadText_5 rfl rfl ?_
  refine j_iload (q := 0) (np := 9) rfl dX9_loadText_7 rfl ?_
  refine j_if_eq (tgt := 15) (np := 12) dX9_loadText_9 rfl rfl ?_ ?_
  · refine j_aload_n (q := 1) (np := 16) rfl rfl dX9_loadText_15 rfl ?_
    refine j_gR (np := 19) flX9_65 dX9_loadText_16 rfl (fun x2 => ?_)
    refine j_iload_n (q := 2) (np := 20) rfl rfl dX9_loadText_19 rfl ?_
    refine j_aaload (np := 21) (c0 := 16) (t := 5) (C := "CondensedDetachment$Row") (Or.inr rfl) (fun _ => rfl) dX9_loadText_20 rfl (fun x3 => ?_)
    refine j_iload_n (q := 3) (np := 22) rfl rfl dX9_loadText_21 rfl ?_
    refine j_iload_n (q := 4) (np := 23) rfl rfl dX9_loadText_22 rfl ?_
    refine j_callVi (ci := 5) (np := 26) (bc := bc) (bs := bs) (cb := 0) (cs := 0) (dd := d - 1) (As := [.int v2, .int v3]) (st := []) caX5_spans mlX9_233 imX5_spans seX5_spans rfl rfl (by decide) (fun b hb => wX5_spans (by omega) hb) (by omega) rfl rfl (Nat.le_of_ble_eq_true rfl) dX9_loadText_23 rfl (fun b4 => ?_)
    refine j_if_ne (tgt := 32) (np := 29) dX9_loadText_26 rfl rfl ?_ ?_
    · refine j_iconst (np := 33) ci_0 dX9_loadText_32 rfl ?_
      refine j_istore (np := 35) (lv2 := [(5, .int (0 : Int32)), (4, .int b1.1), (0, .ref (E.2.1 + v0)), (1, .int v1), (2, .int v2), (3, .int v3)]) (by decide) dX9_loadText_33 rfl rfl ?_
      refine j_sub (lv2 := [(0, .ref (E.2.1 + v0)), (1, .int v1), (2, .int v2), (3, .int v3), (5, .int (0 : Int32))]) [2, 3, 4, 5, 0] rfl ?_
      refine j_loop (xp := 67) (lvX := fun o5 => [(5, .int o5.1)]) (mX := fun o5 => o5.2) (lbX9_loadText_35 hd _ _ _) (fun o5 => ?_)
      refine j_iload (q := 0) (np := 69) rfl dX9_loadText_67 rfl ?_
      exact j_iret rfl dX9_loadText_69 (fun rr h => h)
    · refine j_bipush (np := 31) cb_m8 dX9_loadText_29 rfl ?_
      exact j_iret rfl dX9_loadText_31 (fun rr h => h)
  · refine j_iload (q := 0) (np := 14) rfl dX9_loadText_12 rfl ?_
    exact j_iret rfl dX9_loadText_14 (fun rr h => h)
set_option maxRecDepth 100000 in
theorem wX9_loadText {E : qE} {N d : Nat} (hd : 2 ≤ d) {v0 : Nat} {v1 : Int32} {v2 : Int32} {v3 : Int32} {m0 : qM} {b : Int32 × qM} (h : fX9_loadText N v0 v1 v2 v3 m0 = some b) : qRun E yX9_loadText cX9_loadText 6 (some .int) d 0 0 [.ref (E.2.1 + v0), .int v1, .int v2, .int v3] m0 (some (.int b.1), b.2) := q_met pnX9 (Nat.le_of_ble_eq_true rfl) (bX9_loadText hd b _ h rfl)
theorem dX10_init_0 : decode cX10_init 0 = .ok (.aload_n 0, 1) := by decide +kernel
theorem dX10_init_1 : decode cX10_init 1 = .ok (.invokespecial 1, 3) := by decide +kernel
theorem dX10_init_4 : decode cX10_init 4 = .ok (.aload_n 0, 1) := by decide +kernel
theorem dX10_init_5 : decode cX10_init 5 = .ok (.sipush 7059, 3) := by decide +kernel
theorem dX10_init_8 : decode cX10_init 8 = .ok (.newarray .int, 2) := by decide +kernel
theorem dX10_init_10 : decode cX10_init 10 = .ok (.putfield 9, 3) := by decide +kernel
theorem dX10_init_13 : decode cX10_init 13 = .ok (.aload_n 0, 1) := by decide +kernel
theorem dX10_init_14 : decode cX10_init 14 = .ok (.sipush 181, 3) := by decide +kernel
theorem dX10_init_17 : decode cX10_init 17 = .ok (.newarray .int, 2) := by decide +kernel
theorem dX10_init_19 : decode cX10_init 19 = .ok (.putfield 13, 3) := by decide +kernel
theorem dX10_init_22 : decode cX10_init 22 = .ok (.aload_n 0, 1) := by decide +kernel
theorem dX10_init_23 : decode cX10_init 23 = .ok (.bipush 60, 2) := by decide +kernel
theorem dX10_init_25 : decode cX10_init 25 = .ok (.newarray .int, 2) := by decide +kernel
theorem dX10_init_27 : decode cX10_init 27 = .ok (.putfield 16, 3) := by decide +kernel
theorem dX10_init_30 : decode cX10_init 30 = .ok (.aload_n 0, 1) := by decide +kernel
theorem dX10_init_31 : decode cX10_init 31 = .ok (.bipush 60, 2) := by decide +kernel
theorem dX10_init_33 : decode cX10_init 33 = .ok (.newarray .int, 2) := by decide +kernel
theorem dX10_init_35 : decode cX10_init 35 = .ok (.putfield 19, 3) := by decide +kernel
theorem dX10_init_38 : decode cX10_init 38 = .ok (.aload_n 0, 1) := by decide +kernel
theorem dX10_init_39 : decode cX10_init 39 = .ok (.bipush 121, 2) := by decide +kernel
theorem dX10_init_41 : decode cX10_init 41 = .ok (.newarray .int, 2) := by decide +kernel
theorem dX10_init_43 : decode cX10_init 43 = .ok (.putfield 22, 3) := by decide +kernel
theorem dX10_init_46 : decode cX10_init 46 = .ok (.aload_n 0, 1) := by decide +kernel
theorem dX10_init_47 : decode cX10_init 47 = .ok (.bipush 80, 2) := by decide +kernel
theorem dX10_init_49 : decode cX10_init 49 = .ok (.newarray .int, 2) := by decide +kernel
theorem dX10_init_51 : decode cX10_init 51 = .ok (.putfield 25, 3) := by decide +kernel
theorem dX10_init_54 : decode cX10_init 54 = .ok (.aload_n 0, 1) := by decide +kernel
theorem dX10_init_55 : decode cX10_init 55 = .ok (.sipush 400, 3) := by decide +kernel
theorem dX10_init_58 : decode cX10_init 58 = .ok (.newarray .int, 2) := by decide +kernel
theorem dX10_init_60 : decode cX10_init 60 = .ok (.putfield 28, 3) := by decide +kernel
theorem dX10_init_63 : decode cX10_init 63 = .ok (.aload_n 0, 1) := by decide +kernel
theorem dX10_init_64 : decode cX10_init 64 = .ok (.bipush 9, 2) := by decide +kernel
theorem dX10_init_66 : decode cX10_init 66 = .ok (.newarray .int, 2) := by decide +kernel
theorem dX10_init_68 : decode cX10_init 68 = .ok (.putfield 31, 3) := by decide +kernel
theorem dX10_init_71 : decode cX10_init 71 = .ok (.aload_n 0, 1) := by decide +kernel
theorem dX10_init_72 : decode cX10_init 72 = .ok (.iconst 4, 1) := by decide +kernel
theorem dX10_init_73 : decode cX10_init 73 = .ok (.putfield 34, 3) := by decide +kernel
theorem dX10_init_76 : decode cX10_init 76 = .ok (.aload_n 0, 1) := by decide +kernel
theorem dX10_init_77 : decode cX10_init 77 = .ok (.bipush 8, 2) := by decide +kernel
theorem dX10_init_79 : decode cX10_init 79 = .ok (.newarray .int, 2) := by decide +kernel
theorem dX10_init_81 : decode cX10_init 81 = .ok (.putfield 38, 3) := by decide +kernel
theorem dX10_init_84 : decode cX10_init 84 = .ok (.aload_n 0, 1) := by decide +kernel
theorem dX10_init_85 : decode cX10_init 85 = .ok (.iconst 3, 1) := by decide +kernel
theorem dX10_init_86 : decode cX10_init 86 = .ok (.newarray .int, 2) := by decide +kernel
theorem dX10_init_88 : decode cX10_init 88 = .ok (.putfield 41, 3) := by decide +kernel
theorem dX10_init_91 : decode cX10_init 91 = .ok (.aload_n 0, 1) := by decide +kernel
theorem dX10_init_92 : decode cX10_init 92 = .ok (.iconst 3, 1) := by decide +kernel
theorem dX10_init_93 : decode cX10_init 93 = .ok (.newarray .int, 2) := by decide +kernel
theorem dX10_init_95 : decode cX10_init 95 = .ok (.putfield 44, 3) := by decide +kernel
theorem dX10_init_98 : decode cX10_init 98 = .ok (.aload_n 0, 1) := by decide +kernel
theorem dX10_init_99 : decode cX10_init 99 = .ok (.sipush 240, 3) := by decide +kernel
theorem dX10_init_102 : decode cX10_init 102 = .ok (.newarray .int, 2) := by decide +kernel
theorem dX10_init_104 : decode cX10_init 104 = .ok (.putfield 47, 3) := by decide +kernel
theorem dX10_init_107 : decode cX10_init 107 = .ok (.aload_n 0, 1) := by decide +kernel
theorem dX10_init_108 : decode cX10_init 108 = .ok (.bipush 78, 2) := by decide +kernel
theorem dX10_init_110 : decode cX10_init 110 = .ok (.newarray .int, 2) := by decide +kernel
theorem dX10_init_112 : decode cX10_init 112 = .ok (.putfield 50, 3) := by decide +kernel
theorem dX10_init_115 : decode cX10_init 115 = .ok (.aload_n 0, 1) := by decide +kernel
theorem dX10_init_116 : decode cX10_init 116 = .ok (.bipush 78, 2) := by decide +kernel
theorem dX10_init_118 : decode cX10_init 118 = .ok (.newarray .int, 2) := by decide +kernel
theorem dX10_init_120 : decode cX10_init 120 = .ok (.putfield 53, 3) := by decide +kernel
theorem dX10_init_123 : decode cX10_init 123 = .ok (.aload_n 0, 1) := by decide +kernel
theorem dX10_init_124 : decode cX10_init 124 = .ok (.bipush 78, 2) := by decide +kernel
theorem dX10_init_126 : decode cX10_init 126 = .ok (.newarray .int, 2) := by decide +kernel
theorem dX10_init_128 : decode cX10_init 128 = .ok (.putfield 56, 3) := by decide +kernel
theorem dX10_init_131 : decode cX10_init 131 = .ok (.aload_n 0, 1) := by decide +kernel
theorem dX10_init_132 : decode cX10_init 132 = .ok (.bipush 78, 2) := by decide +kernel
theorem dX10_init_134 : decode cX10_init 134 = .ok (.newarray .boolean, 2) := by decide +kernel
theorem dX10_init_136 : decode cX10_init 136 = .ok (.putfield 59, 3) := by decide +kernel
theorem dX10_init_139 : decode cX10_init 139 = .ok (.aload_n 0, 1) := by decide +kernel
theorem dX10_init_140 : decode cX10_init 140 = .ok (.bipush 78, 2) := by decide +kernel
theorem dX10_init_142 : decode cX10_init 142 = .ok (.newarray .int, 2) := by decide +kernel
theorem dX10_init_144 : decode cX10_init 144 = .ok (.putfield 63, 3) := by decide +kernel
theorem dX10_init_147 : decode cX10_init 147 = .ok (.aload_n 0, 1) := by decide +kernel
theorem dX10_init_148 : decode cX10_init 148 = .ok (.bipush 80, 2) := by decide +kernel
theorem dX10_init_150 : decode cX10_init 150 = .ok (.newarray .int, 2) := by decide +kernel
theorem dX10_init_152 : decode cX10_init 152 = .ok (.putfield 66, 3) := by decide +kernel
theorem dX10_init_155 : decode cX10_init 155 = .ok (.aload_n 0, 1) := by decide +kernel
theorem dX10_init_156 : decode cX10_init 156 = .ok (.bipush 26, 2) := by decide +kernel
theorem dX10_init_158 : decode cX10_init 158 = .ok (.newarray .int, 2) := by decide +kernel
theorem dX10_init_160 : decode cX10_init 160 = .ok (.putfield 69, 3) := by decide +kernel
theorem dX10_init_163 : decode cX10_init 163 = .ok (.aload_n 0, 1) := by decide +kernel
theorem dX10_init_164 : decode cX10_init 164 = .ok (.sipush 7000, 3) := by decide +kernel
theorem dX10_init_167 : decode cX10_init 167 = .ok (.newarray .int, 2) := by decide +kernel
theorem dX10_init_169 : decode cX10_init 169 = .ok (.putfield 72, 3) := by decide +kernel
theorem dX10_init_172 : decode cX10_init 172 = .ok (.aload_n 0, 1) := by decide +kernel
theorem dX10_init_173 : decode cX10_init 173 = .ok (.sipush 7000, 3) := by decide +kernel
theorem dX10_init_176 : decode cX10_init 176 = .ok (.newarray .int, 2) := by decide +kernel
theorem dX10_init_178 : decode cX10_init 178 = .ok (.putfield 75, 3) := by decide +kernel
theorem dX10_init_181 : decode cX10_init 181 = .ok (.aload_n 0, 1) := by decide +kernel
theorem dX10_init_182 : decode cX10_init 182 = .ok (.sipush 7000, 3) := by decide +kernel
theorem dX10_init_185 : decode cX10_init 185 = .ok (.newarray .int, 2) := by decide +kernel
theorem dX10_init_187 : decode cX10_init 187 = .ok (.putfield 78, 3) := by decide +kernel
theorem dX10_init_190 : decode cX10_init 190 = .ok (.aload_n 0, 1) := by decide +kernel
theorem dX10_init_191 : decode cX10_init 191 = .ok (.sipush 3900, 3) := by decide +kernel
theorem dX10_init_194 : decode cX10_init 194 = .ok (.newarray .int, 2) := by decide +kernel
theorem dX10_init_196 : decode cX10_init 196 = .ok (.putfield 81, 3) := by decide +kernel
theorem dX10_init_199 : decode cX10_init 199 = .ok (.aload_n 0, 1) := by decide +kernel
theorem dX10_init_200 : decode cX10_init 200 = .ok (.bipush 100, 2) := by decide +kernel
theorem dX10_init_202 : decode cX10_init 202 = .ok (.newarray .int, 2) := by decide +kernel
theorem dX10_init_204 : decode cX10_init 204 = .ok (.putfield 84, 3) := by decide +kernel
theorem dX10_init_207 : decode cX10_init 207 = .ok (.aload_n 0, 1) := by decide +kernel
theorem dX10_init_208 : decode cX10_init 208 = .ok (.bipush 78, 2) := by decide +kernel
theorem dX10_init_210 : decode cX10_init 210 = .ok (.newarray .int, 2) := by decide +kernel
theorem dX10_init_212 : decode cX10_init 212 = .ok (.putfield 87, 3) := by decide +kernel
theorem dX10_init_215 : decode cX10_init 215 = .ok (.iconst 0, 1) := by decide +kernel
theorem dX10_init_216 : decode cX10_init 216 = .ok (.istore_n 1, 1) := by decide +kernel
theorem dX10_init_217 : decode cX10_init 217 = .ok (.iload_n 1, 1) := by decide +kernel
theorem dX10_init_218 : decode cX10_init 218 = .ok (.iconst 3, 1) := by decide +kernel
theorem dX10_init_219 : decode cX10_init 219 = .ok (.if_icmp .ge 48, 3) := by decide +kernel
theorem dX10_init_222 : decode cX10_init 222 = .ok (.aload_n 0, 1) := by decide +kernel
theorem dX10_init_223 : decode cX10_init 223 = .ok (.getfield 41, 3) := by decide +kernel
theorem dX10_init_226 : decode cX10_init 226 = .ok (.iload_n 1, 1) := by decide +kernel
theorem dX10_init_227 : decode cX10_init 227 = .ok (.iconst (-1), 1) := by decide +kernel
theorem dX10_init_228 : decode cX10_init 228 = .ok (.iastore, 1) := by decide +kernel
theorem dX10_init_229 : decode cX10_init 229 = .ok (.iconst 0, 1) := by decide +kernel
theorem dX10_init_230 : decode cX10_init 230 = .ok (.istore_n 2, 1) := by decide +kernel
theorem dX10_init_231 : decode cX10_init 231 = .ok (.iload_n 2, 1) := by decide +kernel
theorem dX10_init_232 : decode cX10_init 232 = .ok (.iconst 3, 1) := by decide +kernel
theorem dX10_init_233 : decode cX10_init 233 = .ok (.if_icmp .ge 28, 3) := by decide +kernel
theorem dX10_init_236 : decode cX10_init 236 = .ok (.aload_n 0, 1) := by decide +kernel
theorem dX10_init_237 : decode cX10_init 237 = .ok (.getfield 31, 3) := by decide +kernel
theorem dX10_init_240 : decode cX10_init 240 = .ok (.iconst 3, 1) := by decide +kernel
theorem dX10_init_241 : decode cX10_init 241 = .ok (.iload_n 1, 1) := by decide +kernel
theorem dX10_init_242 : decode cX10_init 242 = .ok (.imul, 1) := by decide +kernel
theorem dX10_init_243 : decode cX10_init 243 = .ok (.iload_n 2, 1) := by decide +kernel
theorem dX10_init_244 : decode cX10_init 244 = .ok (.iadd, 1) := by decide +kernel
theorem dX10_init_245 : decode cX10_init 245 = .ok (.iconst 2, 1) := by decide +kernel
theorem dX10_init_246 : decode cX10_init 246 = .ok (.iconst 2, 1) := by decide +kernel
theorem dX10_init_247 : decode cX10_init 247 = .ok (.iload_n 1, 1) := by decide +kernel
theorem dX10_init_248 : decode cX10_init 248 = .ok (.isub, 1) := by decide +kernel
theorem dX10_init_249 : decode cX10_init 249 = .ok (.iload_n 2, 1) := by decide +kernel
theorem dX10_init_250 : decode cX10_init 250 = .ok (.iadd, 1) := by decide +kernel
theorem dX10_init_251 : decode cX10_init 251 = .ok (.invokestatic 90, 3) := by decide +kernel
theorem dX10_init_254 : decode cX10_init 254 = .ok (.iastore, 1) := by decide +kernel
theorem dX10_init_255 : decode cX10_init 255 = .ok (.iinc 2 1, 3) := by decide +kernel
theorem dX10_init_258 : decode cX10_init 258 = .ok (.goto (-27), 3) := by decide +kernel
theorem dX10_init_261 : decode cX10_init 261 = .ok (.iinc 1 1, 3) := by decide +kernel
theorem dX10_init_264 : decode cX10_init 264 = .ok (.goto (-47), 3) := by decide +kernel
theorem dX10_init_267 : decode cX10_init 267 = .ok (.return_, 1) := by decide +kernel
def lX10_init_231 (N : Nat) (v0 : Nat) (v1 : Int32) : Nat → Int32 → qM → Option (qM)
  | 0, _, _ => none
  | n + 1, v2, m0 =>
    if (3 : Int32) ≤ v2 then (
    some m0
    ) else (
    (qgR m0 v0 10 12).bind fun x1 =>
    (qwI m0 x1 12 (((3 : Int32) * v1) + v2) (if ((2 : Int32) - v1) + v2 < (2 : Int32) then ((2 : Int32) - v1) + v2 else (2 : Int32))).bind fun m2 =>
    lX10_init_231 N v0 v1 n (v2 + (1 : Int32)) m2
    )
set_option maxRecDepth 100000 in
theorem lbX10_init_231 {E : qE} {N d bc bs : Nat} (hd : 1 ≤ d) {v0 : Nat} {v1 : Int32} : ∀ (n : Nat) (v2 : Int32) (m0 : qM), qB E yX10_init cX10_init 3 none (fun _ => True) d bc bs 231 [(0, .ref (E.2.1 + v0)), (1, .int v1), (2, .int v2)] [] m0 (lX10_init_231 N v0 v1 n v2 m0) (fun o rr => qJ E yX10_init cX10_init 3 none (fun _ => True) d bc bs 261 [(0, .ref (E.2.1 + v0)), (1, .int v1)] [] o rr) := by
  intro n
  induction n with
  | zero =>
    intro v2 m0
    exact j_none
  | succ n ih =>
    intro v2 m0
    unfold lX10_init_231
    refine j_iload_n (q := 2) (np := 232) rfl rfl dX10_init_231 rfl ?_
    refine j_iconst (np := 233) ci_3 dX10_init_232 rfl ?_
    refine j_icmp_ge (tgt := 261) (np := 236) dX10_init_233 rfl rfl ?_ ?_
    · refine j_sub (lv2 := [(0, .ref (E.2.1 + v0)), (1, .int v1)]) [0, 1] rfl ?_
      exact j_exit (fun rr h => h)
    · refine j_aload_n (q := 0) (np := 237) rfl rfl dX10_init_236 rfl ?_
      refine j_gR (np := 240) flX10_31 dX10_init_237 rfl (fun x1 => ?_)
      refine j_iconst (np := 241) ci_3 dX10_init_240 rfl ?_
      refine j_iload_n (q := 1) (np := 242) rfl rfl dX10_init_241 rfl ?_
      refine j_imul (np := 243) dX10_init_242 rfl ?_
      refine j_iload_n (q := 2) (np := 244) rfl rfl dX10_init_243 rfl ?_
      refine j_iadd (np := 245) dX10_init_244 rfl ?_
      refine j_iconst (np := 246) ci_2 dX10_init_245 rfl ?_
      refine j_iconst (np := 247) ci_2 dX10_init_246 rfl ?_
      refine j_iload_n (q := 1) (np := 248) rfl rfl dX10_init_247 rfl ?_
      refine j_isub (np := 249) dX10_init_248 rfl ?_
      refine j_iload_n (q := 2) (np := 250) rfl rfl dX10_init_249 rfl ?_
      refine j_iadd (np := 251) dX10_init_250 rfl ?_
      refine j_min (np := 254) mlX10_90 stmin inMath cdmin (by omega) (Nat.le_of_ble_eq_true rfl) dX10_init_251 rfl ?_
      refine j_iastore (np := 255) dX10_init_254 rfl (fun m2 => ?_)
      refine j_iinc (q := 2) (np := 258) (lv2 := [(2, .int (v2 + (1 : Int32))), (0, .ref (E.2.1 + v0)), (1, .int v1)]) rfl (congrArg _ ci_1) (by decide) dX10_init_255 rfl rfl ?_
      refine j_goto (tgt := 231) dX10_init_258 rfl ?_
      refine j_sub (lv2 := [(0, .ref (E.2.1 + v0)), (1, .int v1), (2, .int (v2 + (1 : Int32)))]) [1, 2, 0] rfl ?_
      exact ih _ _
def lX10_init_217 (N : Nat) (v0 : Nat) : Nat → Int32 → qM → Option (qM)
  | 0, _, _ => none
  | n + 1, v1, m0 =>
    if (3 : Int32) ≤ v1 then (
    some m0
    ) else (
    (qgR m0 v0 10 15).bind fun x1 =>
    (qwI m0 x1 12 v1 (-1 : Int32)).bind fun m2 =>
    (lX10_init_231 N v0 v1 N (0 : Int32) m2).bind fun o3 =>
    lX10_init_217 N v0 n (v1 + (1 : Int32)) o3
    )
set_option maxRecDepth 100000 in
theorem lbX10_init_217 {E : qE} {N d bc bs : Nat} (hd : 1 ≤ d) {v0 : Nat} : ∀ (n : Nat) (v1 : Int32) (m0 : qM), qB E yX10_init cX10_init 3 none (fun _ => True) d bc bs 217 [(0, .ref (E.2.1 + v0)), (1, .int v1)] [] m0 (lX10_init_217 N v0 n v1 m0) (fun o rr => qJ E yX10_init cX10_init 3 none (fun _ => True) d bc bs 267 [] [] o rr) := by
  intro n
  induction n with
  | zero =>
    intro v1 m0
    exact j_none
  | succ n ih =>
    intro v1 m0
    unfold lX10_init_217
    refine j_iload_n (q := 1) (np := 218) rfl rfl dX10_init_217 rfl ?_
    refine j_iconst (np := 219) ci_3 dX10_init_218 rfl ?_
    refine j_icmp_ge (tgt := 267) (np := 222) dX10_init_219 rfl rfl ?_ ?_
    · refine j_sub (lv2 := []) [] rfl ?_
      exact j_exit (fun rr h => h)
    · refine j_aload_n (q := 0) (np := 223) rfl rfl dX10_init_222 rfl ?_
      refine j_gR (np := 226) flX10_41 dX10_init_223 rfl (fun x1 => ?_)
      refine j_iload_n (q := 1) (np := 227) rfl rfl dX10_init_226 rfl ?_
      refine j_iconst (np := 228) ci_m1 dX10_init_227 rfl ?_
      refine j_iastore (np := 229) dX10_init_228 rfl (fun m2 => ?_)
      refine j_iconst (np := 230) ci_0 dX10_init_229 rfl ?_
      refine j_istore_n (np := 231) (lv2 := [(2, .int (0 : Int32)), (0, .ref (E.2.1 + v0)), (1, .int v1)]) rfl (by decide) dX10_init_230 rfl rfl ?_
      refine j_sub (lv2 := [(0, .ref (E.2.1 + v0)), (1, .int v1), (2, .int (0 : Int32))]) [1, 2, 0] rfl ?_
      refine j_loop (xp := 261) (lvX := fun o3 => [(0, .ref (E.2.1 + v0)), (1, .int v1)]) (mX := fun o3 => o3) (lbX10_init_231 hd _ _ _) (fun o3 => ?_)
      refine j_iinc (q := 1) (np := 264) (lv2 := [(1, .int (v1 + (1 : Int32))), (0, .ref (E.2.1 + v0))]) rfl (congrArg _ ci_1) (by decide) dX10_init_261 rfl rfl ?_
      refine j_goto (tgt := 217) dX10_init_264 rfl ?_
      refine j_sub (lv2 := [(0, .ref (E.2.1 + v0)), (1, .int (v1 + (1 : Int32)))]) [1, 0] rfl ?_
      exact ih _ _
def fX10_init (N : Nat) (v0 : Nat) (m0 : qM) : Option (qM) :=
  if ¬ (7059 : Int32) < 0 ∧ (7059 : Int32).toNatClampNeg ≤ 7059 then qNew m0 12 (7059 : Int32).toNatClampNeg (fun a1 m2 =>
  (qpR m2 v0 10 0 a1).bind fun m3 =>
  if ¬ (181 : Int32) < 0 ∧ (181 : Int32).toNatClampNeg ≤ 181 then qNew m3 12 (181 : Int32).toNatClampNeg (fun a4 m5 =>
  (qpR m5 v0 10 1 a4).bind fun m6 =>
  if ¬ (60 : Int32) < 0 ∧ (60 : Int32).toNatClampNeg ≤ 60 then qNew m6 12 (60 : Int32).toNatClampNeg (fun a7 m8 =>
  (qpR m8 v0 10 2 a7).bind fun m9 =>
  if ¬ (60 : Int32) < 0 ∧ (60 : Int32).toNatClampNeg ≤ 60 then qNew m9 12 (60 : Int32).toNatClampNeg (fun a10 m11 =>
  (qpR m11 v0 10 3 a10).bind fun m12 =>
  if ¬ (121 : Int32) < 0 ∧ (121 : Int32).toNatClampNeg ≤ 121 then qNew m12 12 (121 : Int32).toNatClampNeg (fun a13 m14 =>
  (qpR m14 v0 10 4 a13).bind fun m15 =>
  if ¬ (80 : Int32) < 0 ∧ (80 : Int32).toNatClampNeg ≤ 80 then qNew m15 12 (80 : Int32).toNatClampNeg (fun a16 m17 =>
  (qpR m17 v0 10 6 a16).bind fun m18 =>
  if ¬ (400 : Int32) < 0 ∧ (400 : Int32).toNatClampNeg ≤ 400 then qNew m18 12 (400 : Int32).toNatClampNeg (fun a19 m20 =>
  (qpR m20 v0 10 10 a19).bind fun m21 =>
  if ¬ (9 : Int32) < 0 ∧ (9 : Int32).toNatClampNeg ≤ 9 then qNew m21 12 (9 : Int32).toNatClampNeg (fun a22 m23 =>
  (qpR m23 v0 10 12 a22).bind fun m24 =>
  (qpI m24 v0 10 13 (4 : Int32)).bind fun m25 =>
  if ¬ (8 : Int32) < 0 ∧ (8 : Int32).toNatClampNeg ≤ 8 then qNew m25 12 (8 : Int32).toNatClampNeg (fun a26 m27 =>
  (qpR m27 v0 10 14 a26).bind fun m28 =>
  if ¬ (3 : Int32) < 0 ∧ (3 : Int32).toNatClampNeg ≤ 3 then qNew m28 12 (3 : Int32).toNatClampNeg (fun a29 m30 =>
  (qpR m30 v0 10 15 a29).bind fun m31 =>
  if ¬ (3 : Int32) < 0 ∧ (3 : Int32).toNatClampNeg ≤ 3 then qNew m31 12 (3 : Int32).toNatClampNeg (fun a32 m33 =>
  (qpR m33 v0 10 16 a32).bind fun m34 =>
  if ¬ (240 : Int32) < 0 ∧ (240 : Int32).toNatClampNeg ≤ 240 then qNew m34 12 (240 : Int32).toNatClampNeg (fun a35 m36 =>
  (qpR m36 v0 10 17 a35).bind fun m37 =>
  if ¬ (78 : Int32) < 0 ∧ (78 : Int32).toNatClampNeg ≤ 78 then qNew m37 12 (78 : Int32).toNatClampNeg (fun a38 m39 =>
  (qpR m39 v0 10 18 a38).bind fun m40 =>
  if ¬ (78 : Int32) < 0 ∧ (78 : Int32).toNatClampNeg ≤ 78 then qNew m40 12 (78 : Int32).toNatClampNeg (fun a41 m42 =>
  (qpR m42 v0 10 19 a41).bind fun m43 =>
  if ¬ (78 : Int32) < 0 ∧ (78 : Int32).toNatClampNeg ≤ 78 then qNew m43 12 (78 : Int32).toNatClampNeg (fun a44 m45 =>
  (qpR m45 v0 10 20 a44).bind fun m46 =>
  if ¬ (78 : Int32) < 0 ∧ (78 : Int32).toNatClampNeg ≤ 78 then qNew m46 14 (78 : Int32).toNatClampNeg (fun a47 m48 =>
  (qpR m48 v0 10 22 a47).bind fun m49 =>
  if ¬ (78 : Int32) < 0 ∧ (78 : Int32).toNatClampNeg ≤ 78 then qNew m49 12 (78 : Int32).toNatClampNeg (fun a50 m51 =>
  (qpR m51 v0 10 23 a50).bind fun m52 =>
  if ¬ (80 : Int32) < 0 ∧ (80 : Int32).toNatClampNeg ≤ 80 then qNew m52 12 (80 : Int32).toNatClampNeg (fun a53 m54 =>
  (qpR m54 v0 10 26 a53).bind fun m55 =>
  if ¬ (26 : Int32) < 0 ∧ (26 : Int32).toNatClampNeg ≤ 26 then qNew m55 12 (26 : Int32).toNatClampNeg (fun a56 m57 =>
  (qpR m57 v0 10 28 a56).bind fun m58 =>
  if ¬ (7000 : Int32) < 0 ∧ (7000 : Int32).toNatClampNeg ≤ 7000 then qNew m58 12 (7000 : Int32).toNatClampNeg (fun a59 m60 =>
  (qpR m60 v0 10 29 a59).bind fun m61 =>
  if ¬ (7000 : Int32) < 0 ∧ (7000 : Int32).toNatClampNeg ≤ 7000 then qNew m61 12 (7000 : Int32).toNatClampNeg (fun a62 m63 =>
  (qpR m63 v0 10 30 a62).bind fun m64 =>
  if ¬ (7000 : Int32) < 0 ∧ (7000 : Int32).toNatClampNeg ≤ 7000 then qNew m64 12 (7000 : Int32).toNatClampNeg (fun a65 m66 =>
  (qpR m66 v0 10 31 a65).bind fun m67 =>
  if ¬ (3900 : Int32) < 0 ∧ (3900 : Int32).toNatClampNeg ≤ 3900 then qNew m67 12 (3900 : Int32).toNatClampNeg (fun a68 m69 =>
  (qpR m69 v0 10 33 a68).bind fun m70 =>
  if ¬ (100 : Int32) < 0 ∧ (100 : Int32).toNatClampNeg ≤ 100 then qNew m70 12 (100 : Int32).toNatClampNeg (fun a71 m72 =>
  (qpR m72 v0 10 34 a71).bind fun m73 =>
  if ¬ (78 : Int32) < 0 ∧ (78 : Int32).toNatClampNeg ≤ 78 then qNew m73 12 (78 : Int32).toNatClampNeg (fun a74 m75 =>
  (qpR m75 v0 10 37 a74).bind fun m76 =>
  (lX10_init_217 N v0 N (0 : Int32) m76).bind fun o77 =>
  some o77
  ) else none
  ) else none
  ) else none
  ) else none
  ) else none
  ) else none
  ) else none
  ) else none
  ) else none
  ) else none
  ) else none
  ) else none
  ) else none
  ) else none
  ) else none
  ) else none
  ) else none
  ) else none
  ) else none
  ) else none
  ) else none
  ) else none
  ) else none
  ) else none
  ) else none
set_option maxRecDepth 100000 in
theorem bX10_init {E : qE} {N d bc bs : Nat} (hd : 1 ≤ d) {v0 : Nat} {m0 : qM} : qB E yX10_init cX10_init 3 none (fun _ => True) d (bc + 25) (bs + 33798) 0 [(0, .ref (E.2.1 + v0))] [] m0 (fX10_init N v0 m0) (fun b rr => rr = (none, b)) := by
  unfold fX10_init
  refine j_aload_n (q := 0) (np := 1) rfl rfl dX10_init_0 rfl ?_
  refine j_objInit (np := 4) mlX10_1 imObj cdObj (by omega) (Nat.le_of_ble_eq_true rfl) dX10_init_1 rfl ?_
  refine j_aload_n (q := 0) (np := 5) rfl rfl dX10_init_4 rfl ?_
  refine j_sipush (np := 8) cs_7059 dX10_init_5 rfl ?_
  refine j_bud (b1 := (bc + 24) + 1) (b2 := (bs + 26739) + 7059) (by omega) (by omega) ?_
  refine j_newarr (bc := (bc + 24)) (bs := (bs + 26739)) (c0 := 12) (t := 1) (n0 := 7059) (np := 10) (atype := .int) (ty := .int) (Or.inr (Or.inl rfl)) rfl rfl (by decide) (by decide) (fun _ => rfl) (fun _ _ => rfl) ac_int dX10_init_8 rfl (fun a1 m2 => ?_)
  refine j_pR (np := 13) flX10_9 (fun _ => rfl) dX10_init_10 rfl (fun m3 => ?_)
  refine j_aload_n (q := 0) (np := 14) rfl rfl dX10_init_13 rfl ?_
  refine j_sipush (np := 17) cs_181 dX10_init_14 rfl ?_
  refine j_bud (b1 := (bc + 23) + 1) (b2 := (bs + 26558) + 181) (by omega) (by omega) ?_
  refine j_newarr (bc := (bc + 23)) (bs := (bs + 26558)) (c0 := 12) (t := 1) (n0 := 181) (np := 19) (atype := .int) (ty := .int) (Or.inr (Or.inl rfl)) rfl rfl (by decide) (by decide) (fun _ => rfl) (fun _ _ => rfl) ac_int dX10_init_17 rfl (fun a4 m5 => ?_)
  refine j_pR (np := 22) flX10_13 (fun _ => rfl) dX10_init_19 rfl (fun m6 => ?_)
  refine j_aload_n (q := 0) (np := 23) rfl rfl dX10_init_22 rfl ?_
  refine j_bipush (np := 25) cb_60 dX10_init_23 rfl ?_
  refine j_bud (b1 := (bc + 22) + 1) (b2 := (bs + 26498) + 60) (by omega) (by omega) ?_
  refine j_newarr (bc := (bc + 22)) (bs := (bs + 26498)) (c0 := 12) (t := 1) (n0 := 60) (np := 27) (atype := .int) (ty := .int) (Or.inr (Or.inl rfl)) rfl rfl (by decide) (by decide) (fun _ => rfl) (fun _ _ => rfl) ac_int dX10_init_25 rfl (fun a7 m8 => ?_)
  refine j_pR (np := 30) flX10_16 (fun _ => rfl) dX10_init_27 rfl (fun m9 => ?_)
  refine j_aload_n (q := 0) (np := 31) rfl rfl dX10_init_30 rfl ?_
  refine j_bipush (np := 33) cb_60 dX10_init_31 rfl ?_
  refine j_bud (b1 := (bc + 21) + 1) (b2 := (bs + 26438) + 60) (by omega) (by omega) ?_
  refine j_newarr (bc := (bc + 21)) (bs := (bs + 26438)) (c0 := 12) (t := 1) (n0 := 60) (np := 35) (atype := .int) (ty := .int) (Or.inr (Or.inl rfl)) rfl rfl (by decide) (by decide) (fun _ => rfl) (fun _ _ => rfl) ac_int dX10_init_33 rfl (fun a10 m11 => ?_)
  refine j_pR (np := 38) flX10_19 (fun _ => rfl) dX10_init_35 rfl (fun m12 => ?_)
  refine j_aload_n (q := 0) (np := 39) rfl rfl dX10_init_38 rfl ?_
  refine j_bipush (np := 41) cb_121 dX10_init_39 rfl ?_
  refine j_bud (b1 := (bc + 20) + 1) (b2 := (bs + 26317) + 121) (by omega) (by omega) ?_
  refine j_newarr (bc := (bc + 20)) (bs := (bs + 26317)) (c0 := 12) (t := 1) (n0 := 121) (np := 43) (atype := .int) (ty := .int) (Or.inr (Or.inl rfl)) rfl rfl (by decide) (by decide) (fun _ => rfl) (fun _ _ => rfl) ac_int dX10_init_41 rfl (fun a13 m14 => ?_)
  refine j_pR (np := 46) flX10_22 (fun _ => rfl) dX10_init_43 rfl (fun m15 => ?_)
  refine j_aload_n (q := 0) (np := 47) rfl rfl dX10_init_46 rfl ?_
  refine j_bipush (np := 49) cb_80 dX10_init_47 rfl ?_
  refine j_bud (b1 := (bc + 19) + 1) (b2 := (bs + 26237) + 80) (by omega) (by omega) ?_
  refine j_newarr (bc := (bc + 19)) (bs := (bs + 26237)) (c0 := 12) (t := 1) (n0 := 80) (np := 51) (atype := .int) (ty := .int) (Or.inr (Or.inl rfl)) rfl rfl (by decide) (by decide) (fun _ => rfl) (fun _ _ => rfl) ac_int dX10_init_49 rfl (fun a16 m17 => ?_)
  refine j_pR (np := 54) flX10_25 (fun _ => rfl) dX10_init_51 rfl (fun m18 => ?_)
  refine j_aload_n (q := 0) (np := 55) rfl rfl dX10_init_54 rfl ?_
  refine j_sipush (np := 58) cs_400 dX10_init_55 rfl ?_
  refine j_bud (b1 := (bc + 18) + 1) (b2 := (bs + 25837) + 400) (by omega) (by omega) ?_
  refine j_newarr (bc := (bc + 18)) (bs := (bs + 25837)) (c0 := 12) (t := 1) (n0 := 400) (np := 60) (atype := .int) (ty := .int) (Or.inr (Or.inl rfl)) rfl rfl (by decide) (by decide) (fun _ => rfl) (fun _ _ => rfl) ac_int dX10_init_58 rfl (fun a19 m20 => ?_)
  refine j_pR (np := 63) flX10_28 (fun _ => rfl) dX10_init_60 rfl (fun m21 => ?_)
  refine j_aload_n (q := 0) (np := 64) rfl rfl dX10_init_63 rfl ?_
  refine j_bipush (np := 66) cb_9 dX10_init_64 rfl ?_
  refine j_bud (b1 := (bc + 17) + 1) (b2 := (bs + 25828) + 9) (by omega) (by omega) ?_
  refine j_newarr (bc := (bc + 17)) (bs := (bs + 25828)) (c0 := 12) (t := 1) (n0 := 9) (np := 68) (atype := .int) (ty := .int) (Or.inr (Or.inl rfl)) rfl rfl (by decide) (by decide) (fun _ => rfl) (fun _ _ => rfl) ac_int dX10_init_66 rfl (fun a22 m23 => ?_)
  refine j_pR (np := 71) flX10_31 (fun _ => rfl) dX10_init_68 rfl (fun m24 => ?_)
  refine j_aload_n (q := 0) (np := 72) rfl rfl dX10_init_71 rfl ?_
  refine j_iconst (np := 73) ci_4 dX10_init_72 rfl ?_
  refine j_pI (np := 76) flX10_34 dX10_init_73 rfl (fun m25 => ?_)
  refine j_aload_n (q := 0) (np := 77) rfl rfl dX10_init_76 rfl ?_
  refine j_bipush (np := 79) cb_8 dX10_init_77 rfl ?_
  refine j_bud (b1 := (bc + 16) + 1) (b2 := (bs + 25820) + 8) (by omega) (by omega) ?_
  refine j_newarr (bc := (bc + 16)) (bs := (bs + 25820)) (c0 := 12) (t := 1) (n0 := 8) (np := 81) (atype := .int) (ty := .int) (Or.inr (Or.inl rfl)) rfl rfl (by decide) (by decide) (fun _ => rfl) (fun _ _ => rfl) ac_int dX10_init_79 rfl (fun a26 m27 => ?_)
  refine j_pR (np := 84) flX10_38 (fun _ => rfl) dX10_init_81 rfl (fun m28 => ?_)
  refine j_aload_n (q := 0) (np := 85) rfl rfl dX10_init_84 rfl ?_
  refine j_iconst (np := 86) ci_3 dX10_init_85 rfl ?_
  refine j_bud (b1 := (bc + 15) + 1) (b2 := (bs + 25817) + 3) (by omega) (by omega) ?_
  refine j_newarr (bc := (bc + 15)) (bs := (bs + 25817)) (c0 := 12) (t := 1) (n0 := 3) (np := 88) (atype := .int) (ty := .int) (Or.inr (Or.inl rfl)) rfl rfl (by decide) (by decide) (fun _ => rfl) (fun _ _ => rfl) ac_int dX10_init_86 rfl (fun a29 m30 => ?_)
  refine j_pR (np := 91) flX10_41 (fun _ => rfl) dX10_init_88 rfl (fun m31 => ?_)
  refine j_aload_n (q := 0) (np := 92) rfl rfl dX10_init_91 rfl ?_
  refine j_iconst (np := 93) ci_3 dX10_init_92 rfl ?_
  refine j_bud (b1 := (bc + 14) + 1) (b2 := (bs + 25814) + 3) (by omega) (by omega) ?_
  refine j_newarr (bc := (bc + 14)) (bs := (bs + 25814)) (c0 := 12) (t := 1) (n0 := 3) (np := 95) (atype := .int) (ty := .int) (Or.inr (Or.inl rfl)) rfl rfl (by decide) (by decide) (fun _ => rfl) (fun _ _ => rfl) ac_int dX10_init_93 rfl (fun a32 m33 => ?_)
  refine j_pR (np := 98) flX10_44 (fun _ => rfl) dX10_init_95 rfl (fun m34 => ?_)
  refine j_aload_n (q := 0) (np := 99) rfl rfl dX10_init_98 rfl ?_
  refine j_sipush (np := 102) cs_240 dX10_init_99 rfl ?_
  refine j_bud (b1 := (bc + 13) + 1) (b2 := (bs + 25574) + 240) (by omega) (by omega) ?_
  refine j_newarr (bc := (bc + 13)) (bs := (bs + 25574)) (c0 := 12) (t := 1) (n0 := 240) (np := 104) (atype := .int) (ty := .int) (Or.inr (Or.inl rfl)) rfl rfl (by decide) (by decide) (fun _ => rfl) (fun _ _ => rfl) ac_int dX10_init_102 rfl (fun a35 m36 => ?_)
  refine j_pR (np := 107) flX10_47 (fun _ => rfl) dX10_init_104 rfl (fun m37 => ?_)
  refine j_aload_n (q := 0) (np := 108) rfl rfl dX10_init_107 rfl ?_
  refine j_bipush (np := 110) cb_78 dX10_init_108 rfl ?_
  refine j_bud (b1 := (bc + 12) + 1) (b2 := (bs + 25496) + 78) (by omega) (by omega) ?_
  refine j_newarr (bc := (bc + 12)) (bs := (bs + 25496)) (c0 := 12) (t := 1) (n0 := 78) (np := 112) (atype := .int) (ty := .int) (Or.inr (Or.inl rfl)) rfl rfl (by decide) (by decide) (fun _ => rfl) (fun _ _ => rfl) ac_int dX10_init_110 rfl (fun a38 m39 => ?_)
  refine j_pR (np := 115) flX10_50 (fun _ => rfl) dX10_init_112 rfl (fun m40 => ?_)
  refine j_aload_n (q := 0) (np := 116) rfl rfl dX10_init_115 rfl ?_
  refine j_bipush (np := 118) cb_78 dX10_init_116 rfl ?_
  refine j_bud (b1 := (bc + 11) + 1) (b2 := (bs + 25418) + 78) (by omega) (by omega) ?_
  refine j_newarr (bc := (bc + 11)) (bs := (bs + 25418)) (c0 := 12) (t := 1) (n0 := 78) (np := 120) (atype := .int) (ty := .int) (Or.inr (Or.inl rfl)) rfl rfl (by decide) (by decide) (fun _ => rfl) (fun _ _ => rfl) ac_int dX10_init_118 rfl (fun a41 m42 => ?_)
  refine j_pR (np := 123) flX10_53 (fun _ => rfl) dX10_init_120 rfl (fun m43 => ?_)
  refine j_aload_n (q := 0) (np := 124) rfl rfl dX10_init_123 rfl ?_
  refine j_bipush (np := 126) cb_78 dX10_init_124 rfl ?_
  refine j_bud (b1 := (bc + 10) + 1) (b2 := (bs + 25340) + 78) (by omega) (by omega) ?_
  refine j_newarr (bc := (bc + 10)) (bs := (bs + 25340)) (c0 := 12) (t := 1) (n0 := 78) (np := 128) (atype := .int) (ty := .int) (Or.inr (Or.inl rfl)) rfl rfl (by decide) (by decide) (fun _ => rfl) (fun _ _ => rfl) ac_int dX10_init_126 rfl (fun a44 m45 => ?_)
  refine j_pR (np := 131) flX10_56 (fun _ => rfl) dX10_init_128 rfl (fun m46 => ?_)
  refine j_aload_n (q := 0) (np := 132) rfl rfl dX10_init_131 rfl ?_
  refine j_bipush (np := 134) cb_78 dX10_init_132 rfl ?_
  refine j_bud (b1 := (bc + 9) + 1) (b2 := (bs + 25262) + 78) (by omega) (by omega) ?_
  refine j_newarr (bc := (bc + 9)) (bs := (bs + 25262)) (c0 := 14) (t := 3) (n0 := 78) (np := 136) (atype := .boolean) (ty := .boolean) (Or.inr (Or.inr rfl)) rfl rfl (by decide) (by decide) (fun _ => rfl) (fun _ _ => rfl) ac_boolean dX10_init_134 rfl (fun a47 m48 => ?_)
  refine j_pR (np := 139) flX10_59 (fun _ => rfl) dX10_init_136 rfl (fun m49 => ?_)
  refine j_aload_n (q := 0) (np := 140) rfl rfl dX10_init_139 rfl ?_
  refine j_bipush (np := 142) cb_78 dX10_init_140 rfl ?_
  refine j_bud (b1 := (bc + 8) + 1) (b2 := (bs + 25184) + 78) (by omega) (by omega) ?_
  refine j_newarr (bc := (bc + 8)) (bs := (bs + 25184)) (c0 := 12) (t := 1) (n0 := 78) (np := 144) (atype := .int) (ty := .int) (Or.inr (Or.inl rfl)) rfl rfl (by decide) (by decide) (fun _ => rfl) (fun _ _ => rfl) ac_int dX10_init_142 rfl (fun a50 m51 => ?_)
  refine j_pR (np := 147) flX10_63 (fun _ => rfl) dX10_init_144 rfl (fun m52 => ?_)
  refine j_aload_n (q := 0) (np := 148) rfl rfl dX10_init_147 rfl ?_
  refine j_bipush (np := 150) cb_80 dX10_init_148 rfl ?_
  refine j_bud (b1 := (bc + 7) + 1) (b2 := (bs + 25104) + 80) (by omega) (by omega) ?_
  refine j_newarr (bc := (bc + 7)) (bs := (bs + 25104)) (c0 := 12) (t := 1) (n0 := 80) (np := 152) (atype := .int) (ty := .int) (Or.inr (Or.inl rfl)) rfl rfl (by decide) (by decide) (fun _ => rfl) (fun _ _ => rfl) ac_int dX10_init_150 rfl (fun a53 m54 => ?_)
  refine j_pR (np := 155) flX10_66 (fun _ => rfl) dX10_init_152 rfl (fun m55 => ?_)
  refine j_aload_n (q := 0) (np := 156) rfl rfl dX10_init_155 rfl ?_
  refine j_bipush (np := 158) cb_26 dX10_init_156 rfl ?_
  refine j_bud (b1 := (bc + 6) + 1) (b2 := (bs + 25078) + 26) (by omega) (by omega) ?_
  refine j_newarr (bc := (bc + 6)) (bs := (bs + 25078)) (c0 := 12) (t := 1) (n0 := 26) (np := 160) (atype := .int) (ty := .int) (Or.inr (Or.inl rfl)) rfl rfl (by decide) (by decide) (fun _ => rfl) (fun _ _ => rfl) ac_int dX10_init_158 rfl (fun a56 m57 => ?_)
  refine j_pR (np := 163) flX10_69 (fun _ => rfl) dX10_init_160 rfl (fun m58 => ?_)
  refine j_aload_n (q := 0) (np := 164) rfl rfl dX10_init_163 rfl ?_
  refine j_sipush (np := 167) cs_7000 dX10_init_164 rfl ?_
  refine j_bud (b1 := (bc + 5) + 1) (b2 := (bs + 18078) + 7000) (by omega) (by omega) ?_
  refine j_newarr (bc := (bc + 5)) (bs := (bs + 18078)) (c0 := 12) (t := 1) (n0 := 7000) (np := 169) (atype := .int) (ty := .int) (Or.inr (Or.inl rfl)) rfl rfl (by decide) (by decide) (fun _ => rfl) (fun _ _ => rfl) ac_int dX10_init_167 rfl (fun a59 m60 => ?_)
  refine j_pR (np := 172) flX10_72 (fun _ => rfl) dX10_init_169 rfl (fun m61 => ?_)
  refine j_aload_n (q := 0) (np := 173) rfl rfl dX10_init_172 rfl ?_
  refine j_sipush (np := 176) cs_7000 dX10_init_173 rfl ?_
  refine j_bud (b1 := (bc + 4) + 1) (b2 := (bs + 11078) + 7000) (by omega) (by omega) ?_
  refine j_newarr (bc := (bc + 4)) (bs := (bs + 11078)) (c0 := 12) (t := 1) (n0 := 7000) (np := 178) (atype := .int) (ty := .int) (Or.inr (Or.inl rfl)) rfl rfl (by decide) (by decide) (fun _ => rfl) (fun _ _ => rfl) ac_int dX10_init_176 rfl (fun a62 m63 => ?_)
  refine j_pR (np := 181) flX10_75 (fun _ => rfl) dX10_init_178 rfl (fun m64 => ?_)
  refine j_aload_n (q := 0) (np := 182) rfl rfl dX10_init_181 rfl ?_
  refine j_sipush (np := 185) cs_7000 dX10_init_182 rfl ?_
  refine j_bud (b1 := (bc + 3) + 1) (b2 := (bs + 4078) + 7000) (by omega) (by omega) ?_
  refine j_newarr (bc := (bc + 3)) (bs := (bs + 4078)) (c0 := 12) (t := 1) (n0 := 7000) (np := 187) (atype := .int) (ty := .int) (Or.inr (Or.inl rfl)) rfl rfl (by decide) (by decide) (fun _ => rfl) (fun _ _ => rfl) ac_int dX10_init_185 rfl (fun a65 m66 => ?_)
  refine j_pR (np := 190) flX10_78 (fun _ => rfl) dX10_init_187 rfl (fun m67 => ?_)
  refine j_aload_n (q := 0) (np := 191) rfl rfl dX10_init_190 rfl ?_
  refine j_sipush (np := 194) cs_3900 dX10_init_191 rfl ?_
  refine j_bud (b1 := (bc + 2) + 1) (b2 := (bs + 178) + 3900) (by omega) (by omega) ?_
  refine j_newarr (bc := (bc + 2)) (bs := (bs + 178)) (c0 := 12) (t := 1) (n0 := 3900) (np := 196) (atype := .int) (ty := .int) (Or.inr (Or.inl rfl)) rfl rfl (by decide) (by decide) (fun _ => rfl) (fun _ _ => rfl) ac_int dX10_init_194 rfl (fun a68 m69 => ?_)
  refine j_pR (np := 199) flX10_81 (fun _ => rfl) dX10_init_196 rfl (fun m70 => ?_)
  refine j_aload_n (q := 0) (np := 200) rfl rfl dX10_init_199 rfl ?_
  refine j_bipush (np := 202) cb_100 dX10_init_200 rfl ?_
  refine j_bud (b1 := (bc + 1) + 1) (b2 := (bs + 78) + 100) (by omega) (by omega) ?_
  refine j_newarr (bc := (bc + 1)) (bs := (bs + 78)) (c0 := 12) (t := 1) (n0 := 100) (np := 204) (atype := .int) (ty := .int) (Or.inr (Or.inl rfl)) rfl rfl (by decide) (by decide) (fun _ => rfl) (fun _ _ => rfl) ac_int dX10_init_202 rfl (fun a71 m72 => ?_)
  refine j_pR (np := 207) flX10_84 (fun _ => rfl) dX10_init_204 rfl (fun m73 => ?_)
  refine j_aload_n (q := 0) (np := 208) rfl rfl dX10_init_207 rfl ?_
  refine j_bipush (np := 210) cb_78 dX10_init_208 rfl ?_
  refine j_bud (b1 := bc + 1) (b2 := bs + 78) (by omega) (by omega) ?_
  refine j_newarr (bc := bc) (bs := bs) (c0 := 12) (t := 1) (n0 := 78) (np := 212) (atype := .int) (ty := .int) (Or.inr (Or.inl rfl)) rfl rfl (by decide) (by decide) (fun _ => rfl) (fun _ _ => rfl) ac_int dX10_init_210 rfl (fun a74 m75 => ?_)
  refine j_pR (np := 215) flX10_87 (fun _ => rfl) dX10_init_212 rfl (fun m76 => ?_)
  refine j_iconst (np := 216) ci_0 dX10_init_215 rfl ?_
  refine j_istore_n (np := 217) (lv2 := [(1, .int (0 : Int32)), (0, .ref (E.2.1 + v0))]) rfl (by decide) dX10_init_216 rfl rfl ?_
  refine j_sub (lv2 := [(0, .ref (E.2.1 + v0)), (1, .int (0 : Int32))]) [1, 0] rfl ?_
  refine j_loop (xp := 267) (lvX := fun o77 => []) (mX := fun o77 => o77) (lbX10_init_217 hd _ _ _) (fun o77 => ?_)
  exact j_vret rfl dX10_init_267 (fun rr h => h)
set_option maxRecDepth 100000 in
theorem wX10_init {E : qE} {N d : Nat} (hd : 1 ≤ d) {v0 : Nat} {m0 : qM} {b : qM} (h : fX10_init N v0 m0 = some b) : qRun E yX10_init cX10_init 3 none d 25 33798 [.ref (E.2.1 + v0)] m0 (none, b) := q_met pnX10 (Nat.le_of_ble_eq_true rfl) ((j_bud (by omega) (by omega) (bX10_init (bc := 0) (bs := 0) hd)) b _ h rfl)
