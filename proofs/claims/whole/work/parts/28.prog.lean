theorem dX10_needs_0 : decode cX10_needs 0 = .ok (.iload_n 0, 1) := by decide +kernel
theorem dX10_needs_1 : decode cX10_needs 1 = .ok (.iconst 2, 1) := by decide +kernel
theorem dX10_needs_2 : decode cX10_needs 2 = .ok (.if_icmp .ne 7, 3) := by decide +kernel
theorem dX10_needs_5 : decode cX10_needs 5 = .ok (.iconst 1, 1) := by decide +kernel
theorem dX10_needs_6 : decode cX10_needs 6 = .ok (.goto 18, 3) := by decide +kernel
theorem dX10_needs_9 : decode cX10_needs 9 = .ok (.iload_n 0, 1) := by decide +kernel
theorem dX10_needs_10 : decode cX10_needs 10 = .ok (.iconst 1, 1) := by decide +kernel
theorem dX10_needs_11 : decode cX10_needs 11 = .ok (.if_icmp .eq 8, 3) := by decide +kernel
theorem dX10_needs_14 : decode cX10_needs 14 = .ok (.iload_n 0, 1) := by decide +kernel
theorem dX10_needs_15 : decode cX10_needs 15 = .ok (.iconst 5, 1) := by decide +kernel
theorem dX10_needs_16 : decode cX10_needs 16 = .ok (.if_icmp .ne 7, 3) := by decide +kernel
theorem dX10_needs_19 : decode cX10_needs 19 = .ok (.iconst 2, 1) := by decide +kernel
theorem dX10_needs_20 : decode cX10_needs 20 = .ok (.goto 4, 3) := by decide +kernel
theorem dX10_needs_23 : decode cX10_needs 23 = .ok (.iconst 3, 1) := by decide +kernel
theorem dX10_needs_24 : decode cX10_needs 24 = .ok (.ireturn, 1) := by decide +kernel
def fX10_needs (N : Nat) (v0 : Int32) (m0 : qM) : Option (Int32 × qM) :=
  if v0 = (2 : Int32) then (
  some ((1 : Int32), m0)
  ) else (
  if v0 = (1 : Int32) then (
  some ((2 : Int32), m0)
  ) else (
  if v0 = (5 : Int32) then (
  some ((2 : Int32), m0)
  ) else (
  some ((3 : Int32), m0)
  )
  )
  )
set_option maxRecDepth 100000 in
theorem bX10_needs {E : qE} {N d bc bs : Nat} (hd : 0 ≤ d) {v0 : Int32} {m0 : qM} : qB E yX10_needs cX10_needs 1 (some .int) (fun _ => True) d bc bs 0 [(0, .int v0)] [] m0 (fX10_needs N v0 m0) (fun b rr => rr = (some (.int b.1), b.2)) := by
  unfold fX10_needs
  refine j_iload_n (q := 0) (np := 1) rfl rfl dX10_needs_0 rfl ?_
  refine j_iconst (np := 2) ci_2 dX10_needs_1 rfl ?_
  refine j_icmp_ne (tgt := 9) (np := 5) dX10_needs_2 rfl rfl ?_ ?_
  · refine j_iload_n (q := 0) (np := 10) rfl rfl dX10_needs_9 rfl ?_
    refine j_iconst (np := 11) ci_1 dX10_needs_10 rfl ?_
    refine j_icmp_eq (tgt := 19) (np := 14) dX10_needs_11 rfl rfl ?_ ?_
    · refine j_iconst (np := 20) ci_2 dX10_needs_19 rfl ?_
      refine j_goto (tgt := 24) dX10_needs_20 rfl ?_
      exact j_iret rfl dX10_needs_24 (fun rr h => h)
    · refine j_iload_n (q := 0) (np := 15) rfl rfl dX10_needs_14 rfl ?_
      refine j_iconst (np := 16) ci_5 dX10_needs_15 rfl ?_
      refine j_icmp_ne (tgt := 23) (np := 19) dX10_needs_16 rfl rfl ?_ ?_
      · refine j_iconst (np := 24) ci_3 dX10_needs_23 rfl ?_
        exact j_iret rfl dX10_needs_24 (fun rr h => h)
      · refine j_iconst (np := 20) ci_2 dX10_needs_19 rfl ?_
        refine j_goto (tgt := 24) dX10_needs_20 rfl ?_
        exact j_iret rfl dX10_needs_24 (fun rr h => h)
  · refine j_iconst (np := 6) ci_1 dX10_needs_5 rfl ?_
    refine j_goto (tgt := 24) dX10_needs_6 rfl ?_
    exact j_iret rfl dX10_needs_24 (fun rr h => h)
set_option maxRecDepth 100000 in
theorem wX10_needs {E : qE} {N d : Nat} (hd : 0 ≤ d) {v0 : Int32} {m0 : qM} {b : Int32 × qM} (h : fX10_needs N v0 m0 = some b) : qRun E yX10_needs cX10_needs 1 (some .int) d 0 0 [.int v0] m0 (some (.int b.1), b.2) := q_met pnX10 (Nat.le_of_ble_eq_true rfl) (bX10_needs hd b _ h rfl)
theorem dX10_spine_0 : decode cX10_spine 0 = .ok (.iload_n 1, 1) := by decide +kernel
theorem dX10_spine_1 : decode cX10_spine 1 = .ok (.istore_n 2, 1) := by decide +kernel
theorem dX10_spine_2 : decode cX10_spine 2 = .ok (.iconst 0, 1) := by decide +kernel
theorem dX10_spine_3 : decode cX10_spine 3 = .ok (.istore_n 3, 1) := by decide +kernel
theorem dX10_spine_4 : decode cX10_spine 4 = .ok (.aload_n 0, 1) := by decide +kernel
theorem dX10_spine_5 : decode cX10_spine 5 = .ok (.getfield 72, 3) := by decide +kernel
theorem dX10_spine_8 : decode cX10_spine 8 = .ok (.iload_n 2, 1) := by decide +kernel
theorem dX10_spine_9 : decode cX10_spine 9 = .ok (.iaload, 1) := by decide +kernel
theorem dX10_spine_10 : decode cX10_spine 10 = .ok (.ifCond .ge 16, 3) := by decide +kernel
theorem dX10_spine_13 : decode cX10_spine 13 = .ok (.aload_n 0, 1) := by decide +kernel
theorem dX10_spine_14 : decode cX10_spine 14 = .ok (.getfield 75, 3) := by decide +kernel
theorem dX10_spine_17 : decode cX10_spine 17 = .ok (.iload_n 2, 1) := by decide +kernel
theorem dX10_spine_18 : decode cX10_spine 18 = .ok (.iaload, 1) := by decide +kernel
theorem dX10_spine_19 : decode cX10_spine 19 = .ok (.istore_n 2, 1) := by decide +kernel
theorem dX10_spine_20 : decode cX10_spine 20 = .ok (.iinc 3 1, 3) := by decide +kernel
theorem dX10_spine_23 : decode cX10_spine 23 = .ok (.goto (-19), 3) := by decide +kernel
theorem dX10_spine_26 : decode cX10_spine 26 = .ok (.aload_n 0, 1) := by decide +kernel
theorem dX10_spine_27 : decode cX10_spine 27 = .ok (.aload_n 0, 1) := by decide +kernel
theorem dX10_spine_28 : decode cX10_spine 28 = .ok (.getfield 72, 3) := by decide +kernel
theorem dX10_spine_31 : decode cX10_spine 31 = .ok (.iload_n 2, 1) := by decide +kernel
theorem dX10_spine_32 : decode cX10_spine 32 = .ok (.iaload, 1) := by decide +kernel
theorem dX10_spine_33 : decode cX10_spine 33 = .ok (.putfield 138, 3) := by decide +kernel
theorem dX10_spine_36 : decode cX10_spine 36 = .ok (.iload_n 3, 1) := by decide +kernel
theorem dX10_spine_37 : decode cX10_spine 37 = .ok (.ireturn, 1) := by decide +kernel
def lX10_spine_4 (N : Nat) (v0 : Nat) : Nat → Int32 → Int32 → qM → Option (Int32 × Int32 × qM)
  | 0, _, _, _ => none
  | n + 1, v2, v3, m0 =>
    (qgR m0 v0 10 29).bind fun x1 =>
    (qaI m0 x1 12 v2).bind fun x2 =>
    if 0 ≤ x2 then (
    some (v2, v3, m0)
    ) else (
    (qgR m0 v0 10 30).bind fun x3 =>
    (qaI m0 x3 12 v2).bind fun x4 =>
    lX10_spine_4 N v0 n x4 (v3 + (1 : Int32)) m0
    )
set_option maxRecDepth 100000 in
theorem lbX10_spine_4 {E : qE} {N d bc bs : Nat} (hd : 0 ≤ d) {v0 : Nat} : ∀ (n : Nat) (v2 : Int32) (v3 : Int32) (m0 : qM), qB E yX10_spine cX10_spine 4 (some .int) (fun _ => True) d bc bs 4 [(0, .ref (E.2.1 + v0)), (2, .int v2), (3, .int v3)] [] m0 (lX10_spine_4 N v0 n v2 v3 m0) (fun o rr => qJ E yX10_spine cX10_spine 4 (some .int) (fun _ => True) d bc bs 26 [(0, .ref (E.2.1 + v0)), (2, .int o.1), (3, .int o.2.1)] [] o.2.2 rr) := by
  intro n
  induction n with
  | zero =>
    intro v2 v3 m0
    exact j_none
  | succ n ih =>
    intro v2 v3 m0
    unfold lX10_spine_4
    refine j_aload_n (q := 0) (np := 5) rfl rfl dX10_spine_4 rfl ?_
    refine j_gR (np := 8) flX10_72 dX10_spine_5 rfl (fun x1 => ?_)
    refine j_iload_n (q := 1) (np := 9) rfl rfl dX10_spine_8 rfl ?_
    refine j_iaload (np := 10) dX10_spine_9 rfl (fun x2 => ?_)
    refine j_if_ge (tgt := 26) (np := 13) dX10_spine_10 rfl rfl ?_ ?_
    · exact j_exit (fun rr h => h)
    · refine j_aload_n (q := 0) (np := 14) rfl rfl dX10_spine_13 rfl ?_
      refine j_gR (np := 17) flX10_75 dX10_spine_14 rfl (fun x3 => ?_)
      refine j_iload_n (q := 1) (np := 18) rfl rfl dX10_spine_17 rfl ?_
      refine j_iaload (np := 19) dX10_spine_18 rfl (fun x4 => ?_)
      refine j_istore_n (np := 20) (lv2 := [(2, .int x4), (0, .ref (E.2.1 + v0)), (3, .int v3)]) rfl (by decide) dX10_spine_19 rfl rfl ?_
      refine j_iinc (q := 2) (np := 23) (lv2 := [(3, .int (v3 + (1 : Int32))), (2, .int x4), (0, .ref (E.2.1 + v0))]) rfl (congrArg _ ci_1) (by decide) dX10_spine_20 rfl rfl ?_
      refine j_goto (tgt := 4) dX10_spine_23 rfl ?_
      refine j_sub (lv2 := [(0, .ref (E.2.1 + v0)), (2, .int x4), (3, .int (v3 + (1 : Int32)))]) [2, 1, 0] rfl ?_
      exact ih _ _ _
def fX10_spine (N : Nat) (v0 : Nat) (v1 : Int32) (m0 : qM) : Option (Int32 × qM) :=
  (lX10_spine_4 N v0 N v1 (0 : Int32) m0).bind fun o1 =>
  (qgR o1.2.2 v0 10 29).bind fun x2 =>
  (qaI o1.2.2 x2 12 o1.1).bind fun x3 =>
  (qpI o1.2.2 v0 10 25 x3).bind fun m4 =>
  some (o1.2.1, m4)
set_option maxRecDepth 100000 in
theorem bX10_spine {E : qE} {N d bc bs : Nat} (hd : 0 ≤ d) {v0 : Nat} {v1 : Int32} {m0 : qM} : qB E yX10_spine cX10_spine 4 (some .int) (fun _ => True) d bc bs 0 [(0, .ref (E.2.1 + v0)), (1, .int v1)] [] m0 (fX10_spine N v0 v1 m0) (fun b rr => rr = (some (.int b.1), b.2)) := by
  unfold fX10_spine
  refine j_iload_n (q := 1) (np := 1) rfl rfl dX10_spine_0 rfl ?_
  refine j_istore_n (np := 2) (lv2 := [(2, .int v1), (0, .ref (E.2.1 + v0)), (1, .int v1)]) rfl (by decide) dX10_spine_1 rfl rfl ?_
  refine j_iconst (np := 3) ci_0 dX10_spine_2 rfl ?_
  refine j_istore_n (np := 4) (lv2 := [(3, .int (0 : Int32)), (2, .int v1), (0, .ref (E.2.1 + v0)), (1, .int v1)]) rfl (by decide) dX10_spine_3 rfl rfl ?_
  refine j_sub (lv2 := [(0, .ref (E.2.1 + v0)), (2, .int v1), (3, .int (0 : Int32))]) [2, 1, 0] rfl ?_
  refine j_loop (xp := 26) (lvX := fun o1 => [(0, .ref (E.2.1 + v0)), (2, .int o1.1), (3, .int o1.2.1)]) (mX := fun o1 => o1.2.2) (lbX10_spine_4 hd _ _ _ _) (fun o1 => ?_)
  refine j_aload_n (q := 0) (np := 27) rfl rfl dX10_spine_26 rfl ?_
  refine j_aload_n (q := 0) (np := 28) rfl rfl dX10_spine_27 rfl ?_
  refine j_gR (np := 31) flX10_72 dX10_spine_28 rfl (fun x2 => ?_)
  refine j_iload_n (q := 1) (np := 32) rfl rfl dX10_spine_31 rfl ?_
  refine j_iaload (np := 33) dX10_spine_32 rfl (fun x3 => ?_)
  refine j_pI (np := 36) flX10_138 dX10_spine_33 rfl (fun m4 => ?_)
  refine j_iload_n (q := 2) (np := 37) rfl rfl dX10_spine_36 rfl ?_
  exact j_iret rfl dX10_spine_37 (fun rr h => h)
set_option maxRecDepth 100000 in
theorem wX10_spine {E : qE} {N d : Nat} (hd : 0 ≤ d) {v0 : Nat} {v1 : Int32} {m0 : qM} {b : Int32 × qM} (h : fX10_spine N v0 v1 m0 = some b) : qRun E yX10_spine cX10_spine 4 (some .int) d 0 0 [.ref (E.2.1 + v0), .int v1] m0 (some (.int b.1), b.2) := q_met pnX10 (Nat.le_of_ble_eq_true rfl) (bX10_spine hd b _ h rfl)
theorem dX10_contracts_0 : decode cX10_contracts 0 = .ok (.aload_n 0, 1) := by decide +kernel
theorem dX10_contracts_1 : decode cX10_contracts 1 = .ok (.getfield 78, 3) := by decide +kernel
theorem dX10_contracts_4 : decode cX10_contracts 4 = .ok (.iload_n 1, 1) := by decide +kernel
theorem dX10_contracts_5 : decode cX10_contracts 5 = .ok (.iaload, 1) := by decide +kernel
theorem dX10_contracts_6 : decode cX10_contracts 6 = .ok (.istore_n 2, 1) := by decide +kernel
theorem dX10_contracts_7 : decode cX10_contracts 7 = .ok (.aload_n 0, 1) := by decide +kernel
theorem dX10_contracts_8 : decode cX10_contracts 8 = .ok (.getfield 138, 3) := by decide +kernel
theorem dX10_contracts_11 : decode cX10_contracts 11 = .ok (.iconst 2, 1) := by decide +kernel
theorem dX10_contracts_12 : decode cX10_contracts 12 = .ok (.if_icmp .ne 5, 3) := by decide +kernel
theorem dX10_contracts_15 : decode cX10_contracts 15 = .ok (.iload_n 2, 1) := by decide +kernel
theorem dX10_contracts_16 : decode cX10_contracts 16 = .ok (.ireturn, 1) := by decide +kernel
theorem dX10_contracts_17 : decode cX10_contracts 17 = .ok (.aload_n 0, 1) := by decide +kernel
theorem dX10_contracts_18 : decode cX10_contracts 18 = .ok (.getfield 78, 3) := by decide +kernel
theorem dX10_contracts_21 : decode cX10_contracts 21 = .ok (.aload_n 0, 1) := by decide +kernel
theorem dX10_contracts_22 : decode cX10_contracts 22 = .ok (.getfield 75, 3) := by decide +kernel
theorem dX10_contracts_25 : decode cX10_contracts 25 = .ok (.iload_n 1, 1) := by decide +kernel
theorem dX10_contracts_26 : decode cX10_contracts 26 = .ok (.iaload, 1) := by decide +kernel
theorem dX10_contracts_27 : decode cX10_contracts 27 = .ok (.iaload, 1) := by decide +kernel
theorem dX10_contracts_28 : decode cX10_contracts 28 = .ok (.istore_n 3, 1) := by decide +kernel
theorem dX10_contracts_29 : decode cX10_contracts 29 = .ok (.aload_n 0, 1) := by decide +kernel
theorem dX10_contracts_30 : decode cX10_contracts 30 = .ok (.getfield 138, 3) := by decide +kernel
theorem dX10_contracts_33 : decode cX10_contracts 33 = .ok (.iconst 1, 1) := by decide +kernel
theorem dX10_contracts_34 : decode cX10_contracts 34 = .ok (.if_icmp .ne 5, 3) := by decide +kernel
theorem dX10_contracts_37 : decode cX10_contracts 37 = .ok (.iload_n 3, 1) := by decide +kernel
theorem dX10_contracts_38 : decode cX10_contracts 38 = .ok (.ireturn, 1) := by decide +kernel
theorem dX10_contracts_39 : decode cX10_contracts 39 = .ok (.aload_n 0, 1) := by decide +kernel
theorem dX10_contracts_40 : decode cX10_contracts 40 = .ok (.getfield 138, 3) := by decide +kernel
theorem dX10_contracts_43 : decode cX10_contracts 43 = .ok (.iconst 5, 1) := by decide +kernel
theorem dX10_contracts_44 : decode cX10_contracts 44 = .ok (.if_icmp .ne 15, 3) := by decide +kernel
theorem dX10_contracts_47 : decode cX10_contracts 47 = .ok (.aload_n 0, 1) := by decide +kernel
theorem dX10_contracts_48 : decode cX10_contracts 48 = .ok (.aload_n 0, 1) := by decide +kernel
theorem dX10_contracts_49 : decode cX10_contracts 49 = .ok (.iload_n 3, 1) := by decide +kernel
theorem dX10_contracts_50 : decode cX10_contracts 50 = .ok (.iload_n 2, 1) := by decide +kernel
theorem dX10_contracts_51 : decode cX10_contracts 51 = .ok (.invokevirtual 294, 3) := by decide +kernel
theorem dX10_contracts_54 : decode cX10_contracts 54 = .ok (.iload_n 2, 1) := by decide +kernel
theorem dX10_contracts_55 : decode cX10_contracts 55 = .ok (.invokevirtual 294, 3) := by decide +kernel
theorem dX10_contracts_58 : decode cX10_contracts 58 = .ok (.ireturn, 1) := by decide +kernel
theorem dX10_contracts_59 : decode cX10_contracts 59 = .ok (.aload_n 0, 1) := by decide +kernel
theorem dX10_contracts_60 : decode cX10_contracts 60 = .ok (.getfield 78, 3) := by decide +kernel
theorem dX10_contracts_63 : decode cX10_contracts 63 = .ok (.aload_n 0, 1) := by decide +kernel
theorem dX10_contracts_64 : decode cX10_contracts 64 = .ok (.getfield 75, 3) := by decide +kernel
theorem dX10_contracts_67 : decode cX10_contracts 67 = .ok (.aload_n 0, 1) := by decide +kernel
theorem dX10_contracts_68 : decode cX10_contracts 68 = .ok (.getfield 75, 3) := by decide +kernel
theorem dX10_contracts_71 : decode cX10_contracts 71 = .ok (.iload_n 1, 1) := by decide +kernel
theorem dX10_contracts_72 : decode cX10_contracts 72 = .ok (.iaload, 1) := by decide +kernel
theorem dX10_contracts_73 : decode cX10_contracts 73 = .ok (.iaload, 1) := by decide +kernel
theorem dX10_contracts_74 : decode cX10_contracts 74 = .ok (.iaload, 1) := by decide +kernel
theorem dX10_contracts_75 : decode cX10_contracts 75 = .ok (.istore 4, 2) := by decide +kernel
theorem dX10_contracts_77 : decode cX10_contracts 77 = .ok (.aload_n 0, 1) := by decide +kernel
theorem dX10_contracts_78 : decode cX10_contracts 78 = .ok (.getfield 138, 3) := by decide +kernel
theorem dX10_contracts_81 : decode cX10_contracts 81 = .ok (.ifCond .ne 21, 3) := by decide +kernel
theorem dX10_contracts_84 : decode cX10_contracts 84 = .ok (.aload_n 0, 1) := by decide +kernel
theorem dX10_contracts_85 : decode cX10_contracts 85 = .ok (.aload_n 0, 1) := by decide +kernel
theorem dX10_contracts_86 : decode cX10_contracts 86 = .ok (.iload 4, 2) := by decide +kernel
theorem dX10_contracts_88 : decode cX10_contracts 88 = .ok (.iload_n 2, 1) := by decide +kernel
theorem dX10_contracts_89 : decode cX10_contracts 89 = .ok (.invokevirtual 294, 3) := by decide +kernel
theorem dX10_contracts_92 : decode cX10_contracts 92 = .ok (.aload_n 0, 1) := by decide +kernel
theorem dX10_contracts_93 : decode cX10_contracts 93 = .ok (.iload_n 3, 1) := by decide +kernel
theorem dX10_contracts_94 : decode cX10_contracts 94 = .ok (.iload_n 2, 1) := by decide +kernel
theorem dX10_contracts_95 : decode cX10_contracts 95 = .ok (.invokevirtual 294, 3) := by decide +kernel
theorem dX10_contracts_98 : decode cX10_contracts 98 = .ok (.invokevirtual 294, 3) := by decide +kernel
theorem dX10_contracts_101 : decode cX10_contracts 101 = .ok (.ireturn, 1) := by decide +kernel
theorem dX10_contracts_102 : decode cX10_contracts 102 = .ok (.aload_n 0, 1) := by decide +kernel
theorem dX10_contracts_103 : decode cX10_contracts 103 = .ok (.getfield 138, 3) := by decide +kernel
theorem dX10_contracts_106 : decode cX10_contracts 106 = .ok (.iconst 3, 1) := by decide +kernel
theorem dX10_contracts_107 : decode cX10_contracts 107 = .ok (.if_icmp .ne 18, 3) := by decide +kernel
theorem dX10_contracts_110 : decode cX10_contracts 110 = .ok (.aload_n 0, 1) := by decide +kernel
theorem dX10_contracts_111 : decode cX10_contracts 111 = .ok (.iload 4, 2) := by decide +kernel
theorem dX10_contracts_113 : decode cX10_contracts 113 = .ok (.aload_n 0, 1) := by decide +kernel
theorem dX10_contracts_114 : decode cX10_contracts 114 = .ok (.iload_n 3, 1) := by decide +kernel
theorem dX10_contracts_115 : decode cX10_contracts 115 = .ok (.iload_n 2, 1) := by decide +kernel
theorem dX10_contracts_116 : decode cX10_contracts 116 = .ok (.invokevirtual 294, 3) := by decide +kernel
theorem dX10_contracts_119 : decode cX10_contracts 119 = .ok (.invokevirtual 294, 3) := by decide +kernel
theorem dX10_contracts_122 : decode cX10_contracts 122 = .ok (.goto 15, 3) := by decide +kernel
theorem dX10_contracts_125 : decode cX10_contracts 125 = .ok (.aload_n 0, 1) := by decide +kernel
theorem dX10_contracts_126 : decode cX10_contracts 126 = .ok (.aload_n 0, 1) := by decide +kernel
theorem dX10_contracts_127 : decode cX10_contracts 127 = .ok (.iload 4, 2) := by decide +kernel
theorem dX10_contracts_129 : decode cX10_contracts 129 = .ok (.iload_n 2, 1) := by decide +kernel
theorem dX10_contracts_130 : decode cX10_contracts 130 = .ok (.invokevirtual 294, 3) := by decide +kernel
theorem dX10_contracts_133 : decode cX10_contracts 133 = .ok (.iload_n 3, 1) := by decide +kernel
theorem dX10_contracts_134 : decode cX10_contracts 134 = .ok (.invokevirtual 294, 3) := by decide +kernel
theorem dX10_contracts_137 : decode cX10_contracts 137 = .ok (.ireturn, 1) := by decide +kernel
def fX10_contracts (N : Nat) (v0 : Nat) (v1 : Int32) (m0 : qM) : Option (Int32 × qM) :=
  (qgR m0 v0 10 31).bind fun x1 =>
  (qaI m0 x1 12 v1).bind fun x2 =>
  (qgI m0 v0 10 25).bind fun x3 =>
  if x3 = (2 : Int32) then (
  some (x2, m0)
  ) else (
  (qgR m0 v0 10 31).bind fun x4 =>
  (qgR m0 v0 10 30).bind fun x5 =>
  (qaI m0 x5 12 v1).bind fun x6 =>
  (qaI m0 x4 12 x6).bind fun x7 =>
  (qgI m0 v0 10 25).bind fun x8 =>
  if x8 = (1 : Int32) then (
  some (x7, m0)
  ) else (
  (qgI m0 v0 10 25).bind fun x9 =>
  if x9 = (5 : Int32) then (
  (qChk m0 v0 10 (fX10_apply N v0 x7 x2 m0)).bind fun b25 =>
  (qChk b25.2 v0 10 (fX10_apply N v0 b25.1 x2 b25.2)).bind fun b26 =>
  some (b26.1, b26.2)
  ) else (
  (qgR m0 v0 10 31).bind fun x10 =>
  (qgR m0 v0 10 30).bind fun x11 =>
  (qgR m0 v0 10 30).bind fun x12 =>
  (qaI m0 x12 12 v1).bind fun x13 =>
  (qaI m0 x11 12 x13).bind fun x14 =>
  (qaI m0 x10 12 x14).bind fun x15 =>
  (qgI m0 v0 10 25).bind fun x16 =>
  if x16 = 0 then (
  (qChk m0 v0 10 (fX10_apply N v0 x15 x2 m0)).bind fun b22 =>
  (qChk b22.2 v0 10 (fX10_apply N v0 x7 x2 b22.2)).bind fun b23 =>
  (qChk b23.2 v0 10 (fX10_apply N v0 b22.1 b23.1 b23.2)).bind fun b24 =>
  some (b24.1, b24.2)
  ) else (
  (qgI m0 v0 10 25).bind fun x17 =>
  if x17 = (3 : Int32) then (
  (qChk m0 v0 10 (fX10_apply N v0 x7 x2 m0)).bind fun b20 =>
  (qChk b20.2 v0 10 (fX10_apply N v0 x15 b20.1 b20.2)).bind fun b21 =>
  some (b21.1, b21.2)
  ) else (
  (qChk m0 v0 10 (fX10_apply N v0 x15 x2 m0)).bind fun b18 =>
  (qChk b18.2 v0 10 (fX10_apply N v0 b18.1 x7 b18.2)).bind fun b19 =>
  some (b19.1, b19.2)
  )
  )
  )
  )
  )
set_option maxRecDepth 100000 in
theorem bX10_contracts {E : qE} {N d bc bs : Nat} (hd : 2 ≤ d) {v0 : Nat} {v1 : Int32} {m0 : qM} : qB E yX10_contracts cX10_contracts 5 (some .int) (fun _ => True) d bc bs 0 [(0, .ref (E.2.1 + v0)), (1, .int v1)] [] m0 (fX10_contracts N v0 v1 m0) (fun b rr => rr = (some (.int b.1), b.2)) := by
  unfold fX10_contracts
  refine j_aload_n (q := 0) (np := 1) rfl rfl dX10_contracts_0 rfl ?_
  refine j_gR (np := 4) flX10_78 dX10_contracts_1 rfl (fun x1 => ?_)
  refine j_iload_n (q := 1) (np := 5) rfl rfl dX10_contracts_4 rfl ?_
  refine j_iaload (np := 6) dX10_contracts_5 rfl (fun x2 => ?_)
  refine j_istore_n (np := 7) (lv2 := [(2, .int x2), (0, .ref (E.2.1 + v0)), (1, .int v1)]) rfl (by decide) dX10_contracts_6 rfl rfl ?_
  refine j_aload_n (q := 1) (np := 8) rfl rfl dX10_contracts_7 rfl ?_
  refine j_gI (np := 11) flX10_138 dX10_contracts_8 rfl (fun x3 => ?_)
  refine j_iconst (np := 12) ci_2 dX10_contracts_11 rfl ?_
  refine j_icmp_ne (tgt := 17) (np := 15) dX10_contracts_12 rfl rfl ?_ ?_
  · refine j_aload_n (q := 1) (np := 18) rfl rfl dX10_contracts_17 rfl ?_
    refine j_gR (np := 21) flX10_78 dX10_contracts_18 rfl (fun x4 => ?_)
    refine j_aload_n (q := 1) (np := 22) rfl rfl dX10_contracts_21 rfl ?_
    refine j_gR (np := 25) flX10_75 dX10_contracts_22 rfl (fun x5 => ?_)
    refine j_iload_n (q := 2) (np := 26) rfl rfl dX10_contracts_25 rfl ?_
    refine j_iaload (np := 27) dX10_contracts_26 rfl (fun x6 => ?_)
    refine j_iaload (np := 28) dX10_contracts_27 rfl (fun x7 => ?_)
    refine j_istore_n (np := 29) (lv2 := [(3, .int x7), (2, .int x2), (0, .ref (E.2.1 + v0)), (1, .int v1)]) rfl (by decide) dX10_contracts_28 rfl rfl ?_
    refine j_aload_n (q := 2) (np := 30) rfl rfl dX10_contracts_29 rfl ?_
    refine j_gI (np := 33) flX10_138 dX10_contracts_30 rfl (fun x8 => ?_)
    refine j_iconst (np := 34) ci_1 dX10_contracts_33 rfl ?_
    refine j_icmp_ne (tgt := 39) (np := 37) dX10_contracts_34 rfl rfl ?_ ?_
    · refine j_aload_n (q := 2) (np := 40) rfl rfl dX10_contracts_39 rfl ?_
      refine j_gI (np := 43) flX10_138 dX10_contracts_40 rfl (fun x9 => ?_)
      refine j_iconst (np := 44) ci_5 dX10_contracts_43 rfl ?_
      refine j_icmp_ne (tgt := 59) (np := 47) dX10_contracts_44 rfl rfl ?_ ?_
      · refine j_aload_n (q := 2) (np := 60) rfl rfl dX10_contracts_59 rfl ?_
        refine j_gR (np := 63) flX10_78 dX10_contracts_60 rfl (fun x10 => ?_)
        refine j_aload_n (q := 2) (np := 64) rfl rfl dX10_contracts_63 rfl ?_
        refine j_gR (np := 67) flX10_75 dX10_contracts_64 rfl (fun x11 => ?_)
        refine j_aload_n (q := 2) (np := 68) rfl rfl dX10_contracts_67 rfl ?_
        refine j_gR (np := 71) flX10_75 dX10_contracts_68 rfl (fun x12 => ?_)
        refine j_iload_n (q := 3) (np := 72) rfl rfl dX10_contracts_71 rfl ?_
        refine j_iaload (np := 73) dX10_contracts_72 rfl (fun x13 => ?_)
        refine j_iaload (np := 74) dX10_contracts_73 rfl (fun x14 => ?_)
        refine j_iaload (np := 75) dX10_contracts_74 rfl (fun x15 => ?_)
        refine j_istore (np := 77) (lv2 := [(4, .int x15), (3, .int x7), (2, .int x2), (0, .ref (E.2.1 + v0)), (1, .int v1)]) (by decide) dX10_contracts_75 rfl rfl ?_
        refine j_aload_n (q := 3) (np := 78) rfl rfl dX10_contracts_77 rfl ?_
        refine j_gI (np := 81) flX10_138 dX10_contracts_78 rfl (fun x16 => ?_)
        refine j_if_ne (tgt := 102) (np := 84) dX10_contracts_81 rfl rfl ?_ ?_
        · refine j_aload_n (q := 3) (np := 103) rfl rfl dX10_contracts_102 rfl ?_
          refine j_gI (np := 106) flX10_138 dX10_contracts_103 rfl (fun x17 => ?_)
          refine j_iconst (np := 107) ci_3 dX10_contracts_106 rfl ?_
          refine j_icmp_ne (tgt := 125) (np := 110) dX10_contracts_107 rfl rfl ?_ ?_
          · refine j_aload_n (q := 3) (np := 126) rfl rfl dX10_contracts_125 rfl ?_
            refine j_aload_n (q := 3) (np := 127) rfl rfl dX10_contracts_126 rfl ?_
            refine j_iload (q := 0) (np := 129) rfl dX10_contracts_127 rfl ?_
            refine j_iload_n (q := 2) (np := 130) rfl rfl dX10_contracts_129 rfl ?_
            refine j_callVi (ci := 10) (np := 133) (bc := bc) (bs := bs) (cb := 0) (cs := 0) (dd := d - 1) (As := [.int x15, .int x2]) (st := [.ref (E.2.1 + v0)]) caX10_apply mlX10_294 imX10_apply seX10_apply rfl rfl (by decide) (fun b hb => wX10_apply (by omega) hb) (by omega) rfl rfl (Nat.le_of_ble_eq_true rfl) dX10_contracts_130 rfl (fun b18 => ?_)
            refine j_iload_n (q := 1) (np := 134) rfl rfl dX10_contracts_133 rfl ?_
            refine j_callVi (ci := 10) (np := 137) (bc := bc) (bs := bs) (cb := 0) (cs := 0) (dd := d - 1) (As := [.int b18.1, .int x7]) (st := []) caX10_apply mlX10_294 imX10_apply seX10_apply rfl rfl (by decide) (fun b hb => wX10_apply (by omega) hb) (by omega) rfl rfl (Nat.le_of_ble_eq_true rfl) dX10_contracts_134 rfl (fun b19 => ?_)
            exact j_iret rfl dX10_contracts_137 (fun rr h => h)
          · refine j_aload_n (q := 3) (np := 111) rfl rfl dX10_contracts_110 rfl ?_
            refine j_iload (q := 0) (np := 113) rfl dX10_contracts_111 rfl ?_
            refine j_aload_n (q := 3) (np := 114) rfl rfl dX10_contracts_113 rfl ?_
            refine j_iload_n (q := 1) (np := 115) rfl rfl dX10_contracts_114 rfl ?_
            refine j_iload_n (q := 2) (np := 116) rfl rfl dX10_contracts_115 rfl ?_
            refine j_callVi (ci := 10) (np := 119) (bc := bc) (bs := bs) (cb := 0) (cs := 0) (dd := d - 1) (As := [.int x7, .int x2]) (st := [.int x15, .ref (E.2.1 + v0)]) caX10_apply mlX10_294 imX10_apply seX10_apply rfl rfl (by decide) (fun b hb => wX10_apply (by omega) hb) (by omega) rfl rfl (Nat.le_of_ble_eq_true rfl) dX10_contracts_116 rfl (fun b20 => ?_)
            refine j_callVi (ci := 10) (np := 122) (bc := bc) (bs := bs) (cb := 0) (cs := 0) (dd := d - 1) (As := [.int x15, .int b20.1]) (st := []) caX10_apply mlX10_294 imX10_apply seX10_apply rfl rfl (by decide) (fun b hb => wX10_apply (by omega) hb) (by omega) rfl rfl (Nat.le_of_ble_eq_true rfl) dX10_contracts_119 rfl (fun b21 => ?_)
            refine j_goto (tgt := 137) dX10_contracts_122 rfl ?_
            exact j_iret rfl dX10_contracts_137 (fun rr h => h)
        · refine j_aload_n (q := 3) (np := 85) rfl rfl dX10_contracts_84 rfl ?_
          refine j_aload_n (q := 3) (np := 86) rfl rfl dX10_contracts_85 rfl ?_
          refine j_iload (q := 0) (np := 88) rfl dX10_contracts_86 rfl ?_
          refine j_iload_n (q := 2) (np := 89) rfl rfl dX10_contracts_88 rfl ?_
          refine j_callVi (ci := 10) (np := 92) (bc := bc) (bs := bs) (cb := 0) (cs := 0) (dd := d - 1) (As := [.int x15, .int x2]) (st := [.ref (E.2.1 + v0)]) caX10_apply mlX10_294 imX10_apply seX10_apply rfl rfl (by decide) (fun b hb => wX10_apply (by omega) hb) (by omega) rfl rfl (Nat.le_of_ble_eq_true rfl) dX10_contracts_89 rfl (fun b22 => ?_)
          refine j_aload_n (q := 3) (np := 93) rfl rfl dX10_contracts_92 rfl ?_
          refine j_iload_n (q := 1) (np := 94) rfl rfl dX10_contracts_93 rfl ?_
          refine j_iload_n (q := 2) (np := 95) rfl rfl dX10_contracts_94 rfl ?_
          refine j_callVi (ci := 10) (np := 98) (bc := bc) (bs := bs) (cb := 0) (cs := 0) (dd := d - 1) (As := [.int x7, .int x2]) (st := [.int b22.1, .ref (E.2.1 + v0)]) caX10_apply mlX10_294 imX10_apply seX10_apply rfl rfl (by decide) (fun b hb => wX10_apply (by omega) hb) (by omega) rfl rfl (Nat.le_of_ble_eq_true rfl) dX10_contracts_95 rfl (fun b23 => ?_)
          refine j_callVi (ci := 10) (np := 101) (bc := bc) (bs := bs) (cb := 0) (cs := 0) (dd := d - 1) (As := [.int b22.1, .int b23.1]) (st := []) caX10_apply mlX10_294 imX10_apply seX10_apply rfl rfl (by decide) (fun b hb => wX10_apply (by omega) hb) (by omega) rfl rfl (Nat.le_of_ble_eq_true rfl) dX10_contracts_98 rfl (fun b24 => ?_)
          exact j_iret rfl dX10_contracts_101 (fun rr h => h)
      · refine j_aload_n (q := 2) (np := 48) rfl rfl dX10_contracts_47 rfl ?_
        refine j_aload_n (q := 2) (np := 49) rfl rfl dX10_contracts_48 rfl ?_
        refine j_iload_n (q := 0) (np := 50) rfl rfl dX10_contracts_49 rfl ?_
        refine j_iload_n (q := 1) (np := 51) rfl rfl dX10_contracts_50 rfl ?_
        refine j_callVi (ci := 10) (np := 54) (bc := bc) (bs := bs) (cb := 0) (cs := 0) (dd := d - 1) (As := [.int x7, .int x2]) (st := [.ref (E.2.1 + v0)]) caX10_apply mlX10_294 imX10_apply seX10_apply rfl rfl (by decide) (fun b hb => wX10_apply (by omega) hb) (by omega) rfl rfl (Nat.le_of_ble_eq_true rfl) dX10_contracts_51 rfl (fun b25 => ?_)
        refine j_iload_n (q := 1) (np := 55) rfl rfl dX10_contracts_54 rfl ?_
        refine j_callVi (ci := 10) (np := 58) (bc := bc) (bs := bs) (cb := 0) (cs := 0) (dd := d - 1) (As := [.int b25.1, .int x2]) (st := []) caX10_apply mlX10_294 imX10_apply seX10_apply rfl rfl (by decide) (fun b hb => wX10_apply (by omega) hb) (by omega) rfl rfl (Nat.le_of_ble_eq_true rfl) dX10_contracts_55 rfl (fun b26 => ?_)
        exact j_iret rfl dX10_contracts_58 (fun rr h => h)
    · refine j_iload_n (q := 0) (np := 38) rfl rfl dX10_contracts_37 rfl ?_
      exact j_iret rfl dX10_contracts_38 (fun rr h => h)
  · refine j_iload_n (q := 0) (np := 16) rfl rfl dX10_contracts_15 rfl ?_
    exact j_iret rfl dX10_contracts_16 (fun rr h => h)
set_option maxRecDepth 100000 in
theorem wX10_contracts {E : qE} {N d : Nat} (hd : 2 ≤ d) {v0 : Nat} {v1 : Int32} {m0 : qM} {b : Int32 × qM} (h : fX10_contracts N v0 v1 m0 = some b) : qRun E yX10_contracts cX10_contracts 5 (some .int) d 0 0 [.ref (E.2.1 + v0), .int v1] m0 (some (.int b.1), b.2) := q_met pnX10 (Nat.le_of_ble_eq_true rfl) (bX10_contracts hd b _ h rfl)
theorem dX10_reduces_0 : decode cX10_reduces 0 = .ok (.aload_n 0, 1) := by decide +kernel
theorem dX10_reduces_1 : decode cX10_reduces 1 = .ok (.getfield 72, 3) := by decide +kernel
theorem dX10_reduces_4 : decode cX10_reduces 4 = .ok (.iload_n 1, 1) := by decide +kernel
theorem dX10_reduces_5 : decode cX10_reduces 5 = .ok (.iaload, 1) := by decide +kernel
theorem dX10_reduces_6 : decode cX10_reduces 6 = .ok (.ifCond .lt 5, 3) := by decide +kernel
theorem dX10_reduces_9 : decode cX10_reduces 9 = .ok (.iconst (-1), 1) := by decide +kernel
theorem dX10_reduces_10 : decode cX10_reduces 10 = .ok (.ireturn, 1) := by decide +kernel
theorem dX10_reduces_11 : decode cX10_reduces 11 = .ok (.aload_n 0, 1) := by decide +kernel
theorem dX10_reduces_12 : decode cX10_reduces 12 = .ok (.iload_n 1, 1) := by decide +kernel
theorem dX10_reduces_13 : decode cX10_reduces 13 = .ok (.invokevirtual 300, 3) := by decide +kernel
theorem dX10_reduces_16 : decode cX10_reduces 16 = .ok (.aload_n 0, 1) := by decide +kernel
theorem dX10_reduces_17 : decode cX10_reduces 17 = .ok (.getfield 138, 3) := by decide +kernel
theorem dX10_reduces_20 : decode cX10_reduces 20 = .ok (.invokestatic 303, 3) := by decide +kernel
theorem dX10_reduces_23 : decode cX10_reduces 23 = .ok (.if_icmp .ne 9, 3) := by decide +kernel
theorem dX10_reduces_26 : decode cX10_reduces 26 = .ok (.aload_n 0, 1) := by decide +kernel
theorem dX10_reduces_27 : decode cX10_reduces 27 = .ok (.iload_n 1, 1) := by decide +kernel
theorem dX10_reduces_28 : decode cX10_reduces 28 = .ok (.invokevirtual 306, 3) := by decide +kernel
theorem dX10_reduces_31 : decode cX10_reduces 31 = .ok (.ireturn, 1) := by decide +kernel
theorem dX10_reduces_32 : decode cX10_reduces 32 = .ok (.aload_n 0, 1) := by decide +kernel
theorem dX10_reduces_33 : decode cX10_reduces 33 = .ok (.aload_n 0, 1) := by decide +kernel
theorem dX10_reduces_34 : decode cX10_reduces 34 = .ok (.getfield 75, 3) := by decide +kernel
theorem dX10_reduces_37 : decode cX10_reduces 37 = .ok (.iload_n 1, 1) := by decide +kernel
theorem dX10_reduces_38 : decode cX10_reduces 38 = .ok (.iaload, 1) := by decide +kernel
theorem dX10_reduces_39 : decode cX10_reduces 39 = .ok (.invokevirtual 309, 3) := by decide +kernel
theorem dX10_reduces_42 : decode cX10_reduces 42 = .ok (.istore_n 2, 1) := by decide +kernel
theorem dX10_reduces_43 : decode cX10_reduces 43 = .ok (.iload_n 2, 1) := by decide +kernel
theorem dX10_reduces_44 : decode cX10_reduces 44 = .ok (.ifCond .lt 15, 3) := by decide +kernel
theorem dX10_reduces_47 : decode cX10_reduces 47 = .ok (.aload_n 0, 1) := by decide +kernel
theorem dX10_reduces_48 : decode cX10_reduces 48 = .ok (.iload_n 2, 1) := by decide +kernel
theorem dX10_reduces_49 : decode cX10_reduces 49 = .ok (.aload_n 0, 1) := by decide +kernel
theorem dX10_reduces_50 : decode cX10_reduces 50 = .ok (.getfield 78, 3) := by decide +kernel
theorem dX10_reduces_53 : decode cX10_reduces 53 = .ok (.iload_n 1, 1) := by decide +kernel
theorem dX10_reduces_54 : decode cX10_reduces 54 = .ok (.iaload, 1) := by decide +kernel
theorem dX10_reduces_55 : decode cX10_reduces 55 = .ok (.invokevirtual 294, 3) := by decide +kernel
theorem dX10_reduces_58 : decode cX10_reduces 58 = .ok (.ireturn, 1) := by decide +kernel
theorem dX10_reduces_59 : decode cX10_reduces 59 = .ok (.aload_n 0, 1) := by decide +kernel
theorem dX10_reduces_60 : decode cX10_reduces 60 = .ok (.aload_n 0, 1) := by decide +kernel
theorem dX10_reduces_61 : decode cX10_reduces 61 = .ok (.getfield 78, 3) := by decide +kernel
theorem dX10_reduces_64 : decode cX10_reduces 64 = .ok (.iload_n 1, 1) := by decide +kernel
theorem dX10_reduces_65 : decode cX10_reduces 65 = .ok (.iaload, 1) := by decide +kernel
theorem dX10_reduces_66 : decode cX10_reduces 66 = .ok (.invokevirtual 309, 3) := by decide +kernel
theorem dX10_reduces_69 : decode cX10_reduces 69 = .ok (.istore_n 3, 1) := by decide +kernel
theorem dX10_reduces_70 : decode cX10_reduces 70 = .ok (.iload_n 3, 1) := by decide +kernel
theorem dX10_reduces_71 : decode cX10_reduces 71 = .ok (.ifCond .ge 7, 3) := by decide +kernel
theorem dX10_reduces_74 : decode cX10_reduces 74 = .ok (.iconst (-1), 1) := by decide +kernel
theorem dX10_reduces_75 : decode cX10_reduces 75 = .ok (.goto 14, 3) := by decide +kernel
theorem dX10_reduces_78 : decode cX10_reduces 78 = .ok (.aload_n 0, 1) := by decide +kernel
theorem dX10_reduces_79 : decode cX10_reduces 79 = .ok (.aload_n 0, 1) := by decide +kernel
theorem dX10_reduces_80 : decode cX10_reduces 80 = .ok (.getfield 75, 3) := by decide +kernel
theorem dX10_reduces_83 : decode cX10_reduces 83 = .ok (.iload_n 1, 1) := by decide +kernel
theorem dX10_reduces_84 : decode cX10_reduces 84 = .ok (.iaload, 1) := by decide +kernel
theorem dX10_reduces_85 : decode cX10_reduces 85 = .ok (.iload_n 3, 1) := by decide +kernel
theorem dX10_reduces_86 : decode cX10_reduces 86 = .ok (.invokevirtual 294, 3) := by decide +kernel
theorem dX10_reduces_89 : decode cX10_reduces 89 = .ok (.ireturn, 1) := by decide +kernel
def fX10_reduces (N : Nat) : Nat → Nat → Int32 → qM → Option (Int32 × qM)
  | 0, _, _, _ => none
  | k + 1, v0, v1, m0 =>
    (qgR m0 v0 10 29).bind fun x1 =>
    (qaI m0 x1 12 v1).bind fun x2 =>
    if x2 < 0 then (
    (qChk m0 v0 10 (fX10_spine N v0 v1 m0)).bind fun b3 =>
    (qgI b3.2 v0 10 25).bind fun x4 =>
    (fX10_needs N x4 b3.2).bind fun b5 =>
    if b3.1 = b5.1 then (
    (qChk b5.2 v0 10 (fX10_contracts N v0 v1 b5.2)).bind fun b18 =>
    some (b18.1, b18.2)
    ) else (
    (qgR b5.2 v0 10 30).bind fun x6 =>
    (qaI b5.2 x6 12 v1).bind fun x7 =>
    (qChk b5.2 v0 10 (fX10_reduces N k v0 x7 b5.2)).bind fun b8 =>
    if b8.1 < 0 then (
    (qgR b8.2 v0 10 31).bind fun x9 =>
    (qaI b8.2 x9 12 v1).bind fun x10 =>
    (qChk b8.2 v0 10 (fX10_reduces N k v0 x10 b8.2)).bind fun b11 =>
    if 0 ≤ b11.1 then (
    (qgR b11.2 v0 10 30).bind fun x12 =>
    (qaI b11.2 x12 12 v1).bind fun x13 =>
    (qChk b11.2 v0 10 (fX10_apply N v0 x13 b11.1 b11.2)).bind fun b14 =>
    some (b14.1, b14.2)
    ) else (
    some ((-1 : Int32), b11.2)
    )
    ) else (
    (qgR b8.2 v0 10 31).bind fun x15 =>
    (qaI b8.2 x15 12 v1).bind fun x16 =>
    (qChk b8.2 v0 10 (fX10_apply N v0 b8.1 x16 b8.2)).bind fun b17 =>
    some (b17.1, b17.2)
    )
    )
    ) else (
    some ((-1 : Int32), m0)
    )
set_option maxRecDepth 100000 in
theorem wX10_reduces {E : qE} {N : Nat} : ∀ {k d : Nat} (hd : k + 3 ≤ d) {m0 : qM} {b : Int32 × qM} {v0 : Nat} {v1 : Int32} (h : fX10_reduces N k v0 v1 m0 = some b), qRun E yX10_reduces cX10_reduces 4 (some .int) d 0 0 [.ref (E.2.1 + v0), .int v1] m0 (some (.int b.1), b.2) := by
  intro k
  induction k with
  | zero =>
    intro d hd m0 b v0 v1 h
    cases h
  | succ k ih =>
    intro d hd m0 b v0 v1 h
    have hfr : ∀ (m : qM) (b : Int32 × qM) (v0 : Nat) (v1 : Int32), fX10_reduces N k v0 v1 m = some b → qRun E yX10_reduces cX10_reduces 4 (some .int) (d - 1) 0 0 [.ref (E.2.1 + v0), .int v1] m (some (.int b.1), b.2) := fun m b v0 v1 h => ih (by omega) h
    have hd : 3 ≤ d := by omega
    have bd : qB E yX10_reduces cX10_reduces 4 (some .int) (fun _ => True) d 0 0 0 [(0, .ref (E.2.1 + v0)), (1, .int v1)] [] m0 (fX10_reduces N (k + 1) v0 v1 m0) (fun b rr => rr = (some (.int b.1), b.2)) := by
      unfold fX10_reduces
      refine j_aload_n (q := 0) (np := 1) rfl rfl dX10_reduces_0 rfl ?_
      refine j_gR (np := 4) flX10_72 dX10_reduces_1 rfl (fun x1 => ?_)
      refine j_iload_n (q := 1) (np := 5) rfl rfl dX10_reduces_4 rfl ?_
      refine j_iaload (np := 6) dX10_reduces_5 rfl (fun x2 => ?_)
      refine j_if_lt (tgt := 11) (np := 9) dX10_reduces_6 rfl rfl ?_ ?_
      · refine j_aload_n (q := 0) (np := 12) rfl rfl dX10_reduces_11 rfl ?_
        refine j_iload_n (q := 1) (np := 13) rfl rfl dX10_reduces_12 rfl ?_
        refine j_callVi (ci := 10) (np := 16) (bc := 0) (bs := 0) (cb := 0) (cs := 0) (dd := d - 1) (As := [.int v1]) (st := []) caX10_spine mlX10_300 imX10_spine seX10_spine rfl rfl (by decide) (fun b hb => wX10_spine (by omega) hb) (by omega) rfl rfl (Nat.le_of_ble_eq_true rfl) dX10_reduces_13 rfl (fun b3 => ?_)
        refine j_aload_n (q := 0) (np := 17) rfl rfl dX10_reduces_16 rfl ?_
        refine j_gI (np := 20) flX10_138 dX10_reduces_17 rfl (fun x4 => ?_)
        refine j_callSi (np := 23) (bc := 0) (bs := 0) (cb := 0) (cs := 0) (dd := d - 1) (As := [.int x4]) (st := [.int b3.1]) caX10_needs mlX10_303 stX10_needs (fun b hb => wX10_needs (by omega) hb) (by omega) rfl rfl (Nat.le_of_ble_eq_true rfl) dX10_reduces_20 rfl (fun b5 => ?_)
        refine j_icmp_ne (tgt := 32) (np := 26) dX10_reduces_23 rfl rfl ?_ ?_
        · refine j_aload_n (q := 0) (np := 33) rfl rfl dX10_reduces_32 rfl ?_
          refine j_aload_n (q := 0) (np := 34) rfl rfl dX10_reduces_33 rfl ?_
          refine j_gR (np := 37) flX10_75 dX10_reduces_34 rfl (fun x6 => ?_)
          refine j_iload_n (q := 1) (np := 38) rfl rfl dX10_reduces_37 rfl ?_
          refine j_iaload (np := 39) dX10_reduces_38 rfl (fun x7 => ?_)
          refine j_callVi (ci := 10) (np := 42) (bc := 0) (bs := 0) (cb := 0) (cs := 0) (dd := d - 1) (As := [.int x7]) (st := []) caX10_reduces mlX10_309 imX10_reduces seX10_reduces rfl rfl (by decide) (fun b hb => hfr _ _ _ _ hb) (by omega) rfl rfl (Nat.le_of_ble_eq_true rfl) dX10_reduces_39 rfl (fun b8 => ?_)
          refine j_istore_n (np := 43) (lv2 := [(2, .int b8.1), (0, .ref (E.2.1 + v0)), (1, .int v1)]) rfl (by decide) dX10_reduces_42 rfl rfl ?_
          refine j_iload_n (q := 0) (np := 44) rfl rfl dX10_reduces_43 rfl ?_
          refine j_if_lt (tgt := 59) (np := 47) dX10_reduces_44 rfl rfl ?_ ?_
          · refine j_aload_n (q := 1) (np := 60) rfl rfl dX10_reduces_59 rfl ?_
            refine j_aload_n (q := 1) (np := 61) rfl rfl dX10_reduces_60 rfl ?_
            refine j_gR (np := 64) flX10_78 dX10_reduces_61 rfl (fun x9 => ?_)
            refine j_iload_n (q := 2) (np := 65) rfl rfl dX10_reduces_64 rfl ?_
            refine j_iaload (np := 66) dX10_reduces_65 rfl (fun x10 => ?_)
            refine j_callVi (ci := 10) (np := 69) (bc := 0) (bs := 0) (cb := 0) (cs := 0) (dd := d - 1) (As := [.int x10]) (st := []) caX10_reduces mlX10_309 imX10_reduces seX10_reduces rfl rfl (by decide) (fun b hb => hfr _ _ _ _ hb) (by omega) rfl rfl (Nat.le_of_ble_eq_true rfl) dX10_reduces_66 rfl (fun b11 => ?_)
            refine j_istore_n (np := 70) (lv2 := [(3, .int b11.1), (2, .int b8.1), (0, .ref (E.2.1 + v0)), (1, .int v1)]) rfl (by decide) dX10_reduces_69 rfl rfl ?_
            refine j_iload_n (q := 0) (np := 71) rfl rfl dX10_reduces_70 rfl ?_
            refine j_if_ge (tgt := 78) (np := 74) dX10_reduces_71 rfl rfl ?_ ?_
            · refine j_aload_n (q := 2) (np := 79) rfl rfl dX10_reduces_78 rfl ?_
              refine j_aload_n (q := 2) (np := 80) rfl rfl dX10_reduces_79 rfl ?_
              refine j_gR (np := 83) flX10_75 dX10_reduces_80 rfl (fun x12 => ?_)
              refine j_iload_n (q := 3) (np := 84) rfl rfl dX10_reduces_83 rfl ?_
              refine j_iaload (np := 85) dX10_reduces_84 rfl (fun x13 => ?_)
              refine j_iload_n (q := 0) (np := 86) rfl rfl dX10_reduces_85 rfl ?_
              refine j_callVi (ci := 10) (np := 89) (bc := 0) (bs := 0) (cb := 0) (cs := 0) (dd := d - 1) (As := [.int x13, .int b11.1]) (st := []) caX10_apply mlX10_294 imX10_apply seX10_apply rfl rfl (by decide) (fun b hb => wX10_apply (by omega) hb) (by omega) rfl rfl (Nat.le_of_ble_eq_true rfl) dX10_reduces_86 rfl (fun b14 => ?_)
              exact j_iret rfl dX10_reduces_89 (fun rr h => h)
            · refine j_iconst (np := 75) ci_m1 dX10_reduces_74 rfl ?_
              refine j_goto (tgt := 89) dX10_reduces_75 rfl ?_
              exact j_iret rfl dX10_reduces_89 (fun rr h => h)
          · refine j_aload_n (q := 1) (np := 48) rfl rfl dX10_reduces_47 rfl ?_
            refine j_iload_n (q := 0) (np := 49) rfl rfl dX10_reduces_48 rfl ?_
            refine j_aload_n (q := 1) (np := 50) rfl rfl dX10_reduces_49 rfl ?_
            refine j_gR (np := 53) flX10_78 dX10_reduces_50 rfl (fun x15 => ?_)
            refine j_iload_n (q := 2) (np := 54) rfl rfl dX10_reduces_53 rfl ?_
            refine j_iaload (np := 55) dX10_reduces_54 rfl (fun x16 => ?_)
            refine j_callVi (ci := 10) (np := 58) (bc := 0) (bs := 0) (cb := 0) (cs := 0) (dd := d - 1) (As := [.int b8.1, .int x16]) (st := []) caX10_apply mlX10_294 imX10_apply seX10_apply rfl rfl (by decide) (fun b hb => wX10_apply (by omega) hb) (by omega) rfl rfl (Nat.le_of_ble_eq_true rfl) dX10_reduces_55 rfl (fun b17 => ?_)
            exact j_iret rfl dX10_reduces_58 (fun rr h => h)
        · refine j_aload_n (q := 0) (np := 27) rfl rfl dX10_reduces_26 rfl ?_
          refine j_iload_n (q := 1) (np := 28) rfl rfl dX10_reduces_27 rfl ?_
          refine j_callVi (ci := 10) (np := 31) (bc := 0) (bs := 0) (cb := 0) (cs := 0) (dd := d - 1) (As := [.int v1]) (st := []) caX10_contracts mlX10_306 imX10_contracts seX10_contracts rfl rfl (by decide) (fun b hb => wX10_contracts (by omega) hb) (by omega) rfl rfl (Nat.le_of_ble_eq_true rfl) dX10_reduces_28 rfl (fun b18 => ?_)
          exact j_iret rfl dX10_reduces_31 (fun rr h => h)
      · refine j_iconst (np := 10) ci_m1 dX10_reduces_9 rfl ?_
        exact j_iret rfl dX10_reduces_10 (fun rr h => h)
    exact q_met pnX10 (Nat.le_of_ble_eq_true rfl) (bd b _ h rfl)
theorem dX10_tells_0 : decode cX10_tells 0 = .ok (.aload_n 0, 1) := by decide +kernel
theorem dX10_tells_1 : decode cX10_tells 1 = .ok (.getfield 72, 3) := by decide +kernel
theorem dX10_tells_4 : decode cX10_tells 4 = .ok (.iload_n 1, 1) := by decide +kernel
theorem dX10_tells_5 : decode cX10_tells 5 = .ok (.iaload, 1) := by decide +kernel
theorem dX10_tells_6 : decode cX10_tells 6 = .ok (.ifCond .lt 31, 3) := by decide +kernel
theorem dX10_tells_9 : decode cX10_tells 9 = .ok (.aload_n 0, 1) := by decide +kernel
theorem dX10_tells_10 : decode cX10_tells 10 = .ok (.getfield 28, 3) := by decide +kernel
theorem dX10_tells_13 : decode cX10_tells 13 = .ok (.aload_n 0, 1) := by decide +kernel
theorem dX10_tells_14 : decode cX10_tells 14 = .ok (.dup, 1) := by decide +kernel
theorem dX10_tells_15 : decode cX10_tells 15 = .ok (.getfield 180, 3) := by decide +kernel
theorem dX10_tells_18 : decode cX10_tells 18 = .ok (.dup_x1, 1) := by decide +kernel
theorem dX10_tells_19 : decode cX10_tells 19 = .ok (.iconst 1, 1) := by decide +kernel
theorem dX10_tells_20 : decode cX10_tells 20 = .ok (.iadd, 1) := by decide +kernel
theorem dX10_tells_21 : decode cX10_tells 21 = .ok (.putfield 180, 3) := by decide +kernel
theorem dX10_tells_24 : decode cX10_tells 24 = .ok (.ldc 237, 2) := by decide +kernel
theorem dX10_tells_26 : decode cX10_tells 26 = .ok (.aload_n 0, 1) := by decide +kernel
theorem dX10_tells_27 : decode cX10_tells 27 = .ok (.getfield 72, 3) := by decide +kernel
theorem dX10_tells_30 : decode cX10_tells 30 = .ok (.iload_n 1, 1) := by decide +kernel
theorem dX10_tells_31 : decode cX10_tells 31 = .ok (.iaload, 1) := by decide +kernel
theorem dX10_tells_32 : decode cX10_tells 32 = .ok (.invokevirtual 274, 3) := by decide +kernel
theorem dX10_tells_35 : decode cX10_tells 35 = .ok (.iastore, 1) := by decide +kernel
theorem dX10_tells_36 : decode cX10_tells 36 = .ok (.return_, 1) := by decide +kernel
theorem dX10_tells_37 : decode cX10_tells 37 = .ok (.iload_n 2, 1) := by decide +kernel
theorem dX10_tells_38 : decode cX10_tells 38 = .ok (.ifCond .eq 21, 3) := by decide +kernel
theorem dX10_tells_41 : decode cX10_tells 41 = .ok (.aload_n 0, 1) := by decide +kernel
theorem dX10_tells_42 : decode cX10_tells 42 = .ok (.getfield 28, 3) := by decide +kernel
theorem dX10_tells_45 : decode cX10_tells 45 = .ok (.aload_n 0, 1) := by decide +kernel
theorem dX10_tells_46 : decode cX10_tells 46 = .ok (.dup, 1) := by decide +kernel
theorem dX10_tells_47 : decode cX10_tells 47 = .ok (.getfield 180, 3) := by decide +kernel
theorem dX10_tells_50 : decode cX10_tells 50 = .ok (.dup_x1, 1) := by decide +kernel
theorem dX10_tells_51 : decode cX10_tells 51 = .ok (.iconst 1, 1) := by decide +kernel
theorem dX10_tells_52 : decode cX10_tells 52 = .ok (.iadd, 1) := by decide +kernel
theorem dX10_tells_53 : decode cX10_tells 53 = .ok (.putfield 180, 3) := by decide +kernel
theorem dX10_tells_56 : decode cX10_tells 56 = .ok (.bipush 40, 2) := by decide +kernel
theorem dX10_tells_58 : decode cX10_tells 58 = .ok (.iastore, 1) := by decide +kernel
theorem dX10_tells_59 : decode cX10_tells 59 = .ok (.aload_n 0, 1) := by decide +kernel
theorem dX10_tells_60 : decode cX10_tells 60 = .ok (.aload_n 0, 1) := by decide +kernel
theorem dX10_tells_61 : decode cX10_tells 61 = .ok (.getfield 75, 3) := by decide +kernel
theorem dX10_tells_64 : decode cX10_tells 64 = .ok (.iload_n 1, 1) := by decide +kernel
theorem dX10_tells_65 : decode cX10_tells 65 = .ok (.iaload, 1) := by decide +kernel
theorem dX10_tells_66 : decode cX10_tells 66 = .ok (.iconst 0, 1) := by decide +kernel
theorem dX10_tells_67 : decode cX10_tells 67 = .ok (.invokevirtual 312, 3) := by decide +kernel
theorem dX10_tells_70 : decode cX10_tells 70 = .ok (.aload_n 0, 1) := by decide +kernel
theorem dX10_tells_71 : decode cX10_tells 71 = .ok (.aload_n 0, 1) := by decide +kernel
theorem dX10_tells_72 : decode cX10_tells 72 = .ok (.getfield 78, 3) := by decide +kernel
theorem dX10_tells_75 : decode cX10_tells 75 = .ok (.iload_n 1, 1) := by decide +kernel
theorem dX10_tells_76 : decode cX10_tells 76 = .ok (.iaload, 1) := by decide +kernel
theorem dX10_tells_77 : decode cX10_tells 77 = .ok (.iconst 1, 1) := by decide +kernel
theorem dX10_tells_78 : decode cX10_tells 78 = .ok (.invokevirtual 312, 3) := by decide +kernel
theorem dX10_tells_81 : decode cX10_tells 81 = .ok (.iload_n 2, 1) := by decide +kernel
theorem dX10_tells_82 : decode cX10_tells 82 = .ok (.ifCond .eq 21, 3) := by decide +kernel
theorem dX10_tells_85 : decode cX10_tells 85 = .ok (.aload_n 0, 1) := by decide +kernel
theorem dX10_tells_86 : decode cX10_tells 86 = .ok (.getfield 28, 3) := by decide +kernel
theorem dX10_tells_89 : decode cX10_tells 89 = .ok (.aload_n 0, 1) := by decide +kernel
theorem dX10_tells_90 : decode cX10_tells 90 = .ok (.dup, 1) := by decide +kernel
theorem dX10_tells_91 : decode cX10_tells 91 = .ok (.getfield 180, 3) := by decide +kernel
theorem dX10_tells_94 : decode cX10_tells 94 = .ok (.dup_x1, 1) := by decide +kernel
theorem dX10_tells_95 : decode cX10_tells 95 = .ok (.iconst 1, 1) := by decide +kernel
theorem dX10_tells_96 : decode cX10_tells 96 = .ok (.iadd, 1) := by decide +kernel
theorem dX10_tells_97 : decode cX10_tells 97 = .ok (.putfield 180, 3) := by decide +kernel
theorem dX10_tells_100 : decode cX10_tells 100 = .ok (.bipush 41, 2) := by decide +kernel
theorem dX10_tells_102 : decode cX10_tells 102 = .ok (.iastore, 1) := by decide +kernel
theorem dX10_tells_103 : decode cX10_tells 103 = .ok (.return_, 1) := by decide +kernel
def kX10_tells_59 (N : Nat) (fr : Nat → Int32 → Int32 → qM → Option (qM)) (v0 : Nat) (v1 : Int32) (v2 : Int32)  (m0 : qM) : Option (qM) :=
  (qgR m0 v0 10 30).bind fun x1 =>
  (qaI m0 x1 12 v1).bind fun x2 =>
  (qChk m0 v0 10 (fr v0 x2 (0 : Int32) m0)).bind fun b3 =>
  (qgR b3 v0 10 31).bind fun x4 =>
  (qaI b3 x4 12 v1).bind fun x5 =>
  (qChk b3 v0 10 (fr v0 x5 (1 : Int32) b3)).bind fun b6 =>
  if v2 = 0 then (
  some b6
  ) else (
  (qgR b6 v0 10 10).bind fun x7 =>
  (qgI b6 v0 10 11).bind fun x8 =>
  (qpI b6 v0 10 11 (x8 + (1 : Int32))).bind fun m9 =>
  (qwI m9 x7 12 x8 (41 : Int32)).bind fun m10 =>
  some m10
  )
set_option maxRecDepth 100000 in
theorem kbX10_tells_59 {E : qE} {N d bc bs : Nat} (hd : 4 ≤ d) {fr : Nat → Int32 → Int32 → qM → Option (qM)} (hfr : ∀ (m : qM) (b : qM) (v0 : Nat) (v1 : Int32) (v2 : Int32), fr v0 v1 v2 m = some b → qRun E yX10_tells cX10_tells 3 none (d - 1) 0 0 [.ref (E.2.1 + v0), .int v1, .int v2] m (none, b)) {v0 : Nat} {v1 : Int32} {v2 : Int32}  {m0 : qM} : qB E yX10_tells cX10_tells 3 none (fun _ => True) d bc bs 59 [(0, .ref (E.2.1 + v0)), (1, .int v1), (2, .int v2)] [] m0 (kX10_tells_59 N fr v0 v1 v2 m0) (fun b rr => rr = (none, b)) := by
  unfold kX10_tells_59
  refine j_aload_n (q := 0) (np := 60) rfl rfl dX10_tells_59 rfl ?_
  refine j_aload_n (q := 0) (np := 61) rfl rfl dX10_tells_60 rfl ?_
  refine j_gR (np := 64) flX10_75 dX10_tells_61 rfl (fun x1 => ?_)
  refine j_iload_n (q := 1) (np := 65) rfl rfl dX10_tells_64 rfl ?_
  refine j_iaload (np := 66) dX10_tells_65 rfl (fun x2 => ?_)
  refine j_iconst (np := 67) ci_0 dX10_tells_66 rfl ?_
  refine j_callVv (ci := 10) (np := 70) (bc := bc) (bs := bs) (cb := 0) (cs := 0) (dd := d - 1) (As := [.int x2, .int (0 : Int32)]) (st := []) caX10_tells mlX10_312 imX10_tells seX10_tells rfl rfl (by decide) (fun b hb => hfr _ _ _ _ _ hb) (by omega) rfl rfl (Nat.le_of_ble_eq_true rfl) dX10_tells_67 rfl (fun b3 => ?_)
  refine j_aload_n (q := 0) (np := 71) rfl rfl dX10_tells_70 rfl ?_
  refine j_aload_n (q := 0) (np := 72) rfl rfl dX10_tells_71 rfl ?_
  refine j_gR (np := 75) flX10_78 dX10_tells_72 rfl (fun x4 => ?_)
  refine j_iload_n (q := 1) (np := 76) rfl rfl dX10_tells_75 rfl ?_
  refine j_iaload (np := 77) dX10_tells_76 rfl (fun x5 => ?_)
  refine j_iconst (np := 78) ci_1 dX10_tells_77 rfl ?_
  refine j_callVv (ci := 10) (np := 81) (bc := bc) (bs := bs) (cb := 0) (cs := 0) (dd := d - 1) (As := [.int x5, .int (1 : Int32)]) (st := []) caX10_tells mlX10_312 imX10_tells seX10_tells rfl rfl (by decide) (fun b hb => hfr _ _ _ _ _ hb) (by omega) rfl rfl (Nat.le_of_ble_eq_true rfl) dX10_tells_78 rfl (fun b6 => ?_)
  refine j_iload_n (q := 2) (np := 82) rfl rfl dX10_tells_81 rfl ?_
  refine j_if_eq (tgt := 103) (np := 85) dX10_tells_82 rfl rfl ?_ ?_
  · exact j_vret rfl dX10_tells_103 (fun rr h => h)
  · refine j_aload_n (q := 0) (np := 86) rfl rfl dX10_tells_85 rfl ?_
    refine j_gR (np := 89) flX10_28 dX10_tells_86 rfl (fun x7 => ?_)
    refine j_aload_n (q := 0) (np := 90) rfl rfl dX10_tells_89 rfl ?_
    refine j_dup (np := 91) rfl dX10_tells_90 rfl ?_
    refine j_gI (np := 94) flX10_180 dX10_tells_91 rfl (fun x8 => ?_)
    refine j_dup_x1 (np := 95) rfl rfl dX10_tells_94 rfl ?_
    refine j_iconst (np := 96) ci_1 dX10_tells_95 rfl ?_
    refine j_iadd (np := 97) dX10_tells_96 rfl ?_
    refine j_pI (np := 100) flX10_180 dX10_tells_97 rfl (fun m9 => ?_)
    refine j_bipush (np := 102) cb_41 dX10_tells_100 rfl ?_
    refine j_iastore (np := 103) dX10_tells_102 rfl (fun m10 => ?_)
    exact j_vret rfl dX10_tells_103 (fun rr h => h)
def fX10_tells (N : Nat) : Nat → Nat → Int32 → Int32 → qM → Option (qM)
  | 0, _, _, _, _ => none
  | k + 1, v0, v1, v2, m0 =>
    (qgR m0 v0 10 29).bind fun x1 =>
    (qaI m0 x1 12 v1).bind fun x2 =>
    if x2 < 0 then (
    if v2 = 0 then (
    kX10_tells_59 N (fX10_tells N k) v0 v1 v2 m0
    ) else (
    (qgR m0 v0 10 10).bind fun x3 =>
    (qgI m0 v0 10 11).bind fun x4 =>
    (qpI m0 v0 10 11 (x4 + (1 : Int32))).bind fun m5 =>
    (qwI m5 x3 12 x4 (40 : Int32)).bind fun m6 =>
    kX10_tells_59 N (fX10_tells N k) v0 v1 v2 m6
    )
    ) else (
    (qgR m0 v0 10 10).bind fun x7 =>
    (qgI m0 v0 10 11).bind fun x8 =>
    (qpI m0 v0 10 11 (x8 + (1 : Int32))).bind fun m9 =>
    (qgR m9 v0 10 29).bind fun x10 =>
    (qaI m9 x10 12 v1).bind fun x11 =>
    (qChs 11 (fJ0_charAt_5068e N 11 x11 m9)).bind fun b12 =>
    (qwI b12.2 x7 12 x8 b12.1).bind fun m13 =>
    some m13
    )
set_option maxRecDepth 100000 in
theorem wX10_tells {E : qE} {N : Nat} : ∀ {k d : Nat} (hd : k + 4 ≤ d) {m0 : qM} {b : qM} {v0 : Nat} {v1 : Int32} {v2 : Int32} (h : fX10_tells N k v0 v1 v2 m0 = some b), qRun E yX10_tells cX10_tells 3 none d 0 0 [.ref (E.2.1 + v0), .int v1, .int v2] m0 (none, b) := by
  intro k
  induction k with
  | zero =>
    intro d hd m0 b v0 v1 v2 h
    cases h
  | succ k ih =>
    intro d hd m0 b v0 v1 v2 h
    have hfr : ∀ (m : qM) (b : qM) (v0 : Nat) (v1 : Int32) (v2 : Int32), fX10_tells N k v0 v1 v2 m = some b → qRun E yX10_tells cX10_tells 3 none (d - 1) 0 0 [.ref (E.2.1 + v0), .int v1, .int v2] m (none, b) := fun m b v0 v1 v2 h => ih (by omega) h
    have hd : 4 ≤ d := by omega
    have bd : qB E yX10_tells cX10_tells 3 none (fun _ => True) d 0 0 0 [(0, .ref (E.2.1 + v0)), (1, .int v1), (2, .int v2)] [] m0 (fX10_tells N (k + 1) v0 v1 v2 m0) (fun b rr => rr = (none, b)) := by
      unfold fX10_tells
      refine j_aload_n (q := 0) (np := 1) rfl rfl dX10_tells_0 rfl ?_
      refine j_gR (np := 4) flX10_72 dX10_tells_1 rfl (fun x1 => ?_)
      refine j_iload_n (q := 1) (np := 5) rfl rfl dX10_tells_4 rfl ?_
      refine j_iaload (np := 6) dX10_tells_5 rfl (fun x2 => ?_)
      refine j_if_lt (tgt := 37) (np := 9) dX10_tells_6 rfl rfl ?_ ?_
      · refine j_iload_n (q := 2) (np := 38) rfl rfl dX10_tells_37 rfl ?_
        refine j_if_eq (tgt := 59) (np := 41) dX10_tells_38 rfl rfl ?_ ?_
        · exact kbX10_tells_59 hd hfr
        · refine j_aload_n (q := 0) (np := 42) rfl rfl dX10_tells_41 rfl ?_
          refine j_gR (np := 45) flX10_28 dX10_tells_42 rfl (fun x3 => ?_)
          refine j_aload_n (q := 0) (np := 46) rfl rfl dX10_tells_45 rfl ?_
          refine j_dup (np := 47) rfl dX10_tells_46 rfl ?_
          refine j_gI (np := 50) flX10_180 dX10_tells_47 rfl (fun x4 => ?_)
          refine j_dup_x1 (np := 51) rfl rfl dX10_tells_50 rfl ?_
          refine j_iconst (np := 52) ci_1 dX10_tells_51 rfl ?_
          refine j_iadd (np := 53) dX10_tells_52 rfl ?_
          refine j_pI (np := 56) flX10_180 dX10_tells_53 rfl (fun m5 => ?_)
          refine j_bipush (np := 58) cb_40 dX10_tells_56 rfl ?_
          refine j_iastore (np := 59) dX10_tells_58 rfl (fun m6 => ?_)
          exact kbX10_tells_59 hd hfr
      · refine j_aload_n (q := 0) (np := 10) rfl rfl dX10_tells_9 rfl ?_
        refine j_gR (np := 13) flX10_28 dX10_tells_10 rfl (fun x7 => ?_)
        refine j_aload_n (q := 0) (np := 14) rfl rfl dX10_tells_13 rfl ?_
        refine j_dup (np := 15) rfl dX10_tells_14 rfl ?_
        refine j_gI (np := 18) flX10_180 dX10_tells_15 rfl (fun x8 => ?_)
        refine j_dup_x1 (np := 19) rfl rfl dX10_tells_18 rfl ?_
        refine j_iconst (np := 20) ci_1 dX10_tells_19 rfl ?_
        refine j_iadd (np := 21) dX10_tells_20 rfl ?_
        refine j_pI (np := 24) flX10_180 dX10_tells_21 rfl (fun m9 => ?_)
        refine j_ldcS (np := 26) (k := 11) (List.mem_of_getElem? (i := 11) rfl) dX10_tells_24 rfl ?_
        refine j_aload_n (q := 0) (np := 27) rfl rfl dX10_tells_26 rfl ?_
        refine j_gR (np := 30) flX10_72 dX10_tells_27 rfl (fun x10 => ?_)
        refine j_iload_n (q := 1) (np := 31) rfl rfl dX10_tells_30 rfl ?_
        refine j_iaload (np := 32) dX10_tells_31 rfl (fun x11 => ?_)
        refine j_callT (np := 35) (dd := d - 1) (As := [.int x11]) (st := [.int x8, .ref (E.2.1 + x7)]) caJ0_charAt_5068e mlX10_274 imJ0_charAt_5068e seJ0_charAt_5068e rfl (fun b hb => wJ0_charAt_5068e (by omega) hb) (by omega) rfl rfl (Nat.le_of_ble_eq_true rfl) dX10_tells_32 rfl (fun b12 => ?_)
        refine j_iastore (np := 36) dX10_tells_35 rfl (fun m13 => ?_)
        exact j_vret rfl dX10_tells_36 (fun rr h => h)
    exact q_met pnX10 (Nat.le_of_ble_eq_true rfl) (bd b _ h rfl)
theorem dX10_reduceTerm_0 : decode cX10_reduceTerm 0 = .ok (.aload_n 0, 1) := by decide +kernel
theorem dX10_reduceTerm_1 : decode cX10_reduceTerm 1 = .ok (.invokevirtual 281, 3) := by decide +kernel
theorem dX10_reduceTerm_4 : decode cX10_reduceTerm 4 = .ok (.istore_n 2, 1) := by decide +kernel
theorem dX10_reduceTerm_5 : decode cX10_reduceTerm 5 = .ok (.iload_n 1, 1) := by decide +kernel
theorem dX10_reduceTerm_6 : decode cX10_reduceTerm 6 = .ok (.iconst 0, 1) := by decide +kernel
theorem dX10_reduceTerm_7 : decode cX10_reduceTerm 7 = .ok (.bipush 50, 2) := by decide +kernel
theorem dX10_reduceTerm_9 : decode cX10_reduceTerm 9 = .ok (.invokestatic 99, 3) := by decide +kernel
theorem dX10_reduceTerm_12 : decode cX10_reduceTerm 12 = .ok (.ifCond .eq 7, 3) := by decide +kernel
theorem dX10_reduceTerm_15 : decode cX10_reduceTerm 15 = .ok (.iload_n 2, 1) := by decide +kernel
theorem dX10_reduceTerm_16 : decode cX10_reduceTerm 16 = .ok (.ifCond .ne 31, 3) := by decide +kernel
theorem dX10_reduceTerm_19 : decode cX10_reduceTerm 19 = .ok (.aload_n 0, 1) := by decide +kernel
theorem dX10_reduceTerm_20 : decode cX10_reduceTerm 20 = .ok (.iconst 0, 1) := by decide +kernel
theorem dX10_reduceTerm_21 : decode cX10_reduceTerm 21 = .ok (.putfield 103, 3) := by decide +kernel
theorem dX10_reduceTerm_24 : decode cX10_reduceTerm 24 = .ok (.iload_n 1, 1) := by decide +kernel
theorem dX10_reduceTerm_25 : decode cX10_reduceTerm 25 = .ok (.iconst 0, 1) := by decide +kernel
theorem dX10_reduceTerm_26 : decode cX10_reduceTerm 26 = .ok (.bipush 50, 2) := by decide +kernel
theorem dX10_reduceTerm_28 : decode cX10_reduceTerm 28 = .ok (.invokestatic 99, 3) := by decide +kernel
theorem dX10_reduceTerm_31 : decode cX10_reduceTerm 31 = .ok (.ifCond .eq 13, 3) := by decide +kernel
theorem dX10_reduceTerm_34 : decode cX10_reduceTerm 34 = .ok (.bipush (-100), 2) := by decide +kernel
theorem dX10_reduceTerm_36 : decode cX10_reduceTerm 36 = .ok (.aload_n 0, 1) := by decide +kernel
theorem dX10_reduceTerm_37 : decode cX10_reduceTerm 37 = .ok (.getfield 112, 3) := by decide +kernel
theorem dX10_reduceTerm_40 : decode cX10_reduceTerm 40 = .ok (.isub, 1) := by decide +kernel
theorem dX10_reduceTerm_41 : decode cX10_reduceTerm 41 = .ok (.goto 5, 3) := by decide +kernel
theorem dX10_reduceTerm_44 : decode cX10_reduceTerm 44 = .ok (.bipush (-2), 2) := by decide +kernel
theorem dX10_reduceTerm_46 : decode cX10_reduceTerm 46 = .ok (.ireturn, 1) := by decide +kernel
theorem dX10_reduceTerm_47 : decode cX10_reduceTerm 47 = .ok (.aload_n 0, 1) := by decide +kernel
theorem dX10_reduceTerm_48 : decode cX10_reduceTerm 48 = .ok (.iconst 0, 1) := by decide +kernel
theorem dX10_reduceTerm_49 : decode cX10_reduceTerm 49 = .ok (.putfield 106, 3) := by decide +kernel
theorem dX10_reduceTerm_52 : decode cX10_reduceTerm 52 = .ok (.aload_n 0, 1) := by decide +kernel
theorem dX10_reduceTerm_53 : decode cX10_reduceTerm 53 = .ok (.iconst 0, 1) := by decide +kernel
theorem dX10_reduceTerm_54 : decode cX10_reduceTerm 54 = .ok (.putfield 284, 3) := by decide +kernel
theorem dX10_reduceTerm_57 : decode cX10_reduceTerm 57 = .ok (.aload_n 0, 1) := by decide +kernel
theorem dX10_reduceTerm_58 : decode cX10_reduceTerm 58 = .ok (.invokevirtual 291, 3) := by decide +kernel
theorem dX10_reduceTerm_61 : decode cX10_reduceTerm 61 = .ok (.istore_n 3, 1) := by decide +kernel
theorem dX10_reduceTerm_62 : decode cX10_reduceTerm 62 = .ok (.aload_n 0, 1) := by decide +kernel
theorem dX10_reduceTerm_63 : decode cX10_reduceTerm 63 = .ok (.iconst 0, 1) := by decide +kernel
theorem dX10_reduceTerm_64 : decode cX10_reduceTerm 64 = .ok (.putfield 103, 3) := by decide +kernel
theorem dX10_reduceTerm_67 : decode cX10_reduceTerm 67 = .ok (.iconst 0, 1) := by decide +kernel
theorem dX10_reduceTerm_68 : decode cX10_reduceTerm 68 = .ok (.istore 4, 2) := by decide +kernel
theorem dX10_reduceTerm_70 : decode cX10_reduceTerm 70 = .ok (.iload 4, 2) := by decide +kernel
theorem dX10_reduceTerm_72 : decode cX10_reduceTerm 72 = .ok (.iload_n 1, 1) := by decide +kernel
theorem dX10_reduceTerm_73 : decode cX10_reduceTerm 73 = .ok (.if_icmp .ge 41, 3) := by decide +kernel
theorem dX10_reduceTerm_76 : decode cX10_reduceTerm 76 = .ok (.aload_n 0, 1) := by decide +kernel
theorem dX10_reduceTerm_77 : decode cX10_reduceTerm 77 = .ok (.iload_n 3, 1) := by decide +kernel
theorem dX10_reduceTerm_78 : decode cX10_reduceTerm 78 = .ok (.invokevirtual 309, 3) := by decide +kernel
theorem dX10_reduceTerm_81 : decode cX10_reduceTerm 81 = .ok (.istore 5, 2) := by decide +kernel
theorem dX10_reduceTerm_83 : decode cX10_reduceTerm 83 = .ok (.iload 5, 2) := by decide +kernel
theorem dX10_reduceTerm_85 : decode cX10_reduceTerm 85 = .ok (.ifCond .ge 6, 3) := by decide +kernel
theorem dX10_reduceTerm_88 : decode cX10_reduceTerm 88 = .ok (.goto 26, 3) := by decide +kernel
theorem dX10_reduceTerm_91 : decode cX10_reduceTerm 91 = .ok (.aload_n 0, 1) := by decide +kernel
theorem dX10_reduceTerm_92 : decode cX10_reduceTerm 92 = .ok (.iload 5, 2) := by decide +kernel
theorem dX10_reduceTerm_94 : decode cX10_reduceTerm 94 = .ok (.invokevirtual 297, 3) := by decide +kernel
theorem dX10_reduceTerm_97 : decode cX10_reduceTerm 97 = .ok (.bipush 40, 2) := by decide +kernel
theorem dX10_reduceTerm_99 : decode cX10_reduceTerm 99 = .ok (.if_icmp .le 6, 3) := by decide +kernel
theorem dX10_reduceTerm_102 : decode cX10_reduceTerm 102 = .ok (.bipush (-5), 2) := by decide +kernel
theorem dX10_reduceTerm_104 : decode cX10_reduceTerm 104 = .ok (.ireturn, 1) := by decide +kernel
theorem dX10_reduceTerm_105 : decode cX10_reduceTerm 105 = .ok (.iload 5, 2) := by decide +kernel
theorem dX10_reduceTerm_107 : decode cX10_reduceTerm 107 = .ok (.istore_n 3, 1) := by decide +kernel
theorem dX10_reduceTerm_108 : decode cX10_reduceTerm 108 = .ok (.iinc 4 1, 3) := by decide +kernel
theorem dX10_reduceTerm_111 : decode cX10_reduceTerm 111 = .ok (.goto (-41), 3) := by decide +kernel
theorem dX10_reduceTerm_114 : decode cX10_reduceTerm 114 = .ok (.aload_n 0, 1) := by decide +kernel
theorem dX10_reduceTerm_115 : decode cX10_reduceTerm 115 = .ok (.iconst 0, 1) := by decide +kernel
theorem dX10_reduceTerm_116 : decode cX10_reduceTerm 116 = .ok (.putfield 180, 3) := by decide +kernel
theorem dX10_reduceTerm_119 : decode cX10_reduceTerm 119 = .ok (.aload_n 0, 1) := by decide +kernel
theorem dX10_reduceTerm_120 : decode cX10_reduceTerm 120 = .ok (.iload_n 3, 1) := by decide +kernel
theorem dX10_reduceTerm_121 : decode cX10_reduceTerm 121 = .ok (.iconst 0, 1) := by decide +kernel
theorem dX10_reduceTerm_122 : decode cX10_reduceTerm 122 = .ok (.invokevirtual 312, 3) := by decide +kernel
theorem dX10_reduceTerm_125 : decode cX10_reduceTerm 125 = .ok (.iload 4, 2) := by decide +kernel
theorem dX10_reduceTerm_127 : decode cX10_reduceTerm 127 = .ok (.ireturn, 1) := by decide +kernel
def lX10_reduceTerm_70 (N : Nat) (v0 : Nat) (v1 : Int32) : Nat → Int32 → Int32 → qM → Option ((Int32 × Int32 × qM) ⊕ (Int32 × qM))
  | 0, _, _, _ => none
  | n + 1, v3, v4, m0 =>
    if v1 ≤ v4 then (
    some (.inl (v3, v4, m0))
    ) else (
    (qChk m0 v0 10 (fX10_reduces N kR v0 v3 m0)).bind fun b1 =>
    if 0 ≤ b1.1 then (
    (qChk b1.2 v0 10 (fX10_sizeOf N kR v0 b1.1 b1.2)).bind fun b2 =>
    if b2.1 ≤ (40 : Int32) then (
    lX10_reduceTerm_70 N v0 v1 n b1.1 (v4 + (1 : Int32)) b2.2
    ) else (
    some (.inr ((-5 : Int32), b2.2))
    )
    ) else (
    some (.inl (v3, v4, b1.2))
    )
    )
set_option maxRecDepth 100000 in
theorem lbX10_reduceTerm_70 {E : qE} {N d bc bs : Nat} (hd : 135 ≤ d) {v0 : Nat} {v1 : Int32} : ∀ (n : Nat) (v3 : Int32) (v4 : Int32) (m0 : qM), qB E yX10_reduceTerm cX10_reduceTerm 6 (some .int) (fun _ => True) d bc bs 70 [(0, .ref (E.2.1 + v0)), (1, .int v1), (3, .int v3), (4, .int v4)] [] m0 (lX10_reduceTerm_70 N v0 v1 n v3 v4 m0) (qGL (fun o rr => qJ E yX10_reduceTerm cX10_reduceTerm 6 (some .int) (fun _ => True) d bc bs 114 [(0, .ref (E.2.1 + v0)), (3, .int o.1), (4, .int o.2.1)] [] o.2.2 rr) (fun r => (some (.int r.1), r.2))) := by
  intro n
  induction n with
  | zero =>
    intro v3 v4 m0
    exact j_none
  | succ n ih =>
    intro v3 v4 m0
    unfold lX10_reduceTerm_70
    refine j_iload (q := 3) (np := 72) rfl dX10_reduceTerm_70 rfl ?_
    refine j_iload_n (q := 1) (np := 73) rfl rfl dX10_reduceTerm_72 rfl ?_
    refine j_icmp_ge (tgt := 114) (np := 76) dX10_reduceTerm_73 rfl rfl ?_ ?_
    · refine j_sub (lv2 := [(0, .ref (E.2.1 + v0)), (3, .int v3), (4, .int v4)]) [0, 2, 3] rfl ?_
      exact j_exit (fun rr h => h)
    · refine j_aload_n (q := 0) (np := 77) rfl rfl dX10_reduceTerm_76 rfl ?_
      refine j_iload_n (q := 2) (np := 78) rfl rfl dX10_reduceTerm_77 rfl ?_
      refine j_callVi (ci := 10) (np := 81) (bc := bc) (bs := bs) (cb := 0) (cs := 0) (dd := d - 1) (As := [.int v3]) (st := []) caX10_reduces mlX10_309 imX10_reduces seX10_reduces rfl rfl (by decide) (fun b hb => wX10_reduces (by show 130 + _ ≤ _; omega) hb) (by omega) rfl rfl (Nat.le_of_ble_eq_true rfl) dX10_reduceTerm_78 rfl (fun b1 => ?_)
      refine j_istore (np := 83) (lv2 := [(5, .int b1.1), (0, .ref (E.2.1 + v0)), (1, .int v1), (3, .int v3), (4, .int v4)]) (by decide) dX10_reduceTerm_81 rfl rfl ?_
      refine j_iload (q := 0) (np := 85) rfl dX10_reduceTerm_83 rfl ?_
      refine j_if_ge (tgt := 91) (np := 88) dX10_reduceTerm_85 rfl rfl ?_ ?_
      · refine j_aload_n (q := 1) (np := 92) rfl rfl dX10_reduceTerm_91 rfl ?_
        refine j_iload (q := 0) (np := 94) rfl dX10_reduceTerm_92 rfl ?_
        refine j_callVi (ci := 10) (np := 97) (bc := bc) (bs := bs) (cb := 0) (cs := 0) (dd := d - 1) (As := [.int b1.1]) (st := []) caX10_sizeOf mlX10_297 imX10_sizeOf seX10_sizeOf rfl rfl (by decide) (fun b hb => wX10_sizeOf (by show 130 + _ ≤ _; omega) hb) (by omega) rfl rfl (Nat.le_of_ble_eq_true rfl) dX10_reduceTerm_94 rfl (fun b2 => ?_)
        refine j_bipush (np := 99) cb_40 dX10_reduceTerm_97 rfl ?_
        refine j_icmp_le (tgt := 105) (np := 102) dX10_reduceTerm_99 rfl rfl ?_ ?_
        · refine j_iload (q := 0) (np := 107) rfl dX10_reduceTerm_105 rfl ?_
          refine j_istore_n (np := 108) (lv2 := [(3, .int b1.1), (5, .int b1.1), (0, .ref (E.2.1 + v0)), (1, .int v1), (4, .int v4)]) rfl (by decide) dX10_reduceTerm_107 rfl rfl ?_
          refine j_iinc (q := 4) (np := 111) (lv2 := [(4, .int (v4 + (1 : Int32))), (3, .int b1.1), (5, .int b1.1), (0, .ref (E.2.1 + v0)), (1, .int v1)]) rfl (congrArg _ ci_1) (by decide) dX10_reduceTerm_108 rfl rfl ?_
          refine j_goto (tgt := 70) dX10_reduceTerm_111 rfl ?_
          refine j_sub (lv2 := [(0, .ref (E.2.1 + v0)), (1, .int v1), (3, .int b1.1), (4, .int (v4 + (1 : Int32)))]) [3, 4, 1, 0] rfl ?_
          exact ih _ _ _
        · refine j_bipush (np := 104) cb_m5 dX10_reduceTerm_102 rfl ?_
          exact j_iret rfl dX10_reduceTerm_104 (fun rr h => h)
      · refine j_goto (tgt := 114) dX10_reduceTerm_88 rfl ?_
        refine j_sub (lv2 := [(0, .ref (E.2.1 + v0)), (3, .int v3), (4, .int v4)]) [1, 3, 4] rfl ?_
        exact j_exit (fun rr h => h)
def kX10_reduceTerm_19 (N : Nat) (v0 : Nat) (v1 : Int32)  (m0 : qM) : Option (Int32 × qM) :=
  (qpI m0 v0 10 7 (0 : Int32)).bind fun m1 =>
  (fX10_in N v1 (0 : Int32) (50 : Int32) m1).bind fun b2 =>
  if b2.1 = 0 then (
  some ((-2 : Int32), b2.2)
  ) else (
  (qgI b2.2 v0 10 9).bind fun x3 =>
  some ((-100 : Int32) - x3, b2.2)
  )
set_option maxRecDepth 100000 in
theorem kbX10_reduceTerm_19 {E : qE} {N d bc bs : Nat} (hd : 135 ≤ d) {v0 : Nat} {v1 : Int32}  {m0 : qM} : qB E yX10_reduceTerm cX10_reduceTerm 6 (some .int) (fun _ => True) d bc bs 19 [(0, .ref (E.2.1 + v0)), (1, .int v1)] [] m0 (kX10_reduceTerm_19 N v0 v1 m0) (fun b rr => rr = (some (.int b.1), b.2)) := by
  unfold kX10_reduceTerm_19
  refine j_aload_n (q := 0) (np := 20) rfl rfl dX10_reduceTerm_19 rfl ?_
  refine j_iconst (np := 21) ci_0 dX10_reduceTerm_20 rfl ?_
  refine j_pI (np := 24) flX10_103 dX10_reduceTerm_21 rfl (fun m1 => ?_)
  refine j_iload_n (q := 1) (np := 25) rfl rfl dX10_reduceTerm_24 rfl ?_
  refine j_iconst (np := 26) ci_0 dX10_reduceTerm_25 rfl ?_
  refine j_bipush (np := 28) cb_50 dX10_reduceTerm_26 rfl ?_
  refine j_callSi (np := 31) (bc := bc) (bs := bs) (cb := 0) (cs := 0) (dd := d - 1) (As := [.int v1, .int (0 : Int32), .int (50 : Int32)]) (st := []) caX10_in mlX10_99 stX10_in (fun b hb => wX10_in (by omega) hb) (by omega) rfl rfl (Nat.le_of_ble_eq_true rfl) dX10_reduceTerm_28 rfl (fun b2 => ?_)
  refine j_if_eq (tgt := 44) (np := 34) dX10_reduceTerm_31 rfl rfl ?_ ?_
  · refine j_bipush (np := 46) cb_m2 dX10_reduceTerm_44 rfl ?_
    exact j_iret rfl dX10_reduceTerm_46 (fun rr h => h)
  · refine j_bipush (np := 36) cb_m100 dX10_reduceTerm_34 rfl ?_
    refine j_aload_n (q := 0) (np := 37) rfl rfl dX10_reduceTerm_36 rfl ?_
    refine j_gI (np := 40) flX10_112 dX10_reduceTerm_37 rfl (fun x3 => ?_)
    refine j_isub (np := 41) dX10_reduceTerm_40 rfl ?_
    refine j_goto (tgt := 46) dX10_reduceTerm_41 rfl ?_
    exact j_iret rfl dX10_reduceTerm_46 (fun rr h => h)
def fX10_reduceTerm (N : Nat) (v0 : Nat) (v1 : Int32) (m0 : qM) : Option (Int32 × qM) :=
  (qChk m0 v0 10 (fX10_isTerm N v0 m0)).bind fun b1 =>
  (fX10_in N v1 (0 : Int32) (50 : Int32) b1.2).bind fun b2 =>
  if b2.1 = 0 then (
  kX10_reduceTerm_19 N v0 v1 b2.2
  ) else (
  if b1.1 = 0 then (
  kX10_reduceTerm_19 N v0 v1 b2.2
  ) else (
  (qpI b2.2 v0 10 8 (0 : Int32)).bind fun m3 =>
  (qpI m3 v0 10 32 (0 : Int32)).bind fun m4 =>
  (qChk m4 v0 10 (fX10_readsTerm N kR v0 m4)).bind fun b5 =>
  (qpI b5.2 v0 10 7 (0 : Int32)).bind fun m6 =>
  qTh (lX10_reduceTerm_70 N v0 v1 N b5.1 (0 : Int32) m6) (fun o7 =>
  (qpI o7.2.2 v0 10 11 (0 : Int32)).bind fun m8 =>
  (qChk m8 v0 10 (fX10_tells N kR v0 o7.1 (0 : Int32) m8)).bind fun b9 =>
  some (o7.2.1, b9)
  ) (fun r => r)
  )
  )
set_option maxRecDepth 100000 in
theorem bX10_reduceTerm {E : qE} {N d bc bs : Nat} (hd : 135 ≤ d) {v0 : Nat} {v1 : Int32} {m0 : qM} : qB E yX10_reduceTerm cX10_reduceTerm 6 (some .int) (fun _ => True) d bc bs 0 [(0, .ref (E.2.1 + v0)), (1, .int v1)] [] m0 (fX10_reduceTerm N v0 v1 m0) (fun b rr => rr = (some (.int b.1), b.2)) := by
  unfold fX10_reduceTerm
  refine j_aload_n (q := 0) (np := 1) rfl rfl dX10_reduceTerm_0 rfl ?_
  refine j_callVi (ci := 10) (np := 4) (bc := bc) (bs := bs) (cb := 0) (cs := 0) (dd := d - 1) (As := []) (st := []) caX10_isTerm mlX10_281 imX10_isTerm seX10_isTerm rfl rfl (by decide) (fun b hb => wX10_isTerm (by omega) hb) (by omega) rfl rfl (Nat.le_of_ble_eq_true rfl) dX10_reduceTerm_1 rfl (fun b1 => ?_)
  refine j_istore_n (np := 5) (lv2 := [(2, .int b1.1), (0, .ref (E.2.1 + v0)), (1, .int v1)]) rfl (by decide) dX10_reduceTerm_4 rfl rfl ?_
  refine j_iload_n (q := 2) (np := 6) rfl rfl dX10_reduceTerm_5 rfl ?_
  refine j_iconst (np := 7) ci_0 dX10_reduceTerm_6 rfl ?_
  refine j_bipush (np := 9) cb_50 dX10_reduceTerm_7 rfl ?_
  refine j_callSi (np := 12) (bc := bc) (bs := bs) (cb := 0) (cs := 0) (dd := d - 1) (As := [.int v1, .int (0 : Int32), .int (50 : Int32)]) (st := []) caX10_in mlX10_99 stX10_in (fun b hb => wX10_in (by omega) hb) (by omega) rfl rfl (Nat.le_of_ble_eq_true rfl) dX10_reduceTerm_9 rfl (fun b2 => ?_)
  refine j_if_eq (tgt := 19) (np := 15) dX10_reduceTerm_12 rfl rfl ?_ ?_
  · refine j_sub (lv2 := [(0, .ref (E.2.1 + v0)), (1, .int v1)]) [1, 2] rfl ?_
    exact kbX10_reduceTerm_19 hd
  · refine j_iload_n (q := 0) (np := 16) rfl rfl dX10_reduceTerm_15 rfl ?_
    refine j_if_ne (tgt := 47) (np := 19) dX10_reduceTerm_16 rfl rfl ?_ ?_
    · refine j_aload_n (q := 1) (np := 48) rfl rfl dX10_reduceTerm_47 rfl ?_
      refine j_iconst (np := 49) ci_0 dX10_reduceTerm_48 rfl ?_
      refine j_pI (np := 52) flX10_106 dX10_reduceTerm_49 rfl (fun m3 => ?_)
      refine j_aload_n (q := 1) (np := 53) rfl rfl dX10_reduceTerm_52 rfl ?_
      refine j_iconst (np := 54) ci_0 dX10_reduceTerm_53 rfl ?_
      refine j_pI (np := 57) flX10_284 dX10_reduceTerm_54 rfl (fun m4 => ?_)
      refine j_aload_n (q := 1) (np := 58) rfl rfl dX10_reduceTerm_57 rfl ?_
      refine j_callVi (ci := 10) (np := 61) (bc := bc) (bs := bs) (cb := 0) (cs := 0) (dd := d - 1) (As := []) (st := []) caX10_readsTerm mlX10_291 imX10_readsTerm seX10_readsTerm rfl rfl (by decide) (fun b hb => wX10_readsTerm (by show 130 + _ ≤ _; omega) hb) (by omega) rfl rfl (Nat.le_of_ble_eq_true rfl) dX10_reduceTerm_58 rfl (fun b5 => ?_)
      refine j_istore_n (np := 62) (lv2 := [(3, .int b5.1), (2, .int b1.1), (0, .ref (E.2.1 + v0)), (1, .int v1)]) rfl (by decide) dX10_reduceTerm_61 rfl rfl ?_
      refine j_aload_n (q := 2) (np := 63) rfl rfl dX10_reduceTerm_62 rfl ?_
      refine j_iconst (np := 64) ci_0 dX10_reduceTerm_63 rfl ?_
      refine j_pI (np := 67) flX10_103 dX10_reduceTerm_64 rfl (fun m6 => ?_)
      refine j_iconst (np := 68) ci_0 dX10_reduceTerm_67 rfl ?_
      refine j_istore (np := 70) (lv2 := [(4, .int (0 : Int32)), (3, .int b5.1), (2, .int b1.1), (0, .ref (E.2.1 + v0)), (1, .int v1)]) (by decide) dX10_reduceTerm_68 rfl rfl ?_
      refine j_sub (lv2 := [(0, .ref (E.2.1 + v0)), (1, .int v1), (3, .int b5.1), (4, .int (0 : Int32))]) [3, 4, 1, 0] rfl ?_
      refine j_loopG (xp := 114) (lvX := fun o7 => [(0, .ref (E.2.1 + v0)), (3, .int o7.1), (4, .int o7.2.1)]) (mX := fun o7 => o7.2.2) (lbX10_reduceTerm_70 hd _ _ _ _) (fun r rr h => h) (fun o7 => ?_)
      refine j_aload_n (q := 0) (np := 115) rfl rfl dX10_reduceTerm_114 rfl ?_
      refine j_iconst (np := 116) ci_0 dX10_reduceTerm_115 rfl ?_
      refine j_pI (np := 119) flX10_180 dX10_reduceTerm_116 rfl (fun m8 => ?_)
      refine j_aload_n (q := 0) (np := 120) rfl rfl dX10_reduceTerm_119 rfl ?_
      refine j_iload_n (q := 1) (np := 121) rfl rfl dX10_reduceTerm_120 rfl ?_
      refine j_iconst (np := 122) ci_0 dX10_reduceTerm_121 rfl ?_
      refine j_callVv (ci := 10) (np := 125) (bc := bc) (bs := bs) (cb := 0) (cs := 0) (dd := d - 1) (As := [.int o7.1, .int (0 : Int32)]) (st := []) caX10_tells mlX10_312 imX10_tells seX10_tells rfl rfl (by decide) (fun b hb => wX10_tells (by show 130 + _ ≤ _; omega) hb) (by omega) rfl rfl (Nat.le_of_ble_eq_true rfl) dX10_reduceTerm_122 rfl (fun b9 => ?_)
      refine j_iload (q := 2) (np := 127) rfl dX10_reduceTerm_125 rfl ?_
      exact j_iret rfl dX10_reduceTerm_127 (fun rr h => h)
    · refine j_sub (lv2 := [(0, .ref (E.2.1 + v0)), (1, .int v1)]) [1, 2] rfl ?_
      exact kbX10_reduceTerm_19 hd
set_option maxRecDepth 100000 in
theorem wX10_reduceTerm {E : qE} {N d : Nat} (hd : 135 ≤ d) {v0 : Nat} {v1 : Int32} {m0 : qM} {b : Int32 × qM} (h : fX10_reduceTerm N v0 v1 m0 = some b) : qRun E yX10_reduceTerm cX10_reduceTerm 6 (some .int) d 0 0 [.ref (E.2.1 + v0), .int v1] m0 (some (.int b.1), b.2) := q_met pnX10 (Nat.le_of_ble_eq_true rfl) (bX10_reduceTerm hd b _ h rfl)
theorem dX10_isRow_0 : decode cX10_isRow 0 = .ok (.iload_n 0, 1) := by decide +kernel
theorem dX10_isRow_1 : decode cX10_isRow 1 = .ok (.iconst 0, 1) := by decide +kernel
theorem dX10_isRow_2 : decode cX10_isRow 2 = .ok (.iconst 2, 1) := by decide +kernel
theorem dX10_isRow_3 : decode cX10_isRow 3 = .ok (.invokestatic 99, 3) := by decide +kernel
theorem dX10_isRow_6 : decode cX10_isRow 6 = .ok (.ireturn, 1) := by decide +kernel
def fX10_isRow (N : Nat) (v0 : Int32) (m0 : qM) : Option (Int32 × qM) :=
  (fX10_in N v0 (0 : Int32) (2 : Int32) m0).bind fun b1 =>
  some (b1.1 &&& 1, b1.2)
set_option maxRecDepth 100000 in
theorem bX10_isRow {E : qE} {N d bc bs : Nat} (hd : 1 ≤ d) {v0 : Int32} {m0 : qM} : qB E yX10_isRow cX10_isRow 1 (some .boolean) (fun _ => True) d bc bs 0 [(0, .int v0)] [] m0 (fX10_isRow N v0 m0) (fun b rr => rr = (some (.int b.1), b.2)) := by
  unfold fX10_isRow
  refine j_iload_n (q := 0) (np := 1) rfl rfl dX10_isRow_0 rfl ?_
  refine j_iconst (np := 2) ci_0 dX10_isRow_1 rfl ?_
  refine j_iconst (np := 3) ci_2 dX10_isRow_2 rfl ?_
  refine j_callSi (np := 6) (bc := bc) (bs := bs) (cb := 0) (cs := 0) (dd := d - 1) (As := [.int v0, .int (0 : Int32), .int (2 : Int32)]) (st := []) caX10_in mlX10_99 stX10_in (fun b hb => wX10_in (by omega) hb) (by omega) rfl rfl (Nat.le_of_ble_eq_true rfl) dX10_isRow_3 rfl (fun b1 => ?_)
  exact j_zret rfl dX10_isRow_6 (fun rr h => h)
set_option maxRecDepth 100000 in
theorem wX10_isRow {E : qE} {N d : Nat} (hd : 1 ≤ d) {v0 : Int32} {m0 : qM} {b : Int32 × qM} (h : fX10_isRow N v0 m0 = some b) : qRun E yX10_isRow cX10_isRow 1 (some .boolean) d 0 0 [.int v0] m0 (some (.int b.1), b.2) := q_met pnX10 (Nat.le_of_ble_eq_true rfl) (bX10_isRow hd b _ h rfl)
theorem dX10_allocate_0 : decode cX10_allocate 0 = .ok (.iload_n 1, 1) := by decide +kernel
theorem dX10_allocate_1 : decode cX10_allocate 1 = .ok (.invokestatic 316, 3) := by decide +kernel
theorem dX10_allocate_4 : decode cX10_allocate 4 = .ok (.ifCond .ne 5, 3) := by decide +kernel
theorem dX10_allocate_7 : decode cX10_allocate 7 = .ok (.iconst (-1), 1) := by decide +kernel
theorem dX10_allocate_8 : decode cX10_allocate 8 = .ok (.ireturn, 1) := by decide +kernel
theorem dX10_allocate_9 : decode cX10_allocate 9 = .ok (.iload_n 2, 1) := by decide +kernel
theorem dX10_allocate_10 : decode cX10_allocate 10 = .ok (.iconst 0, 1) := by decide +kernel
theorem dX10_allocate_11 : decode cX10_allocate 11 = .ok (.iconst 2, 1) := by decide +kernel
theorem dX10_allocate_12 : decode cX10_allocate 12 = .ok (.invokestatic 99, 3) := by decide +kernel
theorem dX10_allocate_15 : decode cX10_allocate 15 = .ok (.ifCond .eq 9, 3) := by decide +kernel
theorem dX10_allocate_18 : decode cX10_allocate 18 = .ok (.iload_n 3, 1) := by decide +kernel
theorem dX10_allocate_19 : decode cX10_allocate 19 = .ok (.bipush 80, 2) := by decide +kernel
theorem dX10_allocate_21 : decode cX10_allocate 21 = .ok (.if_icmp .le 6, 3) := by decide +kernel
theorem dX10_allocate_24 : decode cX10_allocate 24 = .ok (.bipush (-2), 2) := by decide +kernel
theorem dX10_allocate_26 : decode cX10_allocate 26 = .ok (.ireturn, 1) := by decide +kernel
theorem dX10_allocate_27 : decode cX10_allocate 27 = .ok (.iload_n 3, 1) := by decide +kernel
theorem dX10_allocate_28 : decode cX10_allocate 28 = .ok (.ifCond .ge 6, 3) := by decide +kernel
theorem dX10_allocate_31 : decode cX10_allocate 31 = .ok (.bipush (-9), 2) := by decide +kernel
theorem dX10_allocate_33 : decode cX10_allocate 33 = .ok (.ireturn, 1) := by decide +kernel
theorem dX10_allocate_34 : decode cX10_allocate 34 = .ok (.aload_n 0, 1) := by decide +kernel
theorem dX10_allocate_35 : decode cX10_allocate 35 = .ok (.getfield 41, 3) := by decide +kernel
theorem dX10_allocate_38 : decode cX10_allocate 38 = .ok (.iload_n 1, 1) := by decide +kernel
theorem dX10_allocate_39 : decode cX10_allocate 39 = .ok (.iload_n 2, 1) := by decide +kernel
theorem dX10_allocate_40 : decode cX10_allocate 40 = .ok (.iastore, 1) := by decide +kernel
theorem dX10_allocate_41 : decode cX10_allocate 41 = .ok (.aload_n 0, 1) := by decide +kernel
theorem dX10_allocate_42 : decode cX10_allocate 42 = .ok (.getfield 44, 3) := by decide +kernel
theorem dX10_allocate_45 : decode cX10_allocate 45 = .ok (.iload_n 1, 1) := by decide +kernel
theorem dX10_allocate_46 : decode cX10_allocate 46 = .ok (.iload_n 3, 1) := by decide +kernel
theorem dX10_allocate_47 : decode cX10_allocate 47 = .ok (.iastore, 1) := by decide +kernel
theorem dX10_allocate_48 : decode cX10_allocate 48 = .ok (.iconst 0, 1) := by decide +kernel
theorem dX10_allocate_49 : decode cX10_allocate 49 = .ok (.istore 4, 2) := by decide +kernel
theorem dX10_allocate_51 : decode cX10_allocate 51 = .ok (.iload 4, 2) := by decide +kernel
theorem dX10_allocate_53 : decode cX10_allocate 53 = .ok (.bipush 80, 2) := by decide +kernel
theorem dX10_allocate_55 : decode cX10_allocate 55 = .ok (.if_icmp .ge 22, 3) := by decide +kernel
theorem dX10_allocate_58 : decode cX10_allocate 58 = .ok (.aload_n 0, 1) := by decide +kernel
theorem dX10_allocate_59 : decode cX10_allocate 59 = .ok (.getfield 47, 3) := by decide +kernel
theorem dX10_allocate_62 : decode cX10_allocate 62 = .ok (.bipush 80, 2) := by decide +kernel
theorem dX10_allocate_64 : decode cX10_allocate 64 = .ok (.iload_n 1, 1) := by decide +kernel
theorem dX10_allocate_65 : decode cX10_allocate 65 = .ok (.imul, 1) := by decide +kernel
theorem dX10_allocate_66 : decode cX10_allocate 66 = .ok (.iload 4, 2) := by decide +kernel
theorem dX10_allocate_68 : decode cX10_allocate 68 = .ok (.iadd, 1) := by decide +kernel
theorem dX10_allocate_69 : decode cX10_allocate 69 = .ok (.iconst 0, 1) := by decide +kernel
theorem dX10_allocate_70 : decode cX10_allocate 70 = .ok (.iastore, 1) := by decide +kernel
theorem dX10_allocate_71 : decode cX10_allocate 71 = .ok (.iinc 4 1, 3) := by decide +kernel
theorem dX10_allocate_74 : decode cX10_allocate 74 = .ok (.goto (-23), 3) := by decide +kernel
theorem dX10_allocate_77 : decode cX10_allocate 77 = .ok (.iload_n 3, 1) := by decide +kernel
theorem dX10_allocate_78 : decode cX10_allocate 78 = .ok (.ireturn, 1) := by decide +kernel
def lX10_allocate_51 (N : Nat) (v0 : Nat) (v1 : Int32) (v3 : Int32) : Nat → Int32 → qM → Option (qM)
  | 0, _, _ => none
  | n + 1, v4, m0 =>
    if (80 : Int32) ≤ v4 then (
    some m0
    ) else (
    (qgR m0 v0 10 17).bind fun x1 =>
    (qwI m0 x1 12 (((80 : Int32) * v1) + v4) (0 : Int32)).bind fun m2 =>
    lX10_allocate_51 N v0 v1 v3 n (v4 + (1 : Int32)) m2
    )
set_option maxRecDepth 100000 in
theorem lbX10_allocate_51 {E : qE} {N d bc bs : Nat} (hd : 2 ≤ d) {v0 : Nat} {v1 : Int32} {v3 : Int32} : ∀ (n : Nat) (v4 : Int32) (m0 : qM), qB E yX10_allocate cX10_allocate 5 (some .int) (fun _ => True) d bc bs 51 [(0, .ref (E.2.1 + v0)), (1, .int v1), (3, .int v3), (4, .int v4)] [] m0 (lX10_allocate_51 N v0 v1 v3 n v4 m0) (fun o rr => qJ E yX10_allocate cX10_allocate 5 (some .int) (fun _ => True) d bc bs 77 [(3, .int v3)] [] o rr) := by
  intro n
  induction n with
  | zero =>
    intro v4 m0
    exact j_none
  | succ n ih =>
    intro v4 m0
    unfold lX10_allocate_51
    refine j_iload (q := 3) (np := 53) rfl dX10_allocate_51 rfl ?_
    refine j_bipush (np := 55) cb_80 dX10_allocate_53 rfl ?_
    refine j_icmp_ge (tgt := 77) (np := 58) dX10_allocate_55 rfl rfl ?_ ?_
    · refine j_sub (lv2 := [(3, .int v3)]) [2] rfl ?_
      exact j_exit (fun rr h => h)
    · refine j_aload_n (q := 0) (np := 59) rfl rfl dX10_allocate_58 rfl ?_
      refine j_gR (np := 62) flX10_47 dX10_allocate_59 rfl (fun x1 => ?_)
      refine j_bipush (np := 64) cb_80 dX10_allocate_62 rfl ?_
      refine j_iload_n (q := 1) (np := 65) rfl rfl dX10_allocate_64 rfl ?_
      refine j_imul (np := 66) dX10_allocate_65 rfl ?_
      refine j_iload (q := 3) (np := 68) rfl dX10_allocate_66 rfl ?_
      refine j_iadd (np := 69) dX10_allocate_68 rfl ?_
      refine j_iconst (np := 70) ci_0 dX10_allocate_69 rfl ?_
      refine j_iastore (np := 71) dX10_allocate_70 rfl (fun m2 => ?_)
      refine j_iinc (q := 3) (np := 74) (lv2 := [(4, .int (v4 + (1 : Int32))), (0, .ref (E.2.1 + v0)), (1, .int v1), (3, .int v3)]) rfl (congrArg _ ci_1) (by decide) dX10_allocate_71 rfl rfl ?_
      refine j_goto (tgt := 51) dX10_allocate_74 rfl ?_
      refine j_sub (lv2 := [(0, .ref (E.2.1 + v0)), (1, .int v1), (3, .int v3), (4, .int (v4 + (1 : Int32)))]) [1, 2, 3, 0] rfl ?_
      exact ih _ _
def fX10_allocate (N : Nat) (v0 : Nat) (v1 : Int32) (v2 : Int32) (v3 : Int32) (m0 : qM) : Option (Int32 × qM) :=
  (fX10_isRow N v1 m0).bind fun b1 =>
  if b1.1 = 0 then (
  some ((-1 : Int32), b1.2)
  ) else (
  (fX10_in N v2 (0 : Int32) (2 : Int32) b1.2).bind fun b2 =>
  if b2.1 = 0 then (
  some ((-2 : Int32), b2.2)
  ) else (
  if v3 ≤ (80 : Int32) then (
  if 0 ≤ v3 then (
  (qgR b2.2 v0 10 15).bind fun x3 =>
  (qwI b2.2 x3 12 v1 v2).bind fun m4 =>
  (qgR m4 v0 10 16).bind fun x5 =>
  (qwI m4 x5 12 v1 v3).bind fun m6 =>
  (lX10_allocate_51 N v0 v1 v3 N (0 : Int32) m6).bind fun o7 =>
  some (v3, o7)
  ) else (
  some ((-9 : Int32), b2.2)
  )
  ) else (
  some ((-2 : Int32), b2.2)
  )
  )
  )
set_option maxRecDepth 100000 in
theorem bX10_allocate {E : qE} {N d bc bs : Nat} (hd : 2 ≤ d) {v0 : Nat} {v1 : Int32} {v2 : Int32} {v3 : Int32} {m0 : qM} : qB E yX10_allocate cX10_allocate 5 (some .int) (fun _ => True) d bc bs 0 [(0, .ref (E.2.1 + v0)), (1, .int v1), (2, .int v2), (3, .int v3)] [] m0 (fX10_allocate N v0 v1 v2 v3 m0) (fun b rr => rr = (some (.int b.1), b.2)) := by
  unfold fX10_allocate
  refine j_iload_n (q := 1) (np := 1) rfl rfl dX10_allocate_0 rfl ?_
  refine j_callSi (np := 4) (bc := bc) (bs := bs) (cb := 0) (cs := 0) (dd := d - 1) (As := [.int v1]) (st := []) caX10_isRow mlX10_316 stX10_isRow (fun b hb => wX10_isRow (by omega) hb) (by omega) rfl rfl (Nat.le_of_ble_eq_true rfl) dX10_allocate_1 rfl (fun b1 => ?_)
  refine j_if_ne (tgt := 9) (np := 7) dX10_allocate_4 rfl rfl ?_ ?_
  · refine j_iload_n (q := 2) (np := 10) rfl rfl dX10_allocate_9 rfl ?_
    refine j_iconst (np := 11) ci_0 dX10_allocate_10 rfl ?_
    refine j_iconst (np := 12) ci_2 dX10_allocate_11 rfl ?_
    refine j_callSi (np := 15) (bc := bc) (bs := bs) (cb := 0) (cs := 0) (dd := d - 1) (As := [.int v2, .int (0 : Int32), .int (2 : Int32)]) (st := []) caX10_in mlX10_99 stX10_in (fun b hb => wX10_in (by omega) hb) (by omega) rfl rfl (Nat.le_of_ble_eq_true rfl) dX10_allocate_12 rfl (fun b2 => ?_)
    refine j_if_eq (tgt := 24) (np := 18) dX10_allocate_15 rfl rfl ?_ ?_
    · refine j_bipush (np := 26) cb_m2 dX10_allocate_24 rfl ?_
      exact j_iret rfl dX10_allocate_26 (fun rr h => h)
    · refine j_iload_n (q := 3) (np := 19) rfl rfl dX10_allocate_18 rfl ?_
      refine j_bipush (np := 21) cb_80 dX10_allocate_19 rfl ?_
      refine j_icmp_le (tgt := 27) (np := 24) dX10_allocate_21 rfl rfl ?_ ?_
      · refine j_iload_n (q := 3) (np := 28) rfl rfl dX10_allocate_27 rfl ?_
        refine j_if_ge (tgt := 34) (np := 31) dX10_allocate_28 rfl rfl ?_ ?_
        · refine j_aload_n (q := 0) (np := 35) rfl rfl dX10_allocate_34 rfl ?_
          refine j_gR (np := 38) flX10_41 dX10_allocate_35 rfl (fun x3 => ?_)
          refine j_iload_n (q := 1) (np := 39) rfl rfl dX10_allocate_38 rfl ?_
          refine j_iload_n (q := 2) (np := 40) rfl rfl dX10_allocate_39 rfl ?_
          refine j_iastore (np := 41) dX10_allocate_40 rfl (fun m4 => ?_)
          refine j_aload_n (q := 0) (np := 42) rfl rfl dX10_allocate_41 rfl ?_
          refine j_gR (np := 45) flX10_44 dX10_allocate_42 rfl (fun x5 => ?_)
          refine j_iload_n (q := 1) (np := 46) rfl rfl dX10_allocate_45 rfl ?_
          refine j_iload_n (q := 3) (np := 47) rfl rfl dX10_allocate_46 rfl ?_
          refine j_iastore (np := 48) dX10_allocate_47 rfl (fun m6 => ?_)
          refine j_iconst (np := 49) ci_0 dX10_allocate_48 rfl ?_
          refine j_istore (np := 51) (lv2 := [(4, .int (0 : Int32)), (0, .ref (E.2.1 + v0)), (1, .int v1), (2, .int v2), (3, .int v3)]) (by decide) dX10_allocate_49 rfl rfl ?_
          refine j_sub (lv2 := [(0, .ref (E.2.1 + v0)), (1, .int v1), (3, .int v3), (4, .int (0 : Int32))]) [1, 2, 4, 0] rfl ?_
          refine j_loop (xp := 77) (lvX := fun o7 => [(3, .int v3)]) (mX := fun o7 => o7) (lbX10_allocate_51 hd _ _ _) (fun o7 => ?_)
          refine j_iload_n (q := 0) (np := 78) rfl rfl dX10_allocate_77 rfl ?_
          exact j_iret rfl dX10_allocate_78 (fun rr h => h)
        · refine j_bipush (np := 33) cb_m9 dX10_allocate_31 rfl ?_
          exact j_iret rfl dX10_allocate_33 (fun rr h => h)
      · refine j_bipush (np := 26) cb_m2 dX10_allocate_24 rfl ?_
        exact j_iret rfl dX10_allocate_26 (fun rr h => h)
  · refine j_iconst (np := 8) ci_m1 dX10_allocate_7 rfl ?_
    exact j_iret rfl dX10_allocate_8 (fun rr h => h)
set_option maxRecDepth 100000 in
theorem wX10_allocate {E : qE} {N d : Nat} (hd : 2 ≤ d) {v0 : Nat} {v1 : Int32} {v2 : Int32} {v3 : Int32} {m0 : qM} {b : Int32 × qM} (h : fX10_allocate N v0 v1 v2 v3 m0 = some b) : qRun E yX10_allocate cX10_allocate 5 (some .int) d 0 0 [.ref (E.2.1 + v0), .int v1, .int v2, .int v3] m0 (some (.int b.1), b.2) := q_met pnX10 (Nat.le_of_ble_eq_true rfl) (bX10_allocate hd b _ h rfl)
theorem dX10_lacks_0 : decode cX10_lacks 0 = .ok (.iload_n 1, 1) := by decide +kernel
theorem dX10_lacks_1 : decode cX10_lacks 1 = .ok (.invokestatic 316, 3) := by decide +kernel
theorem dX10_lacks_4 : decode cX10_lacks 4 = .ok (.ifCond .ne 7, 3) := by decide +kernel
theorem dX10_lacks_7 : decode cX10_lacks 7 = .ok (.iconst (-1), 1) := by decide +kernel
theorem dX10_lacks_8 : decode cX10_lacks 8 = .ok (.goto 18, 3) := by decide +kernel
theorem dX10_lacks_11 : decode cX10_lacks 11 = .ok (.aload_n 0, 1) := by decide +kernel
theorem dX10_lacks_12 : decode cX10_lacks 12 = .ok (.getfield 41, 3) := by decide +kernel
theorem dX10_lacks_15 : decode cX10_lacks 15 = .ok (.iload_n 1, 1) := by decide +kernel
theorem dX10_lacks_16 : decode cX10_lacks 16 = .ok (.iaload, 1) := by decide +kernel
theorem dX10_lacks_17 : decode cX10_lacks 17 = .ok (.ifCond .ge 8, 3) := by decide +kernel
theorem dX10_lacks_20 : decode cX10_lacks 20 = .ok (.bipush (-6), 2) := by decide +kernel
theorem dX10_lacks_22 : decode cX10_lacks 22 = .ok (.goto 4, 3) := by decide +kernel
theorem dX10_lacks_25 : decode cX10_lacks 25 = .ok (.iconst 0, 1) := by decide +kernel
theorem dX10_lacks_26 : decode cX10_lacks 26 = .ok (.ireturn, 1) := by decide +kernel
def fX10_lacks (N : Nat) (v0 : Nat) (v1 : Int32) (m0 : qM) : Option (Int32 × qM) :=
  (fX10_isRow N v1 m0).bind fun b1 =>
  if b1.1 = 0 then (
  some ((-1 : Int32), b1.2)
  ) else (
  (qgR b1.2 v0 10 15).bind fun x2 =>
  (qaI b1.2 x2 12 v1).bind fun x3 =>
  if 0 ≤ x3 then (
  some ((0 : Int32), b1.2)
  ) else (
  some ((-6 : Int32), b1.2)
  )
  )
set_option maxRecDepth 100000 in
theorem bX10_lacks {E : qE} {N d bc bs : Nat} (hd : 2 ≤ d) {v0 : Nat} {v1 : Int32} {m0 : qM} : qB E yX10_lacks cX10_lacks 2 (some .int) (fun _ => True) d bc bs 0 [(0, .ref (E.2.1 + v0)), (1, .int v1)] [] m0 (fX10_lacks N v0 v1 m0) (fun b rr => rr = (some (.int b.1), b.2)) := by
  unfold fX10_lacks
  refine j_iload_n (q := 1) (np := 1) rfl rfl dX10_lacks_0 rfl ?_
  refine j_callSi (np := 4) (bc := bc) (bs := bs) (cb := 0) (cs := 0) (dd := d - 1) (As := [.int v1]) (st := []) caX10_isRow mlX10_316 stX10_isRow (fun b hb => wX10_isRow (by omega) hb) (by omega) rfl rfl (Nat.le_of_ble_eq_true rfl) dX10_lacks_1 rfl (fun b1 => ?_)
  refine j_if_ne (tgt := 11) (np := 7) dX10_lacks_4 rfl rfl ?_ ?_
  · refine j_aload_n (q := 0) (np := 12) rfl rfl dX10_lacks_11 rfl ?_
    refine j_gR (np := 15) flX10_41 dX10_lacks_12 rfl (fun x2 => ?_)
    refine j_iload_n (q := 1) (np := 16) rfl rfl dX10_lacks_15 rfl ?_
    refine j_iaload (np := 17) dX10_lacks_16 rfl (fun x3 => ?_)
    refine j_if_ge (tgt := 25) (np := 20) dX10_lacks_17 rfl rfl ?_ ?_
    · refine j_iconst (np := 26) ci_0 dX10_lacks_25 rfl ?_
      exact j_iret rfl dX10_lacks_26 (fun rr h => h)
    · refine j_bipush (np := 22) cb_m6 dX10_lacks_20 rfl ?_
      refine j_goto (tgt := 26) dX10_lacks_22 rfl ?_
      exact j_iret rfl dX10_lacks_26 (fun rr h => h)
  · refine j_iconst (np := 8) ci_m1 dX10_lacks_7 rfl ?_
    refine j_goto (tgt := 26) dX10_lacks_8 rfl ?_
    exact j_iret rfl dX10_lacks_26 (fun rr h => h)
set_option maxRecDepth 100000 in
theorem wX10_lacks {E : qE} {N d : Nat} (hd : 2 ≤ d) {v0 : Nat} {v1 : Int32} {m0 : qM} {b : Int32 × qM} (h : fX10_lacks N v0 v1 m0 = some b) : qRun E yX10_lacks cX10_lacks 2 (some .int) d 0 0 [.ref (E.2.1 + v0), .int v1] m0 (some (.int b.1), b.2) := q_met pnX10 (Nat.le_of_ble_eq_true rfl) (bX10_lacks hd b _ h rfl)
theorem dX10_sets_0 : decode cX10_sets 0 = .ok (.aload_n 0, 1) := by decide +kernel
theorem dX10_sets_1 : decode cX10_sets 1 = .ok (.getfield 47, 3) := by decide +kernel
theorem dX10_sets_4 : decode cX10_sets 4 = .ok (.bipush 80, 2) := by decide +kernel
theorem dX10_sets_6 : decode cX10_sets 6 = .ok (.iload_n 1, 1) := by decide +kernel
theorem dX10_sets_7 : decode cX10_sets 7 = .ok (.imul, 1) := by decide +kernel
theorem dX10_sets_8 : decode cX10_sets 8 = .ok (.iload_n 2, 1) := by decide +kernel
theorem dX10_sets_9 : decode cX10_sets 9 = .ok (.iadd, 1) := by decide +kernel
theorem dX10_sets_10 : decode cX10_sets 10 = .ok (.aload_n 0, 1) := by decide +kernel
theorem dX10_sets_11 : decode cX10_sets 11 = .ok (.getfield 41, 3) := by decide +kernel
theorem dX10_sets_14 : decode cX10_sets 14 = .ok (.iload_n 1, 1) := by decide +kernel
theorem dX10_sets_15 : decode cX10_sets 15 = .ok (.iaload, 1) := by decide +kernel
theorem dX10_sets_16 : decode cX10_sets 16 = .ok (.ifCond .ne 8, 3) := by decide +kernel
theorem dX10_sets_19 : decode cX10_sets 19 = .ok (.iload_n 3, 1) := by decide +kernel
theorem dX10_sets_20 : decode cX10_sets 20 = .ok (.i2b, 1) := by decide +kernel
theorem dX10_sets_21 : decode cX10_sets 21 = .ok (.goto 19, 3) := by decide +kernel
theorem dX10_sets_24 : decode cX10_sets 24 = .ok (.aload_n 0, 1) := by decide +kernel
theorem dX10_sets_25 : decode cX10_sets 25 = .ok (.getfield 41, 3) := by decide +kernel
theorem dX10_sets_28 : decode cX10_sets 28 = .ok (.iload_n 1, 1) := by decide +kernel
theorem dX10_sets_29 : decode cX10_sets 29 = .ok (.iaload, 1) := by decide +kernel
theorem dX10_sets_30 : decode cX10_sets 30 = .ok (.iconst 1, 1) := by decide +kernel
theorem dX10_sets_31 : decode cX10_sets 31 = .ok (.if_icmp .ne 8, 3) := by decide +kernel
theorem dX10_sets_34 : decode cX10_sets 34 = .ok (.iload_n 3, 1) := by decide +kernel
theorem dX10_sets_35 : decode cX10_sets 35 = .ok (.i2c, 1) := by decide +kernel
theorem dX10_sets_36 : decode cX10_sets 36 = .ok (.goto 4, 3) := by decide +kernel
theorem dX10_sets_39 : decode cX10_sets 39 = .ok (.iload_n 3, 1) := by decide +kernel
theorem dX10_sets_40 : decode cX10_sets 40 = .ok (.iastore, 1) := by decide +kernel
theorem dX10_sets_41 : decode cX10_sets 41 = .ok (.return_, 1) := by decide +kernel
def kX10_sets_40 (N : Nat)  (s0 : Nat) (s1 : Int32) (s2 : Int32) (m0 : qM) : Option (qM) :=
  (qwI m0 s0 12 s1 s2).bind fun m1 =>
  some m1
set_option maxRecDepth 100000 in
theorem kbX10_sets_40 {E : qE} {N d bc bs : Nat} (hd : 0 ≤ d)  {s0 : Nat} {s1 : Int32} {s2 : Int32} {m0 : qM} : qB E yX10_sets cX10_sets 4 none (fun _ => True) d bc bs 40 [] [.int s2, .int s1, .ref (E.2.1 + s0)] m0 (kX10_sets_40 N s0 s1 s2 m0) (fun b rr => rr = (none, b)) := by
  unfold kX10_sets_40
  refine j_iastore (np := 41) dX10_sets_40 rfl (fun m1 => ?_)
  exact j_vret rfl dX10_sets_41 (fun rr h => h)
def fX10_sets (N : Nat) (v0 : Nat) (v1 : Int32) (v2 : Int32) (v3 : Int32) (m0 : qM) : Option (qM) :=
  (qgR m0 v0 10 17).bind fun x1 =>
  (qgR m0 v0 10 15).bind fun x2 =>
  (qaI m0 x2 12 v1).bind fun x3 =>
  if x3 = 0 then (
  kX10_sets_40 N x1 (((80 : Int32) * v1) + v2) v3.toInt8.toInt32 m0
  ) else (
  (qgR m0 v0 10 15).bind fun x4 =>
  (qaI m0 x4 12 v1).bind fun x5 =>
  if x5 = (1 : Int32) then (
  kX10_sets_40 N x1 (((80 : Int32) * v1) + v2) ((v3.toUInt32 % 65536).toInt32) m0
  ) else (
  kX10_sets_40 N x1 (((80 : Int32) * v1) + v2) v3 m0
  )
  )
set_option maxRecDepth 100000 in
theorem bX10_sets {E : qE} {N d bc bs : Nat} (hd : 0 ≤ d) {v0 : Nat} {v1 : Int32} {v2 : Int32} {v3 : Int32} {m0 : qM} : qB E yX10_sets cX10_sets 4 none (fun _ => True) d bc bs 0 [(0, .ref (E.2.1 + v0)), (1, .int v1), (2, .int v2), (3, .int v3)] [] m0 (fX10_sets N v0 v1 v2 v3 m0) (fun b rr => rr = (none, b)) := by
  unfold fX10_sets
  refine j_aload_n (q := 0) (np := 1) rfl rfl dX10_sets_0 rfl ?_
  refine j_gR (np := 4) flX10_47 dX10_sets_1 rfl (fun x1 => ?_)
  refine j_bipush (np := 6) cb_80 dX10_sets_4 rfl ?_
  refine j_iload_n (q := 1) (np := 7) rfl rfl dX10_sets_6 rfl ?_
  refine j_imul (np := 8) dX10_sets_7 rfl ?_
  refine j_iload_n (q := 2) (np := 9) rfl rfl dX10_sets_8 rfl ?_
  refine j_iadd (np := 10) dX10_sets_9 rfl ?_
  refine j_aload_n (q := 0) (np := 11) rfl rfl dX10_sets_10 rfl ?_
  refine j_gR (np := 14) flX10_41 dX10_sets_11 rfl (fun x2 => ?_)
  refine j_iload_n (q := 1) (np := 15) rfl rfl dX10_sets_14 rfl ?_
  refine j_iaload (np := 16) dX10_sets_15 rfl (fun x3 => ?_)
  refine j_if_ne (tgt := 24) (np := 19) dX10_sets_16 rfl rfl ?_ ?_
  · refine j_aload_n (q := 0) (np := 25) rfl rfl dX10_sets_24 rfl ?_
    refine j_gR (np := 28) flX10_41 dX10_sets_25 rfl (fun x4 => ?_)
    refine j_iload_n (q := 1) (np := 29) rfl rfl dX10_sets_28 rfl ?_
    refine j_iaload (np := 30) dX10_sets_29 rfl (fun x5 => ?_)
    refine j_iconst (np := 31) ci_1 dX10_sets_30 rfl ?_
    refine j_icmp_ne (tgt := 39) (np := 34) dX10_sets_31 rfl rfl ?_ ?_
    · refine j_iload_n (q := 3) (np := 40) rfl rfl dX10_sets_39 rfl ?_
      refine j_sub (lv2 := []) [] rfl ?_
      exact kbX10_sets_40 hd
    · refine j_iload_n (q := 3) (np := 35) rfl rfl dX10_sets_34 rfl ?_
      refine j_i2c (np := 36) dX10_sets_35 rfl ?_
      refine j_goto (tgt := 40) dX10_sets_36 rfl ?_
      refine j_sub (lv2 := []) [] rfl ?_
      exact kbX10_sets_40 hd
  · refine j_iload_n (q := 3) (np := 20) rfl rfl dX10_sets_19 rfl ?_
    refine j_i2b (np := 21) dX10_sets_20 rfl ?_
    refine j_goto (tgt := 40) dX10_sets_21 rfl ?_
    refine j_sub (lv2 := []) [] rfl ?_
    exact kbX10_sets_40 hd
set_option maxRecDepth 100000 in
theorem wX10_sets {E : qE} {N d : Nat} (hd : 0 ≤ d) {v0 : Nat} {v1 : Int32} {v2 : Int32} {v3 : Int32} {m0 : qM} {b : qM} (h : fX10_sets N v0 v1 v2 v3 m0 = some b) : qRun E yX10_sets cX10_sets 4 none d 0 0 [.ref (E.2.1 + v0), .int v1, .int v2, .int v3] m0 (none, b) := q_met pnX10 (Nat.le_of_ble_eq_true rfl) (bX10_sets hd b _ h rfl)
theorem dX10_put_0 : decode cX10_put 0 = .ok (.aload_n 0, 1) := by decide +kernel
theorem dX10_put_1 : decode cX10_put 1 = .ok (.iload_n 1, 1) := by decide +kernel
theorem dX10_put_2 : decode cX10_put 2 = .ok (.invokevirtual 319, 3) := by decide +kernel
theorem dX10_put_5 : decode cX10_put 5 = .ok (.istore 4, 2) := by decide +kernel
theorem dX10_put_7 : decode cX10_put 7 = .ok (.iload 4, 2) := by decide +kernel
theorem dX10_put_9 : decode cX10_put 9 = .ok (.ifCond .ge 6, 3) := by decide +kernel
theorem dX10_put_12 : decode cX10_put 12 = .ok (.iload 4, 2) := by decide +kernel
theorem dX10_put_14 : decode cX10_put 14 = .ok (.ireturn, 1) := by decide +kernel
theorem dX10_put_15 : decode cX10_put 15 = .ok (.iload_n 2, 1) := by decide +kernel
theorem dX10_put_16 : decode cX10_put 16 = .ok (.iconst 0, 1) := by decide +kernel
theorem dX10_put_17 : decode cX10_put 17 = .ok (.aload_n 0, 1) := by decide +kernel
theorem dX10_put_18 : decode cX10_put 18 = .ok (.getfield 44, 3) := by decide +kernel
theorem dX10_put_21 : decode cX10_put 21 = .ok (.iload_n 1, 1) := by decide +kernel
theorem dX10_put_22 : decode cX10_put 22 = .ok (.iaload, 1) := by decide +kernel
theorem dX10_put_23 : decode cX10_put 23 = .ok (.iconst 1, 1) := by decide +kernel
theorem dX10_put_24 : decode cX10_put 24 = .ok (.isub, 1) := by decide +kernel
theorem dX10_put_25 : decode cX10_put 25 = .ok (.invokestatic 99, 3) := by decide +kernel
theorem dX10_put_28 : decode cX10_put 28 = .ok (.ifCond .ne 6, 3) := by decide +kernel
theorem dX10_put_31 : decode cX10_put 31 = .ok (.bipush (-8), 2) := by decide +kernel
theorem dX10_put_33 : decode cX10_put 33 = .ok (.ireturn, 1) := by decide +kernel
theorem dX10_put_34 : decode cX10_put 34 = .ok (.aload_n 0, 1) := by decide +kernel
theorem dX10_put_35 : decode cX10_put 35 = .ok (.iload_n 1, 1) := by decide +kernel
theorem dX10_put_36 : decode cX10_put 36 = .ok (.iload_n 2, 1) := by decide +kernel
theorem dX10_put_37 : decode cX10_put 37 = .ok (.iload_n 3, 1) := by decide +kernel
theorem dX10_put_38 : decode cX10_put 38 = .ok (.invokevirtual 322, 3) := by decide +kernel
theorem dX10_put_41 : decode cX10_put 41 = .ok (.iconst 1, 1) := by decide +kernel
theorem dX10_put_42 : decode cX10_put 42 = .ok (.ireturn, 1) := by decide +kernel
def fX10_put (N : Nat) (v0 : Nat) (v1 : Int32) (v2 : Int32) (v3 : Int32) (m0 : qM) : Option (Int32 × qM) :=
  (qChk m0 v0 10 (fX10_lacks N v0 v1 m0)).bind fun b1 =>
  if 0 ≤ b1.1 then (
  (qgR b1.2 v0 10 16).bind fun x2 =>
  (qaI b1.2 x2 12 v1).bind fun x3 =>
  (fX10_in N v2 (0 : Int32) (x3 - (1 : Int32)) b1.2).bind fun b4 =>
  if b4.1 = 0 then (
  some ((-8 : Int32), b4.2)
  ) else (
  (qChk b4.2 v0 10 (fX10_sets N v0 v1 v2 v3 b4.2)).bind fun b5 =>
  some ((1 : Int32), b5)
  )
  ) else (
  some (b1.1, b1.2)
  )
set_option maxRecDepth 100000 in
theorem bX10_put {E : qE} {N d bc bs : Nat} (hd : 3 ≤ d) {v0 : Nat} {v1 : Int32} {v2 : Int32} {v3 : Int32} {m0 : qM} : qB E yX10_put cX10_put 5 (some .int) (fun _ => True) d bc bs 0 [(0, .ref (E.2.1 + v0)), (1, .int v1), (2, .int v2), (3, .int v3)] [] m0 (fX10_put N v0 v1 v2 v3 m0) (fun b rr => rr = (some (.int b.1), b.2)) := by
  unfold fX10_put
  refine j_aload_n (q := 0) (np := 1) rfl rfl dX10_put_0 rfl ?_
  refine j_iload_n (q := 1) (np := 2) rfl rfl dX10_put_1 rfl ?_
  refine j_callVi (ci := 10) (np := 5) (bc := bc) (bs := bs) (cb := 0) (cs := 0) (dd := d - 1) (As := [.int v1]) (st := []) caX10_lacks mlX10_319 imX10_lacks seX10_lacks rfl rfl (by decide) (fun b hb => wX10_lacks (by omega) hb) (by omega) rfl rfl (Nat.le_of_ble_eq_true rfl) dX10_put_2 rfl (fun b1 => ?_)
  refine j_istore (np := 7) (lv2 := [(4, .int b1.1), (0, .ref (E.2.1 + v0)), (1, .int v1), (2, .int v2), (3, .int v3)]) (by decide) dX10_put_5 rfl rfl ?_
  refine j_iload (q := 0) (np := 9) rfl dX10_put_7 rfl ?_
  refine j_if_ge (tgt := 15) (np := 12) dX10_put_9 rfl rfl ?_ ?_
  · refine j_iload_n (q := 3) (np := 16) rfl rfl dX10_put_15 rfl ?_
    refine j_iconst (np := 17) ci_0 dX10_put_16 rfl ?_
    refine j_aload_n (q := 1) (np := 18) rfl rfl dX10_put_17 rfl ?_
    refine j_gR (np := 21) flX10_44 dX10_put_18 rfl (fun x2 => ?_)
    refine j_iload_n (q := 2) (np := 22) rfl rfl dX10_put_21 rfl ?_
    refine j_iaload (np := 23) dX10_put_22 rfl (fun x3 => ?_)
    refine j_iconst (np := 24) ci_1 dX10_put_23 rfl ?_
    refine j_isub (np := 25) dX10_put_24 rfl ?_
    refine j_callSi (np := 28) (bc := bc) (bs := bs) (cb := 0) (cs := 0) (dd := d - 1) (As := [.int v2, .int (0 : Int32), .int (x3 - (1 : Int32))]) (st := []) caX10_in mlX10_99 stX10_in (fun b hb => wX10_in (by omega) hb) (by omega) rfl rfl (Nat.le_of_ble_eq_true rfl) dX10_put_25 rfl (fun b4 => ?_)
    refine j_if_ne (tgt := 34) (np := 31) dX10_put_28 rfl rfl ?_ ?_
    · refine j_aload_n (q := 1) (np := 35) rfl rfl dX10_put_34 rfl ?_
      refine j_iload_n (q := 2) (np := 36) rfl rfl dX10_put_35 rfl ?_
      refine j_iload_n (q := 3) (np := 37) rfl rfl dX10_put_36 rfl ?_
      refine j_iload_n (q := 4) (np := 38) rfl rfl dX10_put_37 rfl ?_
      refine j_callVv (ci := 10) (np := 41) (bc := bc) (bs := bs) (cb := 0) (cs := 0) (dd := d - 1) (As := [.int v1, .int v2, .int v3]) (st := []) caX10_sets mlX10_322 imX10_sets seX10_sets rfl rfl (by decide) (fun b hb => wX10_sets (by omega) hb) (by omega) rfl rfl (Nat.le_of_ble_eq_true rfl) dX10_put_38 rfl (fun b5 => ?_)
      refine j_iconst (np := 42) ci_1 dX10_put_41 rfl ?_
      exact j_iret rfl dX10_put_42 (fun rr h => h)
    · refine j_bipush (np := 33) cb_m8 dX10_put_31 rfl ?_
      exact j_iret rfl dX10_put_33 (fun rr h => h)
  · refine j_iload (q := 0) (np := 14) rfl dX10_put_12 rfl ?_
    exact j_iret rfl dX10_put_14 (fun rr h => h)
set_option maxRecDepth 100000 in
theorem wX10_put {E : qE} {N d : Nat} (hd : 3 ≤ d) {v0 : Nat} {v1 : Int32} {v2 : Int32} {v3 : Int32} {m0 : qM} {b : Int32 × qM} (h : fX10_put N v0 v1 v2 v3 m0 = some b) : qRun E yX10_put cX10_put 5 (some .int) d 0 0 [.ref (E.2.1 + v0), .int v1, .int v2, .int v3] m0 (some (.int b.1), b.2) := q_met pnX10 (Nat.le_of_ble_eq_true rfl) (bX10_put hd b _ h rfl)
theorem dX10_rowElement_0 : decode cX10_rowElement 0 = .ok (.aload_n 0, 1) := by decide +kernel
theorem dX10_rowElement_1 : decode cX10_rowElement 1 = .ok (.iload_n 1, 1) := by decide +kernel
theorem dX10_rowElement_2 : decode cX10_rowElement 2 = .ok (.invokevirtual 319, 3) := by decide +kernel
theorem dX10_rowElement_5 : decode cX10_rowElement 5 = .ok (.ifCond .lt 19, 3) := by decide +kernel
theorem dX10_rowElement_8 : decode cX10_rowElement 8 = .ok (.iload_n 2, 1) := by decide +kernel
theorem dX10_rowElement_9 : decode cX10_rowElement 9 = .ok (.iconst 0, 1) := by decide +kernel
theorem dX10_rowElement_10 : decode cX10_rowElement 10 = .ok (.aload_n 0, 1) := by decide +kernel
theorem dX10_rowElement_11 : decode cX10_rowElement 11 = .ok (.getfield 44, 3) := by decide +kernel
theorem dX10_rowElement_14 : decode cX10_rowElement 14 = .ok (.iload_n 1, 1) := by decide +kernel
theorem dX10_rowElement_15 : decode cX10_rowElement 15 = .ok (.iaload, 1) := by decide +kernel
theorem dX10_rowElement_16 : decode cX10_rowElement 16 = .ok (.iconst 1, 1) := by decide +kernel
theorem dX10_rowElement_17 : decode cX10_rowElement 17 = .ok (.isub, 1) := by decide +kernel
theorem dX10_rowElement_18 : decode cX10_rowElement 18 = .ok (.invokestatic 99, 3) := by decide +kernel
theorem dX10_rowElement_21 : decode cX10_rowElement 21 = .ok (.ifCond .ne 9, 3) := by decide +kernel
theorem dX10_rowElement_24 : decode cX10_rowElement 24 = .ok (.ldc2_w 328, 3) := by decide +kernel
theorem dX10_rowElement_27 : decode cX10_rowElement 27 = .ok (.goto 15, 3) := by decide +kernel
theorem dX10_rowElement_30 : decode cX10_rowElement 30 = .ok (.aload_n 0, 1) := by decide +kernel
theorem dX10_rowElement_31 : decode cX10_rowElement 31 = .ok (.getfield 47, 3) := by decide +kernel
theorem dX10_rowElement_34 : decode cX10_rowElement 34 = .ok (.bipush 80, 2) := by decide +kernel
theorem dX10_rowElement_36 : decode cX10_rowElement 36 = .ok (.iload_n 1, 1) := by decide +kernel
theorem dX10_rowElement_37 : decode cX10_rowElement 37 = .ok (.imul, 1) := by decide +kernel
theorem dX10_rowElement_38 : decode cX10_rowElement 38 = .ok (.iload_n 2, 1) := by decide +kernel
theorem dX10_rowElement_39 : decode cX10_rowElement 39 = .ok (.iadd, 1) := by decide +kernel
theorem dX10_rowElement_40 : decode cX10_rowElement 40 = .ok (.iaload, 1) := by decide +kernel
theorem dX10_rowElement_41 : decode cX10_rowElement 41 = .ok (.i2l, 1) := by decide +kernel
theorem dX10_rowElement_42 : decode cX10_rowElement 42 = .ok (.lreturn, 1) := by decide +kernel
def fX10_rowElement (N : Nat) (v0 : Nat) (v1 : Int32) (v2 : Int32) (m0 : qM) : Option (Int64 × qM) :=
  (qChk m0 v0 10 (fX10_lacks N v0 v1 m0)).bind fun b1 =>
  if b1.1 < 0 then (
  some ((-9223372036854775808 : Int64), b1.2)
  ) else (
  (qgR b1.2 v0 10 16).bind fun x2 =>
  (qaI b1.2 x2 12 v1).bind fun x3 =>
  (fX10_in N v2 (0 : Int32) (x3 - (1 : Int32)) b1.2).bind fun b4 =>
  if b4.1 = 0 then (
  some ((-9223372036854775808 : Int64), b4.2)
  ) else (
  (qgR b4.2 v0 10 17).bind fun x5 =>
  (qaI b4.2 x5 12 (((80 : Int32) * v1) + v2)).bind fun x6 =>
  some (x6.toInt64, b4.2)
  )
  )
set_option maxRecDepth 100000 in
theorem bX10_rowElement {E : qE} {N d bc bs : Nat} (hd : 3 ≤ d) {v0 : Nat} {v1 : Int32} {v2 : Int32} {m0 : qM} : qB E yX10_rowElement cX10_rowElement 3 (some .long) (fun _ => True) d bc bs 0 [(0, .ref (E.2.1 + v0)), (1, .int v1), (2, .int v2)] [] m0 (fX10_rowElement N v0 v1 v2 m0) (fun b rr => rr = (some (.long b.1), b.2)) := by
  unfold fX10_rowElement
  refine j_aload_n (q := 0) (np := 1) rfl rfl dX10_rowElement_0 rfl ?_
  refine j_iload_n (q := 1) (np := 2) rfl rfl dX10_rowElement_1 rfl ?_
  refine j_callVi (ci := 10) (np := 5) (bc := bc) (bs := bs) (cb := 0) (cs := 0) (dd := d - 1) (As := [.int v1]) (st := []) caX10_lacks mlX10_319 imX10_lacks seX10_lacks rfl rfl (by decide) (fun b hb => wX10_lacks (by omega) hb) (by omega) rfl rfl (Nat.le_of_ble_eq_true rfl) dX10_rowElement_2 rfl (fun b1 => ?_)
  refine j_if_lt (tgt := 24) (np := 8) dX10_rowElement_5 rfl rfl ?_ ?_
  · refine j_ldc2 (np := 27) lgX10_328 dX10_rowElement_24 rfl ?_
    refine j_goto (tgt := 42) dX10_rowElement_27 rfl ?_
    exact j_lret rfl dX10_rowElement_42 (fun rr h => h)
  · refine j_iload_n (q := 2) (np := 9) rfl rfl dX10_rowElement_8 rfl ?_
    refine j_iconst (np := 10) ci_0 dX10_rowElement_9 rfl ?_
    refine j_aload_n (q := 0) (np := 11) rfl rfl dX10_rowElement_10 rfl ?_
    refine j_gR (np := 14) flX10_44 dX10_rowElement_11 rfl (fun x2 => ?_)
    refine j_iload_n (q := 1) (np := 15) rfl rfl dX10_rowElement_14 rfl ?_
    refine j_iaload (np := 16) dX10_rowElement_15 rfl (fun x3 => ?_)
    refine j_iconst (np := 17) ci_1 dX10_rowElement_16 rfl ?_
    refine j_isub (np := 18) dX10_rowElement_17 rfl ?_
    refine j_callSi (np := 21) (bc := bc) (bs := bs) (cb := 0) (cs := 0) (dd := d - 1) (As := [.int v2, .int (0 : Int32), .int (x3 - (1 : Int32))]) (st := []) caX10_in mlX10_99 stX10_in (fun b hb => wX10_in (by omega) hb) (by omega) rfl rfl (Nat.le_of_ble_eq_true rfl) dX10_rowElement_18 rfl (fun b4 => ?_)
    refine j_if_ne (tgt := 30) (np := 24) dX10_rowElement_21 rfl rfl ?_ ?_
    · refine j_aload_n (q := 0) (np := 31) rfl rfl dX10_rowElement_30 rfl ?_
      refine j_gR (np := 34) flX10_47 dX10_rowElement_31 rfl (fun x5 => ?_)
      refine j_bipush (np := 36) cb_80 dX10_rowElement_34 rfl ?_
      refine j_iload_n (q := 1) (np := 37) rfl rfl dX10_rowElement_36 rfl ?_
      refine j_imul (np := 38) dX10_rowElement_37 rfl ?_
      refine j_iload_n (q := 2) (np := 39) rfl rfl dX10_rowElement_38 rfl ?_
      refine j_iadd (np := 40) dX10_rowElement_39 rfl ?_
      refine j_iaload (np := 41) dX10_rowElement_40 rfl (fun x6 => ?_)
      refine j_i2l (np := 42) dX10_rowElement_41 rfl ?_
      exact j_lret rfl dX10_rowElement_42 (fun rr h => h)
    · refine j_ldc2 (np := 27) lgX10_328 dX10_rowElement_24 rfl ?_
      refine j_goto (tgt := 42) dX10_rowElement_27 rfl ?_
      exact j_lret rfl dX10_rowElement_42 (fun rr h => h)
set_option maxRecDepth 100000 in
theorem wX10_rowElement {E : qE} {N d : Nat} (hd : 3 ≤ d) {v0 : Nat} {v1 : Int32} {v2 : Int32} {m0 : qM} {b : Int64 × qM} (h : fX10_rowElement N v0 v1 v2 m0 = some b) : qRun E yX10_rowElement cX10_rowElement 3 (some .long) d 0 0 [.ref (E.2.1 + v0), .int v1, .int v2] m0 (some (.long b.1), b.2) := q_met pnX10 (Nat.le_of_ble_eq_true rfl) (bX10_rowElement hd b _ h rfl)
theorem dX10_copyElements_0 : decode cX10_copyElements 0 = .ok (.iload_n 1, 1) := by decide +kernel
theorem dX10_copyElements_1 : decode cX10_copyElements 1 = .ok (.invokestatic 316, 3) := by decide +kernel
theorem dX10_copyElements_4 : decode cX10_copyElements 4 = .ok (.ifCond .eq 10, 3) := by decide +kernel
theorem dX10_copyElements_7 : decode cX10_copyElements 7 = .ok (.iload_n 3, 1) := by decide +kernel
theorem dX10_copyElements_8 : decode cX10_copyElements 8 = .ok (.invokestatic 316, 3) := by decide +kernel
theorem dX10_copyElements_11 : decode cX10_copyElements 11 = .ok (.ifCond .ne 5, 3) := by decide +kernel
theorem dX10_copyElements_14 : decode cX10_copyElements 14 = .ok (.iconst (-1), 1) := by decide +kernel
theorem dX10_copyElements_15 : decode cX10_copyElements 15 = .ok (.ireturn, 1) := by decide +kernel
theorem dX10_copyElements_16 : decode cX10_copyElements 16 = .ok (.aload_n 0, 1) := by decide +kernel
theorem dX10_copyElements_17 : decode cX10_copyElements 17 = .ok (.getfield 41, 3) := by decide +kernel
theorem dX10_copyElements_20 : decode cX10_copyElements 20 = .ok (.iload_n 1, 1) := by decide +kernel
theorem dX10_copyElements_21 : decode cX10_copyElements 21 = .ok (.iaload, 1) := by decide +kernel
theorem dX10_copyElements_22 : decode cX10_copyElements 22 = .ok (.ifCond .lt 12, 3) := by decide +kernel
theorem dX10_copyElements_25 : decode cX10_copyElements 25 = .ok (.aload_n 0, 1) := by decide +kernel
theorem dX10_copyElements_26 : decode cX10_copyElements 26 = .ok (.getfield 41, 3) := by decide +kernel
theorem dX10_copyElements_29 : decode cX10_copyElements 29 = .ok (.iload_n 3, 1) := by decide +kernel
theorem dX10_copyElements_30 : decode cX10_copyElements 30 = .ok (.iaload, 1) := by decide +kernel
theorem dX10_copyElements_31 : decode cX10_copyElements 31 = .ok (.ifCond .ge 6, 3) := by decide +kernel
theorem dX10_copyElements_34 : decode cX10_copyElements 34 = .ok (.bipush (-6), 2) := by decide +kernel
theorem dX10_copyElements_36 : decode cX10_copyElements 36 = .ok (.ireturn, 1) := by decide +kernel
theorem dX10_copyElements_37 : decode cX10_copyElements 37 = .ok (.aload_n 0, 1) := by decide +kernel
theorem dX10_copyElements_38 : decode cX10_copyElements 38 = .ok (.getfield 41, 3) := by decide +kernel
theorem dX10_copyElements_41 : decode cX10_copyElements 41 = .ok (.iload_n 1, 1) := by decide +kernel
theorem dX10_copyElements_42 : decode cX10_copyElements 42 = .ok (.iaload, 1) := by decide +kernel
theorem dX10_copyElements_43 : decode cX10_copyElements 43 = .ok (.aload_n 0, 1) := by decide +kernel
theorem dX10_copyElements_44 : decode cX10_copyElements 44 = .ok (.getfield 41, 3) := by decide +kernel
theorem dX10_copyElements_47 : decode cX10_copyElements 47 = .ok (.iload_n 3, 1) := by decide +kernel
theorem dX10_copyElements_48 : decode cX10_copyElements 48 = .ok (.iaload, 1) := by decide +kernel
theorem dX10_copyElements_49 : decode cX10_copyElements 49 = .ok (.if_icmp .eq 6, 3) := by decide +kernel
theorem dX10_copyElements_52 : decode cX10_copyElements 52 = .ok (.bipush (-7), 2) := by decide +kernel
theorem dX10_copyElements_54 : decode cX10_copyElements 54 = .ok (.ireturn, 1) := by decide +kernel
theorem dX10_copyElements_55 : decode cX10_copyElements 55 = .ok (.iload_n 2, 1) := by decide +kernel
theorem dX10_copyElements_56 : decode cX10_copyElements 56 = .ok (.ifCond .lt 48, 3) := by decide +kernel
theorem dX10_copyElements_59 : decode cX10_copyElements 59 = .ok (.iload 4, 2) := by decide +kernel
theorem dX10_copyElements_61 : decode cX10_copyElements 61 = .ok (.ifCond .lt 43, 3) := by decide +kernel
theorem dX10_copyElements_64 : decode cX10_copyElements 64 = .ok (.iload 5, 2) := by decide +kernel
theorem dX10_copyElements_66 : decode cX10_copyElements 66 = .ok (.ifCond .lt 38, 3) := by decide +kernel
theorem dX10_copyElements_69 : decode cX10_copyElements 69 = .ok (.iload_n 2, 1) := by decide +kernel
theorem dX10_copyElements_70 : decode cX10_copyElements 70 = .ok (.i2l, 1) := by decide +kernel
theorem dX10_copyElements_71 : decode cX10_copyElements 71 = .ok (.iload 5, 2) := by decide +kernel
theorem dX10_copyElements_73 : decode cX10_copyElements 73 = .ok (.i2l, 1) := by decide +kernel
theorem dX10_copyElements_74 : decode cX10_copyElements 74 = .ok (.ladd, 1) := by decide +kernel
theorem dX10_copyElements_75 : decode cX10_copyElements 75 = .ok (.aload_n 0, 1) := by decide +kernel
theorem dX10_copyElements_76 : decode cX10_copyElements 76 = .ok (.getfield 44, 3) := by decide +kernel
theorem dX10_copyElements_79 : decode cX10_copyElements 79 = .ok (.iload_n 1, 1) := by decide +kernel
theorem dX10_copyElements_80 : decode cX10_copyElements 80 = .ok (.iaload, 1) := by decide +kernel
theorem dX10_copyElements_81 : decode cX10_copyElements 81 = .ok (.i2l, 1) := by decide +kernel
theorem dX10_copyElements_82 : decode cX10_copyElements 82 = .ok (.lcmp, 1) := by decide +kernel
theorem dX10_copyElements_83 : decode cX10_copyElements 83 = .ok (.ifCond .gt 21, 3) := by decide +kernel
theorem dX10_copyElements_86 : decode cX10_copyElements 86 = .ok (.iload 4, 2) := by decide +kernel
theorem dX10_copyElements_88 : decode cX10_copyElements 88 = .ok (.i2l, 1) := by decide +kernel
theorem dX10_copyElements_89 : decode cX10_copyElements 89 = .ok (.iload 5, 2) := by decide +kernel
theorem dX10_copyElements_91 : decode cX10_copyElements 91 = .ok (.i2l, 1) := by decide +kernel
theorem dX10_copyElements_92 : decode cX10_copyElements 92 = .ok (.ladd, 1) := by decide +kernel
theorem dX10_copyElements_93 : decode cX10_copyElements 93 = .ok (.aload_n 0, 1) := by decide +kernel
theorem dX10_copyElements_94 : decode cX10_copyElements 94 = .ok (.getfield 44, 3) := by decide +kernel
theorem dX10_copyElements_97 : decode cX10_copyElements 97 = .ok (.iload_n 3, 1) := by decide +kernel
theorem dX10_copyElements_98 : decode cX10_copyElements 98 = .ok (.iaload, 1) := by decide +kernel
theorem dX10_copyElements_99 : decode cX10_copyElements 99 = .ok (.i2l, 1) := by decide +kernel
theorem dX10_copyElements_100 : decode cX10_copyElements 100 = .ok (.lcmp, 1) := by decide +kernel
theorem dX10_copyElements_101 : decode cX10_copyElements 101 = .ok (.ifCond .le 6, 3) := by decide +kernel
theorem dX10_copyElements_104 : decode cX10_copyElements 104 = .ok (.bipush (-8), 2) := by decide +kernel
theorem dX10_copyElements_106 : decode cX10_copyElements 106 = .ok (.ireturn, 1) := by decide +kernel
theorem dX10_copyElements_107 : decode cX10_copyElements 107 = .ok (.iload 5, 2) := by decide +kernel
theorem dX10_copyElements_109 : decode cX10_copyElements 109 = .ok (.newarray .int, 2) := by decide +kernel
theorem dX10_copyElements_111 : decode cX10_copyElements 111 = .ok (.astore 6, 2) := by decide +kernel
theorem dX10_copyElements_113 : decode cX10_copyElements 113 = .ok (.iconst 0, 1) := by decide +kernel
theorem dX10_copyElements_114 : decode cX10_copyElements 114 = .ok (.istore 7, 2) := by decide +kernel
theorem dX10_copyElements_116 : decode cX10_copyElements 116 = .ok (.iload 7, 2) := by decide +kernel
theorem dX10_copyElements_118 : decode cX10_copyElements 118 = .ok (.iload 5, 2) := by decide +kernel
theorem dX10_copyElements_120 : decode cX10_copyElements 120 = .ok (.if_icmp .ge 28, 3) := by decide +kernel
theorem dX10_copyElements_123 : decode cX10_copyElements 123 = .ok (.aload 6, 2) := by decide +kernel
theorem dX10_copyElements_125 : decode cX10_copyElements 125 = .ok (.iload 7, 2) := by decide +kernel
theorem dX10_copyElements_127 : decode cX10_copyElements 127 = .ok (.aload_n 0, 1) := by decide +kernel
theorem dX10_copyElements_128 : decode cX10_copyElements 128 = .ok (.getfield 47, 3) := by decide +kernel
theorem dX10_copyElements_131 : decode cX10_copyElements 131 = .ok (.bipush 80, 2) := by decide +kernel
theorem dX10_copyElements_133 : decode cX10_copyElements 133 = .ok (.iload_n 1, 1) := by decide +kernel
theorem dX10_copyElements_134 : decode cX10_copyElements 134 = .ok (.imul, 1) := by decide +kernel
theorem dX10_copyElements_135 : decode cX10_copyElements 135 = .ok (.iload_n 2, 1) := by decide +kernel
theorem dX10_copyElements_136 : decode cX10_copyElements 136 = .ok (.iadd, 1) := by decide +kernel
theorem dX10_copyElements_137 : decode cX10_copyElements 137 = .ok (.iload 7, 2) := by decide +kernel
theorem dX10_copyElements_139 : decode cX10_copyElements 139 = .ok (.iadd, 1) := by decide +kernel
theorem dX10_copyElements_140 : decode cX10_copyElements 140 = .ok (.iaload, 1) := by decide +kernel
theorem dX10_copyElements_141 : decode cX10_copyElements 141 = .ok (.iastore, 1) := by decide +kernel
theorem dX10_copyElements_142 : decode cX10_copyElements 142 = .ok (.iinc 7 1, 3) := by decide +kernel
theorem dX10_copyElements_145 : decode cX10_copyElements 145 = .ok (.goto (-29), 3) := by decide +kernel
theorem dX10_copyElements_148 : decode cX10_copyElements 148 = .ok (.iconst 0, 1) := by decide +kernel
theorem dX10_copyElements_149 : decode cX10_copyElements 149 = .ok (.istore 7, 2) := by decide +kernel
theorem dX10_copyElements_151 : decode cX10_copyElements 151 = .ok (.iload 7, 2) := by decide +kernel
theorem dX10_copyElements_153 : decode cX10_copyElements 153 = .ok (.iload 5, 2) := by decide +kernel
theorem dX10_copyElements_155 : decode cX10_copyElements 155 = .ok (.if_icmp .ge 29, 3) := by decide +kernel
theorem dX10_copyElements_158 : decode cX10_copyElements 158 = .ok (.aload_n 0, 1) := by decide +kernel
theorem dX10_copyElements_159 : decode cX10_copyElements 159 = .ok (.getfield 47, 3) := by decide +kernel
theorem dX10_copyElements_162 : decode cX10_copyElements 162 = .ok (.bipush 80, 2) := by decide +kernel
theorem dX10_copyElements_164 : decode cX10_copyElements 164 = .ok (.iload_n 3, 1) := by decide +kernel
theorem dX10_copyElements_165 : decode cX10_copyElements 165 = .ok (.imul, 1) := by decide +kernel
theorem dX10_copyElements_166 : decode cX10_copyElements 166 = .ok (.iload 4, 2) := by decide +kernel
theorem dX10_copyElements_168 : decode cX10_copyElements 168 = .ok (.iadd, 1) := by decide +kernel
theorem dX10_copyElements_169 : decode cX10_copyElements 169 = .ok (.iload 7, 2) := by decide +kernel
theorem dX10_copyElements_171 : decode cX10_copyElements 171 = .ok (.iadd, 1) := by decide +kernel
theorem dX10_copyElements_172 : decode cX10_copyElements 172 = .ok (.aload 6, 2) := by decide +kernel
theorem dX10_copyElements_174 : decode cX10_copyElements 174 = .ok (.iload 7, 2) := by decide +kernel
theorem dX10_copyElements_176 : decode cX10_copyElements 176 = .ok (.iaload, 1) := by decide +kernel
theorem dX10_copyElements_177 : decode cX10_copyElements 177 = .ok (.iastore, 1) := by decide +kernel
theorem dX10_copyElements_178 : decode cX10_copyElements 178 = .ok (.iinc 7 1, 3) := by decide +kernel
theorem dX10_copyElements_181 : decode cX10_copyElements 181 = .ok (.goto (-30), 3) := by decide +kernel
theorem dX10_copyElements_184 : decode cX10_copyElements 184 = .ok (.iload 5, 2) := by decide +kernel
theorem dX10_copyElements_186 : decode cX10_copyElements 186 = .ok (.ireturn, 1) := by decide +kernel
def lX10_copyElements_151 (N : Nat) (v0 : Nat) (v3 : Int32) (v4 : Int32) (v5 : Int32) (v6 : Nat) : Nat → Int32 → qM → Option (qM)
  | 0, _, _ => none
  | n + 1, v7, m0 =>
    if v5 ≤ v7 then (
    some m0
    ) else (
    (qgR m0 v0 10 17).bind fun x1 =>
    (qaI m0 v6 12 v7).bind fun x2 =>
    (qwI m0 x1 12 ((((80 : Int32) * v3) + v4) + v7) x2).bind fun m3 =>
    lX10_copyElements_151 N v0 v3 v4 v5 v6 n (v7 + (1 : Int32)) m3
    )
set_option maxRecDepth 100000 in
theorem lbX10_copyElements_151 {E : qE} {N d bc bs : Nat} (hd : 2 ≤ d) {v0 : Nat} {v3 : Int32} {v4 : Int32} {v5 : Int32} {v6 : Nat} : ∀ (n : Nat) (v7 : Int32) (m0 : qM), qB E yX10_copyElements cX10_copyElements 8 (some .int) (fun _ => True) d bc bs 151 [(0, .ref (E.2.1 + v0)), (3, .int v3), (4, .int v4), (5, .int v5), (6, .ref (E.2.1 + v6)), (7, .int v7)] [] m0 (lX10_copyElements_151 N v0 v3 v4 v5 v6 n v7 m0) (fun o rr => qJ E yX10_copyElements cX10_copyElements 8 (some .int) (fun _ => True) d bc bs 184 [(5, .int v5)] [] o rr) := by
  intro n
  induction n with
  | zero =>
    intro v7 m0
    exact j_none
  | succ n ih =>
    intro v7 m0
    unfold lX10_copyElements_151
    refine j_iload (q := 5) (np := 153) rfl dX10_copyElements_151 rfl ?_
    refine j_iload (q := 3) (np := 155) rfl dX10_copyElements_153 rfl ?_
    refine j_icmp_ge (tgt := 184) (np := 158) dX10_copyElements_155 rfl rfl ?_ ?_
    · refine j_sub (lv2 := [(5, .int v5)]) [3] rfl ?_
      exact j_exit (fun rr h => h)
    · refine j_aload_n (q := 0) (np := 159) rfl rfl dX10_copyElements_158 rfl ?_
      refine j_gR (np := 162) flX10_47 dX10_copyElements_159 rfl (fun x1 => ?_)
      refine j_bipush (np := 164) cb_80 dX10_copyElements_162 rfl ?_
      refine j_iload_n (q := 1) (np := 165) rfl rfl dX10_copyElements_164 rfl ?_
      refine j_imul (np := 166) dX10_copyElements_165 rfl ?_
      refine j_iload (q := 2) (np := 168) rfl dX10_copyElements_166 rfl ?_
      refine j_iadd (np := 169) dX10_copyElements_168 rfl ?_
      refine j_iload (q := 5) (np := 171) rfl dX10_copyElements_169 rfl ?_
      refine j_iadd (np := 172) dX10_copyElements_171 rfl ?_
      refine j_aload (q := 4) (np := 174) rfl dX10_copyElements_172 rfl ?_
      refine j_iload (q := 5) (np := 176) rfl dX10_copyElements_174 rfl ?_
      refine j_iaload (np := 177) dX10_copyElements_176 rfl (fun x2 => ?_)
      refine j_iastore (np := 178) dX10_copyElements_177 rfl (fun m3 => ?_)
      refine j_iinc (q := 5) (np := 181) (lv2 := [(7, .int (v7 + (1 : Int32))), (0, .ref (E.2.1 + v0)), (3, .int v3), (4, .int v4), (5, .int v5), (6, .ref (E.2.1 + v6))]) rfl (congrArg _ ci_1) (by decide) dX10_copyElements_178 rfl rfl ?_
      refine j_goto (tgt := 151) dX10_copyElements_181 rfl ?_
      refine j_sub (lv2 := [(0, .ref (E.2.1 + v0)), (3, .int v3), (4, .int v4), (5, .int v5), (6, .ref (E.2.1 + v6)), (7, .int (v7 + (1 : Int32)))]) [1, 2, 3, 4, 5, 0] rfl ?_
      exact ih _ _
def lX10_copyElements_116 (N : Nat) (v0 : Nat) (v1 : Int32) (v2 : Int32) (v3 : Int32) (v4 : Int32) (v5 : Int32) (v6 : Nat) : Nat → Int32 → qM → Option (qM)
  | 0, _, _ => none
  | n + 1, v7, m0 =>
    if v5 ≤ v7 then (
    some m0
    ) else (
    (qgR m0 v0 10 17).bind fun x1 =>
    (qaI m0 x1 12 ((((80 : Int32) * v1) + v2) + v7)).bind fun x2 =>
    (qwI m0 v6 12 v7 x2).bind fun m3 =>
    lX10_copyElements_116 N v0 v1 v2 v3 v4 v5 v6 n (v7 + (1 : Int32)) m3
    )
set_option maxRecDepth 100000 in
theorem lbX10_copyElements_116 {E : qE} {N d bc bs : Nat} (hd : 2 ≤ d) {v0 : Nat} {v1 : Int32} {v2 : Int32} {v3 : Int32} {v4 : Int32} {v5 : Int32} {v6 : Nat} : ∀ (n : Nat) (v7 : Int32) (m0 : qM), qB E yX10_copyElements cX10_copyElements 8 (some .int) (fun _ => True) d bc bs 116 [(0, .ref (E.2.1 + v0)), (1, .int v1), (2, .int v2), (3, .int v3), (4, .int v4), (5, .int v5), (6, .ref (E.2.1 + v6)), (7, .int v7)] [] m0 (lX10_copyElements_116 N v0 v1 v2 v3 v4 v5 v6 n v7 m0) (fun o rr => qJ E yX10_copyElements cX10_copyElements 8 (some .int) (fun _ => True) d bc bs 148 [(0, .ref (E.2.1 + v0)), (3, .int v3), (4, .int v4), (5, .int v5), (6, .ref (E.2.1 + v6))] [] o rr) := by
  intro n
  induction n with
  | zero =>
    intro v7 m0
    exact j_none
  | succ n ih =>
    intro v7 m0
    unfold lX10_copyElements_116
    refine j_iload (q := 7) (np := 118) rfl dX10_copyElements_116 rfl ?_
    refine j_iload (q := 5) (np := 120) rfl dX10_copyElements_118 rfl ?_
    refine j_icmp_ge (tgt := 148) (np := 123) dX10_copyElements_120 rfl rfl ?_ ?_
    · refine j_sub (lv2 := [(0, .ref (E.2.1 + v0)), (3, .int v3), (4, .int v4), (5, .int v5), (6, .ref (E.2.1 + v6))]) [0, 3, 4, 5, 6] rfl ?_
      exact j_exit (fun rr h => h)
    · refine j_aload (q := 6) (np := 125) rfl dX10_copyElements_123 rfl ?_
      refine j_iload (q := 7) (np := 127) rfl dX10_copyElements_125 rfl ?_
      refine j_aload_n (q := 0) (np := 128) rfl rfl dX10_copyElements_127 rfl ?_
      refine j_gR (np := 131) flX10_47 dX10_copyElements_128 rfl (fun x1 => ?_)
      refine j_bipush (np := 133) cb_80 dX10_copyElements_131 rfl ?_
      refine j_iload_n (q := 1) (np := 134) rfl rfl dX10_copyElements_133 rfl ?_
      refine j_imul (np := 135) dX10_copyElements_134 rfl ?_
      refine j_iload_n (q := 2) (np := 136) rfl rfl dX10_copyElements_135 rfl ?_
      refine j_iadd (np := 137) dX10_copyElements_136 rfl ?_
      refine j_iload (q := 7) (np := 139) rfl dX10_copyElements_137 rfl ?_
      refine j_iadd (np := 140) dX10_copyElements_139 rfl ?_
      refine j_iaload (np := 141) dX10_copyElements_140 rfl (fun x2 => ?_)
      refine j_iastore (np := 142) dX10_copyElements_141 rfl (fun m3 => ?_)
      refine j_iinc (q := 7) (np := 145) (lv2 := [(7, .int (v7 + (1 : Int32))), (0, .ref (E.2.1 + v0)), (1, .int v1), (2, .int v2), (3, .int v3), (4, .int v4), (5, .int v5), (6, .ref (E.2.1 + v6))]) rfl (congrArg _ ci_1) (by decide) dX10_copyElements_142 rfl rfl ?_
      refine j_goto (tgt := 116) dX10_copyElements_145 rfl ?_
      refine j_sub (lv2 := [(0, .ref (E.2.1 + v0)), (1, .int v1), (2, .int v2), (3, .int v3), (4, .int v4), (5, .int v5), (6, .ref (E.2.1 + v6)), (7, .int (v7 + (1 : Int32)))]) [1, 2, 3, 4, 5, 6, 7, 0] rfl ?_
      exact ih _ _
def fX10_copyElements (N : Nat) (v0 : Nat) (v1 : Int32) (v2 : Int32) (v3 : Int32) (v4 : Int32) (v5 : Int32) (m0 : qM) : Option (Int32 × qM) :=
  (fX10_isRow N v1 m0).bind fun b1 =>
  if b1.1 = 0 then (
  some ((-1 : Int32), b1.2)
  ) else (
  (fX10_isRow N v3 b1.2).bind fun b2 =>
  if b2.1 = 0 then (
  some ((-1 : Int32), b2.2)
  ) else (
  (qgR b2.2 v0 10 15).bind fun x3 =>
  (qaI b2.2 x3 12 v1).bind fun x4 =>
  if x4 < 0 then (
  some ((-6 : Int32), b2.2)
  ) else (
  (qgR b2.2 v0 10 15).bind fun x5 =>
  (qaI b2.2 x5 12 v3).bind fun x6 =>
  if 0 ≤ x6 then (
  (qgR b2.2 v0 10 15).bind fun x7 =>
  (qaI b2.2 x7 12 v1).bind fun x8 =>
  (qgR b2.2 v0 10 15).bind fun x9 =>
  (qaI b2.2 x9 12 v3).bind fun x10 =>
  if x8 = x10 then (
  if v2 < 0 then (
  some ((-8 : Int32), b2.2)
  ) else (
  if v4 < 0 then (
  some ((-8 : Int32), b2.2)
  ) else (
  if v5 < 0 then (
  some ((-8 : Int32), b2.2)
  ) else (
  (qgR b2.2 v0 10 16).bind fun x11 =>
  (qaI b2.2 x11 12 v1).bind fun x12 =>
  if 0 < lg_cmp (v2.toInt64 + v5.toInt64) x12.toInt64 then (
  some ((-8 : Int32), b2.2)
  ) else (
  (qgR b2.2 v0 10 16).bind fun x13 =>
  (qaI b2.2 x13 12 v3).bind fun x14 =>
  if lg_cmp (v4.toInt64 + v5.toInt64) x14.toInt64 ≤ 0 then (
  if ¬ v5 < 0 ∧ v5.toNatClampNeg ≤ 80 then qNew b2.2 12 v5.toNatClampNeg (fun a15 m16 =>
  (lX10_copyElements_116 N v0 v1 v2 v3 v4 v5 a15 N (0 : Int32) m16).bind fun o17 =>
  (lX10_copyElements_151 N v0 v3 v4 v5 a15 N (0 : Int32) o17).bind fun o18 =>
  some (v5, o18)
  ) else none
  ) else (
  some ((-8 : Int32), b2.2)
  )
  )
  )
  )
  )
  ) else (
  some ((-7 : Int32), b2.2)
  )
  ) else (
  some ((-6 : Int32), b2.2)
  )
  )
  )
  )
set_option maxRecDepth 100000 in
theorem bX10_copyElements {E : qE} {N d bc bs : Nat} (hd : 2 ≤ d) {v0 : Nat} {v1 : Int32} {v2 : Int32} {v3 : Int32} {v4 : Int32} {v5 : Int32} {m0 : qM} : qB E yX10_copyElements cX10_copyElements 8 (some .int) (fun _ => True) d (bc + 1) (bs + 80) 0 [(0, .ref (E.2.1 + v0)), (1, .int v1), (2, .int v2), (3, .int v3), (4, .int v4), (5, .int v5)] [] m0 (fX10_copyElements N v0 v1 v2 v3 v4 v5 m0) (fun b rr => rr = (some (.int b.1), b.2)) := by
  unfold fX10_copyElements
  refine j_iload_n (q := 1) (np := 1) rfl rfl dX10_copyElements_0 rfl ?_
  refine j_callSi (np := 4) (bc := (bc + 1)) (bs := (bs + 80)) (cb := 0) (cs := 0) (dd := d - 1) (As := [.int v1]) (st := []) caX10_isRow mlX10_316 stX10_isRow (fun b hb => wX10_isRow (by omega) hb) (by omega) rfl rfl (Nat.le_of_ble_eq_true rfl) dX10_copyElements_1 rfl (fun b1 => ?_)
  refine j_if_eq (tgt := 14) (np := 7) dX10_copyElements_4 rfl rfl ?_ ?_
  · refine j_iconst (np := 15) ci_m1 dX10_copyElements_14 rfl ?_
    exact j_iret rfl dX10_copyElements_15 (fun rr h => h)
  · refine j_iload_n (q := 3) (np := 8) rfl rfl dX10_copyElements_7 rfl ?_
    refine j_callSi (np := 11) (bc := (bc + 1)) (bs := (bs + 80)) (cb := 0) (cs := 0) (dd := d - 1) (As := [.int v3]) (st := []) caX10_isRow mlX10_316 stX10_isRow (fun b hb => wX10_isRow (by omega) hb) (by omega) rfl rfl (Nat.le_of_ble_eq_true rfl) dX10_copyElements_8 rfl (fun b2 => ?_)
    refine j_if_ne (tgt := 16) (np := 14) dX10_copyElements_11 rfl rfl ?_ ?_
    · refine j_aload_n (q := 0) (np := 17) rfl rfl dX10_copyElements_16 rfl ?_
      refine j_gR (np := 20) flX10_41 dX10_copyElements_17 rfl (fun x3 => ?_)
      refine j_iload_n (q := 1) (np := 21) rfl rfl dX10_copyElements_20 rfl ?_
      refine j_iaload (np := 22) dX10_copyElements_21 rfl (fun x4 => ?_)
      refine j_if_lt (tgt := 34) (np := 25) dX10_copyElements_22 rfl rfl ?_ ?_
      · refine j_bipush (np := 36) cb_m6 dX10_copyElements_34 rfl ?_
        exact j_iret rfl dX10_copyElements_36 (fun rr h => h)
      · refine j_aload_n (q := 0) (np := 26) rfl rfl dX10_copyElements_25 rfl ?_
        refine j_gR (np := 29) flX10_41 dX10_copyElements_26 rfl (fun x5 => ?_)
        refine j_iload_n (q := 3) (np := 30) rfl rfl dX10_copyElements_29 rfl ?_
        refine j_iaload (np := 31) dX10_copyElements_30 rfl (fun x6 => ?_)
        refine j_if_ge (tgt := 37) (np := 34) dX10_copyElements_31 rfl rfl ?_ ?_
        · refine j_aload_n (q := 0) (np := 38) rfl rfl dX10_copyElements_37 rfl ?_
          refine j_gR (np := 41) flX10_41 dX10_copyElements_38 rfl (fun x7 => ?_)
          refine j_iload_n (q := 1) (np := 42) rfl rfl dX10_copyElements_41 rfl ?_
          refine j_iaload (np := 43) dX10_copyElements_42 rfl (fun x8 => ?_)
          refine j_aload_n (q := 0) (np := 44) rfl rfl dX10_copyElements_43 rfl ?_
          refine j_gR (np := 47) flX10_41 dX10_copyElements_44 rfl (fun x9 => ?_)
          refine j_iload_n (q := 3) (np := 48) rfl rfl dX10_copyElements_47 rfl ?_
          refine j_iaload (np := 49) dX10_copyElements_48 rfl (fun x10 => ?_)
          refine j_icmp_eq (tgt := 55) (np := 52) dX10_copyElements_49 rfl rfl ?_ ?_
          · refine j_iload_n (q := 2) (np := 56) rfl rfl dX10_copyElements_55 rfl ?_
            refine j_if_lt (tgt := 104) (np := 59) dX10_copyElements_56 rfl rfl ?_ ?_
            · refine j_bipush (np := 106) cb_m8 dX10_copyElements_104 rfl ?_
              exact j_iret rfl dX10_copyElements_106 (fun rr h => h)
            · refine j_iload (q := 4) (np := 61) rfl dX10_copyElements_59 rfl ?_
              refine j_if_lt (tgt := 104) (np := 64) dX10_copyElements_61 rfl rfl ?_ ?_
              · refine j_bipush (np := 106) cb_m8 dX10_copyElements_104 rfl ?_
                exact j_iret rfl dX10_copyElements_106 (fun rr h => h)
              · refine j_iload (q := 5) (np := 66) rfl dX10_copyElements_64 rfl ?_
                refine j_if_lt (tgt := 104) (np := 69) dX10_copyElements_66 rfl rfl ?_ ?_
                · refine j_bipush (np := 106) cb_m8 dX10_copyElements_104 rfl ?_
                  exact j_iret rfl dX10_copyElements_106 (fun rr h => h)
                · refine j_iload_n (q := 2) (np := 70) rfl rfl dX10_copyElements_69 rfl ?_
                  refine j_i2l (np := 71) dX10_copyElements_70 rfl ?_
                  refine j_iload (q := 5) (np := 73) rfl dX10_copyElements_71 rfl ?_
                  refine j_i2l (np := 74) dX10_copyElements_73 rfl ?_
                  refine j_ladd (np := 75) dX10_copyElements_74 rfl ?_
                  refine j_aload_n (q := 0) (np := 76) rfl rfl dX10_copyElements_75 rfl ?_
                  refine j_gR (np := 79) flX10_44 dX10_copyElements_76 rfl (fun x11 => ?_)
                  refine j_iload_n (q := 1) (np := 80) rfl rfl dX10_copyElements_79 rfl ?_
                  refine j_iaload (np := 81) dX10_copyElements_80 rfl (fun x12 => ?_)
                  refine j_i2l (np := 82) dX10_copyElements_81 rfl ?_
                  refine j_lcmp (np := 83) dX10_copyElements_82 rfl ?_
                  refine j_if_gt (tgt := 104) (np := 86) dX10_copyElements_83 rfl rfl ?_ ?_
                  · refine j_bipush (np := 106) cb_m8 dX10_copyElements_104 rfl ?_
                    exact j_iret rfl dX10_copyElements_106 (fun rr h => h)
                  · refine j_iload (q := 4) (np := 88) rfl dX10_copyElements_86 rfl ?_
                    refine j_i2l (np := 89) dX10_copyElements_88 rfl ?_
                    refine j_iload (q := 5) (np := 91) rfl dX10_copyElements_89 rfl ?_
                    refine j_i2l (np := 92) dX10_copyElements_91 rfl ?_
                    refine j_ladd (np := 93) dX10_copyElements_92 rfl ?_
                    refine j_aload_n (q := 0) (np := 94) rfl rfl dX10_copyElements_93 rfl ?_
                    refine j_gR (np := 97) flX10_44 dX10_copyElements_94 rfl (fun x13 => ?_)
                    refine j_iload_n (q := 3) (np := 98) rfl rfl dX10_copyElements_97 rfl ?_
                    refine j_iaload (np := 99) dX10_copyElements_98 rfl (fun x14 => ?_)
                    refine j_i2l (np := 100) dX10_copyElements_99 rfl ?_
                    refine j_lcmp (np := 101) dX10_copyElements_100 rfl ?_
                    refine j_if_le (tgt := 107) (np := 104) dX10_copyElements_101 rfl rfl ?_ ?_
                    · refine j_iload (q := 5) (np := 109) rfl dX10_copyElements_107 rfl ?_
                      refine j_bud (b1 := bc + 1) (b2 := bs + 80) (by omega) (by omega) ?_
                      refine j_newarr (bc := bc) (bs := bs) (c0 := 12) (t := 1) (n0 := 80) (np := 111) (atype := .int) (ty := .int) (Or.inr (Or.inl rfl)) rfl rfl (by decide) (by decide) (fun _ => rfl) (fun _ _ => rfl) ac_int dX10_copyElements_109 rfl (fun a15 m16 => ?_)
                      refine j_astore (np := 113) (lv2 := [(6, .ref (E.2.1 + a15)), (0, .ref (E.2.1 + v0)), (1, .int v1), (2, .int v2), (3, .int v3), (4, .int v4), (5, .int v5)]) (by decide) dX10_copyElements_111 rfl rfl ?_
                      refine j_iconst (np := 114) ci_0 dX10_copyElements_113 rfl ?_
                      refine j_istore (np := 116) (lv2 := [(7, .int (0 : Int32)), (6, .ref (E.2.1 + a15)), (0, .ref (E.2.1 + v0)), (1, .int v1), (2, .int v2), (3, .int v3), (4, .int v4), (5, .int v5)]) (by decide) dX10_copyElements_114 rfl rfl ?_
                      refine j_sub (lv2 := [(0, .ref (E.2.1 + v0)), (1, .int v1), (2, .int v2), (3, .int v3), (4, .int v4), (5, .int v5), (6, .ref (E.2.1 + a15)), (7, .int (0 : Int32))]) [2, 3, 4, 5, 6, 7, 1, 0] rfl ?_
                      refine j_loop (xp := 148) (lvX := fun o17 => [(0, .ref (E.2.1 + v0)), (3, .int v3), (4, .int v4), (5, .int v5), (6, .ref (E.2.1 + a15))]) (mX := fun o17 => o17) (lbX10_copyElements_116 hd _ _ _) (fun o17 => ?_)
                      refine j_iconst (np := 149) ci_0 dX10_copyElements_148 rfl ?_
                      refine j_istore (np := 151) (lv2 := [(7, .int (0 : Int32)), (0, .ref (E.2.1 + v0)), (3, .int v3), (4, .int v4), (5, .int v5), (6, .ref (E.2.1 + a15))]) (by decide) dX10_copyElements_149 rfl rfl ?_
                      refine j_sub (lv2 := [(0, .ref (E.2.1 + v0)), (3, .int v3), (4, .int v4), (5, .int v5), (6, .ref (E.2.1 + a15)), (7, .int (0 : Int32))]) [1, 2, 3, 4, 5, 0] rfl ?_
                      refine j_loop (xp := 184) (lvX := fun o18 => [(5, .int v5)]) (mX := fun o18 => o18) (lbX10_copyElements_151 hd _ _ _) (fun o18 => ?_)
                      refine j_iload (q := 0) (np := 186) rfl dX10_copyElements_184 rfl ?_
                      exact j_iret rfl dX10_copyElements_186 (fun rr h => h)
                    · refine j_bipush (np := 106) cb_m8 dX10_copyElements_104 rfl ?_
                      exact j_iret rfl dX10_copyElements_106 (fun rr h => h)
          · refine j_bipush (np := 54) cb_m7 dX10_copyElements_52 rfl ?_
            exact j_iret rfl dX10_copyElements_54 (fun rr h => h)
        · refine j_bipush (np := 36) cb_m6 dX10_copyElements_34 rfl ?_
          exact j_iret rfl dX10_copyElements_36 (fun rr h => h)
    · refine j_iconst (np := 15) ci_m1 dX10_copyElements_14 rfl ?_
      exact j_iret rfl dX10_copyElements_15 (fun rr h => h)
set_option maxRecDepth 100000 in
theorem wX10_copyElements {E : qE} {N d : Nat} (hd : 2 ≤ d) {v0 : Nat} {v1 : Int32} {v2 : Int32} {v3 : Int32} {v4 : Int32} {v5 : Int32} {m0 : qM} {b : Int32 × qM} (h : fX10_copyElements N v0 v1 v2 v3 v4 v5 m0 = some b) : qRun E yX10_copyElements cX10_copyElements 8 (some .int) d 1 80 [.ref (E.2.1 + v0), .int v1, .int v2, .int v3, .int v4, .int v5] m0 (some (.int b.1), b.2) := q_met pnX10 (Nat.le_of_ble_eq_true rfl) ((j_bud (by omega) (by omega) (bX10_copyElements (bc := 0) (bs := 0) hd)) b _ h rfl)
theorem dX10_storeOutput_0 : decode cX10_storeOutput 0 = .ok (.aload_n 0, 1) := by decide +kernel
theorem dX10_storeOutput_1 : decode cX10_storeOutput 1 = .ok (.iload_n 1, 1) := by decide +kernel
theorem dX10_storeOutput_2 : decode cX10_storeOutput 2 = .ok (.invokevirtual 319, 3) := by decide +kernel
theorem dX10_storeOutput_5 : decode cX10_storeOutput 5 = .ok (.istore_n 3, 1) := by decide +kernel
theorem dX10_storeOutput_6 : decode cX10_storeOutput 6 = .ok (.iload_n 3, 1) := by decide +kernel
theorem dX10_storeOutput_7 : decode cX10_storeOutput 7 = .ok (.ifCond .ge 5, 3) := by decide +kernel
theorem dX10_storeOutput_10 : decode cX10_storeOutput 10 = .ok (.iload_n 3, 1) := by decide +kernel
theorem dX10_storeOutput_11 : decode cX10_storeOutput 11 = .ok (.ireturn, 1) := by decide +kernel
theorem dX10_storeOutput_12 : decode cX10_storeOutput 12 = .ok (.iload_n 2, 1) := by decide +kernel
theorem dX10_storeOutput_13 : decode cX10_storeOutput 13 = .ok (.ifCond .lt 22, 3) := by decide +kernel
theorem dX10_storeOutput_16 : decode cX10_storeOutput 16 = .ok (.iload_n 2, 1) := by decide +kernel
theorem dX10_storeOutput_17 : decode cX10_storeOutput 17 = .ok (.i2l, 1) := by decide +kernel
theorem dX10_storeOutput_18 : decode cX10_storeOutput 18 = .ok (.aload_n 0, 1) := by decide +kernel
theorem dX10_storeOutput_19 : decode cX10_storeOutput 19 = .ok (.getfield 180, 3) := by decide +kernel
theorem dX10_storeOutput_22 : decode cX10_storeOutput 22 = .ok (.i2l, 1) := by decide +kernel
theorem dX10_storeOutput_23 : decode cX10_storeOutput 23 = .ok (.ladd, 1) := by decide +kernel
theorem dX10_storeOutput_24 : decode cX10_storeOutput 24 = .ok (.aload_n 0, 1) := by decide +kernel
theorem dX10_storeOutput_25 : decode cX10_storeOutput 25 = .ok (.getfield 44, 3) := by decide +kernel
theorem dX10_storeOutput_28 : decode cX10_storeOutput 28 = .ok (.iload_n 1, 1) := by decide +kernel
theorem dX10_storeOutput_29 : decode cX10_storeOutput 29 = .ok (.iaload, 1) := by decide +kernel
theorem dX10_storeOutput_30 : decode cX10_storeOutput 30 = .ok (.i2l, 1) := by decide +kernel
theorem dX10_storeOutput_31 : decode cX10_storeOutput 31 = .ok (.lcmp, 1) := by decide +kernel
theorem dX10_storeOutput_32 : decode cX10_storeOutput 32 = .ok (.ifCond .le 6, 3) := by decide +kernel
theorem dX10_storeOutput_35 : decode cX10_storeOutput 35 = .ok (.bipush (-8), 2) := by decide +kernel
theorem dX10_storeOutput_37 : decode cX10_storeOutput 37 = .ok (.ireturn, 1) := by decide +kernel
theorem dX10_storeOutput_38 : decode cX10_storeOutput 38 = .ok (.iconst 0, 1) := by decide +kernel
theorem dX10_storeOutput_39 : decode cX10_storeOutput 39 = .ok (.istore 4, 2) := by decide +kernel
theorem dX10_storeOutput_41 : decode cX10_storeOutput 41 = .ok (.iload 4, 2) := by decide +kernel
theorem dX10_storeOutput_43 : decode cX10_storeOutput 43 = .ok (.aload_n 0, 1) := by decide +kernel
theorem dX10_storeOutput_44 : decode cX10_storeOutput 44 = .ok (.getfield 180, 3) := by decide +kernel
theorem dX10_storeOutput_47 : decode cX10_storeOutput 47 = .ok (.if_icmp .ge 25, 3) := by decide +kernel
theorem dX10_storeOutput_50 : decode cX10_storeOutput 50 = .ok (.aload_n 0, 1) := by decide +kernel
theorem dX10_storeOutput_51 : decode cX10_storeOutput 51 = .ok (.iload_n 1, 1) := by decide +kernel
theorem dX10_storeOutput_52 : decode cX10_storeOutput 52 = .ok (.iload_n 2, 1) := by decide +kernel
theorem dX10_storeOutput_53 : decode cX10_storeOutput 53 = .ok (.iload 4, 2) := by decide +kernel
theorem dX10_storeOutput_55 : decode cX10_storeOutput 55 = .ok (.iadd, 1) := by decide +kernel
theorem dX10_storeOutput_56 : decode cX10_storeOutput 56 = .ok (.aload_n 0, 1) := by decide +kernel
theorem dX10_storeOutput_57 : decode cX10_storeOutput 57 = .ok (.getfield 28, 3) := by decide +kernel
theorem dX10_storeOutput_60 : decode cX10_storeOutput 60 = .ok (.iload 4, 2) := by decide +kernel
theorem dX10_storeOutput_62 : decode cX10_storeOutput 62 = .ok (.iaload, 1) := by decide +kernel
theorem dX10_storeOutput_63 : decode cX10_storeOutput 63 = .ok (.invokevirtual 322, 3) := by decide +kernel
theorem dX10_storeOutput_66 : decode cX10_storeOutput 66 = .ok (.iinc 4 1, 3) := by decide +kernel
theorem dX10_storeOutput_69 : decode cX10_storeOutput 69 = .ok (.goto (-28), 3) := by decide +kernel
theorem dX10_storeOutput_72 : decode cX10_storeOutput 72 = .ok (.aload_n 0, 1) := by decide +kernel
theorem dX10_storeOutput_73 : decode cX10_storeOutput 73 = .ok (.getfield 180, 3) := by decide +kernel
theorem dX10_storeOutput_76 : decode cX10_storeOutput 76 = .ok (.ireturn, 1) := by decide +kernel
def lX10_storeOutput_41 (N : Nat) (v0 : Nat) (v1 : Int32) (v2 : Int32) : Nat → Int32 → qM → Option (qM)
  | 0, _, _ => none
  | n + 1, v4, m0 =>
    (qgI m0 v0 10 11).bind fun x1 =>
    if x1 ≤ v4 then (
    some m0
    ) else (
    (qgR m0 v0 10 10).bind fun x2 =>
    (qaI m0 x2 12 v4).bind fun x3 =>
    (qChk m0 v0 10 (fX10_sets N v0 v1 (v2 + v4) x3 m0)).bind fun b4 =>
    lX10_storeOutput_41 N v0 v1 v2 n (v4 + (1 : Int32)) b4
    )
set_option maxRecDepth 100000 in
theorem lbX10_storeOutput_41 {E : qE} {N d bc bs : Nat} (hd : 3 ≤ d) {v0 : Nat} {v1 : Int32} {v2 : Int32} : ∀ (n : Nat) (v4 : Int32) (m0 : qM), qB E yX10_storeOutput cX10_storeOutput 5 (some .int) (fun _ => True) d bc bs 41 [(0, .ref (E.2.1 + v0)), (1, .int v1), (2, .int v2), (4, .int v4)] [] m0 (lX10_storeOutput_41 N v0 v1 v2 n v4 m0) (fun o rr => qJ E yX10_storeOutput cX10_storeOutput 5 (some .int) (fun _ => True) d bc bs 72 [(0, .ref (E.2.1 + v0))] [] o rr) := by
  intro n
  induction n with
  | zero =>
    intro v4 m0
    exact j_none
  | succ n ih =>
    intro v4 m0
    unfold lX10_storeOutput_41
    refine j_iload (q := 3) (np := 43) rfl dX10_storeOutput_41 rfl ?_
    refine j_aload_n (q := 0) (np := 44) rfl rfl dX10_storeOutput_43 rfl ?_
    refine j_gI (np := 47) flX10_180 dX10_storeOutput_44 rfl (fun x1 => ?_)
    refine j_icmp_ge (tgt := 72) (np := 50) dX10_storeOutput_47 rfl rfl ?_ ?_
    · refine j_sub (lv2 := [(0, .ref (E.2.1 + v0))]) [0] rfl ?_
      exact j_exit (fun rr h => h)
    · refine j_aload_n (q := 0) (np := 51) rfl rfl dX10_storeOutput_50 rfl ?_
      refine j_iload_n (q := 1) (np := 52) rfl rfl dX10_storeOutput_51 rfl ?_
      refine j_iload_n (q := 2) (np := 53) rfl rfl dX10_storeOutput_52 rfl ?_
      refine j_iload (q := 3) (np := 55) rfl dX10_storeOutput_53 rfl ?_
      refine j_iadd (np := 56) dX10_storeOutput_55 rfl ?_
      refine j_aload_n (q := 0) (np := 57) rfl rfl dX10_storeOutput_56 rfl ?_
      refine j_gR (np := 60) flX10_28 dX10_storeOutput_57 rfl (fun x2 => ?_)
      refine j_iload (q := 3) (np := 62) rfl dX10_storeOutput_60 rfl ?_
      refine j_iaload (np := 63) dX10_storeOutput_62 rfl (fun x3 => ?_)
      refine j_callVv (ci := 10) (np := 66) (bc := bc) (bs := bs) (cb := 0) (cs := 0) (dd := d - 1) (As := [.int v1, .int (v2 + v4), .int x3]) (st := []) caX10_sets mlX10_322 imX10_sets seX10_sets rfl rfl (by decide) (fun b hb => wX10_sets (by omega) hb) (by omega) rfl rfl (Nat.le_of_ble_eq_true rfl) dX10_storeOutput_63 rfl (fun b4 => ?_)
      refine j_iinc (q := 3) (np := 69) (lv2 := [(4, .int (v4 + (1 : Int32))), (0, .ref (E.2.1 + v0)), (1, .int v1), (2, .int v2)]) rfl (congrArg _ ci_1) (by decide) dX10_storeOutput_66 rfl rfl ?_
      refine j_goto (tgt := 41) dX10_storeOutput_69 rfl ?_
      refine j_sub (lv2 := [(0, .ref (E.2.1 + v0)), (1, .int v1), (2, .int v2), (4, .int (v4 + (1 : Int32)))]) [1, 2, 3, 0] rfl ?_
      exact ih _ _
def fX10_storeOutput (N : Nat) (v0 : Nat) (v1 : Int32) (v2 : Int32) (m0 : qM) : Option (Int32 × qM) :=
  (qChk m0 v0 10 (fX10_lacks N v0 v1 m0)).bind fun b1 =>
  if 0 ≤ b1.1 then (
  if v2 < 0 then (
  some ((-8 : Int32), b1.2)
  ) else (
  (qgI b1.2 v0 10 11).bind fun x2 =>
  (qgR b1.2 v0 10 16).bind fun x3 =>
  (qaI b1.2 x3 12 v1).bind fun x4 =>
  if lg_cmp (v2.toInt64 + x2.toInt64) x4.toInt64 ≤ 0 then (
  (lX10_storeOutput_41 N v0 v1 v2 N (0 : Int32) b1.2).bind fun o5 =>
  (qgI o5 v0 10 11).bind fun x6 =>
  some (x6, o5)
  ) else (
  some ((-8 : Int32), b1.2)
  )
  )
  ) else (
  some (b1.1, b1.2)
  )
set_option maxRecDepth 100000 in
theorem bX10_storeOutput {E : qE} {N d bc bs : Nat} (hd : 3 ≤ d) {v0 : Nat} {v1 : Int32} {v2 : Int32} {m0 : qM} : qB E yX10_storeOutput cX10_storeOutput 5 (some .int) (fun _ => True) d bc bs 0 [(0, .ref (E.2.1 + v0)), (1, .int v1), (2, .int v2)] [] m0 (fX10_storeOutput N v0 v1 v2 m0) (fun b rr => rr = (some (.int b.1), b.2)) := by
  unfold fX10_storeOutput
  refine j_aload_n (q := 0) (np := 1) rfl rfl dX10_storeOutput_0 rfl ?_
  refine j_iload_n (q := 1) (np := 2) rfl rfl dX10_storeOutput_1 rfl ?_
  refine j_callVi (ci := 10) (np := 5) (bc := bc) (bs := bs) (cb := 0) (cs := 0) (dd := d - 1) (As := [.int v1]) (st := []) caX10_lacks mlX10_319 imX10_lacks seX10_lacks rfl rfl (by decide) (fun b hb => wX10_lacks (by omega) hb) (by omega) rfl rfl (Nat.le_of_ble_eq_true rfl) dX10_storeOutput_2 rfl (fun b1 => ?_)
  refine j_istore_n (np := 6) (lv2 := [(3, .int b1.1), (0, .ref (E.2.1 + v0)), (1, .int v1), (2, .int v2)]) rfl (by decide) dX10_storeOutput_5 rfl rfl ?_
  refine j_iload_n (q := 0) (np := 7) rfl rfl dX10_storeOutput_6 rfl ?_
  refine j_if_ge (tgt := 12) (np := 10) dX10_storeOutput_7 rfl rfl ?_ ?_
  · refine j_iload_n (q := 3) (np := 13) rfl rfl dX10_storeOutput_12 rfl ?_
    refine j_if_lt (tgt := 35) (np := 16) dX10_storeOutput_13 rfl rfl ?_ ?_
    · refine j_bipush (np := 37) cb_m8 dX10_storeOutput_35 rfl ?_
      exact j_iret rfl dX10_storeOutput_37 (fun rr h => h)
    · refine j_iload_n (q := 3) (np := 17) rfl rfl dX10_storeOutput_16 rfl ?_
      refine j_i2l (np := 18) dX10_storeOutput_17 rfl ?_
      refine j_aload_n (q := 1) (np := 19) rfl rfl dX10_storeOutput_18 rfl ?_
      refine j_gI (np := 22) flX10_180 dX10_storeOutput_19 rfl (fun x2 => ?_)
      refine j_i2l (np := 23) dX10_storeOutput_22 rfl ?_
      refine j_ladd (np := 24) dX10_storeOutput_23 rfl ?_
      refine j_aload_n (q := 1) (np := 25) rfl rfl dX10_storeOutput_24 rfl ?_
      refine j_gR (np := 28) flX10_44 dX10_storeOutput_25 rfl (fun x3 => ?_)
      refine j_iload_n (q := 2) (np := 29) rfl rfl dX10_storeOutput_28 rfl ?_
      refine j_iaload (np := 30) dX10_storeOutput_29 rfl (fun x4 => ?_)
      refine j_i2l (np := 31) dX10_storeOutput_30 rfl ?_
      refine j_lcmp (np := 32) dX10_storeOutput_31 rfl ?_
      refine j_if_le (tgt := 38) (np := 35) dX10_storeOutput_32 rfl rfl ?_ ?_
      · refine j_iconst (np := 39) ci_0 dX10_storeOutput_38 rfl ?_
        refine j_istore (np := 41) (lv2 := [(4, .int (0 : Int32)), (3, .int b1.1), (0, .ref (E.2.1 + v0)), (1, .int v1), (2, .int v2)]) (by decide) dX10_storeOutput_39 rfl rfl ?_
        refine j_sub (lv2 := [(0, .ref (E.2.1 + v0)), (1, .int v1), (2, .int v2), (4, .int (0 : Int32))]) [2, 3, 4, 0] rfl ?_
        refine j_loop (xp := 72) (lvX := fun o5 => [(0, .ref (E.2.1 + v0))]) (mX := fun o5 => o5) (lbX10_storeOutput_41 hd _ _ _) (fun o5 => ?_)
        refine j_aload_n (q := 0) (np := 73) rfl rfl dX10_storeOutput_72 rfl ?_
        refine j_gI (np := 76) flX10_180 dX10_storeOutput_73 rfl (fun x6 => ?_)
        exact j_iret rfl dX10_storeOutput_76 (fun rr h => h)
      · refine j_bipush (np := 37) cb_m8 dX10_storeOutput_35 rfl ?_
        exact j_iret rfl dX10_storeOutput_37 (fun rr h => h)
  · refine j_iload_n (q := 0) (np := 11) rfl rfl dX10_storeOutput_10 rfl ?_
    exact j_iret rfl dX10_storeOutput_11 (fun rr h => h)
set_option maxRecDepth 100000 in
theorem wX10_storeOutput {E : qE} {N d : Nat} (hd : 3 ≤ d) {v0 : Nat} {v1 : Int32} {v2 : Int32} {m0 : qM} {b : Int32 × qM} (h : fX10_storeOutput N v0 v1 v2 m0 = some b) : qRun E yX10_storeOutput cX10_storeOutput 5 (some .int) d 0 0 [.ref (E.2.1 + v0), .int v1, .int v2] m0 (some (.int b.1), b.2) := q_met pnX10 (Nat.le_of_ble_eq_true rfl) (bX10_storeOutput hd b _ h rfl)
theorem dX10_loadText_0 : decode cX10_loadText 0 = .ok (.aload_n 0, 1) := by decide +kernel
theorem dX10_loadText_1 : decode cX10_loadText 1 = .ok (.iload_n 1, 1) := by decide +kernel
theorem dX10_loadText_2 : decode cX10_loadText 2 = .ok (.invokevirtual 319, 3) := by decide +kernel
theorem dX10_loadText_5 : decode cX10_loadText 5 = .ok (.istore 4, 2) := by decide +kernel
theorem dX10_loadText_7 : decode cX10_loadText 7 = .ok (.iload 4, 2) := by decide +kernel
theorem dX10_loadText_9 : decode cX10_loadText 9 = .ok (.ifCond .ge 6, 3) := by decide +kernel
theorem dX10_loadText_12 : decode cX10_loadText 12 = .ok (.iload 4, 2) := by decide +kernel
theorem dX10_loadText_14 : decode cX10_loadText 14 = .ok (.ireturn, 1) := by decide +kernel
theorem dX10_loadText_15 : decode cX10_loadText 15 = .ok (.iload_n 2, 1) := by decide +kernel
theorem dX10_loadText_16 : decode cX10_loadText 16 = .ok (.ifCond .lt 23, 3) := by decide +kernel
theorem dX10_loadText_19 : decode cX10_loadText 19 = .ok (.iload_n 3, 1) := by decide +kernel
theorem dX10_loadText_20 : decode cX10_loadText 20 = .ok (.ifCond .lt 19, 3) := by decide +kernel
theorem dX10_loadText_23 : decode cX10_loadText 23 = .ok (.iload_n 2, 1) := by decide +kernel
theorem dX10_loadText_24 : decode cX10_loadText 24 = .ok (.i2l, 1) := by decide +kernel
theorem dX10_loadText_25 : decode cX10_loadText 25 = .ok (.iload_n 3, 1) := by decide +kernel
theorem dX10_loadText_26 : decode cX10_loadText 26 = .ok (.i2l, 1) := by decide +kernel
theorem dX10_loadText_27 : decode cX10_loadText 27 = .ok (.ladd, 1) := by decide +kernel
theorem dX10_loadText_28 : decode cX10_loadText 28 = .ok (.aload_n 0, 1) := by decide +kernel
theorem dX10_loadText_29 : decode cX10_loadText 29 = .ok (.getfield 44, 3) := by decide +kernel
theorem dX10_loadText_32 : decode cX10_loadText 32 = .ok (.iload_n 1, 1) := by decide +kernel
theorem dX10_loadText_33 : decode cX10_loadText 33 = .ok (.iaload, 1) := by decide +kernel
theorem dX10_loadText_34 : decode cX10_loadText 34 = .ok (.i2l, 1) := by decide +kernel
theorem dX10_loadText_35 : decode cX10_loadText 35 = .ok (.lcmp, 1) := by decide +kernel
theorem dX10_loadText_36 : decode cX10_loadText 36 = .ok (.ifCond .le 6, 3) := by decide +kernel
theorem dX10_loadText_39 : decode cX10_loadText 39 = .ok (.bipush (-8), 2) := by decide +kernel
theorem dX10_loadText_41 : decode cX10_loadText 41 = .ok (.ireturn, 1) := by decide +kernel
theorem dX10_loadText_42 : decode cX10_loadText 42 = .ok (.iconst 0, 1) := by decide +kernel
theorem dX10_loadText_43 : decode cX10_loadText 43 = .ok (.istore 5, 2) := by decide +kernel
theorem dX10_loadText_45 : decode cX10_loadText 45 = .ok (.iload 5, 2) := by decide +kernel
theorem dX10_loadText_47 : decode cX10_loadText 47 = .ok (.iload_n 3, 1) := by decide +kernel
theorem dX10_loadText_48 : decode cX10_loadText 48 = .ok (.if_icmp .ge 30, 3) := by decide +kernel
theorem dX10_loadText_51 : decode cX10_loadText 51 = .ok (.aload_n 0, 1) := by decide +kernel
theorem dX10_loadText_52 : decode cX10_loadText 52 = .ok (.aload_n 0, 1) := by decide +kernel
theorem dX10_loadText_53 : decode cX10_loadText 53 = .ok (.getfield 47, 3) := by decide +kernel
theorem dX10_loadText_56 : decode cX10_loadText 56 = .ok (.bipush 80, 2) := by decide +kernel
theorem dX10_loadText_58 : decode cX10_loadText 58 = .ok (.iload_n 1, 1) := by decide +kernel
theorem dX10_loadText_59 : decode cX10_loadText 59 = .ok (.imul, 1) := by decide +kernel
theorem dX10_loadText_60 : decode cX10_loadText 60 = .ok (.iload_n 2, 1) := by decide +kernel
theorem dX10_loadText_61 : decode cX10_loadText 61 = .ok (.iadd, 1) := by decide +kernel
theorem dX10_loadText_62 : decode cX10_loadText 62 = .ok (.iload 5, 2) := by decide +kernel
theorem dX10_loadText_64 : decode cX10_loadText 64 = .ok (.iadd, 1) := by decide +kernel
theorem dX10_loadText_65 : decode cX10_loadText 65 = .ok (.iaload, 1) := by decide +kernel
theorem dX10_loadText_66 : decode cX10_loadText 66 = .ok (.invokevirtual 330, 3) := by decide +kernel
theorem dX10_loadText_69 : decode cX10_loadText 69 = .ok (.ifCond .le 9, 3) := by decide +kernel
theorem dX10_loadText_72 : decode cX10_loadText 72 = .ok (.iinc 5 1, 3) := by decide +kernel
theorem dX10_loadText_75 : decode cX10_loadText 75 = .ok (.goto (-30), 3) := by decide +kernel
theorem dX10_loadText_78 : decode cX10_loadText 78 = .ok (.iload 5, 2) := by decide +kernel
theorem dX10_loadText_80 : decode cX10_loadText 80 = .ok (.ireturn, 1) := by decide +kernel
def lX10_loadText_45 (N : Nat) (v0 : Nat) (v1 : Int32) (v2 : Int32) (v3 : Int32) : Nat → Int32 → qM → Option (Int32 × qM)
  | 0, _, _ => none
  | n + 1, v5, m0 =>
    if v3 ≤ v5 then (
    some (v5, m0)
    ) else (
    (qgR m0 v0 10 17).bind fun x1 =>
    (qaI m0 x1 12 ((((80 : Int32) * v1) + v2) + v5)).bind fun x2 =>
    (qChk m0 v0 10 (fX10_append N v0 x2 m0)).bind fun b3 =>
    if b3.1 ≤ 0 then (
    some (v5, b3.2)
    ) else (
    lX10_loadText_45 N v0 v1 v2 v3 n (v5 + (1 : Int32)) b3.2
    )
    )
set_option maxRecDepth 100000 in
theorem lbX10_loadText_45 {E : qE} {N d bc bs : Nat} (hd : 3 ≤ d) {v0 : Nat} {v1 : Int32} {v2 : Int32} {v3 : Int32} : ∀ (n : Nat) (v5 : Int32) (m0 : qM), qB E yX10_loadText cX10_loadText 6 (some .int) (fun _ => True) d bc bs 45 [(0, .ref (E.2.1 + v0)), (1, .int v1), (2, .int v2), (3, .int v3), (5, .int v5)] [] m0 (lX10_loadText_45 N v0 v1 v2 v3 n v5 m0) (fun o rr => qJ E yX10_loadText cX10_loadText 6 (some .int) (fun _ => True) d bc bs 78 [(5, .int o.1)] [] o.2 rr) := by
  intro n
  induction n with
  | zero =>
    intro v5 m0
    exact j_none
  | succ n ih =>
    intro v5 m0
    unfold lX10_loadText_45
    refine j_iload (q := 4) (np := 47) rfl dX10_loadText_45 rfl ?_
    refine j_iload_n (q := 3) (np := 48) rfl rfl dX10_loadText_47 rfl ?_
    refine j_icmp_ge (tgt := 78) (np := 51) dX10_loadText_48 rfl rfl ?_ ?_
    · refine j_sub (lv2 := [(5, .int v5)]) [4] rfl ?_
      exact j_exit (fun rr h => h)
    · refine j_aload_n (q := 0) (np := 52) rfl rfl dX10_loadText_51 rfl ?_
      refine j_aload_n (q := 0) (np := 53) rfl rfl dX10_loadText_52 rfl ?_
      refine j_gR (np := 56) flX10_47 dX10_loadText_53 rfl (fun x1 => ?_)
      refine j_bipush (np := 58) cb_80 dX10_loadText_56 rfl ?_
      refine j_iload_n (q := 1) (np := 59) rfl rfl dX10_loadText_58 rfl ?_
      refine j_imul (np := 60) dX10_loadText_59 rfl ?_
      refine j_iload_n (q := 2) (np := 61) rfl rfl dX10_loadText_60 rfl ?_
      refine j_iadd (np := 62) dX10_loadText_61 rfl ?_
      refine j_iload (q := 4) (np := 64) rfl dX10_loadText_62 rfl ?_
      refine j_iadd (np := 65) dX10_loadText_64 rfl ?_
      refine j_iaload (np := 66) dX10_loadText_65 rfl (fun x2 => ?_)
      refine j_callVi (ci := 10) (np := 69) (bc := bc) (bs := bs) (cb := 0) (cs := 0) (dd := d - 1) (As := [.int x2]) (st := []) caX10_append mlX10_330 imX10_append seX10_append rfl rfl (by decide) (fun b hb => wX10_append (by omega) hb) (by omega) rfl rfl (Nat.le_of_ble_eq_true rfl) dX10_loadText_66 rfl (fun b3 => ?_)
      refine j_if_le (tgt := 78) (np := 72) dX10_loadText_69 rfl rfl ?_ ?_
      · refine j_sub (lv2 := [(5, .int v5)]) [4] rfl ?_
        exact j_exit (fun rr h => h)
      · refine j_iinc (q := 4) (np := 75) (lv2 := [(5, .int (v5 + (1 : Int32))), (0, .ref (E.2.1 + v0)), (1, .int v1), (2, .int v2), (3, .int v3)]) rfl (congrArg _ ci_1) (by decide) dX10_loadText_72 rfl rfl ?_
        refine j_goto (tgt := 45) dX10_loadText_75 rfl ?_
        refine j_sub (lv2 := [(0, .ref (E.2.1 + v0)), (1, .int v1), (2, .int v2), (3, .int v3), (5, .int (v5 + (1 : Int32)))]) [1, 2, 3, 4, 0] rfl ?_
        exact ih _ _
def fX10_loadText (N : Nat) (v0 : Nat) (v1 : Int32) (v2 : Int32) (v3 : Int32) (m0 : qM) : Option (Int32 × qM) :=
  (qChk m0 v0 10 (fX10_lacks N v0 v1 m0)).bind fun b1 =>
  if 0 ≤ b1.1 then (
  if v2 < 0 then (
  some ((-8 : Int32), b1.2)
  ) else (
  if v3 < 0 then (
  some ((-8 : Int32), b1.2)
  ) else (
  (qgR b1.2 v0 10 16).bind fun x2 =>
  (qaI b1.2 x2 12 v1).bind fun x3 =>
  if lg_cmp (v2.toInt64 + v3.toInt64) x3.toInt64 ≤ 0 then (
  (lX10_loadText_45 N v0 v1 v2 v3 N (0 : Int32) b1.2).bind fun o4 =>
  some (o4.1, o4.2)
  ) else (
  some ((-8 : Int32), b1.2)
  )
  )
  )
  ) else (
  some (b1.1, b1.2)
  )
set_option maxRecDepth 100000 in
theorem bX10_loadText {E : qE} {N d bc bs : Nat} (hd : 3 ≤ d) {v0 : Nat} {v1 : Int32} {v2 : Int32} {v3 : Int32} {m0 : qM} : qB E yX10_loadText cX10_loadText 6 (some .int) (fun _ => True) d bc bs 0 [(0, .ref (E.2.1 + v0)), (1, .int v1), (2, .int v2), (3, .int v3)] [] m0 (fX10_loadText N v0 v1 v2 v3 m0) (fun b rr => rr = (some (.int b.1), b.2)) := by
  unfold fX10_loadText
  refine j_aload_n (q := 0) (np := 1) rfl rfl dX10_loadText_0 rfl ?_
  refine j_iload_n (q := 1) (np := 2) rfl rfl dX10_loadText_1 rfl ?_
  refine j_callVi (ci := 10) (np := 5) (bc := bc) (bs := bs) (cb := 0) (cs := 0) (dd := d - 1) (As := [.int v1]) (st := []) caX10_lacks mlX10_319 imX10_lacks seX10_lacks rfl rfl (by decide) (fun b hb => wX10_lacks (by omega) hb) (by omega) rfl rfl (Nat.le_of_ble_eq_true rfl) dX10_loadText_2 rfl (fun b1 => ?_)
  refine j_istore (np := 7) (lv2 := [(4, .int b1.1), (0, .ref (E.2.1 + v0)), (1, .int v1), (2, .int v2), (3, .int v3)]) (by decide) dX10_loadText_5 rfl rfl ?_
  refine j_iload (q := 0) (np := 9) rfl dX10_loadText_7 rfl ?_
  refine j_if_ge (tgt := 15) (np := 12) dX10_loadText_9 rfl rfl ?_ ?_
  · refine j_iload_n (q := 3) (np := 16) rfl rfl dX10_loadText_15 rfl ?_
    refine j_if_lt (tgt := 39) (np := 19) dX10_loadText_16 rfl rfl ?_ ?_
    · refine j_bipush (np := 41) cb_m8 dX10_loadText_39 rfl ?_
      exact j_iret rfl dX10_loadText_41 (fun rr h => h)
    · refine j_iload_n (q := 4) (np := 20) rfl rfl dX10_loadText_19 rfl ?_
      refine j_if_lt (tgt := 39) (np := 23) dX10_loadText_20 rfl rfl ?_ ?_
      · refine j_bipush (np := 41) cb_m8 dX10_loadText_39 rfl ?_
        exact j_iret rfl dX10_loadText_41 (fun rr h => h)
      · refine j_iload_n (q := 3) (np := 24) rfl rfl dX10_loadText_23 rfl ?_
        refine j_i2l (np := 25) dX10_loadText_24 rfl ?_
        refine j_iload_n (q := 4) (np := 26) rfl rfl dX10_loadText_25 rfl ?_
        refine j_i2l (np := 27) dX10_loadText_26 rfl ?_
        refine j_ladd (np := 28) dX10_loadText_27 rfl ?_
        refine j_aload_n (q := 1) (np := 29) rfl rfl dX10_loadText_28 rfl ?_
        refine j_gR (np := 32) flX10_44 dX10_loadText_29 rfl (fun x2 => ?_)
        refine j_iload_n (q := 2) (np := 33) rfl rfl dX10_loadText_32 rfl ?_
        refine j_iaload (np := 34) dX10_loadText_33 rfl (fun x3 => ?_)
        refine j_i2l (np := 35) dX10_loadText_34 rfl ?_
        refine j_lcmp (np := 36) dX10_loadText_35 rfl ?_
        refine j_if_le (tgt := 42) (np := 39) dX10_loadText_36 rfl rfl ?_ ?_
        · refine j_iconst (np := 43) ci_0 dX10_loadText_42 rfl ?_
          refine j_istore (np := 45) (lv2 := [(5, .int (0 : Int32)), (4, .int b1.1), (0, .ref (E.2.1 + v0)), (1, .int v1), (2, .int v2), (3, .int v3)]) (by decide) dX10_loadText_43 rfl rfl ?_
          refine j_sub (lv2 := [(0, .ref (E.2.1 + v0)), (1, .int v1), (2, .int v2), (3, .int v3), (5, .int (0 : Int32))]) [2, 3, 4, 5, 0] rfl ?_
          refine j_loop (xp := 78) (lvX := fun o4 => [(5, .int o4.1)]) (mX := fun o4 => o4.2) (lbX10_loadText_45 hd _ _ _) (fun o4 => ?_)
          refine j_iload (q := 0) (np := 80) rfl dX10_loadText_78 rfl ?_
          exact j_iret rfl dX10_loadText_80 (fun rr h => h)
        · refine j_bipush (np := 41) cb_m8 dX10_loadText_39 rfl ?_
          exact j_iret rfl dX10_loadText_41 (fun rr h => h)
  · refine j_iload (q := 0) (np := 14) rfl dX10_loadText_12 rfl ?_
    exact j_iret rfl dX10_loadText_14 (fun rr h => h)
set_option maxRecDepth 100000 in
theorem wX10_loadText {E : qE} {N d : Nat} (hd : 3 ≤ d) {v0 : Nat} {v1 : Int32} {v2 : Int32} {v3 : Int32} {m0 : qM} {b : Int32 × qM} (h : fX10_loadText N v0 v1 v2 v3 m0 = some b) : qRun E yX10_loadText cX10_loadText 6 (some .int) d 0 0 [.ref (E.2.1 + v0), .int v1, .int v2, .int v3] m0 (some (.int b.1), b.2) := q_met pnX10 (Nat.le_of_ble_eq_true rfl) (bX10_loadText hd b _ h rfl)
theorem dL_law_0 : decode cL_law 0 = .ok (.new 7, 3) := by decide +kernel
theorem dL_law_3 : decode cL_law 3 = .ok (.dup, 1) := by decide +kernel
theorem dL_law_4 : decode cL_law 4 = .ok (.invokespecial 9, 3) := by decide +kernel
theorem dL_law_7 : decode cL_law 7 = .ok (.astore_n 1, 1) := by decide +kernel
theorem dL_law_8 : decode cL_law 8 = .ok (.new 10, 3) := by decide +kernel
theorem dL_law_11 : decode cL_law 11 = .ok (.dup, 1) := by decide +kernel
theorem dL_law_12 : decode cL_law 12 = .ok (.invokespecial 12, 3) := by decide +kernel
theorem dL_law_15 : decode cL_law 15 = .ok (.astore_n 2, 1) := by decide +kernel
theorem dL_law_16 : decode cL_law 16 = .ok (.iconst 0, 1) := by decide +kernel
theorem dL_law_17 : decode cL_law 17 = .ok (.istore_n 3, 1) := by decide +kernel
theorem dL_law_18 : decode cL_law 18 = .ok (.iload_n 3, 1) := by decide +kernel
theorem dL_law_19 : decode cL_law 19 = .ok (.aload_n 0, 1) := by decide +kernel
theorem dL_law_20 : decode cL_law 20 = .ok (.arraylength, 1) := by decide +kernel
theorem dL_law_21 : decode cL_law 21 = .ok (.bipush 6, 2) := by decide +kernel
theorem dL_law_23 : decode cL_law 23 = .ok (.isub, 1) := by decide +kernel
theorem dL_law_24 : decode cL_law 24 = .ok (.if_icmp .gt 1134, 3) := by decide +kernel
theorem dL_law_27 : decode cL_law 27 = .ok (.aload_n 0, 1) := by decide +kernel
theorem dL_law_28 : decode cL_law 28 = .ok (.iload_n 3, 1) := by decide +kernel
theorem dL_law_29 : decode cL_law 29 = .ok (.iaload, 1) := by decide +kernel
theorem dL_law_30 : decode cL_law 30 = .ok (.bipush 63, 2) := by decide +kernel
theorem dL_law_32 : decode cL_law 32 = .ok (.iand, 1) := by decide +kernel
theorem dL_law_33 : decode cL_law 33 = .ok (.tableswitch 1119 0 35 #[159, 182, 195, 208, 241, 254, 277, 290, 313, 336, 359, 382, 405, 429, 452, 475, 488, 511, 544, 567, 600, 623, 656, 699, 722, 735, 758, 791, 824, 837, 860, 903, 946, 980, 1043, 1076], 159) := by decide +kernel
theorem dL_law_192 : decode cL_law 192 = .ok (.aload_n 1, 1) := by decide +kernel
theorem dL_law_193 : decode cL_law 193 = .ok (.aload_n 0, 1) := by decide +kernel
theorem dL_law_194 : decode cL_law 194 = .ok (.iload_n 3, 1) := by decide +kernel
theorem dL_law_195 : decode cL_law 195 = .ok (.iconst 1, 1) := by decide +kernel
theorem dL_law_196 : decode cL_law 196 = .ok (.iadd, 1) := by decide +kernel
theorem dL_law_197 : decode cL_law 197 = .ok (.iaload, 1) := by decide +kernel
theorem dL_law_198 : decode cL_law 198 = .ok (.invokevirtual 13, 3) := by decide +kernel
theorem dL_law_201 : decode cL_law 201 = .ok (.aload_n 2, 1) := by decide +kernel
theorem dL_law_202 : decode cL_law 202 = .ok (.aload_n 0, 1) := by decide +kernel
theorem dL_law_203 : decode cL_law 203 = .ok (.iload_n 3, 1) := by decide +kernel
theorem dL_law_204 : decode cL_law 204 = .ok (.iconst 1, 1) := by decide +kernel
theorem dL_law_205 : decode cL_law 205 = .ok (.iadd, 1) := by decide +kernel
theorem dL_law_206 : decode cL_law 206 = .ok (.iaload, 1) := by decide +kernel
theorem dL_law_207 : decode cL_law 207 = .ok (.invokevirtual 17, 3) := by decide +kernel
theorem dL_law_210 : decode cL_law 210 = .ok (.if_icmp .eq 942, 3) := by decide +kernel
theorem dL_law_213 : decode cL_law 213 = .ok (.iconst 0, 1) := by decide +kernel
theorem dL_law_214 : decode cL_law 214 = .ok (.ireturn, 1) := by decide +kernel
theorem dL_law_215 : decode cL_law 215 = .ok (.aload_n 1, 1) := by decide +kernel
theorem dL_law_216 : decode cL_law 216 = .ok (.invokevirtual 18, 3) := by decide +kernel
theorem dL_law_219 : decode cL_law 219 = .ok (.aload_n 2, 1) := by decide +kernel
theorem dL_law_220 : decode cL_law 220 = .ok (.invokevirtual 22, 3) := by decide +kernel
theorem dL_law_223 : decode cL_law 223 = .ok (.if_icmp .eq 929, 3) := by decide +kernel
theorem dL_law_226 : decode cL_law 226 = .ok (.iconst 0, 1) := by decide +kernel
theorem dL_law_227 : decode cL_law 227 = .ok (.ireturn, 1) := by decide +kernel
theorem dL_law_228 : decode cL_law 228 = .ok (.aload_n 1, 1) := by decide +kernel
theorem dL_law_229 : decode cL_law 229 = .ok (.invokevirtual 23, 3) := by decide +kernel
theorem dL_law_232 : decode cL_law 232 = .ok (.aload_n 2, 1) := by decide +kernel
theorem dL_law_233 : decode cL_law 233 = .ok (.invokevirtual 26, 3) := by decide +kernel
theorem dL_law_236 : decode cL_law 236 = .ok (.if_icmp .eq 916, 3) := by decide +kernel
theorem dL_law_239 : decode cL_law 239 = .ok (.iconst 0, 1) := by decide +kernel
theorem dL_law_240 : decode cL_law 240 = .ok (.ireturn, 1) := by decide +kernel
theorem dL_law_241 : decode cL_law 241 = .ok (.aload_n 1, 1) := by decide +kernel
theorem dL_law_242 : decode cL_law 242 = .ok (.aload_n 0, 1) := by decide +kernel
theorem dL_law_243 : decode cL_law 243 = .ok (.iload_n 3, 1) := by decide +kernel
theorem dL_law_244 : decode cL_law 244 = .ok (.iconst 1, 1) := by decide +kernel
theorem dL_law_245 : decode cL_law 245 = .ok (.iadd, 1) := by decide +kernel
theorem dL_law_246 : decode cL_law 246 = .ok (.iaload, 1) := by decide +kernel
theorem dL_law_247 : decode cL_law 247 = .ok (.aload_n 0, 1) := by decide +kernel
theorem dL_law_248 : decode cL_law 248 = .ok (.iload_n 3, 1) := by decide +kernel
theorem dL_law_249 : decode cL_law 249 = .ok (.iconst 2, 1) := by decide +kernel
theorem dL_law_250 : decode cL_law 250 = .ok (.iadd, 1) := by decide +kernel
theorem dL_law_251 : decode cL_law 251 = .ok (.iaload, 1) := by decide +kernel
theorem dL_law_252 : decode cL_law 252 = .ok (.invokevirtual 27, 3) := by decide +kernel
theorem dL_law_255 : decode cL_law 255 = .ok (.aload_n 2, 1) := by decide +kernel
theorem dL_law_256 : decode cL_law 256 = .ok (.aload_n 0, 1) := by decide +kernel
theorem dL_law_257 : decode cL_law 257 = .ok (.iload_n 3, 1) := by decide +kernel
theorem dL_law_258 : decode cL_law 258 = .ok (.iconst 1, 1) := by decide +kernel
theorem dL_law_259 : decode cL_law 259 = .ok (.iadd, 1) := by decide +kernel
theorem dL_law_260 : decode cL_law 260 = .ok (.iaload, 1) := by decide +kernel
theorem dL_law_261 : decode cL_law 261 = .ok (.aload_n 0, 1) := by decide +kernel
theorem dL_law_262 : decode cL_law 262 = .ok (.iload_n 3, 1) := by decide +kernel
theorem dL_law_263 : decode cL_law 263 = .ok (.iconst 2, 1) := by decide +kernel
theorem dL_law_264 : decode cL_law 264 = .ok (.iadd, 1) := by decide +kernel
theorem dL_law_265 : decode cL_law 265 = .ok (.iaload, 1) := by decide +kernel
theorem dL_law_266 : decode cL_law 266 = .ok (.invokevirtual 31, 3) := by decide +kernel
theorem dL_law_269 : decode cL_law 269 = .ok (.if_icmp .eq 883, 3) := by decide +kernel
theorem dL_law_272 : decode cL_law 272 = .ok (.iconst 0, 1) := by decide +kernel
theorem dL_law_273 : decode cL_law 273 = .ok (.ireturn, 1) := by decide +kernel
theorem dL_law_274 : decode cL_law 274 = .ok (.aload_n 1, 1) := by decide +kernel
theorem dL_law_275 : decode cL_law 275 = .ok (.invokevirtual 32, 3) := by decide +kernel
theorem dL_law_278 : decode cL_law 278 = .ok (.aload_n 2, 1) := by decide +kernel
theorem dL_law_279 : decode cL_law 279 = .ok (.invokevirtual 35, 3) := by decide +kernel
theorem dL_law_282 : decode cL_law 282 = .ok (.if_icmp .eq 870, 3) := by decide +kernel
theorem dL_law_285 : decode cL_law 285 = .ok (.iconst 0, 1) := by decide +kernel
theorem dL_law_286 : decode cL_law 286 = .ok (.ireturn, 1) := by decide +kernel
theorem dL_law_287 : decode cL_law 287 = .ok (.aload_n 1, 1) := by decide +kernel
theorem dL_law_288 : decode cL_law 288 = .ok (.aload_n 0, 1) := by decide +kernel
theorem dL_law_289 : decode cL_law 289 = .ok (.iload_n 3, 1) := by decide +kernel
theorem dL_law_290 : decode cL_law 290 = .ok (.iconst 1, 1) := by decide +kernel
theorem dL_law_291 : decode cL_law 291 = .ok (.iadd, 1) := by decide +kernel
theorem dL_law_292 : decode cL_law 292 = .ok (.iaload, 1) := by decide +kernel
theorem dL_law_293 : decode cL_law 293 = .ok (.invokevirtual 36, 3) := by decide +kernel
theorem dL_law_296 : decode cL_law 296 = .ok (.aload_n 2, 1) := by decide +kernel
theorem dL_law_297 : decode cL_law 297 = .ok (.aload_n 0, 1) := by decide +kernel
theorem dL_law_298 : decode cL_law 298 = .ok (.iload_n 3, 1) := by decide +kernel
theorem dL_law_299 : decode cL_law 299 = .ok (.iconst 1, 1) := by decide +kernel
theorem dL_law_300 : decode cL_law 300 = .ok (.iadd, 1) := by decide +kernel
theorem dL_law_301 : decode cL_law 301 = .ok (.iaload, 1) := by decide +kernel
theorem dL_law_302 : decode cL_law 302 = .ok (.invokevirtual 39, 3) := by decide +kernel
theorem dL_law_305 : decode cL_law 305 = .ok (.if_icmp .eq 847, 3) := by decide +kernel
theorem dL_law_308 : decode cL_law 308 = .ok (.iconst 0, 1) := by decide +kernel
theorem dL_law_309 : decode cL_law 309 = .ok (.ireturn, 1) := by decide +kernel
theorem dL_law_310 : decode cL_law 310 = .ok (.aload_n 1, 1) := by decide +kernel
theorem dL_law_311 : decode cL_law 311 = .ok (.invokevirtual 40, 3) := by decide +kernel
theorem dL_law_314 : decode cL_law 314 = .ok (.aload_n 2, 1) := by decide +kernel
theorem dL_law_315 : decode cL_law 315 = .ok (.invokevirtual 43, 3) := by decide +kernel
theorem dL_law_318 : decode cL_law 318 = .ok (.if_icmp .eq 834, 3) := by decide +kernel
theorem dL_law_321 : decode cL_law 321 = .ok (.iconst 0, 1) := by decide +kernel
theorem dL_law_322 : decode cL_law 322 = .ok (.ireturn, 1) := by decide +kernel
theorem dL_law_323 : decode cL_law 323 = .ok (.aload_n 1, 1) := by decide +kernel
theorem dL_law_324 : decode cL_law 324 = .ok (.aload_n 0, 1) := by decide +kernel
theorem dL_law_325 : decode cL_law 325 = .ok (.iload_n 3, 1) := by decide +kernel
theorem dL_law_326 : decode cL_law 326 = .ok (.iconst 1, 1) := by decide +kernel
theorem dL_law_327 : decode cL_law 327 = .ok (.iadd, 1) := by decide +kernel
theorem dL_law_328 : decode cL_law 328 = .ok (.iaload, 1) := by decide +kernel
theorem dL_law_329 : decode cL_law 329 = .ok (.invokevirtual 44, 3) := by decide +kernel
theorem dL_law_332 : decode cL_law 332 = .ok (.aload_n 2, 1) := by decide +kernel
theorem dL_law_333 : decode cL_law 333 = .ok (.aload_n 0, 1) := by decide +kernel
theorem dL_law_334 : decode cL_law 334 = .ok (.iload_n 3, 1) := by decide +kernel
theorem dL_law_335 : decode cL_law 335 = .ok (.iconst 1, 1) := by decide +kernel
theorem dL_law_336 : decode cL_law 336 = .ok (.iadd, 1) := by decide +kernel
theorem dL_law_337 : decode cL_law 337 = .ok (.iaload, 1) := by decide +kernel
theorem dL_law_338 : decode cL_law 338 = .ok (.invokevirtual 47, 3) := by decide +kernel
theorem dL_law_341 : decode cL_law 341 = .ok (.if_icmp .eq 811, 3) := by decide +kernel
theorem dL_law_344 : decode cL_law 344 = .ok (.iconst 0, 1) := by decide +kernel
theorem dL_law_345 : decode cL_law 345 = .ok (.ireturn, 1) := by decide +kernel
theorem dL_law_346 : decode cL_law 346 = .ok (.aload_n 1, 1) := by decide +kernel
theorem dL_law_347 : decode cL_law 347 = .ok (.aload_n 0, 1) := by decide +kernel
theorem dL_law_348 : decode cL_law 348 = .ok (.iload_n 3, 1) := by decide +kernel
theorem dL_law_349 : decode cL_law 349 = .ok (.iconst 1, 1) := by decide +kernel
theorem dL_law_350 : decode cL_law 350 = .ok (.iadd, 1) := by decide +kernel
theorem dL_law_351 : decode cL_law 351 = .ok (.iaload, 1) := by decide +kernel
theorem dL_law_352 : decode cL_law 352 = .ok (.invokevirtual 48, 3) := by decide +kernel
theorem dL_law_355 : decode cL_law 355 = .ok (.aload_n 2, 1) := by decide +kernel
theorem dL_law_356 : decode cL_law 356 = .ok (.aload_n 0, 1) := by decide +kernel
theorem dL_law_357 : decode cL_law 357 = .ok (.iload_n 3, 1) := by decide +kernel
theorem dL_law_358 : decode cL_law 358 = .ok (.iconst 1, 1) := by decide +kernel
theorem dL_law_359 : decode cL_law 359 = .ok (.iadd, 1) := by decide +kernel
theorem dL_law_360 : decode cL_law 360 = .ok (.iaload, 1) := by decide +kernel
theorem dL_law_361 : decode cL_law 361 = .ok (.invokevirtual 51, 3) := by decide +kernel
theorem dL_law_364 : decode cL_law 364 = .ok (.if_icmp .eq 788, 3) := by decide +kernel
theorem dL_law_367 : decode cL_law 367 = .ok (.iconst 0, 1) := by decide +kernel
theorem dL_law_368 : decode cL_law 368 = .ok (.ireturn, 1) := by decide +kernel
theorem dL_law_369 : decode cL_law 369 = .ok (.aload_n 1, 1) := by decide +kernel
theorem dL_law_370 : decode cL_law 370 = .ok (.aload_n 0, 1) := by decide +kernel
theorem dL_law_371 : decode cL_law 371 = .ok (.iload_n 3, 1) := by decide +kernel
theorem dL_law_372 : decode cL_law 372 = .ok (.iconst 1, 1) := by decide +kernel
theorem dL_law_373 : decode cL_law 373 = .ok (.iadd, 1) := by decide +kernel
theorem dL_law_374 : decode cL_law 374 = .ok (.iaload, 1) := by decide +kernel
theorem dL_law_375 : decode cL_law 375 = .ok (.invokevirtual 52, 3) := by decide +kernel
theorem dL_law_378 : decode cL_law 378 = .ok (.aload_n 2, 1) := by decide +kernel
theorem dL_law_379 : decode cL_law 379 = .ok (.aload_n 0, 1) := by decide +kernel
theorem dL_law_380 : decode cL_law 380 = .ok (.iload_n 3, 1) := by decide +kernel
theorem dL_law_381 : decode cL_law 381 = .ok (.iconst 1, 1) := by decide +kernel
theorem dL_law_382 : decode cL_law 382 = .ok (.iadd, 1) := by decide +kernel
theorem dL_law_383 : decode cL_law 383 = .ok (.iaload, 1) := by decide +kernel
theorem dL_law_384 : decode cL_law 384 = .ok (.invokevirtual 55, 3) := by decide +kernel
theorem dL_law_387 : decode cL_law 387 = .ok (.if_icmp .eq 765, 3) := by decide +kernel
theorem dL_law_390 : decode cL_law 390 = .ok (.iconst 0, 1) := by decide +kernel
theorem dL_law_391 : decode cL_law 391 = .ok (.ireturn, 1) := by decide +kernel
theorem dL_law_392 : decode cL_law 392 = .ok (.aload_n 1, 1) := by decide +kernel
theorem dL_law_393 : decode cL_law 393 = .ok (.aload_n 0, 1) := by decide +kernel
theorem dL_law_394 : decode cL_law 394 = .ok (.iload_n 3, 1) := by decide +kernel
theorem dL_law_395 : decode cL_law 395 = .ok (.iconst 1, 1) := by decide +kernel
theorem dL_law_396 : decode cL_law 396 = .ok (.iadd, 1) := by decide +kernel
theorem dL_law_397 : decode cL_law 397 = .ok (.iaload, 1) := by decide +kernel
theorem dL_law_398 : decode cL_law 398 = .ok (.invokevirtual 56, 3) := by decide +kernel
theorem dL_law_401 : decode cL_law 401 = .ok (.aload_n 2, 1) := by decide +kernel
theorem dL_law_402 : decode cL_law 402 = .ok (.aload_n 0, 1) := by decide +kernel
theorem dL_law_403 : decode cL_law 403 = .ok (.iload_n 3, 1) := by decide +kernel
theorem dL_law_404 : decode cL_law 404 = .ok (.iconst 1, 1) := by decide +kernel
theorem dL_law_405 : decode cL_law 405 = .ok (.iadd, 1) := by decide +kernel
theorem dL_law_406 : decode cL_law 406 = .ok (.iaload, 1) := by decide +kernel
theorem dL_law_407 : decode cL_law 407 = .ok (.invokevirtual 59, 3) := by decide +kernel
theorem dL_law_410 : decode cL_law 410 = .ok (.if_icmp .eq 742, 3) := by decide +kernel
theorem dL_law_413 : decode cL_law 413 = .ok (.iconst 0, 1) := by decide +kernel
theorem dL_law_414 : decode cL_law 414 = .ok (.ireturn, 1) := by decide +kernel
theorem dL_law_415 : decode cL_law 415 = .ok (.aload_n 1, 1) := by decide +kernel
theorem dL_law_416 : decode cL_law 416 = .ok (.aload_n 0, 1) := by decide +kernel
theorem dL_law_417 : decode cL_law 417 = .ok (.iload_n 3, 1) := by decide +kernel
theorem dL_law_418 : decode cL_law 418 = .ok (.iconst 1, 1) := by decide +kernel
theorem dL_law_419 : decode cL_law 419 = .ok (.iadd, 1) := by decide +kernel
theorem dL_law_420 : decode cL_law 420 = .ok (.iaload, 1) := by decide +kernel
theorem dL_law_421 : decode cL_law 421 = .ok (.invokevirtual 60, 3) := by decide +kernel
theorem dL_law_424 : decode cL_law 424 = .ok (.aload_n 2, 1) := by decide +kernel
theorem dL_law_425 : decode cL_law 425 = .ok (.aload_n 0, 1) := by decide +kernel
theorem dL_law_426 : decode cL_law 426 = .ok (.iload_n 3, 1) := by decide +kernel
theorem dL_law_427 : decode cL_law 427 = .ok (.iconst 1, 1) := by decide +kernel
theorem dL_law_428 : decode cL_law 428 = .ok (.iadd, 1) := by decide +kernel
theorem dL_law_429 : decode cL_law 429 = .ok (.iaload, 1) := by decide +kernel
theorem dL_law_430 : decode cL_law 430 = .ok (.invokevirtual 63, 3) := by decide +kernel
theorem dL_law_433 : decode cL_law 433 = .ok (.if_icmp .eq 719, 3) := by decide +kernel
theorem dL_law_436 : decode cL_law 436 = .ok (.iconst 0, 1) := by decide +kernel
theorem dL_law_437 : decode cL_law 437 = .ok (.ireturn, 1) := by decide +kernel
theorem dL_law_438 : decode cL_law 438 = .ok (.aload_n 1, 1) := by decide +kernel
theorem dL_law_439 : decode cL_law 439 = .ok (.aload_n 0, 1) := by decide +kernel
theorem dL_law_440 : decode cL_law 440 = .ok (.iload_n 3, 1) := by decide +kernel
theorem dL_law_441 : decode cL_law 441 = .ok (.iconst 1, 1) := by decide +kernel
theorem dL_law_442 : decode cL_law 442 = .ok (.iadd, 1) := by decide +kernel
theorem dL_law_443 : decode cL_law 443 = .ok (.iaload, 1) := by decide +kernel
theorem dL_law_444 : decode cL_law 444 = .ok (.invokevirtual 64, 3) := by decide +kernel
theorem dL_law_447 : decode cL_law 447 = .ok (.aload_n 2, 1) := by decide +kernel
theorem dL_law_448 : decode cL_law 448 = .ok (.aload_n 0, 1) := by decide +kernel
theorem dL_law_449 : decode cL_law 449 = .ok (.iload_n 3, 1) := by decide +kernel
theorem dL_law_450 : decode cL_law 450 = .ok (.iconst 1, 1) := by decide +kernel
theorem dL_law_451 : decode cL_law 451 = .ok (.iadd, 1) := by decide +kernel
theorem dL_law_452 : decode cL_law 452 = .ok (.iaload, 1) := by decide +kernel
theorem dL_law_453 : decode cL_law 453 = .ok (.invokevirtual 68, 3) := by decide +kernel
theorem dL_law_456 : decode cL_law 456 = .ok (.lcmp, 1) := by decide +kernel
theorem dL_law_457 : decode cL_law 457 = .ok (.ifCond .eq 695, 3) := by decide +kernel
theorem dL_law_460 : decode cL_law 460 = .ok (.iconst 0, 1) := by decide +kernel
theorem dL_law_461 : decode cL_law 461 = .ok (.ireturn, 1) := by decide +kernel
theorem dL_law_462 : decode cL_law 462 = .ok (.aload_n 1, 1) := by decide +kernel
theorem dL_law_463 : decode cL_law 463 = .ok (.aload_n 0, 1) := by decide +kernel
theorem dL_law_464 : decode cL_law 464 = .ok (.iload_n 3, 1) := by decide +kernel
theorem dL_law_465 : decode cL_law 465 = .ok (.iconst 1, 1) := by decide +kernel
theorem dL_law_466 : decode cL_law 466 = .ok (.iadd, 1) := by decide +kernel
theorem dL_law_467 : decode cL_law 467 = .ok (.iaload, 1) := by decide +kernel
theorem dL_law_468 : decode cL_law 468 = .ok (.invokevirtual 69, 3) := by decide +kernel
theorem dL_law_471 : decode cL_law 471 = .ok (.aload_n 2, 1) := by decide +kernel
theorem dL_law_472 : decode cL_law 472 = .ok (.aload_n 0, 1) := by decide +kernel
theorem dL_law_473 : decode cL_law 473 = .ok (.iload_n 3, 1) := by decide +kernel
theorem dL_law_474 : decode cL_law 474 = .ok (.iconst 1, 1) := by decide +kernel
theorem dL_law_475 : decode cL_law 475 = .ok (.iadd, 1) := by decide +kernel
theorem dL_law_476 : decode cL_law 476 = .ok (.iaload, 1) := by decide +kernel
theorem dL_law_477 : decode cL_law 477 = .ok (.invokevirtual 72, 3) := by decide +kernel
theorem dL_law_480 : decode cL_law 480 = .ok (.if_icmp .eq 672, 3) := by decide +kernel
theorem dL_law_483 : decode cL_law 483 = .ok (.iconst 0, 1) := by decide +kernel
theorem dL_law_484 : decode cL_law 484 = .ok (.ireturn, 1) := by decide +kernel
theorem dL_law_485 : decode cL_law 485 = .ok (.aload_n 1, 1) := by decide +kernel
theorem dL_law_486 : decode cL_law 486 = .ok (.aload_n 0, 1) := by decide +kernel
theorem dL_law_487 : decode cL_law 487 = .ok (.iload_n 3, 1) := by decide +kernel
theorem dL_law_488 : decode cL_law 488 = .ok (.iconst 1, 1) := by decide +kernel
theorem dL_law_489 : decode cL_law 489 = .ok (.iadd, 1) := by decide +kernel
theorem dL_law_490 : decode cL_law 490 = .ok (.iaload, 1) := by decide +kernel
theorem dL_law_491 : decode cL_law 491 = .ok (.invokevirtual 73, 3) := by decide +kernel
theorem dL_law_494 : decode cL_law 494 = .ok (.aload_n 2, 1) := by decide +kernel
theorem dL_law_495 : decode cL_law 495 = .ok (.aload_n 0, 1) := by decide +kernel
theorem dL_law_496 : decode cL_law 496 = .ok (.iload_n 3, 1) := by decide +kernel
theorem dL_law_497 : decode cL_law 497 = .ok (.iconst 1, 1) := by decide +kernel
theorem dL_law_498 : decode cL_law 498 = .ok (.iadd, 1) := by decide +kernel
theorem dL_law_499 : decode cL_law 499 = .ok (.iaload, 1) := by decide +kernel
theorem dL_law_500 : decode cL_law 500 = .ok (.invokevirtual 76, 3) := by decide +kernel
theorem dL_law_503 : decode cL_law 503 = .ok (.if_icmp .eq 649, 3) := by decide +kernel
theorem dL_law_506 : decode cL_law 506 = .ok (.iconst 0, 1) := by decide +kernel
theorem dL_law_507 : decode cL_law 507 = .ok (.ireturn, 1) := by decide +kernel
theorem dL_law_508 : decode cL_law 508 = .ok (.aload_n 1, 1) := by decide +kernel
theorem dL_law_509 : decode cL_law 509 = .ok (.invokevirtual 77, 3) := by decide +kernel
theorem dL_law_512 : decode cL_law 512 = .ok (.aload_n 2, 1) := by decide +kernel
theorem dL_law_513 : decode cL_law 513 = .ok (.invokevirtual 80, 3) := by decide +kernel
theorem dL_law_516 : decode cL_law 516 = .ok (.if_icmp .eq 636, 3) := by decide +kernel
theorem dL_law_519 : decode cL_law 519 = .ok (.iconst 0, 1) := by decide +kernel
theorem dL_law_520 : decode cL_law 520 = .ok (.ireturn, 1) := by decide +kernel
theorem dL_law_521 : decode cL_law 521 = .ok (.aload_n 1, 1) := by decide +kernel
theorem dL_law_522 : decode cL_law 522 = .ok (.aload_n 0, 1) := by decide +kernel
theorem dL_law_523 : decode cL_law 523 = .ok (.iload_n 3, 1) := by decide +kernel
theorem dL_law_524 : decode cL_law 524 = .ok (.iconst 1, 1) := by decide +kernel
theorem dL_law_525 : decode cL_law 525 = .ok (.iadd, 1) := by decide +kernel
theorem dL_law_526 : decode cL_law 526 = .ok (.iaload, 1) := by decide +kernel
theorem dL_law_527 : decode cL_law 527 = .ok (.invokevirtual 81, 3) := by decide +kernel
theorem dL_law_530 : decode cL_law 530 = .ok (.aload_n 2, 1) := by decide +kernel
theorem dL_law_531 : decode cL_law 531 = .ok (.aload_n 0, 1) := by decide +kernel
theorem dL_law_532 : decode cL_law 532 = .ok (.iload_n 3, 1) := by decide +kernel
theorem dL_law_533 : decode cL_law 533 = .ok (.iconst 1, 1) := by decide +kernel
theorem dL_law_534 : decode cL_law 534 = .ok (.iadd, 1) := by decide +kernel
theorem dL_law_535 : decode cL_law 535 = .ok (.iaload, 1) := by decide +kernel
theorem dL_law_536 : decode cL_law 536 = .ok (.invokevirtual 84, 3) := by decide +kernel
theorem dL_law_539 : decode cL_law 539 = .ok (.if_icmp .eq 613, 3) := by decide +kernel
theorem dL_law_542 : decode cL_law 542 = .ok (.iconst 0, 1) := by decide +kernel
theorem dL_law_543 : decode cL_law 543 = .ok (.ireturn, 1) := by decide +kernel
theorem dL_law_544 : decode cL_law 544 = .ok (.aload_n 1, 1) := by decide +kernel
theorem dL_law_545 : decode cL_law 545 = .ok (.aload_n 0, 1) := by decide +kernel
theorem dL_law_546 : decode cL_law 546 = .ok (.iload_n 3, 1) := by decide +kernel
theorem dL_law_547 : decode cL_law 547 = .ok (.iconst 1, 1) := by decide +kernel
theorem dL_law_548 : decode cL_law 548 = .ok (.iadd, 1) := by decide +kernel
theorem dL_law_549 : decode cL_law 549 = .ok (.iaload, 1) := by decide +kernel
theorem dL_law_550 : decode cL_law 550 = .ok (.aload_n 0, 1) := by decide +kernel
theorem dL_law_551 : decode cL_law 551 = .ok (.iload_n 3, 1) := by decide +kernel
theorem dL_law_552 : decode cL_law 552 = .ok (.iconst 2, 1) := by decide +kernel
theorem dL_law_553 : decode cL_law 553 = .ok (.iadd, 1) := by decide +kernel
theorem dL_law_554 : decode cL_law 554 = .ok (.iaload, 1) := by decide +kernel
theorem dL_law_555 : decode cL_law 555 = .ok (.invokevirtual 85, 3) := by decide +kernel
theorem dL_law_558 : decode cL_law 558 = .ok (.aload_n 2, 1) := by decide +kernel
theorem dL_law_559 : decode cL_law 559 = .ok (.aload_n 0, 1) := by decide +kernel
theorem dL_law_560 : decode cL_law 560 = .ok (.iload_n 3, 1) := by decide +kernel
theorem dL_law_561 : decode cL_law 561 = .ok (.iconst 1, 1) := by decide +kernel
theorem dL_law_562 : decode cL_law 562 = .ok (.iadd, 1) := by decide +kernel
theorem dL_law_563 : decode cL_law 563 = .ok (.iaload, 1) := by decide +kernel
theorem dL_law_564 : decode cL_law 564 = .ok (.aload_n 0, 1) := by decide +kernel
theorem dL_law_565 : decode cL_law 565 = .ok (.iload_n 3, 1) := by decide +kernel
theorem dL_law_566 : decode cL_law 566 = .ok (.iconst 2, 1) := by decide +kernel
theorem dL_law_567 : decode cL_law 567 = .ok (.iadd, 1) := by decide +kernel
theorem dL_law_568 : decode cL_law 568 = .ok (.iaload, 1) := by decide +kernel
theorem dL_law_569 : decode cL_law 569 = .ok (.invokevirtual 88, 3) := by decide +kernel
theorem dL_law_572 : decode cL_law 572 = .ok (.if_icmp .eq 580, 3) := by decide +kernel
theorem dL_law_575 : decode cL_law 575 = .ok (.iconst 0, 1) := by decide +kernel
theorem dL_law_576 : decode cL_law 576 = .ok (.ireturn, 1) := by decide +kernel
theorem dL_law_577 : decode cL_law 577 = .ok (.aload_n 1, 1) := by decide +kernel
theorem dL_law_578 : decode cL_law 578 = .ok (.aload_n 0, 1) := by decide +kernel
theorem dL_law_579 : decode cL_law 579 = .ok (.iload_n 3, 1) := by decide +kernel
theorem dL_law_580 : decode cL_law 580 = .ok (.iconst 1, 1) := by decide +kernel
theorem dL_law_581 : decode cL_law 581 = .ok (.iadd, 1) := by decide +kernel
theorem dL_law_582 : decode cL_law 582 = .ok (.iaload, 1) := by decide +kernel
theorem dL_law_583 : decode cL_law 583 = .ok (.invokevirtual 89, 3) := by decide +kernel
theorem dL_law_586 : decode cL_law 586 = .ok (.aload_n 2, 1) := by decide +kernel
theorem dL_law_587 : decode cL_law 587 = .ok (.aload_n 0, 1) := by decide +kernel
theorem dL_law_588 : decode cL_law 588 = .ok (.iload_n 3, 1) := by decide +kernel
theorem dL_law_589 : decode cL_law 589 = .ok (.iconst 1, 1) := by decide +kernel
theorem dL_law_590 : decode cL_law 590 = .ok (.iadd, 1) := by decide +kernel
theorem dL_law_591 : decode cL_law 591 = .ok (.iaload, 1) := by decide +kernel
theorem dL_law_592 : decode cL_law 592 = .ok (.invokevirtual 92, 3) := by decide +kernel
theorem dL_law_595 : decode cL_law 595 = .ok (.if_icmp .eq 557, 3) := by decide +kernel
theorem dL_law_598 : decode cL_law 598 = .ok (.iconst 0, 1) := by decide +kernel
theorem dL_law_599 : decode cL_law 599 = .ok (.ireturn, 1) := by decide +kernel
theorem dL_law_600 : decode cL_law 600 = .ok (.aload_n 1, 1) := by decide +kernel
theorem dL_law_601 : decode cL_law 601 = .ok (.aload_n 0, 1) := by decide +kernel
theorem dL_law_602 : decode cL_law 602 = .ok (.iload_n 3, 1) := by decide +kernel
theorem dL_law_603 : decode cL_law 603 = .ok (.iconst 1, 1) := by decide +kernel
theorem dL_law_604 : decode cL_law 604 = .ok (.iadd, 1) := by decide +kernel
theorem dL_law_605 : decode cL_law 605 = .ok (.iaload, 1) := by decide +kernel
theorem dL_law_606 : decode cL_law 606 = .ok (.aload_n 0, 1) := by decide +kernel
theorem dL_law_607 : decode cL_law 607 = .ok (.iload_n 3, 1) := by decide +kernel
theorem dL_law_608 : decode cL_law 608 = .ok (.iconst 2, 1) := by decide +kernel
theorem dL_law_609 : decode cL_law 609 = .ok (.iadd, 1) := by decide +kernel
theorem dL_law_610 : decode cL_law 610 = .ok (.iaload, 1) := by decide +kernel
theorem dL_law_611 : decode cL_law 611 = .ok (.invokevirtual 93, 3) := by decide +kernel
theorem dL_law_614 : decode cL_law 614 = .ok (.aload_n 2, 1) := by decide +kernel
theorem dL_law_615 : decode cL_law 615 = .ok (.aload_n 0, 1) := by decide +kernel
theorem dL_law_616 : decode cL_law 616 = .ok (.iload_n 3, 1) := by decide +kernel
theorem dL_law_617 : decode cL_law 617 = .ok (.iconst 1, 1) := by decide +kernel
theorem dL_law_618 : decode cL_law 618 = .ok (.iadd, 1) := by decide +kernel
theorem dL_law_619 : decode cL_law 619 = .ok (.iaload, 1) := by decide +kernel
theorem dL_law_620 : decode cL_law 620 = .ok (.aload_n 0, 1) := by decide +kernel
theorem dL_law_621 : decode cL_law 621 = .ok (.iload_n 3, 1) := by decide +kernel
theorem dL_law_622 : decode cL_law 622 = .ok (.iconst 2, 1) := by decide +kernel
theorem dL_law_623 : decode cL_law 623 = .ok (.iadd, 1) := by decide +kernel
theorem dL_law_624 : decode cL_law 624 = .ok (.iaload, 1) := by decide +kernel
theorem dL_law_625 : decode cL_law 625 = .ok (.invokevirtual 96, 3) := by decide +kernel
theorem dL_law_628 : decode cL_law 628 = .ok (.if_icmp .eq 524, 3) := by decide +kernel
theorem dL_law_631 : decode cL_law 631 = .ok (.iconst 0, 1) := by decide +kernel
theorem dL_law_632 : decode cL_law 632 = .ok (.ireturn, 1) := by decide +kernel
theorem dL_law_633 : decode cL_law 633 = .ok (.aload_n 1, 1) := by decide +kernel
theorem dL_law_634 : decode cL_law 634 = .ok (.aload_n 0, 1) := by decide +kernel
theorem dL_law_635 : decode cL_law 635 = .ok (.iload_n 3, 1) := by decide +kernel
theorem dL_law_636 : decode cL_law 636 = .ok (.iconst 1, 1) := by decide +kernel
theorem dL_law_637 : decode cL_law 637 = .ok (.iadd, 1) := by decide +kernel
theorem dL_law_638 : decode cL_law 638 = .ok (.iaload, 1) := by decide +kernel
theorem dL_law_639 : decode cL_law 639 = .ok (.invokevirtual 97, 3) := by decide +kernel
theorem dL_law_642 : decode cL_law 642 = .ok (.aload_n 2, 1) := by decide +kernel
theorem dL_law_643 : decode cL_law 643 = .ok (.aload_n 0, 1) := by decide +kernel
theorem dL_law_644 : decode cL_law 644 = .ok (.iload_n 3, 1) := by decide +kernel
theorem dL_law_645 : decode cL_law 645 = .ok (.iconst 1, 1) := by decide +kernel
theorem dL_law_646 : decode cL_law 646 = .ok (.iadd, 1) := by decide +kernel
theorem dL_law_647 : decode cL_law 647 = .ok (.iaload, 1) := by decide +kernel
theorem dL_law_648 : decode cL_law 648 = .ok (.invokevirtual 100, 3) := by decide +kernel
theorem dL_law_651 : decode cL_law 651 = .ok (.if_icmp .eq 501, 3) := by decide +kernel
theorem dL_law_654 : decode cL_law 654 = .ok (.iconst 0, 1) := by decide +kernel
theorem dL_law_655 : decode cL_law 655 = .ok (.ireturn, 1) := by decide +kernel
theorem dL_law_656 : decode cL_law 656 = .ok (.aload_n 1, 1) := by decide +kernel
theorem dL_law_657 : decode cL_law 657 = .ok (.aload_n 0, 1) := by decide +kernel
theorem dL_law_658 : decode cL_law 658 = .ok (.iload_n 3, 1) := by decide +kernel
theorem dL_law_659 : decode cL_law 659 = .ok (.iconst 1, 1) := by decide +kernel
theorem dL_law_660 : decode cL_law 660 = .ok (.iadd, 1) := by decide +kernel
theorem dL_law_661 : decode cL_law 661 = .ok (.iaload, 1) := by decide +kernel
theorem dL_law_662 : decode cL_law 662 = .ok (.aload_n 0, 1) := by decide +kernel
theorem dL_law_663 : decode cL_law 663 = .ok (.iload_n 3, 1) := by decide +kernel
theorem dL_law_664 : decode cL_law 664 = .ok (.iconst 2, 1) := by decide +kernel
theorem dL_law_665 : decode cL_law 665 = .ok (.iadd, 1) := by decide +kernel
theorem dL_law_666 : decode cL_law 666 = .ok (.iaload, 1) := by decide +kernel
theorem dL_law_667 : decode cL_law 667 = .ok (.invokevirtual 101, 3) := by decide +kernel
theorem dL_law_670 : decode cL_law 670 = .ok (.aload_n 2, 1) := by decide +kernel
theorem dL_law_671 : decode cL_law 671 = .ok (.aload_n 0, 1) := by decide +kernel
theorem dL_law_672 : decode cL_law 672 = .ok (.iload_n 3, 1) := by decide +kernel
theorem dL_law_673 : decode cL_law 673 = .ok (.iconst 1, 1) := by decide +kernel
theorem dL_law_674 : decode cL_law 674 = .ok (.iadd, 1) := by decide +kernel
theorem dL_law_675 : decode cL_law 675 = .ok (.iaload, 1) := by decide +kernel
theorem dL_law_676 : decode cL_law 676 = .ok (.aload_n 0, 1) := by decide +kernel
theorem dL_law_677 : decode cL_law 677 = .ok (.iload_n 3, 1) := by decide +kernel
theorem dL_law_678 : decode cL_law 678 = .ok (.iconst 2, 1) := by decide +kernel
theorem dL_law_679 : decode cL_law 679 = .ok (.iadd, 1) := by decide +kernel
theorem dL_law_680 : decode cL_law 680 = .ok (.iaload, 1) := by decide +kernel
theorem dL_law_681 : decode cL_law 681 = .ok (.invokevirtual 104, 3) := by decide +kernel
theorem dL_law_684 : decode cL_law 684 = .ok (.if_icmp .eq 468, 3) := by decide +kernel
theorem dL_law_687 : decode cL_law 687 = .ok (.iconst 0, 1) := by decide +kernel
theorem dL_law_688 : decode cL_law 688 = .ok (.ireturn, 1) := by decide +kernel
theorem dL_law_689 : decode cL_law 689 = .ok (.aload_n 1, 1) := by decide +kernel
theorem dL_law_690 : decode cL_law 690 = .ok (.aload_n 0, 1) := by decide +kernel
theorem dL_law_691 : decode cL_law 691 = .ok (.iload_n 3, 1) := by decide +kernel
theorem dL_law_692 : decode cL_law 692 = .ok (.iconst 1, 1) := by decide +kernel
theorem dL_law_693 : decode cL_law 693 = .ok (.iadd, 1) := by decide +kernel
theorem dL_law_694 : decode cL_law 694 = .ok (.iaload, 1) := by decide +kernel
theorem dL_law_695 : decode cL_law 695 = .ok (.aload_n 0, 1) := by decide +kernel
theorem dL_law_696 : decode cL_law 696 = .ok (.iload_n 3, 1) := by decide +kernel
theorem dL_law_697 : decode cL_law 697 = .ok (.iconst 2, 1) := by decide +kernel
theorem dL_law_698 : decode cL_law 698 = .ok (.iadd, 1) := by decide +kernel
theorem dL_law_699 : decode cL_law 699 = .ok (.iaload, 1) := by decide +kernel
theorem dL_law_700 : decode cL_law 700 = .ok (.aload_n 0, 1) := by decide +kernel
theorem dL_law_701 : decode cL_law 701 = .ok (.iload_n 3, 1) := by decide +kernel
theorem dL_law_702 : decode cL_law 702 = .ok (.iconst 3, 1) := by decide +kernel
theorem dL_law_703 : decode cL_law 703 = .ok (.iadd, 1) := by decide +kernel
theorem dL_law_704 : decode cL_law 704 = .ok (.iaload, 1) := by decide +kernel
theorem dL_law_705 : decode cL_law 705 = .ok (.invokevirtual 105, 3) := by decide +kernel
theorem dL_law_708 : decode cL_law 708 = .ok (.aload_n 2, 1) := by decide +kernel
theorem dL_law_709 : decode cL_law 709 = .ok (.aload_n 0, 1) := by decide +kernel
theorem dL_law_710 : decode cL_law 710 = .ok (.iload_n 3, 1) := by decide +kernel
theorem dL_law_711 : decode cL_law 711 = .ok (.iconst 1, 1) := by decide +kernel
theorem dL_law_712 : decode cL_law 712 = .ok (.iadd, 1) := by decide +kernel
theorem dL_law_713 : decode cL_law 713 = .ok (.iaload, 1) := by decide +kernel
theorem dL_law_714 : decode cL_law 714 = .ok (.aload_n 0, 1) := by decide +kernel
theorem dL_law_715 : decode cL_law 715 = .ok (.iload_n 3, 1) := by decide +kernel
theorem dL_law_716 : decode cL_law 716 = .ok (.iconst 2, 1) := by decide +kernel
theorem dL_law_717 : decode cL_law 717 = .ok (.iadd, 1) := by decide +kernel
theorem dL_law_718 : decode cL_law 718 = .ok (.iaload, 1) := by decide +kernel
theorem dL_law_719 : decode cL_law 719 = .ok (.aload_n 0, 1) := by decide +kernel
theorem dL_law_720 : decode cL_law 720 = .ok (.iload_n 3, 1) := by decide +kernel
theorem dL_law_721 : decode cL_law 721 = .ok (.iconst 3, 1) := by decide +kernel
theorem dL_law_722 : decode cL_law 722 = .ok (.iadd, 1) := by decide +kernel
theorem dL_law_723 : decode cL_law 723 = .ok (.iaload, 1) := by decide +kernel
theorem dL_law_724 : decode cL_law 724 = .ok (.invokevirtual 109, 3) := by decide +kernel
theorem dL_law_727 : decode cL_law 727 = .ok (.if_icmp .eq 425, 3) := by decide +kernel
theorem dL_law_730 : decode cL_law 730 = .ok (.iconst 0, 1) := by decide +kernel
theorem dL_law_731 : decode cL_law 731 = .ok (.ireturn, 1) := by decide +kernel
theorem dL_law_732 : decode cL_law 732 = .ok (.aload_n 1, 1) := by decide +kernel
theorem dL_law_733 : decode cL_law 733 = .ok (.aload_n 0, 1) := by decide +kernel
theorem dL_law_734 : decode cL_law 734 = .ok (.iload_n 3, 1) := by decide +kernel
theorem dL_law_735 : decode cL_law 735 = .ok (.iconst 1, 1) := by decide +kernel
theorem dL_law_736 : decode cL_law 736 = .ok (.iadd, 1) := by decide +kernel
theorem dL_law_737 : decode cL_law 737 = .ok (.iaload, 1) := by decide +kernel
theorem dL_law_738 : decode cL_law 738 = .ok (.invokevirtual 110, 3) := by decide +kernel
theorem dL_law_741 : decode cL_law 741 = .ok (.aload_n 2, 1) := by decide +kernel
theorem dL_law_742 : decode cL_law 742 = .ok (.aload_n 0, 1) := by decide +kernel
theorem dL_law_743 : decode cL_law 743 = .ok (.iload_n 3, 1) := by decide +kernel
theorem dL_law_744 : decode cL_law 744 = .ok (.iconst 1, 1) := by decide +kernel
theorem dL_law_745 : decode cL_law 745 = .ok (.iadd, 1) := by decide +kernel
theorem dL_law_746 : decode cL_law 746 = .ok (.iaload, 1) := by decide +kernel
theorem dL_law_747 : decode cL_law 747 = .ok (.invokevirtual 113, 3) := by decide +kernel
theorem dL_law_750 : decode cL_law 750 = .ok (.if_icmp .eq 402, 3) := by decide +kernel
theorem dL_law_753 : decode cL_law 753 = .ok (.iconst 0, 1) := by decide +kernel
theorem dL_law_754 : decode cL_law 754 = .ok (.ireturn, 1) := by decide +kernel
theorem dL_law_755 : decode cL_law 755 = .ok (.aload_n 1, 1) := by decide +kernel
theorem dL_law_756 : decode cL_law 756 = .ok (.invokevirtual 114, 3) := by decide +kernel
theorem dL_law_759 : decode cL_law 759 = .ok (.aload_n 2, 1) := by decide +kernel
theorem dL_law_760 : decode cL_law 760 = .ok (.invokevirtual 117, 3) := by decide +kernel
theorem dL_law_763 : decode cL_law 763 = .ok (.if_icmp .eq 389, 3) := by decide +kernel
theorem dL_law_766 : decode cL_law 766 = .ok (.iconst 0, 1) := by decide +kernel
theorem dL_law_767 : decode cL_law 767 = .ok (.ireturn, 1) := by decide +kernel
theorem dL_law_768 : decode cL_law 768 = .ok (.aload_n 1, 1) := by decide +kernel
theorem dL_law_769 : decode cL_law 769 = .ok (.aload_n 0, 1) := by decide +kernel
theorem dL_law_770 : decode cL_law 770 = .ok (.iload_n 3, 1) := by decide +kernel
theorem dL_law_771 : decode cL_law 771 = .ok (.iconst 1, 1) := by decide +kernel
theorem dL_law_772 : decode cL_law 772 = .ok (.iadd, 1) := by decide +kernel
theorem dL_law_773 : decode cL_law 773 = .ok (.iaload, 1) := by decide +kernel
theorem dL_law_774 : decode cL_law 774 = .ok (.invokevirtual 118, 3) := by decide +kernel
theorem dL_law_777 : decode cL_law 777 = .ok (.aload_n 2, 1) := by decide +kernel
theorem dL_law_778 : decode cL_law 778 = .ok (.aload_n 0, 1) := by decide +kernel
theorem dL_law_779 : decode cL_law 779 = .ok (.iload_n 3, 1) := by decide +kernel
theorem dL_law_780 : decode cL_law 780 = .ok (.iconst 1, 1) := by decide +kernel
theorem dL_law_781 : decode cL_law 781 = .ok (.iadd, 1) := by decide +kernel
theorem dL_law_782 : decode cL_law 782 = .ok (.iaload, 1) := by decide +kernel
theorem dL_law_783 : decode cL_law 783 = .ok (.invokevirtual 121, 3) := by decide +kernel
theorem dL_law_786 : decode cL_law 786 = .ok (.if_icmp .eq 366, 3) := by decide +kernel
theorem dL_law_789 : decode cL_law 789 = .ok (.iconst 0, 1) := by decide +kernel
theorem dL_law_790 : decode cL_law 790 = .ok (.ireturn, 1) := by decide +kernel
theorem dL_law_791 : decode cL_law 791 = .ok (.aload_n 1, 1) := by decide +kernel
theorem dL_law_792 : decode cL_law 792 = .ok (.aload_n 0, 1) := by decide +kernel
theorem dL_law_793 : decode cL_law 793 = .ok (.iload_n 3, 1) := by decide +kernel
theorem dL_law_794 : decode cL_law 794 = .ok (.iconst 1, 1) := by decide +kernel
theorem dL_law_795 : decode cL_law 795 = .ok (.iadd, 1) := by decide +kernel
theorem dL_law_796 : decode cL_law 796 = .ok (.iaload, 1) := by decide +kernel
theorem dL_law_797 : decode cL_law 797 = .ok (.aload_n 0, 1) := by decide +kernel
theorem dL_law_798 : decode cL_law 798 = .ok (.iload_n 3, 1) := by decide +kernel
theorem dL_law_799 : decode cL_law 799 = .ok (.iconst 2, 1) := by decide +kernel
theorem dL_law_800 : decode cL_law 800 = .ok (.iadd, 1) := by decide +kernel
theorem dL_law_801 : decode cL_law 801 = .ok (.iaload, 1) := by decide +kernel
theorem dL_law_802 : decode cL_law 802 = .ok (.invokevirtual 122, 3) := by decide +kernel
theorem dL_law_805 : decode cL_law 805 = .ok (.aload_n 2, 1) := by decide +kernel
theorem dL_law_806 : decode cL_law 806 = .ok (.aload_n 0, 1) := by decide +kernel
theorem dL_law_807 : decode cL_law 807 = .ok (.iload_n 3, 1) := by decide +kernel
theorem dL_law_808 : decode cL_law 808 = .ok (.iconst 1, 1) := by decide +kernel
theorem dL_law_809 : decode cL_law 809 = .ok (.iadd, 1) := by decide +kernel
theorem dL_law_810 : decode cL_law 810 = .ok (.iaload, 1) := by decide +kernel
theorem dL_law_811 : decode cL_law 811 = .ok (.aload_n 0, 1) := by decide +kernel
theorem dL_law_812 : decode cL_law 812 = .ok (.iload_n 3, 1) := by decide +kernel
theorem dL_law_813 : decode cL_law 813 = .ok (.iconst 2, 1) := by decide +kernel
theorem dL_law_814 : decode cL_law 814 = .ok (.iadd, 1) := by decide +kernel
theorem dL_law_815 : decode cL_law 815 = .ok (.iaload, 1) := by decide +kernel
theorem dL_law_816 : decode cL_law 816 = .ok (.invokevirtual 125, 3) := by decide +kernel
theorem dL_law_819 : decode cL_law 819 = .ok (.if_icmp .eq 333, 3) := by decide +kernel
theorem dL_law_822 : decode cL_law 822 = .ok (.iconst 0, 1) := by decide +kernel
theorem dL_law_823 : decode cL_law 823 = .ok (.ireturn, 1) := by decide +kernel
theorem dL_law_824 : decode cL_law 824 = .ok (.aload_n 1, 1) := by decide +kernel
theorem dL_law_825 : decode cL_law 825 = .ok (.aload_n 0, 1) := by decide +kernel
theorem dL_law_826 : decode cL_law 826 = .ok (.iload_n 3, 1) := by decide +kernel
theorem dL_law_827 : decode cL_law 827 = .ok (.iconst 1, 1) := by decide +kernel
theorem dL_law_828 : decode cL_law 828 = .ok (.iadd, 1) := by decide +kernel
theorem dL_law_829 : decode cL_law 829 = .ok (.iaload, 1) := by decide +kernel
theorem dL_law_830 : decode cL_law 830 = .ok (.aload_n 0, 1) := by decide +kernel
theorem dL_law_831 : decode cL_law 831 = .ok (.iload_n 3, 1) := by decide +kernel
theorem dL_law_832 : decode cL_law 832 = .ok (.iconst 2, 1) := by decide +kernel
theorem dL_law_833 : decode cL_law 833 = .ok (.iadd, 1) := by decide +kernel
theorem dL_law_834 : decode cL_law 834 = .ok (.iaload, 1) := by decide +kernel
theorem dL_law_835 : decode cL_law 835 = .ok (.invokevirtual 126, 3) := by decide +kernel
theorem dL_law_838 : decode cL_law 838 = .ok (.aload_n 2, 1) := by decide +kernel
theorem dL_law_839 : decode cL_law 839 = .ok (.aload_n 0, 1) := by decide +kernel
theorem dL_law_840 : decode cL_law 840 = .ok (.iload_n 3, 1) := by decide +kernel
theorem dL_law_841 : decode cL_law 841 = .ok (.iconst 1, 1) := by decide +kernel
theorem dL_law_842 : decode cL_law 842 = .ok (.iadd, 1) := by decide +kernel
theorem dL_law_843 : decode cL_law 843 = .ok (.iaload, 1) := by decide +kernel
theorem dL_law_844 : decode cL_law 844 = .ok (.aload_n 0, 1) := by decide +kernel
theorem dL_law_845 : decode cL_law 845 = .ok (.iload_n 3, 1) := by decide +kernel
theorem dL_law_846 : decode cL_law 846 = .ok (.iconst 2, 1) := by decide +kernel
theorem dL_law_847 : decode cL_law 847 = .ok (.iadd, 1) := by decide +kernel
theorem dL_law_848 : decode cL_law 848 = .ok (.iaload, 1) := by decide +kernel
theorem dL_law_849 : decode cL_law 849 = .ok (.invokevirtual 129, 3) := by decide +kernel
theorem dL_law_852 : decode cL_law 852 = .ok (.if_icmp .eq 300, 3) := by decide +kernel
theorem dL_law_855 : decode cL_law 855 = .ok (.iconst 0, 1) := by decide +kernel
theorem dL_law_856 : decode cL_law 856 = .ok (.ireturn, 1) := by decide +kernel
theorem dL_law_857 : decode cL_law 857 = .ok (.aload_n 1, 1) := by decide +kernel
theorem dL_law_858 : decode cL_law 858 = .ok (.invokevirtual 130, 3) := by decide +kernel
theorem dL_law_861 : decode cL_law 861 = .ok (.aload_n 2, 1) := by decide +kernel
theorem dL_law_862 : decode cL_law 862 = .ok (.invokevirtual 133, 3) := by decide +kernel
theorem dL_law_865 : decode cL_law 865 = .ok (.if_icmp .eq 287, 3) := by decide +kernel
theorem dL_law_868 : decode cL_law 868 = .ok (.iconst 0, 1) := by decide +kernel
theorem dL_law_869 : decode cL_law 869 = .ok (.ireturn, 1) := by decide +kernel
theorem dL_law_870 : decode cL_law 870 = .ok (.aload_n 1, 1) := by decide +kernel
theorem dL_law_871 : decode cL_law 871 = .ok (.aload_n 0, 1) := by decide +kernel
theorem dL_law_872 : decode cL_law 872 = .ok (.iload_n 3, 1) := by decide +kernel
theorem dL_law_873 : decode cL_law 873 = .ok (.iconst 1, 1) := by decide +kernel
theorem dL_law_874 : decode cL_law 874 = .ok (.iadd, 1) := by decide +kernel
theorem dL_law_875 : decode cL_law 875 = .ok (.iaload, 1) := by decide +kernel
theorem dL_law_876 : decode cL_law 876 = .ok (.invokevirtual 134, 3) := by decide +kernel
theorem dL_law_879 : decode cL_law 879 = .ok (.aload_n 2, 1) := by decide +kernel
theorem dL_law_880 : decode cL_law 880 = .ok (.aload_n 0, 1) := by decide +kernel
theorem dL_law_881 : decode cL_law 881 = .ok (.iload_n 3, 1) := by decide +kernel
theorem dL_law_882 : decode cL_law 882 = .ok (.iconst 1, 1) := by decide +kernel
theorem dL_law_883 : decode cL_law 883 = .ok (.iadd, 1) := by decide +kernel
theorem dL_law_884 : decode cL_law 884 = .ok (.iaload, 1) := by decide +kernel
theorem dL_law_885 : decode cL_law 885 = .ok (.invokevirtual 137, 3) := by decide +kernel
theorem dL_law_888 : decode cL_law 888 = .ok (.if_icmp .eq 264, 3) := by decide +kernel
theorem dL_law_891 : decode cL_law 891 = .ok (.iconst 0, 1) := by decide +kernel
theorem dL_law_892 : decode cL_law 892 = .ok (.ireturn, 1) := by decide +kernel
theorem dL_law_893 : decode cL_law 893 = .ok (.aload_n 1, 1) := by decide +kernel
theorem dL_law_894 : decode cL_law 894 = .ok (.aload_n 0, 1) := by decide +kernel
theorem dL_law_895 : decode cL_law 895 = .ok (.iload_n 3, 1) := by decide +kernel
theorem dL_law_896 : decode cL_law 896 = .ok (.iconst 1, 1) := by decide +kernel
theorem dL_law_897 : decode cL_law 897 = .ok (.iadd, 1) := by decide +kernel
theorem dL_law_898 : decode cL_law 898 = .ok (.iaload, 1) := by decide +kernel
theorem dL_law_899 : decode cL_law 899 = .ok (.aload_n 0, 1) := by decide +kernel
theorem dL_law_900 : decode cL_law 900 = .ok (.iload_n 3, 1) := by decide +kernel
theorem dL_law_901 : decode cL_law 901 = .ok (.iconst 2, 1) := by decide +kernel
theorem dL_law_902 : decode cL_law 902 = .ok (.iadd, 1) := by decide +kernel
theorem dL_law_903 : decode cL_law 903 = .ok (.iaload, 1) := by decide +kernel
theorem dL_law_904 : decode cL_law 904 = .ok (.aload_n 0, 1) := by decide +kernel
theorem dL_law_905 : decode cL_law 905 = .ok (.iload_n 3, 1) := by decide +kernel
theorem dL_law_906 : decode cL_law 906 = .ok (.iconst 3, 1) := by decide +kernel
theorem dL_law_907 : decode cL_law 907 = .ok (.iadd, 1) := by decide +kernel
theorem dL_law_908 : decode cL_law 908 = .ok (.iaload, 1) := by decide +kernel
theorem dL_law_909 : decode cL_law 909 = .ok (.invokevirtual 138, 3) := by decide +kernel
theorem dL_law_912 : decode cL_law 912 = .ok (.aload_n 2, 1) := by decide +kernel
theorem dL_law_913 : decode cL_law 913 = .ok (.aload_n 0, 1) := by decide +kernel
theorem dL_law_914 : decode cL_law 914 = .ok (.iload_n 3, 1) := by decide +kernel
theorem dL_law_915 : decode cL_law 915 = .ok (.iconst 1, 1) := by decide +kernel
theorem dL_law_916 : decode cL_law 916 = .ok (.iadd, 1) := by decide +kernel
theorem dL_law_917 : decode cL_law 917 = .ok (.iaload, 1) := by decide +kernel
theorem dL_law_918 : decode cL_law 918 = .ok (.aload_n 0, 1) := by decide +kernel
theorem dL_law_919 : decode cL_law 919 = .ok (.iload_n 3, 1) := by decide +kernel
theorem dL_law_920 : decode cL_law 920 = .ok (.iconst 2, 1) := by decide +kernel
theorem dL_law_921 : decode cL_law 921 = .ok (.iadd, 1) := by decide +kernel
theorem dL_law_922 : decode cL_law 922 = .ok (.iaload, 1) := by decide +kernel
theorem dL_law_923 : decode cL_law 923 = .ok (.aload_n 0, 1) := by decide +kernel
theorem dL_law_924 : decode cL_law 924 = .ok (.iload_n 3, 1) := by decide +kernel
theorem dL_law_925 : decode cL_law 925 = .ok (.iconst 3, 1) := by decide +kernel
theorem dL_law_926 : decode cL_law 926 = .ok (.iadd, 1) := by decide +kernel
theorem dL_law_927 : decode cL_law 927 = .ok (.iaload, 1) := by decide +kernel
theorem dL_law_928 : decode cL_law 928 = .ok (.invokevirtual 141, 3) := by decide +kernel
theorem dL_law_931 : decode cL_law 931 = .ok (.if_icmp .eq 221, 3) := by decide +kernel
theorem dL_law_934 : decode cL_law 934 = .ok (.iconst 0, 1) := by decide +kernel
theorem dL_law_935 : decode cL_law 935 = .ok (.ireturn, 1) := by decide +kernel
theorem dL_law_936 : decode cL_law 936 = .ok (.aload_n 1, 1) := by decide +kernel
theorem dL_law_937 : decode cL_law 937 = .ok (.aload_n 0, 1) := by decide +kernel
theorem dL_law_938 : decode cL_law 938 = .ok (.iload_n 3, 1) := by decide +kernel
theorem dL_law_939 : decode cL_law 939 = .ok (.iconst 1, 1) := by decide +kernel
theorem dL_law_940 : decode cL_law 940 = .ok (.iadd, 1) := by decide +kernel
theorem dL_law_941 : decode cL_law 941 = .ok (.iaload, 1) := by decide +kernel
theorem dL_law_942 : decode cL_law 942 = .ok (.aload_n 0, 1) := by decide +kernel
theorem dL_law_943 : decode cL_law 943 = .ok (.iload_n 3, 1) := by decide +kernel
theorem dL_law_944 : decode cL_law 944 = .ok (.iconst 2, 1) := by decide +kernel
theorem dL_law_945 : decode cL_law 945 = .ok (.iadd, 1) := by decide +kernel
theorem dL_law_946 : decode cL_law 946 = .ok (.iaload, 1) := by decide +kernel
theorem dL_law_947 : decode cL_law 947 = .ok (.aload_n 0, 1) := by decide +kernel
theorem dL_law_948 : decode cL_law 948 = .ok (.iload_n 3, 1) := by decide +kernel
theorem dL_law_949 : decode cL_law 949 = .ok (.iconst 3, 1) := by decide +kernel
theorem dL_law_950 : decode cL_law 950 = .ok (.iadd, 1) := by decide +kernel
theorem dL_law_951 : decode cL_law 951 = .ok (.iaload, 1) := by decide +kernel
theorem dL_law_952 : decode cL_law 952 = .ok (.invokevirtual 142, 3) := by decide +kernel
theorem dL_law_955 : decode cL_law 955 = .ok (.aload_n 2, 1) := by decide +kernel
theorem dL_law_956 : decode cL_law 956 = .ok (.aload_n 0, 1) := by decide +kernel
theorem dL_law_957 : decode cL_law 957 = .ok (.iload_n 3, 1) := by decide +kernel
theorem dL_law_958 : decode cL_law 958 = .ok (.iconst 1, 1) := by decide +kernel
theorem dL_law_959 : decode cL_law 959 = .ok (.iadd, 1) := by decide +kernel
theorem dL_law_960 : decode cL_law 960 = .ok (.iaload, 1) := by decide +kernel
theorem dL_law_961 : decode cL_law 961 = .ok (.aload_n 0, 1) := by decide +kernel
theorem dL_law_962 : decode cL_law 962 = .ok (.iload_n 3, 1) := by decide +kernel
theorem dL_law_963 : decode cL_law 963 = .ok (.iconst 2, 1) := by decide +kernel
theorem dL_law_964 : decode cL_law 964 = .ok (.iadd, 1) := by decide +kernel
theorem dL_law_965 : decode cL_law 965 = .ok (.iaload, 1) := by decide +kernel
theorem dL_law_966 : decode cL_law 966 = .ok (.aload_n 0, 1) := by decide +kernel
theorem dL_law_967 : decode cL_law 967 = .ok (.iload_n 3, 1) := by decide +kernel
theorem dL_law_968 : decode cL_law 968 = .ok (.iconst 3, 1) := by decide +kernel
theorem dL_law_969 : decode cL_law 969 = .ok (.iadd, 1) := by decide +kernel
theorem dL_law_970 : decode cL_law 970 = .ok (.iaload, 1) := by decide +kernel
theorem dL_law_971 : decode cL_law 971 = .ok (.invokevirtual 145, 3) := by decide +kernel
theorem dL_law_974 : decode cL_law 974 = .ok (.if_icmp .eq 178, 3) := by decide +kernel
theorem dL_law_977 : decode cL_law 977 = .ok (.iconst 0, 1) := by decide +kernel
theorem dL_law_978 : decode cL_law 978 = .ok (.ireturn, 1) := by decide +kernel
theorem dL_law_979 : decode cL_law 979 = .ok (.aload_n 1, 1) := by decide +kernel
theorem dL_law_980 : decode cL_law 980 = .ok (.aload_n 0, 1) := by decide +kernel
theorem dL_law_981 : decode cL_law 981 = .ok (.iload_n 3, 1) := by decide +kernel
theorem dL_law_982 : decode cL_law 982 = .ok (.iconst 1, 1) := by decide +kernel
theorem dL_law_983 : decode cL_law 983 = .ok (.iadd, 1) := by decide +kernel
theorem dL_law_984 : decode cL_law 984 = .ok (.iaload, 1) := by decide +kernel
theorem dL_law_985 : decode cL_law 985 = .ok (.aload_n 0, 1) := by decide +kernel
theorem dL_law_986 : decode cL_law 986 = .ok (.iload_n 3, 1) := by decide +kernel
theorem dL_law_987 : decode cL_law 987 = .ok (.iconst 2, 1) := by decide +kernel
theorem dL_law_988 : decode cL_law 988 = .ok (.iadd, 1) := by decide +kernel
theorem dL_law_989 : decode cL_law 989 = .ok (.iaload, 1) := by decide +kernel
theorem dL_law_990 : decode cL_law 990 = .ok (.invokevirtual 146, 3) := by decide +kernel
theorem dL_law_993 : decode cL_law 993 = .ok (.aload_n 2, 1) := by decide +kernel
theorem dL_law_994 : decode cL_law 994 = .ok (.aload_n 0, 1) := by decide +kernel
theorem dL_law_995 : decode cL_law 995 = .ok (.iload_n 3, 1) := by decide +kernel
theorem dL_law_996 : decode cL_law 996 = .ok (.iconst 1, 1) := by decide +kernel
theorem dL_law_997 : decode cL_law 997 = .ok (.iadd, 1) := by decide +kernel
theorem dL_law_998 : decode cL_law 998 = .ok (.iaload, 1) := by decide +kernel
theorem dL_law_999 : decode cL_law 999 = .ok (.aload_n 0, 1) := by decide +kernel
theorem dL_law_1000 : decode cL_law 1000 = .ok (.iload_n 3, 1) := by decide +kernel
theorem dL_law_1001 : decode cL_law 1001 = .ok (.iconst 2, 1) := by decide +kernel
theorem dL_law_1002 : decode cL_law 1002 = .ok (.iadd, 1) := by decide +kernel
theorem dL_law_1003 : decode cL_law 1003 = .ok (.iaload, 1) := by decide +kernel
theorem dL_law_1004 : decode cL_law 1004 = .ok (.invokevirtual 150, 3) := by decide +kernel
theorem dL_law_1007 : decode cL_law 1007 = .ok (.lcmp, 1) := by decide +kernel
theorem dL_law_1008 : decode cL_law 1008 = .ok (.ifCond .eq 144, 3) := by decide +kernel
theorem dL_law_1011 : decode cL_law 1011 = .ok (.iconst 0, 1) := by decide +kernel
theorem dL_law_1012 : decode cL_law 1012 = .ok (.ireturn, 1) := by decide +kernel
theorem dL_law_1013 : decode cL_law 1013 = .ok (.aload_n 1, 1) := by decide +kernel
theorem dL_law_1014 : decode cL_law 1014 = .ok (.aload_n 0, 1) := by decide +kernel
theorem dL_law_1015 : decode cL_law 1015 = .ok (.iload_n 3, 1) := by decide +kernel
theorem dL_law_1016 : decode cL_law 1016 = .ok (.iconst 1, 1) := by decide +kernel
theorem dL_law_1017 : decode cL_law 1017 = .ok (.iadd, 1) := by decide +kernel
theorem dL_law_1018 : decode cL_law 1018 = .ok (.iaload, 1) := by decide +kernel
theorem dL_law_1019 : decode cL_law 1019 = .ok (.aload_n 0, 1) := by decide +kernel
theorem dL_law_1020 : decode cL_law 1020 = .ok (.iload_n 3, 1) := by decide +kernel
theorem dL_law_1021 : decode cL_law 1021 = .ok (.iconst 2, 1) := by decide +kernel
theorem dL_law_1022 : decode cL_law 1022 = .ok (.iadd, 1) := by decide +kernel
theorem dL_law_1023 : decode cL_law 1023 = .ok (.iaload, 1) := by decide +kernel
theorem dL_law_1024 : decode cL_law 1024 = .ok (.aload_n 0, 1) := by decide +kernel
theorem dL_law_1025 : decode cL_law 1025 = .ok (.iload_n 3, 1) := by decide +kernel
theorem dL_law_1026 : decode cL_law 1026 = .ok (.iconst 3, 1) := by decide +kernel
theorem dL_law_1027 : decode cL_law 1027 = .ok (.iadd, 1) := by decide +kernel
theorem dL_law_1028 : decode cL_law 1028 = .ok (.iaload, 1) := by decide +kernel
theorem dL_law_1029 : decode cL_law 1029 = .ok (.aload_n 0, 1) := by decide +kernel
theorem dL_law_1030 : decode cL_law 1030 = .ok (.iload_n 3, 1) := by decide +kernel
theorem dL_law_1031 : decode cL_law 1031 = .ok (.iconst 4, 1) := by decide +kernel
theorem dL_law_1032 : decode cL_law 1032 = .ok (.iadd, 1) := by decide +kernel
theorem dL_law_1033 : decode cL_law 1033 = .ok (.iaload, 1) := by decide +kernel
theorem dL_law_1034 : decode cL_law 1034 = .ok (.aload_n 0, 1) := by decide +kernel
theorem dL_law_1035 : decode cL_law 1035 = .ok (.iload_n 3, 1) := by decide +kernel
theorem dL_law_1036 : decode cL_law 1036 = .ok (.iconst 5, 1) := by decide +kernel
theorem dL_law_1037 : decode cL_law 1037 = .ok (.iadd, 1) := by decide +kernel
theorem dL_law_1038 : decode cL_law 1038 = .ok (.iaload, 1) := by decide +kernel
theorem dL_law_1039 : decode cL_law 1039 = .ok (.invokevirtual 151, 3) := by decide +kernel
theorem dL_law_1042 : decode cL_law 1042 = .ok (.aload_n 2, 1) := by decide +kernel
theorem dL_law_1043 : decode cL_law 1043 = .ok (.aload_n 0, 1) := by decide +kernel
theorem dL_law_1044 : decode cL_law 1044 = .ok (.iload_n 3, 1) := by decide +kernel
theorem dL_law_1045 : decode cL_law 1045 = .ok (.iconst 1, 1) := by decide +kernel
theorem dL_law_1046 : decode cL_law 1046 = .ok (.iadd, 1) := by decide +kernel
theorem dL_law_1047 : decode cL_law 1047 = .ok (.iaload, 1) := by decide +kernel
theorem dL_law_1048 : decode cL_law 1048 = .ok (.aload_n 0, 1) := by decide +kernel
theorem dL_law_1049 : decode cL_law 1049 = .ok (.iload_n 3, 1) := by decide +kernel
theorem dL_law_1050 : decode cL_law 1050 = .ok (.iconst 2, 1) := by decide +kernel
theorem dL_law_1051 : decode cL_law 1051 = .ok (.iadd, 1) := by decide +kernel
theorem dL_law_1052 : decode cL_law 1052 = .ok (.iaload, 1) := by decide +kernel
theorem dL_law_1053 : decode cL_law 1053 = .ok (.aload_n 0, 1) := by decide +kernel
theorem dL_law_1054 : decode cL_law 1054 = .ok (.iload_n 3, 1) := by decide +kernel
theorem dL_law_1055 : decode cL_law 1055 = .ok (.iconst 3, 1) := by decide +kernel
theorem dL_law_1056 : decode cL_law 1056 = .ok (.iadd, 1) := by decide +kernel
theorem dL_law_1057 : decode cL_law 1057 = .ok (.iaload, 1) := by decide +kernel
theorem dL_law_1058 : decode cL_law 1058 = .ok (.aload_n 0, 1) := by decide +kernel
theorem dL_law_1059 : decode cL_law 1059 = .ok (.iload_n 3, 1) := by decide +kernel
theorem dL_law_1060 : decode cL_law 1060 = .ok (.iconst 4, 1) := by decide +kernel
theorem dL_law_1061 : decode cL_law 1061 = .ok (.iadd, 1) := by decide +kernel
theorem dL_law_1062 : decode cL_law 1062 = .ok (.iaload, 1) := by decide +kernel
theorem dL_law_1063 : decode cL_law 1063 = .ok (.aload_n 0, 1) := by decide +kernel
theorem dL_law_1064 : decode cL_law 1064 = .ok (.iload_n 3, 1) := by decide +kernel
theorem dL_law_1065 : decode cL_law 1065 = .ok (.iconst 5, 1) := by decide +kernel
theorem dL_law_1066 : decode cL_law 1066 = .ok (.iadd, 1) := by decide +kernel
theorem dL_law_1067 : decode cL_law 1067 = .ok (.iaload, 1) := by decide +kernel
theorem dL_law_1068 : decode cL_law 1068 = .ok (.invokevirtual 155, 3) := by decide +kernel
theorem dL_law_1071 : decode cL_law 1071 = .ok (.if_icmp .eq 81, 3) := by decide +kernel
theorem dL_law_1074 : decode cL_law 1074 = .ok (.iconst 0, 1) := by decide +kernel
theorem dL_law_1075 : decode cL_law 1075 = .ok (.ireturn, 1) := by decide +kernel
theorem dL_law_1076 : decode cL_law 1076 = .ok (.aload_n 1, 1) := by decide +kernel
theorem dL_law_1077 : decode cL_law 1077 = .ok (.aload_n 0, 1) := by decide +kernel
theorem dL_law_1078 : decode cL_law 1078 = .ok (.iload_n 3, 1) := by decide +kernel
theorem dL_law_1079 : decode cL_law 1079 = .ok (.iconst 1, 1) := by decide +kernel
theorem dL_law_1080 : decode cL_law 1080 = .ok (.iadd, 1) := by decide +kernel
theorem dL_law_1081 : decode cL_law 1081 = .ok (.iaload, 1) := by decide +kernel
theorem dL_law_1082 : decode cL_law 1082 = .ok (.aload_n 0, 1) := by decide +kernel
theorem dL_law_1083 : decode cL_law 1083 = .ok (.iload_n 3, 1) := by decide +kernel
theorem dL_law_1084 : decode cL_law 1084 = .ok (.iconst 2, 1) := by decide +kernel
theorem dL_law_1085 : decode cL_law 1085 = .ok (.iadd, 1) := by decide +kernel
theorem dL_law_1086 : decode cL_law 1086 = .ok (.iaload, 1) := by decide +kernel
theorem dL_law_1087 : decode cL_law 1087 = .ok (.invokevirtual 156, 3) := by decide +kernel
theorem dL_law_1090 : decode cL_law 1090 = .ok (.aload_n 2, 1) := by decide +kernel
theorem dL_law_1091 : decode cL_law 1091 = .ok (.aload_n 0, 1) := by decide +kernel
theorem dL_law_1092 : decode cL_law 1092 = .ok (.iload_n 3, 1) := by decide +kernel
theorem dL_law_1093 : decode cL_law 1093 = .ok (.iconst 1, 1) := by decide +kernel
theorem dL_law_1094 : decode cL_law 1094 = .ok (.iadd, 1) := by decide +kernel
theorem dL_law_1095 : decode cL_law 1095 = .ok (.iaload, 1) := by decide +kernel
theorem dL_law_1096 : decode cL_law 1096 = .ok (.aload_n 0, 1) := by decide +kernel
theorem dL_law_1097 : decode cL_law 1097 = .ok (.iload_n 3, 1) := by decide +kernel
theorem dL_law_1098 : decode cL_law 1098 = .ok (.iconst 2, 1) := by decide +kernel
theorem dL_law_1099 : decode cL_law 1099 = .ok (.iadd, 1) := by decide +kernel
theorem dL_law_1100 : decode cL_law 1100 = .ok (.iaload, 1) := by decide +kernel
theorem dL_law_1101 : decode cL_law 1101 = .ok (.invokevirtual 159, 3) := by decide +kernel
theorem dL_law_1104 : decode cL_law 1104 = .ok (.if_icmp .eq 48, 3) := by decide +kernel
theorem dL_law_1107 : decode cL_law 1107 = .ok (.iconst 0, 1) := by decide +kernel
theorem dL_law_1108 : decode cL_law 1108 = .ok (.ireturn, 1) := by decide +kernel
theorem dL_law_1109 : decode cL_law 1109 = .ok (.aload_n 1, 1) := by decide +kernel
theorem dL_law_1110 : decode cL_law 1110 = .ok (.aload_n 0, 1) := by decide +kernel
theorem dL_law_1111 : decode cL_law 1111 = .ok (.iload_n 3, 1) := by decide +kernel
theorem dL_law_1112 : decode cL_law 1112 = .ok (.iconst 1, 1) := by decide +kernel
theorem dL_law_1113 : decode cL_law 1113 = .ok (.iadd, 1) := by decide +kernel
theorem dL_law_1114 : decode cL_law 1114 = .ok (.iaload, 1) := by decide +kernel
theorem dL_law_1115 : decode cL_law 1115 = .ok (.aload_n 0, 1) := by decide +kernel
theorem dL_law_1116 : decode cL_law 1116 = .ok (.iload_n 3, 1) := by decide +kernel
theorem dL_law_1117 : decode cL_law 1117 = .ok (.iconst 2, 1) := by decide +kernel
theorem dL_law_1118 : decode cL_law 1118 = .ok (.iadd, 1) := by decide +kernel
theorem dL_law_1119 : decode cL_law 1119 = .ok (.iaload, 1) := by decide +kernel
theorem dL_law_1120 : decode cL_law 1120 = .ok (.aload_n 0, 1) := by decide +kernel
theorem dL_law_1121 : decode cL_law 1121 = .ok (.iload_n 3, 1) := by decide +kernel
theorem dL_law_1122 : decode cL_law 1122 = .ok (.iconst 3, 1) := by decide +kernel
theorem dL_law_1123 : decode cL_law 1123 = .ok (.iadd, 1) := by decide +kernel
theorem dL_law_1124 : decode cL_law 1124 = .ok (.iaload, 1) := by decide +kernel
theorem dL_law_1125 : decode cL_law 1125 = .ok (.invokevirtual 160, 3) := by decide +kernel
theorem dL_law_1128 : decode cL_law 1128 = .ok (.aload_n 2, 1) := by decide +kernel
theorem dL_law_1129 : decode cL_law 1129 = .ok (.aload_n 0, 1) := by decide +kernel
theorem dL_law_1130 : decode cL_law 1130 = .ok (.iload_n 3, 1) := by decide +kernel
theorem dL_law_1131 : decode cL_law 1131 = .ok (.iconst 1, 1) := by decide +kernel
theorem dL_law_1132 : decode cL_law 1132 = .ok (.iadd, 1) := by decide +kernel
theorem dL_law_1133 : decode cL_law 1133 = .ok (.iaload, 1) := by decide +kernel
theorem dL_law_1134 : decode cL_law 1134 = .ok (.aload_n 0, 1) := by decide +kernel
theorem dL_law_1135 : decode cL_law 1135 = .ok (.iload_n 3, 1) := by decide +kernel
theorem dL_law_1136 : decode cL_law 1136 = .ok (.iconst 2, 1) := by decide +kernel
theorem dL_law_1137 : decode cL_law 1137 = .ok (.iadd, 1) := by decide +kernel
theorem dL_law_1138 : decode cL_law 1138 = .ok (.iaload, 1) := by decide +kernel
theorem dL_law_1139 : decode cL_law 1139 = .ok (.aload_n 0, 1) := by decide +kernel
theorem dL_law_1140 : decode cL_law 1140 = .ok (.iload_n 3, 1) := by decide +kernel
theorem dL_law_1141 : decode cL_law 1141 = .ok (.iconst 3, 1) := by decide +kernel
theorem dL_law_1142 : decode cL_law 1142 = .ok (.iadd, 1) := by decide +kernel
theorem dL_law_1143 : decode cL_law 1143 = .ok (.iaload, 1) := by decide +kernel
theorem dL_law_1144 : decode cL_law 1144 = .ok (.invokevirtual 163, 3) := by decide +kernel
theorem dL_law_1147 : decode cL_law 1147 = .ok (.if_icmp .eq 5, 3) := by decide +kernel
theorem dL_law_1150 : decode cL_law 1150 = .ok (.iconst 0, 1) := by decide +kernel
theorem dL_law_1151 : decode cL_law 1151 = .ok (.ireturn, 1) := by decide +kernel
theorem dL_law_1152 : decode cL_law 1152 = .ok (.iinc 3 6, 3) := by decide +kernel
theorem dL_law_1155 : decode cL_law 1155 = .ok (.goto (-1137), 3) := by decide +kernel
theorem dL_law_1158 : decode cL_law 1158 = .ok (.iconst 1, 1) := by decide +kernel
theorem dL_law_1159 : decode cL_law 1159 = .ok (.ireturn, 1) := by decide +kernel
def lL_law_18 (N : Nat) (xs : Nat → Int32) (L : Nat) (v0 : Nat) (v1 : Nat) (v2 : Nat) : Nat → Int32 → qM → Option ((qM) ⊕ (Int32 × qM))
  | 0, _, _ => none
  | n + 1, v3, m0 =>
    if (Int32.ofNat L) - (6 : Int32) < v3 then (
    some (.inl m0)
    ) else (
    (qsx xs L v3).bind fun x1 =>
    if x1 &&& (63 : Int32) = (0 : Int32) then (
    (qsx xs L (v3 + (1 : Int32))).bind fun x2 =>
    (qChk m0 v1 9 (fX9_append N v1 x2 m0)).bind fun b3 =>
    (qsx xs L (v3 + (1 : Int32))).bind fun x4 =>
    (qChk b3.2 v2 10 (fX10_append N v2 x4 b3.2)).bind fun b5 =>
    if b3.1 = b5.1 then (
    lL_law_18 N xs L v0 v1 v2 n (v3 + (6 : Int32)) b5.2
    ) else (
    some (.inr ((0 : Int32), b5.2))
    )
    ) else (
    if x1 &&& (63 : Int32) = (1 : Int32) then (
    (qChk m0 v1 9 (fX9_clearText N v1 m0)).bind fun b6 =>
    (qChk b6.2 v2 10 (fX10_clearText N v2 b6.2)).bind fun b7 =>
    if b6.1 = b7.1 then (
    lL_law_18 N xs L v0 v1 v2 n (v3 + (6 : Int32)) b7.2
    ) else (
    some (.inr ((0 : Int32), b7.2))
    )
    ) else (
    if x1 &&& (63 : Int32) = (2 : Int32) then (
    (qChk m0 v1 9 (fX9_addAxiom N v1 m0)).bind fun b8 =>
    (qChk b8.2 v2 10 (fX10_addAxiom N v2 b8.2)).bind fun b9 =>
    if b8.1 = b9.1 then (
    lL_law_18 N xs L v0 v1 v2 n (v3 + (6 : Int32)) b9.2
    ) else (
    some (.inr ((0 : Int32), b9.2))
    )
    ) else (
    if x1 &&& (63 : Int32) = (3 : Int32) then (
    (qsx xs L (v3 + (1 : Int32))).bind fun x10 =>
    (qsx xs L (v3 + (2 : Int32))).bind fun x11 =>
    (qChk m0 v1 9 (fX9_detach N v1 x10 x11 m0)).bind fun b12 =>
    (qsx xs L (v3 + (1 : Int32))).bind fun x13 =>
    (qsx xs L (v3 + (2 : Int32))).bind fun x14 =>
    (qChk b12.2 v2 10 (fX10_detach N v2 x13 x14 b12.2)).bind fun b15 =>
    if b12.1 = b15.1 then (
    lL_law_18 N xs L v0 v1 v2 n (v3 + (6 : Int32)) b15.2
    ) else (
    some (.inr ((0 : Int32), b15.2))
    )
    ) else (
    if x1 &&& (63 : Int32) = (4 : Int32) then (
    (qChk m0 v1 9 (fX9_prove N v1 m0)).bind fun b16 =>
    (qChk b16.2 v2 10 (fX10_prove N v2 b16.2)).bind fun b17 =>
    if b16.1 = b17.1 then (
    lL_law_18 N xs L v0 v1 v2 n (v3 + (6 : Int32)) b17.2
    ) else (
    some (.inr ((0 : Int32), b17.2))
    )
    ) else (
    if x1 &&& (63 : Int32) = (5 : Int32) then (
    (qsx xs L (v3 + (1 : Int32))).bind fun x18 =>
    (qChk m0 v1 9 (fX9_cut N v1 x18 m0)).bind fun b19 =>
    (qsx xs L (v3 + (1 : Int32))).bind fun x20 =>
    (qChk b19.2 v2 10 (fX10_cut N v2 x20 b19.2)).bind fun b21 =>
    if b19.1 = b21.1 then (
    lL_law_18 N xs L v0 v1 v2 n (v3 + (6 : Int32)) b21.2
    ) else (
    some (.inr ((0 : Int32), b21.2))
    )
    ) else (
    if x1 &&& (63 : Int32) = (6 : Int32) then (
    (qChk m0 v1 9 (fX9_listSize N v1 m0)).bind fun b22 =>
    (qChk b22.2 v2 10 (fX10_listSize N v2 b22.2)).bind fun b23 =>
    if b22.1 = b23.1 then (
    lL_law_18 N xs L v0 v1 v2 n (v3 + (6 : Int32)) b23.2
    ) else (
    some (.inr ((0 : Int32), b23.2))
    )
    ) else (
    if x1 &&& (63 : Int32) = (7 : Int32) then (
    (qsx xs L (v3 + (1 : Int32))).bind fun x24 =>
    (qChk m0 v1 9 (fX9_formulaSize N v1 x24 m0)).bind fun b25 =>
    (qsx xs L (v3 + (1 : Int32))).bind fun x26 =>
    (qChk b25.2 v2 10 (fX10_formulaSize N v2 x26 b25.2)).bind fun b27 =>
    if b25.1 = b27.1 then (
    lL_law_18 N xs L v0 v1 v2 n (v3 + (6 : Int32)) b27.2
    ) else (
    some (.inr ((0 : Int32), b27.2))
    )
    ) else (
    if x1 &&& (63 : Int32) = (8 : Int32) then (
    (qsx xs L (v3 + (1 : Int32))).bind fun x28 =>
    (qChk m0 v1 9 (fX9_variableCount N v1 x28 m0)).bind fun b29 =>
    (qsx xs L (v3 + (1 : Int32))).bind fun x30 =>
    (qChk b29.2 v2 10 (fX10_variableCount N v2 x30 b29.2)).bind fun b31 =>
    if b29.1 = b31.1 then (
    lL_law_18 N xs L v0 v1 v2 n (v3 + (6 : Int32)) b31.2
    ) else (
    some (.inr ((0 : Int32), b31.2))
    )
    ) else (
    if x1 &&& (63 : Int32) = (9 : Int32) then (
    (qsx xs L (v3 + (1 : Int32))).bind fun x32 =>
    (qChk m0 v1 9 (fX9_majorOf N v1 x32 m0)).bind fun b33 =>
    (qsx xs L (v3 + (1 : Int32))).bind fun x34 =>
    (qChk b33.2 v2 10 (fX10_majorOf N v2 x34 b33.2)).bind fun b35 =>
    if b33.1 = b35.1 then (
    lL_law_18 N xs L v0 v1 v2 n (v3 + (6 : Int32)) b35.2
    ) else (
    some (.inr ((0 : Int32), b35.2))
    )
    ) else (
    if x1 &&& (63 : Int32) = (10 : Int32) then (
    (qsx xs L (v3 + (1 : Int32))).bind fun x36 =>
    (qChk m0 v1 9 (fX9_minorOf N v1 x36 m0)).bind fun b37 =>
    (qsx xs L (v3 + (1 : Int32))).bind fun x38 =>
    (qChk b37.2 v2 10 (fX10_minorOf N v2 x38 b37.2)).bind fun b39 =>
    if b37.1 = b39.1 then (
    lL_law_18 N xs L v0 v1 v2 n (v3 + (6 : Int32)) b39.2
    ) else (
    some (.inr ((0 : Int32), b39.2))
    )
    ) else (
    if x1 &&& (63 : Int32) = (11 : Int32) then (
    (qsx xs L (v3 + (1 : Int32))).bind fun x40 =>
    (qChk m0 v1 9 (fX9_proofDepth N v1 x40 m0)).bind fun b41 =>
    (qsx xs L (v3 + (1 : Int32))).bind fun x42 =>
    (qChk b41.2 v2 10 (fX10_proofDepth N v2 x42 b41.2)).bind fun b43 =>
    if b41.1 = b43.1 then (
    lL_law_18 N xs L v0 v1 v2 n (v3 + (6 : Int32)) b43.2
    ) else (
    some (.inr ((0 : Int32), b43.2))
    )
    ) else (
    if x1 &&& (63 : Int32) = (12 : Int32) then (
    (qsx xs L (v3 + (1 : Int32))).bind fun x44 =>
    (qChk m0 v1 9 (fX9_proofSize N v1 x44 m0)).bind fun b45 =>
    (qsx xs L (v3 + (1 : Int32))).bind fun x46 =>
    (qChk b45.2 v2 10 (fX10_proofSize N v2 x46 b45.2)).bind fun b47 =>
    if lg_cmp b45.1 b47.1 = 0 then (
    lL_law_18 N xs L v0 v1 v2 n (v3 + (6 : Int32)) b47.2
    ) else (
    some (.inr ((0 : Int32), b47.2))
    )
    ) else (
    if x1 &&& (63 : Int32) = (13 : Int32) then (
    (qsx xs L (v3 + (1 : Int32))).bind fun x48 =>
    (qChk m0 v1 9 (fX9_writeFormula N v1 x48 m0)).bind fun b49 =>
    (qsx xs L (v3 + (1 : Int32))).bind fun x50 =>
    (qChk b49.2 v2 10 (fX10_writeFormula N v2 x50 b49.2)).bind fun b51 =>
    if b49.1 = b51.1 then (
    lL_law_18 N xs L v0 v1 v2 n (v3 + (6 : Int32)) b51.2
    ) else (
    some (.inr ((0 : Int32), b51.2))
    )
    ) else (
    if x1 &&& (63 : Int32) = (14 : Int32) then (
    (qsx xs L (v3 + (1 : Int32))).bind fun x52 =>
    (qChk m0 v1 9 (fX9_writeProof N v1 x52 m0)).bind fun b53 =>
    (qsx xs L (v3 + (1 : Int32))).bind fun x54 =>
    (qChk b53.2 v2 10 (fX10_writeProof N v2 x54 b53.2)).bind fun b55 =>
    if b53.1 = b55.1 then (
    lL_law_18 N xs L v0 v1 v2 n (v3 + (6 : Int32)) b55.2
    ) else (
    some (.inr ((0 : Int32), b55.2))
    )
    ) else (
    if x1 &&& (63 : Int32) = (15 : Int32) then (
    (qChk m0 v1 9 (fX9_outputLength N v1 m0)).bind fun b56 =>
    (qChk b56.2 v2 10 (fX10_outputLength N v2 b56.2)).bind fun b57 =>
    if b56.1 = b57.1 then (
    lL_law_18 N xs L v0 v1 v2 n (v3 + (6 : Int32)) b57.2
    ) else (
    some (.inr ((0 : Int32), b57.2))
    )
    ) else (
    if x1 &&& (63 : Int32) = (16 : Int32) then (
    (qsx xs L (v3 + (1 : Int32))).bind fun x58 =>
    (qChk m0 v1 9 (fX9_outputAt N v1 x58 m0)).bind fun b59 =>
    (qsx xs L (v3 + (1 : Int32))).bind fun x60 =>
    (qChk b59.2 v2 10 (fX10_outputAt N v2 x60 b59.2)).bind fun b61 =>
    if b59.1 = b61.1 then (
    lL_law_18 N xs L v0 v1 v2 n (v3 + (6 : Int32)) b61.2
    ) else (
    some (.inr ((0 : Int32), b61.2))
    )
    ) else (
    if x1 &&& (63 : Int32) = (17 : Int32) then (
    (qsx xs L (v3 + (1 : Int32))).bind fun x62 =>
    (qsx xs L (v3 + (2 : Int32))).bind fun x63 =>
    (qChk m0 v1 9 (fX9_isInstance N v1 x62 x63 m0)).bind fun b64 =>
    (qsx xs L (v3 + (1 : Int32))).bind fun x65 =>
    (qsx xs L (v3 + (2 : Int32))).bind fun x66 =>
    (qChk b64.2 v2 10 (fX10_isInstance N v2 x65 x66 b64.2)).bind fun b67 =>
    if b64.1 = b67.1 then (
    lL_law_18 N xs L v0 v1 v2 n (v3 + (6 : Int32)) b67.2
    ) else (
    some (.inr ((0 : Int32), b67.2))
    )
    ) else (
    if x1 &&& (63 : Int32) = (18 : Int32) then (
    (qsx xs L (v3 + (1 : Int32))).bind fun x68 =>
    (qChk m0 v1 9 (fX9_moreGeneral N v1 x68 m0)).bind fun b69 =>
    (qsx xs L (v3 + (1 : Int32))).bind fun x70 =>
    (qChk b69.2 v2 10 (fX10_moreGeneral N v2 x70 b69.2)).bind fun b71 =>
    if b69.1 = b71.1 then (
    lL_law_18 N xs L v0 v1 v2 n (v3 + (6 : Int32)) b71.2
    ) else (
    some (.inr ((0 : Int32), b71.2))
    )
    ) else (
    if x1 &&& (63 : Int32) = (19 : Int32) then (
    (qsx xs L (v3 + (1 : Int32))).bind fun x72 =>
    (qsx xs L (v3 + (2 : Int32))).bind fun x73 =>
    (qChk m0 v1 9 (fX9_unify N v1 x72 x73 m0)).bind fun b74 =>
    (qsx xs L (v3 + (1 : Int32))).bind fun x75 =>
    (qsx xs L (v3 + (2 : Int32))).bind fun x76 =>
    (qChk b74.2 v2 10 (fX10_unify N v2 x75 x76 b74.2)).bind fun b77 =>
    if b74.1 = b77.1 then (
    lL_law_18 N xs L v0 v1 v2 n (v3 + (6 : Int32)) b77.2
    ) else (
    some (.inr ((0 : Int32), b77.2))
    )
    ) else (
    if x1 &&& (63 : Int32) = (20 : Int32) then (
    (qsx xs L (v3 + (1 : Int32))).bind fun x78 =>
    (qChk m0 v1 9 (fX9_round N v1 x78 m0)).bind fun b79 =>
    (qsx xs L (v3 + (1 : Int32))).bind fun x80 =>
    (qChk b79.2 v2 10 (fX10_round N v2 x80 b79.2)).bind fun b81 =>
    if b79.1 = b81.1 then (
    lL_law_18 N xs L v0 v1 v2 n (v3 + (6 : Int32)) b81.2
    ) else (
    some (.inr ((0 : Int32), b81.2))
    )
    ) else (
    if x1 &&& (63 : Int32) = (21 : Int32) then (
    (qsx xs L (v3 + (1 : Int32))).bind fun x82 =>
    (qsx xs L (v3 + (2 : Int32))).bind fun x83 =>
    (qChk m0 v1 9 (fX9_shortest N v1 x82 x83 m0)).bind fun b84 =>
    (qsx xs L (v3 + (1 : Int32))).bind fun x85 =>
    (qsx xs L (v3 + (2 : Int32))).bind fun x86 =>
    (qChk b84.2 v2 10 (fX10_shortest N v2 x85 x86 b84.2)).bind fun b87 =>
    if b84.1 = b87.1 then (
    lL_law_18 N xs L v0 v1 v2 n (v3 + (6 : Int32)) b87.2
    ) else (
    some (.inr ((0 : Int32), b87.2))
    )
    ) else (
    if x1 &&& (63 : Int32) = (22 : Int32) then (
    (qsx xs L (v3 + (1 : Int32))).bind fun x88 =>
    (qsx xs L (v3 + (2 : Int32))).bind fun x89 =>
    (qsx xs L (v3 + (3 : Int32))).bind fun x90 =>
    (qChk m0 v1 9 (fX9_setEntry N v1 x88 x89 x90 m0)).bind fun b91 =>
    (qsx xs L (v3 + (1 : Int32))).bind fun x92 =>
    (qsx xs L (v3 + (2 : Int32))).bind fun x93 =>
    (qsx xs L (v3 + (3 : Int32))).bind fun x94 =>
    (qChk b91.2 v2 10 (fX10_setEntry N v2 x92 x93 x94 b91.2)).bind fun b95 =>
    if b91.1 = b95.1 then (
    lL_law_18 N xs L v0 v1 v2 n (v3 + (6 : Int32)) b95.2
    ) else (
    some (.inr ((0 : Int32), b95.2))
    )
    ) else (
    if x1 &&& (63 : Int32) = (23 : Int32) then (
    (qsx xs L (v3 + (1 : Int32))).bind fun x96 =>
    (qChk m0 v1 9 (fX9_setDesignated N v1 x96 m0)).bind fun b97 =>
    (qsx xs L (v3 + (1 : Int32))).bind fun x98 =>
    (qChk b97.2 v2 10 (fX10_setDesignated N v2 x98 b97.2)).bind fun b99 =>
    if b97.1 = b99.1 then (
    lL_law_18 N xs L v0 v1 v2 n (v3 + (6 : Int32)) b99.2
    ) else (
    some (.inr ((0 : Int32), b99.2))
    )
    ) else (
    if x1 &&& (63 : Int32) = (24 : Int32) then (
    (qChk m0 v1 9 (fX9_isNormal N v1 m0)).bind fun b100 =>
    (qChk b100.2 v2 10 (fX10_isNormal N v2 b100.2)).bind fun b101 =>
    if b100.1 = b101.1 then (
    lL_law_18 N xs L v0 v1 v2 n (v3 + (6 : Int32)) b101.2
    ) else (
    some (.inr ((0 : Int32), b101.2))
    )
    ) else (
    if x1 &&& (63 : Int32) = (25 : Int32) then (
    (qsx xs L (v3 + (1 : Int32))).bind fun x102 =>
    (qChk m0 v1 9 (fX9_isValid N v1 x102 m0)).bind fun b103 =>
    (qsx xs L (v3 + (1 : Int32))).bind fun x104 =>
    (qChk b103.2 v2 10 (fX10_isValid N v2 x104 b103.2)).bind fun b105 =>
    if b103.1 = b105.1 then (
    lL_law_18 N xs L v0 v1 v2 n (v3 + (6 : Int32)) b105.2
    ) else (
    some (.inr ((0 : Int32), b105.2))
    )
    ) else (
    if x1 &&& (63 : Int32) = (26 : Int32) then (
    (qsx xs L (v3 + (1 : Int32))).bind fun x106 =>
    (qsx xs L (v3 + (2 : Int32))).bind fun x107 =>
    (qChk m0 v1 9 (fX9_refutation N v1 x106 x107 m0)).bind fun b108 =>
    (qsx xs L (v3 + (1 : Int32))).bind fun x109 =>
    (qsx xs L (v3 + (2 : Int32))).bind fun x110 =>
    (qChk b108.2 v2 10 (fX10_refutation N v2 x109 x110 b108.2)).bind fun b111 =>
    if b108.1 = b111.1 then (
    lL_law_18 N xs L v0 v1 v2 n (v3 + (6 : Int32)) b111.2
    ) else (
    some (.inr ((0 : Int32), b111.2))
    )
    ) else (
    if x1 &&& (63 : Int32) = (27 : Int32) then (
    (qsx xs L (v3 + (1 : Int32))).bind fun x112 =>
    (qsx xs L (v3 + (2 : Int32))).bind fun x113 =>
    (qChk m0 v1 9 (fX9_countValuations N v1 x112 x113 m0)).bind fun b114 =>
    (qsx xs L (v3 + (1 : Int32))).bind fun x115 =>
    (qsx xs L (v3 + (2 : Int32))).bind fun x116 =>
    (qChk b114.2 v2 10 (fX10_countValuations N v2 x115 x116 b114.2)).bind fun b117 =>
    if b114.1 = b117.1 then (
    lL_law_18 N xs L v0 v1 v2 n (v3 + (6 : Int32)) b117.2
    ) else (
    some (.inr ((0 : Int32), b117.2))
    )
    ) else (
    if x1 &&& (63 : Int32) = (28 : Int32) then (
    (qChk m0 v1 9 (fX9_addType N v1 m0)).bind fun b118 =>
    (qChk b118.2 v2 10 (fX10_addType N v2 b118.2)).bind fun b119 =>
    if b118.1 = b119.1 then (
    lL_law_18 N xs L v0 v1 v2 n (v3 + (6 : Int32)) b119.2
    ) else (
    some (.inr ((0 : Int32), b119.2))
    )
    ) else (
    if x1 &&& (63 : Int32) = (29 : Int32) then (
    (qsx xs L (v3 + (1 : Int32))).bind fun x120 =>
    (qChk m0 v1 9 (fX9_reduceTerm N v1 x120 m0)).bind fun b121 =>
    (qsx xs L (v3 + (1 : Int32))).bind fun x122 =>
    (qChk b121.2 v2 10 (fX10_reduceTerm N v2 x122 b121.2)).bind fun b123 =>
    if b121.1 = b123.1 then (
    lL_law_18 N xs L v0 v1 v2 n (v3 + (6 : Int32)) b123.2
    ) else (
    some (.inr ((0 : Int32), b123.2))
    )
    ) else (
    if x1 &&& (63 : Int32) = (30 : Int32) then (
    (qsx xs L (v3 + (1 : Int32))).bind fun x124 =>
    (qsx xs L (v3 + (2 : Int32))).bind fun x125 =>
    (qsx xs L (v3 + (3 : Int32))).bind fun x126 =>
    (qChk m0 v1 9 (fX9_allocate N v1 x124 x125 x126 m0)).bind fun b127 =>
    (qsx xs L (v3 + (1 : Int32))).bind fun x128 =>
    (qsx xs L (v3 + (2 : Int32))).bind fun x129 =>
    (qsx xs L (v3 + (3 : Int32))).bind fun x130 =>
    (qChk b127.2 v2 10 (fX10_allocate N v2 x128 x129 x130 b127.2)).bind fun b131 =>
    if b127.1 = b131.1 then (
    lL_law_18 N xs L v0 v1 v2 n (v3 + (6 : Int32)) b131.2
    ) else (
    some (.inr ((0 : Int32), b131.2))
    )
    ) else (
    if x1 &&& (63 : Int32) = (31 : Int32) then (
    (qsx xs L (v3 + (1 : Int32))).bind fun x132 =>
    (qsx xs L (v3 + (2 : Int32))).bind fun x133 =>
    (qsx xs L (v3 + (3 : Int32))).bind fun x134 =>
    (qChk m0 v1 9 (fX9_put N v1 x132 x133 x134 m0)).bind fun b135 =>
    (qsx xs L (v3 + (1 : Int32))).bind fun x136 =>
    (qsx xs L (v3 + (2 : Int32))).bind fun x137 =>
    (qsx xs L (v3 + (3 : Int32))).bind fun x138 =>
    (qChk b135.2 v2 10 (fX10_put N v2 x136 x137 x138 b135.2)).bind fun b139 =>
    if b135.1 = b139.1 then (
    lL_law_18 N xs L v0 v1 v2 n (v3 + (6 : Int32)) b139.2
    ) else (
    some (.inr ((0 : Int32), b139.2))
    )
    ) else (
    if x1 &&& (63 : Int32) = (32 : Int32) then (
    (qsx xs L (v3 + (1 : Int32))).bind fun x140 =>
    (qsx xs L (v3 + (2 : Int32))).bind fun x141 =>
    (qChk m0 v1 9 (fX9_rowElement N v1 x140 x141 m0)).bind fun b142 =>
    (qsx xs L (v3 + (1 : Int32))).bind fun x143 =>
    (qsx xs L (v3 + (2 : Int32))).bind fun x144 =>
    (qChk b142.2 v2 10 (fX10_rowElement N v2 x143 x144 b142.2)).bind fun b145 =>
    if lg_cmp b142.1 b145.1 = 0 then (
    lL_law_18 N xs L v0 v1 v2 n (v3 + (6 : Int32)) b145.2
    ) else (
    some (.inr ((0 : Int32), b145.2))
    )
    ) else (
    if x1 &&& (63 : Int32) = (33 : Int32) then (
    (qsx xs L (v3 + (1 : Int32))).bind fun x146 =>
    (qsx xs L (v3 + (2 : Int32))).bind fun x147 =>
    (qsx xs L (v3 + (3 : Int32))).bind fun x148 =>
    (qsx xs L (v3 + (4 : Int32))).bind fun x149 =>
    (qsx xs L (v3 + (5 : Int32))).bind fun x150 =>
    (qChk m0 v1 9 (fX9_copyElements N v1 x146 x147 x148 x149 x150 m0)).bind fun b151 =>
    (qsx xs L (v3 + (1 : Int32))).bind fun x152 =>
    (qsx xs L (v3 + (2 : Int32))).bind fun x153 =>
    (qsx xs L (v3 + (3 : Int32))).bind fun x154 =>
    (qsx xs L (v3 + (4 : Int32))).bind fun x155 =>
    (qsx xs L (v3 + (5 : Int32))).bind fun x156 =>
    (qChk b151.2 v2 10 (fX10_copyElements N v2 x152 x153 x154 x155 x156 b151.2)).bind fun b157 =>
    if b151.1 = b157.1 then (
    lL_law_18 N xs L v0 v1 v2 n (v3 + (6 : Int32)) b157.2
    ) else (
    some (.inr ((0 : Int32), b157.2))
    )
    ) else (
    if x1 &&& (63 : Int32) = (34 : Int32) then (
    (qsx xs L (v3 + (1 : Int32))).bind fun x158 =>
    (qsx xs L (v3 + (2 : Int32))).bind fun x159 =>
    (qChk m0 v1 9 (fX9_storeOutput N v1 x158 x159 m0)).bind fun b160 =>
    (qsx xs L (v3 + (1 : Int32))).bind fun x161 =>
    (qsx xs L (v3 + (2 : Int32))).bind fun x162 =>
    (qChk b160.2 v2 10 (fX10_storeOutput N v2 x161 x162 b160.2)).bind fun b163 =>
    if b160.1 = b163.1 then (
    lL_law_18 N xs L v0 v1 v2 n (v3 + (6 : Int32)) b163.2
    ) else (
    some (.inr ((0 : Int32), b163.2))
    )
    ) else (
    if x1 &&& (63 : Int32) = (35 : Int32) then (
    (qsx xs L (v3 + (1 : Int32))).bind fun x164 =>
    (qsx xs L (v3 + (2 : Int32))).bind fun x165 =>
    (qsx xs L (v3 + (3 : Int32))).bind fun x166 =>
    (qChk m0 v1 9 (fX9_loadText N v1 x164 x165 x166 m0)).bind fun b167 =>
    (qsx xs L (v3 + (1 : Int32))).bind fun x168 =>
    (qsx xs L (v3 + (2 : Int32))).bind fun x169 =>
    (qsx xs L (v3 + (3 : Int32))).bind fun x170 =>
    (qChk b167.2 v2 10 (fX10_loadText N v2 x168 x169 x170 b167.2)).bind fun b171 =>
    if b167.1 = b171.1 then (
    lL_law_18 N xs L v0 v1 v2 n (v3 + (6 : Int32)) b171.2
    ) else (
    some (.inr ((0 : Int32), b171.2))
    )
    ) else (
    lL_law_18 N xs L v0 v1 v2 n (v3 + (6 : Int32)) m0
    ))))))))))))))))))))))))))))))))))))
    )
set_option maxRecDepth 100000 in
theorem lbL_law_18 {E : qE} {N d bc bs : Nat} (hd : 1278 ≤ d) {xs : Nat → Int32} {L : Nat} {v0 : Nat} {v1 : Nat} {v2 : Nat} : ∀ (n : Nat) (v3 : Int32) (m0 : qM), qB E yL_law cL_law 4 (some .boolean) (qXs E v0 L xs) d (bc + n * 1) (bs + n * 80) 18 [(0, .ref v0), (1, .ref (E.2.1 + v1)), (2, .ref (E.2.1 + v2)), (3, .int v3)] [] m0 (lL_law_18 N xs L v0 v1 v2 n v3 m0) (qGL (fun o rr => qJ E yL_law cL_law 4 (some .boolean) (qXs E v0 L xs) d bc bs 1158 [] [] o rr) (fun r => (some (.int r.1), r.2))) := by
  intro n
  induction n with
  | zero =>
    intro v3 m0
    exact j_none
  | succ n ih =>
    intro v3 m0
    unfold lL_law_18
    refine j_bud (b1 := ((bc + n * 1) + 1)) (b2 := ((bs + n * 80) + 80)) (by omega) (by omega) ?_
    refine j_iload_n (q := 3) (np := 19) rfl rfl dL_law_18 rfl ?_
    refine j_aload_n (q := 0) (np := 20) rfl rfl dL_law_19 rfl ?_
    refine j_slen (np := 21) dL_law_20 rfl ?_
    refine j_bipush (np := 23) cb_6 dL_law_21 rfl ?_
    refine j_isub (np := 24) dL_law_23 rfl ?_
    refine j_icmp_gt (tgt := 1158) (np := 27) dL_law_24 rfl rfl ?_ ?_
    · refine j_sub (lv2 := []) [] rfl ?_
      refine j_bud (b1 := bc) (b2 := bs) (by omega) (by omega) ?_
      exact j_exit (fun rr h => h)
    · refine j_aload_n (q := 0) (np := 28) rfl rfl dL_law_27 rfl ?_
      refine j_iload_n (q := 3) (np := 29) rfl rfl dL_law_28 rfl ?_
      refine j_sld (np := 30) dL_law_29 rfl (fun x1 => ?_)
      refine j_bipush (np := 32) cb_63 dL_law_30 rfl ?_
      refine j_iand (np := 33) dL_law_32 rfl ?_
      refine j_split (fun h0 => ?_) (fun h0 => ?_)
      · refine j_tableIn (off := 159) (tgt := 192) dL_law_33 (by rw [h0]; decide) (by rw [h0]; decide) (by rw [h0]; decide) rfl ?_
        refine j_aload_n (q := 1) (np := 193) rfl rfl dL_law_192 rfl ?_
        refine j_aload_n (q := 0) (np := 194) rfl rfl dL_law_193 rfl ?_
        refine j_iload_n (q := 3) (np := 195) rfl rfl dL_law_194 rfl ?_
        refine j_iconst (np := 196) ci_1 dL_law_195 rfl ?_
        refine j_iadd (np := 197) dL_law_196 rfl ?_
        refine j_sld (np := 198) dL_law_197 rfl (fun x2 => ?_)
        refine j_callVi (ci := 9) (np := 201) (bc := ((bc + n * 1) + 1)) (bs := ((bs + n * 80) + 80)) (cb := 0) (cs := 0) (dd := d - 1) (As := [.int x2]) (st := []) caX9_append mlL_13 imX9_append seX9_append rfl rfl (by decide) (fun b hb => wX9_append (by omega) hb) (by omega) rfl rfl (Nat.le_of_ble_eq_true rfl) dL_law_198 rfl (fun b3 => ?_)
        refine j_aload_n (q := 2) (np := 202) rfl rfl dL_law_201 rfl ?_
        refine j_aload_n (q := 0) (np := 203) rfl rfl dL_law_202 rfl ?_
        refine j_iload_n (q := 3) (np := 204) rfl rfl dL_law_203 rfl ?_
        refine j_iconst (np := 205) ci_1 dL_law_204 rfl ?_
        refine j_iadd (np := 206) dL_law_205 rfl ?_
        refine j_sld (np := 207) dL_law_206 rfl (fun x4 => ?_)
        refine j_callVi (ci := 10) (np := 210) (bc := ((bc + n * 1) + 1)) (bs := ((bs + n * 80) + 80)) (cb := 0) (cs := 0) (dd := d - 1) (As := [.int x4]) (st := [.int b3.1]) caX10_append mlL_17 imX10_append seX10_append rfl rfl (by decide) (fun b hb => wX10_append (by omega) hb) (by omega) rfl rfl (Nat.le_of_ble_eq_true rfl) dL_law_207 rfl (fun b5 => ?_)
        refine j_icmp_eq (tgt := 1152) (np := 213) dL_law_210 rfl rfl ?_ ?_
        · refine j_iinc (q := 3) (np := 1155) (lv2 := [(3, .int (v3 + (6 : Int32))), (0, .ref v0), (1, .ref (E.2.1 + v1)), (2, .ref (E.2.1 + v2))]) rfl (congrArg _ ci_6) (by decide) dL_law_1152 rfl rfl ?_
          refine j_goto (tgt := 18) dL_law_1155 rfl ?_
          refine j_sub (lv2 := [(0, .ref v0), (1, .ref (E.2.1 + v1)), (2, .ref (E.2.1 + v2)), (3, .int (v3 + (6 : Int32)))]) [1, 2, 3, 0] rfl ?_
          refine j_bud (b1 := (bc + n * 1)) (b2 := (bs + n * 80)) (by omega) (by omega) ?_
          exact ih _ _
        · refine j_iconst (np := 214) ci_0 dL_law_213 rfl ?_
          exact j_zret rfl dL_law_214 (fun rr h => by rw [z0]; exact h)
      refine j_split (fun h1 => ?_) (fun h1 => ?_)
      · refine j_tableIn (off := 182) (tgt := 215) dL_law_33 (by rw [h1]; decide) (by rw [h1]; decide) (by rw [h1]; decide) rfl ?_
        refine j_aload_n (q := 1) (np := 216) rfl rfl dL_law_215 rfl ?_
        refine j_callVi (ci := 9) (np := 219) (bc := ((bc + n * 1) + 1)) (bs := ((bs + n * 80) + 80)) (cb := 0) (cs := 0) (dd := d - 1) (As := []) (st := []) caX9_clearText mlL_18 imX9_clearText seX9_clearText rfl rfl (by decide) (fun b hb => wX9_clearText (by omega) hb) (by omega) rfl rfl (Nat.le_of_ble_eq_true rfl) dL_law_216 rfl (fun b6 => ?_)
        refine j_aload_n (q := 2) (np := 220) rfl rfl dL_law_219 rfl ?_
        refine j_callVi (ci := 10) (np := 223) (bc := ((bc + n * 1) + 1)) (bs := ((bs + n * 80) + 80)) (cb := 0) (cs := 0) (dd := d - 1) (As := []) (st := [.int b6.1]) caX10_clearText mlL_22 imX10_clearText seX10_clearText rfl rfl (by decide) (fun b hb => wX10_clearText (by omega) hb) (by omega) rfl rfl (Nat.le_of_ble_eq_true rfl) dL_law_220 rfl (fun b7 => ?_)
        refine j_icmp_eq (tgt := 1152) (np := 226) dL_law_223 rfl rfl ?_ ?_
        · refine j_iinc (q := 3) (np := 1155) (lv2 := [(3, .int (v3 + (6 : Int32))), (0, .ref v0), (1, .ref (E.2.1 + v1)), (2, .ref (E.2.1 + v2))]) rfl (congrArg _ ci_6) (by decide) dL_law_1152 rfl rfl ?_
          refine j_goto (tgt := 18) dL_law_1155 rfl ?_
          refine j_sub (lv2 := [(0, .ref v0), (1, .ref (E.2.1 + v1)), (2, .ref (E.2.1 + v2)), (3, .int (v3 + (6 : Int32)))]) [1, 2, 3, 0] rfl ?_
          refine j_bud (b1 := (bc + n * 1)) (b2 := (bs + n * 80)) (by omega) (by omega) ?_
          exact ih _ _
        · refine j_iconst (np := 227) ci_0 dL_law_226 rfl ?_
          exact j_zret rfl dL_law_227 (fun rr h => by rw [z0]; exact h)
      refine j_split (fun h2 => ?_) (fun h2 => ?_)
      · refine j_tableIn (off := 195) (tgt := 228) dL_law_33 (by rw [h2]; decide) (by rw [h2]; decide) (by rw [h2]; decide) rfl ?_
        refine j_aload_n (q := 1) (np := 229) rfl rfl dL_law_228 rfl ?_
        refine j_callVi (ci := 9) (np := 232) (bc := ((bc + n * 1) + 1)) (bs := ((bs + n * 80) + 80)) (cb := 0) (cs := 0) (dd := d - 1) (As := []) (st := []) caX9_addAxiom mlL_23 imX9_addAxiom seX9_addAxiom rfl rfl (by decide) (fun b hb => wX9_addAxiom (by omega) hb) (by omega) rfl rfl (Nat.le_of_ble_eq_true rfl) dL_law_229 rfl (fun b8 => ?_)
        refine j_aload_n (q := 2) (np := 233) rfl rfl dL_law_232 rfl ?_
        refine j_callVi (ci := 10) (np := 236) (bc := ((bc + n * 1) + 1)) (bs := ((bs + n * 80) + 80)) (cb := 0) (cs := 0) (dd := d - 1) (As := []) (st := [.int b8.1]) caX10_addAxiom mlL_26 imX10_addAxiom seX10_addAxiom rfl rfl (by decide) (fun b hb => wX10_addAxiom (by omega) hb) (by omega) rfl rfl (Nat.le_of_ble_eq_true rfl) dL_law_233 rfl (fun b9 => ?_)
        refine j_icmp_eq (tgt := 1152) (np := 239) dL_law_236 rfl rfl ?_ ?_
        · refine j_iinc (q := 3) (np := 1155) (lv2 := [(3, .int (v3 + (6 : Int32))), (0, .ref v0), (1, .ref (E.2.1 + v1)), (2, .ref (E.2.1 + v2))]) rfl (congrArg _ ci_6) (by decide) dL_law_1152 rfl rfl ?_
          refine j_goto (tgt := 18) dL_law_1155 rfl ?_
          refine j_sub (lv2 := [(0, .ref v0), (1, .ref (E.2.1 + v1)), (2, .ref (E.2.1 + v2)), (3, .int (v3 + (6 : Int32)))]) [1, 2, 3, 0] rfl ?_
          refine j_bud (b1 := (bc + n * 1)) (b2 := (bs + n * 80)) (by omega) (by omega) ?_
          exact ih _ _
        · refine j_iconst (np := 240) ci_0 dL_law_239 rfl ?_
          exact j_zret rfl dL_law_240 (fun rr h => by rw [z0]; exact h)
      refine j_split (fun h3 => ?_) (fun h3 => ?_)
      · refine j_tableIn (off := 208) (tgt := 241) dL_law_33 (by rw [h3]; decide) (by rw [h3]; decide) (by rw [h3]; decide) rfl ?_
        refine j_aload_n (q := 1) (np := 242) rfl rfl dL_law_241 rfl ?_
        refine j_aload_n (q := 0) (np := 243) rfl rfl dL_law_242 rfl ?_
        refine j_iload_n (q := 3) (np := 244) rfl rfl dL_law_243 rfl ?_
        refine j_iconst (np := 245) ci_1 dL_law_244 rfl ?_
        refine j_iadd (np := 246) dL_law_245 rfl ?_
        refine j_sld (np := 247) dL_law_246 rfl (fun x10 => ?_)
        refine j_aload_n (q := 0) (np := 248) rfl rfl dL_law_247 rfl ?_
        refine j_iload_n (q := 3) (np := 249) rfl rfl dL_law_248 rfl ?_
        refine j_iconst (np := 250) ci_2 dL_law_249 rfl ?_
        refine j_iadd (np := 251) dL_law_250 rfl ?_
        refine j_sld (np := 252) dL_law_251 rfl (fun x11 => ?_)
        refine j_callVi (ci := 9) (np := 255) (bc := ((bc + n * 1) + 1)) (bs := ((bs + n * 80) + 80)) (cb := 0) (cs := 0) (dd := d - 1) (As := [.int x10, .int x11]) (st := []) caX9_detach mlL_27 imX9_detach seX9_detach rfl rfl (by decide) (fun b hb => wX9_detach (by omega) hb) (by omega) rfl rfl (Nat.le_of_ble_eq_true rfl) dL_law_252 rfl (fun b12 => ?_)
        refine j_aload_n (q := 2) (np := 256) rfl rfl dL_law_255 rfl ?_
        refine j_aload_n (q := 0) (np := 257) rfl rfl dL_law_256 rfl ?_
        refine j_iload_n (q := 3) (np := 258) rfl rfl dL_law_257 rfl ?_
        refine j_iconst (np := 259) ci_1 dL_law_258 rfl ?_
        refine j_iadd (np := 260) dL_law_259 rfl ?_
        refine j_sld (np := 261) dL_law_260 rfl (fun x13 => ?_)
        refine j_aload_n (q := 0) (np := 262) rfl rfl dL_law_261 rfl ?_
        refine j_iload_n (q := 3) (np := 263) rfl rfl dL_law_262 rfl ?_
        refine j_iconst (np := 264) ci_2 dL_law_263 rfl ?_
        refine j_iadd (np := 265) dL_law_264 rfl ?_
        refine j_sld (np := 266) dL_law_265 rfl (fun x14 => ?_)
        refine j_callVi (ci := 10) (np := 269) (bc := ((bc + n * 1) + 1)) (bs := ((bs + n * 80) + 80)) (cb := 0) (cs := 0) (dd := d - 1) (As := [.int x13, .int x14]) (st := [.int b12.1]) caX10_detach mlL_31 imX10_detach seX10_detach rfl rfl (by decide) (fun b hb => wX10_detach (by omega) hb) (by omega) rfl rfl (Nat.le_of_ble_eq_true rfl) dL_law_266 rfl (fun b15 => ?_)
        refine j_icmp_eq (tgt := 1152) (np := 272) dL_law_269 rfl rfl ?_ ?_
        · refine j_iinc (q := 3) (np := 1155) (lv2 := [(3, .int (v3 + (6 : Int32))), (0, .ref v0), (1, .ref (E.2.1 + v1)), (2, .ref (E.2.1 + v2))]) rfl (congrArg _ ci_6) (by decide) dL_law_1152 rfl rfl ?_
          refine j_goto (tgt := 18) dL_law_1155 rfl ?_
          refine j_sub (lv2 := [(0, .ref v0), (1, .ref (E.2.1 + v1)), (2, .ref (E.2.1 + v2)), (3, .int (v3 + (6 : Int32)))]) [1, 2, 3, 0] rfl ?_
          refine j_bud (b1 := (bc + n * 1)) (b2 := (bs + n * 80)) (by omega) (by omega) ?_
          exact ih _ _
        · refine j_iconst (np := 273) ci_0 dL_law_272 rfl ?_
          exact j_zret rfl dL_law_273 (fun rr h => by rw [z0]; exact h)
      refine j_split (fun h4 => ?_) (fun h4 => ?_)
      · refine j_tableIn (off := 241) (tgt := 274) dL_law_33 (by rw [h4]; decide) (by rw [h4]; decide) (by rw [h4]; decide) rfl ?_
        refine j_aload_n (q := 1) (np := 275) rfl rfl dL_law_274 rfl ?_
        refine j_callVi (ci := 9) (np := 278) (bc := ((bc + n * 1) + 1)) (bs := ((bs + n * 80) + 80)) (cb := 0) (cs := 0) (dd := d - 1) (As := []) (st := []) caX9_prove mlL_32 imX9_prove seX9_prove rfl rfl (by decide) (fun b hb => wX9_prove (by omega) hb) (by omega) rfl rfl (Nat.le_of_ble_eq_true rfl) dL_law_275 rfl (fun b16 => ?_)
        refine j_aload_n (q := 2) (np := 279) rfl rfl dL_law_278 rfl ?_
        refine j_callVi (ci := 10) (np := 282) (bc := ((bc + n * 1) + 1)) (bs := ((bs + n * 80) + 80)) (cb := 0) (cs := 0) (dd := d - 1) (As := []) (st := [.int b16.1]) caX10_prove mlL_35 imX10_prove seX10_prove rfl rfl (by decide) (fun b hb => wX10_prove (by omega) hb) (by omega) rfl rfl (Nat.le_of_ble_eq_true rfl) dL_law_279 rfl (fun b17 => ?_)
        refine j_icmp_eq (tgt := 1152) (np := 285) dL_law_282 rfl rfl ?_ ?_
        · refine j_iinc (q := 3) (np := 1155) (lv2 := [(3, .int (v3 + (6 : Int32))), (0, .ref v0), (1, .ref (E.2.1 + v1)), (2, .ref (E.2.1 + v2))]) rfl (congrArg _ ci_6) (by decide) dL_law_1152 rfl rfl ?_
          refine j_goto (tgt := 18) dL_law_1155 rfl ?_
          refine j_sub (lv2 := [(0, .ref v0), (1, .ref (E.2.1 + v1)), (2, .ref (E.2.1 + v2)), (3, .int (v3 + (6 : Int32)))]) [1, 2, 3, 0] rfl ?_
          refine j_bud (b1 := (bc + n * 1)) (b2 := (bs + n * 80)) (by omega) (by omega) ?_
          exact ih _ _
        · refine j_iconst (np := 286) ci_0 dL_law_285 rfl ?_
          exact j_zret rfl dL_law_286 (fun rr h => by rw [z0]; exact h)
      refine j_split (fun h5 => ?_) (fun h5 => ?_)
      · refine j_tableIn (off := 254) (tgt := 287) dL_law_33 (by rw [h5]; decide) (by rw [h5]; decide) (by rw [h5]; decide) rfl ?_
        refine j_aload_n (q := 1) (np := 288) rfl rfl dL_law_287 rfl ?_
        refine j_aload_n (q := 0) (np := 289) rfl rfl dL_law_288 rfl ?_
        refine j_iload_n (q := 3) (np := 290) rfl rfl dL_law_289 rfl ?_
        refine j_iconst (np := 291) ci_1 dL_law_290 rfl ?_
        refine j_iadd (np := 292) dL_law_291 rfl ?_
        refine j_sld (np := 293) dL_law_292 rfl (fun x18 => ?_)
        refine j_callVi (ci := 9) (np := 296) (bc := ((bc + n * 1) + 1)) (bs := ((bs + n * 80) + 80)) (cb := 0) (cs := 0) (dd := d - 1) (As := [.int x18]) (st := []) caX9_cut mlL_36 imX9_cut seX9_cut rfl rfl (by decide) (fun b hb => wX9_cut (by omega) hb) (by omega) rfl rfl (Nat.le_of_ble_eq_true rfl) dL_law_293 rfl (fun b19 => ?_)
        refine j_aload_n (q := 2) (np := 297) rfl rfl dL_law_296 rfl ?_
        refine j_aload_n (q := 0) (np := 298) rfl rfl dL_law_297 rfl ?_
        refine j_iload_n (q := 3) (np := 299) rfl rfl dL_law_298 rfl ?_
        refine j_iconst (np := 300) ci_1 dL_law_299 rfl ?_
        refine j_iadd (np := 301) dL_law_300 rfl ?_
        refine j_sld (np := 302) dL_law_301 rfl (fun x20 => ?_)
        refine j_callVi (ci := 10) (np := 305) (bc := ((bc + n * 1) + 1)) (bs := ((bs + n * 80) + 80)) (cb := 0) (cs := 0) (dd := d - 1) (As := [.int x20]) (st := [.int b19.1]) caX10_cut mlL_39 imX10_cut seX10_cut rfl rfl (by decide) (fun b hb => wX10_cut (by omega) hb) (by omega) rfl rfl (Nat.le_of_ble_eq_true rfl) dL_law_302 rfl (fun b21 => ?_)
        refine j_icmp_eq (tgt := 1152) (np := 308) dL_law_305 rfl rfl ?_ ?_
        · refine j_iinc (q := 3) (np := 1155) (lv2 := [(3, .int (v3 + (6 : Int32))), (0, .ref v0), (1, .ref (E.2.1 + v1)), (2, .ref (E.2.1 + v2))]) rfl (congrArg _ ci_6) (by decide) dL_law_1152 rfl rfl ?_
          refine j_goto (tgt := 18) dL_law_1155 rfl ?_
          refine j_sub (lv2 := [(0, .ref v0), (1, .ref (E.2.1 + v1)), (2, .ref (E.2.1 + v2)), (3, .int (v3 + (6 : Int32)))]) [1, 2, 3, 0] rfl ?_
          refine j_bud (b1 := (bc + n * 1)) (b2 := (bs + n * 80)) (by omega) (by omega) ?_
          exact ih _ _
        · refine j_iconst (np := 309) ci_0 dL_law_308 rfl ?_
          exact j_zret rfl dL_law_309 (fun rr h => by rw [z0]; exact h)
      refine j_split (fun h6 => ?_) (fun h6 => ?_)
      · refine j_tableIn (off := 277) (tgt := 310) dL_law_33 (by rw [h6]; decide) (by rw [h6]; decide) (by rw [h6]; decide) rfl ?_
        refine j_aload_n (q := 1) (np := 311) rfl rfl dL_law_310 rfl ?_
        refine j_callVi (ci := 9) (np := 314) (bc := ((bc + n * 1) + 1)) (bs := ((bs + n * 80) + 80)) (cb := 0) (cs := 0) (dd := d - 1) (As := []) (st := []) caX9_listSize mlL_40 imX9_listSize seX9_listSize rfl rfl (by decide) (fun b hb => wX9_listSize (by omega) hb) (by omega) rfl rfl (Nat.le_of_ble_eq_true rfl) dL_law_311 rfl (fun b22 => ?_)
        refine j_aload_n (q := 2) (np := 315) rfl rfl dL_law_314 rfl ?_
        refine j_callVi (ci := 10) (np := 318) (bc := ((bc + n * 1) + 1)) (bs := ((bs + n * 80) + 80)) (cb := 0) (cs := 0) (dd := d - 1) (As := []) (st := [.int b22.1]) caX10_listSize mlL_43 imX10_listSize seX10_listSize rfl rfl (by decide) (fun b hb => wX10_listSize (by omega) hb) (by omega) rfl rfl (Nat.le_of_ble_eq_true rfl) dL_law_315 rfl (fun b23 => ?_)
        refine j_icmp_eq (tgt := 1152) (np := 321) dL_law_318 rfl rfl ?_ ?_
        · refine j_iinc (q := 3) (np := 1155) (lv2 := [(3, .int (v3 + (6 : Int32))), (0, .ref v0), (1, .ref (E.2.1 + v1)), (2, .ref (E.2.1 + v2))]) rfl (congrArg _ ci_6) (by decide) dL_law_1152 rfl rfl ?_
          refine j_goto (tgt := 18) dL_law_1155 rfl ?_
          refine j_sub (lv2 := [(0, .ref v0), (1, .ref (E.2.1 + v1)), (2, .ref (E.2.1 + v2)), (3, .int (v3 + (6 : Int32)))]) [1, 2, 3, 0] rfl ?_
          refine j_bud (b1 := (bc + n * 1)) (b2 := (bs + n * 80)) (by omega) (by omega) ?_
          exact ih _ _
        · refine j_iconst (np := 322) ci_0 dL_law_321 rfl ?_
          exact j_zret rfl dL_law_322 (fun rr h => by rw [z0]; exact h)
      refine j_split (fun h7 => ?_) (fun h7 => ?_)
      · refine j_tableIn (off := 290) (tgt := 323) dL_law_33 (by rw [h7]; decide) (by rw [h7]; decide) (by rw [h7]; decide) rfl ?_
        refine j_aload_n (q := 1) (np := 324) rfl rfl dL_law_323 rfl ?_
        refine j_aload_n (q := 0) (np := 325) rfl rfl dL_law_324 rfl ?_
        refine j_iload_n (q := 3) (np := 326) rfl rfl dL_law_325 rfl ?_
        refine j_iconst (np := 327) ci_1 dL_law_326 rfl ?_
        refine j_iadd (np := 328) dL_law_327 rfl ?_
        refine j_sld (np := 329) dL_law_328 rfl (fun x24 => ?_)
        refine j_callVi (ci := 9) (np := 332) (bc := ((bc + n * 1) + 1)) (bs := ((bs + n * 80) + 80)) (cb := 0) (cs := 0) (dd := d - 1) (As := [.int x24]) (st := []) caX9_formulaSize mlL_44 imX9_formulaSize seX9_formulaSize rfl rfl (by decide) (fun b hb => wX9_formulaSize (by omega) hb) (by omega) rfl rfl (Nat.le_of_ble_eq_true rfl) dL_law_329 rfl (fun b25 => ?_)
        refine j_aload_n (q := 2) (np := 333) rfl rfl dL_law_332 rfl ?_
        refine j_aload_n (q := 0) (np := 334) rfl rfl dL_law_333 rfl ?_
        refine j_iload_n (q := 3) (np := 335) rfl rfl dL_law_334 rfl ?_
        refine j_iconst (np := 336) ci_1 dL_law_335 rfl ?_
        refine j_iadd (np := 337) dL_law_336 rfl ?_
        refine j_sld (np := 338) dL_law_337 rfl (fun x26 => ?_)
        refine j_callVi (ci := 10) (np := 341) (bc := ((bc + n * 1) + 1)) (bs := ((bs + n * 80) + 80)) (cb := 0) (cs := 0) (dd := d - 1) (As := [.int x26]) (st := [.int b25.1]) caX10_formulaSize mlL_47 imX10_formulaSize seX10_formulaSize rfl rfl (by decide) (fun b hb => wX10_formulaSize (by omega) hb) (by omega) rfl rfl (Nat.le_of_ble_eq_true rfl) dL_law_338 rfl (fun b27 => ?_)
        refine j_icmp_eq (tgt := 1152) (np := 344) dL_law_341 rfl rfl ?_ ?_
        · refine j_iinc (q := 3) (np := 1155) (lv2 := [(3, .int (v3 + (6 : Int32))), (0, .ref v0), (1, .ref (E.2.1 + v1)), (2, .ref (E.2.1 + v2))]) rfl (congrArg _ ci_6) (by decide) dL_law_1152 rfl rfl ?_
          refine j_goto (tgt := 18) dL_law_1155 rfl ?_
          refine j_sub (lv2 := [(0, .ref v0), (1, .ref (E.2.1 + v1)), (2, .ref (E.2.1 + v2)), (3, .int (v3 + (6 : Int32)))]) [1, 2, 3, 0] rfl ?_
          refine j_bud (b1 := (bc + n * 1)) (b2 := (bs + n * 80)) (by omega) (by omega) ?_
          exact ih _ _
        · refine j_iconst (np := 345) ci_0 dL_law_344 rfl ?_
          exact j_zret rfl dL_law_345 (fun rr h => by rw [z0]; exact h)
      refine j_split (fun h8 => ?_) (fun h8 => ?_)
      · refine j_tableIn (off := 313) (tgt := 346) dL_law_33 (by rw [h8]; decide) (by rw [h8]; decide) (by rw [h8]; decide) rfl ?_
        refine j_aload_n (q := 1) (np := 347) rfl rfl dL_law_346 rfl ?_
        refine j_aload_n (q := 0) (np := 348) rfl rfl dL_law_347 rfl ?_
        refine j_iload_n (q := 3) (np := 349) rfl rfl dL_law_348 rfl ?_
        refine j_iconst (np := 350) ci_1 dL_law_349 rfl ?_
        refine j_iadd (np := 351) dL_law_350 rfl ?_
        refine j_sld (np := 352) dL_law_351 rfl (fun x28 => ?_)
        refine j_callVi (ci := 9) (np := 355) (bc := ((bc + n * 1) + 1)) (bs := ((bs + n * 80) + 80)) (cb := 0) (cs := 0) (dd := d - 1) (As := [.int x28]) (st := []) caX9_variableCount mlL_48 imX9_variableCount seX9_variableCount rfl rfl (by decide) (fun b hb => wX9_variableCount (by omega) hb) (by omega) rfl rfl (Nat.le_of_ble_eq_true rfl) dL_law_352 rfl (fun b29 => ?_)
        refine j_aload_n (q := 2) (np := 356) rfl rfl dL_law_355 rfl ?_
        refine j_aload_n (q := 0) (np := 357) rfl rfl dL_law_356 rfl ?_
        refine j_iload_n (q := 3) (np := 358) rfl rfl dL_law_357 rfl ?_
        refine j_iconst (np := 359) ci_1 dL_law_358 rfl ?_
        refine j_iadd (np := 360) dL_law_359 rfl ?_
        refine j_sld (np := 361) dL_law_360 rfl (fun x30 => ?_)
        refine j_callVi (ci := 10) (np := 364) (bc := ((bc + n * 1) + 1)) (bs := ((bs + n * 80) + 80)) (cb := 0) (cs := 0) (dd := d - 1) (As := [.int x30]) (st := [.int b29.1]) caX10_variableCount mlL_51 imX10_variableCount seX10_variableCount rfl rfl (by decide) (fun b hb => wX10_variableCount (by omega) hb) (by omega) rfl rfl (Nat.le_of_ble_eq_true rfl) dL_law_361 rfl (fun b31 => ?_)
        refine j_icmp_eq (tgt := 1152) (np := 367) dL_law_364 rfl rfl ?_ ?_
        · refine j_iinc (q := 3) (np := 1155) (lv2 := [(3, .int (v3 + (6 : Int32))), (0, .ref v0), (1, .ref (E.2.1 + v1)), (2, .ref (E.2.1 + v2))]) rfl (congrArg _ ci_6) (by decide) dL_law_1152 rfl rfl ?_
          refine j_goto (tgt := 18) dL_law_1155 rfl ?_
          refine j_sub (lv2 := [(0, .ref v0), (1, .ref (E.2.1 + v1)), (2, .ref (E.2.1 + v2)), (3, .int (v3 + (6 : Int32)))]) [1, 2, 3, 0] rfl ?_
          refine j_bud (b1 := (bc + n * 1)) (b2 := (bs + n * 80)) (by omega) (by omega) ?_
          exact ih _ _
        · refine j_iconst (np := 368) ci_0 dL_law_367 rfl ?_
          exact j_zret rfl dL_law_368 (fun rr h => by rw [z0]; exact h)
      refine j_split (fun h9 => ?_) (fun h9 => ?_)
      · refine j_tableIn (off := 336) (tgt := 369) dL_law_33 (by rw [h9]; decide) (by rw [h9]; decide) (by rw [h9]; decide) rfl ?_
        refine j_aload_n (q := 1) (np := 370) rfl rfl dL_law_369 rfl ?_
        refine j_aload_n (q := 0) (np := 371) rfl rfl dL_law_370 rfl ?_
        refine j_iload_n (q := 3) (np := 372) rfl rfl dL_law_371 rfl ?_
        refine j_iconst (np := 373) ci_1 dL_law_372 rfl ?_
        refine j_iadd (np := 374) dL_law_373 rfl ?_
        refine j_sld (np := 375) dL_law_374 rfl (fun x32 => ?_)
        refine j_callVi (ci := 9) (np := 378) (bc := ((bc + n * 1) + 1)) (bs := ((bs + n * 80) + 80)) (cb := 0) (cs := 0) (dd := d - 1) (As := [.int x32]) (st := []) caX9_majorOf mlL_52 imX9_majorOf seX9_majorOf rfl rfl (by decide) (fun b hb => wX9_majorOf (by omega) hb) (by omega) rfl rfl (Nat.le_of_ble_eq_true rfl) dL_law_375 rfl (fun b33 => ?_)
        refine j_aload_n (q := 2) (np := 379) rfl rfl dL_law_378 rfl ?_
        refine j_aload_n (q := 0) (np := 380) rfl rfl dL_law_379 rfl ?_
        refine j_iload_n (q := 3) (np := 381) rfl rfl dL_law_380 rfl ?_
        refine j_iconst (np := 382) ci_1 dL_law_381 rfl ?_
        refine j_iadd (np := 383) dL_law_382 rfl ?_
        refine j_sld (np := 384) dL_law_383 rfl (fun x34 => ?_)
        refine j_callVi (ci := 10) (np := 387) (bc := ((bc + n * 1) + 1)) (bs := ((bs + n * 80) + 80)) (cb := 0) (cs := 0) (dd := d - 1) (As := [.int x34]) (st := [.int b33.1]) caX10_majorOf mlL_55 imX10_majorOf seX10_majorOf rfl rfl (by decide) (fun b hb => wX10_majorOf (by omega) hb) (by omega) rfl rfl (Nat.le_of_ble_eq_true rfl) dL_law_384 rfl (fun b35 => ?_)
        refine j_icmp_eq (tgt := 1152) (np := 390) dL_law_387 rfl rfl ?_ ?_
        · refine j_iinc (q := 3) (np := 1155) (lv2 := [(3, .int (v3 + (6 : Int32))), (0, .ref v0), (1, .ref (E.2.1 + v1)), (2, .ref (E.2.1 + v2))]) rfl (congrArg _ ci_6) (by decide) dL_law_1152 rfl rfl ?_
          refine j_goto (tgt := 18) dL_law_1155 rfl ?_
          refine j_sub (lv2 := [(0, .ref v0), (1, .ref (E.2.1 + v1)), (2, .ref (E.2.1 + v2)), (3, .int (v3 + (6 : Int32)))]) [1, 2, 3, 0] rfl ?_
          refine j_bud (b1 := (bc + n * 1)) (b2 := (bs + n * 80)) (by omega) (by omega) ?_
          exact ih _ _
        · refine j_iconst (np := 391) ci_0 dL_law_390 rfl ?_
          exact j_zret rfl dL_law_391 (fun rr h => by rw [z0]; exact h)
      refine j_split (fun h10 => ?_) (fun h10 => ?_)
      · refine j_tableIn (off := 359) (tgt := 392) dL_law_33 (by rw [h10]; decide) (by rw [h10]; decide) (by rw [h10]; decide) rfl ?_
        refine j_aload_n (q := 1) (np := 393) rfl rfl dL_law_392 rfl ?_
        refine j_aload_n (q := 0) (np := 394) rfl rfl dL_law_393 rfl ?_
        refine j_iload_n (q := 3) (np := 395) rfl rfl dL_law_394 rfl ?_
        refine j_iconst (np := 396) ci_1 dL_law_395 rfl ?_
        refine j_iadd (np := 397) dL_law_396 rfl ?_
        refine j_sld (np := 398) dL_law_397 rfl (fun x36 => ?_)
        refine j_callVi (ci := 9) (np := 401) (bc := ((bc + n * 1) + 1)) (bs := ((bs + n * 80) + 80)) (cb := 0) (cs := 0) (dd := d - 1) (As := [.int x36]) (st := []) caX9_minorOf mlL_56 imX9_minorOf seX9_minorOf rfl rfl (by decide) (fun b hb => wX9_minorOf (by omega) hb) (by omega) rfl rfl (Nat.le_of_ble_eq_true rfl) dL_law_398 rfl (fun b37 => ?_)
        refine j_aload_n (q := 2) (np := 402) rfl rfl dL_law_401 rfl ?_
        refine j_aload_n (q := 0) (np := 403) rfl rfl dL_law_402 rfl ?_
        refine j_iload_n (q := 3) (np := 404) rfl rfl dL_law_403 rfl ?_
        refine j_iconst (np := 405) ci_1 dL_law_404 rfl ?_
        refine j_iadd (np := 406) dL_law_405 rfl ?_
        refine j_sld (np := 407) dL_law_406 rfl (fun x38 => ?_)
        refine j_callVi (ci := 10) (np := 410) (bc := ((bc + n * 1) + 1)) (bs := ((bs + n * 80) + 80)) (cb := 0) (cs := 0) (dd := d - 1) (As := [.int x38]) (st := [.int b37.1]) caX10_minorOf mlL_59 imX10_minorOf seX10_minorOf rfl rfl (by decide) (fun b hb => wX10_minorOf (by omega) hb) (by omega) rfl rfl (Nat.le_of_ble_eq_true rfl) dL_law_407 rfl (fun b39 => ?_)
        refine j_icmp_eq (tgt := 1152) (np := 413) dL_law_410 rfl rfl ?_ ?_
        · refine j_iinc (q := 3) (np := 1155) (lv2 := [(3, .int (v3 + (6 : Int32))), (0, .ref v0), (1, .ref (E.2.1 + v1)), (2, .ref (E.2.1 + v2))]) rfl (congrArg _ ci_6) (by decide) dL_law_1152 rfl rfl ?_
          refine j_goto (tgt := 18) dL_law_1155 rfl ?_
          refine j_sub (lv2 := [(0, .ref v0), (1, .ref (E.2.1 + v1)), (2, .ref (E.2.1 + v2)), (3, .int (v3 + (6 : Int32)))]) [1, 2, 3, 0] rfl ?_
          refine j_bud (b1 := (bc + n * 1)) (b2 := (bs + n * 80)) (by omega) (by omega) ?_
          exact ih _ _
        · refine j_iconst (np := 414) ci_0 dL_law_413 rfl ?_
          exact j_zret rfl dL_law_414 (fun rr h => by rw [z0]; exact h)
      refine j_split (fun h11 => ?_) (fun h11 => ?_)
      · refine j_tableIn (off := 382) (tgt := 415) dL_law_33 (by rw [h11]; decide) (by rw [h11]; decide) (by rw [h11]; decide) rfl ?_
        refine j_aload_n (q := 1) (np := 416) rfl rfl dL_law_415 rfl ?_
        refine j_aload_n (q := 0) (np := 417) rfl rfl dL_law_416 rfl ?_
        refine j_iload_n (q := 3) (np := 418) rfl rfl dL_law_417 rfl ?_
        refine j_iconst (np := 419) ci_1 dL_law_418 rfl ?_
        refine j_iadd (np := 420) dL_law_419 rfl ?_
        refine j_sld (np := 421) dL_law_420 rfl (fun x40 => ?_)
        refine j_callVi (ci := 9) (np := 424) (bc := ((bc + n * 1) + 1)) (bs := ((bs + n * 80) + 80)) (cb := 0) (cs := 0) (dd := d - 1) (As := [.int x40]) (st := []) caX9_proofDepth mlL_60 imX9_proofDepth seX9_proofDepth rfl rfl (by decide) (fun b hb => wX9_proofDepth (by omega) hb) (by omega) rfl rfl (Nat.le_of_ble_eq_true rfl) dL_law_421 rfl (fun b41 => ?_)
        refine j_aload_n (q := 2) (np := 425) rfl rfl dL_law_424 rfl ?_
        refine j_aload_n (q := 0) (np := 426) rfl rfl dL_law_425 rfl ?_
        refine j_iload_n (q := 3) (np := 427) rfl rfl dL_law_426 rfl ?_
        refine j_iconst (np := 428) ci_1 dL_law_427 rfl ?_
        refine j_iadd (np := 429) dL_law_428 rfl ?_
        refine j_sld (np := 430) dL_law_429 rfl (fun x42 => ?_)
        refine j_bud (b1 := (bc + n * 1) + 1) (b2 := (bs + n * 80) + 60) (by omega) (by omega) ?_
        refine j_callVi (ci := 10) (np := 433) (bc := (bc + n * 1)) (bs := (bs + n * 80)) (cb := 1) (cs := 60) (dd := d - 1) (As := [.int x42]) (st := [.int b41.1]) caX10_proofDepth mlL_63 imX10_proofDepth seX10_proofDepth rfl rfl (by decide) (fun b hb => wX10_proofDepth (by omega) hb) (by omega) rfl rfl (Nat.le_of_ble_eq_true rfl) dL_law_430 rfl (fun b43 => ?_)
        refine j_icmp_eq (tgt := 1152) (np := 436) dL_law_433 rfl rfl ?_ ?_
        · refine j_iinc (q := 3) (np := 1155) (lv2 := [(3, .int (v3 + (6 : Int32))), (0, .ref v0), (1, .ref (E.2.1 + v1)), (2, .ref (E.2.1 + v2))]) rfl (congrArg _ ci_6) (by decide) dL_law_1152 rfl rfl ?_
          refine j_goto (tgt := 18) dL_law_1155 rfl ?_
          refine j_sub (lv2 := [(0, .ref v0), (1, .ref (E.2.1 + v1)), (2, .ref (E.2.1 + v2)), (3, .int (v3 + (6 : Int32)))]) [1, 2, 3, 0] rfl ?_
          exact ih _ _
        · refine j_iconst (np := 437) ci_0 dL_law_436 rfl ?_
          exact j_zret rfl dL_law_437 (fun rr h => by rw [z0]; exact h)
      refine j_split (fun h12 => ?_) (fun h12 => ?_)
      · refine j_tableIn (off := 405) (tgt := 438) dL_law_33 (by rw [h12]; decide) (by rw [h12]; decide) (by rw [h12]; decide) rfl ?_
        refine j_aload_n (q := 1) (np := 439) rfl rfl dL_law_438 rfl ?_
        refine j_aload_n (q := 0) (np := 440) rfl rfl dL_law_439 rfl ?_
        refine j_iload_n (q := 3) (np := 441) rfl rfl dL_law_440 rfl ?_
        refine j_iconst (np := 442) ci_1 dL_law_441 rfl ?_
        refine j_iadd (np := 443) dL_law_442 rfl ?_
        refine j_sld (np := 444) dL_law_443 rfl (fun x44 => ?_)
        refine j_callVl (ci := 9) (np := 447) (bc := ((bc + n * 1) + 1)) (bs := ((bs + n * 80) + 80)) (cb := 0) (cs := 0) (dd := d - 1) (As := [.int x44]) (st := []) caX9_proofSize mlL_64 imX9_proofSize seX9_proofSize rfl rfl (by decide) (fun b hb => wX9_proofSize (by omega) hb) (by omega) rfl rfl (Nat.le_of_ble_eq_true rfl) dL_law_444 rfl (fun b45 => ?_)
        refine j_aload_n (q := 2) (np := 448) rfl rfl dL_law_447 rfl ?_
        refine j_aload_n (q := 0) (np := 449) rfl rfl dL_law_448 rfl ?_
        refine j_iload_n (q := 3) (np := 450) rfl rfl dL_law_449 rfl ?_
        refine j_iconst (np := 451) ci_1 dL_law_450 rfl ?_
        refine j_iadd (np := 452) dL_law_451 rfl ?_
        refine j_sld (np := 453) dL_law_452 rfl (fun x46 => ?_)
        refine j_bud (b1 := (bc + n * 1) + 1) (b2 := (bs + n * 80) + 60) (by omega) (by omega) ?_
        refine j_callVl (ci := 10) (np := 456) (bc := (bc + n * 1)) (bs := (bs + n * 80)) (cb := 1) (cs := 60) (dd := d - 1) (As := [.int x46]) (st := [.long b45.1]) caX10_proofSize mlL_68 imX10_proofSize seX10_proofSize rfl rfl (by decide) (fun b hb => wX10_proofSize (by omega) hb) (by omega) rfl rfl (Nat.le_of_ble_eq_true rfl) dL_law_453 rfl (fun b47 => ?_)
        refine j_lcmp (np := 457) dL_law_456 rfl ?_
        refine j_if_eq (tgt := 1152) (np := 460) dL_law_457 rfl rfl ?_ ?_
        · refine j_iinc (q := 3) (np := 1155) (lv2 := [(3, .int (v3 + (6 : Int32))), (0, .ref v0), (1, .ref (E.2.1 + v1)), (2, .ref (E.2.1 + v2))]) rfl (congrArg _ ci_6) (by decide) dL_law_1152 rfl rfl ?_
          refine j_goto (tgt := 18) dL_law_1155 rfl ?_
          refine j_sub (lv2 := [(0, .ref v0), (1, .ref (E.2.1 + v1)), (2, .ref (E.2.1 + v2)), (3, .int (v3 + (6 : Int32)))]) [1, 2, 3, 0] rfl ?_
          exact ih _ _
        · refine j_iconst (np := 461) ci_0 dL_law_460 rfl ?_
          exact j_zret rfl dL_law_461 (fun rr h => by rw [z0]; exact h)
      refine j_split (fun h13 => ?_) (fun h13 => ?_)
      · refine j_tableIn (off := 429) (tgt := 462) dL_law_33 (by rw [h13]; decide) (by rw [h13]; decide) (by rw [h13]; decide) rfl ?_
        refine j_aload_n (q := 1) (np := 463) rfl rfl dL_law_462 rfl ?_
        refine j_aload_n (q := 0) (np := 464) rfl rfl dL_law_463 rfl ?_
        refine j_iload_n (q := 3) (np := 465) rfl rfl dL_law_464 rfl ?_
        refine j_iconst (np := 466) ci_1 dL_law_465 rfl ?_
        refine j_iadd (np := 467) dL_law_466 rfl ?_
        refine j_sld (np := 468) dL_law_467 rfl (fun x48 => ?_)
        refine j_callVi (ci := 9) (np := 471) (bc := ((bc + n * 1) + 1)) (bs := ((bs + n * 80) + 80)) (cb := 0) (cs := 0) (dd := d - 1) (As := [.int x48]) (st := []) caX9_writeFormula mlL_69 imX9_writeFormula seX9_writeFormula rfl rfl (by decide) (fun b hb => wX9_writeFormula (by omega) hb) (by omega) rfl rfl (Nat.le_of_ble_eq_true rfl) dL_law_468 rfl (fun b49 => ?_)
        refine j_aload_n (q := 2) (np := 472) rfl rfl dL_law_471 rfl ?_
        refine j_aload_n (q := 0) (np := 473) rfl rfl dL_law_472 rfl ?_
        refine j_iload_n (q := 3) (np := 474) rfl rfl dL_law_473 rfl ?_
        refine j_iconst (np := 475) ci_1 dL_law_474 rfl ?_
        refine j_iadd (np := 476) dL_law_475 rfl ?_
        refine j_sld (np := 477) dL_law_476 rfl (fun x50 => ?_)
        refine j_callVi (ci := 10) (np := 480) (bc := ((bc + n * 1) + 1)) (bs := ((bs + n * 80) + 80)) (cb := 0) (cs := 0) (dd := d - 1) (As := [.int x50]) (st := [.int b49.1]) caX10_writeFormula mlL_72 imX10_writeFormula seX10_writeFormula rfl rfl (by decide) (fun b hb => wX10_writeFormula (by omega) hb) (by omega) rfl rfl (Nat.le_of_ble_eq_true rfl) dL_law_477 rfl (fun b51 => ?_)
        refine j_icmp_eq (tgt := 1152) (np := 483) dL_law_480 rfl rfl ?_ ?_
        · refine j_iinc (q := 3) (np := 1155) (lv2 := [(3, .int (v3 + (6 : Int32))), (0, .ref v0), (1, .ref (E.2.1 + v1)), (2, .ref (E.2.1 + v2))]) rfl (congrArg _ ci_6) (by decide) dL_law_1152 rfl rfl ?_
          refine j_goto (tgt := 18) dL_law_1155 rfl ?_
          refine j_sub (lv2 := [(0, .ref v0), (1, .ref (E.2.1 + v1)), (2, .ref (E.2.1 + v2)), (3, .int (v3 + (6 : Int32)))]) [1, 2, 3, 0] rfl ?_
          refine j_bud (b1 := (bc + n * 1)) (b2 := (bs + n * 80)) (by omega) (by omega) ?_
          exact ih _ _
        · refine j_iconst (np := 484) ci_0 dL_law_483 rfl ?_
          exact j_zret rfl dL_law_484 (fun rr h => by rw [z0]; exact h)
      refine j_split (fun h14 => ?_) (fun h14 => ?_)
      · refine j_tableIn (off := 452) (tgt := 485) dL_law_33 (by rw [h14]; decide) (by rw [h14]; decide) (by rw [h14]; decide) rfl ?_
        refine j_aload_n (q := 1) (np := 486) rfl rfl dL_law_485 rfl ?_
        refine j_aload_n (q := 0) (np := 487) rfl rfl dL_law_486 rfl ?_
        refine j_iload_n (q := 3) (np := 488) rfl rfl dL_law_487 rfl ?_
        refine j_iconst (np := 489) ci_1 dL_law_488 rfl ?_
        refine j_iadd (np := 490) dL_law_489 rfl ?_
        refine j_sld (np := 491) dL_law_490 rfl (fun x52 => ?_)
        refine j_callVi (ci := 9) (np := 494) (bc := ((bc + n * 1) + 1)) (bs := ((bs + n * 80) + 80)) (cb := 0) (cs := 0) (dd := d - 1) (As := [.int x52]) (st := []) caX9_writeProof mlL_73 imX9_writeProof seX9_writeProof rfl rfl (by decide) (fun b hb => wX9_writeProof (by omega) hb) (by omega) rfl rfl (Nat.le_of_ble_eq_true rfl) dL_law_491 rfl (fun b53 => ?_)
        refine j_aload_n (q := 2) (np := 495) rfl rfl dL_law_494 rfl ?_
        refine j_aload_n (q := 0) (np := 496) rfl rfl dL_law_495 rfl ?_
        refine j_iload_n (q := 3) (np := 497) rfl rfl dL_law_496 rfl ?_
        refine j_iconst (np := 498) ci_1 dL_law_497 rfl ?_
        refine j_iadd (np := 499) dL_law_498 rfl ?_
        refine j_sld (np := 500) dL_law_499 rfl (fun x54 => ?_)
        refine j_bud (b1 := (bc + n * 1) + 1) (b2 := (bs + n * 80) + 60) (by omega) (by omega) ?_
        refine j_callVi (ci := 10) (np := 503) (bc := (bc + n * 1)) (bs := (bs + n * 80)) (cb := 1) (cs := 60) (dd := d - 1) (As := [.int x54]) (st := [.int b53.1]) caX10_writeProof mlL_76 imX10_writeProof seX10_writeProof rfl rfl (by decide) (fun b hb => wX10_writeProof (by omega) hb) (by omega) rfl rfl (Nat.le_of_ble_eq_true rfl) dL_law_500 rfl (fun b55 => ?_)
        refine j_icmp_eq (tgt := 1152) (np := 506) dL_law_503 rfl rfl ?_ ?_
        · refine j_iinc (q := 3) (np := 1155) (lv2 := [(3, .int (v3 + (6 : Int32))), (0, .ref v0), (1, .ref (E.2.1 + v1)), (2, .ref (E.2.1 + v2))]) rfl (congrArg _ ci_6) (by decide) dL_law_1152 rfl rfl ?_
          refine j_goto (tgt := 18) dL_law_1155 rfl ?_
          refine j_sub (lv2 := [(0, .ref v0), (1, .ref (E.2.1 + v1)), (2, .ref (E.2.1 + v2)), (3, .int (v3 + (6 : Int32)))]) [1, 2, 3, 0] rfl ?_
          exact ih _ _
        · refine j_iconst (np := 507) ci_0 dL_law_506 rfl ?_
          exact j_zret rfl dL_law_507 (fun rr h => by rw [z0]; exact h)
      refine j_split (fun h15 => ?_) (fun h15 => ?_)
      · refine j_tableIn (off := 475) (tgt := 508) dL_law_33 (by rw [h15]; decide) (by rw [h15]; decide) (by rw [h15]; decide) rfl ?_
        refine j_aload_n (q := 1) (np := 509) rfl rfl dL_law_508 rfl ?_
        refine j_callVi (ci := 9) (np := 512) (bc := ((bc + n * 1) + 1)) (bs := ((bs + n * 80) + 80)) (cb := 0) (cs := 0) (dd := d - 1) (As := []) (st := []) caX9_outputLength mlL_77 imX9_outputLength seX9_outputLength rfl rfl (by decide) (fun b hb => wX9_outputLength (by omega) hb) (by omega) rfl rfl (Nat.le_of_ble_eq_true rfl) dL_law_509 rfl (fun b56 => ?_)
        refine j_aload_n (q := 2) (np := 513) rfl rfl dL_law_512 rfl ?_
        refine j_callVi (ci := 10) (np := 516) (bc := ((bc + n * 1) + 1)) (bs := ((bs + n * 80) + 80)) (cb := 0) (cs := 0) (dd := d - 1) (As := []) (st := [.int b56.1]) caX10_outputLength mlL_80 imX10_outputLength seX10_outputLength rfl rfl (by decide) (fun b hb => wX10_outputLength (by omega) hb) (by omega) rfl rfl (Nat.le_of_ble_eq_true rfl) dL_law_513 rfl (fun b57 => ?_)
        refine j_icmp_eq (tgt := 1152) (np := 519) dL_law_516 rfl rfl ?_ ?_
        · refine j_iinc (q := 3) (np := 1155) (lv2 := [(3, .int (v3 + (6 : Int32))), (0, .ref v0), (1, .ref (E.2.1 + v1)), (2, .ref (E.2.1 + v2))]) rfl (congrArg _ ci_6) (by decide) dL_law_1152 rfl rfl ?_
          refine j_goto (tgt := 18) dL_law_1155 rfl ?_
          refine j_sub (lv2 := [(0, .ref v0), (1, .ref (E.2.1 + v1)), (2, .ref (E.2.1 + v2)), (3, .int (v3 + (6 : Int32)))]) [1, 2, 3, 0] rfl ?_
          refine j_bud (b1 := (bc + n * 1)) (b2 := (bs + n * 80)) (by omega) (by omega) ?_
          exact ih _ _
        · refine j_iconst (np := 520) ci_0 dL_law_519 rfl ?_
          exact j_zret rfl dL_law_520 (fun rr h => by rw [z0]; exact h)
      refine j_split (fun h16 => ?_) (fun h16 => ?_)
      · refine j_tableIn (off := 488) (tgt := 521) dL_law_33 (by rw [h16]; decide) (by rw [h16]; decide) (by rw [h16]; decide) rfl ?_
        refine j_aload_n (q := 1) (np := 522) rfl rfl dL_law_521 rfl ?_
        refine j_aload_n (q := 0) (np := 523) rfl rfl dL_law_522 rfl ?_
        refine j_iload_n (q := 3) (np := 524) rfl rfl dL_law_523 rfl ?_
        refine j_iconst (np := 525) ci_1 dL_law_524 rfl ?_
        refine j_iadd (np := 526) dL_law_525 rfl ?_
        refine j_sld (np := 527) dL_law_526 rfl (fun x58 => ?_)
        refine j_callVi (ci := 9) (np := 530) (bc := ((bc + n * 1) + 1)) (bs := ((bs + n * 80) + 80)) (cb := 0) (cs := 0) (dd := d - 1) (As := [.int x58]) (st := []) caX9_outputAt mlL_81 imX9_outputAt seX9_outputAt rfl rfl (by decide) (fun b hb => wX9_outputAt (by omega) hb) (by omega) rfl rfl (Nat.le_of_ble_eq_true rfl) dL_law_527 rfl (fun b59 => ?_)
        refine j_aload_n (q := 2) (np := 531) rfl rfl dL_law_530 rfl ?_
        refine j_aload_n (q := 0) (np := 532) rfl rfl dL_law_531 rfl ?_
        refine j_iload_n (q := 3) (np := 533) rfl rfl dL_law_532 rfl ?_
        refine j_iconst (np := 534) ci_1 dL_law_533 rfl ?_
        refine j_iadd (np := 535) dL_law_534 rfl ?_
        refine j_sld (np := 536) dL_law_535 rfl (fun x60 => ?_)
        refine j_callVi (ci := 10) (np := 539) (bc := ((bc + n * 1) + 1)) (bs := ((bs + n * 80) + 80)) (cb := 0) (cs := 0) (dd := d - 1) (As := [.int x60]) (st := [.int b59.1]) caX10_outputAt mlL_84 imX10_outputAt seX10_outputAt rfl rfl (by decide) (fun b hb => wX10_outputAt (by omega) hb) (by omega) rfl rfl (Nat.le_of_ble_eq_true rfl) dL_law_536 rfl (fun b61 => ?_)
        refine j_icmp_eq (tgt := 1152) (np := 542) dL_law_539 rfl rfl ?_ ?_
        · refine j_iinc (q := 3) (np := 1155) (lv2 := [(3, .int (v3 + (6 : Int32))), (0, .ref v0), (1, .ref (E.2.1 + v1)), (2, .ref (E.2.1 + v2))]) rfl (congrArg _ ci_6) (by decide) dL_law_1152 rfl rfl ?_
          refine j_goto (tgt := 18) dL_law_1155 rfl ?_
          refine j_sub (lv2 := [(0, .ref v0), (1, .ref (E.2.1 + v1)), (2, .ref (E.2.1 + v2)), (3, .int (v3 + (6 : Int32)))]) [1, 2, 3, 0] rfl ?_
          refine j_bud (b1 := (bc + n * 1)) (b2 := (bs + n * 80)) (by omega) (by omega) ?_
          exact ih _ _
        · refine j_iconst (np := 543) ci_0 dL_law_542 rfl ?_
          exact j_zret rfl dL_law_543 (fun rr h => by rw [z0]; exact h)
      refine j_split (fun h17 => ?_) (fun h17 => ?_)
      · refine j_tableIn (off := 511) (tgt := 544) dL_law_33 (by rw [h17]; decide) (by rw [h17]; decide) (by rw [h17]; decide) rfl ?_
        refine j_aload_n (q := 1) (np := 545) rfl rfl dL_law_544 rfl ?_
        refine j_aload_n (q := 0) (np := 546) rfl rfl dL_law_545 rfl ?_
        refine j_iload_n (q := 3) (np := 547) rfl rfl dL_law_546 rfl ?_
        refine j_iconst (np := 548) ci_1 dL_law_547 rfl ?_
        refine j_iadd (np := 549) dL_law_548 rfl ?_
        refine j_sld (np := 550) dL_law_549 rfl (fun x62 => ?_)
        refine j_aload_n (q := 0) (np := 551) rfl rfl dL_law_550 rfl ?_
        refine j_iload_n (q := 3) (np := 552) rfl rfl dL_law_551 rfl ?_
        refine j_iconst (np := 553) ci_2 dL_law_552 rfl ?_
        refine j_iadd (np := 554) dL_law_553 rfl ?_
        refine j_sld (np := 555) dL_law_554 rfl (fun x63 => ?_)
        refine j_callVi (ci := 9) (np := 558) (bc := ((bc + n * 1) + 1)) (bs := ((bs + n * 80) + 80)) (cb := 0) (cs := 0) (dd := d - 1) (As := [.int x62, .int x63]) (st := []) caX9_isInstance mlL_85 imX9_isInstance seX9_isInstance rfl rfl (by decide) (fun b hb => wX9_isInstance (by omega) hb) (by omega) rfl rfl (Nat.le_of_ble_eq_true rfl) dL_law_555 rfl (fun b64 => ?_)
        refine j_aload_n (q := 2) (np := 559) rfl rfl dL_law_558 rfl ?_
        refine j_aload_n (q := 0) (np := 560) rfl rfl dL_law_559 rfl ?_
        refine j_iload_n (q := 3) (np := 561) rfl rfl dL_law_560 rfl ?_
        refine j_iconst (np := 562) ci_1 dL_law_561 rfl ?_
        refine j_iadd (np := 563) dL_law_562 rfl ?_
        refine j_sld (np := 564) dL_law_563 rfl (fun x65 => ?_)
        refine j_aload_n (q := 0) (np := 565) rfl rfl dL_law_564 rfl ?_
        refine j_iload_n (q := 3) (np := 566) rfl rfl dL_law_565 rfl ?_
        refine j_iconst (np := 567) ci_2 dL_law_566 rfl ?_
        refine j_iadd (np := 568) dL_law_567 rfl ?_
        refine j_sld (np := 569) dL_law_568 rfl (fun x66 => ?_)
        refine j_callVi (ci := 10) (np := 572) (bc := ((bc + n * 1) + 1)) (bs := ((bs + n * 80) + 80)) (cb := 0) (cs := 0) (dd := d - 1) (As := [.int x65, .int x66]) (st := [.int b64.1]) caX10_isInstance mlL_88 imX10_isInstance seX10_isInstance rfl rfl (by decide) (fun b hb => wX10_isInstance (by omega) hb) (by omega) rfl rfl (Nat.le_of_ble_eq_true rfl) dL_law_569 rfl (fun b67 => ?_)
        refine j_icmp_eq (tgt := 1152) (np := 575) dL_law_572 rfl rfl ?_ ?_
        · refine j_iinc (q := 3) (np := 1155) (lv2 := [(3, .int (v3 + (6 : Int32))), (0, .ref v0), (1, .ref (E.2.1 + v1)), (2, .ref (E.2.1 + v2))]) rfl (congrArg _ ci_6) (by decide) dL_law_1152 rfl rfl ?_
          refine j_goto (tgt := 18) dL_law_1155 rfl ?_
          refine j_sub (lv2 := [(0, .ref v0), (1, .ref (E.2.1 + v1)), (2, .ref (E.2.1 + v2)), (3, .int (v3 + (6 : Int32)))]) [1, 2, 3, 0] rfl ?_
          refine j_bud (b1 := (bc + n * 1)) (b2 := (bs + n * 80)) (by omega) (by omega) ?_
          exact ih _ _
        · refine j_iconst (np := 576) ci_0 dL_law_575 rfl ?_
          exact j_zret rfl dL_law_576 (fun rr h => by rw [z0]; exact h)
      refine j_split (fun h18 => ?_) (fun h18 => ?_)
      · refine j_tableIn (off := 544) (tgt := 577) dL_law_33 (by rw [h18]; decide) (by rw [h18]; decide) (by rw [h18]; decide) rfl ?_
        refine j_aload_n (q := 1) (np := 578) rfl rfl dL_law_577 rfl ?_
        refine j_aload_n (q := 0) (np := 579) rfl rfl dL_law_578 rfl ?_
        refine j_iload_n (q := 3) (np := 580) rfl rfl dL_law_579 rfl ?_
        refine j_iconst (np := 581) ci_1 dL_law_580 rfl ?_
        refine j_iadd (np := 582) dL_law_581 rfl ?_
        refine j_sld (np := 583) dL_law_582 rfl (fun x68 => ?_)
        refine j_callVi (ci := 9) (np := 586) (bc := ((bc + n * 1) + 1)) (bs := ((bs + n * 80) + 80)) (cb := 0) (cs := 0) (dd := d - 1) (As := [.int x68]) (st := []) caX9_moreGeneral mlL_89 imX9_moreGeneral seX9_moreGeneral rfl rfl (by decide) (fun b hb => wX9_moreGeneral (by omega) hb) (by omega) rfl rfl (Nat.le_of_ble_eq_true rfl) dL_law_583 rfl (fun b69 => ?_)
        refine j_aload_n (q := 2) (np := 587) rfl rfl dL_law_586 rfl ?_
        refine j_aload_n (q := 0) (np := 588) rfl rfl dL_law_587 rfl ?_
        refine j_iload_n (q := 3) (np := 589) rfl rfl dL_law_588 rfl ?_
        refine j_iconst (np := 590) ci_1 dL_law_589 rfl ?_
        refine j_iadd (np := 591) dL_law_590 rfl ?_
        refine j_sld (np := 592) dL_law_591 rfl (fun x70 => ?_)
        refine j_callVi (ci := 10) (np := 595) (bc := ((bc + n * 1) + 1)) (bs := ((bs + n * 80) + 80)) (cb := 0) (cs := 0) (dd := d - 1) (As := [.int x70]) (st := [.int b69.1]) caX10_moreGeneral mlL_92 imX10_moreGeneral seX10_moreGeneral rfl rfl (by decide) (fun b hb => wX10_moreGeneral (by omega) hb) (by omega) rfl rfl (Nat.le_of_ble_eq_true rfl) dL_law_592 rfl (fun b71 => ?_)
        refine j_icmp_eq (tgt := 1152) (np := 598) dL_law_595 rfl rfl ?_ ?_
        · refine j_iinc (q := 3) (np := 1155) (lv2 := [(3, .int (v3 + (6 : Int32))), (0, .ref v0), (1, .ref (E.2.1 + v1)), (2, .ref (E.2.1 + v2))]) rfl (congrArg _ ci_6) (by decide) dL_law_1152 rfl rfl ?_
          refine j_goto (tgt := 18) dL_law_1155 rfl ?_
          refine j_sub (lv2 := [(0, .ref v0), (1, .ref (E.2.1 + v1)), (2, .ref (E.2.1 + v2)), (3, .int (v3 + (6 : Int32)))]) [1, 2, 3, 0] rfl ?_
          refine j_bud (b1 := (bc + n * 1)) (b2 := (bs + n * 80)) (by omega) (by omega) ?_
          exact ih _ _
        · refine j_iconst (np := 599) ci_0 dL_law_598 rfl ?_
          exact j_zret rfl dL_law_599 (fun rr h => by rw [z0]; exact h)
      refine j_split (fun h19 => ?_) (fun h19 => ?_)
      · refine j_tableIn (off := 567) (tgt := 600) dL_law_33 (by rw [h19]; decide) (by rw [h19]; decide) (by rw [h19]; decide) rfl ?_
        refine j_aload_n (q := 1) (np := 601) rfl rfl dL_law_600 rfl ?_
        refine j_aload_n (q := 0) (np := 602) rfl rfl dL_law_601 rfl ?_
        refine j_iload_n (q := 3) (np := 603) rfl rfl dL_law_602 rfl ?_
        refine j_iconst (np := 604) ci_1 dL_law_603 rfl ?_
        refine j_iadd (np := 605) dL_law_604 rfl ?_
        refine j_sld (np := 606) dL_law_605 rfl (fun x72 => ?_)
        refine j_aload_n (q := 0) (np := 607) rfl rfl dL_law_606 rfl ?_
        refine j_iload_n (q := 3) (np := 608) rfl rfl dL_law_607 rfl ?_
        refine j_iconst (np := 609) ci_2 dL_law_608 rfl ?_
        refine j_iadd (np := 610) dL_law_609 rfl ?_
        refine j_sld (np := 611) dL_law_610 rfl (fun x73 => ?_)
        refine j_callVi (ci := 9) (np := 614) (bc := ((bc + n * 1) + 1)) (bs := ((bs + n * 80) + 80)) (cb := 0) (cs := 0) (dd := d - 1) (As := [.int x72, .int x73]) (st := []) caX9_unify mlL_93 imX9_unify seX9_unify rfl rfl (by decide) (fun b hb => wX9_unify (by omega) hb) (by omega) rfl rfl (Nat.le_of_ble_eq_true rfl) dL_law_611 rfl (fun b74 => ?_)
        refine j_aload_n (q := 2) (np := 615) rfl rfl dL_law_614 rfl ?_
        refine j_aload_n (q := 0) (np := 616) rfl rfl dL_law_615 rfl ?_
        refine j_iload_n (q := 3) (np := 617) rfl rfl dL_law_616 rfl ?_
        refine j_iconst (np := 618) ci_1 dL_law_617 rfl ?_
        refine j_iadd (np := 619) dL_law_618 rfl ?_
        refine j_sld (np := 620) dL_law_619 rfl (fun x75 => ?_)
        refine j_aload_n (q := 0) (np := 621) rfl rfl dL_law_620 rfl ?_
        refine j_iload_n (q := 3) (np := 622) rfl rfl dL_law_621 rfl ?_
        refine j_iconst (np := 623) ci_2 dL_law_622 rfl ?_
        refine j_iadd (np := 624) dL_law_623 rfl ?_
        refine j_sld (np := 625) dL_law_624 rfl (fun x76 => ?_)
        refine j_callVi (ci := 10) (np := 628) (bc := ((bc + n * 1) + 1)) (bs := ((bs + n * 80) + 80)) (cb := 0) (cs := 0) (dd := d - 1) (As := [.int x75, .int x76]) (st := [.int b74.1]) caX10_unify mlL_96 imX10_unify seX10_unify rfl rfl (by decide) (fun b hb => wX10_unify (by omega) hb) (by omega) rfl rfl (Nat.le_of_ble_eq_true rfl) dL_law_625 rfl (fun b77 => ?_)
        refine j_icmp_eq (tgt := 1152) (np := 631) dL_law_628 rfl rfl ?_ ?_
        · refine j_iinc (q := 3) (np := 1155) (lv2 := [(3, .int (v3 + (6 : Int32))), (0, .ref v0), (1, .ref (E.2.1 + v1)), (2, .ref (E.2.1 + v2))]) rfl (congrArg _ ci_6) (by decide) dL_law_1152 rfl rfl ?_
          refine j_goto (tgt := 18) dL_law_1155 rfl ?_
          refine j_sub (lv2 := [(0, .ref v0), (1, .ref (E.2.1 + v1)), (2, .ref (E.2.1 + v2)), (3, .int (v3 + (6 : Int32)))]) [1, 2, 3, 0] rfl ?_
          refine j_bud (b1 := (bc + n * 1)) (b2 := (bs + n * 80)) (by omega) (by omega) ?_
          exact ih _ _
        · refine j_iconst (np := 632) ci_0 dL_law_631 rfl ?_
          exact j_zret rfl dL_law_632 (fun rr h => by rw [z0]; exact h)
      refine j_split (fun h20 => ?_) (fun h20 => ?_)
      · refine j_tableIn (off := 600) (tgt := 633) dL_law_33 (by rw [h20]; decide) (by rw [h20]; decide) (by rw [h20]; decide) rfl ?_
        refine j_aload_n (q := 1) (np := 634) rfl rfl dL_law_633 rfl ?_
        refine j_aload_n (q := 0) (np := 635) rfl rfl dL_law_634 rfl ?_
        refine j_iload_n (q := 3) (np := 636) rfl rfl dL_law_635 rfl ?_
        refine j_iconst (np := 637) ci_1 dL_law_636 rfl ?_
        refine j_iadd (np := 638) dL_law_637 rfl ?_
        refine j_sld (np := 639) dL_law_638 rfl (fun x78 => ?_)
        refine j_callVi (ci := 9) (np := 642) (bc := ((bc + n * 1) + 1)) (bs := ((bs + n * 80) + 80)) (cb := 0) (cs := 0) (dd := d - 1) (As := [.int x78]) (st := []) caX9_round mlL_97 imX9_round seX9_round rfl rfl (by decide) (fun b hb => wX9_round (by omega) hb) (by omega) rfl rfl (Nat.le_of_ble_eq_true rfl) dL_law_639 rfl (fun b79 => ?_)
        refine j_aload_n (q := 2) (np := 643) rfl rfl dL_law_642 rfl ?_
        refine j_aload_n (q := 0) (np := 644) rfl rfl dL_law_643 rfl ?_
        refine j_iload_n (q := 3) (np := 645) rfl rfl dL_law_644 rfl ?_
        refine j_iconst (np := 646) ci_1 dL_law_645 rfl ?_
        refine j_iadd (np := 647) dL_law_646 rfl ?_
        refine j_sld (np := 648) dL_law_647 rfl (fun x80 => ?_)
        refine j_callVi (ci := 10) (np := 651) (bc := ((bc + n * 1) + 1)) (bs := ((bs + n * 80) + 80)) (cb := 0) (cs := 0) (dd := d - 1) (As := [.int x80]) (st := [.int b79.1]) caX10_round mlL_100 imX10_round seX10_round rfl rfl (by decide) (fun b hb => wX10_round (by omega) hb) (by omega) rfl rfl (Nat.le_of_ble_eq_true rfl) dL_law_648 rfl (fun b81 => ?_)
        refine j_icmp_eq (tgt := 1152) (np := 654) dL_law_651 rfl rfl ?_ ?_
        · refine j_iinc (q := 3) (np := 1155) (lv2 := [(3, .int (v3 + (6 : Int32))), (0, .ref v0), (1, .ref (E.2.1 + v1)), (2, .ref (E.2.1 + v2))]) rfl (congrArg _ ci_6) (by decide) dL_law_1152 rfl rfl ?_
          refine j_goto (tgt := 18) dL_law_1155 rfl ?_
          refine j_sub (lv2 := [(0, .ref v0), (1, .ref (E.2.1 + v1)), (2, .ref (E.2.1 + v2)), (3, .int (v3 + (6 : Int32)))]) [1, 2, 3, 0] rfl ?_
          refine j_bud (b1 := (bc + n * 1)) (b2 := (bs + n * 80)) (by omega) (by omega) ?_
          exact ih _ _
        · refine j_iconst (np := 655) ci_0 dL_law_654 rfl ?_
          exact j_zret rfl dL_law_655 (fun rr h => by rw [z0]; exact h)
      refine j_split (fun h21 => ?_) (fun h21 => ?_)
      · refine j_tableIn (off := 623) (tgt := 656) dL_law_33 (by rw [h21]; decide) (by rw [h21]; decide) (by rw [h21]; decide) rfl ?_
        refine j_aload_n (q := 1) (np := 657) rfl rfl dL_law_656 rfl ?_
        refine j_aload_n (q := 0) (np := 658) rfl rfl dL_law_657 rfl ?_
        refine j_iload_n (q := 3) (np := 659) rfl rfl dL_law_658 rfl ?_
        refine j_iconst (np := 660) ci_1 dL_law_659 rfl ?_
        refine j_iadd (np := 661) dL_law_660 rfl ?_
        refine j_sld (np := 662) dL_law_661 rfl (fun x82 => ?_)
        refine j_aload_n (q := 0) (np := 663) rfl rfl dL_law_662 rfl ?_
        refine j_iload_n (q := 3) (np := 664) rfl rfl dL_law_663 rfl ?_
        refine j_iconst (np := 665) ci_2 dL_law_664 rfl ?_
        refine j_iadd (np := 666) dL_law_665 rfl ?_
        refine j_sld (np := 667) dL_law_666 rfl (fun x83 => ?_)
        refine j_callVi (ci := 9) (np := 670) (bc := ((bc + n * 1) + 1)) (bs := ((bs + n * 80) + 80)) (cb := 0) (cs := 0) (dd := d - 1) (As := [.int x82, .int x83]) (st := []) caX9_shortest mlL_101 imX9_shortest seX9_shortest rfl rfl (by decide) (fun b hb => wX9_shortest (by omega) hb) (by omega) rfl rfl (Nat.le_of_ble_eq_true rfl) dL_law_667 rfl (fun b84 => ?_)
        refine j_aload_n (q := 2) (np := 671) rfl rfl dL_law_670 rfl ?_
        refine j_aload_n (q := 0) (np := 672) rfl rfl dL_law_671 rfl ?_
        refine j_iload_n (q := 3) (np := 673) rfl rfl dL_law_672 rfl ?_
        refine j_iconst (np := 674) ci_1 dL_law_673 rfl ?_
        refine j_iadd (np := 675) dL_law_674 rfl ?_
        refine j_sld (np := 676) dL_law_675 rfl (fun x85 => ?_)
        refine j_aload_n (q := 0) (np := 677) rfl rfl dL_law_676 rfl ?_
        refine j_iload_n (q := 3) (np := 678) rfl rfl dL_law_677 rfl ?_
        refine j_iconst (np := 679) ci_2 dL_law_678 rfl ?_
        refine j_iadd (np := 680) dL_law_679 rfl ?_
        refine j_sld (np := 681) dL_law_680 rfl (fun x86 => ?_)
        refine j_callVi (ci := 10) (np := 684) (bc := ((bc + n * 1) + 1)) (bs := ((bs + n * 80) + 80)) (cb := 0) (cs := 0) (dd := d - 1) (As := [.int x85, .int x86]) (st := [.int b84.1]) caX10_shortest mlL_104 imX10_shortest seX10_shortest rfl rfl (by decide) (fun b hb => wX10_shortest (by omega) hb) (by omega) rfl rfl (Nat.le_of_ble_eq_true rfl) dL_law_681 rfl (fun b87 => ?_)
        refine j_icmp_eq (tgt := 1152) (np := 687) dL_law_684 rfl rfl ?_ ?_
        · refine j_iinc (q := 3) (np := 1155) (lv2 := [(3, .int (v3 + (6 : Int32))), (0, .ref v0), (1, .ref (E.2.1 + v1)), (2, .ref (E.2.1 + v2))]) rfl (congrArg _ ci_6) (by decide) dL_law_1152 rfl rfl ?_
          refine j_goto (tgt := 18) dL_law_1155 rfl ?_
          refine j_sub (lv2 := [(0, .ref v0), (1, .ref (E.2.1 + v1)), (2, .ref (E.2.1 + v2)), (3, .int (v3 + (6 : Int32)))]) [1, 2, 3, 0] rfl ?_
          refine j_bud (b1 := (bc + n * 1)) (b2 := (bs + n * 80)) (by omega) (by omega) ?_
          exact ih _ _
        · refine j_iconst (np := 688) ci_0 dL_law_687 rfl ?_
          exact j_zret rfl dL_law_688 (fun rr h => by rw [z0]; exact h)
      refine j_split (fun h22 => ?_) (fun h22 => ?_)
      · refine j_tableIn (off := 656) (tgt := 689) dL_law_33 (by rw [h22]; decide) (by rw [h22]; decide) (by rw [h22]; decide) rfl ?_
        refine j_aload_n (q := 1) (np := 690) rfl rfl dL_law_689 rfl ?_
        refine j_aload_n (q := 0) (np := 691) rfl rfl dL_law_690 rfl ?_
        refine j_iload_n (q := 3) (np := 692) rfl rfl dL_law_691 rfl ?_
        refine j_iconst (np := 693) ci_1 dL_law_692 rfl ?_
        refine j_iadd (np := 694) dL_law_693 rfl ?_
        refine j_sld (np := 695) dL_law_694 rfl (fun x88 => ?_)
        refine j_aload_n (q := 0) (np := 696) rfl rfl dL_law_695 rfl ?_
        refine j_iload_n (q := 3) (np := 697) rfl rfl dL_law_696 rfl ?_
        refine j_iconst (np := 698) ci_2 dL_law_697 rfl ?_
        refine j_iadd (np := 699) dL_law_698 rfl ?_
        refine j_sld (np := 700) dL_law_699 rfl (fun x89 => ?_)
        refine j_aload_n (q := 0) (np := 701) rfl rfl dL_law_700 rfl ?_
        refine j_iload_n (q := 3) (np := 702) rfl rfl dL_law_701 rfl ?_
        refine j_iconst (np := 703) ci_3 dL_law_702 rfl ?_
        refine j_iadd (np := 704) dL_law_703 rfl ?_
        refine j_sld (np := 705) dL_law_704 rfl (fun x90 => ?_)
        refine j_callVi (ci := 9) (np := 708) (bc := ((bc + n * 1) + 1)) (bs := ((bs + n * 80) + 80)) (cb := 0) (cs := 0) (dd := d - 1) (As := [.int x88, .int x89, .int x90]) (st := []) caX9_setEntry mlL_105 imX9_setEntry seX9_setEntry rfl rfl (by decide) (fun b hb => wX9_setEntry (by omega) hb) (by omega) rfl rfl (Nat.le_of_ble_eq_true rfl) dL_law_705 rfl (fun b91 => ?_)
        refine j_aload_n (q := 2) (np := 709) rfl rfl dL_law_708 rfl ?_
        refine j_aload_n (q := 0) (np := 710) rfl rfl dL_law_709 rfl ?_
        refine j_iload_n (q := 3) (np := 711) rfl rfl dL_law_710 rfl ?_
        refine j_iconst (np := 712) ci_1 dL_law_711 rfl ?_
        refine j_iadd (np := 713) dL_law_712 rfl ?_
        refine j_sld (np := 714) dL_law_713 rfl (fun x92 => ?_)
        refine j_aload_n (q := 0) (np := 715) rfl rfl dL_law_714 rfl ?_
        refine j_iload_n (q := 3) (np := 716) rfl rfl dL_law_715 rfl ?_
        refine j_iconst (np := 717) ci_2 dL_law_716 rfl ?_
        refine j_iadd (np := 718) dL_law_717 rfl ?_
        refine j_sld (np := 719) dL_law_718 rfl (fun x93 => ?_)
        refine j_aload_n (q := 0) (np := 720) rfl rfl dL_law_719 rfl ?_
        refine j_iload_n (q := 3) (np := 721) rfl rfl dL_law_720 rfl ?_
        refine j_iconst (np := 722) ci_3 dL_law_721 rfl ?_
        refine j_iadd (np := 723) dL_law_722 rfl ?_
        refine j_sld (np := 724) dL_law_723 rfl (fun x94 => ?_)
        refine j_callVi (ci := 10) (np := 727) (bc := ((bc + n * 1) + 1)) (bs := ((bs + n * 80) + 80)) (cb := 0) (cs := 0) (dd := d - 1) (As := [.int x92, .int x93, .int x94]) (st := [.int b91.1]) caX10_setEntry mlL_109 imX10_setEntry seX10_setEntry rfl rfl (by decide) (fun b hb => wX10_setEntry (by omega) hb) (by omega) rfl rfl (Nat.le_of_ble_eq_true rfl) dL_law_724 rfl (fun b95 => ?_)
        refine j_icmp_eq (tgt := 1152) (np := 730) dL_law_727 rfl rfl ?_ ?_
        · refine j_iinc (q := 3) (np := 1155) (lv2 := [(3, .int (v3 + (6 : Int32))), (0, .ref v0), (1, .ref (E.2.1 + v1)), (2, .ref (E.2.1 + v2))]) rfl (congrArg _ ci_6) (by decide) dL_law_1152 rfl rfl ?_
          refine j_goto (tgt := 18) dL_law_1155 rfl ?_
          refine j_sub (lv2 := [(0, .ref v0), (1, .ref (E.2.1 + v1)), (2, .ref (E.2.1 + v2)), (3, .int (v3 + (6 : Int32)))]) [1, 2, 3, 0] rfl ?_
          refine j_bud (b1 := (bc + n * 1)) (b2 := (bs + n * 80)) (by omega) (by omega) ?_
          exact ih _ _
        · refine j_iconst (np := 731) ci_0 dL_law_730 rfl ?_
          exact j_zret rfl dL_law_731 (fun rr h => by rw [z0]; exact h)
      refine j_split (fun h23 => ?_) (fun h23 => ?_)
      · refine j_tableIn (off := 699) (tgt := 732) dL_law_33 (by rw [h23]; decide) (by rw [h23]; decide) (by rw [h23]; decide) rfl ?_
        refine j_aload_n (q := 1) (np := 733) rfl rfl dL_law_732 rfl ?_
        refine j_aload_n (q := 0) (np := 734) rfl rfl dL_law_733 rfl ?_
        refine j_iload_n (q := 3) (np := 735) rfl rfl dL_law_734 rfl ?_
        refine j_iconst (np := 736) ci_1 dL_law_735 rfl ?_
        refine j_iadd (np := 737) dL_law_736 rfl ?_
        refine j_sld (np := 738) dL_law_737 rfl (fun x96 => ?_)
        refine j_callVi (ci := 9) (np := 741) (bc := ((bc + n * 1) + 1)) (bs := ((bs + n * 80) + 80)) (cb := 0) (cs := 0) (dd := d - 1) (As := [.int x96]) (st := []) caX9_setDesignated mlL_110 imX9_setDesignated seX9_setDesignated rfl rfl (by decide) (fun b hb => wX9_setDesignated (by omega) hb) (by omega) rfl rfl (Nat.le_of_ble_eq_true rfl) dL_law_738 rfl (fun b97 => ?_)
        refine j_aload_n (q := 2) (np := 742) rfl rfl dL_law_741 rfl ?_
        refine j_aload_n (q := 0) (np := 743) rfl rfl dL_law_742 rfl ?_
        refine j_iload_n (q := 3) (np := 744) rfl rfl dL_law_743 rfl ?_
        refine j_iconst (np := 745) ci_1 dL_law_744 rfl ?_
        refine j_iadd (np := 746) dL_law_745 rfl ?_
        refine j_sld (np := 747) dL_law_746 rfl (fun x98 => ?_)
        refine j_callVi (ci := 10) (np := 750) (bc := ((bc + n * 1) + 1)) (bs := ((bs + n * 80) + 80)) (cb := 0) (cs := 0) (dd := d - 1) (As := [.int x98]) (st := [.int b97.1]) caX10_setDesignated mlL_113 imX10_setDesignated seX10_setDesignated rfl rfl (by decide) (fun b hb => wX10_setDesignated (by omega) hb) (by omega) rfl rfl (Nat.le_of_ble_eq_true rfl) dL_law_747 rfl (fun b99 => ?_)
        refine j_icmp_eq (tgt := 1152) (np := 753) dL_law_750 rfl rfl ?_ ?_
        · refine j_iinc (q := 3) (np := 1155) (lv2 := [(3, .int (v3 + (6 : Int32))), (0, .ref v0), (1, .ref (E.2.1 + v1)), (2, .ref (E.2.1 + v2))]) rfl (congrArg _ ci_6) (by decide) dL_law_1152 rfl rfl ?_
          refine j_goto (tgt := 18) dL_law_1155 rfl ?_
          refine j_sub (lv2 := [(0, .ref v0), (1, .ref (E.2.1 + v1)), (2, .ref (E.2.1 + v2)), (3, .int (v3 + (6 : Int32)))]) [1, 2, 3, 0] rfl ?_
          refine j_bud (b1 := (bc + n * 1)) (b2 := (bs + n * 80)) (by omega) (by omega) ?_
          exact ih _ _
        · refine j_iconst (np := 754) ci_0 dL_law_753 rfl ?_
          exact j_zret rfl dL_law_754 (fun rr h => by rw [z0]; exact h)
      refine j_split (fun h24 => ?_) (fun h24 => ?_)
      · refine j_tableIn (off := 722) (tgt := 755) dL_law_33 (by rw [h24]; decide) (by rw [h24]; decide) (by rw [h24]; decide) rfl ?_
        refine j_aload_n (q := 1) (np := 756) rfl rfl dL_law_755 rfl ?_
        refine j_callVi (ci := 9) (np := 759) (bc := ((bc + n * 1) + 1)) (bs := ((bs + n * 80) + 80)) (cb := 0) (cs := 0) (dd := d - 1) (As := []) (st := []) caX9_isNormal mlL_114 imX9_isNormal seX9_isNormal rfl rfl (by decide) (fun b hb => wX9_isNormal (by omega) hb) (by omega) rfl rfl (Nat.le_of_ble_eq_true rfl) dL_law_756 rfl (fun b100 => ?_)
        refine j_aload_n (q := 2) (np := 760) rfl rfl dL_law_759 rfl ?_
        refine j_callVi (ci := 10) (np := 763) (bc := ((bc + n * 1) + 1)) (bs := ((bs + n * 80) + 80)) (cb := 0) (cs := 0) (dd := d - 1) (As := []) (st := [.int b100.1]) caX10_isNormal mlL_117 imX10_isNormal seX10_isNormal rfl rfl (by decide) (fun b hb => wX10_isNormal (by omega) hb) (by omega) rfl rfl (Nat.le_of_ble_eq_true rfl) dL_law_760 rfl (fun b101 => ?_)
        refine j_icmp_eq (tgt := 1152) (np := 766) dL_law_763 rfl rfl ?_ ?_
        · refine j_iinc (q := 3) (np := 1155) (lv2 := [(3, .int (v3 + (6 : Int32))), (0, .ref v0), (1, .ref (E.2.1 + v1)), (2, .ref (E.2.1 + v2))]) rfl (congrArg _ ci_6) (by decide) dL_law_1152 rfl rfl ?_
          refine j_goto (tgt := 18) dL_law_1155 rfl ?_
          refine j_sub (lv2 := [(0, .ref v0), (1, .ref (E.2.1 + v1)), (2, .ref (E.2.1 + v2)), (3, .int (v3 + (6 : Int32)))]) [1, 2, 3, 0] rfl ?_
          refine j_bud (b1 := (bc + n * 1)) (b2 := (bs + n * 80)) (by omega) (by omega) ?_
          exact ih _ _
        · refine j_iconst (np := 767) ci_0 dL_law_766 rfl ?_
          exact j_zret rfl dL_law_767 (fun rr h => by rw [z0]; exact h)
      refine j_split (fun h25 => ?_) (fun h25 => ?_)
      · refine j_tableIn (off := 735) (tgt := 768) dL_law_33 (by rw [h25]; decide) (by rw [h25]; decide) (by rw [h25]; decide) rfl ?_
        refine j_aload_n (q := 1) (np := 769) rfl rfl dL_law_768 rfl ?_
        refine j_aload_n (q := 0) (np := 770) rfl rfl dL_law_769 rfl ?_
        refine j_iload_n (q := 3) (np := 771) rfl rfl dL_law_770 rfl ?_
        refine j_iconst (np := 772) ci_1 dL_law_771 rfl ?_
        refine j_iadd (np := 773) dL_law_772 rfl ?_
        refine j_sld (np := 774) dL_law_773 rfl (fun x102 => ?_)
        refine j_callVi (ci := 9) (np := 777) (bc := ((bc + n * 1) + 1)) (bs := ((bs + n * 80) + 80)) (cb := 0) (cs := 0) (dd := d - 1) (As := [.int x102]) (st := []) caX9_isValid mlL_118 imX9_isValid seX9_isValid rfl rfl (by decide) (fun b hb => wX9_isValid (by omega) hb) (by omega) rfl rfl (Nat.le_of_ble_eq_true rfl) dL_law_774 rfl (fun b103 => ?_)
        refine j_aload_n (q := 2) (np := 778) rfl rfl dL_law_777 rfl ?_
        refine j_aload_n (q := 0) (np := 779) rfl rfl dL_law_778 rfl ?_
        refine j_iload_n (q := 3) (np := 780) rfl rfl dL_law_779 rfl ?_
        refine j_iconst (np := 781) ci_1 dL_law_780 rfl ?_
        refine j_iadd (np := 782) dL_law_781 rfl ?_
        refine j_sld (np := 783) dL_law_782 rfl (fun x104 => ?_)
        refine j_callVi (ci := 10) (np := 786) (bc := ((bc + n * 1) + 1)) (bs := ((bs + n * 80) + 80)) (cb := 0) (cs := 0) (dd := d - 1) (As := [.int x104]) (st := [.int b103.1]) caX10_isValid mlL_121 imX10_isValid seX10_isValid rfl rfl (by decide) (fun b hb => wX10_isValid (by omega) hb) (by omega) rfl rfl (Nat.le_of_ble_eq_true rfl) dL_law_783 rfl (fun b105 => ?_)
        refine j_icmp_eq (tgt := 1152) (np := 789) dL_law_786 rfl rfl ?_ ?_
        · refine j_iinc (q := 3) (np := 1155) (lv2 := [(3, .int (v3 + (6 : Int32))), (0, .ref v0), (1, .ref (E.2.1 + v1)), (2, .ref (E.2.1 + v2))]) rfl (congrArg _ ci_6) (by decide) dL_law_1152 rfl rfl ?_
          refine j_goto (tgt := 18) dL_law_1155 rfl ?_
          refine j_sub (lv2 := [(0, .ref v0), (1, .ref (E.2.1 + v1)), (2, .ref (E.2.1 + v2)), (3, .int (v3 + (6 : Int32)))]) [1, 2, 3, 0] rfl ?_
          refine j_bud (b1 := (bc + n * 1)) (b2 := (bs + n * 80)) (by omega) (by omega) ?_
          exact ih _ _
        · refine j_iconst (np := 790) ci_0 dL_law_789 rfl ?_
          exact j_zret rfl dL_law_790 (fun rr h => by rw [z0]; exact h)
      refine j_split (fun h26 => ?_) (fun h26 => ?_)
      · refine j_tableIn (off := 758) (tgt := 791) dL_law_33 (by rw [h26]; decide) (by rw [h26]; decide) (by rw [h26]; decide) rfl ?_
        refine j_aload_n (q := 1) (np := 792) rfl rfl dL_law_791 rfl ?_
        refine j_aload_n (q := 0) (np := 793) rfl rfl dL_law_792 rfl ?_
        refine j_iload_n (q := 3) (np := 794) rfl rfl dL_law_793 rfl ?_
        refine j_iconst (np := 795) ci_1 dL_law_794 rfl ?_
        refine j_iadd (np := 796) dL_law_795 rfl ?_
        refine j_sld (np := 797) dL_law_796 rfl (fun x106 => ?_)
        refine j_aload_n (q := 0) (np := 798) rfl rfl dL_law_797 rfl ?_
        refine j_iload_n (q := 3) (np := 799) rfl rfl dL_law_798 rfl ?_
        refine j_iconst (np := 800) ci_2 dL_law_799 rfl ?_
        refine j_iadd (np := 801) dL_law_800 rfl ?_
        refine j_sld (np := 802) dL_law_801 rfl (fun x107 => ?_)
        refine j_callVi (ci := 9) (np := 805) (bc := ((bc + n * 1) + 1)) (bs := ((bs + n * 80) + 80)) (cb := 0) (cs := 0) (dd := d - 1) (As := [.int x106, .int x107]) (st := []) caX9_refutation mlL_122 imX9_refutation seX9_refutation rfl rfl (by decide) (fun b hb => wX9_refutation (by omega) hb) (by omega) rfl rfl (Nat.le_of_ble_eq_true rfl) dL_law_802 rfl (fun b108 => ?_)
        refine j_aload_n (q := 2) (np := 806) rfl rfl dL_law_805 rfl ?_
        refine j_aload_n (q := 0) (np := 807) rfl rfl dL_law_806 rfl ?_
        refine j_iload_n (q := 3) (np := 808) rfl rfl dL_law_807 rfl ?_
        refine j_iconst (np := 809) ci_1 dL_law_808 rfl ?_
        refine j_iadd (np := 810) dL_law_809 rfl ?_
        refine j_sld (np := 811) dL_law_810 rfl (fun x109 => ?_)
        refine j_aload_n (q := 0) (np := 812) rfl rfl dL_law_811 rfl ?_
        refine j_iload_n (q := 3) (np := 813) rfl rfl dL_law_812 rfl ?_
        refine j_iconst (np := 814) ci_2 dL_law_813 rfl ?_
        refine j_iadd (np := 815) dL_law_814 rfl ?_
        refine j_sld (np := 816) dL_law_815 rfl (fun x110 => ?_)
        refine j_callVi (ci := 10) (np := 819) (bc := ((bc + n * 1) + 1)) (bs := ((bs + n * 80) + 80)) (cb := 0) (cs := 0) (dd := d - 1) (As := [.int x109, .int x110]) (st := [.int b108.1]) caX10_refutation mlL_125 imX10_refutation seX10_refutation rfl rfl (by decide) (fun b hb => wX10_refutation (by omega) hb) (by omega) rfl rfl (Nat.le_of_ble_eq_true rfl) dL_law_816 rfl (fun b111 => ?_)
        refine j_icmp_eq (tgt := 1152) (np := 822) dL_law_819 rfl rfl ?_ ?_
        · refine j_iinc (q := 3) (np := 1155) (lv2 := [(3, .int (v3 + (6 : Int32))), (0, .ref v0), (1, .ref (E.2.1 + v1)), (2, .ref (E.2.1 + v2))]) rfl (congrArg _ ci_6) (by decide) dL_law_1152 rfl rfl ?_
          refine j_goto (tgt := 18) dL_law_1155 rfl ?_
          refine j_sub (lv2 := [(0, .ref v0), (1, .ref (E.2.1 + v1)), (2, .ref (E.2.1 + v2)), (3, .int (v3 + (6 : Int32)))]) [1, 2, 3, 0] rfl ?_
          refine j_bud (b1 := (bc + n * 1)) (b2 := (bs + n * 80)) (by omega) (by omega) ?_
          exact ih _ _
        · refine j_iconst (np := 823) ci_0 dL_law_822 rfl ?_
          exact j_zret rfl dL_law_823 (fun rr h => by rw [z0]; exact h)
      refine j_split (fun h27 => ?_) (fun h27 => ?_)
      · refine j_tableIn (off := 791) (tgt := 824) dL_law_33 (by rw [h27]; decide) (by rw [h27]; decide) (by rw [h27]; decide) rfl ?_
        refine j_aload_n (q := 1) (np := 825) rfl rfl dL_law_824 rfl ?_
        refine j_aload_n (q := 0) (np := 826) rfl rfl dL_law_825 rfl ?_
        refine j_iload_n (q := 3) (np := 827) rfl rfl dL_law_826 rfl ?_
        refine j_iconst (np := 828) ci_1 dL_law_827 rfl ?_
        refine j_iadd (np := 829) dL_law_828 rfl ?_
        refine j_sld (np := 830) dL_law_829 rfl (fun x112 => ?_)
        refine j_aload_n (q := 0) (np := 831) rfl rfl dL_law_830 rfl ?_
        refine j_iload_n (q := 3) (np := 832) rfl rfl dL_law_831 rfl ?_
        refine j_iconst (np := 833) ci_2 dL_law_832 rfl ?_
        refine j_iadd (np := 834) dL_law_833 rfl ?_
        refine j_sld (np := 835) dL_law_834 rfl (fun x113 => ?_)
        refine j_callVi (ci := 9) (np := 838) (bc := ((bc + n * 1) + 1)) (bs := ((bs + n * 80) + 80)) (cb := 0) (cs := 0) (dd := d - 1) (As := [.int x112, .int x113]) (st := []) caX9_countValuations mlL_126 imX9_countValuations seX9_countValuations rfl rfl (by decide) (fun b hb => wX9_countValuations (by omega) hb) (by omega) rfl rfl (Nat.le_of_ble_eq_true rfl) dL_law_835 rfl (fun b114 => ?_)
        refine j_aload_n (q := 2) (np := 839) rfl rfl dL_law_838 rfl ?_
        refine j_aload_n (q := 0) (np := 840) rfl rfl dL_law_839 rfl ?_
        refine j_iload_n (q := 3) (np := 841) rfl rfl dL_law_840 rfl ?_
        refine j_iconst (np := 842) ci_1 dL_law_841 rfl ?_
        refine j_iadd (np := 843) dL_law_842 rfl ?_
        refine j_sld (np := 844) dL_law_843 rfl (fun x115 => ?_)
        refine j_aload_n (q := 0) (np := 845) rfl rfl dL_law_844 rfl ?_
        refine j_iload_n (q := 3) (np := 846) rfl rfl dL_law_845 rfl ?_
        refine j_iconst (np := 847) ci_2 dL_law_846 rfl ?_
        refine j_iadd (np := 848) dL_law_847 rfl ?_
        refine j_sld (np := 849) dL_law_848 rfl (fun x116 => ?_)
        refine j_callVi (ci := 10) (np := 852) (bc := ((bc + n * 1) + 1)) (bs := ((bs + n * 80) + 80)) (cb := 0) (cs := 0) (dd := d - 1) (As := [.int x115, .int x116]) (st := [.int b114.1]) caX10_countValuations mlL_129 imX10_countValuations seX10_countValuations rfl rfl (by decide) (fun b hb => wX10_countValuations (by omega) hb) (by omega) rfl rfl (Nat.le_of_ble_eq_true rfl) dL_law_849 rfl (fun b117 => ?_)
        refine j_icmp_eq (tgt := 1152) (np := 855) dL_law_852 rfl rfl ?_ ?_
        · refine j_iinc (q := 3) (np := 1155) (lv2 := [(3, .int (v3 + (6 : Int32))), (0, .ref v0), (1, .ref (E.2.1 + v1)), (2, .ref (E.2.1 + v2))]) rfl (congrArg _ ci_6) (by decide) dL_law_1152 rfl rfl ?_
          refine j_goto (tgt := 18) dL_law_1155 rfl ?_
          refine j_sub (lv2 := [(0, .ref v0), (1, .ref (E.2.1 + v1)), (2, .ref (E.2.1 + v2)), (3, .int (v3 + (6 : Int32)))]) [1, 2, 3, 0] rfl ?_
          refine j_bud (b1 := (bc + n * 1)) (b2 := (bs + n * 80)) (by omega) (by omega) ?_
          exact ih _ _
        · refine j_iconst (np := 856) ci_0 dL_law_855 rfl ?_
          exact j_zret rfl dL_law_856 (fun rr h => by rw [z0]; exact h)
      refine j_split (fun h28 => ?_) (fun h28 => ?_)
      · refine j_tableIn (off := 824) (tgt := 857) dL_law_33 (by rw [h28]; decide) (by rw [h28]; decide) (by rw [h28]; decide) rfl ?_
        refine j_aload_n (q := 1) (np := 858) rfl rfl dL_law_857 rfl ?_
        refine j_callVi (ci := 9) (np := 861) (bc := ((bc + n * 1) + 1)) (bs := ((bs + n * 80) + 80)) (cb := 0) (cs := 0) (dd := d - 1) (As := []) (st := []) caX9_addType mlL_130 imX9_addType seX9_addType rfl rfl (by decide) (fun b hb => wX9_addType (by omega) hb) (by omega) rfl rfl (Nat.le_of_ble_eq_true rfl) dL_law_858 rfl (fun b118 => ?_)
        refine j_aload_n (q := 2) (np := 862) rfl rfl dL_law_861 rfl ?_
        refine j_callVi (ci := 10) (np := 865) (bc := ((bc + n * 1) + 1)) (bs := ((bs + n * 80) + 80)) (cb := 0) (cs := 0) (dd := d - 1) (As := []) (st := [.int b118.1]) caX10_addType mlL_133 imX10_addType seX10_addType rfl rfl (by decide) (fun b hb => wX10_addType (by omega) hb) (by omega) rfl rfl (Nat.le_of_ble_eq_true rfl) dL_law_862 rfl (fun b119 => ?_)
        refine j_icmp_eq (tgt := 1152) (np := 868) dL_law_865 rfl rfl ?_ ?_
        · refine j_iinc (q := 3) (np := 1155) (lv2 := [(3, .int (v3 + (6 : Int32))), (0, .ref v0), (1, .ref (E.2.1 + v1)), (2, .ref (E.2.1 + v2))]) rfl (congrArg _ ci_6) (by decide) dL_law_1152 rfl rfl ?_
          refine j_goto (tgt := 18) dL_law_1155 rfl ?_
          refine j_sub (lv2 := [(0, .ref v0), (1, .ref (E.2.1 + v1)), (2, .ref (E.2.1 + v2)), (3, .int (v3 + (6 : Int32)))]) [1, 2, 3, 0] rfl ?_
          refine j_bud (b1 := (bc + n * 1)) (b2 := (bs + n * 80)) (by omega) (by omega) ?_
          exact ih _ _
        · refine j_iconst (np := 869) ci_0 dL_law_868 rfl ?_
          exact j_zret rfl dL_law_869 (fun rr h => by rw [z0]; exact h)
      refine j_split (fun h29 => ?_) (fun h29 => ?_)
      · refine j_tableIn (off := 837) (tgt := 870) dL_law_33 (by rw [h29]; decide) (by rw [h29]; decide) (by rw [h29]; decide) rfl ?_
        refine j_aload_n (q := 1) (np := 871) rfl rfl dL_law_870 rfl ?_
        refine j_aload_n (q := 0) (np := 872) rfl rfl dL_law_871 rfl ?_
        refine j_iload_n (q := 3) (np := 873) rfl rfl dL_law_872 rfl ?_
        refine j_iconst (np := 874) ci_1 dL_law_873 rfl ?_
        refine j_iadd (np := 875) dL_law_874 rfl ?_
        refine j_sld (np := 876) dL_law_875 rfl (fun x120 => ?_)
        refine j_callVi (ci := 9) (np := 879) (bc := ((bc + n * 1) + 1)) (bs := ((bs + n * 80) + 80)) (cb := 0) (cs := 0) (dd := d - 1) (As := [.int x120]) (st := []) caX9_reduceTerm mlL_134 imX9_reduceTerm seX9_reduceTerm rfl rfl (by decide) (fun b hb => wX9_reduceTerm (by omega) hb) (by omega) rfl rfl (Nat.le_of_ble_eq_true rfl) dL_law_876 rfl (fun b121 => ?_)
        refine j_aload_n (q := 2) (np := 880) rfl rfl dL_law_879 rfl ?_
        refine j_aload_n (q := 0) (np := 881) rfl rfl dL_law_880 rfl ?_
        refine j_iload_n (q := 3) (np := 882) rfl rfl dL_law_881 rfl ?_
        refine j_iconst (np := 883) ci_1 dL_law_882 rfl ?_
        refine j_iadd (np := 884) dL_law_883 rfl ?_
        refine j_sld (np := 885) dL_law_884 rfl (fun x122 => ?_)
        refine j_callVi (ci := 10) (np := 888) (bc := ((bc + n * 1) + 1)) (bs := ((bs + n * 80) + 80)) (cb := 0) (cs := 0) (dd := d - 1) (As := [.int x122]) (st := [.int b121.1]) caX10_reduceTerm mlL_137 imX10_reduceTerm seX10_reduceTerm rfl rfl (by decide) (fun b hb => wX10_reduceTerm (by omega) hb) (by omega) rfl rfl (Nat.le_of_ble_eq_true rfl) dL_law_885 rfl (fun b123 => ?_)
        refine j_icmp_eq (tgt := 1152) (np := 891) dL_law_888 rfl rfl ?_ ?_
        · refine j_iinc (q := 3) (np := 1155) (lv2 := [(3, .int (v3 + (6 : Int32))), (0, .ref v0), (1, .ref (E.2.1 + v1)), (2, .ref (E.2.1 + v2))]) rfl (congrArg _ ci_6) (by decide) dL_law_1152 rfl rfl ?_
          refine j_goto (tgt := 18) dL_law_1155 rfl ?_
          refine j_sub (lv2 := [(0, .ref v0), (1, .ref (E.2.1 + v1)), (2, .ref (E.2.1 + v2)), (3, .int (v3 + (6 : Int32)))]) [1, 2, 3, 0] rfl ?_
          refine j_bud (b1 := (bc + n * 1)) (b2 := (bs + n * 80)) (by omega) (by omega) ?_
          exact ih _ _
        · refine j_iconst (np := 892) ci_0 dL_law_891 rfl ?_
          exact j_zret rfl dL_law_892 (fun rr h => by rw [z0]; exact h)
      refine j_split (fun h30 => ?_) (fun h30 => ?_)
      · refine j_tableIn (off := 860) (tgt := 893) dL_law_33 (by rw [h30]; decide) (by rw [h30]; decide) (by rw [h30]; decide) rfl ?_
        refine j_aload_n (q := 1) (np := 894) rfl rfl dL_law_893 rfl ?_
        refine j_aload_n (q := 0) (np := 895) rfl rfl dL_law_894 rfl ?_
        refine j_iload_n (q := 3) (np := 896) rfl rfl dL_law_895 rfl ?_
        refine j_iconst (np := 897) ci_1 dL_law_896 rfl ?_
        refine j_iadd (np := 898) dL_law_897 rfl ?_
        refine j_sld (np := 899) dL_law_898 rfl (fun x124 => ?_)
        refine j_aload_n (q := 0) (np := 900) rfl rfl dL_law_899 rfl ?_
        refine j_iload_n (q := 3) (np := 901) rfl rfl dL_law_900 rfl ?_
        refine j_iconst (np := 902) ci_2 dL_law_901 rfl ?_
        refine j_iadd (np := 903) dL_law_902 rfl ?_
        refine j_sld (np := 904) dL_law_903 rfl (fun x125 => ?_)
        refine j_aload_n (q := 0) (np := 905) rfl rfl dL_law_904 rfl ?_
        refine j_iload_n (q := 3) (np := 906) rfl rfl dL_law_905 rfl ?_
        refine j_iconst (np := 907) ci_3 dL_law_906 rfl ?_
        refine j_iadd (np := 908) dL_law_907 rfl ?_
        refine j_sld (np := 909) dL_law_908 rfl (fun x126 => ?_)
        refine j_callVi (ci := 9) (np := 912) (bc := ((bc + n * 1) + 1)) (bs := ((bs + n * 80) + 80)) (cb := 0) (cs := 0) (dd := d - 1) (As := [.int x124, .int x125, .int x126]) (st := []) caX9_allocate mlL_138 imX9_allocate seX9_allocate rfl rfl (by decide) (fun b hb => wX9_allocate (by omega) hb) (by omega) rfl rfl (Nat.le_of_ble_eq_true rfl) dL_law_909 rfl (fun b127 => ?_)
        refine j_aload_n (q := 2) (np := 913) rfl rfl dL_law_912 rfl ?_
        refine j_aload_n (q := 0) (np := 914) rfl rfl dL_law_913 rfl ?_
        refine j_iload_n (q := 3) (np := 915) rfl rfl dL_law_914 rfl ?_
        refine j_iconst (np := 916) ci_1 dL_law_915 rfl ?_
        refine j_iadd (np := 917) dL_law_916 rfl ?_
        refine j_sld (np := 918) dL_law_917 rfl (fun x128 => ?_)
        refine j_aload_n (q := 0) (np := 919) rfl rfl dL_law_918 rfl ?_
        refine j_iload_n (q := 3) (np := 920) rfl rfl dL_law_919 rfl ?_
        refine j_iconst (np := 921) ci_2 dL_law_920 rfl ?_
        refine j_iadd (np := 922) dL_law_921 rfl ?_
        refine j_sld (np := 923) dL_law_922 rfl (fun x129 => ?_)
        refine j_aload_n (q := 0) (np := 924) rfl rfl dL_law_923 rfl ?_
        refine j_iload_n (q := 3) (np := 925) rfl rfl dL_law_924 rfl ?_
        refine j_iconst (np := 926) ci_3 dL_law_925 rfl ?_
        refine j_iadd (np := 927) dL_law_926 rfl ?_
        refine j_sld (np := 928) dL_law_927 rfl (fun x130 => ?_)
        refine j_callVi (ci := 10) (np := 931) (bc := ((bc + n * 1) + 1)) (bs := ((bs + n * 80) + 80)) (cb := 0) (cs := 0) (dd := d - 1) (As := [.int x128, .int x129, .int x130]) (st := [.int b127.1]) caX10_allocate mlL_141 imX10_allocate seX10_allocate rfl rfl (by decide) (fun b hb => wX10_allocate (by omega) hb) (by omega) rfl rfl (Nat.le_of_ble_eq_true rfl) dL_law_928 rfl (fun b131 => ?_)
        refine j_icmp_eq (tgt := 1152) (np := 934) dL_law_931 rfl rfl ?_ ?_
        · refine j_iinc (q := 3) (np := 1155) (lv2 := [(3, .int (v3 + (6 : Int32))), (0, .ref v0), (1, .ref (E.2.1 + v1)), (2, .ref (E.2.1 + v2))]) rfl (congrArg _ ci_6) (by decide) dL_law_1152 rfl rfl ?_
          refine j_goto (tgt := 18) dL_law_1155 rfl ?_
          refine j_sub (lv2 := [(0, .ref v0), (1, .ref (E.2.1 + v1)), (2, .ref (E.2.1 + v2)), (3, .int (v3 + (6 : Int32)))]) [1, 2, 3, 0] rfl ?_
          refine j_bud (b1 := (bc + n * 1)) (b2 := (bs + n * 80)) (by omega) (by omega) ?_
          exact ih _ _
        · refine j_iconst (np := 935) ci_0 dL_law_934 rfl ?_
          exact j_zret rfl dL_law_935 (fun rr h => by rw [z0]; exact h)
      refine j_split (fun h31 => ?_) (fun h31 => ?_)
      · refine j_tableIn (off := 903) (tgt := 936) dL_law_33 (by rw [h31]; decide) (by rw [h31]; decide) (by rw [h31]; decide) rfl ?_
        refine j_aload_n (q := 1) (np := 937) rfl rfl dL_law_936 rfl ?_
        refine j_aload_n (q := 0) (np := 938) rfl rfl dL_law_937 rfl ?_
        refine j_iload_n (q := 3) (np := 939) rfl rfl dL_law_938 rfl ?_
        refine j_iconst (np := 940) ci_1 dL_law_939 rfl ?_
        refine j_iadd (np := 941) dL_law_940 rfl ?_
        refine j_sld (np := 942) dL_law_941 rfl (fun x132 => ?_)
        refine j_aload_n (q := 0) (np := 943) rfl rfl dL_law_942 rfl ?_
        refine j_iload_n (q := 3) (np := 944) rfl rfl dL_law_943 rfl ?_
        refine j_iconst (np := 945) ci_2 dL_law_944 rfl ?_
        refine j_iadd (np := 946) dL_law_945 rfl ?_
        refine j_sld (np := 947) dL_law_946 rfl (fun x133 => ?_)
        refine j_aload_n (q := 0) (np := 948) rfl rfl dL_law_947 rfl ?_
        refine j_iload_n (q := 3) (np := 949) rfl rfl dL_law_948 rfl ?_
        refine j_iconst (np := 950) ci_3 dL_law_949 rfl ?_
        refine j_iadd (np := 951) dL_law_950 rfl ?_
        refine j_sld (np := 952) dL_law_951 rfl (fun x134 => ?_)
        refine j_callVi (ci := 9) (np := 955) (bc := ((bc + n * 1) + 1)) (bs := ((bs + n * 80) + 80)) (cb := 0) (cs := 0) (dd := d - 1) (As := [.int x132, .int x133, .int x134]) (st := []) caX9_put mlL_142 imX9_put seX9_put rfl rfl (by decide) (fun b hb => wX9_put (by omega) hb) (by omega) rfl rfl (Nat.le_of_ble_eq_true rfl) dL_law_952 rfl (fun b135 => ?_)
        refine j_aload_n (q := 2) (np := 956) rfl rfl dL_law_955 rfl ?_
        refine j_aload_n (q := 0) (np := 957) rfl rfl dL_law_956 rfl ?_
        refine j_iload_n (q := 3) (np := 958) rfl rfl dL_law_957 rfl ?_
        refine j_iconst (np := 959) ci_1 dL_law_958 rfl ?_
        refine j_iadd (np := 960) dL_law_959 rfl ?_
        refine j_sld (np := 961) dL_law_960 rfl (fun x136 => ?_)
        refine j_aload_n (q := 0) (np := 962) rfl rfl dL_law_961 rfl ?_
        refine j_iload_n (q := 3) (np := 963) rfl rfl dL_law_962 rfl ?_
        refine j_iconst (np := 964) ci_2 dL_law_963 rfl ?_
        refine j_iadd (np := 965) dL_law_964 rfl ?_
        refine j_sld (np := 966) dL_law_965 rfl (fun x137 => ?_)
        refine j_aload_n (q := 0) (np := 967) rfl rfl dL_law_966 rfl ?_
        refine j_iload_n (q := 3) (np := 968) rfl rfl dL_law_967 rfl ?_
        refine j_iconst (np := 969) ci_3 dL_law_968 rfl ?_
        refine j_iadd (np := 970) dL_law_969 rfl ?_
        refine j_sld (np := 971) dL_law_970 rfl (fun x138 => ?_)
        refine j_callVi (ci := 10) (np := 974) (bc := ((bc + n * 1) + 1)) (bs := ((bs + n * 80) + 80)) (cb := 0) (cs := 0) (dd := d - 1) (As := [.int x136, .int x137, .int x138]) (st := [.int b135.1]) caX10_put mlL_145 imX10_put seX10_put rfl rfl (by decide) (fun b hb => wX10_put (by omega) hb) (by omega) rfl rfl (Nat.le_of_ble_eq_true rfl) dL_law_971 rfl (fun b139 => ?_)
        refine j_icmp_eq (tgt := 1152) (np := 977) dL_law_974 rfl rfl ?_ ?_
        · refine j_iinc (q := 3) (np := 1155) (lv2 := [(3, .int (v3 + (6 : Int32))), (0, .ref v0), (1, .ref (E.2.1 + v1)), (2, .ref (E.2.1 + v2))]) rfl (congrArg _ ci_6) (by decide) dL_law_1152 rfl rfl ?_
          refine j_goto (tgt := 18) dL_law_1155 rfl ?_
          refine j_sub (lv2 := [(0, .ref v0), (1, .ref (E.2.1 + v1)), (2, .ref (E.2.1 + v2)), (3, .int (v3 + (6 : Int32)))]) [1, 2, 3, 0] rfl ?_
          refine j_bud (b1 := (bc + n * 1)) (b2 := (bs + n * 80)) (by omega) (by omega) ?_
          exact ih _ _
        · refine j_iconst (np := 978) ci_0 dL_law_977 rfl ?_
          exact j_zret rfl dL_law_978 (fun rr h => by rw [z0]; exact h)
      refine j_split (fun h32 => ?_) (fun h32 => ?_)
      · refine j_tableIn (off := 946) (tgt := 979) dL_law_33 (by rw [h32]; decide) (by rw [h32]; decide) (by rw [h32]; decide) rfl ?_
        refine j_aload_n (q := 1) (np := 980) rfl rfl dL_law_979 rfl ?_
        refine j_aload_n (q := 0) (np := 981) rfl rfl dL_law_980 rfl ?_
        refine j_iload_n (q := 3) (np := 982) rfl rfl dL_law_981 rfl ?_
        refine j_iconst (np := 983) ci_1 dL_law_982 rfl ?_
        refine j_iadd (np := 984) dL_law_983 rfl ?_
        refine j_sld (np := 985) dL_law_984 rfl (fun x140 => ?_)
        refine j_aload_n (q := 0) (np := 986) rfl rfl dL_law_985 rfl ?_
        refine j_iload_n (q := 3) (np := 987) rfl rfl dL_law_986 rfl ?_
        refine j_iconst (np := 988) ci_2 dL_law_987 rfl ?_
        refine j_iadd (np := 989) dL_law_988 rfl ?_
        refine j_sld (np := 990) dL_law_989 rfl (fun x141 => ?_)
        refine j_callVl (ci := 9) (np := 993) (bc := ((bc + n * 1) + 1)) (bs := ((bs + n * 80) + 80)) (cb := 0) (cs := 0) (dd := d - 1) (As := [.int x140, .int x141]) (st := []) caX9_rowElement mlL_146 imX9_rowElement seX9_rowElement rfl rfl (by decide) (fun b hb => wX9_rowElement (by omega) hb) (by omega) rfl rfl (Nat.le_of_ble_eq_true rfl) dL_law_990 rfl (fun b142 => ?_)
        refine j_aload_n (q := 2) (np := 994) rfl rfl dL_law_993 rfl ?_
        refine j_aload_n (q := 0) (np := 995) rfl rfl dL_law_994 rfl ?_
        refine j_iload_n (q := 3) (np := 996) rfl rfl dL_law_995 rfl ?_
        refine j_iconst (np := 997) ci_1 dL_law_996 rfl ?_
        refine j_iadd (np := 998) dL_law_997 rfl ?_
        refine j_sld (np := 999) dL_law_998 rfl (fun x143 => ?_)
        refine j_aload_n (q := 0) (np := 1000) rfl rfl dL_law_999 rfl ?_
        refine j_iload_n (q := 3) (np := 1001) rfl rfl dL_law_1000 rfl ?_
        refine j_iconst (np := 1002) ci_2 dL_law_1001 rfl ?_
        refine j_iadd (np := 1003) dL_law_1002 rfl ?_
        refine j_sld (np := 1004) dL_law_1003 rfl (fun x144 => ?_)
        refine j_callVl (ci := 10) (np := 1007) (bc := ((bc + n * 1) + 1)) (bs := ((bs + n * 80) + 80)) (cb := 0) (cs := 0) (dd := d - 1) (As := [.int x143, .int x144]) (st := [.long b142.1]) caX10_rowElement mlL_150 imX10_rowElement seX10_rowElement rfl rfl (by decide) (fun b hb => wX10_rowElement (by omega) hb) (by omega) rfl rfl (Nat.le_of_ble_eq_true rfl) dL_law_1004 rfl (fun b145 => ?_)
        refine j_lcmp (np := 1008) dL_law_1007 rfl ?_
        refine j_if_eq (tgt := 1152) (np := 1011) dL_law_1008 rfl rfl ?_ ?_
        · refine j_iinc (q := 3) (np := 1155) (lv2 := [(3, .int (v3 + (6 : Int32))), (0, .ref v0), (1, .ref (E.2.1 + v1)), (2, .ref (E.2.1 + v2))]) rfl (congrArg _ ci_6) (by decide) dL_law_1152 rfl rfl ?_
          refine j_goto (tgt := 18) dL_law_1155 rfl ?_
          refine j_sub (lv2 := [(0, .ref v0), (1, .ref (E.2.1 + v1)), (2, .ref (E.2.1 + v2)), (3, .int (v3 + (6 : Int32)))]) [1, 2, 3, 0] rfl ?_
          refine j_bud (b1 := (bc + n * 1)) (b2 := (bs + n * 80)) (by omega) (by omega) ?_
          exact ih _ _
        · refine j_iconst (np := 1012) ci_0 dL_law_1011 rfl ?_
          exact j_zret rfl dL_law_1012 (fun rr h => by rw [z0]; exact h)
      refine j_split (fun h33 => ?_) (fun h33 => ?_)
      · refine j_tableIn (off := 980) (tgt := 1013) dL_law_33 (by rw [h33]; decide) (by rw [h33]; decide) (by rw [h33]; decide) rfl ?_
        refine j_aload_n (q := 1) (np := 1014) rfl rfl dL_law_1013 rfl ?_
        refine j_aload_n (q := 0) (np := 1015) rfl rfl dL_law_1014 rfl ?_
        refine j_iload_n (q := 3) (np := 1016) rfl rfl dL_law_1015 rfl ?_
        refine j_iconst (np := 1017) ci_1 dL_law_1016 rfl ?_
        refine j_iadd (np := 1018) dL_law_1017 rfl ?_
        refine j_sld (np := 1019) dL_law_1018 rfl (fun x146 => ?_)
        refine j_aload_n (q := 0) (np := 1020) rfl rfl dL_law_1019 rfl ?_
        refine j_iload_n (q := 3) (np := 1021) rfl rfl dL_law_1020 rfl ?_
        refine j_iconst (np := 1022) ci_2 dL_law_1021 rfl ?_
        refine j_iadd (np := 1023) dL_law_1022 rfl ?_
        refine j_sld (np := 1024) dL_law_1023 rfl (fun x147 => ?_)
        refine j_aload_n (q := 0) (np := 1025) rfl rfl dL_law_1024 rfl ?_
        refine j_iload_n (q := 3) (np := 1026) rfl rfl dL_law_1025 rfl ?_
        refine j_iconst (np := 1027) ci_3 dL_law_1026 rfl ?_
        refine j_iadd (np := 1028) dL_law_1027 rfl ?_
        refine j_sld (np := 1029) dL_law_1028 rfl (fun x148 => ?_)
        refine j_aload_n (q := 0) (np := 1030) rfl rfl dL_law_1029 rfl ?_
        refine j_iload_n (q := 3) (np := 1031) rfl rfl dL_law_1030 rfl ?_
        refine j_iconst (np := 1032) ci_4 dL_law_1031 rfl ?_
        refine j_iadd (np := 1033) dL_law_1032 rfl ?_
        refine j_sld (np := 1034) dL_law_1033 rfl (fun x149 => ?_)
        refine j_aload_n (q := 0) (np := 1035) rfl rfl dL_law_1034 rfl ?_
        refine j_iload_n (q := 3) (np := 1036) rfl rfl dL_law_1035 rfl ?_
        refine j_iconst (np := 1037) ci_5 dL_law_1036 rfl ?_
        refine j_iadd (np := 1038) dL_law_1037 rfl ?_
        refine j_sld (np := 1039) dL_law_1038 rfl (fun x150 => ?_)
        refine j_callVi (ci := 9) (np := 1042) (bc := ((bc + n * 1) + 1)) (bs := ((bs + n * 80) + 80)) (cb := 0) (cs := 0) (dd := d - 1) (As := [.int x146, .int x147, .int x148, .int x149, .int x150]) (st := []) caX9_copyElements mlL_151 imX9_copyElements seX9_copyElements rfl rfl (by decide) (fun b hb => wX9_copyElements (by omega) hb) (by omega) rfl rfl (Nat.le_of_ble_eq_true rfl) dL_law_1039 rfl (fun b151 => ?_)
        refine j_aload_n (q := 2) (np := 1043) rfl rfl dL_law_1042 rfl ?_
        refine j_aload_n (q := 0) (np := 1044) rfl rfl dL_law_1043 rfl ?_
        refine j_iload_n (q := 3) (np := 1045) rfl rfl dL_law_1044 rfl ?_
        refine j_iconst (np := 1046) ci_1 dL_law_1045 rfl ?_
        refine j_iadd (np := 1047) dL_law_1046 rfl ?_
        refine j_sld (np := 1048) dL_law_1047 rfl (fun x152 => ?_)
        refine j_aload_n (q := 0) (np := 1049) rfl rfl dL_law_1048 rfl ?_
        refine j_iload_n (q := 3) (np := 1050) rfl rfl dL_law_1049 rfl ?_
        refine j_iconst (np := 1051) ci_2 dL_law_1050 rfl ?_
        refine j_iadd (np := 1052) dL_law_1051 rfl ?_
        refine j_sld (np := 1053) dL_law_1052 rfl (fun x153 => ?_)
        refine j_aload_n (q := 0) (np := 1054) rfl rfl dL_law_1053 rfl ?_
        refine j_iload_n (q := 3) (np := 1055) rfl rfl dL_law_1054 rfl ?_
        refine j_iconst (np := 1056) ci_3 dL_law_1055 rfl ?_
        refine j_iadd (np := 1057) dL_law_1056 rfl ?_
        refine j_sld (np := 1058) dL_law_1057 rfl (fun x154 => ?_)
        refine j_aload_n (q := 0) (np := 1059) rfl rfl dL_law_1058 rfl ?_
        refine j_iload_n (q := 3) (np := 1060) rfl rfl dL_law_1059 rfl ?_
        refine j_iconst (np := 1061) ci_4 dL_law_1060 rfl ?_
        refine j_iadd (np := 1062) dL_law_1061 rfl ?_
        refine j_sld (np := 1063) dL_law_1062 rfl (fun x155 => ?_)
        refine j_aload_n (q := 0) (np := 1064) rfl rfl dL_law_1063 rfl ?_
        refine j_iload_n (q := 3) (np := 1065) rfl rfl dL_law_1064 rfl ?_
        refine j_iconst (np := 1066) ci_5 dL_law_1065 rfl ?_
        refine j_iadd (np := 1067) dL_law_1066 rfl ?_
        refine j_sld (np := 1068) dL_law_1067 rfl (fun x156 => ?_)
        refine j_bud (b1 := (bc + n * 1) + 1) (b2 := (bs + n * 80) + 80) (by omega) (by omega) ?_
        refine j_callVi (ci := 10) (np := 1071) (bc := (bc + n * 1)) (bs := (bs + n * 80)) (cb := 1) (cs := 80) (dd := d - 1) (As := [.int x152, .int x153, .int x154, .int x155, .int x156]) (st := [.int b151.1]) caX10_copyElements mlL_155 imX10_copyElements seX10_copyElements rfl rfl (by decide) (fun b hb => wX10_copyElements (by omega) hb) (by omega) rfl rfl (Nat.le_of_ble_eq_true rfl) dL_law_1068 rfl (fun b157 => ?_)
        refine j_icmp_eq (tgt := 1152) (np := 1074) dL_law_1071 rfl rfl ?_ ?_
        · refine j_iinc (q := 3) (np := 1155) (lv2 := [(3, .int (v3 + (6 : Int32))), (0, .ref v0), (1, .ref (E.2.1 + v1)), (2, .ref (E.2.1 + v2))]) rfl (congrArg _ ci_6) (by decide) dL_law_1152 rfl rfl ?_
          refine j_goto (tgt := 18) dL_law_1155 rfl ?_
          refine j_sub (lv2 := [(0, .ref v0), (1, .ref (E.2.1 + v1)), (2, .ref (E.2.1 + v2)), (3, .int (v3 + (6 : Int32)))]) [1, 2, 3, 0] rfl ?_
          exact ih _ _
        · refine j_iconst (np := 1075) ci_0 dL_law_1074 rfl ?_
          exact j_zret rfl dL_law_1075 (fun rr h => by rw [z0]; exact h)
      refine j_split (fun h34 => ?_) (fun h34 => ?_)
      · refine j_tableIn (off := 1043) (tgt := 1076) dL_law_33 (by rw [h34]; decide) (by rw [h34]; decide) (by rw [h34]; decide) rfl ?_
        refine j_aload_n (q := 1) (np := 1077) rfl rfl dL_law_1076 rfl ?_
        refine j_aload_n (q := 0) (np := 1078) rfl rfl dL_law_1077 rfl ?_
        refine j_iload_n (q := 3) (np := 1079) rfl rfl dL_law_1078 rfl ?_
        refine j_iconst (np := 1080) ci_1 dL_law_1079 rfl ?_
        refine j_iadd (np := 1081) dL_law_1080 rfl ?_
        refine j_sld (np := 1082) dL_law_1081 rfl (fun x158 => ?_)
        refine j_aload_n (q := 0) (np := 1083) rfl rfl dL_law_1082 rfl ?_
        refine j_iload_n (q := 3) (np := 1084) rfl rfl dL_law_1083 rfl ?_
        refine j_iconst (np := 1085) ci_2 dL_law_1084 rfl ?_
        refine j_iadd (np := 1086) dL_law_1085 rfl ?_
        refine j_sld (np := 1087) dL_law_1086 rfl (fun x159 => ?_)
        refine j_callVi (ci := 9) (np := 1090) (bc := ((bc + n * 1) + 1)) (bs := ((bs + n * 80) + 80)) (cb := 0) (cs := 0) (dd := d - 1) (As := [.int x158, .int x159]) (st := []) caX9_storeOutput mlL_156 imX9_storeOutput seX9_storeOutput rfl rfl (by decide) (fun b hb => wX9_storeOutput (by omega) hb) (by omega) rfl rfl (Nat.le_of_ble_eq_true rfl) dL_law_1087 rfl (fun b160 => ?_)
        refine j_aload_n (q := 2) (np := 1091) rfl rfl dL_law_1090 rfl ?_
        refine j_aload_n (q := 0) (np := 1092) rfl rfl dL_law_1091 rfl ?_
        refine j_iload_n (q := 3) (np := 1093) rfl rfl dL_law_1092 rfl ?_
        refine j_iconst (np := 1094) ci_1 dL_law_1093 rfl ?_
        refine j_iadd (np := 1095) dL_law_1094 rfl ?_
        refine j_sld (np := 1096) dL_law_1095 rfl (fun x161 => ?_)
        refine j_aload_n (q := 0) (np := 1097) rfl rfl dL_law_1096 rfl ?_
        refine j_iload_n (q := 3) (np := 1098) rfl rfl dL_law_1097 rfl ?_
        refine j_iconst (np := 1099) ci_2 dL_law_1098 rfl ?_
        refine j_iadd (np := 1100) dL_law_1099 rfl ?_
        refine j_sld (np := 1101) dL_law_1100 rfl (fun x162 => ?_)
        refine j_callVi (ci := 10) (np := 1104) (bc := ((bc + n * 1) + 1)) (bs := ((bs + n * 80) + 80)) (cb := 0) (cs := 0) (dd := d - 1) (As := [.int x161, .int x162]) (st := [.int b160.1]) caX10_storeOutput mlL_159 imX10_storeOutput seX10_storeOutput rfl rfl (by decide) (fun b hb => wX10_storeOutput (by omega) hb) (by omega) rfl rfl (Nat.le_of_ble_eq_true rfl) dL_law_1101 rfl (fun b163 => ?_)
        refine j_icmp_eq (tgt := 1152) (np := 1107) dL_law_1104 rfl rfl ?_ ?_
        · refine j_iinc (q := 3) (np := 1155) (lv2 := [(3, .int (v3 + (6 : Int32))), (0, .ref v0), (1, .ref (E.2.1 + v1)), (2, .ref (E.2.1 + v2))]) rfl (congrArg _ ci_6) (by decide) dL_law_1152 rfl rfl ?_
          refine j_goto (tgt := 18) dL_law_1155 rfl ?_
          refine j_sub (lv2 := [(0, .ref v0), (1, .ref (E.2.1 + v1)), (2, .ref (E.2.1 + v2)), (3, .int (v3 + (6 : Int32)))]) [1, 2, 3, 0] rfl ?_
          refine j_bud (b1 := (bc + n * 1)) (b2 := (bs + n * 80)) (by omega) (by omega) ?_
          exact ih _ _
        · refine j_iconst (np := 1108) ci_0 dL_law_1107 rfl ?_
          exact j_zret rfl dL_law_1108 (fun rr h => by rw [z0]; exact h)
      refine j_split (fun h35 => ?_) (fun h35 => ?_)
      · refine j_tableIn (off := 1076) (tgt := 1109) dL_law_33 (by rw [h35]; decide) (by rw [h35]; decide) (by rw [h35]; decide) rfl ?_
        refine j_aload_n (q := 1) (np := 1110) rfl rfl dL_law_1109 rfl ?_
        refine j_aload_n (q := 0) (np := 1111) rfl rfl dL_law_1110 rfl ?_
        refine j_iload_n (q := 3) (np := 1112) rfl rfl dL_law_1111 rfl ?_
        refine j_iconst (np := 1113) ci_1 dL_law_1112 rfl ?_
        refine j_iadd (np := 1114) dL_law_1113 rfl ?_
        refine j_sld (np := 1115) dL_law_1114 rfl (fun x164 => ?_)
        refine j_aload_n (q := 0) (np := 1116) rfl rfl dL_law_1115 rfl ?_
        refine j_iload_n (q := 3) (np := 1117) rfl rfl dL_law_1116 rfl ?_
        refine j_iconst (np := 1118) ci_2 dL_law_1117 rfl ?_
        refine j_iadd (np := 1119) dL_law_1118 rfl ?_
        refine j_sld (np := 1120) dL_law_1119 rfl (fun x165 => ?_)
        refine j_aload_n (q := 0) (np := 1121) rfl rfl dL_law_1120 rfl ?_
        refine j_iload_n (q := 3) (np := 1122) rfl rfl dL_law_1121 rfl ?_
        refine j_iconst (np := 1123) ci_3 dL_law_1122 rfl ?_
        refine j_iadd (np := 1124) dL_law_1123 rfl ?_
        refine j_sld (np := 1125) dL_law_1124 rfl (fun x166 => ?_)
        refine j_callVi (ci := 9) (np := 1128) (bc := ((bc + n * 1) + 1)) (bs := ((bs + n * 80) + 80)) (cb := 0) (cs := 0) (dd := d - 1) (As := [.int x164, .int x165, .int x166]) (st := []) caX9_loadText mlL_160 imX9_loadText seX9_loadText rfl rfl (by decide) (fun b hb => wX9_loadText (by omega) hb) (by omega) rfl rfl (Nat.le_of_ble_eq_true rfl) dL_law_1125 rfl (fun b167 => ?_)
        refine j_aload_n (q := 2) (np := 1129) rfl rfl dL_law_1128 rfl ?_
        refine j_aload_n (q := 0) (np := 1130) rfl rfl dL_law_1129 rfl ?_
        refine j_iload_n (q := 3) (np := 1131) rfl rfl dL_law_1130 rfl ?_
        refine j_iconst (np := 1132) ci_1 dL_law_1131 rfl ?_
        refine j_iadd (np := 1133) dL_law_1132 rfl ?_
        refine j_sld (np := 1134) dL_law_1133 rfl (fun x168 => ?_)
        refine j_aload_n (q := 0) (np := 1135) rfl rfl dL_law_1134 rfl ?_
        refine j_iload_n (q := 3) (np := 1136) rfl rfl dL_law_1135 rfl ?_
        refine j_iconst (np := 1137) ci_2 dL_law_1136 rfl ?_
        refine j_iadd (np := 1138) dL_law_1137 rfl ?_
        refine j_sld (np := 1139) dL_law_1138 rfl (fun x169 => ?_)
        refine j_aload_n (q := 0) (np := 1140) rfl rfl dL_law_1139 rfl ?_
        refine j_iload_n (q := 3) (np := 1141) rfl rfl dL_law_1140 rfl ?_
        refine j_iconst (np := 1142) ci_3 dL_law_1141 rfl ?_
        refine j_iadd (np := 1143) dL_law_1142 rfl ?_
        refine j_sld (np := 1144) dL_law_1143 rfl (fun x170 => ?_)
        refine j_callVi (ci := 10) (np := 1147) (bc := ((bc + n * 1) + 1)) (bs := ((bs + n * 80) + 80)) (cb := 0) (cs := 0) (dd := d - 1) (As := [.int x168, .int x169, .int x170]) (st := [.int b167.1]) caX10_loadText mlL_163 imX10_loadText seX10_loadText rfl rfl (by decide) (fun b hb => wX10_loadText (by omega) hb) (by omega) rfl rfl (Nat.le_of_ble_eq_true rfl) dL_law_1144 rfl (fun b171 => ?_)
        refine j_icmp_eq (tgt := 1152) (np := 1150) dL_law_1147 rfl rfl ?_ ?_
        · refine j_iinc (q := 3) (np := 1155) (lv2 := [(3, .int (v3 + (6 : Int32))), (0, .ref v0), (1, .ref (E.2.1 + v1)), (2, .ref (E.2.1 + v2))]) rfl (congrArg _ ci_6) (by decide) dL_law_1152 rfl rfl ?_
          refine j_goto (tgt := 18) dL_law_1155 rfl ?_
          refine j_sub (lv2 := [(0, .ref v0), (1, .ref (E.2.1 + v1)), (2, .ref (E.2.1 + v2)), (3, .int (v3 + (6 : Int32)))]) [1, 2, 3, 0] rfl ?_
          refine j_bud (b1 := (bc + n * 1)) (b2 := (bs + n * 80)) (by omega) (by omega) ?_
          exact ih _ _
        · refine j_iconst (np := 1151) ci_0 dL_law_1150 rfl ?_
          exact j_zret rfl dL_law_1151 (fun rr h => by rw [z0]; exact h)
      refine j_tableOut (tgt := 1152) dL_law_33 (q_tab36 (lv_neT (a := 0) h0 (by decide)) (lv_neT (a := 1) h1 (by decide)) (lv_neT (a := 2) h2 (by decide)) (lv_neT (a := 3) h3 (by decide)) (lv_neT (a := 4) h4 (by decide)) (lv_neT (a := 5) h5 (by decide)) (lv_neT (a := 6) h6 (by decide)) (lv_neT (a := 7) h7 (by decide)) (lv_neT (a := 8) h8 (by decide)) (lv_neT (a := 9) h9 (by decide)) (lv_neT (a := 10) h10 (by decide)) (lv_neT (a := 11) h11 (by decide)) (lv_neT (a := 12) h12 (by decide)) (lv_neT (a := 13) h13 (by decide)) (lv_neT (a := 14) h14 (by decide)) (lv_neT (a := 15) h15 (by decide)) (lv_neT (a := 16) h16 (by decide)) (lv_neT (a := 17) h17 (by decide)) (lv_neT (a := 18) h18 (by decide)) (lv_neT (a := 19) h19 (by decide)) (lv_neT (a := 20) h20 (by decide)) (lv_neT (a := 21) h21 (by decide)) (lv_neT (a := 22) h22 (by decide)) (lv_neT (a := 23) h23 (by decide)) (lv_neT (a := 24) h24 (by decide)) (lv_neT (a := 25) h25 (by decide)) (lv_neT (a := 26) h26 (by decide)) (lv_neT (a := 27) h27 (by decide)) (lv_neT (a := 28) h28 (by decide)) (lv_neT (a := 29) h29 (by decide)) (lv_neT (a := 30) h30 (by decide)) (lv_neT (a := 31) h31 (by decide)) (lv_neT (a := 32) h32 (by decide)) (lv_neT (a := 33) h33 (by decide)) (lv_neT (a := 34) h34 (by decide)) (lv_neT (a := 35) h35 (by decide))) rfl ?_
      refine j_iinc (q := 3) (np := 1155) (lv2 := [(3, .int (v3 + (6 : Int32))), (0, .ref v0), (1, .ref (E.2.1 + v1)), (2, .ref (E.2.1 + v2))]) rfl (congrArg _ ci_6) (by decide) dL_law_1152 rfl rfl ?_
      refine j_goto (tgt := 18) dL_law_1155 rfl ?_
      refine j_sub (lv2 := [(0, .ref v0), (1, .ref (E.2.1 + v1)), (2, .ref (E.2.1 + v2)), (3, .int (v3 + (6 : Int32)))]) [1, 2, 3, 0] rfl ?_
      refine j_bud (b1 := (bc + n * 1)) (b2 := (bs + n * 80)) (by omega) (by omega) ?_
      exact ih _ _
def fL_law (N : Nat) (xs : Nat → Int32) (L : Nat) (v0 : Nat) (m0 : qM) : Option (Int32 × qM) :=
  qNew m0 9 0 (fun a1 m2 =>
  (fX9_init N a1 m2).bind fun b3 =>
  qNew b3 10 0 (fun a4 m5 =>
  (fX10_init N a4 m5).bind fun b6 =>
  qTh (lL_law_18 N xs L v0 a1 a4 N (0 : Int32) b6) (fun o7 =>
  some ((1 : Int32), o7)
  ) (fun r => r)
  )
  )
set_option maxRecDepth 100000 in
theorem bL_law {E : qE} {N d bc bs : Nat} (hd : 1278 ≤ d) {xs : Nat → Int32} {L : Nat} {v0 : Nat} {m0 : qM} : qB E yL_law cL_law 4 (some .boolean) (qXs E v0 L xs) d (bc + (9 * N + 73)) (bs + (289 * N + 36296)) 0 [(0, .ref v0)] [] m0 (fL_law N xs L v0 m0) (fun b rr => rr = (some (.int b.1), b.2)) := by
  unfold fL_law
  refine j_bud (b1 := (bc + (9 * N + 72)) + 1) (b2 := (bs + (289 * N + 36283)) + 13) (by omega) (by omega) ?_
  refine j_new (bc := (bc + (9 * N + 72))) (bs := (bs + (289 * N + 36283))) (np := 3) qC9 clL_7 dL_law_0 rfl (fun a1 m2 => ?_)
  refine j_dup (np := 4) rfl dL_law_3 rfl ?_
  refine j_bud (b1 := (bc + (1 * N + 26)) + (8 * N + 46)) (b2 := (bs + (80 * N + 33836)) + (209 * N + 2447)) (by omega) (by omega) ?_
  refine j_callIw (np := 7) (bc := (bc + (1 * N + 26))) (bs := (bs + (80 * N + 33836))) (cb := (8 * N + 46)) (cs := (209 * N + 2447)) (dd := d - 1) (As := []) (st := [.ref (E.2.1 + a1)]) caX9_init mlL_9 imX9_init rfl (fun b hb => wX9_init (by omega) hb) (by omega) rfl rfl (Nat.le_of_ble_eq_true rfl) dL_law_4 rfl (fun b3 => ?_)
  refine j_astore_n (np := 8) (lv2 := [(1, .ref (E.2.1 + a1)), (0, .ref v0)]) rfl (by decide) dL_law_7 rfl rfl ?_
  refine j_bud (b1 := (bc + (1 * N + 25)) + 1) (b2 := (bs + (80 * N + 33798)) + 38) (by omega) (by omega) ?_
  refine j_new (bc := (bc + (1 * N + 25))) (bs := (bs + (80 * N + 33798))) (np := 11) qC10 clL_10 dL_law_8 rfl (fun a4 m5 => ?_)
  refine j_dup (np := 12) rfl dL_law_11 rfl ?_
  refine j_bud (b1 := (bc + (1 * N + 0)) + 25) (b2 := (bs + (80 * N + 0)) + 33798) (by omega) (by omega) ?_
  refine j_callIw (np := 15) (bc := (bc + (1 * N + 0))) (bs := (bs + (80 * N + 0))) (cb := 25) (cs := 33798) (dd := d - 1) (As := []) (st := [.ref (E.2.1 + a4)]) caX10_init mlL_12 imX10_init rfl (fun b hb => wX10_init (by omega) hb) (by omega) rfl rfl (Nat.le_of_ble_eq_true rfl) dL_law_12 rfl (fun b6 => ?_)
  refine j_astore_n (np := 16) (lv2 := [(2, .ref (E.2.1 + a4)), (1, .ref (E.2.1 + a1)), (0, .ref v0)]) rfl (by decide) dL_law_15 rfl rfl ?_
  refine j_iconst (np := 17) ci_0 dL_law_16 rfl ?_
  refine j_istore_n (np := 18) (lv2 := [(3, .int (0 : Int32)), (2, .ref (E.2.1 + a4)), (1, .ref (E.2.1 + a1)), (0, .ref v0)]) rfl (by decide) dL_law_17 rfl rfl ?_
  refine j_sub (lv2 := [(0, .ref v0), (1, .ref (E.2.1 + a1)), (2, .ref (E.2.1 + a4)), (3, .int (0 : Int32))]) [3, 2, 1, 0] rfl ?_
  refine j_bud (b1 := bc + N * 1) (b2 := bs + N * 80) (by omega) (by omega) ?_
  refine j_loopG (xp := 1158) (lvX := fun o7 => []) (mX := fun o7 => o7) (lbL_law_18 hd _ _ _) (fun r rr h => h) (fun o7 => ?_)
  refine j_iconst (np := 1159) ci_1 dL_law_1158 rfl ?_
  exact j_zret rfl dL_law_1159 (fun rr h => by rw [z1]; exact h)
