theorem dX10_needs_0 : decode cX10_needs 0 = .ok (.iload_n 0, 1) := by decide +kernel
theorem dX10_needs_1 : decode cX10_needs 1 = .ok (.iconst 2, 1) := by decide +kernel
theorem dX10_needs_2 : decode cX10_needs 2 = .ok (.if_icmp .ne 7, 3) := by decide +kernel
theorem dX10_needs_5 : decode cX10_needs 5 = .ok (.iconst 1, 1) := by decide +kernel
theorem dX10_needs_6 : decode cX10_needs 6 = .ok (.goto 18, 3) := by decide +kernel
theorem dX10_needs_9 : decode cX10_needs 9 = .ok (.iload_n 0, 1) := by decide +kernel
theorem dX10_needs_10 : decode cX10_needs 10 = .ok (.iconst 1, 1) := by decide +kernel
theorem dX10_needs_11 : decode cX10_needs 11 = .ok (.if_icmp .eq 8, 3) := by decide +kernel
theorem dX10_needs_14 : decode cX10_needs 14 = .ok (.iload_n 0, 1) := by decide +kernel
theorem dX10_needs_15 : decode cX10_needs 15 = .ok (.iconst 5, 1) := by decide +kernel
theorem dX10_needs_16 : decode cX10_needs 16 = .ok (.if_icmp .ne 7, 3) := by decide +kernel
theorem dX10_needs_19 : decode cX10_needs 19 = .ok (.iconst 2, 1) := by decide +kernel
theorem dX10_needs_20 : decode cX10_needs 20 = .ok (.goto 4, 3) := by decide +kernel
theorem dX10_needs_23 : decode cX10_needs 23 = .ok (.iconst 3, 1) := by decide +kernel
theorem dX10_needs_24 : decode cX10_needs 24 = .ok (.ireturn, 1) := by decide +kernel
def fX10_needs (N : Nat) (v0 : Int32) (m0 : qM) : Option (Int32 × qM) :=
  if v0 = (2 : Int32) then (
  some ((1 : Int32), m0)
  ) else (
  if v0 = (1 : Int32) then (
  some ((2 : Int32), m0)
  ) else (
  if v0 = (5 : Int32) then (
  some ((2 : Int32), m0)
  ) else (
  some ((3 : Int32), m0)
  )
  )
  )
set_option maxRecDepth 100000 in
theorem bX10_needs {E : qE} {N d bc bs : Nat} (hd : 0 ≤ d) {v0 : Int32} {m0 : qM} : qB E yX10_needs cX10_needs 1 (some .int) (fun _ => True) d bc bs 0 [(0, .int v0)] [] m0 (fX10_needs N v0 m0) (fun b rr => rr = (some (.int b.1), b.2)) := by
  unfold fX10_needs
  refine j_iload_n (q := 0) (np := 1) rfl rfl dX10_needs_0 rfl ?_
  refine j_iconst (np := 2) ci_2 dX10_needs_1 rfl ?_
  refine j_icmp_ne (tgt := 9) (np := 5) dX10_needs_2 rfl rfl ?_ ?_
  · refine j_iload_n (q := 0) (np := 10) rfl rfl dX10_needs_9 rfl ?_
    refine j_iconst (np := 11) ci_1 dX10_needs_10 rfl ?_
    refine j_icmp_eq (tgt := 19) (np := 14) dX10_needs_11 rfl rfl ?_ ?_
    · refine j_iconst (np := 20) ci_2 dX10_needs_19 rfl ?_
      refine j_goto (tgt := 24) dX10_needs_20 rfl ?_
      exact j_iret rfl dX10_needs_24 (fun rr h => h)
    · refine j_iload_n (q := 0) (np := 15) rfl rfl dX10_needs_14 rfl ?_
      refine j_iconst (np := 16) ci_5 dX10_needs_15 rfl ?_
      refine j_icmp_ne (tgt := 23) (np := 19) dX10_needs_16 rfl rfl ?_ ?_
      · refine j_iconst (np := 24) ci_3 dX10_needs_23 rfl ?_
        exact j_iret rfl dX10_needs_24 (fun rr h => h)
      · refine j_iconst (np := 20) ci_2 dX10_needs_19 rfl ?_
        refine j_goto (tgt := 24) dX10_needs_20 rfl ?_
        exact j_iret rfl dX10_needs_24 (fun rr h => h)
  · refine j_iconst (np := 6) ci_1 dX10_needs_5 rfl ?_
    refine j_goto (tgt := 24) dX10_needs_6 rfl ?_
    exact j_iret rfl dX10_needs_24 (fun rr h => h)
set_option maxRecDepth 100000 in
theorem wX10_needs {E : qE} {N d : Nat} (hd : 0 ≤ d) {v0 : Int32} {m0 : qM} {b : Int32 × qM} (h : fX10_needs N v0 m0 = some b) : qRun E yX10_needs cX10_needs 1 (some .int) d 0 0 [.int v0] m0 (some (.int b.1), b.2) := q_met pnX10 (Nat.le_of_ble_eq_true rfl) (bX10_needs hd b _ h rfl)
theorem dX10_spine_0 : decode cX10_spine 0 = .ok (.iload_n 1, 1) := by decide +kernel
theorem dX10_spine_1 : decode cX10_spine 1 = .ok (.istore_n 2, 1) := by decide +kernel
theorem dX10_spine_2 : decode cX10_spine 2 = .ok (.iconst 0, 1) := by decide +kernel
theorem dX10_spine_3 : decode cX10_spine 3 = .ok (.istore_n 3, 1) := by decide +kernel
theorem dX10_spine_4 : decode cX10_spine 4 = .ok (.aload_n 0, 1) := by decide +kernel
theorem dX10_spine_5 : decode cX10_spine 5 = .ok (.getfield 72, 3) := by decide +kernel
theorem dX10_spine_8 : decode cX10_spine 8 = .ok (.iload_n 2, 1) := by decide +kernel
theorem dX10_spine_9 : decode cX10_spine 9 = .ok (.iaload, 1) := by decide +kernel
theorem dX10_spine_10 : decode cX10_spine 10 = .ok (.ifCond .ge 16, 3) := by decide +kernel
theorem dX10_spine_13 : decode cX10_spine 13 = .ok (.aload_n 0, 1) := by decide +kernel
theorem dX10_spine_14 : decode cX10_spine 14 = .ok (.getfield 75, 3) := by decide +kernel
theorem dX10_spine_17 : decode cX10_spine 17 = .ok (.iload_n 2, 1) := by decide +kernel
theorem dX10_spine_18 : decode cX10_spine 18 = .ok (.iaload, 1) := by decide +kernel
theorem dX10_spine_19 : decode cX10_spine 19 = .ok (.istore_n 2, 1) := by decide +kernel
theorem dX10_spine_20 : decode cX10_spine 20 = .ok (.iinc 3 1, 3) := by decide +kernel
theorem dX10_spine_23 : decode cX10_spine 23 = .ok (.goto (-19), 3) := by decide +kernel
theorem dX10_spine_26 : decode cX10_spine 26 = .ok (.aload_n 0, 1) := by decide +kernel
theorem dX10_spine_27 : decode cX10_spine 27 = .ok (.aload_n 0, 1) := by decide +kernel
theorem dX10_spine_28 : decode cX10_spine 28 = .ok (.getfield 72, 3) := by decide +kernel
theorem dX10_spine_31 : decode cX10_spine 31 = .ok (.iload_n 2, 1) := by decide +kernel
theorem dX10_spine_32 : decode cX10_spine 32 = .ok (.iaload, 1) := by decide +kernel
theorem dX10_spine_33 : decode cX10_spine 33 = .ok (.putfield 138, 3) := by decide +kernel
theorem dX10_spine_36 : decode cX10_spine 36 = .ok (.iload_n 3, 1) := by decide +kernel
theorem dX10_spine_37 : decode cX10_spine 37 = .ok (.ireturn, 1) := by decide +kernel
def lX10_spine_4 (N : Nat) (v0 : Nat) : Nat → Int32 → Int32 → qM → Option (Int32 × Int32 × qM)
  | 0, _, _, _ => none
  | n + 1, v2, v3, m0 =>
    (qgR m0 v0 10 29).bind fun x1 =>
    (qaI m0 x1 12 v2).bind fun x2 =>
    if 0 ≤ x2 then (
    some (v2, v3, m0)
    ) else (
    (qgR m0 v0 10 30).bind fun x3 =>
    (qaI m0 x3 12 v2).bind fun x4 =>
    lX10_spine_4 N v0 n x4 (v3 + (1 : Int32)) m0
    )
set_option maxRecDepth 100000 in
theorem lbX10_spine_4 {E : qE} {N d bc bs : Nat} (hd : 0 ≤ d) {v0 : Nat} : ∀ (n : Nat) (v2 : Int32) (v3 : Int32) (m0 : qM), qB E yX10_spine cX10_spine 4 (some .int) (fun _ => True) d bc bs 4 [(0, .ref (E.2.1 + v0)), (2, .int v2), (3, .int v3)] [] m0 (lX10_spine_4 N v0 n v2 v3 m0) (fun o rr => qJ E yX10_spine cX10_spine 4 (some .int) (fun _ => True) d bc bs 26 [(0, .ref (E.2.1 + v0)), (2, .int o.1), (3, .int o.2.1)] [] o.2.2 rr) := by
  intro n
  induction n with
  | zero =>
    intro v2 v3 m0
    exact j_none
  | succ n ih =>
    intro v2 v3 m0
    unfold lX10_spine_4
    refine j_aload_n (q := 0) (np := 5) rfl rfl dX10_spine_4 rfl ?_
    refine j_gR (np := 8) flX10_72 dX10_spine_5 rfl (fun x1 => ?_)
    refine j_iload_n (q := 1) (np := 9) rfl rfl dX10_spine_8 rfl ?_
    refine j_iaload (np := 10) dX10_spine_9 rfl (fun x2 => ?_)
    refine j_if_ge (tgt := 26) (np := 13) dX10_spine_10 rfl rfl ?_ ?_
    · exact j_exit (fun rr h => h)
    · refine j_aload_n (q := 0) (np := 14) rfl rfl dX10_spine_13 rfl ?_
      refine j_gR (np := 17) flX10_75 dX10_spine_14 rfl (fun x3 => ?_)
      refine j_iload_n (q := 1) (np := 18) rfl rfl dX10_spine_17 rfl ?_
      refine j_iaload (np := 19) dX10_spine_18 rfl (fun x4 => ?_)
      refine j_istore_n (np := 20) (lv2 := [(2, .int x4), (0, .ref (E.2.1 + v0)), (3, .int v3)]) rfl (by decide) dX10_spine_19 rfl rfl ?_
      refine j_iinc (q := 2) (np := 23) (lv2 := [(3, .int (v3 + (1 : Int32))), (2, .int x4), (0, .ref (E.2.1 + v0))]) rfl (congrArg _ ci_1) (by decide) dX10_spine_20 rfl rfl ?_
      refine j_goto (tgt := 4) dX10_spine_23 rfl ?_
      refine j_sub (lv2 := [(0, .ref (E.2.1 + v0)), (2, .int x4), (3, .int (v3 + (1 : Int32)))]) [2, 1, 0] rfl ?_
      exact ih _ _ _
def fX10_spine (N : Nat) (v0 : Nat) (v1 : Int32) (m0 : qM) : Option (Int32 × qM) :=
  (lX10_spine_4 N v0 N v1 (0 : Int32) m0).bind fun o1 =>
  (qgR o1.2.2 v0 10 29).bind fun x2 =>
  (qaI o1.2.2 x2 12 o1.1).bind fun x3 =>
  (qpI o1.2.2 v0 10 25 x3).bind fun m4 =>
  some (o1.2.1, m4)
set_option maxRecDepth 100000 in
theorem bX10_spine {E : qE} {N d bc bs : Nat} (hd : 0 ≤ d) {v0 : Nat} {v1 : Int32} {m0 : qM} : qB E yX10_spine cX10_spine 4 (some .int) (fun _ => True) d bc bs 0 [(0, .ref (E.2.1 + v0)), (1, .int v1)] [] m0 (fX10_spine N v0 v1 m0) (fun b rr => rr = (some (.int b.1), b.2)) := by
  unfold fX10_spine
  refine j_iload_n (q := 1) (np := 1) rfl rfl dX10_spine_0 rfl ?_
  refine j_istore_n (np := 2) (lv2 := [(2, .int v1), (0, .ref (E.2.1 + v0)), (1, .int v1)]) rfl (by decide) dX10_spine_1 rfl rfl ?_
  refine j_iconst (np := 3) ci_0 dX10_spine_2 rfl ?_
  refine j_istore_n (np := 4) (lv2 := [(3, .int (0 : Int32)), (2, .int v1), (0, .ref (E.2.1 + v0)), (1, .int v1)]) rfl (by decide) dX10_spine_3 rfl rfl ?_
  refine j_sub (lv2 := [(0, .ref (E.2.1 + v0)), (2, .int v1), (3, .int (0 : Int32))]) [2, 1, 0] rfl ?_
  refine j_loop (xp := 26) (lvX := fun o1 => [(0, .ref (E.2.1 + v0)), (2, .int o1.1), (3, .int o1.2.1)]) (mX := fun o1 => o1.2.2) (lbX10_spine_4 hd _ _ _ _) (fun o1 => ?_)
  refine j_aload_n (q := 0) (np := 27) rfl rfl dX10_spine_26 rfl ?_
  refine j_aload_n (q := 0) (np := 28) rfl rfl dX10_spine_27 rfl ?_
  refine j_gR (np := 31) flX10_72 dX10_spine_28 rfl (fun x2 => ?_)
  refine j_iload_n (q := 1) (np := 32) rfl rfl dX10_spine_31 rfl ?_
  refine j_iaload (np := 33) dX10_spine_32 rfl (fun x3 => ?_)
  refine j_pI (np := 36) flX10_138 dX10_spine_33 rfl (fun m4 => ?_)
  refine j_iload_n (q := 2) (np := 37) rfl rfl dX10_spine_36 rfl ?_
  exact j_iret rfl dX10_spine_37 (fun rr h => h)
set_option maxRecDepth 100000 in
theorem wX10_spine {E : qE} {N d : Nat} (hd : 0 ≤ d) {v0 : Nat} {v1 : Int32} {m0 : qM} {b : Int32 × qM} (h : fX10_spine N v0 v1 m0 = some b) : qRun E yX10_spine cX10_spine 4 (some .int) d 0 0 [.ref (E.2.1 + v0), .int v1] m0 (some (.int b.1), b.2) := q_met pnX10 (Nat.le_of_ble_eq_true rfl) (bX10_spine hd b _ h rfl)
theorem dX10_contracts_0 : decode cX10_contracts 0 = .ok (.aload_n 0, 1) := by decide +kernel
theorem dX10_contracts_1 : decode cX10_contracts 1 = .ok (.getfield 78, 3) := by decide +kernel
theorem dX10_contracts_4 : decode cX10_contracts 4 = .ok (.iload_n 1, 1) := by decide +kernel
theorem dX10_contracts_5 : decode cX10_contracts 5 = .ok (.iaload, 1) := by decide +kernel
theorem dX10_contracts_6 : decode cX10_contracts 6 = .ok (.istore_n 2, 1) := by decide +kernel
theorem dX10_contracts_7 : decode cX10_contracts 7 = .ok (.aload_n 0, 1) := by decide +kernel
theorem dX10_contracts_8 : decode cX10_contracts 8 = .ok (.getfield 138, 3) := by decide +kernel
theorem dX10_contracts_11 : decode cX10_contracts 11 = .ok (.iconst 2, 1) := by decide +kernel
theorem dX10_contracts_12 : decode cX10_contracts 12 = .ok (.if_icmp .ne 5, 3) := by decide +kernel
theorem dX10_contracts_15 : decode cX10_contracts 15 = .ok (.iload_n 2, 1) := by decide +kernel
theorem dX10_contracts_16 : decode cX10_contracts 16 = .ok (.ireturn, 1) := by decide +kernel
theorem dX10_contracts_17 : decode cX10_contracts 17 = .ok (.aload_n 0, 1) := by decide +kernel
theorem dX10_contracts_18 : decode cX10_contracts 18 = .ok (.getfield 78, 3) := by decide +kernel
theorem dX10_contracts_21 : decode cX10_contracts 21 = .ok (.aload_n 0, 1) := by decide +kernel
theorem dX10_contracts_22 : decode cX10_contracts 22 = .ok (.getfield 75, 3) := by decide +kernel
theorem dX10_contracts_25 : decode cX10_contracts 25 = .ok (.iload_n 1, 1) := by decide +kernel
theorem dX10_contracts_26 : decode cX10_contracts 26 = .ok (.iaload, 1) := by decide +kernel
theorem dX10_contracts_27 : decode cX10_contracts 27 = .ok (.iaload, 1) := by decide +kernel
theorem dX10_contracts_28 : decode cX10_contracts 28 = .ok (.istore_n 3, 1) := by decide +kernel
theorem dX10_contracts_29 : decode cX10_contracts 29 = .ok (.aload_n 0, 1) := by decide +kernel
theorem dX10_contracts_30 : decode cX10_contracts 30 = .ok (.getfield 138, 3) := by decide +kernel
theorem dX10_contracts_33 : decode cX10_contracts 33 = .ok (.iconst 1, 1) := by decide +kernel
theorem dX10_contracts_34 : decode cX10_contracts 34 = .ok (.if_icmp .ne 5, 3) := by decide +kernel
theorem dX10_contracts_37 : decode cX10_contracts 37 = .ok (.iload_n 3, 1) := by decide +kernel
theorem dX10_contracts_38 : decode cX10_contracts 38 = .ok (.ireturn, 1) := by decide +kernel
theorem dX10_contracts_39 : decode cX10_contracts 39 = .ok (.aload_n 0, 1) := by decide +kernel
theorem dX10_contracts_40 : decode cX10_contracts 40 = .ok (.getfield 138, 3) := by decide +kernel
theorem dX10_contracts_43 : decode cX10_contracts 43 = .ok (.iconst 5, 1) := by decide +kernel
theorem dX10_contracts_44 : decode cX10_contracts 44 = .ok (.if_icmp .ne 15, 3) := by decide +kernel
theorem dX10_contracts_47 : decode cX10_contracts 47 = .ok (.aload_n 0, 1) := by decide +kernel
theorem dX10_contracts_48 : decode cX10_contracts 48 = .ok (.aload_n 0, 1) := by decide +kernel
theorem dX10_contracts_49 : decode cX10_contracts 49 = .ok (.iload_n 3, 1) := by decide +kernel
theorem dX10_contracts_50 : decode cX10_contracts 50 = .ok (.iload_n 2, 1) := by decide +kernel
theorem dX10_contracts_51 : decode cX10_contracts 51 = .ok (.invokevirtual 294, 3) := by decide +kernel
theorem dX10_contracts_54 : decode cX10_contracts 54 = .ok (.iload_n 2, 1) := by decide +kernel
theorem dX10_contracts_55 : decode cX10_contracts 55 = .ok (.invokevirtual 294, 3) := by decide +kernel
theorem dX10_contracts_58 : decode cX10_contracts 58 = .ok (.ireturn, 1) := by decide +kernel
theorem dX10_contracts_59 : decode cX10_contracts 59 = .ok (.aload_n 0, 1) := by decide +kernel
theorem dX10_contracts_60 : decode cX10_contracts 60 = .ok (.getfield 78, 3) := by decide +kernel
theorem dX10_contracts_63 : decode cX10_contracts 63 = .ok (.aload_n 0, 1) := by decide +kernel
theorem dX10_contracts_64 : decode cX10_contracts 64 = .ok (.getfield 75, 3) := by decide +kernel
theorem dX10_contracts_67 : decode cX10_contracts 67 = .ok (.aload_n 0, 1) := by decide +kernel
theorem dX10_contracts_68 : decode cX10_contracts 68 = .ok (.getfield 75, 3) := by decide +kernel
theorem dX10_contracts_71 : decode cX10_contracts 71 = .ok (.iload_n 1, 1) := by decide +kernel
theorem dX10_contracts_72 : decode cX10_contracts 72 = .ok (.iaload, 1) := by decide +kernel
theorem dX10_contracts_73 : decode cX10_contracts 73 = .ok (.iaload, 1) := by decide +kernel
theorem dX10_contracts_74 : decode cX10_contracts 74 = .ok (.iaload, 1) := by decide +kernel
theorem dX10_contracts_75 : decode cX10_contracts 75 = .ok (.istore 4, 2) := by decide +kernel
theorem dX10_contracts_77 : decode cX10_contracts 77 = .ok (.aload_n 0, 1) := by decide +kernel
theorem dX10_contracts_78 : decode cX10_contracts 78 = .ok (.getfield 138, 3) := by decide +kernel
theorem dX10_contracts_81 : decode cX10_contracts 81 = .ok (.ifCond .ne 21, 3) := by decide +kernel
theorem dX10_contracts_84 : decode cX10_contracts 84 = .ok (.aload_n 0, 1) := by decide +kernel
theorem dX10_contracts_85 : decode cX10_contracts 85 = .ok (.aload_n 0, 1) := by decide +kernel
theorem dX10_contracts_86 : decode cX10_contracts 86 = .ok (.iload 4, 2) := by decide +kernel
theorem dX10_contracts_88 : decode cX10_contracts 88 = .ok (.iload_n 2, 1) := by decide +kernel
theorem dX10_contracts_89 : decode cX10_contracts 89 = .ok (.invokevirtual 294, 3) := by decide +kernel
theorem dX10_contracts_92 : decode cX10_contracts 92 = .ok (.aload_n 0, 1) := by decide +kernel
theorem dX10_contracts_93 : decode cX10_contracts 93 = .ok (.iload_n 3, 1) := by decide +kernel
theorem dX10_contracts_94 : decode cX10_contracts 94 = .ok (.iload_n 2, 1) := by decide +kernel
theorem dX10_contracts_95 : decode cX10_contracts 95 = .ok (.invokevirtual 294, 3) := by decide +kernel
theorem dX10_contracts_98 : decode cX10_contracts 98 = .ok (.invokevirtual 294, 3) := by decide +kernel
theorem dX10_contracts_101 : decode cX10_contracts 101 = .ok (.ireturn, 1) := by decide +kernel
theorem dX10_contracts_102 : decode cX10_contracts 102 = .ok (.aload_n 0, 1) := by decide +kernel
theorem dX10_contracts_103 : decode cX10_contracts 103 = .ok (.getfield 138, 3) := by decide +kernel
theorem dX10_contracts_106 : decode cX10_contracts 106 = .ok (.iconst 3, 1) := by decide +kernel
theorem dX10_contracts_107 : decode cX10_contracts 107 = .ok (.if_icmp .ne 18, 3) := by decide +kernel
theorem dX10_contracts_110 : decode cX10_contracts 110 = .ok (.aload_n 0, 1) := by decide +kernel
theorem dX10_contracts_111 : decode cX10_contracts 111 = .ok (.iload 4, 2) := by decide +kernel
theorem dX10_contracts_113 : decode cX10_contracts 113 = .ok (.aload_n 0, 1) := by decide +kernel
theorem dX10_contracts_114 : decode cX10_contracts 114 = .ok (.iload_n 3, 1) := by decide +kernel
theorem dX10_contracts_115 : decode cX10_contracts 115 = .ok (.iload_n 2, 1) := by decide +kernel
theorem dX10_contracts_116 : decode cX10_contracts 116 = .ok (.invokevirtual 294, 3) := by decide +kernel
theorem dX10_contracts_119 : decode cX10_contracts 119 = .ok (.invokevirtual 294, 3) := by decide +kernel
theorem dX10_contracts_122 : decode cX10_contracts 122 = .ok (.goto 15, 3) := by decide +kernel
theorem dX10_contracts_125 : decode cX10_contracts 125 = .ok (.aload_n 0, 1) := by decide +kernel
theorem dX10_contracts_126 : decode cX10_contracts 126 = .ok (.aload_n 0, 1) := by decide +kernel
theorem dX10_contracts_127 : decode cX10_contracts 127 = .ok (.iload 4, 2) := by decide +kernel
theorem dX10_contracts_129 : decode cX10_contracts 129 = .ok (.iload_n 2, 1) := by decide +kernel
theorem dX10_contracts_130 : decode cX10_contracts 130 = .ok (.invokevirtual 294, 3) := by decide +kernel
theorem dX10_contracts_133 : decode cX10_contracts 133 = .ok (.iload_n 3, 1) := by decide +kernel
theorem dX10_contracts_134 : decode cX10_contracts 134 = .ok (.invokevirtual 294, 3) := by decide +kernel
theorem dX10_contracts_137 : decode cX10_contracts 137 = .ok (.ireturn, 1) := by decide +kernel
def fX10_contracts (N : Nat) (v0 : Nat) (v1 : Int32) (m0 : qM) : Option (Int32 × qM) :=
  (qgR m0 v0 10 31).bind fun x1 =>
  (qaI m0 x1 12 v1).bind fun x2 =>
  (qgI m0 v0 10 25).bind fun x3 =>
  if x3 = (2 : Int32) then (
  some (x2, m0)
  ) else (
  (qgR m0 v0 10 31).bind fun x4 =>
  (qgR m0 v0 10 30).bind fun x5 =>
  (qaI m0 x5 12 v1).bind fun x6 =>
  (qaI m0 x4 12 x6).bind fun x7 =>
  (qgI m0 v0 10 25).bind fun x8 =>
  if x8 = (1 : Int32) then (
  some (x7, m0)
  ) else (
  (qgI m0 v0 10 25).bind fun x9 =>
  if x9 = (5 : Int32) then (
  (qChk m0 v0 10 (fX10_apply N v0 x7 x2 m0)).bind fun b25 =>
  (qChk b25.2 v0 10 (fX10_apply N v0 b25.1 x2 b25.2)).bind fun b26 =>
  some (b26.1, b26.2)
  ) else (
  (qgR m0 v0 10 31).bind fun x10 =>
  (qgR m0 v0 10 30).bind fun x11 =>
  (qgR m0 v0 10 30).bind fun x12 =>
  (qaI m0 x12 12 v1).bind fun x13 =>
  (qaI m0 x11 12 x13).bind fun x14 =>
  (qaI m0 x10 12 x14).bind fun x15 =>
  (qgI m0 v0 10 25).bind fun x16 =>
  if x16 = 0 then (
  (qChk m0 v0 10 (fX10_apply N v0 x15 x2 m0)).bind fun b22 =>
  (qChk b22.2 v0 10 (fX10_apply N v0 x7 x2 b22.2)).bind fun b23 =>
  (qChk b23.2 v0 10 (fX10_apply N v0 b22.1 b23.1 b23.2)).bind fun b24 =>
  some (b24.1, b24.2)
  ) else (
  (qgI m0 v0 10 25).bind fun x17 =>
  if x17 = (3 : Int32) then (
  (qChk m0 v0 10 (fX10_apply N v0 x7 x2 m0)).bind fun b20 =>
  (qChk b20.2 v0 10 (fX10_apply N v0 x15 b20.1 b20.2)).bind fun b21 =>
  some (b21.1, b21.2)
  ) else (
  (qChk m0 v0 10 (fX10_apply N v0 x15 x2 m0)).bind fun b18 =>
  (qChk b18.2 v0 10 (fX10_apply N v0 b18.1 x7 b18.2)).bind fun b19 =>
  some (b19.1, b19.2)
  )
  )
  )
  )
  )
set_option maxRecDepth 100000 in
theorem bX10_contracts {E : qE} {N d bc bs : Nat} (hd : 2 ≤ d) {v0 : Nat} {v1 : Int32} {m0 : qM} : qB E yX10_contracts cX10_contracts 5 (some .int) (fun _ => True) d bc bs 0 [(0, .ref (E.2.1 + v0)), (1, .int v1)] [] m0 (fX10_contracts N v0 v1 m0) (fun b rr => rr = (some (.int b.1), b.2)) := by
  unfold fX10_contracts
  refine j_aload_n (q := 0) (np := 1) rfl rfl dX10_contracts_0 rfl ?_
  refine j_gR (np := 4) flX10_78 dX10_contracts_1 rfl (fun x1 => ?_)
  refine j_iload_n (q := 1) (np := 5) rfl rfl dX10_contracts_4 rfl ?_
  refine j_iaload (np := 6) dX10_contracts_5 rfl (fun x2 => ?_)
  refine j_istore_n (np := 7) (lv2 := [(2, .int x2), (0, .ref (E.2.1 + v0)), (1, .int v1)]) rfl (by decide) dX10_contracts_6 rfl rfl ?_
  refine j_aload_n (q := 1) (np := 8) rfl rfl dX10_contracts_7 rfl ?_
  refine j_gI (np := 11) flX10_138 dX10_contracts_8 rfl (fun x3 => ?_)
  refine j_iconst (np := 12) ci_2 dX10_contracts_11 rfl ?_
  refine j_icmp_ne (tgt := 17) (np := 15) dX10_contracts_12 rfl rfl ?_ ?_
  · refine j_aload_n (q := 1) (np := 18) rfl rfl dX10_contracts_17 rfl ?_
    refine j_gR (np := 21) flX10_78 dX10_contracts_18 rfl (fun x4 => ?_)
    refine j_aload_n (q := 1) (np := 22) rfl rfl dX10_contracts_21 rfl ?_
    refine j_gR (np := 25) flX10_75 dX10_contracts_22 rfl (fun x5 => ?_)
    refine j_iload_n (q := 2) (np := 26) rfl rfl dX10_contracts_25 rfl ?_
    refine j_iaload (np := 27) dX10_contracts_26 rfl (fun x6 => ?_)
    refine j_iaload (np := 28) dX10_contracts_27 rfl (fun x7 => ?_)
    refine j_istore_n (np := 29) (lv2 := [(3, .int x7), (2, .int x2), (0, .ref (E.2.1 + v0)), (1, .int v1)]) rfl (by decide) dX10_contracts_28 rfl rfl ?_
    refine j_aload_n (q := 2) (np := 30) rfl rfl dX10_contracts_29 rfl ?_
    refine j_gI (np := 33) flX10_138 dX10_contracts_30 rfl (fun x8 => ?_)
    refine j_iconst (np := 34) ci_1 dX10_contracts_33 rfl ?_
    refine j_icmp_ne (tgt := 39) (np := 37) dX10_contracts_34 rfl rfl ?_ ?_
    · refine j_aload_n (q := 2) (np := 40) rfl rfl dX10_contracts_39 rfl ?_
      refine j_gI (np := 43) flX10_138 dX10_contracts_40 rfl (fun x9 => ?_)
      refine j_iconst (np := 44) ci_5 dX10_contracts_43 rfl ?_
      refine j_icmp_ne (tgt := 59) (np := 47) dX10_contracts_44 rfl rfl ?_ ?_
      · refine j_aload_n (q := 2) (np := 60) rfl rfl dX10_contracts_59 rfl ?_
        refine j_gR (np := 63) flX10_78 dX10_contracts_60 rfl (fun x10 => ?_)
        refine j_aload_n (q := 2) (np := 64) rfl rfl dX10_contracts_63 rfl ?_
        refine j_gR (np := 67) flX10_75 dX10_contracts_64 rfl (fun x11 => ?_)
        refine j_aload_n (q := 2) (np := 68) rfl rfl dX10_contracts_67 rfl ?_
        refine j_gR (np := 71) flX10_75 dX10_contracts_68 rfl (fun x12 => ?_)
        refine j_iload_n (q := 3) (np := 72) rfl rfl dX10_contracts_71 rfl ?_
        refine j_iaload (np := 73) dX10_contracts_72 rfl (fun x13 => ?_)
        refine j_iaload (np := 74) dX10_contracts_73 rfl (fun x14 => ?_)
        refine j_iaload (np := 75) dX10_contracts_74 rfl (fun x15 => ?_)
        refine j_istore (np := 77) (lv2 := [(4, .int x15), (3, .int x7), (2, .int x2), (0, .ref (E.2.1 + v0)), (1, .int v1)]) (by decide) dX10_contracts_75 rfl rfl ?_
        refine j_aload_n (q := 3) (np := 78) rfl rfl dX10_contracts_77 rfl ?_
        refine j_gI (np := 81) flX10_138 dX10_contracts_78 rfl (fun x16 => ?_)
        refine j_if_ne (tgt := 102) (np := 84) dX10_contracts_81 rfl rfl ?_ ?_
        · refine j_aload_n (q := 3) (np := 103) rfl rfl dX10_contracts_102 rfl ?_
          refine j_gI (np := 106) flX10_138 dX10_contracts_103 rfl (fun x17 => ?_)
          refine j_iconst (np := 107) ci_3 dX10_contracts_106 rfl ?_
          refine j_icmp_ne (tgt := 125) (np := 110) dX10_contracts_107 rfl rfl ?_ ?_
          · refine j_aload_n (q := 3) (np := 126) rfl rfl dX10_contracts_125 rfl ?_
            refine j_aload_n (q := 3) (np := 127) rfl rfl dX10_contracts_126 rfl ?_
            refine j_iload (q := 0) (np := 129) rfl dX10_contracts_127 rfl ?_
            refine j_iload_n (q := 2) (np := 130) rfl rfl dX10_contracts_129 rfl ?_
            refine j_callVi (ci := 10) (np := 133) (bc := bc) (bs := bs) (cb := 0) (cs := 0) (dd := d - 1) (As := [.int x15, .int x2]) (st := [.ref (E.2.1 + v0)]) caX10_apply mlX10_294 imX10_apply seX10_apply rfl rfl (by decide) (fun b hb => wX10_apply (by omega) hb) (by omega) rfl rfl (Nat.le_of_ble_eq_true rfl) dX10_contracts_130 rfl (fun b18 => ?_)
            refine j_iload_n (q := 1) (np := 134) rfl rfl dX10_contracts_133 rfl ?_
            refine j_callVi (ci := 10) (np := 137) (bc := bc) (bs := bs) (cb := 0) (cs := 0) (dd := d - 1) (As := [.int b18.1, .int x7]) (st := []) caX10_apply mlX10_294 imX10_apply seX10_apply rfl rfl (by decide) (fun b hb => wX10_apply (by omega) hb) (by omega) rfl rfl (Nat.le_of_ble_eq_true rfl) dX10_contracts_134 rfl (fun b19 => ?_)
            exact j_iret rfl dX10_contracts_137 (fun rr h => h)
          · refine j_aload_n (q := 3) (np := 111) rfl rfl dX10_contracts_110 rfl ?_
            refine j_iload (q := 0) (np := 113) rfl dX10_contracts_111 rfl ?_
            refine j_aload_n (q := 3) (np := 114) rfl rfl dX10_contracts_113 rfl ?_
            refine j_iload_n (q := 1) (np := 115) rfl rfl dX10_contracts_114 rfl ?_
            refine j_iload_n (q := 2) (np := 116) rfl rfl dX10_contracts_115 rfl ?_
            refine j_callVi (ci := 10) (np := 119) (bc := bc) (bs := bs) (cb := 0) (cs := 0) (dd := d - 1) (As := [.int x7, .int x2]) (st := [.int x15, .ref (E.2.1 + v0)]) caX10_apply mlX10_294 imX10_apply seX10_apply rfl rfl (by decide) (fun b hb => wX10_apply (by omega) hb) (by omega) rfl rfl (Nat.le_of_ble_eq_true rfl) dX10_contracts_116 rfl (fun b20 => ?_)
            refine j_callVi (ci := 10) (np := 122) (bc := bc) (bs := bs) (cb := 0) (cs := 0) (dd := d - 1) (As := [.int x15, .int b20.1]) (st := []) caX10_apply mlX10_294 imX10_apply seX10_apply rfl rfl (by decide) (fun b hb => wX10_apply (by omega) hb) (by omega) rfl rfl (Nat.le_of_ble_eq_true rfl) dX10_contracts_119 rfl (fun b21 => ?_)
            refine j_goto (tgt := 137) dX10_contracts_122 rfl ?_
            exact j_iret rfl dX10_contracts_137 (fun rr h => h)
        · refine j_aload_n (q := 3) (np := 85) rfl rfl dX10_contracts_84 rfl ?_
          refine j_aload_n (q := 3) (np := 86) rfl rfl dX10_contracts_85 rfl ?_
          refine j_iload (q := 0) (np := 88) rfl dX10_contracts_86 rfl ?_
          refine j_iload_n (q := 2) (np := 89) rfl rfl dX10_contracts_88 rfl ?_
          refine j_callVi (ci := 10) (np := 92) (bc := bc) (bs := bs) (cb := 0) (cs := 0) (dd := d - 1) (As := [.int x15, .int x2]) (st := [.ref (E.2.1 + v0)]) caX10_apply mlX10_294 imX10_apply seX10_apply rfl rfl (by decide) (fun b hb => wX10_apply (by omega) hb) (by omega) rfl rfl (Nat.le_of_ble_eq_true rfl) dX10_contracts_89 rfl (fun b22 => ?_)
          refine j_aload_n (q := 3) (np := 93) rfl rfl dX10_contracts_92 rfl ?_
          refine j_iload_n (q := 1) (np := 94) rfl rfl dX10_contracts_93 rfl ?_
          refine j_iload_n (q := 2) (np := 95) rfl rfl dX10_contracts_94 rfl ?_
          refine j_callVi (ci := 10) (np := 98) (bc := bc) (bs := bs) (cb := 0) (cs := 0) (dd := d - 1) (As := [.int x7, .int x2]) (st := [.int b22.1, .ref (E.2.1 + v0)]) caX10_apply mlX10_294 imX10_apply seX10_apply rfl rfl (by decide) (fun b hb => wX10_apply (by omega) hb) (by omega) rfl rfl (Nat.le_of_ble_eq_true rfl) dX10_contracts_95 rfl (fun b23 => ?_)
          refine j_callVi (ci := 10) (np := 101) (bc := bc) (bs := bs) (cb := 0) (cs := 0) (dd := d - 1) (As := [.int b22.1, .int b23.1]) (st := []) caX10_apply mlX10_294 imX10_apply seX10_apply rfl rfl (by decide) (fun b hb => wX10_apply (by omega) hb) (by omega) rfl rfl (Nat.le_of_ble_eq_true rfl) dX10_contracts_98 rfl (fun b24 => ?_)
          exact j_iret rfl dX10_contracts_101 (fun rr h => h)
      · refine j_aload_n (q := 2) (np := 48) rfl rfl dX10_contracts_47 rfl ?_
        refine j_aload_n (q := 2) (np := 49) rfl rfl dX10_contracts_48 rfl ?_
        refine j_iload_n (q := 0) (np := 50) rfl rfl dX10_contracts_49 rfl ?_
        refine j_iload_n (q := 1) (np := 51) rfl rfl dX10_contracts_50 rfl ?_
        refine j_callVi (ci := 10) (np := 54) (bc := bc) (bs := bs) (cb := 0) (cs := 0) (dd := d - 1) (As := [.int x7, .int x2]) (st := [.ref (E.2.1 + v0)]) caX10_apply mlX10_294 imX10_apply seX10_apply rfl rfl (by decide) (fun b hb => wX10_apply (by omega) hb) (by omega) rfl rfl (Nat.le_of_ble_eq_true rfl) dX10_contracts_51 rfl (fun b25 => ?_)
        refine j_iload_n (q := 1) (np := 55) rfl rfl dX10_contracts_54 rfl ?_
        refine j_callVi (ci := 10) (np := 58) (bc := bc) (bs := bs) (cb := 0) (cs := 0) (dd := d - 1) (As := [.int b25.1, .int x2]) (st := []) caX10_apply mlX10_294 imX10_apply seX10_apply rfl rfl (by decide) (fun b hb => wX10_apply (by omega) hb) (by omega) rfl rfl (Nat.le_of_ble_eq_true rfl) dX10_contracts_55 rfl (fun b26 => ?_)
        exact j_iret rfl dX10_contracts_58 (fun rr h => h)
    · refine j_iload_n (q := 0) (np := 38) rfl rfl dX10_contracts_37 rfl ?_
      exact j_iret rfl dX10_contracts_38 (fun rr h => h)
  · refine j_iload_n (q := 0) (np := 16) rfl rfl dX10_contracts_15 rfl ?_
    exact j_iret rfl dX10_contracts_16 (fun rr h => h)
set_option maxRecDepth 100000 in
theorem wX10_contracts {E : qE} {N d : Nat} (hd : 2 ≤ d) {v0 : Nat} {v1 : Int32} {m0 : qM} {b : Int32 × qM} (h : fX10_contracts N v0 v1 m0 = some b) : qRun E yX10_contracts cX10_contracts 5 (some .int) d 0 0 [.ref (E.2.1 + v0), .int v1] m0 (some (.int b.1), b.2) := q_met pnX10 (Nat.le_of_ble_eq_true rfl) (bX10_contracts hd b _ h rfl)
theorem dX10_reduces_0 : decode cX10_reduces 0 = .ok (.aload_n 0, 1) := by decide +kernel
theorem dX10_reduces_1 : decode cX10_reduces 1 = .ok (.getfield 72, 3) := by decide +kernel
theorem dX10_reduces_4 : decode cX10_reduces 4 = .ok (.iload_n 1, 1) := by decide +kernel
theorem dX10_reduces_5 : decode cX10_reduces 5 = .ok (.iaload, 1) := by decide +kernel
theorem dX10_reduces_6 : decode cX10_reduces 6 = .ok (.ifCond .lt 5, 3) := by decide +kernel
theorem dX10_reduces_9 : decode cX10_reduces 9 = .ok (.iconst (-1), 1) := by decide +kernel
theorem dX10_reduces_10 : decode cX10_reduces 10 = .ok (.ireturn, 1) := by decide +kernel
theorem dX10_reduces_11 : decode cX10_reduces 11 = .ok (.aload_n 0, 1) := by decide +kernel
theorem dX10_reduces_12 : decode cX10_reduces 12 = .ok (.iload_n 1, 1) := by decide +kernel
theorem dX10_reduces_13 : decode cX10_reduces 13 = .ok (.invokevirtual 300, 3) := by decide +kernel
theorem dX10_reduces_16 : decode cX10_reduces 16 = .ok (.aload_n 0, 1) := by decide +kernel
theorem dX10_reduces_17 : decode cX10_reduces 17 = .ok (.getfield 138, 3) := by decide +kernel
theorem dX10_reduces_20 : decode cX10_reduces 20 = .ok (.invokestatic 303, 3) := by decide +kernel
theorem dX10_reduces_23 : decode cX10_reduces 23 = .ok (.if_icmp .ne 9, 3) := by decide +kernel
theorem dX10_reduces_26 : decode cX10_reduces 26 = .ok (.aload_n 0, 1) := by decide +kernel
theorem dX10_reduces_27 : decode cX10_reduces 27 = .ok (.iload_n 1, 1) := by decide +kernel
theorem dX10_reduces_28 : decode cX10_reduces 28 = .ok (.invokevirtual 306, 3) := by decide +kernel
theorem dX10_reduces_31 : decode cX10_reduces 31 = .ok (.ireturn, 1) := by decide +kernel
theorem dX10_reduces_32 : decode cX10_reduces 32 = .ok (.aload_n 0, 1) := by decide +kernel
theorem dX10_reduces_33 : decode cX10_reduces 33 = .ok (.aload_n 0, 1) := by decide +kernel
theorem dX10_reduces_34 : decode cX10_reduces 34 = .ok (.getfield 75, 3) := by decide +kernel
theorem dX10_reduces_37 : decode cX10_reduces 37 = .ok (.iload_n 1, 1) := by decide +kernel
theorem dX10_reduces_38 : decode cX10_reduces 38 = .ok (.iaload, 1) := by decide +kernel
theorem dX10_reduces_39 : decode cX10_reduces 39 = .ok (.invokevirtual 309, 3) := by decide +kernel
theorem dX10_reduces_42 : decode cX10_reduces 42 = .ok (.istore_n 2, 1) := by decide +kernel
theorem dX10_reduces_43 : decode cX10_reduces 43 = .ok (.iload_n 2, 1) := by decide +kernel
theorem dX10_reduces_44 : decode cX10_reduces 44 = .ok (.ifCond .lt 15, 3) := by decide +kernel
theorem dX10_reduces_47 : decode cX10_reduces 47 = .ok (.aload_n 0, 1) := by decide +kernel
theorem dX10_reduces_48 : decode cX10_reduces 48 = .ok (.iload_n 2, 1) := by decide +kernel
theorem dX10_reduces_49 : decode cX10_reduces 49 = .ok (.aload_n 0, 1) := by decide +kernel
theorem dX10_reduces_50 : decode cX10_reduces 50 = .ok (.getfield 78, 3) := by decide +kernel
theorem dX10_reduces_53 : decode cX10_reduces 53 = .ok (.iload_n 1, 1) := by decide +kernel
theorem dX10_reduces_54 : decode cX10_reduces 54 = .ok (.iaload, 1) := by decide +kernel
theorem dX10_reduces_55 : decode cX10_reduces 55 = .ok (.invokevirtual 294, 3) := by decide +kernel
theorem dX10_reduces_58 : decode cX10_reduces 58 = .ok (.ireturn, 1) := by decide +kernel
theorem dX10_reduces_59 : decode cX10_reduces 59 = .ok (.aload_n 0, 1) := by decide +kernel
theorem dX10_reduces_60 : decode cX10_reduces 60 = .ok (.aload_n 0, 1) := by decide +kernel
theorem dX10_reduces_61 : decode cX10_reduces 61 = .ok (.getfield 78, 3) := by decide +kernel
theorem dX10_reduces_64 : decode cX10_reduces 64 = .ok (.iload_n 1, 1) := by decide +kernel
theorem dX10_reduces_65 : decode cX10_reduces 65 = .ok (.iaload, 1) := by decide +kernel
theorem dX10_reduces_66 : decode cX10_reduces 66 = .ok (.invokevirtual 309, 3) := by decide +kernel
theorem dX10_reduces_69 : decode cX10_reduces 69 = .ok (.istore_n 3, 1) := by decide +kernel
theorem dX10_reduces_70 : decode cX10_reduces 70 = .ok (.iload_n 3, 1) := by decide +kernel
theorem dX10_reduces_71 : decode cX10_reduces 71 = .ok (.ifCond .ge 7, 3) := by decide +kernel
theorem dX10_reduces_74 : decode cX10_reduces 74 = .ok (.iconst (-1), 1) := by decide +kernel
theorem dX10_reduces_75 : decode cX10_reduces 75 = .ok (.goto 14, 3) := by decide +kernel
theorem dX10_reduces_78 : decode cX10_reduces 78 = .ok (.aload_n 0, 1) := by decide +kernel
theorem dX10_reduces_79 : decode cX10_reduces 79 = .ok (.aload_n 0, 1) := by decide +kernel
theorem dX10_reduces_80 : decode cX10_reduces 80 = .ok (.getfield 75, 3) := by decide +kernel
theorem dX10_reduces_83 : decode cX10_reduces 83 = .ok (.iload_n 1, 1) := by decide +kernel
theorem dX10_reduces_84 : decode cX10_reduces 84 = .ok (.iaload, 1) := by decide +kernel
theorem dX10_reduces_85 : decode cX10_reduces 85 = .ok (.iload_n 3, 1) := by decide +kernel
theorem dX10_reduces_86 : decode cX10_reduces 86 = .ok (.invokevirtual 294, 3) := by decide +kernel
theorem dX10_reduces_89 : decode cX10_reduces 89 = .ok (.ireturn, 1) := by decide +kernel
def fX10_reduces (N : Nat) : Nat → Nat → Int32 → qM → Option (Int32 × qM)
  | 0, _, _, _ => none
  | k + 1, v0, v1, m0 =>
    (qgR m0 v0 10 29).bind fun x1 =>
    (qaI m0 x1 12 v1).bind fun x2 =>
    if x2 < 0 then (
    (qChk m0 v0 10 (fX10_spine N v0 v1 m0)).bind fun b3 =>
    (qgI b3.2 v0 10 25).bind fun x4 =>
    (fX10_needs N x4 b3.2).bind fun b5 =>
    if b3.1 = b5.1 then (
    (qChk b5.2 v0 10 (fX10_contracts N v0 v1 b5.2)).bind fun b18 =>
    some (b18.1, b18.2)
    ) else (
    (qgR b5.2 v0 10 30).bind fun x6 =>
    (qaI b5.2 x6 12 v1).bind fun x7 =>
    (qChk b5.2 v0 10 (fX10_reduces N k v0 x7 b5.2)).bind fun b8 =>
    if b8.1 < 0 then (
    (qgR b8.2 v0 10 31).bind fun x9 =>
    (qaI b8.2 x9 12 v1).bind fun x10 =>
    (qChk b8.2 v0 10 (fX10_reduces N k v0 x10 b8.2)).bind fun b11 =>
    if 0 ≤ b11.1 then (
    (qgR b11.2 v0 10 30).bind fun x12 =>
    (qaI b11.2 x12 12 v1).bind fun x13 =>
    (qChk b11.2 v0 10 (fX10_apply N v0 x13 b11.1 b11.2)).bind fun b14 =>
    some (b14.1, b14.2)
    ) else (
    some ((-1 : Int32), b11.2)
    )
    ) else (
    (qgR b8.2 v0 10 31).bind fun x15 =>
    (qaI b8.2 x15 12 v1).bind fun x16 =>
    (qChk b8.2 v0 10 (fX10_apply N v0 b8.1 x16 b8.2)).bind fun b17 =>
    some (b17.1, b17.2)
    )
    )
    ) else (
    some ((-1 : Int32), m0)
    )
set_option maxRecDepth 100000 in
theorem wX10_reduces {E : qE} {N : Nat} : ∀ {k d : Nat} (hd : k + 3 ≤ d) {m0 : qM} {b : Int32 × qM} {v0 : Nat} {v1 : Int32} (h : fX10_reduces N k v0 v1 m0 = some b), qRun E yX10_reduces cX10_reduces 4 (some .int) d 0 0 [.ref (E.2.1 + v0), .int v1] m0 (some (.int b.1), b.2) := by
  intro k
  induction k with
  | zero =>
    intro d hd m0 b v0 v1 h
    cases h
  | succ k ih =>
    intro d hd m0 b v0 v1 h
    have hfr : ∀ (m : qM) (b : Int32 × qM) (v0 : Nat) (v1 : Int32), fX10_reduces N k v0 v1 m = some b → qRun E yX10_reduces cX10_reduces 4 (some .int) (d - 1) 0 0 [.ref (E.2.1 + v0), .int v1] m (some (.int b.1), b.2) := fun m b v0 v1 h => ih (by omega) h
    have hd : 3 ≤ d := by omega
    have bd : qB E yX10_reduces cX10_reduces 4 (some .int) (fun _ => True) d 0 0 0 [(0, .ref (E.2.1 + v0)), (1, .int v1)] [] m0 (fX10_reduces N (k + 1) v0 v1 m0) (fun b rr => rr = (some (.int b.1), b.2)) := by
      unfold fX10_reduces
      refine j_aload_n (q := 0) (np := 1) rfl rfl dX10_reduces_0 rfl ?_
      refine j_gR (np := 4) flX10_72 dX10_reduces_1 rfl (fun x1 => ?_)
      refine j_iload_n (q := 1) (np := 5) rfl rfl dX10_reduces_4 rfl ?_
      refine j_iaload (np := 6) dX10_reduces_5 rfl (fun x2 => ?_)
      refine j_if_lt (tgt := 11) (np := 9) dX10_reduces_6 rfl rfl ?_ ?_
      · refine j_aload_n (q := 0) (np := 12) rfl rfl dX10_reduces_11 rfl ?_
        refine j_iload_n (q := 1) (np := 13) rfl rfl dX10_reduces_12 rfl ?_
        refine j_callVi (ci := 10) (np := 16) (bc := 0) (bs := 0) (cb := 0) (cs := 0) (dd := d - 1) (As := [.int v1]) (st := []) caX10_spine mlX10_300 imX10_spine seX10_spine rfl rfl (by decide) (fun b hb => wX10_spine (by omega) hb) (by omega) rfl rfl (Nat.le_of_ble_eq_true rfl) dX10_reduces_13 rfl (fun b3 => ?_)
        refine j_aload_n (q := 0) (np := 17) rfl rfl dX10_reduces_16 rfl ?_
        refine j_gI (np := 20) flX10_138 dX10_reduces_17 rfl (fun x4 => ?_)
        refine j_callSi (np := 23) (bc := 0) (bs := 0) (cb := 0) (cs := 0) (dd := d - 1) (As := [.int x4]) (st := [.int b3.1]) caX10_needs mlX10_303 stX10_needs (fun b hb => wX10_needs (by omega) hb) (by omega) rfl rfl (Nat.le_of_ble_eq_true rfl) dX10_reduces_20 rfl (fun b5 => ?_)
        refine j_icmp_ne (tgt := 32) (np := 26) dX10_reduces_23 rfl rfl ?_ ?_
        · refine j_aload_n (q := 0) (np := 33) rfl rfl dX10_reduces_32 rfl ?_
          refine j_aload_n (q := 0) (np := 34) rfl rfl dX10_reduces_33 rfl ?_
          refine j_gR (np := 37) flX10_75 dX10_reduces_34 rfl (fun x6 => ?_)
          refine j_iload_n (q := 1) (np := 38) rfl rfl dX10_reduces_37 rfl ?_
          refine j_iaload (np := 39) dX10_reduces_38 rfl (fun x7 => ?_)
          refine j_callVi (ci := 10) (np := 42) (bc := 0) (bs := 0) (cb := 0) (cs := 0) (dd := d - 1) (As := [.int x7]) (st := []) caX10_reduces mlX10_309 imX10_reduces seX10_reduces rfl rfl (by decide) (fun b hb => hfr _ _ _ _ hb) (by omega) rfl rfl (Nat.le_of_ble_eq_true rfl) dX10_reduces_39 rfl (fun b8 => ?_)
          refine j_istore_n (np := 43) (lv2 := [(2, .int b8.1), (0, .ref (E.2.1 + v0)), (1, .int v1)]) rfl (by decide) dX10_reduces_42 rfl rfl ?_
          refine j_iload_n (q := 0) (np := 44) rfl rfl dX10_reduces_43 rfl ?_
          refine j_if_lt (tgt := 59) (np := 47) dX10_reduces_44 rfl rfl ?_ ?_
          · refine j_aload_n (q := 1) (np := 60) rfl rfl dX10_reduces_59 rfl ?_
            refine j_aload_n (q := 1) (np := 61) rfl rfl dX10_reduces_60 rfl ?_
            refine j_gR (np := 64) flX10_78 dX10_reduces_61 rfl (fun x9 => ?_)
            refine j_iload_n (q := 2) (np := 65) rfl rfl dX10_reduces_64 rfl ?_
            refine j_iaload (np := 66) dX10_reduces_65 rfl (fun x10 => ?_)
            refine j_callVi (ci := 10) (np := 69) (bc := 0) (bs := 0) (cb := 0) (cs := 0) (dd := d - 1) (As := [.int x10]) (st := []) caX10_reduces mlX10_309 imX10_reduces seX10_reduces rfl rfl (by decide) (fun b hb => hfr _ _ _ _ hb) (by omega) rfl rfl (Nat.le_of_ble_eq_true rfl) dX10_reduces_66 rfl (fun b11 => ?_)
            refine j_istore_n (np := 70) (lv2 := [(3, .int b11.1), (2, .int b8.1), (0, .ref (E.2.1 + v0)), (1, .int v1)]) rfl (by decide) dX10_reduces_69 rfl rfl ?_
            refine j_iload_n (q := 0) (np := 71) rfl rfl dX10_reduces_70 rfl ?_
            refine j_if_ge (tgt := 78) (np := 74) dX10_reduces_71 rfl rfl ?_ ?_
            · refine j_aload_n (q := 2) (np := 79) rfl rfl dX10_reduces_78 rfl ?_
              refine j_aload_n (q := 2) (np := 80) rfl rfl dX10_reduces_79 rfl ?_
              refine j_gR (np := 83) flX10_75 dX10_reduces_80 rfl (fun x12 => ?_)
              refine j_iload_n (q := 3) (np := 84) rfl rfl dX10_reduces_83 rfl ?_
              refine j_iaload (np := 85) dX10_reduces_84 rfl (fun x13 => ?_)
              refine j_iload_n (q := 0) (np := 86) rfl rfl dX10_reduces_85 rfl ?_
              refine j_callVi (ci := 10) (np := 89) (bc := 0) (bs := 0) (cb := 0) (cs := 0) (dd := d - 1) (As := [.int x13, .int b11.1]) (st := []) caX10_apply mlX10_294 imX10_apply seX10_apply rfl rfl (by decide) (fun b hb => wX10_apply (by omega) hb) (by omega) rfl rfl (Nat.le_of_ble_eq_true rfl) dX10_reduces_86 rfl (fun b14 => ?_)
              exact j_iret rfl dX10_reduces_89 (fun rr h => h)
            · refine j_iconst (np := 75) ci_m1 dX10_reduces_74 rfl ?_
              refine j_goto (tgt := 89) dX10_reduces_75 rfl ?_
              exact j_iret rfl dX10_reduces_89 (fun rr h => h)
          · refine j_aload_n (q := 1) (np := 48) rfl rfl dX10_reduces_47 rfl ?_
            refine j_iload_n (q := 0) (np := 49) rfl rfl dX10_reduces_48 rfl ?_
            refine j_aload_n (q := 1) (np := 50) rfl rfl dX10_reduces_49 rfl ?_
            refine j_gR (np := 53) flX10_78 dX10_reduces_50 rfl (fun x15 => ?_)
            refine j_iload_n (q := 2) (np := 54) rfl rfl dX10_reduces_53 rfl ?_
            refine j_iaload (np := 55) dX10_reduces_54 rfl (fun x16 => ?_)
            refine j_callVi (ci := 10) (np := 58) (bc := 0) (bs := 0) (cb := 0) (cs := 0) (dd := d - 1) (As := [.int b8.1, .int x16]) (st := []) caX10_apply mlX10_294 imX10_apply seX10_apply rfl rfl (by decide) (fun b hb => wX10_apply (by omega) hb) (by omega) rfl rfl (Nat.le_of_ble_eq_true rfl) dX10_reduces_55 rfl (fun b17 => ?_)
            exact j_iret rfl dX10_reduces_58 (fun rr h => h)
        · refine j_aload_n (q := 0) (np := 27) rfl rfl dX10_reduces_26 rfl ?_
          refine j_iload_n (q := 1) (np := 28) rfl rfl dX10_reduces_27 rfl ?_
          refine j_callVi (ci := 10) (np := 31) (bc := 0) (bs := 0) (cb := 0) (cs := 0) (dd := d - 1) (As := [.int v1]) (st := []) caX10_contracts mlX10_306 imX10_contracts seX10_contracts rfl rfl (by decide) (fun b hb => wX10_contracts (by omega) hb) (by omega) rfl rfl (Nat.le_of_ble_eq_true rfl) dX10_reduces_28 rfl (fun b18 => ?_)
          exact j_iret rfl dX10_reduces_31 (fun rr h => h)
      · refine j_iconst (np := 10) ci_m1 dX10_reduces_9 rfl ?_
        exact j_iret rfl dX10_reduces_10 (fun rr h => h)
    exact q_met pnX10 (Nat.le_of_ble_eq_true rfl) (bd b _ h rfl)
theorem dX10_tells_0 : decode cX10_tells 0 = .ok (.aload_n 0, 1) := by decide +kernel
theorem dX10_tells_1 : decode cX10_tells 1 = .ok (.getfield 72, 3) := by decide +kernel
theorem dX10_tells_4 : decode cX10_tells 4 = .ok (.iload_n 1, 1) := by decide +kernel
theorem dX10_tells_5 : decode cX10_tells 5 = .ok (.iaload, 1) := by decide +kernel
theorem dX10_tells_6 : decode cX10_tells 6 = .ok (.ifCond .lt 31, 3) := by decide +kernel
theorem dX10_tells_9 : decode cX10_tells 9 = .ok (.aload_n 0, 1) := by decide +kernel
theorem dX10_tells_10 : decode cX10_tells 10 = .ok (.getfield 28, 3) := by decide +kernel
theorem dX10_tells_13 : decode cX10_tells 13 = .ok (.aload_n 0, 1) := by decide +kernel
theorem dX10_tells_14 : decode cX10_tells 14 = .ok (.dup, 1) := by decide +kernel
theorem dX10_tells_15 : decode cX10_tells 15 = .ok (.getfield 180, 3) := by decide +kernel
theorem dX10_tells_18 : decode cX10_tells 18 = .ok (.dup_x1, 1) := by decide +kernel
theorem dX10_tells_19 : decode cX10_tells 19 = .ok (.iconst 1, 1) := by decide +kernel
theorem dX10_tells_20 : decode cX10_tells 20 = .ok (.iadd, 1) := by decide +kernel
theorem dX10_tells_21 : decode cX10_tells 21 = .ok (.putfield 180, 3) := by decide +kernel
theorem dX10_tells_24 : decode cX10_tells 24 = .ok (.ldc 237, 2) := by decide +kernel
theorem dX10_tells_26 : decode cX10_tells 26 = .ok (.aload_n 0, 1) := by decide +kernel
theorem dX10_tells_27 : decode cX10_tells 27 = .ok (.getfield 72, 3) := by decide +kernel
theorem dX10_tells_30 : decode cX10_tells 30 = .ok (.iload_n 1, 1) := by decide +kernel
theorem dX10_tells_31 : decode cX10_tells 31 = .ok (.iaload, 1) := by decide +kernel
theorem dX10_tells_32 : decode cX10_tells 32 = .ok (.invokevirtual 274, 3) := by decide +kernel
theorem dX10_tells_35 : decode cX10_tells 35 = .ok (.iastore, 1) := by decide +kernel
theorem dX10_tells_36 : decode cX10_tells 36 = .ok (.return_, 1) := by decide +kernel
theorem dX10_tells_37 : decode cX10_tells 37 = .ok (.iload_n 2, 1) := by decide +kernel
theorem dX10_tells_38 : decode cX10_tells 38 = .ok (.ifCond .eq 21, 3) := by decide +kernel
theorem dX10_tells_41 : decode cX10_tells 41 = .ok (.aload_n 0, 1) := by decide +kernel
theorem dX10_tells_42 : decode cX10_tells 42 = .ok (.getfield 28, 3) := by decide +kernel
theorem dX10_tells_45 : decode cX10_tells 45 = .ok (.aload_n 0, 1) := by decide +kernel
theorem dX10_tells_46 : decode cX10_tells 46 = .ok (.dup, 1) := by decide +kernel
theorem dX10_tells_47 : decode cX10_tells 47 = .ok (.getfield 180, 3) := by decide +kernel
theorem dX10_tells_50 : decode cX10_tells 50 = .ok (.dup_x1, 1) := by decide +kernel
theorem dX10_tells_51 : decode cX10_tells 51 = .ok (.iconst 1, 1) := by decide +kernel
theorem dX10_tells_52 : decode cX10_tells 52 = .ok (.iadd, 1) := by decide +kernel
theorem dX10_tells_53 : decode cX10_tells 53 = .ok (.putfield 180, 3) := by decide +kernel
theorem dX10_tells_56 : decode cX10_tells 56 = .ok (.bipush 40, 2) := by decide +kernel
theorem dX10_tells_58 : decode cX10_tells 58 = .ok (.iastore, 1) := by decide +kernel
theorem dX10_tells_59 : decode cX10_tells 59 = .ok (.aload_n 0, 1) := by decide +kernel
theorem dX10_tells_60 : decode cX10_tells 60 = .ok (.aload_n 0, 1) := by decide +kernel
theorem dX10_tells_61 : decode cX10_tells 61 = .ok (.getfield 75, 3) := by decide +kernel
theorem dX10_tells_64 : decode cX10_tells 64 = .ok (.iload_n 1, 1) := by decide +kernel
theorem dX10_tells_65 : decode cX10_tells 65 = .ok (.iaload, 1) := by decide +kernel
theorem dX10_tells_66 : decode cX10_tells 66 = .ok (.iconst 0, 1) := by decide +kernel
theorem dX10_tells_67 : decode cX10_tells 67 = .ok (.invokevirtual 312, 3) := by decide +kernel
theorem dX10_tells_70 : decode cX10_tells 70 = .ok (.aload_n 0, 1) := by decide +kernel
theorem dX10_tells_71 : decode cX10_tells 71 = .ok (.aload_n 0, 1) := by decide +kernel
theorem dX10_tells_72 : decode cX10_tells 72 = .ok (.getfield 78, 3) := by decide +kernel
theorem dX10_tells_75 : decode cX10_tells 75 = .ok (.iload_n 1, 1) := by decide +kernel
theorem dX10_tells_76 : decode cX10_tells 76 = .ok (.iaload, 1) := by decide +kernel
theorem dX10_tells_77 : decode cX10_tells 77 = .ok (.iconst 1, 1) := by decide +kernel
theorem dX10_tells_78 : decode cX10_tells 78 = .ok (.invokevirtual 312, 3) := by decide +kernel
theorem dX10_tells_81 : decode cX10_tells 81 = .ok (.iload_n 2, 1) := by decide +kernel
theorem dX10_tells_82 : decode cX10_tells 82 = .ok (.ifCond .eq 21, 3) := by decide +kernel
theorem dX10_tells_85 : decode cX10_tells 85 = .ok (.aload_n 0, 1) := by decide +kernel
theorem dX10_tells_86 : decode cX10_tells 86 = .ok (.getfield 28, 3) := by decide +kernel
theorem dX10_tells_89 : decode cX10_tells 89 = .ok (.aload_n 0, 1) := by decide +kernel
theorem dX10_tells_90 : decode cX10_tells 90 = .ok (.dup, 1) := by decide +kernel
theorem dX10_tells_91 : decode cX10_tells 91 = .ok (.getfield 180, 3) := by decide +kernel
theorem dX10_tells_94 : decode cX10_tells 94 = .ok (.dup_x1, 1) := by decide +kernel
theorem dX10_tells_95 : decode cX10_tells 95 = .ok (.iconst 1, 1) := by decide +kernel
theorem dX10_tells_96 : decode cX10_tells 96 = .ok (.iadd, 1) := by decide +kernel
theorem dX10_tells_97 : decode cX10_tells 97 = .ok (.putfield 180, 3) := by decide +kernel
theorem dX10_tells_100 : decode cX10_tells 100 = .ok (.bipush 41, 2) := by decide +kernel
theorem dX10_tells_102 : decode cX10_tells 102 = .ok (.iastore, 1) := by decide +kernel
theorem dX10_tells_103 : decode cX10_tells 103 = .ok (.return_, 1) := by decide +kernel
def kX10_tells_59 (N : Nat) (fr : Nat → Int32 → Int32 → qM → Option (qM)) (v0 : Nat) (v1 : Int32) (v2 : Int32)  (m0 : qM) : Option (qM) :=
  (qgR m0 v0 10 30).bind fun x1 =>
  (qaI m0 x1 12 v1).bind fun x2 =>
  (qChk m0 v0 10 (fr v0 x2 (0 : Int32) m0)).bind fun b3 =>
  (qgR b3 v0 10 31).bind fun x4 =>
  (qaI b3 x4 12 v1).bind fun x5 =>
  (qChk b3 v0 10 (fr v0 x5 (1 : Int32) b3)).bind fun b6 =>
  if v2 = 0 then (
  some b6
  ) else (
  (qgR b6 v0 10 10).bind fun x7 =>
  (qgI b6 v0 10 11).bind fun x8 =>
  (qpI b6 v0 10 11 (x8 + (1 : Int32))).bind fun m9 =>
  (qwI m9 x7 12 x8 (41 : Int32)).bind fun m10 =>
  some m10
  )
set_option maxRecDepth 100000 in
theorem kbX10_tells_59 {E : qE} {N d bc bs : Nat} (hd : 4 ≤ d) {fr : Nat → Int32 → Int32 → qM → Option (qM)} (hfr : ∀ (m : qM) (b : qM) (v0 : Nat) (v1 : Int32) (v2 : Int32), fr v0 v1 v2 m = some b → qRun E yX10_tells cX10_tells 3 none (d - 1) 0 0 [.ref (E.2.1 + v0), .int v1, .int v2] m (none, b)) {v0 : Nat} {v1 : Int32} {v2 : Int32}  {m0 : qM} : qB E yX10_tells cX10_tells 3 none (fun _ => True) d bc bs 59 [(0, .ref (E.2.1 + v0)), (1, .int v1), (2, .int v2)] [] m0 (kX10_tells_59 N fr v0 v1 v2 m0) (fun b rr => rr = (none, b)) := by
  unfold kX10_tells_59
  refine j_aload_n (q := 0) (np := 60) rfl rfl dX10_tells_59 rfl ?_
  refine j_aload_n (q := 0) (np := 61) rfl rfl dX10_tells_60 rfl ?_
  refine j_gR (np := 64) flX10_75 dX10_tells_61 rfl (fun x1 => ?_)
  refine j_iload_n (q := 1) (np := 65) rfl rfl dX10_tells_64 rfl ?_
  refine j_iaload (np := 66) dX10_tells_65 rfl (fun x2 => ?_)
  refine j_iconst (np := 67) ci_0 dX10_tells_66 rfl ?_
  refine j_callVv (ci := 10) (np := 70) (bc := bc) (bs := bs) (cb := 0) (cs := 0) (dd := d - 1) (As := [.int x2, .int (0 : Int32)]) (st := []) caX10_tells mlX10_312 imX10_tells seX10_tells rfl rfl (by decide) (fun b hb => hfr _ _ _ _ _ hb) (by omega) rfl rfl (Nat.le_of_ble_eq_true rfl) dX10_tells_67 rfl (fun b3 => ?_)
  refine j_aload_n (q := 0) (np := 71) rfl rfl dX10_tells_70 rfl ?_
  refine j_aload_n (q := 0) (np := 72) rfl rfl dX10_tells_71 rfl ?_
  refine j_gR (np := 75) flX10_78 dX10_tells_72 rfl (fun x4 => ?_)
  refine j_iload_n (q := 1) (np := 76) rfl rfl dX10_tells_75 rfl ?_
  refine j_iaload (np := 77) dX10_tells_76 rfl (fun x5 => ?_)
  refine j_iconst (np := 78) ci_1 dX10_tells_77 rfl ?_
  refine j_callVv (ci := 10) (np := 81) (bc := bc) (bs := bs) (cb := 0) (cs := 0) (dd := d - 1) (As := [.int x5, .int (1 : Int32)]) (st := []) caX10_tells mlX10_312 imX10_tells seX10_tells rfl rfl (by decide) (fun b hb => hfr _ _ _ _ _ hb) (by omega) rfl rfl (Nat.le_of_ble_eq_true rfl) dX10_tells_78 rfl (fun b6 => ?_)
  refine j_iload_n (q := 2) (np := 82) rfl rfl dX10_tells_81 rfl ?_
  refine j_if_eq (tgt := 103) (np := 85) dX10_tells_82 rfl rfl ?_ ?_
  · exact j_vret rfl dX10_tells_103 (fun rr h => h)
  · refine j_aload_n (q := 0) (np := 86) rfl rfl dX10_tells_85 rfl ?_
    refine j_gR (np := 89) flX10_28 dX10_tells_86 rfl (fun x7 => ?_)
    refine j_aload_n (q := 0) (np := 90) rfl rfl dX10_tells_89 rfl ?_
    refine j_dup (np := 91) rfl dX10_tells_90 rfl ?_
    refine j_gI (np := 94) flX10_180 dX10_tells_91 rfl (fun x8 => ?_)
    refine j_dup_x1 (np := 95) rfl rfl dX10_tells_94 rfl ?_
    refine j_iconst (np := 96) ci_1 dX10_tells_95 rfl ?_
    refine j_iadd (np := 97) dX10_tells_96 rfl ?_
    refine j_pI (np := 100) flX10_180 dX10_tells_97 rfl (fun m9 => ?_)
    refine j_bipush (np := 102) cb_41 dX10_tells_100 rfl ?_
    refine j_iastore (np := 103) dX10_tells_102 rfl (fun m10 => ?_)
    exact j_vret rfl dX10_tells_103 (fun rr h => h)
def fX10_tells (N : Nat) : Nat → Nat → Int32 → Int32 → qM → Option (qM)
  | 0, _, _, _, _ => none
  | k + 1, v0, v1, v2, m0 =>
    (qgR m0 v0 10 29).bind fun x1 =>
    (qaI m0 x1 12 v1).bind fun x2 =>
    if x2 < 0 then (
    if v2 = 0 then (
    kX10_tells_59 N (fX10_tells N k) v0 v1 v2 m0
    ) else (
    (qgR m0 v0 10 10).bind fun x3 =>
    (qgI m0 v0 10 11).bind fun x4 =>
    (qpI m0 v0 10 11 (x4 + (1 : Int32))).bind fun m5 =>
    (qwI m5 x3 12 x4 (40 : Int32)).bind fun m6 =>
    kX10_tells_59 N (fX10_tells N k) v0 v1 v2 m6
    )
    ) else (
    (qgR m0 v0 10 10).bind fun x7 =>
    (qgI m0 v0 10 11).bind fun x8 =>
    (qpI m0 v0 10 11 (x8 + (1 : Int32))).bind fun m9 =>
    (qgR m9 v0 10 29).bind fun x10 =>
    (qaI m9 x10 12 v1).bind fun x11 =>
    (qChs 11 (fJ0_charAt_5068e N 11 x11 m9)).bind fun b12 =>
    (qwI b12.2 x7 12 x8 b12.1).bind fun m13 =>
    some m13
    )
set_option maxRecDepth 100000 in
theorem wX10_tells {E : qE} {N : Nat} : ∀ {k d : Nat} (hd : k + 4 ≤ d) {m0 : qM} {b : qM} {v0 : Nat} {v1 : Int32} {v2 : Int32} (h : fX10_tells N k v0 v1 v2 m0 = some b), qRun E yX10_tells cX10_tells 3 none d 0 0 [.ref (E.2.1 + v0), .int v1, .int v2] m0 (none, b) := by
  intro k
  induction k with
  | zero =>
    intro d hd m0 b v0 v1 v2 h
    cases h
  | succ k ih =>
    intro d hd m0 b v0 v1 v2 h
    have hfr : ∀ (m : qM) (b : qM) (v0 : Nat) (v1 : Int32) (v2 : Int32), fX10_tells N k v0 v1 v2 m = some b → qRun E yX10_tells cX10_tells 3 none (d - 1) 0 0 [.ref (E.2.1 + v0), .int v1, .int v2] m (none, b) := fun m b v0 v1 v2 h => ih (by omega) h
    have hd : 4 ≤ d := by omega
    have bd : qB E yX10_tells cX10_tells 3 none (fun _ => True) d 0 0 0 [(0, .ref (E.2.1 + v0)), (1, .int v1), (2, .int v2)] [] m0 (fX10_tells N (k + 1) v0 v1 v2 m0) (fun b rr => rr = (none, b)) := by
      unfold fX10_tells
      refine j_aload_n (q := 0) (np := 1) rfl rfl dX10_tells_0 rfl ?_
      refine j_gR (np := 4) flX10_72 dX10_tells_1 rfl (fun x1 => ?_)
      refine j_iload_n (q := 1) (np := 5) rfl rfl dX10_tells_4 rfl ?_
      refine j_iaload (np := 6) dX10_tells_5 rfl (fun x2 => ?_)
      refine j_if_lt (tgt := 37) (np := 9) dX10_tells_6 rfl rfl ?_ ?_
      · refine j_iload_n (q := 2) (np := 38) rfl rfl dX10_tells_37 rfl ?_
        refine j_if_eq (tgt := 59) (np := 41) dX10_tells_38 rfl rfl ?_ ?_
        · exact kbX10_tells_59 hd hfr
        · refine j_aload_n (q := 0) (np := 42) rfl rfl dX10_tells_41 rfl ?_
          refine j_gR (np := 45) flX10_28 dX10_tells_42 rfl (fun x3 => ?_)
          refine j_aload_n (q := 0) (np := 46) rfl rfl dX10_tells_45 rfl ?_
          refine j_dup (np := 47) rfl dX10_tells_46 rfl ?_
          refine j_gI (np := 50) flX10_180 dX10_tells_47 rfl (fun x4 => ?_)
          refine j_dup_x1 (np := 51) rfl rfl dX10_tells_50 rfl ?_
          refine j_iconst (np := 52) ci_1 dX10_tells_51 rfl ?_
          refine j_iadd (np := 53) dX10_tells_52 rfl ?_
          refine j_pI (np := 56) flX10_180 dX10_tells_53 rfl (fun m5 => ?_)
          refine j_bipush (np := 58) cb_40 dX10_tells_56 rfl ?_
          refine j_iastore (np := 59) dX10_tells_58 rfl (fun m6 => ?_)
          exact kbX10_tells_59 hd hfr
      · refine j_aload_n (q := 0) (np := 10) rfl rfl dX10_tells_9 rfl ?_
        refine j_gR (np := 13) flX10_28 dX10_tells_10 rfl (fun x7 => ?_)
        refine j_aload_n (q := 0) (np := 14) rfl rfl dX10_tells_13 rfl ?_
        refine j_dup (np := 15) rfl dX10_tells_14 rfl ?_
        refine j_gI (np := 18) flX10_180 dX10_tells_15 rfl (fun x8 => ?_)
        refine j_dup_x1 (np := 19) rfl rfl dX10_tells_18 rfl ?_
        refine j_iconst (np := 20) ci_1 dX10_tells_19 rfl ?_
        refine j_iadd (np := 21) dX10_tells_20 rfl ?_
        refine j_pI (np := 24) flX10_180 dX10_tells_21 rfl (fun m9 => ?_)
        refine j_ldcS (np := 26) (k := 11) (List.mem_of_getElem? (i := 11) rfl) dX10_tells_24 rfl ?_
        refine j_aload_n (q := 0) (np := 27) rfl rfl dX10_tells_26 rfl ?_
        refine j_gR (np := 30) flX10_72 dX10_tells_27 rfl (fun x10 => ?_)
        refine j_iload_n (q := 1) (np := 31) rfl rfl dX10_tells_30 rfl ?_
        refine j_iaload (np := 32) dX10_tells_31 rfl (fun x11 => ?_)
        refine j_callT (np := 35) (dd := d - 1) (As := [.int x11]) (st := [.int x8, .ref (E.2.1 + x7)]) caJ0_charAt_5068e mlX10_274 imJ0_charAt_5068e seJ0_charAt_5068e rfl (fun b hb => wJ0_charAt_5068e (by omega) hb) (by omega) rfl rfl (Nat.le_of_ble_eq_true rfl) dX10_tells_32 rfl (fun b12 => ?_)
        refine j_iastore (np := 36) dX10_tells_35 rfl (fun m13 => ?_)
        exact j_vret rfl dX10_tells_36 (fun rr h => h)
    exact q_met pnX10 (Nat.le_of_ble_eq_true rfl) (bd b _ h rfl)
theorem dX10_reduceTerm_0 : decode cX10_reduceTerm 0 = .ok (.aload_n 0, 1) := by decide +kernel
theorem dX10_reduceTerm_1 : decode cX10_reduceTerm 1 = .ok (.invokevirtual 281, 3) := by decide +kernel
theorem dX10_reduceTerm_4 : decode cX10_reduceTerm 4 = .ok (.istore_n 2, 1) := by decide +kernel
theorem dX10_reduceTerm_5 : decode cX10_reduceTerm 5 = .ok (.iload_n 1, 1) := by decide +kernel
theorem dX10_reduceTerm_6 : decode cX10_reduceTerm 6 = .ok (.iconst 0, 1) := by decide +kernel
theorem dX10_reduceTerm_7 : decode cX10_reduceTerm 7 = .ok (.bipush 50, 2) := by decide +kernel
theorem dX10_reduceTerm_9 : decode cX10_reduceTerm 9 = .ok (.invokestatic 99, 3) := by decide +kernel
theorem dX10_reduceTerm_12 : decode cX10_reduceTerm 12 = .ok (.ifCond .eq 7, 3) := by decide +kernel
theorem dX10_reduceTerm_15 : decode cX10_reduceTerm 15 = .ok (.iload_n 2, 1) := by decide +kernel
theorem dX10_reduceTerm_16 : decode cX10_reduceTerm 16 = .ok (.ifCond .ne 31, 3) := by decide +kernel
theorem dX10_reduceTerm_19 : decode cX10_reduceTerm 19 = .ok (.aload_n 0, 1) := by decide +kernel
theorem dX10_reduceTerm_20 : decode cX10_reduceTerm 20 = .ok (.iconst 0, 1) := by decide +kernel
theorem dX10_reduceTerm_21 : decode cX10_reduceTerm 21 = .ok (.putfield 103, 3) := by decide +kernel
theorem dX10_reduceTerm_24 : decode cX10_reduceTerm 24 = .ok (.iload_n 1, 1) := by decide +kernel
theorem dX10_reduceTerm_25 : decode cX10_reduceTerm 25 = .ok (.iconst 0, 1) := by decide +kernel
theorem dX10_reduceTerm_26 : decode cX10_reduceTerm 26 = .ok (.bipush 50, 2) := by decide +kernel
theorem dX10_reduceTerm_28 : decode cX10_reduceTerm 28 = .ok (.invokestatic 99, 3) := by decide +kernel
theorem dX10_reduceTerm_31 : decode cX10_reduceTerm 31 = .ok (.ifCond .eq 13, 3) := by decide +kernel
theorem dX10_reduceTerm_34 : decode cX10_reduceTerm 34 = .ok (.bipush (-100), 2) := by decide +kernel
theorem dX10_reduceTerm_36 : decode cX10_reduceTerm 36 = .ok (.aload_n 0, 1) := by decide +kernel
theorem dX10_reduceTerm_37 : decode cX10_reduceTerm 37 = .ok (.getfield 112, 3) := by decide +kernel
theorem dX10_reduceTerm_40 : decode cX10_reduceTerm 40 = .ok (.isub, 1) := by decide +kernel
theorem dX10_reduceTerm_41 : decode cX10_reduceTerm 41 = .ok (.goto 5, 3) := by decide +kernel
theorem dX10_reduceTerm_44 : decode cX10_reduceTerm 44 = .ok (.bipush (-2), 2) := by decide +kernel
theorem dX10_reduceTerm_46 : decode cX10_reduceTerm 46 = .ok (.ireturn, 1) := by decide +kernel
theorem dX10_reduceTerm_47 : decode cX10_reduceTerm 47 = .ok (.aload_n 0, 1) := by decide +kernel
theorem dX10_reduceTerm_48 : decode cX10_reduceTerm 48 = .ok (.iconst 0, 1) := by decide +kernel
theorem dX10_reduceTerm_49 : decode cX10_reduceTerm 49 = .ok (.putfield 106, 3) := by decide +kernel
theorem dX10_reduceTerm_52 : decode cX10_reduceTerm 52 = .ok (.aload_n 0, 1) := by decide +kernel
theorem dX10_reduceTerm_53 : decode cX10_reduceTerm 53 = .ok (.iconst 0, 1) := by decide +kernel
theorem dX10_reduceTerm_54 : decode cX10_reduceTerm 54 = .ok (.putfield 284, 3) := by decide +kernel
theorem dX10_reduceTerm_57 : decode cX10_reduceTerm 57 = .ok (.aload_n 0, 1) := by decide +kernel
theorem dX10_reduceTerm_58 : decode cX10_reduceTerm 58 = .ok (.invokevirtual 291, 3) := by decide +kernel
theorem dX10_reduceTerm_61 : decode cX10_reduceTerm 61 = .ok (.istore_n 3, 1) := by decide +kernel
theorem dX10_reduceTerm_62 : decode cX10_reduceTerm 62 = .ok (.aload_n 0, 1) := by decide +kernel
theorem dX10_reduceTerm_63 : decode cX10_reduceTerm 63 = .ok (.iconst 0, 1) := by decide +kernel
theorem dX10_reduceTerm_64 : decode cX10_reduceTerm 64 = .ok (.putfield 103, 3) := by decide +kernel
theorem dX10_reduceTerm_67 : decode cX10_reduceTerm 67 = .ok (.iconst 0, 1) := by decide +kernel
theorem dX10_reduceTerm_68 : decode cX10_reduceTerm 68 = .ok (.istore 4, 2) := by decide +kernel
theorem dX10_reduceTerm_70 : decode cX10_reduceTerm 70 = .ok (.iload 4, 2) := by decide +kernel
theorem dX10_reduceTerm_72 : decode cX10_reduceTerm 72 = .ok (.iload_n 1, 1) := by decide +kernel
theorem dX10_reduceTerm_73 : decode cX10_reduceTerm 73 = .ok (.if_icmp .ge 41, 3) := by decide +kernel
theorem dX10_reduceTerm_76 : decode cX10_reduceTerm 76 = .ok (.aload_n 0, 1) := by decide +kernel
theorem dX10_reduceTerm_77 : decode cX10_reduceTerm 77 = .ok (.iload_n 3, 1) := by decide +kernel
theorem dX10_reduceTerm_78 : decode cX10_reduceTerm 78 = .ok (.invokevirtual 309, 3) := by decide +kernel
theorem dX10_reduceTerm_81 : decode cX10_reduceTerm 81 = .ok (.istore 5, 2) := by decide +kernel
theorem dX10_reduceTerm_83 : decode cX10_reduceTerm 83 = .ok (.iload 5, 2) := by decide +kernel
theorem dX10_reduceTerm_85 : decode cX10_reduceTerm 85 = .ok (.ifCond .ge 6, 3) := by decide +kernel
theorem dX10_reduceTerm_88 : decode cX10_reduceTerm 88 = .ok (.goto 26, 3) := by decide +kernel
theorem dX10_reduceTerm_91 : decode cX10_reduceTerm 91 = .ok (.aload_n 0, 1) := by decide +kernel
theorem dX10_reduceTerm_92 : decode cX10_reduceTerm 92 = .ok (.iload 5, 2) := by decide +kernel
theorem dX10_reduceTerm_94 : decode cX10_reduceTerm 94 = .ok (.invokevirtual 297, 3) := by decide +kernel
theorem dX10_reduceTerm_97 : decode cX10_reduceTerm 97 = .ok (.bipush 40, 2) := by decide +kernel
theorem dX10_reduceTerm_99 : decode cX10_reduceTerm 99 = .ok (.if_icmp .le 6, 3) := by decide +kernel
theorem dX10_reduceTerm_102 : decode cX10_reduceTerm 102 = .ok (.bipush (-5), 2) := by decide +kernel
theorem dX10_reduceTerm_104 : decode cX10_reduceTerm 104 = .ok (.ireturn, 1) := by decide +kernel
theorem dX10_reduceTerm_105 : decode cX10_reduceTerm 105 = .ok (.iload 5, 2) := by decide +kernel
theorem dX10_reduceTerm_107 : decode cX10_reduceTerm 107 = .ok (.istore_n 3, 1) := by decide +kernel
theorem dX10_reduceTerm_108 : decode cX10_reduceTerm 108 = .ok (.iinc 4 1, 3) := by decide +kernel
theorem dX10_reduceTerm_111 : decode cX10_reduceTerm 111 = .ok (.goto (-41), 3) := by decide +kernel
theorem dX10_reduceTerm_114 : decode cX10_reduceTerm 114 = .ok (.aload_n 0, 1) := by decide +kernel
theorem dX10_reduceTerm_115 : decode cX10_reduceTerm 115 = .ok (.iconst 0, 1) := by decide +kernel
theorem dX10_reduceTerm_116 : decode cX10_reduceTerm 116 = .ok (.putfield 180, 3) := by decide +kernel
theorem dX10_reduceTerm_119 : decode cX10_reduceTerm 119 = .ok (.aload_n 0, 1) := by decide +kernel
theorem dX10_reduceTerm_120 : decode cX10_reduceTerm 120 = .ok (.iload_n 3, 1) := by decide +kernel
theorem dX10_reduceTerm_121 : decode cX10_reduceTerm 121 = .ok (.iconst 0, 1) := by decide +kernel
theorem dX10_reduceTerm_122 : decode cX10_reduceTerm 122 = .ok (.invokevirtual 312, 3) := by decide +kernel
theorem dX10_reduceTerm_125 : decode cX10_reduceTerm 125 = .ok (.iload 4, 2) := by decide +kernel
theorem dX10_reduceTerm_127 : decode cX10_reduceTerm 127 = .ok (.ireturn, 1) := by decide +kernel
def lX10_reduceTerm_70 (N : Nat) (v0 : Nat) (v1 : Int32) : Nat → Int32 → Int32 → qM → Option ((Int32 × Int32 × qM) ⊕ (Int32 × qM))
  | 0, _, _, _ => none
  | n + 1, v3, v4, m0 =>
    if v1 ≤ v4 then (
    some (.inl (v3, v4, m0))
    ) else (
    (qChk m0 v0 10 (fX10_reduces N kR v0 v3 m0)).bind fun b1 =>
    if 0 ≤ b1.1 then (
    (qChk b1.2 v0 10 (fX10_sizeOf N kR v0 b1.1 b1.2)).bind fun b2 =>
    if b2.1 ≤ (40 : Int32) then (
    lX10_reduceTerm_70 N v0 v1 n b1.1 (v4 + (1 : Int32)) b2.2
    ) else (
    some (.inr ((-5 : Int32), b2.2))
    )
    ) else (
    some (.inl (v3, v4, b1.2))
    )
    )
set_option maxRecDepth 100000 in
theorem lbX10_reduceTerm_70 {E : qE} {N d bc bs : Nat} (hd : 135 ≤ d) {v0 : Nat} {v1 : Int32} : ∀ (n : Nat) (v3 : Int32) (v4 : Int32) (m0 : qM), qB E yX10_reduceTerm cX10_reduceTerm 6 (some .int) (fun _ => True) d bc bs 70 [(0, .ref (E.2.1 + v0)), (1, .int v1), (3, .int v3), (4, .int v4)] [] m0 (lX10_reduceTerm_70 N v0 v1 n v3 v4 m0) (qGL (fun o rr => qJ E yX10_reduceTerm cX10_reduceTerm 6 (some .int) (fun _ => True) d bc bs 114 [(0, .ref (E.2.1 + v0)), (3, .int o.1), (4, .int o.2.1)] [] o.2.2 rr) (fun r => (some (.int r.1), r.2))) := by
  intro n
  induction n with
  | zero =>
    intro v3 v4 m0
    exact j_none
  | succ n ih =>
    intro v3 v4 m0
    unfold lX10_reduceTerm_70
    refine j_iload (q := 3) (np := 72) rfl dX10_reduceTerm_70 rfl ?_
    refine j_iload_n (q := 1) (np := 73) rfl rfl dX10_reduceTerm_72 rfl ?_
    refine j_icmp_ge (tgt := 114) (np := 76) dX10_reduceTerm_73 rfl rfl ?_ ?_
    · refine j_sub (lv2 := [(0, .ref (E.2.1 + v0)), (3, .int v3), (4, .int v4)]) [0, 2, 3] rfl ?_
      exact j_exit (fun rr h => h)
    · refine j_aload_n (q := 0) (np := 77) rfl rfl dX10_reduceTerm_76 rfl ?_
      refine j_iload_n (q := 2) (np := 78) rfl rfl dX10_reduceTerm_77 rfl ?_
      refine j_callVi (ci := 10) (np := 81) (bc := bc) (bs := bs) (cb := 0) (cs := 0) (dd := d - 1) (As := [.int v3]) (st := []) caX10_reduces mlX10_309 imX10_reduces seX10_reduces rfl rfl (by decide) (fun b hb => wX10_reduces (by show 130 + _ ≤ _; omega) hb) (by omega) rfl rfl (Nat.le_of_ble_eq_true rfl) dX10_reduceTerm_78 rfl (fun b1 => ?_)
      refine j_istore (np := 83) (lv2 := [(5, .int b1.1), (0, .ref (E.2.1 + v0)), (1, .int v1), (3, .int v3), (4, .int v4)]) (by decide) dX10_reduceTerm_81 rfl rfl ?_
      refine j_iload (q := 0) (np := 85) rfl dX10_reduceTerm_83 rfl ?_
      refine j_if_ge (tgt := 91) (np := 88) dX10_reduceTerm_85 rfl rfl ?_ ?_
      · refine j_aload_n (q := 1) (np := 92) rfl rfl dX10_reduceTerm_91 rfl ?_
        refine j_iload (q := 0) (np := 94) rfl dX10_reduceTerm_92 rfl ?_
        refine j_callVi (ci := 10) (np := 97) (bc := bc) (bs := bs) (cb := 0) (cs := 0) (dd := d - 1) (As := [.int b1.1]) (st := []) caX10_sizeOf mlX10_297 imX10_sizeOf seX10_sizeOf rfl rfl (by decide) (fun b hb => wX10_sizeOf (by show 130 + _ ≤ _; omega) hb) (by omega) rfl rfl (Nat.le_of_ble_eq_true rfl) dX10_reduceTerm_94 rfl (fun b2 => ?_)
        refine j_bipush (np := 99) cb_40 dX10_reduceTerm_97 rfl ?_
        refine j_icmp_le (tgt := 105) (np := 102) dX10_reduceTerm_99 rfl rfl ?_ ?_
        · refine j_iload (q := 0) (np := 107) rfl dX10_reduceTerm_105 rfl ?_
          refine j_istore_n (np := 108) (lv2 := [(3, .int b1.1), (5, .int b1.1), (0, .ref (E.2.1 + v0)), (1, .int v1), (4, .int v4)]) rfl (by decide) dX10_reduceTerm_107 rfl rfl ?_
          refine j_iinc (q := 4) (np := 111) (lv2 := [(4, .int (v4 + (1 : Int32))), (3, .int b1.1), (5, .int b1.1), (0, .ref (E.2.1 + v0)), (1, .int v1)]) rfl (congrArg _ ci_1) (by decide) dX10_reduceTerm_108 rfl rfl ?_
          refine j_goto (tgt := 70) dX10_reduceTerm_111 rfl ?_
          refine j_sub (lv2 := [(0, .ref (E.2.1 + v0)), (1, .int v1), (3, .int b1.1), (4, .int (v4 + (1 : Int32)))]) [3, 4, 1, 0] rfl ?_
          exact ih _ _ _
        · refine j_bipush (np := 104) cb_m5 dX10_reduceTerm_102 rfl ?_
          exact j_iret rfl dX10_reduceTerm_104 (fun rr h => h)
      · refine j_goto (tgt := 114) dX10_reduceTerm_88 rfl ?_
        refine j_sub (lv2 := [(0, .ref (E.2.1 + v0)), (3, .int v3), (4, .int v4)]) [1, 3, 4] rfl ?_
        exact j_exit (fun rr h => h)
def kX10_reduceTerm_19 (N : Nat) (v0 : Nat) (v1 : Int32)  (m0 : qM) : Option (Int32 × qM) :=
  (qpI m0 v0 10 7 (0 : Int32)).bind fun m1 =>
  (fX10_in N v1 (0 : Int32) (50 : Int32) m1).bind fun b2 =>
  if b2.1 = 0 then (
  some ((-2 : Int32), b2.2)
  ) else (
  (qgI b2.2 v0 10 9).bind fun x3 =>
  some ((-100 : Int32) - x3, b2.2)
  )
set_option maxRecDepth 100000 in
theorem kbX10_reduceTerm_19 {E : qE} {N d bc bs : Nat} (hd : 135 ≤ d) {v0 : Nat} {v1 : Int32}  {m0 : qM} : qB E yX10_reduceTerm cX10_reduceTerm 6 (some .int) (fun _ => True) d bc bs 19 [(0, .ref (E.2.1 + v0)), (1, .int v1)] [] m0 (kX10_reduceTerm_19 N v0 v1 m0) (fun b rr => rr = (some (.int b.1), b.2)) := by
  unfold kX10_reduceTerm_19
  refine j_aload_n (q := 0) (np := 20) rfl rfl dX10_reduceTerm_19 rfl ?_
  refine j_iconst (np := 21) ci_0 dX10_reduceTerm_20 rfl ?_
  refine j_pI (np := 24) flX10_103 dX10_reduceTerm_21 rfl (fun m1 => ?_)
  refine j_iload_n (q := 1) (np := 25) rfl rfl dX10_reduceTerm_24 rfl ?_
  refine j_iconst (np := 26) ci_0 dX10_reduceTerm_25 rfl ?_
  refine j_bipush (np := 28) cb_50 dX10_reduceTerm_26 rfl ?_
  refine j_callSi (np := 31) (bc := bc) (bs := bs) (cb := 0) (cs := 0) (dd := d - 1) (As := [.int v1, .int (0 : Int32), .int (50 : Int32)]) (st := []) caX10_in mlX10_99 stX10_in (fun b hb => wX10_in (by omega) hb) (by omega) rfl rfl (Nat.le_of_ble_eq_true rfl) dX10_reduceTerm_28 rfl (fun b2 => ?_)
  refine j_if_eq (tgt := 44) (np := 34) dX10_reduceTerm_31 rfl rfl ?_ ?_
  · refine j_bipush (np := 46) cb_m2 dX10_reduceTerm_44 rfl ?_
    exact j_iret rfl dX10_reduceTerm_46 (fun rr h => h)
  · refine j_bipush (np := 36) cb_m100 dX10_reduceTerm_34 rfl ?_
    refine j_aload_n (q := 0) (np := 37) rfl rfl dX10_reduceTerm_36 rfl ?_
    refine j_gI (np := 40) flX10_112 dX10_reduceTerm_37 rfl (fun x3 => ?_)
    refine j_isub (np := 41) dX10_reduceTerm_40 rfl ?_
    refine j_goto (tgt := 46) dX10_reduceTerm_41 rfl ?_
    exact j_iret rfl dX10_reduceTerm_46 (fun rr h => h)
def fX10_reduceTerm (N : Nat) (v0 : Nat) (v1 : Int32) (m0 : qM) : Option (Int32 × qM) :=
  (qChk m0 v0 10 (fX10_isTerm N v0 m0)).bind fun b1 =>
  (fX10_in N v1 (0 : Int32) (50 : Int32) b1.2).bind fun b2 =>
  if b2.1 = 0 then (
  kX10_reduceTerm_19 N v0 v1 b2.2
  ) else (
  if b1.1 = 0 then (
  kX10_reduceTerm_19 N v0 v1 b2.2
  ) else (
  (qpI b2.2 v0 10 8 (0 : Int32)).bind fun m3 =>
  (qpI m3 v0 10 32 (0 : Int32)).bind fun m4 =>
  (qChk m4 v0 10 (fX10_readsTerm N kR v0 m4)).bind fun b5 =>
  (qpI b5.2 v0 10 7 (0 : Int32)).bind fun m6 =>
  qTh (lX10_reduceTerm_70 N v0 v1 N b5.1 (0 : Int32) m6) (fun o7 =>
  (qpI o7.2.2 v0 10 11 (0 : Int32)).bind fun m8 =>
  (qChk m8 v0 10 (fX10_tells N kR v0 o7.1 (0 : Int32) m8)).bind fun b9 =>
  some (o7.2.1, b9)
  ) (fun r => r)
  )
  )
set_option maxRecDepth 100000 in
theorem bX10_reduceTerm {E : qE} {N d bc bs : Nat} (hd : 135 ≤ d) {v0 : Nat} {v1 : Int32} {m0 : qM} : qB E yX10_reduceTerm cX10_reduceTerm 6 (some .int) (fun _ => True) d bc bs 0 [(0, .ref (E.2.1 + v0)), (1, .int v1)] [] m0 (fX10_reduceTerm N v0 v1 m0) (fun b rr => rr = (some (.int b.1), b.2)) := by
  unfold fX10_reduceTerm
  refine j_aload_n (q := 0) (np := 1) rfl rfl dX10_reduceTerm_0 rfl ?_
  refine j_callVi (ci := 10) (np := 4) (bc := bc) (bs := bs) (cb := 0) (cs := 0) (dd := d - 1) (As := []) (st := []) caX10_isTerm mlX10_281 imX10_isTerm seX10_isTerm rfl rfl (by decide) (fun b hb => wX10_isTerm (by omega) hb) (by omega) rfl rfl (Nat.le_of_ble_eq_true rfl) dX10_reduceTerm_1 rfl (fun b1 => ?_)
  refine j_istore_n (np := 5) (lv2 := [(2, .int b1.1), (0, .ref (E.2.1 + v0)), (1, .int v1)]) rfl (by decide) dX10_reduceTerm_4 rfl rfl ?_
  refine j_iload_n (q := 2) (np := 6) rfl rfl dX10_reduceTerm_5 rfl ?_
  refine j_iconst (np := 7) ci_0 dX10_reduceTerm_6 rfl ?_
  refine j_bipush (np := 9) cb_50 dX10_reduceTerm_7 rfl ?_
  refine j_callSi (np := 12) (bc := bc) (bs := bs) (cb := 0) (cs := 0) (dd := d - 1) (As := [.int v1, .int (0 : Int32), .int (50 : Int32)]) (st := []) caX10_in mlX10_99 stX10_in (fun b hb => wX10_in (by omega) hb) (by omega) rfl rfl (Nat.le_of_ble_eq_true rfl) dX10_reduceTerm_9 rfl (fun b2 => ?_)
  refine j_if_eq (tgt := 19) (np := 15) dX10_reduceTerm_12 rfl rfl ?_ ?_
  · refine j_sub (lv2 := [(0, .ref (E.2.1 + v0)), (1, .int v1)]) [1, 2] rfl ?_
    exact kbX10_reduceTerm_19 hd
  · refine j_iload_n (q := 0) (np := 16) rfl rfl dX10_reduceTerm_15 rfl ?_
    refine j_if_ne (tgt := 47) (np := 19) dX10_reduceTerm_16 rfl rfl ?_ ?_
    · refine j_aload_n (q := 1) (np := 48) rfl rfl dX10_reduceTerm_47 rfl ?_
      refine j_iconst (np := 49) ci_0 dX10_reduceTerm_48 rfl ?_
      refine j_pI (np := 52) flX10_106 dX10_reduceTerm_49 rfl (fun m3 => ?_)
      refine j_aload_n (q := 1) (np := 53) rfl rfl dX10_reduceTerm_52 rfl ?_
      refine j_iconst (np := 54) ci_0 dX10_reduceTerm_53 rfl ?_
      refine j_pI (np := 57) flX10_284 dX10_reduceTerm_54 rfl (fun m4 => ?_)
      refine j_aload_n (q := 1) (np := 58) rfl rfl dX10_reduceTerm_57 rfl ?_
      refine j_callVi (ci := 10) (np := 61) (bc := bc) (bs := bs) (cb := 0) (cs := 0) (dd := d - 1) (As := []) (st := []) caX10_readsTerm mlX10_291 imX10_readsTerm seX10_readsTerm rfl rfl (by decide) (fun b hb => wX10_readsTerm (by show 130 + _ ≤ _; omega) hb) (by omega) rfl rfl (Nat.le_of_ble_eq_true rfl) dX10_reduceTerm_58 rfl (fun b5 => ?_)
      refine j_istore_n (np := 62) (lv2 := [(3, .int b5.1), (2, .int b1.1), (0, .ref (E.2.1 + v0)), (1, .int v1)]) rfl (by decide) dX10_reduceTerm_61 rfl rfl ?_
      refine j_aload_n (q := 2) (np := 63) rfl rfl dX10_reduceTerm_62 rfl ?_
      refine j_iconst (np := 64) ci_0 dX10_reduceTerm_63 rfl ?_
      refine j_pI (np := 67) flX10_103 dX10_reduceTerm_64 rfl (fun m6 => ?_)
      refine j_iconst (np := 68) ci_0 dX10_reduceTerm_67 rfl ?_
      refine j_istore (np := 70) (lv2 := [(4, .int (0 : Int32)), (3, .int b5.1), (2, .int b1.1), (0, .ref (E.2.1 + v0)), (1, .int v1)]) (by decide) dX10_reduceTerm_68 rfl rfl ?_
      refine j_sub (lv2 := [(0, .ref (E.2.1 + v0)), (1, .int v1), (3, .int b5.1), (4, .int (0 : Int32))]) [3, 4, 1, 0] rfl ?_
      refine j_loopG (xp := 114) (lvX := fun o7 => [(0, .ref (E.2.1 + v0)), (3, .int o7.1), (4, .int o7.2.1)]) (mX := fun o7 => o7.2.2) (lbX10_reduceTerm_70 hd _ _ _ _) (fun r rr h => h) (fun o7 => ?_)
      refine j_aload_n (q := 0) (np := 115) rfl rfl dX10_reduceTerm_114 rfl ?_
      refine j_iconst (np := 116) ci_0 dX10_reduceTerm_115 rfl ?_
      refine j_pI (np := 119) flX10_180 dX10_reduceTerm_116 rfl (fun m8 => ?_)
      refine j_aload_n (q := 0) (np := 120) rfl rfl dX10_reduceTerm_119 rfl ?_
      refine j_iload_n (q := 1) (np := 121) rfl rfl dX10_reduceTerm_120 rfl ?_
      refine j_iconst (np := 122) ci_0 dX10_reduceTerm_121 rfl ?_
      refine j_callVv (ci := 10) (np := 125) (bc := bc) (bs := bs) (cb := 0) (cs := 0) (dd := d - 1) (As := [.int o7.1, .int (0 : Int32)]) (st := []) caX10_tells mlX10_312 imX10_tells seX10_tells rfl rfl (by decide) (fun b hb => wX10_tells (by show 130 + _ ≤ _; omega) hb) (by omega) rfl rfl (Nat.le_of_ble_eq_true rfl) dX10_reduceTerm_122 rfl (fun b9 => ?_)
      refine j_iload (q := 2) (np := 127) rfl dX10_reduceTerm_125 rfl ?_
      exact j_iret rfl dX10_reduceTerm_127 (fun rr h => h)
    · refine j_sub (lv2 := [(0, .ref (E.2.1 + v0)), (1, .int v1)]) [1, 2] rfl ?_
      exact kbX10_reduceTerm_19 hd
set_option maxRecDepth 100000 in
theorem wX10_reduceTerm {E : qE} {N d : Nat} (hd : 135 ≤ d) {v0 : Nat} {v1 : Int32} {m0 : qM} {b : Int32 × qM} (h : fX10_reduceTerm N v0 v1 m0 = some b) : qRun E yX10_reduceTerm cX10_reduceTerm 6 (some .int) d 0 0 [.ref (E.2.1 + v0), .int v1] m0 (some (.int b.1), b.2) := q_met pnX10 (Nat.le_of_ble_eq_true rfl) (bX10_reduceTerm hd b _ h rfl)
theorem dX10_isRow_0 : decode cX10_isRow 0 = .ok (.iload_n 0, 1) := by decide +kernel
theorem dX10_isRow_1 : decode cX10_isRow 1 = .ok (.iconst 0, 1) := by decide +kernel
theorem dX10_isRow_2 : decode cX10_isRow 2 = .ok (.iconst 2, 1) := by decide +kernel
theorem dX10_isRow_3 : decode cX10_isRow 3 = .ok (.invokestatic 99, 3) := by decide +kernel
theorem dX10_isRow_6 : decode cX10_isRow 6 = .ok (.ireturn, 1) := by decide +kernel
def fX10_isRow (N : Nat) (v0 : Int32) (m0 : qM) : Option (Int32 × qM) :=
  (fX10_in N v0 (0 : Int32) (2 : Int32) m0).bind fun b1 =>
  some (b1.1 &&& 1, b1.2)
set_option maxRecDepth 100000 in
theorem bX10_isRow {E : qE} {N d bc bs : Nat} (hd : 1 ≤ d) {v0 : Int32} {m0 : qM} : qB E yX10_isRow cX10_isRow 1 (some .boolean) (fun _ => True) d bc bs 0 [(0, .int v0)] [] m0 (fX10_isRow N v0 m0) (fun b rr => rr = (some (.int b.1), b.2)) := by
  unfold fX10_isRow
  refine j_iload_n (q := 0) (np := 1) rfl rfl dX10_isRow_0 rfl ?_
  refine j_iconst (np := 2) ci_0 dX10_isRow_1 rfl ?_
  refine j_iconst (np := 3) ci_2 dX10_isRow_2 rfl ?_
  refine j_callSi (np := 6) (bc := bc) (bs := bs) (cb := 0) (cs := 0) (dd := d - 1) (As := [.int v0, .int (0 : Int32), .int (2 : Int32)]) (st := []) caX10_in mlX10_99 stX10_in (fun b hb => wX10_in (by omega) hb) (by omega) rfl rfl (Nat.le_of_ble_eq_true rfl) dX10_isRow_3 rfl (fun b1 => ?_)
  exact j_zret rfl dX10_isRow_6 (fun rr h => h)
set_option maxRecDepth 100000 in
theorem wX10_isRow {E : qE} {N d : Nat} (hd : 1 ≤ d) {v0 : Int32} {m0 : qM} {b : Int32 × qM} (h : fX10_isRow N v0 m0 = some b) : qRun E yX10_isRow cX10_isRow 1 (some .boolean) d 0 0 [.int v0] m0 (some (.int b.1), b.2) := q_met pnX10 (Nat.le_of_ble_eq_true rfl) (bX10_isRow hd b _ h rfl)
theorem dX10_allocate_0 : decode cX10_allocate 0 = .ok (.iload_n 1, 1) := by decide +kernel
theorem dX10_allocate_1 : decode cX10_allocate 1 = .ok (.invokestatic 316, 3) := by decide +kernel
theorem dX10_allocate_4 : decode cX10_allocate 4 = .ok (.ifCond .ne 5, 3) := by decide +kernel
theorem dX10_allocate_7 : decode cX10_allocate 7 = .ok (.iconst (-1), 1) := by decide +kernel
theorem dX10_allocate_8 : decode cX10_allocate 8 = .ok (.ireturn, 1) := by decide +kernel
theorem dX10_allocate_9 : decode cX10_allocate 9 = .ok (.iload_n 2, 1) := by decide +kernel
theorem dX10_allocate_10 : decode cX10_allocate 10 = .ok (.iconst 0, 1) := by decide +kernel
theorem dX10_allocate_11 : decode cX10_allocate 11 = .ok (.iconst 2, 1) := by decide +kernel
theorem dX10_allocate_12 : decode cX10_allocate 12 = .ok (.invokestatic 99, 3) := by decide +kernel
theorem dX10_allocate_15 : decode cX10_allocate 15 = .ok (.ifCond .eq 9, 3) := by decide +kernel
theorem dX10_allocate_18 : decode cX10_allocate 18 = .ok (.iload_n 3, 1) := by decide +kernel
theorem dX10_allocate_19 : decode cX10_allocate 19 = .ok (.bipush 80, 2) := by decide +kernel
theorem dX10_allocate_21 : decode cX10_allocate 21 = .ok (.if_icmp .le 6, 3) := by decide +kernel
theorem dX10_allocate_24 : decode cX10_allocate 24 = .ok (.bipush (-2), 2) := by decide +kernel
theorem dX10_allocate_26 : decode cX10_allocate 26 = .ok (.ireturn, 1) := by decide +kernel
theorem dX10_allocate_27 : decode cX10_allocate 27 = .ok (.iload_n 3, 1) := by decide +kernel
theorem dX10_allocate_28 : decode cX10_allocate 28 = .ok (.ifCond .ge 6, 3) := by decide +kernel
theorem dX10_allocate_31 : decode cX10_allocate 31 = .ok (.bipush (-9), 2) := by decide +kernel
theorem dX10_allocate_33 : decode cX10_allocate 33 = .ok (.ireturn, 1) := by decide +kernel
theorem dX10_allocate_34 : decode cX10_allocate 34 = .ok (.aload_n 0, 1) := by decide +kernel
theorem dX10_allocate_35 : decode cX10_allocate 35 = .ok (.getfield 41, 3) := by decide +kernel
theorem dX10_allocate_38 : decode cX10_allocate 38 = .ok (.iload_n 1, 1) := by decide +kernel
theorem dX10_allocate_39 : decode cX10_allocate 39 = .ok (.iload_n 2, 1) := by decide +kernel
theorem dX10_allocate_40 : decode cX10_allocate 40 = .ok (.iastore, 1) := by decide +kernel
theorem dX10_allocate_41 : decode cX10_allocate 41 = .ok (.aload_n 0, 1) := by decide +kernel
theorem dX10_allocate_42 : decode cX10_allocate 42 = .ok (.getfield 44, 3) := by decide +kernel
theorem dX10_allocate_45 : decode cX10_allocate 45 = .ok (.iload_n 1, 1) := by decide +kernel
theorem dX10_allocate_46 : decode cX10_allocate 46 = .ok (.iload_n 3, 1) := by decide +kernel
theorem dX10_allocate_47 : decode cX10_allocate 47 = .ok (.iastore, 1) := by decide +kernel
theorem dX10_allocate_48 : decode cX10_allocate 48 = .ok (.iconst 0, 1) := by decide +kernel
theorem dX10_allocate_49 : decode cX10_allocate 49 = .ok (.istore 4, 2) := by decide +kernel
theorem dX10_allocate_51 : decode cX10_allocate 51 = .ok (.iload 4, 2) := by decide +kernel
theorem dX10_allocate_53 : decode cX10_allocate 53 = .ok (.bipush 80, 2) := by decide +kernel
theorem dX10_allocate_55 : decode cX10_allocate 55 = .ok (.if_icmp .ge 22, 3) := by decide +kernel
theorem dX10_allocate_58 : decode cX10_allocate 58 = .ok (.aload_n 0, 1) := by decide +kernel
theorem dX10_allocate_59 : decode cX10_allocate 59 = .ok (.getfield 47, 3) := by decide +kernel
theorem dX10_allocate_62 : decode cX10_allocate 62 = .ok (.bipush 80, 2) := by decide +kernel
theorem dX10_allocate_64 : decode cX10_allocate 64 = .ok (.iload_n 1, 1) := by decide +kernel
theorem dX10_allocate_65 : decode cX10_allocate 65 = .ok (.imul, 1) := by decide +kernel
theorem dX10_allocate_66 : decode cX10_allocate 66 = .ok (.iload 4, 2) := by decide +kernel
theorem dX10_allocate_68 : decode cX10_allocate 68 = .ok (.iadd, 1) := by decide +kernel
theorem dX10_allocate_69 : decode cX10_allocate 69 = .ok (.iconst 0, 1) := by decide +kernel
theorem dX10_allocate_70 : decode cX10_allocate 70 = .ok (.iastore, 1) := by decide +kernel
theorem dX10_allocate_71 : decode cX10_allocate 71 = .ok (.iinc 4 1, 3) := by decide +kernel
theorem dX10_allocate_74 : decode cX10_allocate 74 = .ok (.goto (-23), 3) := by decide +kernel
theorem dX10_allocate_77 : decode cX10_allocate 77 = .ok (.iload_n 3, 1) := by decide +kernel
theorem dX10_allocate_78 : decode cX10_allocate 78 = .ok (.ireturn, 1) := by decide +kernel
def lX10_allocate_51 (N : Nat) (v0 : Nat) (v1 : Int32) (v3 : Int32) : Nat → Int32 → qM → Option (qM)
  | 0, _, _ => none
  | n + 1, v4, m0 =>
    if (80 : Int32) ≤ v4 then (
    some m0
    ) else (
    (qgR m0 v0 10 17).bind fun x1 =>
    (qwI m0 x1 12 (((80 : Int32) * v1) + v4) (0 : Int32)).bind fun m2 =>
    lX10_allocate_51 N v0 v1 v3 n (v4 + (1 : Int32)) m2
    )
set_option maxRecDepth 100000 in
theorem lbX10_allocate_51 {E : qE} {N d bc bs : Nat} (hd : 2 ≤ d) {v0 : Nat} {v1 : Int32} {v3 : Int32} : ∀ (n : Nat) (v4 : Int32) (m0 : qM), qB E yX10_allocate cX10_allocate 5 (some .int) (fun _ => True) d bc bs 51 [(0, .ref (E.2.1 + v0)), (1, .int v1), (3, .int v3), (4, .int v4)] [] m0 (lX10_allocate_51 N v0 v1 v3 n v4 m0) (fun o rr => qJ E yX10_allocate cX10_allocate 5 (some .int) (fun _ => True) d bc bs 77 [(3, .int v3)] [] o rr) := by
  intro n
  induction n with
  | zero =>
    intro v4 m0
    exact j_none
  | succ n ih =>
    intro v4 m0
    unfold lX10_allocate_51
    refine j_iload (q := 3) (np := 53) rfl dX10_allocate_51 rfl ?_
    refine j_bipush (np := 55) cb_80 dX10_allocate_53 rfl ?_
    refine j_icmp_ge (tgt := 77) (np := 58) dX10_allocate_55 rfl rfl ?_ ?_
    · refine j_sub (lv2 := [(3, .int v3)]) [2] rfl ?_
      exact j_exit (fun rr h => h)
    · refine j_aload_n (q := 0) (np := 59) rfl rfl dX10_allocate_58 rfl ?_
      refine j_gR (np := 62) flX10_47 dX10_allocate_59 rfl (fun x1 => ?_)
      refine j_bipush (np := 64) cb_80 dX10_allocate_62 rfl ?_
      refine j_iload_n (q := 1) (np := 65) rfl rfl dX10_allocate_64 rfl ?_
      refine j_imul (np := 66) dX10_allocate_65 rfl ?_
      refine j_iload (q := 3) (np := 68) rfl dX10_allocate_66 rfl ?_
      refine j_iadd (np := 69) dX10_allocate_68 rfl ?_
      refine j_iconst (np := 70) ci_0 dX10_allocate_69 rfl ?_
      refine j_iastore (np := 71) dX10_allocate_70 rfl (fun m2 => ?_)
      refine j_iinc (q := 3) (np := 74) (lv2 := [(4, .int (v4 + (1 : Int32))), (0, .ref (E.2.1 + v0)), (1, .int v1), (3, .int v3)]) rfl (congrArg _ ci_1) (by decide) dX10_allocate_71 rfl rfl ?_
      refine j_goto (tgt := 51) dX10_allocate_74 rfl ?_
      refine j_sub (lv2 := [(0, .ref (E.2.1 + v0)), (1, .int v1), (3, .int v3), (4, .int (v4 + (1 : Int32)))]) [1, 2, 3, 0] rfl ?_
      exact ih _ _
def fX10_allocate (N : Nat) (v0 : Nat) (v1 : Int32) (v2 : Int32) (v3 : Int32) (m0 : qM) : Option (Int32 × qM) :=
  (fX10_isRow N v1 m0).bind fun b1 =>
  if b1.1 = 0 then (
  some ((-1 : Int32), b1.2)
  ) else (
  (fX10_in N v2 (0 : Int32) (2 : Int32) b1.2).bind fun b2 =>
  if b2.1 = 0 then (
  some ((-2 : Int32), b2.2)
  ) else (
  if v3 ≤ (80 : Int32) then (
  if 0 ≤ v3 then (
  (qgR b2.2 v0 10 15).bind fun x3 =>
  (qwI b2.2 x3 12 v1 v2).bind fun m4 =>
  (qgR m4 v0 10 16).bind fun x5 =>
  (qwI m4 x5 12 v1 v3).bind fun m6 =>
  (lX10_allocate_51 N v0 v1 v3 N (0 : Int32) m6).bind fun o7 =>
  some (v3, o7)
  ) else (
  some ((-9 : Int32), b2.2)
  )
  ) else (
  some ((-2 : Int32), b2.2)
  )
  )
  )
set_option maxRecDepth 100000 in
theorem bX10_allocate {E : qE} {N d bc bs : Nat} (hd : 2 ≤ d) {v0 : Nat} {v1 : Int32} {v2 : Int32} {v3 : Int32} {m0 : qM} : qB E yX10_allocate cX10_allocate 5 (some .int) (fun _ => True) d bc bs 0 [(0, .ref (E.2.1 + v0)), (1, .int v1), (2, .int v2), (3, .int v3)] [] m0 (fX10_allocate N v0 v1 v2 v3 m0) (fun b rr => rr = (some (.int b.1), b.2)) := by
  unfold fX10_allocate
  refine j_iload_n (q := 1) (np := 1) rfl rfl dX10_allocate_0 rfl ?_
  refine j_callSi (np := 4) (bc := bc) (bs := bs) (cb := 0) (cs := 0) (dd := d - 1) (As := [.int v1]) (st := []) caX10_isRow mlX10_316 stX10_isRow (fun b hb => wX10_isRow (by omega) hb) (by omega) rfl rfl (Nat.le_of_ble_eq_true rfl) dX10_allocate_1 rfl (fun b1 => ?_)
  refine j_if_ne (tgt := 9) (np := 7) dX10_allocate_4 rfl rfl ?_ ?_
  · refine j_iload_n (q := 2) (np := 10) rfl rfl dX10_allocate_9 rfl ?_
    refine j_iconst (np := 11) ci_0 dX10_allocate_10 rfl ?_
    refine j_iconst (np := 12) ci_2 dX10_allocate_11 rfl ?_
    refine j_callSi (np := 15) (bc := bc) (bs := bs) (cb := 0) (cs := 0) (dd := d - 1) (As := [.int v2, .int (0 : Int32), .int (2 : Int32)]) (st := []) caX10_in mlX10_99 stX10_in (fun b hb => wX10_in (by omega) hb) (by omega) rfl rfl (Nat.le_of_ble_eq_true rfl) dX10_allocate_12 rfl (fun b2 => ?_)
    refine j_if_eq (tgt := 24) (np := 18) dX10_allocate_15 rfl rfl ?_ ?_
    · refine j_bipush (np := 26) cb_m2 dX10_allocate_24 rfl ?_
      exact j_iret rfl dX10_allocate_26 (fun rr h => h)
    · refine j_iload_n (q := 3) (np := 19) rfl rfl dX10_allocate_18 rfl ?_
      refine j_bipush (np := 21) cb_80 dX10_allocate_19 rfl ?_
      refine j_icmp_le (tgt := 27) (np := 24) dX10_allocate_21 rfl rfl ?_ ?_
      · refine j_iload_n (q := 3) (np := 28) rfl rfl dX10_allocate_27 rfl ?_
        refine j_if_ge (tgt := 34) (np := 31) dX10_allocate_28 rfl rfl ?_ ?_
        · refine j_aload_n (q := 0) (np := 35) rfl rfl dX10_allocate_34 rfl ?_
          refine j_gR (np := 38) flX10_41 dX10_allocate_35 rfl (fun x3 => ?_)
          refine j_iload_n (q := 1) (np := 39) rfl rfl dX10_allocate_38 rfl ?_
          refine j_iload_n (q := 2) (np := 40) rfl rfl dX10_allocate_39 rfl ?_
          refine j_iastore (np := 41) dX10_allocate_40 rfl (fun m4 => ?_)
          refine j_aload_n (q := 0) (np := 42) rfl rfl dX10_allocate_41 rfl ?_
          refine j_gR (np := 45) flX10_44 dX10_allocate_42 rfl (fun x5 => ?_)
          refine j_iload_n (q := 1) (np := 46) rfl rfl dX10_allocate_45 rfl ?_
          refine j_iload_n (q := 3) (np := 47) rfl rfl dX10_allocate_46 rfl ?_
          refine j_iastore (np := 48) dX10_allocate_47 rfl (fun m6 => ?_)
          refine j_iconst (np := 49) ci_0 dX10_allocate_48 rfl ?_
          refine j_istore (np := 51) (lv2 := [(4, .int (0 : Int32)), (0, .ref (E.2.1 + v0)), (1, .int v1), (2, .int v2), (3, .int v3)]) (by decide) dX10_allocate_49 rfl rfl ?_
          refine j_sub (lv2 := [(0, .ref (E.2.1 + v0)), (1, .int v1), (3, .int v3), (4, .int (0 : Int32))]) [1, 2, 4, 0] rfl ?_
          refine j_loop (xp := 77) (lvX := fun o7 => [(3, .int v3)]) (mX := fun o7 => o7) (lbX10_allocate_51 hd _ _ _) (fun o7 => ?_)
          refine j_iload_n (q := 0) (np := 78) rfl rfl dX10_allocate_77 rfl ?_
          exact j_iret rfl dX10_allocate_78 (fun rr h => h)
        · refine j_bipush (np := 33) cb_m9 dX10_allocate_31 rfl ?_
          exact j_iret rfl dX10_allocate_33 (fun rr h => h)
      · refine j_bipush (np := 26) cb_m2 dX10_allocate_24 rfl ?_
        exact j_iret rfl dX10_allocate_26 (fun rr h => h)
  · refine j_iconst (np := 8) ci_m1 dX10_allocate_7 rfl ?_
    exact j_iret rfl dX10_allocate_8 (fun rr h => h)
set_option maxRecDepth 100000 in
theorem wX10_allocate {E : qE} {N d : Nat} (hd : 2 ≤ d) {v0 : Nat} {v1 : Int32} {v2 : Int32} {v3 : Int32} {m0 : qM} {b : Int32 × qM} (h : fX10_allocate N v0 v1 v2 v3 m0 = some b) : qRun E yX10_allocate cX10_allocate 5 (some .int) d 0 0 [.ref (E.2.1 + v0), .int v1, .int v2, .int v3] m0 (some (.int b.1), b.2) := q_met pnX10 (Nat.le_of_ble_eq_true rfl) (bX10_allocate hd b _ h rfl)
theorem dX10_lacks_0 : decode cX10_lacks 0 = .ok (.iload_n 1, 1) := by decide +kernel
theorem dX10_lacks_1 : decode cX10_lacks 1 = .ok (.invokestatic 316, 3) := by decide +kernel
theorem dX10_lacks_4 : decode cX10_lacks 4 = .ok (.ifCond .ne 7, 3) := by decide +kernel
theorem dX10_lacks_7 : decode cX10_lacks 7 = .ok (.iconst (-1), 1) := by decide +kernel
theorem dX10_lacks_8 : decode cX10_lacks 8 = .ok (.goto 18, 3) := by decide +kernel
theorem dX10_lacks_11 : decode cX10_lacks 11 = .ok (.aload_n 0, 1) := by decide +kernel
theorem dX10_lacks_12 : decode cX10_lacks 12 = .ok (.getfield 41, 3) := by decide +kernel
theorem dX10_lacks_15 : decode cX10_lacks 15 = .ok (.iload_n 1, 1) := by decide +kernel
theorem dX10_lacks_16 : decode cX10_lacks 16 = .ok (.iaload, 1) := by decide +kernel
theorem dX10_lacks_17 : decode cX10_lacks 17 = .ok (.ifCond .ge 8, 3) := by decide +kernel
theorem dX10_lacks_20 : decode cX10_lacks 20 = .ok (.bipush (-6), 2) := by decide +kernel
theorem dX10_lacks_22 : decode cX10_lacks 22 = .ok (.goto 4, 3) := by decide +kernel
theorem dX10_lacks_25 : decode cX10_lacks 25 = .ok (.iconst 0, 1) := by decide +kernel
theorem dX10_lacks_26 : decode cX10_lacks 26 = .ok (.ireturn, 1) := by decide +kernel
def fX10_lacks (N : Nat) (v0 : Nat) (v1 : Int32) (m0 : qM) : Option (Int32 × qM) :=
  (fX10_isRow N v1 m0).bind fun b1 =>
  if b1.1 = 0 then (
  some ((-1 : Int32), b1.2)
  ) else (
  (qgR b1.2 v0 10 15).bind fun x2 =>
  (qaI b1.2 x2 12 v1).bind fun x3 =>
  if 0 ≤ x3 then (
  some ((0 : Int32), b1.2)
  ) else (
  some ((-6 : Int32), b1.2)
  )
  )
set_option maxRecDepth 100000 in
theorem bX10_lacks {E : qE} {N d bc bs : Nat} (hd : 2 ≤ d) {v0 : Nat} {v1 : Int32} {m0 : qM} : qB E yX10_lacks cX10_lacks 2 (some .int) (fun _ => True) d bc bs 0 [(0, .ref (E.2.1 + v0)), (1, .int v1)] [] m0 (fX10_lacks N v0 v1 m0) (fun b rr => rr = (some (.int b.1), b.2)) := by
  unfold fX10_lacks
  refine j_iload_n (q := 1) (np := 1) rfl rfl dX10_lacks_0 rfl ?_
  refine j_callSi (np := 4) (bc := bc) (bs := bs) (cb := 0) (cs := 0) (dd := d - 1) (As := [.int v1]) (st := []) caX10_isRow mlX10_316 stX10_isRow (fun b hb => wX10_isRow (by omega) hb) (by omega) rfl rfl (Nat.le_of_ble_eq_true rfl) dX10_lacks_1 rfl (fun b1 => ?_)
  refine j_if_ne (tgt := 11) (np := 7) dX10_lacks_4 rfl rfl ?_ ?_
  · refine j_aload_n (q := 0) (np := 12) rfl rfl dX10_lacks_11 rfl ?_
    refine j_gR (np := 15) flX10_41 dX10_lacks_12 rfl (fun x2 => ?_)
    refine j_iload_n (q := 1) (np := 16) rfl rfl dX10_lacks_15 rfl ?_
    refine j_iaload (np := 17) dX10_lacks_16 rfl (fun x3 => ?_)
    refine j_if_ge (tgt := 25) (np := 20) dX10_lacks_17 rfl rfl ?_ ?_
    · refine j_iconst (np := 26) ci_0 dX10_lacks_25 rfl ?_
      exact j_iret rfl dX10_lacks_26 (fun rr h => h)
    · refine j_bipush (np := 22) cb_m6 dX10_lacks_20 rfl ?_
      refine j_goto (tgt := 26) dX10_lacks_22 rfl ?_
      exact j_iret rfl dX10_lacks_26 (fun rr h => h)
  · refine j_iconst (np := 8) ci_m1 dX10_lacks_7 rfl ?_
    refine j_goto (tgt := 26) dX10_lacks_8 rfl ?_
    exact j_iret rfl dX10_lacks_26 (fun rr h => h)
set_option maxRecDepth 100000 in
theorem wX10_lacks {E : qE} {N d : Nat} (hd : 2 ≤ d) {v0 : Nat} {v1 : Int32} {m0 : qM} {b : Int32 × qM} (h : fX10_lacks N v0 v1 m0 = some b) : qRun E yX10_lacks cX10_lacks 2 (some .int) d 0 0 [.ref (E.2.1 + v0), .int v1] m0 (some (.int b.1), b.2) := q_met pnX10 (Nat.le_of_ble_eq_true rfl) (bX10_lacks hd b _ h rfl)
theorem dX10_sets_0 : decode cX10_sets 0 = .ok (.aload_n 0, 1) := by decide +kernel
theorem dX10_sets_1 : decode cX10_sets 1 = .ok (.getfield 47, 3) := by decide +kernel
theorem dX10_sets_4 : decode cX10_sets 4 = .ok (.bipush 80, 2) := by decide +kernel
theorem dX10_sets_6 : decode cX10_sets 6 = .ok (.iload_n 1, 1) := by decide +kernel
theorem dX10_sets_7 : decode cX10_sets 7 = .ok (.imul, 1) := by decide +kernel
theorem dX10_sets_8 : decode cX10_sets 8 = .ok (.iload_n 2, 1) := by decide +kernel
theorem dX10_sets_9 : decode cX10_sets 9 = .ok (.iadd, 1) := by decide +kernel
theorem dX10_sets_10 : decode cX10_sets 10 = .ok (.aload_n 0, 1) := by decide +kernel
theorem dX10_sets_11 : decode cX10_sets 11 = .ok (.getfield 41, 3) := by decide +kernel
theorem dX10_sets_14 : decode cX10_sets 14 = .ok (.iload_n 1, 1) := by decide +kernel
theorem dX10_sets_15 : decode cX10_sets 15 = .ok (.iaload, 1) := by decide +kernel
theorem dX10_sets_16 : decode cX10_sets 16 = .ok (.ifCond .ne 8, 3) := by decide +kernel
theorem dX10_sets_19 : decode cX10_sets 19 = .ok (.iload_n 3, 1) := by decide +kernel
theorem dX10_sets_20 : decode cX10_sets 20 = .ok (.i2b, 1) := by decide +kernel
theorem dX10_sets_21 : decode cX10_sets 21 = .ok (.goto 19, 3) := by decide +kernel
theorem dX10_sets_24 : decode cX10_sets 24 = .ok (.aload_n 0, 1) := by decide +kernel
theorem dX10_sets_25 : decode cX10_sets 25 = .ok (.getfield 41, 3) := by decide +kernel
theorem dX10_sets_28 : decode cX10_sets 28 = .ok (.iload_n 1, 1) := by decide +kernel
theorem dX10_sets_29 : decode cX10_sets 29 = .ok (.iaload, 1) := by decide +kernel
theorem dX10_sets_30 : decode cX10_sets 30 = .ok (.iconst 1, 1) := by decide +kernel
theorem dX10_sets_31 : decode cX10_sets 31 = .ok (.if_icmp .ne 8, 3) := by decide +kernel
theorem dX10_sets_34 : decode cX10_sets 34 = .ok (.iload_n 3, 1) := by decide +kernel
theorem dX10_sets_35 : decode cX10_sets 35 = .ok (.i2c, 1) := by decide +kernel
theorem dX10_sets_36 : decode cX10_sets 36 = .ok (.goto 4, 3) := by decide +kernel
theorem dX10_sets_39 : decode cX10_sets 39 = .ok (.iload_n 3, 1) := by decide +kernel
theorem dX10_sets_40 : decode cX10_sets 40 = .ok (.iastore, 1) := by decide +kernel
theorem dX10_sets_41 : decode cX10_sets 41 = .ok (.return_, 1) := by decide +kernel
def kX10_sets_40 (N : Nat)  (s0 : Nat) (s1 : Int32) (s2 : Int32) (m0 : qM) : Option (qM) :=
  (qwI m0 s0 12 s1 s2).bind fun m1 =>
  some m1
set_option maxRecDepth 100000 in
theorem kbX10_sets_40 {E : qE} {N d bc bs : Nat} (hd : 0 ≤ d)  {s0 : Nat} {s1 : Int32} {s2 : Int32} {m0 : qM} : qB E yX10_sets cX10_sets 4 none (fun _ => True) d bc bs 40 [] [.int s2, .int s1, .ref (E.2.1 + s0)] m0 (kX10_sets_40 N s0 s1 s2 m0) (fun b rr => rr = (none, b)) := by
  unfold kX10_sets_40
  refine j_iastore (np := 41) dX10_sets_40 rfl (fun m1 => ?_)
  exact j_vret rfl dX10_sets_41 (fun rr h => h)
def fX10_sets (N : Nat) (v0 : Nat) (v1 : Int32) (v2 : Int32) (v3 : Int32) (m0 : qM) : Option (qM) :=
  (qgR m0 v0 10 17).bind fun x1 =>
  (qgR m0 v0 10 15).bind fun x2 =>
  (qaI m0 x2 12 v1).bind fun x3 =>
  if x3 = 0 then (
  kX10_sets_40 N x1 (((80 : Int32) * v1) + v2) v3.toInt8.toInt32 m0
  ) else (
  (qgR m0 v0 10 15).bind fun x4 =>
  (qaI m0 x4 12 v1).bind fun x5 =>
  if x5 = (1 : Int32) then (
  kX10_sets_40 N x1 (((80 : Int32) * v1) + v2) ((v3.toUInt32 % 65536).toInt32) m0
  ) else (
  kX10_sets_40 N x1 (((80 : Int32) * v1) + v2) v3 m0
  )
  )
set_option maxRecDepth 100000 in
theorem bX10_sets {E : qE} {N d bc bs : Nat} (hd : 0 ≤ d) {v0 : Nat} {v1 : Int32} {v2 : Int32} {v3 : Int32} {m0 : qM} : qB E yX10_sets cX10_sets 4 none (fun _ => True) d bc bs 0 [(0, .ref (E.2.1 + v0)), (1, .int v1), (2, .int v2), (3, .int v3)] [] m0 (fX10_sets N v0 v1 v2 v3 m0) (fun b rr => rr = (none, b)) := by
  unfold fX10_sets
  refine j_aload_n (q := 0) (np := 1) rfl rfl dX10_sets_0 rfl ?_
  refine j_gR (np := 4) flX10_47 dX10_sets_1 rfl (fun x1 => ?_)
  refine j_bipush (np := 6) cb_80 dX10_sets_4 rfl ?_
  refine j_iload_n (q := 1) (np := 7) rfl rfl dX10_sets_6 rfl ?_
  refine j_imul (np := 8) dX10_sets_7 rfl ?_
  refine j_iload_n (q := 2) (np := 9) rfl rfl dX10_sets_8 rfl ?_
  refine j_iadd (np := 10) dX10_sets_9 rfl ?_
  refine j_aload_n (q := 0) (np := 11) rfl rfl dX10_sets_10 rfl ?_
  refine j_gR (np := 14) flX10_41 dX10_sets_11 rfl (fun x2 => ?_)
  refine j_iload_n (q := 1) (np := 15) rfl rfl dX10_sets_14 rfl ?_
  refine j_iaload (np := 16) dX10_sets_15 rfl (fun x3 => ?_)
  refine j_if_ne (tgt := 24) (np := 19) dX10_sets_16 rfl rfl ?_ ?_
  · refine j_aload_n (q := 0) (np := 25) rfl rfl dX10_sets_24 rfl ?_
    refine j_gR (np := 28) flX10_41 dX10_sets_25 rfl (fun x4 => ?_)
    refine j_iload_n (q := 1) (np := 29) rfl rfl dX10_sets_28 rfl ?_
    refine j_iaload (np := 30) dX10_sets_29 rfl (fun x5 => ?_)
    refine j_iconst (np := 31) ci_1 dX10_sets_30 rfl ?_
    refine j_icmp_ne (tgt := 39) (np := 34) dX10_sets_31 rfl rfl ?_ ?_
    · refine j_iload_n (q := 3) (np := 40) rfl rfl dX10_sets_39 rfl ?_
      refine j_sub (lv2 := []) [] rfl ?_
      exact kbX10_sets_40 hd
    · refine j_iload_n (q := 3) (np := 35) rfl rfl dX10_sets_34 rfl ?_
      refine j_i2c (np := 36) dX10_sets_35 rfl ?_
      refine j_goto (tgt := 40) dX10_sets_36 rfl ?_
      refine j_sub (lv2 := []) [] rfl ?_
      exact kbX10_sets_40 hd
  · refine j_iload_n (q := 3) (np := 20) rfl rfl dX10_sets_19 rfl ?_
    refine j_i2b (np := 21) dX10_sets_20 rfl ?_
    refine j_goto (tgt := 40) dX10_sets_21 rfl ?_
    refine j_sub (lv2 := []) [] rfl ?_
    exact kbX10_sets_40 hd
set_option maxRecDepth 100000 in
theorem wX10_sets {E : qE} {N d : Nat} (hd : 0 ≤ d) {v0 : Nat} {v1 : Int32} {v2 : Int32} {v3 : Int32} {m0 : qM} {b : qM} (h : fX10_sets N v0 v1 v2 v3 m0 = some b) : qRun E yX10_sets cX10_sets 4 none d 0 0 [.ref (E.2.1 + v0), .int v1, .int v2, .int v3] m0 (none, b) := q_met pnX10 (Nat.le_of_ble_eq_true rfl) (bX10_sets hd b _ h rfl)
theorem dX10_put_0 : decode cX10_put 0 = .ok (.aload_n 0, 1) := by decide +kernel
theorem dX10_put_1 : decode cX10_put 1 = .ok (.iload_n 1, 1) := by decide +kernel
theorem dX10_put_2 : decode cX10_put 2 = .ok (.invokevirtual 319, 3) := by decide +kernel
theorem dX10_put_5 : decode cX10_put 5 = .ok (.istore 4, 2) := by decide +kernel
theorem dX10_put_7 : decode cX10_put 7 = .ok (.iload 4, 2) := by decide +kernel
theorem dX10_put_9 : decode cX10_put 9 = .ok (.ifCond .ge 6, 3) := by decide +kernel
theorem dX10_put_12 : decode cX10_put 12 = .ok (.iload 4, 2) := by decide +kernel
theorem dX10_put_14 : decode cX10_put 14 = .ok (.ireturn, 1) := by decide +kernel
theorem dX10_put_15 : decode cX10_put 15 = .ok (.iload_n 2, 1) := by decide +kernel
theorem dX10_put_16 : decode cX10_put 16 = .ok (.iconst 0, 1) := by decide +kernel
theorem dX10_put_17 : decode cX10_put 17 = .ok (.aload_n 0, 1) := by decide +kernel
theorem dX10_put_18 : decode cX10_put 18 = .ok (.getfield 44, 3) := by decide +kernel
theorem dX10_put_21 : decode cX10_put 21 = .ok (.iload_n 1, 1) := by decide +kernel
theorem dX10_put_22 : decode cX10_put 22 = .ok (.iaload, 1) := by decide +kernel
theorem dX10_put_23 : decode cX10_put 23 = .ok (.iconst 1, 1) := by decide +kernel
theorem dX10_put_24 : decode cX10_put 24 = .ok (.isub, 1) := by decide +kernel
theorem dX10_put_25 : decode cX10_put 25 = .ok (.invokestatic 99, 3) := by decide +kernel
theorem dX10_put_28 : decode cX10_put 28 = .ok (.ifCond .ne 6, 3) := by decide +kernel
theorem dX10_put_31 : decode cX10_put 31 = .ok (.bipush (-8), 2) := by decide +kernel
theorem dX10_put_33 : decode cX10_put 33 = .ok (.ireturn, 1) := by decide +kernel
theorem dX10_put_34 : decode cX10_put 34 = .ok (.aload_n 0, 1) := by decide +kernel
theorem dX10_put_35 : decode cX10_put 35 = .ok (.iload_n 1, 1) := by decide +kernel
theorem dX10_put_36 : decode cX10_put 36 = .ok (.iload_n 2, 1) := by decide +kernel
theorem dX10_put_37 : decode cX10_put 37 = .ok (.iload_n 3, 1) := by decide +kernel
theorem dX10_put_38 : decode cX10_put 38 = .ok (.invokevirtual 322, 3) := by decide +kernel
theorem dX10_put_41 : decode cX10_put 41 = .ok (.iconst 1, 1) := by decide +kernel
theorem dX10_put_42 : decode cX10_put 42 = .ok (.ireturn, 1) := by decide +kernel
def fX10_put (N : Nat) (v0 : Nat) (v1 : Int32) (v2 : Int32) (v3 : Int32) (m0 : qM) : Option (Int32 × qM) :=
  (qChk m0 v0 10 (fX10_lacks N v0 v1 m0)).bind fun b1 =>
  if 0 ≤ b1.1 then (
  (qgR b1.2 v0 10 16).bind fun x2 =>
  (qaI b1.2 x2 12 v1).bind fun x3 =>
  (fX10_in N v2 (0 : Int32) (x3 - (1 : Int32)) b1.2).bind fun b4 =>
  if b4.1 = 0 then (
  some ((-8 : Int32), b4.2)
  ) else (
  (qChk b4.2 v0 10 (fX10_sets N v0 v1 v2 v3 b4.2)).bind fun b5 =>
  some ((1 : Int32), b5)
  )
  ) else (
  some (b1.1, b1.2)
  )
set_option maxRecDepth 100000 in
theorem bX10_put {E : qE} {N d bc bs : Nat} (hd : 3 ≤ d) {v0 : Nat} {v1 : Int32} {v2 : Int32} {v3 : Int32} {m0 : qM} : qB E yX10_put cX10_put 5 (some .int) (fun _ => True) d bc bs 0 [(0, .ref (E.2.1 + v0)), (1, .int v1), (2, .int v2), (3, .int v3)] [] m0 (fX10_put N v0 v1 v2 v3 m0) (fun b rr => rr = (some (.int b.1), b.2)) := by
  unfold fX10_put
  refine j_aload_n (q := 0) (np := 1) rfl rfl dX10_put_0 rfl ?_
  refine j_iload_n (q := 1) (np := 2) rfl rfl dX10_put_1 rfl ?_
  refine j_callVi (ci := 10) (np := 5) (bc := bc) (bs := bs) (cb := 0) (cs := 0) (dd := d - 1) (As := [.int v1]) (st := []) caX10_lacks mlX10_319 imX10_lacks seX10_lacks rfl rfl (by decide) (fun b hb => wX10_lacks (by omega) hb) (by omega) rfl rfl (Nat.le_of_ble_eq_true rfl) dX10_put_2 rfl (fun b1 => ?_)
  refine j_istore (np := 7) (lv2 := [(4, .int b1.1), (0, .ref (E.2.1 + v0)), (1, .int v1), (2, .int v2), (3, .int v3)]) (by decide) dX10_put_5 rfl rfl ?_
  refine j_iload (q := 0) (np := 9) rfl dX10_put_7 rfl ?_
  refine j_if_ge (tgt := 15) (np := 12) dX10_put_9 rfl rfl ?_ ?_
  · refine j_iload_n (q := 3) (np := 16) rfl rfl dX10_put_15 rfl ?_
    refine j_iconst (np := 17) ci_0 dX10_put_16 rfl ?_
    refine j_aload_n (q := 1) (np := 18) rfl rfl dX10_put_17 rfl ?_
    refine j_gR (np := 21) flX10_44 dX10_put_18 rfl (fun x2 => ?_)
    refine j_iload_n (q := 2) (np := 22) rfl rfl dX10_put_21 rfl ?_
    refine j_iaload (np := 23) dX10_put_22 rfl (fun x3 => ?_)
    refine j_iconst (np := 24) ci_1 dX10_put_23 rfl ?_
    refine j_isub (np := 25) dX10_put_24 rfl ?_
    refine j_callSi (np := 28) (bc := bc) (bs := bs) (cb := 0) (cs := 0) (dd := d - 1) (As := [.int v2, .int (0 : Int32), .int (x3 - (1 : Int32))]) (st := []) caX10_in mlX10_99 stX10_in (fun b hb => wX10_in (by omega) hb) (by omega) rfl rfl (Nat.le_of_ble_eq_true rfl) dX10_put_25 rfl (fun b4 => ?_)
    refine j_if_ne (tgt := 34) (np := 31) dX10_put_28 rfl rfl ?_ ?_
    · refine j_aload_n (q := 1) (np := 35) rfl rfl dX10_put_34 rfl ?_
      refine j_iload_n (q := 2) (np := 36) rfl rfl dX10_put_35 rfl ?_
      refine j_iload_n (q := 3) (np := 37) rfl rfl dX10_put_36 rfl ?_
      refine j_iload_n (q := 4) (np := 38) rfl rfl dX10_put_37 rfl ?_
      refine j_callVv (ci := 10) (np := 41) (bc := bc) (bs := bs) (cb := 0) (cs := 0) (dd := d - 1) (As := [.int v1, .int v2, .int v3]) (st := []) caX10_sets mlX10_322 imX10_sets seX10_sets rfl rfl (by decide) (fun b hb => wX10_sets (by omega) hb) (by omega) rfl rfl (Nat.le_of_ble_eq_true rfl) dX10_put_38 rfl (fun b5 => ?_)
      refine j_iconst (np := 42) ci_1 dX10_put_41 rfl ?_
      exact j_iret rfl dX10_put_42 (fun rr h => h)
    · refine j_bipush (np := 33) cb_m8 dX10_put_31 rfl ?_
      exact j_iret rfl dX10_put_33 (fun rr h => h)
  · refine j_iload (q := 0) (np := 14) rfl dX10_put_12 rfl ?_
    exact j_iret rfl dX10_put_14 (fun rr h => h)
set_option maxRecDepth 100000 in
theorem wX10_put {E : qE} {N d : Nat} (hd : 3 ≤ d) {v0 : Nat} {v1 : Int32} {v2 : Int32} {v3 : Int32} {m0 : qM} {b : Int32 × qM} (h : fX10_put N v0 v1 v2 v3 m0 = some b) : qRun E yX10_put cX10_put 5 (some .int) d 0 0 [.ref (E.2.1 + v0), .int v1, .int v2, .int v3] m0 (some (.int b.1), b.2) := q_met pnX10 (Nat.le_of_ble_eq_true rfl) (bX10_put hd b _ h rfl)
theorem dX10_rowElement_0 : decode cX10_rowElement 0 = .ok (.aload_n 0, 1) := by decide +kernel
theorem dX10_rowElement_1 : decode cX10_rowElement 1 = .ok (.iload_n 1, 1) := by decide +kernel
theorem dX10_rowElement_2 : decode cX10_rowElement 2 = .ok (.invokevirtual 319, 3) := by decide +kernel
theorem dX10_rowElement_5 : decode cX10_rowElement 5 = .ok (.ifCond .lt 19, 3) := by decide +kernel
theorem dX10_rowElement_8 : decode cX10_rowElement 8 = .ok (.iload_n 2, 1) := by decide +kernel
theorem dX10_rowElement_9 : decode cX10_rowElement 9 = .ok (.iconst 0, 1) := by decide +kernel
theorem dX10_rowElement_10 : decode cX10_rowElement 10 = .ok (.aload_n 0, 1) := by decide +kernel
theorem dX10_rowElement_11 : decode cX10_rowElement 11 = .ok (.getfield 44, 3) := by decide +kernel
theorem dX10_rowElement_14 : decode cX10_rowElement 14 = .ok (.iload_n 1, 1) := by decide +kernel
theorem dX10_rowElement_15 : decode cX10_rowElement 15 = .ok (.iaload, 1) := by decide +kernel
theorem dX10_rowElement_16 : decode cX10_rowElement 16 = .ok (.iconst 1, 1) := by decide +kernel
theorem dX10_rowElement_17 : decode cX10_rowElement 17 = .ok (.isub, 1) := by decide +kernel
theorem dX10_rowElement_18 : decode cX10_rowElement 18 = .ok (.invokestatic 99, 3) := by decide +kernel
theorem dX10_rowElement_21 : decode cX10_rowElement 21 = .ok (.ifCond .ne 9, 3) := by decide +kernel
theorem dX10_rowElement_24 : decode cX10_rowElement 24 = .ok (.ldc2_w 328, 3) := by decide +kernel
theorem dX10_rowElement_27 : decode cX10_rowElement 27 = .ok (.goto 15, 3) := by decide +kernel
theorem dX10_rowElement_30 : decode cX10_rowElement 30 = .ok (.aload_n 0, 1) := by decide +kernel
theorem dX10_rowElement_31 : decode cX10_rowElement 31 = .ok (.getfield 47, 3) := by decide +kernel
theorem dX10_rowElement_34 : decode cX10_rowElement 34 = .ok (.bipush 80, 2) := by decide +kernel
theorem dX10_rowElement_36 : decode cX10_rowElement 36 = .ok (.iload_n 1, 1) := by decide +kernel
theorem dX10_rowElement_37 : decode cX10_rowElement 37 = .ok (.imul, 1) := by decide +kernel
theorem dX10_rowElement_38 : decode cX10_rowElement 38 = .ok (.iload_n 2, 1) := by decide +kernel
theorem dX10_rowElement_39 : decode cX10_rowElement 39 = .ok (.iadd, 1) := by decide +kernel
theorem dX10_rowElement_40 : decode cX10_rowElement 40 = .ok (.iaload, 1) := by decide +kernel
theorem dX10_rowElement_41 : decode cX10_rowElement 41 = .ok (.i2l, 1) := by decide +kernel
theorem dX10_rowElement_42 : decode cX10_rowElement 42 = .ok (.lreturn, 1) := by decide +kernel
def fX10_rowElement (N : Nat) (v0 : Nat) (v1 : Int32) (v2 : Int32) (m0 : qM) : Option (Int64 × qM) :=
  (qChk m0 v0 10 (fX10_lacks N v0 v1 m0)).bind fun b1 =>
  if b1.1 < 0 then (
  some ((-9223372036854775808 : Int64), b1.2)
  ) else (
  (qgR b1.2 v0 10 16).bind fun x2 =>
  (qaI b1.2 x2 12 v1).bind fun x3 =>
  (fX10_in N v2 (0 : Int32) (x3 - (1 : Int32)) b1.2).bind fun b4 =>
  if b4.1 = 0 then (
  some ((-9223372036854775808 : Int64), b4.2)
  ) else (
  (qgR b4.2 v0 10 17).bind fun x5 =>
  (qaI b4.2 x5 12 (((80 : Int32) * v1) + v2)).bind fun x6 =>
  some (x6.toInt64, b4.2)
  )
  )
set_option maxRecDepth 100000 in
theorem bX10_rowElement {E : qE} {N d bc bs : Nat} (hd : 3 ≤ d) {v0 : Nat} {v1 : Int32} {v2 : Int32} {m0 : qM} : qB E yX10_rowElement cX10_rowElement 3 (some .long) (fun _ => True) d bc bs 0 [(0, .ref (E.2.1 + v0)), (1, .int v1), (2, .int v2)] [] m0 (fX10_rowElement N v0 v1 v2 m0) (fun b rr => rr = (some (.long b.1), b.2)) := by
  unfold fX10_rowElement
  refine j_aload_n (q := 0) (np := 1) rfl rfl dX10_rowElement_0 rfl ?_
  refine j_iload_n (q := 1) (np := 2) rfl rfl dX10_rowElement_1 rfl ?_
  refine j_callVi (ci := 10) (np := 5) (bc := bc) (bs := bs) (cb := 0) (cs := 0) (dd := d - 1) (As := [.int v1]) (st := []) caX10_lacks mlX10_319 imX10_lacks seX10_lacks rfl rfl (by decide) (fun b hb => wX10_lacks (by omega) hb) (by omega) rfl rfl (Nat.le_of_ble_eq_true rfl) dX10_rowElement_2 rfl (fun b1 => ?_)
  refine j_if_lt (tgt := 24) (np := 8) dX10_rowElement_5 rfl rfl ?_ ?_
  · refine j_ldc2 (np := 27) lgX10_328 dX10_rowElement_24 rfl ?_
    refine j_goto (tgt := 42) dX10_rowElement_27 rfl ?_
    exact j_lret rfl dX10_rowElement_42 (fun rr h => h)
  · refine j_iload_n (q := 2) (np := 9) rfl rfl dX10_rowElement_8 rfl ?_
    refine j_iconst (np := 10) ci_0 dX10_rowElement_9 rfl ?_
    refine j_aload_n (q := 0) (np := 11) rfl rfl dX10_rowElement_10 rfl ?_
    refine j_gR (np := 14) flX10_44 dX10_rowElement_11 rfl (fun x2 => ?_)
    refine j_iload_n (q := 1) (np := 15) rfl rfl dX10_rowElement_14 rfl ?_
    refine j_iaload (np := 16) dX10_rowElement_15 rfl (fun x3 => ?_)
    refine j_iconst (np := 17) ci_1 dX10_rowElement_16 rfl ?_
    refine j_isub (np := 18) dX10_rowElement_17 rfl ?_
    refine j_callSi (np := 21) (bc := bc) (bs := bs) (cb := 0) (cs := 0) (dd := d - 1) (As := [.int v2, .int (0 : Int32), .int (x3 - (1 : Int32))]) (st := []) caX10_in mlX10_99 stX10_in (fun b hb => wX10_in (by omega) hb) (by omega) rfl rfl (Nat.le_of_ble_eq_true rfl) dX10_rowElement_18 rfl (fun b4 => ?_)
    refine j_if_ne (tgt := 30) (np := 24) dX10_rowElement_21 rfl rfl ?_ ?_
    · refine j_aload_n (q := 0) (np := 31) rfl rfl dX10_rowElement_30 rfl ?_
      refine j_gR (np := 34) flX10_47 dX10_rowElement_31 rfl (fun x5 => ?_)
      refine j_bipush (np := 36) cb_80 dX10_rowElement_34 rfl ?_
      refine j_iload_n (q := 1) (np := 37) rfl rfl dX10_rowElement_36 rfl ?_
      refine j_imul (np := 38) dX10_rowElement_37 rfl ?_
      refine j_iload_n (q := 2) (np := 39) rfl rfl dX10_rowElement_38 rfl ?_
      refine j_iadd (np := 40) dX10_rowElement_39 rfl ?_
      refine j_iaload (np := 41) dX10_rowElement_40 rfl (fun x6 => ?_)
      refine j_i2l (np := 42) dX10_rowElement_41 rfl ?_
      exact j_lret rfl dX10_rowElement_42 (fun rr h => h)
    · refine j_ldc2 (np := 27) lgX10_328 dX10_rowElement_24 rfl ?_
      refine j_goto (tgt := 42) dX10_rowElement_27 rfl ?_
      exact j_lret rfl dX10_rowElement_42 (fun rr h => h)
set_option maxRecDepth 100000 in
theorem wX10_rowElement {E : qE} {N d : Nat} (hd : 3 ≤ d) {v0 : Nat} {v1 : Int32} {v2 : Int32} {m0 : qM} {b : Int64 × qM} (h : fX10_rowElement N v0 v1 v2 m0 = some b) : qRun E yX10_rowElement cX10_rowElement 3 (some .long) d 0 0 [.ref (E.2.1 + v0), .int v1, .int v2] m0 (some (.long b.1), b.2) := q_met pnX10 (Nat.le_of_ble_eq_true rfl) (bX10_rowElement hd b _ h rfl)
theorem dX10_copyElements_0 : decode cX10_copyElements 0 = .ok (.iload_n 1, 1) := by decide +kernel
theorem dX10_copyElements_1 : decode cX10_copyElements 1 = .ok (.invokestatic 316, 3) := by decide +kernel
theorem dX10_copyElements_4 : decode cX10_copyElements 4 = .ok (.ifCond .eq 10, 3) := by decide +kernel
theorem dX10_copyElements_7 : decode cX10_copyElements 7 = .ok (.iload_n 3, 1) := by decide +kernel
theorem dX10_copyElements_8 : decode cX10_copyElements 8 = .ok (.invokestatic 316, 3) := by decide +kernel
theorem dX10_copyElements_11 : decode cX10_copyElements 11 = .ok (.ifCond .ne 5, 3) := by decide +kernel
theorem dX10_copyElements_14 : decode cX10_copyElements 14 = .ok (.iconst (-1), 1) := by decide +kernel
theorem dX10_copyElements_15 : decode cX10_copyElements 15 = .ok (.ireturn, 1) := by decide +kernel
theorem dX10_copyElements_16 : decode cX10_copyElements 16 = .ok (.aload_n 0, 1) := by decide +kernel
theorem dX10_copyElements_17 : decode cX10_copyElements 17 = .ok (.getfield 41, 3) := by decide +kernel
theorem dX10_copyElements_20 : decode cX10_copyElements 20 = .ok (.iload_n 1, 1) := by decide +kernel
theorem dX10_copyElements_21 : decode cX10_copyElements 21 = .ok (.iaload, 1) := by decide +kernel
theorem dX10_copyElements_22 : decode cX10_copyElements 22 = .ok (.ifCond .lt 12, 3) := by decide +kernel
theorem dX10_copyElements_25 : decode cX10_copyElements 25 = .ok (.aload_n 0, 1) := by decide +kernel
theorem dX10_copyElements_26 : decode cX10_copyElements 26 = .ok (.getfield 41, 3) := by decide +kernel
theorem dX10_copyElements_29 : decode cX10_copyElements 29 = .ok (.iload_n 3, 1) := by decide +kernel
theorem dX10_copyElements_30 : decode cX10_copyElements 30 = .ok (.iaload, 1) := by decide +kernel
theorem dX10_copyElements_31 : decode cX10_copyElements 31 = .ok (.ifCond .ge 6, 3) := by decide +kernel
theorem dX10_copyElements_34 : decode cX10_copyElements 34 = .ok (.bipush (-6), 2) := by decide +kernel
theorem dX10_copyElements_36 : decode cX10_copyElements 36 = .ok (.ireturn, 1) := by decide +kernel
theorem dX10_copyElements_37 : decode cX10_copyElements 37 = .ok (.aload_n 0, 1) := by decide +kernel
theorem dX10_copyElements_38 : decode cX10_copyElements 38 = .ok (.getfield 41, 3) := by decide +kernel
theorem dX10_copyElements_41 : decode cX10_copyElements 41 = .ok (.iload_n 1, 1) := by decide +kernel
theorem dX10_copyElements_42 : decode cX10_copyElements 42 = .ok (.iaload, 1) := by decide +kernel
theorem dX10_copyElements_43 : decode cX10_copyElements 43 = .ok (.aload_n 0, 1) := by decide +kernel
theorem dX10_copyElements_44 : decode cX10_copyElements 44 = .ok (.getfield 41, 3) := by decide +kernel
theorem dX10_copyElements_47 : decode cX10_copyElements 47 = .ok (.iload_n 3, 1) := by decide +kernel
theorem dX10_copyElements_48 : decode cX10_copyElements 48 = .ok (.iaload, 1) := by decide +kernel
theorem dX10_copyElements_49 : decode cX10_copyElements 49 = .ok (.if_icmp .eq 6, 3) := by decide +kernel
theorem dX10_copyElements_52 : decode cX10_copyElements 52 = .ok (.bipush (-7), 2) := by decide +kernel
theorem dX10_copyElements_54 : decode cX10_copyElements 54 = .ok (.ireturn, 1) := by decide +kernel
theorem dX10_copyElements_55 : decode cX10_copyElements 55 = .ok (.iload_n 2, 1) := by decide +kernel
theorem dX10_copyElements_56 : decode cX10_copyElements 56 = .ok (.ifCond .lt 48, 3) := by decide +kernel
theorem dX10_copyElements_59 : decode cX10_copyElements 59 = .ok (.iload 4, 2) := by decide +kernel
theorem dX10_copyElements_61 : decode cX10_copyElements 61 = .ok (.ifCond .lt 43, 3) := by decide +kernel
theorem dX10_copyElements_64 : decode cX10_copyElements 64 = .ok (.iload 5, 2) := by decide +kernel
theorem dX10_copyElements_66 : decode cX10_copyElements 66 = .ok (.ifCond .lt 38, 3) := by decide +kernel
theorem dX10_copyElements_69 : decode cX10_copyElements 69 = .ok (.iload_n 2, 1) := by decide +kernel
theorem dX10_copyElements_70 : decode cX10_copyElements 70 = .ok (.i2l, 1) := by decide +kernel
theorem dX10_copyElements_71 : decode cX10_copyElements 71 = .ok (.iload 5, 2) := by decide +kernel
theorem dX10_copyElements_73 : decode cX10_copyElements 73 = .ok (.i2l, 1) := by decide +kernel
theorem dX10_copyElements_74 : decode cX10_copyElements 74 = .ok (.ladd, 1) := by decide +kernel
theorem dX10_copyElements_75 : decode cX10_copyElements 75 = .ok (.aload_n 0, 1) := by decide +kernel
theorem dX10_copyElements_76 : decode cX10_copyElements 76 = .ok (.getfield 44, 3) := by decide +kernel
theorem dX10_copyElements_79 : decode cX10_copyElements 79 = .ok (.iload_n 1, 1) := by decide +kernel
theorem dX10_copyElements_80 : decode cX10_copyElements 80 = .ok (.iaload, 1) := by decide +kernel
theorem dX10_copyElements_81 : decode cX10_copyElements 81 = .ok (.i2l, 1) := by decide +kernel
theorem dX10_copyElements_82 : decode cX10_copyElements 82 = .ok (.lcmp, 1) := by decide +kernel
theorem dX10_copyElements_83 : decode cX10_copyElements 83 = .ok (.ifCond .gt 21, 3) := by decide +kernel
theorem dX10_copyElements_86 : decode cX10_copyElements 86 = .ok (.iload 4, 2) := by decide +kernel
theorem dX10_copyElements_88 : decode cX10_copyElements 88 = .ok (.i2l, 1) := by decide +kernel
theorem dX10_copyElements_89 : decode cX10_copyElements 89 = .ok (.iload 5, 2) := by decide +kernel
theorem dX10_copyElements_91 : decode cX10_copyElements 91 = .ok (.i2l, 1) := by decide +kernel
theorem dX10_copyElements_92 : decode cX10_copyElements 92 = .ok (.ladd, 1) := by decide +kernel
theorem dX10_copyElements_93 : decode cX10_copyElements 93 = .ok (.aload_n 0, 1) := by decide +kernel
theorem dX10_copyElements_94 : decode cX10_copyElements 94 = .ok (.getfield 44, 3) := by decide +kernel
theorem dX10_copyElements_97 : decode cX10_copyElements 97 = .ok (.iload_n 3, 1) := by decide +kernel
theorem dX10_copyElements_98 : decode cX10_copyElements 98 = .ok (.iaload, 1) := by decide +kernel
theorem dX10_copyElements_99 : decode cX10_copyElements 99 = .ok (.i2l, 1) := by decide +kernel
theorem dX10_copyElements_100 : decode cX10_copyElements 100 = .ok (.lcmp, 1) := by decide +kernel
theorem dX10_copyElements_101 : decode cX10_copyElements 101 = .ok (.ifCond .le 6, 3) := by decide +kernel
theorem dX10_copyElements_104 : decode cX10_copyElements 104 = .ok (.bipush (-8), 2) := by decide +kernel
theorem dX10_copyElements_106 : decode cX10_copyElements 106 = .ok (.ireturn, 1) := by decide +kernel
theorem dX10_copyElements_107 : decode cX10_copyElements 107 = .ok (.iload 5, 2) := by decide +kernel
theorem dX10_copyElements_109 : decode cX10_copyElements 109 = .ok (.newarray .int, 2) := by decide +kernel
theorem dX10_copyElements_111 : decode cX10_copyElements 111 = .ok (.astore 6, 2) := by decide +kernel
theorem dX10_copyElements_113 : decode cX10_copyElements 113 = .ok (.iconst 0, 1) := by decide +kernel
theorem dX10_copyElements_114 : decode cX10_copyElements 114 = .ok (.istore 7, 2) := by decide +kernel
theorem dX10_copyElements_116 : decode cX10_copyElements 116 = .ok (.iload 7, 2) := by decide +kernel
theorem dX10_copyElements_118 : decode cX10_copyElements 118 = .ok (.iload 5, 2) := by decide +kernel
theorem dX10_copyElements_120 : decode cX10_copyElements 120 = .ok (.if_icmp .ge 28, 3) := by decide +kernel
theorem dX10_copyElements_123 : decode cX10_copyElements 123 = .ok (.aload 6, 2) := by decide +kernel
theorem dX10_copyElements_125 : decode cX10_copyElements 125 = .ok (.iload 7, 2) := by decide +kernel
theorem dX10_copyElements_127 : decode cX10_copyElements 127 = .ok (.aload_n 0, 1) := by decide +kernel
theorem dX10_copyElements_128 : decode cX10_copyElements 128 = .ok (.getfield 47, 3) := by decide +kernel
theorem dX10_copyElements_131 : decode cX10_copyElements 131 = .ok (.bipush 80, 2) := by decide +kernel
theorem dX10_copyElements_133 : decode cX10_copyElements 133 = .ok (.iload_n 1, 1) := by decide +kernel
theorem dX10_copyElements_134 : decode cX10_copyElements 134 = .ok (.imul, 1) := by decide +kernel
theorem dX10_copyElements_135 : decode cX10_copyElements 135 = .ok (.iload_n 2, 1) := by decide +kernel
theorem dX10_copyElements_136 : decode cX10_copyElements 136 = .ok (.iadd, 1) := by decide +kernel
theorem dX10_copyElements_137 : decode cX10_copyElements 137 = .ok (.iload 7, 2) := by decide +kernel
theorem dX10_copyElements_139 : decode cX10_copyElements 139 = .ok (.iadd, 1) := by decide +kernel
theorem dX10_copyElements_140 : decode cX10_copyElements 140 = .ok (.iaload, 1) := by decide +kernel
theorem dX10_copyElements_141 : decode cX10_copyElements 141 = .ok (.iastore, 1) := by decide +kernel
theorem dX10_copyElements_142 : decode cX10_copyElements 142 = .ok (.iinc 7 1, 3) := by decide +kernel
theorem dX10_copyElements_145 : decode cX10_copyElements 145 = .ok (.goto (-29), 3) := by decide +kernel
theorem dX10_copyElements_148 : decode cX10_copyElements 148 = .ok (.iconst 0, 1) := by decide +kernel
theorem dX10_copyElements_149 : decode cX10_copyElements 149 = .ok (.istore 7, 2) := by decide +kernel
theorem dX10_copyElements_151 : decode cX10_copyElements 151 = .ok (.iload 7, 2) := by decide +kernel
theorem dX10_copyElements_153 : decode cX10_copyElements 153 = .ok (.iload 5, 2) := by decide +kernel
theorem dX10_copyElements_155 : decode cX10_copyElements 155 = .ok (.if_icmp .ge 29, 3) := by decide +kernel
theorem dX10_copyElements_158 : decode cX10_copyElements 158 = .ok (.aload_n 0, 1) := by decide +kernel
theorem dX10_copyElements_159 : decode cX10_copyElements 159 = .ok (.getfield 47, 3) := by decide +kernel
theorem dX10_copyElements_162 : decode cX10_copyElements 162 = .ok (.bipush 80, 2) := by decide +kernel
theorem dX10_copyElements_164 : decode cX10_copyElements 164 = .ok (.iload_n 3, 1) := by decide +kernel
theorem dX10_copyElements_165 : decode cX10_copyElements 165 = .ok (.imul, 1) := by decide +kernel
theorem dX10_copyElements_166 : decode cX10_copyElements 166 = .ok (.iload 4, 2) := by decide +kernel
theorem dX10_copyElements_168 : decode cX10_copyElements 168 = .ok (.iadd, 1) := by decide +kernel
theorem dX10_copyElements_169 : decode cX10_copyElements 169 = .ok (.iload 7, 2) := by decide +kernel
theorem dX10_copyElements_171 : decode cX10_copyElements 171 = .ok (.iadd, 1) := by decide +kernel
theorem dX10_copyElements_172 : decode cX10_copyElements 172 = .ok (.aload 6, 2) := by decide +kernel
theorem dX10_copyElements_174 : decode cX10_copyElements 174 = .ok (.iload 7, 2) := by decide +kernel
theorem dX10_copyElements_176 : decode cX10_copyElements 176 = .ok (.iaload, 1) := by decide +kernel
theorem dX10_copyElements_177 : decode cX10_copyElements 177 = .ok (.iastore, 1) := by decide +kernel
theorem dX10_copyElements_178 : decode cX10_copyElements 178 = .ok (.iinc 7 1, 3) := by decide +kernel
theorem dX10_copyElements_181 : decode cX10_copyElements 181 = .ok (.goto (-30), 3) := by decide +kernel
theorem dX10_copyElements_184 : decode cX10_copyElements 184 = .ok (.iload 5, 2) := by decide +kernel
theorem dX10_copyElements_186 : decode cX10_copyElements 186 = .ok (.ireturn, 1) := by decide +kernel
def lX10_copyElements_151 (N : Nat) (v0 : Nat) (v3 : Int32) (v4 : Int32) (v5 : Int32) (v6 : Nat) : Nat → Int32 → qM → Option (qM)
  | 0, _, _ => none
  | n + 1, v7, m0 =>
    if v5 ≤ v7 then (
    some m0
    ) else (
    (qgR m0 v0 10 17).bind fun x1 =>
    (qaI m0 v6 12 v7).bind fun x2 =>
    (qwI m0 x1 12 ((((80 : Int32) * v3) + v4) + v7) x2).bind fun m3 =>
    lX10_copyElements_151 N v0 v3 v4 v5 v6 n (v7 + (1 : Int32)) m3
    )
set_option maxRecDepth 100000 in
theorem lbX10_copyElements_151 {E : qE} {N d bc bs : Nat} (hd : 2 ≤ d) {v0 : Nat} {v3 : Int32} {v4 : Int32} {v5 : Int32} {v6 : Nat} : ∀ (n : Nat) (v7 : Int32) (m0 : qM), qB E yX10_copyElements cX10_copyElements 8 (some .int) (fun _ => True) d bc bs 151 [(0, .ref (E.2.1 + v0)), (3, .int v3), (4, .int v4), (5, .int v5), (6, .ref (E.2.1 + v6)), (7, .int v7)] [] m0 (lX10_copyElements_151 N v0 v3 v4 v5 v6 n v7 m0) (fun o rr => qJ E yX10_copyElements cX10_copyElements 8 (some .int) (fun _ => True) d bc bs 184 [(5, .int v5)] [] o rr) := by
  intro n
  induction n with
  | zero =>
    intro v7 m0
    exact j_none
  | succ n ih =>
    intro v7 m0
    unfold lX10_copyElements_151
    refine j_iload (q := 5) (np := 153) rfl dX10_copyElements_151 rfl ?_
    refine j_iload (q := 3) (np := 155) rfl dX10_copyElements_153 rfl ?_
    refine j_icmp_ge (tgt := 184) (np := 158) dX10_copyElements_155 rfl rfl ?_ ?_
    · refine j_sub (lv2 := [(5, .int v5)]) [3] rfl ?_
      exact j_exit (fun rr h => h)
    · refine j_aload_n (q := 0) (np := 159) rfl rfl dX10_copyElements_158 rfl ?_
      refine j_gR (np := 162) flX10_47 dX10_copyElements_159 rfl (fun x1 => ?_)
      refine j_bipush (np := 164) cb_80 dX10_copyElements_162 rfl ?_
      refine j_iload_n (q := 1) (np := 165) rfl rfl dX10_copyElements_164 rfl ?_
      refine j_imul (np := 166) dX10_copyElements_165 rfl ?_
      refine j_iload (q := 2) (np := 168) rfl dX10_copyElements_166 rfl ?_
      refine j_iadd (np := 169) dX10_copyElements_168 rfl ?_
      refine j_iload (q := 5) (np := 171) rfl dX10_copyElements_169 rfl ?_
      refine j_iadd (np := 172) dX10_copyElements_171 rfl ?_
      refine j_aload (q := 4) (np := 174) rfl dX10_copyElements_172 rfl ?_
      refine j_iload (q := 5) (np := 176) rfl dX10_copyElements_174 rfl ?_
      refine j_iaload (np := 177) dX10_copyElements_176 rfl (fun x2 => ?_)
      refine j_iastore (np := 178) dX10_copyElements_177 rfl (fun m3 => ?_)
      refine j_iinc (q := 5) (np := 181) (lv2 := [(7, .int (v7 + (1 : Int32))), (0, .ref (E.2.1 + v0)), (3, .int v3), (4, .int v4), (5, .int v5), (6, .ref (E.2.1 + v6))]) rfl (congrArg _ ci_1) (by decide) dX10_copyElements_178 rfl rfl ?_
      refine j_goto (tgt := 151) dX10_copyElements_181 rfl ?_
      refine j_sub (lv2 := [(0, .ref (E.2.1 + v0)), (3, .int v3), (4, .int v4), (5, .int v5), (6, .ref (E.2.1 + v6)), (7, .int (v7 + (1 : Int32)))]) [1, 2, 3, 4, 5, 0] rfl ?_
      exact ih _ _
def lX10_copyElements_116 (N : Nat) (v0 : Nat) (v1 : Int32) (v2 : Int32) (v3 : Int32) (v4 : Int32) (v5 : Int32) (v6 : Nat) : Nat → Int32 → qM → Option (qM)
  | 0, _, _ => none
  | n + 1, v7, m0 =>
    if v5 ≤ v7 then (
    some m0
    ) else (
    (qgR m0 v0 10 17).bind fun x1 =>
    (qaI m0 x1 12 ((((80 : Int32) * v1) + v2) + v7)).bind fun x2 =>
    (qwI m0 v6 12 v7 x2).bind fun m3 =>
    lX10_copyElements_116 N v0 v1 v2 v3 v4 v5 v6 n (v7 + (1 : Int32)) m3
    )
set_option maxRecDepth 100000 in
theorem lbX10_copyElements_116 {E : qE} {N d bc bs : Nat} (hd : 2 ≤ d) {v0 : Nat} {v1 : Int32} {v2 : Int32} {v3 : Int32} {v4 : Int32} {v5 : Int32} {v6 : Nat} : ∀ (n : Nat) (v7 : Int32) (m0 : qM), qB E yX10_copyElements cX10_copyElements 8 (some .int) (fun _ => True) d bc bs 116 [(0, .ref (E.2.1 + v0)), (1, .int v1), (2, .int v2), (3, .int v3), (4, .int v4), (5, .int v5), (6, .ref (E.2.1 + v6)), (7, .int v7)] [] m0 (lX10_copyElements_116 N v0 v1 v2 v3 v4 v5 v6 n v7 m0) (fun o rr => qJ E yX10_copyElements cX10_copyElements 8 (some .int) (fun _ => True) d bc bs 148 [(0, .ref (E.2.1 + v0)), (3, .int v3), (4, .int v4), (5, .int v5), (6, .ref (E.2.1 + v6))] [] o rr) := by
  intro n
  induction n with
  | zero =>
    intro v7 m0
    exact j_none
  | succ n ih =>
    intro v7 m0
    unfold lX10_copyElements_116
    refine j_iload (q := 7) (np := 118) rfl dX10_copyElements_116 rfl ?_
    refine j_iload (q := 5) (np := 120) rfl dX10_copyElements_118 rfl ?_
    refine j_icmp_ge (tgt := 148) (np := 123) dX10_copyElements_120 rfl rfl ?_ ?_
    · refine j_sub (lv2 := [(0, .ref (E.2.1 + v0)), (3, .int v3), (4, .int v4), (5, .int v5), (6, .ref (E.2.1 + v6))]) [0, 3, 4, 5, 6] rfl ?_
      exact j_exit (fun rr h => h)
    · refine j_aload (q := 6) (np := 125) rfl dX10_copyElements_123 rfl ?_
      refine j_iload (q := 7) (np := 127) rfl dX10_copyElements_125 rfl ?_
      refine j_aload_n (q := 0) (np := 128) rfl rfl dX10_copyElements_127 rfl ?_
      refine j_gR (np := 131) flX10_47 dX10_copyElements_128 rfl (fun x1 => ?_)
      refine j_bipush (np := 133) cb_80 dX10_copyElements_131 rfl ?_
      refine j_iload_n (q := 1) (np := 134) rfl rfl dX10_copyElements_133 rfl ?_
      refine j_imul (np := 135) dX10_copyElements_134 rfl ?_
      refine j_iload_n (q := 2) (np := 136) rfl rfl dX10_copyElements_135 rfl ?_
      refine j_iadd (np := 137) dX10_copyElements_136 rfl ?_
      refine j_iload (q := 7) (np := 139) rfl dX10_copyElements_137 rfl ?_
      refine j_iadd (np := 140) dX10_copyElements_139 rfl ?_
      refine j_iaload (np := 141) dX10_copyElements_140 rfl (fun x2 => ?_)
      refine j_iastore (np := 142) dX10_copyElements_141 rfl (fun m3 => ?_)
      refine j_iinc (q := 7) (np := 145) (lv2 := [(7, .int (v7 + (1 : Int32))), (0, .ref (E.2.1 + v0)), (1, .int v1), (2, .int v2), (3, .int v3), (4, .int v4), (5, .int v5), (6, .ref (E.2.1 + v6))]) rfl (congrArg _ ci_1) (by decide) dX10_copyElements_142 rfl rfl ?_
      refine j_goto (tgt := 116) dX10_copyElements_145 rfl ?_
      refine j_sub (lv2 := [(0, .ref (E.2.1 + v0)), (1, .int v1), (2, .int v2), (3, .int v3), (4, .int v4), (5, .int v5), (6, .ref (E.2.1 + v6)), (7, .int (v7 + (1 : Int32)))]) [1, 2, 3, 4, 5, 6, 7, 0] rfl ?_
      exact ih _ _
def fX10_copyElements (N : Nat) (v0 : Nat) (v1 : Int32) (v2 : Int32) (v3 : Int32) (v4 : Int32) (v5 : Int32) (m0 : qM) : Option (Int32 × qM) :=
  (fX10_isRow N v1 m0).bind fun b1 =>
  if b1.1 = 0 then (
  some ((-1 : Int32), b1.2)
  ) else (
  (fX10_isRow N v3 b1.2).bind fun b2 =>
  if b2.1 = 0 then (
  some ((-1 : Int32), b2.2)
  ) else (
  (qgR b2.2 v0 10 15).bind fun x3 =>
  (qaI b2.2 x3 12 v1).bind fun x4 =>
  if x4 < 0 then (
  some ((-6 : Int32), b2.2)
  ) else (
  (qgR b2.2 v0 10 15).bind fun x5 =>
  (qaI b2.2 x5 12 v3).bind fun x6 =>
  if 0 ≤ x6 then (
  (qgR b2.2 v0 10 15).bind fun x7 =>
  (qaI b2.2 x7 12 v1).bind fun x8 =>
  (qgR b2.2 v0 10 15).bind fun x9 =>
  (qaI b2.2 x9 12 v3).bind fun x10 =>
  if x8 = x10 then (
  if v2 < 0 then (
  some ((-8 : Int32), b2.2)
  ) else (
  if v4 < 0 then (
  some ((-8 : Int32), b2.2)
  ) else (
  if v5 < 0 then (
  some ((-8 : Int32), b2.2)
  ) else (
  (qgR b2.2 v0 10 16).bind fun x11 =>
  (qaI b2.2 x11 12 v1).bind fun x12 =>
  if 0 < lg_cmp (v2.toInt64 + v5.toInt64) x12.toInt64 then (
  some ((-8 : Int32), b2.2)
  ) else (
  (qgR b2.2 v0 10 16).bind fun x13 =>
  (qaI b2.2 x13 12 v3).bind fun x14 =>
  if lg_cmp (v4.toInt64 + v5.toInt64) x14.toInt64 ≤ 0 then (
  if ¬ v5 < 0 ∧ v5.toNatClampNeg ≤ 80 then qNew b2.2 12 v5.toNatClampNeg (fun a15 m16 =>
  (lX10_copyElements_116 N v0 v1 v2 v3 v4 v5 a15 N (0 : Int32) m16).bind fun o17 =>
  (lX10_copyElements_151 N v0 v3 v4 v5 a15 N (0 : Int32) o17).bind fun o18 =>
  some (v5, o18)
  ) else none
  ) else (
  some ((-8 : Int32), b2.2)
  )
  )
  )
  )
  )
  ) else (
  some ((-7 : Int32), b2.2)
  )
  ) else (
  some ((-6 : Int32), b2.2)
  )
  )
  )
  )
set_option maxRecDepth 100000 in
theorem bX10_copyElements {E : qE} {N d bc bs : Nat} (hd : 2 ≤ d) {v0 : Nat} {v1 : Int32} {v2 : Int32} {v3 : Int32} {v4 : Int32} {v5 : Int32} {m0 : qM} : qB E yX10_copyElements cX10_copyElements 8 (some .int) (fun _ => True) d (bc + 1) (bs + 80) 0 [(0, .ref (E.2.1 + v0)), (1, .int v1), (2, .int v2), (3, .int v3), (4, .int v4), (5, .int v5)] [] m0 (fX10_copyElements N v0 v1 v2 v3 v4 v5 m0) (fun b rr => rr = (some (.int b.1), b.2)) := by
  unfold fX10_copyElements
  refine j_iload_n (q := 1) (np := 1) rfl rfl dX10_copyElements_0 rfl ?_
  refine j_callSi (np := 4) (bc := (bc + 1)) (bs := (bs + 80)) (cb := 0) (cs := 0) (dd := d - 1) (As := [.int v1]) (st := []) caX10_isRow mlX10_316 stX10_isRow (fun b hb => wX10_isRow (by omega) hb) (by omega) rfl rfl (Nat.le_of_ble_eq_true rfl) dX10_copyElements_1 rfl (fun b1 => ?_)
  refine j_if_eq (tgt := 14) (np := 7) dX10_copyElements_4 rfl rfl ?_ ?_
  · refine j_iconst (np := 15) ci_m1 dX10_copyElements_14 rfl ?_
    exact j_iret rfl dX10_copyElements_15 (fun rr h => h)
  · refine j_iload_n (q := 3) (np := 8) rfl rfl dX10_copyElements_7 rfl ?_
    refine j_callSi (np := 11) (bc := (bc + 1)) (bs := (bs + 80)) (cb := 0) (cs := 0) (dd := d - 1) (As := [.int v3]) (st := []) caX10_isRow mlX10_316 stX10_isRow (fun b hb => wX10_isRow (by omega) hb) (by omega) rfl rfl (Nat.le_of_ble_eq_true rfl) dX10_copyElements_8 rfl (fun b2 => ?_)
    refine j_if_ne (tgt := 16) (np := 14) dX10_copyElements_11 rfl rfl ?_ ?_
    · refine j_aload_n (q := 0) (np := 17) rfl rfl dX10_copyElements_16 rfl ?_
      refine j_gR (np := 20) flX10_41 dX10_copyElements_17 rfl (fun x3 => ?_)
      refine j_iload_n (q := 1) (np := 21) rfl rfl dX10_copyElements_20 rfl ?_
      refine j_iaload (np := 22) dX10_copyElements_21 rfl (fun x4 => ?_)
      refine j_if_lt (tgt := 34) (np := 25) dX10_copyElements_22 rfl rfl ?_ ?_
      · refine j_bipush (np := 36) cb_m6 dX10_copyElements_34 rfl ?_
        exact j_iret rfl dX10_copyElements_36 (fun rr h => h)
      · refine j_aload_n (q := 0) (np := 26) rfl rfl dX10_copyElements_25 rfl ?_
        refine j_gR (np := 29) flX10_41 dX10_copyElements_26 rfl (fun x5 => ?_)
        refine j_iload_n (q := 3) (np := 30) rfl rfl dX10_copyElements_29 rfl ?_
        refine j_iaload (np := 31) dX10_copyElements_30 rfl (fun x6 => ?_)
        refine j_if_ge (tgt := 37) (np := 34) dX10_copyElements_31 rfl rfl ?_ ?_
        · refine j_aload_n (q := 0) (np := 38) rfl rfl dX10_copyElements_37 rfl ?_
          refine j_gR (np := 41) flX10_41 dX10_copyElements_38 rfl (fun x7 => ?_)
          refine j_iload_n (q := 1) (np := 42) rfl rfl dX10_copyElements_41 rfl ?_
          refine j_iaload (np := 43) dX10_copyElements_42 rfl (fun x8 => ?_)
          refine j_aload_n (q := 0) (np := 44) rfl rfl dX10_copyElements_43 rfl ?_
          refine j_gR (np := 47) flX10_41 dX10_copyElements_44 rfl (fun x9 => ?_)
          refine j_iload_n (q := 3) (np := 48) rfl rfl dX10_copyElements_47 rfl ?_
          refine j_iaload (np := 49) dX10_copyElements_48 rfl (fun x10 => ?_)
          refine j_icmp_eq (tgt := 55) (np := 52) dX10_copyElements_49 rfl rfl ?_ ?_
          · refine j_iload_n (q := 2) (np := 56) rfl rfl dX10_copyElements_55 rfl ?_
            refine j_if_lt (tgt := 104) (np := 59) dX10_copyElements_56 rfl rfl ?_ ?_
            · refine j_bipush (np := 106) cb_m8 dX10_copyElements_104 rfl ?_
              exact j_iret rfl dX10_copyElements_106 (fun rr h => h)
            · refine j_iload (q := 4) (np := 61) rfl dX10_copyElements_59 rfl ?_
              refine j_if_lt (tgt := 104) (np := 64) dX10_copyElements_61 rfl rfl ?_ ?_
              · refine j_bipush (np := 106) cb_m8 dX10_copyElements_104 rfl ?_
                exact j_iret rfl dX10_copyElements_106 (fun rr h => h)
              · refine j_iload (q := 5) (np := 66) rfl dX10_copyElements_64 rfl ?_
                refine j_if_lt (tgt := 104) (np := 69) dX10_copyElements_66 rfl rfl ?_ ?_
                · refine j_bipush (np := 106) cb_m8 dX10_copyElements_104 rfl ?_
                  exact j_iret rfl dX10_copyElements_106 (fun rr h => h)
                · refine j_iload_n (q := 2) (np := 70) rfl rfl dX10_copyElements_69 rfl ?_
                  refine j_i2l (np := 71) dX10_copyElements_70 rfl ?_
                  refine j_iload (q := 5) (np := 73) rfl dX10_copyElements_71 rfl ?_
                  refine j_i2l (np := 74) dX10_copyElements_73 rfl ?_
                  refine j_ladd (np := 75) dX10_copyElements_74 rfl ?_
                  refine j_aload_n (q := 0) (np := 76) rfl rfl dX10_copyElements_75 rfl ?_
                  refine j_gR (np := 79) flX10_44 dX10_copyElements_76 rfl (fun x11 => ?_)
                  refine j_iload_n (q := 1) (np := 80) rfl rfl dX10_copyElements_79 rfl ?_
                  refine j_iaload (np := 81) dX10_copyElements_80 rfl (fun x12 => ?_)
                  refine j_i2l (np := 82) dX10_copyElements_81 rfl ?_
                  refine j_lcmp (np := 83) dX10_copyElements_82 rfl ?_
                  refine j_if_gt (tgt := 104) (np := 86) dX10_copyElements_83 rfl rfl ?_ ?_
                  · refine j_bipush (np := 106) cb_m8 dX10_copyElements_104 rfl ?_
                    exact j_iret rfl dX10_copyElements_106 (fun rr h => h)
                  · refine j_iload (q := 4) (np := 88) rfl dX10_copyElements_86 rfl ?_
                    refine j_i2l (np := 89) dX10_copyElements_88 rfl ?_
                    refine j_iload (q := 5) (np := 91) rfl dX10_copyElements_89 rfl ?_
                    refine j_i2l (np := 92) dX10_copyElements_91 rfl ?_
                    refine j_ladd (np := 93) dX10_copyElements_92 rfl ?_
                    refine j_aload_n (q := 0) (np := 94) rfl rfl dX10_copyElements_93 rfl ?_
                    refine j_gR (np := 97) flX10_44 dX10_copyElements_94 rfl (fun x13 => ?_)
                    refine j_iload_n (q := 3) (np := 98) rfl rfl dX10_copyElements_97 rfl ?_
                    refine j_iaload (np := 99) dX10_copyElements_98 rfl (fun x14 => ?_)
                    refine j_i2l (np := 100) dX10_copyElements_99 rfl ?_
                    refine j_lcmp (np := 101) dX10_copyElements_100 rfl ?_
                    refine j_if_le (tgt := 107) (np := 104) dX10_copyElements_101 rfl rfl ?_ ?_
                    · refine j_iload (q := 5) (np := 109) rfl dX10_copyElements_107 rfl ?_
                      refine j_bud (b1 := bc + 1) (b2 := bs + 80) (by omega) (by omega) ?_
                      refine j_newarr (bc := bc) (bs := bs) (c0 := 12) (t := 1) (n0 := 80) (np := 111) (atype := .int) (ty := .int) (Or.inr (Or.inl rfl)) rfl rfl (by decide) (by decide) (fun _ => rfl) (fun _ _ => rfl) ac_int dX10_copyElements_109 rfl (fun a15 m16 => ?_)
                      refine j_astore (np := 113) (lv2 := [(6, .ref (E.2.1 + a15)), (0, .ref (E.2.1 + v0)), (1, .int v1), (2, .int v2), (3, .int v3), (4, .int v4), (5, .int v5)]) (by decide) dX10_copyElements_111 rfl rfl ?_
                      refine j_iconst (np := 114) ci_0 dX10_copyElements_113 rfl ?_
                      refine j_istore (np := 116) (lv2 := [(7, .int (0 : Int32)), (6, .ref (E.2.1 + a15)), (0, .ref (E.2.1 + v0)), (1, .int v1), (2, .int v2), (3, .int v3), (4, .int v4), (5, .int v5)]) (by decide) dX10_copyElements_114 rfl rfl ?_
                      refine j_sub (lv2 := [(0, .ref (E.2.1 + v0)), (1, .int v1), (2, .int v2), (3, .int v3), (4, .int v4), (5, .int v5), (6, .ref (E.2.1 + a15)), (7, .int (0 : Int32))]) [2, 3, 4, 5, 6, 7, 1, 0] rfl ?_
                      refine j_loop (xp := 148) (lvX := fun o17 => [(0, .ref (E.2.1 + v0)), (3, .int v3), (4, .int v4), (5, .int v5), (6, .ref (E.2.1 + a15))]) (mX := fun o17 => o17) (lbX10_copyElements_116 hd _ _ _) (fun o17 => ?_)
                      refine j_iconst (np := 149) ci_0 dX10_copyElements_148 rfl ?_
                      refine j_istore (np := 151) (lv2 := [(7, .int (0 : Int32)), (0, .ref (E.2.1 + v0)), (3, .int v3), (4, .int v4), (5, .int v5), (6, .ref (E.2.1 + a15))]) (by decide) dX10_copyElements_149 rfl rfl ?_
                      refine j_sub (lv2 := [(0, .ref (E.2.1 + v0)), (3, .int v3), (4, .int v4), (5, .int v5), (6, .ref (E.2.1 + a15)), (7, .int (0 : Int32))]) [1, 2, 3, 4, 5, 0] rfl ?_
                      refine j_loop (xp := 184) (lvX := fun o18 => [(5, .int v5)]) (mX := fun o18 => o18) (lbX10_copyElements_151 hd _ _ _) (fun o18 => ?_)
                      refine j_iload (q := 0) (np := 186) rfl dX10_copyElements_184 rfl ?_
                      exact j_iret rfl dX10_copyElements_186 (fun rr h => h)
                    · refine j_bipush (np := 106) cb_m8 dX10_copyElements_104 rfl ?_
                      exact j_iret rfl dX10_copyElements_106 (fun rr h => h)
          · refine j_bipush (np := 54) cb_m7 dX10_copyElements_52 rfl ?_
            exact j_iret rfl dX10_copyElements_54 (fun rr h => h)
        · refine j_bipush (np := 36) cb_m6 dX10_copyElements_34 rfl ?_
          exact j_iret rfl dX10_copyElements_36 (fun rr h => h)
    · refine j_iconst (np := 15) ci_m1 dX10_copyElements_14 rfl ?_
      exact j_iret rfl dX10_copyElements_15 (fun rr h => h)
set_option maxRecDepth 100000 in
theorem wX10_copyElements {E : qE} {N d : Nat} (hd : 2 ≤ d) {v0 : Nat} {v1 : Int32} {v2 : Int32} {v3 : Int32} {v4 : Int32} {v5 : Int32} {m0 : qM} {b : Int32 × qM} (h : fX10_copyElements N v0 v1 v2 v3 v4 v5 m0 = some b) : qRun E yX10_copyElements cX10_copyElements 8 (some .int) d 1 80 [.ref (E.2.1 + v0), .int v1, .int v2, .int v3, .int v4, .int v5] m0 (some (.int b.1), b.2) := q_met pnX10 (Nat.le_of_ble_eq_true rfl) ((j_bud (by omega) (by omega) (bX10_copyElements (bc := 0) (bs := 0) hd)) b _ h rfl)
theorem dX10_storeOutput_0 : decode cX10_storeOutput 0 = .ok (.aload_n 0, 1) := by decide +kernel
theorem dX10_storeOutput_1 : decode cX10_storeOutput 1 = .ok (.iload_n 1, 1) := by decide +kernel
theorem dX10_storeOutput_2 : decode cX10_storeOutput 2 = .ok (.invokevirtual 319, 3) := by decide +kernel
theorem dX10_storeOutput_5 : decode cX10_storeOutput 5 = .ok (.istore_n 3, 1) := by decide +kernel
theorem dX10_storeOutput_6 : decode cX10_storeOutput 6 = .ok (.iload_n 3, 1) := by decide +kernel
theorem dX10_storeOutput_7 : decode cX10_storeOutput 7 = .ok (.ifCond .ge 5, 3) := by decide +kernel
theorem dX10_storeOutput_10 : decode cX10_storeOutput 10 = .ok (.iload_n 3, 1) := by decide +kernel
theorem dX10_storeOutput_11 : decode cX10_storeOutput 11 = .ok (.ireturn, 1) := by decide +kernel
theorem dX10_storeOutput_12 : decode cX10_storeOutput 12 = .ok (.iload_n 2, 1) := by decide +kernel
theorem dX10_storeOutput_13 : decode cX10_storeOutput 13 = .ok (.ifCond .lt 22, 3) := by decide +kernel
theorem dX10_storeOutput_16 : decode cX10_storeOutput 16 = .ok (.iload_n 2, 1) := by decide +kernel
theorem dX10_storeOutput_17 : decode cX10_storeOutput 17 = .ok (.i2l, 1) := by decide +kernel
theorem dX10_storeOutput_18 : decode cX10_storeOutput 18 = .ok (.aload_n 0, 1) := by decide +kernel
theorem dX10_storeOutput_19 : decode cX10_storeOutput 19 = .ok (.getfield 180, 3) := by decide +kernel
theorem dX10_storeOutput_22 : decode cX10_storeOutput 22 = .ok (.i2l, 1) := by decide +kernel
theorem dX10_storeOutput_23 : decode cX10_storeOutput 23 = .ok (.ladd, 1) := by decide +kernel
theorem dX10_storeOutput_24 : decode cX10_storeOutput 24 = .ok (.aload_n 0, 1) := by decide +kernel
theorem dX10_storeOutput_25 : decode cX10_storeOutput 25 = .ok (.getfield 44, 3) := by decide +kernel
theorem dX10_storeOutput_28 : decode cX10_storeOutput 28 = .ok (.iload_n 1, 1) := by decide +kernel
theorem dX10_storeOutput_29 : decode cX10_storeOutput 29 = .ok (.iaload, 1) := by decide +kernel
theorem dX10_storeOutput_30 : decode cX10_storeOutput 30 = .ok (.i2l, 1) := by decide +kernel
theorem dX10_storeOutput_31 : decode cX10_storeOutput 31 = .ok (.lcmp, 1) := by decide +kernel
theorem dX10_storeOutput_32 : decode cX10_storeOutput 32 = .ok (.ifCond .le 6, 3) := by decide +kernel
theorem dX10_storeOutput_35 : decode cX10_storeOutput 35 = .ok (.bipush (-8), 2) := by decide +kernel
theorem dX10_storeOutput_37 : decode cX10_storeOutput 37 = .ok (.ireturn, 1) := by decide +kernel
theorem dX10_storeOutput_38 : decode cX10_storeOutput 38 = .ok (.iconst 0, 1) := by decide +kernel
theorem dX10_storeOutput_39 : decode cX10_storeOutput 39 = .ok (.istore 4, 2) := by decide +kernel
theorem dX10_storeOutput_41 : decode cX10_storeOutput 41 = .ok (.iload 4, 2) := by decide +kernel
theorem dX10_storeOutput_43 : decode cX10_storeOutput 43 = .ok (.aload_n 0, 1) := by decide +kernel
theorem dX10_storeOutput_44 : decode cX10_storeOutput 44 = .ok (.getfield 180, 3) := by decide +kernel
theorem dX10_storeOutput_47 : decode cX10_storeOutput 47 = .ok (.if_icmp .ge 25, 3) := by decide +kernel
theorem dX10_storeOutput_50 : decode cX10_storeOutput 50 = .ok (.aload_n 0, 1) := by decide +kernel
theorem dX10_storeOutput_51 : decode cX10_storeOutput 51 = .ok (.iload_n 1, 1) := by decide +kernel
theorem dX10_storeOutput_52 : decode cX10_storeOutput 52 = .ok (.iload_n 2, 1) := by decide +kernel
theorem dX10_storeOutput_53 : decode cX10_storeOutput 53 = .ok (.iload 4, 2) := by decide +kernel
theorem dX10_storeOutput_55 : decode cX10_storeOutput 55 = .ok (.iadd, 1) := by decide +kernel
theorem dX10_storeOutput_56 : decode cX10_storeOutput 56 = .ok (.aload_n 0, 1) := by decide +kernel
theorem dX10_storeOutput_57 : decode cX10_storeOutput 57 = .ok (.getfield 28, 3) := by decide +kernel
theorem dX10_storeOutput_60 : decode cX10_storeOutput 60 = .ok (.iload 4, 2) := by decide +kernel
theorem dX10_storeOutput_62 : decode cX10_storeOutput 62 = .ok (.iaload, 1) := by decide +kernel
theorem dX10_storeOutput_63 : decode cX10_storeOutput 63 = .ok (.invokevirtual 322, 3) := by decide +kernel
theorem dX10_storeOutput_66 : decode cX10_storeOutput 66 = .ok (.iinc 4 1, 3) := by decide +kernel
theorem dX10_storeOutput_69 : decode cX10_storeOutput 69 = .ok (.goto (-28), 3) := by decide +kernel
theorem dX10_storeOutput_72 : decode cX10_storeOutput 72 = .ok (.aload_n 0, 1) := by decide +kernel
theorem dX10_storeOutput_73 : decode cX10_storeOutput 73 = .ok (.getfield 180, 3) := by decide +kernel
theorem dX10_storeOutput_76 : decode cX10_storeOutput 76 = .ok (.ireturn, 1) := by decide +kernel
def lX10_storeOutput_41 (N : Nat) (v0 : Nat) (v1 : Int32) (v2 : Int32) : Nat → Int32 → qM → Option (qM)
  | 0, _, _ => none
  | n + 1, v4, m0 =>
    (qgI m0 v0 10 11).bind fun x1 =>
    if x1 ≤ v4 then (
    some m0
    ) else (
    (qgR m0 v0 10 10).bind fun x2 =>
    (qaI m0 x2 12 v4).bind fun x3 =>
    (qChk m0 v0 10 (fX10_sets N v0 v1 (v2 + v4) x3 m0)).bind fun b4 =>
    lX10_storeOutput_41 N v0 v1 v2 n (v4 + (1 : Int32)) b4
    )
set_option maxRecDepth 100000 in
theorem lbX10_storeOutput_41 {E : qE} {N d bc bs : Nat} (hd : 3 ≤ d) {v0 : Nat} {v1 : Int32} {v2 : Int32} : ∀ (n : Nat) (v4 : Int32) (m0 : qM), qB E yX10_storeOutput cX10_storeOutput 5 (some .int) (fun _ => True) d bc bs 41 [(0, .ref (E.2.1 + v0)), (1, .int v1), (2, .int v2), (4, .int v4)] [] m0 (lX10_storeOutput_41 N v0 v1 v2 n v4 m0) (fun o rr => qJ E yX10_storeOutput cX10_storeOutput 5 (some .int) (fun _ => True) d bc bs 72 [(0, .ref (E.2.1 + v0))] [] o rr) := by
  intro n
  induction n with
  | zero =>
    intro v4 m0
    exact j_none
  | succ n ih =>
    intro v4 m0
    unfold lX10_storeOutput_41
    refine j_iload (q := 3) (np := 43) rfl dX10_storeOutput_41 rfl ?_
    refine j_aload_n (q := 0) (np := 44) rfl rfl dX10_storeOutput_43 rfl ?_
    refine j_gI (np := 47) flX10_180 dX10_storeOutput_44 rfl (fun x1 => ?_)
    refine j_icmp_ge (tgt := 72) (np := 50) dX10_storeOutput_47 rfl rfl ?_ ?_
    · refine j_sub (lv2 := [(0, .ref (E.2.1 + v0))]) [0] rfl ?_
      exact j_exit (fun rr h => h)
    · refine j_aload_n (q := 0) (np := 51) rfl rfl dX10_storeOutput_50 rfl ?_
      refine j_iload_n (q := 1) (np := 52) rfl rfl dX10_storeOutput_51 rfl ?_
      refine j_iload_n (q := 2) (np := 53) rfl rfl dX10_storeOutput_52 rfl ?_
      refine j_iload (q := 3) (np := 55) rfl dX10_storeOutput_53 rfl ?_
      refine j_iadd (np := 56) dX10_storeOutput_55 rfl ?_
      refine j_aload_n (q := 0) (np := 57) rfl rfl dX10_storeOutput_56 rfl ?_
      refine j_gR (np := 60) flX10_28 dX10_storeOutput_57 rfl (fun x2 => ?_)
      refine j_iload (q := 3) (np := 62) rfl dX10_storeOutput_60 rfl ?_
      refine j_iaload (np := 63) dX10_storeOutput_62 rfl (fun x3 => ?_)
      refine j_callVv (ci := 10) (np := 66) (bc := bc) (bs := bs) (cb := 0) (cs := 0) (dd := d - 1) (As := [.int v1, .int (v2 + v4), .int x3]) (st := []) caX10_sets mlX10_322 imX10_sets seX10_sets rfl rfl (by decide) (fun b hb => wX10_sets (by omega) hb) (by omega) rfl rfl (Nat.le_of_ble_eq_true rfl) dX10_storeOutput_63 rfl (fun b4 => ?_)
      refine j_iinc (q := 3) (np := 69) (lv2 := [(4, .int (v4 + (1 : Int32))), (0, .ref (E.2.1 + v0)), (1, .int v1), (2, .int v2)]) rfl (congrArg _ ci_1) (by decide) dX10_storeOutput_66 rfl rfl ?_
      refine j_goto (tgt := 41) dX10_storeOutput_69 rfl ?_
      refine j_sub (lv2 := [(0, .ref (E.2.1 + v0)), (1, .int v1), (2, .int v2), (4, .int (v4 + (1 : Int32)))]) [1, 2, 3, 0] rfl ?_
      exact ih _ _
def fX10_storeOutput (N : Nat) (v0 : Nat) (v1 : Int32) (v2 : Int32) (m0 : qM) : Option (Int32 × qM) :=
  (qChk m0 v0 10 (fX10_lacks N v0 v1 m0)).bind fun b1 =>
  if 0 ≤ b1.1 then (
  if v2 < 0 then (
  some ((-8 : Int32), b1.2)
  ) else (
  (qgI b1.2 v0 10 11).bind fun x2 =>
  (qgR b1.2 v0 10 16).bind fun x3 =>
  (qaI b1.2 x3 12 v1).bind fun x4 =>
  if lg_cmp (v2.toInt64 + x2.toInt64) x4.toInt64 ≤ 0 then (
  (lX10_storeOutput_41 N v0 v1 v2 N (0 : Int32) b1.2).bind fun o5 =>
  (qgI o5 v0 10 11).bind fun x6 =>
  some (x6, o5)
  ) else (
  some ((-8 : Int32), b1.2)
  )
  )
  ) else (
  some (b1.1, b1.2)
  )
set_option maxRecDepth 100000 in
theorem bX10_storeOutput {E : qE} {N d bc bs : Nat} (hd : 3 ≤ d) {v0 : Nat} {v1 : Int32} {v2 : Int32} {m0 : qM} : qB E yX10_storeOutput cX10_storeOutput 5 (some .int) (fun _ => True) d bc bs 0 [(0, .ref (E.2.1 + v0)), (1, .int v1), (2, .int v2)] [] m0 (fX10_storeOutput N v0 v1 v2 m0) (fun b rr => rr = (some (.int b.1), b.2)) := by
  unfold fX10_storeOutput
  refine j_aload_n (q := 0) (np := 1) rfl rfl dX10_storeOutput_0 rfl ?_
  refine j_iload_n (q := 1) (np := 2) rfl rfl dX10_storeOutput_1 rfl ?_
  refine j_callVi (ci := 10) (np := 5) (bc := bc) (bs := bs) (cb := 0) (cs := 0) (dd := d - 1) (As := [.int v1]) (st := []) caX10_lacks mlX10_319 imX10_lacks seX10_lacks rfl rfl (by decide) (fun b hb => wX10_lacks (by omega) hb) (by omega) rfl rfl (Nat.le_of_ble_eq_true rfl) dX10_storeOutput_2 rfl (fun b1 => ?_)
  refine j_istore_n (np := 6) (lv2 := [(3, .int b1.1), (0, .ref (E.2.1 + v0)), (1, .int v1), (2, .int v2)]) rfl (by decide) dX10_storeOutput_5 rfl rfl ?_
  refine j_iload_n (q := 0) (np := 7) rfl rfl dX10_storeOutput_6 rfl ?_
  refine j_if_ge (tgt := 12) (np := 10) dX10_storeOutput_7 rfl rfl ?_ ?_
  · refine j_iload_n (q := 3) (np := 13) rfl rfl dX10_storeOutput_12 rfl ?_
    refine j_if_lt (tgt := 35) (np := 16) dX10_storeOutput_13 rfl rfl ?_ ?_
    · refine j_bipush (np := 37) cb_m8 dX10_storeOutput_35 rfl ?_
      exact j_iret rfl dX10_storeOutput_37 (fun rr h => h)
    · refine j_iload_n (q := 3) (np := 17) rfl rfl dX10_storeOutput_16 rfl ?_
      refine j_i2l (np := 18) dX10_storeOutput_17 rfl ?_
      refine j_aload_n (q := 1) (np := 19) rfl rfl dX10_storeOutput_18 rfl ?_
      refine j_gI (np := 22) flX10_180 dX10_storeOutput_19 rfl (fun x2 => ?_)
      refine j_i2l (np := 23) dX10_storeOutput_22 rfl ?_
      refine j_ladd (np := 24) dX10_storeOutput_23 rfl ?_
      refine j_aload_n (q := 1) (np := 25) rfl rfl dX10_storeOutput_24 rfl ?_
      refine j_gR (np := 28) flX10_44 dX10_storeOutput_25 rfl (fun x3 => ?_)
      refine j_iload_n (q := 2) (np := 29) rfl rfl dX10_storeOutput_28 rfl ?_
      refine j_iaload (np := 30) dX10_storeOutput_29 rfl (fun x4 => ?_)
      refine j_i2l (np := 31) dX10_storeOutput_30 rfl ?_
      refine j_lcmp (np := 32) dX10_storeOutput_31 rfl ?_
      refine j_if_le (tgt := 38) (np := 35) dX10_storeOutput_32 rfl rfl ?_ ?_
      · refine j_iconst (np := 39) ci_0 dX10_storeOutput_38 rfl ?_
        refine j_istore (np := 41) (lv2 := [(4, .int (0 : Int32)), (3, .int b1.1), (0, .ref (E.2.1 + v0)), (1, .int v1), (2, .int v2)]) (by decide) dX10_storeOutput_39 rfl rfl ?_
        refine j_sub (lv2 := [(0, .ref (E.2.1 + v0)), (1, .int v1), (2, .int v2), (4, .int (0 : Int32))]) [2, 3, 4, 0] rfl ?_
        refine j_loop (xp := 72) (lvX := fun o5 => [(0, .ref (E.2.1 + v0))]) (mX := fun o5 => o5) (lbX10_storeOutput_41 hd _ _ _) (fun o5 => ?_)
        refine j_aload_n (q := 0) (np := 73) rfl rfl dX10_storeOutput_72 rfl ?_
        refine j_gI (np := 76) flX10_180 dX10_storeOutput_73 rfl (fun x6 => ?_)
        exact j_iret rfl dX10_storeOutput_76 (fun rr h => h)
      · refine j_bipush (np := 37) cb_m8 dX10_storeOutput_35 rfl ?_
        exact j_iret rfl dX10_storeOutput_37 (fun rr h => h)
  · refine j_iload_n (q := 0) (np := 11) rfl rfl dX10_storeOutput_10 rfl ?_
    exact j_iret rfl dX10_storeOutput_11 (fun rr h => h)
set_option maxRecDepth 100000 in
theorem wX10_storeOutput {E : qE} {N d : Nat} (hd : 3 ≤ d) {v0 : Nat} {v1 : Int32} {v2 : Int32} {m0 : qM} {b : Int32 × qM} (h : fX10_storeOutput N v0 v1 v2 m0 = some b) : qRun E yX10_storeOutput cX10_storeOutput 5 (some .int) d 0 0 [.ref (E.2.1 + v0), .int v1, .int v2] m0 (some (.int b.1), b.2) := q_met pnX10 (Nat.le_of_ble_eq_true rfl) (bX10_storeOutput hd b _ h rfl)
theorem dX10_loadText_0 : decode cX10_loadText 0 = .ok (.aload_n 0, 1) := by decide +kernel
theorem dX10_loadText_1 : decode cX10_loadText 1 = .ok (.iload_n 1, 1) := by decide +kernel
theorem dX10_loadText_2 : decode cX10_loadText 2 = .ok (.invokevirtual 319, 3) := by decide +kernel
theorem dX10_loadText_5 : decode cX10_loadText 5 = .ok (.istore 4, 2) := by decide +kernel
theorem dX10_loadText_7 : decode cX10_loadText 7 = .ok (.iload 4, 2) := by decide +kernel
theorem dX10_loadText_9 : decode cX10_loadText 9 = .ok (.ifCond .ge 6, 3) := by decide +kernel
theorem dX10_loadText_12 : decode cX10_loadText 12 = .ok (.iload 4, 2) := by decide +kernel
theorem dX10_loadText_14 : decode cX10_loadText 14 = .ok (.ireturn, 1) := by decide +kernel
theorem dX10_loadText_15 : decode cX10_loadText 15 = .ok (.iload_n 2, 1) := by decide +kernel
theorem dX10_loadText_16 : decode cX10_loadText 16 = .ok (.ifCond .lt 23, 3) := by decide +kernel
theorem dX10_loadText_19 : decode cX10_loadText 19 = .ok (.iload_n 3, 1) := by decide +kernel
theorem dX10_loadText_20 : decode cX10_loadText 20 = .ok (.ifCond .lt 19, 3) := by decide +kernel
theorem dX10_loadText_23 : decode cX10_loadText 23 = .ok (.iload_n 2, 1) := by decide +kernel
theorem dX10_loadText_24 : decode cX10_loadText 24 = .ok (.i2l, 1) := by decide +kernel
theorem dX10_loadText_25 : decode cX10_loadText 25 = .ok (.iload_n 3, 1) := by decide +kernel
theorem dX10_loadText_26 : decode cX10_loadText 26 = .ok (.i2l, 1) := by decide +kernel
theorem dX10_loadText_27 : decode cX10_loadText 27 = .ok (.ladd, 1) := by decide +kernel
theorem dX10_loadText_28 : decode cX10_loadText 28 = .ok (.aload_n 0, 1) := by decide +kernel
theorem dX10_loadText_29 : decode cX10_loadText 29 = .ok (.getfield 44, 3) := by decide +kernel
theorem dX10_loadText_32 : decode cX10_loadText 32 = .ok (.iload_n 1, 1) := by decide +kernel
theorem dX10_loadText_33 : decode cX10_loadText 33 = .ok (.iaload, 1) := by decide +kernel
theorem dX10_loadText_34 : decode cX10_loadText 34 = .ok (.i2l, 1) := by decide +kernel
theorem dX10_loadText_35 : decode cX10_loadText 35 = .ok (.lcmp, 1) := by decide +kernel
theorem dX10_loadText_36 : decode cX10_loadText 36 = .ok (.ifCond .le 6, 3) := by decide +kernel
theorem dX10_loadText_39 : decode cX10_loadText 39 = .ok (.bipush (-8), 2) := by decide +kernel
theorem dX10_loadText_41 : decode cX10_loadText 41 = .ok (.ireturn, 1) := by decide +kernel
theorem dX10_loadText_42 : decode cX10_loadText 42 = .ok (.iconst 0, 1) := by decide +kernel
theorem dX10_loadText_43 : decode cX10_loadText 43 = .ok (.istore 5, 2) := by decide +kernel
theorem dX10_loadText_45 : decode cX10_loadText 45 = .ok (.iload 5, 2) := by decide +kernel
theorem dX10_loadText_47 : decode cX10_loadText 47 = .ok (.iload_n 3, 1) := by decide +kernel
theorem dX10_loadText_48 : decode cX10_loadText 48 = .ok (.if_icmp .ge 30, 3) := by decide +kernel
theorem dX10_loadText_51 : decode cX10_loadText 51 = .ok (.aload_n 0, 1) := by decide +kernel
theorem dX10_loadText_52 : decode cX10_loadText 52 = .ok (.aload_n 0, 1) := by decide +kernel
theorem dX10_loadText_53 : decode cX10_loadText 53 = .ok (.getfield 47, 3) := by decide +kernel
theorem dX10_loadText_56 : decode cX10_loadText 56 = .ok (.bipush 80, 2) := by decide +kernel
theorem dX10_loadText_58 : decode cX10_loadText 58 = .ok (.iload_n 1, 1) := by decide +kernel
theorem dX10_loadText_59 : decode cX10_loadText 59 = .ok (.imul, 1) := by decide +kernel
theorem dX10_loadText_60 : decode cX10_loadText 60 = .ok (.iload_n 2, 1) := by decide +kernel
theorem dX10_loadText_61 : decode cX10_loadText 61 = .ok (.iadd, 1) := by decide +kernel
theorem dX10_loadText_62 : decode cX10_loadText 62 = .ok (.iload 5, 2) := by decide +kernel
theorem dX10_loadText_64 : decode cX10_loadText 64 = .ok (.iadd, 1) := by decide +kernel
theorem dX10_loadText_65 : decode cX10_loadText 65 = .ok (.iaload, 1) := by decide +kernel
theorem dX10_loadText_66 : decode cX10_loadText 66 = .ok (.invokevirtual 330, 3) := by decide +kernel
theorem dX10_loadText_69 : decode cX10_loadText 69 = .ok (.ifCond .le 9, 3) := by decide +kernel
theorem dX10_loadText_72 : decode cX10_loadText 72 = .ok (.iinc 5 1, 3) := by decide +kernel
theorem dX10_loadText_75 : decode cX10_loadText 75 = .ok (.goto (-30), 3) := by decide +kernel
theorem dX10_loadText_78 : decode cX10_loadText 78 = .ok (.iload 5, 2) := by decide +kernel
theorem dX10_loadText_80 : decode cX10_loadText 80 = .ok (.ireturn, 1) := by decide +kernel
def lX10_loadText_45 (N : Nat) (v0 : Nat) (v1 : Int32) (v2 : Int32) (v3 : Int32) : Nat → Int32 → qM → Option (Int32 × qM)
  | 0, _, _ => none
  | n + 1, v5, m0 =>
    if v3 ≤ v5 then (
    some (v5, m0)
    ) else (
    (qgR m0 v0 10 17).bind fun x1 =>
    (qaI m0 x1 12 ((((80 : Int32) * v1) + v2) + v5)).bind fun x2 =>
    (qChk m0 v0 10 (fX10_append N v0 x2 m0)).bind fun b3 =>
    if b3.1 ≤ 0 then (
    some (v5, b3.2)
    ) else (
    lX10_loadText_45 N v0 v1 v2 v3 n (v5 + (1 : Int32)) b3.2
    )
    )
set_option maxRecDepth 100000 in
theorem lbX10_loadText_45 {E : qE} {N d bc bs : Nat} (hd : 3 ≤ d) {v0 : Nat} {v1 : Int32} {v2 : Int32} {v3 : Int32} : ∀ (n : Nat) (v5 : Int32) (m0 : qM), qB E yX10_loadText cX10_loadText 6 (some .int) (fun _ => True) d bc bs 45 [(0, .ref (E.2.1 + v0)), (1, .int v1), (2, .int v2), (3, .int v3), (5, .int v5)] [] m0 (lX10_loadText_45 N v0 v1 v2 v3 n v5 m0) (fun o rr => qJ E yX10_loadText cX10_loadText 6 (some .int) (fun _ => True) d bc bs 78 [(5, .int o.1)] [] o.2 rr) := by
  intro n
  induction n with
  | zero =>
    intro v5 m0
    exact j_none
  | succ n ih =>
    intro v5 m0
    unfold lX10_loadText_45
    refine j_iload (q := 4) (np := 47) rfl dX10_loadText_45 rfl ?_
    refine j_iload_n (q := 3) (np := 48) rfl rfl dX10_loadText_47 rfl ?_
    refine j_icmp_ge (tgt := 78) (np := 51) dX10_loadText_48 rfl rfl ?_ ?_
    · refine j_sub (lv2 := [(5, .int v5)]) [4] rfl ?_
      exact j_exit (fun rr h => h)
    · refine j_aload_n (q := 0) (np := 52) rfl rfl dX10_loadText_51 rfl ?_
      refine j_aload_n (q := 0) (np := 53) rfl rfl dX10_loadText_52 rfl ?_
      refine j_gR (np := 56) flX10_47 dX10_loadText_53 rfl (fun x1 => ?_)
      refine j_bipush (np := 58) cb_80 dX10_loadText_56 rfl ?_
      refine j_iload_n (q := 1) (np := 59) rfl rfl dX10_loadText_58 rfl ?_
      refine j_imul (np := 60) dX10_loadText_59 rfl ?_
      refine j_iload_n (q := 2) (np := 61) rfl rfl dX10_loadText_60 rfl ?_
      refine j_iadd (np := 62) dX10_loadText_61 rfl ?_
      refine j_iload (q := 4) (np := 64) rfl dX10_loadText_62 rfl ?_
      refine j_iadd (np := 65) dX10_loadText_64 rfl ?_
      refine j_iaload (np := 66) dX10_loadText_65 rfl (fun x2 => ?_)
      refine j_callVi (ci := 10) (np := 69) (bc := bc) (bs := bs) (cb := 0) (cs := 0) (dd := d - 1) (As := [.int x2]) (st := []) caX10_append mlX10_330 imX10_append seX10_append rfl rfl (by decide) (fun b hb => wX10_append (by omega) hb) (by omega) rfl rfl (Nat.le_of_ble_eq_true rfl) dX10_loadText_66 rfl (fun b3 => ?_)
      refine j_if_le (tgt := 78) (np := 72) dX10_loadText_69 rfl rfl ?_ ?_
      · refine j_sub (lv2 := [(5, .int v5)]) [4] rfl ?_
        exact j_exit (fun rr h => h)
      · refine j_iinc (q := 4) (np := 75) (lv2 := [(5, .int (v5 + (1 : Int32))), (0, .ref (E.2.1 + v0)), (1, .int v1), (2, .int v2), (3, .int v3)]) rfl (congrArg _ ci_1) (by decide) dX10_loadText_72 rfl rfl ?_
        refine j_goto (tgt := 45) dX10_loadText_75 rfl ?_
        refine j_sub (lv2 := [(0, .ref (E.2.1 + v0)), (1, .int v1), (2, .int v2), (3, .int v3), (5, .int (v5 + (1 : Int32)))]) [1, 2, 3, 4, 0] rfl ?_
        exact ih _ _
def fX10_loadText (N : Nat) (v0 : Nat) (v1 : Int32) (v2 : Int32) (v3 : Int32) (m0 : qM) : Option (Int32 × qM) :=
  (qChk m0 v0 10 (fX10_lacks N v0 v1 m0)).bind fun b1 =>
  if 0 ≤ b1.1 then (
  if v2 < 0 then (
  some ((-8 : Int32), b1.2)
  ) else (
  if v3 < 0 then (
  some ((-8 : Int32), b1.2)
  ) else (
  (qgR b1.2 v0 10 16).bind fun x2 =>
  (qaI b1.2 x2 12 v1).bind fun x3 =>
  if lg_cmp (v2.toInt64 + v3.toInt64) x3.toInt64 ≤ 0 then (
  (lX10_loadText_45 N v0 v1 v2 v3 N (0 : Int32) b1.2).bind fun o4 =>
  some (o4.1, o4.2)
  ) else (
  some ((-8 : Int32), b1.2)
  )
  )
  )
  ) else (
  some (b1.1, b1.2)
  )
set_option maxRecDepth 100000 in
theorem bX10_loadText {E : qE} {N d bc bs : Nat} (hd : 3 ≤ d) {v0 : Nat} {v1 : Int32} {v2 : Int32} {v3 : Int32} {m0 : qM} : qB E yX10_loadText cX10_loadText 6 (some .int) (fun _ => True) d bc bs 0 [(0, .ref (E.2.1 + v0)), (1, .int v1), (2, .int v2), (3, .int v3)] [] m0 (fX10_loadText N v0 v1 v2 v3 m0) (fun b rr => rr = (some (.int b.1), b.2)) := by
  unfold fX10_loadText
  refine j_aload_n (q := 0) (np := 1) rfl rfl dX10_loadText_0 rfl ?_
  refine j_iload_n (q := 1) (np := 2) rfl rfl dX10_loadText_1 rfl ?_
  refine j_callVi (ci := 10) (np := 5) (bc := bc) (bs := bs) (cb := 0) (cs := 0) (dd := d - 1) (As := [.int v1]) (st := []) caX10_lacks mlX10_319 imX10_lacks seX10_lacks rfl rfl (by decide) (fun b hb => wX10_lacks (by omega) hb) (by omega) rfl rfl (Nat.le_of_ble_eq_true rfl) dX10_loadText_2 rfl (fun b1 => ?_)
  refine j_istore (np := 7) (lv2 := [(4, .int b1.1), (0, .ref (E.2.1 + v0)), (1, .int v1), (2, .int v2), (3, .int v3)]) (by decide) dX10_loadText_5 rfl rfl ?_
  refine j_iload (q := 0) (np := 9) rfl dX10_loadText_7 rfl ?_
  refine j_if_ge (tgt := 15) (np := 12) dX10_loadText_9 rfl rfl ?_ ?_
  · refine j_iload_n (q := 3) (np := 16) rfl rfl dX10_loadText_15 rfl ?_
    refine j_if_lt (tgt := 39) (np := 19) dX10_loadText_16 rfl rfl ?_ ?_
    · refine j_bipush (np := 41) cb_m8 dX10_loadText_39 rfl ?_
      exact j_iret rfl dX10_loadText_41 (fun rr h => h)
    · refine j_iload_n (q := 4) (np := 20) rfl rfl dX10_loadText_19 rfl ?_
      refine j_if_lt (tgt := 39) (np := 23) dX10_loadText_20 rfl rfl ?_ ?_
      · refine j_bipush (np := 41) cb_m8 dX10_loadText_39 rfl ?_
        exact j_iret rfl dX10_loadText_41 (fun rr h => h)
      · refine j_iload_n (q := 3) (np := 24) rfl rfl dX10_loadText_23 rfl ?_
        refine j_i2l (np := 25) dX10_loadText_24 rfl ?_
        refine j_iload_n (q := 4) (np := 26) rfl rfl dX10_loadText_25 rfl ?_
        refine j_i2l (np := 27) dX10_loadText_26 rfl ?_
        refine j_ladd (np := 28) dX10_loadText_27 rfl ?_
        refine j_aload_n (q := 1) (np := 29) rfl rfl dX10_loadText_28 rfl ?_
        refine j_gR (np := 32) flX10_44 dX10_loadText_29 rfl (fun x2 => ?_)
        refine j_iload_n (q := 2) (np := 33) rfl rfl dX10_loadText_32 rfl ?_
        refine j_iaload (np := 34) dX10_loadText_33 rfl (fun x3 => ?_)
        refine j_i2l (np := 35) dX10_loadText_34 rfl ?_
        refine j_lcmp (np := 36) dX10_loadText_35 rfl ?_
        refine j_if_le (tgt := 42) (np := 39) dX10_loadText_36 rfl rfl ?_ ?_
        · refine j_iconst (np := 43) ci_0 dX10_loadText_42 rfl ?_
          refine j_istore (np := 45) (lv2 := [(5, .int (0 : Int32)), (4, .int b1.1), (0, .ref (E.2.1 + v0)), (1, .int v1), (2, .int v2), (3, .int v3)]) (by decide) dX10_loadText_43 rfl rfl ?_
          refine j_sub (lv2 := [(0, .ref (E.2.1 + v0)), (1, .int v1), (2, .int v2), (3, .int v3), (5, .int (0 : Int32))]) [2, 3, 4, 5, 0] rfl ?_
          refine j_loop (xp := 78) (lvX := fun o4 => [(5, .int o4.1)]) (mX := fun o4 => o4.2) (lbX10_loadText_45 hd _ _ _) (fun o4 => ?_)
          refine j_iload (q := 0) (np := 80) rfl dX10_loadText_78 rfl ?_
          exact j_iret rfl dX10_loadText_80 (fun rr h => h)
        · refine j_bipush (np := 41) cb_m8 dX10_loadText_39 rfl ?_
          exact j_iret rfl dX10_loadText_41 (fun rr h => h)
  · refine j_iload (q := 0) (np := 14) rfl dX10_loadText_12 rfl ?_
    exact j_iret rfl dX10_loadText_14 (fun rr h => h)
set_option maxRecDepth 100000 in
theorem wX10_loadText {E : qE} {N d : Nat} (hd : 3 ≤ d) {v0 : Nat} {v1 : Int32} {v2 : Int32} {v3 : Int32} {m0 : qM} {b : Int32 × qM} (h : fX10_loadText N v0 v1 v2 v3 m0 = some b) : qRun E yX10_loadText cX10_loadText 6 (some .int) d 0 0 [.ref (E.2.1 + v0), .int v1, .int v2, .int v3] m0 (some (.int b.1), b.2) := q_met pnX10 (Nat.le_of_ble_eq_true rfl) (bX10_loadText hd b _ h rfl)
