theorem dX8_measureClass_0 : decode cX8_measureClass 0 = .ok (.aload_n 0, 1) := by decide +kernel
theorem dX8_measureClass_1 : decode cX8_measureClass 1 = .ok (.getfield 21, 3) := by decide +kernel
theorem dX8_measureClass_4 : decode cX8_measureClass 4 = .ok (.aload_n 0, 1) := by decide +kernel
theorem dX8_measureClass_5 : decode cX8_measureClass 5 = .ok (.getfield 15, 3) := by decide +kernel
theorem dX8_measureClass_8 : decode cX8_measureClass 8 = .ok (.aload_n 0, 1) := by decide +kernel
theorem dX8_measureClass_9 : decode cX8_measureClass 9 = .ok (.getfield 18, 3) := by decide +kernel
theorem dX8_measureClass_12 : decode cX8_measureClass 12 = .ok (.iload_n 1, 1) := by decide +kernel
theorem dX8_measureClass_13 : decode cX8_measureClass 13 = .ok (.iaload, 1) := by decide +kernel
theorem dX8_measureClass_14 : decode cX8_measureClass 14 = .ok (.iconst 1, 1) := by decide +kernel
theorem dX8_measureClass_15 : decode cX8_measureClass 15 = .ok (.iadd, 1) := by decide +kernel
theorem dX8_measureClass_16 : decode cX8_measureClass 16 = .ok (.iaload, 1) := by decide +kernel
theorem dX8_measureClass_17 : decode cX8_measureClass 17 = .ok (.iaload, 1) := by decide +kernel
theorem dX8_measureClass_18 : decode cX8_measureClass 18 = .ok (.istore_n 2, 1) := by decide +kernel
theorem dX8_measureClass_19 : decode cX8_measureClass 19 = .ok (.aload_n 0, 1) := by decide +kernel
theorem dX8_measureClass_20 : decode cX8_measureClass 20 = .ok (.getfield 21, 3) := by decide +kernel
theorem dX8_measureClass_23 : decode cX8_measureClass 23 = .ok (.aload_n 0, 1) := by decide +kernel
theorem dX8_measureClass_24 : decode cX8_measureClass 24 = .ok (.getfield 15, 3) := by decide +kernel
theorem dX8_measureClass_27 : decode cX8_measureClass 27 = .ok (.aload_n 0, 1) := by decide +kernel
theorem dX8_measureClass_28 : decode cX8_measureClass 28 = .ok (.getfield 11, 3) := by decide +kernel
theorem dX8_measureClass_31 : decode cX8_measureClass 31 = .ok (.aload_n 0, 1) := by decide +kernel
theorem dX8_measureClass_32 : decode cX8_measureClass 32 = .ok (.getfield 18, 3) := by decide +kernel
theorem dX8_measureClass_35 : decode cX8_measureClass 35 = .ok (.iload_n 1, 1) := by decide +kernel
theorem dX8_measureClass_36 : decode cX8_measureClass 36 = .ok (.iaload, 1) := by decide +kernel
theorem dX8_measureClass_37 : decode cX8_measureClass 37 = .ok (.iaload, 1) := by decide +kernel
theorem dX8_measureClass_38 : decode cX8_measureClass 38 = .ok (.iaload, 1) := by decide +kernel
theorem dX8_measureClass_39 : decode cX8_measureClass 39 = .ok (.iaload, 1) := by decide +kernel
theorem dX8_measureClass_40 : decode cX8_measureClass 40 = .ok (.istore_n 3, 1) := by decide +kernel
theorem dX8_measureClass_41 : decode cX8_measureClass 41 = .ok (.iload_n 2, 1) := by decide +kernel
theorem dX8_measureClass_42 : decode cX8_measureClass 42 = .ok (.ifCond .eq 7, 3) := by decide +kernel
theorem dX8_measureClass_45 : decode cX8_measureClass 45 = .ok (.iload_n 3, 1) := by decide +kernel
theorem dX8_measureClass_46 : decode cX8_measureClass 46 = .ok (.ifCond .ne 5, 3) := by decide +kernel
theorem dX8_measureClass_49 : decode cX8_measureClass 49 = .ok (.iconst 0, 1) := by decide +kernel
theorem dX8_measureClass_50 : decode cX8_measureClass 50 = .ok (.ireturn, 1) := by decide +kernel
theorem dX8_measureClass_51 : decode cX8_measureClass 51 = .ok (.aload_n 0, 1) := by decide +kernel
theorem dX8_measureClass_52 : decode cX8_measureClass 52 = .ok (.getfield 21, 3) := by decide +kernel
theorem dX8_measureClass_55 : decode cX8_measureClass 55 = .ok (.iload_n 1, 1) := by decide +kernel
theorem dX8_measureClass_56 : decode cX8_measureClass 56 = .ok (.iload_n 2, 1) := by decide +kernel
theorem dX8_measureClass_57 : decode cX8_measureClass 57 = .ok (.iload_n 3, 1) := by decide +kernel
theorem dX8_measureClass_58 : decode cX8_measureClass 58 = .ok (.iadd, 1) := by decide +kernel
theorem dX8_measureClass_59 : decode cX8_measureClass 59 = .ok (.iconst 1, 1) := by decide +kernel
theorem dX8_measureClass_60 : decode cX8_measureClass 60 = .ok (.iadd, 1) := by decide +kernel
theorem dX8_measureClass_61 : decode cX8_measureClass 61 = .ok (.bipush 40, 2) := by decide +kernel
theorem dX8_measureClass_63 : decode cX8_measureClass 63 = .ok (.invokestatic 94, 3) := by decide +kernel
theorem dX8_measureClass_66 : decode cX8_measureClass 66 = .ok (.iastore, 1) := by decide +kernel
theorem dX8_measureClass_67 : decode cX8_measureClass 67 = .ok (.iconst 1, 1) := by decide +kernel
theorem dX8_measureClass_68 : decode cX8_measureClass 68 = .ok (.ireturn, 1) := by decide +kernel
def fX8_measureClass (N : Nat) (v0 : Nat) (v1 : Int32) (m0 : qM) : Option (Int32 × qM) :=
  (qgR m0 v0 8 3).bind fun x1 =>
  (qgR m0 v0 8 1).bind fun x2 =>
  (qgR m0 v0 8 2).bind fun x3 =>
  (qaI m0 x3 12 v1).bind fun x4 =>
  (qaI m0 x2 12 (x4 + (1 : Int32))).bind fun x5 =>
  (qaI m0 x1 12 x5).bind fun x6 =>
  (qgR m0 v0 8 3).bind fun x7 =>
  (qgR m0 v0 8 1).bind fun x8 =>
  (qgR m0 v0 8 0).bind fun x9 =>
  (qgR m0 v0 8 2).bind fun x10 =>
  (qaI m0 x10 12 v1).bind fun x11 =>
  (qaI m0 x9 12 x11).bind fun x12 =>
  (qaI m0 x8 12 x12).bind fun x13 =>
  (qaI m0 x7 12 x13).bind fun x14 =>
  if x6 = 0 then (
  some ((0 : Int32), m0)
  ) else (
  if x14 = 0 then (
  some ((0 : Int32), m0)
  ) else (
  (qgR m0 v0 8 3).bind fun x15 =>
  (qwI m0 x15 12 v1 (if (40 : Int32) < (x6 + x14) + (1 : Int32) then (40 : Int32) else (x6 + x14) + (1 : Int32))).bind fun m16 =>
  some ((1 : Int32), m16)
  )
  )
set_option maxRecDepth 100000 in
theorem bX8_measureClass {E : qE} {N d bc bs : Nat} (hd : 1 ≤ d) {v0 : Nat} {v1 : Int32} {m0 : qM} : qB E yX8_measureClass cX8_measureClass 4 (some .boolean) (fun _ => True) d bc bs 0 [(0, .ref (E.2.1 + v0)), (1, .int v1)] [] m0 (fX8_measureClass N v0 v1 m0) (fun b rr => rr = (some (.int b.1), b.2)) := by
  unfold fX8_measureClass
  refine j_aload_n (q := 0) (np := 1) rfl rfl dX8_measureClass_0 rfl ?_
  refine j_gR (np := 4) flX8_21 dX8_measureClass_1 rfl (fun x1 => ?_)
  refine j_aload_n (q := 0) (np := 5) rfl rfl dX8_measureClass_4 rfl ?_
  refine j_gR (np := 8) flX8_15 dX8_measureClass_5 rfl (fun x2 => ?_)
  refine j_aload_n (q := 0) (np := 9) rfl rfl dX8_measureClass_8 rfl ?_
  refine j_gR (np := 12) flX8_18 dX8_measureClass_9 rfl (fun x3 => ?_)
  refine j_iload_n (q := 1) (np := 13) rfl rfl dX8_measureClass_12 rfl ?_
  refine j_iaload (np := 14) dX8_measureClass_13 rfl (fun x4 => ?_)
  refine j_iconst (np := 15) ci_1 dX8_measureClass_14 rfl ?_
  refine j_iadd (np := 16) dX8_measureClass_15 rfl ?_
  refine j_iaload (np := 17) dX8_measureClass_16 rfl (fun x5 => ?_)
  refine j_iaload (np := 18) dX8_measureClass_17 rfl (fun x6 => ?_)
  refine j_istore_n (np := 19) (lv2 := [(2, .int x6), (0, .ref (E.2.1 + v0)), (1, .int v1)]) rfl (by decide) dX8_measureClass_18 rfl rfl ?_
  refine j_aload_n (q := 1) (np := 20) rfl rfl dX8_measureClass_19 rfl ?_
  refine j_gR (np := 23) flX8_21 dX8_measureClass_20 rfl (fun x7 => ?_)
  refine j_aload_n (q := 1) (np := 24) rfl rfl dX8_measureClass_23 rfl ?_
  refine j_gR (np := 27) flX8_15 dX8_measureClass_24 rfl (fun x8 => ?_)
  refine j_aload_n (q := 1) (np := 28) rfl rfl dX8_measureClass_27 rfl ?_
  refine j_gR (np := 31) flX8_11 dX8_measureClass_28 rfl (fun x9 => ?_)
  refine j_aload_n (q := 1) (np := 32) rfl rfl dX8_measureClass_31 rfl ?_
  refine j_gR (np := 35) flX8_18 dX8_measureClass_32 rfl (fun x10 => ?_)
  refine j_iload_n (q := 2) (np := 36) rfl rfl dX8_measureClass_35 rfl ?_
  refine j_iaload (np := 37) dX8_measureClass_36 rfl (fun x11 => ?_)
  refine j_iaload (np := 38) dX8_measureClass_37 rfl (fun x12 => ?_)
  refine j_iaload (np := 39) dX8_measureClass_38 rfl (fun x13 => ?_)
  refine j_iaload (np := 40) dX8_measureClass_39 rfl (fun x14 => ?_)
  refine j_istore_n (np := 41) (lv2 := [(3, .int x14), (2, .int x6), (0, .ref (E.2.1 + v0)), (1, .int v1)]) rfl (by decide) dX8_measureClass_40 rfl rfl ?_
  refine j_iload_n (q := 1) (np := 42) rfl rfl dX8_measureClass_41 rfl ?_
  refine j_if_eq (tgt := 49) (np := 45) dX8_measureClass_42 rfl rfl ?_ ?_
  · refine j_iconst (np := 50) ci_0 dX8_measureClass_49 rfl ?_
    exact j_zret rfl dX8_measureClass_50 (fun rr h => by rw [z0]; exact h)
  · refine j_iload_n (q := 0) (np := 46) rfl rfl dX8_measureClass_45 rfl ?_
    refine j_if_ne (tgt := 51) (np := 49) dX8_measureClass_46 rfl rfl ?_ ?_
    · refine j_aload_n (q := 2) (np := 52) rfl rfl dX8_measureClass_51 rfl ?_
      refine j_gR (np := 55) flX8_21 dX8_measureClass_52 rfl (fun x15 => ?_)
      refine j_iload_n (q := 3) (np := 56) rfl rfl dX8_measureClass_55 rfl ?_
      refine j_iload_n (q := 1) (np := 57) rfl rfl dX8_measureClass_56 rfl ?_
      refine j_iload_n (q := 0) (np := 58) rfl rfl dX8_measureClass_57 rfl ?_
      refine j_iadd (np := 59) dX8_measureClass_58 rfl ?_
      refine j_iconst (np := 60) ci_1 dX8_measureClass_59 rfl ?_
      refine j_iadd (np := 61) dX8_measureClass_60 rfl ?_
      refine j_bipush (np := 63) cb_40 dX8_measureClass_61 rfl ?_
      refine j_min (np := 66) mlX8_94 stmin inMath cdmin (by omega) (Nat.le_of_ble_eq_true rfl) dX8_measureClass_63 rfl ?_
      refine j_iastore (np := 67) dX8_measureClass_66 rfl (fun m16 => ?_)
      refine j_iconst (np := 68) ci_1 dX8_measureClass_67 rfl ?_
      exact j_zret rfl dX8_measureClass_68 (fun rr h => by rw [z1]; exact h)
    · refine j_iconst (np := 50) ci_0 dX8_measureClass_49 rfl ?_
      exact j_zret rfl dX8_measureClass_50 (fun rr h => by rw [z0]; exact h)
set_option maxRecDepth 100000 in
theorem wX8_measureClass {E : qE} {N d : Nat} (hd : 1 ≤ d) {v0 : Nat} {v1 : Int32} {m0 : qM} {b : Int32 × qM} (h : fX8_measureClass N v0 v1 m0 = some b) : qRun E yX8_measureClass cX8_measureClass 4 (some .boolean) d 0 0 [.ref (E.2.1 + v0), .int v1] m0 (some (.int b.1), b.2) := q_met pnX8 (Nat.le_of_ble_eq_true rfl) (bX8_measureClass hd b _ h rfl)
theorem dX8_measure_0 : decode cX8_measure 0 = .ok (.iconst 0, 1) := by decide +kernel
theorem dX8_measure_1 : decode cX8_measure 1 = .ok (.istore_n 1, 1) := by decide +kernel
theorem dX8_measure_2 : decode cX8_measure 2 = .ok (.iconst 0, 1) := by decide +kernel
theorem dX8_measure_3 : decode cX8_measure 3 = .ok (.istore_n 2, 1) := by decide +kernel
theorem dX8_measure_4 : decode cX8_measure 4 = .ok (.iload_n 2, 1) := by decide +kernel
theorem dX8_measure_5 : decode cX8_measure 5 = .ok (.aload_n 0, 1) := by decide +kernel
theorem dX8_measure_6 : decode cX8_measure 6 = .ok (.getfield 74, 3) := by decide +kernel
theorem dX8_measure_9 : decode cX8_measure 9 = .ok (.if_icmp .ge 72, 3) := by decide +kernel
theorem dX8_measure_12 : decode cX8_measure 12 = .ok (.aload_n 0, 1) := by decide +kernel
theorem dX8_measure_13 : decode cX8_measure 13 = .ok (.getfield 15, 3) := by decide +kernel
theorem dX8_measure_16 : decode cX8_measure 16 = .ok (.iload_n 2, 1) := by decide +kernel
theorem dX8_measure_17 : decode cX8_measure 17 = .ok (.iaload, 1) := by decide +kernel
theorem dX8_measure_18 : decode cX8_measure 18 = .ok (.iload_n 2, 1) := by decide +kernel
theorem dX8_measure_19 : decode cX8_measure 19 = .ok (.if_icmp .ne 17, 3) := by decide +kernel
theorem dX8_measure_22 : decode cX8_measure 22 = .ok (.aload_n 0, 1) := by decide +kernel
theorem dX8_measure_23 : decode cX8_measure 23 = .ok (.getfield 18, 3) := by decide +kernel
theorem dX8_measure_26 : decode cX8_measure 26 = .ok (.iload_n 2, 1) := by decide +kernel
theorem dX8_measure_27 : decode cX8_measure 27 = .ok (.iaload, 1) := by decide +kernel
theorem dX8_measure_28 : decode cX8_measure 28 = .ok (.iconst (-1), 1) := by decide +kernel
theorem dX8_measure_29 : decode cX8_measure 29 = .ok (.if_icmp .ne 7, 3) := by decide +kernel
theorem dX8_measure_32 : decode cX8_measure 32 = .ok (.iconst 1, 1) := by decide +kernel
theorem dX8_measure_33 : decode cX8_measure 33 = .ok (.goto 4, 3) := by decide +kernel
theorem dX8_measure_36 : decode cX8_measure 36 = .ok (.iconst 0, 1) := by decide +kernel
theorem dX8_measure_37 : decode cX8_measure 37 = .ok (.istore_n 3, 1) := by decide +kernel
theorem dX8_measure_38 : decode cX8_measure 38 = .ok (.aload_n 0, 1) := by decide +kernel
theorem dX8_measure_39 : decode cX8_measure 39 = .ok (.getfield 21, 3) := by decide +kernel
theorem dX8_measure_42 : decode cX8_measure 42 = .ok (.iload_n 2, 1) := by decide +kernel
theorem dX8_measure_43 : decode cX8_measure 43 = .ok (.iload_n 3, 1) := by decide +kernel
theorem dX8_measure_44 : decode cX8_measure 44 = .ok (.ifCond .eq 7, 3) := by decide +kernel
theorem dX8_measure_47 : decode cX8_measure 47 = .ok (.iconst 1, 1) := by decide +kernel
theorem dX8_measure_48 : decode cX8_measure 48 = .ok (.goto 4, 3) := by decide +kernel
theorem dX8_measure_51 : decode cX8_measure 51 = .ok (.iconst 0, 1) := by decide +kernel
theorem dX8_measure_52 : decode cX8_measure 52 = .ok (.iastore, 1) := by decide +kernel
theorem dX8_measure_53 : decode cX8_measure 53 = .ok (.iload_n 1, 1) := by decide +kernel
theorem dX8_measure_54 : decode cX8_measure 54 = .ok (.aload_n 0, 1) := by decide +kernel
theorem dX8_measure_55 : decode cX8_measure 55 = .ok (.getfield 15, 3) := by decide +kernel
theorem dX8_measure_58 : decode cX8_measure 58 = .ok (.iload_n 2, 1) := by decide +kernel
theorem dX8_measure_59 : decode cX8_measure 59 = .ok (.iaload, 1) := by decide +kernel
theorem dX8_measure_60 : decode cX8_measure 60 = .ok (.iload_n 2, 1) := by decide +kernel
theorem dX8_measure_61 : decode cX8_measure 61 = .ok (.if_icmp .ne 11, 3) := by decide +kernel
theorem dX8_measure_64 : decode cX8_measure 64 = .ok (.iload_n 3, 1) := by decide +kernel
theorem dX8_measure_65 : decode cX8_measure 65 = .ok (.ifCond .ne 7, 3) := by decide +kernel
theorem dX8_measure_68 : decode cX8_measure 68 = .ok (.iconst 1, 1) := by decide +kernel
theorem dX8_measure_69 : decode cX8_measure 69 = .ok (.goto 4, 3) := by decide +kernel
theorem dX8_measure_72 : decode cX8_measure 72 = .ok (.iconst 0, 1) := by decide +kernel
theorem dX8_measure_73 : decode cX8_measure 73 = .ok (.iadd, 1) := by decide +kernel
theorem dX8_measure_74 : decode cX8_measure 74 = .ok (.istore_n 1, 1) := by decide +kernel
theorem dX8_measure_75 : decode cX8_measure 75 = .ok (.iinc 2 1, 3) := by decide +kernel
theorem dX8_measure_78 : decode cX8_measure 78 = .ok (.goto (-74), 3) := by decide +kernel
theorem dX8_measure_81 : decode cX8_measure 81 = .ok (.iconst 1, 1) := by decide +kernel
theorem dX8_measure_82 : decode cX8_measure 82 = .ok (.istore_n 2, 1) := by decide +kernel
theorem dX8_measure_83 : decode cX8_measure 83 = .ok (.iconst 0, 1) := by decide +kernel
theorem dX8_measure_84 : decode cX8_measure 84 = .ok (.istore_n 3, 1) := by decide +kernel
theorem dX8_measure_85 : decode cX8_measure 85 = .ok (.iload_n 3, 1) := by decide +kernel
theorem dX8_measure_86 : decode cX8_measure 86 = .ok (.bipush 78, 2) := by decide +kernel
theorem dX8_measure_88 : decode cX8_measure 88 = .ok (.if_icmp .ge 74, 3) := by decide +kernel
theorem dX8_measure_91 : decode cX8_measure 91 = .ok (.iload_n 2, 1) := by decide +kernel
theorem dX8_measure_92 : decode cX8_measure 92 = .ok (.ifCond .eq 70, 3) := by decide +kernel
theorem dX8_measure_95 : decode cX8_measure 95 = .ok (.iload_n 1, 1) := by decide +kernel
theorem dX8_measure_96 : decode cX8_measure 96 = .ok (.ifCond .le 66, 3) := by decide +kernel
theorem dX8_measure_99 : decode cX8_measure 99 = .ok (.iconst 0, 1) := by decide +kernel
theorem dX8_measure_100 : decode cX8_measure 100 = .ok (.istore_n 2, 1) := by decide +kernel
theorem dX8_measure_101 : decode cX8_measure 101 = .ok (.aload_n 0, 1) := by decide +kernel
theorem dX8_measure_102 : decode cX8_measure 102 = .ok (.getfield 74, 3) := by decide +kernel
theorem dX8_measure_105 : decode cX8_measure 105 = .ok (.iconst 1, 1) := by decide +kernel
theorem dX8_measure_106 : decode cX8_measure 106 = .ok (.isub, 1) := by decide +kernel
theorem dX8_measure_107 : decode cX8_measure 107 = .ok (.istore 4, 2) := by decide +kernel
theorem dX8_measure_109 : decode cX8_measure 109 = .ok (.iload 4, 2) := by decide +kernel
theorem dX8_measure_111 : decode cX8_measure 111 = .ok (.ifCond .lt 45, 3) := by decide +kernel
theorem dX8_measure_114 : decode cX8_measure 114 = .ok (.aload_n 0, 1) := by decide +kernel
theorem dX8_measure_115 : decode cX8_measure 115 = .ok (.getfield 15, 3) := by decide +kernel
theorem dX8_measure_118 : decode cX8_measure 118 = .ok (.iload 4, 2) := by decide +kernel
theorem dX8_measure_120 : decode cX8_measure 120 = .ok (.iaload, 1) := by decide +kernel
theorem dX8_measure_121 : decode cX8_measure 121 = .ok (.iload 4, 2) := by decide +kernel
theorem dX8_measure_123 : decode cX8_measure 123 = .ok (.if_icmp .ne 27, 3) := by decide +kernel
theorem dX8_measure_126 : decode cX8_measure 126 = .ok (.aload_n 0, 1) := by decide +kernel
theorem dX8_measure_127 : decode cX8_measure 127 = .ok (.getfield 21, 3) := by decide +kernel
theorem dX8_measure_130 : decode cX8_measure 130 = .ok (.iload 4, 2) := by decide +kernel
theorem dX8_measure_132 : decode cX8_measure 132 = .ok (.iaload, 1) := by decide +kernel
theorem dX8_measure_133 : decode cX8_measure 133 = .ok (.ifCond .ne 17, 3) := by decide +kernel
theorem dX8_measure_136 : decode cX8_measure 136 = .ok (.aload_n 0, 1) := by decide +kernel
theorem dX8_measure_137 : decode cX8_measure 137 = .ok (.iload 4, 2) := by decide +kernel
theorem dX8_measure_139 : decode cX8_measure 139 = .ok (.invokevirtual 90, 3) := by decide +kernel
theorem dX8_measure_142 : decode cX8_measure 142 = .ok (.ifCond .eq 8, 3) := by decide +kernel
theorem dX8_measure_145 : decode cX8_measure 145 = .ok (.iinc 1 (-1), 3) := by decide +kernel
theorem dX8_measure_148 : decode cX8_measure 148 = .ok (.iconst 1, 1) := by decide +kernel
theorem dX8_measure_149 : decode cX8_measure 149 = .ok (.istore_n 2, 1) := by decide +kernel
theorem dX8_measure_150 : decode cX8_measure 150 = .ok (.iinc 4 (-1), 3) := by decide +kernel
theorem dX8_measure_153 : decode cX8_measure 153 = .ok (.goto (-44), 3) := by decide +kernel
theorem dX8_measure_156 : decode cX8_measure 156 = .ok (.iinc 3 1, 3) := by decide +kernel
theorem dX8_measure_159 : decode cX8_measure 159 = .ok (.goto (-74), 3) := by decide +kernel
theorem dX8_measure_162 : decode cX8_measure 162 = .ok (.iload_n 1, 1) := by decide +kernel
theorem dX8_measure_163 : decode cX8_measure 163 = .ok (.ifCond .ne 7, 3) := by decide +kernel
theorem dX8_measure_166 : decode cX8_measure 166 = .ok (.iconst 1, 1) := by decide +kernel
theorem dX8_measure_167 : decode cX8_measure 167 = .ok (.goto 4, 3) := by decide +kernel
theorem dX8_measure_170 : decode cX8_measure 170 = .ok (.iconst 0, 1) := by decide +kernel
theorem dX8_measure_171 : decode cX8_measure 171 = .ok (.ireturn, 1) := by decide +kernel
def kX8_measure_150 (N : Nat) (rec : Int32 → Int32 → Int32 → qM → Option (Int32 × Int32 × qM)) (v0 : Nat) (v1 : Int32) (v2 : Int32) (v3 : Int32) (v4 : Int32)  (m0 : qM) : Option (Int32 × Int32 × qM) :=
  rec v1 v2 (v4 + (-1 : Int32)) m0
set_option maxRecDepth 100000 in
theorem kbX8_measure_150 {E : qE} {N d bc bs : Nat} (hd : 2 ≤ d) {v0 : Nat} {v1 : Int32} {v2 : Int32} {v3 : Int32} {v4 : Int32}  {m0 : qM} {rec : Int32 → Int32 → Int32 → qM → Option (Int32 × Int32 × qM)} (hrec : ∀ (v1 : Int32) (v2 : Int32) (v4 : Int32) (m : qM), qB E yX8_measure cX8_measure 5 (some .boolean) (fun _ => True) d bc bs 109 [(0, .ref (E.2.1 + v0)), (1, .int v1), (2, .int v2), (3, .int v3), (4, .int v4)] [] m (rec v1 v2 v4 m) (fun o rr => qJ E yX8_measure cX8_measure 5 (some .boolean) (fun _ => True) d bc bs 156 [(0, .ref (E.2.1 + v0)), (1, .int o.1), (2, .int o.2.1), (3, .int v3)] [] o.2.2 rr)) : qB E yX8_measure cX8_measure 5 (some .boolean) (fun _ => True) d bc bs 150 [(0, .ref (E.2.1 + v0)), (1, .int v1), (2, .int v2), (3, .int v3), (4, .int v4)] [] m0 (kX8_measure_150 N rec v0 v1 v2 v3 v4 m0) (fun o rr => qJ E yX8_measure cX8_measure 5 (some .boolean) (fun _ => True) d bc bs 156 [(0, .ref (E.2.1 + v0)), (1, .int o.1), (2, .int o.2.1), (3, .int v3)] [] o.2.2 rr) := by
  unfold kX8_measure_150
  refine j_iinc (q := 4) (np := 153) (lv2 := [(4, .int (v4 + (-1 : Int32))), (0, .ref (E.2.1 + v0)), (1, .int v1), (2, .int v2), (3, .int v3)]) rfl (congrArg _ ci_m1) (by decide) dX8_measure_150 rfl rfl ?_
  refine j_goto (tgt := 109) dX8_measure_153 rfl ?_
  refine j_sub (lv2 := [(0, .ref (E.2.1 + v0)), (1, .int v1), (2, .int v2), (3, .int v3), (4, .int (v4 + (-1 : Int32)))]) [1, 2, 3, 4, 0] rfl ?_
  exact hrec _ _ _ _
def lX8_measure_109 (N : Nat) (v0 : Nat) (v3 : Int32) : Nat → Int32 → Int32 → Int32 → qM → Option (Int32 × Int32 × qM)
  | 0, _, _, _, _ => none
  | n + 1, v1, v2, v4, m0 =>
    if v4 < 0 then (
    some (v1, v2, m0)
    ) else (
    (qgR m0 v0 8 1).bind fun x1 =>
    (qaI m0 x1 12 v4).bind fun x2 =>
    if x2 = v4 then (
    (qgR m0 v0 8 3).bind fun x3 =>
    (qaI m0 x3 12 v4).bind fun x4 =>
    if x4 = 0 then (
    (qChk m0 v0 8 (fX8_measureClass N v0 v4 m0)).bind fun b5 =>
    if b5.1 = 0 then (
    kX8_measure_150 N (lX8_measure_109 N v0 v3 n) v0 v1 v2 v3 v4 b5.2
    ) else (
    kX8_measure_150 N (lX8_measure_109 N v0 v3 n) v0 (v1 + (-1 : Int32)) (1 : Int32) v3 v4 b5.2
    )
    ) else (
    kX8_measure_150 N (lX8_measure_109 N v0 v3 n) v0 v1 v2 v3 v4 m0
    )
    ) else (
    kX8_measure_150 N (lX8_measure_109 N v0 v3 n) v0 v1 v2 v3 v4 m0
    )
    )
set_option maxRecDepth 100000 in
theorem lbX8_measure_109 {E : qE} {N d bc bs : Nat} (hd : 2 ≤ d) {v0 : Nat} {v3 : Int32} : ∀ (n : Nat) (v1 : Int32) (v2 : Int32) (v4 : Int32) (m0 : qM), qB E yX8_measure cX8_measure 5 (some .boolean) (fun _ => True) d bc bs 109 [(0, .ref (E.2.1 + v0)), (1, .int v1), (2, .int v2), (3, .int v3), (4, .int v4)] [] m0 (lX8_measure_109 N v0 v3 n v1 v2 v4 m0) (fun o rr => qJ E yX8_measure cX8_measure 5 (some .boolean) (fun _ => True) d bc bs 156 [(0, .ref (E.2.1 + v0)), (1, .int o.1), (2, .int o.2.1), (3, .int v3)] [] o.2.2 rr) := by
  intro n
  induction n with
  | zero =>
    intro v1 v2 v4 m0
    exact j_none
  | succ n ih =>
    intro v1 v2 v4 m0
    unfold lX8_measure_109
    refine j_iload (q := 4) (np := 111) rfl dX8_measure_109 rfl ?_
    refine j_if_lt (tgt := 156) (np := 114) dX8_measure_111 rfl rfl ?_ ?_
    · refine j_sub (lv2 := [(0, .ref (E.2.1 + v0)), (1, .int v1), (2, .int v2), (3, .int v3)]) [0, 1, 2, 3] rfl ?_
      exact j_exit (fun rr h => h)
    · refine j_aload_n (q := 0) (np := 115) rfl rfl dX8_measure_114 rfl ?_
      refine j_gR (np := 118) flX8_15 dX8_measure_115 rfl (fun x1 => ?_)
      refine j_iload (q := 4) (np := 120) rfl dX8_measure_118 rfl ?_
      refine j_iaload (np := 121) dX8_measure_120 rfl (fun x2 => ?_)
      refine j_iload (q := 4) (np := 123) rfl dX8_measure_121 rfl ?_
      refine j_icmp_ne (tgt := 150) (np := 126) dX8_measure_123 rfl rfl ?_ ?_
      · exact kbX8_measure_150 hd ih
      · refine j_aload_n (q := 0) (np := 127) rfl rfl dX8_measure_126 rfl ?_
        refine j_gR (np := 130) flX8_21 dX8_measure_127 rfl (fun x3 => ?_)
        refine j_iload (q := 4) (np := 132) rfl dX8_measure_130 rfl ?_
        refine j_iaload (np := 133) dX8_measure_132 rfl (fun x4 => ?_)
        refine j_if_ne (tgt := 150) (np := 136) dX8_measure_133 rfl rfl ?_ ?_
        · exact kbX8_measure_150 hd ih
        · refine j_aload_n (q := 0) (np := 137) rfl rfl dX8_measure_136 rfl ?_
          refine j_iload (q := 4) (np := 139) rfl dX8_measure_137 rfl ?_
          refine j_callVi (ci := 8) (np := 142) (bc := bc) (bs := bs) (cb := 0) (cs := 0) (dd := d - 1) (As := [.int v4]) (st := []) caX8_measureClass mlX8_90 imX8_measureClass seX8_measureClass rfl rfl (by decide) (fun b hb => wX8_measureClass (by omega) hb) (by omega) rfl rfl (Nat.le_of_ble_eq_true rfl) dX8_measure_139 rfl (fun b5 => ?_)
          refine j_if_eq (tgt := 150) (np := 145) dX8_measure_142 rfl rfl ?_ ?_
          · exact kbX8_measure_150 hd ih
          · refine j_iinc (q := 1) (np := 148) (lv2 := [(1, .int (v1 + (-1 : Int32))), (0, .ref (E.2.1 + v0)), (2, .int v2), (3, .int v3), (4, .int v4)]) rfl (congrArg _ ci_m1) (by decide) dX8_measure_145 rfl rfl ?_
            refine j_iconst (np := 149) ci_1 dX8_measure_148 rfl ?_
            refine j_istore_n (np := 150) (lv2 := [(2, .int (1 : Int32)), (1, .int (v1 + (-1 : Int32))), (0, .ref (E.2.1 + v0)), (3, .int v3), (4, .int v4)]) rfl (by decide) dX8_measure_149 rfl rfl ?_
            refine j_sub (lv2 := [(0, .ref (E.2.1 + v0)), (1, .int (v1 + (-1 : Int32))), (2, .int (1 : Int32)), (3, .int v3), (4, .int v4)]) [2, 1, 0, 3, 4] rfl ?_
            exact kbX8_measure_150 hd ih
def lX8_measure_85 (N : Nat) (v0 : Nat) : Nat → Int32 → Int32 → Int32 → qM → Option (Int32 × qM)
  | 0, _, _, _, _ => none
  | n + 1, v1, v2, v3, m0 =>
    if (78 : Int32) ≤ v3 then (
    some (v1, m0)
    ) else (
    if v2 = 0 then (
    some (v1, m0)
    ) else (
    if v1 ≤ 0 then (
    some (v1, m0)
    ) else (
    (qgI m0 v0 8 9).bind fun x1 =>
    (lX8_measure_109 N v0 v3 N v1 (0 : Int32) (x1 - (1 : Int32)) m0).bind fun o2 =>
    lX8_measure_85 N v0 n o2.1 o2.2.1 (v3 + (1 : Int32)) o2.2.2
    )
    )
    )
set_option maxRecDepth 100000 in
theorem lbX8_measure_85 {E : qE} {N d bc bs : Nat} (hd : 2 ≤ d) {v0 : Nat} : ∀ (n : Nat) (v1 : Int32) (v2 : Int32) (v3 : Int32) (m0 : qM), qB E yX8_measure cX8_measure 5 (some .boolean) (fun _ => True) d bc bs 85 [(0, .ref (E.2.1 + v0)), (1, .int v1), (2, .int v2), (3, .int v3)] [] m0 (lX8_measure_85 N v0 n v1 v2 v3 m0) (fun o rr => qJ E yX8_measure cX8_measure 5 (some .boolean) (fun _ => True) d bc bs 162 [(1, .int o.1)] [] o.2 rr) := by
  intro n
  induction n with
  | zero =>
    intro v1 v2 v3 m0
    exact j_none
  | succ n ih =>
    intro v1 v2 v3 m0
    unfold lX8_measure_85
    refine j_iload_n (q := 3) (np := 86) rfl rfl dX8_measure_85 rfl ?_
    refine j_bipush (np := 88) cb_78 dX8_measure_86 rfl ?_
    refine j_icmp_ge (tgt := 162) (np := 91) dX8_measure_88 rfl rfl ?_ ?_
    · refine j_sub (lv2 := [(1, .int v1)]) [1] rfl ?_
      exact j_exit (fun rr h => h)
    · refine j_iload_n (q := 2) (np := 92) rfl rfl dX8_measure_91 rfl ?_
      refine j_if_eq (tgt := 162) (np := 95) dX8_measure_92 rfl rfl ?_ ?_
      · refine j_sub (lv2 := [(1, .int v1)]) [1] rfl ?_
        exact j_exit (fun rr h => h)
      · refine j_iload_n (q := 1) (np := 96) rfl rfl dX8_measure_95 rfl ?_
        refine j_if_le (tgt := 162) (np := 99) dX8_measure_96 rfl rfl ?_ ?_
        · refine j_sub (lv2 := [(1, .int v1)]) [1] rfl ?_
          exact j_exit (fun rr h => h)
        · refine j_iconst (np := 100) ci_0 dX8_measure_99 rfl ?_
          refine j_istore_n (np := 101) (lv2 := [(2, .int (0 : Int32)), (0, .ref (E.2.1 + v0)), (1, .int v1), (3, .int v3)]) rfl (by decide) dX8_measure_100 rfl rfl ?_
          refine j_aload_n (q := 1) (np := 102) rfl rfl dX8_measure_101 rfl ?_
          refine j_gI (np := 105) flX8_74 dX8_measure_102 rfl (fun x1 => ?_)
          refine j_iconst (np := 106) ci_1 dX8_measure_105 rfl ?_
          refine j_isub (np := 107) dX8_measure_106 rfl ?_
          refine j_istore (np := 109) (lv2 := [(4, .int (x1 - (1 : Int32))), (2, .int (0 : Int32)), (0, .ref (E.2.1 + v0)), (1, .int v1), (3, .int v3)]) (by decide) dX8_measure_107 rfl rfl ?_
          refine j_sub (lv2 := [(0, .ref (E.2.1 + v0)), (1, .int v1), (2, .int (0 : Int32)), (3, .int v3), (4, .int (x1 - (1 : Int32)))]) [2, 3, 1, 4, 0] rfl ?_
          refine j_loop (xp := 156) (lvX := fun o2 => [(0, .ref (E.2.1 + v0)), (1, .int o2.1), (2, .int o2.2.1), (3, .int v3)]) (mX := fun o2 => o2.2.2) (lbX8_measure_109 hd _ _ _ _ _) (fun o2 => ?_)
          refine j_iinc (q := 3) (np := 159) (lv2 := [(3, .int (v3 + (1 : Int32))), (0, .ref (E.2.1 + v0)), (1, .int o2.1), (2, .int o2.2.1)]) rfl (congrArg _ ci_1) (by decide) dX8_measure_156 rfl rfl ?_
          refine j_goto (tgt := 85) dX8_measure_159 rfl ?_
          refine j_sub (lv2 := [(0, .ref (E.2.1 + v0)), (1, .int o2.1), (2, .int o2.2.1), (3, .int (v3 + (1 : Int32)))]) [1, 2, 3, 0] rfl ?_
          exact ih _ _ _ _
def kX8_measure_73 (N : Nat) (rec : Int32 → Int32 → qM → Option (Int32 × qM)) (v0 : Nat) (v2 : Int32) (s0 : Int32) (s1 : Int32) (m0 : qM) : Option (Int32 × qM) :=
  rec (s0 + s1) (v2 + (1 : Int32)) m0
set_option maxRecDepth 100000 in
theorem kbX8_measure_73 {E : qE} {N d bc bs : Nat} (hd : 2 ≤ d) {v0 : Nat} {v2 : Int32} {s0 : Int32} {s1 : Int32} {m0 : qM} {rec : Int32 → Int32 → qM → Option (Int32 × qM)} (hrec : ∀ (v1 : Int32) (v2 : Int32) (m : qM), qB E yX8_measure cX8_measure 5 (some .boolean) (fun _ => True) d bc bs 4 [(0, .ref (E.2.1 + v0)), (1, .int v1), (2, .int v2)] [] m (rec v1 v2 m) (fun o rr => qJ E yX8_measure cX8_measure 5 (some .boolean) (fun _ => True) d bc bs 81 [(0, .ref (E.2.1 + v0)), (1, .int o.1)] [] o.2 rr)) : qB E yX8_measure cX8_measure 5 (some .boolean) (fun _ => True) d bc bs 73 [(0, .ref (E.2.1 + v0)), (2, .int v2)] [.int s1, .int s0] m0 (kX8_measure_73 N rec v0 v2 s0 s1 m0) (fun o rr => qJ E yX8_measure cX8_measure 5 (some .boolean) (fun _ => True) d bc bs 81 [(0, .ref (E.2.1 + v0)), (1, .int o.1)] [] o.2 rr) := by
  unfold kX8_measure_73
  refine j_iadd (np := 74) dX8_measure_73 rfl ?_
  refine j_istore_n (np := 75) (lv2 := [(1, .int (s0 + s1)), (0, .ref (E.2.1 + v0)), (2, .int v2)]) rfl (by decide) dX8_measure_74 rfl rfl ?_
  refine j_iinc (q := 2) (np := 78) (lv2 := [(2, .int (v2 + (1 : Int32))), (1, .int (s0 + s1)), (0, .ref (E.2.1 + v0))]) rfl (congrArg _ ci_1) (by decide) dX8_measure_75 rfl rfl ?_
  refine j_goto (tgt := 4) dX8_measure_78 rfl ?_
  refine j_sub (lv2 := [(0, .ref (E.2.1 + v0)), (1, .int (s0 + s1)), (2, .int (v2 + (1 : Int32)))]) [2, 1, 0] rfl ?_
  exact hrec _ _ _
def kX8_measure_72 (N : Nat) (rec : Int32 → Int32 → qM → Option (Int32 × qM)) (v0 : Nat) (v2 : Int32) (s0 : Int32) (m0 : qM) : Option (Int32 × qM) :=
  kX8_measure_73 N (rec) v0 v2 s0 (0 : Int32) m0
set_option maxRecDepth 100000 in
theorem kbX8_measure_72 {E : qE} {N d bc bs : Nat} (hd : 2 ≤ d) {v0 : Nat} {v2 : Int32} {s0 : Int32} {m0 : qM} {rec : Int32 → Int32 → qM → Option (Int32 × qM)} (hrec : ∀ (v1 : Int32) (v2 : Int32) (m : qM), qB E yX8_measure cX8_measure 5 (some .boolean) (fun _ => True) d bc bs 4 [(0, .ref (E.2.1 + v0)), (1, .int v1), (2, .int v2)] [] m (rec v1 v2 m) (fun o rr => qJ E yX8_measure cX8_measure 5 (some .boolean) (fun _ => True) d bc bs 81 [(0, .ref (E.2.1 + v0)), (1, .int o.1)] [] o.2 rr)) : qB E yX8_measure cX8_measure 5 (some .boolean) (fun _ => True) d bc bs 72 [(0, .ref (E.2.1 + v0)), (2, .int v2)] [.int s0] m0 (kX8_measure_72 N rec v0 v2 s0 m0) (fun o rr => qJ E yX8_measure cX8_measure 5 (some .boolean) (fun _ => True) d bc bs 81 [(0, .ref (E.2.1 + v0)), (1, .int o.1)] [] o.2 rr) := by
  unfold kX8_measure_72
  refine j_iconst (np := 73) ci_0 dX8_measure_72 rfl ?_
  exact kbX8_measure_73 hd hrec
def kX8_measure_52 (N : Nat) (rec : Int32 → Int32 → qM → Option (Int32 × qM)) (v0 : Nat) (v1 : Int32) (v2 : Int32) (v3 : Int32) (s0 : Nat) (s1 : Int32) (s2 : Int32) (m0 : qM) : Option (Int32 × qM) :=
  (qwI m0 s0 12 s1 s2).bind fun m1 =>
  (qgR m1 v0 8 1).bind fun x2 =>
  (qaI m1 x2 12 v2).bind fun x3 =>
  if x3 = v2 then (
  if v3 = 0 then (
  kX8_measure_73 N (rec) v0 v2 v1 (1 : Int32) m1
  ) else (
  kX8_measure_72 N (rec) v0 v2 v1 m1
  )
  ) else (
  kX8_measure_72 N (rec) v0 v2 v1 m1
  )
set_option maxRecDepth 100000 in
theorem kbX8_measure_52 {E : qE} {N d bc bs : Nat} (hd : 2 ≤ d) {v0 : Nat} {v1 : Int32} {v2 : Int32} {v3 : Int32} {s0 : Nat} {s1 : Int32} {s2 : Int32} {m0 : qM} {rec : Int32 → Int32 → qM → Option (Int32 × qM)} (hrec : ∀ (v1 : Int32) (v2 : Int32) (m : qM), qB E yX8_measure cX8_measure 5 (some .boolean) (fun _ => True) d bc bs 4 [(0, .ref (E.2.1 + v0)), (1, .int v1), (2, .int v2)] [] m (rec v1 v2 m) (fun o rr => qJ E yX8_measure cX8_measure 5 (some .boolean) (fun _ => True) d bc bs 81 [(0, .ref (E.2.1 + v0)), (1, .int o.1)] [] o.2 rr)) : qB E yX8_measure cX8_measure 5 (some .boolean) (fun _ => True) d bc bs 52 [(0, .ref (E.2.1 + v0)), (1, .int v1), (2, .int v2), (3, .int v3)] [.int s2, .int s1, .ref (E.2.1 + s0)] m0 (kX8_measure_52 N rec v0 v1 v2 v3 s0 s1 s2 m0) (fun o rr => qJ E yX8_measure cX8_measure 5 (some .boolean) (fun _ => True) d bc bs 81 [(0, .ref (E.2.1 + v0)), (1, .int o.1)] [] o.2 rr) := by
  unfold kX8_measure_52
  refine j_iastore (np := 53) dX8_measure_52 rfl (fun m1 => ?_)
  refine j_iload_n (q := 1) (np := 54) rfl rfl dX8_measure_53 rfl ?_
  refine j_aload_n (q := 0) (np := 55) rfl rfl dX8_measure_54 rfl ?_
  refine j_gR (np := 58) flX8_15 dX8_measure_55 rfl (fun x2 => ?_)
  refine j_iload_n (q := 2) (np := 59) rfl rfl dX8_measure_58 rfl ?_
  refine j_iaload (np := 60) dX8_measure_59 rfl (fun x3 => ?_)
  refine j_iload_n (q := 2) (np := 61) rfl rfl dX8_measure_60 rfl ?_
  refine j_icmp_ne (tgt := 72) (np := 64) dX8_measure_61 rfl rfl ?_ ?_
  · refine j_sub (lv2 := [(0, .ref (E.2.1 + v0)), (2, .int v2)]) [0, 2] rfl ?_
    exact kbX8_measure_72 hd hrec
  · refine j_iload_n (q := 3) (np := 65) rfl rfl dX8_measure_64 rfl ?_
    refine j_if_ne (tgt := 72) (np := 68) dX8_measure_65 rfl rfl ?_ ?_
    · refine j_sub (lv2 := [(0, .ref (E.2.1 + v0)), (2, .int v2)]) [0, 2] rfl ?_
      exact kbX8_measure_72 hd hrec
    · refine j_iconst (np := 69) ci_1 dX8_measure_68 rfl ?_
      refine j_goto (tgt := 73) dX8_measure_69 rfl ?_
      refine j_sub (lv2 := [(0, .ref (E.2.1 + v0)), (2, .int v2)]) [0, 2] rfl ?_
      exact kbX8_measure_73 hd hrec
def kX8_measure_37 (N : Nat) (rec : Int32 → Int32 → qM → Option (Int32 × qM)) (v0 : Nat) (v1 : Int32) (v2 : Int32) (s0 : Int32) (m0 : qM) : Option (Int32 × qM) :=
  (qgR m0 v0 8 3).bind fun x1 =>
  if s0 = 0 then (
  kX8_measure_52 N (rec) v0 v1 v2 s0 x1 v2 (0 : Int32) m0
  ) else (
  kX8_measure_52 N (rec) v0 v1 v2 s0 x1 v2 (1 : Int32) m0
  )
set_option maxRecDepth 100000 in
theorem kbX8_measure_37 {E : qE} {N d bc bs : Nat} (hd : 2 ≤ d) {v0 : Nat} {v1 : Int32} {v2 : Int32} {s0 : Int32} {m0 : qM} {rec : Int32 → Int32 → qM → Option (Int32 × qM)} (hrec : ∀ (v1 : Int32) (v2 : Int32) (m : qM), qB E yX8_measure cX8_measure 5 (some .boolean) (fun _ => True) d bc bs 4 [(0, .ref (E.2.1 + v0)), (1, .int v1), (2, .int v2)] [] m (rec v1 v2 m) (fun o rr => qJ E yX8_measure cX8_measure 5 (some .boolean) (fun _ => True) d bc bs 81 [(0, .ref (E.2.1 + v0)), (1, .int o.1)] [] o.2 rr)) : qB E yX8_measure cX8_measure 5 (some .boolean) (fun _ => True) d bc bs 37 [(0, .ref (E.2.1 + v0)), (1, .int v1), (2, .int v2)] [.int s0] m0 (kX8_measure_37 N rec v0 v1 v2 s0 m0) (fun o rr => qJ E yX8_measure cX8_measure 5 (some .boolean) (fun _ => True) d bc bs 81 [(0, .ref (E.2.1 + v0)), (1, .int o.1)] [] o.2 rr) := by
  unfold kX8_measure_37
  refine j_istore_n (np := 38) (lv2 := [(3, .int s0), (0, .ref (E.2.1 + v0)), (1, .int v1), (2, .int v2)]) rfl (by decide) dX8_measure_37 rfl rfl ?_
  refine j_aload_n (q := 1) (np := 39) rfl rfl dX8_measure_38 rfl ?_
  refine j_gR (np := 42) flX8_21 dX8_measure_39 rfl (fun x1 => ?_)
  refine j_iload_n (q := 3) (np := 43) rfl rfl dX8_measure_42 rfl ?_
  refine j_iload_n (q := 0) (np := 44) rfl rfl dX8_measure_43 rfl ?_
  refine j_if_eq (tgt := 51) (np := 47) dX8_measure_44 rfl rfl ?_ ?_
  · refine j_iconst (np := 52) ci_0 dX8_measure_51 rfl ?_
    refine j_sub (lv2 := [(0, .ref (E.2.1 + v0)), (1, .int v1), (2, .int v2), (3, .int s0)]) [1, 2, 3, 0] rfl ?_
    exact kbX8_measure_52 hd hrec
  · refine j_iconst (np := 48) ci_1 dX8_measure_47 rfl ?_
    refine j_goto (tgt := 52) dX8_measure_48 rfl ?_
    refine j_sub (lv2 := [(0, .ref (E.2.1 + v0)), (1, .int v1), (2, .int v2), (3, .int s0)]) [1, 2, 3, 0] rfl ?_
    exact kbX8_measure_52 hd hrec
def kX8_measure_36 (N : Nat) (rec : Int32 → Int32 → qM → Option (Int32 × qM)) (v0 : Nat) (v1 : Int32) (v2 : Int32)  (m0 : qM) : Option (Int32 × qM) :=
  kX8_measure_37 N (rec) v0 v1 v2 (0 : Int32) m0
set_option maxRecDepth 100000 in
theorem kbX8_measure_36 {E : qE} {N d bc bs : Nat} (hd : 2 ≤ d) {v0 : Nat} {v1 : Int32} {v2 : Int32}  {m0 : qM} {rec : Int32 → Int32 → qM → Option (Int32 × qM)} (hrec : ∀ (v1 : Int32) (v2 : Int32) (m : qM), qB E yX8_measure cX8_measure 5 (some .boolean) (fun _ => True) d bc bs 4 [(0, .ref (E.2.1 + v0)), (1, .int v1), (2, .int v2)] [] m (rec v1 v2 m) (fun o rr => qJ E yX8_measure cX8_measure 5 (some .boolean) (fun _ => True) d bc bs 81 [(0, .ref (E.2.1 + v0)), (1, .int o.1)] [] o.2 rr)) : qB E yX8_measure cX8_measure 5 (some .boolean) (fun _ => True) d bc bs 36 [(0, .ref (E.2.1 + v0)), (1, .int v1), (2, .int v2)] [] m0 (kX8_measure_36 N rec v0 v1 v2 m0) (fun o rr => qJ E yX8_measure cX8_measure 5 (some .boolean) (fun _ => True) d bc bs 81 [(0, .ref (E.2.1 + v0)), (1, .int o.1)] [] o.2 rr) := by
  unfold kX8_measure_36
  refine j_iconst (np := 37) ci_0 dX8_measure_36 rfl ?_
  exact kbX8_measure_37 hd hrec
def lX8_measure_4 (N : Nat) (v0 : Nat) : Nat → Int32 → Int32 → qM → Option (Int32 × qM)
  | 0, _, _, _ => none
  | n + 1, v1, v2, m0 =>
    (qgI m0 v0 8 9).bind fun x1 =>
    if x1 ≤ v2 then (
    some (v1, m0)
    ) else (
    (qgR m0 v0 8 1).bind fun x2 =>
    (qaI m0 x2 12 v2).bind fun x3 =>
    if x3 = v2 then (
    (qgR m0 v0 8 2).bind fun x4 =>
    (qaI m0 x4 12 v2).bind fun x5 =>
    if x5 = (-1 : Int32) then (
    kX8_measure_37 N (lX8_measure_4 N v0 n) v0 v1 v2 (1 : Int32) m0
    ) else (
    kX8_measure_36 N (lX8_measure_4 N v0 n) v0 v1 v2 m0
    )
    ) else (
    kX8_measure_36 N (lX8_measure_4 N v0 n) v0 v1 v2 m0
    )
    )
set_option maxRecDepth 100000 in
theorem lbX8_measure_4 {E : qE} {N d bc bs : Nat} (hd : 2 ≤ d) {v0 : Nat} : ∀ (n : Nat) (v1 : Int32) (v2 : Int32) (m0 : qM), qB E yX8_measure cX8_measure 5 (some .boolean) (fun _ => True) d bc bs 4 [(0, .ref (E.2.1 + v0)), (1, .int v1), (2, .int v2)] [] m0 (lX8_measure_4 N v0 n v1 v2 m0) (fun o rr => qJ E yX8_measure cX8_measure 5 (some .boolean) (fun _ => True) d bc bs 81 [(0, .ref (E.2.1 + v0)), (1, .int o.1)] [] o.2 rr) := by
  intro n
  induction n with
  | zero =>
    intro v1 v2 m0
    exact j_none
  | succ n ih =>
    intro v1 v2 m0
    unfold lX8_measure_4
    refine j_iload_n (q := 2) (np := 5) rfl rfl dX8_measure_4 rfl ?_
    refine j_aload_n (q := 0) (np := 6) rfl rfl dX8_measure_5 rfl ?_
    refine j_gI (np := 9) flX8_74 dX8_measure_6 rfl (fun x1 => ?_)
    refine j_icmp_ge (tgt := 81) (np := 12) dX8_measure_9 rfl rfl ?_ ?_
    · refine j_sub (lv2 := [(0, .ref (E.2.1 + v0)), (1, .int v1)]) [0, 1] rfl ?_
      exact j_exit (fun rr h => h)
    · refine j_aload_n (q := 0) (np := 13) rfl rfl dX8_measure_12 rfl ?_
      refine j_gR (np := 16) flX8_15 dX8_measure_13 rfl (fun x2 => ?_)
      refine j_iload_n (q := 2) (np := 17) rfl rfl dX8_measure_16 rfl ?_
      refine j_iaload (np := 18) dX8_measure_17 rfl (fun x3 => ?_)
      refine j_iload_n (q := 2) (np := 19) rfl rfl dX8_measure_18 rfl ?_
      refine j_icmp_ne (tgt := 36) (np := 22) dX8_measure_19 rfl rfl ?_ ?_
      · exact kbX8_measure_36 hd ih
      · refine j_aload_n (q := 0) (np := 23) rfl rfl dX8_measure_22 rfl ?_
        refine j_gR (np := 26) flX8_18 dX8_measure_23 rfl (fun x4 => ?_)
        refine j_iload_n (q := 2) (np := 27) rfl rfl dX8_measure_26 rfl ?_
        refine j_iaload (np := 28) dX8_measure_27 rfl (fun x5 => ?_)
        refine j_iconst (np := 29) ci_m1 dX8_measure_28 rfl ?_
        refine j_icmp_ne (tgt := 36) (np := 32) dX8_measure_29 rfl rfl ?_ ?_
        · exact kbX8_measure_36 hd ih
        · refine j_iconst (np := 33) ci_1 dX8_measure_32 rfl ?_
          refine j_goto (tgt := 37) dX8_measure_33 rfl ?_
          exact kbX8_measure_37 hd ih
def fX8_measure (N : Nat) (v0 : Nat) (m0 : qM) : Option (Int32 × qM) :=
  (lX8_measure_4 N v0 N (0 : Int32) (0 : Int32) m0).bind fun o1 =>
  (lX8_measure_85 N v0 N o1.1 (1 : Int32) (0 : Int32) o1.2).bind fun o2 =>
  if o2.1 = 0 then (
  some ((1 : Int32), o2.2)
  ) else (
  some ((0 : Int32), o2.2)
  )
set_option maxRecDepth 100000 in
theorem bX8_measure {E : qE} {N d bc bs : Nat} (hd : 2 ≤ d) {v0 : Nat} {m0 : qM} : qB E yX8_measure cX8_measure 5 (some .boolean) (fun _ => True) d bc bs 0 [(0, .ref (E.2.1 + v0))] [] m0 (fX8_measure N v0 m0) (fun b rr => rr = (some (.int b.1), b.2)) := by
  unfold fX8_measure
  refine j_iconst (np := 1) ci_0 dX8_measure_0 rfl ?_
  refine j_istore_n (np := 2) (lv2 := [(1, .int (0 : Int32)), (0, .ref (E.2.1 + v0))]) rfl (by decide) dX8_measure_1 rfl rfl ?_
  refine j_iconst (np := 3) ci_0 dX8_measure_2 rfl ?_
  refine j_istore_n (np := 4) (lv2 := [(2, .int (0 : Int32)), (1, .int (0 : Int32)), (0, .ref (E.2.1 + v0))]) rfl (by decide) dX8_measure_3 rfl rfl ?_
  refine j_sub (lv2 := [(0, .ref (E.2.1 + v0)), (1, .int (0 : Int32)), (2, .int (0 : Int32))]) [2, 1, 0] rfl ?_
  refine j_loop (xp := 81) (lvX := fun o1 => [(0, .ref (E.2.1 + v0)), (1, .int o1.1)]) (mX := fun o1 => o1.2) (lbX8_measure_4 hd _ _ _ _) (fun o1 => ?_)
  refine j_iconst (np := 82) ci_1 dX8_measure_81 rfl ?_
  refine j_istore_n (np := 83) (lv2 := [(2, .int (1 : Int32)), (0, .ref (E.2.1 + v0)), (1, .int o1.1)]) rfl (by decide) dX8_measure_82 rfl rfl ?_
  refine j_iconst (np := 84) ci_0 dX8_measure_83 rfl ?_
  refine j_istore_n (np := 85) (lv2 := [(3, .int (0 : Int32)), (2, .int (1 : Int32)), (0, .ref (E.2.1 + v0)), (1, .int o1.1)]) rfl (by decide) dX8_measure_84 rfl rfl ?_
  refine j_sub (lv2 := [(0, .ref (E.2.1 + v0)), (1, .int o1.1), (2, .int (1 : Int32)), (3, .int (0 : Int32))]) [2, 3, 1, 0] rfl ?_
  refine j_loop (xp := 162) (lvX := fun o2 => [(1, .int o2.1)]) (mX := fun o2 => o2.2) (lbX8_measure_85 hd _ _ _ _ _) (fun o2 => ?_)
  refine j_iload_n (q := 0) (np := 163) rfl rfl dX8_measure_162 rfl ?_
  refine j_if_ne (tgt := 170) (np := 166) dX8_measure_163 rfl rfl ?_ ?_
  · refine j_iconst (np := 171) ci_0 dX8_measure_170 rfl ?_
    exact j_zret rfl dX8_measure_171 (fun rr h => by rw [z0]; exact h)
  · refine j_iconst (np := 167) ci_1 dX8_measure_166 rfl ?_
    refine j_goto (tgt := 171) dX8_measure_167 rfl ?_
    exact j_zret rfl dX8_measure_171 (fun rr h => by rw [z1]; exact h)
set_option maxRecDepth 100000 in
theorem wX8_measure {E : qE} {N d : Nat} (hd : 2 ≤ d) {v0 : Nat} {m0 : qM} {b : Int32 × qM} (h : fX8_measure N v0 m0 = some b) : qRun E yX8_measure cX8_measure 5 (some .boolean) d 0 0 [.ref (E.2.1 + v0)] m0 (some (.int b.1), b.2) := q_met pnX8 (Nat.le_of_ble_eq_true rfl) (bX8_measure hd b _ h rfl)
theorem dX8_enqueue_0 : decode cX8_enqueue 0 = .ok (.aload_n 0, 1) := by decide +kernel
theorem dX8_enqueue_1 : decode cX8_enqueue 1 = .ok (.getfield 78, 3) := by decide +kernel
theorem dX8_enqueue_4 : decode cX8_enqueue 4 = .ok (.sipush 156, 3) := by decide +kernel
theorem dX8_enqueue_7 : decode cX8_enqueue 7 = .ok (.if_icmp .ge 33, 3) := by decide +kernel
theorem dX8_enqueue_10 : decode cX8_enqueue 10 = .ok (.aload_n 0, 1) := by decide +kernel
theorem dX8_enqueue_11 : decode cX8_enqueue 11 = .ok (.getfield 27, 3) := by decide +kernel
theorem dX8_enqueue_14 : decode cX8_enqueue 14 = .ok (.aload_n 0, 1) := by decide +kernel
theorem dX8_enqueue_15 : decode cX8_enqueue 15 = .ok (.getfield 78, 3) := by decide +kernel
theorem dX8_enqueue_18 : decode cX8_enqueue 18 = .ok (.iload_n 1, 1) := by decide +kernel
theorem dX8_enqueue_19 : decode cX8_enqueue 19 = .ok (.iastore, 1) := by decide +kernel
theorem dX8_enqueue_20 : decode cX8_enqueue 20 = .ok (.aload_n 0, 1) := by decide +kernel
theorem dX8_enqueue_21 : decode cX8_enqueue 21 = .ok (.getfield 30, 3) := by decide +kernel
theorem dX8_enqueue_24 : decode cX8_enqueue 24 = .ok (.aload_n 0, 1) := by decide +kernel
theorem dX8_enqueue_25 : decode cX8_enqueue 25 = .ok (.getfield 78, 3) := by decide +kernel
theorem dX8_enqueue_28 : decode cX8_enqueue 28 = .ok (.iload_n 2, 1) := by decide +kernel
theorem dX8_enqueue_29 : decode cX8_enqueue 29 = .ok (.iastore, 1) := by decide +kernel
theorem dX8_enqueue_30 : decode cX8_enqueue 30 = .ok (.aload_n 0, 1) := by decide +kernel
theorem dX8_enqueue_31 : decode cX8_enqueue 31 = .ok (.dup, 1) := by decide +kernel
theorem dX8_enqueue_32 : decode cX8_enqueue 32 = .ok (.getfield 78, 3) := by decide +kernel
theorem dX8_enqueue_35 : decode cX8_enqueue 35 = .ok (.iconst 1, 1) := by decide +kernel
theorem dX8_enqueue_36 : decode cX8_enqueue 36 = .ok (.iadd, 1) := by decide +kernel
theorem dX8_enqueue_37 : decode cX8_enqueue 37 = .ok (.putfield 78, 3) := by decide +kernel
theorem dX8_enqueue_40 : decode cX8_enqueue 40 = .ok (.return_, 1) := by decide +kernel
def fX8_enqueue (N : Nat) (v0 : Nat) (v1 : Int32) (v2 : Int32) (m0 : qM) : Option (qM) :=
  (qgI m0 v0 8 10).bind fun x1 =>
  if (156 : Int32) ≤ x1 then (
  some m0
  ) else (
  (qgR m0 v0 8 5).bind fun x2 =>
  (qgI m0 v0 8 10).bind fun x3 =>
  (qwI m0 x2 12 x3 v1).bind fun m4 =>
  (qgR m4 v0 8 6).bind fun x5 =>
  (qgI m4 v0 8 10).bind fun x6 =>
  (qwI m4 x5 12 x6 v2).bind fun m7 =>
  (qgI m7 v0 8 10).bind fun x8 =>
  (qpI m7 v0 8 10 (x8 + (1 : Int32))).bind fun m9 =>
  some m9
  )
set_option maxRecDepth 100000 in
theorem bX8_enqueue {E : qE} {N d bc bs : Nat} (hd : 0 ≤ d) {v0 : Nat} {v1 : Int32} {v2 : Int32} {m0 : qM} : qB E yX8_enqueue cX8_enqueue 3 none (fun _ => True) d bc bs 0 [(0, .ref (E.2.1 + v0)), (1, .int v1), (2, .int v2)] [] m0 (fX8_enqueue N v0 v1 v2 m0) (fun b rr => rr = (none, b)) := by
  unfold fX8_enqueue
  refine j_aload_n (q := 0) (np := 1) rfl rfl dX8_enqueue_0 rfl ?_
  refine j_gI (np := 4) flX8_78 dX8_enqueue_1 rfl (fun x1 => ?_)
  refine j_sipush (np := 7) cs_156 dX8_enqueue_4 rfl ?_
  refine j_icmp_ge (tgt := 40) (np := 10) dX8_enqueue_7 rfl rfl ?_ ?_
  · exact j_vret rfl dX8_enqueue_40 (fun rr h => h)
  · refine j_aload_n (q := 0) (np := 11) rfl rfl dX8_enqueue_10 rfl ?_
    refine j_gR (np := 14) flX8_27 dX8_enqueue_11 rfl (fun x2 => ?_)
    refine j_aload_n (q := 0) (np := 15) rfl rfl dX8_enqueue_14 rfl ?_
    refine j_gI (np := 18) flX8_78 dX8_enqueue_15 rfl (fun x3 => ?_)
    refine j_iload_n (q := 1) (np := 19) rfl rfl dX8_enqueue_18 rfl ?_
    refine j_iastore (np := 20) dX8_enqueue_19 rfl (fun m4 => ?_)
    refine j_aload_n (q := 0) (np := 21) rfl rfl dX8_enqueue_20 rfl ?_
    refine j_gR (np := 24) flX8_30 dX8_enqueue_21 rfl (fun x5 => ?_)
    refine j_aload_n (q := 0) (np := 25) rfl rfl dX8_enqueue_24 rfl ?_
    refine j_gI (np := 28) flX8_78 dX8_enqueue_25 rfl (fun x6 => ?_)
    refine j_iload_n (q := 2) (np := 29) rfl rfl dX8_enqueue_28 rfl ?_
    refine j_iastore (np := 30) dX8_enqueue_29 rfl (fun m7 => ?_)
    refine j_aload_n (q := 0) (np := 31) rfl rfl dX8_enqueue_30 rfl ?_
    refine j_dup (np := 32) rfl dX8_enqueue_31 rfl ?_
    refine j_gI (np := 35) flX8_78 dX8_enqueue_32 rfl (fun x8 => ?_)
    refine j_iconst (np := 36) ci_1 dX8_enqueue_35 rfl ?_
    refine j_iadd (np := 37) dX8_enqueue_36 rfl ?_
    refine j_pI (np := 40) flX8_78 dX8_enqueue_37 rfl (fun m9 => ?_)
    exact j_vret rfl dX8_enqueue_40 (fun rr h => h)
set_option maxRecDepth 100000 in
theorem wX8_enqueue {E : qE} {N d : Nat} (hd : 0 ≤ d) {v0 : Nat} {v1 : Int32} {v2 : Int32} {m0 : qM} {b : qM} (h : fX8_enqueue N v0 v1 v2 m0 = some b) : qRun E yX8_enqueue cX8_enqueue 3 none d 0 0 [.ref (E.2.1 + v0), .int v1, .int v2] m0 (none, b) := q_met pnX8 (Nat.le_of_ble_eq_true rfl) (bX8_enqueue hd b _ h rfl)
theorem dX8_headOf_0 : decode cX8_headOf 0 = .ok (.iload_n 1, 1) := by decide +kernel
theorem dX8_headOf_1 : decode cX8_headOf 1 = .ok (.istore_n 2, 1) := by decide +kernel
theorem dX8_headOf_2 : decode cX8_headOf 2 = .ok (.iconst 0, 1) := by decide +kernel
theorem dX8_headOf_3 : decode cX8_headOf 3 = .ok (.istore_n 3, 1) := by decide +kernel
theorem dX8_headOf_4 : decode cX8_headOf 4 = .ok (.iload_n 3, 1) := by decide +kernel
theorem dX8_headOf_5 : decode cX8_headOf 5 = .ok (.bipush 78, 2) := by decide +kernel
theorem dX8_headOf_7 : decode cX8_headOf 7 = .ok (.if_icmp .ge 26, 3) := by decide +kernel
theorem dX8_headOf_10 : decode cX8_headOf 10 = .ok (.aload_n 0, 1) := by decide +kernel
theorem dX8_headOf_11 : decode cX8_headOf 11 = .ok (.getfield 15, 3) := by decide +kernel
theorem dX8_headOf_14 : decode cX8_headOf 14 = .ok (.iload_n 2, 1) := by decide +kernel
theorem dX8_headOf_15 : decode cX8_headOf 15 = .ok (.iaload, 1) := by decide +kernel
theorem dX8_headOf_16 : decode cX8_headOf 16 = .ok (.iload_n 2, 1) := by decide +kernel
theorem dX8_headOf_17 : decode cX8_headOf 17 = .ok (.if_icmp .eq 16, 3) := by decide +kernel
theorem dX8_headOf_20 : decode cX8_headOf 20 = .ok (.aload_n 0, 1) := by decide +kernel
theorem dX8_headOf_21 : decode cX8_headOf 21 = .ok (.getfield 15, 3) := by decide +kernel
theorem dX8_headOf_24 : decode cX8_headOf 24 = .ok (.iload_n 2, 1) := by decide +kernel
theorem dX8_headOf_25 : decode cX8_headOf 25 = .ok (.iaload, 1) := by decide +kernel
theorem dX8_headOf_26 : decode cX8_headOf 26 = .ok (.istore_n 2, 1) := by decide +kernel
theorem dX8_headOf_27 : decode cX8_headOf 27 = .ok (.iinc 3 1, 3) := by decide +kernel
theorem dX8_headOf_30 : decode cX8_headOf 30 = .ok (.goto (-26), 3) := by decide +kernel
theorem dX8_headOf_33 : decode cX8_headOf 33 = .ok (.iload_n 2, 1) := by decide +kernel
theorem dX8_headOf_34 : decode cX8_headOf 34 = .ok (.ireturn, 1) := by decide +kernel
def lX8_headOf_4 (N : Nat) (v0 : Nat) : Nat → Int32 → Int32 → qM → Option (Int32 × qM)
  | 0, _, _, _ => none
  | n + 1, v2, v3, m0 =>
    if (78 : Int32) ≤ v3 then (
    some (v2, m0)
    ) else (
    (qgR m0 v0 8 1).bind fun x1 =>
    (qaI m0 x1 12 v2).bind fun x2 =>
    if x2 = v2 then (
    some (v2, m0)
    ) else (
    (qgR m0 v0 8 1).bind fun x3 =>
    (qaI m0 x3 12 v2).bind fun x4 =>
    lX8_headOf_4 N v0 n x4 (v3 + (1 : Int32)) m0
    )
    )
set_option maxRecDepth 100000 in
theorem lbX8_headOf_4 {E : qE} {N d bc bs : Nat} (hd : 0 ≤ d) {v0 : Nat} : ∀ (n : Nat) (v2 : Int32) (v3 : Int32) (m0 : qM), qB E yX8_headOf cX8_headOf 4 (some .int) (fun _ => True) d bc bs 4 [(0, .ref (E.2.1 + v0)), (2, .int v2), (3, .int v3)] [] m0 (lX8_headOf_4 N v0 n v2 v3 m0) (fun o rr => qJ E yX8_headOf cX8_headOf 4 (some .int) (fun _ => True) d bc bs 33 [(2, .int o.1)] [] o.2 rr) := by
  intro n
  induction n with
  | zero =>
    intro v2 v3 m0
    exact j_none
  | succ n ih =>
    intro v2 v3 m0
    unfold lX8_headOf_4
    refine j_iload_n (q := 2) (np := 5) rfl rfl dX8_headOf_4 rfl ?_
    refine j_bipush (np := 7) cb_78 dX8_headOf_5 rfl ?_
    refine j_icmp_ge (tgt := 33) (np := 10) dX8_headOf_7 rfl rfl ?_ ?_
    · refine j_sub (lv2 := [(2, .int v2)]) [1] rfl ?_
      exact j_exit (fun rr h => h)
    · refine j_aload_n (q := 0) (np := 11) rfl rfl dX8_headOf_10 rfl ?_
      refine j_gR (np := 14) flX8_15 dX8_headOf_11 rfl (fun x1 => ?_)
      refine j_iload_n (q := 1) (np := 15) rfl rfl dX8_headOf_14 rfl ?_
      refine j_iaload (np := 16) dX8_headOf_15 rfl (fun x2 => ?_)
      refine j_iload_n (q := 1) (np := 17) rfl rfl dX8_headOf_16 rfl ?_
      refine j_icmp_eq (tgt := 33) (np := 20) dX8_headOf_17 rfl rfl ?_ ?_
      · refine j_sub (lv2 := [(2, .int v2)]) [1] rfl ?_
        exact j_exit (fun rr h => h)
      · refine j_aload_n (q := 0) (np := 21) rfl rfl dX8_headOf_20 rfl ?_
        refine j_gR (np := 24) flX8_15 dX8_headOf_21 rfl (fun x3 => ?_)
        refine j_iload_n (q := 1) (np := 25) rfl rfl dX8_headOf_24 rfl ?_
        refine j_iaload (np := 26) dX8_headOf_25 rfl (fun x4 => ?_)
        refine j_istore_n (np := 27) (lv2 := [(2, .int x4), (0, .ref (E.2.1 + v0)), (3, .int v3)]) rfl (by decide) dX8_headOf_26 rfl rfl ?_
        refine j_iinc (q := 2) (np := 30) (lv2 := [(3, .int (v3 + (1 : Int32))), (2, .int x4), (0, .ref (E.2.1 + v0))]) rfl (congrArg _ ci_1) (by decide) dX8_headOf_27 rfl rfl ?_
        refine j_goto (tgt := 4) dX8_headOf_30 rfl ?_
        refine j_sub (lv2 := [(0, .ref (E.2.1 + v0)), (2, .int x4), (3, .int (v3 + (1 : Int32)))]) [2, 1, 0] rfl ?_
        exact ih _ _ _
def fX8_headOf (N : Nat) (v0 : Nat) (v1 : Int32) (m0 : qM) : Option (Int32 × qM) :=
  (lX8_headOf_4 N v0 N v1 (0 : Int32) m0).bind fun o1 =>
  some (o1.1, o1.2)
set_option maxRecDepth 100000 in
theorem bX8_headOf {E : qE} {N d bc bs : Nat} (hd : 0 ≤ d) {v0 : Nat} {v1 : Int32} {m0 : qM} : qB E yX8_headOf cX8_headOf 4 (some .int) (fun _ => True) d bc bs 0 [(0, .ref (E.2.1 + v0)), (1, .int v1)] [] m0 (fX8_headOf N v0 v1 m0) (fun b rr => rr = (some (.int b.1), b.2)) := by
  unfold fX8_headOf
  refine j_iload_n (q := 1) (np := 1) rfl rfl dX8_headOf_0 rfl ?_
  refine j_istore_n (np := 2) (lv2 := [(2, .int v1), (0, .ref (E.2.1 + v0)), (1, .int v1)]) rfl (by decide) dX8_headOf_1 rfl rfl ?_
  refine j_iconst (np := 3) ci_0 dX8_headOf_2 rfl ?_
  refine j_istore_n (np := 4) (lv2 := [(3, .int (0 : Int32)), (2, .int v1), (0, .ref (E.2.1 + v0)), (1, .int v1)]) rfl (by decide) dX8_headOf_3 rfl rfl ?_
  refine j_sub (lv2 := [(0, .ref (E.2.1 + v0)), (2, .int v1), (3, .int (0 : Int32))]) [2, 1, 0] rfl ?_
  refine j_loop (xp := 33) (lvX := fun o1 => [(2, .int o1.1)]) (mX := fun o1 => o1.2) (lbX8_headOf_4 hd _ _ _ _) (fun o1 => ?_)
  refine j_iload_n (q := 0) (np := 34) rfl rfl dX8_headOf_33 rfl ?_
  exact j_iret rfl dX8_headOf_34 (fun rr h => h)
set_option maxRecDepth 100000 in
theorem wX8_headOf {E : qE} {N d : Nat} (hd : 0 ≤ d) {v0 : Nat} {v1 : Int32} {m0 : qM} {b : Int32 × qM} (h : fX8_headOf N v0 v1 m0 = some b) : qRun E yX8_headOf cX8_headOf 4 (some .int) d 0 0 [.ref (E.2.1 + v0), .int v1] m0 (some (.int b.1), b.2) := q_met pnX8 (Nat.le_of_ble_eq_true rfl) (bX8_headOf hd b _ h rfl)
theorem dX8_merge_0 : decode cX8_merge 0 = .ok (.iload_n 1, 1) := by decide +kernel
theorem dX8_merge_1 : decode cX8_merge 1 = .ok (.iload_n 2, 1) := by decide +kernel
theorem dX8_merge_2 : decode cX8_merge 2 = .ok (.if_icmp .ne 4, 3) := by decide +kernel
theorem dX8_merge_5 : decode cX8_merge 5 = .ok (.return_, 1) := by decide +kernel
theorem dX8_merge_6 : decode cX8_merge 6 = .ok (.aload_n 0, 1) := by decide +kernel
theorem dX8_merge_7 : decode cX8_merge 7 = .ok (.getfield 15, 3) := by decide +kernel
theorem dX8_merge_10 : decode cX8_merge 10 = .ok (.iload_n 2, 1) := by decide +kernel
theorem dX8_merge_11 : decode cX8_merge 11 = .ok (.iload_n 1, 1) := by decide +kernel
theorem dX8_merge_12 : decode cX8_merge 12 = .ok (.iastore, 1) := by decide +kernel
theorem dX8_merge_13 : decode cX8_merge 13 = .ok (.aload_n 0, 1) := by decide +kernel
theorem dX8_merge_14 : decode cX8_merge 14 = .ok (.getfield 18, 3) := by decide +kernel
theorem dX8_merge_17 : decode cX8_merge 17 = .ok (.iload_n 1, 1) := by decide +kernel
theorem dX8_merge_18 : decode cX8_merge 18 = .ok (.iaload, 1) := by decide +kernel
theorem dX8_merge_19 : decode cX8_merge 19 = .ok (.istore_n 3, 1) := by decide +kernel
theorem dX8_merge_20 : decode cX8_merge 20 = .ok (.aload_n 0, 1) := by decide +kernel
theorem dX8_merge_21 : decode cX8_merge 21 = .ok (.getfield 18, 3) := by decide +kernel
theorem dX8_merge_24 : decode cX8_merge 24 = .ok (.iload_n 2, 1) := by decide +kernel
theorem dX8_merge_25 : decode cX8_merge 25 = .ok (.iaload, 1) := by decide +kernel
theorem dX8_merge_26 : decode cX8_merge 26 = .ok (.istore 4, 2) := by decide +kernel
theorem dX8_merge_28 : decode cX8_merge 28 = .ok (.iload_n 3, 1) := by decide +kernel
theorem dX8_merge_29 : decode cX8_merge 29 = .ok (.iconst (-1), 1) := by decide +kernel
theorem dX8_merge_30 : decode cX8_merge 30 = .ok (.if_icmp .ne 14, 3) := by decide +kernel
theorem dX8_merge_33 : decode cX8_merge 33 = .ok (.aload_n 0, 1) := by decide +kernel
theorem dX8_merge_34 : decode cX8_merge 34 = .ok (.getfield 18, 3) := by decide +kernel
theorem dX8_merge_37 : decode cX8_merge 37 = .ok (.iload_n 1, 1) := by decide +kernel
theorem dX8_merge_38 : decode cX8_merge 38 = .ok (.iload 4, 2) := by decide +kernel
theorem dX8_merge_40 : decode cX8_merge 40 = .ok (.iastore, 1) := by decide +kernel
theorem dX8_merge_41 : decode cX8_merge 41 = .ok (.goto 37, 3) := by decide +kernel
theorem dX8_merge_44 : decode cX8_merge 44 = .ok (.iload 4, 2) := by decide +kernel
theorem dX8_merge_46 : decode cX8_merge 46 = .ok (.iconst (-1), 1) := by decide +kernel
theorem dX8_merge_47 : decode cX8_merge 47 = .ok (.if_icmp .eq 31, 3) := by decide +kernel
theorem dX8_merge_50 : decode cX8_merge 50 = .ok (.aload_n 0, 1) := by decide +kernel
theorem dX8_merge_51 : decode cX8_merge 51 = .ok (.iload_n 3, 1) := by decide +kernel
theorem dX8_merge_52 : decode cX8_merge 52 = .ok (.iconst 1, 1) := by decide +kernel
theorem dX8_merge_53 : decode cX8_merge 53 = .ok (.iadd, 1) := by decide +kernel
theorem dX8_merge_54 : decode cX8_merge 54 = .ok (.iload 4, 2) := by decide +kernel
theorem dX8_merge_56 : decode cX8_merge 56 = .ok (.iconst 1, 1) := by decide +kernel
theorem dX8_merge_57 : decode cX8_merge 57 = .ok (.iadd, 1) := by decide +kernel
theorem dX8_merge_58 : decode cX8_merge 58 = .ok (.invokevirtual 81, 3) := by decide +kernel
theorem dX8_merge_61 : decode cX8_merge 61 = .ok (.aload_n 0, 1) := by decide +kernel
theorem dX8_merge_62 : decode cX8_merge 62 = .ok (.aload_n 0, 1) := by decide +kernel
theorem dX8_merge_63 : decode cX8_merge 63 = .ok (.getfield 11, 3) := by decide +kernel
theorem dX8_merge_66 : decode cX8_merge 66 = .ok (.iload_n 3, 1) := by decide +kernel
theorem dX8_merge_67 : decode cX8_merge 67 = .ok (.iaload, 1) := by decide +kernel
theorem dX8_merge_68 : decode cX8_merge 68 = .ok (.aload_n 0, 1) := by decide +kernel
theorem dX8_merge_69 : decode cX8_merge 69 = .ok (.getfield 11, 3) := by decide +kernel
theorem dX8_merge_72 : decode cX8_merge 72 = .ok (.iload 4, 2) := by decide +kernel
theorem dX8_merge_74 : decode cX8_merge 74 = .ok (.iaload, 1) := by decide +kernel
theorem dX8_merge_75 : decode cX8_merge 75 = .ok (.invokevirtual 81, 3) := by decide +kernel
theorem dX8_merge_78 : decode cX8_merge 78 = .ok (.return_, 1) := by decide +kernel
def fX8_merge (N : Nat) (v0 : Nat) (v1 : Int32) (v2 : Int32) (m0 : qM) : Option (qM) :=
  if v1 = v2 then (
  some m0
  ) else (
  (qgR m0 v0 8 1).bind fun x1 =>
  (qwI m0 x1 12 v2 v1).bind fun m2 =>
  (qgR m2 v0 8 2).bind fun x3 =>
  (qaI m2 x3 12 v1).bind fun x4 =>
  (qgR m2 v0 8 2).bind fun x5 =>
  (qaI m2 x5 12 v2).bind fun x6 =>
  if x4 = (-1 : Int32) then (
  (qgR m2 v0 8 2).bind fun x13 =>
  (qwI m2 x13 12 v1 x6).bind fun m14 =>
  some m14
  ) else (
  if x6 = (-1 : Int32) then (
  some m2
  ) else (
  (qChk m2 v0 8 (fX8_enqueue N v0 (x4 + (1 : Int32)) (x6 + (1 : Int32)) m2)).bind fun b7 =>
  (qgR b7 v0 8 0).bind fun x8 =>
  (qaI b7 x8 12 x4).bind fun x9 =>
  (qgR b7 v0 8 0).bind fun x10 =>
  (qaI b7 x10 12 x6).bind fun x11 =>
  (qChk b7 v0 8 (fX8_enqueue N v0 x9 x11 b7)).bind fun b12 =>
  some b12
  )
  )
  )
set_option maxRecDepth 100000 in
theorem bX8_merge {E : qE} {N d bc bs : Nat} (hd : 1 ≤ d) {v0 : Nat} {v1 : Int32} {v2 : Int32} {m0 : qM} : qB E yX8_merge cX8_merge 5 none (fun _ => True) d bc bs 0 [(0, .ref (E.2.1 + v0)), (1, .int v1), (2, .int v2)] [] m0 (fX8_merge N v0 v1 v2 m0) (fun b rr => rr = (none, b)) := by
  unfold fX8_merge
  refine j_iload_n (q := 1) (np := 1) rfl rfl dX8_merge_0 rfl ?_
  refine j_iload_n (q := 2) (np := 2) rfl rfl dX8_merge_1 rfl ?_
  refine j_icmp_ne (tgt := 6) (np := 5) dX8_merge_2 rfl rfl ?_ ?_
  · refine j_aload_n (q := 0) (np := 7) rfl rfl dX8_merge_6 rfl ?_
    refine j_gR (np := 10) flX8_15 dX8_merge_7 rfl (fun x1 => ?_)
    refine j_iload_n (q := 2) (np := 11) rfl rfl dX8_merge_10 rfl ?_
    refine j_iload_n (q := 1) (np := 12) rfl rfl dX8_merge_11 rfl ?_
    refine j_iastore (np := 13) dX8_merge_12 rfl (fun m2 => ?_)
    refine j_aload_n (q := 0) (np := 14) rfl rfl dX8_merge_13 rfl ?_
    refine j_gR (np := 17) flX8_18 dX8_merge_14 rfl (fun x3 => ?_)
    refine j_iload_n (q := 1) (np := 18) rfl rfl dX8_merge_17 rfl ?_
    refine j_iaload (np := 19) dX8_merge_18 rfl (fun x4 => ?_)
    refine j_istore_n (np := 20) (lv2 := [(3, .int x4), (0, .ref (E.2.1 + v0)), (1, .int v1), (2, .int v2)]) rfl (by decide) dX8_merge_19 rfl rfl ?_
    refine j_aload_n (q := 1) (np := 21) rfl rfl dX8_merge_20 rfl ?_
    refine j_gR (np := 24) flX8_18 dX8_merge_21 rfl (fun x5 => ?_)
    refine j_iload_n (q := 3) (np := 25) rfl rfl dX8_merge_24 rfl ?_
    refine j_iaload (np := 26) dX8_merge_25 rfl (fun x6 => ?_)
    refine j_istore (np := 28) (lv2 := [(4, .int x6), (3, .int x4), (0, .ref (E.2.1 + v0)), (1, .int v1), (2, .int v2)]) (by decide) dX8_merge_26 rfl rfl ?_
    refine j_iload_n (q := 1) (np := 29) rfl rfl dX8_merge_28 rfl ?_
    refine j_iconst (np := 30) ci_m1 dX8_merge_29 rfl ?_
    refine j_icmp_ne (tgt := 44) (np := 33) dX8_merge_30 rfl rfl ?_ ?_
    · refine j_iload (q := 0) (np := 46) rfl dX8_merge_44 rfl ?_
      refine j_iconst (np := 47) ci_m1 dX8_merge_46 rfl ?_
      refine j_icmp_eq (tgt := 78) (np := 50) dX8_merge_47 rfl rfl ?_ ?_
      · exact j_vret rfl dX8_merge_78 (fun rr h => h)
      · refine j_aload_n (q := 2) (np := 51) rfl rfl dX8_merge_50 rfl ?_
        refine j_iload_n (q := 1) (np := 52) rfl rfl dX8_merge_51 rfl ?_
        refine j_iconst (np := 53) ci_1 dX8_merge_52 rfl ?_
        refine j_iadd (np := 54) dX8_merge_53 rfl ?_
        refine j_iload (q := 0) (np := 56) rfl dX8_merge_54 rfl ?_
        refine j_iconst (np := 57) ci_1 dX8_merge_56 rfl ?_
        refine j_iadd (np := 58) dX8_merge_57 rfl ?_
        refine j_callVv (ci := 8) (np := 61) (bc := bc) (bs := bs) (cb := 0) (cs := 0) (dd := d - 1) (As := [.int (x4 + (1 : Int32)), .int (x6 + (1 : Int32))]) (st := []) caX8_enqueue mlX8_81 imX8_enqueue seX8_enqueue rfl rfl (by decide) (fun b hb => wX8_enqueue (by omega) hb) (by omega) rfl rfl (Nat.le_of_ble_eq_true rfl) dX8_merge_58 rfl (fun b7 => ?_)
        refine j_aload_n (q := 2) (np := 62) rfl rfl dX8_merge_61 rfl ?_
        refine j_aload_n (q := 2) (np := 63) rfl rfl dX8_merge_62 rfl ?_
        refine j_gR (np := 66) flX8_11 dX8_merge_63 rfl (fun x8 => ?_)
        refine j_iload_n (q := 1) (np := 67) rfl rfl dX8_merge_66 rfl ?_
        refine j_iaload (np := 68) dX8_merge_67 rfl (fun x9 => ?_)
        refine j_aload_n (q := 2) (np := 69) rfl rfl dX8_merge_68 rfl ?_
        refine j_gR (np := 72) flX8_11 dX8_merge_69 rfl (fun x10 => ?_)
        refine j_iload (q := 0) (np := 74) rfl dX8_merge_72 rfl ?_
        refine j_iaload (np := 75) dX8_merge_74 rfl (fun x11 => ?_)
        refine j_callVv (ci := 8) (np := 78) (bc := bc) (bs := bs) (cb := 0) (cs := 0) (dd := d - 1) (As := [.int x9, .int x11]) (st := []) caX8_enqueue mlX8_81 imX8_enqueue seX8_enqueue rfl rfl (by decide) (fun b hb => wX8_enqueue (by omega) hb) (by omega) rfl rfl (Nat.le_of_ble_eq_true rfl) dX8_merge_75 rfl (fun b12 => ?_)
        exact j_vret rfl dX8_merge_78 (fun rr h => h)
    · refine j_aload_n (q := 2) (np := 34) rfl rfl dX8_merge_33 rfl ?_
      refine j_gR (np := 37) flX8_18 dX8_merge_34 rfl (fun x13 => ?_)
      refine j_iload_n (q := 3) (np := 38) rfl rfl dX8_merge_37 rfl ?_
      refine j_iload (q := 0) (np := 40) rfl dX8_merge_38 rfl ?_
      refine j_iastore (np := 41) dX8_merge_40 rfl (fun m14 => ?_)
      refine j_goto (tgt := 78) dX8_merge_41 rfl ?_
      exact j_vret rfl dX8_merge_78 (fun rr h => h)
  · exact j_vret rfl dX8_merge_5 (fun rr h => h)
set_option maxRecDepth 100000 in
theorem wX8_merge {E : qE} {N d : Nat} (hd : 1 ≤ d) {v0 : Nat} {v1 : Int32} {v2 : Int32} {m0 : qM} {b : qM} (h : fX8_merge N v0 v1 v2 m0 = some b) : qRun E yX8_merge cX8_merge 5 none d 0 0 [.ref (E.2.1 + v0), .int v1, .int v2] m0 (none, b) := q_met pnX8 (Nat.le_of_ble_eq_true rfl) (bX8_merge hd b _ h rfl)
theorem dX8_mergeAll_0 : decode cX8_mergeAll 0 = .ok (.aload_n 0, 1) := by decide +kernel
theorem dX8_mergeAll_1 : decode cX8_mergeAll 1 = .ok (.iconst 0, 1) := by decide +kernel
theorem dX8_mergeAll_2 : decode cX8_mergeAll 2 = .ok (.putfield 78, 3) := by decide +kernel
theorem dX8_mergeAll_5 : decode cX8_mergeAll 5 = .ok (.aload_n 0, 1) := by decide +kernel
theorem dX8_mergeAll_6 : decode cX8_mergeAll 6 = .ok (.iload_n 1, 1) := by decide +kernel
theorem dX8_mergeAll_7 : decode cX8_mergeAll 7 = .ok (.iload_n 2, 1) := by decide +kernel
theorem dX8_mergeAll_8 : decode cX8_mergeAll 8 = .ok (.invokevirtual 81, 3) := by decide +kernel
theorem dX8_mergeAll_11 : decode cX8_mergeAll 11 = .ok (.iconst 0, 1) := by decide +kernel
theorem dX8_mergeAll_12 : decode cX8_mergeAll 12 = .ok (.istore_n 3, 1) := by decide +kernel
theorem dX8_mergeAll_13 : decode cX8_mergeAll 13 = .ok (.iload_n 3, 1) := by decide +kernel
theorem dX8_mergeAll_14 : decode cX8_mergeAll 14 = .ok (.aload_n 0, 1) := by decide +kernel
theorem dX8_mergeAll_15 : decode cX8_mergeAll 15 = .ok (.getfield 78, 3) := by decide +kernel
theorem dX8_mergeAll_18 : decode cX8_mergeAll 18 = .ok (.if_icmp .ge 40, 3) := by decide +kernel
theorem dX8_mergeAll_21 : decode cX8_mergeAll 21 = .ok (.iload_n 3, 1) := by decide +kernel
theorem dX8_mergeAll_22 : decode cX8_mergeAll 22 = .ok (.sipush 156, 3) := by decide +kernel
theorem dX8_mergeAll_25 : decode cX8_mergeAll 25 = .ok (.if_icmp .ge 33, 3) := by decide +kernel
theorem dX8_mergeAll_28 : decode cX8_mergeAll 28 = .ok (.aload_n 0, 1) := by decide +kernel
theorem dX8_mergeAll_29 : decode cX8_mergeAll 29 = .ok (.aload_n 0, 1) := by decide +kernel
theorem dX8_mergeAll_30 : decode cX8_mergeAll 30 = .ok (.aload_n 0, 1) := by decide +kernel
theorem dX8_mergeAll_31 : decode cX8_mergeAll 31 = .ok (.getfield 27, 3) := by decide +kernel
theorem dX8_mergeAll_34 : decode cX8_mergeAll 34 = .ok (.iload_n 3, 1) := by decide +kernel
theorem dX8_mergeAll_35 : decode cX8_mergeAll 35 = .ok (.iaload, 1) := by decide +kernel
theorem dX8_mergeAll_36 : decode cX8_mergeAll 36 = .ok (.invokevirtual 84, 3) := by decide +kernel
theorem dX8_mergeAll_39 : decode cX8_mergeAll 39 = .ok (.aload_n 0, 1) := by decide +kernel
theorem dX8_mergeAll_40 : decode cX8_mergeAll 40 = .ok (.aload_n 0, 1) := by decide +kernel
theorem dX8_mergeAll_41 : decode cX8_mergeAll 41 = .ok (.getfield 30, 3) := by decide +kernel
theorem dX8_mergeAll_44 : decode cX8_mergeAll 44 = .ok (.iload_n 3, 1) := by decide +kernel
theorem dX8_mergeAll_45 : decode cX8_mergeAll 45 = .ok (.iaload, 1) := by decide +kernel
theorem dX8_mergeAll_46 : decode cX8_mergeAll 46 = .ok (.invokevirtual 84, 3) := by decide +kernel
theorem dX8_mergeAll_49 : decode cX8_mergeAll 49 = .ok (.invokevirtual 87, 3) := by decide +kernel
theorem dX8_mergeAll_52 : decode cX8_mergeAll 52 = .ok (.iinc 3 1, 3) := by decide +kernel
theorem dX8_mergeAll_55 : decode cX8_mergeAll 55 = .ok (.goto (-42), 3) := by decide +kernel
theorem dX8_mergeAll_58 : decode cX8_mergeAll 58 = .ok (.iconst 0, 1) := by decide +kernel
theorem dX8_mergeAll_59 : decode cX8_mergeAll 59 = .ok (.istore_n 3, 1) := by decide +kernel
theorem dX8_mergeAll_60 : decode cX8_mergeAll 60 = .ok (.iload_n 3, 1) := by decide +kernel
theorem dX8_mergeAll_61 : decode cX8_mergeAll 61 = .ok (.aload_n 0, 1) := by decide +kernel
theorem dX8_mergeAll_62 : decode cX8_mergeAll 62 = .ok (.getfield 74, 3) := by decide +kernel
theorem dX8_mergeAll_65 : decode cX8_mergeAll 65 = .ok (.if_icmp .ge 20, 3) := by decide +kernel
theorem dX8_mergeAll_68 : decode cX8_mergeAll 68 = .ok (.aload_n 0, 1) := by decide +kernel
theorem dX8_mergeAll_69 : decode cX8_mergeAll 69 = .ok (.getfield 15, 3) := by decide +kernel
theorem dX8_mergeAll_72 : decode cX8_mergeAll 72 = .ok (.iload_n 3, 1) := by decide +kernel
theorem dX8_mergeAll_73 : decode cX8_mergeAll 73 = .ok (.aload_n 0, 1) := by decide +kernel
theorem dX8_mergeAll_74 : decode cX8_mergeAll 74 = .ok (.iload_n 3, 1) := by decide +kernel
theorem dX8_mergeAll_75 : decode cX8_mergeAll 75 = .ok (.invokevirtual 84, 3) := by decide +kernel
theorem dX8_mergeAll_78 : decode cX8_mergeAll 78 = .ok (.iastore, 1) := by decide +kernel
theorem dX8_mergeAll_79 : decode cX8_mergeAll 79 = .ok (.iinc 3 1, 3) := by decide +kernel
theorem dX8_mergeAll_82 : decode cX8_mergeAll 82 = .ok (.goto (-22), 3) := by decide +kernel
theorem dX8_mergeAll_85 : decode cX8_mergeAll 85 = .ok (.return_, 1) := by decide +kernel
def lX8_mergeAll_60 (N : Nat) (v0 : Nat) : Nat → Int32 → qM → Option (qM)
  | 0, _, _ => none
  | n + 1, v3, m0 =>
    (qgI m0 v0 8 9).bind fun x1 =>
    if x1 ≤ v3 then (
    some m0
    ) else (
    (qgR m0 v0 8 1).bind fun x2 =>
    (qChk m0 v0 8 (fX8_headOf N v0 v3 m0)).bind fun b3 =>
    (qwI b3.2 x2 12 v3 b3.1).bind fun m4 =>
    lX8_mergeAll_60 N v0 n (v3 + (1 : Int32)) m4
    )
set_option maxRecDepth 100000 in
theorem lbX8_mergeAll_60 {E : qE} {N d bc bs : Nat} (hd : 2 ≤ d) {v0 : Nat} : ∀ (n : Nat) (v3 : Int32) (m0 : qM), qB E yX8_mergeAll cX8_mergeAll 4 none (fun _ => True) d bc bs 60 [(0, .ref (E.2.1 + v0)), (3, .int v3)] [] m0 (lX8_mergeAll_60 N v0 n v3 m0) (fun o rr => qJ E yX8_mergeAll cX8_mergeAll 4 none (fun _ => True) d bc bs 85 [] [] o rr) := by
  intro n
  induction n with
  | zero =>
    intro v3 m0
    exact j_none
  | succ n ih =>
    intro v3 m0
    unfold lX8_mergeAll_60
    refine j_iload_n (q := 1) (np := 61) rfl rfl dX8_mergeAll_60 rfl ?_
    refine j_aload_n (q := 0) (np := 62) rfl rfl dX8_mergeAll_61 rfl ?_
    refine j_gI (np := 65) flX8_74 dX8_mergeAll_62 rfl (fun x1 => ?_)
    refine j_icmp_ge (tgt := 85) (np := 68) dX8_mergeAll_65 rfl rfl ?_ ?_
    · refine j_sub (lv2 := []) [] rfl ?_
      exact j_exit (fun rr h => h)
    · refine j_aload_n (q := 0) (np := 69) rfl rfl dX8_mergeAll_68 rfl ?_
      refine j_gR (np := 72) flX8_15 dX8_mergeAll_69 rfl (fun x2 => ?_)
      refine j_iload_n (q := 1) (np := 73) rfl rfl dX8_mergeAll_72 rfl ?_
      refine j_aload_n (q := 0) (np := 74) rfl rfl dX8_mergeAll_73 rfl ?_
      refine j_iload_n (q := 1) (np := 75) rfl rfl dX8_mergeAll_74 rfl ?_
      refine j_callVi (ci := 8) (np := 78) (bc := bc) (bs := bs) (cb := 0) (cs := 0) (dd := d - 1) (As := [.int v3]) (st := [.int v3, .ref (E.2.1 + x2)]) caX8_headOf mlX8_84 imX8_headOf seX8_headOf rfl rfl (by decide) (fun b hb => wX8_headOf (by omega) hb) (by omega) rfl rfl (Nat.le_of_ble_eq_true rfl) dX8_mergeAll_75 rfl (fun b3 => ?_)
      refine j_iastore (np := 79) dX8_mergeAll_78 rfl (fun m4 => ?_)
      refine j_iinc (q := 1) (np := 82) (lv2 := [(3, .int (v3 + (1 : Int32))), (0, .ref (E.2.1 + v0))]) rfl (congrArg _ ci_1) (by decide) dX8_mergeAll_79 rfl rfl ?_
      refine j_goto (tgt := 60) dX8_mergeAll_82 rfl ?_
      refine j_sub (lv2 := [(0, .ref (E.2.1 + v0)), (3, .int (v3 + (1 : Int32)))]) [1, 0] rfl ?_
      exact ih _ _
def lX8_mergeAll_13 (N : Nat) (v0 : Nat) : Nat → Int32 → qM → Option (qM)
  | 0, _, _ => none
  | n + 1, v3, m0 =>
    (qgI m0 v0 8 10).bind fun x1 =>
    if x1 ≤ v3 then (
    some m0
    ) else (
    if (156 : Int32) ≤ v3 then (
    some m0
    ) else (
    (qgR m0 v0 8 5).bind fun x2 =>
    (qaI m0 x2 12 v3).bind fun x3 =>
    (qChk m0 v0 8 (fX8_headOf N v0 x3 m0)).bind fun b4 =>
    (qgR b4.2 v0 8 6).bind fun x5 =>
    (qaI b4.2 x5 12 v3).bind fun x6 =>
    (qChk b4.2 v0 8 (fX8_headOf N v0 x6 b4.2)).bind fun b7 =>
    (qChk b7.2 v0 8 (fX8_merge N v0 b4.1 b7.1 b7.2)).bind fun b8 =>
    lX8_mergeAll_13 N v0 n (v3 + (1 : Int32)) b8
    )
    )
set_option maxRecDepth 100000 in
theorem lbX8_mergeAll_13 {E : qE} {N d bc bs : Nat} (hd : 2 ≤ d) {v0 : Nat} : ∀ (n : Nat) (v3 : Int32) (m0 : qM), qB E yX8_mergeAll cX8_mergeAll 4 none (fun _ => True) d bc bs 13 [(0, .ref (E.2.1 + v0)), (3, .int v3)] [] m0 (lX8_mergeAll_13 N v0 n v3 m0) (fun o rr => qJ E yX8_mergeAll cX8_mergeAll 4 none (fun _ => True) d bc bs 58 [(0, .ref (E.2.1 + v0))] [] o rr) := by
  intro n
  induction n with
  | zero =>
    intro v3 m0
    exact j_none
  | succ n ih =>
    intro v3 m0
    unfold lX8_mergeAll_13
    refine j_iload_n (q := 1) (np := 14) rfl rfl dX8_mergeAll_13 rfl ?_
    refine j_aload_n (q := 0) (np := 15) rfl rfl dX8_mergeAll_14 rfl ?_
    refine j_gI (np := 18) flX8_78 dX8_mergeAll_15 rfl (fun x1 => ?_)
    refine j_icmp_ge (tgt := 58) (np := 21) dX8_mergeAll_18 rfl rfl ?_ ?_
    · refine j_sub (lv2 := [(0, .ref (E.2.1 + v0))]) [0] rfl ?_
      exact j_exit (fun rr h => h)
    · refine j_iload_n (q := 1) (np := 22) rfl rfl dX8_mergeAll_21 rfl ?_
      refine j_sipush (np := 25) cs_156 dX8_mergeAll_22 rfl ?_
      refine j_icmp_ge (tgt := 58) (np := 28) dX8_mergeAll_25 rfl rfl ?_ ?_
      · refine j_sub (lv2 := [(0, .ref (E.2.1 + v0))]) [0] rfl ?_
        exact j_exit (fun rr h => h)
      · refine j_aload_n (q := 0) (np := 29) rfl rfl dX8_mergeAll_28 rfl ?_
        refine j_aload_n (q := 0) (np := 30) rfl rfl dX8_mergeAll_29 rfl ?_
        refine j_aload_n (q := 0) (np := 31) rfl rfl dX8_mergeAll_30 rfl ?_
        refine j_gR (np := 34) flX8_27 dX8_mergeAll_31 rfl (fun x2 => ?_)
        refine j_iload_n (q := 1) (np := 35) rfl rfl dX8_mergeAll_34 rfl ?_
        refine j_iaload (np := 36) dX8_mergeAll_35 rfl (fun x3 => ?_)
        refine j_callVi (ci := 8) (np := 39) (bc := bc) (bs := bs) (cb := 0) (cs := 0) (dd := d - 1) (As := [.int x3]) (st := [.ref (E.2.1 + v0)]) caX8_headOf mlX8_84 imX8_headOf seX8_headOf rfl rfl (by decide) (fun b hb => wX8_headOf (by omega) hb) (by omega) rfl rfl (Nat.le_of_ble_eq_true rfl) dX8_mergeAll_36 rfl (fun b4 => ?_)
        refine j_aload_n (q := 0) (np := 40) rfl rfl dX8_mergeAll_39 rfl ?_
        refine j_aload_n (q := 0) (np := 41) rfl rfl dX8_mergeAll_40 rfl ?_
        refine j_gR (np := 44) flX8_30 dX8_mergeAll_41 rfl (fun x5 => ?_)
        refine j_iload_n (q := 1) (np := 45) rfl rfl dX8_mergeAll_44 rfl ?_
        refine j_iaload (np := 46) dX8_mergeAll_45 rfl (fun x6 => ?_)
        refine j_callVi (ci := 8) (np := 49) (bc := bc) (bs := bs) (cb := 0) (cs := 0) (dd := d - 1) (As := [.int x6]) (st := [.int b4.1, .ref (E.2.1 + v0)]) caX8_headOf mlX8_84 imX8_headOf seX8_headOf rfl rfl (by decide) (fun b hb => wX8_headOf (by omega) hb) (by omega) rfl rfl (Nat.le_of_ble_eq_true rfl) dX8_mergeAll_46 rfl (fun b7 => ?_)
        refine j_callVv (ci := 8) (np := 52) (bc := bc) (bs := bs) (cb := 0) (cs := 0) (dd := d - 1) (As := [.int b4.1, .int b7.1]) (st := []) caX8_merge mlX8_87 imX8_merge seX8_merge rfl rfl (by decide) (fun b hb => wX8_merge (by omega) hb) (by omega) rfl rfl (Nat.le_of_ble_eq_true rfl) dX8_mergeAll_49 rfl (fun b8 => ?_)
        refine j_iinc (q := 1) (np := 55) (lv2 := [(3, .int (v3 + (1 : Int32))), (0, .ref (E.2.1 + v0))]) rfl (congrArg _ ci_1) (by decide) dX8_mergeAll_52 rfl rfl ?_
        refine j_goto (tgt := 13) dX8_mergeAll_55 rfl ?_
        refine j_sub (lv2 := [(0, .ref (E.2.1 + v0)), (3, .int (v3 + (1 : Int32)))]) [1, 0] rfl ?_
        exact ih _ _
def fX8_mergeAll (N : Nat) (v0 : Nat) (v1 : Int32) (v2 : Int32) (m0 : qM) : Option (qM) :=
  (qpI m0 v0 8 10 (0 : Int32)).bind fun m1 =>
  (qChk m1 v0 8 (fX8_enqueue N v0 v1 v2 m1)).bind fun b2 =>
  (lX8_mergeAll_13 N v0 N (0 : Int32) b2).bind fun o3 =>
  (lX8_mergeAll_60 N v0 N (0 : Int32) o3).bind fun o4 =>
  some o4
set_option maxRecDepth 100000 in
theorem bX8_mergeAll {E : qE} {N d bc bs : Nat} (hd : 2 ≤ d) {v0 : Nat} {v1 : Int32} {v2 : Int32} {m0 : qM} : qB E yX8_mergeAll cX8_mergeAll 4 none (fun _ => True) d bc bs 0 [(0, .ref (E.2.1 + v0)), (1, .int v1), (2, .int v2)] [] m0 (fX8_mergeAll N v0 v1 v2 m0) (fun b rr => rr = (none, b)) := by
  unfold fX8_mergeAll
  refine j_aload_n (q := 0) (np := 1) rfl rfl dX8_mergeAll_0 rfl ?_
  refine j_iconst (np := 2) ci_0 dX8_mergeAll_1 rfl ?_
  refine j_pI (np := 5) flX8_78 dX8_mergeAll_2 rfl (fun m1 => ?_)
  refine j_aload_n (q := 0) (np := 6) rfl rfl dX8_mergeAll_5 rfl ?_
  refine j_iload_n (q := 1) (np := 7) rfl rfl dX8_mergeAll_6 rfl ?_
  refine j_iload_n (q := 2) (np := 8) rfl rfl dX8_mergeAll_7 rfl ?_
  refine j_callVv (ci := 8) (np := 11) (bc := bc) (bs := bs) (cb := 0) (cs := 0) (dd := d - 1) (As := [.int v1, .int v2]) (st := []) caX8_enqueue mlX8_81 imX8_enqueue seX8_enqueue rfl rfl (by decide) (fun b hb => wX8_enqueue (by omega) hb) (by omega) rfl rfl (Nat.le_of_ble_eq_true rfl) dX8_mergeAll_8 rfl (fun b2 => ?_)
  refine j_iconst (np := 12) ci_0 dX8_mergeAll_11 rfl ?_
  refine j_istore_n (np := 13) (lv2 := [(3, .int (0 : Int32)), (0, .ref (E.2.1 + v0)), (1, .int v1), (2, .int v2)]) rfl (by decide) dX8_mergeAll_12 rfl rfl ?_
  refine j_sub (lv2 := [(0, .ref (E.2.1 + v0)), (3, .int (0 : Int32))]) [1, 0] rfl ?_
  refine j_loop (xp := 58) (lvX := fun o3 => [(0, .ref (E.2.1 + v0))]) (mX := fun o3 => o3) (lbX8_mergeAll_13 hd _ _ _) (fun o3 => ?_)
  refine j_iconst (np := 59) ci_0 dX8_mergeAll_58 rfl ?_
  refine j_istore_n (np := 60) (lv2 := [(3, .int (0 : Int32)), (0, .ref (E.2.1 + v0))]) rfl (by decide) dX8_mergeAll_59 rfl rfl ?_
  refine j_sub (lv2 := [(0, .ref (E.2.1 + v0)), (3, .int (0 : Int32))]) [1, 0] rfl ?_
  refine j_loop (xp := 85) (lvX := fun o4 => []) (mX := fun o4 => o4) (lbX8_mergeAll_60 hd _ _ _) (fun o4 => ?_)
  exact j_vret rfl dX8_mergeAll_85 (fun rr h => h)
set_option maxRecDepth 100000 in
theorem wX8_mergeAll {E : qE} {N d : Nat} (hd : 2 ≤ d) {v0 : Nat} {v1 : Int32} {v2 : Int32} {m0 : qM} {b : qM} (h : fX8_mergeAll N v0 v1 v2 m0 = some b) : qRun E yX8_mergeAll cX8_mergeAll 4 none d 0 0 [.ref (E.2.1 + v0), .int v1, .int v2] m0 (none, b) := q_met pnX8 (Nat.le_of_ble_eq_true rfl) (bX8_mergeAll hd b _ h rfl)
theorem dX8_writeOut_0 : decode cX8_writeOut 0 = .ok (.aload_n 0, 1) := by decide +kernel
theorem dX8_writeOut_1 : decode cX8_writeOut 1 = .ok (.getfield 21, 3) := by decide +kernel
theorem dX8_writeOut_4 : decode cX8_writeOut 4 = .ok (.aload_n 0, 1) := by decide +kernel
theorem dX8_writeOut_5 : decode cX8_writeOut 5 = .ok (.getfield 15, 3) := by decide +kernel
theorem dX8_writeOut_8 : decode cX8_writeOut 8 = .ok (.iload_n 1, 1) := by decide +kernel
theorem dX8_writeOut_9 : decode cX8_writeOut 9 = .ok (.iaload, 1) := by decide +kernel
theorem dX8_writeOut_10 : decode cX8_writeOut 10 = .ok (.iaload, 1) := by decide +kernel
theorem dX8_writeOut_11 : decode cX8_writeOut 11 = .ok (.bipush 39, 2) := by decide +kernel
theorem dX8_writeOut_13 : decode cX8_writeOut 13 = .ok (.if_icmp .le 6, 3) := by decide +kernel
theorem dX8_writeOut_16 : decode cX8_writeOut 16 = .ok (.bipush (-5), 2) := by decide +kernel
theorem dX8_writeOut_18 : decode cX8_writeOut 18 = .ok (.ireturn, 1) := by decide +kernel
theorem dX8_writeOut_19 : decode cX8_writeOut 19 = .ok (.aload_n 2, 1) := by decide +kernel
theorem dX8_writeOut_20 : decode cX8_writeOut 20 = .ok (.invokevirtual 100, 3) := by decide +kernel
theorem dX8_writeOut_23 : decode cX8_writeOut 23 = .ok (.aload_n 0, 1) := by decide +kernel
theorem dX8_writeOut_24 : decode cX8_writeOut 24 = .ok (.getfield 24, 3) := by decide +kernel
theorem dX8_writeOut_27 : decode cX8_writeOut 27 = .ok (.iconst 0, 1) := by decide +kernel
theorem dX8_writeOut_28 : decode cX8_writeOut 28 = .ok (.iload_n 1, 1) := by decide +kernel
theorem dX8_writeOut_29 : decode cX8_writeOut 29 = .ok (.iastore, 1) := by decide +kernel
theorem dX8_writeOut_30 : decode cX8_writeOut 30 = .ok (.iconst 1, 1) := by decide +kernel
theorem dX8_writeOut_31 : decode cX8_writeOut 31 = .ok (.istore_n 3, 1) := by decide +kernel
theorem dX8_writeOut_32 : decode cX8_writeOut 32 = .ok (.iconst 0, 1) := by decide +kernel
theorem dX8_writeOut_33 : decode cX8_writeOut 33 = .ok (.istore 4, 2) := by decide +kernel
theorem dX8_writeOut_35 : decode cX8_writeOut 35 = .ok (.iload 4, 2) := by decide +kernel
theorem dX8_writeOut_37 : decode cX8_writeOut 37 = .ok (.bipush 39, 2) := by decide +kernel
theorem dX8_writeOut_39 : decode cX8_writeOut 39 = .ok (.if_icmp .ge 97, 3) := by decide +kernel
theorem dX8_writeOut_42 : decode cX8_writeOut 42 = .ok (.iload_n 3, 1) := by decide +kernel
theorem dX8_writeOut_43 : decode cX8_writeOut 43 = .ok (.ifCond .le 93, 3) := by decide +kernel
theorem dX8_writeOut_46 : decode cX8_writeOut 46 = .ok (.iinc 3 (-1), 3) := by decide +kernel
theorem dX8_writeOut_49 : decode cX8_writeOut 49 = .ok (.aload_n 0, 1) := by decide +kernel
theorem dX8_writeOut_50 : decode cX8_writeOut 50 = .ok (.getfield 15, 3) := by decide +kernel
theorem dX8_writeOut_53 : decode cX8_writeOut 53 = .ok (.aload_n 0, 1) := by decide +kernel
theorem dX8_writeOut_54 : decode cX8_writeOut 54 = .ok (.getfield 24, 3) := by decide +kernel
theorem dX8_writeOut_57 : decode cX8_writeOut 57 = .ok (.iload_n 3, 1) := by decide +kernel
theorem dX8_writeOut_58 : decode cX8_writeOut 58 = .ok (.iaload, 1) := by decide +kernel
theorem dX8_writeOut_59 : decode cX8_writeOut 59 = .ok (.iaload, 1) := by decide +kernel
theorem dX8_writeOut_60 : decode cX8_writeOut 60 = .ok (.istore 5, 2) := by decide +kernel
theorem dX8_writeOut_62 : decode cX8_writeOut 62 = .ok (.aload_n 0, 1) := by decide +kernel
theorem dX8_writeOut_63 : decode cX8_writeOut 63 = .ok (.getfield 18, 3) := by decide +kernel
theorem dX8_writeOut_66 : decode cX8_writeOut 66 = .ok (.iload 5, 2) := by decide +kernel
theorem dX8_writeOut_68 : decode cX8_writeOut 68 = .ok (.iaload, 1) := by decide +kernel
theorem dX8_writeOut_69 : decode cX8_writeOut 69 = .ok (.istore 6, 2) := by decide +kernel
theorem dX8_writeOut_71 : decode cX8_writeOut 71 = .ok (.iload 6, 2) := by decide +kernel
theorem dX8_writeOut_73 : decode cX8_writeOut 73 = .ok (.iconst (-1), 1) := by decide +kernel
theorem dX8_writeOut_74 : decode cX8_writeOut 74 = .ok (.if_icmp .eq 40, 3) := by decide +kernel
theorem dX8_writeOut_77 : decode cX8_writeOut 77 = .ok (.aload_n 2, 1) := by decide +kernel
theorem dX8_writeOut_78 : decode cX8_writeOut 78 = .ok (.iconst (-1), 1) := by decide +kernel
theorem dX8_writeOut_79 : decode cX8_writeOut 79 = .ok (.invokevirtual 103, 3) := by decide +kernel
theorem dX8_writeOut_82 : decode cX8_writeOut 82 = .ok (.pop, 1) := by decide +kernel
theorem dX8_writeOut_83 : decode cX8_writeOut 83 = .ok (.aload_n 0, 1) := by decide +kernel
theorem dX8_writeOut_84 : decode cX8_writeOut 84 = .ok (.getfield 24, 3) := by decide +kernel
theorem dX8_writeOut_87 : decode cX8_writeOut 87 = .ok (.iload_n 3, 1) := by decide +kernel
theorem dX8_writeOut_88 : decode cX8_writeOut 88 = .ok (.aload_n 0, 1) := by decide +kernel
theorem dX8_writeOut_89 : decode cX8_writeOut 89 = .ok (.getfield 11, 3) := by decide +kernel
theorem dX8_writeOut_92 : decode cX8_writeOut 92 = .ok (.iload 6, 2) := by decide +kernel
theorem dX8_writeOut_94 : decode cX8_writeOut 94 = .ok (.iaload, 1) := by decide +kernel
theorem dX8_writeOut_95 : decode cX8_writeOut 95 = .ok (.iastore, 1) := by decide +kernel
theorem dX8_writeOut_96 : decode cX8_writeOut 96 = .ok (.aload_n 0, 1) := by decide +kernel
theorem dX8_writeOut_97 : decode cX8_writeOut 97 = .ok (.getfield 24, 3) := by decide +kernel
theorem dX8_writeOut_100 : decode cX8_writeOut 100 = .ok (.iload_n 3, 1) := by decide +kernel
theorem dX8_writeOut_101 : decode cX8_writeOut 101 = .ok (.iconst 1, 1) := by decide +kernel
theorem dX8_writeOut_102 : decode cX8_writeOut 102 = .ok (.iadd, 1) := by decide +kernel
theorem dX8_writeOut_103 : decode cX8_writeOut 103 = .ok (.iload 6, 2) := by decide +kernel
theorem dX8_writeOut_105 : decode cX8_writeOut 105 = .ok (.iconst 1, 1) := by decide +kernel
theorem dX8_writeOut_106 : decode cX8_writeOut 106 = .ok (.iadd, 1) := by decide +kernel
theorem dX8_writeOut_107 : decode cX8_writeOut 107 = .ok (.iastore, 1) := by decide +kernel
theorem dX8_writeOut_108 : decode cX8_writeOut 108 = .ok (.iinc 3 2, 3) := by decide +kernel
theorem dX8_writeOut_111 : decode cX8_writeOut 111 = .ok (.goto 19, 3) := by decide +kernel
theorem dX8_writeOut_114 : decode cX8_writeOut 114 = .ok (.aload_n 2, 1) := by decide +kernel
theorem dX8_writeOut_115 : decode cX8_writeOut 115 = .ok (.iload 5, 2) := by decide +kernel
theorem dX8_writeOut_117 : decode cX8_writeOut 117 = .ok (.aload_n 0, 1) := by decide +kernel
theorem dX8_writeOut_118 : decode cX8_writeOut 118 = .ok (.getfield 36, 3) := by decide +kernel
theorem dX8_writeOut_121 : decode cX8_writeOut 121 = .ok (.invokevirtual 106, 3) := by decide +kernel
theorem dX8_writeOut_124 : decode cX8_writeOut 124 = .ok (.ifCond .ne 6, 3) := by decide +kernel
theorem dX8_writeOut_127 : decode cX8_writeOut 127 = .ok (.bipush (-5), 2) := by decide +kernel
theorem dX8_writeOut_129 : decode cX8_writeOut 129 = .ok (.ireturn, 1) := by decide +kernel
theorem dX8_writeOut_130 : decode cX8_writeOut 130 = .ok (.iinc 4 1, 3) := by decide +kernel
theorem dX8_writeOut_133 : decode cX8_writeOut 133 = .ok (.goto (-98), 3) := by decide +kernel
theorem dX8_writeOut_136 : decode cX8_writeOut 136 = .ok (.iconst 0, 1) := by decide +kernel
theorem dX8_writeOut_137 : decode cX8_writeOut 137 = .ok (.ireturn, 1) := by decide +kernel
def kX8_writeOut_130 (N : Nat) (rec : Int32 → Int32 → qM → Option ((qM) ⊕ (Int32 × qM))) (v0 : Nat) (v2 : Nat) (v3 : Int32) (v4 : Int32)  (m0 : qM) : Option ((qM) ⊕ (Int32 × qM)) :=
  rec v3 (v4 + (1 : Int32)) m0
set_option maxRecDepth 100000 in
theorem kbX8_writeOut_130 {E : qE} {N d bc bs : Nat} (hd : 2 ≤ d) {v0 : Nat} {v2 : Nat} {v3 : Int32} {v4 : Int32}  {m0 : qM} {rec : Int32 → Int32 → qM → Option ((qM) ⊕ (Int32 × qM))} (hrec : ∀ (v3 : Int32) (v4 : Int32) (m : qM), qB E yX8_writeOut cX8_writeOut 7 (some .int) (fun _ => True) d bc bs 35 [(0, .ref (E.2.1 + v0)), (2, .ref (E.2.1 + v2)), (3, .int v3), (4, .int v4)] [] m (rec v3 v4 m) (qGL (fun o rr => qJ E yX8_writeOut cX8_writeOut 7 (some .int) (fun _ => True) d bc bs 136 [] [] o rr) (fun r => (some (.int r.1), r.2)))) : qB E yX8_writeOut cX8_writeOut 7 (some .int) (fun _ => True) d bc bs 130 [(0, .ref (E.2.1 + v0)), (2, .ref (E.2.1 + v2)), (3, .int v3), (4, .int v4)] [] m0 (kX8_writeOut_130 N rec v0 v2 v3 v4 m0) (qGL (fun o rr => qJ E yX8_writeOut cX8_writeOut 7 (some .int) (fun _ => True) d bc bs 136 [] [] o rr) (fun r => (some (.int r.1), r.2))) := by
  unfold kX8_writeOut_130
  refine j_iinc (q := 3) (np := 133) (lv2 := [(4, .int (v4 + (1 : Int32))), (0, .ref (E.2.1 + v0)), (2, .ref (E.2.1 + v2)), (3, .int v3)]) rfl (congrArg _ ci_1) (by decide) dX8_writeOut_130 rfl rfl ?_
  refine j_goto (tgt := 35) dX8_writeOut_133 rfl ?_
  refine j_sub (lv2 := [(0, .ref (E.2.1 + v0)), (2, .ref (E.2.1 + v2)), (3, .int v3), (4, .int (v4 + (1 : Int32)))]) [1, 2, 3, 0] rfl ?_
  exact hrec _ _ _
def lX8_writeOut_35 (N : Nat) (v0 : Nat) (v2 : Nat) : Nat → Int32 → Int32 → qM → Option ((qM) ⊕ (Int32 × qM))
  | 0, _, _, _ => none
  | n + 1, v3, v4, m0 =>
    if (39 : Int32) ≤ v4 then (
    some (.inl m0)
    ) else (
    if v3 ≤ 0 then (
    some (.inl m0)
    ) else (
    (qgR m0 v0 8 1).bind fun x1 =>
    (qgR m0 v0 8 4).bind fun x2 =>
    (qaI m0 x2 12 (v3 + (-1 : Int32))).bind fun x3 =>
    (qaI m0 x1 12 x3).bind fun x4 =>
    (qgR m0 v0 8 2).bind fun x5 =>
    (qaI m0 x5 12 x4).bind fun x6 =>
    if x6 = (-1 : Int32) then (
    (qgR m0 v0 8 8).bind fun x7 =>
    (qChk m0 v2 0 (fX0_addVariable N v2 x4 x7 m0)).bind fun b8 =>
    if b8.1 = 0 then (
    some (.inr ((-5 : Int32), b8.2))
    ) else (
    kX8_writeOut_130 N (lX8_writeOut_35 N v0 v2 n) v0 v2 (v3 + (-1 : Int32)) v4 b8.2
    )
    ) else (
    (qChk m0 v2 0 (fX0_addSign N v2 (-1 : Int32) m0)).bind fun b9 =>
    (qgR b9.2 v0 8 4).bind fun x10 =>
    (qgR b9.2 v0 8 0).bind fun x11 =>
    (qaI b9.2 x11 12 x6).bind fun x12 =>
    (qwI b9.2 x10 12 (v3 + (-1 : Int32)) x12).bind fun m13 =>
    (qgR m13 v0 8 4).bind fun x14 =>
    (qwI m13 x14 12 ((v3 + (-1 : Int32)) + (1 : Int32)) (x6 + (1 : Int32))).bind fun m15 =>
    kX8_writeOut_130 N (lX8_writeOut_35 N v0 v2 n) v0 v2 ((v3 + (-1 : Int32)) + (2 : Int32)) v4 m15
    )
    )
    )
set_option maxRecDepth 100000 in
theorem lbX8_writeOut_35 {E : qE} {N d bc bs : Nat} (hd : 2 ≤ d) {v0 : Nat} {v2 : Nat} : ∀ (n : Nat) (v3 : Int32) (v4 : Int32) (m0 : qM), qB E yX8_writeOut cX8_writeOut 7 (some .int) (fun _ => True) d bc bs 35 [(0, .ref (E.2.1 + v0)), (2, .ref (E.2.1 + v2)), (3, .int v3), (4, .int v4)] [] m0 (lX8_writeOut_35 N v0 v2 n v3 v4 m0) (qGL (fun o rr => qJ E yX8_writeOut cX8_writeOut 7 (some .int) (fun _ => True) d bc bs 136 [] [] o rr) (fun r => (some (.int r.1), r.2))) := by
  intro n
  induction n with
  | zero =>
    intro v3 v4 m0
    exact j_none
  | succ n ih =>
    intro v3 v4 m0
    unfold lX8_writeOut_35
    refine j_iload (q := 3) (np := 37) rfl dX8_writeOut_35 rfl ?_
    refine j_bipush (np := 39) cb_39 dX8_writeOut_37 rfl ?_
    refine j_icmp_ge (tgt := 136) (np := 42) dX8_writeOut_39 rfl rfl ?_ ?_
    · refine j_sub (lv2 := []) [] rfl ?_
      exact j_exit (fun rr h => h)
    · refine j_iload_n (q := 2) (np := 43) rfl rfl dX8_writeOut_42 rfl ?_
      refine j_if_le (tgt := 136) (np := 46) dX8_writeOut_43 rfl rfl ?_ ?_
      · refine j_sub (lv2 := []) [] rfl ?_
        exact j_exit (fun rr h => h)
      · refine j_iinc (q := 2) (np := 49) (lv2 := [(3, .int (v3 + (-1 : Int32))), (0, .ref (E.2.1 + v0)), (2, .ref (E.2.1 + v2)), (4, .int v4)]) rfl (congrArg _ ci_m1) (by decide) dX8_writeOut_46 rfl rfl ?_
        refine j_aload_n (q := 1) (np := 50) rfl rfl dX8_writeOut_49 rfl ?_
        refine j_gR (np := 53) flX8_15 dX8_writeOut_50 rfl (fun x1 => ?_)
        refine j_aload_n (q := 1) (np := 54) rfl rfl dX8_writeOut_53 rfl ?_
        refine j_gR (np := 57) flX8_24 dX8_writeOut_54 rfl (fun x2 => ?_)
        refine j_iload_n (q := 0) (np := 58) rfl rfl dX8_writeOut_57 rfl ?_
        refine j_iaload (np := 59) dX8_writeOut_58 rfl (fun x3 => ?_)
        refine j_iaload (np := 60) dX8_writeOut_59 rfl (fun x4 => ?_)
        refine j_istore (np := 62) (lv2 := [(5, .int x4), (3, .int (v3 + (-1 : Int32))), (0, .ref (E.2.1 + v0)), (2, .ref (E.2.1 + v2)), (4, .int v4)]) (by decide) dX8_writeOut_60 rfl rfl ?_
        refine j_aload_n (q := 2) (np := 63) rfl rfl dX8_writeOut_62 rfl ?_
        refine j_gR (np := 66) flX8_18 dX8_writeOut_63 rfl (fun x5 => ?_)
        refine j_iload (q := 0) (np := 68) rfl dX8_writeOut_66 rfl ?_
        refine j_iaload (np := 69) dX8_writeOut_68 rfl (fun x6 => ?_)
        refine j_istore (np := 71) (lv2 := [(6, .int x6), (5, .int x4), (3, .int (v3 + (-1 : Int32))), (0, .ref (E.2.1 + v0)), (2, .ref (E.2.1 + v2)), (4, .int v4)]) (by decide) dX8_writeOut_69 rfl rfl ?_
        refine j_iload (q := 0) (np := 73) rfl dX8_writeOut_71 rfl ?_
        refine j_iconst (np := 74) ci_m1 dX8_writeOut_73 rfl ?_
        refine j_icmp_eq (tgt := 114) (np := 77) dX8_writeOut_74 rfl rfl ?_ ?_
        · refine j_aload_n (q := 4) (np := 115) rfl rfl dX8_writeOut_114 rfl ?_
          refine j_iload (q := 1) (np := 117) rfl dX8_writeOut_115 rfl ?_
          refine j_aload_n (q := 3) (np := 118) rfl rfl dX8_writeOut_117 rfl ?_
          refine j_gR (np := 121) flX8_36 dX8_writeOut_118 rfl (fun x7 => ?_)
          refine j_callVi (ci := 0) (np := 124) (bc := bc) (bs := bs) (cb := 0) (cs := 0) (dd := d - 1) (As := [.int x4, .ref (E.2.1 + x7)]) (st := []) caX0_addVariable mlX8_106 imX0_addVariable seX0_addVariable rfl rfl (by decide) (fun b hb => wX0_addVariable (by omega) hb) (by omega) rfl rfl (Nat.le_of_ble_eq_true rfl) dX8_writeOut_121 rfl (fun b8 => ?_)
          refine j_if_ne (tgt := 130) (np := 127) dX8_writeOut_124 rfl rfl ?_ ?_
          · refine j_sub (lv2 := [(0, .ref (E.2.1 + v0)), (2, .ref (E.2.1 + v2)), (3, .int (v3 + (-1 : Int32))), (4, .int v4)]) [3, 4, 2, 5] rfl ?_
            exact kbX8_writeOut_130 hd ih
          · refine j_bipush (np := 129) cb_m5 dX8_writeOut_127 rfl ?_
            exact j_iret rfl dX8_writeOut_129 (fun rr h => h)
        · refine j_aload_n (q := 4) (np := 78) rfl rfl dX8_writeOut_77 rfl ?_
          refine j_iconst (np := 79) ci_m1 dX8_writeOut_78 rfl ?_
          refine j_callVi (ci := 0) (np := 82) (bc := bc) (bs := bs) (cb := 0) (cs := 0) (dd := d - 1) (As := [.int (-1 : Int32)]) (st := []) caX0_addSign mlX8_103 imX0_addSign seX0_addSign rfl rfl (by decide) (fun b hb => wX0_addSign (by omega) hb) (by omega) rfl rfl (Nat.le_of_ble_eq_true rfl) dX8_writeOut_79 rfl (fun b9 => ?_)
          refine j_pop (np := 83) rfl dX8_writeOut_82 rfl ?_
          refine j_aload_n (q := 3) (np := 84) rfl rfl dX8_writeOut_83 rfl ?_
          refine j_gR (np := 87) flX8_24 dX8_writeOut_84 rfl (fun x10 => ?_)
          refine j_iload_n (q := 2) (np := 88) rfl rfl dX8_writeOut_87 rfl ?_
          refine j_aload_n (q := 3) (np := 89) rfl rfl dX8_writeOut_88 rfl ?_
          refine j_gR (np := 92) flX8_11 dX8_writeOut_89 rfl (fun x11 => ?_)
          refine j_iload (q := 0) (np := 94) rfl dX8_writeOut_92 rfl ?_
          refine j_iaload (np := 95) dX8_writeOut_94 rfl (fun x12 => ?_)
          refine j_iastore (np := 96) dX8_writeOut_95 rfl (fun m13 => ?_)
          refine j_aload_n (q := 3) (np := 97) rfl rfl dX8_writeOut_96 rfl ?_
          refine j_gR (np := 100) flX8_24 dX8_writeOut_97 rfl (fun x14 => ?_)
          refine j_iload_n (q := 2) (np := 101) rfl rfl dX8_writeOut_100 rfl ?_
          refine j_iconst (np := 102) ci_1 dX8_writeOut_101 rfl ?_
          refine j_iadd (np := 103) dX8_writeOut_102 rfl ?_
          refine j_iload (q := 0) (np := 105) rfl dX8_writeOut_103 rfl ?_
          refine j_iconst (np := 106) ci_1 dX8_writeOut_105 rfl ?_
          refine j_iadd (np := 107) dX8_writeOut_106 rfl ?_
          refine j_iastore (np := 108) dX8_writeOut_107 rfl (fun m15 => ?_)
          refine j_iinc (q := 2) (np := 111) (lv2 := [(3, .int ((v3 + (-1 : Int32)) + (2 : Int32))), (6, .int x6), (5, .int x4), (0, .ref (E.2.1 + v0)), (2, .ref (E.2.1 + v2)), (4, .int v4)]) rfl (congrArg _ ci_2) (by decide) dX8_writeOut_108 rfl rfl ?_
          refine j_goto (tgt := 130) dX8_writeOut_111 rfl ?_
          refine j_sub (lv2 := [(0, .ref (E.2.1 + v0)), (2, .ref (E.2.1 + v2)), (3, .int ((v3 + (-1 : Int32)) + (2 : Int32))), (4, .int v4)]) [3, 4, 0, 5] rfl ?_
          exact kbX8_writeOut_130 hd ih
def fX8_writeOut (N : Nat) (v0 : Nat) (v1 : Int32) (v2 : Nat) (m0 : qM) : Option (Int32 × qM) :=
  (qgR m0 v0 8 3).bind fun x1 =>
  (qgR m0 v0 8 1).bind fun x2 =>
  (qaI m0 x2 12 v1).bind fun x3 =>
  (qaI m0 x1 12 x3).bind fun x4 =>
  if x4 ≤ (39 : Int32) then (
  (qChk m0 v2 0 (fX0_makeEmpty N v2 m0)).bind fun b5 =>
  (qgR b5 v0 8 4).bind fun x6 =>
  (qwI b5 x6 12 (0 : Int32) v1).bind fun m7 =>
  qTh (lX8_writeOut_35 N v0 v2 N (1 : Int32) (0 : Int32) m7) (fun o8 =>
  some ((0 : Int32), o8)
  ) (fun r => r)
  ) else (
  some ((-5 : Int32), m0)
  )
set_option maxRecDepth 100000 in
theorem bX8_writeOut {E : qE} {N d bc bs : Nat} (hd : 2 ≤ d) {v0 : Nat} {v1 : Int32} {v2 : Nat} {m0 : qM} : qB E yX8_writeOut cX8_writeOut 7 (some .int) (fun _ => True) d bc bs 0 [(0, .ref (E.2.1 + v0)), (1, .int v1), (2, .ref (E.2.1 + v2))] [] m0 (fX8_writeOut N v0 v1 v2 m0) (fun b rr => rr = (some (.int b.1), b.2)) := by
  unfold fX8_writeOut
  refine j_aload_n (q := 0) (np := 1) rfl rfl dX8_writeOut_0 rfl ?_
  refine j_gR (np := 4) flX8_21 dX8_writeOut_1 rfl (fun x1 => ?_)
  refine j_aload_n (q := 0) (np := 5) rfl rfl dX8_writeOut_4 rfl ?_
  refine j_gR (np := 8) flX8_15 dX8_writeOut_5 rfl (fun x2 => ?_)
  refine j_iload_n (q := 1) (np := 9) rfl rfl dX8_writeOut_8 rfl ?_
  refine j_iaload (np := 10) dX8_writeOut_9 rfl (fun x3 => ?_)
  refine j_iaload (np := 11) dX8_writeOut_10 rfl (fun x4 => ?_)
  refine j_bipush (np := 13) cb_39 dX8_writeOut_11 rfl ?_
  refine j_icmp_le (tgt := 19) (np := 16) dX8_writeOut_13 rfl rfl ?_ ?_
  · refine j_aload_n (q := 2) (np := 20) rfl rfl dX8_writeOut_19 rfl ?_
    refine j_callVv (ci := 0) (np := 23) (bc := bc) (bs := bs) (cb := 0) (cs := 0) (dd := d - 1) (As := []) (st := []) caX0_makeEmpty mlX8_100 imX0_makeEmpty seX0_makeEmpty rfl rfl (by decide) (fun b hb => wX0_makeEmpty (by omega) hb) (by omega) rfl rfl (Nat.le_of_ble_eq_true rfl) dX8_writeOut_20 rfl (fun b5 => ?_)
    refine j_aload_n (q := 0) (np := 24) rfl rfl dX8_writeOut_23 rfl ?_
    refine j_gR (np := 27) flX8_24 dX8_writeOut_24 rfl (fun x6 => ?_)
    refine j_iconst (np := 28) ci_0 dX8_writeOut_27 rfl ?_
    refine j_iload_n (q := 1) (np := 29) rfl rfl dX8_writeOut_28 rfl ?_
    refine j_iastore (np := 30) dX8_writeOut_29 rfl (fun m7 => ?_)
    refine j_iconst (np := 31) ci_1 dX8_writeOut_30 rfl ?_
    refine j_istore_n (np := 32) (lv2 := [(3, .int (1 : Int32)), (0, .ref (E.2.1 + v0)), (1, .int v1), (2, .ref (E.2.1 + v2))]) rfl (by decide) dX8_writeOut_31 rfl rfl ?_
    refine j_iconst (np := 33) ci_0 dX8_writeOut_32 rfl ?_
    refine j_istore (np := 35) (lv2 := [(4, .int (0 : Int32)), (3, .int (1 : Int32)), (0, .ref (E.2.1 + v0)), (1, .int v1), (2, .ref (E.2.1 + v2))]) (by decide) dX8_writeOut_33 rfl rfl ?_
    refine j_sub (lv2 := [(0, .ref (E.2.1 + v0)), (2, .ref (E.2.1 + v2)), (3, .int (1 : Int32)), (4, .int (0 : Int32))]) [2, 4, 1, 0] rfl ?_
    refine j_loopG (xp := 136) (lvX := fun o8 => []) (mX := fun o8 => o8) (lbX8_writeOut_35 hd _ _ _ _) (fun r rr h => h) (fun o8 => ?_)
    refine j_iconst (np := 137) ci_0 dX8_writeOut_136 rfl ?_
    exact j_iret rfl dX8_writeOut_137 (fun rr h => h)
  · refine j_bipush (np := 18) cb_m5 dX8_writeOut_16 rfl ?_
    exact j_iret rfl dX8_writeOut_18 (fun rr h => h)
set_option maxRecDepth 100000 in
theorem wX8_writeOut {E : qE} {N d : Nat} (hd : 2 ≤ d) {v0 : Nat} {v1 : Int32} {v2 : Nat} {m0 : qM} {b : Int32 × qM} (h : fX8_writeOut N v0 v1 v2 m0 = some b) : qRun E yX8_writeOut cX8_writeOut 7 (some .int) d 0 0 [.ref (E.2.1 + v0), .int v1, .ref (E.2.1 + v2)] m0 (some (.int b.1), b.2) := q_met pnX8 (Nat.le_of_ble_eq_true rfl) (bX8_writeOut hd b _ h rfl)
theorem dX8_detachInto_0 : decode cX8_detachInto 0 = .ok (.aload_n 1, 1) := by decide +kernel
theorem dX8_detachInto_1 : decode cX8_detachInto 1 = .ok (.invokevirtual 39, 3) := by decide +kernel
theorem dX8_detachInto_4 : decode cX8_detachInto 4 = .ok (.ifCond .ne 6, 3) := by decide +kernel
theorem dX8_detachInto_7 : decode cX8_detachInto 7 = .ok (.bipush (-4), 2) := by decide +kernel
theorem dX8_detachInto_9 : decode cX8_detachInto 9 = .ok (.ireturn, 1) := by decide +kernel
theorem dX8_detachInto_10 : decode cX8_detachInto 10 = .ok (.aload_n 1, 1) := by decide +kernel
theorem dX8_detachInto_11 : decode cX8_detachInto 11 = .ok (.invokevirtual 45, 3) := by decide +kernel
theorem dX8_detachInto_14 : decode cX8_detachInto 14 = .ok (.istore 4, 2) := by decide +kernel
theorem dX8_detachInto_16 : decode cX8_detachInto 16 = .ok (.aload_n 0, 1) := by decide +kernel
theorem dX8_detachInto_17 : decode cX8_detachInto 17 = .ok (.aload_n 1, 1) := by decide +kernel
theorem dX8_detachInto_18 : decode cX8_detachInto 18 = .ok (.iconst 0, 1) := by decide +kernel
theorem dX8_detachInto_19 : decode cX8_detachInto 19 = .ok (.invokevirtual 49, 3) := by decide +kernel
theorem dX8_detachInto_22 : decode cX8_detachInto 22 = .ok (.aload_n 0, 1) := by decide +kernel
theorem dX8_detachInto_23 : decode cX8_detachInto 23 = .ok (.aload_n 2, 1) := by decide +kernel
theorem dX8_detachInto_24 : decode cX8_detachInto 24 = .ok (.iload 4, 2) := by decide +kernel
theorem dX8_detachInto_26 : decode cX8_detachInto 26 = .ok (.invokevirtual 49, 3) := by decide +kernel
theorem dX8_detachInto_29 : decode cX8_detachInto 29 = .ok (.aload_n 0, 1) := by decide +kernel
theorem dX8_detachInto_30 : decode cX8_detachInto 30 = .ok (.iconst 1, 1) := by decide +kernel
theorem dX8_detachInto_31 : decode cX8_detachInto 31 = .ok (.iload 4, 2) := by decide +kernel
theorem dX8_detachInto_33 : decode cX8_detachInto 33 = .ok (.invokevirtual 53, 3) := by decide +kernel
theorem dX8_detachInto_36 : decode cX8_detachInto 36 = .ok (.aload_n 0, 1) := by decide +kernel
theorem dX8_detachInto_37 : decode cX8_detachInto 37 = .ok (.invokevirtual 57, 3) := by decide +kernel
theorem dX8_detachInto_40 : decode cX8_detachInto 40 = .ok (.ifCond .eq 17, 3) := by decide +kernel
theorem dX8_detachInto_43 : decode cX8_detachInto 43 = .ok (.aload_n 0, 1) := by decide +kernel
theorem dX8_detachInto_44 : decode cX8_detachInto 44 = .ok (.aload_n 0, 1) := by decide +kernel
theorem dX8_detachInto_45 : decode cX8_detachInto 45 = .ok (.getfield 11, 3) := by decide +kernel
theorem dX8_detachInto_48 : decode cX8_detachInto 48 = .ok (.iconst 0, 1) := by decide +kernel
theorem dX8_detachInto_49 : decode cX8_detachInto 49 = .ok (.iaload, 1) := by decide +kernel
theorem dX8_detachInto_50 : decode cX8_detachInto 50 = .ok (.aload_n 3, 1) := by decide +kernel
theorem dX8_detachInto_51 : decode cX8_detachInto 51 = .ok (.invokevirtual 60, 3) := by decide +kernel
theorem dX8_detachInto_54 : decode cX8_detachInto 54 = .ok (.goto 5, 3) := by decide +kernel
theorem dX8_detachInto_57 : decode cX8_detachInto 57 = .ok (.bipush (-4), 2) := by decide +kernel
theorem dX8_detachInto_59 : decode cX8_detachInto 59 = .ok (.ireturn, 1) := by decide +kernel
def fX8_detachInto (N : Nat) (v0 : Nat) (v1 : Nat) (v2 : Nat) (v3 : Nat) (m0 : qM) : Option (Int32 × qM) :=
  (qChk m0 v1 0 (fX0_isImplication N v1 m0)).bind fun b1 =>
  if b1.1 = 0 then (
  some ((-4 : Int32), b1.2)
  ) else (
  (qChk b1.2 v1 0 (fX0_size N v1 b1.2)).bind fun b2 =>
  (qChk b2.2 v0 8 (fX8_load N v0 v1 (0 : Int32) b2.2)).bind fun b3 =>
  (qChk b3 v0 8 (fX8_load N v0 v2 b2.1 b3)).bind fun b4 =>
  (qChk b4 v0 8 (fX8_mergeAll N v0 (1 : Int32) b2.1 b4)).bind fun b5 =>
  (qChk b5 v0 8 (fX8_measure N v0 b5)).bind fun b6 =>
  if b6.1 = 0 then (
  some ((-4 : Int32), b6.2)
  ) else (
  (qgR b6.2 v0 8 0).bind fun x7 =>
  (qaI b6.2 x7 12 (0 : Int32)).bind fun x8 =>
  (qChk b6.2 v0 8 (fX8_writeOut N v0 x8 v3 b6.2)).bind fun b9 =>
  some (b9.1, b9.2)
  )
  )
set_option maxRecDepth 100000 in
theorem bX8_detachInto {E : qE} {N d bc bs : Nat} (hd : 3 ≤ d) {v0 : Nat} {v1 : Nat} {v2 : Nat} {v3 : Nat} {m0 : qM} : qB E yX8_detachInto cX8_detachInto 5 (some .int) (fun _ => True) d bc bs 0 [(0, .ref (E.2.1 + v0)), (1, .ref (E.2.1 + v1)), (2, .ref (E.2.1 + v2)), (3, .ref (E.2.1 + v3))] [] m0 (fX8_detachInto N v0 v1 v2 v3 m0) (fun b rr => rr = (some (.int b.1), b.2)) := by
  unfold fX8_detachInto
  refine j_aload_n (q := 1) (np := 1) rfl rfl dX8_detachInto_0 rfl ?_
  refine j_callVi (ci := 0) (np := 4) (bc := bc) (bs := bs) (cb := 0) (cs := 0) (dd := d - 1) (As := []) (st := []) caX0_isImplication mlX8_39 imX0_isImplication seX0_isImplication rfl rfl (by decide) (fun b hb => wX0_isImplication (by omega) hb) (by omega) rfl rfl (Nat.le_of_ble_eq_true rfl) dX8_detachInto_1 rfl (fun b1 => ?_)
  refine j_if_ne (tgt := 10) (np := 7) dX8_detachInto_4 rfl rfl ?_ ?_
  · refine j_aload_n (q := 1) (np := 11) rfl rfl dX8_detachInto_10 rfl ?_
    refine j_callVi (ci := 0) (np := 14) (bc := bc) (bs := bs) (cb := 0) (cs := 0) (dd := d - 1) (As := []) (st := []) caX0_size mlX8_45 imX0_size seX0_size rfl rfl (by decide) (fun b hb => wX0_size (by omega) hb) (by omega) rfl rfl (Nat.le_of_ble_eq_true rfl) dX8_detachInto_11 rfl (fun b2 => ?_)
    refine j_istore (np := 16) (lv2 := [(4, .int b2.1), (0, .ref (E.2.1 + v0)), (1, .ref (E.2.1 + v1)), (2, .ref (E.2.1 + v2)), (3, .ref (E.2.1 + v3))]) (by decide) dX8_detachInto_14 rfl rfl ?_
    refine j_aload_n (q := 1) (np := 17) rfl rfl dX8_detachInto_16 rfl ?_
    refine j_aload_n (q := 2) (np := 18) rfl rfl dX8_detachInto_17 rfl ?_
    refine j_iconst (np := 19) ci_0 dX8_detachInto_18 rfl ?_
    refine j_callVv (ci := 8) (np := 22) (bc := bc) (bs := bs) (cb := 0) (cs := 0) (dd := d - 1) (As := [.ref (E.2.1 + v1), .int (0 : Int32)]) (st := []) caX8_load mlX8_49 imX8_load seX8_load rfl rfl (by decide) (fun b hb => wX8_load (by omega) hb) (by omega) rfl rfl (Nat.le_of_ble_eq_true rfl) dX8_detachInto_19 rfl (fun b3 => ?_)
    refine j_aload_n (q := 1) (np := 23) rfl rfl dX8_detachInto_22 rfl ?_
    refine j_aload_n (q := 3) (np := 24) rfl rfl dX8_detachInto_23 rfl ?_
    refine j_iload (q := 0) (np := 26) rfl dX8_detachInto_24 rfl ?_
    refine j_callVv (ci := 8) (np := 29) (bc := bc) (bs := bs) (cb := 0) (cs := 0) (dd := d - 1) (As := [.ref (E.2.1 + v2), .int b2.1]) (st := []) caX8_load mlX8_49 imX8_load seX8_load rfl rfl (by decide) (fun b hb => wX8_load (by omega) hb) (by omega) rfl rfl (Nat.le_of_ble_eq_true rfl) dX8_detachInto_26 rfl (fun b4 => ?_)
    refine j_aload_n (q := 1) (np := 30) rfl rfl dX8_detachInto_29 rfl ?_
    refine j_iconst (np := 31) ci_1 dX8_detachInto_30 rfl ?_
    refine j_iload (q := 0) (np := 33) rfl dX8_detachInto_31 rfl ?_
    refine j_callVv (ci := 8) (np := 36) (bc := bc) (bs := bs) (cb := 0) (cs := 0) (dd := d - 1) (As := [.int (1 : Int32), .int b2.1]) (st := []) caX8_mergeAll mlX8_53 imX8_mergeAll seX8_mergeAll rfl rfl (by decide) (fun b hb => wX8_mergeAll (by omega) hb) (by omega) rfl rfl (Nat.le_of_ble_eq_true rfl) dX8_detachInto_33 rfl (fun b5 => ?_)
    refine j_aload_n (q := 1) (np := 37) rfl rfl dX8_detachInto_36 rfl ?_
    refine j_callVi (ci := 8) (np := 40) (bc := bc) (bs := bs) (cb := 0) (cs := 0) (dd := d - 1) (As := []) (st := []) caX8_measure mlX8_57 imX8_measure seX8_measure rfl rfl (by decide) (fun b hb => wX8_measure (by omega) hb) (by omega) rfl rfl (Nat.le_of_ble_eq_true rfl) dX8_detachInto_37 rfl (fun b6 => ?_)
    refine j_if_eq (tgt := 57) (np := 43) dX8_detachInto_40 rfl rfl ?_ ?_
    · refine j_bipush (np := 59) cb_m4 dX8_detachInto_57 rfl ?_
      exact j_iret rfl dX8_detachInto_59 (fun rr h => h)
    · refine j_aload_n (q := 1) (np := 44) rfl rfl dX8_detachInto_43 rfl ?_
      refine j_aload_n (q := 1) (np := 45) rfl rfl dX8_detachInto_44 rfl ?_
      refine j_gR (np := 48) flX8_11 dX8_detachInto_45 rfl (fun x7 => ?_)
      refine j_iconst (np := 49) ci_0 dX8_detachInto_48 rfl ?_
      refine j_iaload (np := 50) dX8_detachInto_49 rfl (fun x8 => ?_)
      refine j_aload_n (q := 4) (np := 51) rfl rfl dX8_detachInto_50 rfl ?_
      refine j_callVi (ci := 8) (np := 54) (bc := bc) (bs := bs) (cb := 0) (cs := 0) (dd := d - 1) (As := [.int x8, .ref (E.2.1 + v3)]) (st := []) caX8_writeOut mlX8_60 imX8_writeOut seX8_writeOut rfl rfl (by decide) (fun b hb => wX8_writeOut (by omega) hb) (by omega) rfl rfl (Nat.le_of_ble_eq_true rfl) dX8_detachInto_51 rfl (fun b9 => ?_)
      refine j_goto (tgt := 59) dX8_detachInto_54 rfl ?_
      exact j_iret rfl dX8_detachInto_59 (fun rr h => h)
  · refine j_bipush (np := 9) cb_m4 dX8_detachInto_7 rfl ?_
    exact j_iret rfl dX8_detachInto_9 (fun rr h => h)
set_option maxRecDepth 100000 in
theorem wX8_detachInto {E : qE} {N d : Nat} (hd : 3 ≤ d) {v0 : Nat} {v1 : Nat} {v2 : Nat} {v3 : Nat} {m0 : qM} {b : Int32 × qM} (h : fX8_detachInto N v0 v1 v2 v3 m0 = some b) : qRun E yX8_detachInto cX8_detachInto 5 (some .int) d 0 0 [.ref (E.2.1 + v0), .ref (E.2.1 + v1), .ref (E.2.1 + v2), .ref (E.2.1 + v3)] m0 (some (.int b.1), b.2) := q_met pnX8 (Nat.le_of_ble_eq_true rfl) (bX8_detachInto hd b _ h rfl)
theorem dX2_combine_0 : decode cX2_combine 0 = .ok (.aload_n 0, 1) := by decide +kernel
theorem dX2_combine_1 : decode cX2_combine 1 = .ok (.getfield 22, 3) := by decide +kernel
theorem dX2_combine_4 : decode cX2_combine 4 = .ok (.iload_n 1, 1) := by decide +kernel
theorem dX2_combine_5 : decode cX2_combine 5 = .ok (.iaload, 1) := by decide +kernel
theorem dX2_combine_6 : decode cX2_combine 6 = .ok (.istore_n 3, 1) := by decide +kernel
theorem dX2_combine_7 : decode cX2_combine 7 = .ok (.iload_n 3, 1) := by decide +kernel
theorem dX2_combine_8 : decode cX2_combine 8 = .ok (.aload_n 0, 1) := by decide +kernel
theorem dX2_combine_9 : decode cX2_combine 9 = .ok (.getfield 22, 3) := by decide +kernel
theorem dX2_combine_12 : decode cX2_combine 12 = .ok (.iload_n 1, 1) := by decide +kernel
theorem dX2_combine_13 : decode cX2_combine 13 = .ok (.iconst 1, 1) := by decide +kernel
theorem dX2_combine_14 : decode cX2_combine 14 = .ok (.iadd, 1) := by decide +kernel
theorem dX2_combine_15 : decode cX2_combine 15 = .ok (.iaload, 1) := by decide +kernel
theorem dX2_combine_16 : decode cX2_combine 16 = .ok (.if_icmp .ge 91, 3) := by decide +kernel
theorem dX2_combine_19 : decode cX2_combine 19 = .ok (.aload_n 0, 1) := by decide +kernel
theorem dX2_combine_20 : decode cX2_combine 20 = .ok (.getfield 22, 3) := by decide +kernel
theorem dX2_combine_23 : decode cX2_combine 23 = .ok (.iload_n 2, 1) := by decide +kernel
theorem dX2_combine_24 : decode cX2_combine 24 = .ok (.iaload, 1) := by decide +kernel
theorem dX2_combine_25 : decode cX2_combine 25 = .ok (.istore 4, 2) := by decide +kernel
theorem dX2_combine_27 : decode cX2_combine 27 = .ok (.iload 4, 2) := by decide +kernel
theorem dX2_combine_29 : decode cX2_combine 29 = .ok (.aload_n 0, 1) := by decide +kernel
theorem dX2_combine_30 : decode cX2_combine 30 = .ok (.getfield 22, 3) := by decide +kernel
theorem dX2_combine_33 : decode cX2_combine 33 = .ok (.iload_n 2, 1) := by decide +kernel
theorem dX2_combine_34 : decode cX2_combine 34 = .ok (.iconst 1, 1) := by decide +kernel
theorem dX2_combine_35 : decode cX2_combine 35 = .ok (.iadd, 1) := by decide +kernel
theorem dX2_combine_36 : decode cX2_combine 36 = .ok (.iaload, 1) := by decide +kernel
theorem dX2_combine_37 : decode cX2_combine 37 = .ok (.if_icmp .ge 64, 3) := by decide +kernel
theorem dX2_combine_40 : decode cX2_combine 40 = .ok (.aload_n 0, 1) := by decide +kernel
theorem dX2_combine_41 : decode cX2_combine 41 = .ok (.getfield 26, 3) := by decide +kernel
theorem dX2_combine_44 : decode cX2_combine 44 = .ok (.aload_n 0, 1) := by decide +kernel
theorem dX2_combine_45 : decode cX2_combine 45 = .ok (.getfield 18, 3) := by decide +kernel
theorem dX2_combine_48 : decode cX2_combine 48 = .ok (.iload_n 3, 1) := by decide +kernel
theorem dX2_combine_49 : decode cX2_combine 49 = .ok (.aaload, 1) := by decide +kernel
theorem dX2_combine_50 : decode cX2_combine 50 = .ok (.aload_n 0, 1) := by decide +kernel
theorem dX2_combine_51 : decode cX2_combine 51 = .ok (.getfield 18, 3) := by decide +kernel
theorem dX2_combine_54 : decode cX2_combine 54 = .ok (.iload 4, 2) := by decide +kernel
theorem dX2_combine_56 : decode cX2_combine 56 = .ok (.aaload, 1) := by decide +kernel
theorem dX2_combine_57 : decode cX2_combine 57 = .ok (.aload_n 0, 1) := by decide +kernel
theorem dX2_combine_58 : decode cX2_combine 58 = .ok (.getfield 12, 3) := by decide +kernel
theorem dX2_combine_61 : decode cX2_combine 61 = .ok (.invokevirtual 70, 3) := by decide +kernel
theorem dX2_combine_64 : decode cX2_combine 64 = .ok (.istore 5, 2) := by decide +kernel
theorem dX2_combine_66 : decode cX2_combine 66 = .ok (.iload 5, 2) := by decide +kernel
theorem dX2_combine_68 : decode cX2_combine 68 = .ok (.ifCond .ne 27, 3) := by decide +kernel
theorem dX2_combine_71 : decode cX2_combine 71 = .ok (.aload_n 0, 1) := by decide +kernel
theorem dX2_combine_72 : decode cX2_combine 72 = .ok (.aload_n 0, 1) := by decide +kernel
theorem dX2_combine_73 : decode cX2_combine 73 = .ok (.getfield 12, 3) := by decide +kernel
theorem dX2_combine_76 : decode cX2_combine 76 = .ok (.invokevirtual 76, 3) := by decide +kernel
theorem dX2_combine_79 : decode cX2_combine 79 = .ok (.ifCond .ne 16, 3) := by decide +kernel
theorem dX2_combine_82 : decode cX2_combine 82 = .ok (.aload_n 0, 1) := by decide +kernel
theorem dX2_combine_83 : decode cX2_combine 83 = .ok (.aload_n 0, 1) := by decide +kernel
theorem dX2_combine_84 : decode cX2_combine 84 = .ok (.getfield 12, 3) := by decide +kernel
theorem dX2_combine_87 : decode cX2_combine 87 = .ok (.invokevirtual 62, 3) := by decide +kernel
theorem dX2_combine_90 : decode cX2_combine 90 = .ok (.ifCond .ne 5, 3) := by decide +kernel
theorem dX2_combine_93 : decode cX2_combine 93 = .ok (.iconst 0, 1) := by decide +kernel
theorem dX2_combine_94 : decode cX2_combine 94 = .ok (.ireturn, 1) := by decide +kernel
theorem dX2_combine_95 : decode cX2_combine 95 = .ok (.iinc 4 1, 3) := by decide +kernel
theorem dX2_combine_98 : decode cX2_combine 98 = .ok (.goto (-71), 3) := by decide +kernel
theorem dX2_combine_101 : decode cX2_combine 101 = .ok (.iinc 3 1, 3) := by decide +kernel
theorem dX2_combine_104 : decode cX2_combine 104 = .ok (.goto (-97), 3) := by decide +kernel
theorem dX2_combine_107 : decode cX2_combine 107 = .ok (.iconst 1, 1) := by decide +kernel
theorem dX2_combine_108 : decode cX2_combine 108 = .ok (.ireturn, 1) := by decide +kernel
def kX2_combine_95 (N : Nat) (rec : Int32 → qM → Option ((qM) ⊕ (Int32 × qM))) (v0 : Nat) (v1 : Int32) (v2 : Int32) (v3 : Int32) (v4 : Int32)  (m0 : qM) : Option ((qM) ⊕ (Int32 × qM)) :=
  rec (v4 + (1 : Int32)) m0
set_option maxRecDepth 100000 in
theorem kbX2_combine_95 {E : qE} {N d bc bs : Nat} (hd : 4 ≤ d) {v0 : Nat} {v1 : Int32} {v2 : Int32} {v3 : Int32} {v4 : Int32}  {m0 : qM} {rec : Int32 → qM → Option ((qM) ⊕ (Int32 × qM))} (hrec : ∀ (v4 : Int32) (m : qM), qB E yX2_combine cX2_combine 6 (some .boolean) (fun _ => True) d bc bs 27 [(0, .ref (E.2.1 + v0)), (1, .int v1), (2, .int v2), (3, .int v3), (4, .int v4)] [] m (rec v4 m) (qGL (fun o rr => qJ E yX2_combine cX2_combine 6 (some .boolean) (fun _ => True) d bc bs 101 [(0, .ref (E.2.1 + v0)), (1, .int v1), (2, .int v2), (3, .int v3)] [] o rr) (fun r => (some (.int r.1), r.2)))) : qB E yX2_combine cX2_combine 6 (some .boolean) (fun _ => True) d bc bs 95 [(0, .ref (E.2.1 + v0)), (1, .int v1), (2, .int v2), (3, .int v3), (4, .int v4)] [] m0 (kX2_combine_95 N rec v0 v1 v2 v3 v4 m0) (qGL (fun o rr => qJ E yX2_combine cX2_combine 6 (some .boolean) (fun _ => True) d bc bs 101 [(0, .ref (E.2.1 + v0)), (1, .int v1), (2, .int v2), (3, .int v3)] [] o rr) (fun r => (some (.int r.1), r.2))) := by
  unfold kX2_combine_95
  refine j_iinc (q := 4) (np := 98) (lv2 := [(4, .int (v4 + (1 : Int32))), (0, .ref (E.2.1 + v0)), (1, .int v1), (2, .int v2), (3, .int v3)]) rfl (congrArg _ ci_1) (by decide) dX2_combine_95 rfl rfl ?_
  refine j_goto (tgt := 27) dX2_combine_98 rfl ?_
  refine j_sub (lv2 := [(0, .ref (E.2.1 + v0)), (1, .int v1), (2, .int v2), (3, .int v3), (4, .int (v4 + (1 : Int32)))]) [1, 2, 3, 4, 0] rfl ?_
  exact hrec _ _
def lX2_combine_27 (N : Nat) (v0 : Nat) (v1 : Int32) (v2 : Int32) (v3 : Int32) : Nat → Int32 → qM → Option ((qM) ⊕ (Int32 × qM))
  | 0, _, _ => none
  | n + 1, v4, m0 =>
    (qgR m0 v0 2 4).bind fun x1 =>
    (qaI m0 x1 12 (v2 + (1 : Int32))).bind fun x2 =>
    if x2 ≤ v4 then (
    some (.inl m0)
    ) else (
    (qgR m0 v0 2 0).bind fun x3 =>
    (qgR m0 v0 2 3).bind fun x4 =>
    (qaR m0 x4 15 v3).bind fun x5 =>
    (qgR m0 v0 2 3).bind fun x6 =>
    (qaR m0 x6 15 v4).bind fun x7 =>
    (qgR m0 v0 2 2).bind fun x8 =>
    (qChk m0 x3 8 (fX8_detachInto N x3 x5 x7 x8 m0)).bind fun b9 =>
    if b9.1 = 0 then (
    (qgR b9.2 v0 2 2).bind fun x10 =>
    (qChk b9.2 v0 2 (fX2_isKnown N v0 x10 b9.2)).bind fun b11 =>
    if b11.1 = 0 then (
    (qgR b11.2 v0 2 2).bind fun x12 =>
    (qChk b11.2 v0 2 (fX2_addNew N v0 x12 b11.2)).bind fun b13 =>
    if b13.1 = 0 then (
    some (.inr ((0 : Int32), b13.2))
    ) else (
    kX2_combine_95 N (lX2_combine_27 N v0 v1 v2 v3 n) v0 v1 v2 v3 v4 b13.2
    )
    ) else (
    kX2_combine_95 N (lX2_combine_27 N v0 v1 v2 v3 n) v0 v1 v2 v3 v4 b11.2
    )
    ) else (
    kX2_combine_95 N (lX2_combine_27 N v0 v1 v2 v3 n) v0 v1 v2 v3 v4 b9.2
    )
    )
set_option maxRecDepth 100000 in
theorem lbX2_combine_27 {E : qE} {N d bc bs : Nat} (hd : 4 ≤ d) {v0 : Nat} {v1 : Int32} {v2 : Int32} {v3 : Int32} : ∀ (n : Nat) (v4 : Int32) (m0 : qM), qB E yX2_combine cX2_combine 6 (some .boolean) (fun _ => True) d bc bs 27 [(0, .ref (E.2.1 + v0)), (1, .int v1), (2, .int v2), (3, .int v3), (4, .int v4)] [] m0 (lX2_combine_27 N v0 v1 v2 v3 n v4 m0) (qGL (fun o rr => qJ E yX2_combine cX2_combine 6 (some .boolean) (fun _ => True) d bc bs 101 [(0, .ref (E.2.1 + v0)), (1, .int v1), (2, .int v2), (3, .int v3)] [] o rr) (fun r => (some (.int r.1), r.2))) := by
  intro n
  induction n with
  | zero =>
    intro v4 m0
    exact j_none
  | succ n ih =>
    intro v4 m0
    unfold lX2_combine_27
    refine j_iload (q := 4) (np := 29) rfl dX2_combine_27 rfl ?_
    refine j_aload_n (q := 0) (np := 30) rfl rfl dX2_combine_29 rfl ?_
    refine j_gR (np := 33) flX2_22 dX2_combine_30 rfl (fun x1 => ?_)
    refine j_iload_n (q := 2) (np := 34) rfl rfl dX2_combine_33 rfl ?_
    refine j_iconst (np := 35) ci_1 dX2_combine_34 rfl ?_
    refine j_iadd (np := 36) dX2_combine_35 rfl ?_
    refine j_iaload (np := 37) dX2_combine_36 rfl (fun x2 => ?_)
    refine j_icmp_ge (tgt := 101) (np := 40) dX2_combine_37 rfl rfl ?_ ?_
    · refine j_sub (lv2 := [(0, .ref (E.2.1 + v0)), (1, .int v1), (2, .int v2), (3, .int v3)]) [0, 1, 2, 3] rfl ?_
      exact j_exit (fun rr h => h)
    · refine j_aload_n (q := 0) (np := 41) rfl rfl dX2_combine_40 rfl ?_
      refine j_gR (np := 44) flX2_26 dX2_combine_41 rfl (fun x3 => ?_)
      refine j_aload_n (q := 0) (np := 45) rfl rfl dX2_combine_44 rfl ?_
      refine j_gR (np := 48) flX2_18 dX2_combine_45 rfl (fun x4 => ?_)
      refine j_iload_n (q := 3) (np := 49) rfl rfl dX2_combine_48 rfl ?_
      refine j_aaload (np := 50) (c0 := 15) (t := 4) (C := "CondensedDetachment$Formula") (Or.inl rfl) (fun _ => rfl) dX2_combine_49 rfl (fun x5 => ?_)
      refine j_aload_n (q := 0) (np := 51) rfl rfl dX2_combine_50 rfl ?_
      refine j_gR (np := 54) flX2_18 dX2_combine_51 rfl (fun x6 => ?_)
      refine j_iload (q := 4) (np := 56) rfl dX2_combine_54 rfl ?_
      refine j_aaload (np := 57) (c0 := 15) (t := 4) (C := "CondensedDetachment$Formula") (Or.inl rfl) (fun _ => rfl) dX2_combine_56 rfl (fun x7 => ?_)
      refine j_aload_n (q := 0) (np := 58) rfl rfl dX2_combine_57 rfl ?_
      refine j_gR (np := 61) flX2_12 dX2_combine_58 rfl (fun x8 => ?_)
      refine j_callVi (ci := 8) (np := 64) (bc := bc) (bs := bs) (cb := 0) (cs := 0) (dd := d - 1) (As := [.ref (E.2.1 + x5), .ref (E.2.1 + x7), .ref (E.2.1 + x8)]) (st := []) caX8_detachInto mlX2_70 imX8_detachInto seX8_detachInto rfl rfl (by decide) (fun b hb => wX8_detachInto (by omega) hb) (by omega) rfl rfl (Nat.le_of_ble_eq_true rfl) dX2_combine_61 rfl (fun b9 => ?_)
      refine j_istore (np := 66) (lv2 := [(5, .int b9.1), (0, .ref (E.2.1 + v0)), (1, .int v1), (2, .int v2), (3, .int v3), (4, .int v4)]) (by decide) dX2_combine_64 rfl rfl ?_
      refine j_iload (q := 0) (np := 68) rfl dX2_combine_66 rfl ?_
      refine j_if_ne (tgt := 95) (np := 71) dX2_combine_68 rfl rfl ?_ ?_
      · refine j_sub (lv2 := [(0, .ref (E.2.1 + v0)), (1, .int v1), (2, .int v2), (3, .int v3), (4, .int v4)]) [1, 2, 3, 4, 5] rfl ?_
        exact kbX2_combine_95 hd ih
      · refine j_aload_n (q := 1) (np := 72) rfl rfl dX2_combine_71 rfl ?_
        refine j_aload_n (q := 1) (np := 73) rfl rfl dX2_combine_72 rfl ?_
        refine j_gR (np := 76) flX2_12 dX2_combine_73 rfl (fun x10 => ?_)
        refine j_callVi (ci := 2) (np := 79) (bc := bc) (bs := bs) (cb := 0) (cs := 0) (dd := d - 1) (As := [.ref (E.2.1 + x10)]) (st := []) caX2_isKnown mlX2_76 imX2_isKnown seX2_isKnown rfl rfl (by decide) (fun b hb => wX2_isKnown (by omega) hb) (by omega) rfl rfl (Nat.le_of_ble_eq_true rfl) dX2_combine_76 rfl (fun b11 => ?_)
        refine j_if_ne (tgt := 95) (np := 82) dX2_combine_79 rfl rfl ?_ ?_
        · refine j_sub (lv2 := [(0, .ref (E.2.1 + v0)), (1, .int v1), (2, .int v2), (3, .int v3), (4, .int v4)]) [1, 2, 3, 4, 5] rfl ?_
          exact kbX2_combine_95 hd ih
        · refine j_aload_n (q := 1) (np := 83) rfl rfl dX2_combine_82 rfl ?_
          refine j_aload_n (q := 1) (np := 84) rfl rfl dX2_combine_83 rfl ?_
          refine j_gR (np := 87) flX2_12 dX2_combine_84 rfl (fun x12 => ?_)
          refine j_callVi (ci := 2) (np := 90) (bc := bc) (bs := bs) (cb := 0) (cs := 0) (dd := d - 1) (As := [.ref (E.2.1 + x12)]) (st := []) caX2_addNew mlX2_62 imX2_addNew seX2_addNew rfl rfl (by decide) (fun b hb => wX2_addNew (by omega) hb) (by omega) rfl rfl (Nat.le_of_ble_eq_true rfl) dX2_combine_87 rfl (fun b13 => ?_)
          refine j_if_ne (tgt := 95) (np := 93) dX2_combine_90 rfl rfl ?_ ?_
          · refine j_sub (lv2 := [(0, .ref (E.2.1 + v0)), (1, .int v1), (2, .int v2), (3, .int v3), (4, .int v4)]) [1, 2, 3, 4, 5] rfl ?_
            exact kbX2_combine_95 hd ih
          · refine j_iconst (np := 94) ci_0 dX2_combine_93 rfl ?_
            exact j_zret rfl dX2_combine_94 (fun rr h => by rw [z0]; exact h)
def lX2_combine_7 (N : Nat) (v0 : Nat) (v1 : Int32) (v2 : Int32) : Nat → Int32 → qM → Option ((qM) ⊕ (Int32 × qM))
  | 0, _, _ => none
  | n + 1, v3, m0 =>
    (qgR m0 v0 2 4).bind fun x1 =>
    (qaI m0 x1 12 (v1 + (1 : Int32))).bind fun x2 =>
    if x2 ≤ v3 then (
    some (.inl m0)
    ) else (
    (qgR m0 v0 2 4).bind fun x3 =>
    (qaI m0 x3 12 v2).bind fun x4 =>
    qTh (lX2_combine_27 N v0 v1 v2 v3 N x4 m0) (fun o5 =>
    lX2_combine_7 N v0 v1 v2 n (v3 + (1 : Int32)) o5
    ) (fun r => .inr r)
    )
set_option maxRecDepth 100000 in
theorem lbX2_combine_7 {E : qE} {N d bc bs : Nat} (hd : 4 ≤ d) {v0 : Nat} {v1 : Int32} {v2 : Int32} : ∀ (n : Nat) (v3 : Int32) (m0 : qM), qB E yX2_combine cX2_combine 6 (some .boolean) (fun _ => True) d bc bs 7 [(0, .ref (E.2.1 + v0)), (1, .int v1), (2, .int v2), (3, .int v3)] [] m0 (lX2_combine_7 N v0 v1 v2 n v3 m0) (qGL (fun o rr => qJ E yX2_combine cX2_combine 6 (some .boolean) (fun _ => True) d bc bs 107 [] [] o rr) (fun r => (some (.int r.1), r.2))) := by
  intro n
  induction n with
  | zero =>
    intro v3 m0
    exact j_none
  | succ n ih =>
    intro v3 m0
    unfold lX2_combine_7
    refine j_iload_n (q := 3) (np := 8) rfl rfl dX2_combine_7 rfl ?_
    refine j_aload_n (q := 0) (np := 9) rfl rfl dX2_combine_8 rfl ?_
    refine j_gR (np := 12) flX2_22 dX2_combine_9 rfl (fun x1 => ?_)
    refine j_iload_n (q := 1) (np := 13) rfl rfl dX2_combine_12 rfl ?_
    refine j_iconst (np := 14) ci_1 dX2_combine_13 rfl ?_
    refine j_iadd (np := 15) dX2_combine_14 rfl ?_
    refine j_iaload (np := 16) dX2_combine_15 rfl (fun x2 => ?_)
    refine j_icmp_ge (tgt := 107) (np := 19) dX2_combine_16 rfl rfl ?_ ?_
    · refine j_sub (lv2 := []) [] rfl ?_
      exact j_exit (fun rr h => h)
    · refine j_aload_n (q := 0) (np := 20) rfl rfl dX2_combine_19 rfl ?_
      refine j_gR (np := 23) flX2_22 dX2_combine_20 rfl (fun x3 => ?_)
      refine j_iload_n (q := 2) (np := 24) rfl rfl dX2_combine_23 rfl ?_
      refine j_iaload (np := 25) dX2_combine_24 rfl (fun x4 => ?_)
      refine j_istore (np := 27) (lv2 := [(4, .int x4), (0, .ref (E.2.1 + v0)), (1, .int v1), (2, .int v2), (3, .int v3)]) (by decide) dX2_combine_25 rfl rfl ?_
      refine j_sub (lv2 := [(0, .ref (E.2.1 + v0)), (1, .int v1), (2, .int v2), (3, .int v3), (4, .int x4)]) [1, 2, 3, 4, 0] rfl ?_
      refine j_loopG (xp := 101) (lvX := fun o5 => [(0, .ref (E.2.1 + v0)), (1, .int v1), (2, .int v2), (3, .int v3)]) (mX := fun o5 => o5) (lbX2_combine_27 hd _ _ _) (fun r rr h => h) (fun o5 => ?_)
      refine j_iinc (q := 3) (np := 104) (lv2 := [(3, .int (v3 + (1 : Int32))), (0, .ref (E.2.1 + v0)), (1, .int v1), (2, .int v2)]) rfl (congrArg _ ci_1) (by decide) dX2_combine_101 rfl rfl ?_
      refine j_goto (tgt := 7) dX2_combine_104 rfl ?_
      refine j_sub (lv2 := [(0, .ref (E.2.1 + v0)), (1, .int v1), (2, .int v2), (3, .int (v3 + (1 : Int32)))]) [1, 2, 3, 0] rfl ?_
      exact ih _ _
def fX2_combine (N : Nat) (v0 : Nat) (v1 : Int32) (v2 : Int32) (m0 : qM) : Option (Int32 × qM) :=
  (qgR m0 v0 2 4).bind fun x1 =>
  (qaI m0 x1 12 v1).bind fun x2 =>
  qTh (lX2_combine_7 N v0 v1 v2 N x2 m0) (fun o3 =>
  some ((1 : Int32), o3)
  ) (fun r => r)
set_option maxRecDepth 100000 in
theorem bX2_combine {E : qE} {N d bc bs : Nat} (hd : 4 ≤ d) {v0 : Nat} {v1 : Int32} {v2 : Int32} {m0 : qM} : qB E yX2_combine cX2_combine 6 (some .boolean) (fun _ => True) d bc bs 0 [(0, .ref (E.2.1 + v0)), (1, .int v1), (2, .int v2)] [] m0 (fX2_combine N v0 v1 v2 m0) (fun b rr => rr = (some (.int b.1), b.2)) := by
  unfold fX2_combine
  refine j_aload_n (q := 0) (np := 1) rfl rfl dX2_combine_0 rfl ?_
  refine j_gR (np := 4) flX2_22 dX2_combine_1 rfl (fun x1 => ?_)
  refine j_iload_n (q := 1) (np := 5) rfl rfl dX2_combine_4 rfl ?_
  refine j_iaload (np := 6) dX2_combine_5 rfl (fun x2 => ?_)
  refine j_istore_n (np := 7) (lv2 := [(3, .int x2), (0, .ref (E.2.1 + v0)), (1, .int v1), (2, .int v2)]) rfl (by decide) dX2_combine_6 rfl rfl ?_
  refine j_sub (lv2 := [(0, .ref (E.2.1 + v0)), (1, .int v1), (2, .int v2), (3, .int x2)]) [1, 2, 3, 0] rfl ?_
  refine j_loopG (xp := 107) (lvX := fun o3 => []) (mX := fun o3 => o3) (lbX2_combine_7 hd _ _ _) (fun r rr h => h) (fun o3 => ?_)
  refine j_iconst (np := 108) ci_1 dX2_combine_107 rfl ?_
  exact j_zret rfl dX2_combine_108 (fun rr h => by rw [z1]; exact h)
set_option maxRecDepth 100000 in
theorem wX2_combine {E : qE} {N d : Nat} (hd : 4 ≤ d) {v0 : Nat} {v1 : Int32} {v2 : Int32} {m0 : qM} {b : Int32 × qM} (h : fX2_combine N v0 v1 v2 m0 = some b) : qRun E yX2_combine cX2_combine 6 (some .boolean) d 0 0 [.ref (E.2.1 + v0), .int v1, .int v2] m0 (some (.int b.1), b.2) := q_met pnX2 (Nat.le_of_ble_eq_true rfl) (bX2_combine hd b _ h rfl)
theorem dX2_addLevel_0 : decode cX2_addLevel 0 = .ok (.iconst 0, 1) := by decide +kernel
theorem dX2_addLevel_1 : decode cX2_addLevel 1 = .ok (.istore_n 2, 1) := by decide +kernel
theorem dX2_addLevel_2 : decode cX2_addLevel 2 = .ok (.iload_n 2, 1) := by decide +kernel
theorem dX2_addLevel_3 : decode cX2_addLevel 3 = .ok (.iload_n 1, 1) := by decide +kernel
theorem dX2_addLevel_4 : decode cX2_addLevel 4 = .ok (.if_icmp .ge 24, 3) := by decide +kernel
theorem dX2_addLevel_7 : decode cX2_addLevel 7 = .ok (.aload_n 0, 1) := by decide +kernel
theorem dX2_addLevel_8 : decode cX2_addLevel 8 = .ok (.iload_n 2, 1) := by decide +kernel
theorem dX2_addLevel_9 : decode cX2_addLevel 9 = .ok (.iload_n 1, 1) := by decide +kernel
theorem dX2_addLevel_10 : decode cX2_addLevel 10 = .ok (.iconst 1, 1) := by decide +kernel
theorem dX2_addLevel_11 : decode cX2_addLevel 11 = .ok (.isub, 1) := by decide +kernel
theorem dX2_addLevel_12 : decode cX2_addLevel 12 = .ok (.iload_n 2, 1) := by decide +kernel
theorem dX2_addLevel_13 : decode cX2_addLevel 13 = .ok (.isub, 1) := by decide +kernel
theorem dX2_addLevel_14 : decode cX2_addLevel 14 = .ok (.invokevirtual 66, 3) := by decide +kernel
theorem dX2_addLevel_17 : decode cX2_addLevel 17 = .ok (.ifCond .ne 5, 3) := by decide +kernel
theorem dX2_addLevel_20 : decode cX2_addLevel 20 = .ok (.iconst 0, 1) := by decide +kernel
theorem dX2_addLevel_21 : decode cX2_addLevel 21 = .ok (.ireturn, 1) := by decide +kernel
theorem dX2_addLevel_22 : decode cX2_addLevel 22 = .ok (.iinc 2 1, 3) := by decide +kernel
theorem dX2_addLevel_25 : decode cX2_addLevel 25 = .ok (.goto (-23), 3) := by decide +kernel
theorem dX2_addLevel_28 : decode cX2_addLevel 28 = .ok (.iconst 1, 1) := by decide +kernel
theorem dX2_addLevel_29 : decode cX2_addLevel 29 = .ok (.ireturn, 1) := by decide +kernel
def lX2_addLevel_2 (N : Nat) (v0 : Nat) (v1 : Int32) : Nat → Int32 → qM → Option ((qM) ⊕ (Int32 × qM))
  | 0, _, _ => none
  | n + 1, v2, m0 =>
    if v1 ≤ v2 then (
    some (.inl m0)
    ) else (
    (qChk m0 v0 2 (fX2_combine N v0 v2 ((v1 - (1 : Int32)) - v2) m0)).bind fun b1 =>
    if b1.1 = 0 then (
    some (.inr ((0 : Int32), b1.2))
    ) else (
    lX2_addLevel_2 N v0 v1 n (v2 + (1 : Int32)) b1.2
    )
    )
set_option maxRecDepth 100000 in
theorem lbX2_addLevel_2 {E : qE} {N d bc bs : Nat} (hd : 5 ≤ d) {v0 : Nat} {v1 : Int32} : ∀ (n : Nat) (v2 : Int32) (m0 : qM), qB E yX2_addLevel cX2_addLevel 3 (some .boolean) (fun _ => True) d bc bs 2 [(0, .ref (E.2.1 + v0)), (1, .int v1), (2, .int v2)] [] m0 (lX2_addLevel_2 N v0 v1 n v2 m0) (qGL (fun o rr => qJ E yX2_addLevel cX2_addLevel 3 (some .boolean) (fun _ => True) d bc bs 28 [] [] o rr) (fun r => (some (.int r.1), r.2))) := by
  intro n
  induction n with
  | zero =>
    intro v2 m0
    exact j_none
  | succ n ih =>
    intro v2 m0
    unfold lX2_addLevel_2
    refine j_iload_n (q := 2) (np := 3) rfl rfl dX2_addLevel_2 rfl ?_
    refine j_iload_n (q := 1) (np := 4) rfl rfl dX2_addLevel_3 rfl ?_
    refine j_icmp_ge (tgt := 28) (np := 7) dX2_addLevel_4 rfl rfl ?_ ?_
    · refine j_sub (lv2 := []) [] rfl ?_
      exact j_exit (fun rr h => h)
    · refine j_aload_n (q := 0) (np := 8) rfl rfl dX2_addLevel_7 rfl ?_
      refine j_iload_n (q := 2) (np := 9) rfl rfl dX2_addLevel_8 rfl ?_
      refine j_iload_n (q := 1) (np := 10) rfl rfl dX2_addLevel_9 rfl ?_
      refine j_iconst (np := 11) ci_1 dX2_addLevel_10 rfl ?_
      refine j_isub (np := 12) dX2_addLevel_11 rfl ?_
      refine j_iload_n (q := 2) (np := 13) rfl rfl dX2_addLevel_12 rfl ?_
      refine j_isub (np := 14) dX2_addLevel_13 rfl ?_
      refine j_callVi (ci := 2) (np := 17) (bc := bc) (bs := bs) (cb := 0) (cs := 0) (dd := d - 1) (As := [.int v2, .int ((v1 - (1 : Int32)) - v2)]) (st := []) caX2_combine mlX2_66 imX2_combine seX2_combine rfl rfl (by decide) (fun b hb => wX2_combine (by omega) hb) (by omega) rfl rfl (Nat.le_of_ble_eq_true rfl) dX2_addLevel_14 rfl (fun b1 => ?_)
      refine j_if_ne (tgt := 22) (np := 20) dX2_addLevel_17 rfl rfl ?_ ?_
      · refine j_iinc (q := 2) (np := 25) (lv2 := [(2, .int (v2 + (1 : Int32))), (0, .ref (E.2.1 + v0)), (1, .int v1)]) rfl (congrArg _ ci_1) (by decide) dX2_addLevel_22 rfl rfl ?_
        refine j_goto (tgt := 2) dX2_addLevel_25 rfl ?_
        refine j_sub (lv2 := [(0, .ref (E.2.1 + v0)), (1, .int v1), (2, .int (v2 + (1 : Int32)))]) [1, 2, 0] rfl ?_
        exact ih _ _
      · refine j_iconst (np := 21) ci_0 dX2_addLevel_20 rfl ?_
        exact j_zret rfl dX2_addLevel_21 (fun rr h => by rw [z0]; exact h)
def fX2_addLevel (N : Nat) (v0 : Nat) (v1 : Int32) (m0 : qM) : Option (Int32 × qM) :=
  qTh (lX2_addLevel_2 N v0 v1 N (0 : Int32) m0) (fun o1 =>
  some ((1 : Int32), o1)
  ) (fun r => r)
set_option maxRecDepth 100000 in
theorem bX2_addLevel {E : qE} {N d bc bs : Nat} (hd : 5 ≤ d) {v0 : Nat} {v1 : Int32} {m0 : qM} : qB E yX2_addLevel cX2_addLevel 3 (some .boolean) (fun _ => True) d bc bs 0 [(0, .ref (E.2.1 + v0)), (1, .int v1)] [] m0 (fX2_addLevel N v0 v1 m0) (fun b rr => rr = (some (.int b.1), b.2)) := by
  unfold fX2_addLevel
  refine j_iconst (np := 1) ci_0 dX2_addLevel_0 rfl ?_
  refine j_istore_n (np := 2) (lv2 := [(2, .int (0 : Int32)), (0, .ref (E.2.1 + v0)), (1, .int v1)]) rfl (by decide) dX2_addLevel_1 rfl rfl ?_
  refine j_sub (lv2 := [(0, .ref (E.2.1 + v0)), (1, .int v1), (2, .int (0 : Int32))]) [1, 2, 0] rfl ?_
  refine j_loopG (xp := 28) (lvX := fun o1 => []) (mX := fun o1 => o1) (lbX2_addLevel_2 hd _ _ _) (fun r rr h => h) (fun o1 => ?_)
  refine j_iconst (np := 29) ci_1 dX2_addLevel_28 rfl ?_
  exact j_zret rfl dX2_addLevel_29 (fun rr h => by rw [z1]; exact h)
set_option maxRecDepth 100000 in
theorem wX2_addLevel {E : qE} {N d : Nat} (hd : 5 ≤ d) {v0 : Nat} {v1 : Int32} {m0 : qM} {b : Int32 × qM} (h : fX2_addLevel N v0 v1 m0 = some b) : qRun E yX2_addLevel cX2_addLevel 3 (some .boolean) d 0 0 [.ref (E.2.1 + v0), .int v1] m0 (some (.int b.1), b.2) := q_met pnX2 (Nat.le_of_ble_eq_true rfl) (bX2_addLevel hd b _ h rfl)
theorem dX2_covers_0 : decode cX2_covers 0 = .ok (.aload_n 0, 1) := by decide +kernel
theorem dX2_covers_1 : decode cX2_covers 1 = .ok (.getfield 22, 3) := by decide +kernel
theorem dX2_covers_4 : decode cX2_covers 4 = .ok (.iload_n 2, 1) := by decide +kernel
theorem dX2_covers_5 : decode cX2_covers 5 = .ok (.iaload, 1) := by decide +kernel
theorem dX2_covers_6 : decode cX2_covers 6 = .ok (.istore_n 3, 1) := by decide +kernel
theorem dX2_covers_7 : decode cX2_covers 7 = .ok (.iload_n 3, 1) := by decide +kernel
theorem dX2_covers_8 : decode cX2_covers 8 = .ok (.aload_n 0, 1) := by decide +kernel
theorem dX2_covers_9 : decode cX2_covers 9 = .ok (.getfield 22, 3) := by decide +kernel
theorem dX2_covers_12 : decode cX2_covers 12 = .ok (.iload_n 2, 1) := by decide +kernel
theorem dX2_covers_13 : decode cX2_covers 13 = .ok (.iconst 1, 1) := by decide +kernel
theorem dX2_covers_14 : decode cX2_covers 14 = .ok (.iadd, 1) := by decide +kernel
theorem dX2_covers_15 : decode cX2_covers 15 = .ok (.iaload, 1) := by decide +kernel
theorem dX2_covers_16 : decode cX2_covers 16 = .ok (.if_icmp .ge 28, 3) := by decide +kernel
theorem dX2_covers_19 : decode cX2_covers 19 = .ok (.aload_n 0, 1) := by decide +kernel
theorem dX2_covers_20 : decode cX2_covers 20 = .ok (.getfield 30, 3) := by decide +kernel
theorem dX2_covers_23 : decode cX2_covers 23 = .ok (.aload_n 1, 1) := by decide +kernel
theorem dX2_covers_24 : decode cX2_covers 24 = .ok (.aload_n 0, 1) := by decide +kernel
theorem dX2_covers_25 : decode cX2_covers 25 = .ok (.getfield 18, 3) := by decide +kernel
theorem dX2_covers_28 : decode cX2_covers 28 = .ok (.iload_n 3, 1) := by decide +kernel
theorem dX2_covers_29 : decode cX2_covers 29 = .ok (.aaload, 1) := by decide +kernel
theorem dX2_covers_30 : decode cX2_covers 30 = .ok (.invokevirtual 86, 3) := by decide +kernel
theorem dX2_covers_33 : decode cX2_covers 33 = .ok (.ifCond .eq 5, 3) := by decide +kernel
theorem dX2_covers_36 : decode cX2_covers 36 = .ok (.iconst 1, 1) := by decide +kernel
theorem dX2_covers_37 : decode cX2_covers 37 = .ok (.ireturn, 1) := by decide +kernel
theorem dX2_covers_38 : decode cX2_covers 38 = .ok (.iinc 3 1, 3) := by decide +kernel
theorem dX2_covers_41 : decode cX2_covers 41 = .ok (.goto (-34), 3) := by decide +kernel
theorem dX2_covers_44 : decode cX2_covers 44 = .ok (.iconst 0, 1) := by decide +kernel
theorem dX2_covers_45 : decode cX2_covers 45 = .ok (.ireturn, 1) := by decide +kernel
def lX2_covers_7 (N : Nat) (v0 : Nat) (v1 : Nat) (v2 : Int32) : Nat → Int32 → qM → Option ((qM) ⊕ (Int32 × qM))
  | 0, _, _ => none
  | n + 1, v3, m0 =>
    (qgR m0 v0 2 4).bind fun x1 =>
    (qaI m0 x1 12 (v2 + (1 : Int32))).bind fun x2 =>
    if x2 ≤ v3 then (
    some (.inl m0)
    ) else (
    (qgR m0 v0 2 1).bind fun x3 =>
    (qgR m0 v0 2 3).bind fun x4 =>
    (qaR m0 x4 15 v3).bind fun x5 =>
    (qChk m0 x3 3 (fX3_matches N x3 v1 x5 m0)).bind fun b6 =>
    if b6.1 = 0 then (
    lX2_covers_7 N v0 v1 v2 n (v3 + (1 : Int32)) b6.2
    ) else (
    some (.inr ((1 : Int32), b6.2))
    )
    )
set_option maxRecDepth 100000 in
theorem lbX2_covers_7 {E : qE} {N d bc bs : Nat} (hd : 2 ≤ d) {v0 : Nat} {v1 : Nat} {v2 : Int32} : ∀ (n : Nat) (v3 : Int32) (m0 : qM), qB E yX2_covers cX2_covers 4 (some .boolean) (fun _ => True) d bc bs 7 [(0, .ref (E.2.1 + v0)), (1, .ref (E.2.1 + v1)), (2, .int v2), (3, .int v3)] [] m0 (lX2_covers_7 N v0 v1 v2 n v3 m0) (qGL (fun o rr => qJ E yX2_covers cX2_covers 4 (some .boolean) (fun _ => True) d bc bs 44 [] [] o rr) (fun r => (some (.int r.1), r.2))) := by
  intro n
  induction n with
  | zero =>
    intro v3 m0
    exact j_none
  | succ n ih =>
    intro v3 m0
    unfold lX2_covers_7
    refine j_iload_n (q := 3) (np := 8) rfl rfl dX2_covers_7 rfl ?_
    refine j_aload_n (q := 0) (np := 9) rfl rfl dX2_covers_8 rfl ?_
    refine j_gR (np := 12) flX2_22 dX2_covers_9 rfl (fun x1 => ?_)
    refine j_iload_n (q := 2) (np := 13) rfl rfl dX2_covers_12 rfl ?_
    refine j_iconst (np := 14) ci_1 dX2_covers_13 rfl ?_
    refine j_iadd (np := 15) dX2_covers_14 rfl ?_
    refine j_iaload (np := 16) dX2_covers_15 rfl (fun x2 => ?_)
    refine j_icmp_ge (tgt := 44) (np := 19) dX2_covers_16 rfl rfl ?_ ?_
    · refine j_sub (lv2 := []) [] rfl ?_
      exact j_exit (fun rr h => h)
    · refine j_aload_n (q := 0) (np := 20) rfl rfl dX2_covers_19 rfl ?_
      refine j_gR (np := 23) flX2_30 dX2_covers_20 rfl (fun x3 => ?_)
      refine j_aload_n (q := 1) (np := 24) rfl rfl dX2_covers_23 rfl ?_
      refine j_aload_n (q := 0) (np := 25) rfl rfl dX2_covers_24 rfl ?_
      refine j_gR (np := 28) flX2_18 dX2_covers_25 rfl (fun x4 => ?_)
      refine j_iload_n (q := 3) (np := 29) rfl rfl dX2_covers_28 rfl ?_
      refine j_aaload (np := 30) (c0 := 15) (t := 4) (C := "CondensedDetachment$Formula") (Or.inl rfl) (fun _ => rfl) dX2_covers_29 rfl (fun x5 => ?_)
      refine j_callVi (ci := 3) (np := 33) (bc := bc) (bs := bs) (cb := 0) (cs := 0) (dd := d - 1) (As := [.ref (E.2.1 + v1), .ref (E.2.1 + x5)]) (st := []) caX3_matches mlX2_86 imX3_matches seX3_matches rfl rfl (by decide) (fun b hb => wX3_matches (by omega) hb) (by omega) rfl rfl (Nat.le_of_ble_eq_true rfl) dX2_covers_30 rfl (fun b6 => ?_)
      refine j_if_eq (tgt := 38) (np := 36) dX2_covers_33 rfl rfl ?_ ?_
      · refine j_iinc (q := 3) (np := 41) (lv2 := [(3, .int (v3 + (1 : Int32))), (0, .ref (E.2.1 + v0)), (1, .ref (E.2.1 + v1)), (2, .int v2)]) rfl (congrArg _ ci_1) (by decide) dX2_covers_38 rfl rfl ?_
        refine j_goto (tgt := 7) dX2_covers_41 rfl ?_
        refine j_sub (lv2 := [(0, .ref (E.2.1 + v0)), (1, .ref (E.2.1 + v1)), (2, .int v2), (3, .int (v3 + (1 : Int32)))]) [1, 2, 3, 0] rfl ?_
        exact ih _ _
      · refine j_iconst (np := 37) ci_1 dX2_covers_36 rfl ?_
        exact j_zret rfl dX2_covers_37 (fun rr h => by rw [z1]; exact h)
def fX2_covers (N : Nat) (v0 : Nat) (v1 : Nat) (v2 : Int32) (m0 : qM) : Option (Int32 × qM) :=
  (qgR m0 v0 2 4).bind fun x1 =>
  (qaI m0 x1 12 v2).bind fun x2 =>
  qTh (lX2_covers_7 N v0 v1 v2 N x2 m0) (fun o3 =>
  some ((0 : Int32), o3)
  ) (fun r => r)
set_option maxRecDepth 100000 in
theorem bX2_covers {E : qE} {N d bc bs : Nat} (hd : 2 ≤ d) {v0 : Nat} {v1 : Nat} {v2 : Int32} {m0 : qM} : qB E yX2_covers cX2_covers 4 (some .boolean) (fun _ => True) d bc bs 0 [(0, .ref (E.2.1 + v0)), (1, .ref (E.2.1 + v1)), (2, .int v2)] [] m0 (fX2_covers N v0 v1 v2 m0) (fun b rr => rr = (some (.int b.1), b.2)) := by
  unfold fX2_covers
  refine j_aload_n (q := 0) (np := 1) rfl rfl dX2_covers_0 rfl ?_
  refine j_gR (np := 4) flX2_22 dX2_covers_1 rfl (fun x1 => ?_)
  refine j_iload_n (q := 2) (np := 5) rfl rfl dX2_covers_4 rfl ?_
  refine j_iaload (np := 6) dX2_covers_5 rfl (fun x2 => ?_)
  refine j_istore_n (np := 7) (lv2 := [(3, .int x2), (0, .ref (E.2.1 + v0)), (1, .ref (E.2.1 + v1)), (2, .int v2)]) rfl (by decide) dX2_covers_6 rfl rfl ?_
  refine j_sub (lv2 := [(0, .ref (E.2.1 + v0)), (1, .ref (E.2.1 + v1)), (2, .int v2), (3, .int x2)]) [1, 2, 3, 0] rfl ?_
  refine j_loopG (xp := 44) (lvX := fun o3 => []) (mX := fun o3 => o3) (lbX2_covers_7 hd _ _ _) (fun r rr h => h) (fun o3 => ?_)
  refine j_iconst (np := 45) ci_0 dX2_covers_44 rfl ?_
  exact j_zret rfl dX2_covers_45 (fun rr h => by rw [z0]; exact h)
set_option maxRecDepth 100000 in
theorem wX2_covers {E : qE} {N d : Nat} (hd : 2 ≤ d) {v0 : Nat} {v1 : Nat} {v2 : Int32} {m0 : qM} {b : Int32 × qM} (h : fX2_covers N v0 v1 v2 m0 = some b) : qRun E yX2_covers cX2_covers 4 (some .boolean) d 0 0 [.ref (E.2.1 + v0), .ref (E.2.1 + v1), .int v2] m0 (some (.int b.1), b.2) := q_met pnX2 (Nat.le_of_ble_eq_true rfl) (bX2_covers hd b _ h rfl)
theorem dX2_search_0 : decode cX2_search 0 = .ok (.aload_n 0, 1) := by decide +kernel
theorem dX2_search_1 : decode cX2_search 1 = .ok (.iconst 0, 1) := by decide +kernel
theorem dX2_search_2 : decode cX2_search 2 = .ok (.putfield 34, 3) := by decide +kernel
theorem dX2_search_5 : decode cX2_search 5 = .ok (.iconst 0, 1) := by decide +kernel
theorem dX2_search_6 : decode cX2_search 6 = .ok (.istore 4, 2) := by decide +kernel
theorem dX2_search_8 : decode cX2_search 8 = .ok (.iload 4, 2) := by decide +kernel
theorem dX2_search_10 : decode cX2_search 10 = .ok (.iload_n 3, 1) := by decide +kernel
theorem dX2_search_11 : decode cX2_search 11 = .ok (.if_icmp .gt 81, 3) := by decide +kernel
theorem dX2_search_14 : decode cX2_search 14 = .ok (.iload 4, 2) := by decide +kernel
theorem dX2_search_16 : decode cX2_search 16 = .ok (.iconst 4, 1) := by decide +kernel
theorem dX2_search_17 : decode cX2_search 17 = .ok (.if_icmp .gt 75, 3) := by decide +kernel
theorem dX2_search_20 : decode cX2_search 20 = .ok (.aload_n 0, 1) := by decide +kernel
theorem dX2_search_21 : decode cX2_search 21 = .ok (.getfield 22, 3) := by decide +kernel
theorem dX2_search_24 : decode cX2_search 24 = .ok (.iload 4, 2) := by decide +kernel
theorem dX2_search_26 : decode cX2_search 26 = .ok (.aload_n 0, 1) := by decide +kernel
theorem dX2_search_27 : decode cX2_search 27 = .ok (.getfield 34, 3) := by decide +kernel
theorem dX2_search_30 : decode cX2_search 30 = .ok (.iastore, 1) := by decide +kernel
theorem dX2_search_31 : decode cX2_search 31 = .ok (.iload 4, 2) := by decide +kernel
theorem dX2_search_33 : decode cX2_search 33 = .ok (.ifCond .ne 11, 3) := by decide +kernel
theorem dX2_search_36 : decode cX2_search 36 = .ok (.aload_n 0, 1) := by decide +kernel
theorem dX2_search_37 : decode cX2_search 37 = .ok (.aload_n 1, 1) := by decide +kernel
theorem dX2_search_38 : decode cX2_search 38 = .ok (.invokevirtual 38, 3) := by decide +kernel
theorem dX2_search_41 : decode cX2_search 41 = .ok (.goto 9, 3) := by decide +kernel
theorem dX2_search_44 : decode cX2_search 44 = .ok (.aload_n 0, 1) := by decide +kernel
theorem dX2_search_45 : decode cX2_search 45 = .ok (.iload 4, 2) := by decide +kernel
theorem dX2_search_47 : decode cX2_search 47 = .ok (.invokevirtual 42, 3) := by decide +kernel
theorem dX2_search_50 : decode cX2_search 50 = .ok (.istore 5, 2) := by decide +kernel
theorem dX2_search_52 : decode cX2_search 52 = .ok (.iload 5, 2) := by decide +kernel
theorem dX2_search_54 : decode cX2_search 54 = .ok (.ifCond .ne 6, 3) := by decide +kernel
theorem dX2_search_57 : decode cX2_search 57 = .ok (.bipush (-5), 2) := by decide +kernel
theorem dX2_search_59 : decode cX2_search 59 = .ok (.ireturn, 1) := by decide +kernel
theorem dX2_search_60 : decode cX2_search 60 = .ok (.aload_n 0, 1) := by decide +kernel
theorem dX2_search_61 : decode cX2_search 61 = .ok (.getfield 22, 3) := by decide +kernel
theorem dX2_search_64 : decode cX2_search 64 = .ok (.iload 4, 2) := by decide +kernel
theorem dX2_search_66 : decode cX2_search 66 = .ok (.iconst 1, 1) := by decide +kernel
theorem dX2_search_67 : decode cX2_search 67 = .ok (.iadd, 1) := by decide +kernel
theorem dX2_search_68 : decode cX2_search 68 = .ok (.aload_n 0, 1) := by decide +kernel
theorem dX2_search_69 : decode cX2_search 69 = .ok (.getfield 34, 3) := by decide +kernel
theorem dX2_search_72 : decode cX2_search 72 = .ok (.iastore, 1) := by decide +kernel
theorem dX2_search_73 : decode cX2_search 73 = .ok (.aload_n 0, 1) := by decide +kernel
theorem dX2_search_74 : decode cX2_search 74 = .ok (.aload_n 2, 1) := by decide +kernel
theorem dX2_search_75 : decode cX2_search 75 = .ok (.iload 4, 2) := by decide +kernel
theorem dX2_search_77 : decode cX2_search 77 = .ok (.invokevirtual 46, 3) := by decide +kernel
theorem dX2_search_80 : decode cX2_search 80 = .ok (.ifCond .eq 6, 3) := by decide +kernel
theorem dX2_search_83 : decode cX2_search 83 = .ok (.iload 4, 2) := by decide +kernel
theorem dX2_search_85 : decode cX2_search 85 = .ok (.ireturn, 1) := by decide +kernel
theorem dX2_search_86 : decode cX2_search 86 = .ok (.iinc 4 1, 3) := by decide +kernel
theorem dX2_search_89 : decode cX2_search 89 = .ok (.goto (-81), 3) := by decide +kernel
theorem dX2_search_92 : decode cX2_search 92 = .ok (.bipush (-4), 2) := by decide +kernel
theorem dX2_search_94 : decode cX2_search 94 = .ok (.ireturn, 1) := by decide +kernel
def kX2_search_50 (N : Nat) (rec : Int32 → qM → Option ((qM) ⊕ (Int32 × qM))) (v0 : Nat) (v1 : Nat) (v2 : Nat) (v3 : Int32) (v4 : Int32) (s0 : Int32) (m0 : qM) : Option ((qM) ⊕ (Int32 × qM)) :=
  if s0 = 0 then (
  some (.inr ((-5 : Int32), m0))
  ) else (
  (qgR m0 v0 2 4).bind fun x1 =>
  (qgI m0 v0 2 5).bind fun x2 =>
  (qwI m0 x1 12 (v4 + (1 : Int32)) x2).bind fun m3 =>
  (qChk m3 v0 2 (fX2_covers N v0 v2 v4 m3)).bind fun b4 =>
  if b4.1 = 0 then (
  rec (v4 + (1 : Int32)) b4.2
  ) else (
  some (.inr (v4, b4.2))
  )
  )
set_option maxRecDepth 100000 in
theorem kbX2_search_50 {E : qE} {N d bc bs : Nat} (hd : 6 ≤ d) {v0 : Nat} {v1 : Nat} {v2 : Nat} {v3 : Int32} {v4 : Int32} {s0 : Int32} {m0 : qM} {rec : Int32 → qM → Option ((qM) ⊕ (Int32 × qM))} (hrec : ∀ (v4 : Int32) (m : qM), qB E yX2_search cX2_search 6 (some .int) (fun _ => True) d bc bs 8 [(0, .ref (E.2.1 + v0)), (1, .ref (E.2.1 + v1)), (2, .ref (E.2.1 + v2)), (3, .int v3), (4, .int v4)] [] m (rec v4 m) (qGL (fun o rr => qJ E yX2_search cX2_search 6 (some .int) (fun _ => True) d bc bs 92 [] [] o rr) (fun r => (some (.int r.1), r.2)))) : qB E yX2_search cX2_search 6 (some .int) (fun _ => True) d bc bs 50 [(0, .ref (E.2.1 + v0)), (1, .ref (E.2.1 + v1)), (2, .ref (E.2.1 + v2)), (3, .int v3), (4, .int v4)] [.int s0] m0 (kX2_search_50 N rec v0 v1 v2 v3 v4 s0 m0) (qGL (fun o rr => qJ E yX2_search cX2_search 6 (some .int) (fun _ => True) d bc bs 92 [] [] o rr) (fun r => (some (.int r.1), r.2))) := by
  unfold kX2_search_50
  refine j_istore (np := 52) (lv2 := [(5, .int s0), (0, .ref (E.2.1 + v0)), (1, .ref (E.2.1 + v1)), (2, .ref (E.2.1 + v2)), (3, .int v3), (4, .int v4)]) (by decide) dX2_search_50 rfl rfl ?_
  refine j_iload (q := 0) (np := 54) rfl dX2_search_52 rfl ?_
  refine j_if_ne (tgt := 60) (np := 57) dX2_search_54 rfl rfl ?_ ?_
  · refine j_aload_n (q := 1) (np := 61) rfl rfl dX2_search_60 rfl ?_
    refine j_gR (np := 64) flX2_22 dX2_search_61 rfl (fun x1 => ?_)
    refine j_iload (q := 5) (np := 66) rfl dX2_search_64 rfl ?_
    refine j_iconst (np := 67) ci_1 dX2_search_66 rfl ?_
    refine j_iadd (np := 68) dX2_search_67 rfl ?_
    refine j_aload_n (q := 1) (np := 69) rfl rfl dX2_search_68 rfl ?_
    refine j_gI (np := 72) flX2_34 dX2_search_69 rfl (fun x2 => ?_)
    refine j_iastore (np := 73) dX2_search_72 rfl (fun m3 => ?_)
    refine j_aload_n (q := 1) (np := 74) rfl rfl dX2_search_73 rfl ?_
    refine j_aload_n (q := 3) (np := 75) rfl rfl dX2_search_74 rfl ?_
    refine j_iload (q := 5) (np := 77) rfl dX2_search_75 rfl ?_
    refine j_callVi (ci := 2) (np := 80) (bc := bc) (bs := bs) (cb := 0) (cs := 0) (dd := d - 1) (As := [.ref (E.2.1 + v2), .int v4]) (st := []) caX2_covers mlX2_46 imX2_covers seX2_covers rfl rfl (by decide) (fun b hb => wX2_covers (by omega) hb) (by omega) rfl rfl (Nat.le_of_ble_eq_true rfl) dX2_search_77 rfl (fun b4 => ?_)
    refine j_if_eq (tgt := 86) (np := 83) dX2_search_80 rfl rfl ?_ ?_
    · refine j_iinc (q := 5) (np := 89) (lv2 := [(4, .int (v4 + (1 : Int32))), (5, .int s0), (0, .ref (E.2.1 + v0)), (1, .ref (E.2.1 + v1)), (2, .ref (E.2.1 + v2)), (3, .int v3)]) rfl (congrArg _ ci_1) (by decide) dX2_search_86 rfl rfl ?_
      refine j_goto (tgt := 8) dX2_search_89 rfl ?_
      refine j_sub (lv2 := [(0, .ref (E.2.1 + v0)), (1, .ref (E.2.1 + v1)), (2, .ref (E.2.1 + v2)), (3, .int v3), (4, .int (v4 + (1 : Int32)))]) [2, 3, 4, 5, 0] rfl ?_
      exact hrec _ _
    · refine j_iload (q := 5) (np := 85) rfl dX2_search_83 rfl ?_
      exact j_iret rfl dX2_search_85 (fun rr h => h)
  · refine j_bipush (np := 59) cb_m5 dX2_search_57 rfl ?_
    exact j_iret rfl dX2_search_59 (fun rr h => h)
def lX2_search_8 (N : Nat) (v0 : Nat) (v1 : Nat) (v2 : Nat) (v3 : Int32) : Nat → Int32 → qM → Option ((qM) ⊕ (Int32 × qM))
  | 0, _, _ => none
  | n + 1, v4, m0 =>
    if v3 < v4 then (
    some (.inl m0)
    ) else (
    if (4 : Int32) < v4 then (
    some (.inl m0)
    ) else (
    (qgR m0 v0 2 4).bind fun x1 =>
    (qgI m0 v0 2 5).bind fun x2 =>
    (qwI m0 x1 12 v4 x2).bind fun m3 =>
    if v4 = 0 then (
    (qChk m3 v0 2 (fX2_addAxioms N v0 v1 m3)).bind fun b5 =>
    kX2_search_50 N (lX2_search_8 N v0 v1 v2 v3 n) v0 v1 v2 v3 v4 b5.1 b5.2
    ) else (
    (qChk m3 v0 2 (fX2_addLevel N v0 v4 m3)).bind fun b4 =>
    kX2_search_50 N (lX2_search_8 N v0 v1 v2 v3 n) v0 v1 v2 v3 v4 b4.1 b4.2
    )
    )
    )
set_option maxRecDepth 100000 in
theorem lbX2_search_8 {E : qE} {N d bc bs : Nat} (hd : 6 ≤ d) {v0 : Nat} {v1 : Nat} {v2 : Nat} {v3 : Int32} : ∀ (n : Nat) (v4 : Int32) (m0 : qM), qB E yX2_search cX2_search 6 (some .int) (fun _ => True) d bc bs 8 [(0, .ref (E.2.1 + v0)), (1, .ref (E.2.1 + v1)), (2, .ref (E.2.1 + v2)), (3, .int v3), (4, .int v4)] [] m0 (lX2_search_8 N v0 v1 v2 v3 n v4 m0) (qGL (fun o rr => qJ E yX2_search cX2_search 6 (some .int) (fun _ => True) d bc bs 92 [] [] o rr) (fun r => (some (.int r.1), r.2))) := by
  intro n
  induction n with
  | zero =>
    intro v4 m0
    exact j_none
  | succ n ih =>
    intro v4 m0
    unfold lX2_search_8
    refine j_iload (q := 4) (np := 10) rfl dX2_search_8 rfl ?_
    refine j_iload_n (q := 3) (np := 11) rfl rfl dX2_search_10 rfl ?_
    refine j_icmp_gt (tgt := 92) (np := 14) dX2_search_11 rfl rfl ?_ ?_
    · refine j_sub (lv2 := []) [] rfl ?_
      exact j_exit (fun rr h => h)
    · refine j_iload (q := 4) (np := 16) rfl dX2_search_14 rfl ?_
      refine j_iconst (np := 17) ci_4 dX2_search_16 rfl ?_
      refine j_icmp_gt (tgt := 92) (np := 20) dX2_search_17 rfl rfl ?_ ?_
      · refine j_sub (lv2 := []) [] rfl ?_
        exact j_exit (fun rr h => h)
      · refine j_aload_n (q := 0) (np := 21) rfl rfl dX2_search_20 rfl ?_
        refine j_gR (np := 24) flX2_22 dX2_search_21 rfl (fun x1 => ?_)
        refine j_iload (q := 4) (np := 26) rfl dX2_search_24 rfl ?_
        refine j_aload_n (q := 0) (np := 27) rfl rfl dX2_search_26 rfl ?_
        refine j_gI (np := 30) flX2_34 dX2_search_27 rfl (fun x2 => ?_)
        refine j_iastore (np := 31) dX2_search_30 rfl (fun m3 => ?_)
        refine j_iload (q := 4) (np := 33) rfl dX2_search_31 rfl ?_
        refine j_if_ne (tgt := 44) (np := 36) dX2_search_33 rfl rfl ?_ ?_
        · refine j_aload_n (q := 0) (np := 45) rfl rfl dX2_search_44 rfl ?_
          refine j_iload (q := 4) (np := 47) rfl dX2_search_45 rfl ?_
          refine j_callVi (ci := 2) (np := 50) (bc := bc) (bs := bs) (cb := 0) (cs := 0) (dd := d - 1) (As := [.int v4]) (st := []) caX2_addLevel mlX2_42 imX2_addLevel seX2_addLevel rfl rfl (by decide) (fun b hb => wX2_addLevel (by omega) hb) (by omega) rfl rfl (Nat.le_of_ble_eq_true rfl) dX2_search_47 rfl (fun b4 => ?_)
          exact kbX2_search_50 hd ih
        · refine j_aload_n (q := 0) (np := 37) rfl rfl dX2_search_36 rfl ?_
          refine j_aload_n (q := 1) (np := 38) rfl rfl dX2_search_37 rfl ?_
          refine j_callVi (ci := 2) (np := 41) (bc := bc) (bs := bs) (cb := 0) (cs := 0) (dd := d - 1) (As := [.ref (E.2.1 + v1)]) (st := []) caX2_addAxioms mlX2_38 imX2_addAxioms seX2_addAxioms rfl rfl (by decide) (fun b hb => wX2_addAxioms (by omega) hb) (by omega) rfl rfl (Nat.le_of_ble_eq_true rfl) dX2_search_38 rfl (fun b5 => ?_)
          refine j_goto (tgt := 50) dX2_search_41 rfl ?_
          exact kbX2_search_50 hd ih
def fX2_search (N : Nat) (v0 : Nat) (v1 : Nat) (v2 : Nat) (v3 : Int32) (m0 : qM) : Option (Int32 × qM) :=
  (qpI m0 v0 2 5 (0 : Int32)).bind fun m1 =>
  qTh (lX2_search_8 N v0 v1 v2 v3 N (0 : Int32) m1) (fun o2 =>
  some ((-4 : Int32), o2)
  ) (fun r => r)
set_option maxRecDepth 100000 in
theorem bX2_search {E : qE} {N d bc bs : Nat} (hd : 6 ≤ d) {v0 : Nat} {v1 : Nat} {v2 : Nat} {v3 : Int32} {m0 : qM} : qB E yX2_search cX2_search 6 (some .int) (fun _ => True) d bc bs 0 [(0, .ref (E.2.1 + v0)), (1, .ref (E.2.1 + v1)), (2, .ref (E.2.1 + v2)), (3, .int v3)] [] m0 (fX2_search N v0 v1 v2 v3 m0) (fun b rr => rr = (some (.int b.1), b.2)) := by
  unfold fX2_search
  refine j_aload_n (q := 0) (np := 1) rfl rfl dX2_search_0 rfl ?_
  refine j_iconst (np := 2) ci_0 dX2_search_1 rfl ?_
  refine j_pI (np := 5) flX2_34 dX2_search_2 rfl (fun m1 => ?_)
  refine j_iconst (np := 6) ci_0 dX2_search_5 rfl ?_
  refine j_istore (np := 8) (lv2 := [(4, .int (0 : Int32)), (0, .ref (E.2.1 + v0)), (1, .ref (E.2.1 + v1)), (2, .ref (E.2.1 + v2)), (3, .int v3)]) (by decide) dX2_search_6 rfl rfl ?_
  refine j_sub (lv2 := [(0, .ref (E.2.1 + v0)), (1, .ref (E.2.1 + v1)), (2, .ref (E.2.1 + v2)), (3, .int v3), (4, .int (0 : Int32))]) [1, 2, 3, 4, 0] rfl ?_
  refine j_loopG (xp := 92) (lvX := fun o2 => []) (mX := fun o2 => o2) (lbX2_search_8 hd _ _ _) (fun r rr h => h) (fun o2 => ?_)
  refine j_bipush (np := 94) cb_m4 dX2_search_92 rfl ?_
  exact j_iret rfl dX2_search_94 (fun rr h => h)
set_option maxRecDepth 100000 in
theorem wX2_search {E : qE} {N d : Nat} (hd : 6 ≤ d) {v0 : Nat} {v1 : Nat} {v2 : Nat} {v3 : Int32} {m0 : qM} {b : Int32 × qM} (h : fX2_search N v0 v1 v2 v3 m0 = some b) : qRun E yX2_search cX2_search 6 (some .int) d 0 0 [.ref (E.2.1 + v0), .ref (E.2.1 + v1), .ref (E.2.1 + v2), .int v3] m0 (some (.int b.1), b.2) := q_met pnX2 (Nat.le_of_ble_eq_true rfl) (bX2_search hd b _ h rfl)
theorem dX3_init_0 : decode cX3_init 0 = .ok (.aload_n 0, 1) := by decide +kernel
theorem dX3_init_1 : decode cX3_init 1 = .ok (.invokespecial 3, 3) := by decide +kernel
theorem dX3_init_4 : decode cX3_init 4 = .ok (.aload_n 0, 1) := by decide +kernel
theorem dX3_init_5 : decode cX3_init 5 = .ok (.bipush 12, 2) := by decide +kernel
theorem dX3_init_7 : decode cX3_init 7 = .ok (.newarray .int, 2) := by decide +kernel
theorem dX3_init_9 : decode cX3_init 9 = .ok (.putfield 9, 3) := by decide +kernel
theorem dX3_init_12 : decode cX3_init 12 = .ok (.return_, 1) := by decide +kernel
def fX3_init (N : Nat) (v0 : Nat) (m0 : qM) : Option (qM) :=
  if ¬ (12 : Int32) < 0 ∧ (12 : Int32).toNatClampNeg ≤ 12 then qNew m0 12 (12 : Int32).toNatClampNeg (fun a1 m2 =>
  (qpR m2 v0 3 0 a1).bind fun m3 =>
  some m3
  ) else none
set_option maxRecDepth 100000 in
theorem bX3_init {E : qE} {N d bc bs : Nat} (hd : 1 ≤ d) {v0 : Nat} {m0 : qM} : qB E yX3_init cX3_init 1 none (fun _ => True) d (bc + 1) (bs + 12) 0 [(0, .ref (E.2.1 + v0))] [] m0 (fX3_init N v0 m0) (fun b rr => rr = (none, b)) := by
  unfold fX3_init
  refine j_aload_n (q := 0) (np := 1) rfl rfl dX3_init_0 rfl ?_
  refine j_objInit (np := 4) mlX3_3 imObj cdObj (by omega) (Nat.le_of_ble_eq_true rfl) dX3_init_1 rfl ?_
  refine j_aload_n (q := 0) (np := 5) rfl rfl dX3_init_4 rfl ?_
  refine j_bipush (np := 7) cb_12 dX3_init_5 rfl ?_
  refine j_bud (b1 := bc + 1) (b2 := bs + 12) (by omega) (by omega) ?_
  refine j_newarr (bc := bc) (bs := bs) (c0 := 12) (t := 1) (n0 := 12) (np := 9) (atype := .int) (ty := .int) (Or.inr (Or.inl rfl)) rfl rfl (by decide) (by decide) (fun _ => rfl) (fun _ _ => rfl) ac_int dX3_init_7 rfl (fun a1 m2 => ?_)
  refine j_pR (np := 12) flX3_9 (fun _ => rfl) dX3_init_9 rfl (fun m3 => ?_)
  exact j_vret rfl dX3_init_12 (fun rr h => h)
set_option maxRecDepth 100000 in
theorem wX3_init {E : qE} {N d : Nat} (hd : 1 ≤ d) {v0 : Nat} {m0 : qM} {b : qM} (h : fX3_init N v0 m0 = some b) : qRun E yX3_init cX3_init 1 none d 1 12 [.ref (E.2.1 + v0)] m0 (none, b) := q_met pnX3 (Nat.le_of_ble_eq_true rfl) ((j_bud (by omega) (by omega) (bX3_init (bc := 0) (bs := 0) hd)) b _ h rfl)
theorem dX4_init_0 : decode cX4_init 0 = .ok (.aload_n 0, 1) := by decide +kernel
theorem dX4_init_1 : decode cX4_init 1 = .ok (.invokespecial 3, 3) := by decide +kernel
theorem dX4_init_4 : decode cX4_init 4 = .ok (.aload_n 0, 1) := by decide +kernel
theorem dX4_init_5 : decode cX4_init 5 = .ok (.bipush 9, 2) := by decide +kernel
theorem dX4_init_7 : decode cX4_init 7 = .ok (.newarray .int, 2) := by decide +kernel
theorem dX4_init_9 : decode cX4_init 9 = .ok (.dup, 1) := by decide +kernel
theorem dX4_init_10 : decode cX4_init 10 = .ok (.iconst 0, 1) := by decide +kernel
theorem dX4_init_11 : decode cX4_init 11 = .ok (.iconst 2, 1) := by decide +kernel
theorem dX4_init_12 : decode cX4_init 12 = .ok (.iastore, 1) := by decide +kernel
theorem dX4_init_13 : decode cX4_init 13 = .ok (.dup, 1) := by decide +kernel
theorem dX4_init_14 : decode cX4_init 14 = .ok (.iconst 1, 1) := by decide +kernel
theorem dX4_init_15 : decode cX4_init 15 = .ok (.iconst 2, 1) := by decide +kernel
theorem dX4_init_16 : decode cX4_init 16 = .ok (.iastore, 1) := by decide +kernel
theorem dX4_init_17 : decode cX4_init 17 = .ok (.dup, 1) := by decide +kernel
theorem dX4_init_18 : decode cX4_init 18 = .ok (.iconst 2, 1) := by decide +kernel
theorem dX4_init_19 : decode cX4_init 19 = .ok (.iconst 2, 1) := by decide +kernel
theorem dX4_init_20 : decode cX4_init 20 = .ok (.iastore, 1) := by decide +kernel
theorem dX4_init_21 : decode cX4_init 21 = .ok (.dup, 1) := by decide +kernel
theorem dX4_init_22 : decode cX4_init 22 = .ok (.iconst 3, 1) := by decide +kernel
theorem dX4_init_23 : decode cX4_init 23 = .ok (.iconst 1, 1) := by decide +kernel
theorem dX4_init_24 : decode cX4_init 24 = .ok (.iastore, 1) := by decide +kernel
theorem dX4_init_25 : decode cX4_init 25 = .ok (.dup, 1) := by decide +kernel
theorem dX4_init_26 : decode cX4_init 26 = .ok (.iconst 4, 1) := by decide +kernel
theorem dX4_init_27 : decode cX4_init 27 = .ok (.iconst 2, 1) := by decide +kernel
theorem dX4_init_28 : decode cX4_init 28 = .ok (.iastore, 1) := by decide +kernel
theorem dX4_init_29 : decode cX4_init 29 = .ok (.dup, 1) := by decide +kernel
theorem dX4_init_30 : decode cX4_init 30 = .ok (.iconst 5, 1) := by decide +kernel
theorem dX4_init_31 : decode cX4_init 31 = .ok (.iconst 2, 1) := by decide +kernel
theorem dX4_init_32 : decode cX4_init 32 = .ok (.iastore, 1) := by decide +kernel
theorem dX4_init_33 : decode cX4_init 33 = .ok (.dup, 1) := by decide +kernel
theorem dX4_init_34 : decode cX4_init 34 = .ok (.bipush 6, 2) := by decide +kernel
theorem dX4_init_36 : decode cX4_init 36 = .ok (.iconst 0, 1) := by decide +kernel
theorem dX4_init_37 : decode cX4_init 37 = .ok (.iastore, 1) := by decide +kernel
theorem dX4_init_38 : decode cX4_init 38 = .ok (.dup, 1) := by decide +kernel
theorem dX4_init_39 : decode cX4_init 39 = .ok (.bipush 7, 2) := by decide +kernel
theorem dX4_init_41 : decode cX4_init 41 = .ok (.iconst 1, 1) := by decide +kernel
theorem dX4_init_42 : decode cX4_init 42 = .ok (.iastore, 1) := by decide +kernel
theorem dX4_init_43 : decode cX4_init 43 = .ok (.dup, 1) := by decide +kernel
theorem dX4_init_44 : decode cX4_init 44 = .ok (.bipush 8, 2) := by decide +kernel
theorem dX4_init_46 : decode cX4_init 46 = .ok (.iconst 2, 1) := by decide +kernel
theorem dX4_init_47 : decode cX4_init 47 = .ok (.iastore, 1) := by decide +kernel
theorem dX4_init_48 : decode cX4_init 48 = .ok (.putfield 9, 3) := by decide +kernel
theorem dX4_init_51 : decode cX4_init 51 = .ok (.aload_n 0, 1) := by decide +kernel
theorem dX4_init_52 : decode cX4_init 52 = .ok (.bipush 8, 2) := by decide +kernel
theorem dX4_init_54 : decode cX4_init 54 = .ok (.newarray .int, 2) := by decide +kernel
theorem dX4_init_56 : decode cX4_init 56 = .ok (.putfield 15, 3) := by decide +kernel
theorem dX4_init_59 : decode cX4_init 59 = .ok (.aload_n 0, 1) := by decide +kernel
theorem dX4_init_60 : decode cX4_init 60 = .ok (.bipush 39, 2) := by decide +kernel
theorem dX4_init_62 : decode cX4_init 62 = .ok (.newarray .int, 2) := by decide +kernel
theorem dX4_init_64 : decode cX4_init 64 = .ok (.putfield 18, 3) := by decide +kernel
theorem dX4_init_67 : decode cX4_init 67 = .ok (.aload_n 0, 1) := by decide +kernel
theorem dX4_init_68 : decode cX4_init 68 = .ok (.iconst 4, 1) := by decide +kernel
theorem dX4_init_69 : decode cX4_init 69 = .ok (.putfield 21, 3) := by decide +kernel
theorem dX4_init_72 : decode cX4_init 72 = .ok (.return_, 1) := by decide +kernel
def fX4_init (N : Nat) (v0 : Nat) (m0 : qM) : Option (qM) :=
  if ¬ (9 : Int32) < 0 ∧ (9 : Int32).toNatClampNeg ≤ 9 then qNew m0 12 (9 : Int32).toNatClampNeg (fun a1 m2 =>
  (qwI m2 a1 12 (0 : Int32) (2 : Int32)).bind fun m3 =>
  (qwI m3 a1 12 (1 : Int32) (2 : Int32)).bind fun m4 =>
  (qwI m4 a1 12 (2 : Int32) (2 : Int32)).bind fun m5 =>
  (qwI m5 a1 12 (3 : Int32) (1 : Int32)).bind fun m6 =>
  (qwI m6 a1 12 (4 : Int32) (2 : Int32)).bind fun m7 =>
  (qwI m7 a1 12 (5 : Int32) (2 : Int32)).bind fun m8 =>
  (qwI m8 a1 12 (6 : Int32) (0 : Int32)).bind fun m9 =>
  (qwI m9 a1 12 (7 : Int32) (1 : Int32)).bind fun m10 =>
  (qwI m10 a1 12 (8 : Int32) (2 : Int32)).bind fun m11 =>
  (qpR m11 v0 4 0 a1).bind fun m12 =>
  if ¬ (8 : Int32) < 0 ∧ (8 : Int32).toNatClampNeg ≤ 8 then qNew m12 12 (8 : Int32).toNatClampNeg (fun a13 m14 =>
  (qpR m14 v0 4 1 a13).bind fun m15 =>
  if ¬ (39 : Int32) < 0 ∧ (39 : Int32).toNatClampNeg ≤ 39 then qNew m15 12 (39 : Int32).toNatClampNeg (fun a16 m17 =>
  (qpR m17 v0 4 2 a16).bind fun m18 =>
  (qpI m18 v0 4 3 (4 : Int32)).bind fun m19 =>
  some m19
  ) else none
  ) else none
  ) else none
set_option maxRecDepth 100000 in
theorem bX4_init {E : qE} {N d bc bs : Nat} (hd : 1 ≤ d) {v0 : Nat} {m0 : qM} : qB E yX4_init cX4_init 1 none (fun _ => True) d (bc + 3) (bs + 56) 0 [(0, .ref (E.2.1 + v0))] [] m0 (fX4_init N v0 m0) (fun b rr => rr = (none, b)) := by
  unfold fX4_init
  refine j_aload_n (q := 0) (np := 1) rfl rfl dX4_init_0 rfl ?_
  refine j_objInit (np := 4) mlX4_3 imObj cdObj (by omega) (Nat.le_of_ble_eq_true rfl) dX4_init_1 rfl ?_
  refine j_aload_n (q := 0) (np := 5) rfl rfl dX4_init_4 rfl ?_
  refine j_bipush (np := 7) cb_9 dX4_init_5 rfl ?_
  refine j_bud (b1 := (bc + 2) + 1) (b2 := (bs + 47) + 9) (by omega) (by omega) ?_
  refine j_newarr (bc := (bc + 2)) (bs := (bs + 47)) (c0 := 12) (t := 1) (n0 := 9) (np := 9) (atype := .int) (ty := .int) (Or.inr (Or.inl rfl)) rfl rfl (by decide) (by decide) (fun _ => rfl) (fun _ _ => rfl) ac_int dX4_init_7 rfl (fun a1 m2 => ?_)
  refine j_dup (np := 10) rfl dX4_init_9 rfl ?_
  refine j_iconst (np := 11) ci_0 dX4_init_10 rfl ?_
  refine j_iconst (np := 12) ci_2 dX4_init_11 rfl ?_
  refine j_iastore (np := 13) dX4_init_12 rfl (fun m3 => ?_)
  refine j_dup (np := 14) rfl dX4_init_13 rfl ?_
  refine j_iconst (np := 15) ci_1 dX4_init_14 rfl ?_
  refine j_iconst (np := 16) ci_2 dX4_init_15 rfl ?_
  refine j_iastore (np := 17) dX4_init_16 rfl (fun m4 => ?_)
  refine j_dup (np := 18) rfl dX4_init_17 rfl ?_
  refine j_iconst (np := 19) ci_2 dX4_init_18 rfl ?_
  refine j_iconst (np := 20) ci_2 dX4_init_19 rfl ?_
  refine j_iastore (np := 21) dX4_init_20 rfl (fun m5 => ?_)
  refine j_dup (np := 22) rfl dX4_init_21 rfl ?_
  refine j_iconst (np := 23) ci_3 dX4_init_22 rfl ?_
  refine j_iconst (np := 24) ci_1 dX4_init_23 rfl ?_
  refine j_iastore (np := 25) dX4_init_24 rfl (fun m6 => ?_)
  refine j_dup (np := 26) rfl dX4_init_25 rfl ?_
  refine j_iconst (np := 27) ci_4 dX4_init_26 rfl ?_
  refine j_iconst (np := 28) ci_2 dX4_init_27 rfl ?_
  refine j_iastore (np := 29) dX4_init_28 rfl (fun m7 => ?_)
  refine j_dup (np := 30) rfl dX4_init_29 rfl ?_
  refine j_iconst (np := 31) ci_5 dX4_init_30 rfl ?_
  refine j_iconst (np := 32) ci_2 dX4_init_31 rfl ?_
  refine j_iastore (np := 33) dX4_init_32 rfl (fun m8 => ?_)
  refine j_dup (np := 34) rfl dX4_init_33 rfl ?_
  refine j_bipush (np := 36) cb_6 dX4_init_34 rfl ?_
  refine j_iconst (np := 37) ci_0 dX4_init_36 rfl ?_
  refine j_iastore (np := 38) dX4_init_37 rfl (fun m9 => ?_)
  refine j_dup (np := 39) rfl dX4_init_38 rfl ?_
  refine j_bipush (np := 41) cb_7 dX4_init_39 rfl ?_
  refine j_iconst (np := 42) ci_1 dX4_init_41 rfl ?_
  refine j_iastore (np := 43) dX4_init_42 rfl (fun m10 => ?_)
  refine j_dup (np := 44) rfl dX4_init_43 rfl ?_
  refine j_bipush (np := 46) cb_8 dX4_init_44 rfl ?_
  refine j_iconst (np := 47) ci_2 dX4_init_46 rfl ?_
  refine j_iastore (np := 48) dX4_init_47 rfl (fun m11 => ?_)
  refine j_pR (np := 51) flX4_9 (fun _ => rfl) dX4_init_48 rfl (fun m12 => ?_)
  refine j_aload_n (q := 0) (np := 52) rfl rfl dX4_init_51 rfl ?_
  refine j_bipush (np := 54) cb_8 dX4_init_52 rfl ?_
  refine j_bud (b1 := (bc + 1) + 1) (b2 := (bs + 39) + 8) (by omega) (by omega) ?_
  refine j_newarr (bc := (bc + 1)) (bs := (bs + 39)) (c0 := 12) (t := 1) (n0 := 8) (np := 56) (atype := .int) (ty := .int) (Or.inr (Or.inl rfl)) rfl rfl (by decide) (by decide) (fun _ => rfl) (fun _ _ => rfl) ac_int dX4_init_54 rfl (fun a13 m14 => ?_)
  refine j_pR (np := 59) flX4_15 (fun _ => rfl) dX4_init_56 rfl (fun m15 => ?_)
  refine j_aload_n (q := 0) (np := 60) rfl rfl dX4_init_59 rfl ?_
  refine j_bipush (np := 62) cb_39 dX4_init_60 rfl ?_
  refine j_bud (b1 := bc + 1) (b2 := bs + 39) (by omega) (by omega) ?_
  refine j_newarr (bc := bc) (bs := bs) (c0 := 12) (t := 1) (n0 := 39) (np := 64) (atype := .int) (ty := .int) (Or.inr (Or.inl rfl)) rfl rfl (by decide) (by decide) (fun _ => rfl) (fun _ _ => rfl) ac_int dX4_init_62 rfl (fun a16 m17 => ?_)
  refine j_pR (np := 67) flX4_18 (fun _ => rfl) dX4_init_64 rfl (fun m18 => ?_)
  refine j_aload_n (q := 0) (np := 68) rfl rfl dX4_init_67 rfl ?_
  refine j_iconst (np := 69) ci_4 dX4_init_68 rfl ?_
  refine j_pI (np := 72) flX4_21 dX4_init_69 rfl (fun m19 => ?_)
  exact j_vret rfl dX4_init_72 (fun rr h => h)
set_option maxRecDepth 100000 in
theorem wX4_init {E : qE} {N d : Nat} (hd : 1 ≤ d) {v0 : Nat} {m0 : qM} {b : qM} (h : fX4_init N v0 m0 = some b) : qRun E yX4_init cX4_init 1 none d 3 56 [.ref (E.2.1 + v0)] m0 (none, b) := q_met pnX4 (Nat.le_of_ble_eq_true rfl) ((j_bud (by omega) (by omega) (bX4_init (bc := 0) (bs := 0) hd)) b _ h rfl)
theorem dX4_replaceEntry_0 : decode cX4_replaceEntry 0 = .ok (.aload_n 0, 1) := by decide +kernel
theorem dX4_replaceEntry_1 : decode cX4_replaceEntry 1 = .ok (.getfield 9, 3) := by decide +kernel
theorem dX4_replaceEntry_4 : decode cX4_replaceEntry 4 = .ok (.iconst 3, 1) := by decide +kernel
theorem dX4_replaceEntry_5 : decode cX4_replaceEntry 5 = .ok (.iload_n 1, 1) := by decide +kernel
theorem dX4_replaceEntry_6 : decode cX4_replaceEntry 6 = .ok (.imul, 1) := by decide +kernel
theorem dX4_replaceEntry_7 : decode cX4_replaceEntry 7 = .ok (.iload_n 2, 1) := by decide +kernel
theorem dX4_replaceEntry_8 : decode cX4_replaceEntry 8 = .ok (.iadd, 1) := by decide +kernel
theorem dX4_replaceEntry_9 : decode cX4_replaceEntry 9 = .ok (.iaload, 1) := by decide +kernel
theorem dX4_replaceEntry_10 : decode cX4_replaceEntry 10 = .ok (.istore 4, 2) := by decide +kernel
theorem dX4_replaceEntry_12 : decode cX4_replaceEntry 12 = .ok (.aload_n 0, 1) := by decide +kernel
theorem dX4_replaceEntry_13 : decode cX4_replaceEntry 13 = .ok (.getfield 9, 3) := by decide +kernel
theorem dX4_replaceEntry_16 : decode cX4_replaceEntry 16 = .ok (.iconst 3, 1) := by decide +kernel
theorem dX4_replaceEntry_17 : decode cX4_replaceEntry 17 = .ok (.iload_n 1, 1) := by decide +kernel
theorem dX4_replaceEntry_18 : decode cX4_replaceEntry 18 = .ok (.imul, 1) := by decide +kernel
theorem dX4_replaceEntry_19 : decode cX4_replaceEntry 19 = .ok (.iload_n 2, 1) := by decide +kernel
theorem dX4_replaceEntry_20 : decode cX4_replaceEntry 20 = .ok (.iadd, 1) := by decide +kernel
theorem dX4_replaceEntry_21 : decode cX4_replaceEntry 21 = .ok (.iload_n 3, 1) := by decide +kernel
theorem dX4_replaceEntry_22 : decode cX4_replaceEntry 22 = .ok (.iastore, 1) := by decide +kernel
theorem dX4_replaceEntry_23 : decode cX4_replaceEntry 23 = .ok (.iload 4, 2) := by decide +kernel
theorem dX4_replaceEntry_25 : decode cX4_replaceEntry 25 = .ok (.ireturn, 1) := by decide +kernel
def fX4_replaceEntry (N : Nat) (v0 : Nat) (v1 : Int32) (v2 : Int32) (v3 : Int32) (m0 : qM) : Option (Int32 × qM) :=
  (qgR m0 v0 4 0).bind fun x1 =>
  (qaI m0 x1 12 (((3 : Int32) * v1) + v2)).bind fun x2 =>
  (qgR m0 v0 4 0).bind fun x3 =>
  (qwI m0 x3 12 (((3 : Int32) * v1) + v2) v3).bind fun m4 =>
  some (x2, m4)
set_option maxRecDepth 100000 in
theorem bX4_replaceEntry {E : qE} {N d bc bs : Nat} (hd : 0 ≤ d) {v0 : Nat} {v1 : Int32} {v2 : Int32} {v3 : Int32} {m0 : qM} : qB E yX4_replaceEntry cX4_replaceEntry 5 (some .int) (fun _ => True) d bc bs 0 [(0, .ref (E.2.1 + v0)), (1, .int v1), (2, .int v2), (3, .int v3)] [] m0 (fX4_replaceEntry N v0 v1 v2 v3 m0) (fun b rr => rr = (some (.int b.1), b.2)) := by
  unfold fX4_replaceEntry
  refine j_aload_n (q := 0) (np := 1) rfl rfl dX4_replaceEntry_0 rfl ?_
  refine j_gR (np := 4) flX4_9 dX4_replaceEntry_1 rfl (fun x1 => ?_)
  refine j_iconst (np := 5) ci_3 dX4_replaceEntry_4 rfl ?_
  refine j_iload_n (q := 1) (np := 6) rfl rfl dX4_replaceEntry_5 rfl ?_
  refine j_imul (np := 7) dX4_replaceEntry_6 rfl ?_
  refine j_iload_n (q := 2) (np := 8) rfl rfl dX4_replaceEntry_7 rfl ?_
  refine j_iadd (np := 9) dX4_replaceEntry_8 rfl ?_
  refine j_iaload (np := 10) dX4_replaceEntry_9 rfl (fun x2 => ?_)
  refine j_istore (np := 12) (lv2 := [(4, .int x2), (0, .ref (E.2.1 + v0)), (1, .int v1), (2, .int v2), (3, .int v3)]) (by decide) dX4_replaceEntry_10 rfl rfl ?_
  refine j_aload_n (q := 1) (np := 13) rfl rfl dX4_replaceEntry_12 rfl ?_
  refine j_gR (np := 16) flX4_9 dX4_replaceEntry_13 rfl (fun x3 => ?_)
  refine j_iconst (np := 17) ci_3 dX4_replaceEntry_16 rfl ?_
  refine j_iload_n (q := 2) (np := 18) rfl rfl dX4_replaceEntry_17 rfl ?_
  refine j_imul (np := 19) dX4_replaceEntry_18 rfl ?_
  refine j_iload_n (q := 3) (np := 20) rfl rfl dX4_replaceEntry_19 rfl ?_
  refine j_iadd (np := 21) dX4_replaceEntry_20 rfl ?_
  refine j_iload_n (q := 4) (np := 22) rfl rfl dX4_replaceEntry_21 rfl ?_
  refine j_iastore (np := 23) dX4_replaceEntry_22 rfl (fun m4 => ?_)
  refine j_iload (q := 0) (np := 25) rfl dX4_replaceEntry_23 rfl ?_
  exact j_iret rfl dX4_replaceEntry_25 (fun rr h => h)
set_option maxRecDepth 100000 in
theorem wX4_replaceEntry {E : qE} {N d : Nat} (hd : 0 ≤ d) {v0 : Nat} {v1 : Int32} {v2 : Int32} {v3 : Int32} {m0 : qM} {b : Int32 × qM} (h : fX4_replaceEntry N v0 v1 v2 v3 m0 = some b) : qRun E yX4_replaceEntry cX4_replaceEntry 5 (some .int) d 0 0 [.ref (E.2.1 + v0), .int v1, .int v2, .int v3] m0 (some (.int b.1), b.2) := q_met pnX4 (Nat.le_of_ble_eq_true rfl) (bX4_replaceEntry hd b _ h rfl)
theorem dX4_replaceDesignated_0 : decode cX4_replaceDesignated 0 = .ok (.aload_n 0, 1) := by decide +kernel
theorem dX4_replaceDesignated_1 : decode cX4_replaceDesignated 1 = .ok (.getfield 21, 3) := by decide +kernel
theorem dX4_replaceDesignated_4 : decode cX4_replaceDesignated 4 = .ok (.istore_n 2, 1) := by decide +kernel
theorem dX4_replaceDesignated_5 : decode cX4_replaceDesignated 5 = .ok (.aload_n 0, 1) := by decide +kernel
theorem dX4_replaceDesignated_6 : decode cX4_replaceDesignated 6 = .ok (.iload_n 1, 1) := by decide +kernel
theorem dX4_replaceDesignated_7 : decode cX4_replaceDesignated 7 = .ok (.putfield 21, 3) := by decide +kernel
theorem dX4_replaceDesignated_10 : decode cX4_replaceDesignated 10 = .ok (.iload_n 2, 1) := by decide +kernel
theorem dX4_replaceDesignated_11 : decode cX4_replaceDesignated 11 = .ok (.ireturn, 1) := by decide +kernel
def fX4_replaceDesignated (N : Nat) (v0 : Nat) (v1 : Int32) (m0 : qM) : Option (Int32 × qM) :=
  (qgI m0 v0 4 3).bind fun x1 =>
  (qpI m0 v0 4 3 v1).bind fun m2 =>
  some (x1, m2)
set_option maxRecDepth 100000 in
theorem bX4_replaceDesignated {E : qE} {N d bc bs : Nat} (hd : 0 ≤ d) {v0 : Nat} {v1 : Int32} {m0 : qM} : qB E yX4_replaceDesignated cX4_replaceDesignated 3 (some .int) (fun _ => True) d bc bs 0 [(0, .ref (E.2.1 + v0)), (1, .int v1)] [] m0 (fX4_replaceDesignated N v0 v1 m0) (fun b rr => rr = (some (.int b.1), b.2)) := by
  unfold fX4_replaceDesignated
  refine j_aload_n (q := 0) (np := 1) rfl rfl dX4_replaceDesignated_0 rfl ?_
  refine j_gI (np := 4) flX4_21 dX4_replaceDesignated_1 rfl (fun x1 => ?_)
  refine j_istore_n (np := 5) (lv2 := [(2, .int x1), (0, .ref (E.2.1 + v0)), (1, .int v1)]) rfl (by decide) dX4_replaceDesignated_4 rfl rfl ?_
  refine j_aload_n (q := 1) (np := 6) rfl rfl dX4_replaceDesignated_5 rfl ?_
  refine j_iload_n (q := 2) (np := 7) rfl rfl dX4_replaceDesignated_6 rfl ?_
  refine j_pI (np := 10) flX4_21 dX4_replaceDesignated_7 rfl (fun m2 => ?_)
  refine j_iload_n (q := 0) (np := 11) rfl rfl dX4_replaceDesignated_10 rfl ?_
  exact j_iret rfl dX4_replaceDesignated_11 (fun rr h => h)
set_option maxRecDepth 100000 in
theorem wX4_replaceDesignated {E : qE} {N d : Nat} (hd : 0 ≤ d) {v0 : Nat} {v1 : Int32} {m0 : qM} {b : Int32 × qM} (h : fX4_replaceDesignated N v0 v1 m0 = some b) : qRun E yX4_replaceDesignated cX4_replaceDesignated 3 (some .int) d 0 0 [.ref (E.2.1 + v0), .int v1] m0 (some (.int b.1), b.2) := q_met pnX4 (Nat.le_of_ble_eq_true rfl) (bX4_replaceDesignated hd b _ h rfl)
theorem dX4_isDesignated_0 : decode cX4_isDesignated 0 = .ok (.aload_n 0, 1) := by decide +kernel
theorem dX4_isDesignated_1 : decode cX4_isDesignated 1 = .ok (.getfield 21, 3) := by decide +kernel
theorem dX4_isDesignated_4 : decode cX4_isDesignated 4 = .ok (.iload_n 1, 1) := by decide +kernel
theorem dX4_isDesignated_5 : decode cX4_isDesignated 5 = .ok (.ishr, 1) := by decide +kernel
theorem dX4_isDesignated_6 : decode cX4_isDesignated 6 = .ok (.iconst 1, 1) := by decide +kernel
theorem dX4_isDesignated_7 : decode cX4_isDesignated 7 = .ok (.iand, 1) := by decide +kernel
theorem dX4_isDesignated_8 : decode cX4_isDesignated 8 = .ok (.iconst 1, 1) := by decide +kernel
theorem dX4_isDesignated_9 : decode cX4_isDesignated 9 = .ok (.if_icmp .ne 7, 3) := by decide +kernel
theorem dX4_isDesignated_12 : decode cX4_isDesignated 12 = .ok (.iconst 1, 1) := by decide +kernel
theorem dX4_isDesignated_13 : decode cX4_isDesignated 13 = .ok (.goto 4, 3) := by decide +kernel
theorem dX4_isDesignated_16 : decode cX4_isDesignated 16 = .ok (.iconst 0, 1) := by decide +kernel
theorem dX4_isDesignated_17 : decode cX4_isDesignated 17 = .ok (.ireturn, 1) := by decide +kernel
def fX4_isDesignated (N : Nat) (v0 : Nat) (v1 : Int32) (m0 : qM) : Option (Int32 × qM) :=
  (qgI m0 v0 4 3).bind fun x1 =>
  if (x1 >>> (v1 &&& 31)) &&& (1 : Int32) = (1 : Int32) then (
  some ((1 : Int32), m0)
  ) else (
  some ((0 : Int32), m0)
  )
set_option maxRecDepth 100000 in
theorem bX4_isDesignated {E : qE} {N d bc bs : Nat} (hd : 0 ≤ d) {v0 : Nat} {v1 : Int32} {m0 : qM} : qB E yX4_isDesignated cX4_isDesignated 2 (some .boolean) (fun _ => True) d bc bs 0 [(0, .ref (E.2.1 + v0)), (1, .int v1)] [] m0 (fX4_isDesignated N v0 v1 m0) (fun b rr => rr = (some (.int b.1), b.2)) := by
  unfold fX4_isDesignated
  refine j_aload_n (q := 0) (np := 1) rfl rfl dX4_isDesignated_0 rfl ?_
  refine j_gI (np := 4) flX4_21 dX4_isDesignated_1 rfl (fun x1 => ?_)
  refine j_iload_n (q := 1) (np := 5) rfl rfl dX4_isDesignated_4 rfl ?_
  refine j_ishr (np := 6) dX4_isDesignated_5 rfl ?_
  refine j_iconst (np := 7) ci_1 dX4_isDesignated_6 rfl ?_
  refine j_iand (np := 8) dX4_isDesignated_7 rfl ?_
  refine j_iconst (np := 9) ci_1 dX4_isDesignated_8 rfl ?_
  refine j_icmp_ne (tgt := 16) (np := 12) dX4_isDesignated_9 rfl rfl ?_ ?_
  · refine j_iconst (np := 17) ci_0 dX4_isDesignated_16 rfl ?_
    exact j_zret rfl dX4_isDesignated_17 (fun rr h => by rw [z0]; exact h)
  · refine j_iconst (np := 13) ci_1 dX4_isDesignated_12 rfl ?_
    refine j_goto (tgt := 17) dX4_isDesignated_13 rfl ?_
    exact j_zret rfl dX4_isDesignated_17 (fun rr h => by rw [z1]; exact h)
set_option maxRecDepth 100000 in
theorem wX4_isDesignated {E : qE} {N d : Nat} (hd : 0 ≤ d) {v0 : Nat} {v1 : Int32} {m0 : qM} {b : Int32 × qM} (h : fX4_isDesignated N v0 v1 m0 = some b) : qRun E yX4_isDesignated cX4_isDesignated 2 (some .boolean) d 0 0 [.ref (E.2.1 + v0), .int v1] m0 (some (.int b.1), b.2) := q_met pnX4 (Nat.le_of_ble_eq_true rfl) (bX4_isDesignated hd b _ h rfl)
theorem dX4_keepsDesignation_0 : decode cX4_keepsDesignation 0 = .ok (.iconst 0, 1) := by decide +kernel
theorem dX4_keepsDesignation_1 : decode cX4_keepsDesignation 1 = .ok (.istore_n 1, 1) := by decide +kernel
theorem dX4_keepsDesignation_2 : decode cX4_keepsDesignation 2 = .ok (.iload_n 1, 1) := by decide +kernel
theorem dX4_keepsDesignation_3 : decode cX4_keepsDesignation 3 = .ok (.iconst 3, 1) := by decide +kernel
theorem dX4_keepsDesignation_4 : decode cX4_keepsDesignation 4 = .ok (.if_icmp .ge 57, 3) := by decide +kernel
theorem dX4_keepsDesignation_7 : decode cX4_keepsDesignation 7 = .ok (.iconst 0, 1) := by decide +kernel
theorem dX4_keepsDesignation_8 : decode cX4_keepsDesignation 8 = .ok (.istore_n 2, 1) := by decide +kernel
theorem dX4_keepsDesignation_9 : decode cX4_keepsDesignation 9 = .ok (.iload_n 2, 1) := by decide +kernel
theorem dX4_keepsDesignation_10 : decode cX4_keepsDesignation 10 = .ok (.iconst 3, 1) := by decide +kernel
theorem dX4_keepsDesignation_11 : decode cX4_keepsDesignation 11 = .ok (.if_icmp .ge 44, 3) := by decide +kernel
theorem dX4_keepsDesignation_14 : decode cX4_keepsDesignation 14 = .ok (.aload_n 0, 1) := by decide +kernel
theorem dX4_keepsDesignation_15 : decode cX4_keepsDesignation 15 = .ok (.iload_n 1, 1) := by decide +kernel
theorem dX4_keepsDesignation_16 : decode cX4_keepsDesignation 16 = .ok (.invokevirtual 25, 3) := by decide +kernel
theorem dX4_keepsDesignation_19 : decode cX4_keepsDesignation 19 = .ok (.ifCond .eq 30, 3) := by decide +kernel
theorem dX4_keepsDesignation_22 : decode cX4_keepsDesignation 22 = .ok (.aload_n 0, 1) := by decide +kernel
theorem dX4_keepsDesignation_23 : decode cX4_keepsDesignation 23 = .ok (.aload_n 0, 1) := by decide +kernel
theorem dX4_keepsDesignation_24 : decode cX4_keepsDesignation 24 = .ok (.getfield 9, 3) := by decide +kernel
theorem dX4_keepsDesignation_27 : decode cX4_keepsDesignation 27 = .ok (.iconst 3, 1) := by decide +kernel
theorem dX4_keepsDesignation_28 : decode cX4_keepsDesignation 28 = .ok (.iload_n 1, 1) := by decide +kernel
theorem dX4_keepsDesignation_29 : decode cX4_keepsDesignation 29 = .ok (.imul, 1) := by decide +kernel
theorem dX4_keepsDesignation_30 : decode cX4_keepsDesignation 30 = .ok (.iload_n 2, 1) := by decide +kernel
theorem dX4_keepsDesignation_31 : decode cX4_keepsDesignation 31 = .ok (.iadd, 1) := by decide +kernel
theorem dX4_keepsDesignation_32 : decode cX4_keepsDesignation 32 = .ok (.iaload, 1) := by decide +kernel
theorem dX4_keepsDesignation_33 : decode cX4_keepsDesignation 33 = .ok (.invokevirtual 25, 3) := by decide +kernel
theorem dX4_keepsDesignation_36 : decode cX4_keepsDesignation 36 = .ok (.ifCond .eq 13, 3) := by decide +kernel
theorem dX4_keepsDesignation_39 : decode cX4_keepsDesignation 39 = .ok (.aload_n 0, 1) := by decide +kernel
theorem dX4_keepsDesignation_40 : decode cX4_keepsDesignation 40 = .ok (.iload_n 2, 1) := by decide +kernel
theorem dX4_keepsDesignation_41 : decode cX4_keepsDesignation 41 = .ok (.invokevirtual 25, 3) := by decide +kernel
theorem dX4_keepsDesignation_44 : decode cX4_keepsDesignation 44 = .ok (.ifCond .ne 5, 3) := by decide +kernel
theorem dX4_keepsDesignation_47 : decode cX4_keepsDesignation 47 = .ok (.iconst 0, 1) := by decide +kernel
theorem dX4_keepsDesignation_48 : decode cX4_keepsDesignation 48 = .ok (.ireturn, 1) := by decide +kernel
theorem dX4_keepsDesignation_49 : decode cX4_keepsDesignation 49 = .ok (.iinc 2 1, 3) := by decide +kernel
theorem dX4_keepsDesignation_52 : decode cX4_keepsDesignation 52 = .ok (.goto (-43), 3) := by decide +kernel
theorem dX4_keepsDesignation_55 : decode cX4_keepsDesignation 55 = .ok (.iinc 1 1, 3) := by decide +kernel
theorem dX4_keepsDesignation_58 : decode cX4_keepsDesignation 58 = .ok (.goto (-56), 3) := by decide +kernel
theorem dX4_keepsDesignation_61 : decode cX4_keepsDesignation 61 = .ok (.iconst 1, 1) := by decide +kernel
theorem dX4_keepsDesignation_62 : decode cX4_keepsDesignation 62 = .ok (.ireturn, 1) := by decide +kernel
def kX4_keepsDesignation_49 (N : Nat) (rec : Int32 → qM → Option ((qM) ⊕ (Int32 × qM))) (v0 : Nat) (v1 : Int32) (v2 : Int32)  (m0 : qM) : Option ((qM) ⊕ (Int32 × qM)) :=
  rec (v2 + (1 : Int32)) m0
set_option maxRecDepth 100000 in
theorem kbX4_keepsDesignation_49 {E : qE} {N d bc bs : Nat} (hd : 1 ≤ d) {v0 : Nat} {v1 : Int32} {v2 : Int32}  {m0 : qM} {rec : Int32 → qM → Option ((qM) ⊕ (Int32 × qM))} (hrec : ∀ (v2 : Int32) (m : qM), qB E yX4_keepsDesignation cX4_keepsDesignation 3 (some .boolean) (fun _ => True) d bc bs 9 [(0, .ref (E.2.1 + v0)), (1, .int v1), (2, .int v2)] [] m (rec v2 m) (qGL (fun o rr => qJ E yX4_keepsDesignation cX4_keepsDesignation 3 (some .boolean) (fun _ => True) d bc bs 55 [(0, .ref (E.2.1 + v0)), (1, .int v1)] [] o rr) (fun r => (some (.int r.1), r.2)))) : qB E yX4_keepsDesignation cX4_keepsDesignation 3 (some .boolean) (fun _ => True) d bc bs 49 [(0, .ref (E.2.1 + v0)), (1, .int v1), (2, .int v2)] [] m0 (kX4_keepsDesignation_49 N rec v0 v1 v2 m0) (qGL (fun o rr => qJ E yX4_keepsDesignation cX4_keepsDesignation 3 (some .boolean) (fun _ => True) d bc bs 55 [(0, .ref (E.2.1 + v0)), (1, .int v1)] [] o rr) (fun r => (some (.int r.1), r.2))) := by
  unfold kX4_keepsDesignation_49
  refine j_iinc (q := 2) (np := 52) (lv2 := [(2, .int (v2 + (1 : Int32))), (0, .ref (E.2.1 + v0)), (1, .int v1)]) rfl (congrArg _ ci_1) (by decide) dX4_keepsDesignation_49 rfl rfl ?_
  refine j_goto (tgt := 9) dX4_keepsDesignation_52 rfl ?_
  refine j_sub (lv2 := [(0, .ref (E.2.1 + v0)), (1, .int v1), (2, .int (v2 + (1 : Int32)))]) [1, 2, 0] rfl ?_
  exact hrec _ _
def lX4_keepsDesignation_9 (N : Nat) (v0 : Nat) (v1 : Int32) : Nat → Int32 → qM → Option ((qM) ⊕ (Int32 × qM))
  | 0, _, _ => none
  | n + 1, v2, m0 =>
    if (3 : Int32) ≤ v2 then (
    some (.inl m0)
    ) else (
    (qChk m0 v0 4 (fX4_isDesignated N v0 v1 m0)).bind fun b1 =>
    if b1.1 = 0 then (
    kX4_keepsDesignation_49 N (lX4_keepsDesignation_9 N v0 v1 n) v0 v1 v2 b1.2
    ) else (
    (qgR b1.2 v0 4 0).bind fun x2 =>
    (qaI b1.2 x2 12 (((3 : Int32) * v1) + v2)).bind fun x3 =>
    (qChk b1.2 v0 4 (fX4_isDesignated N v0 x3 b1.2)).bind fun b4 =>
    if b4.1 = 0 then (
    kX4_keepsDesignation_49 N (lX4_keepsDesignation_9 N v0 v1 n) v0 v1 v2 b4.2
    ) else (
    (qChk b4.2 v0 4 (fX4_isDesignated N v0 v2 b4.2)).bind fun b5 =>
    if b5.1 = 0 then (
    some (.inr ((0 : Int32), b5.2))
    ) else (
    kX4_keepsDesignation_49 N (lX4_keepsDesignation_9 N v0 v1 n) v0 v1 v2 b5.2
    )
    )
    )
    )
set_option maxRecDepth 100000 in
theorem lbX4_keepsDesignation_9 {E : qE} {N d bc bs : Nat} (hd : 1 ≤ d) {v0 : Nat} {v1 : Int32} : ∀ (n : Nat) (v2 : Int32) (m0 : qM), qB E yX4_keepsDesignation cX4_keepsDesignation 3 (some .boolean) (fun _ => True) d bc bs 9 [(0, .ref (E.2.1 + v0)), (1, .int v1), (2, .int v2)] [] m0 (lX4_keepsDesignation_9 N v0 v1 n v2 m0) (qGL (fun o rr => qJ E yX4_keepsDesignation cX4_keepsDesignation 3 (some .boolean) (fun _ => True) d bc bs 55 [(0, .ref (E.2.1 + v0)), (1, .int v1)] [] o rr) (fun r => (some (.int r.1), r.2))) := by
  intro n
  induction n with
  | zero =>
    intro v2 m0
    exact j_none
  | succ n ih =>
    intro v2 m0
    unfold lX4_keepsDesignation_9
    refine j_iload_n (q := 2) (np := 10) rfl rfl dX4_keepsDesignation_9 rfl ?_
    refine j_iconst (np := 11) ci_3 dX4_keepsDesignation_10 rfl ?_
    refine j_icmp_ge (tgt := 55) (np := 14) dX4_keepsDesignation_11 rfl rfl ?_ ?_
    · refine j_sub (lv2 := [(0, .ref (E.2.1 + v0)), (1, .int v1)]) [0, 1] rfl ?_
      exact j_exit (fun rr h => h)
    · refine j_aload_n (q := 0) (np := 15) rfl rfl dX4_keepsDesignation_14 rfl ?_
      refine j_iload_n (q := 1) (np := 16) rfl rfl dX4_keepsDesignation_15 rfl ?_
      refine j_callVi (ci := 4) (np := 19) (bc := bc) (bs := bs) (cb := 0) (cs := 0) (dd := d - 1) (As := [.int v1]) (st := []) caX4_isDesignated mlX4_25 imX4_isDesignated seX4_isDesignated rfl rfl (by decide) (fun b hb => wX4_isDesignated (by omega) hb) (by omega) rfl rfl (Nat.le_of_ble_eq_true rfl) dX4_keepsDesignation_16 rfl (fun b1 => ?_)
      refine j_if_eq (tgt := 49) (np := 22) dX4_keepsDesignation_19 rfl rfl ?_ ?_
      · exact kbX4_keepsDesignation_49 hd ih
      · refine j_aload_n (q := 0) (np := 23) rfl rfl dX4_keepsDesignation_22 rfl ?_
        refine j_aload_n (q := 0) (np := 24) rfl rfl dX4_keepsDesignation_23 rfl ?_
        refine j_gR (np := 27) flX4_9 dX4_keepsDesignation_24 rfl (fun x2 => ?_)
        refine j_iconst (np := 28) ci_3 dX4_keepsDesignation_27 rfl ?_
        refine j_iload_n (q := 1) (np := 29) rfl rfl dX4_keepsDesignation_28 rfl ?_
        refine j_imul (np := 30) dX4_keepsDesignation_29 rfl ?_
        refine j_iload_n (q := 2) (np := 31) rfl rfl dX4_keepsDesignation_30 rfl ?_
        refine j_iadd (np := 32) dX4_keepsDesignation_31 rfl ?_
        refine j_iaload (np := 33) dX4_keepsDesignation_32 rfl (fun x3 => ?_)
        refine j_callVi (ci := 4) (np := 36) (bc := bc) (bs := bs) (cb := 0) (cs := 0) (dd := d - 1) (As := [.int x3]) (st := []) caX4_isDesignated mlX4_25 imX4_isDesignated seX4_isDesignated rfl rfl (by decide) (fun b hb => wX4_isDesignated (by omega) hb) (by omega) rfl rfl (Nat.le_of_ble_eq_true rfl) dX4_keepsDesignation_33 rfl (fun b4 => ?_)
        refine j_if_eq (tgt := 49) (np := 39) dX4_keepsDesignation_36 rfl rfl ?_ ?_
        · exact kbX4_keepsDesignation_49 hd ih
        · refine j_aload_n (q := 0) (np := 40) rfl rfl dX4_keepsDesignation_39 rfl ?_
          refine j_iload_n (q := 2) (np := 41) rfl rfl dX4_keepsDesignation_40 rfl ?_
          refine j_callVi (ci := 4) (np := 44) (bc := bc) (bs := bs) (cb := 0) (cs := 0) (dd := d - 1) (As := [.int v2]) (st := []) caX4_isDesignated mlX4_25 imX4_isDesignated seX4_isDesignated rfl rfl (by decide) (fun b hb => wX4_isDesignated (by omega) hb) (by omega) rfl rfl (Nat.le_of_ble_eq_true rfl) dX4_keepsDesignation_41 rfl (fun b5 => ?_)
          refine j_if_ne (tgt := 49) (np := 47) dX4_keepsDesignation_44 rfl rfl ?_ ?_
          · exact kbX4_keepsDesignation_49 hd ih
          · refine j_iconst (np := 48) ci_0 dX4_keepsDesignation_47 rfl ?_
            exact j_zret rfl dX4_keepsDesignation_48 (fun rr h => by rw [z0]; exact h)
def lX4_keepsDesignation_2 (N : Nat) (v0 : Nat) : Nat → Int32 → qM → Option ((qM) ⊕ (Int32 × qM))
  | 0, _, _ => none
  | n + 1, v1, m0 =>
    if (3 : Int32) ≤ v1 then (
    some (.inl m0)
    ) else (
    qTh (lX4_keepsDesignation_9 N v0 v1 N (0 : Int32) m0) (fun o1 =>
    lX4_keepsDesignation_2 N v0 n (v1 + (1 : Int32)) o1
    ) (fun r => .inr r)
    )
set_option maxRecDepth 100000 in
theorem lbX4_keepsDesignation_2 {E : qE} {N d bc bs : Nat} (hd : 1 ≤ d) {v0 : Nat} : ∀ (n : Nat) (v1 : Int32) (m0 : qM), qB E yX4_keepsDesignation cX4_keepsDesignation 3 (some .boolean) (fun _ => True) d bc bs 2 [(0, .ref (E.2.1 + v0)), (1, .int v1)] [] m0 (lX4_keepsDesignation_2 N v0 n v1 m0) (qGL (fun o rr => qJ E yX4_keepsDesignation cX4_keepsDesignation 3 (some .boolean) (fun _ => True) d bc bs 61 [] [] o rr) (fun r => (some (.int r.1), r.2))) := by
  intro n
  induction n with
  | zero =>
    intro v1 m0
    exact j_none
  | succ n ih =>
    intro v1 m0
    unfold lX4_keepsDesignation_2
    refine j_iload_n (q := 1) (np := 3) rfl rfl dX4_keepsDesignation_2 rfl ?_
    refine j_iconst (np := 4) ci_3 dX4_keepsDesignation_3 rfl ?_
    refine j_icmp_ge (tgt := 61) (np := 7) dX4_keepsDesignation_4 rfl rfl ?_ ?_
    · refine j_sub (lv2 := []) [] rfl ?_
      exact j_exit (fun rr h => h)
    · refine j_iconst (np := 8) ci_0 dX4_keepsDesignation_7 rfl ?_
      refine j_istore_n (np := 9) (lv2 := [(2, .int (0 : Int32)), (0, .ref (E.2.1 + v0)), (1, .int v1)]) rfl (by decide) dX4_keepsDesignation_8 rfl rfl ?_
      refine j_sub (lv2 := [(0, .ref (E.2.1 + v0)), (1, .int v1), (2, .int (0 : Int32))]) [1, 2, 0] rfl ?_
      refine j_loopG (xp := 55) (lvX := fun o1 => [(0, .ref (E.2.1 + v0)), (1, .int v1)]) (mX := fun o1 => o1) (lbX4_keepsDesignation_9 hd _ _ _) (fun r rr h => h) (fun o1 => ?_)
      refine j_iinc (q := 1) (np := 58) (lv2 := [(1, .int (v1 + (1 : Int32))), (0, .ref (E.2.1 + v0))]) rfl (congrArg _ ci_1) (by decide) dX4_keepsDesignation_55 rfl rfl ?_
      refine j_goto (tgt := 2) dX4_keepsDesignation_58 rfl ?_
      refine j_sub (lv2 := [(0, .ref (E.2.1 + v0)), (1, .int (v1 + (1 : Int32)))]) [1, 0] rfl ?_
      exact ih _ _
def fX4_keepsDesignation (N : Nat) (v0 : Nat) (m0 : qM) : Option (Int32 × qM) :=
  qTh (lX4_keepsDesignation_2 N v0 N (0 : Int32) m0) (fun o1 =>
  some ((1 : Int32), o1)
  ) (fun r => r)
set_option maxRecDepth 100000 in
theorem bX4_keepsDesignation {E : qE} {N d bc bs : Nat} (hd : 1 ≤ d) {v0 : Nat} {m0 : qM} : qB E yX4_keepsDesignation cX4_keepsDesignation 3 (some .boolean) (fun _ => True) d bc bs 0 [(0, .ref (E.2.1 + v0))] [] m0 (fX4_keepsDesignation N v0 m0) (fun b rr => rr = (some (.int b.1), b.2)) := by
  unfold fX4_keepsDesignation
  refine j_iconst (np := 1) ci_0 dX4_keepsDesignation_0 rfl ?_
  refine j_istore_n (np := 2) (lv2 := [(1, .int (0 : Int32)), (0, .ref (E.2.1 + v0))]) rfl (by decide) dX4_keepsDesignation_1 rfl rfl ?_
  refine j_sub (lv2 := [(0, .ref (E.2.1 + v0)), (1, .int (0 : Int32))]) [1, 0] rfl ?_
  refine j_loopG (xp := 61) (lvX := fun o1 => []) (mX := fun o1 => o1) (lbX4_keepsDesignation_2 hd _ _ _) (fun r rr h => h) (fun o1 => ?_)
  refine j_iconst (np := 62) ci_1 dX4_keepsDesignation_61 rfl ?_
  exact j_zret rfl dX4_keepsDesignation_62 (fun rr h => by rw [z1]; exact h)
set_option maxRecDepth 100000 in
theorem wX4_keepsDesignation {E : qE} {N d : Nat} (hd : 1 ≤ d) {v0 : Nat} {m0 : qM} {b : Int32 × qM} (h : fX4_keepsDesignation N v0 m0 = some b) : qRun E yX4_keepsDesignation cX4_keepsDesignation 3 (some .boolean) d 0 0 [.ref (E.2.1 + v0)] m0 (some (.int b.1), b.2) := q_met pnX4 (Nat.le_of_ble_eq_true rfl) (bX4_keepsDesignation hd b _ h rfl)
theorem dX4_nextValuation_0 : decode cX4_nextValuation 0 = .ok (.iload_n 1, 1) := by decide +kernel
theorem dX4_nextValuation_1 : decode cX4_nextValuation 1 = .ok (.iconst 1, 1) := by decide +kernel
theorem dX4_nextValuation_2 : decode cX4_nextValuation 2 = .ok (.isub, 1) := by decide +kernel
theorem dX4_nextValuation_3 : decode cX4_nextValuation 3 = .ok (.istore_n 2, 1) := by decide +kernel
theorem dX4_nextValuation_4 : decode cX4_nextValuation 4 = .ok (.iload_n 2, 1) := by decide +kernel
theorem dX4_nextValuation_5 : decode cX4_nextValuation 5 = .ok (.ifCond .lt 26, 3) := by decide +kernel
theorem dX4_nextValuation_8 : decode cX4_nextValuation 8 = .ok (.aload_n 0, 1) := by decide +kernel
theorem dX4_nextValuation_9 : decode cX4_nextValuation 9 = .ok (.getfield 15, 3) := by decide +kernel
theorem dX4_nextValuation_12 : decode cX4_nextValuation 12 = .ok (.iload_n 2, 1) := by decide +kernel
theorem dX4_nextValuation_13 : decode cX4_nextValuation 13 = .ok (.iaload, 1) := by decide +kernel
theorem dX4_nextValuation_14 : decode cX4_nextValuation 14 = .ok (.iconst 2, 1) := by decide +kernel
theorem dX4_nextValuation_15 : decode cX4_nextValuation 15 = .ok (.if_icmp .ne 16, 3) := by decide +kernel
theorem dX4_nextValuation_18 : decode cX4_nextValuation 18 = .ok (.aload_n 0, 1) := by decide +kernel
theorem dX4_nextValuation_19 : decode cX4_nextValuation 19 = .ok (.getfield 15, 3) := by decide +kernel
theorem dX4_nextValuation_22 : decode cX4_nextValuation 22 = .ok (.iload_n 2, 1) := by decide +kernel
theorem dX4_nextValuation_23 : decode cX4_nextValuation 23 = .ok (.iconst 0, 1) := by decide +kernel
theorem dX4_nextValuation_24 : decode cX4_nextValuation 24 = .ok (.iastore, 1) := by decide +kernel
theorem dX4_nextValuation_25 : decode cX4_nextValuation 25 = .ok (.iinc 2 (-1), 3) := by decide +kernel
theorem dX4_nextValuation_28 : decode cX4_nextValuation 28 = .ok (.goto (-24), 3) := by decide +kernel
theorem dX4_nextValuation_31 : decode cX4_nextValuation 31 = .ok (.iload_n 2, 1) := by decide +kernel
theorem dX4_nextValuation_32 : decode cX4_nextValuation 32 = .ok (.ifCond .lt 13, 3) := by decide +kernel
theorem dX4_nextValuation_35 : decode cX4_nextValuation 35 = .ok (.aload_n 0, 1) := by decide +kernel
theorem dX4_nextValuation_36 : decode cX4_nextValuation 36 = .ok (.getfield 15, 3) := by decide +kernel
theorem dX4_nextValuation_39 : decode cX4_nextValuation 39 = .ok (.iload_n 2, 1) := by decide +kernel
theorem dX4_nextValuation_40 : decode cX4_nextValuation 40 = .ok (.dup2, 1) := by decide +kernel
theorem dX4_nextValuation_41 : decode cX4_nextValuation 41 = .ok (.iaload, 1) := by decide +kernel
theorem dX4_nextValuation_42 : decode cX4_nextValuation 42 = .ok (.iconst 1, 1) := by decide +kernel
theorem dX4_nextValuation_43 : decode cX4_nextValuation 43 = .ok (.iadd, 1) := by decide +kernel
theorem dX4_nextValuation_44 : decode cX4_nextValuation 44 = .ok (.iastore, 1) := by decide +kernel
theorem dX4_nextValuation_45 : decode cX4_nextValuation 45 = .ok (.return_, 1) := by decide +kernel
def lX4_nextValuation_4 (N : Nat) (v0 : Nat) : Nat → Int32 → qM → Option (Int32 × qM)
  | 0, _, _ => none
  | n + 1, v2, m0 =>
    if v2 < 0 then (
    some (v2, m0)
    ) else (
    (qgR m0 v0 4 1).bind fun x1 =>
    (qaI m0 x1 12 v2).bind fun x2 =>
    if x2 = (2 : Int32) then (
    (qgR m0 v0 4 1).bind fun x3 =>
    (qwI m0 x3 12 v2 (0 : Int32)).bind fun m4 =>
    lX4_nextValuation_4 N v0 n (v2 + (-1 : Int32)) m4
    ) else (
    some (v2, m0)
    )
    )
set_option maxRecDepth 100000 in
theorem lbX4_nextValuation_4 {E : qE} {N d bc bs : Nat} (hd : 0 ≤ d) {v0 : Nat} : ∀ (n : Nat) (v2 : Int32) (m0 : qM), qB E yX4_nextValuation cX4_nextValuation 3 none (fun _ => True) d bc bs 4 [(0, .ref (E.2.1 + v0)), (2, .int v2)] [] m0 (lX4_nextValuation_4 N v0 n v2 m0) (fun o rr => qJ E yX4_nextValuation cX4_nextValuation 3 none (fun _ => True) d bc bs 31 [(0, .ref (E.2.1 + v0)), (2, .int o.1)] [] o.2 rr) := by
  intro n
  induction n with
  | zero =>
    intro v2 m0
    exact j_none
  | succ n ih =>
    intro v2 m0
    unfold lX4_nextValuation_4
    refine j_iload_n (q := 1) (np := 5) rfl rfl dX4_nextValuation_4 rfl ?_
    refine j_if_lt (tgt := 31) (np := 8) dX4_nextValuation_5 rfl rfl ?_ ?_
    · exact j_exit (fun rr h => h)
    · refine j_aload_n (q := 0) (np := 9) rfl rfl dX4_nextValuation_8 rfl ?_
      refine j_gR (np := 12) flX4_15 dX4_nextValuation_9 rfl (fun x1 => ?_)
      refine j_iload_n (q := 1) (np := 13) rfl rfl dX4_nextValuation_12 rfl ?_
      refine j_iaload (np := 14) dX4_nextValuation_13 rfl (fun x2 => ?_)
      refine j_iconst (np := 15) ci_2 dX4_nextValuation_14 rfl ?_
      refine j_icmp_ne (tgt := 31) (np := 18) dX4_nextValuation_15 rfl rfl ?_ ?_
      · exact j_exit (fun rr h => h)
      · refine j_aload_n (q := 0) (np := 19) rfl rfl dX4_nextValuation_18 rfl ?_
        refine j_gR (np := 22) flX4_15 dX4_nextValuation_19 rfl (fun x3 => ?_)
        refine j_iload_n (q := 1) (np := 23) rfl rfl dX4_nextValuation_22 rfl ?_
        refine j_iconst (np := 24) ci_0 dX4_nextValuation_23 rfl ?_
        refine j_iastore (np := 25) dX4_nextValuation_24 rfl (fun m4 => ?_)
        refine j_iinc (q := 1) (np := 28) (lv2 := [(2, .int (v2 + (-1 : Int32))), (0, .ref (E.2.1 + v0))]) rfl (congrArg _ ci_m1) (by decide) dX4_nextValuation_25 rfl rfl ?_
        refine j_goto (tgt := 4) dX4_nextValuation_28 rfl ?_
        refine j_sub (lv2 := [(0, .ref (E.2.1 + v0)), (2, .int (v2 + (-1 : Int32)))]) [1, 0] rfl ?_
        exact ih _ _
def fX4_nextValuation (N : Nat) (v0 : Nat) (v1 : Int32) (m0 : qM) : Option (qM) :=
  (lX4_nextValuation_4 N v0 N (v1 - (1 : Int32)) m0).bind fun o1 =>
  if o1.1 < 0 then (
  some o1.2
  ) else (
  (qgR o1.2 v0 4 1).bind fun x2 =>
  (qaI o1.2 x2 12 o1.1).bind fun x3 =>
  (qwI o1.2 x2 12 o1.1 (x3 + (1 : Int32))).bind fun m4 =>
  some m4
  )
set_option maxRecDepth 100000 in
theorem bX4_nextValuation {E : qE} {N d bc bs : Nat} (hd : 0 ≤ d) {v0 : Nat} {v1 : Int32} {m0 : qM} : qB E yX4_nextValuation cX4_nextValuation 3 none (fun _ => True) d bc bs 0 [(0, .ref (E.2.1 + v0)), (1, .int v1)] [] m0 (fX4_nextValuation N v0 v1 m0) (fun b rr => rr = (none, b)) := by
  unfold fX4_nextValuation
  refine j_iload_n (q := 1) (np := 1) rfl rfl dX4_nextValuation_0 rfl ?_
  refine j_iconst (np := 2) ci_1 dX4_nextValuation_1 rfl ?_
  refine j_isub (np := 3) dX4_nextValuation_2 rfl ?_
  refine j_istore_n (np := 4) (lv2 := [(2, .int (v1 - (1 : Int32))), (0, .ref (E.2.1 + v0)), (1, .int v1)]) rfl (by decide) dX4_nextValuation_3 rfl rfl ?_
  refine j_sub (lv2 := [(0, .ref (E.2.1 + v0)), (2, .int (v1 - (1 : Int32)))]) [1, 0] rfl ?_
  refine j_loop (xp := 31) (lvX := fun o1 => [(0, .ref (E.2.1 + v0)), (2, .int o1.1)]) (mX := fun o1 => o1.2) (lbX4_nextValuation_4 hd _ _ _) (fun o1 => ?_)
  refine j_iload_n (q := 1) (np := 32) rfl rfl dX4_nextValuation_31 rfl ?_
  refine j_if_lt (tgt := 45) (np := 35) dX4_nextValuation_32 rfl rfl ?_ ?_
  · exact j_vret rfl dX4_nextValuation_45 (fun rr h => h)
  · refine j_aload_n (q := 0) (np := 36) rfl rfl dX4_nextValuation_35 rfl ?_
    refine j_gR (np := 39) flX4_15 dX4_nextValuation_36 rfl (fun x2 => ?_)
    refine j_iload_n (q := 1) (np := 40) rfl rfl dX4_nextValuation_39 rfl ?_
    refine j_dup2 (np := 41) rfl rfl dX4_nextValuation_40 rfl ?_
    refine j_iaload (np := 42) dX4_nextValuation_41 rfl (fun x3 => ?_)
    refine j_iconst (np := 43) ci_1 dX4_nextValuation_42 rfl ?_
    refine j_iadd (np := 44) dX4_nextValuation_43 rfl ?_
    refine j_iastore (np := 45) dX4_nextValuation_44 rfl (fun m4 => ?_)
    exact j_vret rfl dX4_nextValuation_45 (fun rr h => h)
set_option maxRecDepth 100000 in
theorem wX4_nextValuation {E : qE} {N d : Nat} (hd : 0 ≤ d) {v0 : Nat} {v1 : Int32} {m0 : qM} {b : qM} (h : fX4_nextValuation N v0 v1 m0 = some b) : qRun E yX4_nextValuation cX4_nextValuation 3 none d 0 0 [.ref (E.2.1 + v0), .int v1] m0 (none, b) := q_met pnX4 (Nat.le_of_ble_eq_true rfl) (bX4_nextValuation hd b _ h rfl)
theorem dX4_startValuations_0 : decode cX4_startValuations 0 = .ok (.aload_n 0, 1) := by decide +kernel
theorem dX4_startValuations_1 : decode cX4_startValuations 1 = .ok (.getfield 15, 3) := by decide +kernel
theorem dX4_startValuations_4 : decode cX4_startValuations 4 = .ok (.iconst 0, 1) := by decide +kernel
theorem dX4_startValuations_5 : decode cX4_startValuations 5 = .ok (.invokestatic 47, 3) := by decide +kernel
theorem dX4_startValuations_8 : decode cX4_startValuations 8 = .ok (.iconst 1, 1) := by decide +kernel
theorem dX4_startValuations_9 : decode cX4_startValuations 9 = .ok (.istore_n 2, 1) := by decide +kernel
theorem dX4_startValuations_10 : decode cX4_startValuations 10 = .ok (.iconst 0, 1) := by decide +kernel
theorem dX4_startValuations_11 : decode cX4_startValuations 11 = .ok (.istore_n 3, 1) := by decide +kernel
theorem dX4_startValuations_12 : decode cX4_startValuations 12 = .ok (.iload_n 3, 1) := by decide +kernel
theorem dX4_startValuations_13 : decode cX4_startValuations 13 = .ok (.iload_n 1, 1) := by decide +kernel
theorem dX4_startValuations_14 : decode cX4_startValuations 14 = .ok (.if_icmp .ge 13, 3) := by decide +kernel
theorem dX4_startValuations_17 : decode cX4_startValuations 17 = .ok (.iload_n 2, 1) := by decide +kernel
theorem dX4_startValuations_18 : decode cX4_startValuations 18 = .ok (.iconst 3, 1) := by decide +kernel
theorem dX4_startValuations_19 : decode cX4_startValuations 19 = .ok (.imul, 1) := by decide +kernel
theorem dX4_startValuations_20 : decode cX4_startValuations 20 = .ok (.istore_n 2, 1) := by decide +kernel
theorem dX4_startValuations_21 : decode cX4_startValuations 21 = .ok (.iinc 3 1, 3) := by decide +kernel
theorem dX4_startValuations_24 : decode cX4_startValuations 24 = .ok (.goto (-12), 3) := by decide +kernel
theorem dX4_startValuations_27 : decode cX4_startValuations 27 = .ok (.iload_n 2, 1) := by decide +kernel
theorem dX4_startValuations_28 : decode cX4_startValuations 28 = .ok (.ireturn, 1) := by decide +kernel
def lX4_startValuations_12 (N : Nat) (v1 : Int32) : Nat → Int32 → Int32 → qM → Option (Int32 × qM)
  | 0, _, _, _ => none
  | n + 1, v2, v3, m0 =>
    if v1 ≤ v3 then (
    some (v2, m0)
    ) else (
    lX4_startValuations_12 N v1 n (v2 * (3 : Int32)) (v3 + (1 : Int32)) m0
    )
set_option maxRecDepth 100000 in
theorem lbX4_startValuations_12 {E : qE} {N d bc bs : Nat} (hd : 1 ≤ d) {v1 : Int32} : ∀ (n : Nat) (v2 : Int32) (v3 : Int32) (m0 : qM), qB E yX4_startValuations cX4_startValuations 4 (some .int) (fun _ => True) d bc bs 12 [(1, .int v1), (2, .int v2), (3, .int v3)] [] m0 (lX4_startValuations_12 N v1 n v2 v3 m0) (fun o rr => qJ E yX4_startValuations cX4_startValuations 4 (some .int) (fun _ => True) d bc bs 27 [(2, .int o.1)] [] o.2 rr) := by
  intro n
  induction n with
  | zero =>
    intro v2 v3 m0
    exact j_none
  | succ n ih =>
    intro v2 v3 m0
    unfold lX4_startValuations_12
    refine j_iload_n (q := 2) (np := 13) rfl rfl dX4_startValuations_12 rfl ?_
    refine j_iload_n (q := 0) (np := 14) rfl rfl dX4_startValuations_13 rfl ?_
    refine j_icmp_ge (tgt := 27) (np := 17) dX4_startValuations_14 rfl rfl ?_ ?_
    · refine j_sub (lv2 := [(2, .int v2)]) [1] rfl ?_
      exact j_exit (fun rr h => h)
    · refine j_iload_n (q := 1) (np := 18) rfl rfl dX4_startValuations_17 rfl ?_
      refine j_iconst (np := 19) ci_3 dX4_startValuations_18 rfl ?_
      refine j_imul (np := 20) dX4_startValuations_19 rfl ?_
      refine j_istore_n (np := 21) (lv2 := [(2, .int (v2 * (3 : Int32))), (1, .int v1), (3, .int v3)]) rfl (by decide) dX4_startValuations_20 rfl rfl ?_
      refine j_iinc (q := 2) (np := 24) (lv2 := [(3, .int (v3 + (1 : Int32))), (2, .int (v2 * (3 : Int32))), (1, .int v1)]) rfl (congrArg _ ci_1) (by decide) dX4_startValuations_21 rfl rfl ?_
      refine j_goto (tgt := 12) dX4_startValuations_24 rfl ?_
      refine j_sub (lv2 := [(1, .int v1), (2, .int (v2 * (3 : Int32))), (3, .int (v3 + (1 : Int32)))]) [2, 1, 0] rfl ?_
      exact ih _ _ _
def fX4_startValuations (N : Nat) (v0 : Nat) (v1 : Int32) (m0 : qM) : Option (Int32 × qM) :=
  (qgR m0 v0 4 1).bind fun x1 =>
  (fJ7_fill_53178 N x1 (0 : Int32) m0).bind fun b2 =>
  (lX4_startValuations_12 N v1 N (1 : Int32) (0 : Int32) b2).bind fun o3 =>
  some (o3.1, o3.2)
set_option maxRecDepth 100000 in
theorem bX4_startValuations {E : qE} {N d bc bs : Nat} (hd : 1 ≤ d) {v0 : Nat} {v1 : Int32} {m0 : qM} : qB E yX4_startValuations cX4_startValuations 4 (some .int) (fun _ => True) d bc bs 0 [(0, .ref (E.2.1 + v0)), (1, .int v1)] [] m0 (fX4_startValuations N v0 v1 m0) (fun b rr => rr = (some (.int b.1), b.2)) := by
  unfold fX4_startValuations
  refine j_aload_n (q := 0) (np := 1) rfl rfl dX4_startValuations_0 rfl ?_
  refine j_gR (np := 4) flX4_15 dX4_startValuations_1 rfl (fun x1 => ?_)
  refine j_iconst (np := 5) ci_0 dX4_startValuations_4 rfl ?_
  refine j_callSv (np := 8) (bc := bc) (bs := bs) (cb := 0) (cs := 0) (dd := d - 1) (As := [.ref (E.2.1 + x1), .int (0 : Int32)]) (st := []) caJ7_fill_53178 mlX4_47 stJ7_fill_53178 (fun b hb => wJ7_fill_53178 (by omega) hb) (by omega) rfl rfl (Nat.le_of_ble_eq_true rfl) dX4_startValuations_5 rfl (fun b2 => ?_)
  refine j_iconst (np := 9) ci_1 dX4_startValuations_8 rfl ?_
  refine j_istore_n (np := 10) (lv2 := [(2, .int (1 : Int32)), (0, .ref (E.2.1 + v0)), (1, .int v1)]) rfl (by decide) dX4_startValuations_9 rfl rfl ?_
  refine j_iconst (np := 11) ci_0 dX4_startValuations_10 rfl ?_
  refine j_istore_n (np := 12) (lv2 := [(3, .int (0 : Int32)), (2, .int (1 : Int32)), (0, .ref (E.2.1 + v0)), (1, .int v1)]) rfl (by decide) dX4_startValuations_11 rfl rfl ?_
  refine j_sub (lv2 := [(1, .int v1), (2, .int (1 : Int32)), (3, .int (0 : Int32))]) [3, 1, 0] rfl ?_
  refine j_loop (xp := 27) (lvX := fun o3 => [(2, .int o3.1)]) (mX := fun o3 => o3.2) (lbX4_startValuations_12 hd _ _ _ _) (fun o3 => ?_)
  refine j_iload_n (q := 0) (np := 28) rfl rfl dX4_startValuations_27 rfl ?_
  exact j_iret rfl dX4_startValuations_28 (fun rr h => h)
set_option maxRecDepth 100000 in
theorem wX4_startValuations {E : qE} {N d : Nat} (hd : 1 ≤ d) {v0 : Nat} {v1 : Int32} {m0 : qM} {b : Int32 × qM} (h : fX4_startValuations N v0 v1 m0 = some b) : qRun E yX4_startValuations cX4_startValuations 4 (some .int) d 0 0 [.ref (E.2.1 + v0), .int v1] m0 (some (.int b.1), b.2) := q_met pnX4 (Nat.le_of_ble_eq_true rfl) (bX4_startValuations hd b _ h rfl)
theorem dX4_valueOf_0 : decode cX4_valueOf 0 = .ok (.iconst 0, 1) := by decide +kernel
theorem dX4_valueOf_1 : decode cX4_valueOf 1 = .ok (.istore_n 2, 1) := by decide +kernel
theorem dX4_valueOf_2 : decode cX4_valueOf 2 = .ok (.aload_n 1, 1) := by decide +kernel
theorem dX4_valueOf_3 : decode cX4_valueOf 3 = .ok (.invokevirtual 53, 3) := by decide +kernel
theorem dX4_valueOf_6 : decode cX4_valueOf 6 = .ok (.iconst 1, 1) := by decide +kernel
theorem dX4_valueOf_7 : decode cX4_valueOf 7 = .ok (.isub, 1) := by decide +kernel
theorem dX4_valueOf_8 : decode cX4_valueOf 8 = .ok (.istore_n 3, 1) := by decide +kernel
theorem dX4_valueOf_9 : decode cX4_valueOf 9 = .ok (.iload_n 3, 1) := by decide +kernel
theorem dX4_valueOf_10 : decode cX4_valueOf 10 = .ok (.ifCond .lt 79, 3) := by decide +kernel
theorem dX4_valueOf_13 : decode cX4_valueOf 13 = .ok (.aload_n 1, 1) := by decide +kernel
theorem dX4_valueOf_14 : decode cX4_valueOf 14 = .ok (.iload_n 3, 1) := by decide +kernel
theorem dX4_valueOf_15 : decode cX4_valueOf 15 = .ok (.invokevirtual 56, 3) := by decide +kernel
theorem dX4_valueOf_18 : decode cX4_valueOf 18 = .ok (.istore 4, 2) := by decide +kernel
theorem dX4_valueOf_20 : decode cX4_valueOf 20 = .ok (.iload 4, 2) := by decide +kernel
theorem dX4_valueOf_22 : decode cX4_valueOf 22 = .ok (.iconst (-1), 1) := by decide +kernel
theorem dX4_valueOf_23 : decode cX4_valueOf 23 = .ok (.if_icmp .eq 22, 3) := by decide +kernel
theorem dX4_valueOf_26 : decode cX4_valueOf 26 = .ok (.aload_n 0, 1) := by decide +kernel
theorem dX4_valueOf_27 : decode cX4_valueOf 27 = .ok (.getfield 18, 3) := by decide +kernel
theorem dX4_valueOf_30 : decode cX4_valueOf 30 = .ok (.iload_n 2, 1) := by decide +kernel
theorem dX4_valueOf_31 : decode cX4_valueOf 31 = .ok (.aload_n 0, 1) := by decide +kernel
theorem dX4_valueOf_32 : decode cX4_valueOf 32 = .ok (.getfield 15, 3) := by decide +kernel
theorem dX4_valueOf_35 : decode cX4_valueOf 35 = .ok (.iload 4, 2) := by decide +kernel
theorem dX4_valueOf_37 : decode cX4_valueOf 37 = .ok (.iaload, 1) := by decide +kernel
theorem dX4_valueOf_38 : decode cX4_valueOf 38 = .ok (.iastore, 1) := by decide +kernel
theorem dX4_valueOf_39 : decode cX4_valueOf 39 = .ok (.iinc 2 1, 3) := by decide +kernel
theorem dX4_valueOf_42 : decode cX4_valueOf 42 = .ok (.goto 41, 3) := by decide +kernel
theorem dX4_valueOf_45 : decode cX4_valueOf 45 = .ok (.iload_n 2, 1) := by decide +kernel
theorem dX4_valueOf_46 : decode cX4_valueOf 46 = .ok (.iconst 2, 1) := by decide +kernel
theorem dX4_valueOf_47 : decode cX4_valueOf 47 = .ok (.if_icmp .lt 36, 3) := by decide +kernel
theorem dX4_valueOf_50 : decode cX4_valueOf 50 = .ok (.iinc 2 (-1), 3) := by decide +kernel
theorem dX4_valueOf_53 : decode cX4_valueOf 53 = .ok (.aload_n 0, 1) := by decide +kernel
theorem dX4_valueOf_54 : decode cX4_valueOf 54 = .ok (.getfield 18, 3) := by decide +kernel
theorem dX4_valueOf_57 : decode cX4_valueOf 57 = .ok (.iload_n 2, 1) := by decide +kernel
theorem dX4_valueOf_58 : decode cX4_valueOf 58 = .ok (.iconst 1, 1) := by decide +kernel
theorem dX4_valueOf_59 : decode cX4_valueOf 59 = .ok (.isub, 1) := by decide +kernel
theorem dX4_valueOf_60 : decode cX4_valueOf 60 = .ok (.aload_n 0, 1) := by decide +kernel
theorem dX4_valueOf_61 : decode cX4_valueOf 61 = .ok (.getfield 9, 3) := by decide +kernel
theorem dX4_valueOf_64 : decode cX4_valueOf 64 = .ok (.iconst 3, 1) := by decide +kernel
theorem dX4_valueOf_65 : decode cX4_valueOf 65 = .ok (.aload_n 0, 1) := by decide +kernel
theorem dX4_valueOf_66 : decode cX4_valueOf 66 = .ok (.getfield 18, 3) := by decide +kernel
theorem dX4_valueOf_69 : decode cX4_valueOf 69 = .ok (.iload_n 2, 1) := by decide +kernel
theorem dX4_valueOf_70 : decode cX4_valueOf 70 = .ok (.iaload, 1) := by decide +kernel
theorem dX4_valueOf_71 : decode cX4_valueOf 71 = .ok (.imul, 1) := by decide +kernel
theorem dX4_valueOf_72 : decode cX4_valueOf 72 = .ok (.aload_n 0, 1) := by decide +kernel
theorem dX4_valueOf_73 : decode cX4_valueOf 73 = .ok (.getfield 18, 3) := by decide +kernel
theorem dX4_valueOf_76 : decode cX4_valueOf 76 = .ok (.iload_n 2, 1) := by decide +kernel
theorem dX4_valueOf_77 : decode cX4_valueOf 77 = .ok (.iconst 1, 1) := by decide +kernel
theorem dX4_valueOf_78 : decode cX4_valueOf 78 = .ok (.isub, 1) := by decide +kernel
theorem dX4_valueOf_79 : decode cX4_valueOf 79 = .ok (.iaload, 1) := by decide +kernel
theorem dX4_valueOf_80 : decode cX4_valueOf 80 = .ok (.iadd, 1) := by decide +kernel
theorem dX4_valueOf_81 : decode cX4_valueOf 81 = .ok (.iaload, 1) := by decide +kernel
theorem dX4_valueOf_82 : decode cX4_valueOf 82 = .ok (.iastore, 1) := by decide +kernel
theorem dX4_valueOf_83 : decode cX4_valueOf 83 = .ok (.iinc 3 (-1), 3) := by decide +kernel
theorem dX4_valueOf_86 : decode cX4_valueOf 86 = .ok (.goto (-77), 3) := by decide +kernel
theorem dX4_valueOf_89 : decode cX4_valueOf 89 = .ok (.aload_n 0, 1) := by decide +kernel
theorem dX4_valueOf_90 : decode cX4_valueOf 90 = .ok (.getfield 18, 3) := by decide +kernel
theorem dX4_valueOf_93 : decode cX4_valueOf 93 = .ok (.iconst 0, 1) := by decide +kernel
theorem dX4_valueOf_94 : decode cX4_valueOf 94 = .ok (.iaload, 1) := by decide +kernel
theorem dX4_valueOf_95 : decode cX4_valueOf 95 = .ok (.ireturn, 1) := by decide +kernel
def kX4_valueOf_83 (N : Nat) (rec : Int32 → Int32 → qM → Option (qM)) (v0 : Nat) (v1 : Nat) (v2 : Int32) (v3 : Int32)  (m0 : qM) : Option (qM) :=
  rec v2 (v3 + (-1 : Int32)) m0
set_option maxRecDepth 100000 in
theorem kbX4_valueOf_83 {E : qE} {N d bc bs : Nat} (hd : 1 ≤ d) {v0 : Nat} {v1 : Nat} {v2 : Int32} {v3 : Int32}  {m0 : qM} {rec : Int32 → Int32 → qM → Option (qM)} (hrec : ∀ (v2 : Int32) (v3 : Int32) (m : qM), qB E yX4_valueOf cX4_valueOf 5 (some .int) (fun _ => True) d bc bs 9 [(0, .ref (E.2.1 + v0)), (1, .ref (E.2.1 + v1)), (2, .int v2), (3, .int v3)] [] m (rec v2 v3 m) (fun o rr => qJ E yX4_valueOf cX4_valueOf 5 (some .int) (fun _ => True) d bc bs 89 [(0, .ref (E.2.1 + v0))] [] o rr)) : qB E yX4_valueOf cX4_valueOf 5 (some .int) (fun _ => True) d bc bs 83 [(0, .ref (E.2.1 + v0)), (1, .ref (E.2.1 + v1)), (2, .int v2), (3, .int v3)] [] m0 (kX4_valueOf_83 N rec v0 v1 v2 v3 m0) (fun o rr => qJ E yX4_valueOf cX4_valueOf 5 (some .int) (fun _ => True) d bc bs 89 [(0, .ref (E.2.1 + v0))] [] o rr) := by
  unfold kX4_valueOf_83
  refine j_iinc (q := 3) (np := 86) (lv2 := [(3, .int (v3 + (-1 : Int32))), (0, .ref (E.2.1 + v0)), (1, .ref (E.2.1 + v1)), (2, .int v2)]) rfl (congrArg _ ci_m1) (by decide) dX4_valueOf_83 rfl rfl ?_
  refine j_goto (tgt := 9) dX4_valueOf_86 rfl ?_
  refine j_sub (lv2 := [(0, .ref (E.2.1 + v0)), (1, .ref (E.2.1 + v1)), (2, .int v2), (3, .int (v3 + (-1 : Int32)))]) [1, 2, 3, 0] rfl ?_
  exact hrec _ _ _
def lX4_valueOf_9 (N : Nat) (v0 : Nat) (v1 : Nat) : Nat → Int32 → Int32 → qM → Option (qM)
  | 0, _, _, _ => none
  | n + 1, v2, v3, m0 =>
    if v3 < 0 then (
    some m0
    ) else (
    (qChk m0 v1 0 (fX0_at N v1 v3 m0)).bind fun b1 =>
    if b1.1 = (-1 : Int32) then (
    if v2 < (2 : Int32) then (
    kX4_valueOf_83 N (lX4_valueOf_9 N v0 v1 n) v0 v1 v2 v3 b1.2
    ) else (
    (qgR b1.2 v0 4 2).bind fun x2 =>
    (qgR b1.2 v0 4 0).bind fun x3 =>
    (qgR b1.2 v0 4 2).bind fun x4 =>
    (qaI b1.2 x4 12 (v2 + (-1 : Int32))).bind fun x5 =>
    (qgR b1.2 v0 4 2).bind fun x6 =>
    (qaI b1.2 x6 12 ((v2 + (-1 : Int32)) - (1 : Int32))).bind fun x7 =>
    (qaI b1.2 x3 12 (((3 : Int32) * x5) + x7)).bind fun x8 =>
    (qwI b1.2 x2 12 ((v2 + (-1 : Int32)) - (1 : Int32)) x8).bind fun m9 =>
    kX4_valueOf_83 N (lX4_valueOf_9 N v0 v1 n) v0 v1 (v2 + (-1 : Int32)) v3 m9
    )
    ) else (
    (qgR b1.2 v0 4 2).bind fun x10 =>
    (qgR b1.2 v0 4 1).bind fun x11 =>
    (qaI b1.2 x11 12 b1.1).bind fun x12 =>
    (qwI b1.2 x10 12 v2 x12).bind fun m13 =>
    kX4_valueOf_83 N (lX4_valueOf_9 N v0 v1 n) v0 v1 (v2 + (1 : Int32)) v3 m13
    )
    )
set_option maxRecDepth 100000 in
theorem lbX4_valueOf_9 {E : qE} {N d bc bs : Nat} (hd : 1 ≤ d) {v0 : Nat} {v1 : Nat} : ∀ (n : Nat) (v2 : Int32) (v3 : Int32) (m0 : qM), qB E yX4_valueOf cX4_valueOf 5 (some .int) (fun _ => True) d bc bs 9 [(0, .ref (E.2.1 + v0)), (1, .ref (E.2.1 + v1)), (2, .int v2), (3, .int v3)] [] m0 (lX4_valueOf_9 N v0 v1 n v2 v3 m0) (fun o rr => qJ E yX4_valueOf cX4_valueOf 5 (some .int) (fun _ => True) d bc bs 89 [(0, .ref (E.2.1 + v0))] [] o rr) := by
  intro n
  induction n with
  | zero =>
    intro v2 v3 m0
    exact j_none
  | succ n ih =>
    intro v2 v3 m0
    unfold lX4_valueOf_9
    refine j_iload_n (q := 3) (np := 10) rfl rfl dX4_valueOf_9 rfl ?_
    refine j_if_lt (tgt := 89) (np := 13) dX4_valueOf_10 rfl rfl ?_ ?_
    · refine j_sub (lv2 := [(0, .ref (E.2.1 + v0))]) [0] rfl ?_
      exact j_exit (fun rr h => h)
    · refine j_aload_n (q := 1) (np := 14) rfl rfl dX4_valueOf_13 rfl ?_
      refine j_iload_n (q := 3) (np := 15) rfl rfl dX4_valueOf_14 rfl ?_
      refine j_callVi (ci := 0) (np := 18) (bc := bc) (bs := bs) (cb := 0) (cs := 0) (dd := d - 1) (As := [.int v3]) (st := []) caX0_at mlX4_56 imX0_at seX0_at rfl rfl (by decide) (fun b hb => wX0_at (by omega) hb) (by omega) rfl rfl (Nat.le_of_ble_eq_true rfl) dX4_valueOf_15 rfl (fun b1 => ?_)
      refine j_istore (np := 20) (lv2 := [(4, .int b1.1), (0, .ref (E.2.1 + v0)), (1, .ref (E.2.1 + v1)), (2, .int v2), (3, .int v3)]) (by decide) dX4_valueOf_18 rfl rfl ?_
      refine j_iload (q := 0) (np := 22) rfl dX4_valueOf_20 rfl ?_
      refine j_iconst (np := 23) ci_m1 dX4_valueOf_22 rfl ?_
      refine j_icmp_eq (tgt := 45) (np := 26) dX4_valueOf_23 rfl rfl ?_ ?_
      · refine j_iload_n (q := 3) (np := 46) rfl rfl dX4_valueOf_45 rfl ?_
        refine j_iconst (np := 47) ci_2 dX4_valueOf_46 rfl ?_
        refine j_icmp_lt (tgt := 83) (np := 50) dX4_valueOf_47 rfl rfl ?_ ?_
        · refine j_sub (lv2 := [(0, .ref (E.2.1 + v0)), (1, .ref (E.2.1 + v1)), (2, .int v2), (3, .int v3)]) [1, 2, 3, 4] rfl ?_
          exact kbX4_valueOf_83 hd ih
        · refine j_iinc (q := 3) (np := 53) (lv2 := [(2, .int (v2 + (-1 : Int32))), (4, .int b1.1), (0, .ref (E.2.1 + v0)), (1, .ref (E.2.1 + v1)), (3, .int v3)]) rfl (congrArg _ ci_m1) (by decide) dX4_valueOf_50 rfl rfl ?_
          refine j_aload_n (q := 2) (np := 54) rfl rfl dX4_valueOf_53 rfl ?_
          refine j_gR (np := 57) flX4_18 dX4_valueOf_54 rfl (fun x2 => ?_)
          refine j_iload_n (q := 0) (np := 58) rfl rfl dX4_valueOf_57 rfl ?_
          refine j_iconst (np := 59) ci_1 dX4_valueOf_58 rfl ?_
          refine j_isub (np := 60) dX4_valueOf_59 rfl ?_
          refine j_aload_n (q := 2) (np := 61) rfl rfl dX4_valueOf_60 rfl ?_
          refine j_gR (np := 64) flX4_9 dX4_valueOf_61 rfl (fun x3 => ?_)
          refine j_iconst (np := 65) ci_3 dX4_valueOf_64 rfl ?_
          refine j_aload_n (q := 2) (np := 66) rfl rfl dX4_valueOf_65 rfl ?_
          refine j_gR (np := 69) flX4_18 dX4_valueOf_66 rfl (fun x4 => ?_)
          refine j_iload_n (q := 0) (np := 70) rfl rfl dX4_valueOf_69 rfl ?_
          refine j_iaload (np := 71) dX4_valueOf_70 rfl (fun x5 => ?_)
          refine j_imul (np := 72) dX4_valueOf_71 rfl ?_
          refine j_aload_n (q := 2) (np := 73) rfl rfl dX4_valueOf_72 rfl ?_
          refine j_gR (np := 76) flX4_18 dX4_valueOf_73 rfl (fun x6 => ?_)
          refine j_iload_n (q := 0) (np := 77) rfl rfl dX4_valueOf_76 rfl ?_
          refine j_iconst (np := 78) ci_1 dX4_valueOf_77 rfl ?_
          refine j_isub (np := 79) dX4_valueOf_78 rfl ?_
          refine j_iaload (np := 80) dX4_valueOf_79 rfl (fun x7 => ?_)
          refine j_iadd (np := 81) dX4_valueOf_80 rfl ?_
          refine j_iaload (np := 82) dX4_valueOf_81 rfl (fun x8 => ?_)
          refine j_iastore (np := 83) dX4_valueOf_82 rfl (fun m9 => ?_)
          refine j_sub (lv2 := [(0, .ref (E.2.1 + v0)), (1, .ref (E.2.1 + v1)), (2, .int (v2 + (-1 : Int32))), (3, .int v3)]) [2, 3, 0, 4] rfl ?_
          exact kbX4_valueOf_83 hd ih
      · refine j_aload_n (q := 1) (np := 27) rfl rfl dX4_valueOf_26 rfl ?_
        refine j_gR (np := 30) flX4_18 dX4_valueOf_27 rfl (fun x10 => ?_)
        refine j_iload_n (q := 3) (np := 31) rfl rfl dX4_valueOf_30 rfl ?_
        refine j_aload_n (q := 1) (np := 32) rfl rfl dX4_valueOf_31 rfl ?_
        refine j_gR (np := 35) flX4_15 dX4_valueOf_32 rfl (fun x11 => ?_)
        refine j_iload (q := 0) (np := 37) rfl dX4_valueOf_35 rfl ?_
        refine j_iaload (np := 38) dX4_valueOf_37 rfl (fun x12 => ?_)
        refine j_iastore (np := 39) dX4_valueOf_38 rfl (fun m13 => ?_)
        refine j_iinc (q := 3) (np := 42) (lv2 := [(2, .int (v2 + (1 : Int32))), (4, .int b1.1), (0, .ref (E.2.1 + v0)), (1, .ref (E.2.1 + v1)), (3, .int v3)]) rfl (congrArg _ ci_1) (by decide) dX4_valueOf_39 rfl rfl ?_
        refine j_goto (tgt := 83) dX4_valueOf_42 rfl ?_
        refine j_sub (lv2 := [(0, .ref (E.2.1 + v0)), (1, .ref (E.2.1 + v1)), (2, .int (v2 + (1 : Int32))), (3, .int v3)]) [2, 3, 0, 4] rfl ?_
        exact kbX4_valueOf_83 hd ih
def fX4_valueOf (N : Nat) (v0 : Nat) (v1 : Nat) (m0 : qM) : Option (Int32 × qM) :=
  (qChk m0 v1 0 (fX0_size N v1 m0)).bind fun b1 =>
  (lX4_valueOf_9 N v0 v1 N (0 : Int32) (b1.1 - (1 : Int32)) b1.2).bind fun o2 =>
  (qgR o2 v0 4 2).bind fun x3 =>
  (qaI o2 x3 12 (0 : Int32)).bind fun x4 =>
  some (x4, o2)
set_option maxRecDepth 100000 in
theorem bX4_valueOf {E : qE} {N d bc bs : Nat} (hd : 1 ≤ d) {v0 : Nat} {v1 : Nat} {m0 : qM} : qB E yX4_valueOf cX4_valueOf 5 (some .int) (fun _ => True) d bc bs 0 [(0, .ref (E.2.1 + v0)), (1, .ref (E.2.1 + v1))] [] m0 (fX4_valueOf N v0 v1 m0) (fun b rr => rr = (some (.int b.1), b.2)) := by
  unfold fX4_valueOf
  refine j_iconst (np := 1) ci_0 dX4_valueOf_0 rfl ?_
  refine j_istore_n (np := 2) (lv2 := [(2, .int (0 : Int32)), (0, .ref (E.2.1 + v0)), (1, .ref (E.2.1 + v1))]) rfl (by decide) dX4_valueOf_1 rfl rfl ?_
  refine j_aload_n (q := 2) (np := 3) rfl rfl dX4_valueOf_2 rfl ?_
  refine j_callVi (ci := 0) (np := 6) (bc := bc) (bs := bs) (cb := 0) (cs := 0) (dd := d - 1) (As := []) (st := []) caX0_size mlX4_53 imX0_size seX0_size rfl rfl (by decide) (fun b hb => wX0_size (by omega) hb) (by omega) rfl rfl (Nat.le_of_ble_eq_true rfl) dX4_valueOf_3 rfl (fun b1 => ?_)
  refine j_iconst (np := 7) ci_1 dX4_valueOf_6 rfl ?_
  refine j_isub (np := 8) dX4_valueOf_7 rfl ?_
  refine j_istore_n (np := 9) (lv2 := [(3, .int (b1.1 - (1 : Int32))), (2, .int (0 : Int32)), (0, .ref (E.2.1 + v0)), (1, .ref (E.2.1 + v1))]) rfl (by decide) dX4_valueOf_8 rfl rfl ?_
  refine j_sub (lv2 := [(0, .ref (E.2.1 + v0)), (1, .ref (E.2.1 + v1)), (2, .int (0 : Int32)), (3, .int (b1.1 - (1 : Int32)))]) [2, 3, 1, 0] rfl ?_
  refine j_loop (xp := 89) (lvX := fun o2 => [(0, .ref (E.2.1 + v0))]) (mX := fun o2 => o2) (lbX4_valueOf_9 hd _ _ _ _) (fun o2 => ?_)
  refine j_aload_n (q := 0) (np := 90) rfl rfl dX4_valueOf_89 rfl ?_
  refine j_gR (np := 93) flX4_18 dX4_valueOf_90 rfl (fun x3 => ?_)
  refine j_iconst (np := 94) ci_0 dX4_valueOf_93 rfl ?_
  refine j_iaload (np := 95) dX4_valueOf_94 rfl (fun x4 => ?_)
  exact j_iret rfl dX4_valueOf_95 (fun rr h => h)
set_option maxRecDepth 100000 in
theorem wX4_valueOf {E : qE} {N d : Nat} (hd : 1 ≤ d) {v0 : Nat} {v1 : Nat} {m0 : qM} {b : Int32 × qM} (h : fX4_valueOf N v0 v1 m0 = some b) : qRun E yX4_valueOf cX4_valueOf 5 (some .int) d 0 0 [.ref (E.2.1 + v0), .ref (E.2.1 + v1)] m0 (some (.int b.1), b.2) := q_met pnX4 (Nat.le_of_ble_eq_true rfl) (bX4_valueOf hd b _ h rfl)
