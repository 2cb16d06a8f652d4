theorem dX10_unify_0 : decode cX10_unify 0 = .ok (.aload_n 0, 1) := by decide +kernel
theorem dX10_unify_1 : decode cX10_unify 1 = .ok (.iload_n 1, 1) := by decide +kernel
theorem dX10_unify_2 : decode cX10_unify 2 = .ok (.invokevirtual 172, 3) := by decide +kernel
theorem dX10_unify_5 : decode cX10_unify 5 = .ok (.ifCond .eq 11, 3) := by decide +kernel
theorem dX10_unify_8 : decode cX10_unify 8 = .ok (.aload_n 0, 1) := by decide +kernel
theorem dX10_unify_9 : decode cX10_unify 9 = .ok (.iload_n 2, 1) := by decide +kernel
theorem dX10_unify_10 : decode cX10_unify 10 = .ok (.invokevirtual 172, 3) := by decide +kernel
theorem dX10_unify_13 : decode cX10_unify 13 = .ok (.ifCond .ne 5, 3) := by decide +kernel
theorem dX10_unify_16 : decode cX10_unify 16 = .ok (.iconst (-1), 1) := by decide +kernel
theorem dX10_unify_17 : decode cX10_unify 17 = .ok (.ireturn, 1) := by decide +kernel
theorem dX10_unify_18 : decode cX10_unify 18 = .ok (.aload_n 0, 1) := by decide +kernel
theorem dX10_unify_19 : decode cX10_unify 19 = .ok (.invokevirtual 162, 3) := by decide +kernel
theorem dX10_unify_22 : decode cX10_unify 22 = .ok (.aload_n 0, 1) := by decide +kernel
theorem dX10_unify_23 : decode cX10_unify 23 = .ok (.bipush 39, 2) := by decide +kernel
theorem dX10_unify_25 : decode cX10_unify 25 = .ok (.iload_n 1, 1) := by decide +kernel
theorem dX10_unify_26 : decode cX10_unify 26 = .ok (.imul, 1) := by decide +kernel
theorem dX10_unify_27 : decode cX10_unify 27 = .ok (.putfield 138, 3) := by decide +kernel
theorem dX10_unify_30 : decode cX10_unify 30 = .ok (.aload_n 0, 1) := by decide +kernel
theorem dX10_unify_31 : decode cX10_unify 31 = .ok (.aload_n 0, 1) := by decide +kernel
theorem dX10_unify_32 : decode cX10_unify 32 = .ok (.getfield 9, 3) := by decide +kernel
theorem dX10_unify_35 : decode cX10_unify 35 = .ok (.iconst 0, 1) := by decide +kernel
theorem dX10_unify_36 : decode cX10_unify 36 = .ok (.invokevirtual 141, 3) := by decide +kernel
theorem dX10_unify_39 : decode cX10_unify 39 = .ok (.istore_n 3, 1) := by decide +kernel
theorem dX10_unify_40 : decode cX10_unify 40 = .ok (.aload_n 0, 1) := by decide +kernel
theorem dX10_unify_41 : decode cX10_unify 41 = .ok (.bipush 39, 2) := by decide +kernel
theorem dX10_unify_43 : decode cX10_unify 43 = .ok (.iload_n 2, 1) := by decide +kernel
theorem dX10_unify_44 : decode cX10_unify 44 = .ok (.imul, 1) := by decide +kernel
theorem dX10_unify_45 : decode cX10_unify 45 = .ok (.putfield 138, 3) := by decide +kernel
theorem dX10_unify_48 : decode cX10_unify 48 = .ok (.aload_n 0, 1) := by decide +kernel
theorem dX10_unify_49 : decode cX10_unify 49 = .ok (.aload_n 0, 1) := by decide +kernel
theorem dX10_unify_50 : decode cX10_unify 50 = .ok (.getfield 9, 3) := by decide +kernel
theorem dX10_unify_53 : decode cX10_unify 53 = .ok (.bipush 39, 2) := by decide +kernel
theorem dX10_unify_55 : decode cX10_unify 55 = .ok (.invokevirtual 141, 3) := by decide +kernel
theorem dX10_unify_58 : decode cX10_unify 58 = .ok (.istore 4, 2) := by decide +kernel
theorem dX10_unify_60 : decode cX10_unify 60 = .ok (.aload_n 0, 1) := by decide +kernel
theorem dX10_unify_61 : decode cX10_unify 61 = .ok (.iload_n 3, 1) := by decide +kernel
theorem dX10_unify_62 : decode cX10_unify 62 = .ok (.iload 4, 2) := by decide +kernel
theorem dX10_unify_64 : decode cX10_unify 64 = .ok (.invokevirtual 153, 3) := by decide +kernel
theorem dX10_unify_67 : decode cX10_unify 67 = .ok (.ifCond .ne 6, 3) := by decide +kernel
theorem dX10_unify_70 : decode cX10_unify 70 = .ok (.bipush (-4), 2) := by decide +kernel
theorem dX10_unify_72 : decode cX10_unify 72 = .ok (.ireturn, 1) := by decide +kernel
theorem dX10_unify_73 : decode cX10_unify 73 = .ok (.aload_n 0, 1) := by decide +kernel
theorem dX10_unify_74 : decode cX10_unify 74 = .ok (.iload_n 3, 1) := by decide +kernel
theorem dX10_unify_75 : decode cX10_unify 75 = .ok (.invokevirtual 165, 3) := by decide +kernel
theorem dX10_unify_78 : decode cX10_unify 78 = .ok (.ifCond .ge 6, 3) := by decide +kernel
theorem dX10_unify_81 : decode cX10_unify 81 = .ok (.bipush (-5), 2) := by decide +kernel
theorem dX10_unify_83 : decode cX10_unify 83 = .ok (.ireturn, 1) := by decide +kernel
theorem dX10_unify_84 : decode cX10_unify 84 = .ok (.aload_n 0, 1) := by decide +kernel
theorem dX10_unify_85 : decode cX10_unify 85 = .ok (.invokevirtual 177, 3) := by decide +kernel
theorem dX10_unify_88 : decode cX10_unify 88 = .ok (.aload_n 0, 1) := by decide +kernel
theorem dX10_unify_89 : decode cX10_unify 89 = .ok (.getfield 109, 3) := by decide +kernel
theorem dX10_unify_92 : decode cX10_unify 92 = .ok (.ireturn, 1) := by decide +kernel
def fX10_unify (N : Nat) (v0 : Nat) (v1 : Int32) (v2 : Int32) (m0 : qM) : Option (Int32 × qM) :=
  (qChk m0 v0 10 (fX10_isOne N v0 v1 m0)).bind fun b1 =>
  if b1.1 = 0 then (
  some ((-1 : Int32), b1.2)
  ) else (
  (qChk b1.2 v0 10 (fX10_isOne N v0 v2 b1.2)).bind fun b2 =>
  if b2.1 = 0 then (
  some ((-1 : Int32), b2.2)
  ) else (
  (qChk b2.2 v0 10 (fX10_begins N v0 b2.2)).bind fun b3 =>
  (qpI b3 v0 10 25 ((39 : Int32) * v1)).bind fun m4 =>
  (qgR m4 v0 10 0).bind fun x5 =>
  (qChk m4 v0 10 (fX10_builds N kR v0 x5 (0 : Int32) m4)).bind fun b6 =>
  (qpI b6.2 v0 10 25 ((39 : Int32) * v2)).bind fun m7 =>
  (qgR m7 v0 10 0).bind fun x8 =>
  (qChk m7 v0 10 (fX10_builds N kR v0 x8 (39 : Int32) m7)).bind fun b9 =>
  (qChk b9.2 v0 10 (fX10_unifies N kU v0 b6.1 b9.1 b9.2)).bind fun b10 =>
  if b10.1 = 0 then (
  some ((-4 : Int32), b10.2)
  ) else (
  (qChk b10.2 v0 10 (fX10_written N v0 b6.1 b10.2)).bind fun b11 =>
  if 0 ≤ b11.1 then (
  (qChk b11.2 v0 10 (fX10_tellsOne N v0 b11.2)).bind fun b12 =>
  (qgI b12 v0 10 27).bind fun x13 =>
  some (x13, b12)
  ) else (
  some ((-5 : Int32), b11.2)
  )
  )
  )
  )
set_option maxRecDepth 100000 in
theorem bX10_unify {E : qE} {N d bc bs : Nat} (hd : 1143 ≤ d) {v0 : Nat} {v1 : Int32} {v2 : Int32} {m0 : qM} : qB E yX10_unify cX10_unify 5 (some .int) (fun _ => True) d bc bs 0 [(0, .ref (E.2.1 + v0)), (1, .int v1), (2, .int v2)] [] m0 (fX10_unify N v0 v1 v2 m0) (fun b rr => rr = (some (.int b.1), b.2)) := by
  unfold fX10_unify
  refine j_aload_n (q := 0) (np := 1) rfl rfl dX10_unify_0 rfl ?_
  refine j_iload_n (q := 1) (np := 2) rfl rfl dX10_unify_1 rfl ?_
  refine j_callVi (ci := 10) (np := 5) (bc := bc) (bs := bs) (cb := 0) (cs := 0) (dd := d - 1) (As := [.int v1]) (st := []) caX10_isOne mlX10_172 imX10_isOne seX10_isOne rfl rfl (by decide) (fun b hb => wX10_isOne (by omega) hb) (by omega) rfl rfl (Nat.le_of_ble_eq_true rfl) dX10_unify_2 rfl (fun b1 => ?_)
  refine j_if_eq (tgt := 16) (np := 8) dX10_unify_5 rfl rfl ?_ ?_
  · refine j_iconst (np := 17) ci_m1 dX10_unify_16 rfl ?_
    exact j_iret rfl dX10_unify_17 (fun rr h => h)
  · refine j_aload_n (q := 0) (np := 9) rfl rfl dX10_unify_8 rfl ?_
    refine j_iload_n (q := 2) (np := 10) rfl rfl dX10_unify_9 rfl ?_
    refine j_callVi (ci := 10) (np := 13) (bc := bc) (bs := bs) (cb := 0) (cs := 0) (dd := d - 1) (As := [.int v2]) (st := []) caX10_isOne mlX10_172 imX10_isOne seX10_isOne rfl rfl (by decide) (fun b hb => wX10_isOne (by omega) hb) (by omega) rfl rfl (Nat.le_of_ble_eq_true rfl) dX10_unify_10 rfl (fun b2 => ?_)
    refine j_if_ne (tgt := 18) (np := 16) dX10_unify_13 rfl rfl ?_ ?_
    · refine j_aload_n (q := 0) (np := 19) rfl rfl dX10_unify_18 rfl ?_
      refine j_callVv (ci := 10) (np := 22) (bc := bc) (bs := bs) (cb := 0) (cs := 0) (dd := d - 1) (As := []) (st := []) caX10_begins mlX10_162 imX10_begins seX10_begins rfl rfl (by decide) (fun b hb => wX10_begins (by omega) hb) (by omega) rfl rfl (Nat.le_of_ble_eq_true rfl) dX10_unify_19 rfl (fun b3 => ?_)
      refine j_aload_n (q := 0) (np := 23) rfl rfl dX10_unify_22 rfl ?_
      refine j_bipush (np := 25) cb_39 dX10_unify_23 rfl ?_
      refine j_iload_n (q := 1) (np := 26) rfl rfl dX10_unify_25 rfl ?_
      refine j_imul (np := 27) dX10_unify_26 rfl ?_
      refine j_pI (np := 30) flX10_138 dX10_unify_27 rfl (fun m4 => ?_)
      refine j_aload_n (q := 0) (np := 31) rfl rfl dX10_unify_30 rfl ?_
      refine j_aload_n (q := 0) (np := 32) rfl rfl dX10_unify_31 rfl ?_
      refine j_gR (np := 35) flX10_9 dX10_unify_32 rfl (fun x5 => ?_)
      refine j_iconst (np := 36) ci_0 dX10_unify_35 rfl ?_
      refine j_callVi (ci := 10) (np := 39) (bc := bc) (bs := bs) (cb := 0) (cs := 0) (dd := d - 1) (As := [.ref (E.2.1 + x5), .int (0 : Int32)]) (st := []) caX10_builds mlX10_141 imX10_builds seX10_builds rfl rfl (by decide) (fun b hb => wX10_builds (by show 130 + _ ≤ _; omega) hb) (by omega) rfl rfl (Nat.le_of_ble_eq_true rfl) dX10_unify_36 rfl (fun b6 => ?_)
      refine j_istore_n (np := 40) (lv2 := [(3, .int b6.1), (0, .ref (E.2.1 + v0)), (1, .int v1), (2, .int v2)]) rfl (by decide) dX10_unify_39 rfl rfl ?_
      refine j_aload_n (q := 1) (np := 41) rfl rfl dX10_unify_40 rfl ?_
      refine j_bipush (np := 43) cb_39 dX10_unify_41 rfl ?_
      refine j_iload_n (q := 3) (np := 44) rfl rfl dX10_unify_43 rfl ?_
      refine j_imul (np := 45) dX10_unify_44 rfl ?_
      refine j_pI (np := 48) flX10_138 dX10_unify_45 rfl (fun m7 => ?_)
      refine j_aload_n (q := 1) (np := 49) rfl rfl dX10_unify_48 rfl ?_
      refine j_aload_n (q := 1) (np := 50) rfl rfl dX10_unify_49 rfl ?_
      refine j_gR (np := 53) flX10_9 dX10_unify_50 rfl (fun x8 => ?_)
      refine j_bipush (np := 55) cb_39 dX10_unify_53 rfl ?_
      refine j_callVi (ci := 10) (np := 58) (bc := bc) (bs := bs) (cb := 0) (cs := 0) (dd := d - 1) (As := [.ref (E.2.1 + x8), .int (39 : Int32)]) (st := []) caX10_builds mlX10_141 imX10_builds seX10_builds rfl rfl (by decide) (fun b hb => wX10_builds (by show 130 + _ ≤ _; omega) hb) (by omega) rfl rfl (Nat.le_of_ble_eq_true rfl) dX10_unify_55 rfl (fun b9 => ?_)
      refine j_istore (np := 60) (lv2 := [(4, .int b9.1), (3, .int b6.1), (0, .ref (E.2.1 + v0)), (1, .int v1), (2, .int v2)]) (by decide) dX10_unify_58 rfl rfl ?_
      refine j_aload_n (q := 2) (np := 61) rfl rfl dX10_unify_60 rfl ?_
      refine j_iload_n (q := 1) (np := 62) rfl rfl dX10_unify_61 rfl ?_
      refine j_iload (q := 0) (np := 64) rfl dX10_unify_62 rfl ?_
      refine j_callVi (ci := 10) (np := 67) (bc := bc) (bs := bs) (cb := 0) (cs := 0) (dd := d - 1) (As := [.int b6.1, .int b9.1]) (st := []) caX10_unifies mlX10_153 imX10_unifies seX10_unifies rfl rfl (by decide) (fun b hb => wX10_unifies (by show 1010 + _ ≤ _; omega) hb) (by omega) rfl rfl (Nat.le_of_ble_eq_true rfl) dX10_unify_64 rfl (fun b10 => ?_)
      refine j_if_ne (tgt := 73) (np := 70) dX10_unify_67 rfl rfl ?_ ?_
      · refine j_aload_n (q := 2) (np := 74) rfl rfl dX10_unify_73 rfl ?_
        refine j_iload_n (q := 1) (np := 75) rfl rfl dX10_unify_74 rfl ?_
        refine j_callVi (ci := 10) (np := 78) (bc := bc) (bs := bs) (cb := 0) (cs := 0) (dd := d - 1) (As := [.int b6.1]) (st := []) caX10_written mlX10_165 imX10_written seX10_written rfl rfl (by decide) (fun b hb => wX10_written (by omega) hb) (by omega) rfl rfl (Nat.le_of_ble_eq_true rfl) dX10_unify_75 rfl (fun b11 => ?_)
        refine j_if_ge (tgt := 84) (np := 81) dX10_unify_78 rfl rfl ?_ ?_
        · refine j_aload_n (q := 2) (np := 85) rfl rfl dX10_unify_84 rfl ?_
          refine j_callVv (ci := 10) (np := 88) (bc := bc) (bs := bs) (cb := 0) (cs := 0) (dd := d - 1) (As := []) (st := []) caX10_tellsOne mlX10_177 imX10_tellsOne seX10_tellsOne rfl rfl (by decide) (fun b hb => wX10_tellsOne (by omega) hb) (by omega) rfl rfl (Nat.le_of_ble_eq_true rfl) dX10_unify_85 rfl (fun b12 => ?_)
          refine j_aload_n (q := 2) (np := 89) rfl rfl dX10_unify_88 rfl ?_
          refine j_gI (np := 92) flX10_109 dX10_unify_89 rfl (fun x13 => ?_)
          exact j_iret rfl dX10_unify_92 (fun rr h => h)
        · refine j_bipush (np := 83) cb_m5 dX10_unify_81 rfl ?_
          exact j_iret rfl dX10_unify_83 (fun rr h => h)
      · refine j_bipush (np := 72) cb_m4 dX10_unify_70 rfl ?_
        exact j_iret rfl dX10_unify_72 (fun rr h => h)
    · refine j_iconst (np := 17) ci_m1 dX10_unify_16 rfl ?_
      exact j_iret rfl dX10_unify_17 (fun rr h => h)
set_option maxRecDepth 100000 in
theorem wX10_unify {E : qE} {N d : Nat} (hd : 1143 ≤ d) {v0 : Nat} {v1 : Int32} {v2 : Int32} {m0 : qM} {b : Int32 × qM} (h : fX10_unify N v0 v1 v2 m0 = some b) : qRun E yX10_unify cX10_unify 5 (some .int) d 0 0 [.ref (E.2.1 + v0), .int v1, .int v2] m0 (some (.int b.1), b.2) := q_met pnX10 (Nat.le_of_ble_eq_true rfl) (bX10_unify hd b _ h rfl)
theorem dX10_readsProof_0 : decode cX10_readsProof 0 = .ok (.iconst 1, 1) := by decide +kernel
theorem dX10_readsProof_1 : decode cX10_readsProof 1 = .ok (.istore_n 1, 1) := by decide +kernel
theorem dX10_readsProof_2 : decode cX10_readsProof 2 = .ok (.iconst 0, 1) := by decide +kernel
theorem dX10_readsProof_3 : decode cX10_readsProof 3 = .ok (.istore_n 2, 1) := by decide +kernel
theorem dX10_readsProof_4 : decode cX10_readsProof 4 = .ok (.iload_n 2, 1) := by decide +kernel
theorem dX10_readsProof_5 : decode cX10_readsProof 5 = .ok (.aload_n 0, 1) := by decide +kernel
theorem dX10_readsProof_6 : decode cX10_readsProof 6 = .ok (.getfield 103, 3) := by decide +kernel
theorem dX10_readsProof_9 : decode cX10_readsProof 9 = .ok (.if_icmp .ge 69, 3) := by decide +kernel
theorem dX10_readsProof_12 : decode cX10_readsProof 12 = .ok (.aload_n 0, 1) := by decide +kernel
theorem dX10_readsProof_13 : decode cX10_readsProof 13 = .ok (.getfield 25, 3) := by decide +kernel
theorem dX10_readsProof_16 : decode cX10_readsProof 16 = .ok (.iload_n 2, 1) := by decide +kernel
theorem dX10_readsProof_17 : decode cX10_readsProof 17 = .ok (.iaload, 1) := by decide +kernel
theorem dX10_readsProof_18 : decode cX10_readsProof 18 = .ok (.istore_n 3, 1) := by decide +kernel
theorem dX10_readsProof_19 : decode cX10_readsProof 19 = .ok (.aload_n 0, 1) := by decide +kernel
theorem dX10_readsProof_20 : decode cX10_readsProof 20 = .ok (.iload_n 2, 1) := by decide +kernel
theorem dX10_readsProof_21 : decode cX10_readsProof 21 = .ok (.putfield 112, 3) := by decide +kernel
theorem dX10_readsProof_24 : decode cX10_readsProof 24 = .ok (.iload_n 1, 1) := by decide +kernel
theorem dX10_readsProof_25 : decode cX10_readsProof 25 = .ok (.ifCond .eq 31, 3) := by decide +kernel
theorem dX10_readsProof_28 : decode cX10_readsProof 28 = .ok (.iload_n 3, 1) := by decide +kernel
theorem dX10_readsProof_29 : decode cX10_readsProof 29 = .ok (.bipush 68, 2) := by decide +kernel
theorem dX10_readsProof_31 : decode cX10_readsProof 31 = .ok (.if_icmp .eq 27, 3) := by decide +kernel
theorem dX10_readsProof_34 : decode cX10_readsProof 34 = .ok (.iload_n 3, 1) := by decide +kernel
theorem dX10_readsProof_35 : decode cX10_readsProof 35 = .ok (.bipush 49, 2) := by decide +kernel
theorem dX10_readsProof_37 : decode cX10_readsProof 37 = .ok (.bipush 57, 2) := by decide +kernel
theorem dX10_readsProof_39 : decode cX10_readsProof 39 = .ok (.invokestatic 99, 3) := by decide +kernel
theorem dX10_readsProof_42 : decode cX10_readsProof 42 = .ok (.ifCond .eq 14, 3) := by decide +kernel
theorem dX10_readsProof_45 : decode cX10_readsProof 45 = .ok (.iload_n 3, 1) := by decide +kernel
theorem dX10_readsProof_46 : decode cX10_readsProof 46 = .ok (.bipush 49, 2) := by decide +kernel
theorem dX10_readsProof_48 : decode cX10_readsProof 48 = .ok (.isub, 1) := by decide +kernel
theorem dX10_readsProof_49 : decode cX10_readsProof 49 = .ok (.aload_n 0, 1) := by decide +kernel
theorem dX10_readsProof_50 : decode cX10_readsProof 50 = .ok (.getfield 96, 3) := by decide +kernel
theorem dX10_readsProof_53 : decode cX10_readsProof 53 = .ok (.if_icmp .lt 5, 3) := by decide +kernel
theorem dX10_readsProof_56 : decode cX10_readsProof 56 = .ok (.iconst 0, 1) := by decide +kernel
theorem dX10_readsProof_57 : decode cX10_readsProof 57 = .ok (.ireturn, 1) := by decide +kernel
theorem dX10_readsProof_58 : decode cX10_readsProof 58 = .ok (.iload_n 1, 1) := by decide +kernel
theorem dX10_readsProof_59 : decode cX10_readsProof 59 = .ok (.iload_n 3, 1) := by decide +kernel
theorem dX10_readsProof_60 : decode cX10_readsProof 60 = .ok (.bipush 68, 2) := by decide +kernel
theorem dX10_readsProof_62 : decode cX10_readsProof 62 = .ok (.if_icmp .ne 7, 3) := by decide +kernel
theorem dX10_readsProof_65 : decode cX10_readsProof 65 = .ok (.iconst 1, 1) := by decide +kernel
theorem dX10_readsProof_66 : decode cX10_readsProof 66 = .ok (.goto 4, 3) := by decide +kernel
theorem dX10_readsProof_69 : decode cX10_readsProof 69 = .ok (.iconst (-1), 1) := by decide +kernel
theorem dX10_readsProof_70 : decode cX10_readsProof 70 = .ok (.iadd, 1) := by decide +kernel
theorem dX10_readsProof_71 : decode cX10_readsProof 71 = .ok (.istore_n 1, 1) := by decide +kernel
theorem dX10_readsProof_72 : decode cX10_readsProof 72 = .ok (.iinc 2 1, 3) := by decide +kernel
theorem dX10_readsProof_75 : decode cX10_readsProof 75 = .ok (.goto (-71), 3) := by decide +kernel
theorem dX10_readsProof_78 : decode cX10_readsProof 78 = .ok (.aload_n 0, 1) := by decide +kernel
theorem dX10_readsProof_79 : decode cX10_readsProof 79 = .ok (.aload_n 0, 1) := by decide +kernel
theorem dX10_readsProof_80 : decode cX10_readsProof 80 = .ok (.getfield 103, 3) := by decide +kernel
theorem dX10_readsProof_83 : decode cX10_readsProof 83 = .ok (.putfield 112, 3) := by decide +kernel
theorem dX10_readsProof_86 : decode cX10_readsProof 86 = .ok (.iload_n 1, 1) := by decide +kernel
theorem dX10_readsProof_87 : decode cX10_readsProof 87 = .ok (.ifCond .ne 7, 3) := by decide +kernel
theorem dX10_readsProof_90 : decode cX10_readsProof 90 = .ok (.iconst 1, 1) := by decide +kernel
theorem dX10_readsProof_91 : decode cX10_readsProof 91 = .ok (.goto 4, 3) := by decide +kernel
theorem dX10_readsProof_94 : decode cX10_readsProof 94 = .ok (.iconst 0, 1) := by decide +kernel
theorem dX10_readsProof_95 : decode cX10_readsProof 95 = .ok (.ireturn, 1) := by decide +kernel
def kX10_readsProof_70 (N : Nat) (rec : Int32 → Int32 → qM → Option ((Int32 × qM) ⊕ (Int32 × qM))) (v0 : Nat) (v2 : Int32) (s0 : Int32) (s1 : Int32) (m0 : qM) : Option ((Int32 × qM) ⊕ (Int32 × qM)) :=
  rec (s0 + s1) (v2 + (1 : Int32)) m0
set_option maxRecDepth 100000 in
theorem kbX10_readsProof_70 {E : qE} {N d bc bs : Nat} (hd : 1 ≤ d) {v0 : Nat} {v2 : Int32} {s0 : Int32} {s1 : Int32} {m0 : qM} {rec : Int32 → Int32 → qM → Option ((Int32 × qM) ⊕ (Int32 × qM))} (hrec : ∀ (v1 : Int32) (v2 : Int32) (m : qM), qB E yX10_readsProof cX10_readsProof 4 (some .boolean) (fun _ => True) d bc bs 4 [(0, .ref (E.2.1 + v0)), (1, .int v1), (2, .int v2)] [] m (rec v1 v2 m) (qGL (fun o rr => qJ E yX10_readsProof cX10_readsProof 4 (some .boolean) (fun _ => True) d bc bs 78 [(0, .ref (E.2.1 + v0)), (1, .int o.1)] [] o.2 rr) (fun r => (some (.int r.1), r.2)))) : qB E yX10_readsProof cX10_readsProof 4 (some .boolean) (fun _ => True) d bc bs 70 [(0, .ref (E.2.1 + v0)), (2, .int v2)] [.int s1, .int s0] m0 (kX10_readsProof_70 N rec v0 v2 s0 s1 m0) (qGL (fun o rr => qJ E yX10_readsProof cX10_readsProof 4 (some .boolean) (fun _ => True) d bc bs 78 [(0, .ref (E.2.1 + v0)), (1, .int o.1)] [] o.2 rr) (fun r => (some (.int r.1), r.2))) := by
  unfold kX10_readsProof_70
  refine j_iadd (np := 71) dX10_readsProof_70 rfl ?_
  refine j_istore_n (np := 72) (lv2 := [(1, .int (s0 + s1)), (0, .ref (E.2.1 + v0)), (2, .int v2)]) rfl (by decide) dX10_readsProof_71 rfl rfl ?_
  refine j_iinc (q := 2) (np := 75) (lv2 := [(2, .int (v2 + (1 : Int32))), (1, .int (s0 + s1)), (0, .ref (E.2.1 + v0))]) rfl (congrArg _ ci_1) (by decide) dX10_readsProof_72 rfl rfl ?_
  refine j_goto (tgt := 4) dX10_readsProof_75 rfl ?_
  refine j_sub (lv2 := [(0, .ref (E.2.1 + v0)), (1, .int (s0 + s1)), (2, .int (v2 + (1 : Int32)))]) [2, 1, 0] rfl ?_
  exact hrec _ _ _
def kX10_readsProof_58 (N : Nat) (rec : Int32 → Int32 → qM → Option ((Int32 × qM) ⊕ (Int32 × qM))) (v0 : Nat) (v1 : Int32) (v2 : Int32) (v3 : Int32)  (m0 : qM) : Option ((Int32 × qM) ⊕ (Int32 × qM)) :=
  if v3 = (68 : Int32) then (
  kX10_readsProof_70 N (rec) v0 v2 v1 (1 : Int32) m0
  ) else (
  kX10_readsProof_70 N (rec) v0 v2 v1 (-1 : Int32) m0
  )
set_option maxRecDepth 100000 in
theorem kbX10_readsProof_58 {E : qE} {N d bc bs : Nat} (hd : 1 ≤ d) {v0 : Nat} {v1 : Int32} {v2 : Int32} {v3 : Int32}  {m0 : qM} {rec : Int32 → Int32 → qM → Option ((Int32 × qM) ⊕ (Int32 × qM))} (hrec : ∀ (v1 : Int32) (v2 : Int32) (m : qM), qB E yX10_readsProof cX10_readsProof 4 (some .boolean) (fun _ => True) d bc bs 4 [(0, .ref (E.2.1 + v0)), (1, .int v1), (2, .int v2)] [] m (rec v1 v2 m) (qGL (fun o rr => qJ E yX10_readsProof cX10_readsProof 4 (some .boolean) (fun _ => True) d bc bs 78 [(0, .ref (E.2.1 + v0)), (1, .int o.1)] [] o.2 rr) (fun r => (some (.int r.1), r.2)))) : qB E yX10_readsProof cX10_readsProof 4 (some .boolean) (fun _ => True) d bc bs 58 [(0, .ref (E.2.1 + v0)), (1, .int v1), (2, .int v2), (3, .int v3)] [] m0 (kX10_readsProof_58 N rec v0 v1 v2 v3 m0) (qGL (fun o rr => qJ E yX10_readsProof cX10_readsProof 4 (some .boolean) (fun _ => True) d bc bs 78 [(0, .ref (E.2.1 + v0)), (1, .int o.1)] [] o.2 rr) (fun r => (some (.int r.1), r.2))) := by
  unfold kX10_readsProof_58
  refine j_iload_n (q := 1) (np := 59) rfl rfl dX10_readsProof_58 rfl ?_
  refine j_iload_n (q := 3) (np := 60) rfl rfl dX10_readsProof_59 rfl ?_
  refine j_bipush (np := 62) cb_68 dX10_readsProof_60 rfl ?_
  refine j_icmp_ne (tgt := 69) (np := 65) dX10_readsProof_62 rfl rfl ?_ ?_
  · refine j_iconst (np := 70) ci_m1 dX10_readsProof_69 rfl ?_
    refine j_sub (lv2 := [(0, .ref (E.2.1 + v0)), (2, .int v2)]) [0, 2] rfl ?_
    exact kbX10_readsProof_70 hd hrec
  · refine j_iconst (np := 66) ci_1 dX10_readsProof_65 rfl ?_
    refine j_goto (tgt := 70) dX10_readsProof_66 rfl ?_
    refine j_sub (lv2 := [(0, .ref (E.2.1 + v0)), (2, .int v2)]) [0, 2] rfl ?_
    exact kbX10_readsProof_70 hd hrec
def lX10_readsProof_4 (N : Nat) (v0 : Nat) : Nat → Int32 → Int32 → qM → Option ((Int32 × qM) ⊕ (Int32 × qM))
  | 0, _, _, _ => none
  | n + 1, v1, v2, m0 =>
    (qgI m0 v0 10 7).bind fun x1 =>
    if x1 ≤ v2 then (
    some (.inl (v1, m0))
    ) else (
    (qgR m0 v0 10 6).bind fun x2 =>
    (qaI m0 x2 12 v2).bind fun x3 =>
    (qpI m0 v0 10 9 v2).bind fun m4 =>
    if v1 = 0 then (
    some (.inr ((0 : Int32), m4))
    ) else (
    if x3 = (68 : Int32) then (
    kX10_readsProof_58 N (lX10_readsProof_4 N v0 n) v0 v1 v2 x3 m4
    ) else (
    (fX10_in N x3 (49 : Int32) (57 : Int32) m4).bind fun b5 =>
    if b5.1 = 0 then (
    some (.inr ((0 : Int32), b5.2))
    ) else (
    (qgI b5.2 v0 10 5).bind fun x6 =>
    if x3 - (49 : Int32) < x6 then (
    kX10_readsProof_58 N (lX10_readsProof_4 N v0 n) v0 v1 v2 x3 b5.2
    ) else (
    some (.inr ((0 : Int32), b5.2))
    )
    )
    )
    )
    )
set_option maxRecDepth 100000 in
theorem lbX10_readsProof_4 {E : qE} {N d bc bs : Nat} (hd : 1 ≤ d) {v0 : Nat} : ∀ (n : Nat) (v1 : Int32) (v2 : Int32) (m0 : qM), qB E yX10_readsProof cX10_readsProof 4 (some .boolean) (fun _ => True) d bc bs 4 [(0, .ref (E.2.1 + v0)), (1, .int v1), (2, .int v2)] [] m0 (lX10_readsProof_4 N v0 n v1 v2 m0) (qGL (fun o rr => qJ E yX10_readsProof cX10_readsProof 4 (some .boolean) (fun _ => True) d bc bs 78 [(0, .ref (E.2.1 + v0)), (1, .int o.1)] [] o.2 rr) (fun r => (some (.int r.1), r.2))) := by
  intro n
  induction n with
  | zero =>
    intro v1 v2 m0
    exact j_none
  | succ n ih =>
    intro v1 v2 m0
    unfold lX10_readsProof_4
    refine j_iload_n (q := 2) (np := 5) rfl rfl dX10_readsProof_4 rfl ?_
    refine j_aload_n (q := 0) (np := 6) rfl rfl dX10_readsProof_5 rfl ?_
    refine j_gI (np := 9) flX10_103 dX10_readsProof_6 rfl (fun x1 => ?_)
    refine j_icmp_ge (tgt := 78) (np := 12) dX10_readsProof_9 rfl rfl ?_ ?_
    · refine j_sub (lv2 := [(0, .ref (E.2.1 + v0)), (1, .int v1)]) [0, 1] rfl ?_
      exact j_exit (fun rr h => h)
    · refine j_aload_n (q := 0) (np := 13) rfl rfl dX10_readsProof_12 rfl ?_
      refine j_gR (np := 16) flX10_25 dX10_readsProof_13 rfl (fun x2 => ?_)
      refine j_iload_n (q := 2) (np := 17) rfl rfl dX10_readsProof_16 rfl ?_
      refine j_iaload (np := 18) dX10_readsProof_17 rfl (fun x3 => ?_)
      refine j_istore_n (np := 19) (lv2 := [(3, .int x3), (0, .ref (E.2.1 + v0)), (1, .int v1), (2, .int v2)]) rfl (by decide) dX10_readsProof_18 rfl rfl ?_
      refine j_aload_n (q := 1) (np := 20) rfl rfl dX10_readsProof_19 rfl ?_
      refine j_iload_n (q := 3) (np := 21) rfl rfl dX10_readsProof_20 rfl ?_
      refine j_pI (np := 24) flX10_112 dX10_readsProof_21 rfl (fun m4 => ?_)
      refine j_iload_n (q := 2) (np := 25) rfl rfl dX10_readsProof_24 rfl ?_
      refine j_if_eq (tgt := 56) (np := 28) dX10_readsProof_25 rfl rfl ?_ ?_
      · refine j_iconst (np := 57) ci_0 dX10_readsProof_56 rfl ?_
        exact j_zret rfl dX10_readsProof_57 (fun rr h => by rw [z0]; exact h)
      · refine j_iload_n (q := 0) (np := 29) rfl rfl dX10_readsProof_28 rfl ?_
        refine j_bipush (np := 31) cb_68 dX10_readsProof_29 rfl ?_
        refine j_icmp_eq (tgt := 58) (np := 34) dX10_readsProof_31 rfl rfl ?_ ?_
        · refine j_sub (lv2 := [(0, .ref (E.2.1 + v0)), (1, .int v1), (2, .int v2), (3, .int x3)]) [1, 2, 3, 0] rfl ?_
          exact kbX10_readsProof_58 hd ih
        · refine j_iload_n (q := 0) (np := 35) rfl rfl dX10_readsProof_34 rfl ?_
          refine j_bipush (np := 37) cb_49 dX10_readsProof_35 rfl ?_
          refine j_bipush (np := 39) cb_57 dX10_readsProof_37 rfl ?_
          refine j_callSi (np := 42) (bc := bc) (bs := bs) (cb := 0) (cs := 0) (dd := d - 1) (As := [.int x3, .int (49 : Int32), .int (57 : Int32)]) (st := []) caX10_in mlX10_99 stX10_in (fun b hb => wX10_in (by omega) hb) (by omega) rfl rfl (Nat.le_of_ble_eq_true rfl) dX10_readsProof_39 rfl (fun b5 => ?_)
          refine j_if_eq (tgt := 56) (np := 45) dX10_readsProof_42 rfl rfl ?_ ?_
          · refine j_iconst (np := 57) ci_0 dX10_readsProof_56 rfl ?_
            exact j_zret rfl dX10_readsProof_57 (fun rr h => by rw [z0]; exact h)
          · refine j_iload_n (q := 0) (np := 46) rfl rfl dX10_readsProof_45 rfl ?_
            refine j_bipush (np := 48) cb_49 dX10_readsProof_46 rfl ?_
            refine j_isub (np := 49) dX10_readsProof_48 rfl ?_
            refine j_aload_n (q := 1) (np := 50) rfl rfl dX10_readsProof_49 rfl ?_
            refine j_gI (np := 53) flX10_96 dX10_readsProof_50 rfl (fun x6 => ?_)
            refine j_icmp_lt (tgt := 58) (np := 56) dX10_readsProof_53 rfl rfl ?_ ?_
            · refine j_sub (lv2 := [(0, .ref (E.2.1 + v0)), (1, .int v1), (2, .int v2), (3, .int x3)]) [1, 2, 3, 0] rfl ?_
              exact kbX10_readsProof_58 hd ih
            · refine j_iconst (np := 57) ci_0 dX10_readsProof_56 rfl ?_
              exact j_zret rfl dX10_readsProof_57 (fun rr h => by rw [z0]; exact h)
def fX10_readsProof (N : Nat) (v0 : Nat) (m0 : qM) : Option (Int32 × qM) :=
  qTh (lX10_readsProof_4 N v0 N (1 : Int32) (0 : Int32) m0) (fun o1 =>
  (qgI o1.2 v0 10 7).bind fun x2 =>
  (qpI o1.2 v0 10 9 x2).bind fun m3 =>
  if o1.1 = 0 then (
  some ((1 : Int32), m3)
  ) else (
  some ((0 : Int32), m3)
  )
  ) (fun r => r)
set_option maxRecDepth 100000 in
theorem bX10_readsProof {E : qE} {N d bc bs : Nat} (hd : 1 ≤ d) {v0 : Nat} {m0 : qM} : qB E yX10_readsProof cX10_readsProof 4 (some .boolean) (fun _ => True) d bc bs 0 [(0, .ref (E.2.1 + v0))] [] m0 (fX10_readsProof N v0 m0) (fun b rr => rr = (some (.int b.1), b.2)) := by
  unfold fX10_readsProof
  refine j_iconst (np := 1) ci_1 dX10_readsProof_0 rfl ?_
  refine j_istore_n (np := 2) (lv2 := [(1, .int (1 : Int32)), (0, .ref (E.2.1 + v0))]) rfl (by decide) dX10_readsProof_1 rfl rfl ?_
  refine j_iconst (np := 3) ci_0 dX10_readsProof_2 rfl ?_
  refine j_istore_n (np := 4) (lv2 := [(2, .int (0 : Int32)), (1, .int (1 : Int32)), (0, .ref (E.2.1 + v0))]) rfl (by decide) dX10_readsProof_3 rfl rfl ?_
  refine j_sub (lv2 := [(0, .ref (E.2.1 + v0)), (1, .int (1 : Int32)), (2, .int (0 : Int32))]) [2, 1, 0] rfl ?_
  refine j_loopG (xp := 78) (lvX := fun o1 => [(0, .ref (E.2.1 + v0)), (1, .int o1.1)]) (mX := fun o1 => o1.2) (lbX10_readsProof_4 hd _ _ _ _) (fun r rr h => h) (fun o1 => ?_)
  refine j_aload_n (q := 0) (np := 79) rfl rfl dX10_readsProof_78 rfl ?_
  refine j_aload_n (q := 0) (np := 80) rfl rfl dX10_readsProof_79 rfl ?_
  refine j_gI (np := 83) flX10_103 dX10_readsProof_80 rfl (fun x2 => ?_)
  refine j_pI (np := 86) flX10_112 dX10_readsProof_83 rfl (fun m3 => ?_)
  refine j_iload_n (q := 1) (np := 87) rfl rfl dX10_readsProof_86 rfl ?_
  refine j_if_ne (tgt := 94) (np := 90) dX10_readsProof_87 rfl rfl ?_ ?_
  · refine j_iconst (np := 95) ci_0 dX10_readsProof_94 rfl ?_
    exact j_zret rfl dX10_readsProof_95 (fun rr h => by rw [z0]; exact h)
  · refine j_iconst (np := 91) ci_1 dX10_readsProof_90 rfl ?_
    refine j_goto (tgt := 95) dX10_readsProof_91 rfl ?_
    exact j_zret rfl dX10_readsProof_95 (fun rr h => by rw [z1]; exact h)
set_option maxRecDepth 100000 in
theorem wX10_readsProof {E : qE} {N d : Nat} (hd : 1 ≤ d) {v0 : Nat} {m0 : qM} {b : Int32 × qM} (h : fX10_readsProof N v0 m0 = some b) : qRun E yX10_readsProof cX10_readsProof 4 (some .boolean) d 0 0 [.ref (E.2.1 + v0)] m0 (some (.int b.1), b.2) := q_met pnX10 (Nat.le_of_ble_eq_true rfl) (bX10_readsProof hd b _ h rfl)
theorem dX10_proves_0 : decode cX10_proves 0 = .ok (.aload_n 0, 1) := by decide +kernel
theorem dX10_proves_1 : decode cX10_proves 1 = .ok (.getfield 25, 3) := by decide +kernel
theorem dX10_proves_4 : decode cX10_proves 4 = .ok (.aload_n 0, 1) := by decide +kernel
theorem dX10_proves_5 : decode cX10_proves 5 = .ok (.dup, 1) := by decide +kernel
theorem dX10_proves_6 : decode cX10_proves 6 = .ok (.getfield 106, 3) := by decide +kernel
theorem dX10_proves_9 : decode cX10_proves 9 = .ok (.dup_x1, 1) := by decide +kernel
theorem dX10_proves_10 : decode cX10_proves 10 = .ok (.iconst 1, 1) := by decide +kernel
theorem dX10_proves_11 : decode cX10_proves 11 = .ok (.iadd, 1) := by decide +kernel
theorem dX10_proves_12 : decode cX10_proves 12 = .ok (.putfield 106, 3) := by decide +kernel
theorem dX10_proves_15 : decode cX10_proves 15 = .ok (.iaload, 1) := by decide +kernel
theorem dX10_proves_16 : decode cX10_proves 16 = .ok (.istore_n 1, 1) := by decide +kernel
theorem dX10_proves_17 : decode cX10_proves 17 = .ok (.iload_n 1, 1) := by decide +kernel
theorem dX10_proves_18 : decode cX10_proves 18 = .ok (.bipush 68, 2) := by decide +kernel
theorem dX10_proves_20 : decode cX10_proves 20 = .ok (.if_icmp .eq 8, 3) := by decide +kernel
theorem dX10_proves_23 : decode cX10_proves 23 = .ok (.iload_n 1, 1) := by decide +kernel
theorem dX10_proves_24 : decode cX10_proves 24 = .ok (.bipush 49, 2) := by decide +kernel
theorem dX10_proves_26 : decode cX10_proves 26 = .ok (.isub, 1) := by decide +kernel
theorem dX10_proves_27 : decode cX10_proves 27 = .ok (.ireturn, 1) := by decide +kernel
theorem dX10_proves_28 : decode cX10_proves 28 = .ok (.aload_n 0, 1) := by decide +kernel
theorem dX10_proves_29 : decode cX10_proves 29 = .ok (.invokevirtual 183, 3) := by decide +kernel
theorem dX10_proves_32 : decode cX10_proves 32 = .ok (.istore_n 2, 1) := by decide +kernel
theorem dX10_proves_33 : decode cX10_proves 33 = .ok (.iload_n 2, 1) := by decide +kernel
theorem dX10_proves_34 : decode cX10_proves 34 = .ok (.ifCond .ge 5, 3) := by decide +kernel
theorem dX10_proves_37 : decode cX10_proves 37 = .ok (.iload_n 2, 1) := by decide +kernel
theorem dX10_proves_38 : decode cX10_proves 38 = .ok (.ireturn, 1) := by decide +kernel
theorem dX10_proves_39 : decode cX10_proves 39 = .ok (.aload_n 0, 1) := by decide +kernel
theorem dX10_proves_40 : decode cX10_proves 40 = .ok (.invokevirtual 183, 3) := by decide +kernel
theorem dX10_proves_43 : decode cX10_proves 43 = .ok (.istore_n 3, 1) := by decide +kernel
theorem dX10_proves_44 : decode cX10_proves 44 = .ok (.iload_n 3, 1) := by decide +kernel
theorem dX10_proves_45 : decode cX10_proves 45 = .ok (.ifCond .ge 7, 3) := by decide +kernel
theorem dX10_proves_48 : decode cX10_proves 48 = .ok (.iload_n 3, 1) := by decide +kernel
theorem dX10_proves_49 : decode cX10_proves 49 = .ok (.goto 9, 3) := by decide +kernel
theorem dX10_proves_52 : decode cX10_proves 52 = .ok (.aload_n 0, 1) := by decide +kernel
theorem dX10_proves_53 : decode cX10_proves 53 = .ok (.iload_n 2, 1) := by decide +kernel
theorem dX10_proves_54 : decode cX10_proves 54 = .ok (.iload_n 3, 1) := by decide +kernel
theorem dX10_proves_55 : decode cX10_proves 55 = .ok (.invokevirtual 187, 3) := by decide +kernel
theorem dX10_proves_58 : decode cX10_proves 58 = .ok (.ireturn, 1) := by decide +kernel
def fX10_proves (N : Nat) : Nat → Nat → qM → Option (Int32 × qM)
  | 0, _, _ => none
  | k + 1, v0, m0 =>
    (qgR m0 v0 10 6).bind fun x1 =>
    (qgI m0 v0 10 8).bind fun x2 =>
    (qpI m0 v0 10 8 (x2 + (1 : Int32))).bind fun m3 =>
    (qaI m3 x1 12 x2).bind fun x4 =>
    if x4 = (68 : Int32) then (
    (qChk m3 v0 10 (fX10_proves N k v0 m3)).bind fun b5 =>
    if 0 ≤ b5.1 then (
    (qChk b5.2 v0 10 (fX10_proves N k v0 b5.2)).bind fun b6 =>
    if 0 ≤ b6.1 then (
    (qChk b6.2 v0 10 (fX10_detach N v0 b5.1 b6.1 b6.2)).bind fun b7 =>
    some (b7.1, b7.2)
    ) else (
    some (b6.1, b6.2)
    )
    ) else (
    some (b5.1, b5.2)
    )
    ) else (
    some (x4 - (49 : Int32), m3)
    )
set_option maxRecDepth 100000 in
theorem wX10_proves {E : qE} {N : Nat} : ∀ {k d : Nat} (hd : k + 1146 ≤ d) {m0 : qM} {b : Int32 × qM} {v0 : Nat} (h : fX10_proves N k v0 m0 = some b), qRun E yX10_proves cX10_proves 4 (some .int) d 0 0 [.ref (E.2.1 + v0)] m0 (some (.int b.1), b.2) := by
  intro k
  induction k with
  | zero =>
    intro d hd m0 b v0 h
    cases h
  | succ k ih =>
    intro d hd m0 b v0 h
    have hfr : ∀ (m : qM) (b : Int32 × qM) (v0 : Nat), fX10_proves N k v0 m = some b → qRun E yX10_proves cX10_proves 4 (some .int) (d - 1) 0 0 [.ref (E.2.1 + v0)] m (some (.int b.1), b.2) := fun m b v0 h => ih (by omega) h
    have hd : 1146 ≤ d := by omega
    have bd : qB E yX10_proves cX10_proves 4 (some .int) (fun _ => True) d 0 0 0 [(0, .ref (E.2.1 + v0))] [] m0 (fX10_proves N (k + 1) v0 m0) (fun b rr => rr = (some (.int b.1), b.2)) := by
      unfold fX10_proves
      refine j_aload_n (q := 0) (np := 1) rfl rfl dX10_proves_0 rfl ?_
      refine j_gR (np := 4) flX10_25 dX10_proves_1 rfl (fun x1 => ?_)
      refine j_aload_n (q := 0) (np := 5) rfl rfl dX10_proves_4 rfl ?_
      refine j_dup (np := 6) rfl dX10_proves_5 rfl ?_
      refine j_gI (np := 9) flX10_106 dX10_proves_6 rfl (fun x2 => ?_)
      refine j_dup_x1 (np := 10) rfl rfl dX10_proves_9 rfl ?_
      refine j_iconst (np := 11) ci_1 dX10_proves_10 rfl ?_
      refine j_iadd (np := 12) dX10_proves_11 rfl ?_
      refine j_pI (np := 15) flX10_106 dX10_proves_12 rfl (fun m3 => ?_)
      refine j_iaload (np := 16) dX10_proves_15 rfl (fun x4 => ?_)
      refine j_istore_n (np := 17) (lv2 := [(1, .int x4), (0, .ref (E.2.1 + v0))]) rfl (by decide) dX10_proves_16 rfl rfl ?_
      refine j_iload_n (q := 0) (np := 18) rfl rfl dX10_proves_17 rfl ?_
      refine j_bipush (np := 20) cb_68 dX10_proves_18 rfl ?_
      refine j_icmp_eq (tgt := 28) (np := 23) dX10_proves_20 rfl rfl ?_ ?_
      · refine j_aload_n (q := 1) (np := 29) rfl rfl dX10_proves_28 rfl ?_
        refine j_callVi (ci := 10) (np := 32) (bc := 0) (bs := 0) (cb := 0) (cs := 0) (dd := d - 1) (As := []) (st := []) caX10_proves mlX10_183 imX10_proves seX10_proves rfl rfl (by decide) (fun b hb => hfr _ _ _ hb) (by omega) rfl rfl (Nat.le_of_ble_eq_true rfl) dX10_proves_29 rfl (fun b5 => ?_)
        refine j_istore_n (np := 33) (lv2 := [(2, .int b5.1), (1, .int x4), (0, .ref (E.2.1 + v0))]) rfl (by decide) dX10_proves_32 rfl rfl ?_
        refine j_iload_n (q := 0) (np := 34) rfl rfl dX10_proves_33 rfl ?_
        refine j_if_ge (tgt := 39) (np := 37) dX10_proves_34 rfl rfl ?_ ?_
        · refine j_aload_n (q := 2) (np := 40) rfl rfl dX10_proves_39 rfl ?_
          refine j_callVi (ci := 10) (np := 43) (bc := 0) (bs := 0) (cb := 0) (cs := 0) (dd := d - 1) (As := []) (st := []) caX10_proves mlX10_183 imX10_proves seX10_proves rfl rfl (by decide) (fun b hb => hfr _ _ _ hb) (by omega) rfl rfl (Nat.le_of_ble_eq_true rfl) dX10_proves_40 rfl (fun b6 => ?_)
          refine j_istore_n (np := 44) (lv2 := [(3, .int b6.1), (2, .int b5.1), (1, .int x4), (0, .ref (E.2.1 + v0))]) rfl (by decide) dX10_proves_43 rfl rfl ?_
          refine j_iload_n (q := 0) (np := 45) rfl rfl dX10_proves_44 rfl ?_
          refine j_if_ge (tgt := 52) (np := 48) dX10_proves_45 rfl rfl ?_ ?_
          · refine j_aload_n (q := 3) (np := 53) rfl rfl dX10_proves_52 rfl ?_
            refine j_iload_n (q := 1) (np := 54) rfl rfl dX10_proves_53 rfl ?_
            refine j_iload_n (q := 0) (np := 55) rfl rfl dX10_proves_54 rfl ?_
            refine j_callVi (ci := 10) (np := 58) (bc := 0) (bs := 0) (cb := 0) (cs := 0) (dd := d - 1) (As := [.int b5.1, .int b6.1]) (st := []) caX10_detach mlX10_187 imX10_detach seX10_detach rfl rfl (by decide) (fun b hb => wX10_detach (by omega) hb) (by omega) rfl rfl (Nat.le_of_ble_eq_true rfl) dX10_proves_55 rfl (fun b7 => ?_)
            exact j_iret rfl dX10_proves_58 (fun rr h => h)
          · refine j_iload_n (q := 0) (np := 49) rfl rfl dX10_proves_48 rfl ?_
            refine j_goto (tgt := 58) dX10_proves_49 rfl ?_
            exact j_iret rfl dX10_proves_58 (fun rr h => h)
        · refine j_iload_n (q := 0) (np := 38) rfl rfl dX10_proves_37 rfl ?_
          exact j_iret rfl dX10_proves_38 (fun rr h => h)
      · refine j_iload_n (q := 0) (np := 24) rfl rfl dX10_proves_23 rfl ?_
        refine j_bipush (np := 26) cb_49 dX10_proves_24 rfl ?_
        refine j_isub (np := 27) dX10_proves_26 rfl ?_
        exact j_iret rfl dX10_proves_27 (fun rr h => h)
    exact q_met pnX10 (Nat.le_of_ble_eq_true rfl) (bd b _ h rfl)
theorem dX10_prove_0 : decode cX10_prove 0 = .ok (.aload_n 0, 1) := by decide +kernel
theorem dX10_prove_1 : decode cX10_prove 1 = .ok (.invokevirtual 190, 3) := by decide +kernel
theorem dX10_prove_4 : decode cX10_prove 4 = .ok (.istore_n 1, 1) := by decide +kernel
theorem dX10_prove_5 : decode cX10_prove 5 = .ok (.iload_n 1, 1) := by decide +kernel
theorem dX10_prove_6 : decode cX10_prove 6 = .ok (.ifCond .ne 16, 3) := by decide +kernel
theorem dX10_prove_9 : decode cX10_prove 9 = .ok (.aload_n 0, 1) := by decide +kernel
theorem dX10_prove_10 : decode cX10_prove 10 = .ok (.iconst 0, 1) := by decide +kernel
theorem dX10_prove_11 : decode cX10_prove 11 = .ok (.putfield 103, 3) := by decide +kernel
theorem dX10_prove_14 : decode cX10_prove 14 = .ok (.bipush (-100), 2) := by decide +kernel
theorem dX10_prove_16 : decode cX10_prove 16 = .ok (.aload_n 0, 1) := by decide +kernel
theorem dX10_prove_17 : decode cX10_prove 17 = .ok (.getfield 112, 3) := by decide +kernel
theorem dX10_prove_20 : decode cX10_prove 20 = .ok (.isub, 1) := by decide +kernel
theorem dX10_prove_21 : decode cX10_prove 21 = .ok (.ireturn, 1) := by decide +kernel
theorem dX10_prove_22 : decode cX10_prove 22 = .ok (.aload_n 0, 1) := by decide +kernel
theorem dX10_prove_23 : decode cX10_prove 23 = .ok (.getfield 96, 3) := by decide +kernel
theorem dX10_prove_26 : decode cX10_prove 26 = .ok (.istore_n 2, 1) := by decide +kernel
theorem dX10_prove_27 : decode cX10_prove 27 = .ok (.aload_n 0, 1) := by decide +kernel
theorem dX10_prove_28 : decode cX10_prove 28 = .ok (.iconst 0, 1) := by decide +kernel
theorem dX10_prove_29 : decode cX10_prove 29 = .ok (.putfield 106, 3) := by decide +kernel
theorem dX10_prove_32 : decode cX10_prove 32 = .ok (.aload_n 0, 1) := by decide +kernel
theorem dX10_prove_33 : decode cX10_prove 33 = .ok (.invokevirtual 183, 3) := by decide +kernel
theorem dX10_prove_36 : decode cX10_prove 36 = .ok (.istore_n 3, 1) := by decide +kernel
theorem dX10_prove_37 : decode cX10_prove 37 = .ok (.aload_n 0, 1) := by decide +kernel
theorem dX10_prove_38 : decode cX10_prove 38 = .ok (.iconst 0, 1) := by decide +kernel
theorem dX10_prove_39 : decode cX10_prove 39 = .ok (.putfield 103, 3) := by decide +kernel
theorem dX10_prove_42 : decode cX10_prove 42 = .ok (.iload_n 3, 1) := by decide +kernel
theorem dX10_prove_43 : decode cX10_prove 43 = .ok (.ifCond .ge 8, 3) := by decide +kernel
theorem dX10_prove_46 : decode cX10_prove 46 = .ok (.aload_n 0, 1) := by decide +kernel
theorem dX10_prove_47 : decode cX10_prove 47 = .ok (.iload_n 2, 1) := by decide +kernel
theorem dX10_prove_48 : decode cX10_prove 48 = .ok (.putfield 96, 3) := by decide +kernel
theorem dX10_prove_51 : decode cX10_prove 51 = .ok (.iload_n 3, 1) := by decide +kernel
theorem dX10_prove_52 : decode cX10_prove 52 = .ok (.ireturn, 1) := by decide +kernel
def fX10_prove (N : Nat) (v0 : Nat) (m0 : qM) : Option (Int32 × qM) :=
  (qChk m0 v0 10 (fX10_readsProof N v0 m0)).bind fun b1 =>
  if b1.1 = 0 then (
  (qpI b1.2 v0 10 7 (0 : Int32)).bind fun m7 =>
  (qgI m7 v0 10 9).bind fun x8 =>
  some ((-100 : Int32) - x8, m7)
  ) else (
  (qgI b1.2 v0 10 5).bind fun x2 =>
  (qpI b1.2 v0 10 8 (0 : Int32)).bind fun m3 =>
  (qChk m3 v0 10 (fX10_proves N kR v0 m3)).bind fun b4 =>
  (qpI b4.2 v0 10 7 (0 : Int32)).bind fun m5 =>
  if 0 ≤ b4.1 then (
  some (b4.1, m5)
  ) else (
  (qpI m5 v0 10 5 x2).bind fun m6 =>
  some (b4.1, m6)
  )
  )
set_option maxRecDepth 100000 in
theorem bX10_prove {E : qE} {N d bc bs : Nat} (hd : 1277 ≤ d) {v0 : Nat} {m0 : qM} : qB E yX10_prove cX10_prove 4 (some .int) (fun _ => True) d bc bs 0 [(0, .ref (E.2.1 + v0))] [] m0 (fX10_prove N v0 m0) (fun b rr => rr = (some (.int b.1), b.2)) := by
  unfold fX10_prove
  refine j_aload_n (q := 0) (np := 1) rfl rfl dX10_prove_0 rfl ?_
  refine j_callVi (ci := 10) (np := 4) (bc := bc) (bs := bs) (cb := 0) (cs := 0) (dd := d - 1) (As := []) (st := []) caX10_readsProof mlX10_190 imX10_readsProof seX10_readsProof rfl rfl (by decide) (fun b hb => wX10_readsProof (by omega) hb) (by omega) rfl rfl (Nat.le_of_ble_eq_true rfl) dX10_prove_1 rfl (fun b1 => ?_)
  refine j_istore_n (np := 5) (lv2 := [(1, .int b1.1), (0, .ref (E.2.1 + v0))]) rfl (by decide) dX10_prove_4 rfl rfl ?_
  refine j_iload_n (q := 0) (np := 6) rfl rfl dX10_prove_5 rfl ?_
  refine j_if_ne (tgt := 22) (np := 9) dX10_prove_6 rfl rfl ?_ ?_
  · refine j_aload_n (q := 1) (np := 23) rfl rfl dX10_prove_22 rfl ?_
    refine j_gI (np := 26) flX10_96 dX10_prove_23 rfl (fun x2 => ?_)
    refine j_istore_n (np := 27) (lv2 := [(2, .int x2), (1, .int b1.1), (0, .ref (E.2.1 + v0))]) rfl (by decide) dX10_prove_26 rfl rfl ?_
    refine j_aload_n (q := 2) (np := 28) rfl rfl dX10_prove_27 rfl ?_
    refine j_iconst (np := 29) ci_0 dX10_prove_28 rfl ?_
    refine j_pI (np := 32) flX10_106 dX10_prove_29 rfl (fun m3 => ?_)
    refine j_aload_n (q := 2) (np := 33) rfl rfl dX10_prove_32 rfl ?_
    refine j_callVi (ci := 10) (np := 36) (bc := bc) (bs := bs) (cb := 0) (cs := 0) (dd := d - 1) (As := []) (st := []) caX10_proves mlX10_183 imX10_proves seX10_proves rfl rfl (by decide) (fun b hb => wX10_proves (by show 130 + _ ≤ _; omega) hb) (by omega) rfl rfl (Nat.le_of_ble_eq_true rfl) dX10_prove_33 rfl (fun b4 => ?_)
    refine j_istore_n (np := 37) (lv2 := [(3, .int b4.1), (2, .int x2), (1, .int b1.1), (0, .ref (E.2.1 + v0))]) rfl (by decide) dX10_prove_36 rfl rfl ?_
    refine j_aload_n (q := 3) (np := 38) rfl rfl dX10_prove_37 rfl ?_
    refine j_iconst (np := 39) ci_0 dX10_prove_38 rfl ?_
    refine j_pI (np := 42) flX10_103 dX10_prove_39 rfl (fun m5 => ?_)
    refine j_iload_n (q := 0) (np := 43) rfl rfl dX10_prove_42 rfl ?_
    refine j_if_ge (tgt := 51) (np := 46) dX10_prove_43 rfl rfl ?_ ?_
    · refine j_iload_n (q := 0) (np := 52) rfl rfl dX10_prove_51 rfl ?_
      exact j_iret rfl dX10_prove_52 (fun rr h => h)
    · refine j_aload_n (q := 3) (np := 47) rfl rfl dX10_prove_46 rfl ?_
      refine j_iload_n (q := 1) (np := 48) rfl rfl dX10_prove_47 rfl ?_
      refine j_pI (np := 51) flX10_96 dX10_prove_48 rfl (fun m6 => ?_)
      refine j_iload_n (q := 0) (np := 52) rfl rfl dX10_prove_51 rfl ?_
      exact j_iret rfl dX10_prove_52 (fun rr h => h)
  · refine j_aload_n (q := 1) (np := 10) rfl rfl dX10_prove_9 rfl ?_
    refine j_iconst (np := 11) ci_0 dX10_prove_10 rfl ?_
    refine j_pI (np := 14) flX10_103 dX10_prove_11 rfl (fun m7 => ?_)
    refine j_bipush (np := 16) cb_m100 dX10_prove_14 rfl ?_
    refine j_aload_n (q := 1) (np := 17) rfl rfl dX10_prove_16 rfl ?_
    refine j_gI (np := 20) flX10_112 dX10_prove_17 rfl (fun x8 => ?_)
    refine j_isub (np := 21) dX10_prove_20 rfl ?_
    exact j_iret rfl dX10_prove_21 (fun rr h => h)
set_option maxRecDepth 100000 in
theorem wX10_prove {E : qE} {N d : Nat} (hd : 1277 ≤ d) {v0 : Nat} {m0 : qM} {b : Int32 × qM} (h : fX10_prove N v0 m0 = some b) : qRun E yX10_prove cX10_prove 4 (some .int) d 0 0 [.ref (E.2.1 + v0)] m0 (some (.int b.1), b.2) := q_met pnX10 (Nat.le_of_ble_eq_true rfl) (bX10_prove hd b _ h rfl)
theorem dX10_cut_0 : decode cX10_cut 0 = .ok (.iload_n 1, 1) := by decide +kernel
theorem dX10_cut_1 : decode cX10_cut 1 = .ok (.iconst 0, 1) := by decide +kernel
theorem dX10_cut_2 : decode cX10_cut 2 = .ok (.aload_n 0, 1) := by decide +kernel
theorem dX10_cut_3 : decode cX10_cut 3 = .ok (.getfield 96, 3) := by decide +kernel
theorem dX10_cut_6 : decode cX10_cut 6 = .ok (.invokestatic 99, 3) := by decide +kernel
theorem dX10_cut_9 : decode cX10_cut 9 = .ok (.ifCond .ne 6, 3) := by decide +kernel
theorem dX10_cut_12 : decode cX10_cut 12 = .ok (.bipush (-2), 2) := by decide +kernel
theorem dX10_cut_14 : decode cX10_cut 14 = .ok (.ireturn, 1) := by decide +kernel
theorem dX10_cut_15 : decode cX10_cut 15 = .ok (.aload_n 0, 1) := by decide +kernel
theorem dX10_cut_16 : decode cX10_cut 16 = .ok (.getfield 96, 3) := by decide +kernel
theorem dX10_cut_19 : decode cX10_cut 19 = .ok (.iload_n 1, 1) := by decide +kernel
theorem dX10_cut_20 : decode cX10_cut 20 = .ok (.isub, 1) := by decide +kernel
theorem dX10_cut_21 : decode cX10_cut 21 = .ok (.istore_n 2, 1) := by decide +kernel
theorem dX10_cut_22 : decode cX10_cut 22 = .ok (.aload_n 0, 1) := by decide +kernel
theorem dX10_cut_23 : decode cX10_cut 23 = .ok (.iload_n 1, 1) := by decide +kernel
theorem dX10_cut_24 : decode cX10_cut 24 = .ok (.putfield 96, 3) := by decide +kernel
theorem dX10_cut_27 : decode cX10_cut 27 = .ok (.iload_n 2, 1) := by decide +kernel
theorem dX10_cut_28 : decode cX10_cut 28 = .ok (.ireturn, 1) := by decide +kernel
def fX10_cut (N : Nat) (v0 : Nat) (v1 : Int32) (m0 : qM) : Option (Int32 × qM) :=
  (qgI m0 v0 10 5).bind fun x1 =>
  (fX10_in N v1 (0 : Int32) x1 m0).bind fun b2 =>
  if b2.1 = 0 then (
  some ((-2 : Int32), b2.2)
  ) else (
  (qgI b2.2 v0 10 5).bind fun x3 =>
  (qpI b2.2 v0 10 5 v1).bind fun m4 =>
  some (x3 - v1, m4)
  )
set_option maxRecDepth 100000 in
theorem bX10_cut {E : qE} {N d bc bs : Nat} (hd : 1 ≤ d) {v0 : Nat} {v1 : Int32} {m0 : qM} : qB E yX10_cut cX10_cut 3 (some .int) (fun _ => True) d bc bs 0 [(0, .ref (E.2.1 + v0)), (1, .int v1)] [] m0 (fX10_cut N v0 v1 m0) (fun b rr => rr = (some (.int b.1), b.2)) := by
  unfold fX10_cut
  refine j_iload_n (q := 1) (np := 1) rfl rfl dX10_cut_0 rfl ?_
  refine j_iconst (np := 2) ci_0 dX10_cut_1 rfl ?_
  refine j_aload_n (q := 0) (np := 3) rfl rfl dX10_cut_2 rfl ?_
  refine j_gI (np := 6) flX10_96 dX10_cut_3 rfl (fun x1 => ?_)
  refine j_callSi (np := 9) (bc := bc) (bs := bs) (cb := 0) (cs := 0) (dd := d - 1) (As := [.int v1, .int (0 : Int32), .int x1]) (st := []) caX10_in mlX10_99 stX10_in (fun b hb => wX10_in (by omega) hb) (by omega) rfl rfl (Nat.le_of_ble_eq_true rfl) dX10_cut_6 rfl (fun b2 => ?_)
  refine j_if_ne (tgt := 15) (np := 12) dX10_cut_9 rfl rfl ?_ ?_
  · refine j_aload_n (q := 0) (np := 16) rfl rfl dX10_cut_15 rfl ?_
    refine j_gI (np := 19) flX10_96 dX10_cut_16 rfl (fun x3 => ?_)
    refine j_iload_n (q := 1) (np := 20) rfl rfl dX10_cut_19 rfl ?_
    refine j_isub (np := 21) dX10_cut_20 rfl ?_
    refine j_istore_n (np := 22) (lv2 := [(2, .int (x3 - v1)), (0, .ref (E.2.1 + v0)), (1, .int v1)]) rfl (by decide) dX10_cut_21 rfl rfl ?_
    refine j_aload_n (q := 1) (np := 23) rfl rfl dX10_cut_22 rfl ?_
    refine j_iload_n (q := 2) (np := 24) rfl rfl dX10_cut_23 rfl ?_
    refine j_pI (np := 27) flX10_96 dX10_cut_24 rfl (fun m4 => ?_)
    refine j_iload_n (q := 0) (np := 28) rfl rfl dX10_cut_27 rfl ?_
    exact j_iret rfl dX10_cut_28 (fun rr h => h)
  · refine j_bipush (np := 14) cb_m2 dX10_cut_12 rfl ?_
    exact j_iret rfl dX10_cut_14 (fun rr h => h)
set_option maxRecDepth 100000 in
theorem wX10_cut {E : qE} {N d : Nat} (hd : 1 ≤ d) {v0 : Nat} {v1 : Int32} {m0 : qM} {b : Int32 × qM} (h : fX10_cut N v0 v1 m0 = some b) : qRun E yX10_cut cX10_cut 3 (some .int) d 0 0 [.ref (E.2.1 + v0), .int v1] m0 (some (.int b.1), b.2) := q_met pnX10 (Nat.le_of_ble_eq_true rfl) (bX10_cut hd b _ h rfl)
theorem dX10_listSize_0 : decode cX10_listSize 0 = .ok (.aload_n 0, 1) := by decide +kernel
theorem dX10_listSize_1 : decode cX10_listSize 1 = .ok (.getfield 96, 3) := by decide +kernel
theorem dX10_listSize_4 : decode cX10_listSize 4 = .ok (.ireturn, 1) := by decide +kernel
def fX10_listSize (N : Nat) (v0 : Nat) (m0 : qM) : Option (Int32 × qM) :=
  (qgI m0 v0 10 5).bind fun x1 =>
  some (x1, m0)
set_option maxRecDepth 100000 in
theorem bX10_listSize {E : qE} {N d bc bs : Nat} (hd : 0 ≤ d) {v0 : Nat} {m0 : qM} : qB E yX10_listSize cX10_listSize 1 (some .int) (fun _ => True) d bc bs 0 [(0, .ref (E.2.1 + v0))] [] m0 (fX10_listSize N v0 m0) (fun b rr => rr = (some (.int b.1), b.2)) := by
  unfold fX10_listSize
  refine j_aload_n (q := 0) (np := 1) rfl rfl dX10_listSize_0 rfl ?_
  refine j_gI (np := 4) flX10_96 dX10_listSize_1 rfl (fun x1 => ?_)
  exact j_iret rfl dX10_listSize_4 (fun rr h => h)
set_option maxRecDepth 100000 in
theorem wX10_listSize {E : qE} {N d : Nat} (hd : 0 ≤ d) {v0 : Nat} {m0 : qM} {b : Int32 × qM} (h : fX10_listSize N v0 m0 = some b) : qRun E yX10_listSize cX10_listSize 1 (some .int) d 0 0 [.ref (E.2.1 + v0)] m0 (some (.int b.1), b.2) := q_met pnX10 (Nat.le_of_ble_eq_true rfl) (bX10_listSize hd b _ h rfl)
theorem dX10_formulaSize_0 : decode cX10_formulaSize 0 = .ok (.aload_n 0, 1) := by decide +kernel
theorem dX10_formulaSize_1 : decode cX10_formulaSize 1 = .ok (.iload_n 1, 1) := by decide +kernel
theorem dX10_formulaSize_2 : decode cX10_formulaSize 2 = .ok (.invokevirtual 172, 3) := by decide +kernel
theorem dX10_formulaSize_5 : decode cX10_formulaSize 5 = .ok (.ifCond .eq 12, 3) := by decide +kernel
theorem dX10_formulaSize_8 : decode cX10_formulaSize 8 = .ok (.aload_n 0, 1) := by decide +kernel
theorem dX10_formulaSize_9 : decode cX10_formulaSize 9 = .ok (.getfield 13, 3) := by decide +kernel
theorem dX10_formulaSize_12 : decode cX10_formulaSize 12 = .ok (.iload_n 1, 1) := by decide +kernel
theorem dX10_formulaSize_13 : decode cX10_formulaSize 13 = .ok (.iaload, 1) := by decide +kernel
theorem dX10_formulaSize_14 : decode cX10_formulaSize 14 = .ok (.goto 4, 3) := by decide +kernel
theorem dX10_formulaSize_17 : decode cX10_formulaSize 17 = .ok (.iconst (-1), 1) := by decide +kernel
theorem dX10_formulaSize_18 : decode cX10_formulaSize 18 = .ok (.ireturn, 1) := by decide +kernel
def fX10_formulaSize (N : Nat) (v0 : Nat) (v1 : Int32) (m0 : qM) : Option (Int32 × qM) :=
  (qChk m0 v0 10 (fX10_isOne N v0 v1 m0)).bind fun b1 =>
  if b1.1 = 0 then (
  some ((-1 : Int32), b1.2)
  ) else (
  (qgR b1.2 v0 10 1).bind fun x2 =>
  (qaI b1.2 x2 12 v1).bind fun x3 =>
  some (x3, b1.2)
  )
set_option maxRecDepth 100000 in
theorem bX10_formulaSize {E : qE} {N d bc bs : Nat} (hd : 2 ≤ d) {v0 : Nat} {v1 : Int32} {m0 : qM} : qB E yX10_formulaSize cX10_formulaSize 2 (some .int) (fun _ => True) d bc bs 0 [(0, .ref (E.2.1 + v0)), (1, .int v1)] [] m0 (fX10_formulaSize N v0 v1 m0) (fun b rr => rr = (some (.int b.1), b.2)) := by
  unfold fX10_formulaSize
  refine j_aload_n (q := 0) (np := 1) rfl rfl dX10_formulaSize_0 rfl ?_
  refine j_iload_n (q := 1) (np := 2) rfl rfl dX10_formulaSize_1 rfl ?_
  refine j_callVi (ci := 10) (np := 5) (bc := bc) (bs := bs) (cb := 0) (cs := 0) (dd := d - 1) (As := [.int v1]) (st := []) caX10_isOne mlX10_172 imX10_isOne seX10_isOne rfl rfl (by decide) (fun b hb => wX10_isOne (by omega) hb) (by omega) rfl rfl (Nat.le_of_ble_eq_true rfl) dX10_formulaSize_2 rfl (fun b1 => ?_)
  refine j_if_eq (tgt := 17) (np := 8) dX10_formulaSize_5 rfl rfl ?_ ?_
  · refine j_iconst (np := 18) ci_m1 dX10_formulaSize_17 rfl ?_
    exact j_iret rfl dX10_formulaSize_18 (fun rr h => h)
  · refine j_aload_n (q := 0) (np := 9) rfl rfl dX10_formulaSize_8 rfl ?_
    refine j_gR (np := 12) flX10_13 dX10_formulaSize_9 rfl (fun x2 => ?_)
    refine j_iload_n (q := 1) (np := 13) rfl rfl dX10_formulaSize_12 rfl ?_
    refine j_iaload (np := 14) dX10_formulaSize_13 rfl (fun x3 => ?_)
    refine j_goto (tgt := 18) dX10_formulaSize_14 rfl ?_
    exact j_iret rfl dX10_formulaSize_18 (fun rr h => h)
set_option maxRecDepth 100000 in
theorem wX10_formulaSize {E : qE} {N d : Nat} (hd : 2 ≤ d) {v0 : Nat} {v1 : Int32} {m0 : qM} {b : Int32 × qM} (h : fX10_formulaSize N v0 v1 m0 = some b) : qRun E yX10_formulaSize cX10_formulaSize 2 (some .int) d 0 0 [.ref (E.2.1 + v0), .int v1] m0 (some (.int b.1), b.2) := q_met pnX10 (Nat.le_of_ble_eq_true rfl) (bX10_formulaSize hd b _ h rfl)
theorem dX10_variableCount_0 : decode cX10_variableCount 0 = .ok (.aload_n 0, 1) := by decide +kernel
theorem dX10_variableCount_1 : decode cX10_variableCount 1 = .ok (.iload_n 1, 1) := by decide +kernel
theorem dX10_variableCount_2 : decode cX10_variableCount 2 = .ok (.invokevirtual 172, 3) := by decide +kernel
theorem dX10_variableCount_5 : decode cX10_variableCount 5 = .ok (.ifCond .eq 11, 3) := by decide +kernel
theorem dX10_variableCount_8 : decode cX10_variableCount 8 = .ok (.aload_n 0, 1) := by decide +kernel
theorem dX10_variableCount_9 : decode cX10_variableCount 9 = .ok (.iload_n 1, 1) := by decide +kernel
theorem dX10_variableCount_10 : decode cX10_variableCount 10 = .ok (.invokevirtual 193, 3) := by decide +kernel
theorem dX10_variableCount_13 : decode cX10_variableCount 13 = .ok (.goto 4, 3) := by decide +kernel
theorem dX10_variableCount_16 : decode cX10_variableCount 16 = .ok (.iconst (-1), 1) := by decide +kernel
theorem dX10_variableCount_17 : decode cX10_variableCount 17 = .ok (.ireturn, 1) := by decide +kernel
def fX10_variableCount (N : Nat) (v0 : Nat) (v1 : Int32) (m0 : qM) : Option (Int32 × qM) :=
  (qChk m0 v0 10 (fX10_isOne N v0 v1 m0)).bind fun b1 =>
  if b1.1 = 0 then (
  some ((-1 : Int32), b1.2)
  ) else (
  (qChk b1.2 v0 10 (fX10_variables N v0 v1 b1.2)).bind fun b2 =>
  some (b2.1, b2.2)
  )
set_option maxRecDepth 100000 in
theorem bX10_variableCount {E : qE} {N d bc bs : Nat} (hd : 2 ≤ d) {v0 : Nat} {v1 : Int32} {m0 : qM} : qB E yX10_variableCount cX10_variableCount 2 (some .int) (fun _ => True) d bc bs 0 [(0, .ref (E.2.1 + v0)), (1, .int v1)] [] m0 (fX10_variableCount N v0 v1 m0) (fun b rr => rr = (some (.int b.1), b.2)) := by
  unfold fX10_variableCount
  refine j_aload_n (q := 0) (np := 1) rfl rfl dX10_variableCount_0 rfl ?_
  refine j_iload_n (q := 1) (np := 2) rfl rfl dX10_variableCount_1 rfl ?_
  refine j_callVi (ci := 10) (np := 5) (bc := bc) (bs := bs) (cb := 0) (cs := 0) (dd := d - 1) (As := [.int v1]) (st := []) caX10_isOne mlX10_172 imX10_isOne seX10_isOne rfl rfl (by decide) (fun b hb => wX10_isOne (by omega) hb) (by omega) rfl rfl (Nat.le_of_ble_eq_true rfl) dX10_variableCount_2 rfl (fun b1 => ?_)
  refine j_if_eq (tgt := 16) (np := 8) dX10_variableCount_5 rfl rfl ?_ ?_
  · refine j_iconst (np := 17) ci_m1 dX10_variableCount_16 rfl ?_
    exact j_iret rfl dX10_variableCount_17 (fun rr h => h)
  · refine j_aload_n (q := 0) (np := 9) rfl rfl dX10_variableCount_8 rfl ?_
    refine j_iload_n (q := 1) (np := 10) rfl rfl dX10_variableCount_9 rfl ?_
    refine j_callVi (ci := 10) (np := 13) (bc := bc) (bs := bs) (cb := 0) (cs := 0) (dd := d - 1) (As := [.int v1]) (st := []) caX10_variables mlX10_193 imX10_variables seX10_variables rfl rfl (by decide) (fun b hb => wX10_variables (by omega) hb) (by omega) rfl rfl (Nat.le_of_ble_eq_true rfl) dX10_variableCount_10 rfl (fun b2 => ?_)
    refine j_goto (tgt := 17) dX10_variableCount_13 rfl ?_
    exact j_iret rfl dX10_variableCount_17 (fun rr h => h)
set_option maxRecDepth 100000 in
theorem wX10_variableCount {E : qE} {N d : Nat} (hd : 2 ≤ d) {v0 : Nat} {v1 : Int32} {m0 : qM} {b : Int32 × qM} (h : fX10_variableCount N v0 v1 m0 = some b) : qRun E yX10_variableCount cX10_variableCount 2 (some .int) d 0 0 [.ref (E.2.1 + v0), .int v1] m0 (some (.int b.1), b.2) := q_met pnX10 (Nat.le_of_ble_eq_true rfl) (bX10_variableCount hd b _ h rfl)
theorem dX10_majorOf_0 : decode cX10_majorOf 0 = .ok (.aload_n 0, 1) := by decide +kernel
theorem dX10_majorOf_1 : decode cX10_majorOf 1 = .ok (.iload_n 1, 1) := by decide +kernel
theorem dX10_majorOf_2 : decode cX10_majorOf 2 = .ok (.invokevirtual 172, 3) := by decide +kernel
theorem dX10_majorOf_5 : decode cX10_majorOf 5 = .ok (.ifCond .eq 12, 3) := by decide +kernel
theorem dX10_majorOf_8 : decode cX10_majorOf 8 = .ok (.aload_n 0, 1) := by decide +kernel
theorem dX10_majorOf_9 : decode cX10_majorOf 9 = .ok (.getfield 16, 3) := by decide +kernel
theorem dX10_majorOf_12 : decode cX10_majorOf 12 = .ok (.iload_n 1, 1) := by decide +kernel
theorem dX10_majorOf_13 : decode cX10_majorOf 13 = .ok (.iaload, 1) := by decide +kernel
theorem dX10_majorOf_14 : decode cX10_majorOf 14 = .ok (.goto 4, 3) := by decide +kernel
theorem dX10_majorOf_17 : decode cX10_majorOf 17 = .ok (.iconst (-1), 1) := by decide +kernel
theorem dX10_majorOf_18 : decode cX10_majorOf 18 = .ok (.ireturn, 1) := by decide +kernel
def fX10_majorOf (N : Nat) (v0 : Nat) (v1 : Int32) (m0 : qM) : Option (Int32 × qM) :=
  (qChk m0 v0 10 (fX10_isOne N v0 v1 m0)).bind fun b1 =>
  if b1.1 = 0 then (
  some ((-1 : Int32), b1.2)
  ) else (
  (qgR b1.2 v0 10 2).bind fun x2 =>
  (qaI b1.2 x2 12 v1).bind fun x3 =>
  some (x3, b1.2)
  )
set_option maxRecDepth 100000 in
theorem bX10_majorOf {E : qE} {N d bc bs : Nat} (hd : 2 ≤ d) {v0 : Nat} {v1 : Int32} {m0 : qM} : qB E yX10_majorOf cX10_majorOf 2 (some .int) (fun _ => True) d bc bs 0 [(0, .ref (E.2.1 + v0)), (1, .int v1)] [] m0 (fX10_majorOf N v0 v1 m0) (fun b rr => rr = (some (.int b.1), b.2)) := by
  unfold fX10_majorOf
  refine j_aload_n (q := 0) (np := 1) rfl rfl dX10_majorOf_0 rfl ?_
  refine j_iload_n (q := 1) (np := 2) rfl rfl dX10_majorOf_1 rfl ?_
  refine j_callVi (ci := 10) (np := 5) (bc := bc) (bs := bs) (cb := 0) (cs := 0) (dd := d - 1) (As := [.int v1]) (st := []) caX10_isOne mlX10_172 imX10_isOne seX10_isOne rfl rfl (by decide) (fun b hb => wX10_isOne (by omega) hb) (by omega) rfl rfl (Nat.le_of_ble_eq_true rfl) dX10_majorOf_2 rfl (fun b1 => ?_)
  refine j_if_eq (tgt := 17) (np := 8) dX10_majorOf_5 rfl rfl ?_ ?_
  · refine j_iconst (np := 18) ci_m1 dX10_majorOf_17 rfl ?_
    exact j_iret rfl dX10_majorOf_18 (fun rr h => h)
  · refine j_aload_n (q := 0) (np := 9) rfl rfl dX10_majorOf_8 rfl ?_
    refine j_gR (np := 12) flX10_16 dX10_majorOf_9 rfl (fun x2 => ?_)
    refine j_iload_n (q := 1) (np := 13) rfl rfl dX10_majorOf_12 rfl ?_
    refine j_iaload (np := 14) dX10_majorOf_13 rfl (fun x3 => ?_)
    refine j_goto (tgt := 18) dX10_majorOf_14 rfl ?_
    exact j_iret rfl dX10_majorOf_18 (fun rr h => h)
set_option maxRecDepth 100000 in
theorem wX10_majorOf {E : qE} {N d : Nat} (hd : 2 ≤ d) {v0 : Nat} {v1 : Int32} {m0 : qM} {b : Int32 × qM} (h : fX10_majorOf N v0 v1 m0 = some b) : qRun E yX10_majorOf cX10_majorOf 2 (some .int) d 0 0 [.ref (E.2.1 + v0), .int v1] m0 (some (.int b.1), b.2) := q_met pnX10 (Nat.le_of_ble_eq_true rfl) (bX10_majorOf hd b _ h rfl)
theorem dX10_minorOf_0 : decode cX10_minorOf 0 = .ok (.aload_n 0, 1) := by decide +kernel
theorem dX10_minorOf_1 : decode cX10_minorOf 1 = .ok (.iload_n 1, 1) := by decide +kernel
theorem dX10_minorOf_2 : decode cX10_minorOf 2 = .ok (.invokevirtual 172, 3) := by decide +kernel
theorem dX10_minorOf_5 : decode cX10_minorOf 5 = .ok (.ifCond .eq 12, 3) := by decide +kernel
theorem dX10_minorOf_8 : decode cX10_minorOf 8 = .ok (.aload_n 0, 1) := by decide +kernel
theorem dX10_minorOf_9 : decode cX10_minorOf 9 = .ok (.getfield 19, 3) := by decide +kernel
theorem dX10_minorOf_12 : decode cX10_minorOf 12 = .ok (.iload_n 1, 1) := by decide +kernel
theorem dX10_minorOf_13 : decode cX10_minorOf 13 = .ok (.iaload, 1) := by decide +kernel
theorem dX10_minorOf_14 : decode cX10_minorOf 14 = .ok (.goto 4, 3) := by decide +kernel
theorem dX10_minorOf_17 : decode cX10_minorOf 17 = .ok (.iconst (-1), 1) := by decide +kernel
theorem dX10_minorOf_18 : decode cX10_minorOf 18 = .ok (.ireturn, 1) := by decide +kernel
def fX10_minorOf (N : Nat) (v0 : Nat) (v1 : Int32) (m0 : qM) : Option (Int32 × qM) :=
  (qChk m0 v0 10 (fX10_isOne N v0 v1 m0)).bind fun b1 =>
  if b1.1 = 0 then (
  some ((-1 : Int32), b1.2)
  ) else (
  (qgR b1.2 v0 10 3).bind fun x2 =>
  (qaI b1.2 x2 12 v1).bind fun x3 =>
  some (x3, b1.2)
  )
set_option maxRecDepth 100000 in
theorem bX10_minorOf {E : qE} {N d bc bs : Nat} (hd : 2 ≤ d) {v0 : Nat} {v1 : Int32} {m0 : qM} : qB E yX10_minorOf cX10_minorOf 2 (some .int) (fun _ => True) d bc bs 0 [(0, .ref (E.2.1 + v0)), (1, .int v1)] [] m0 (fX10_minorOf N v0 v1 m0) (fun b rr => rr = (some (.int b.1), b.2)) := by
  unfold fX10_minorOf
  refine j_aload_n (q := 0) (np := 1) rfl rfl dX10_minorOf_0 rfl ?_
  refine j_iload_n (q := 1) (np := 2) rfl rfl dX10_minorOf_1 rfl ?_
  refine j_callVi (ci := 10) (np := 5) (bc := bc) (bs := bs) (cb := 0) (cs := 0) (dd := d - 1) (As := [.int v1]) (st := []) caX10_isOne mlX10_172 imX10_isOne seX10_isOne rfl rfl (by decide) (fun b hb => wX10_isOne (by omega) hb) (by omega) rfl rfl (Nat.le_of_ble_eq_true rfl) dX10_minorOf_2 rfl (fun b1 => ?_)
  refine j_if_eq (tgt := 17) (np := 8) dX10_minorOf_5 rfl rfl ?_ ?_
  · refine j_iconst (np := 18) ci_m1 dX10_minorOf_17 rfl ?_
    exact j_iret rfl dX10_minorOf_18 (fun rr h => h)
  · refine j_aload_n (q := 0) (np := 9) rfl rfl dX10_minorOf_8 rfl ?_
    refine j_gR (np := 12) flX10_19 dX10_minorOf_9 rfl (fun x2 => ?_)
    refine j_iload_n (q := 1) (np := 13) rfl rfl dX10_minorOf_12 rfl ?_
    refine j_iaload (np := 14) dX10_minorOf_13 rfl (fun x3 => ?_)
    refine j_goto (tgt := 18) dX10_minorOf_14 rfl ?_
    exact j_iret rfl dX10_minorOf_18 (fun rr h => h)
set_option maxRecDepth 100000 in
theorem wX10_minorOf {E : qE} {N d : Nat} (hd : 2 ≤ d) {v0 : Nat} {v1 : Int32} {m0 : qM} {b : Int32 × qM} (h : fX10_minorOf N v0 v1 m0 = some b) : qRun E yX10_minorOf cX10_minorOf 2 (some .int) d 0 0 [.ref (E.2.1 + v0), .int v1] m0 (some (.int b.1), b.2) := q_met pnX10 (Nat.le_of_ble_eq_true rfl) (bX10_minorOf hd b _ h rfl)
theorem dX10_proofDepth_0 : decode cX10_proofDepth 0 = .ok (.aload_n 0, 1) := by decide +kernel
theorem dX10_proofDepth_1 : decode cX10_proofDepth 1 = .ok (.iload_n 1, 1) := by decide +kernel
theorem dX10_proofDepth_2 : decode cX10_proofDepth 2 = .ok (.invokevirtual 172, 3) := by decide +kernel
theorem dX10_proofDepth_5 : decode cX10_proofDepth 5 = .ok (.ifCond .ne 5, 3) := by decide +kernel
theorem dX10_proofDepth_8 : decode cX10_proofDepth 8 = .ok (.iconst (-1), 1) := by decide +kernel
theorem dX10_proofDepth_9 : decode cX10_proofDepth 9 = .ok (.ireturn, 1) := by decide +kernel
theorem dX10_proofDepth_10 : decode cX10_proofDepth 10 = .ok (.iload_n 1, 1) := by decide +kernel
theorem dX10_proofDepth_11 : decode cX10_proofDepth 11 = .ok (.iconst 1, 1) := by decide +kernel
theorem dX10_proofDepth_12 : decode cX10_proofDepth 12 = .ok (.iadd, 1) := by decide +kernel
theorem dX10_proofDepth_13 : decode cX10_proofDepth 13 = .ok (.newarray .int, 2) := by decide +kernel
theorem dX10_proofDepth_15 : decode cX10_proofDepth 15 = .ok (.astore_n 2, 1) := by decide +kernel
theorem dX10_proofDepth_16 : decode cX10_proofDepth 16 = .ok (.iconst 0, 1) := by decide +kernel
theorem dX10_proofDepth_17 : decode cX10_proofDepth 17 = .ok (.istore_n 3, 1) := by decide +kernel
theorem dX10_proofDepth_18 : decode cX10_proofDepth 18 = .ok (.iload_n 3, 1) := by decide +kernel
theorem dX10_proofDepth_19 : decode cX10_proofDepth 19 = .ok (.iload_n 1, 1) := by decide +kernel
theorem dX10_proofDepth_20 : decode cX10_proofDepth 20 = .ok (.if_icmp .gt 46, 3) := by decide +kernel
theorem dX10_proofDepth_23 : decode cX10_proofDepth 23 = .ok (.aload_n 2, 1) := by decide +kernel
theorem dX10_proofDepth_24 : decode cX10_proofDepth 24 = .ok (.iload_n 3, 1) := by decide +kernel
theorem dX10_proofDepth_25 : decode cX10_proofDepth 25 = .ok (.aload_n 0, 1) := by decide +kernel
theorem dX10_proofDepth_26 : decode cX10_proofDepth 26 = .ok (.getfield 16, 3) := by decide +kernel
theorem dX10_proofDepth_29 : decode cX10_proofDepth 29 = .ok (.iload_n 3, 1) := by decide +kernel
theorem dX10_proofDepth_30 : decode cX10_proofDepth 30 = .ok (.iaload, 1) := by decide +kernel
theorem dX10_proofDepth_31 : decode cX10_proofDepth 31 = .ok (.ifCond .ge 7, 3) := by decide +kernel
theorem dX10_proofDepth_34 : decode cX10_proofDepth 34 = .ok (.iconst 0, 1) := by decide +kernel
theorem dX10_proofDepth_35 : decode cX10_proofDepth 35 = .ok (.goto 24, 3) := by decide +kernel
theorem dX10_proofDepth_38 : decode cX10_proofDepth 38 = .ok (.iconst 1, 1) := by decide +kernel
theorem dX10_proofDepth_39 : decode cX10_proofDepth 39 = .ok (.aload_n 2, 1) := by decide +kernel
theorem dX10_proofDepth_40 : decode cX10_proofDepth 40 = .ok (.aload_n 0, 1) := by decide +kernel
theorem dX10_proofDepth_41 : decode cX10_proofDepth 41 = .ok (.getfield 16, 3) := by decide +kernel
theorem dX10_proofDepth_44 : decode cX10_proofDepth 44 = .ok (.iload_n 3, 1) := by decide +kernel
theorem dX10_proofDepth_45 : decode cX10_proofDepth 45 = .ok (.iaload, 1) := by decide +kernel
theorem dX10_proofDepth_46 : decode cX10_proofDepth 46 = .ok (.iaload, 1) := by decide +kernel
theorem dX10_proofDepth_47 : decode cX10_proofDepth 47 = .ok (.aload_n 2, 1) := by decide +kernel
theorem dX10_proofDepth_48 : decode cX10_proofDepth 48 = .ok (.aload_n 0, 1) := by decide +kernel
theorem dX10_proofDepth_49 : decode cX10_proofDepth 49 = .ok (.getfield 19, 3) := by decide +kernel
theorem dX10_proofDepth_52 : decode cX10_proofDepth 52 = .ok (.iload_n 3, 1) := by decide +kernel
theorem dX10_proofDepth_53 : decode cX10_proofDepth 53 = .ok (.iaload, 1) := by decide +kernel
theorem dX10_proofDepth_54 : decode cX10_proofDepth 54 = .ok (.iaload, 1) := by decide +kernel
theorem dX10_proofDepth_55 : decode cX10_proofDepth 55 = .ok (.invokestatic 115, 3) := by decide +kernel
theorem dX10_proofDepth_58 : decode cX10_proofDepth 58 = .ok (.iadd, 1) := by decide +kernel
theorem dX10_proofDepth_59 : decode cX10_proofDepth 59 = .ok (.iastore, 1) := by decide +kernel
theorem dX10_proofDepth_60 : decode cX10_proofDepth 60 = .ok (.iinc 3 1, 3) := by decide +kernel
theorem dX10_proofDepth_63 : decode cX10_proofDepth 63 = .ok (.goto (-45), 3) := by decide +kernel
theorem dX10_proofDepth_66 : decode cX10_proofDepth 66 = .ok (.aload_n 2, 1) := by decide +kernel
theorem dX10_proofDepth_67 : decode cX10_proofDepth 67 = .ok (.iload_n 1, 1) := by decide +kernel
theorem dX10_proofDepth_68 : decode cX10_proofDepth 68 = .ok (.iaload, 1) := by decide +kernel
theorem dX10_proofDepth_69 : decode cX10_proofDepth 69 = .ok (.ireturn, 1) := by decide +kernel
def kX10_proofDepth_59 (N : Nat) (rec : Int32 → qM → Option (qM)) (v0 : Nat) (v1 : Int32) (v2 : Nat) (v3 : Int32) (s0 : Nat) (s1 : Int32) (s2 : Int32) (m0 : qM) : Option (qM) :=
  (qwI m0 s0 12 s1 s2).bind fun m1 =>
  rec (v3 + (1 : Int32)) m1
set_option maxRecDepth 100000 in
theorem kbX10_proofDepth_59 {E : qE} {N d bc bs : Nat} (hd : 2 ≤ d) {v0 : Nat} {v1 : Int32} {v2 : Nat} {v3 : Int32} {s0 : Nat} {s1 : Int32} {s2 : Int32} {m0 : qM} {rec : Int32 → qM → Option (qM)} (hrec : ∀ (v3 : Int32) (m : qM), qB E yX10_proofDepth cX10_proofDepth 4 (some .int) (fun _ => True) d bc bs 18 [(0, .ref (E.2.1 + v0)), (1, .int v1), (2, .ref (E.2.1 + v2)), (3, .int v3)] [] m (rec v3 m) (fun o rr => qJ E yX10_proofDepth cX10_proofDepth 4 (some .int) (fun _ => True) d bc bs 66 [(1, .int v1), (2, .ref (E.2.1 + v2))] [] o rr)) : qB E yX10_proofDepth cX10_proofDepth 4 (some .int) (fun _ => True) d bc bs 59 [(0, .ref (E.2.1 + v0)), (1, .int v1), (2, .ref (E.2.1 + v2)), (3, .int v3)] [.int s2, .int s1, .ref (E.2.1 + s0)] m0 (kX10_proofDepth_59 N rec v0 v1 v2 v3 s0 s1 s2 m0) (fun o rr => qJ E yX10_proofDepth cX10_proofDepth 4 (some .int) (fun _ => True) d bc bs 66 [(1, .int v1), (2, .ref (E.2.1 + v2))] [] o rr) := by
  unfold kX10_proofDepth_59
  refine j_iastore (np := 60) dX10_proofDepth_59 rfl (fun m1 => ?_)
  refine j_iinc (q := 3) (np := 63) (lv2 := [(3, .int (v3 + (1 : Int32))), (0, .ref (E.2.1 + v0)), (1, .int v1), (2, .ref (E.2.1 + v2))]) rfl (congrArg _ ci_1) (by decide) dX10_proofDepth_60 rfl rfl ?_
  refine j_goto (tgt := 18) dX10_proofDepth_63 rfl ?_
  refine j_sub (lv2 := [(0, .ref (E.2.1 + v0)), (1, .int v1), (2, .ref (E.2.1 + v2)), (3, .int (v3 + (1 : Int32)))]) [1, 2, 3, 0] rfl ?_
  exact hrec _ _
def lX10_proofDepth_18 (N : Nat) (v0 : Nat) (v1 : Int32) (v2 : Nat) : Nat → Int32 → qM → Option (qM)
  | 0, _, _ => none
  | n + 1, v3, m0 =>
    if v1 < v3 then (
    some m0
    ) else (
    (qgR m0 v0 10 2).bind fun x1 =>
    (qaI m0 x1 12 v3).bind fun x2 =>
    if 0 ≤ x2 then (
    (qgR m0 v0 10 2).bind fun x3 =>
    (qaI m0 x3 12 v3).bind fun x4 =>
    (qaI m0 v2 12 x4).bind fun x5 =>
    (qgR m0 v0 10 3).bind fun x6 =>
    (qaI m0 x6 12 v3).bind fun x7 =>
    (qaI m0 v2 12 x7).bind fun x8 =>
    kX10_proofDepth_59 N (lX10_proofDepth_18 N v0 v1 v2 n) v0 v1 v2 v3 v2 v3 ((1 : Int32) + (if x5 < x8 then x8 else x5)) m0
    ) else (
    kX10_proofDepth_59 N (lX10_proofDepth_18 N v0 v1 v2 n) v0 v1 v2 v3 v2 v3 (0 : Int32) m0
    )
    )
set_option maxRecDepth 100000 in
theorem lbX10_proofDepth_18 {E : qE} {N d bc bs : Nat} (hd : 2 ≤ d) {v0 : Nat} {v1 : Int32} {v2 : Nat} : ∀ (n : Nat) (v3 : Int32) (m0 : qM), qB E yX10_proofDepth cX10_proofDepth 4 (some .int) (fun _ => True) d bc bs 18 [(0, .ref (E.2.1 + v0)), (1, .int v1), (2, .ref (E.2.1 + v2)), (3, .int v3)] [] m0 (lX10_proofDepth_18 N v0 v1 v2 n v3 m0) (fun o rr => qJ E yX10_proofDepth cX10_proofDepth 4 (some .int) (fun _ => True) d bc bs 66 [(1, .int v1), (2, .ref (E.2.1 + v2))] [] o rr) := by
  intro n
  induction n with
  | zero =>
    intro v3 m0
    exact j_none
  | succ n ih =>
    intro v3 m0
    unfold lX10_proofDepth_18
    refine j_iload_n (q := 3) (np := 19) rfl rfl dX10_proofDepth_18 rfl ?_
    refine j_iload_n (q := 1) (np := 20) rfl rfl dX10_proofDepth_19 rfl ?_
    refine j_icmp_gt (tgt := 66) (np := 23) dX10_proofDepth_20 rfl rfl ?_ ?_
    · refine j_sub (lv2 := [(1, .int v1), (2, .ref (E.2.1 + v2))]) [1, 2] rfl ?_
      exact j_exit (fun rr h => h)
    · refine j_aload_n (q := 2) (np := 24) rfl rfl dX10_proofDepth_23 rfl ?_
      refine j_iload_n (q := 3) (np := 25) rfl rfl dX10_proofDepth_24 rfl ?_
      refine j_aload_n (q := 0) (np := 26) rfl rfl dX10_proofDepth_25 rfl ?_
      refine j_gR (np := 29) flX10_16 dX10_proofDepth_26 rfl (fun x1 => ?_)
      refine j_iload_n (q := 3) (np := 30) rfl rfl dX10_proofDepth_29 rfl ?_
      refine j_iaload (np := 31) dX10_proofDepth_30 rfl (fun x2 => ?_)
      refine j_if_ge (tgt := 38) (np := 34) dX10_proofDepth_31 rfl rfl ?_ ?_
      · refine j_iconst (np := 39) ci_1 dX10_proofDepth_38 rfl ?_
        refine j_aload_n (q := 2) (np := 40) rfl rfl dX10_proofDepth_39 rfl ?_
        refine j_aload_n (q := 0) (np := 41) rfl rfl dX10_proofDepth_40 rfl ?_
        refine j_gR (np := 44) flX10_16 dX10_proofDepth_41 rfl (fun x3 => ?_)
        refine j_iload_n (q := 3) (np := 45) rfl rfl dX10_proofDepth_44 rfl ?_
        refine j_iaload (np := 46) dX10_proofDepth_45 rfl (fun x4 => ?_)
        refine j_iaload (np := 47) dX10_proofDepth_46 rfl (fun x5 => ?_)
        refine j_aload_n (q := 2) (np := 48) rfl rfl dX10_proofDepth_47 rfl ?_
        refine j_aload_n (q := 0) (np := 49) rfl rfl dX10_proofDepth_48 rfl ?_
        refine j_gR (np := 52) flX10_19 dX10_proofDepth_49 rfl (fun x6 => ?_)
        refine j_iload_n (q := 3) (np := 53) rfl rfl dX10_proofDepth_52 rfl ?_
        refine j_iaload (np := 54) dX10_proofDepth_53 rfl (fun x7 => ?_)
        refine j_iaload (np := 55) dX10_proofDepth_54 rfl (fun x8 => ?_)
        refine j_max (np := 58) mlX10_115 stmax inMath cdmax (by omega) (Nat.le_of_ble_eq_true rfl) dX10_proofDepth_55 rfl ?_
        refine j_iadd (np := 59) dX10_proofDepth_58 rfl ?_
        exact kbX10_proofDepth_59 hd ih
      · refine j_iconst (np := 35) ci_0 dX10_proofDepth_34 rfl ?_
        refine j_goto (tgt := 59) dX10_proofDepth_35 rfl ?_
        exact kbX10_proofDepth_59 hd ih
def fX10_proofDepth (N : Nat) (v0 : Nat) (v1 : Int32) (m0 : qM) : Option (Int32 × qM) :=
  (qChk m0 v0 10 (fX10_isOne N v0 v1 m0)).bind fun b1 =>
  if b1.1 = 0 then (
  some ((-1 : Int32), b1.2)
  ) else (
  if ¬ (v1 + (1 : Int32)) < 0 ∧ (v1 + (1 : Int32)).toNatClampNeg ≤ 60 then qNew b1.2 12 (v1 + (1 : Int32)).toNatClampNeg (fun a2 m3 =>
  (lX10_proofDepth_18 N v0 v1 a2 N (0 : Int32) m3).bind fun o4 =>
  (qaI o4 a2 12 v1).bind fun x5 =>
  some (x5, o4)
  ) else none
  )
set_option maxRecDepth 100000 in
theorem bX10_proofDepth {E : qE} {N d bc bs : Nat} (hd : 2 ≤ d) {v0 : Nat} {v1 : Int32} {m0 : qM} : qB E yX10_proofDepth cX10_proofDepth 4 (some .int) (fun _ => True) d (bc + 1) (bs + 60) 0 [(0, .ref (E.2.1 + v0)), (1, .int v1)] [] m0 (fX10_proofDepth N v0 v1 m0) (fun b rr => rr = (some (.int b.1), b.2)) := by
  unfold fX10_proofDepth
  refine j_aload_n (q := 0) (np := 1) rfl rfl dX10_proofDepth_0 rfl ?_
  refine j_iload_n (q := 1) (np := 2) rfl rfl dX10_proofDepth_1 rfl ?_
  refine j_callVi (ci := 10) (np := 5) (bc := (bc + 1)) (bs := (bs + 60)) (cb := 0) (cs := 0) (dd := d - 1) (As := [.int v1]) (st := []) caX10_isOne mlX10_172 imX10_isOne seX10_isOne rfl rfl (by decide) (fun b hb => wX10_isOne (by omega) hb) (by omega) rfl rfl (Nat.le_of_ble_eq_true rfl) dX10_proofDepth_2 rfl (fun b1 => ?_)
  refine j_if_ne (tgt := 10) (np := 8) dX10_proofDepth_5 rfl rfl ?_ ?_
  · refine j_iload_n (q := 1) (np := 11) rfl rfl dX10_proofDepth_10 rfl ?_
    refine j_iconst (np := 12) ci_1 dX10_proofDepth_11 rfl ?_
    refine j_iadd (np := 13) dX10_proofDepth_12 rfl ?_
    refine j_bud (b1 := bc + 1) (b2 := bs + 60) (by omega) (by omega) ?_
    refine j_newarr (bc := bc) (bs := bs) (c0 := 12) (t := 1) (n0 := 60) (np := 15) (atype := .int) (ty := .int) (Or.inr (Or.inl rfl)) rfl rfl (by decide) (by decide) (fun _ => rfl) (fun _ _ => rfl) ac_int dX10_proofDepth_13 rfl (fun a2 m3 => ?_)
    refine j_astore_n (np := 16) (lv2 := [(2, .ref (E.2.1 + a2)), (0, .ref (E.2.1 + v0)), (1, .int v1)]) rfl (by decide) dX10_proofDepth_15 rfl rfl ?_
    refine j_iconst (np := 17) ci_0 dX10_proofDepth_16 rfl ?_
    refine j_istore_n (np := 18) (lv2 := [(3, .int (0 : Int32)), (2, .ref (E.2.1 + a2)), (0, .ref (E.2.1 + v0)), (1, .int v1)]) rfl (by decide) dX10_proofDepth_17 rfl rfl ?_
    refine j_sub (lv2 := [(0, .ref (E.2.1 + v0)), (1, .int v1), (2, .ref (E.2.1 + a2)), (3, .int (0 : Int32))]) [2, 3, 1, 0] rfl ?_
    refine j_loop (xp := 66) (lvX := fun o4 => [(1, .int v1), (2, .ref (E.2.1 + a2))]) (mX := fun o4 => o4) (lbX10_proofDepth_18 hd _ _ _) (fun o4 => ?_)
    refine j_aload_n (q := 1) (np := 67) rfl rfl dX10_proofDepth_66 rfl ?_
    refine j_iload_n (q := 0) (np := 68) rfl rfl dX10_proofDepth_67 rfl ?_
    refine j_iaload (np := 69) dX10_proofDepth_68 rfl (fun x5 => ?_)
    exact j_iret rfl dX10_proofDepth_69 (fun rr h => h)
  · refine j_iconst (np := 9) ci_m1 dX10_proofDepth_8 rfl ?_
    exact j_iret rfl dX10_proofDepth_9 (fun rr h => h)
set_option maxRecDepth 100000 in
theorem wX10_proofDepth {E : qE} {N d : Nat} (hd : 2 ≤ d) {v0 : Nat} {v1 : Int32} {m0 : qM} {b : Int32 × qM} (h : fX10_proofDepth N v0 v1 m0 = some b) : qRun E yX10_proofDepth cX10_proofDepth 4 (some .int) d 1 60 [.ref (E.2.1 + v0), .int v1] m0 (some (.int b.1), b.2) := q_met pnX10 (Nat.le_of_ble_eq_true rfl) ((j_bud (by omega) (by omega) (bX10_proofDepth (bc := 0) (bs := 0) hd)) b _ h rfl)
theorem dX10_signs_0 : decode cX10_signs 0 = .ok (.iload_n 1, 1) := by decide +kernel
theorem dX10_signs_1 : decode cX10_signs 1 = .ok (.iconst 1, 1) := by decide +kernel
theorem dX10_signs_2 : decode cX10_signs 2 = .ok (.iadd, 1) := by decide +kernel
theorem dX10_signs_3 : decode cX10_signs 3 = .ok (.newarray .long, 2) := by decide +kernel
theorem dX10_signs_5 : decode cX10_signs 5 = .ok (.astore_n 2, 1) := by decide +kernel
theorem dX10_signs_6 : decode cX10_signs 6 = .ok (.iconst 0, 1) := by decide +kernel
theorem dX10_signs_7 : decode cX10_signs 7 = .ok (.istore_n 3, 1) := by decide +kernel
theorem dX10_signs_8 : decode cX10_signs 8 = .ok (.iload_n 3, 1) := by decide +kernel
theorem dX10_signs_9 : decode cX10_signs 9 = .ok (.iload_n 1, 1) := by decide +kernel
theorem dX10_signs_10 : decode cX10_signs 10 = .ok (.if_icmp .gt 44, 3) := by decide +kernel
theorem dX10_signs_13 : decode cX10_signs 13 = .ok (.aload_n 2, 1) := by decide +kernel
theorem dX10_signs_14 : decode cX10_signs 14 = .ok (.iload_n 3, 1) := by decide +kernel
theorem dX10_signs_15 : decode cX10_signs 15 = .ok (.aload_n 0, 1) := by decide +kernel
theorem dX10_signs_16 : decode cX10_signs 16 = .ok (.getfield 16, 3) := by decide +kernel
theorem dX10_signs_19 : decode cX10_signs 19 = .ok (.iload_n 3, 1) := by decide +kernel
theorem dX10_signs_20 : decode cX10_signs 20 = .ok (.iaload, 1) := by decide +kernel
theorem dX10_signs_21 : decode cX10_signs 21 = .ok (.ifCond .ge 7, 3) := by decide +kernel
theorem dX10_signs_24 : decode cX10_signs 24 = .ok (.lconst 0, 1) := by decide +kernel
theorem dX10_signs_25 : decode cX10_signs 25 = .ok (.goto 22, 3) := by decide +kernel
theorem dX10_signs_28 : decode cX10_signs 28 = .ok (.lconst 1, 1) := by decide +kernel
theorem dX10_signs_29 : decode cX10_signs 29 = .ok (.aload_n 2, 1) := by decide +kernel
theorem dX10_signs_30 : decode cX10_signs 30 = .ok (.aload_n 0, 1) := by decide +kernel
theorem dX10_signs_31 : decode cX10_signs 31 = .ok (.getfield 16, 3) := by decide +kernel
theorem dX10_signs_34 : decode cX10_signs 34 = .ok (.iload_n 3, 1) := by decide +kernel
theorem dX10_signs_35 : decode cX10_signs 35 = .ok (.iaload, 1) := by decide +kernel
theorem dX10_signs_36 : decode cX10_signs 36 = .ok (.laload, 1) := by decide +kernel
theorem dX10_signs_37 : decode cX10_signs 37 = .ok (.ladd, 1) := by decide +kernel
theorem dX10_signs_38 : decode cX10_signs 38 = .ok (.aload_n 2, 1) := by decide +kernel
theorem dX10_signs_39 : decode cX10_signs 39 = .ok (.aload_n 0, 1) := by decide +kernel
theorem dX10_signs_40 : decode cX10_signs 40 = .ok (.getfield 19, 3) := by decide +kernel
theorem dX10_signs_43 : decode cX10_signs 43 = .ok (.iload_n 3, 1) := by decide +kernel
theorem dX10_signs_44 : decode cX10_signs 44 = .ok (.iaload, 1) := by decide +kernel
theorem dX10_signs_45 : decode cX10_signs 45 = .ok (.laload, 1) := by decide +kernel
theorem dX10_signs_46 : decode cX10_signs 46 = .ok (.ladd, 1) := by decide +kernel
theorem dX10_signs_47 : decode cX10_signs 47 = .ok (.lastore, 1) := by decide +kernel
theorem dX10_signs_48 : decode cX10_signs 48 = .ok (.iinc 3 1, 3) := by decide +kernel
theorem dX10_signs_51 : decode cX10_signs 51 = .ok (.goto (-43), 3) := by decide +kernel
theorem dX10_signs_54 : decode cX10_signs 54 = .ok (.aload_n 2, 1) := by decide +kernel
theorem dX10_signs_55 : decode cX10_signs 55 = .ok (.iload_n 1, 1) := by decide +kernel
theorem dX10_signs_56 : decode cX10_signs 56 = .ok (.laload, 1) := by decide +kernel
theorem dX10_signs_57 : decode cX10_signs 57 = .ok (.lreturn, 1) := by decide +kernel
def kX10_signs_47 (N : Nat) (rec : Int32 → qM → Option (qM)) (v0 : Nat) (v1 : Int32) (v2 : Nat) (v3 : Int32) (s0 : Nat) (s1 : Int32) (s2 : Int64) (m0 : qM) : Option (qM) :=
  (qwL m0 s0 s1 s2).bind fun m1 =>
  rec (v3 + (1 : Int32)) m1
set_option maxRecDepth 100000 in
theorem kbX10_signs_47 {E : qE} {N d bc bs : Nat} (hd : 0 ≤ d) {v0 : Nat} {v1 : Int32} {v2 : Nat} {v3 : Int32} {s0 : Nat} {s1 : Int32} {s2 : Int64} {m0 : qM} {rec : Int32 → qM → Option (qM)} (hrec : ∀ (v3 : Int32) (m : qM), qB E yX10_signs cX10_signs 4 (some .long) (fun _ => True) d bc bs 8 [(0, .ref (E.2.1 + v0)), (1, .int v1), (2, .ref (E.2.1 + v2)), (3, .int v3)] [] m (rec v3 m) (fun o rr => qJ E yX10_signs cX10_signs 4 (some .long) (fun _ => True) d bc bs 54 [(1, .int v1), (2, .ref (E.2.1 + v2))] [] o rr)) : qB E yX10_signs cX10_signs 4 (some .long) (fun _ => True) d bc bs 47 [(0, .ref (E.2.1 + v0)), (1, .int v1), (2, .ref (E.2.1 + v2)), (3, .int v3)] [.long s2, .int s1, .ref (E.2.1 + s0)] m0 (kX10_signs_47 N rec v0 v1 v2 v3 s0 s1 s2 m0) (fun o rr => qJ E yX10_signs cX10_signs 4 (some .long) (fun _ => True) d bc bs 54 [(1, .int v1), (2, .ref (E.2.1 + v2))] [] o rr) := by
  unfold kX10_signs_47
  refine j_lastore (np := 48) dX10_signs_47 rfl (fun m1 => ?_)
  refine j_iinc (q := 3) (np := 51) (lv2 := [(3, .int (v3 + (1 : Int32))), (0, .ref (E.2.1 + v0)), (1, .int v1), (2, .ref (E.2.1 + v2))]) rfl (congrArg _ ci_1) (by decide) dX10_signs_48 rfl rfl ?_
  refine j_goto (tgt := 8) dX10_signs_51 rfl ?_
  refine j_sub (lv2 := [(0, .ref (E.2.1 + v0)), (1, .int v1), (2, .ref (E.2.1 + v2)), (3, .int (v3 + (1 : Int32)))]) [1, 2, 3, 0] rfl ?_
  exact hrec _ _
def lX10_signs_8 (N : Nat) (v0 : Nat) (v1 : Int32) (v2 : Nat) : Nat → Int32 → qM → Option (qM)
  | 0, _, _ => none
  | n + 1, v3, m0 =>
    if v1 < v3 then (
    some m0
    ) else (
    (qgR m0 v0 10 2).bind fun x1 =>
    (qaI m0 x1 12 v3).bind fun x2 =>
    if 0 ≤ x2 then (
    (qgR m0 v0 10 2).bind fun x3 =>
    (qaI m0 x3 12 v3).bind fun x4 =>
    (qaL m0 v2 x4).bind fun x5 =>
    (qgR m0 v0 10 3).bind fun x6 =>
    (qaI m0 x6 12 v3).bind fun x7 =>
    (qaL m0 v2 x7).bind fun x8 =>
    kX10_signs_47 N (lX10_signs_8 N v0 v1 v2 n) v0 v1 v2 v3 v2 v3 (((1 : Int64) + x5) + x8) m0
    ) else (
    kX10_signs_47 N (lX10_signs_8 N v0 v1 v2 n) v0 v1 v2 v3 v2 v3 (0 : Int64) m0
    )
    )
set_option maxRecDepth 100000 in
theorem lbX10_signs_8 {E : qE} {N d bc bs : Nat} (hd : 0 ≤ d) {v0 : Nat} {v1 : Int32} {v2 : Nat} : ∀ (n : Nat) (v3 : Int32) (m0 : qM), qB E yX10_signs cX10_signs 4 (some .long) (fun _ => True) d bc bs 8 [(0, .ref (E.2.1 + v0)), (1, .int v1), (2, .ref (E.2.1 + v2)), (3, .int v3)] [] m0 (lX10_signs_8 N v0 v1 v2 n v3 m0) (fun o rr => qJ E yX10_signs cX10_signs 4 (some .long) (fun _ => True) d bc bs 54 [(1, .int v1), (2, .ref (E.2.1 + v2))] [] o rr) := by
  intro n
  induction n with
  | zero =>
    intro v3 m0
    exact j_none
  | succ n ih =>
    intro v3 m0
    unfold lX10_signs_8
    refine j_iload_n (q := 3) (np := 9) rfl rfl dX10_signs_8 rfl ?_
    refine j_iload_n (q := 1) (np := 10) rfl rfl dX10_signs_9 rfl ?_
    refine j_icmp_gt (tgt := 54) (np := 13) dX10_signs_10 rfl rfl ?_ ?_
    · refine j_sub (lv2 := [(1, .int v1), (2, .ref (E.2.1 + v2))]) [1, 2] rfl ?_
      exact j_exit (fun rr h => h)
    · refine j_aload_n (q := 2) (np := 14) rfl rfl dX10_signs_13 rfl ?_
      refine j_iload_n (q := 3) (np := 15) rfl rfl dX10_signs_14 rfl ?_
      refine j_aload_n (q := 0) (np := 16) rfl rfl dX10_signs_15 rfl ?_
      refine j_gR (np := 19) flX10_16 dX10_signs_16 rfl (fun x1 => ?_)
      refine j_iload_n (q := 3) (np := 20) rfl rfl dX10_signs_19 rfl ?_
      refine j_iaload (np := 21) dX10_signs_20 rfl (fun x2 => ?_)
      refine j_if_ge (tgt := 28) (np := 24) dX10_signs_21 rfl rfl ?_ ?_
      · refine j_lconst (np := 29) (v := 1) rfl dX10_signs_28 rfl ?_
        refine j_aload_n (q := 2) (np := 30) rfl rfl dX10_signs_29 rfl ?_
        refine j_aload_n (q := 0) (np := 31) rfl rfl dX10_signs_30 rfl ?_
        refine j_gR (np := 34) flX10_16 dX10_signs_31 rfl (fun x3 => ?_)
        refine j_iload_n (q := 3) (np := 35) rfl rfl dX10_signs_34 rfl ?_
        refine j_iaload (np := 36) dX10_signs_35 rfl (fun x4 => ?_)
        refine j_laload (np := 37) dX10_signs_36 rfl (fun x5 => ?_)
        refine j_ladd (np := 38) dX10_signs_37 rfl ?_
        refine j_aload_n (q := 2) (np := 39) rfl rfl dX10_signs_38 rfl ?_
        refine j_aload_n (q := 0) (np := 40) rfl rfl dX10_signs_39 rfl ?_
        refine j_gR (np := 43) flX10_19 dX10_signs_40 rfl (fun x6 => ?_)
        refine j_iload_n (q := 3) (np := 44) rfl rfl dX10_signs_43 rfl ?_
        refine j_iaload (np := 45) dX10_signs_44 rfl (fun x7 => ?_)
        refine j_laload (np := 46) dX10_signs_45 rfl (fun x8 => ?_)
        refine j_ladd (np := 47) dX10_signs_46 rfl ?_
        exact kbX10_signs_47 hd ih
      · refine j_lconst (np := 25) (v := 0) rfl dX10_signs_24 rfl ?_
        refine j_goto (tgt := 47) dX10_signs_25 rfl ?_
        exact kbX10_signs_47 hd ih
def fX10_signs (N : Nat) (v0 : Nat) (v1 : Int32) (m0 : qM) : Option (Int64 × qM) :=
  if ¬ (v1 + (1 : Int32)) < 0 ∧ (v1 + (1 : Int32)).toNatClampNeg ≤ 60 then qNew m0 13 (v1 + (1 : Int32)).toNatClampNeg (fun a1 m2 =>
  (lX10_signs_8 N v0 v1 a1 N (0 : Int32) m2).bind fun o3 =>
  (qaL o3 a1 v1).bind fun x4 =>
  some (x4, o3)
  ) else none
set_option maxRecDepth 100000 in
theorem bX10_signs {E : qE} {N d bc bs : Nat} (hd : 0 ≤ d) {v0 : Nat} {v1 : Int32} {m0 : qM} : qB E yX10_signs cX10_signs 4 (some .long) (fun _ => True) d (bc + 1) (bs + 60) 0 [(0, .ref (E.2.1 + v0)), (1, .int v1)] [] m0 (fX10_signs N v0 v1 m0) (fun b rr => rr = (some (.long b.1), b.2)) := by
  unfold fX10_signs
  refine j_iload_n (q := 1) (np := 1) rfl rfl dX10_signs_0 rfl ?_
  refine j_iconst (np := 2) ci_1 dX10_signs_1 rfl ?_
  refine j_iadd (np := 3) dX10_signs_2 rfl ?_
  refine j_bud (b1 := bc + 1) (b2 := bs + 60) (by omega) (by omega) ?_
  refine j_newlong (bc := bc) (bs := bs) (n0 := 60) (np := 5) (by decide) ac_long dX10_signs_3 rfl (fun a1 m2 => ?_)
  refine j_astore_n (np := 6) (lv2 := [(2, .ref (E.2.1 + a1)), (0, .ref (E.2.1 + v0)), (1, .int v1)]) rfl (by decide) dX10_signs_5 rfl rfl ?_
  refine j_iconst (np := 7) ci_0 dX10_signs_6 rfl ?_
  refine j_istore_n (np := 8) (lv2 := [(3, .int (0 : Int32)), (2, .ref (E.2.1 + a1)), (0, .ref (E.2.1 + v0)), (1, .int v1)]) rfl (by decide) dX10_signs_7 rfl rfl ?_
  refine j_sub (lv2 := [(0, .ref (E.2.1 + v0)), (1, .int v1), (2, .ref (E.2.1 + a1)), (3, .int (0 : Int32))]) [2, 3, 1, 0] rfl ?_
  refine j_loop (xp := 54) (lvX := fun o3 => [(1, .int v1), (2, .ref (E.2.1 + a1))]) (mX := fun o3 => o3) (lbX10_signs_8 hd _ _ _) (fun o3 => ?_)
  refine j_aload_n (q := 1) (np := 55) rfl rfl dX10_signs_54 rfl ?_
  refine j_iload_n (q := 0) (np := 56) rfl rfl dX10_signs_55 rfl ?_
  refine j_laload (np := 57) dX10_signs_56 rfl (fun x4 => ?_)
  exact j_lret rfl dX10_signs_57 (fun rr h => h)
set_option maxRecDepth 100000 in
theorem wX10_signs {E : qE} {N d : Nat} (hd : 0 ≤ d) {v0 : Nat} {v1 : Int32} {m0 : qM} {b : Int64 × qM} (h : fX10_signs N v0 v1 m0 = some b) : qRun E yX10_signs cX10_signs 4 (some .long) d 1 60 [.ref (E.2.1 + v0), .int v1] m0 (some (.long b.1), b.2) := q_met pnX10 (Nat.le_of_ble_eq_true rfl) ((j_bud (by omega) (by omega) (bX10_signs (bc := 0) (bs := 0) hd)) b _ h rfl)
theorem dX10_proofSize_0 : decode cX10_proofSize 0 = .ok (.aload_n 0, 1) := by decide +kernel
theorem dX10_proofSize_1 : decode cX10_proofSize 1 = .ok (.iload_n 1, 1) := by decide +kernel
theorem dX10_proofSize_2 : decode cX10_proofSize 2 = .ok (.invokevirtual 172, 3) := by decide +kernel
theorem dX10_proofSize_5 : decode cX10_proofSize 5 = .ok (.ifCond .eq 11, 3) := by decide +kernel
theorem dX10_proofSize_8 : decode cX10_proofSize 8 = .ok (.aload_n 0, 1) := by decide +kernel
theorem dX10_proofSize_9 : decode cX10_proofSize 9 = .ok (.iload_n 1, 1) := by decide +kernel
theorem dX10_proofSize_10 : decode cX10_proofSize 10 = .ok (.invokevirtual 196, 3) := by decide +kernel
theorem dX10_proofSize_13 : decode cX10_proofSize 13 = .ok (.goto 6, 3) := by decide +kernel
theorem dX10_proofSize_16 : decode cX10_proofSize 16 = .ok (.ldc2_w 200, 3) := by decide +kernel
theorem dX10_proofSize_19 : decode cX10_proofSize 19 = .ok (.lreturn, 1) := by decide +kernel
def fX10_proofSize (N : Nat) (v0 : Nat) (v1 : Int32) (m0 : qM) : Option (Int64 × qM) :=
  (qChk m0 v0 10 (fX10_isOne N v0 v1 m0)).bind fun b1 =>
  if b1.1 = 0 then (
  some ((-1 : Int64), b1.2)
  ) else (
  (qChk b1.2 v0 10 (fX10_signs N v0 v1 b1.2)).bind fun b2 =>
  some (b2.1, b2.2)
  )
set_option maxRecDepth 100000 in
theorem bX10_proofSize {E : qE} {N d bc bs : Nat} (hd : 2 ≤ d) {v0 : Nat} {v1 : Int32} {m0 : qM} : qB E yX10_proofSize cX10_proofSize 2 (some .long) (fun _ => True) d (bc + 1) (bs + 60) 0 [(0, .ref (E.2.1 + v0)), (1, .int v1)] [] m0 (fX10_proofSize N v0 v1 m0) (fun b rr => rr = (some (.long b.1), b.2)) := by
  unfold fX10_proofSize
  refine j_aload_n (q := 0) (np := 1) rfl rfl dX10_proofSize_0 rfl ?_
  refine j_iload_n (q := 1) (np := 2) rfl rfl dX10_proofSize_1 rfl ?_
  refine j_callVi (ci := 10) (np := 5) (bc := (bc + 1)) (bs := (bs + 60)) (cb := 0) (cs := 0) (dd := d - 1) (As := [.int v1]) (st := []) caX10_isOne mlX10_172 imX10_isOne seX10_isOne rfl rfl (by decide) (fun b hb => wX10_isOne (by omega) hb) (by omega) rfl rfl (Nat.le_of_ble_eq_true rfl) dX10_proofSize_2 rfl (fun b1 => ?_)
  refine j_if_eq (tgt := 16) (np := 8) dX10_proofSize_5 rfl rfl ?_ ?_
  · refine j_ldc2 (np := 19) lgX10_200 dX10_proofSize_16 rfl ?_
    exact j_lret rfl dX10_proofSize_19 (fun rr h => h)
  · refine j_aload_n (q := 0) (np := 9) rfl rfl dX10_proofSize_8 rfl ?_
    refine j_iload_n (q := 1) (np := 10) rfl rfl dX10_proofSize_9 rfl ?_
    refine j_bud (b1 := bc + 1) (b2 := bs + 60) (by omega) (by omega) ?_
    refine j_callVl (ci := 10) (np := 13) (bc := bc) (bs := bs) (cb := 1) (cs := 60) (dd := d - 1) (As := [.int v1]) (st := []) caX10_signs mlX10_196 imX10_signs seX10_signs rfl rfl (by decide) (fun b hb => wX10_signs (by omega) hb) (by omega) rfl rfl (Nat.le_of_ble_eq_true rfl) dX10_proofSize_10 rfl (fun b2 => ?_)
    refine j_goto (tgt := 19) dX10_proofSize_13 rfl ?_
    exact j_lret rfl dX10_proofSize_19 (fun rr h => h)
set_option maxRecDepth 100000 in
theorem wX10_proofSize {E : qE} {N d : Nat} (hd : 2 ≤ d) {v0 : Nat} {v1 : Int32} {m0 : qM} {b : Int64 × qM} (h : fX10_proofSize N v0 v1 m0 = some b) : qRun E yX10_proofSize cX10_proofSize 2 (some .long) d 1 60 [.ref (E.2.1 + v0), .int v1] m0 (some (.long b.1), b.2) := q_met pnX10 (Nat.le_of_ble_eq_true rfl) ((j_bud (by omega) (by omega) (bX10_proofSize (bc := 0) (bs := 0) hd)) b _ h rfl)
theorem dX10_writeFormula_0 : decode cX10_writeFormula 0 = .ok (.aload_n 0, 1) := by decide +kernel
theorem dX10_writeFormula_1 : decode cX10_writeFormula 1 = .ok (.iload_n 1, 1) := by decide +kernel
theorem dX10_writeFormula_2 : decode cX10_writeFormula 2 = .ok (.invokevirtual 172, 3) := by decide +kernel
theorem dX10_writeFormula_5 : decode cX10_writeFormula 5 = .ok (.ifCond .ne 5, 3) := by decide +kernel
theorem dX10_writeFormula_8 : decode cX10_writeFormula 8 = .ok (.iconst (-1), 1) := by decide +kernel
theorem dX10_writeFormula_9 : decode cX10_writeFormula 9 = .ok (.ireturn, 1) := by decide +kernel
theorem dX10_writeFormula_10 : decode cX10_writeFormula 10 = .ok (.aload_n 0, 1) := by decide +kernel
theorem dX10_writeFormula_11 : decode cX10_writeFormula 11 = .ok (.aload_n 0, 1) := by decide +kernel
theorem dX10_writeFormula_12 : decode cX10_writeFormula 12 = .ok (.getfield 13, 3) := by decide +kernel
theorem dX10_writeFormula_15 : decode cX10_writeFormula 15 = .ok (.iload_n 1, 1) := by decide +kernel
theorem dX10_writeFormula_16 : decode cX10_writeFormula 16 = .ok (.iaload, 1) := by decide +kernel
theorem dX10_writeFormula_17 : decode cX10_writeFormula 17 = .ok (.putfield 109, 3) := by decide +kernel
theorem dX10_writeFormula_20 : decode cX10_writeFormula 20 = .ok (.iconst 0, 1) := by decide +kernel
theorem dX10_writeFormula_21 : decode cX10_writeFormula 21 = .ok (.istore_n 2, 1) := by decide +kernel
theorem dX10_writeFormula_22 : decode cX10_writeFormula 22 = .ok (.iload_n 2, 1) := by decide +kernel
theorem dX10_writeFormula_23 : decode cX10_writeFormula 23 = .ok (.aload_n 0, 1) := by decide +kernel
theorem dX10_writeFormula_24 : decode cX10_writeFormula 24 = .ok (.getfield 109, 3) := by decide +kernel
theorem dX10_writeFormula_27 : decode cX10_writeFormula 27 = .ok (.if_icmp .ge 26, 3) := by decide +kernel
theorem dX10_writeFormula_30 : decode cX10_writeFormula 30 = .ok (.aload_n 0, 1) := by decide +kernel
theorem dX10_writeFormula_31 : decode cX10_writeFormula 31 = .ok (.getfield 66, 3) := by decide +kernel
theorem dX10_writeFormula_34 : decode cX10_writeFormula 34 = .ok (.iload_n 2, 1) := by decide +kernel
theorem dX10_writeFormula_35 : decode cX10_writeFormula 35 = .ok (.aload_n 0, 1) := by decide +kernel
theorem dX10_writeFormula_36 : decode cX10_writeFormula 36 = .ok (.getfield 9, 3) := by decide +kernel
theorem dX10_writeFormula_39 : decode cX10_writeFormula 39 = .ok (.bipush 39, 2) := by decide +kernel
theorem dX10_writeFormula_41 : decode cX10_writeFormula 41 = .ok (.iload_n 1, 1) := by decide +kernel
theorem dX10_writeFormula_42 : decode cX10_writeFormula 42 = .ok (.imul, 1) := by decide +kernel
theorem dX10_writeFormula_43 : decode cX10_writeFormula 43 = .ok (.iload_n 2, 1) := by decide +kernel
theorem dX10_writeFormula_44 : decode cX10_writeFormula 44 = .ok (.iadd, 1) := by decide +kernel
theorem dX10_writeFormula_45 : decode cX10_writeFormula 45 = .ok (.iaload, 1) := by decide +kernel
theorem dX10_writeFormula_46 : decode cX10_writeFormula 46 = .ok (.iastore, 1) := by decide +kernel
theorem dX10_writeFormula_47 : decode cX10_writeFormula 47 = .ok (.iinc 2 1, 3) := by decide +kernel
theorem dX10_writeFormula_50 : decode cX10_writeFormula 50 = .ok (.goto (-28), 3) := by decide +kernel
theorem dX10_writeFormula_53 : decode cX10_writeFormula 53 = .ok (.aload_n 0, 1) := by decide +kernel
theorem dX10_writeFormula_54 : decode cX10_writeFormula 54 = .ok (.invokevirtual 177, 3) := by decide +kernel
theorem dX10_writeFormula_57 : decode cX10_writeFormula 57 = .ok (.aload_n 0, 1) := by decide +kernel
theorem dX10_writeFormula_58 : decode cX10_writeFormula 58 = .ok (.getfield 109, 3) := by decide +kernel
theorem dX10_writeFormula_61 : decode cX10_writeFormula 61 = .ok (.ireturn, 1) := by decide +kernel
def lX10_writeFormula_22 (N : Nat) (v0 : Nat) (v1 : Int32) : Nat → Int32 → qM → Option (qM)
  | 0, _, _ => none
  | n + 1, v2, m0 =>
    (qgI m0 v0 10 27).bind fun x1 =>
    if x1 ≤ v2 then (
    some m0
    ) else (
    (qgR m0 v0 10 26).bind fun x2 =>
    (qgR m0 v0 10 0).bind fun x3 =>
    (qaI m0 x3 12 (((39 : Int32) * v1) + v2)).bind fun x4 =>
    (qwI m0 x2 12 v2 x4).bind fun m5 =>
    lX10_writeFormula_22 N v0 v1 n (v2 + (1 : Int32)) m5
    )
set_option maxRecDepth 100000 in
theorem lbX10_writeFormula_22 {E : qE} {N d bc bs : Nat} (hd : 2 ≤ d) {v0 : Nat} {v1 : Int32} : ∀ (n : Nat) (v2 : Int32) (m0 : qM), qB E yX10_writeFormula cX10_writeFormula 3 (some .int) (fun _ => True) d bc bs 22 [(0, .ref (E.2.1 + v0)), (1, .int v1), (2, .int v2)] [] m0 (lX10_writeFormula_22 N v0 v1 n v2 m0) (fun o rr => qJ E yX10_writeFormula cX10_writeFormula 3 (some .int) (fun _ => True) d bc bs 53 [(0, .ref (E.2.1 + v0))] [] o rr) := by
  intro n
  induction n with
  | zero =>
    intro v2 m0
    exact j_none
  | succ n ih =>
    intro v2 m0
    unfold lX10_writeFormula_22
    refine j_iload_n (q := 2) (np := 23) rfl rfl dX10_writeFormula_22 rfl ?_
    refine j_aload_n (q := 0) (np := 24) rfl rfl dX10_writeFormula_23 rfl ?_
    refine j_gI (np := 27) flX10_109 dX10_writeFormula_24 rfl (fun x1 => ?_)
    refine j_icmp_ge (tgt := 53) (np := 30) dX10_writeFormula_27 rfl rfl ?_ ?_
    · refine j_sub (lv2 := [(0, .ref (E.2.1 + v0))]) [0] rfl ?_
      exact j_exit (fun rr h => h)
    · refine j_aload_n (q := 0) (np := 31) rfl rfl dX10_writeFormula_30 rfl ?_
      refine j_gR (np := 34) flX10_66 dX10_writeFormula_31 rfl (fun x2 => ?_)
      refine j_iload_n (q := 2) (np := 35) rfl rfl dX10_writeFormula_34 rfl ?_
      refine j_aload_n (q := 0) (np := 36) rfl rfl dX10_writeFormula_35 rfl ?_
      refine j_gR (np := 39) flX10_9 dX10_writeFormula_36 rfl (fun x3 => ?_)
      refine j_bipush (np := 41) cb_39 dX10_writeFormula_39 rfl ?_
      refine j_iload_n (q := 1) (np := 42) rfl rfl dX10_writeFormula_41 rfl ?_
      refine j_imul (np := 43) dX10_writeFormula_42 rfl ?_
      refine j_iload_n (q := 2) (np := 44) rfl rfl dX10_writeFormula_43 rfl ?_
      refine j_iadd (np := 45) dX10_writeFormula_44 rfl ?_
      refine j_iaload (np := 46) dX10_writeFormula_45 rfl (fun x4 => ?_)
      refine j_iastore (np := 47) dX10_writeFormula_46 rfl (fun m5 => ?_)
      refine j_iinc (q := 2) (np := 50) (lv2 := [(2, .int (v2 + (1 : Int32))), (0, .ref (E.2.1 + v0)), (1, .int v1)]) rfl (congrArg _ ci_1) (by decide) dX10_writeFormula_47 rfl rfl ?_
      refine j_goto (tgt := 22) dX10_writeFormula_50 rfl ?_
      refine j_sub (lv2 := [(0, .ref (E.2.1 + v0)), (1, .int v1), (2, .int (v2 + (1 : Int32)))]) [1, 2, 0] rfl ?_
      exact ih _ _
def fX10_writeFormula (N : Nat) (v0 : Nat) (v1 : Int32) (m0 : qM) : Option (Int32 × qM) :=
  (qChk m0 v0 10 (fX10_isOne N v0 v1 m0)).bind fun b1 =>
  if b1.1 = 0 then (
  some ((-1 : Int32), b1.2)
  ) else (
  (qgR b1.2 v0 10 1).bind fun x2 =>
  (qaI b1.2 x2 12 v1).bind fun x3 =>
  (qpI b1.2 v0 10 27 x3).bind fun m4 =>
  (lX10_writeFormula_22 N v0 v1 N (0 : Int32) m4).bind fun o5 =>
  (qChk o5 v0 10 (fX10_tellsOne N v0 o5)).bind fun b6 =>
  (qgI b6 v0 10 27).bind fun x7 =>
  some (x7, b6)
  )
set_option maxRecDepth 100000 in
theorem bX10_writeFormula {E : qE} {N d bc bs : Nat} (hd : 2 ≤ d) {v0 : Nat} {v1 : Int32} {m0 : qM} : qB E yX10_writeFormula cX10_writeFormula 3 (some .int) (fun _ => True) d bc bs 0 [(0, .ref (E.2.1 + v0)), (1, .int v1)] [] m0 (fX10_writeFormula N v0 v1 m0) (fun b rr => rr = (some (.int b.1), b.2)) := by
  unfold fX10_writeFormula
  refine j_aload_n (q := 0) (np := 1) rfl rfl dX10_writeFormula_0 rfl ?_
  refine j_iload_n (q := 1) (np := 2) rfl rfl dX10_writeFormula_1 rfl ?_
  refine j_callVi (ci := 10) (np := 5) (bc := bc) (bs := bs) (cb := 0) (cs := 0) (dd := d - 1) (As := [.int v1]) (st := []) caX10_isOne mlX10_172 imX10_isOne seX10_isOne rfl rfl (by decide) (fun b hb => wX10_isOne (by omega) hb) (by omega) rfl rfl (Nat.le_of_ble_eq_true rfl) dX10_writeFormula_2 rfl (fun b1 => ?_)
  refine j_if_ne (tgt := 10) (np := 8) dX10_writeFormula_5 rfl rfl ?_ ?_
  · refine j_aload_n (q := 0) (np := 11) rfl rfl dX10_writeFormula_10 rfl ?_
    refine j_aload_n (q := 0) (np := 12) rfl rfl dX10_writeFormula_11 rfl ?_
    refine j_gR (np := 15) flX10_13 dX10_writeFormula_12 rfl (fun x2 => ?_)
    refine j_iload_n (q := 1) (np := 16) rfl rfl dX10_writeFormula_15 rfl ?_
    refine j_iaload (np := 17) dX10_writeFormula_16 rfl (fun x3 => ?_)
    refine j_pI (np := 20) flX10_109 dX10_writeFormula_17 rfl (fun m4 => ?_)
    refine j_iconst (np := 21) ci_0 dX10_writeFormula_20 rfl ?_
    refine j_istore_n (np := 22) (lv2 := [(2, .int (0 : Int32)), (0, .ref (E.2.1 + v0)), (1, .int v1)]) rfl (by decide) dX10_writeFormula_21 rfl rfl ?_
    refine j_sub (lv2 := [(0, .ref (E.2.1 + v0)), (1, .int v1), (2, .int (0 : Int32))]) [1, 2, 0] rfl ?_
    refine j_loop (xp := 53) (lvX := fun o5 => [(0, .ref (E.2.1 + v0))]) (mX := fun o5 => o5) (lbX10_writeFormula_22 hd _ _ _) (fun o5 => ?_)
    refine j_aload_n (q := 0) (np := 54) rfl rfl dX10_writeFormula_53 rfl ?_
    refine j_callVv (ci := 10) (np := 57) (bc := bc) (bs := bs) (cb := 0) (cs := 0) (dd := d - 1) (As := []) (st := []) caX10_tellsOne mlX10_177 imX10_tellsOne seX10_tellsOne rfl rfl (by decide) (fun b hb => wX10_tellsOne (by omega) hb) (by omega) rfl rfl (Nat.le_of_ble_eq_true rfl) dX10_writeFormula_54 rfl (fun b6 => ?_)
    refine j_aload_n (q := 0) (np := 58) rfl rfl dX10_writeFormula_57 rfl ?_
    refine j_gI (np := 61) flX10_109 dX10_writeFormula_58 rfl (fun x7 => ?_)
    exact j_iret rfl dX10_writeFormula_61 (fun rr h => h)
  · refine j_iconst (np := 9) ci_m1 dX10_writeFormula_8 rfl ?_
    exact j_iret rfl dX10_writeFormula_9 (fun rr h => h)
set_option maxRecDepth 100000 in
theorem wX10_writeFormula {E : qE} {N d : Nat} (hd : 2 ≤ d) {v0 : Nat} {v1 : Int32} {m0 : qM} {b : Int32 × qM} (h : fX10_writeFormula N v0 v1 m0 = some b) : qRun E yX10_writeFormula cX10_writeFormula 3 (some .int) d 0 0 [.ref (E.2.1 + v0), .int v1] m0 (some (.int b.1), b.2) := q_met pnX10 (Nat.le_of_ble_eq_true rfl) (bX10_writeFormula hd b _ h rfl)
theorem dX10_hasDigits_0 : decode cX10_hasDigits 0 = .ok (.aload_n 0, 1) := by decide +kernel
theorem dX10_hasDigits_1 : decode cX10_hasDigits 1 = .ok (.getfield 16, 3) := by decide +kernel
theorem dX10_hasDigits_4 : decode cX10_hasDigits 4 = .ok (.iload_n 1, 1) := by decide +kernel
theorem dX10_hasDigits_5 : decode cX10_hasDigits 5 = .ok (.iaload, 1) := by decide +kernel
theorem dX10_hasDigits_6 : decode cX10_hasDigits 6 = .ok (.ifCond .ge 17, 3) := by decide +kernel
theorem dX10_hasDigits_9 : decode cX10_hasDigits 9 = .ok (.iload_n 1, 1) := by decide +kernel
theorem dX10_hasDigits_10 : decode cX10_hasDigits 10 = .ok (.bipush 9, 2) := by decide +kernel
theorem dX10_hasDigits_12 : decode cX10_hasDigits 12 = .ok (.if_icmp .ge 7, 3) := by decide +kernel
theorem dX10_hasDigits_15 : decode cX10_hasDigits 15 = .ok (.iconst 1, 1) := by decide +kernel
theorem dX10_hasDigits_16 : decode cX10_hasDigits 16 = .ok (.goto 38, 3) := by decide +kernel
theorem dX10_hasDigits_19 : decode cX10_hasDigits 19 = .ok (.iconst 0, 1) := by decide +kernel
theorem dX10_hasDigits_20 : decode cX10_hasDigits 20 = .ok (.goto 34, 3) := by decide +kernel
theorem dX10_hasDigits_23 : decode cX10_hasDigits 23 = .ok (.aload_n 0, 1) := by decide +kernel
theorem dX10_hasDigits_24 : decode cX10_hasDigits 24 = .ok (.aload_n 0, 1) := by decide +kernel
theorem dX10_hasDigits_25 : decode cX10_hasDigits 25 = .ok (.getfield 16, 3) := by decide +kernel
theorem dX10_hasDigits_28 : decode cX10_hasDigits 28 = .ok (.iload_n 1, 1) := by decide +kernel
theorem dX10_hasDigits_29 : decode cX10_hasDigits 29 = .ok (.iaload, 1) := by decide +kernel
theorem dX10_hasDigits_30 : decode cX10_hasDigits 30 = .ok (.invokevirtual 202, 3) := by decide +kernel
theorem dX10_hasDigits_33 : decode cX10_hasDigits 33 = .ok (.ifCond .eq 20, 3) := by decide +kernel
theorem dX10_hasDigits_36 : decode cX10_hasDigits 36 = .ok (.aload_n 0, 1) := by decide +kernel
theorem dX10_hasDigits_37 : decode cX10_hasDigits 37 = .ok (.aload_n 0, 1) := by decide +kernel
theorem dX10_hasDigits_38 : decode cX10_hasDigits 38 = .ok (.getfield 19, 3) := by decide +kernel
theorem dX10_hasDigits_41 : decode cX10_hasDigits 41 = .ok (.iload_n 1, 1) := by decide +kernel
theorem dX10_hasDigits_42 : decode cX10_hasDigits 42 = .ok (.iaload, 1) := by decide +kernel
theorem dX10_hasDigits_43 : decode cX10_hasDigits 43 = .ok (.invokevirtual 202, 3) := by decide +kernel
theorem dX10_hasDigits_46 : decode cX10_hasDigits 46 = .ok (.ifCond .eq 7, 3) := by decide +kernel
theorem dX10_hasDigits_49 : decode cX10_hasDigits 49 = .ok (.iconst 1, 1) := by decide +kernel
theorem dX10_hasDigits_50 : decode cX10_hasDigits 50 = .ok (.goto 4, 3) := by decide +kernel
theorem dX10_hasDigits_53 : decode cX10_hasDigits 53 = .ok (.iconst 0, 1) := by decide +kernel
theorem dX10_hasDigits_54 : decode cX10_hasDigits 54 = .ok (.ireturn, 1) := by decide +kernel
def fX10_hasDigits (N : Nat) : Nat → Nat → Int32 → qM → Option (Int32 × qM)
  | 0, _, _, _ => none
  | k + 1, v0, v1, m0 =>
    (qgR m0 v0 10 2).bind fun x1 =>
    (qaI m0 x1 12 v1).bind fun x2 =>
    if 0 ≤ x2 then (
    (qgR m0 v0 10 2).bind fun x3 =>
    (qaI m0 x3 12 v1).bind fun x4 =>
    (qChk m0 v0 10 (fX10_hasDigits N k v0 x4 m0)).bind fun b5 =>
    if b5.1 = 0 then (
    some ((0 : Int32), b5.2)
    ) else (
    (qgR b5.2 v0 10 3).bind fun x6 =>
    (qaI b5.2 x6 12 v1).bind fun x7 =>
    (qChk b5.2 v0 10 (fX10_hasDigits N k v0 x7 b5.2)).bind fun b8 =>
    if b8.1 = 0 then (
    some ((0 : Int32), b8.2)
    ) else (
    some ((1 : Int32), b8.2)
    )
    )
    ) else (
    if (9 : Int32) ≤ v1 then (
    some ((0 : Int32), m0)
    ) else (
    some ((1 : Int32), m0)
    )
    )
set_option maxRecDepth 100000 in
theorem wX10_hasDigits {E : qE} {N : Nat} : ∀ {k d : Nat} (hd : k + 1 ≤ d) {m0 : qM} {b : Int32 × qM} {v0 : Nat} {v1 : Int32} (h : fX10_hasDigits N k v0 v1 m0 = some b), qRun E yX10_hasDigits cX10_hasDigits 2 (some .boolean) d 0 0 [.ref (E.2.1 + v0), .int v1] m0 (some (.int b.1), b.2) := by
  intro k
  induction k with
  | zero =>
    intro d hd m0 b v0 v1 h
    cases h
  | succ k ih =>
    intro d hd m0 b v0 v1 h
    have hfr : ∀ (m : qM) (b : Int32 × qM) (v0 : Nat) (v1 : Int32), fX10_hasDigits N k v0 v1 m = some b → qRun E yX10_hasDigits cX10_hasDigits 2 (some .boolean) (d - 1) 0 0 [.ref (E.2.1 + v0), .int v1] m (some (.int b.1), b.2) := fun m b v0 v1 h => ih (by omega) h
    have hd : 1 ≤ d := by omega
    have bd : qB E yX10_hasDigits cX10_hasDigits 2 (some .boolean) (fun _ => True) d 0 0 0 [(0, .ref (E.2.1 + v0)), (1, .int v1)] [] m0 (fX10_hasDigits N (k + 1) v0 v1 m0) (fun b rr => rr = (some (.int b.1), b.2)) := by
      unfold fX10_hasDigits
      refine j_aload_n (q := 0) (np := 1) rfl rfl dX10_hasDigits_0 rfl ?_
      refine j_gR (np := 4) flX10_16 dX10_hasDigits_1 rfl (fun x1 => ?_)
      refine j_iload_n (q := 1) (np := 5) rfl rfl dX10_hasDigits_4 rfl ?_
      refine j_iaload (np := 6) dX10_hasDigits_5 rfl (fun x2 => ?_)
      refine j_if_ge (tgt := 23) (np := 9) dX10_hasDigits_6 rfl rfl ?_ ?_
      · refine j_aload_n (q := 0) (np := 24) rfl rfl dX10_hasDigits_23 rfl ?_
        refine j_aload_n (q := 0) (np := 25) rfl rfl dX10_hasDigits_24 rfl ?_
        refine j_gR (np := 28) flX10_16 dX10_hasDigits_25 rfl (fun x3 => ?_)
        refine j_iload_n (q := 1) (np := 29) rfl rfl dX10_hasDigits_28 rfl ?_
        refine j_iaload (np := 30) dX10_hasDigits_29 rfl (fun x4 => ?_)
        refine j_callVi (ci := 10) (np := 33) (bc := 0) (bs := 0) (cb := 0) (cs := 0) (dd := d - 1) (As := [.int x4]) (st := []) caX10_hasDigits mlX10_202 imX10_hasDigits seX10_hasDigits rfl rfl (by decide) (fun b hb => hfr _ _ _ _ hb) (by omega) rfl rfl (Nat.le_of_ble_eq_true rfl) dX10_hasDigits_30 rfl (fun b5 => ?_)
        refine j_if_eq (tgt := 53) (np := 36) dX10_hasDigits_33 rfl rfl ?_ ?_
        · refine j_iconst (np := 54) ci_0 dX10_hasDigits_53 rfl ?_
          exact j_zret rfl dX10_hasDigits_54 (fun rr h => by rw [z0]; exact h)
        · refine j_aload_n (q := 0) (np := 37) rfl rfl dX10_hasDigits_36 rfl ?_
          refine j_aload_n (q := 0) (np := 38) rfl rfl dX10_hasDigits_37 rfl ?_
          refine j_gR (np := 41) flX10_19 dX10_hasDigits_38 rfl (fun x6 => ?_)
          refine j_iload_n (q := 1) (np := 42) rfl rfl dX10_hasDigits_41 rfl ?_
          refine j_iaload (np := 43) dX10_hasDigits_42 rfl (fun x7 => ?_)
          refine j_callVi (ci := 10) (np := 46) (bc := 0) (bs := 0) (cb := 0) (cs := 0) (dd := d - 1) (As := [.int x7]) (st := []) caX10_hasDigits mlX10_202 imX10_hasDigits seX10_hasDigits rfl rfl (by decide) (fun b hb => hfr _ _ _ _ hb) (by omega) rfl rfl (Nat.le_of_ble_eq_true rfl) dX10_hasDigits_43 rfl (fun b8 => ?_)
          refine j_if_eq (tgt := 53) (np := 49) dX10_hasDigits_46 rfl rfl ?_ ?_
          · refine j_iconst (np := 54) ci_0 dX10_hasDigits_53 rfl ?_
            exact j_zret rfl dX10_hasDigits_54 (fun rr h => by rw [z0]; exact h)
          · refine j_iconst (np := 50) ci_1 dX10_hasDigits_49 rfl ?_
            refine j_goto (tgt := 54) dX10_hasDigits_50 rfl ?_
            exact j_zret rfl dX10_hasDigits_54 (fun rr h => by rw [z1]; exact h)
      · refine j_iload_n (q := 1) (np := 10) rfl rfl dX10_hasDigits_9 rfl ?_
        refine j_bipush (np := 12) cb_9 dX10_hasDigits_10 rfl ?_
        refine j_icmp_ge (tgt := 19) (np := 15) dX10_hasDigits_12 rfl rfl ?_ ?_
        · refine j_iconst (np := 20) ci_0 dX10_hasDigits_19 rfl ?_
          refine j_goto (tgt := 54) dX10_hasDigits_20 rfl ?_
          exact j_zret rfl dX10_hasDigits_54 (fun rr h => by rw [z0]; exact h)
        · refine j_iconst (np := 16) ci_1 dX10_hasDigits_15 rfl ?_
          refine j_goto (tgt := 54) dX10_hasDigits_16 rfl ?_
          exact j_zret rfl dX10_hasDigits_54 (fun rr h => by rw [z1]; exact h)
    exact q_met pnX10 (Nat.le_of_ble_eq_true rfl) (bd b _ h rfl)
theorem dX10_tellsProof_0 : decode cX10_tellsProof 0 = .ok (.aload_n 0, 1) := by decide +kernel
theorem dX10_tellsProof_1 : decode cX10_tellsProof 1 = .ok (.getfield 28, 3) := by decide +kernel
theorem dX10_tellsProof_4 : decode cX10_tellsProof 4 = .ok (.aload_n 0, 1) := by decide +kernel
theorem dX10_tellsProof_5 : decode cX10_tellsProof 5 = .ok (.dup, 1) := by decide +kernel
theorem dX10_tellsProof_6 : decode cX10_tellsProof 6 = .ok (.getfield 180, 3) := by decide +kernel
theorem dX10_tellsProof_9 : decode cX10_tellsProof 9 = .ok (.dup_x1, 1) := by decide +kernel
theorem dX10_tellsProof_10 : decode cX10_tellsProof 10 = .ok (.iconst 1, 1) := by decide +kernel
theorem dX10_tellsProof_11 : decode cX10_tellsProof 11 = .ok (.iadd, 1) := by decide +kernel
theorem dX10_tellsProof_12 : decode cX10_tellsProof 12 = .ok (.putfield 180, 3) := by decide +kernel
theorem dX10_tellsProof_15 : decode cX10_tellsProof 15 = .ok (.aload_n 0, 1) := by decide +kernel
theorem dX10_tellsProof_16 : decode cX10_tellsProof 16 = .ok (.getfield 16, 3) := by decide +kernel
theorem dX10_tellsProof_19 : decode cX10_tellsProof 19 = .ok (.iload_n 1, 1) := by decide +kernel
theorem dX10_tellsProof_20 : decode cX10_tellsProof 20 = .ok (.iaload, 1) := by decide +kernel
theorem dX10_tellsProof_21 : decode cX10_tellsProof 21 = .ok (.ifCond .ge 10, 3) := by decide +kernel
theorem dX10_tellsProof_24 : decode cX10_tellsProof 24 = .ok (.bipush 49, 2) := by decide +kernel
theorem dX10_tellsProof_26 : decode cX10_tellsProof 26 = .ok (.iload_n 1, 1) := by decide +kernel
theorem dX10_tellsProof_27 : decode cX10_tellsProof 27 = .ok (.iadd, 1) := by decide +kernel
theorem dX10_tellsProof_28 : decode cX10_tellsProof 28 = .ok (.goto 5, 3) := by decide +kernel
theorem dX10_tellsProof_31 : decode cX10_tellsProof 31 = .ok (.bipush 68, 2) := by decide +kernel
theorem dX10_tellsProof_33 : decode cX10_tellsProof 33 = .ok (.iastore, 1) := by decide +kernel
theorem dX10_tellsProof_34 : decode cX10_tellsProof 34 = .ok (.aload_n 0, 1) := by decide +kernel
theorem dX10_tellsProof_35 : decode cX10_tellsProof 35 = .ok (.getfield 16, 3) := by decide +kernel
theorem dX10_tellsProof_38 : decode cX10_tellsProof 38 = .ok (.iload_n 1, 1) := by decide +kernel
theorem dX10_tellsProof_39 : decode cX10_tellsProof 39 = .ok (.iaload, 1) := by decide +kernel
theorem dX10_tellsProof_40 : decode cX10_tellsProof 40 = .ok (.ifCond .ge 4, 3) := by decide +kernel
theorem dX10_tellsProof_43 : decode cX10_tellsProof 43 = .ok (.return_, 1) := by decide +kernel
theorem dX10_tellsProof_44 : decode cX10_tellsProof 44 = .ok (.aload_n 0, 1) := by decide +kernel
theorem dX10_tellsProof_45 : decode cX10_tellsProof 45 = .ok (.aload_n 0, 1) := by decide +kernel
theorem dX10_tellsProof_46 : decode cX10_tellsProof 46 = .ok (.getfield 16, 3) := by decide +kernel
theorem dX10_tellsProof_49 : decode cX10_tellsProof 49 = .ok (.iload_n 1, 1) := by decide +kernel
theorem dX10_tellsProof_50 : decode cX10_tellsProof 50 = .ok (.iaload, 1) := by decide +kernel
theorem dX10_tellsProof_51 : decode cX10_tellsProof 51 = .ok (.invokevirtual 205, 3) := by decide +kernel
theorem dX10_tellsProof_54 : decode cX10_tellsProof 54 = .ok (.aload_n 0, 1) := by decide +kernel
theorem dX10_tellsProof_55 : decode cX10_tellsProof 55 = .ok (.aload_n 0, 1) := by decide +kernel
theorem dX10_tellsProof_56 : decode cX10_tellsProof 56 = .ok (.getfield 19, 3) := by decide +kernel
theorem dX10_tellsProof_59 : decode cX10_tellsProof 59 = .ok (.iload_n 1, 1) := by decide +kernel
theorem dX10_tellsProof_60 : decode cX10_tellsProof 60 = .ok (.iaload, 1) := by decide +kernel
theorem dX10_tellsProof_61 : decode cX10_tellsProof 61 = .ok (.invokevirtual 205, 3) := by decide +kernel
theorem dX10_tellsProof_64 : decode cX10_tellsProof 64 = .ok (.return_, 1) := by decide +kernel
def kX10_tellsProof_33 (N : Nat) (fr : Nat → Int32 → qM → Option (qM)) (v0 : Nat) (v1 : Int32) (s0 : Nat) (s1 : Int32) (s2 : Int32) (m0 : qM) : Option (qM) :=
  (qwI m0 s0 12 s1 s2).bind fun m1 =>
  (qgR m1 v0 10 2).bind fun x2 =>
  (qaI m1 x2 12 v1).bind fun x3 =>
  if 0 ≤ x3 then (
  (qgR m1 v0 10 2).bind fun x4 =>
  (qaI m1 x4 12 v1).bind fun x5 =>
  (qChk m1 v0 10 (fr v0 x5 m1)).bind fun b6 =>
  (qgR b6 v0 10 3).bind fun x7 =>
  (qaI b6 x7 12 v1).bind fun x8 =>
  (qChk b6 v0 10 (fr v0 x8 b6)).bind fun b9 =>
  some b9
  ) else (
  some m1
  )
set_option maxRecDepth 100000 in
theorem kbX10_tellsProof_33 {E : qE} {N d bc bs : Nat} (hd : 1 ≤ d) {fr : Nat → Int32 → qM → Option (qM)} (hfr : ∀ (m : qM) (b : qM) (v0 : Nat) (v1 : Int32), fr v0 v1 m = some b → qRun E yX10_tellsProof cX10_tellsProof 2 none (d - 1) 0 0 [.ref (E.2.1 + v0), .int v1] m (none, b)) {v0 : Nat} {v1 : Int32} {s0 : Nat} {s1 : Int32} {s2 : Int32} {m0 : qM} : qB E yX10_tellsProof cX10_tellsProof 2 none (fun _ => True) d bc bs 33 [(0, .ref (E.2.1 + v0)), (1, .int v1)] [.int s2, .int s1, .ref (E.2.1 + s0)] m0 (kX10_tellsProof_33 N fr v0 v1 s0 s1 s2 m0) (fun b rr => rr = (none, b)) := by
  unfold kX10_tellsProof_33
  refine j_iastore (np := 34) dX10_tellsProof_33 rfl (fun m1 => ?_)
  refine j_aload_n (q := 0) (np := 35) rfl rfl dX10_tellsProof_34 rfl ?_
  refine j_gR (np := 38) flX10_16 dX10_tellsProof_35 rfl (fun x2 => ?_)
  refine j_iload_n (q := 1) (np := 39) rfl rfl dX10_tellsProof_38 rfl ?_
  refine j_iaload (np := 40) dX10_tellsProof_39 rfl (fun x3 => ?_)
  refine j_if_ge (tgt := 44) (np := 43) dX10_tellsProof_40 rfl rfl ?_ ?_
  · refine j_aload_n (q := 0) (np := 45) rfl rfl dX10_tellsProof_44 rfl ?_
    refine j_aload_n (q := 0) (np := 46) rfl rfl dX10_tellsProof_45 rfl ?_
    refine j_gR (np := 49) flX10_16 dX10_tellsProof_46 rfl (fun x4 => ?_)
    refine j_iload_n (q := 1) (np := 50) rfl rfl dX10_tellsProof_49 rfl ?_
    refine j_iaload (np := 51) dX10_tellsProof_50 rfl (fun x5 => ?_)
    refine j_callVv (ci := 10) (np := 54) (bc := bc) (bs := bs) (cb := 0) (cs := 0) (dd := d - 1) (As := [.int x5]) (st := []) caX10_tellsProof mlX10_205 imX10_tellsProof seX10_tellsProof rfl rfl (by decide) (fun b hb => hfr _ _ _ _ hb) (by omega) rfl rfl (Nat.le_of_ble_eq_true rfl) dX10_tellsProof_51 rfl (fun b6 => ?_)
    refine j_aload_n (q := 0) (np := 55) rfl rfl dX10_tellsProof_54 rfl ?_
    refine j_aload_n (q := 0) (np := 56) rfl rfl dX10_tellsProof_55 rfl ?_
    refine j_gR (np := 59) flX10_19 dX10_tellsProof_56 rfl (fun x7 => ?_)
    refine j_iload_n (q := 1) (np := 60) rfl rfl dX10_tellsProof_59 rfl ?_
    refine j_iaload (np := 61) dX10_tellsProof_60 rfl (fun x8 => ?_)
    refine j_callVv (ci := 10) (np := 64) (bc := bc) (bs := bs) (cb := 0) (cs := 0) (dd := d - 1) (As := [.int x8]) (st := []) caX10_tellsProof mlX10_205 imX10_tellsProof seX10_tellsProof rfl rfl (by decide) (fun b hb => hfr _ _ _ _ hb) (by omega) rfl rfl (Nat.le_of_ble_eq_true rfl) dX10_tellsProof_61 rfl (fun b9 => ?_)
    exact j_vret rfl dX10_tellsProof_64 (fun rr h => h)
  · exact j_vret rfl dX10_tellsProof_43 (fun rr h => h)
def fX10_tellsProof (N : Nat) : Nat → Nat → Int32 → qM → Option (qM)
  | 0, _, _, _ => none
  | k + 1, v0, v1, m0 =>
    (qgR m0 v0 10 10).bind fun x1 =>
    (qgI m0 v0 10 11).bind fun x2 =>
    (qpI m0 v0 10 11 (x2 + (1 : Int32))).bind fun m3 =>
    (qgR m3 v0 10 2).bind fun x4 =>
    (qaI m3 x4 12 v1).bind fun x5 =>
    if 0 ≤ x5 then (
    kX10_tellsProof_33 N (fX10_tellsProof N k) v0 v1 x1 x2 (68 : Int32) m3
    ) else (
    kX10_tellsProof_33 N (fX10_tellsProof N k) v0 v1 x1 x2 ((49 : Int32) + v1) m3
    )
set_option maxRecDepth 100000 in
theorem wX10_tellsProof {E : qE} {N : Nat} : ∀ {k d : Nat} (hd : k + 1 ≤ d) {m0 : qM} {b : qM} {v0 : Nat} {v1 : Int32} (h : fX10_tellsProof N k v0 v1 m0 = some b), qRun E yX10_tellsProof cX10_tellsProof 2 none d 0 0 [.ref (E.2.1 + v0), .int v1] m0 (none, b) := by
  intro k
  induction k with
  | zero =>
    intro d hd m0 b v0 v1 h
    cases h
  | succ k ih =>
    intro d hd m0 b v0 v1 h
    have hfr : ∀ (m : qM) (b : qM) (v0 : Nat) (v1 : Int32), fX10_tellsProof N k v0 v1 m = some b → qRun E yX10_tellsProof cX10_tellsProof 2 none (d - 1) 0 0 [.ref (E.2.1 + v0), .int v1] m (none, b) := fun m b v0 v1 h => ih (by omega) h
    have hd : 1 ≤ d := by omega
    have bd : qB E yX10_tellsProof cX10_tellsProof 2 none (fun _ => True) d 0 0 0 [(0, .ref (E.2.1 + v0)), (1, .int v1)] [] m0 (fX10_tellsProof N (k + 1) v0 v1 m0) (fun b rr => rr = (none, b)) := by
      unfold fX10_tellsProof
      refine j_aload_n (q := 0) (np := 1) rfl rfl dX10_tellsProof_0 rfl ?_
      refine j_gR (np := 4) flX10_28 dX10_tellsProof_1 rfl (fun x1 => ?_)
      refine j_aload_n (q := 0) (np := 5) rfl rfl dX10_tellsProof_4 rfl ?_
      refine j_dup (np := 6) rfl dX10_tellsProof_5 rfl ?_
      refine j_gI (np := 9) flX10_180 dX10_tellsProof_6 rfl (fun x2 => ?_)
      refine j_dup_x1 (np := 10) rfl rfl dX10_tellsProof_9 rfl ?_
      refine j_iconst (np := 11) ci_1 dX10_tellsProof_10 rfl ?_
      refine j_iadd (np := 12) dX10_tellsProof_11 rfl ?_
      refine j_pI (np := 15) flX10_180 dX10_tellsProof_12 rfl (fun m3 => ?_)
      refine j_aload_n (q := 0) (np := 16) rfl rfl dX10_tellsProof_15 rfl ?_
      refine j_gR (np := 19) flX10_16 dX10_tellsProof_16 rfl (fun x4 => ?_)
      refine j_iload_n (q := 1) (np := 20) rfl rfl dX10_tellsProof_19 rfl ?_
      refine j_iaload (np := 21) dX10_tellsProof_20 rfl (fun x5 => ?_)
      refine j_if_ge (tgt := 31) (np := 24) dX10_tellsProof_21 rfl rfl ?_ ?_
      · refine j_bipush (np := 33) cb_68 dX10_tellsProof_31 rfl ?_
        exact kbX10_tellsProof_33 hd hfr
      · refine j_bipush (np := 26) cb_49 dX10_tellsProof_24 rfl ?_
        refine j_iload_n (q := 1) (np := 27) rfl rfl dX10_tellsProof_26 rfl ?_
        refine j_iadd (np := 28) dX10_tellsProof_27 rfl ?_
        refine j_goto (tgt := 33) dX10_tellsProof_28 rfl ?_
        exact kbX10_tellsProof_33 hd hfr
    exact q_met pnX10 (Nat.le_of_ble_eq_true rfl) (bd b _ h rfl)
theorem dX10_writeProof_0 : decode cX10_writeProof 0 = .ok (.aload_n 0, 1) := by decide +kernel
theorem dX10_writeProof_1 : decode cX10_writeProof 1 = .ok (.iload_n 1, 1) := by decide +kernel
theorem dX10_writeProof_2 : decode cX10_writeProof 2 = .ok (.invokevirtual 172, 3) := by decide +kernel
theorem dX10_writeProof_5 : decode cX10_writeProof 5 = .ok (.ifCond .ne 5, 3) := by decide +kernel
theorem dX10_writeProof_8 : decode cX10_writeProof 8 = .ok (.iconst (-1), 1) := by decide +kernel
theorem dX10_writeProof_9 : decode cX10_writeProof 9 = .ok (.ireturn, 1) := by decide +kernel
theorem dX10_writeProof_10 : decode cX10_writeProof 10 = .ok (.aload_n 0, 1) := by decide +kernel
theorem dX10_writeProof_11 : decode cX10_writeProof 11 = .ok (.iload_n 1, 1) := by decide +kernel
theorem dX10_writeProof_12 : decode cX10_writeProof 12 = .ok (.invokevirtual 196, 3) := by decide +kernel
theorem dX10_writeProof_15 : decode cX10_writeProof 15 = .ok (.ldc2_w 208, 3) := by decide +kernel
theorem dX10_writeProof_18 : decode cX10_writeProof 18 = .ok (.lcmp, 1) := by decide +kernel
theorem dX10_writeProof_19 : decode cX10_writeProof 19 = .ok (.ifCond .gt 11, 3) := by decide +kernel
theorem dX10_writeProof_22 : decode cX10_writeProof 22 = .ok (.aload_n 0, 1) := by decide +kernel
theorem dX10_writeProof_23 : decode cX10_writeProof 23 = .ok (.iload_n 1, 1) := by decide +kernel
theorem dX10_writeProof_24 : decode cX10_writeProof 24 = .ok (.invokevirtual 202, 3) := by decide +kernel
theorem dX10_writeProof_27 : decode cX10_writeProof 27 = .ok (.ifCond .ne 6, 3) := by decide +kernel
theorem dX10_writeProof_30 : decode cX10_writeProof 30 = .ok (.bipush (-5), 2) := by decide +kernel
theorem dX10_writeProof_32 : decode cX10_writeProof 32 = .ok (.ireturn, 1) := by decide +kernel
theorem dX10_writeProof_33 : decode cX10_writeProof 33 = .ok (.aload_n 0, 1) := by decide +kernel
theorem dX10_writeProof_34 : decode cX10_writeProof 34 = .ok (.iconst 0, 1) := by decide +kernel
theorem dX10_writeProof_35 : decode cX10_writeProof 35 = .ok (.putfield 180, 3) := by decide +kernel
theorem dX10_writeProof_38 : decode cX10_writeProof 38 = .ok (.aload_n 0, 1) := by decide +kernel
theorem dX10_writeProof_39 : decode cX10_writeProof 39 = .ok (.iload_n 1, 1) := by decide +kernel
theorem dX10_writeProof_40 : decode cX10_writeProof 40 = .ok (.invokevirtual 205, 3) := by decide +kernel
theorem dX10_writeProof_43 : decode cX10_writeProof 43 = .ok (.aload_n 0, 1) := by decide +kernel
theorem dX10_writeProof_44 : decode cX10_writeProof 44 = .ok (.getfield 180, 3) := by decide +kernel
theorem dX10_writeProof_47 : decode cX10_writeProof 47 = .ok (.ireturn, 1) := by decide +kernel
def fX10_writeProof (N : Nat) (v0 : Nat) (v1 : Int32) (m0 : qM) : Option (Int32 × qM) :=
  (qChk m0 v0 10 (fX10_isOne N v0 v1 m0)).bind fun b1 =>
  if b1.1 = 0 then (
  some ((-1 : Int32), b1.2)
  ) else (
  (qChk b1.2 v0 10 (fX10_signs N v0 v1 b1.2)).bind fun b2 =>
  if 0 < lg_cmp b2.1 (49 : Int64) then (
  some ((-5 : Int32), b2.2)
  ) else (
  (qChk b2.2 v0 10 (fX10_hasDigits N kR v0 v1 b2.2)).bind fun b3 =>
  if b3.1 = 0 then (
  some ((-5 : Int32), b3.2)
  ) else (
  (qpI b3.2 v0 10 11 (0 : Int32)).bind fun m4 =>
  (qChk m4 v0 10 (fX10_tellsProof N kR v0 v1 m4)).bind fun b5 =>
  (qgI b5 v0 10 11).bind fun x6 =>
  some (x6, b5)
  )
  )
  )
set_option maxRecDepth 100000 in
theorem bX10_writeProof {E : qE} {N d bc bs : Nat} (hd : 132 ≤ d) {v0 : Nat} {v1 : Int32} {m0 : qM} : qB E yX10_writeProof cX10_writeProof 2 (some .int) (fun _ => True) d (bc + 1) (bs + 60) 0 [(0, .ref (E.2.1 + v0)), (1, .int v1)] [] m0 (fX10_writeProof N v0 v1 m0) (fun b rr => rr = (some (.int b.1), b.2)) := by
  unfold fX10_writeProof
  refine j_aload_n (q := 0) (np := 1) rfl rfl dX10_writeProof_0 rfl ?_
  refine j_iload_n (q := 1) (np := 2) rfl rfl dX10_writeProof_1 rfl ?_
  refine j_callVi (ci := 10) (np := 5) (bc := (bc + 1)) (bs := (bs + 60)) (cb := 0) (cs := 0) (dd := d - 1) (As := [.int v1]) (st := []) caX10_isOne mlX10_172 imX10_isOne seX10_isOne rfl rfl (by decide) (fun b hb => wX10_isOne (by omega) hb) (by omega) rfl rfl (Nat.le_of_ble_eq_true rfl) dX10_writeProof_2 rfl (fun b1 => ?_)
  refine j_if_ne (tgt := 10) (np := 8) dX10_writeProof_5 rfl rfl ?_ ?_
  · refine j_aload_n (q := 0) (np := 11) rfl rfl dX10_writeProof_10 rfl ?_
    refine j_iload_n (q := 1) (np := 12) rfl rfl dX10_writeProof_11 rfl ?_
    refine j_bud (b1 := bc + 1) (b2 := bs + 60) (by omega) (by omega) ?_
    refine j_callVl (ci := 10) (np := 15) (bc := bc) (bs := bs) (cb := 1) (cs := 60) (dd := d - 1) (As := [.int v1]) (st := []) caX10_signs mlX10_196 imX10_signs seX10_signs rfl rfl (by decide) (fun b hb => wX10_signs (by omega) hb) (by omega) rfl rfl (Nat.le_of_ble_eq_true rfl) dX10_writeProof_12 rfl (fun b2 => ?_)
    refine j_ldc2 (np := 18) lgX10_208 dX10_writeProof_15 rfl ?_
    refine j_lcmp (np := 19) dX10_writeProof_18 rfl ?_
    refine j_if_gt (tgt := 30) (np := 22) dX10_writeProof_19 rfl rfl ?_ ?_
    · refine j_bipush (np := 32) cb_m5 dX10_writeProof_30 rfl ?_
      exact j_iret rfl dX10_writeProof_32 (fun rr h => h)
    · refine j_aload_n (q := 0) (np := 23) rfl rfl dX10_writeProof_22 rfl ?_
      refine j_iload_n (q := 1) (np := 24) rfl rfl dX10_writeProof_23 rfl ?_
      refine j_callVi (ci := 10) (np := 27) (bc := bc) (bs := bs) (cb := 0) (cs := 0) (dd := d - 1) (As := [.int v1]) (st := []) caX10_hasDigits mlX10_202 imX10_hasDigits seX10_hasDigits rfl rfl (by decide) (fun b hb => wX10_hasDigits (by show 130 + _ ≤ _; omega) hb) (by omega) rfl rfl (Nat.le_of_ble_eq_true rfl) dX10_writeProof_24 rfl (fun b3 => ?_)
      refine j_if_ne (tgt := 33) (np := 30) dX10_writeProof_27 rfl rfl ?_ ?_
      · refine j_aload_n (q := 0) (np := 34) rfl rfl dX10_writeProof_33 rfl ?_
        refine j_iconst (np := 35) ci_0 dX10_writeProof_34 rfl ?_
        refine j_pI (np := 38) flX10_180 dX10_writeProof_35 rfl (fun m4 => ?_)
        refine j_aload_n (q := 0) (np := 39) rfl rfl dX10_writeProof_38 rfl ?_
        refine j_iload_n (q := 1) (np := 40) rfl rfl dX10_writeProof_39 rfl ?_
        refine j_callVv (ci := 10) (np := 43) (bc := bc) (bs := bs) (cb := 0) (cs := 0) (dd := d - 1) (As := [.int v1]) (st := []) caX10_tellsProof mlX10_205 imX10_tellsProof seX10_tellsProof rfl rfl (by decide) (fun b hb => wX10_tellsProof (by show 130 + _ ≤ _; omega) hb) (by omega) rfl rfl (Nat.le_of_ble_eq_true rfl) dX10_writeProof_40 rfl (fun b5 => ?_)
        refine j_aload_n (q := 0) (np := 44) rfl rfl dX10_writeProof_43 rfl ?_
        refine j_gI (np := 47) flX10_180 dX10_writeProof_44 rfl (fun x6 => ?_)
        exact j_iret rfl dX10_writeProof_47 (fun rr h => h)
      · refine j_bipush (np := 32) cb_m5 dX10_writeProof_30 rfl ?_
        exact j_iret rfl dX10_writeProof_32 (fun rr h => h)
  · refine j_iconst (np := 9) ci_m1 dX10_writeProof_8 rfl ?_
    exact j_iret rfl dX10_writeProof_9 (fun rr h => h)
set_option maxRecDepth 100000 in
theorem wX10_writeProof {E : qE} {N d : Nat} (hd : 132 ≤ d) {v0 : Nat} {v1 : Int32} {m0 : qM} {b : Int32 × qM} (h : fX10_writeProof N v0 v1 m0 = some b) : qRun E yX10_writeProof cX10_writeProof 2 (some .int) d 1 60 [.ref (E.2.1 + v0), .int v1] m0 (some (.int b.1), b.2) := q_met pnX10 (Nat.le_of_ble_eq_true rfl) ((j_bud (by omega) (by omega) (bX10_writeProof (bc := 0) (bs := 0) hd)) b _ h rfl)
theorem dX10_outputLength_0 : decode cX10_outputLength 0 = .ok (.aload_n 0, 1) := by decide +kernel
theorem dX10_outputLength_1 : decode cX10_outputLength 1 = .ok (.getfield 180, 3) := by decide +kernel
theorem dX10_outputLength_4 : decode cX10_outputLength 4 = .ok (.ireturn, 1) := by decide +kernel
def fX10_outputLength (N : Nat) (v0 : Nat) (m0 : qM) : Option (Int32 × qM) :=
  (qgI m0 v0 10 11).bind fun x1 =>
  some (x1, m0)
set_option maxRecDepth 100000 in
theorem bX10_outputLength {E : qE} {N d bc bs : Nat} (hd : 0 ≤ d) {v0 : Nat} {m0 : qM} : qB E yX10_outputLength cX10_outputLength 1 (some .int) (fun _ => True) d bc bs 0 [(0, .ref (E.2.1 + v0))] [] m0 (fX10_outputLength N v0 m0) (fun b rr => rr = (some (.int b.1), b.2)) := by
  unfold fX10_outputLength
  refine j_aload_n (q := 0) (np := 1) rfl rfl dX10_outputLength_0 rfl ?_
  refine j_gI (np := 4) flX10_180 dX10_outputLength_1 rfl (fun x1 => ?_)
  exact j_iret rfl dX10_outputLength_4 (fun rr h => h)
set_option maxRecDepth 100000 in
theorem wX10_outputLength {E : qE} {N d : Nat} (hd : 0 ≤ d) {v0 : Nat} {m0 : qM} {b : Int32 × qM} (h : fX10_outputLength N v0 m0 = some b) : qRun E yX10_outputLength cX10_outputLength 1 (some .int) d 0 0 [.ref (E.2.1 + v0)] m0 (some (.int b.1), b.2) := q_met pnX10 (Nat.le_of_ble_eq_true rfl) (bX10_outputLength hd b _ h rfl)
theorem dX10_outputAt_0 : decode cX10_outputAt 0 = .ok (.iload_n 1, 1) := by decide +kernel
theorem dX10_outputAt_1 : decode cX10_outputAt 1 = .ok (.iconst 0, 1) := by decide +kernel
theorem dX10_outputAt_2 : decode cX10_outputAt 2 = .ok (.aload_n 0, 1) := by decide +kernel
theorem dX10_outputAt_3 : decode cX10_outputAt 3 = .ok (.getfield 180, 3) := by decide +kernel
theorem dX10_outputAt_6 : decode cX10_outputAt 6 = .ok (.iconst 1, 1) := by decide +kernel
theorem dX10_outputAt_7 : decode cX10_outputAt 7 = .ok (.isub, 1) := by decide +kernel
theorem dX10_outputAt_8 : decode cX10_outputAt 8 = .ok (.invokestatic 99, 3) := by decide +kernel
theorem dX10_outputAt_11 : decode cX10_outputAt 11 = .ok (.ifCond .eq 12, 3) := by decide +kernel
theorem dX10_outputAt_14 : decode cX10_outputAt 14 = .ok (.aload_n 0, 1) := by decide +kernel
theorem dX10_outputAt_15 : decode cX10_outputAt 15 = .ok (.getfield 28, 3) := by decide +kernel
theorem dX10_outputAt_18 : decode cX10_outputAt 18 = .ok (.iload_n 1, 1) := by decide +kernel
theorem dX10_outputAt_19 : decode cX10_outputAt 19 = .ok (.iaload, 1) := by decide +kernel
theorem dX10_outputAt_20 : decode cX10_outputAt 20 = .ok (.goto 4, 3) := by decide +kernel
theorem dX10_outputAt_23 : decode cX10_outputAt 23 = .ok (.iconst (-1), 1) := by decide +kernel
theorem dX10_outputAt_24 : decode cX10_outputAt 24 = .ok (.ireturn, 1) := by decide +kernel
def fX10_outputAt (N : Nat) (v0 : Nat) (v1 : Int32) (m0 : qM) : Option (Int32 × qM) :=
  (qgI m0 v0 10 11).bind fun x1 =>
  (fX10_in N v1 (0 : Int32) (x1 - (1 : Int32)) m0).bind fun b2 =>
  if b2.1 = 0 then (
  some ((-1 : Int32), b2.2)
  ) else (
  (qgR b2.2 v0 10 10).bind fun x3 =>
  (qaI b2.2 x3 12 v1).bind fun x4 =>
  some (x4, b2.2)
  )
set_option maxRecDepth 100000 in
theorem bX10_outputAt {E : qE} {N d bc bs : Nat} (hd : 1 ≤ d) {v0 : Nat} {v1 : Int32} {m0 : qM} : qB E yX10_outputAt cX10_outputAt 2 (some .int) (fun _ => True) d bc bs 0 [(0, .ref (E.2.1 + v0)), (1, .int v1)] [] m0 (fX10_outputAt N v0 v1 m0) (fun b rr => rr = (some (.int b.1), b.2)) := by
  unfold fX10_outputAt
  refine j_iload_n (q := 1) (np := 1) rfl rfl dX10_outputAt_0 rfl ?_
  refine j_iconst (np := 2) ci_0 dX10_outputAt_1 rfl ?_
  refine j_aload_n (q := 0) (np := 3) rfl rfl dX10_outputAt_2 rfl ?_
  refine j_gI (np := 6) flX10_180 dX10_outputAt_3 rfl (fun x1 => ?_)
  refine j_iconst (np := 7) ci_1 dX10_outputAt_6 rfl ?_
  refine j_isub (np := 8) dX10_outputAt_7 rfl ?_
  refine j_callSi (np := 11) (bc := bc) (bs := bs) (cb := 0) (cs := 0) (dd := d - 1) (As := [.int v1, .int (0 : Int32), .int (x1 - (1 : Int32))]) (st := []) caX10_in mlX10_99 stX10_in (fun b hb => wX10_in (by omega) hb) (by omega) rfl rfl (Nat.le_of_ble_eq_true rfl) dX10_outputAt_8 rfl (fun b2 => ?_)
  refine j_if_eq (tgt := 23) (np := 14) dX10_outputAt_11 rfl rfl ?_ ?_
  · refine j_iconst (np := 24) ci_m1 dX10_outputAt_23 rfl ?_
    exact j_iret rfl dX10_outputAt_24 (fun rr h => h)
  · refine j_aload_n (q := 0) (np := 15) rfl rfl dX10_outputAt_14 rfl ?_
    refine j_gR (np := 18) flX10_28 dX10_outputAt_15 rfl (fun x3 => ?_)
    refine j_iload_n (q := 1) (np := 19) rfl rfl dX10_outputAt_18 rfl ?_
    refine j_iaload (np := 20) dX10_outputAt_19 rfl (fun x4 => ?_)
    refine j_goto (tgt := 24) dX10_outputAt_20 rfl ?_
    exact j_iret rfl dX10_outputAt_24 (fun rr h => h)
set_option maxRecDepth 100000 in
theorem wX10_outputAt {E : qE} {N d : Nat} (hd : 1 ≤ d) {v0 : Nat} {v1 : Int32} {m0 : qM} {b : Int32 × qM} (h : fX10_outputAt N v0 v1 m0 = some b) : qRun E yX10_outputAt cX10_outputAt 2 (some .int) d 0 0 [.ref (E.2.1 + v0), .int v1] m0 (some (.int b.1), b.2) := q_met pnX10 (Nat.le_of_ble_eq_true rfl) (bX10_outputAt hd b _ h rfl)
theorem dX10_endOf_0 : decode cX10_endOf 0 = .ok (.iconst 1, 1) := by decide +kernel
theorem dX10_endOf_1 : decode cX10_endOf 1 = .ok (.istore_n 3, 1) := by decide +kernel
theorem dX10_endOf_2 : decode cX10_endOf 2 = .ok (.iload_n 2, 1) := by decide +kernel
theorem dX10_endOf_3 : decode cX10_endOf 3 = .ok (.istore 4, 2) := by decide +kernel
theorem dX10_endOf_5 : decode cX10_endOf 5 = .ok (.iload_n 3, 1) := by decide +kernel
theorem dX10_endOf_6 : decode cX10_endOf 6 = .ok (.ifCond .le 34, 3) := by decide +kernel
theorem dX10_endOf_9 : decode cX10_endOf 9 = .ok (.iload_n 3, 1) := by decide +kernel
theorem dX10_endOf_10 : decode cX10_endOf 10 = .ok (.aload_n 0, 1) := by decide +kernel
theorem dX10_endOf_11 : decode cX10_endOf 11 = .ok (.getfield 9, 3) := by decide +kernel
theorem dX10_endOf_14 : decode cX10_endOf 14 = .ok (.bipush 39, 2) := by decide +kernel
theorem dX10_endOf_16 : decode cX10_endOf 16 = .ok (.iload_n 1, 1) := by decide +kernel
theorem dX10_endOf_17 : decode cX10_endOf 17 = .ok (.imul, 1) := by decide +kernel
theorem dX10_endOf_18 : decode cX10_endOf 18 = .ok (.iload 4, 2) := by decide +kernel
theorem dX10_endOf_20 : decode cX10_endOf 20 = .ok (.iinc 4 1, 3) := by decide +kernel
theorem dX10_endOf_23 : decode cX10_endOf 23 = .ok (.iadd, 1) := by decide +kernel
theorem dX10_endOf_24 : decode cX10_endOf 24 = .ok (.iaload, 1) := by decide +kernel
theorem dX10_endOf_25 : decode cX10_endOf 25 = .ok (.bipush 99, 2) := by decide +kernel
theorem dX10_endOf_27 : decode cX10_endOf 27 = .ok (.if_icmp .ne 7, 3) := by decide +kernel
theorem dX10_endOf_30 : decode cX10_endOf 30 = .ok (.iconst 1, 1) := by decide +kernel
theorem dX10_endOf_31 : decode cX10_endOf 31 = .ok (.goto 4, 3) := by decide +kernel
theorem dX10_endOf_34 : decode cX10_endOf 34 = .ok (.iconst (-1), 1) := by decide +kernel
theorem dX10_endOf_35 : decode cX10_endOf 35 = .ok (.iadd, 1) := by decide +kernel
theorem dX10_endOf_36 : decode cX10_endOf 36 = .ok (.istore_n 3, 1) := by decide +kernel
theorem dX10_endOf_37 : decode cX10_endOf 37 = .ok (.goto (-32), 3) := by decide +kernel
theorem dX10_endOf_40 : decode cX10_endOf 40 = .ok (.iload 4, 2) := by decide +kernel
theorem dX10_endOf_42 : decode cX10_endOf 42 = .ok (.ireturn, 1) := by decide +kernel
def kX10_endOf_35 (N : Nat) (rec : Int32 → Int32 → qM → Option (Int32 × qM)) (v0 : Nat) (v1 : Int32) (v4 : Int32) (s0 : Int32) (s1 : Int32) (m0 : qM) : Option (Int32 × qM) :=
  rec (s0 + s1) v4 m0
set_option maxRecDepth 100000 in
theorem kbX10_endOf_35 {E : qE} {N d bc bs : Nat} (hd : 0 ≤ d) {v0 : Nat} {v1 : Int32} {v4 : Int32} {s0 : Int32} {s1 : Int32} {m0 : qM} {rec : Int32 → Int32 → qM → Option (Int32 × qM)} (hrec : ∀ (v3 : Int32) (v4 : Int32) (m : qM), qB E yX10_endOf cX10_endOf 5 (some .int) (fun _ => True) d bc bs 5 [(0, .ref (E.2.1 + v0)), (1, .int v1), (3, .int v3), (4, .int v4)] [] m (rec v3 v4 m) (fun o rr => qJ E yX10_endOf cX10_endOf 5 (some .int) (fun _ => True) d bc bs 40 [(4, .int o.1)] [] o.2 rr)) : qB E yX10_endOf cX10_endOf 5 (some .int) (fun _ => True) d bc bs 35 [(0, .ref (E.2.1 + v0)), (1, .int v1), (4, .int v4)] [.int s1, .int s0] m0 (kX10_endOf_35 N rec v0 v1 v4 s0 s1 m0) (fun o rr => qJ E yX10_endOf cX10_endOf 5 (some .int) (fun _ => True) d bc bs 40 [(4, .int o.1)] [] o.2 rr) := by
  unfold kX10_endOf_35
  refine j_iadd (np := 36) dX10_endOf_35 rfl ?_
  refine j_istore_n (np := 37) (lv2 := [(3, .int (s0 + s1)), (0, .ref (E.2.1 + v0)), (1, .int v1), (4, .int v4)]) rfl (by decide) dX10_endOf_36 rfl rfl ?_
  refine j_goto (tgt := 5) dX10_endOf_37 rfl ?_
  refine j_sub (lv2 := [(0, .ref (E.2.1 + v0)), (1, .int v1), (3, .int (s0 + s1)), (4, .int v4)]) [1, 2, 0, 3] rfl ?_
  exact hrec _ _ _
def lX10_endOf_5 (N : Nat) (v0 : Nat) (v1 : Int32) : Nat → Int32 → Int32 → qM → Option (Int32 × qM)
  | 0, _, _, _ => none
  | n + 1, v3, v4, m0 =>
    if v3 ≤ 0 then (
    some (v4, m0)
    ) else (
    (qgR m0 v0 10 0).bind fun x1 =>
    (qaI m0 x1 12 (((39 : Int32) * v1) + v4)).bind fun x2 =>
    if x2 = (99 : Int32) then (
    kX10_endOf_35 N (lX10_endOf_5 N v0 v1 n) v0 v1 (v4 + (1 : Int32)) v3 (1 : Int32) m0
    ) else (
    kX10_endOf_35 N (lX10_endOf_5 N v0 v1 n) v0 v1 (v4 + (1 : Int32)) v3 (-1 : Int32) m0
    )
    )
set_option maxRecDepth 100000 in
theorem lbX10_endOf_5 {E : qE} {N d bc bs : Nat} (hd : 0 ≤ d) {v0 : Nat} {v1 : Int32} : ∀ (n : Nat) (v3 : Int32) (v4 : Int32) (m0 : qM), qB E yX10_endOf cX10_endOf 5 (some .int) (fun _ => True) d bc bs 5 [(0, .ref (E.2.1 + v0)), (1, .int v1), (3, .int v3), (4, .int v4)] [] m0 (lX10_endOf_5 N v0 v1 n v3 v4 m0) (fun o rr => qJ E yX10_endOf cX10_endOf 5 (some .int) (fun _ => True) d bc bs 40 [(4, .int o.1)] [] o.2 rr) := by
  intro n
  induction n with
  | zero =>
    intro v3 v4 m0
    exact j_none
  | succ n ih =>
    intro v3 v4 m0
    unfold lX10_endOf_5
    refine j_iload_n (q := 2) (np := 6) rfl rfl dX10_endOf_5 rfl ?_
    refine j_if_le (tgt := 40) (np := 9) dX10_endOf_6 rfl rfl ?_ ?_
    · refine j_sub (lv2 := [(4, .int v4)]) [3] rfl ?_
      exact j_exit (fun rr h => h)
    · refine j_iload_n (q := 2) (np := 10) rfl rfl dX10_endOf_9 rfl ?_
      refine j_aload_n (q := 0) (np := 11) rfl rfl dX10_endOf_10 rfl ?_
      refine j_gR (np := 14) flX10_9 dX10_endOf_11 rfl (fun x1 => ?_)
      refine j_bipush (np := 16) cb_39 dX10_endOf_14 rfl ?_
      refine j_iload_n (q := 1) (np := 17) rfl rfl dX10_endOf_16 rfl ?_
      refine j_imul (np := 18) dX10_endOf_17 rfl ?_
      refine j_iload (q := 3) (np := 20) rfl dX10_endOf_18 rfl ?_
      refine j_iinc (q := 3) (np := 23) (lv2 := [(4, .int (v4 + (1 : Int32))), (0, .ref (E.2.1 + v0)), (1, .int v1), (3, .int v3)]) rfl (congrArg _ ci_1) (by decide) dX10_endOf_20 rfl rfl ?_
      refine j_iadd (np := 24) dX10_endOf_23 rfl ?_
      refine j_iaload (np := 25) dX10_endOf_24 rfl (fun x2 => ?_)
      refine j_bipush (np := 27) cb_99 dX10_endOf_25 rfl ?_
      refine j_icmp_ne (tgt := 34) (np := 30) dX10_endOf_27 rfl rfl ?_ ?_
      · refine j_iconst (np := 35) ci_m1 dX10_endOf_34 rfl ?_
        refine j_sub (lv2 := [(0, .ref (E.2.1 + v0)), (1, .int v1), (4, .int (v4 + (1 : Int32)))]) [1, 2, 0] rfl ?_
        exact kbX10_endOf_35 hd ih
      · refine j_iconst (np := 31) ci_1 dX10_endOf_30 rfl ?_
        refine j_goto (tgt := 35) dX10_endOf_31 rfl ?_
        refine j_sub (lv2 := [(0, .ref (E.2.1 + v0)), (1, .int v1), (4, .int (v4 + (1 : Int32)))]) [1, 2, 0] rfl ?_
        exact kbX10_endOf_35 hd ih
def fX10_endOf (N : Nat) (v0 : Nat) (v1 : Int32) (v2 : Int32) (m0 : qM) : Option (Int32 × qM) :=
  (lX10_endOf_5 N v0 v1 N (1 : Int32) v2 m0).bind fun o1 =>
  some (o1.1, o1.2)
set_option maxRecDepth 100000 in
theorem bX10_endOf {E : qE} {N d bc bs : Nat} (hd : 0 ≤ d) {v0 : Nat} {v1 : Int32} {v2 : Int32} {m0 : qM} : qB E yX10_endOf cX10_endOf 5 (some .int) (fun _ => True) d bc bs 0 [(0, .ref (E.2.1 + v0)), (1, .int v1), (2, .int v2)] [] m0 (fX10_endOf N v0 v1 v2 m0) (fun b rr => rr = (some (.int b.1), b.2)) := by
  unfold fX10_endOf
  refine j_iconst (np := 1) ci_1 dX10_endOf_0 rfl ?_
  refine j_istore_n (np := 2) (lv2 := [(3, .int (1 : Int32)), (0, .ref (E.2.1 + v0)), (1, .int v1), (2, .int v2)]) rfl (by decide) dX10_endOf_1 rfl rfl ?_
  refine j_iload_n (q := 3) (np := 3) rfl rfl dX10_endOf_2 rfl ?_
  refine j_istore (np := 5) (lv2 := [(4, .int v2), (3, .int (1 : Int32)), (0, .ref (E.2.1 + v0)), (1, .int v1), (2, .int v2)]) (by decide) dX10_endOf_3 rfl rfl ?_
  refine j_sub (lv2 := [(0, .ref (E.2.1 + v0)), (1, .int v1), (3, .int (1 : Int32)), (4, .int v2)]) [2, 3, 1, 0] rfl ?_
  refine j_loop (xp := 40) (lvX := fun o1 => [(4, .int o1.1)]) (mX := fun o1 => o1.2) (lbX10_endOf_5 hd _ _ _ _) (fun o1 => ?_)
  refine j_iload (q := 0) (np := 42) rfl dX10_endOf_40 rfl ?_
  exact j_iret rfl dX10_endOf_42 (fun rr h => h)
set_option maxRecDepth 100000 in
theorem wX10_endOf {E : qE} {N d : Nat} (hd : 0 ≤ d) {v0 : Nat} {v1 : Int32} {v2 : Int32} {m0 : qM} {b : Int32 × qM} (h : fX10_endOf N v0 v1 v2 m0 = some b) : qRun E yX10_endOf cX10_endOf 5 (some .int) d 0 0 [.ref (E.2.1 + v0), .int v1, .int v2] m0 (some (.int b.1), b.2) := q_met pnX10 (Nat.le_of_ble_eq_true rfl) (bX10_endOf hd b _ h rfl)
theorem dX10_isFrom_0 : decode cX10_isFrom 0 = .ok (.iconst 0, 1) := by decide +kernel
theorem dX10_isFrom_1 : decode cX10_isFrom 1 = .ok (.istore_n 3, 1) := by decide +kernel
theorem dX10_isFrom_2 : decode cX10_isFrom 2 = .ok (.iload_n 3, 1) := by decide +kernel
theorem dX10_isFrom_3 : decode cX10_isFrom 3 = .ok (.bipush 26, 2) := by decide +kernel
theorem dX10_isFrom_5 : decode cX10_isFrom 5 = .ok (.if_icmp .ge 16, 3) := by decide +kernel
theorem dX10_isFrom_8 : decode cX10_isFrom 8 = .ok (.aload_n 0, 1) := by decide +kernel
theorem dX10_isFrom_9 : decode cX10_isFrom 9 = .ok (.getfield 69, 3) := by decide +kernel
theorem dX10_isFrom_12 : decode cX10_isFrom 12 = .ok (.iload_n 3, 1) := by decide +kernel
theorem dX10_isFrom_13 : decode cX10_isFrom 13 = .ok (.iconst (-1), 1) := by decide +kernel
theorem dX10_isFrom_14 : decode cX10_isFrom 14 = .ok (.iastore, 1) := by decide +kernel
theorem dX10_isFrom_15 : decode cX10_isFrom 15 = .ok (.iinc 3 1, 3) := by decide +kernel
theorem dX10_isFrom_18 : decode cX10_isFrom 18 = .ok (.goto (-16), 3) := by decide +kernel
theorem dX10_isFrom_21 : decode cX10_isFrom 21 = .ok (.iconst 0, 1) := by decide +kernel
theorem dX10_isFrom_22 : decode cX10_isFrom 22 = .ok (.istore_n 3, 1) := by decide +kernel
theorem dX10_isFrom_23 : decode cX10_isFrom 23 = .ok (.iconst 0, 1) := by decide +kernel
theorem dX10_isFrom_24 : decode cX10_isFrom 24 = .ok (.istore 4, 2) := by decide +kernel
theorem dX10_isFrom_26 : decode cX10_isFrom 26 = .ok (.iload 4, 2) := by decide +kernel
theorem dX10_isFrom_28 : decode cX10_isFrom 28 = .ok (.aload_n 0, 1) := by decide +kernel
theorem dX10_isFrom_29 : decode cX10_isFrom 29 = .ok (.getfield 13, 3) := by decide +kernel
theorem dX10_isFrom_32 : decode cX10_isFrom 32 = .ok (.iload_n 2, 1) := by decide +kernel
theorem dX10_isFrom_33 : decode cX10_isFrom 33 = .ok (.iaload, 1) := by decide +kernel
theorem dX10_isFrom_34 : decode cX10_isFrom 34 = .ok (.if_icmp .ge 163, 3) := by decide +kernel
theorem dX10_isFrom_37 : decode cX10_isFrom 37 = .ok (.aload_n 0, 1) := by decide +kernel
theorem dX10_isFrom_38 : decode cX10_isFrom 38 = .ok (.getfield 9, 3) := by decide +kernel
theorem dX10_isFrom_41 : decode cX10_isFrom 41 = .ok (.bipush 39, 2) := by decide +kernel
theorem dX10_isFrom_43 : decode cX10_isFrom 43 = .ok (.iload_n 2, 1) := by decide +kernel
theorem dX10_isFrom_44 : decode cX10_isFrom 44 = .ok (.imul, 1) := by decide +kernel
theorem dX10_isFrom_45 : decode cX10_isFrom 45 = .ok (.iload 4, 2) := by decide +kernel
theorem dX10_isFrom_47 : decode cX10_isFrom 47 = .ok (.iadd, 1) := by decide +kernel
theorem dX10_isFrom_48 : decode cX10_isFrom 48 = .ok (.iaload, 1) := by decide +kernel
theorem dX10_isFrom_49 : decode cX10_isFrom 49 = .ok (.istore 5, 2) := by decide +kernel
theorem dX10_isFrom_51 : decode cX10_isFrom 51 = .ok (.iload 5, 2) := by decide +kernel
theorem dX10_isFrom_53 : decode cX10_isFrom 53 = .ok (.bipush 99, 2) := by decide +kernel
theorem dX10_isFrom_55 : decode cX10_isFrom 55 = .ok (.if_icmp .ne 24, 3) := by decide +kernel
theorem dX10_isFrom_58 : decode cX10_isFrom 58 = .ok (.aload_n 0, 1) := by decide +kernel
theorem dX10_isFrom_59 : decode cX10_isFrom 59 = .ok (.getfield 9, 3) := by decide +kernel
theorem dX10_isFrom_62 : decode cX10_isFrom 62 = .ok (.bipush 39, 2) := by decide +kernel
theorem dX10_isFrom_64 : decode cX10_isFrom 64 = .ok (.iload_n 1, 1) := by decide +kernel
theorem dX10_isFrom_65 : decode cX10_isFrom 65 = .ok (.imul, 1) := by decide +kernel
theorem dX10_isFrom_66 : decode cX10_isFrom 66 = .ok (.iload_n 3, 1) := by decide +kernel
theorem dX10_isFrom_67 : decode cX10_isFrom 67 = .ok (.iinc 3 1, 3) := by decide +kernel
theorem dX10_isFrom_70 : decode cX10_isFrom 70 = .ok (.iadd, 1) := by decide +kernel
theorem dX10_isFrom_71 : decode cX10_isFrom 71 = .ok (.iaload, 1) := by decide +kernel
theorem dX10_isFrom_72 : decode cX10_isFrom 72 = .ok (.bipush 99, 2) := by decide +kernel
theorem dX10_isFrom_74 : decode cX10_isFrom 74 = .ok (.if_icmp .eq 117, 3) := by decide +kernel
theorem dX10_isFrom_77 : decode cX10_isFrom 77 = .ok (.iconst 0, 1) := by decide +kernel
theorem dX10_isFrom_78 : decode cX10_isFrom 78 = .ok (.ireturn, 1) := by decide +kernel
theorem dX10_isFrom_79 : decode cX10_isFrom 79 = .ok (.aload_n 0, 1) := by decide +kernel
theorem dX10_isFrom_80 : decode cX10_isFrom 80 = .ok (.iload_n 1, 1) := by decide +kernel
theorem dX10_isFrom_81 : decode cX10_isFrom 81 = .ok (.iload_n 3, 1) := by decide +kernel
theorem dX10_isFrom_82 : decode cX10_isFrom 82 = .ok (.invokevirtual 210, 3) := by decide +kernel
theorem dX10_isFrom_85 : decode cX10_isFrom 85 = .ok (.istore 6, 2) := by decide +kernel
theorem dX10_isFrom_87 : decode cX10_isFrom 87 = .ok (.aload_n 0, 1) := by decide +kernel
theorem dX10_isFrom_88 : decode cX10_isFrom 88 = .ok (.getfield 69, 3) := by decide +kernel
theorem dX10_isFrom_91 : decode cX10_isFrom 91 = .ok (.iload 5, 2) := by decide +kernel
theorem dX10_isFrom_93 : decode cX10_isFrom 93 = .ok (.iaload, 1) := by decide +kernel
theorem dX10_isFrom_94 : decode cX10_isFrom 94 = .ok (.ifCond .lt 86, 3) := by decide +kernel
theorem dX10_isFrom_97 : decode cX10_isFrom 97 = .ok (.aload_n 0, 1) := by decide +kernel
theorem dX10_isFrom_98 : decode cX10_isFrom 98 = .ok (.getfield 69, 3) := by decide +kernel
theorem dX10_isFrom_101 : decode cX10_isFrom 101 = .ok (.iload 5, 2) := by decide +kernel
theorem dX10_isFrom_103 : decode cX10_isFrom 103 = .ok (.iaload, 1) := by decide +kernel
theorem dX10_isFrom_104 : decode cX10_isFrom 104 = .ok (.istore 7, 2) := by decide +kernel
theorem dX10_isFrom_106 : decode cX10_isFrom 106 = .ok (.aload_n 0, 1) := by decide +kernel
theorem dX10_isFrom_107 : decode cX10_isFrom 107 = .ok (.iload_n 1, 1) := by decide +kernel
theorem dX10_isFrom_108 : decode cX10_isFrom 108 = .ok (.iload 7, 2) := by decide +kernel
theorem dX10_isFrom_110 : decode cX10_isFrom 110 = .ok (.invokevirtual 210, 3) := by decide +kernel
theorem dX10_isFrom_113 : decode cX10_isFrom 113 = .ok (.iload 7, 2) := by decide +kernel
theorem dX10_isFrom_115 : decode cX10_isFrom 115 = .ok (.isub, 1) := by decide +kernel
theorem dX10_isFrom_116 : decode cX10_isFrom 116 = .ok (.iload 6, 2) := by decide +kernel
theorem dX10_isFrom_118 : decode cX10_isFrom 118 = .ok (.iload_n 3, 1) := by decide +kernel
theorem dX10_isFrom_119 : decode cX10_isFrom 119 = .ok (.isub, 1) := by decide +kernel
theorem dX10_isFrom_120 : decode cX10_isFrom 120 = .ok (.if_icmp .eq 5, 3) := by decide +kernel
theorem dX10_isFrom_123 : decode cX10_isFrom 123 = .ok (.iconst 0, 1) := by decide +kernel
theorem dX10_isFrom_124 : decode cX10_isFrom 124 = .ok (.ireturn, 1) := by decide +kernel
theorem dX10_isFrom_125 : decode cX10_isFrom 125 = .ok (.iconst 0, 1) := by decide +kernel
theorem dX10_isFrom_126 : decode cX10_isFrom 126 = .ok (.istore 8, 2) := by decide +kernel
theorem dX10_isFrom_128 : decode cX10_isFrom 128 = .ok (.iload 8, 2) := by decide +kernel
theorem dX10_isFrom_130 : decode cX10_isFrom 130 = .ok (.iload 6, 2) := by decide +kernel
theorem dX10_isFrom_132 : decode cX10_isFrom 132 = .ok (.iload_n 3, 1) := by decide +kernel
theorem dX10_isFrom_133 : decode cX10_isFrom 133 = .ok (.isub, 1) := by decide +kernel
theorem dX10_isFrom_134 : decode cX10_isFrom 134 = .ok (.if_icmp .ge 43, 3) := by decide +kernel
theorem dX10_isFrom_137 : decode cX10_isFrom 137 = .ok (.aload_n 0, 1) := by decide +kernel
theorem dX10_isFrom_138 : decode cX10_isFrom 138 = .ok (.getfield 9, 3) := by decide +kernel
theorem dX10_isFrom_141 : decode cX10_isFrom 141 = .ok (.bipush 39, 2) := by decide +kernel
theorem dX10_isFrom_143 : decode cX10_isFrom 143 = .ok (.iload_n 1, 1) := by decide +kernel
theorem dX10_isFrom_144 : decode cX10_isFrom 144 = .ok (.imul, 1) := by decide +kernel
theorem dX10_isFrom_145 : decode cX10_isFrom 145 = .ok (.iload 7, 2) := by decide +kernel
theorem dX10_isFrom_147 : decode cX10_isFrom 147 = .ok (.iadd, 1) := by decide +kernel
theorem dX10_isFrom_148 : decode cX10_isFrom 148 = .ok (.iload 8, 2) := by decide +kernel
theorem dX10_isFrom_150 : decode cX10_isFrom 150 = .ok (.iadd, 1) := by decide +kernel
theorem dX10_isFrom_151 : decode cX10_isFrom 151 = .ok (.iaload, 1) := by decide +kernel
theorem dX10_isFrom_152 : decode cX10_isFrom 152 = .ok (.aload_n 0, 1) := by decide +kernel
theorem dX10_isFrom_153 : decode cX10_isFrom 153 = .ok (.getfield 9, 3) := by decide +kernel
theorem dX10_isFrom_156 : decode cX10_isFrom 156 = .ok (.bipush 39, 2) := by decide +kernel
theorem dX10_isFrom_158 : decode cX10_isFrom 158 = .ok (.iload_n 1, 1) := by decide +kernel
theorem dX10_isFrom_159 : decode cX10_isFrom 159 = .ok (.imul, 1) := by decide +kernel
theorem dX10_isFrom_160 : decode cX10_isFrom 160 = .ok (.iload_n 3, 1) := by decide +kernel
theorem dX10_isFrom_161 : decode cX10_isFrom 161 = .ok (.iadd, 1) := by decide +kernel
theorem dX10_isFrom_162 : decode cX10_isFrom 162 = .ok (.iload 8, 2) := by decide +kernel
theorem dX10_isFrom_164 : decode cX10_isFrom 164 = .ok (.iadd, 1) := by decide +kernel
theorem dX10_isFrom_165 : decode cX10_isFrom 165 = .ok (.iaload, 1) := by decide +kernel
theorem dX10_isFrom_166 : decode cX10_isFrom 166 = .ok (.if_icmp .eq 5, 3) := by decide +kernel
theorem dX10_isFrom_169 : decode cX10_isFrom 169 = .ok (.iconst 0, 1) := by decide +kernel
theorem dX10_isFrom_170 : decode cX10_isFrom 170 = .ok (.ireturn, 1) := by decide +kernel
theorem dX10_isFrom_171 : decode cX10_isFrom 171 = .ok (.iinc 8 1, 3) := by decide +kernel
theorem dX10_isFrom_174 : decode cX10_isFrom 174 = .ok (.goto (-46), 3) := by decide +kernel
theorem dX10_isFrom_177 : decode cX10_isFrom 177 = .ok (.goto 11, 3) := by decide +kernel
theorem dX10_isFrom_180 : decode cX10_isFrom 180 = .ok (.aload_n 0, 1) := by decide +kernel
theorem dX10_isFrom_181 : decode cX10_isFrom 181 = .ok (.getfield 69, 3) := by decide +kernel
theorem dX10_isFrom_184 : decode cX10_isFrom 184 = .ok (.iload 5, 2) := by decide +kernel
theorem dX10_isFrom_186 : decode cX10_isFrom 186 = .ok (.iload_n 3, 1) := by decide +kernel
theorem dX10_isFrom_187 : decode cX10_isFrom 187 = .ok (.iastore, 1) := by decide +kernel
theorem dX10_isFrom_188 : decode cX10_isFrom 188 = .ok (.iload 6, 2) := by decide +kernel
theorem dX10_isFrom_190 : decode cX10_isFrom 190 = .ok (.istore_n 3, 1) := by decide +kernel
theorem dX10_isFrom_191 : decode cX10_isFrom 191 = .ok (.iinc 4 1, 3) := by decide +kernel
theorem dX10_isFrom_194 : decode cX10_isFrom 194 = .ok (.goto (-168), 3) := by decide +kernel
theorem dX10_isFrom_197 : decode cX10_isFrom 197 = .ok (.iconst 1, 1) := by decide +kernel
theorem dX10_isFrom_198 : decode cX10_isFrom 198 = .ok (.ireturn, 1) := by decide +kernel
def lX10_isFrom_128 (N : Nat) (v0 : Nat) (v1 : Int32) (v2 : Int32) (v3 : Int32) (v4 : Int32) (v6 : Int32) (v7 : Int32) : Nat → Int32 → qM → Option ((qM) ⊕ (Int32 × qM))
  | 0, _, _ => none
  | n + 1, v8, m0 =>
    if v6 - v3 ≤ v8 then (
    some (.inl m0)
    ) else (
    (qgR m0 v0 10 0).bind fun x1 =>
    (qaI m0 x1 12 ((((39 : Int32) * v1) + v7) + v8)).bind fun x2 =>
    (qgR m0 v0 10 0).bind fun x3 =>
    (qaI m0 x3 12 ((((39 : Int32) * v1) + v3) + v8)).bind fun x4 =>
    if x2 = x4 then (
    lX10_isFrom_128 N v0 v1 v2 v3 v4 v6 v7 n (v8 + (1 : Int32)) m0
    ) else (
    some (.inr ((0 : Int32), m0))
    )
    )
set_option maxRecDepth 100000 in
theorem lbX10_isFrom_128 {E : qE} {N d bc bs : Nat} (hd : 1 ≤ d) {v0 : Nat} {v1 : Int32} {v2 : Int32} {v3 : Int32} {v4 : Int32} {v6 : Int32} {v7 : Int32} : ∀ (n : Nat) (v8 : Int32) (m0 : qM), qB E yX10_isFrom cX10_isFrom 9 (some .boolean) (fun _ => True) d bc bs 128 [(0, .ref (E.2.1 + v0)), (1, .int v1), (2, .int v2), (3, .int v3), (4, .int v4), (6, .int v6), (7, .int v7), (8, .int v8)] [] m0 (lX10_isFrom_128 N v0 v1 v2 v3 v4 v6 v7 n v8 m0) (qGL (fun o rr => qJ E yX10_isFrom cX10_isFrom 9 (some .boolean) (fun _ => True) d bc bs 177 [(0, .ref (E.2.1 + v0)), (1, .int v1), (2, .int v2), (4, .int v4), (6, .int v6)] [] o rr) (fun r => (some (.int r.1), r.2))) := by
  intro n
  induction n with
  | zero =>
    intro v8 m0
    exact j_none
  | succ n ih =>
    intro v8 m0
    unfold lX10_isFrom_128
    refine j_iload (q := 7) (np := 130) rfl dX10_isFrom_128 rfl ?_
    refine j_iload (q := 5) (np := 132) rfl dX10_isFrom_130 rfl ?_
    refine j_iload_n (q := 3) (np := 133) rfl rfl dX10_isFrom_132 rfl ?_
    refine j_isub (np := 134) dX10_isFrom_133 rfl ?_
    refine j_icmp_ge (tgt := 177) (np := 137) dX10_isFrom_134 rfl rfl ?_ ?_
    · refine j_sub (lv2 := [(0, .ref (E.2.1 + v0)), (1, .int v1), (2, .int v2), (4, .int v4), (6, .int v6)]) [0, 1, 2, 4, 5] rfl ?_
      exact j_exit (fun rr h => h)
    · refine j_aload_n (q := 0) (np := 138) rfl rfl dX10_isFrom_137 rfl ?_
      refine j_gR (np := 141) flX10_9 dX10_isFrom_138 rfl (fun x1 => ?_)
      refine j_bipush (np := 143) cb_39 dX10_isFrom_141 rfl ?_
      refine j_iload_n (q := 1) (np := 144) rfl rfl dX10_isFrom_143 rfl ?_
      refine j_imul (np := 145) dX10_isFrom_144 rfl ?_
      refine j_iload (q := 6) (np := 147) rfl dX10_isFrom_145 rfl ?_
      refine j_iadd (np := 148) dX10_isFrom_147 rfl ?_
      refine j_iload (q := 7) (np := 150) rfl dX10_isFrom_148 rfl ?_
      refine j_iadd (np := 151) dX10_isFrom_150 rfl ?_
      refine j_iaload (np := 152) dX10_isFrom_151 rfl (fun x2 => ?_)
      refine j_aload_n (q := 0) (np := 153) rfl rfl dX10_isFrom_152 rfl ?_
      refine j_gR (np := 156) flX10_9 dX10_isFrom_153 rfl (fun x3 => ?_)
      refine j_bipush (np := 158) cb_39 dX10_isFrom_156 rfl ?_
      refine j_iload_n (q := 1) (np := 159) rfl rfl dX10_isFrom_158 rfl ?_
      refine j_imul (np := 160) dX10_isFrom_159 rfl ?_
      refine j_iload_n (q := 3) (np := 161) rfl rfl dX10_isFrom_160 rfl ?_
      refine j_iadd (np := 162) dX10_isFrom_161 rfl ?_
      refine j_iload (q := 7) (np := 164) rfl dX10_isFrom_162 rfl ?_
      refine j_iadd (np := 165) dX10_isFrom_164 rfl ?_
      refine j_iaload (np := 166) dX10_isFrom_165 rfl (fun x4 => ?_)
      refine j_icmp_eq (tgt := 171) (np := 169) dX10_isFrom_166 rfl rfl ?_ ?_
      · refine j_iinc (q := 7) (np := 174) (lv2 := [(8, .int (v8 + (1 : Int32))), (0, .ref (E.2.1 + v0)), (1, .int v1), (2, .int v2), (3, .int v3), (4, .int v4), (6, .int v6), (7, .int v7)]) rfl (congrArg _ ci_1) (by decide) dX10_isFrom_171 rfl rfl ?_
        refine j_goto (tgt := 128) dX10_isFrom_174 rfl ?_
        refine j_sub (lv2 := [(0, .ref (E.2.1 + v0)), (1, .int v1), (2, .int v2), (3, .int v3), (4, .int v4), (6, .int v6), (7, .int v7), (8, .int (v8 + (1 : Int32)))]) [1, 2, 3, 4, 5, 6, 7, 0] rfl ?_
        exact ih _ _
      · refine j_iconst (np := 170) ci_0 dX10_isFrom_169 rfl ?_
        exact j_zret rfl dX10_isFrom_170 (fun rr h => by rw [z0]; exact h)
def kX10_isFrom_191 (N : Nat) (rec : Int32 → Int32 → qM → Option ((qM) ⊕ (Int32 × qM))) (v0 : Nat) (v1 : Int32) (v2 : Int32) (v3 : Int32) (v4 : Int32)  (m0 : qM) : Option ((qM) ⊕ (Int32 × qM)) :=
  rec v3 (v4 + (1 : Int32)) m0
set_option maxRecDepth 100000 in
theorem kbX10_isFrom_191 {E : qE} {N d bc bs : Nat} (hd : 1 ≤ d) {v0 : Nat} {v1 : Int32} {v2 : Int32} {v3 : Int32} {v4 : Int32}  {m0 : qM} {rec : Int32 → Int32 → qM → Option ((qM) ⊕ (Int32 × qM))} (hrec : ∀ (v3 : Int32) (v4 : Int32) (m : qM), qB E yX10_isFrom cX10_isFrom 9 (some .boolean) (fun _ => True) d bc bs 26 [(0, .ref (E.2.1 + v0)), (1, .int v1), (2, .int v2), (3, .int v3), (4, .int v4)] [] m (rec v3 v4 m) (qGL (fun o rr => qJ E yX10_isFrom cX10_isFrom 9 (some .boolean) (fun _ => True) d bc bs 197 [] [] o rr) (fun r => (some (.int r.1), r.2)))) : qB E yX10_isFrom cX10_isFrom 9 (some .boolean) (fun _ => True) d bc bs 191 [(0, .ref (E.2.1 + v0)), (1, .int v1), (2, .int v2), (3, .int v3), (4, .int v4)] [] m0 (kX10_isFrom_191 N rec v0 v1 v2 v3 v4 m0) (qGL (fun o rr => qJ E yX10_isFrom cX10_isFrom 9 (some .boolean) (fun _ => True) d bc bs 197 [] [] o rr) (fun r => (some (.int r.1), r.2))) := by
  unfold kX10_isFrom_191
  refine j_iinc (q := 4) (np := 194) (lv2 := [(4, .int (v4 + (1 : Int32))), (0, .ref (E.2.1 + v0)), (1, .int v1), (2, .int v2), (3, .int v3)]) rfl (congrArg _ ci_1) (by decide) dX10_isFrom_191 rfl rfl ?_
  refine j_goto (tgt := 26) dX10_isFrom_194 rfl ?_
  refine j_sub (lv2 := [(0, .ref (E.2.1 + v0)), (1, .int v1), (2, .int v2), (3, .int v3), (4, .int (v4 + (1 : Int32)))]) [1, 2, 3, 4, 0] rfl ?_
  exact hrec _ _ _
def kX10_isFrom_188 (N : Nat) (rec : Int32 → Int32 → qM → Option ((qM) ⊕ (Int32 × qM))) (v0 : Nat) (v1 : Int32) (v2 : Int32) (v4 : Int32) (v6 : Int32)  (m0 : qM) : Option ((qM) ⊕ (Int32 × qM)) :=
  kX10_isFrom_191 N (rec) v0 v1 v2 v6 v4 m0
set_option maxRecDepth 100000 in
theorem kbX10_isFrom_188 {E : qE} {N d bc bs : Nat} (hd : 1 ≤ d) {v0 : Nat} {v1 : Int32} {v2 : Int32} {v4 : Int32} {v6 : Int32}  {m0 : qM} {rec : Int32 → Int32 → qM → Option ((qM) ⊕ (Int32 × qM))} (hrec : ∀ (v3 : Int32) (v4 : Int32) (m : qM), qB E yX10_isFrom cX10_isFrom 9 (some .boolean) (fun _ => True) d bc bs 26 [(0, .ref (E.2.1 + v0)), (1, .int v1), (2, .int v2), (3, .int v3), (4, .int v4)] [] m (rec v3 v4 m) (qGL (fun o rr => qJ E yX10_isFrom cX10_isFrom 9 (some .boolean) (fun _ => True) d bc bs 197 [] [] o rr) (fun r => (some (.int r.1), r.2)))) : qB E yX10_isFrom cX10_isFrom 9 (some .boolean) (fun _ => True) d bc bs 188 [(0, .ref (E.2.1 + v0)), (1, .int v1), (2, .int v2), (4, .int v4), (6, .int v6)] [] m0 (kX10_isFrom_188 N rec v0 v1 v2 v4 v6 m0) (qGL (fun o rr => qJ E yX10_isFrom cX10_isFrom 9 (some .boolean) (fun _ => True) d bc bs 197 [] [] o rr) (fun r => (some (.int r.1), r.2))) := by
  unfold kX10_isFrom_188
  refine j_iload (q := 4) (np := 190) rfl dX10_isFrom_188 rfl ?_
  refine j_istore_n (np := 191) (lv2 := [(3, .int v6), (0, .ref (E.2.1 + v0)), (1, .int v1), (2, .int v2), (4, .int v4), (6, .int v6)]) rfl (by decide) dX10_isFrom_190 rfl rfl ?_
  refine j_sub (lv2 := [(0, .ref (E.2.1 + v0)), (1, .int v1), (2, .int v2), (3, .int v6), (4, .int v4)]) [1, 2, 3, 0, 4] rfl ?_
  exact kbX10_isFrom_191 hd hrec
def lX10_isFrom_26 (N : Nat) (v0 : Nat) (v1 : Int32) (v2 : Int32) : Nat → Int32 → Int32 → qM → Option ((qM) ⊕ (Int32 × qM))
  | 0, _, _, _ => none
  | n + 1, v3, v4, m0 =>
    (qgR m0 v0 10 1).bind fun x1 =>
    (qaI m0 x1 12 v2).bind fun x2 =>
    if x2 ≤ v4 then (
    some (.inl m0)
    ) else (
    (qgR m0 v0 10 0).bind fun x3 =>
    (qaI m0 x3 12 (((39 : Int32) * v2) + v4)).bind fun x4 =>
    if x4 = (99 : Int32) then (
    (qgR m0 v0 10 0).bind fun x14 =>
    (qaI m0 x14 12 (((39 : Int32) * v1) + v3)).bind fun x15 =>
    if x15 = (99 : Int32) then (
    kX10_isFrom_191 N (lX10_isFrom_26 N v0 v1 v2 n) v0 v1 v2 (v3 + (1 : Int32)) v4 m0
    ) else (
    some (.inr ((0 : Int32), m0))
    )
    ) else (
    (qChk m0 v0 10 (fX10_endOf N v0 v1 v3 m0)).bind fun b5 =>
    (qgR b5.2 v0 10 28).bind fun x6 =>
    (qaI b5.2 x6 12 x4).bind fun x7 =>
    if x7 < 0 then (
    (qgR b5.2 v0 10 28).bind fun x8 =>
    (qwI b5.2 x8 12 x4 v3).bind fun m9 =>
    kX10_isFrom_188 N (lX10_isFrom_26 N v0 v1 v2 n) v0 v1 v2 v4 b5.1 m9
    ) else (
    (qgR b5.2 v0 10 28).bind fun x10 =>
    (qaI b5.2 x10 12 x4).bind fun x11 =>
    (qChk b5.2 v0 10 (fX10_endOf N v0 v1 x11 b5.2)).bind fun b12 =>
    if b12.1 - x11 = b5.1 - v3 then (
    qTh (lX10_isFrom_128 N v0 v1 v2 v3 v4 b5.1 x11 N (0 : Int32) b12.2) (fun o13 =>
    kX10_isFrom_188 N (lX10_isFrom_26 N v0 v1 v2 n) v0 v1 v2 v4 b5.1 o13
    ) (fun r => .inr r)
    ) else (
    some (.inr ((0 : Int32), b12.2))
    )
    )
    )
    )
set_option maxRecDepth 100000 in
theorem lbX10_isFrom_26 {E : qE} {N d bc bs : Nat} (hd : 1 ≤ d) {v0 : Nat} {v1 : Int32} {v2 : Int32} : ∀ (n : Nat) (v3 : Int32) (v4 : Int32) (m0 : qM), qB E yX10_isFrom cX10_isFrom 9 (some .boolean) (fun _ => True) d bc bs 26 [(0, .ref (E.2.1 + v0)), (1, .int v1), (2, .int v2), (3, .int v3), (4, .int v4)] [] m0 (lX10_isFrom_26 N v0 v1 v2 n v3 v4 m0) (qGL (fun o rr => qJ E yX10_isFrom cX10_isFrom 9 (some .boolean) (fun _ => True) d bc bs 197 [] [] o rr) (fun r => (some (.int r.1), r.2))) := by
  intro n
  induction n with
  | zero =>
    intro v3 v4 m0
    exact j_none
  | succ n ih =>
    intro v3 v4 m0
    unfold lX10_isFrom_26
    refine j_iload (q := 4) (np := 28) rfl dX10_isFrom_26 rfl ?_
    refine j_aload_n (q := 0) (np := 29) rfl rfl dX10_isFrom_28 rfl ?_
    refine j_gR (np := 32) flX10_13 dX10_isFrom_29 rfl (fun x1 => ?_)
    refine j_iload_n (q := 2) (np := 33) rfl rfl dX10_isFrom_32 rfl ?_
    refine j_iaload (np := 34) dX10_isFrom_33 rfl (fun x2 => ?_)
    refine j_icmp_ge (tgt := 197) (np := 37) dX10_isFrom_34 rfl rfl ?_ ?_
    · refine j_sub (lv2 := []) [] rfl ?_
      exact j_exit (fun rr h => h)
    · refine j_aload_n (q := 0) (np := 38) rfl rfl dX10_isFrom_37 rfl ?_
      refine j_gR (np := 41) flX10_9 dX10_isFrom_38 rfl (fun x3 => ?_)
      refine j_bipush (np := 43) cb_39 dX10_isFrom_41 rfl ?_
      refine j_iload_n (q := 2) (np := 44) rfl rfl dX10_isFrom_43 rfl ?_
      refine j_imul (np := 45) dX10_isFrom_44 rfl ?_
      refine j_iload (q := 4) (np := 47) rfl dX10_isFrom_45 rfl ?_
      refine j_iadd (np := 48) dX10_isFrom_47 rfl ?_
      refine j_iaload (np := 49) dX10_isFrom_48 rfl (fun x4 => ?_)
      refine j_istore (np := 51) (lv2 := [(5, .int x4), (0, .ref (E.2.1 + v0)), (1, .int v1), (2, .int v2), (3, .int v3), (4, .int v4)]) (by decide) dX10_isFrom_49 rfl rfl ?_
      refine j_iload (q := 0) (np := 53) rfl dX10_isFrom_51 rfl ?_
      refine j_bipush (np := 55) cb_99 dX10_isFrom_53 rfl ?_
      refine j_icmp_ne (tgt := 79) (np := 58) dX10_isFrom_55 rfl rfl ?_ ?_
      · refine j_aload_n (q := 1) (np := 80) rfl rfl dX10_isFrom_79 rfl ?_
        refine j_iload_n (q := 2) (np := 81) rfl rfl dX10_isFrom_80 rfl ?_
        refine j_iload_n (q := 4) (np := 82) rfl rfl dX10_isFrom_81 rfl ?_
        refine j_callVi (ci := 10) (np := 85) (bc := bc) (bs := bs) (cb := 0) (cs := 0) (dd := d - 1) (As := [.int v1, .int v3]) (st := []) caX10_endOf mlX10_210 imX10_endOf seX10_endOf rfl rfl (by decide) (fun b hb => wX10_endOf (by omega) hb) (by omega) rfl rfl (Nat.le_of_ble_eq_true rfl) dX10_isFrom_82 rfl (fun b5 => ?_)
        refine j_istore (np := 87) (lv2 := [(6, .int b5.1), (5, .int x4), (0, .ref (E.2.1 + v0)), (1, .int v1), (2, .int v2), (3, .int v3), (4, .int v4)]) (by decide) dX10_isFrom_85 rfl rfl ?_
        refine j_aload_n (q := 2) (np := 88) rfl rfl dX10_isFrom_87 rfl ?_
        refine j_gR (np := 91) flX10_69 dX10_isFrom_88 rfl (fun x6 => ?_)
        refine j_iload (q := 1) (np := 93) rfl dX10_isFrom_91 rfl ?_
        refine j_iaload (np := 94) dX10_isFrom_93 rfl (fun x7 => ?_)
        refine j_if_lt (tgt := 180) (np := 97) dX10_isFrom_94 rfl rfl ?_ ?_
        · refine j_aload_n (q := 2) (np := 181) rfl rfl dX10_isFrom_180 rfl ?_
          refine j_gR (np := 184) flX10_69 dX10_isFrom_181 rfl (fun x8 => ?_)
          refine j_iload (q := 1) (np := 186) rfl dX10_isFrom_184 rfl ?_
          refine j_iload_n (q := 5) (np := 187) rfl rfl dX10_isFrom_186 rfl ?_
          refine j_iastore (np := 188) dX10_isFrom_187 rfl (fun m9 => ?_)
          refine j_sub (lv2 := [(0, .ref (E.2.1 + v0)), (1, .int v1), (2, .int v2), (4, .int v4), (6, .int b5.1)]) [2, 3, 4, 6, 0] rfl ?_
          exact kbX10_isFrom_188 hd ih
        · refine j_aload_n (q := 2) (np := 98) rfl rfl dX10_isFrom_97 rfl ?_
          refine j_gR (np := 101) flX10_69 dX10_isFrom_98 rfl (fun x10 => ?_)
          refine j_iload (q := 1) (np := 103) rfl dX10_isFrom_101 rfl ?_
          refine j_iaload (np := 104) dX10_isFrom_103 rfl (fun x11 => ?_)
          refine j_istore (np := 106) (lv2 := [(7, .int x11), (6, .int b5.1), (5, .int x4), (0, .ref (E.2.1 + v0)), (1, .int v1), (2, .int v2), (3, .int v3), (4, .int v4)]) (by decide) dX10_isFrom_104 rfl rfl ?_
          refine j_aload_n (q := 3) (np := 107) rfl rfl dX10_isFrom_106 rfl ?_
          refine j_iload_n (q := 4) (np := 108) rfl rfl dX10_isFrom_107 rfl ?_
          refine j_iload (q := 0) (np := 110) rfl dX10_isFrom_108 rfl ?_
          refine j_callVi (ci := 10) (np := 113) (bc := bc) (bs := bs) (cb := 0) (cs := 0) (dd := d - 1) (As := [.int v1, .int x11]) (st := []) caX10_endOf mlX10_210 imX10_endOf seX10_endOf rfl rfl (by decide) (fun b hb => wX10_endOf (by omega) hb) (by omega) rfl rfl (Nat.le_of_ble_eq_true rfl) dX10_isFrom_110 rfl (fun b12 => ?_)
          refine j_iload (q := 0) (np := 115) rfl dX10_isFrom_113 rfl ?_
          refine j_isub (np := 116) dX10_isFrom_115 rfl ?_
          refine j_iload (q := 1) (np := 118) rfl dX10_isFrom_116 rfl ?_
          refine j_iload_n (q := 6) (np := 119) rfl rfl dX10_isFrom_118 rfl ?_
          refine j_isub (np := 120) dX10_isFrom_119 rfl ?_
          refine j_icmp_eq (tgt := 125) (np := 123) dX10_isFrom_120 rfl rfl ?_ ?_
          · refine j_iconst (np := 126) ci_0 dX10_isFrom_125 rfl ?_
            refine j_istore (np := 128) (lv2 := [(8, .int (0 : Int32)), (7, .int x11), (6, .int b5.1), (5, .int x4), (0, .ref (E.2.1 + v0)), (1, .int v1), (2, .int v2), (3, .int v3), (4, .int v4)]) (by decide) dX10_isFrom_126 rfl rfl ?_
            refine j_sub (lv2 := [(0, .ref (E.2.1 + v0)), (1, .int v1), (2, .int v2), (3, .int v3), (4, .int v4), (6, .int b5.1), (7, .int x11), (8, .int (0 : Int32))]) [4, 5, 6, 7, 8, 2, 1, 0] rfl ?_
            refine j_loopG (xp := 177) (lvX := fun o13 => [(0, .ref (E.2.1 + v0)), (1, .int v1), (2, .int v2), (4, .int v4), (6, .int b5.1)]) (mX := fun o13 => o13) (lbX10_isFrom_128 hd _ _ _) (fun r rr h => h) (fun o13 => ?_)
            refine j_goto (tgt := 188) dX10_isFrom_177 rfl ?_
            exact kbX10_isFrom_188 hd ih
          · refine j_iconst (np := 124) ci_0 dX10_isFrom_123 rfl ?_
            exact j_zret rfl dX10_isFrom_124 (fun rr h => by rw [z0]; exact h)
      · refine j_aload_n (q := 1) (np := 59) rfl rfl dX10_isFrom_58 rfl ?_
        refine j_gR (np := 62) flX10_9 dX10_isFrom_59 rfl (fun x14 => ?_)
        refine j_bipush (np := 64) cb_39 dX10_isFrom_62 rfl ?_
        refine j_iload_n (q := 2) (np := 65) rfl rfl dX10_isFrom_64 rfl ?_
        refine j_imul (np := 66) dX10_isFrom_65 rfl ?_
        refine j_iload_n (q := 4) (np := 67) rfl rfl dX10_isFrom_66 rfl ?_
        refine j_iinc (q := 4) (np := 70) (lv2 := [(3, .int (v3 + (1 : Int32))), (5, .int x4), (0, .ref (E.2.1 + v0)), (1, .int v1), (2, .int v2), (4, .int v4)]) rfl (congrArg _ ci_1) (by decide) dX10_isFrom_67 rfl rfl ?_
        refine j_iadd (np := 71) dX10_isFrom_70 rfl ?_
        refine j_iaload (np := 72) dX10_isFrom_71 rfl (fun x15 => ?_)
        refine j_bipush (np := 74) cb_99 dX10_isFrom_72 rfl ?_
        refine j_icmp_eq (tgt := 191) (np := 77) dX10_isFrom_74 rfl rfl ?_ ?_
        · refine j_sub (lv2 := [(0, .ref (E.2.1 + v0)), (1, .int v1), (2, .int v2), (3, .int (v3 + (1 : Int32))), (4, .int v4)]) [2, 3, 4, 0, 5] rfl ?_
          exact kbX10_isFrom_191 hd ih
        · refine j_iconst (np := 78) ci_0 dX10_isFrom_77 rfl ?_
          exact j_zret rfl dX10_isFrom_78 (fun rr h => by rw [z0]; exact h)
def lX10_isFrom_2 (N : Nat) (v0 : Nat) (v1 : Int32) (v2 : Int32) : Nat → Int32 → qM → Option (qM)
  | 0, _, _ => none
  | n + 1, v3, m0 =>
    if (26 : Int32) ≤ v3 then (
    some m0
    ) else (
    (qgR m0 v0 10 28).bind fun x1 =>
    (qwI m0 x1 12 v3 (-1 : Int32)).bind fun m2 =>
    lX10_isFrom_2 N v0 v1 v2 n (v3 + (1 : Int32)) m2
    )
set_option maxRecDepth 100000 in
theorem lbX10_isFrom_2 {E : qE} {N d bc bs : Nat} (hd : 1 ≤ d) {v0 : Nat} {v1 : Int32} {v2 : Int32} : ∀ (n : Nat) (v3 : Int32) (m0 : qM), qB E yX10_isFrom cX10_isFrom 9 (some .boolean) (fun _ => True) d bc bs 2 [(0, .ref (E.2.1 + v0)), (1, .int v1), (2, .int v2), (3, .int v3)] [] m0 (lX10_isFrom_2 N v0 v1 v2 n v3 m0) (fun o rr => qJ E yX10_isFrom cX10_isFrom 9 (some .boolean) (fun _ => True) d bc bs 21 [(0, .ref (E.2.1 + v0)), (1, .int v1), (2, .int v2)] [] o rr) := by
  intro n
  induction n with
  | zero =>
    intro v3 m0
    exact j_none
  | succ n ih =>
    intro v3 m0
    unfold lX10_isFrom_2
    refine j_iload_n (q := 3) (np := 3) rfl rfl dX10_isFrom_2 rfl ?_
    refine j_bipush (np := 5) cb_26 dX10_isFrom_3 rfl ?_
    refine j_icmp_ge (tgt := 21) (np := 8) dX10_isFrom_5 rfl rfl ?_ ?_
    · refine j_sub (lv2 := [(0, .ref (E.2.1 + v0)), (1, .int v1), (2, .int v2)]) [0, 1, 2] rfl ?_
      exact j_exit (fun rr h => h)
    · refine j_aload_n (q := 0) (np := 9) rfl rfl dX10_isFrom_8 rfl ?_
      refine j_gR (np := 12) flX10_69 dX10_isFrom_9 rfl (fun x1 => ?_)
      refine j_iload_n (q := 3) (np := 13) rfl rfl dX10_isFrom_12 rfl ?_
      refine j_iconst (np := 14) ci_m1 dX10_isFrom_13 rfl ?_
      refine j_iastore (np := 15) dX10_isFrom_14 rfl (fun m2 => ?_)
      refine j_iinc (q := 3) (np := 18) (lv2 := [(3, .int (v3 + (1 : Int32))), (0, .ref (E.2.1 + v0)), (1, .int v1), (2, .int v2)]) rfl (congrArg _ ci_1) (by decide) dX10_isFrom_15 rfl rfl ?_
      refine j_goto (tgt := 2) dX10_isFrom_18 rfl ?_
      refine j_sub (lv2 := [(0, .ref (E.2.1 + v0)), (1, .int v1), (2, .int v2), (3, .int (v3 + (1 : Int32)))]) [1, 2, 3, 0] rfl ?_
      exact ih _ _
def fX10_isFrom (N : Nat) (v0 : Nat) (v1 : Int32) (v2 : Int32) (m0 : qM) : Option (Int32 × qM) :=
  (lX10_isFrom_2 N v0 v1 v2 N (0 : Int32) m0).bind fun o1 =>
  qTh (lX10_isFrom_26 N v0 v1 v2 N (0 : Int32) (0 : Int32) o1) (fun o2 =>
  some ((1 : Int32), o2)
  ) (fun r => r)
set_option maxRecDepth 100000 in
theorem bX10_isFrom {E : qE} {N d bc bs : Nat} (hd : 1 ≤ d) {v0 : Nat} {v1 : Int32} {v2 : Int32} {m0 : qM} : qB E yX10_isFrom cX10_isFrom 9 (some .boolean) (fun _ => True) d bc bs 0 [(0, .ref (E.2.1 + v0)), (1, .int v1), (2, .int v2)] [] m0 (fX10_isFrom N v0 v1 v2 m0) (fun b rr => rr = (some (.int b.1), b.2)) := by
  unfold fX10_isFrom
  refine j_iconst (np := 1) ci_0 dX10_isFrom_0 rfl ?_
  refine j_istore_n (np := 2) (lv2 := [(3, .int (0 : Int32)), (0, .ref (E.2.1 + v0)), (1, .int v1), (2, .int v2)]) rfl (by decide) dX10_isFrom_1 rfl rfl ?_
  refine j_sub (lv2 := [(0, .ref (E.2.1 + v0)), (1, .int v1), (2, .int v2), (3, .int (0 : Int32))]) [1, 2, 3, 0] rfl ?_
  refine j_loop (xp := 21) (lvX := fun o1 => [(0, .ref (E.2.1 + v0)), (1, .int v1), (2, .int v2)]) (mX := fun o1 => o1) (lbX10_isFrom_2 hd _ _ _) (fun o1 => ?_)
  refine j_iconst (np := 22) ci_0 dX10_isFrom_21 rfl ?_
  refine j_istore_n (np := 23) (lv2 := [(3, .int (0 : Int32)), (0, .ref (E.2.1 + v0)), (1, .int v1), (2, .int v2)]) rfl (by decide) dX10_isFrom_22 rfl rfl ?_
  refine j_iconst (np := 24) ci_0 dX10_isFrom_23 rfl ?_
  refine j_istore (np := 26) (lv2 := [(4, .int (0 : Int32)), (3, .int (0 : Int32)), (0, .ref (E.2.1 + v0)), (1, .int v1), (2, .int v2)]) (by decide) dX10_isFrom_24 rfl rfl ?_
  refine j_sub (lv2 := [(0, .ref (E.2.1 + v0)), (1, .int v1), (2, .int v2), (3, .int (0 : Int32)), (4, .int (0 : Int32))]) [2, 3, 4, 1, 0] rfl ?_
  refine j_loopG (xp := 197) (lvX := fun o2 => []) (mX := fun o2 => o2) (lbX10_isFrom_26 hd _ _ _ _) (fun r rr h => h) (fun o2 => ?_)
  refine j_iconst (np := 198) ci_1 dX10_isFrom_197 rfl ?_
  exact j_zret rfl dX10_isFrom_198 (fun rr h => by rw [z1]; exact h)
set_option maxRecDepth 100000 in
theorem wX10_isFrom {E : qE} {N d : Nat} (hd : 1 ≤ d) {v0 : Nat} {v1 : Int32} {v2 : Int32} {m0 : qM} {b : Int32 × qM} (h : fX10_isFrom N v0 v1 v2 m0 = some b) : qRun E yX10_isFrom cX10_isFrom 9 (some .boolean) d 0 0 [.ref (E.2.1 + v0), .int v1, .int v2] m0 (some (.int b.1), b.2) := q_met pnX10 (Nat.le_of_ble_eq_true rfl) (bX10_isFrom hd b _ h rfl)
theorem dX10_isInstance_0 : decode cX10_isInstance 0 = .ok (.aload_n 0, 1) := by decide +kernel
theorem dX10_isInstance_1 : decode cX10_isInstance 1 = .ok (.iload_n 1, 1) := by decide +kernel
theorem dX10_isInstance_2 : decode cX10_isInstance 2 = .ok (.invokevirtual 172, 3) := by decide +kernel
theorem dX10_isInstance_5 : decode cX10_isInstance 5 = .ok (.ifCond .eq 11, 3) := by decide +kernel
theorem dX10_isInstance_8 : decode cX10_isInstance 8 = .ok (.aload_n 0, 1) := by decide +kernel
theorem dX10_isInstance_9 : decode cX10_isInstance 9 = .ok (.iload_n 2, 1) := by decide +kernel
theorem dX10_isInstance_10 : decode cX10_isInstance 10 = .ok (.invokevirtual 172, 3) := by decide +kernel
theorem dX10_isInstance_13 : decode cX10_isInstance 13 = .ok (.ifCond .ne 5, 3) := by decide +kernel
theorem dX10_isInstance_16 : decode cX10_isInstance 16 = .ok (.iconst (-1), 1) := by decide +kernel
theorem dX10_isInstance_17 : decode cX10_isInstance 17 = .ok (.ireturn, 1) := by decide +kernel
theorem dX10_isInstance_18 : decode cX10_isInstance 18 = .ok (.aload_n 0, 1) := by decide +kernel
theorem dX10_isInstance_19 : decode cX10_isInstance 19 = .ok (.iload_n 1, 1) := by decide +kernel
theorem dX10_isInstance_20 : decode cX10_isInstance 20 = .ok (.iload_n 2, 1) := by decide +kernel
theorem dX10_isInstance_21 : decode cX10_isInstance 21 = .ok (.invokevirtual 213, 3) := by decide +kernel
theorem dX10_isInstance_24 : decode cX10_isInstance 24 = .ok (.ifCond .eq 7, 3) := by decide +kernel
theorem dX10_isInstance_27 : decode cX10_isInstance 27 = .ok (.iconst 1, 1) := by decide +kernel
theorem dX10_isInstance_28 : decode cX10_isInstance 28 = .ok (.goto 4, 3) := by decide +kernel
theorem dX10_isInstance_31 : decode cX10_isInstance 31 = .ok (.iconst 0, 1) := by decide +kernel
theorem dX10_isInstance_32 : decode cX10_isInstance 32 = .ok (.ireturn, 1) := by decide +kernel
def fX10_isInstance (N : Nat) (v0 : Nat) (v1 : Int32) (v2 : Int32) (m0 : qM) : Option (Int32 × qM) :=
  (qChk m0 v0 10 (fX10_isOne N v0 v1 m0)).bind fun b1 =>
  if b1.1 = 0 then (
  some ((-1 : Int32), b1.2)
  ) else (
  (qChk b1.2 v0 10 (fX10_isOne N v0 v2 b1.2)).bind fun b2 =>
  if b2.1 = 0 then (
  some ((-1 : Int32), b2.2)
  ) else (
  (qChk b2.2 v0 10 (fX10_isFrom N v0 v1 v2 b2.2)).bind fun b3 =>
  if b3.1 = 0 then (
  some ((0 : Int32), b3.2)
  ) else (
  some ((1 : Int32), b3.2)
  )
  )
  )
set_option maxRecDepth 100000 in
theorem bX10_isInstance {E : qE} {N d bc bs : Nat} (hd : 2 ≤ d) {v0 : Nat} {v1 : Int32} {v2 : Int32} {m0 : qM} : qB E yX10_isInstance cX10_isInstance 3 (some .int) (fun _ => True) d bc bs 0 [(0, .ref (E.2.1 + v0)), (1, .int v1), (2, .int v2)] [] m0 (fX10_isInstance N v0 v1 v2 m0) (fun b rr => rr = (some (.int b.1), b.2)) := by
  unfold fX10_isInstance
  refine j_aload_n (q := 0) (np := 1) rfl rfl dX10_isInstance_0 rfl ?_
  refine j_iload_n (q := 1) (np := 2) rfl rfl dX10_isInstance_1 rfl ?_
  refine j_callVi (ci := 10) (np := 5) (bc := bc) (bs := bs) (cb := 0) (cs := 0) (dd := d - 1) (As := [.int v1]) (st := []) caX10_isOne mlX10_172 imX10_isOne seX10_isOne rfl rfl (by decide) (fun b hb => wX10_isOne (by omega) hb) (by omega) rfl rfl (Nat.le_of_ble_eq_true rfl) dX10_isInstance_2 rfl (fun b1 => ?_)
  refine j_if_eq (tgt := 16) (np := 8) dX10_isInstance_5 rfl rfl ?_ ?_
  · refine j_iconst (np := 17) ci_m1 dX10_isInstance_16 rfl ?_
    exact j_iret rfl dX10_isInstance_17 (fun rr h => h)
  · refine j_aload_n (q := 0) (np := 9) rfl rfl dX10_isInstance_8 rfl ?_
    refine j_iload_n (q := 2) (np := 10) rfl rfl dX10_isInstance_9 rfl ?_
    refine j_callVi (ci := 10) (np := 13) (bc := bc) (bs := bs) (cb := 0) (cs := 0) (dd := d - 1) (As := [.int v2]) (st := []) caX10_isOne mlX10_172 imX10_isOne seX10_isOne rfl rfl (by decide) (fun b hb => wX10_isOne (by omega) hb) (by omega) rfl rfl (Nat.le_of_ble_eq_true rfl) dX10_isInstance_10 rfl (fun b2 => ?_)
    refine j_if_ne (tgt := 18) (np := 16) dX10_isInstance_13 rfl rfl ?_ ?_
    · refine j_aload_n (q := 0) (np := 19) rfl rfl dX10_isInstance_18 rfl ?_
      refine j_iload_n (q := 1) (np := 20) rfl rfl dX10_isInstance_19 rfl ?_
      refine j_iload_n (q := 2) (np := 21) rfl rfl dX10_isInstance_20 rfl ?_
      refine j_callVi (ci := 10) (np := 24) (bc := bc) (bs := bs) (cb := 0) (cs := 0) (dd := d - 1) (As := [.int v1, .int v2]) (st := []) caX10_isFrom mlX10_213 imX10_isFrom seX10_isFrom rfl rfl (by decide) (fun b hb => wX10_isFrom (by omega) hb) (by omega) rfl rfl (Nat.le_of_ble_eq_true rfl) dX10_isInstance_21 rfl (fun b3 => ?_)
      refine j_if_eq (tgt := 31) (np := 27) dX10_isInstance_24 rfl rfl ?_ ?_
      · refine j_iconst (np := 32) ci_0 dX10_isInstance_31 rfl ?_
        exact j_iret rfl dX10_isInstance_32 (fun rr h => h)
      · refine j_iconst (np := 28) ci_1 dX10_isInstance_27 rfl ?_
        refine j_goto (tgt := 32) dX10_isInstance_28 rfl ?_
        exact j_iret rfl dX10_isInstance_32 (fun rr h => h)
    · refine j_iconst (np := 17) ci_m1 dX10_isInstance_16 rfl ?_
      exact j_iret rfl dX10_isInstance_17 (fun rr h => h)
set_option maxRecDepth 100000 in
theorem wX10_isInstance {E : qE} {N d : Nat} (hd : 2 ≤ d) {v0 : Nat} {v1 : Int32} {v2 : Int32} {m0 : qM} {b : Int32 × qM} (h : fX10_isInstance N v0 v1 v2 m0 = some b) : qRun E yX10_isInstance cX10_isInstance 3 (some .int) d 0 0 [.ref (E.2.1 + v0), .int v1, .int v2] m0 (some (.int b.1), b.2) := q_met pnX10 (Nat.le_of_ble_eq_true rfl) (bX10_isInstance hd b _ h rfl)
theorem dX10_moreGeneral_0 : decode cX10_moreGeneral 0 = .ok (.aload_n 0, 1) := by decide +kernel
theorem dX10_moreGeneral_1 : decode cX10_moreGeneral 1 = .ok (.iload_n 1, 1) := by decide +kernel
theorem dX10_moreGeneral_2 : decode cX10_moreGeneral 2 = .ok (.invokevirtual 172, 3) := by decide +kernel
theorem dX10_moreGeneral_5 : decode cX10_moreGeneral 5 = .ok (.ifCond .ne 5, 3) := by decide +kernel
theorem dX10_moreGeneral_8 : decode cX10_moreGeneral 8 = .ok (.iconst (-1), 1) := by decide +kernel
theorem dX10_moreGeneral_9 : decode cX10_moreGeneral 9 = .ok (.ireturn, 1) := by decide +kernel
theorem dX10_moreGeneral_10 : decode cX10_moreGeneral 10 = .ok (.iconst 0, 1) := by decide +kernel
theorem dX10_moreGeneral_11 : decode cX10_moreGeneral 11 = .ok (.istore_n 2, 1) := by decide +kernel
theorem dX10_moreGeneral_12 : decode cX10_moreGeneral 12 = .ok (.iload_n 2, 1) := by decide +kernel
theorem dX10_moreGeneral_13 : decode cX10_moreGeneral 13 = .ok (.aload_n 0, 1) := by decide +kernel
theorem dX10_moreGeneral_14 : decode cX10_moreGeneral 14 = .ok (.getfield 96, 3) := by decide +kernel
theorem dX10_moreGeneral_17 : decode cX10_moreGeneral 17 = .ok (.if_icmp .ge 25, 3) := by decide +kernel
theorem dX10_moreGeneral_20 : decode cX10_moreGeneral 20 = .ok (.iload_n 2, 1) := by decide +kernel
theorem dX10_moreGeneral_21 : decode cX10_moreGeneral 21 = .ok (.iload_n 1, 1) := by decide +kernel
theorem dX10_moreGeneral_22 : decode cX10_moreGeneral 22 = .ok (.if_icmp .eq 14, 3) := by decide +kernel
theorem dX10_moreGeneral_25 : decode cX10_moreGeneral 25 = .ok (.aload_n 0, 1) := by decide +kernel
theorem dX10_moreGeneral_26 : decode cX10_moreGeneral 26 = .ok (.iload_n 1, 1) := by decide +kernel
theorem dX10_moreGeneral_27 : decode cX10_moreGeneral 27 = .ok (.iload_n 2, 1) := by decide +kernel
theorem dX10_moreGeneral_28 : decode cX10_moreGeneral 28 = .ok (.invokevirtual 213, 3) := by decide +kernel
theorem dX10_moreGeneral_31 : decode cX10_moreGeneral 31 = .ok (.ifCond .eq 5, 3) := by decide +kernel
theorem dX10_moreGeneral_34 : decode cX10_moreGeneral 34 = .ok (.iload_n 2, 1) := by decide +kernel
theorem dX10_moreGeneral_35 : decode cX10_moreGeneral 35 = .ok (.ireturn, 1) := by decide +kernel
theorem dX10_moreGeneral_36 : decode cX10_moreGeneral 36 = .ok (.iinc 2 1, 3) := by decide +kernel
theorem dX10_moreGeneral_39 : decode cX10_moreGeneral 39 = .ok (.goto (-27), 3) := by decide +kernel
theorem dX10_moreGeneral_42 : decode cX10_moreGeneral 42 = .ok (.bipush (-4), 2) := by decide +kernel
theorem dX10_moreGeneral_44 : decode cX10_moreGeneral 44 = .ok (.ireturn, 1) := by decide +kernel
def kX10_moreGeneral_36 (N : Nat) (rec : Int32 → qM → Option ((qM) ⊕ (Int32 × qM))) (v0 : Nat) (v1 : Int32) (v2 : Int32)  (m0 : qM) : Option ((qM) ⊕ (Int32 × qM)) :=
  rec (v2 + (1 : Int32)) m0
set_option maxRecDepth 100000 in
theorem kbX10_moreGeneral_36 {E : qE} {N d bc bs : Nat} (hd : 2 ≤ d) {v0 : Nat} {v1 : Int32} {v2 : Int32}  {m0 : qM} {rec : Int32 → qM → Option ((qM) ⊕ (Int32 × qM))} (hrec : ∀ (v2 : Int32) (m : qM), qB E yX10_moreGeneral cX10_moreGeneral 3 (some .int) (fun _ => True) d bc bs 12 [(0, .ref (E.2.1 + v0)), (1, .int v1), (2, .int v2)] [] m (rec v2 m) (qGL (fun o rr => qJ E yX10_moreGeneral cX10_moreGeneral 3 (some .int) (fun _ => True) d bc bs 42 [] [] o rr) (fun r => (some (.int r.1), r.2)))) : qB E yX10_moreGeneral cX10_moreGeneral 3 (some .int) (fun _ => True) d bc bs 36 [(0, .ref (E.2.1 + v0)), (1, .int v1), (2, .int v2)] [] m0 (kX10_moreGeneral_36 N rec v0 v1 v2 m0) (qGL (fun o rr => qJ E yX10_moreGeneral cX10_moreGeneral 3 (some .int) (fun _ => True) d bc bs 42 [] [] o rr) (fun r => (some (.int r.1), r.2))) := by
  unfold kX10_moreGeneral_36
  refine j_iinc (q := 2) (np := 39) (lv2 := [(2, .int (v2 + (1 : Int32))), (0, .ref (E.2.1 + v0)), (1, .int v1)]) rfl (congrArg _ ci_1) (by decide) dX10_moreGeneral_36 rfl rfl ?_
  refine j_goto (tgt := 12) dX10_moreGeneral_39 rfl ?_
  refine j_sub (lv2 := [(0, .ref (E.2.1 + v0)), (1, .int v1), (2, .int (v2 + (1 : Int32)))]) [1, 2, 0] rfl ?_
  exact hrec _ _
def lX10_moreGeneral_12 (N : Nat) (v0 : Nat) (v1 : Int32) : Nat → Int32 → qM → Option ((qM) ⊕ (Int32 × qM))
  | 0, _, _ => none
  | n + 1, v2, m0 =>
    (qgI m0 v0 10 5).bind fun x1 =>
    if x1 ≤ v2 then (
    some (.inl m0)
    ) else (
    if v2 = v1 then (
    kX10_moreGeneral_36 N (lX10_moreGeneral_12 N v0 v1 n) v0 v1 v2 m0
    ) else (
    (qChk m0 v0 10 (fX10_isFrom N v0 v1 v2 m0)).bind fun b2 =>
    if b2.1 = 0 then (
    kX10_moreGeneral_36 N (lX10_moreGeneral_12 N v0 v1 n) v0 v1 v2 b2.2
    ) else (
    some (.inr (v2, b2.2))
    )
    )
    )
set_option maxRecDepth 100000 in
theorem lbX10_moreGeneral_12 {E : qE} {N d bc bs : Nat} (hd : 2 ≤ d) {v0 : Nat} {v1 : Int32} : ∀ (n : Nat) (v2 : Int32) (m0 : qM), qB E yX10_moreGeneral cX10_moreGeneral 3 (some .int) (fun _ => True) d bc bs 12 [(0, .ref (E.2.1 + v0)), (1, .int v1), (2, .int v2)] [] m0 (lX10_moreGeneral_12 N v0 v1 n v2 m0) (qGL (fun o rr => qJ E yX10_moreGeneral cX10_moreGeneral 3 (some .int) (fun _ => True) d bc bs 42 [] [] o rr) (fun r => (some (.int r.1), r.2))) := by
  intro n
  induction n with
  | zero =>
    intro v2 m0
    exact j_none
  | succ n ih =>
    intro v2 m0
    unfold lX10_moreGeneral_12
    refine j_iload_n (q := 2) (np := 13) rfl rfl dX10_moreGeneral_12 rfl ?_
    refine j_aload_n (q := 0) (np := 14) rfl rfl dX10_moreGeneral_13 rfl ?_
    refine j_gI (np := 17) flX10_96 dX10_moreGeneral_14 rfl (fun x1 => ?_)
    refine j_icmp_ge (tgt := 42) (np := 20) dX10_moreGeneral_17 rfl rfl ?_ ?_
    · refine j_sub (lv2 := []) [] rfl ?_
      exact j_exit (fun rr h => h)
    · refine j_iload_n (q := 2) (np := 21) rfl rfl dX10_moreGeneral_20 rfl ?_
      refine j_iload_n (q := 1) (np := 22) rfl rfl dX10_moreGeneral_21 rfl ?_
      refine j_icmp_eq (tgt := 36) (np := 25) dX10_moreGeneral_22 rfl rfl ?_ ?_
      · exact kbX10_moreGeneral_36 hd ih
      · refine j_aload_n (q := 0) (np := 26) rfl rfl dX10_moreGeneral_25 rfl ?_
        refine j_iload_n (q := 1) (np := 27) rfl rfl dX10_moreGeneral_26 rfl ?_
        refine j_iload_n (q := 2) (np := 28) rfl rfl dX10_moreGeneral_27 rfl ?_
        refine j_callVi (ci := 10) (np := 31) (bc := bc) (bs := bs) (cb := 0) (cs := 0) (dd := d - 1) (As := [.int v1, .int v2]) (st := []) caX10_isFrom mlX10_213 imX10_isFrom seX10_isFrom rfl rfl (by decide) (fun b hb => wX10_isFrom (by omega) hb) (by omega) rfl rfl (Nat.le_of_ble_eq_true rfl) dX10_moreGeneral_28 rfl (fun b2 => ?_)
        refine j_if_eq (tgt := 36) (np := 34) dX10_moreGeneral_31 rfl rfl ?_ ?_
        · exact kbX10_moreGeneral_36 hd ih
        · refine j_iload_n (q := 2) (np := 35) rfl rfl dX10_moreGeneral_34 rfl ?_
          exact j_iret rfl dX10_moreGeneral_35 (fun rr h => h)
def fX10_moreGeneral (N : Nat) (v0 : Nat) (v1 : Int32) (m0 : qM) : Option (Int32 × qM) :=
  (qChk m0 v0 10 (fX10_isOne N v0 v1 m0)).bind fun b1 =>
  if b1.1 = 0 then (
  some ((-1 : Int32), b1.2)
  ) else (
  qTh (lX10_moreGeneral_12 N v0 v1 N (0 : Int32) b1.2) (fun o2 =>
  some ((-4 : Int32), o2)
  ) (fun r => r)
  )
set_option maxRecDepth 100000 in
theorem bX10_moreGeneral {E : qE} {N d bc bs : Nat} (hd : 2 ≤ d) {v0 : Nat} {v1 : Int32} {m0 : qM} : qB E yX10_moreGeneral cX10_moreGeneral 3 (some .int) (fun _ => True) d bc bs 0 [(0, .ref (E.2.1 + v0)), (1, .int v1)] [] m0 (fX10_moreGeneral N v0 v1 m0) (fun b rr => rr = (some (.int b.1), b.2)) := by
  unfold fX10_moreGeneral
  refine j_aload_n (q := 0) (np := 1) rfl rfl dX10_moreGeneral_0 rfl ?_
  refine j_iload_n (q := 1) (np := 2) rfl rfl dX10_moreGeneral_1 rfl ?_
  refine j_callVi (ci := 10) (np := 5) (bc := bc) (bs := bs) (cb := 0) (cs := 0) (dd := d - 1) (As := [.int v1]) (st := []) caX10_isOne mlX10_172 imX10_isOne seX10_isOne rfl rfl (by decide) (fun b hb => wX10_isOne (by omega) hb) (by omega) rfl rfl (Nat.le_of_ble_eq_true rfl) dX10_moreGeneral_2 rfl (fun b1 => ?_)
  refine j_if_ne (tgt := 10) (np := 8) dX10_moreGeneral_5 rfl rfl ?_ ?_
  · refine j_iconst (np := 11) ci_0 dX10_moreGeneral_10 rfl ?_
    refine j_istore_n (np := 12) (lv2 := [(2, .int (0 : Int32)), (0, .ref (E.2.1 + v0)), (1, .int v1)]) rfl (by decide) dX10_moreGeneral_11 rfl rfl ?_
    refine j_sub (lv2 := [(0, .ref (E.2.1 + v0)), (1, .int v1), (2, .int (0 : Int32))]) [1, 2, 0] rfl ?_
    refine j_loopG (xp := 42) (lvX := fun o2 => []) (mX := fun o2 => o2) (lbX10_moreGeneral_12 hd _ _ _) (fun r rr h => h) (fun o2 => ?_)
    refine j_bipush (np := 44) cb_m4 dX10_moreGeneral_42 rfl ?_
    exact j_iret rfl dX10_moreGeneral_44 (fun rr h => h)
  · refine j_iconst (np := 9) ci_m1 dX10_moreGeneral_8 rfl ?_
    exact j_iret rfl dX10_moreGeneral_9 (fun rr h => h)
set_option maxRecDepth 100000 in
theorem wX10_moreGeneral {E : qE} {N d : Nat} (hd : 2 ≤ d) {v0 : Nat} {v1 : Int32} {m0 : qM} {b : Int32 × qM} (h : fX10_moreGeneral N v0 v1 m0 = some b) : qRun E yX10_moreGeneral cX10_moreGeneral 3 (some .int) d 0 0 [.ref (E.2.1 + v0), .int v1] m0 (some (.int b.1), b.2) := q_met pnX10 (Nat.le_of_ble_eq_true rfl) (bX10_moreGeneral hd b _ h rfl)
theorem dX10_round_0 : decode cX10_round 0 = .ok (.iload_n 1, 1) := by decide +kernel
theorem dX10_round_1 : decode cX10_round 1 = .ok (.iconst 1, 1) := by decide +kernel
theorem dX10_round_2 : decode cX10_round 2 = .ok (.bipush 39, 2) := by decide +kernel
theorem dX10_round_4 : decode cX10_round 4 = .ok (.invokestatic 99, 3) := by decide +kernel
theorem dX10_round_7 : decode cX10_round 7 = .ok (.ifCond .ne 6, 3) := by decide +kernel
theorem dX10_round_10 : decode cX10_round 10 = .ok (.bipush (-2), 2) := by decide +kernel
theorem dX10_round_12 : decode cX10_round 12 = .ok (.ireturn, 1) := by decide +kernel
theorem dX10_round_13 : decode cX10_round 13 = .ok (.aload_n 0, 1) := by decide +kernel
theorem dX10_round_14 : decode cX10_round 14 = .ok (.getfield 96, 3) := by decide +kernel
theorem dX10_round_17 : decode cX10_round 17 = .ok (.istore_n 2, 1) := by decide +kernel
theorem dX10_round_18 : decode cX10_round 18 = .ok (.iconst 0, 1) := by decide +kernel
theorem dX10_round_19 : decode cX10_round 19 = .ok (.istore_n 3, 1) := by decide +kernel
theorem dX10_round_20 : decode cX10_round 20 = .ok (.iload_n 3, 1) := by decide +kernel
theorem dX10_round_21 : decode cX10_round 21 = .ok (.iload_n 2, 1) := by decide +kernel
theorem dX10_round_22 : decode cX10_round 22 = .ok (.if_icmp .ge 143, 3) := by decide +kernel
theorem dX10_round_25 : decode cX10_round 25 = .ok (.iconst 0, 1) := by decide +kernel
theorem dX10_round_26 : decode cX10_round 26 = .ok (.istore 4, 2) := by decide +kernel
theorem dX10_round_28 : decode cX10_round 28 = .ok (.iload 4, 2) := by decide +kernel
theorem dX10_round_30 : decode cX10_round 30 = .ok (.iload_n 2, 1) := by decide +kernel
theorem dX10_round_31 : decode cX10_round 31 = .ok (.if_icmp .ge 128, 3) := by decide +kernel
theorem dX10_round_34 : decode cX10_round 34 = .ok (.aload_n 0, 1) := by decide +kernel
theorem dX10_round_35 : decode cX10_round 35 = .ok (.getfield 96, 3) := by decide +kernel
theorem dX10_round_38 : decode cX10_round 38 = .ok (.bipush 60, 2) := by decide +kernel
theorem dX10_round_40 : decode cX10_round 40 = .ok (.if_icmp .ge 119, 3) := by decide +kernel
theorem dX10_round_43 : decode cX10_round 43 = .ok (.aload_n 0, 1) := by decide +kernel
theorem dX10_round_44 : decode cX10_round 44 = .ok (.iload_n 3, 1) := by decide +kernel
theorem dX10_round_45 : decode cX10_round 45 = .ok (.iload 4, 2) := by decide +kernel
theorem dX10_round_47 : decode cX10_round 47 = .ok (.invokevirtual 175, 3) := by decide +kernel
theorem dX10_round_50 : decode cX10_round 50 = .ok (.ifCond .lt 103, 3) := by decide +kernel
theorem dX10_round_53 : decode cX10_round 53 = .ok (.aload_n 0, 1) := by decide +kernel
theorem dX10_round_54 : decode cX10_round 54 = .ok (.getfield 109, 3) := by decide +kernel
theorem dX10_round_57 : decode cX10_round 57 = .ok (.iload_n 1, 1) := by decide +kernel
theorem dX10_round_58 : decode cX10_round 58 = .ok (.if_icmp .le 6, 3) := by decide +kernel
theorem dX10_round_61 : decode cX10_round 61 = .ok (.goto 92, 3) := by decide +kernel
theorem dX10_round_64 : decode cX10_round 64 = .ok (.aload_n 0, 1) := by decide +kernel
theorem dX10_round_65 : decode cX10_round 65 = .ok (.bipush 60, 2) := by decide +kernel
theorem dX10_round_67 : decode cX10_round 67 = .ok (.invokevirtual 121, 3) := by decide +kernel
theorem dX10_round_70 : decode cX10_round 70 = .ok (.iconst 0, 1) := by decide +kernel
theorem dX10_round_71 : decode cX10_round 71 = .ok (.istore 5, 2) := by decide +kernel
theorem dX10_round_73 : decode cX10_round 73 = .ok (.iconst 0, 1) := by decide +kernel
theorem dX10_round_74 : decode cX10_round 74 = .ok (.istore 6, 2) := by decide +kernel
theorem dX10_round_76 : decode cX10_round 76 = .ok (.iload 6, 2) := by decide +kernel
theorem dX10_round_78 : decode cX10_round 78 = .ok (.aload_n 0, 1) := by decide +kernel
theorem dX10_round_79 : decode cX10_round 79 = .ok (.getfield 96, 3) := by decide +kernel
theorem dX10_round_82 : decode cX10_round 82 = .ok (.if_icmp .ge 24, 3) := by decide +kernel
theorem dX10_round_85 : decode cX10_round 85 = .ok (.iload 5, 2) := by decide +kernel
theorem dX10_round_87 : decode cX10_round 87 = .ok (.ifCond .ne 19, 3) := by decide +kernel
theorem dX10_round_90 : decode cX10_round 90 = .ok (.aload_n 0, 1) := by decide +kernel
theorem dX10_round_91 : decode cX10_round 91 = .ok (.bipush 60, 2) := by decide +kernel
theorem dX10_round_93 : decode cX10_round 93 = .ok (.iload 6, 2) := by decide +kernel
theorem dX10_round_95 : decode cX10_round 95 = .ok (.invokevirtual 213, 3) := by decide +kernel
theorem dX10_round_98 : decode cX10_round 98 = .ok (.istore 5, 2) := by decide +kernel
theorem dX10_round_100 : decode cX10_round 100 = .ok (.iinc 6 1, 3) := by decide +kernel
theorem dX10_round_103 : decode cX10_round 103 = .ok (.goto (-27), 3) := by decide +kernel
theorem dX10_round_106 : decode cX10_round 106 = .ok (.iload 5, 2) := by decide +kernel
theorem dX10_round_108 : decode cX10_round 108 = .ok (.ifCond .eq 6, 3) := by decide +kernel
theorem dX10_round_111 : decode cX10_round 111 = .ok (.goto 42, 3) := by decide +kernel
theorem dX10_round_114 : decode cX10_round 114 = .ok (.aload_n 0, 1) := by decide +kernel
theorem dX10_round_115 : decode cX10_round 115 = .ok (.aload_n 0, 1) := by decide +kernel
theorem dX10_round_116 : decode cX10_round 116 = .ok (.getfield 96, 3) := by decide +kernel
theorem dX10_round_119 : decode cX10_round 119 = .ok (.invokevirtual 121, 3) := by decide +kernel
theorem dX10_round_122 : decode cX10_round 122 = .ok (.aload_n 0, 1) := by decide +kernel
theorem dX10_round_123 : decode cX10_round 123 = .ok (.getfield 16, 3) := by decide +kernel
theorem dX10_round_126 : decode cX10_round 126 = .ok (.aload_n 0, 1) := by decide +kernel
theorem dX10_round_127 : decode cX10_round 127 = .ok (.getfield 96, 3) := by decide +kernel
theorem dX10_round_130 : decode cX10_round 130 = .ok (.iload_n 3, 1) := by decide +kernel
theorem dX10_round_131 : decode cX10_round 131 = .ok (.iastore, 1) := by decide +kernel
theorem dX10_round_132 : decode cX10_round 132 = .ok (.aload_n 0, 1) := by decide +kernel
theorem dX10_round_133 : decode cX10_round 133 = .ok (.getfield 19, 3) := by decide +kernel
theorem dX10_round_136 : decode cX10_round 136 = .ok (.aload_n 0, 1) := by decide +kernel
theorem dX10_round_137 : decode cX10_round 137 = .ok (.getfield 96, 3) := by decide +kernel
theorem dX10_round_140 : decode cX10_round 140 = .ok (.iload 4, 2) := by decide +kernel
theorem dX10_round_142 : decode cX10_round 142 = .ok (.iastore, 1) := by decide +kernel
theorem dX10_round_143 : decode cX10_round 143 = .ok (.aload_n 0, 1) := by decide +kernel
theorem dX10_round_144 : decode cX10_round 144 = .ok (.dup, 1) := by decide +kernel
theorem dX10_round_145 : decode cX10_round 145 = .ok (.getfield 96, 3) := by decide +kernel
theorem dX10_round_148 : decode cX10_round 148 = .ok (.iconst 1, 1) := by decide +kernel
theorem dX10_round_149 : decode cX10_round 149 = .ok (.iadd, 1) := by decide +kernel
theorem dX10_round_150 : decode cX10_round 150 = .ok (.putfield 96, 3) := by decide +kernel
theorem dX10_round_153 : decode cX10_round 153 = .ok (.iinc 4 1, 3) := by decide +kernel
theorem dX10_round_156 : decode cX10_round 156 = .ok (.goto (-128), 3) := by decide +kernel
theorem dX10_round_159 : decode cX10_round 159 = .ok (.iinc 3 1, 3) := by decide +kernel
theorem dX10_round_162 : decode cX10_round 162 = .ok (.goto (-142), 3) := by decide +kernel
theorem dX10_round_165 : decode cX10_round 165 = .ok (.aload_n 0, 1) := by decide +kernel
theorem dX10_round_166 : decode cX10_round 166 = .ok (.getfield 96, 3) := by decide +kernel
theorem dX10_round_169 : decode cX10_round 169 = .ok (.iload_n 2, 1) := by decide +kernel
theorem dX10_round_170 : decode cX10_round 170 = .ok (.isub, 1) := by decide +kernel
theorem dX10_round_171 : decode cX10_round 171 = .ok (.ireturn, 1) := by decide +kernel
def lX10_round_76 (N : Nat) (v0 : Nat) (v1 : Int32) (v2 : Int32) (v3 : Int32) (v4 : Int32) : Nat → Int32 → Int32 → qM → Option (Int32 × qM)
  | 0, _, _, _ => none
  | n + 1, v5, v6, m0 =>
    (qgI m0 v0 10 5).bind fun x1 =>
    if x1 ≤ v6 then (
    some (v5, m0)
    ) else (
    if v5 = 0 then (
    (qChk m0 v0 10 (fX10_isFrom N v0 (60 : Int32) v6 m0)).bind fun b2 =>
    lX10_round_76 N v0 v1 v2 v3 v4 n b2.1 (v6 + (1 : Int32)) b2.2
    ) else (
    some (v5, m0)
    )
    )
set_option maxRecDepth 100000 in
theorem lbX10_round_76 {E : qE} {N d bc bs : Nat} (hd : 1145 ≤ d) {v0 : Nat} {v1 : Int32} {v2 : Int32} {v3 : Int32} {v4 : Int32} : ∀ (n : Nat) (v5 : Int32) (v6 : Int32) (m0 : qM), qB E yX10_round cX10_round 7 (some .int) (fun _ => True) d bc bs 76 [(0, .ref (E.2.1 + v0)), (1, .int v1), (2, .int v2), (3, .int v3), (4, .int v4), (5, .int v5), (6, .int v6)] [] m0 (lX10_round_76 N v0 v1 v2 v3 v4 n v5 v6 m0) (fun o rr => qJ E yX10_round cX10_round 7 (some .int) (fun _ => True) d bc bs 106 [(0, .ref (E.2.1 + v0)), (1, .int v1), (2, .int v2), (3, .int v3), (4, .int v4), (5, .int o.1)] [] o.2 rr) := by
  intro n
  induction n with
  | zero =>
    intro v5 v6 m0
    exact j_none
  | succ n ih =>
    intro v5 v6 m0
    unfold lX10_round_76
    refine j_iload (q := 6) (np := 78) rfl dX10_round_76 rfl ?_
    refine j_aload_n (q := 0) (np := 79) rfl rfl dX10_round_78 rfl ?_
    refine j_gI (np := 82) flX10_96 dX10_round_79 rfl (fun x1 => ?_)
    refine j_icmp_ge (tgt := 106) (np := 85) dX10_round_82 rfl rfl ?_ ?_
    · refine j_sub (lv2 := [(0, .ref (E.2.1 + v0)), (1, .int v1), (2, .int v2), (3, .int v3), (4, .int v4), (5, .int v5)]) [0, 1, 2, 3, 4, 5] rfl ?_
      exact j_exit (fun rr h => h)
    · refine j_iload (q := 5) (np := 87) rfl dX10_round_85 rfl ?_
      refine j_if_ne (tgt := 106) (np := 90) dX10_round_87 rfl rfl ?_ ?_
      · refine j_sub (lv2 := [(0, .ref (E.2.1 + v0)), (1, .int v1), (2, .int v2), (3, .int v3), (4, .int v4), (5, .int v5)]) [0, 1, 2, 3, 4, 5] rfl ?_
        exact j_exit (fun rr h => h)
      · refine j_aload_n (q := 0) (np := 91) rfl rfl dX10_round_90 rfl ?_
        refine j_bipush (np := 93) cb_60 dX10_round_91 rfl ?_
        refine j_iload (q := 6) (np := 95) rfl dX10_round_93 rfl ?_
        refine j_callVi (ci := 10) (np := 98) (bc := bc) (bs := bs) (cb := 0) (cs := 0) (dd := d - 1) (As := [.int (60 : Int32), .int v6]) (st := []) caX10_isFrom mlX10_213 imX10_isFrom seX10_isFrom rfl rfl (by decide) (fun b hb => wX10_isFrom (by omega) hb) (by omega) rfl rfl (Nat.le_of_ble_eq_true rfl) dX10_round_95 rfl (fun b2 => ?_)
        refine j_istore (np := 100) (lv2 := [(5, .int b2.1), (0, .ref (E.2.1 + v0)), (1, .int v1), (2, .int v2), (3, .int v3), (4, .int v4), (6, .int v6)]) (by decide) dX10_round_98 rfl rfl ?_
        refine j_iinc (q := 6) (np := 103) (lv2 := [(6, .int (v6 + (1 : Int32))), (5, .int b2.1), (0, .ref (E.2.1 + v0)), (1, .int v1), (2, .int v2), (3, .int v3), (4, .int v4)]) rfl (congrArg _ ci_1) (by decide) dX10_round_100 rfl rfl ?_
        refine j_goto (tgt := 76) dX10_round_103 rfl ?_
        refine j_sub (lv2 := [(0, .ref (E.2.1 + v0)), (1, .int v1), (2, .int v2), (3, .int v3), (4, .int v4), (5, .int b2.1), (6, .int (v6 + (1 : Int32)))]) [2, 3, 4, 5, 6, 1, 0] rfl ?_
        exact ih _ _ _
def kX10_round_153 (N : Nat) (rec : Int32 → qM → Option (qM)) (v0 : Nat) (v1 : Int32) (v2 : Int32) (v3 : Int32) (v4 : Int32)  (m0 : qM) : Option (qM) :=
  rec (v4 + (1 : Int32)) m0
set_option maxRecDepth 100000 in
theorem kbX10_round_153 {E : qE} {N d bc bs : Nat} (hd : 1145 ≤ d) {v0 : Nat} {v1 : Int32} {v2 : Int32} {v3 : Int32} {v4 : Int32}  {m0 : qM} {rec : Int32 → qM → Option (qM)} (hrec : ∀ (v4 : Int32) (m : qM), qB E yX10_round cX10_round 7 (some .int) (fun _ => True) d bc bs 28 [(0, .ref (E.2.1 + v0)), (1, .int v1), (2, .int v2), (3, .int v3), (4, .int v4)] [] m (rec v4 m) (fun o rr => qJ E yX10_round cX10_round 7 (some .int) (fun _ => True) d bc bs 159 [(0, .ref (E.2.1 + v0)), (1, .int v1), (2, .int v2), (3, .int v3)] [] o rr)) : qB E yX10_round cX10_round 7 (some .int) (fun _ => True) d bc bs 153 [(0, .ref (E.2.1 + v0)), (1, .int v1), (2, .int v2), (3, .int v3), (4, .int v4)] [] m0 (kX10_round_153 N rec v0 v1 v2 v3 v4 m0) (fun o rr => qJ E yX10_round cX10_round 7 (some .int) (fun _ => True) d bc bs 159 [(0, .ref (E.2.1 + v0)), (1, .int v1), (2, .int v2), (3, .int v3)] [] o rr) := by
  unfold kX10_round_153
  refine j_iinc (q := 4) (np := 156) (lv2 := [(4, .int (v4 + (1 : Int32))), (0, .ref (E.2.1 + v0)), (1, .int v1), (2, .int v2), (3, .int v3)]) rfl (congrArg _ ci_1) (by decide) dX10_round_153 rfl rfl ?_
  refine j_goto (tgt := 28) dX10_round_156 rfl ?_
  refine j_sub (lv2 := [(0, .ref (E.2.1 + v0)), (1, .int v1), (2, .int v2), (3, .int v3), (4, .int (v4 + (1 : Int32)))]) [1, 2, 3, 4, 0] rfl ?_
  exact hrec _ _
def lX10_round_28 (N : Nat) (v0 : Nat) (v1 : Int32) (v2 : Int32) (v3 : Int32) : Nat → Int32 → qM → Option (qM)
  | 0, _, _ => none
  | n + 1, v4, m0 =>
    if v2 ≤ v4 then (
    some m0
    ) else (
    (qgI m0 v0 10 5).bind fun x1 =>
    if (60 : Int32) ≤ x1 then (
    some m0
    ) else (
    (qChk m0 v0 10 (fX10_detaches_ N v0 v3 v4 m0)).bind fun b2 =>
    if b2.1 < 0 then (
    kX10_round_153 N (lX10_round_28 N v0 v1 v2 v3 n) v0 v1 v2 v3 v4 b2.2
    ) else (
    (qgI b2.2 v0 10 27).bind fun x3 =>
    if x3 ≤ v1 then (
    (qChk b2.2 v0 10 (fX10_puts N v0 (60 : Int32) b2.2)).bind fun b4 =>
    (lX10_round_76 N v0 v1 v2 v3 v4 N (0 : Int32) (0 : Int32) b4).bind fun o5 =>
    if o5.1 = 0 then (
    (qgI o5.2 v0 10 5).bind fun x6 =>
    (qChk o5.2 v0 10 (fX10_puts N v0 x6 o5.2)).bind fun b7 =>
    (qgR b7 v0 10 2).bind fun x8 =>
    (qgI b7 v0 10 5).bind fun x9 =>
    (qwI b7 x8 12 x9 v3).bind fun m10 =>
    (qgR m10 v0 10 3).bind fun x11 =>
    (qgI m10 v0 10 5).bind fun x12 =>
    (qwI m10 x11 12 x12 v4).bind fun m13 =>
    (qgI m13 v0 10 5).bind fun x14 =>
    (qpI m13 v0 10 5 (x14 + (1 : Int32))).bind fun m15 =>
    kX10_round_153 N (lX10_round_28 N v0 v1 v2 v3 n) v0 v1 v2 v3 v4 m15
    ) else (
    kX10_round_153 N (lX10_round_28 N v0 v1 v2 v3 n) v0 v1 v2 v3 v4 o5.2
    )
    ) else (
    kX10_round_153 N (lX10_round_28 N v0 v1 v2 v3 n) v0 v1 v2 v3 v4 b2.2
    )
    )
    )
    )
set_option maxRecDepth 100000 in
theorem lbX10_round_28 {E : qE} {N d bc bs : Nat} (hd : 1145 ≤ d) {v0 : Nat} {v1 : Int32} {v2 : Int32} {v3 : Int32} : ∀ (n : Nat) (v4 : Int32) (m0 : qM), qB E yX10_round cX10_round 7 (some .int) (fun _ => True) d bc bs 28 [(0, .ref (E.2.1 + v0)), (1, .int v1), (2, .int v2), (3, .int v3), (4, .int v4)] [] m0 (lX10_round_28 N v0 v1 v2 v3 n v4 m0) (fun o rr => qJ E yX10_round cX10_round 7 (some .int) (fun _ => True) d bc bs 159 [(0, .ref (E.2.1 + v0)), (1, .int v1), (2, .int v2), (3, .int v3)] [] o rr) := by
  intro n
  induction n with
  | zero =>
    intro v4 m0
    exact j_none
  | succ n ih =>
    intro v4 m0
    unfold lX10_round_28
    refine j_iload (q := 4) (np := 30) rfl dX10_round_28 rfl ?_
    refine j_iload_n (q := 2) (np := 31) rfl rfl dX10_round_30 rfl ?_
    refine j_icmp_ge (tgt := 159) (np := 34) dX10_round_31 rfl rfl ?_ ?_
    · refine j_sub (lv2 := [(0, .ref (E.2.1 + v0)), (1, .int v1), (2, .int v2), (3, .int v3)]) [0, 1, 2, 3] rfl ?_
      exact j_exit (fun rr h => h)
    · refine j_aload_n (q := 0) (np := 35) rfl rfl dX10_round_34 rfl ?_
      refine j_gI (np := 38) flX10_96 dX10_round_35 rfl (fun x1 => ?_)
      refine j_bipush (np := 40) cb_60 dX10_round_38 rfl ?_
      refine j_icmp_ge (tgt := 159) (np := 43) dX10_round_40 rfl rfl ?_ ?_
      · refine j_sub (lv2 := [(0, .ref (E.2.1 + v0)), (1, .int v1), (2, .int v2), (3, .int v3)]) [0, 1, 2, 3] rfl ?_
        exact j_exit (fun rr h => h)
      · refine j_aload_n (q := 0) (np := 44) rfl rfl dX10_round_43 rfl ?_
        refine j_iload_n (q := 3) (np := 45) rfl rfl dX10_round_44 rfl ?_
        refine j_iload (q := 4) (np := 47) rfl dX10_round_45 rfl ?_
        refine j_callVi (ci := 10) (np := 50) (bc := bc) (bs := bs) (cb := 0) (cs := 0) (dd := d - 1) (As := [.int v3, .int v4]) (st := []) caX10_detaches_ mlX10_175 imX10_detaches_ seX10_detaches_ rfl rfl (by decide) (fun b hb => wX10_detaches_ (by omega) hb) (by omega) rfl rfl (Nat.le_of_ble_eq_true rfl) dX10_round_47 rfl (fun b2 => ?_)
        refine j_if_lt (tgt := 153) (np := 53) dX10_round_50 rfl rfl ?_ ?_
        · exact kbX10_round_153 hd ih
        · refine j_aload_n (q := 0) (np := 54) rfl rfl dX10_round_53 rfl ?_
          refine j_gI (np := 57) flX10_109 dX10_round_54 rfl (fun x3 => ?_)
          refine j_iload_n (q := 1) (np := 58) rfl rfl dX10_round_57 rfl ?_
          refine j_icmp_le (tgt := 64) (np := 61) dX10_round_58 rfl rfl ?_ ?_
          · refine j_aload_n (q := 0) (np := 65) rfl rfl dX10_round_64 rfl ?_
            refine j_bipush (np := 67) cb_60 dX10_round_65 rfl ?_
            refine j_callVv (ci := 10) (np := 70) (bc := bc) (bs := bs) (cb := 0) (cs := 0) (dd := d - 1) (As := [.int (60 : Int32)]) (st := []) caX10_puts mlX10_121 imX10_puts seX10_puts rfl rfl (by decide) (fun b hb => wX10_puts (by omega) hb) (by omega) rfl rfl (Nat.le_of_ble_eq_true rfl) dX10_round_67 rfl (fun b4 => ?_)
            refine j_iconst (np := 71) ci_0 dX10_round_70 rfl ?_
            refine j_istore (np := 73) (lv2 := [(5, .int (0 : Int32)), (0, .ref (E.2.1 + v0)), (1, .int v1), (2, .int v2), (3, .int v3), (4, .int v4)]) (by decide) dX10_round_71 rfl rfl ?_
            refine j_iconst (np := 74) ci_0 dX10_round_73 rfl ?_
            refine j_istore (np := 76) (lv2 := [(6, .int (0 : Int32)), (5, .int (0 : Int32)), (0, .ref (E.2.1 + v0)), (1, .int v1), (2, .int v2), (3, .int v3), (4, .int v4)]) (by decide) dX10_round_74 rfl rfl ?_
            refine j_sub (lv2 := [(0, .ref (E.2.1 + v0)), (1, .int v1), (2, .int v2), (3, .int v3), (4, .int v4), (5, .int (0 : Int32)), (6, .int (0 : Int32))]) [2, 3, 4, 5, 6, 1, 0] rfl ?_
            refine j_loop (xp := 106) (lvX := fun o5 => [(0, .ref (E.2.1 + v0)), (1, .int v1), (2, .int v2), (3, .int v3), (4, .int v4), (5, .int o5.1)]) (mX := fun o5 => o5.2) (lbX10_round_76 hd _ _ _ _) (fun o5 => ?_)
            refine j_iload (q := 5) (np := 108) rfl dX10_round_106 rfl ?_
            refine j_if_eq (tgt := 114) (np := 111) dX10_round_108 rfl rfl ?_ ?_
            · refine j_aload_n (q := 0) (np := 115) rfl rfl dX10_round_114 rfl ?_
              refine j_aload_n (q := 0) (np := 116) rfl rfl dX10_round_115 rfl ?_
              refine j_gI (np := 119) flX10_96 dX10_round_116 rfl (fun x6 => ?_)
              refine j_callVv (ci := 10) (np := 122) (bc := bc) (bs := bs) (cb := 0) (cs := 0) (dd := d - 1) (As := [.int x6]) (st := []) caX10_puts mlX10_121 imX10_puts seX10_puts rfl rfl (by decide) (fun b hb => wX10_puts (by omega) hb) (by omega) rfl rfl (Nat.le_of_ble_eq_true rfl) dX10_round_119 rfl (fun b7 => ?_)
              refine j_aload_n (q := 0) (np := 123) rfl rfl dX10_round_122 rfl ?_
              refine j_gR (np := 126) flX10_16 dX10_round_123 rfl (fun x8 => ?_)
              refine j_aload_n (q := 0) (np := 127) rfl rfl dX10_round_126 rfl ?_
              refine j_gI (np := 130) flX10_96 dX10_round_127 rfl (fun x9 => ?_)
              refine j_iload_n (q := 3) (np := 131) rfl rfl dX10_round_130 rfl ?_
              refine j_iastore (np := 132) dX10_round_131 rfl (fun m10 => ?_)
              refine j_aload_n (q := 0) (np := 133) rfl rfl dX10_round_132 rfl ?_
              refine j_gR (np := 136) flX10_19 dX10_round_133 rfl (fun x11 => ?_)
              refine j_aload_n (q := 0) (np := 137) rfl rfl dX10_round_136 rfl ?_
              refine j_gI (np := 140) flX10_96 dX10_round_137 rfl (fun x12 => ?_)
              refine j_iload (q := 4) (np := 142) rfl dX10_round_140 rfl ?_
              refine j_iastore (np := 143) dX10_round_142 rfl (fun m13 => ?_)
              refine j_aload_n (q := 0) (np := 144) rfl rfl dX10_round_143 rfl ?_
              refine j_dup (np := 145) rfl dX10_round_144 rfl ?_
              refine j_gI (np := 148) flX10_96 dX10_round_145 rfl (fun x14 => ?_)
              refine j_iconst (np := 149) ci_1 dX10_round_148 rfl ?_
              refine j_iadd (np := 150) dX10_round_149 rfl ?_
              refine j_pI (np := 153) flX10_96 dX10_round_150 rfl (fun m15 => ?_)
              refine j_sub (lv2 := [(0, .ref (E.2.1 + v0)), (1, .int v1), (2, .int v2), (3, .int v3), (4, .int v4)]) [0, 1, 2, 3, 4] rfl ?_
              exact kbX10_round_153 hd ih
            · refine j_goto (tgt := 153) dX10_round_111 rfl ?_
              refine j_sub (lv2 := [(0, .ref (E.2.1 + v0)), (1, .int v1), (2, .int v2), (3, .int v3), (4, .int v4)]) [0, 1, 2, 3, 4] rfl ?_
              exact kbX10_round_153 hd ih
          · refine j_goto (tgt := 153) dX10_round_61 rfl ?_
            exact kbX10_round_153 hd ih
def lX10_round_20 (N : Nat) (v0 : Nat) (v1 : Int32) (v2 : Int32) : Nat → Int32 → qM → Option (qM)
  | 0, _, _ => none
  | n + 1, v3, m0 =>
    if v2 ≤ v3 then (
    some m0
    ) else (
    (lX10_round_28 N v0 v1 v2 v3 N (0 : Int32) m0).bind fun o1 =>
    lX10_round_20 N v0 v1 v2 n (v3 + (1 : Int32)) o1
    )
set_option maxRecDepth 100000 in
theorem lbX10_round_20 {E : qE} {N d bc bs : Nat} (hd : 1145 ≤ d) {v0 : Nat} {v1 : Int32} {v2 : Int32} : ∀ (n : Nat) (v3 : Int32) (m0 : qM), qB E yX10_round cX10_round 7 (some .int) (fun _ => True) d bc bs 20 [(0, .ref (E.2.1 + v0)), (1, .int v1), (2, .int v2), (3, .int v3)] [] m0 (lX10_round_20 N v0 v1 v2 n v3 m0) (fun o rr => qJ E yX10_round cX10_round 7 (some .int) (fun _ => True) d bc bs 165 [(0, .ref (E.2.1 + v0)), (2, .int v2)] [] o rr) := by
  intro n
  induction n with
  | zero =>
    intro v3 m0
    exact j_none
  | succ n ih =>
    intro v3 m0
    unfold lX10_round_20
    refine j_iload_n (q := 3) (np := 21) rfl rfl dX10_round_20 rfl ?_
    refine j_iload_n (q := 2) (np := 22) rfl rfl dX10_round_21 rfl ?_
    refine j_icmp_ge (tgt := 165) (np := 25) dX10_round_22 rfl rfl ?_ ?_
    · refine j_sub (lv2 := [(0, .ref (E.2.1 + v0)), (2, .int v2)]) [0, 2] rfl ?_
      exact j_exit (fun rr h => h)
    · refine j_iconst (np := 26) ci_0 dX10_round_25 rfl ?_
      refine j_istore (np := 28) (lv2 := [(4, .int (0 : Int32)), (0, .ref (E.2.1 + v0)), (1, .int v1), (2, .int v2), (3, .int v3)]) (by decide) dX10_round_26 rfl rfl ?_
      refine j_sub (lv2 := [(0, .ref (E.2.1 + v0)), (1, .int v1), (2, .int v2), (3, .int v3), (4, .int (0 : Int32))]) [1, 2, 3, 4, 0] rfl ?_
      refine j_loop (xp := 159) (lvX := fun o1 => [(0, .ref (E.2.1 + v0)), (1, .int v1), (2, .int v2), (3, .int v3)]) (mX := fun o1 => o1) (lbX10_round_28 hd _ _ _) (fun o1 => ?_)
      refine j_iinc (q := 3) (np := 162) (lv2 := [(3, .int (v3 + (1 : Int32))), (0, .ref (E.2.1 + v0)), (1, .int v1), (2, .int v2)]) rfl (congrArg _ ci_1) (by decide) dX10_round_159 rfl rfl ?_
      refine j_goto (tgt := 20) dX10_round_162 rfl ?_
      refine j_sub (lv2 := [(0, .ref (E.2.1 + v0)), (1, .int v1), (2, .int v2), (3, .int (v3 + (1 : Int32)))]) [1, 2, 3, 0] rfl ?_
      exact ih _ _
def fX10_round (N : Nat) (v0 : Nat) (v1 : Int32) (m0 : qM) : Option (Int32 × qM) :=
  (fX10_in N v1 (1 : Int32) (39 : Int32) m0).bind fun b1 =>
  if b1.1 = 0 then (
  some ((-2 : Int32), b1.2)
  ) else (
  (qgI b1.2 v0 10 5).bind fun x2 =>
  (lX10_round_20 N v0 v1 x2 N (0 : Int32) b1.2).bind fun o3 =>
  (qgI o3 v0 10 5).bind fun x4 =>
  some (x4 - x2, o3)
  )
set_option maxRecDepth 100000 in
theorem bX10_round {E : qE} {N d bc bs : Nat} (hd : 1145 ≤ d) {v0 : Nat} {v1 : Int32} {m0 : qM} : qB E yX10_round cX10_round 7 (some .int) (fun _ => True) d bc bs 0 [(0, .ref (E.2.1 + v0)), (1, .int v1)] [] m0 (fX10_round N v0 v1 m0) (fun b rr => rr = (some (.int b.1), b.2)) := by
  unfold fX10_round
  refine j_iload_n (q := 1) (np := 1) rfl rfl dX10_round_0 rfl ?_
  refine j_iconst (np := 2) ci_1 dX10_round_1 rfl ?_
  refine j_bipush (np := 4) cb_39 dX10_round_2 rfl ?_
  refine j_callSi (np := 7) (bc := bc) (bs := bs) (cb := 0) (cs := 0) (dd := d - 1) (As := [.int v1, .int (1 : Int32), .int (39 : Int32)]) (st := []) caX10_in mlX10_99 stX10_in (fun b hb => wX10_in (by omega) hb) (by omega) rfl rfl (Nat.le_of_ble_eq_true rfl) dX10_round_4 rfl (fun b1 => ?_)
  refine j_if_ne (tgt := 13) (np := 10) dX10_round_7 rfl rfl ?_ ?_
  · refine j_aload_n (q := 0) (np := 14) rfl rfl dX10_round_13 rfl ?_
    refine j_gI (np := 17) flX10_96 dX10_round_14 rfl (fun x2 => ?_)
    refine j_istore_n (np := 18) (lv2 := [(2, .int x2), (0, .ref (E.2.1 + v0)), (1, .int v1)]) rfl (by decide) dX10_round_17 rfl rfl ?_
    refine j_iconst (np := 19) ci_0 dX10_round_18 rfl ?_
    refine j_istore_n (np := 20) (lv2 := [(3, .int (0 : Int32)), (2, .int x2), (0, .ref (E.2.1 + v0)), (1, .int v1)]) rfl (by decide) dX10_round_19 rfl rfl ?_
    refine j_sub (lv2 := [(0, .ref (E.2.1 + v0)), (1, .int v1), (2, .int x2), (3, .int (0 : Int32))]) [2, 3, 1, 0] rfl ?_
    refine j_loop (xp := 165) (lvX := fun o3 => [(0, .ref (E.2.1 + v0)), (2, .int x2)]) (mX := fun o3 => o3) (lbX10_round_20 hd _ _ _) (fun o3 => ?_)
    refine j_aload_n (q := 0) (np := 166) rfl rfl dX10_round_165 rfl ?_
    refine j_gI (np := 169) flX10_96 dX10_round_166 rfl (fun x4 => ?_)
    refine j_iload_n (q := 1) (np := 170) rfl rfl dX10_round_169 rfl ?_
    refine j_isub (np := 171) dX10_round_170 rfl ?_
    exact j_iret rfl dX10_round_171 (fun rr h => h)
  · refine j_bipush (np := 12) cb_m2 dX10_round_10 rfl ?_
    exact j_iret rfl dX10_round_12 (fun rr h => h)
set_option maxRecDepth 100000 in
theorem wX10_round {E : qE} {N d : Nat} (hd : 1145 ≤ d) {v0 : Nat} {v1 : Int32} {m0 : qM} {b : Int32 × qM} (h : fX10_round N v0 v1 m0 = some b) : qRun E yX10_round cX10_round 7 (some .int) d 0 0 [.ref (E.2.1 + v0), .int v1] m0 (some (.int b.1), b.2) := q_met pnX10 (Nat.le_of_ble_eq_true rfl) (bX10_round hd b _ h rfl)
theorem dX10_shortest_0 : decode cX10_shortest 0 = .ok (.aload_n 0, 1) := by decide +kernel
theorem dX10_shortest_1 : decode cX10_shortest 1 = .ok (.iload_n 1, 1) := by decide +kernel
theorem dX10_shortest_2 : decode cX10_shortest 2 = .ok (.invokevirtual 172, 3) := by decide +kernel
theorem dX10_shortest_5 : decode cX10_shortest 5 = .ok (.ifCond .ne 5, 3) := by decide +kernel
theorem dX10_shortest_8 : decode cX10_shortest 8 = .ok (.iconst (-1), 1) := by decide +kernel
theorem dX10_shortest_9 : decode cX10_shortest 9 = .ok (.ireturn, 1) := by decide +kernel
theorem dX10_shortest_10 : decode cX10_shortest 10 = .ok (.iload_n 2, 1) := by decide +kernel
theorem dX10_shortest_11 : decode cX10_shortest 11 = .ok (.iconst 0, 1) := by decide +kernel
theorem dX10_shortest_12 : decode cX10_shortest 12 = .ok (.iconst 4, 1) := by decide +kernel
theorem dX10_shortest_13 : decode cX10_shortest 13 = .ok (.invokestatic 99, 3) := by decide +kernel
theorem dX10_shortest_16 : decode cX10_shortest 16 = .ok (.ifCond .ne 6, 3) := by decide +kernel
theorem dX10_shortest_19 : decode cX10_shortest 19 = .ok (.bipush (-2), 2) := by decide +kernel
theorem dX10_shortest_21 : decode cX10_shortest 21 = .ok (.ireturn, 1) := by decide +kernel
theorem dX10_shortest_22 : decode cX10_shortest 22 = .ok (.iconst 0, 1) := by decide +kernel
theorem dX10_shortest_23 : decode cX10_shortest 23 = .ok (.istore_n 3, 1) := by decide +kernel
theorem dX10_shortest_24 : decode cX10_shortest 24 = .ok (.iconst 0, 1) := by decide +kernel
theorem dX10_shortest_25 : decode cX10_shortest 25 = .ok (.istore 4, 2) := by decide +kernel
theorem dX10_shortest_27 : decode cX10_shortest 27 = .ok (.iload 4, 2) := by decide +kernel
theorem dX10_shortest_29 : decode cX10_shortest 29 = .ok (.aload_n 0, 1) := by decide +kernel
theorem dX10_shortest_30 : decode cX10_shortest 30 = .ok (.getfield 96, 3) := by decide +kernel
theorem dX10_shortest_33 : decode cX10_shortest 33 = .ok (.if_icmp .ge 89, 3) := by decide +kernel
theorem dX10_shortest_36 : decode cX10_shortest 36 = .ok (.aload_n 0, 1) := by decide +kernel
theorem dX10_shortest_37 : decode cX10_shortest 37 = .ok (.getfield 16, 3) := by decide +kernel
theorem dX10_shortest_40 : decode cX10_shortest 40 = .ok (.iload 4, 2) := by decide +kernel
theorem dX10_shortest_42 : decode cX10_shortest 42 = .ok (.iaload, 1) := by decide +kernel
theorem dX10_shortest_43 : decode cX10_shortest 43 = .ok (.ifCond .lt 6, 3) := by decide +kernel
theorem dX10_shortest_46 : decode cX10_shortest 46 = .ok (.goto 70, 3) := by decide +kernel
theorem dX10_shortest_49 : decode cX10_shortest 49 = .ok (.aload_n 0, 1) := by decide +kernel
theorem dX10_shortest_50 : decode cX10_shortest 50 = .ok (.aload_n 0, 1) := by decide +kernel
theorem dX10_shortest_51 : decode cX10_shortest 51 = .ok (.getfield 13, 3) := by decide +kernel
theorem dX10_shortest_54 : decode cX10_shortest 54 = .ok (.iload 4, 2) := by decide +kernel
theorem dX10_shortest_56 : decode cX10_shortest 56 = .ok (.iaload, 1) := by decide +kernel
theorem dX10_shortest_57 : decode cX10_shortest 57 = .ok (.putfield 109, 3) := by decide +kernel
theorem dX10_shortest_60 : decode cX10_shortest 60 = .ok (.iconst 0, 1) := by decide +kernel
theorem dX10_shortest_61 : decode cX10_shortest 61 = .ok (.istore 5, 2) := by decide +kernel
theorem dX10_shortest_63 : decode cX10_shortest 63 = .ok (.iload 5, 2) := by decide +kernel
theorem dX10_shortest_65 : decode cX10_shortest 65 = .ok (.aload_n 0, 1) := by decide +kernel
theorem dX10_shortest_66 : decode cX10_shortest 66 = .ok (.getfield 109, 3) := by decide +kernel
theorem dX10_shortest_69 : decode cX10_shortest 69 = .ok (.if_icmp .ge 29, 3) := by decide +kernel
theorem dX10_shortest_72 : decode cX10_shortest 72 = .ok (.aload_n 0, 1) := by decide +kernel
theorem dX10_shortest_73 : decode cX10_shortest 73 = .ok (.getfield 66, 3) := by decide +kernel
theorem dX10_shortest_76 : decode cX10_shortest 76 = .ok (.iload 5, 2) := by decide +kernel
theorem dX10_shortest_78 : decode cX10_shortest 78 = .ok (.aload_n 0, 1) := by decide +kernel
theorem dX10_shortest_79 : decode cX10_shortest 79 = .ok (.getfield 9, 3) := by decide +kernel
theorem dX10_shortest_82 : decode cX10_shortest 82 = .ok (.bipush 39, 2) := by decide +kernel
theorem dX10_shortest_84 : decode cX10_shortest 84 = .ok (.iload 4, 2) := by decide +kernel
theorem dX10_shortest_86 : decode cX10_shortest 86 = .ok (.imul, 1) := by decide +kernel
theorem dX10_shortest_87 : decode cX10_shortest 87 = .ok (.iload 5, 2) := by decide +kernel
theorem dX10_shortest_89 : decode cX10_shortest 89 = .ok (.iadd, 1) := by decide +kernel
theorem dX10_shortest_90 : decode cX10_shortest 90 = .ok (.iaload, 1) := by decide +kernel
theorem dX10_shortest_91 : decode cX10_shortest 91 = .ok (.iastore, 1) := by decide +kernel
theorem dX10_shortest_92 : decode cX10_shortest 92 = .ok (.iinc 5 1, 3) := by decide +kernel
theorem dX10_shortest_95 : decode cX10_shortest 95 = .ok (.goto (-32), 3) := by decide +kernel
theorem dX10_shortest_98 : decode cX10_shortest 98 = .ok (.aload_n 0, 1) := by decide +kernel
theorem dX10_shortest_99 : decode cX10_shortest 99 = .ok (.bipush 60, 2) := by decide +kernel
theorem dX10_shortest_101 : decode cX10_shortest 101 = .ok (.iload_n 3, 1) := by decide +kernel
theorem dX10_shortest_102 : decode cX10_shortest 102 = .ok (.iadd, 1) := by decide +kernel
theorem dX10_shortest_103 : decode cX10_shortest 103 = .ok (.invokevirtual 121, 3) := by decide +kernel
theorem dX10_shortest_106 : decode cX10_shortest 106 = .ok (.aload_n 0, 1) := by decide +kernel
theorem dX10_shortest_107 : decode cX10_shortest 107 = .ok (.getfield 22, 3) := by decide +kernel
theorem dX10_shortest_110 : decode cX10_shortest 110 = .ok (.iload_n 3, 1) := by decide +kernel
theorem dX10_shortest_111 : decode cX10_shortest 111 = .ok (.iinc 3 1, 3) := by decide +kernel
theorem dX10_shortest_114 : decode cX10_shortest 114 = .ok (.iconst 0, 1) := by decide +kernel
theorem dX10_shortest_115 : decode cX10_shortest 115 = .ok (.iastore, 1) := by decide +kernel
theorem dX10_shortest_116 : decode cX10_shortest 116 = .ok (.iinc 4 1, 3) := by decide +kernel
theorem dX10_shortest_119 : decode cX10_shortest 119 = .ok (.goto (-92), 3) := by decide +kernel
theorem dX10_shortest_122 : decode cX10_shortest 122 = .ok (.iconst 0, 1) := by decide +kernel
theorem dX10_shortest_123 : decode cX10_shortest 123 = .ok (.istore 4, 2) := by decide +kernel
theorem dX10_shortest_125 : decode cX10_shortest 125 = .ok (.iload 4, 2) := by decide +kernel
theorem dX10_shortest_127 : decode cX10_shortest 127 = .ok (.iload_n 2, 1) := by decide +kernel
theorem dX10_shortest_128 : decode cX10_shortest 128 = .ok (.if_icmp .gt 175, 3) := by decide +kernel
theorem dX10_shortest_131 : decode cX10_shortest 131 = .ok (.iload_n 3, 1) := by decide +kernel
theorem dX10_shortest_132 : decode cX10_shortest 132 = .ok (.istore 5, 2) := by decide +kernel
theorem dX10_shortest_134 : decode cX10_shortest 134 = .ok (.iconst 0, 1) := by decide +kernel
theorem dX10_shortest_135 : decode cX10_shortest 135 = .ok (.istore 6, 2) := by decide +kernel
theorem dX10_shortest_137 : decode cX10_shortest 137 = .ok (.iload 6, 2) := by decide +kernel
theorem dX10_shortest_139 : decode cX10_shortest 139 = .ok (.iload 5, 2) := by decide +kernel
theorem dX10_shortest_141 : decode cX10_shortest 141 = .ok (.if_icmp .ge 113, 3) := by decide +kernel
theorem dX10_shortest_144 : decode cX10_shortest 144 = .ok (.iload 4, 2) := by decide +kernel
theorem dX10_shortest_146 : decode cX10_shortest 146 = .ok (.ifCond .le 108, 3) := by decide +kernel
theorem dX10_shortest_149 : decode cX10_shortest 149 = .ok (.iconst 0, 1) := by decide +kernel
theorem dX10_shortest_150 : decode cX10_shortest 150 = .ok (.istore 7, 2) := by decide +kernel
theorem dX10_shortest_152 : decode cX10_shortest 152 = .ok (.iload 7, 2) := by decide +kernel
theorem dX10_shortest_154 : decode cX10_shortest 154 = .ok (.iload 5, 2) := by decide +kernel
theorem dX10_shortest_156 : decode cX10_shortest 156 = .ok (.if_icmp .ge 92, 3) := by decide +kernel
theorem dX10_shortest_159 : decode cX10_shortest 159 = .ok (.aload_n 0, 1) := by decide +kernel
theorem dX10_shortest_160 : decode cX10_shortest 160 = .ok (.getfield 22, 3) := by decide +kernel
theorem dX10_shortest_163 : decode cX10_shortest 163 = .ok (.iload 6, 2) := by decide +kernel
theorem dX10_shortest_165 : decode cX10_shortest 165 = .ok (.iaload, 1) := by decide +kernel
theorem dX10_shortest_166 : decode cX10_shortest 166 = .ok (.aload_n 0, 1) := by decide +kernel
theorem dX10_shortest_167 : decode cX10_shortest 167 = .ok (.getfield 22, 3) := by decide +kernel
theorem dX10_shortest_170 : decode cX10_shortest 170 = .ok (.iload 7, 2) := by decide +kernel
theorem dX10_shortest_172 : decode cX10_shortest 172 = .ok (.iaload, 1) := by decide +kernel
theorem dX10_shortest_173 : decode cX10_shortest 173 = .ok (.iadd, 1) := by decide +kernel
theorem dX10_shortest_174 : decode cX10_shortest 174 = .ok (.iload 4, 2) := by decide +kernel
theorem dX10_shortest_176 : decode cX10_shortest 176 = .ok (.iconst 1, 1) := by decide +kernel
theorem dX10_shortest_177 : decode cX10_shortest 177 = .ok (.isub, 1) := by decide +kernel
theorem dX10_shortest_178 : decode cX10_shortest 178 = .ok (.if_icmp .ne 64, 3) := by decide +kernel
theorem dX10_shortest_181 : decode cX10_shortest 181 = .ok (.aload_n 0, 1) := by decide +kernel
theorem dX10_shortest_182 : decode cX10_shortest 182 = .ok (.bipush 60, 2) := by decide +kernel
theorem dX10_shortest_184 : decode cX10_shortest 184 = .ok (.iload 6, 2) := by decide +kernel
theorem dX10_shortest_186 : decode cX10_shortest 186 = .ok (.iadd, 1) := by decide +kernel
theorem dX10_shortest_187 : decode cX10_shortest 187 = .ok (.bipush 60, 2) := by decide +kernel
theorem dX10_shortest_189 : decode cX10_shortest 189 = .ok (.iload 7, 2) := by decide +kernel
theorem dX10_shortest_191 : decode cX10_shortest 191 = .ok (.iadd, 1) := by decide +kernel
theorem dX10_shortest_192 : decode cX10_shortest 192 = .ok (.invokevirtual 175, 3) := by decide +kernel
theorem dX10_shortest_195 : decode cX10_shortest 195 = .ok (.ifCond .lt 47, 3) := by decide +kernel
theorem dX10_shortest_198 : decode cX10_shortest 198 = .ok (.aload_n 0, 1) := by decide +kernel
theorem dX10_shortest_199 : decode cX10_shortest 199 = .ok (.bipush 60, 2) := by decide +kernel
theorem dX10_shortest_201 : decode cX10_shortest 201 = .ok (.bipush 60, 2) := by decide +kernel
theorem dX10_shortest_203 : decode cX10_shortest 203 = .ok (.iload_n 3, 1) := by decide +kernel
theorem dX10_shortest_204 : decode cX10_shortest 204 = .ok (.iadd, 1) := by decide +kernel
theorem dX10_shortest_205 : decode cX10_shortest 205 = .ok (.invokevirtual 118, 3) := by decide +kernel
theorem dX10_shortest_208 : decode cX10_shortest 208 = .ok (.ifCond .lt 6, 3) := by decide +kernel
theorem dX10_shortest_211 : decode cX10_shortest 211 = .ok (.goto 31, 3) := by decide +kernel
theorem dX10_shortest_214 : decode cX10_shortest 214 = .ok (.iload_n 3, 1) := by decide +kernel
theorem dX10_shortest_215 : decode cX10_shortest 215 = .ok (.bipush 120, 2) := by decide +kernel
theorem dX10_shortest_217 : decode cX10_shortest 217 = .ok (.if_icmp .ne 6, 3) := by decide +kernel
theorem dX10_shortest_220 : decode cX10_shortest 220 = .ok (.bipush (-5), 2) := by decide +kernel
theorem dX10_shortest_222 : decode cX10_shortest 222 = .ok (.ireturn, 1) := by decide +kernel
theorem dX10_shortest_223 : decode cX10_shortest 223 = .ok (.aload_n 0, 1) := by decide +kernel
theorem dX10_shortest_224 : decode cX10_shortest 224 = .ok (.bipush 60, 2) := by decide +kernel
theorem dX10_shortest_226 : decode cX10_shortest 226 = .ok (.iload_n 3, 1) := by decide +kernel
theorem dX10_shortest_227 : decode cX10_shortest 227 = .ok (.iadd, 1) := by decide +kernel
theorem dX10_shortest_228 : decode cX10_shortest 228 = .ok (.invokevirtual 121, 3) := by decide +kernel
theorem dX10_shortest_231 : decode cX10_shortest 231 = .ok (.aload_n 0, 1) := by decide +kernel
theorem dX10_shortest_232 : decode cX10_shortest 232 = .ok (.getfield 22, 3) := by decide +kernel
theorem dX10_shortest_235 : decode cX10_shortest 235 = .ok (.iload_n 3, 1) := by decide +kernel
theorem dX10_shortest_236 : decode cX10_shortest 236 = .ok (.iinc 3 1, 3) := by decide +kernel
theorem dX10_shortest_239 : decode cX10_shortest 239 = .ok (.iload 4, 2) := by decide +kernel
theorem dX10_shortest_241 : decode cX10_shortest 241 = .ok (.iastore, 1) := by decide +kernel
theorem dX10_shortest_242 : decode cX10_shortest 242 = .ok (.iinc 7 1, 3) := by decide +kernel
theorem dX10_shortest_245 : decode cX10_shortest 245 = .ok (.goto (-93), 3) := by decide +kernel
theorem dX10_shortest_248 : decode cX10_shortest 248 = .ok (.iinc 6 1, 3) := by decide +kernel
theorem dX10_shortest_251 : decode cX10_shortest 251 = .ok (.goto (-114), 3) := by decide +kernel
theorem dX10_shortest_254 : decode cX10_shortest 254 = .ok (.iconst 0, 1) := by decide +kernel
theorem dX10_shortest_255 : decode cX10_shortest 255 = .ok (.istore 6, 2) := by decide +kernel
theorem dX10_shortest_257 : decode cX10_shortest 257 = .ok (.iload 6, 2) := by decide +kernel
theorem dX10_shortest_259 : decode cX10_shortest 259 = .ok (.iload_n 3, 1) := by decide +kernel
theorem dX10_shortest_260 : decode cX10_shortest 260 = .ok (.if_icmp .ge 37, 3) := by decide +kernel
theorem dX10_shortest_263 : decode cX10_shortest 263 = .ok (.aload_n 0, 1) := by decide +kernel
theorem dX10_shortest_264 : decode cX10_shortest 264 = .ok (.getfield 22, 3) := by decide +kernel
theorem dX10_shortest_267 : decode cX10_shortest 267 = .ok (.iload 6, 2) := by decide +kernel
theorem dX10_shortest_269 : decode cX10_shortest 269 = .ok (.iaload, 1) := by decide +kernel
theorem dX10_shortest_270 : decode cX10_shortest 270 = .ok (.iload 4, 2) := by decide +kernel
theorem dX10_shortest_272 : decode cX10_shortest 272 = .ok (.if_icmp .ne 19, 3) := by decide +kernel
theorem dX10_shortest_275 : decode cX10_shortest 275 = .ok (.aload_n 0, 1) := by decide +kernel
theorem dX10_shortest_276 : decode cX10_shortest 276 = .ok (.iload_n 1, 1) := by decide +kernel
theorem dX10_shortest_277 : decode cX10_shortest 277 = .ok (.bipush 60, 2) := by decide +kernel
theorem dX10_shortest_279 : decode cX10_shortest 279 = .ok (.iload 6, 2) := by decide +kernel
theorem dX10_shortest_281 : decode cX10_shortest 281 = .ok (.iadd, 1) := by decide +kernel
theorem dX10_shortest_282 : decode cX10_shortest 282 = .ok (.invokevirtual 213, 3) := by decide +kernel
theorem dX10_shortest_285 : decode cX10_shortest 285 = .ok (.ifCond .eq 6, 3) := by decide +kernel
theorem dX10_shortest_288 : decode cX10_shortest 288 = .ok (.iload 4, 2) := by decide +kernel
theorem dX10_shortest_290 : decode cX10_shortest 290 = .ok (.ireturn, 1) := by decide +kernel
theorem dX10_shortest_291 : decode cX10_shortest 291 = .ok (.iinc 6 1, 3) := by decide +kernel
theorem dX10_shortest_294 : decode cX10_shortest 294 = .ok (.goto (-37), 3) := by decide +kernel
theorem dX10_shortest_297 : decode cX10_shortest 297 = .ok (.iinc 4 1, 3) := by decide +kernel
theorem dX10_shortest_300 : decode cX10_shortest 300 = .ok (.goto (-175), 3) := by decide +kernel
theorem dX10_shortest_303 : decode cX10_shortest 303 = .ok (.bipush (-4), 2) := by decide +kernel
theorem dX10_shortest_305 : decode cX10_shortest 305 = .ok (.ireturn, 1) := by decide +kernel
def kX10_shortest_291 (N : Nat) (rec : Int32 → qM → Option ((qM) ⊕ (Int32 × qM))) (v0 : Nat) (v1 : Int32) (v2 : Int32) (v3 : Int32) (v4 : Int32) (v6 : Int32)  (m0 : qM) : Option ((qM) ⊕ (Int32 × qM)) :=
  rec (v6 + (1 : Int32)) m0
set_option maxRecDepth 100000 in
theorem kbX10_shortest_291 {E : qE} {N d bc bs : Nat} (hd : 1145 ≤ d) {v0 : Nat} {v1 : Int32} {v2 : Int32} {v3 : Int32} {v4 : Int32} {v6 : Int32}  {m0 : qM} {rec : Int32 → qM → Option ((qM) ⊕ (Int32 × qM))} (hrec : ∀ (v6 : Int32) (m : qM), qB E yX10_shortest cX10_shortest 8 (some .int) (fun _ => True) d bc bs 257 [(0, .ref (E.2.1 + v0)), (1, .int v1), (2, .int v2), (3, .int v3), (4, .int v4), (6, .int v6)] [] m (rec v6 m) (qGL (fun o rr => qJ E yX10_shortest cX10_shortest 8 (some .int) (fun _ => True) d bc bs 297 [(0, .ref (E.2.1 + v0)), (1, .int v1), (2, .int v2), (3, .int v3), (4, .int v4)] [] o rr) (fun r => (some (.int r.1), r.2)))) : qB E yX10_shortest cX10_shortest 8 (some .int) (fun _ => True) d bc bs 291 [(0, .ref (E.2.1 + v0)), (1, .int v1), (2, .int v2), (3, .int v3), (4, .int v4), (6, .int v6)] [] m0 (kX10_shortest_291 N rec v0 v1 v2 v3 v4 v6 m0) (qGL (fun o rr => qJ E yX10_shortest cX10_shortest 8 (some .int) (fun _ => True) d bc bs 297 [(0, .ref (E.2.1 + v0)), (1, .int v1), (2, .int v2), (3, .int v3), (4, .int v4)] [] o rr) (fun r => (some (.int r.1), r.2))) := by
  unfold kX10_shortest_291
  refine j_iinc (q := 5) (np := 294) (lv2 := [(6, .int (v6 + (1 : Int32))), (0, .ref (E.2.1 + v0)), (1, .int v1), (2, .int v2), (3, .int v3), (4, .int v4)]) rfl (congrArg _ ci_1) (by decide) dX10_shortest_291 rfl rfl ?_
  refine j_goto (tgt := 257) dX10_shortest_294 rfl ?_
  refine j_sub (lv2 := [(0, .ref (E.2.1 + v0)), (1, .int v1), (2, .int v2), (3, .int v3), (4, .int v4), (6, .int (v6 + (1 : Int32)))]) [1, 2, 3, 4, 5, 0] rfl ?_
  exact hrec _ _
def lX10_shortest_257 (N : Nat) (v0 : Nat) (v1 : Int32) (v2 : Int32) (v3 : Int32) (v4 : Int32) : Nat → Int32 → qM → Option ((qM) ⊕ (Int32 × qM))
  | 0, _, _ => none
  | n + 1, v6, m0 =>
    if v3 ≤ v6 then (
    some (.inl m0)
    ) else (
    (qgR m0 v0 10 4).bind fun x1 =>
    (qaI m0 x1 12 v6).bind fun x2 =>
    if x2 = v4 then (
    (qChk m0 v0 10 (fX10_isFrom N v0 v1 ((60 : Int32) + v6) m0)).bind fun b3 =>
    if b3.1 = 0 then (
    kX10_shortest_291 N (lX10_shortest_257 N v0 v1 v2 v3 v4 n) v0 v1 v2 v3 v4 v6 b3.2
    ) else (
    some (.inr (v4, b3.2))
    )
    ) else (
    kX10_shortest_291 N (lX10_shortest_257 N v0 v1 v2 v3 v4 n) v0 v1 v2 v3 v4 v6 m0
    )
    )
set_option maxRecDepth 100000 in
theorem lbX10_shortest_257 {E : qE} {N d bc bs : Nat} (hd : 1145 ≤ d) {v0 : Nat} {v1 : Int32} {v2 : Int32} {v3 : Int32} {v4 : Int32} : ∀ (n : Nat) (v6 : Int32) (m0 : qM), qB E yX10_shortest cX10_shortest 8 (some .int) (fun _ => True) d bc bs 257 [(0, .ref (E.2.1 + v0)), (1, .int v1), (2, .int v2), (3, .int v3), (4, .int v4), (6, .int v6)] [] m0 (lX10_shortest_257 N v0 v1 v2 v3 v4 n v6 m0) (qGL (fun o rr => qJ E yX10_shortest cX10_shortest 8 (some .int) (fun _ => True) d bc bs 297 [(0, .ref (E.2.1 + v0)), (1, .int v1), (2, .int v2), (3, .int v3), (4, .int v4)] [] o rr) (fun r => (some (.int r.1), r.2))) := by
  intro n
  induction n with
  | zero =>
    intro v6 m0
    exact j_none
  | succ n ih =>
    intro v6 m0
    unfold lX10_shortest_257
    refine j_iload (q := 5) (np := 259) rfl dX10_shortest_257 rfl ?_
    refine j_iload_n (q := 3) (np := 260) rfl rfl dX10_shortest_259 rfl ?_
    refine j_icmp_ge (tgt := 297) (np := 263) dX10_shortest_260 rfl rfl ?_ ?_
    · refine j_sub (lv2 := [(0, .ref (E.2.1 + v0)), (1, .int v1), (2, .int v2), (3, .int v3), (4, .int v4)]) [0, 1, 2, 3, 4] rfl ?_
      exact j_exit (fun rr h => h)
    · refine j_aload_n (q := 0) (np := 264) rfl rfl dX10_shortest_263 rfl ?_
      refine j_gR (np := 267) flX10_22 dX10_shortest_264 rfl (fun x1 => ?_)
      refine j_iload (q := 5) (np := 269) rfl dX10_shortest_267 rfl ?_
      refine j_iaload (np := 270) dX10_shortest_269 rfl (fun x2 => ?_)
      refine j_iload (q := 4) (np := 272) rfl dX10_shortest_270 rfl ?_
      refine j_icmp_ne (tgt := 291) (np := 275) dX10_shortest_272 rfl rfl ?_ ?_
      · exact kbX10_shortest_291 hd ih
      · refine j_aload_n (q := 0) (np := 276) rfl rfl dX10_shortest_275 rfl ?_
        refine j_iload_n (q := 1) (np := 277) rfl rfl dX10_shortest_276 rfl ?_
        refine j_bipush (np := 279) cb_60 dX10_shortest_277 rfl ?_
        refine j_iload (q := 5) (np := 281) rfl dX10_shortest_279 rfl ?_
        refine j_iadd (np := 282) dX10_shortest_281 rfl ?_
        refine j_callVi (ci := 10) (np := 285) (bc := bc) (bs := bs) (cb := 0) (cs := 0) (dd := d - 1) (As := [.int v1, .int ((60 : Int32) + v6)]) (st := []) caX10_isFrom mlX10_213 imX10_isFrom seX10_isFrom rfl rfl (by decide) (fun b hb => wX10_isFrom (by omega) hb) (by omega) rfl rfl (Nat.le_of_ble_eq_true rfl) dX10_shortest_282 rfl (fun b3 => ?_)
        refine j_if_eq (tgt := 291) (np := 288) dX10_shortest_285 rfl rfl ?_ ?_
        · exact kbX10_shortest_291 hd ih
        · refine j_iload (q := 4) (np := 290) rfl dX10_shortest_288 rfl ?_
          exact j_iret rfl dX10_shortest_290 (fun rr h => h)
def kX10_shortest_242 (N : Nat) (rec : Int32 → Int32 → qM → Option ((Int32 × qM) ⊕ (Int32 × qM))) (v0 : Nat) (v1 : Int32) (v2 : Int32) (v3 : Int32) (v4 : Int32) (v5 : Int32) (v6 : Int32) (v7 : Int32)  (m0 : qM) : Option ((Int32 × qM) ⊕ (Int32 × qM)) :=
  rec v3 (v7 + (1 : Int32)) m0
set_option maxRecDepth 100000 in
theorem kbX10_shortest_242 {E : qE} {N d bc bs : Nat} (hd : 1145 ≤ d) {v0 : Nat} {v1 : Int32} {v2 : Int32} {v3 : Int32} {v4 : Int32} {v5 : Int32} {v6 : Int32} {v7 : Int32}  {m0 : qM} {rec : Int32 → Int32 → qM → Option ((Int32 × qM) ⊕ (Int32 × qM))} (hrec : ∀ (v3 : Int32) (v7 : Int32) (m : qM), qB E yX10_shortest cX10_shortest 8 (some .int) (fun _ => True) d bc bs 152 [(0, .ref (E.2.1 + v0)), (1, .int v1), (2, .int v2), (3, .int v3), (4, .int v4), (5, .int v5), (6, .int v6), (7, .int v7)] [] m (rec v3 v7 m) (qGL (fun o rr => qJ E yX10_shortest cX10_shortest 8 (some .int) (fun _ => True) d bc bs 248 [(0, .ref (E.2.1 + v0)), (1, .int v1), (2, .int v2), (3, .int o.1), (4, .int v4), (5, .int v5), (6, .int v6)] [] o.2 rr) (fun r => (some (.int r.1), r.2)))) : qB E yX10_shortest cX10_shortest 8 (some .int) (fun _ => True) d bc bs 242 [(0, .ref (E.2.1 + v0)), (1, .int v1), (2, .int v2), (3, .int v3), (4, .int v4), (5, .int v5), (6, .int v6), (7, .int v7)] [] m0 (kX10_shortest_242 N rec v0 v1 v2 v3 v4 v5 v6 v7 m0) (qGL (fun o rr => qJ E yX10_shortest cX10_shortest 8 (some .int) (fun _ => True) d bc bs 248 [(0, .ref (E.2.1 + v0)), (1, .int v1), (2, .int v2), (3, .int o.1), (4, .int v4), (5, .int v5), (6, .int v6)] [] o.2 rr) (fun r => (some (.int r.1), r.2))) := by
  unfold kX10_shortest_242
  refine j_iinc (q := 7) (np := 245) (lv2 := [(7, .int (v7 + (1 : Int32))), (0, .ref (E.2.1 + v0)), (1, .int v1), (2, .int v2), (3, .int v3), (4, .int v4), (5, .int v5), (6, .int v6)]) rfl (congrArg _ ci_1) (by decide) dX10_shortest_242 rfl rfl ?_
  refine j_goto (tgt := 152) dX10_shortest_245 rfl ?_
  refine j_sub (lv2 := [(0, .ref (E.2.1 + v0)), (1, .int v1), (2, .int v2), (3, .int v3), (4, .int v4), (5, .int v5), (6, .int v6), (7, .int (v7 + (1 : Int32)))]) [1, 2, 3, 4, 5, 6, 7, 0] rfl ?_
  exact hrec _ _ _
def lX10_shortest_152 (N : Nat) (v0 : Nat) (v1 : Int32) (v2 : Int32) (v4 : Int32) (v5 : Int32) (v6 : Int32) : Nat → Int32 → Int32 → qM → Option ((Int32 × qM) ⊕ (Int32 × qM))
  | 0, _, _, _ => none
  | n + 1, v3, v7, m0 =>
    if v5 ≤ v7 then (
    some (.inl (v3, m0))
    ) else (
    (qgR m0 v0 10 4).bind fun x1 =>
    (qaI m0 x1 12 v6).bind fun x2 =>
    (qgR m0 v0 10 4).bind fun x3 =>
    (qaI m0 x3 12 v7).bind fun x4 =>
    if x2 + x4 = v4 - (1 : Int32) then (
    (qChk m0 v0 10 (fX10_detaches_ N v0 ((60 : Int32) + v6) ((60 : Int32) + v7) m0)).bind fun b5 =>
    if b5.1 < 0 then (
    kX10_shortest_242 N (lX10_shortest_152 N v0 v1 v2 v4 v5 v6 n) v0 v1 v2 v3 v4 v5 v6 v7 b5.2
    ) else (
    (qChk b5.2 v0 10 (fX10_place N v0 (60 : Int32) ((60 : Int32) + v3) b5.2)).bind fun b6 =>
    if b6.1 < 0 then (
    if v3 = (120 : Int32) then (
    some (.inr ((-5 : Int32), b6.2))
    ) else (
    (qChk b6.2 v0 10 (fX10_puts N v0 ((60 : Int32) + v3) b6.2)).bind fun b7 =>
    (qgR b7 v0 10 4).bind fun x8 =>
    (qwI b7 x8 12 v3 v4).bind fun m9 =>
    kX10_shortest_242 N (lX10_shortest_152 N v0 v1 v2 v4 v5 v6 n) v0 v1 v2 (v3 + (1 : Int32)) v4 v5 v6 v7 m9
    )
    ) else (
    kX10_shortest_242 N (lX10_shortest_152 N v0 v1 v2 v4 v5 v6 n) v0 v1 v2 v3 v4 v5 v6 v7 b6.2
    )
    )
    ) else (
    kX10_shortest_242 N (lX10_shortest_152 N v0 v1 v2 v4 v5 v6 n) v0 v1 v2 v3 v4 v5 v6 v7 m0
    )
    )
set_option maxRecDepth 100000 in
theorem lbX10_shortest_152 {E : qE} {N d bc bs : Nat} (hd : 1145 ≤ d) {v0 : Nat} {v1 : Int32} {v2 : Int32} {v4 : Int32} {v5 : Int32} {v6 : Int32} : ∀ (n : Nat) (v3 : Int32) (v7 : Int32) (m0 : qM), qB E yX10_shortest cX10_shortest 8 (some .int) (fun _ => True) d bc bs 152 [(0, .ref (E.2.1 + v0)), (1, .int v1), (2, .int v2), (3, .int v3), (4, .int v4), (5, .int v5), (6, .int v6), (7, .int v7)] [] m0 (lX10_shortest_152 N v0 v1 v2 v4 v5 v6 n v3 v7 m0) (qGL (fun o rr => qJ E yX10_shortest cX10_shortest 8 (some .int) (fun _ => True) d bc bs 248 [(0, .ref (E.2.1 + v0)), (1, .int v1), (2, .int v2), (3, .int o.1), (4, .int v4), (5, .int v5), (6, .int v6)] [] o.2 rr) (fun r => (some (.int r.1), r.2))) := by
  intro n
  induction n with
  | zero =>
    intro v3 v7 m0
    exact j_none
  | succ n ih =>
    intro v3 v7 m0
    unfold lX10_shortest_152
    refine j_iload (q := 7) (np := 154) rfl dX10_shortest_152 rfl ?_
    refine j_iload (q := 5) (np := 156) rfl dX10_shortest_154 rfl ?_
    refine j_icmp_ge (tgt := 248) (np := 159) dX10_shortest_156 rfl rfl ?_ ?_
    · refine j_sub (lv2 := [(0, .ref (E.2.1 + v0)), (1, .int v1), (2, .int v2), (3, .int v3), (4, .int v4), (5, .int v5), (6, .int v6)]) [0, 1, 2, 3, 4, 5, 6] rfl ?_
      exact j_exit (fun rr h => h)
    · refine j_aload_n (q := 0) (np := 160) rfl rfl dX10_shortest_159 rfl ?_
      refine j_gR (np := 163) flX10_22 dX10_shortest_160 rfl (fun x1 => ?_)
      refine j_iload (q := 6) (np := 165) rfl dX10_shortest_163 rfl ?_
      refine j_iaload (np := 166) dX10_shortest_165 rfl (fun x2 => ?_)
      refine j_aload_n (q := 0) (np := 167) rfl rfl dX10_shortest_166 rfl ?_
      refine j_gR (np := 170) flX10_22 dX10_shortest_167 rfl (fun x3 => ?_)
      refine j_iload (q := 7) (np := 172) rfl dX10_shortest_170 rfl ?_
      refine j_iaload (np := 173) dX10_shortest_172 rfl (fun x4 => ?_)
      refine j_iadd (np := 174) dX10_shortest_173 rfl ?_
      refine j_iload (q := 4) (np := 176) rfl dX10_shortest_174 rfl ?_
      refine j_iconst (np := 177) ci_1 dX10_shortest_176 rfl ?_
      refine j_isub (np := 178) dX10_shortest_177 rfl ?_
      refine j_icmp_ne (tgt := 242) (np := 181) dX10_shortest_178 rfl rfl ?_ ?_
      · exact kbX10_shortest_242 hd ih
      · refine j_aload_n (q := 0) (np := 182) rfl rfl dX10_shortest_181 rfl ?_
        refine j_bipush (np := 184) cb_60 dX10_shortest_182 rfl ?_
        refine j_iload (q := 6) (np := 186) rfl dX10_shortest_184 rfl ?_
        refine j_iadd (np := 187) dX10_shortest_186 rfl ?_
        refine j_bipush (np := 189) cb_60 dX10_shortest_187 rfl ?_
        refine j_iload (q := 7) (np := 191) rfl dX10_shortest_189 rfl ?_
        refine j_iadd (np := 192) dX10_shortest_191 rfl ?_
        refine j_callVi (ci := 10) (np := 195) (bc := bc) (bs := bs) (cb := 0) (cs := 0) (dd := d - 1) (As := [.int ((60 : Int32) + v6), .int ((60 : Int32) + v7)]) (st := []) caX10_detaches_ mlX10_175 imX10_detaches_ seX10_detaches_ rfl rfl (by decide) (fun b hb => wX10_detaches_ (by omega) hb) (by omega) rfl rfl (Nat.le_of_ble_eq_true rfl) dX10_shortest_192 rfl (fun b5 => ?_)
        refine j_if_lt (tgt := 242) (np := 198) dX10_shortest_195 rfl rfl ?_ ?_
        · exact kbX10_shortest_242 hd ih
        · refine j_aload_n (q := 0) (np := 199) rfl rfl dX10_shortest_198 rfl ?_
          refine j_bipush (np := 201) cb_60 dX10_shortest_199 rfl ?_
          refine j_bipush (np := 203) cb_60 dX10_shortest_201 rfl ?_
          refine j_iload_n (q := 3) (np := 204) rfl rfl dX10_shortest_203 rfl ?_
          refine j_iadd (np := 205) dX10_shortest_204 rfl ?_
          refine j_callVi (ci := 10) (np := 208) (bc := bc) (bs := bs) (cb := 0) (cs := 0) (dd := d - 1) (As := [.int (60 : Int32), .int ((60 : Int32) + v3)]) (st := []) caX10_place mlX10_118 imX10_place seX10_place rfl rfl (by decide) (fun b hb => wX10_place (by omega) hb) (by omega) rfl rfl (Nat.le_of_ble_eq_true rfl) dX10_shortest_205 rfl (fun b6 => ?_)
          refine j_if_lt (tgt := 214) (np := 211) dX10_shortest_208 rfl rfl ?_ ?_
          · refine j_iload_n (q := 3) (np := 215) rfl rfl dX10_shortest_214 rfl ?_
            refine j_bipush (np := 217) cb_120 dX10_shortest_215 rfl ?_
            refine j_icmp_ne (tgt := 223) (np := 220) dX10_shortest_217 rfl rfl ?_ ?_
            · refine j_aload_n (q := 0) (np := 224) rfl rfl dX10_shortest_223 rfl ?_
              refine j_bipush (np := 226) cb_60 dX10_shortest_224 rfl ?_
              refine j_iload_n (q := 3) (np := 227) rfl rfl dX10_shortest_226 rfl ?_
              refine j_iadd (np := 228) dX10_shortest_227 rfl ?_
              refine j_callVv (ci := 10) (np := 231) (bc := bc) (bs := bs) (cb := 0) (cs := 0) (dd := d - 1) (As := [.int ((60 : Int32) + v3)]) (st := []) caX10_puts mlX10_121 imX10_puts seX10_puts rfl rfl (by decide) (fun b hb => wX10_puts (by omega) hb) (by omega) rfl rfl (Nat.le_of_ble_eq_true rfl) dX10_shortest_228 rfl (fun b7 => ?_)
              refine j_aload_n (q := 0) (np := 232) rfl rfl dX10_shortest_231 rfl ?_
              refine j_gR (np := 235) flX10_22 dX10_shortest_232 rfl (fun x8 => ?_)
              refine j_iload_n (q := 3) (np := 236) rfl rfl dX10_shortest_235 rfl ?_
              refine j_iinc (q := 3) (np := 239) (lv2 := [(3, .int (v3 + (1 : Int32))), (0, .ref (E.2.1 + v0)), (1, .int v1), (2, .int v2), (4, .int v4), (5, .int v5), (6, .int v6), (7, .int v7)]) rfl (congrArg _ ci_1) (by decide) dX10_shortest_236 rfl rfl ?_
              refine j_iload (q := 4) (np := 241) rfl dX10_shortest_239 rfl ?_
              refine j_iastore (np := 242) dX10_shortest_241 rfl (fun m9 => ?_)
              refine j_sub (lv2 := [(0, .ref (E.2.1 + v0)), (1, .int v1), (2, .int v2), (3, .int (v3 + (1 : Int32))), (4, .int v4), (5, .int v5), (6, .int v6), (7, .int v7)]) [1, 2, 3, 0, 4, 5, 6, 7] rfl ?_
              exact kbX10_shortest_242 hd ih
            · refine j_bipush (np := 222) cb_m5 dX10_shortest_220 rfl ?_
              exact j_iret rfl dX10_shortest_222 (fun rr h => h)
          · refine j_goto (tgt := 242) dX10_shortest_211 rfl ?_
            exact kbX10_shortest_242 hd ih
def lX10_shortest_137 (N : Nat) (v0 : Nat) (v1 : Int32) (v2 : Int32) (v4 : Int32) (v5 : Int32) : Nat → Int32 → Int32 → qM → Option ((Int32 × qM) ⊕ (Int32 × qM))
  | 0, _, _, _ => none
  | n + 1, v3, v6, m0 =>
    if v5 ≤ v6 then (
    some (.inl (v3, m0))
    ) else (
    if v4 ≤ 0 then (
    some (.inl (v3, m0))
    ) else (
    qTh (lX10_shortest_152 N v0 v1 v2 v4 v5 v6 N v3 (0 : Int32) m0) (fun o1 =>
    lX10_shortest_137 N v0 v1 v2 v4 v5 n o1.1 (v6 + (1 : Int32)) o1.2
    ) (fun r => .inr r)
    )
    )
set_option maxRecDepth 100000 in
theorem lbX10_shortest_137 {E : qE} {N d bc bs : Nat} (hd : 1145 ≤ d) {v0 : Nat} {v1 : Int32} {v2 : Int32} {v4 : Int32} {v5 : Int32} : ∀ (n : Nat) (v3 : Int32) (v6 : Int32) (m0 : qM), qB E yX10_shortest cX10_shortest 8 (some .int) (fun _ => True) d bc bs 137 [(0, .ref (E.2.1 + v0)), (1, .int v1), (2, .int v2), (3, .int v3), (4, .int v4), (5, .int v5), (6, .int v6)] [] m0 (lX10_shortest_137 N v0 v1 v2 v4 v5 n v3 v6 m0) (qGL (fun o rr => qJ E yX10_shortest cX10_shortest 8 (some .int) (fun _ => True) d bc bs 254 [(0, .ref (E.2.1 + v0)), (1, .int v1), (2, .int v2), (3, .int o.1), (4, .int v4)] [] o.2 rr) (fun r => (some (.int r.1), r.2))) := by
  intro n
  induction n with
  | zero =>
    intro v3 v6 m0
    exact j_none
  | succ n ih =>
    intro v3 v6 m0
    unfold lX10_shortest_137
    refine j_iload (q := 6) (np := 139) rfl dX10_shortest_137 rfl ?_
    refine j_iload (q := 5) (np := 141) rfl dX10_shortest_139 rfl ?_
    refine j_icmp_ge (tgt := 254) (np := 144) dX10_shortest_141 rfl rfl ?_ ?_
    · refine j_sub (lv2 := [(0, .ref (E.2.1 + v0)), (1, .int v1), (2, .int v2), (3, .int v3), (4, .int v4)]) [0, 1, 2, 3, 4] rfl ?_
      exact j_exit (fun rr h => h)
    · refine j_iload (q := 4) (np := 146) rfl dX10_shortest_144 rfl ?_
      refine j_if_le (tgt := 254) (np := 149) dX10_shortest_146 rfl rfl ?_ ?_
      · refine j_sub (lv2 := [(0, .ref (E.2.1 + v0)), (1, .int v1), (2, .int v2), (3, .int v3), (4, .int v4)]) [0, 1, 2, 3, 4] rfl ?_
        exact j_exit (fun rr h => h)
      · refine j_iconst (np := 150) ci_0 dX10_shortest_149 rfl ?_
        refine j_istore (np := 152) (lv2 := [(7, .int (0 : Int32)), (0, .ref (E.2.1 + v0)), (1, .int v1), (2, .int v2), (3, .int v3), (4, .int v4), (5, .int v5), (6, .int v6)]) (by decide) dX10_shortest_150 rfl rfl ?_
        refine j_sub (lv2 := [(0, .ref (E.2.1 + v0)), (1, .int v1), (2, .int v2), (3, .int v3), (4, .int v4), (5, .int v5), (6, .int v6), (7, .int (0 : Int32))]) [1, 2, 3, 4, 5, 6, 7, 0] rfl ?_
        refine j_loopG (xp := 248) (lvX := fun o1 => [(0, .ref (E.2.1 + v0)), (1, .int v1), (2, .int v2), (3, .int o1.1), (4, .int v4), (5, .int v5), (6, .int v6)]) (mX := fun o1 => o1.2) (lbX10_shortest_152 hd _ _ _ _) (fun r rr h => h) (fun o1 => ?_)
        refine j_iinc (q := 6) (np := 251) (lv2 := [(6, .int (v6 + (1 : Int32))), (0, .ref (E.2.1 + v0)), (1, .int v1), (2, .int v2), (3, .int o1.1), (4, .int v4), (5, .int v5)]) rfl (congrArg _ ci_1) (by decide) dX10_shortest_248 rfl rfl ?_
        refine j_goto (tgt := 137) dX10_shortest_251 rfl ?_
        refine j_sub (lv2 := [(0, .ref (E.2.1 + v0)), (1, .int v1), (2, .int v2), (3, .int o1.1), (4, .int v4), (5, .int v5), (6, .int (v6 + (1 : Int32)))]) [1, 2, 3, 4, 5, 6, 0] rfl ?_
        exact ih _ _ _
def lX10_shortest_125 (N : Nat) (v0 : Nat) (v1 : Int32) (v2 : Int32) : Nat → Int32 → Int32 → qM → Option ((qM) ⊕ (Int32 × qM))
  | 0, _, _, _ => none
  | n + 1, v3, v4, m0 =>
    if v2 < v4 then (
    some (.inl m0)
    ) else (
    qTh (lX10_shortest_137 N v0 v1 v2 v4 v3 N v3 (0 : Int32) m0) (fun o1 =>
    qTh (lX10_shortest_257 N v0 v1 v2 o1.1 v4 N (0 : Int32) o1.2) (fun o2 =>
    lX10_shortest_125 N v0 v1 v2 n o1.1 (v4 + (1 : Int32)) o2
    ) (fun r => .inr r)
    ) (fun r => .inr r)
    )
set_option maxRecDepth 100000 in
theorem lbX10_shortest_125 {E : qE} {N d bc bs : Nat} (hd : 1145 ≤ d) {v0 : Nat} {v1 : Int32} {v2 : Int32} : ∀ (n : Nat) (v3 : Int32) (v4 : Int32) (m0 : qM), qB E yX10_shortest cX10_shortest 8 (some .int) (fun _ => True) d bc bs 125 [(0, .ref (E.2.1 + v0)), (1, .int v1), (2, .int v2), (3, .int v3), (4, .int v4)] [] m0 (lX10_shortest_125 N v0 v1 v2 n v3 v4 m0) (qGL (fun o rr => qJ E yX10_shortest cX10_shortest 8 (some .int) (fun _ => True) d bc bs 303 [] [] o rr) (fun r => (some (.int r.1), r.2))) := by
  intro n
  induction n with
  | zero =>
    intro v3 v4 m0
    exact j_none
  | succ n ih =>
    intro v3 v4 m0
    unfold lX10_shortest_125
    refine j_iload (q := 4) (np := 127) rfl dX10_shortest_125 rfl ?_
    refine j_iload_n (q := 2) (np := 128) rfl rfl dX10_shortest_127 rfl ?_
    refine j_icmp_gt (tgt := 303) (np := 131) dX10_shortest_128 rfl rfl ?_ ?_
    · refine j_sub (lv2 := []) [] rfl ?_
      exact j_exit (fun rr h => h)
    · refine j_iload_n (q := 3) (np := 132) rfl rfl dX10_shortest_131 rfl ?_
      refine j_istore (np := 134) (lv2 := [(5, .int v3), (0, .ref (E.2.1 + v0)), (1, .int v1), (2, .int v2), (3, .int v3), (4, .int v4)]) (by decide) dX10_shortest_132 rfl rfl ?_
      refine j_iconst (np := 135) ci_0 dX10_shortest_134 rfl ?_
      refine j_istore (np := 137) (lv2 := [(6, .int (0 : Int32)), (5, .int v3), (0, .ref (E.2.1 + v0)), (1, .int v1), (2, .int v2), (3, .int v3), (4, .int v4)]) (by decide) dX10_shortest_135 rfl rfl ?_
      refine j_sub (lv2 := [(0, .ref (E.2.1 + v0)), (1, .int v1), (2, .int v2), (3, .int v3), (4, .int v4), (5, .int v3), (6, .int (0 : Int32))]) [2, 3, 4, 5, 6, 1, 0] rfl ?_
      refine j_loopG (xp := 254) (lvX := fun o1 => [(0, .ref (E.2.1 + v0)), (1, .int v1), (2, .int v2), (3, .int o1.1), (4, .int v4)]) (mX := fun o1 => o1.2) (lbX10_shortest_137 hd _ _ _ _) (fun r rr h => h) (fun o1 => ?_)
      refine j_iconst (np := 255) ci_0 dX10_shortest_254 rfl ?_
      refine j_istore (np := 257) (lv2 := [(6, .int (0 : Int32)), (0, .ref (E.2.1 + v0)), (1, .int v1), (2, .int v2), (3, .int o1.1), (4, .int v4)]) (by decide) dX10_shortest_255 rfl rfl ?_
      refine j_sub (lv2 := [(0, .ref (E.2.1 + v0)), (1, .int v1), (2, .int v2), (3, .int o1.1), (4, .int v4), (6, .int (0 : Int32))]) [1, 2, 3, 4, 5, 0] rfl ?_
      refine j_loopG (xp := 297) (lvX := fun o2 => [(0, .ref (E.2.1 + v0)), (1, .int v1), (2, .int v2), (3, .int o1.1), (4, .int v4)]) (mX := fun o2 => o2) (lbX10_shortest_257 hd _ _ _) (fun r rr h => h) (fun o2 => ?_)
      refine j_iinc (q := 4) (np := 300) (lv2 := [(4, .int (v4 + (1 : Int32))), (0, .ref (E.2.1 + v0)), (1, .int v1), (2, .int v2), (3, .int o1.1)]) rfl (congrArg _ ci_1) (by decide) dX10_shortest_297 rfl rfl ?_
      refine j_goto (tgt := 125) dX10_shortest_300 rfl ?_
      refine j_sub (lv2 := [(0, .ref (E.2.1 + v0)), (1, .int v1), (2, .int v2), (3, .int o1.1), (4, .int (v4 + (1 : Int32)))]) [1, 2, 3, 4, 0] rfl ?_
      exact ih _ _ _
def lX10_shortest_63 (N : Nat) (v0 : Nat) (v1 : Int32) (v2 : Int32) (v3 : Int32) (v4 : Int32) : Nat → Int32 → qM → Option (qM)
  | 0, _, _ => none
  | n + 1, v5, m0 =>
    (qgI m0 v0 10 27).bind fun x1 =>
    if x1 ≤ v5 then (
    some m0
    ) else (
    (qgR m0 v0 10 26).bind fun x2 =>
    (qgR m0 v0 10 0).bind fun x3 =>
    (qaI m0 x3 12 (((39 : Int32) * v4) + v5)).bind fun x4 =>
    (qwI m0 x2 12 v5 x4).bind fun m5 =>
    lX10_shortest_63 N v0 v1 v2 v3 v4 n (v5 + (1 : Int32)) m5
    )
set_option maxRecDepth 100000 in
theorem lbX10_shortest_63 {E : qE} {N d bc bs : Nat} (hd : 1145 ≤ d) {v0 : Nat} {v1 : Int32} {v2 : Int32} {v3 : Int32} {v4 : Int32} : ∀ (n : Nat) (v5 : Int32) (m0 : qM), qB E yX10_shortest cX10_shortest 8 (some .int) (fun _ => True) d bc bs 63 [(0, .ref (E.2.1 + v0)), (1, .int v1), (2, .int v2), (3, .int v3), (4, .int v4), (5, .int v5)] [] m0 (lX10_shortest_63 N v0 v1 v2 v3 v4 n v5 m0) (fun o rr => qJ E yX10_shortest cX10_shortest 8 (some .int) (fun _ => True) d bc bs 98 [(0, .ref (E.2.1 + v0)), (1, .int v1), (2, .int v2), (3, .int v3), (4, .int v4)] [] o rr) := by
  intro n
  induction n with
  | zero =>
    intro v5 m0
    exact j_none
  | succ n ih =>
    intro v5 m0
    unfold lX10_shortest_63
    refine j_iload (q := 5) (np := 65) rfl dX10_shortest_63 rfl ?_
    refine j_aload_n (q := 0) (np := 66) rfl rfl dX10_shortest_65 rfl ?_
    refine j_gI (np := 69) flX10_109 dX10_shortest_66 rfl (fun x1 => ?_)
    refine j_icmp_ge (tgt := 98) (np := 72) dX10_shortest_69 rfl rfl ?_ ?_
    · refine j_sub (lv2 := [(0, .ref (E.2.1 + v0)), (1, .int v1), (2, .int v2), (3, .int v3), (4, .int v4)]) [0, 1, 2, 3, 4] rfl ?_
      exact j_exit (fun rr h => h)
    · refine j_aload_n (q := 0) (np := 73) rfl rfl dX10_shortest_72 rfl ?_
      refine j_gR (np := 76) flX10_66 dX10_shortest_73 rfl (fun x2 => ?_)
      refine j_iload (q := 5) (np := 78) rfl dX10_shortest_76 rfl ?_
      refine j_aload_n (q := 0) (np := 79) rfl rfl dX10_shortest_78 rfl ?_
      refine j_gR (np := 82) flX10_9 dX10_shortest_79 rfl (fun x3 => ?_)
      refine j_bipush (np := 84) cb_39 dX10_shortest_82 rfl ?_
      refine j_iload (q := 4) (np := 86) rfl dX10_shortest_84 rfl ?_
      refine j_imul (np := 87) dX10_shortest_86 rfl ?_
      refine j_iload (q := 5) (np := 89) rfl dX10_shortest_87 rfl ?_
      refine j_iadd (np := 90) dX10_shortest_89 rfl ?_
      refine j_iaload (np := 91) dX10_shortest_90 rfl (fun x4 => ?_)
      refine j_iastore (np := 92) dX10_shortest_91 rfl (fun m5 => ?_)
      refine j_iinc (q := 5) (np := 95) (lv2 := [(5, .int (v5 + (1 : Int32))), (0, .ref (E.2.1 + v0)), (1, .int v1), (2, .int v2), (3, .int v3), (4, .int v4)]) rfl (congrArg _ ci_1) (by decide) dX10_shortest_92 rfl rfl ?_
      refine j_goto (tgt := 63) dX10_shortest_95 rfl ?_
      refine j_sub (lv2 := [(0, .ref (E.2.1 + v0)), (1, .int v1), (2, .int v2), (3, .int v3), (4, .int v4), (5, .int (v5 + (1 : Int32)))]) [1, 2, 3, 4, 5, 0] rfl ?_
      exact ih _ _
def kX10_shortest_116 (N : Nat) (rec : Int32 → Int32 → qM → Option (Int32 × qM)) (v0 : Nat) (v1 : Int32) (v2 : Int32) (v3 : Int32) (v4 : Int32)  (m0 : qM) : Option (Int32 × qM) :=
  rec v3 (v4 + (1 : Int32)) m0
set_option maxRecDepth 100000 in
theorem kbX10_shortest_116 {E : qE} {N d bc bs : Nat} (hd : 1145 ≤ d) {v0 : Nat} {v1 : Int32} {v2 : Int32} {v3 : Int32} {v4 : Int32}  {m0 : qM} {rec : Int32 → Int32 → qM → Option (Int32 × qM)} (hrec : ∀ (v3 : Int32) (v4 : Int32) (m : qM), qB E yX10_shortest cX10_shortest 8 (some .int) (fun _ => True) d bc bs 27 [(0, .ref (E.2.1 + v0)), (1, .int v1), (2, .int v2), (3, .int v3), (4, .int v4)] [] m (rec v3 v4 m) (fun o rr => qJ E yX10_shortest cX10_shortest 8 (some .int) (fun _ => True) d bc bs 122 [(0, .ref (E.2.1 + v0)), (1, .int v1), (2, .int v2), (3, .int o.1)] [] o.2 rr)) : qB E yX10_shortest cX10_shortest 8 (some .int) (fun _ => True) d bc bs 116 [(0, .ref (E.2.1 + v0)), (1, .int v1), (2, .int v2), (3, .int v3), (4, .int v4)] [] m0 (kX10_shortest_116 N rec v0 v1 v2 v3 v4 m0) (fun o rr => qJ E yX10_shortest cX10_shortest 8 (some .int) (fun _ => True) d bc bs 122 [(0, .ref (E.2.1 + v0)), (1, .int v1), (2, .int v2), (3, .int o.1)] [] o.2 rr) := by
  unfold kX10_shortest_116
  refine j_iinc (q := 4) (np := 119) (lv2 := [(4, .int (v4 + (1 : Int32))), (0, .ref (E.2.1 + v0)), (1, .int v1), (2, .int v2), (3, .int v3)]) rfl (congrArg _ ci_1) (by decide) dX10_shortest_116 rfl rfl ?_
  refine j_goto (tgt := 27) dX10_shortest_119 rfl ?_
  refine j_sub (lv2 := [(0, .ref (E.2.1 + v0)), (1, .int v1), (2, .int v2), (3, .int v3), (4, .int (v4 + (1 : Int32)))]) [1, 2, 3, 4, 0] rfl ?_
  exact hrec _ _ _
def lX10_shortest_27 (N : Nat) (v0 : Nat) (v1 : Int32) (v2 : Int32) : Nat → Int32 → Int32 → qM → Option (Int32 × qM)
  | 0, _, _, _ => none
  | n + 1, v3, v4, m0 =>
    (qgI m0 v0 10 5).bind fun x1 =>
    if x1 ≤ v4 then (
    some (v3, m0)
    ) else (
    (qgR m0 v0 10 2).bind fun x2 =>
    (qaI m0 x2 12 v4).bind fun x3 =>
    if x3 < 0 then (
    (qgR m0 v0 10 1).bind fun x4 =>
    (qaI m0 x4 12 v4).bind fun x5 =>
    (qpI m0 v0 10 27 x5).bind fun m6 =>
    (lX10_shortest_63 N v0 v1 v2 v3 v4 N (0 : Int32) m6).bind fun o7 =>
    (qChk o7 v0 10 (fX10_puts N v0 ((60 : Int32) + v3) o7)).bind fun b8 =>
    (qgR b8 v0 10 4).bind fun x9 =>
    (qwI b8 x9 12 v3 (0 : Int32)).bind fun m10 =>
    kX10_shortest_116 N (lX10_shortest_27 N v0 v1 v2 n) v0 v1 v2 (v3 + (1 : Int32)) v4 m10
    ) else (
    kX10_shortest_116 N (lX10_shortest_27 N v0 v1 v2 n) v0 v1 v2 v3 v4 m0
    )
    )
set_option maxRecDepth 100000 in
theorem lbX10_shortest_27 {E : qE} {N d bc bs : Nat} (hd : 1145 ≤ d) {v0 : Nat} {v1 : Int32} {v2 : Int32} : ∀ (n : Nat) (v3 : Int32) (v4 : Int32) (m0 : qM), qB E yX10_shortest cX10_shortest 8 (some .int) (fun _ => True) d bc bs 27 [(0, .ref (E.2.1 + v0)), (1, .int v1), (2, .int v2), (3, .int v3), (4, .int v4)] [] m0 (lX10_shortest_27 N v0 v1 v2 n v3 v4 m0) (fun o rr => qJ E yX10_shortest cX10_shortest 8 (some .int) (fun _ => True) d bc bs 122 [(0, .ref (E.2.1 + v0)), (1, .int v1), (2, .int v2), (3, .int o.1)] [] o.2 rr) := by
  intro n
  induction n with
  | zero =>
    intro v3 v4 m0
    exact j_none
  | succ n ih =>
    intro v3 v4 m0
    unfold lX10_shortest_27
    refine j_iload (q := 4) (np := 29) rfl dX10_shortest_27 rfl ?_
    refine j_aload_n (q := 0) (np := 30) rfl rfl dX10_shortest_29 rfl ?_
    refine j_gI (np := 33) flX10_96 dX10_shortest_30 rfl (fun x1 => ?_)
    refine j_icmp_ge (tgt := 122) (np := 36) dX10_shortest_33 rfl rfl ?_ ?_
    · refine j_sub (lv2 := [(0, .ref (E.2.1 + v0)), (1, .int v1), (2, .int v2), (3, .int v3)]) [0, 1, 2, 3] rfl ?_
      exact j_exit (fun rr h => h)
    · refine j_aload_n (q := 0) (np := 37) rfl rfl dX10_shortest_36 rfl ?_
      refine j_gR (np := 40) flX10_16 dX10_shortest_37 rfl (fun x2 => ?_)
      refine j_iload (q := 4) (np := 42) rfl dX10_shortest_40 rfl ?_
      refine j_iaload (np := 43) dX10_shortest_42 rfl (fun x3 => ?_)
      refine j_if_lt (tgt := 49) (np := 46) dX10_shortest_43 rfl rfl ?_ ?_
      · refine j_aload_n (q := 0) (np := 50) rfl rfl dX10_shortest_49 rfl ?_
        refine j_aload_n (q := 0) (np := 51) rfl rfl dX10_shortest_50 rfl ?_
        refine j_gR (np := 54) flX10_13 dX10_shortest_51 rfl (fun x4 => ?_)
        refine j_iload (q := 4) (np := 56) rfl dX10_shortest_54 rfl ?_
        refine j_iaload (np := 57) dX10_shortest_56 rfl (fun x5 => ?_)
        refine j_pI (np := 60) flX10_109 dX10_shortest_57 rfl (fun m6 => ?_)
        refine j_iconst (np := 61) ci_0 dX10_shortest_60 rfl ?_
        refine j_istore (np := 63) (lv2 := [(5, .int (0 : Int32)), (0, .ref (E.2.1 + v0)), (1, .int v1), (2, .int v2), (3, .int v3), (4, .int v4)]) (by decide) dX10_shortest_61 rfl rfl ?_
        refine j_sub (lv2 := [(0, .ref (E.2.1 + v0)), (1, .int v1), (2, .int v2), (3, .int v3), (4, .int v4), (5, .int (0 : Int32))]) [1, 2, 3, 4, 5, 0] rfl ?_
        refine j_loop (xp := 98) (lvX := fun o7 => [(0, .ref (E.2.1 + v0)), (1, .int v1), (2, .int v2), (3, .int v3), (4, .int v4)]) (mX := fun o7 => o7) (lbX10_shortest_63 hd _ _ _) (fun o7 => ?_)
        refine j_aload_n (q := 0) (np := 99) rfl rfl dX10_shortest_98 rfl ?_
        refine j_bipush (np := 101) cb_60 dX10_shortest_99 rfl ?_
        refine j_iload_n (q := 3) (np := 102) rfl rfl dX10_shortest_101 rfl ?_
        refine j_iadd (np := 103) dX10_shortest_102 rfl ?_
        refine j_callVv (ci := 10) (np := 106) (bc := bc) (bs := bs) (cb := 0) (cs := 0) (dd := d - 1) (As := [.int ((60 : Int32) + v3)]) (st := []) caX10_puts mlX10_121 imX10_puts seX10_puts rfl rfl (by decide) (fun b hb => wX10_puts (by omega) hb) (by omega) rfl rfl (Nat.le_of_ble_eq_true rfl) dX10_shortest_103 rfl (fun b8 => ?_)
        refine j_aload_n (q := 0) (np := 107) rfl rfl dX10_shortest_106 rfl ?_
        refine j_gR (np := 110) flX10_22 dX10_shortest_107 rfl (fun x9 => ?_)
        refine j_iload_n (q := 3) (np := 111) rfl rfl dX10_shortest_110 rfl ?_
        refine j_iinc (q := 3) (np := 114) (lv2 := [(3, .int (v3 + (1 : Int32))), (0, .ref (E.2.1 + v0)), (1, .int v1), (2, .int v2), (4, .int v4)]) rfl (congrArg _ ci_1) (by decide) dX10_shortest_111 rfl rfl ?_
        refine j_iconst (np := 115) ci_0 dX10_shortest_114 rfl ?_
        refine j_iastore (np := 116) dX10_shortest_115 rfl (fun m10 => ?_)
        refine j_sub (lv2 := [(0, .ref (E.2.1 + v0)), (1, .int v1), (2, .int v2), (3, .int (v3 + (1 : Int32))), (4, .int v4)]) [1, 2, 3, 0, 4] rfl ?_
        exact kbX10_shortest_116 hd ih
      · refine j_goto (tgt := 116) dX10_shortest_46 rfl ?_
        exact kbX10_shortest_116 hd ih
def fX10_shortest (N : Nat) (v0 : Nat) (v1 : Int32) (v2 : Int32) (m0 : qM) : Option (Int32 × qM) :=
  (qChk m0 v0 10 (fX10_isOne N v0 v1 m0)).bind fun b1 =>
  if b1.1 = 0 then (
  some ((-1 : Int32), b1.2)
  ) else (
  (fX10_in N v2 (0 : Int32) (4 : Int32) b1.2).bind fun b2 =>
  if b2.1 = 0 then (
  some ((-2 : Int32), b2.2)
  ) else (
  (lX10_shortest_27 N v0 v1 v2 N (0 : Int32) (0 : Int32) b2.2).bind fun o3 =>
  qTh (lX10_shortest_125 N v0 v1 v2 N o3.1 (0 : Int32) o3.2) (fun o4 =>
  some ((-4 : Int32), o4)
  ) (fun r => r)
  )
  )
set_option maxRecDepth 100000 in
theorem bX10_shortest {E : qE} {N d bc bs : Nat} (hd : 1145 ≤ d) {v0 : Nat} {v1 : Int32} {v2 : Int32} {m0 : qM} : qB E yX10_shortest cX10_shortest 8 (some .int) (fun _ => True) d bc bs 0 [(0, .ref (E.2.1 + v0)), (1, .int v1), (2, .int v2)] [] m0 (fX10_shortest N v0 v1 v2 m0) (fun b rr => rr = (some (.int b.1), b.2)) := by
  unfold fX10_shortest
  refine j_aload_n (q := 0) (np := 1) rfl rfl dX10_shortest_0 rfl ?_
  refine j_iload_n (q := 1) (np := 2) rfl rfl dX10_shortest_1 rfl ?_
  refine j_callVi (ci := 10) (np := 5) (bc := bc) (bs := bs) (cb := 0) (cs := 0) (dd := d - 1) (As := [.int v1]) (st := []) caX10_isOne mlX10_172 imX10_isOne seX10_isOne rfl rfl (by decide) (fun b hb => wX10_isOne (by omega) hb) (by omega) rfl rfl (Nat.le_of_ble_eq_true rfl) dX10_shortest_2 rfl (fun b1 => ?_)
  refine j_if_ne (tgt := 10) (np := 8) dX10_shortest_5 rfl rfl ?_ ?_
  · refine j_iload_n (q := 2) (np := 11) rfl rfl dX10_shortest_10 rfl ?_
    refine j_iconst (np := 12) ci_0 dX10_shortest_11 rfl ?_
    refine j_iconst (np := 13) ci_4 dX10_shortest_12 rfl ?_
    refine j_callSi (np := 16) (bc := bc) (bs := bs) (cb := 0) (cs := 0) (dd := d - 1) (As := [.int v2, .int (0 : Int32), .int (4 : Int32)]) (st := []) caX10_in mlX10_99 stX10_in (fun b hb => wX10_in (by omega) hb) (by omega) rfl rfl (Nat.le_of_ble_eq_true rfl) dX10_shortest_13 rfl (fun b2 => ?_)
    refine j_if_ne (tgt := 22) (np := 19) dX10_shortest_16 rfl rfl ?_ ?_
    · refine j_iconst (np := 23) ci_0 dX10_shortest_22 rfl ?_
      refine j_istore_n (np := 24) (lv2 := [(3, .int (0 : Int32)), (0, .ref (E.2.1 + v0)), (1, .int v1), (2, .int v2)]) rfl (by decide) dX10_shortest_23 rfl rfl ?_
      refine j_iconst (np := 25) ci_0 dX10_shortest_24 rfl ?_
      refine j_istore (np := 27) (lv2 := [(4, .int (0 : Int32)), (3, .int (0 : Int32)), (0, .ref (E.2.1 + v0)), (1, .int v1), (2, .int v2)]) (by decide) dX10_shortest_25 rfl rfl ?_
      refine j_sub (lv2 := [(0, .ref (E.2.1 + v0)), (1, .int v1), (2, .int v2), (3, .int (0 : Int32)), (4, .int (0 : Int32))]) [2, 3, 4, 1, 0] rfl ?_
      refine j_loop (xp := 122) (lvX := fun o3 => [(0, .ref (E.2.1 + v0)), (1, .int v1), (2, .int v2), (3, .int o3.1)]) (mX := fun o3 => o3.2) (lbX10_shortest_27 hd _ _ _ _) (fun o3 => ?_)
      refine j_iconst (np := 123) ci_0 dX10_shortest_122 rfl ?_
      refine j_istore (np := 125) (lv2 := [(4, .int (0 : Int32)), (0, .ref (E.2.1 + v0)), (1, .int v1), (2, .int v2), (3, .int o3.1)]) (by decide) dX10_shortest_123 rfl rfl ?_
      refine j_sub (lv2 := [(0, .ref (E.2.1 + v0)), (1, .int v1), (2, .int v2), (3, .int o3.1), (4, .int (0 : Int32))]) [1, 2, 3, 4, 0] rfl ?_
      refine j_loopG (xp := 303) (lvX := fun o4 => []) (mX := fun o4 => o4) (lbX10_shortest_125 hd _ _ _ _) (fun r rr h => h) (fun o4 => ?_)
      refine j_bipush (np := 305) cb_m4 dX10_shortest_303 rfl ?_
      exact j_iret rfl dX10_shortest_305 (fun rr h => h)
    · refine j_bipush (np := 21) cb_m2 dX10_shortest_19 rfl ?_
      exact j_iret rfl dX10_shortest_21 (fun rr h => h)
  · refine j_iconst (np := 9) ci_m1 dX10_shortest_8 rfl ?_
    exact j_iret rfl dX10_shortest_9 (fun rr h => h)
set_option maxRecDepth 100000 in
theorem wX10_shortest {E : qE} {N d : Nat} (hd : 1145 ≤ d) {v0 : Nat} {v1 : Int32} {v2 : Int32} {m0 : qM} {b : Int32 × qM} (h : fX10_shortest N v0 v1 v2 m0 = some b) : qRun E yX10_shortest cX10_shortest 8 (some .int) d 0 0 [.ref (E.2.1 + v0), .int v1, .int v2] m0 (some (.int b.1), b.2) := q_met pnX10 (Nat.le_of_ble_eq_true rfl) (bX10_shortest hd b _ h rfl)
