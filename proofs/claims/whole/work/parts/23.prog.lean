theorem dX7_makeEmpty_0 : decode cX7_makeEmpty 0 = .ok (.aload_n 0, 1) := by decide +kernel
theorem dX7_makeEmpty_1 : decode cX7_makeEmpty 1 = .ok (.iconst 0, 1) := by decide +kernel
theorem dX7_makeEmpty_2 : decode cX7_makeEmpty 2 = .ok (.putfield 15, 3) := by decide +kernel
theorem dX7_makeEmpty_5 : decode cX7_makeEmpty 5 = .ok (.return_, 1) := by decide +kernel
def fX7_makeEmpty (N : Nat) (v0 : Nat) (m0 : qM) : Option (qM) :=
  (qpI m0 v0 7 1 (0 : Int32)).bind fun m1 =>
  some m1
set_option maxRecDepth 100000 in
theorem bX7_makeEmpty {E : qE} {N d bc bs : Nat} (hd : 0 ≤ d) {v0 : Nat} {m0 : qM} : qB E yX7_makeEmpty cX7_makeEmpty 1 none (fun _ => True) d bc bs 0 [(0, .ref (E.2.1 + v0))] [] m0 (fX7_makeEmpty N v0 m0) (fun b rr => rr = (none, b)) := by
  unfold fX7_makeEmpty
  refine j_aload_n (q := 0) (np := 1) rfl rfl dX7_makeEmpty_0 rfl ?_
  refine j_iconst (np := 2) ci_0 dX7_makeEmpty_1 rfl ?_
  refine j_pI (np := 5) flX7_15 dX7_makeEmpty_2 rfl (fun m1 => ?_)
  exact j_vret rfl dX7_makeEmpty_5 (fun rr h => h)
set_option maxRecDepth 100000 in
theorem wX7_makeEmpty {E : qE} {N d : Nat} (hd : 0 ≤ d) {v0 : Nat} {m0 : qM} {b : qM} (h : fX7_makeEmpty N v0 m0 = some b) : qRun E yX7_makeEmpty cX7_makeEmpty 1 none d 0 0 [.ref (E.2.1 + v0)] m0 (none, b) := q_met pnX7 (Nat.le_of_ble_eq_true rfl) (bX7_makeEmpty hd b _ h rfl)
theorem dX8_init_0 : decode cX8_init 0 = .ok (.aload_n 0, 1) := by decide +kernel
theorem dX8_init_1 : decode cX8_init 1 = .ok (.invokespecial 5, 3) := by decide +kernel
theorem dX8_init_4 : decode cX8_init 4 = .ok (.aload_n 0, 1) := by decide +kernel
theorem dX8_init_5 : decode cX8_init 5 = .ok (.bipush 78, 2) := by decide +kernel
theorem dX8_init_7 : decode cX8_init 7 = .ok (.newarray .int, 2) := by decide +kernel
theorem dX8_init_9 : decode cX8_init 9 = .ok (.putfield 11, 3) := by decide +kernel
theorem dX8_init_12 : decode cX8_init 12 = .ok (.aload_n 0, 1) := by decide +kernel
theorem dX8_init_13 : decode cX8_init 13 = .ok (.bipush 78, 2) := by decide +kernel
theorem dX8_init_15 : decode cX8_init 15 = .ok (.newarray .int, 2) := by decide +kernel
theorem dX8_init_17 : decode cX8_init 17 = .ok (.putfield 15, 3) := by decide +kernel
theorem dX8_init_20 : decode cX8_init 20 = .ok (.aload_n 0, 1) := by decide +kernel
theorem dX8_init_21 : decode cX8_init 21 = .ok (.bipush 78, 2) := by decide +kernel
theorem dX8_init_23 : decode cX8_init 23 = .ok (.newarray .int, 2) := by decide +kernel
theorem dX8_init_25 : decode cX8_init 25 = .ok (.putfield 18, 3) := by decide +kernel
theorem dX8_init_28 : decode cX8_init 28 = .ok (.aload_n 0, 1) := by decide +kernel
theorem dX8_init_29 : decode cX8_init 29 = .ok (.bipush 78, 2) := by decide +kernel
theorem dX8_init_31 : decode cX8_init 31 = .ok (.newarray .int, 2) := by decide +kernel
theorem dX8_init_33 : decode cX8_init 33 = .ok (.putfield 21, 3) := by decide +kernel
theorem dX8_init_36 : decode cX8_init 36 = .ok (.aload_n 0, 1) := by decide +kernel
theorem dX8_init_37 : decode cX8_init 37 = .ok (.bipush 78, 2) := by decide +kernel
theorem dX8_init_39 : decode cX8_init 39 = .ok (.newarray .int, 2) := by decide +kernel
theorem dX8_init_41 : decode cX8_init 41 = .ok (.putfield 24, 3) := by decide +kernel
theorem dX8_init_44 : decode cX8_init 44 = .ok (.aload_n 0, 1) := by decide +kernel
theorem dX8_init_45 : decode cX8_init 45 = .ok (.sipush 156, 3) := by decide +kernel
theorem dX8_init_48 : decode cX8_init 48 = .ok (.newarray .int, 2) := by decide +kernel
theorem dX8_init_50 : decode cX8_init 50 = .ok (.putfield 27, 3) := by decide +kernel
theorem dX8_init_53 : decode cX8_init 53 = .ok (.aload_n 0, 1) := by decide +kernel
theorem dX8_init_54 : decode cX8_init 54 = .ok (.sipush 156, 3) := by decide +kernel
theorem dX8_init_57 : decode cX8_init 57 = .ok (.newarray .int, 2) := by decide +kernel
theorem dX8_init_59 : decode cX8_init 59 = .ok (.putfield 30, 3) := by decide +kernel
theorem dX8_init_62 : decode cX8_init 62 = .ok (.aload_n 0, 1) := by decide +kernel
theorem dX8_init_63 : decode cX8_init 63 = .ok (.bipush 12, 2) := by decide +kernel
theorem dX8_init_65 : decode cX8_init 65 = .ok (.newarray .int, 2) := by decide +kernel
theorem dX8_init_67 : decode cX8_init 67 = .ok (.putfield 33, 3) := by decide +kernel
theorem dX8_init_70 : decode cX8_init 70 = .ok (.aload_n 0, 1) := by decide +kernel
theorem dX8_init_71 : decode cX8_init 71 = .ok (.bipush 12, 2) := by decide +kernel
theorem dX8_init_73 : decode cX8_init 73 = .ok (.newarray .int, 2) := by decide +kernel
theorem dX8_init_75 : decode cX8_init 75 = .ok (.putfield 36, 3) := by decide +kernel
theorem dX8_init_78 : decode cX8_init 78 = .ok (.return_, 1) := by decide +kernel
def fX8_init (N : Nat) (v0 : Nat) (m0 : qM) : Option (qM) :=
  if ¬ (78 : Int32) < 0 ∧ (78 : Int32).toNatClampNeg ≤ 78 then qNew m0 12 (78 : Int32).toNatClampNeg (fun a1 m2 =>
  (qpR m2 v0 8 0 a1).bind fun m3 =>
  if ¬ (78 : Int32) < 0 ∧ (78 : Int32).toNatClampNeg ≤ 78 then qNew m3 12 (78 : Int32).toNatClampNeg (fun a4 m5 =>
  (qpR m5 v0 8 1 a4).bind fun m6 =>
  if ¬ (78 : Int32) < 0 ∧ (78 : Int32).toNatClampNeg ≤ 78 then qNew m6 12 (78 : Int32).toNatClampNeg (fun a7 m8 =>
  (qpR m8 v0 8 2 a7).bind fun m9 =>
  if ¬ (78 : Int32) < 0 ∧ (78 : Int32).toNatClampNeg ≤ 78 then qNew m9 12 (78 : Int32).toNatClampNeg (fun a10 m11 =>
  (qpR m11 v0 8 3 a10).bind fun m12 =>
  if ¬ (78 : Int32) < 0 ∧ (78 : Int32).toNatClampNeg ≤ 78 then qNew m12 12 (78 : Int32).toNatClampNeg (fun a13 m14 =>
  (qpR m14 v0 8 4 a13).bind fun m15 =>
  if ¬ (156 : Int32) < 0 ∧ (156 : Int32).toNatClampNeg ≤ 156 then qNew m15 12 (156 : Int32).toNatClampNeg (fun a16 m17 =>
  (qpR m17 v0 8 5 a16).bind fun m18 =>
  if ¬ (156 : Int32) < 0 ∧ (156 : Int32).toNatClampNeg ≤ 156 then qNew m18 12 (156 : Int32).toNatClampNeg (fun a19 m20 =>
  (qpR m20 v0 8 6 a19).bind fun m21 =>
  if ¬ (12 : Int32) < 0 ∧ (12 : Int32).toNatClampNeg ≤ 12 then qNew m21 12 (12 : Int32).toNatClampNeg (fun a22 m23 =>
  (qpR m23 v0 8 7 a22).bind fun m24 =>
  if ¬ (12 : Int32) < 0 ∧ (12 : Int32).toNatClampNeg ≤ 12 then qNew m24 12 (12 : Int32).toNatClampNeg (fun a25 m26 =>
  (qpR m26 v0 8 8 a25).bind fun m27 =>
  some m27
  ) else none
  ) else none
  ) else none
  ) else none
  ) else none
  ) else none
  ) else none
  ) else none
  ) else none
set_option maxRecDepth 100000 in
theorem bX8_init {E : qE} {N d bc bs : Nat} (hd : 1 ≤ d) {v0 : Nat} {m0 : qM} : qB E yX8_init cX8_init 1 none (fun _ => True) d (bc + 9) (bs + 726) 0 [(0, .ref (E.2.1 + v0))] [] m0 (fX8_init N v0 m0) (fun b rr => rr = (none, b)) := by
  unfold fX8_init
  refine j_aload_n (q := 0) (np := 1) rfl rfl dX8_init_0 rfl ?_
  refine j_objInit (np := 4) mlX8_5 imObj cdObj (by omega) (Nat.le_of_ble_eq_true rfl) dX8_init_1 rfl ?_
  refine j_aload_n (q := 0) (np := 5) rfl rfl dX8_init_4 rfl ?_
  refine j_bipush (np := 7) cb_78 dX8_init_5 rfl ?_
  refine j_bud (b1 := (bc + 8) + 1) (b2 := (bs + 648) + 78) (by omega) (by omega) ?_
  refine j_newarr (bc := (bc + 8)) (bs := (bs + 648)) (c0 := 12) (t := 1) (n0 := 78) (np := 9) (atype := .int) (ty := .int) (Or.inr (Or.inl rfl)) rfl rfl (by decide) (by decide) (fun _ => rfl) (fun _ _ => rfl) ac_int dX8_init_7 rfl (fun a1 m2 => ?_)
  refine j_pR (np := 12) flX8_11 (fun _ => rfl) dX8_init_9 rfl (fun m3 => ?_)
  refine j_aload_n (q := 0) (np := 13) rfl rfl dX8_init_12 rfl ?_
  refine j_bipush (np := 15) cb_78 dX8_init_13 rfl ?_
  refine j_bud (b1 := (bc + 7) + 1) (b2 := (bs + 570) + 78) (by omega) (by omega) ?_
  refine j_newarr (bc := (bc + 7)) (bs := (bs + 570)) (c0 := 12) (t := 1) (n0 := 78) (np := 17) (atype := .int) (ty := .int) (Or.inr (Or.inl rfl)) rfl rfl (by decide) (by decide) (fun _ => rfl) (fun _ _ => rfl) ac_int dX8_init_15 rfl (fun a4 m5 => ?_)
  refine j_pR (np := 20) flX8_15 (fun _ => rfl) dX8_init_17 rfl (fun m6 => ?_)
  refine j_aload_n (q := 0) (np := 21) rfl rfl dX8_init_20 rfl ?_
  refine j_bipush (np := 23) cb_78 dX8_init_21 rfl ?_
  refine j_bud (b1 := (bc + 6) + 1) (b2 := (bs + 492) + 78) (by omega) (by omega) ?_
  refine j_newarr (bc := (bc + 6)) (bs := (bs + 492)) (c0 := 12) (t := 1) (n0 := 78) (np := 25) (atype := .int) (ty := .int) (Or.inr (Or.inl rfl)) rfl rfl (by decide) (by decide) (fun _ => rfl) (fun _ _ => rfl) ac_int dX8_init_23 rfl (fun a7 m8 => ?_)
  refine j_pR (np := 28) flX8_18 (fun _ => rfl) dX8_init_25 rfl (fun m9 => ?_)
  refine j_aload_n (q := 0) (np := 29) rfl rfl dX8_init_28 rfl ?_
  refine j_bipush (np := 31) cb_78 dX8_init_29 rfl ?_
  refine j_bud (b1 := (bc + 5) + 1) (b2 := (bs + 414) + 78) (by omega) (by omega) ?_
  refine j_newarr (bc := (bc + 5)) (bs := (bs + 414)) (c0 := 12) (t := 1) (n0 := 78) (np := 33) (atype := .int) (ty := .int) (Or.inr (Or.inl rfl)) rfl rfl (by decide) (by decide) (fun _ => rfl) (fun _ _ => rfl) ac_int dX8_init_31 rfl (fun a10 m11 => ?_)
  refine j_pR (np := 36) flX8_21 (fun _ => rfl) dX8_init_33 rfl (fun m12 => ?_)
  refine j_aload_n (q := 0) (np := 37) rfl rfl dX8_init_36 rfl ?_
  refine j_bipush (np := 39) cb_78 dX8_init_37 rfl ?_
  refine j_bud (b1 := (bc + 4) + 1) (b2 := (bs + 336) + 78) (by omega) (by omega) ?_
  refine j_newarr (bc := (bc + 4)) (bs := (bs + 336)) (c0 := 12) (t := 1) (n0 := 78) (np := 41) (atype := .int) (ty := .int) (Or.inr (Or.inl rfl)) rfl rfl (by decide) (by decide) (fun _ => rfl) (fun _ _ => rfl) ac_int dX8_init_39 rfl (fun a13 m14 => ?_)
  refine j_pR (np := 44) flX8_24 (fun _ => rfl) dX8_init_41 rfl (fun m15 => ?_)
  refine j_aload_n (q := 0) (np := 45) rfl rfl dX8_init_44 rfl ?_
  refine j_sipush (np := 48) cs_156 dX8_init_45 rfl ?_
  refine j_bud (b1 := (bc + 3) + 1) (b2 := (bs + 180) + 156) (by omega) (by omega) ?_
  refine j_newarr (bc := (bc + 3)) (bs := (bs + 180)) (c0 := 12) (t := 1) (n0 := 156) (np := 50) (atype := .int) (ty := .int) (Or.inr (Or.inl rfl)) rfl rfl (by decide) (by decide) (fun _ => rfl) (fun _ _ => rfl) ac_int dX8_init_48 rfl (fun a16 m17 => ?_)
  refine j_pR (np := 53) flX8_27 (fun _ => rfl) dX8_init_50 rfl (fun m18 => ?_)
  refine j_aload_n (q := 0) (np := 54) rfl rfl dX8_init_53 rfl ?_
  refine j_sipush (np := 57) cs_156 dX8_init_54 rfl ?_
  refine j_bud (b1 := (bc + 2) + 1) (b2 := (bs + 24) + 156) (by omega) (by omega) ?_
  refine j_newarr (bc := (bc + 2)) (bs := (bs + 24)) (c0 := 12) (t := 1) (n0 := 156) (np := 59) (atype := .int) (ty := .int) (Or.inr (Or.inl rfl)) rfl rfl (by decide) (by decide) (fun _ => rfl) (fun _ _ => rfl) ac_int dX8_init_57 rfl (fun a19 m20 => ?_)
  refine j_pR (np := 62) flX8_30 (fun _ => rfl) dX8_init_59 rfl (fun m21 => ?_)
  refine j_aload_n (q := 0) (np := 63) rfl rfl dX8_init_62 rfl ?_
  refine j_bipush (np := 65) cb_12 dX8_init_63 rfl ?_
  refine j_bud (b1 := (bc + 1) + 1) (b2 := (bs + 12) + 12) (by omega) (by omega) ?_
  refine j_newarr (bc := (bc + 1)) (bs := (bs + 12)) (c0 := 12) (t := 1) (n0 := 12) (np := 67) (atype := .int) (ty := .int) (Or.inr (Or.inl rfl)) rfl rfl (by decide) (by decide) (fun _ => rfl) (fun _ _ => rfl) ac_int dX8_init_65 rfl (fun a22 m23 => ?_)
  refine j_pR (np := 70) flX8_33 (fun _ => rfl) dX8_init_67 rfl (fun m24 => ?_)
  refine j_aload_n (q := 0) (np := 71) rfl rfl dX8_init_70 rfl ?_
  refine j_bipush (np := 73) cb_12 dX8_init_71 rfl ?_
  refine j_bud (b1 := bc + 1) (b2 := bs + 12) (by omega) (by omega) ?_
  refine j_newarr (bc := bc) (bs := bs) (c0 := 12) (t := 1) (n0 := 12) (np := 75) (atype := .int) (ty := .int) (Or.inr (Or.inl rfl)) rfl rfl (by decide) (by decide) (fun _ => rfl) (fun _ _ => rfl) ac_int dX8_init_73 rfl (fun a25 m26 => ?_)
  refine j_pR (np := 78) flX8_36 (fun _ => rfl) dX8_init_75 rfl (fun m27 => ?_)
  exact j_vret rfl dX8_init_78 (fun rr h => h)
set_option maxRecDepth 100000 in
theorem wX8_init {E : qE} {N d : Nat} (hd : 1 ≤ d) {v0 : Nat} {m0 : qM} {b : qM} (h : fX8_init N v0 m0 = some b) : qRun E yX8_init cX8_init 1 none d 9 726 [.ref (E.2.1 + v0)] m0 (none, b) := q_met pnX8 (Nat.le_of_ble_eq_true rfl) ((j_bud (by omega) (by omega) (bX8_init (bc := 0) (bs := 0) hd)) b _ h rfl)
theorem dX8_unifyInto_0 : decode cX8_unifyInto 0 = .ok (.aload_n 1, 1) := by decide +kernel
theorem dX8_unifyInto_1 : decode cX8_unifyInto 1 = .ok (.invokevirtual 45, 3) := by decide +kernel
theorem dX8_unifyInto_4 : decode cX8_unifyInto 4 = .ok (.istore 4, 2) := by decide +kernel
theorem dX8_unifyInto_6 : decode cX8_unifyInto 6 = .ok (.aload_n 0, 1) := by decide +kernel
theorem dX8_unifyInto_7 : decode cX8_unifyInto 7 = .ok (.aload_n 1, 1) := by decide +kernel
theorem dX8_unifyInto_8 : decode cX8_unifyInto 8 = .ok (.iconst 0, 1) := by decide +kernel
theorem dX8_unifyInto_9 : decode cX8_unifyInto 9 = .ok (.invokevirtual 49, 3) := by decide +kernel
theorem dX8_unifyInto_12 : decode cX8_unifyInto 12 = .ok (.aload_n 0, 1) := by decide +kernel
theorem dX8_unifyInto_13 : decode cX8_unifyInto 13 = .ok (.aload_n 2, 1) := by decide +kernel
theorem dX8_unifyInto_14 : decode cX8_unifyInto 14 = .ok (.iload 4, 2) := by decide +kernel
theorem dX8_unifyInto_16 : decode cX8_unifyInto 16 = .ok (.invokevirtual 49, 3) := by decide +kernel
theorem dX8_unifyInto_19 : decode cX8_unifyInto 19 = .ok (.aload_n 0, 1) := by decide +kernel
theorem dX8_unifyInto_20 : decode cX8_unifyInto 20 = .ok (.iconst 0, 1) := by decide +kernel
theorem dX8_unifyInto_21 : decode cX8_unifyInto 21 = .ok (.iload 4, 2) := by decide +kernel
theorem dX8_unifyInto_23 : decode cX8_unifyInto 23 = .ok (.invokevirtual 53, 3) := by decide +kernel
theorem dX8_unifyInto_26 : decode cX8_unifyInto 26 = .ok (.aload_n 0, 1) := by decide +kernel
theorem dX8_unifyInto_27 : decode cX8_unifyInto 27 = .ok (.invokevirtual 57, 3) := by decide +kernel
theorem dX8_unifyInto_30 : decode cX8_unifyInto 30 = .ok (.ifCond .eq 12, 3) := by decide +kernel
theorem dX8_unifyInto_33 : decode cX8_unifyInto 33 = .ok (.aload_n 0, 1) := by decide +kernel
theorem dX8_unifyInto_34 : decode cX8_unifyInto 34 = .ok (.iconst 0, 1) := by decide +kernel
theorem dX8_unifyInto_35 : decode cX8_unifyInto 35 = .ok (.aload_n 3, 1) := by decide +kernel
theorem dX8_unifyInto_36 : decode cX8_unifyInto 36 = .ok (.invokevirtual 60, 3) := by decide +kernel
theorem dX8_unifyInto_39 : decode cX8_unifyInto 39 = .ok (.goto 5, 3) := by decide +kernel
theorem dX8_unifyInto_42 : decode cX8_unifyInto 42 = .ok (.bipush (-4), 2) := by decide +kernel
theorem dX8_unifyInto_44 : decode cX8_unifyInto 44 = .ok (.ireturn, 1) := by decide +kernel
def fX8_unifyInto (N : Nat) (v0 : Nat) (v1 : Nat) (v2 : Nat) (v3 : Nat) (m0 : qM) : Option (Int32 × qM) :=
  (qChk m0 v1 0 (fX0_size N v1 m0)).bind fun b1 =>
  (qChk b1.2 v0 8 (fX8_load N v0 v1 (0 : Int32) b1.2)).bind fun b2 =>
  (qChk b2 v0 8 (fX8_load N v0 v2 b1.1 b2)).bind fun b3 =>
  (qChk b3 v0 8 (fX8_mergeAll N v0 (0 : Int32) b1.1 b3)).bind fun b4 =>
  (qChk b4 v0 8 (fX8_measure N v0 b4)).bind fun b5 =>
  if b5.1 = 0 then (
  some ((-4 : Int32), b5.2)
  ) else (
  (qChk b5.2 v0 8 (fX8_writeOut N v0 (0 : Int32) v3 b5.2)).bind fun b6 =>
  some (b6.1, b6.2)
  )
set_option maxRecDepth 100000 in
theorem bX8_unifyInto {E : qE} {N d bc bs : Nat} (hd : 3 ≤ d) {v0 : Nat} {v1 : Nat} {v2 : Nat} {v3 : Nat} {m0 : qM} : qB E yX8_unifyInto cX8_unifyInto 5 (some .int) (fun _ => True) d bc bs 0 [(0, .ref (E.2.1 + v0)), (1, .ref (E.2.1 + v1)), (2, .ref (E.2.1 + v2)), (3, .ref (E.2.1 + v3))] [] m0 (fX8_unifyInto N v0 v1 v2 v3 m0) (fun b rr => rr = (some (.int b.1), b.2)) := by
  unfold fX8_unifyInto
  refine j_aload_n (q := 1) (np := 1) rfl rfl dX8_unifyInto_0 rfl ?_
  refine j_callVi (ci := 0) (np := 4) (bc := bc) (bs := bs) (cb := 0) (cs := 0) (dd := d - 1) (As := []) (st := []) caX0_size mlX8_45 imX0_size seX0_size rfl rfl (by decide) (fun b hb => wX0_size (by omega) hb) (by omega) rfl rfl (Nat.le_of_ble_eq_true rfl) dX8_unifyInto_1 rfl (fun b1 => ?_)
  refine j_istore (np := 6) (lv2 := [(4, .int b1.1), (0, .ref (E.2.1 + v0)), (1, .ref (E.2.1 + v1)), (2, .ref (E.2.1 + v2)), (3, .ref (E.2.1 + v3))]) (by decide) dX8_unifyInto_4 rfl rfl ?_
  refine j_aload_n (q := 1) (np := 7) rfl rfl dX8_unifyInto_6 rfl ?_
  refine j_aload_n (q := 2) (np := 8) rfl rfl dX8_unifyInto_7 rfl ?_
  refine j_iconst (np := 9) ci_0 dX8_unifyInto_8 rfl ?_
  refine j_callVv (ci := 8) (np := 12) (bc := bc) (bs := bs) (cb := 0) (cs := 0) (dd := d - 1) (As := [.ref (E.2.1 + v1), .int (0 : Int32)]) (st := []) caX8_load mlX8_49 imX8_load seX8_load rfl rfl (by decide) (fun b hb => wX8_load (by omega) hb) (by omega) rfl rfl (Nat.le_of_ble_eq_true rfl) dX8_unifyInto_9 rfl (fun b2 => ?_)
  refine j_aload_n (q := 1) (np := 13) rfl rfl dX8_unifyInto_12 rfl ?_
  refine j_aload_n (q := 3) (np := 14) rfl rfl dX8_unifyInto_13 rfl ?_
  refine j_iload (q := 0) (np := 16) rfl dX8_unifyInto_14 rfl ?_
  refine j_callVv (ci := 8) (np := 19) (bc := bc) (bs := bs) (cb := 0) (cs := 0) (dd := d - 1) (As := [.ref (E.2.1 + v2), .int b1.1]) (st := []) caX8_load mlX8_49 imX8_load seX8_load rfl rfl (by decide) (fun b hb => wX8_load (by omega) hb) (by omega) rfl rfl (Nat.le_of_ble_eq_true rfl) dX8_unifyInto_16 rfl (fun b3 => ?_)
  refine j_aload_n (q := 1) (np := 20) rfl rfl dX8_unifyInto_19 rfl ?_
  refine j_iconst (np := 21) ci_0 dX8_unifyInto_20 rfl ?_
  refine j_iload (q := 0) (np := 23) rfl dX8_unifyInto_21 rfl ?_
  refine j_callVv (ci := 8) (np := 26) (bc := bc) (bs := bs) (cb := 0) (cs := 0) (dd := d - 1) (As := [.int (0 : Int32), .int b1.1]) (st := []) caX8_mergeAll mlX8_53 imX8_mergeAll seX8_mergeAll rfl rfl (by decide) (fun b hb => wX8_mergeAll (by omega) hb) (by omega) rfl rfl (Nat.le_of_ble_eq_true rfl) dX8_unifyInto_23 rfl (fun b4 => ?_)
  refine j_aload_n (q := 1) (np := 27) rfl rfl dX8_unifyInto_26 rfl ?_
  refine j_callVi (ci := 8) (np := 30) (bc := bc) (bs := bs) (cb := 0) (cs := 0) (dd := d - 1) (As := []) (st := []) caX8_measure mlX8_57 imX8_measure seX8_measure rfl rfl (by decide) (fun b hb => wX8_measure (by omega) hb) (by omega) rfl rfl (Nat.le_of_ble_eq_true rfl) dX8_unifyInto_27 rfl (fun b5 => ?_)
  refine j_if_eq (tgt := 42) (np := 33) dX8_unifyInto_30 rfl rfl ?_ ?_
  · refine j_bipush (np := 44) cb_m4 dX8_unifyInto_42 rfl ?_
    exact j_iret rfl dX8_unifyInto_44 (fun rr h => h)
  · refine j_aload_n (q := 1) (np := 34) rfl rfl dX8_unifyInto_33 rfl ?_
    refine j_iconst (np := 35) ci_0 dX8_unifyInto_34 rfl ?_
    refine j_aload_n (q := 4) (np := 36) rfl rfl dX8_unifyInto_35 rfl ?_
    refine j_callVi (ci := 8) (np := 39) (bc := bc) (bs := bs) (cb := 0) (cs := 0) (dd := d - 1) (As := [.int (0 : Int32), .ref (E.2.1 + v3)]) (st := []) caX8_writeOut mlX8_60 imX8_writeOut seX8_writeOut rfl rfl (by decide) (fun b hb => wX8_writeOut (by omega) hb) (by omega) rfl rfl (Nat.le_of_ble_eq_true rfl) dX8_unifyInto_36 rfl (fun b6 => ?_)
    refine j_goto (tgt := 44) dX8_unifyInto_39 rfl ?_
    exact j_iret rfl dX8_unifyInto_44 (fun rr h => h)
set_option maxRecDepth 100000 in
theorem wX8_unifyInto {E : qE} {N d : Nat} (hd : 3 ≤ d) {v0 : Nat} {v1 : Nat} {v2 : Nat} {v3 : Nat} {m0 : qM} {b : Int32 × qM} (h : fX8_unifyInto N v0 v1 v2 v3 m0 = some b) : qRun E yX8_unifyInto cX8_unifyInto 5 (some .int) d 0 0 [.ref (E.2.1 + v0), .ref (E.2.1 + v1), .ref (E.2.1 + v2), .ref (E.2.1 + v3)] m0 (some (.int b.1), b.2) := q_met pnX8 (Nat.le_of_ble_eq_true rfl) (bX8_unifyInto hd b _ h rfl)
theorem dX9_init_0 : decode cX9_init 0 = .ok (.aload_n 0, 1) := by decide +kernel
theorem dX9_init_1 : decode cX9_init 1 = .ok (.invokespecial 3, 3) := by decide +kernel
theorem dX9_init_4 : decode cX9_init 4 = .ok (.aload_n 0, 1) := by decide +kernel
theorem dX9_init_5 : decode cX9_init 5 = .ok (.new 9, 3) := by decide +kernel
theorem dX9_init_8 : decode cX9_init 8 = .ok (.dup, 1) := by decide +kernel
theorem dX9_init_9 : decode cX9_init 9 = .ok (.invokespecial 11, 3) := by decide +kernel
theorem dX9_init_12 : decode cX9_init 12 = .ok (.putfield 12, 3) := by decide +kernel
theorem dX9_init_15 : decode cX9_init 15 = .ok (.aload_n 0, 1) := by decide +kernel
theorem dX9_init_16 : decode cX9_init 16 = .ok (.new 9, 3) := by decide +kernel
theorem dX9_init_19 : decode cX9_init 19 = .ok (.dup, 1) := by decide +kernel
theorem dX9_init_20 : decode cX9_init 20 = .ok (.invokespecial 11, 3) := by decide +kernel
theorem dX9_init_23 : decode cX9_init 23 = .ok (.putfield 16, 3) := by decide +kernel
theorem dX9_init_26 : decode cX9_init 26 = .ok (.aload_n 0, 1) := by decide +kernel
theorem dX9_init_27 : decode cX9_init 27 = .ok (.new 19, 3) := by decide +kernel
theorem dX9_init_30 : decode cX9_init 30 = .ok (.dup, 1) := by decide +kernel
theorem dX9_init_31 : decode cX9_init 31 = .ok (.invokespecial 21, 3) := by decide +kernel
theorem dX9_init_34 : decode cX9_init 34 = .ok (.putfield 22, 3) := by decide +kernel
theorem dX9_init_37 : decode cX9_init 37 = .ok (.aload_n 0, 1) := by decide +kernel
theorem dX9_init_38 : decode cX9_init 38 = .ok (.new 26, 3) := by decide +kernel
theorem dX9_init_41 : decode cX9_init 41 = .ok (.dup, 1) := by decide +kernel
theorem dX9_init_42 : decode cX9_init 42 = .ok (.invokespecial 28, 3) := by decide +kernel
theorem dX9_init_45 : decode cX9_init 45 = .ok (.putfield 29, 3) := by decide +kernel
theorem dX9_init_48 : decode cX9_init 48 = .ok (.aload_n 0, 1) := by decide +kernel
theorem dX9_init_49 : decode cX9_init 49 = .ok (.new 33, 3) := by decide +kernel
theorem dX9_init_52 : decode cX9_init 52 = .ok (.dup, 1) := by decide +kernel
theorem dX9_init_53 : decode cX9_init 53 = .ok (.invokespecial 35, 3) := by decide +kernel
theorem dX9_init_56 : decode cX9_init 56 = .ok (.putfield 36, 3) := by decide +kernel
theorem dX9_init_59 : decode cX9_init 59 = .ok (.aload_n 0, 1) := by decide +kernel
theorem dX9_init_60 : decode cX9_init 60 = .ok (.new 40, 3) := by decide +kernel
theorem dX9_init_63 : decode cX9_init 63 = .ok (.dup, 1) := by decide +kernel
theorem dX9_init_64 : decode cX9_init 64 = .ok (.aload_n 0, 1) := by decide +kernel
theorem dX9_init_65 : decode cX9_init 65 = .ok (.getfield 29, 3) := by decide +kernel
theorem dX9_init_68 : decode cX9_init 68 = .ok (.aload_n 0, 1) := by decide +kernel
theorem dX9_init_69 : decode cX9_init 69 = .ok (.getfield 36, 3) := by decide +kernel
theorem dX9_init_72 : decode cX9_init 72 = .ok (.invokespecial 42, 3) := by decide +kernel
theorem dX9_init_75 : decode cX9_init 75 = .ok (.putfield 45, 3) := by decide +kernel
theorem dX9_init_78 : decode cX9_init 78 = .ok (.aload_n 0, 1) := by decide +kernel
theorem dX9_init_79 : decode cX9_init 79 = .ok (.new 49, 3) := by decide +kernel
theorem dX9_init_82 : decode cX9_init 82 = .ok (.dup, 1) := by decide +kernel
theorem dX9_init_83 : decode cX9_init 83 = .ok (.invokespecial 51, 3) := by decide +kernel
theorem dX9_init_86 : decode cX9_init 86 = .ok (.putfield 52, 3) := by decide +kernel
theorem dX9_init_89 : decode cX9_init 89 = .ok (.aload_n 0, 1) := by decide +kernel
theorem dX9_init_90 : decode cX9_init 90 = .ok (.new 56, 3) := by decide +kernel
theorem dX9_init_93 : decode cX9_init 93 = .ok (.dup, 1) := by decide +kernel
theorem dX9_init_94 : decode cX9_init 94 = .ok (.invokespecial 58, 3) := by decide +kernel
theorem dX9_init_97 : decode cX9_init 97 = .ok (.putfield 59, 3) := by decide +kernel
theorem dX9_init_100 : decode cX9_init 100 = .ok (.aload_n 0, 1) := by decide +kernel
theorem dX9_init_101 : decode cX9_init 101 = .ok (.iconst 3, 1) := by decide +kernel
theorem dX9_init_102 : decode cX9_init 102 = .ok (.anewarray 63, 3) := by decide +kernel
theorem dX9_init_105 : decode cX9_init 105 = .ok (.putfield 65, 3) := by decide +kernel
theorem dX9_init_108 : decode cX9_init 108 = .ok (.iconst 0, 1) := by decide +kernel
theorem dX9_init_109 : decode cX9_init 109 = .ok (.istore_n 1, 1) := by decide +kernel
theorem dX9_init_110 : decode cX9_init 110 = .ok (.iload_n 1, 1) := by decide +kernel
theorem dX9_init_111 : decode cX9_init 111 = .ok (.iconst 3, 1) := by decide +kernel
theorem dX9_init_112 : decode cX9_init 112 = .ok (.if_icmp .ge 22, 3) := by decide +kernel
theorem dX9_init_115 : decode cX9_init 115 = .ok (.aload_n 0, 1) := by decide +kernel
theorem dX9_init_116 : decode cX9_init 116 = .ok (.getfield 65, 3) := by decide +kernel
theorem dX9_init_119 : decode cX9_init 119 = .ok (.iload_n 1, 1) := by decide +kernel
theorem dX9_init_120 : decode cX9_init 120 = .ok (.new 63, 3) := by decide +kernel
theorem dX9_init_123 : decode cX9_init 123 = .ok (.dup, 1) := by decide +kernel
theorem dX9_init_124 : decode cX9_init 124 = .ok (.invokespecial 69, 3) := by decide +kernel
theorem dX9_init_127 : decode cX9_init 127 = .ok (.aastore, 1) := by decide +kernel
theorem dX9_init_128 : decode cX9_init 128 = .ok (.iinc 1 1, 3) := by decide +kernel
theorem dX9_init_131 : decode cX9_init 131 = .ok (.goto (-21), 3) := by decide +kernel
theorem dX9_init_134 : decode cX9_init 134 = .ok (.aload_n 0, 1) := by decide +kernel
theorem dX9_init_135 : decode cX9_init 135 = .ok (.bipush 10, 2) := by decide +kernel
theorem dX9_init_137 : decode cX9_init 137 = .ok (.anewarray 70, 3) := by decide +kernel
theorem dX9_init_140 : decode cX9_init 140 = .ok (.putfield 72, 3) := by decide +kernel
theorem dX9_init_143 : decode cX9_init 143 = .ok (.iconst 0, 1) := by decide +kernel
theorem dX9_init_144 : decode cX9_init 144 = .ok (.istore_n 1, 1) := by decide +kernel
theorem dX9_init_145 : decode cX9_init 145 = .ok (.iload_n 1, 1) := by decide +kernel
theorem dX9_init_146 : decode cX9_init 146 = .ok (.bipush 10, 2) := by decide +kernel
theorem dX9_init_148 : decode cX9_init 148 = .ok (.if_icmp .ge 22, 3) := by decide +kernel
theorem dX9_init_151 : decode cX9_init 151 = .ok (.aload_n 0, 1) := by decide +kernel
theorem dX9_init_152 : decode cX9_init 152 = .ok (.getfield 72, 3) := by decide +kernel
theorem dX9_init_155 : decode cX9_init 155 = .ok (.iload_n 1, 1) := by decide +kernel
theorem dX9_init_156 : decode cX9_init 156 = .ok (.new 70, 3) := by decide +kernel
theorem dX9_init_159 : decode cX9_init 159 = .ok (.dup, 1) := by decide +kernel
theorem dX9_init_160 : decode cX9_init 160 = .ok (.invokespecial 76, 3) := by decide +kernel
theorem dX9_init_163 : decode cX9_init 163 = .ok (.aastore, 1) := by decide +kernel
theorem dX9_init_164 : decode cX9_init 164 = .ok (.iinc 1 1, 3) := by decide +kernel
theorem dX9_init_167 : decode cX9_init 167 = .ok (.goto (-22), 3) := by decide +kernel
theorem dX9_init_170 : decode cX9_init 170 = .ok (.aload_n 0, 1) := by decide +kernel
theorem dX9_init_171 : decode cX9_init 171 = .ok (.new 70, 3) := by decide +kernel
theorem dX9_init_174 : decode cX9_init 174 = .ok (.dup, 1) := by decide +kernel
theorem dX9_init_175 : decode cX9_init 175 = .ok (.invokespecial 76, 3) := by decide +kernel
theorem dX9_init_178 : decode cX9_init 178 = .ok (.putfield 77, 3) := by decide +kernel
theorem dX9_init_181 : decode cX9_init 181 = .ok (.aload_n 0, 1) := by decide +kernel
theorem dX9_init_182 : decode cX9_init 182 = .ok (.bipush 12, 2) := by decide +kernel
theorem dX9_init_184 : decode cX9_init 184 = .ok (.newarray .int, 2) := by decide +kernel
theorem dX9_init_186 : decode cX9_init 186 = .ok (.putfield 81, 3) := by decide +kernel
theorem dX9_init_189 : decode cX9_init 189 = .ok (.aload_n 0, 1) := by decide +kernel
theorem dX9_init_190 : decode cX9_init 190 = .ok (.bipush 120, 2) := by decide +kernel
theorem dX9_init_192 : decode cX9_init 192 = .ok (.newarray .int, 2) := by decide +kernel
theorem dX9_init_194 : decode cX9_init 194 = .ok (.putfield 85, 3) := by decide +kernel
theorem dX9_init_197 : decode cX9_init 197 = .ok (.return_, 1) := by decide +kernel
def lX9_init_145 (N : Nat) (v0 : Nat) : Nat → Int32 → qM → Option (qM)
  | 0, _, _ => none
  | n + 1, v1, m0 =>
    if (10 : Int32) ≤ v1 then (
    some m0
    ) else (
    (qgR m0 v0 9 9).bind fun x1 =>
    qNew m0 0 0 (fun a2 m3 =>
    (fX0_init N a2 m3).bind fun b4 =>
    (qwR b4 x1 15 v1 a2).bind fun m5 =>
    lX9_init_145 N v0 n (v1 + (1 : Int32)) m5
    )
    )
set_option maxRecDepth 100000 in
theorem lbX9_init_145 {E : qE} {N d bc bs : Nat} (hd : 3 ≤ d) {v0 : Nat} : ∀ (n : Nat) (v1 : Int32) (m0 : qM), qB E yX9_init cX9_init 2 none (fun _ => True) d (bc + n * 2) (bs + n * 42) 145 [(0, .ref (E.2.1 + v0)), (1, .int v1)] [] m0 (lX9_init_145 N v0 n v1 m0) (fun o rr => qJ E yX9_init cX9_init 2 none (fun _ => True) d bc bs 170 [(0, .ref (E.2.1 + v0))] [] o rr) := by
  intro n
  induction n with
  | zero =>
    intro v1 m0
    exact j_none
  | succ n ih =>
    intro v1 m0
    unfold lX9_init_145
    refine j_bud (b1 := ((bc + n * 2) + 2)) (b2 := ((bs + n * 42) + 42)) (by omega) (by omega) ?_
    refine j_iload_n (q := 1) (np := 146) rfl rfl dX9_init_145 rfl ?_
    refine j_bipush (np := 148) cb_10 dX9_init_146 rfl ?_
    refine j_icmp_ge (tgt := 170) (np := 151) dX9_init_148 rfl rfl ?_ ?_
    · refine j_sub (lv2 := [(0, .ref (E.2.1 + v0))]) [0] rfl ?_
      refine j_bud (b1 := bc) (b2 := bs) (by omega) (by omega) ?_
      exact j_exit (fun rr h => h)
    · refine j_aload_n (q := 0) (np := 152) rfl rfl dX9_init_151 rfl ?_
      refine j_gR (np := 155) flX9_72 dX9_init_152 rfl (fun x1 => ?_)
      refine j_iload_n (q := 1) (np := 156) rfl rfl dX9_init_155 rfl ?_
      refine j_bud (b1 := ((bc + n * 2) + 1) + 1) (b2 := ((bs + n * 42) + 39) + 3) (by omega) (by omega) ?_
      refine j_new (bc := ((bc + n * 2) + 1)) (bs := ((bs + n * 42) + 39)) (np := 159) qC0 clX9_70 dX9_init_156 rfl (fun a2 m3 => ?_)
      refine j_dup (np := 160) rfl dX9_init_159 rfl ?_
      refine j_bud (b1 := (bc + n * 2) + 1) (b2 := (bs + n * 42) + 39) (by omega) (by omega) ?_
      refine j_callINw (np := 163) (bc := (bc + n * 2)) (bs := (bs + n * 42)) (cb := 1) (cs := 39) (dd := d - 1) (As := []) (st := [.ref (E.2.1 + a2), .int v1, .ref (E.2.1 + x1)]) (host := RX9) caX0_init (List.mem_of_getElem? (i := 6) rfl) imX0_init rfl (fun b hb => wX0_init (by omega) hb) (by omega) rfl rfl (Nat.le_of_ble_eq_true rfl) dX9_init_160 rfl (fun b4 => ?_)
      refine j_aastore (np := 164) (c0 := 15) (ci := 0) (t := 4) (r0 := (RX0, TX0, 3)) (Or.inl ⟨rfl, rfl⟩) rfl (fun _ => rfl) dX9_init_163 rfl (fun m5 => ?_)
      refine j_iinc (q := 1) (np := 167) (lv2 := [(1, .int (v1 + (1 : Int32))), (0, .ref (E.2.1 + v0))]) rfl (congrArg _ ci_1) (by decide) dX9_init_164 rfl rfl ?_
      refine j_goto (tgt := 145) dX9_init_167 rfl ?_
      refine j_sub (lv2 := [(0, .ref (E.2.1 + v0)), (1, .int (v1 + (1 : Int32)))]) [1, 0] rfl ?_
      exact ih _ _
def lX9_init_110 (N : Nat) (v0 : Nat) : Nat → Int32 → qM → Option (qM)
  | 0, _, _ => none
  | n + 1, v1, m0 =>
    if (3 : Int32) ≤ v1 then (
    some m0
    ) else (
    (qgR m0 v0 9 8).bind fun x1 =>
    qNew m0 5 0 (fun a2 m3 =>
    (fX5_init N a2 m3).bind fun b4 =>
    (qwR b4 x1 16 v1 a2).bind fun m5 =>
    lX9_init_110 N v0 n (v1 + (1 : Int32)) m5
    )
    )
set_option maxRecDepth 100000 in
theorem lbX9_init_110 {E : qE} {N d bc bs : Nat} (hd : 3 ≤ d) {v0 : Nat} : ∀ (n : Nat) (v1 : Int32) (m0 : qM), qB E yX9_init cX9_init 2 none (fun _ => True) d (bc + n * 2) (bs + n * 83) 110 [(0, .ref (E.2.1 + v0)), (1, .int v1)] [] m0 (lX9_init_110 N v0 n v1 m0) (fun o rr => qJ E yX9_init cX9_init 2 none (fun _ => True) d bc bs 134 [(0, .ref (E.2.1 + v0))] [] o rr) := by
  intro n
  induction n with
  | zero =>
    intro v1 m0
    exact j_none
  | succ n ih =>
    intro v1 m0
    unfold lX9_init_110
    refine j_bud (b1 := ((bc + n * 2) + 2)) (b2 := ((bs + n * 83) + 83)) (by omega) (by omega) ?_
    refine j_iload_n (q := 1) (np := 111) rfl rfl dX9_init_110 rfl ?_
    refine j_iconst (np := 112) ci_3 dX9_init_111 rfl ?_
    refine j_icmp_ge (tgt := 134) (np := 115) dX9_init_112 rfl rfl ?_ ?_
    · refine j_sub (lv2 := [(0, .ref (E.2.1 + v0))]) [0] rfl ?_
      refine j_bud (b1 := bc) (b2 := bs) (by omega) (by omega) ?_
      exact j_exit (fun rr h => h)
    · refine j_aload_n (q := 0) (np := 116) rfl rfl dX9_init_115 rfl ?_
      refine j_gR (np := 119) flX9_65 dX9_init_116 rfl (fun x1 => ?_)
      refine j_iload_n (q := 1) (np := 120) rfl rfl dX9_init_119 rfl ?_
      refine j_bud (b1 := ((bc + n * 2) + 1) + 1) (b2 := ((bs + n * 83) + 80) + 3) (by omega) (by omega) ?_
      refine j_new (bc := ((bc + n * 2) + 1)) (bs := ((bs + n * 83) + 80)) (np := 123) qC5 clX9_63 dX9_init_120 rfl (fun a2 m3 => ?_)
      refine j_dup (np := 124) rfl dX9_init_123 rfl ?_
      refine j_bud (b1 := (bc + n * 2) + 1) (b2 := (bs + n * 83) + 80) (by omega) (by omega) ?_
      refine j_callINw (np := 127) (bc := (bc + n * 2)) (bs := (bs + n * 83)) (cb := 1) (cs := 80) (dd := d - 1) (As := []) (st := [.ref (E.2.1 + a2), .int v1, .ref (E.2.1 + x1)]) (host := RX9) caX5_init (List.mem_of_getElem? (i := 5) rfl) imX5_init rfl (fun b hb => wX5_init (by omega) hb) (by omega) rfl rfl (Nat.le_of_ble_eq_true rfl) dX9_init_124 rfl (fun b4 => ?_)
      refine j_aastore (np := 128) (c0 := 16) (ci := 5) (t := 5) (r0 := (RX5, TX5, 3)) (Or.inr ⟨rfl, rfl⟩) rfl (fun _ => rfl) dX9_init_127 rfl (fun m5 => ?_)
      refine j_iinc (q := 1) (np := 131) (lv2 := [(1, .int (v1 + (1 : Int32))), (0, .ref (E.2.1 + v0))]) rfl (congrArg _ ci_1) (by decide) dX9_init_128 rfl rfl ?_
      refine j_goto (tgt := 110) dX9_init_131 rfl ?_
      refine j_sub (lv2 := [(0, .ref (E.2.1 + v0)), (1, .int (v1 + (1 : Int32)))]) [1, 0] rfl ?_
      exact ih _ _
def fX9_init (N : Nat) (v0 : Nat) (m0 : qM) : Option (qM) :=
  qNew m0 7 0 (fun a1 m2 =>
  (fX7_init N a1 m2).bind fun b3 =>
  (qpR b3 v0 9 0 a1).bind fun m4 =>
  qNew m4 7 0 (fun a5 m6 =>
  (fX7_init N a5 m6).bind fun b7 =>
  (qpR b7 v0 9 1 a5).bind fun m8 =>
  qNew m8 1 0 (fun a9 m10 =>
  (fX1_init N a9 m10).bind fun b11 =>
  (qpR b11 v0 9 2 a9).bind fun m12 =>
  qNew m12 8 0 (fun a13 m14 =>
  (fX8_init N a13 m14).bind fun b15 =>
  (qpR b15 v0 9 3 a13).bind fun m16 =>
  qNew m16 3 0 (fun a17 m18 =>
  (fX3_init N a17 m18).bind fun b19 =>
  (qpR b19 v0 9 4 a17).bind fun m20 =>
  qNew m20 2 0 (fun a21 m22 =>
  (qgR m22 v0 9 3).bind fun x23 =>
  (qgR m22 v0 9 4).bind fun x24 =>
  (fX2_init N a21 x23 x24 m22).bind fun b25 =>
  (qpR b25 v0 9 5 a21).bind fun m26 =>
  qNew m26 4 0 (fun a27 m28 =>
  (fX4_init N a27 m28).bind fun b29 =>
  (qpR b29 v0 9 6 a27).bind fun m30 =>
  qNew m30 6 0 (fun a31 m32 =>
  (fX6_init N a31 m32).bind fun b33 =>
  (qpR b33 v0 9 7 a31).bind fun m34 =>
  if ¬ (3 : Int32) < 0 ∧ (3 : Int32).toNatClampNeg ≤ 3 then qNew m34 16 (3 : Int32).toNatClampNeg (fun a35 m36 =>
  (qpR m36 v0 9 8 a35).bind fun m37 =>
  (lX9_init_110 N v0 N (0 : Int32) m37).bind fun o38 =>
  if ¬ (10 : Int32) < 0 ∧ (10 : Int32).toNatClampNeg ≤ 10 then qNew o38 15 (10 : Int32).toNatClampNeg (fun a39 m40 =>
  (qpR m40 v0 9 9 a39).bind fun m41 =>
  (lX9_init_145 N v0 N (0 : Int32) m41).bind fun o42 =>
  qNew o42 0 0 (fun a43 m44 =>
  (fX0_init N a43 m44).bind fun b45 =>
  (qpR b45 v0 9 10 a43).bind fun m46 =>
  if ¬ (12 : Int32) < 0 ∧ (12 : Int32).toNatClampNeg ≤ 12 then qNew m46 12 (12 : Int32).toNatClampNeg (fun a47 m48 =>
  (qpR m48 v0 9 11 a47).bind fun m49 =>
  if ¬ (120 : Int32) < 0 ∧ (120 : Int32).toNatClampNeg ≤ 120 then qNew m49 12 (120 : Int32).toNatClampNeg (fun a50 m51 =>
  (qpR m51 v0 9 12 a50).bind fun m52 =>
  some m52
  ) else none
  ) else none
  )
  ) else none
  ) else none
  )
  )
  )
  )
  )
  )
  )
  )
set_option maxRecDepth 100000 in
theorem bX9_init {E : qE} {N d bc bs : Nat} (hd : 3 ≤ d) {v0 : Nat} {m0 : qM} : qB E yX9_init cX9_init 2 none (fun _ => True) d (bc + (8 * N + 46)) (bs + (209 * N + 2447)) 0 [(0, .ref (E.2.1 + v0))] [] m0 (fX9_init N v0 m0) (fun b rr => rr = (none, b)) := by
  unfold fX9_init
  refine j_aload_n (q := 0) (np := 1) rfl rfl dX9_init_0 rfl ?_
  refine j_objInit (np := 4) mlX9_3 imObj cdObj (by omega) (Nat.le_of_ble_eq_true rfl) dX9_init_1 rfl ?_
  refine j_aload_n (q := 0) (np := 5) rfl rfl dX9_init_4 rfl ?_
  refine j_bud (b1 := (bc + (8 * N + 45)) + 1) (b2 := (bs + (209 * N + 2445)) + 2) (by omega) (by omega) ?_
  refine j_new (bc := (bc + (8 * N + 45))) (bs := (bs + (209 * N + 2445))) (np := 8) qC7 clX9_9 dX9_init_5 rfl (fun a1 m2 => ?_)
  refine j_dup (np := 9) rfl dX9_init_8 rfl ?_
  refine j_bud (b1 := (bc + (8 * N + 44)) + 1) (b2 := (bs + (209 * N + 2325)) + 120) (by omega) (by omega) ?_
  refine j_callINw (np := 12) (bc := (bc + (8 * N + 44))) (bs := (bs + (209 * N + 2325))) (cb := 1) (cs := 120) (dd := d - 1) (As := []) (st := [.ref (E.2.1 + a1), .ref (E.2.1 + v0)]) (host := RX9) caX7_init (List.mem_of_getElem? (i := 0) rfl) imX7_init rfl (fun b hb => wX7_init (by omega) hb) (by omega) rfl rfl (Nat.le_of_ble_eq_true rfl) dX9_init_9 rfl (fun b3 => ?_)
  refine j_pR (np := 15) flX9_12 (fun _ => rfl) dX9_init_12 rfl (fun m4 => ?_)
  refine j_aload_n (q := 0) (np := 16) rfl rfl dX9_init_15 rfl ?_
  refine j_bud (b1 := (bc + (8 * N + 43)) + 1) (b2 := (bs + (209 * N + 2323)) + 2) (by omega) (by omega) ?_
  refine j_new (bc := (bc + (8 * N + 43))) (bs := (bs + (209 * N + 2323))) (np := 19) qC7 clX9_9 dX9_init_16 rfl (fun a5 m6 => ?_)
  refine j_dup (np := 20) rfl dX9_init_19 rfl ?_
  refine j_bud (b1 := (bc + (8 * N + 42)) + 1) (b2 := (bs + (209 * N + 2203)) + 120) (by omega) (by omega) ?_
  refine j_callINw (np := 23) (bc := (bc + (8 * N + 42))) (bs := (bs + (209 * N + 2203))) (cb := 1) (cs := 120) (dd := d - 1) (As := []) (st := [.ref (E.2.1 + a5), .ref (E.2.1 + v0)]) (host := RX9) caX7_init (List.mem_of_getElem? (i := 0) rfl) imX7_init rfl (fun b hb => wX7_init (by omega) hb) (by omega) rfl rfl (Nat.le_of_ble_eq_true rfl) dX9_init_20 rfl (fun b7 => ?_)
  refine j_pR (np := 26) flX9_16 (fun _ => rfl) dX9_init_23 rfl (fun m8 => ?_)
  refine j_aload_n (q := 0) (np := 27) rfl rfl dX9_init_26 rfl ?_
  refine j_bud (b1 := (bc + (8 * N + 41)) + 1) (b2 := (bs + (209 * N + 2196)) + 7) (by omega) (by omega) ?_
  refine j_new (bc := (bc + (8 * N + 41))) (bs := (bs + (209 * N + 2196))) (np := 30) qC1 clX9_19 dX9_init_27 rfl (fun a9 m10 => ?_)
  refine j_dup (np := 31) rfl dX9_init_30 rfl ?_
  refine j_bud (b1 := (bc + (6 * N + 35)) + (2 * N + 6)) (b2 := (bs + (167 * N + 1836)) + (42 * N + 360)) (by omega) (by omega) ?_
  refine j_callIw (np := 34) (bc := (bc + (6 * N + 35))) (bs := (bs + (167 * N + 1836))) (cb := (2 * N + 6)) (cs := (42 * N + 360)) (dd := d - 1) (As := []) (st := [.ref (E.2.1 + a9), .ref (E.2.1 + v0)]) caX1_init mlX9_21 imX1_init rfl (fun b hb => wX1_init (by omega) hb) (by omega) rfl rfl (Nat.le_of_ble_eq_true rfl) dX9_init_31 rfl (fun b11 => ?_)
  refine j_pR (np := 37) flX9_22 (fun _ => rfl) dX9_init_34 rfl (fun m12 => ?_)
  refine j_aload_n (q := 0) (np := 38) rfl rfl dX9_init_37 rfl ?_
  refine j_bud (b1 := (bc + (6 * N + 34)) + 1) (b2 := (bs + (167 * N + 1825)) + 11) (by omega) (by omega) ?_
  refine j_new (bc := (bc + (6 * N + 34))) (bs := (bs + (167 * N + 1825))) (np := 41) qC8 clX9_26 dX9_init_38 rfl (fun a13 m14 => ?_)
  refine j_dup (np := 42) rfl dX9_init_41 rfl ?_
  refine j_bud (b1 := (bc + (6 * N + 25)) + 9) (b2 := (bs + (167 * N + 1099)) + 726) (by omega) (by omega) ?_
  refine j_callINw (np := 45) (bc := (bc + (6 * N + 25))) (bs := (bs + (167 * N + 1099))) (cb := 9) (cs := 726) (dd := d - 1) (As := []) (st := [.ref (E.2.1 + a13), .ref (E.2.1 + v0)]) (host := RX9) caX8_init (List.mem_of_getElem? (i := 1) rfl) imX8_init rfl (fun b hb => wX8_init (by omega) hb) (by omega) rfl rfl (Nat.le_of_ble_eq_true rfl) dX9_init_42 rfl (fun b15 => ?_)
  refine j_pR (np := 48) flX9_29 (fun _ => rfl) dX9_init_45 rfl (fun m16 => ?_)
  refine j_aload_n (q := 0) (np := 49) rfl rfl dX9_init_48 rfl ?_
  refine j_bud (b1 := (bc + (6 * N + 24)) + 1) (b2 := (bs + (167 * N + 1098)) + 1) (by omega) (by omega) ?_
  refine j_new (bc := (bc + (6 * N + 24))) (bs := (bs + (167 * N + 1098))) (np := 52) qC3 clX9_33 dX9_init_49 rfl (fun a17 m18 => ?_)
  refine j_dup (np := 53) rfl dX9_init_52 rfl ?_
  refine j_bud (b1 := (bc + (6 * N + 23)) + 1) (b2 := (bs + (167 * N + 1086)) + 12) (by omega) (by omega) ?_
  refine j_callINw (np := 56) (bc := (bc + (6 * N + 23))) (bs := (bs + (167 * N + 1086))) (cb := 1) (cs := 12) (dd := d - 1) (As := []) (st := [.ref (E.2.1 + a17), .ref (E.2.1 + v0)]) (host := RX9) caX3_init (List.mem_of_getElem? (i := 2) rfl) imX3_init rfl (fun b hb => wX3_init (by omega) hb) (by omega) rfl rfl (Nat.le_of_ble_eq_true rfl) dX9_init_53 rfl (fun b19 => ?_)
  refine j_pR (np := 59) flX9_36 (fun _ => rfl) dX9_init_56 rfl (fun m20 => ?_)
  refine j_aload_n (q := 0) (np := 60) rfl rfl dX9_init_59 rfl ?_
  refine j_bud (b1 := (bc + (6 * N + 22)) + 1) (b2 := (bs + (167 * N + 1080)) + 6) (by omega) (by omega) ?_
  refine j_new (bc := (bc + (6 * N + 22))) (bs := (bs + (167 * N + 1080))) (np := 63) qC2 clX9_40 dX9_init_60 rfl (fun a21 m22 => ?_)
  refine j_dup (np := 64) rfl dX9_init_63 rfl ?_
  refine j_aload_n (q := 0) (np := 65) rfl rfl dX9_init_64 rfl ?_
  refine j_gR (np := 68) flX9_29 dX9_init_65 rfl (fun x23 => ?_)
  refine j_aload_n (q := 0) (np := 69) rfl rfl dX9_init_68 rfl ?_
  refine j_gR (np := 72) flX9_36 dX9_init_69 rfl (fun x24 => ?_)
  refine j_bud (b1 := (bc + (4 * N + 18)) + (2 * N + 4)) (b2 := (bs + (125 * N + 912)) + (42 * N + 168)) (by omega) (by omega) ?_
  refine j_callIw (np := 75) (bc := (bc + (4 * N + 18))) (bs := (bs + (125 * N + 912))) (cb := (2 * N + 4)) (cs := (42 * N + 168)) (dd := d - 1) (As := [.ref (E.2.1 + x23), .ref (E.2.1 + x24)]) (st := [.ref (E.2.1 + a21), .ref (E.2.1 + v0)]) caX2_init mlX9_42 imX2_init rfl (fun b hb => wX2_init (by omega) hb) (by omega) rfl rfl (Nat.le_of_ble_eq_true rfl) dX9_init_72 rfl (fun b25 => ?_)
  refine j_pR (np := 78) flX9_45 (fun _ => rfl) dX9_init_75 rfl (fun m26 => ?_)
  refine j_aload_n (q := 0) (np := 79) rfl rfl dX9_init_78 rfl ?_
  refine j_bud (b1 := (bc + (4 * N + 17)) + 1) (b2 := (bs + (125 * N + 908)) + 4) (by omega) (by omega) ?_
  refine j_new (bc := (bc + (4 * N + 17))) (bs := (bs + (125 * N + 908))) (np := 82) qC4 clX9_49 dX9_init_79 rfl (fun a27 m28 => ?_)
  refine j_dup (np := 83) rfl dX9_init_82 rfl ?_
  refine j_bud (b1 := (bc + (4 * N + 14)) + 3) (b2 := (bs + (125 * N + 852)) + 56) (by omega) (by omega) ?_
  refine j_callINw (np := 86) (bc := (bc + (4 * N + 14))) (bs := (bs + (125 * N + 852))) (cb := 3) (cs := 56) (dd := d - 1) (As := []) (st := [.ref (E.2.1 + a27), .ref (E.2.1 + v0)]) (host := RX9) caX4_init (List.mem_of_getElem? (i := 3) rfl) imX4_init rfl (fun b hb => wX4_init (by omega) hb) (by omega) rfl rfl (Nat.le_of_ble_eq_true rfl) dX9_init_83 rfl (fun b29 => ?_)
  refine j_pR (np := 89) flX9_52 (fun _ => rfl) dX9_init_86 rfl (fun m30 => ?_)
  refine j_aload_n (q := 0) (np := 90) rfl rfl dX9_init_89 rfl ?_
  refine j_bud (b1 := (bc + (4 * N + 13)) + 1) (b2 := (bs + (125 * N + 842)) + 10) (by omega) (by omega) ?_
  refine j_new (bc := (bc + (4 * N + 13))) (bs := (bs + (125 * N + 842))) (np := 93) qC6 clX9_56 dX9_init_90 rfl (fun a31 m32 => ?_)
  refine j_dup (np := 94) rfl dX9_init_93 rfl ?_
  refine j_bud (b1 := (bc + (4 * N + 6)) + 7) (b2 := (bs + (125 * N + 187)) + 655) (by omega) (by omega) ?_
  refine j_callINw (np := 97) (bc := (bc + (4 * N + 6))) (bs := (bs + (125 * N + 187))) (cb := 7) (cs := 655) (dd := d - 1) (As := []) (st := [.ref (E.2.1 + a31), .ref (E.2.1 + v0)]) (host := RX9) caX6_init (List.mem_of_getElem? (i := 4) rfl) imX6_init rfl (fun b hb => wX6_init (by omega) hb) (by omega) rfl rfl (Nat.le_of_ble_eq_true rfl) dX9_init_94 rfl (fun b33 => ?_)
  refine j_pR (np := 100) flX9_59 (fun _ => rfl) dX9_init_97 rfl (fun m34 => ?_)
  refine j_aload_n (q := 0) (np := 101) rfl rfl dX9_init_100 rfl ?_
  refine j_iconst (np := 102) ci_3 dX9_init_101 rfl ?_
  refine j_bud (b1 := (bc + (4 * N + 5)) + 1) (b2 := (bs + (125 * N + 184)) + 3) (by omega) (by omega) ?_
  refine j_anew (bc := (bc + (4 * N + 5))) (bs := (bs + (125 * N + 184))) (c0 := 16) (t := 5) (n0 := 3) (np := 105) (C := "CondensedDetachment$Row") (Or.inr rfl) (by decide) (fun _ => rfl) (fun E U h => h.2.2.2.1) clX9_63 dX9_init_102 rfl (fun a35 m36 => ?_)
  refine j_pR (np := 108) flX9_65 (fun _ => rfl) dX9_init_105 rfl (fun m37 => ?_)
  refine j_iconst (np := 109) ci_0 dX9_init_108 rfl ?_
  refine j_istore_n (np := 110) (lv2 := [(1, .int (0 : Int32)), (0, .ref (E.2.1 + v0))]) rfl (by decide) dX9_init_109 rfl rfl ?_
  refine j_sub (lv2 := [(0, .ref (E.2.1 + v0)), (1, .int (0 : Int32))]) [1, 0] rfl ?_
  refine j_bud (b1 := (bc + (2 * N + 5)) + N * 2) (b2 := (bs + (42 * N + 184)) + N * 83) (by omega) (by omega) ?_
  refine j_loop (xp := 134) (lvX := fun o38 => [(0, .ref (E.2.1 + v0))]) (mX := fun o38 => o38) (lbX9_init_110 (bc := (bc + (2 * N + 5))) (bs := (bs + (42 * N + 184))) hd _ _ _) (fun o38 => ?_)
  refine j_aload_n (q := 0) (np := 135) rfl rfl dX9_init_134 rfl ?_
  refine j_bipush (np := 137) cb_10 dX9_init_135 rfl ?_
  refine j_bud (b1 := (bc + (2 * N + 4)) + 1) (b2 := (bs + (42 * N + 174)) + 10) (by omega) (by omega) ?_
  refine j_anew (bc := (bc + (2 * N + 4))) (bs := (bs + (42 * N + 174))) (c0 := 15) (t := 4) (n0 := 10) (np := 140) (C := "CondensedDetachment$Formula") (Or.inl rfl) (by decide) (fun _ => rfl) (fun E U h => h.2.2.1) clX9_70 dX9_init_137 rfl (fun a39 m40 => ?_)
  refine j_pR (np := 143) flX9_72 (fun _ => rfl) dX9_init_140 rfl (fun m41 => ?_)
  refine j_iconst (np := 144) ci_0 dX9_init_143 rfl ?_
  refine j_istore_n (np := 145) (lv2 := [(1, .int (0 : Int32)), (0, .ref (E.2.1 + v0))]) rfl (by decide) dX9_init_144 rfl rfl ?_
  refine j_sub (lv2 := [(0, .ref (E.2.1 + v0)), (1, .int (0 : Int32))]) [1, 0] rfl ?_
  refine j_bud (b1 := (bc + 4) + N * 2) (b2 := (bs + 174) + N * 42) (by omega) (by omega) ?_
  refine j_loop (xp := 170) (lvX := fun o42 => [(0, .ref (E.2.1 + v0))]) (mX := fun o42 => o42) (lbX9_init_145 (bc := (bc + 4)) (bs := (bs + 174)) hd _ _ _) (fun o42 => ?_)
  refine j_aload_n (q := 0) (np := 171) rfl rfl dX9_init_170 rfl ?_
  refine j_bud (b1 := (bc + 3) + 1) (b2 := (bs + 171) + 3) (by omega) (by omega) ?_
  refine j_new (bc := (bc + 3)) (bs := (bs + 171)) (np := 174) qC0 clX9_70 dX9_init_171 rfl (fun a43 m44 => ?_)
  refine j_dup (np := 175) rfl dX9_init_174 rfl ?_
  refine j_bud (b1 := (bc + 2) + 1) (b2 := (bs + 132) + 39) (by omega) (by omega) ?_
  refine j_callINw (np := 178) (bc := (bc + 2)) (bs := (bs + 132)) (cb := 1) (cs := 39) (dd := d - 1) (As := []) (st := [.ref (E.2.1 + a43), .ref (E.2.1 + v0)]) (host := RX9) caX0_init (List.mem_of_getElem? (i := 6) rfl) imX0_init rfl (fun b hb => wX0_init (by omega) hb) (by omega) rfl rfl (Nat.le_of_ble_eq_true rfl) dX9_init_175 rfl (fun b45 => ?_)
  refine j_pR (np := 181) flX9_77 (fun _ => rfl) dX9_init_178 rfl (fun m46 => ?_)
  refine j_aload_n (q := 0) (np := 182) rfl rfl dX9_init_181 rfl ?_
  refine j_bipush (np := 184) cb_12 dX9_init_182 rfl ?_
  refine j_bud (b1 := (bc + 1) + 1) (b2 := (bs + 120) + 12) (by omega) (by omega) ?_
  refine j_newarr (bc := (bc + 1)) (bs := (bs + 120)) (c0 := 12) (t := 1) (n0 := 12) (np := 186) (atype := .int) (ty := .int) (Or.inr (Or.inl rfl)) rfl rfl (by decide) (by decide) (fun _ => rfl) (fun _ _ => rfl) ac_int dX9_init_184 rfl (fun a47 m48 => ?_)
  refine j_pR (np := 189) flX9_81 (fun _ => rfl) dX9_init_186 rfl (fun m49 => ?_)
  refine j_aload_n (q := 0) (np := 190) rfl rfl dX9_init_189 rfl ?_
  refine j_bipush (np := 192) cb_120 dX9_init_190 rfl ?_
  refine j_bud (b1 := bc + 1) (b2 := bs + 120) (by omega) (by omega) ?_
  refine j_newarr (bc := bc) (bs := bs) (c0 := 12) (t := 1) (n0 := 120) (np := 194) (atype := .int) (ty := .int) (Or.inr (Or.inl rfl)) rfl rfl (by decide) (by decide) (fun _ => rfl) (fun _ _ => rfl) ac_int dX9_init_192 rfl (fun a50 m51 => ?_)
  refine j_pR (np := 197) flX9_85 (fun _ => rfl) dX9_init_194 rfl (fun m52 => ?_)
  exact j_vret rfl dX9_init_197 (fun rr h => h)
set_option maxRecDepth 100000 in
theorem wX9_init {E : qE} {N d : Nat} (hd : 3 ≤ d) {v0 : Nat} {m0 : qM} {b : qM} (h : fX9_init N v0 m0 = some b) : qRun E yX9_init cX9_init 2 none d (8 * N + 46) (209 * N + 2447) [.ref (E.2.1 + v0)] m0 (none, b) := q_met pnX9 (Nat.le_of_ble_eq_true rfl) ((j_bud (by omega) (by omega) (bX9_init (bc := 0) (bs := 0) hd)) b _ h rfl)
theorem dX9_append_0 : decode cX9_append 0 = .ok (.iload_n 1, 1) := by decide +kernel
theorem dX9_append_1 : decode cX9_append 1 = .ok (.bipush 33, 2) := by decide +kernel
theorem dX9_append_3 : decode cX9_append 3 = .ok (.if_icmp .lt 9, 3) := by decide +kernel
theorem dX9_append_6 : decode cX9_append 6 = .ok (.iload_n 1, 1) := by decide +kernel
theorem dX9_append_7 : decode cX9_append 7 = .ok (.bipush 126, 2) := by decide +kernel
theorem dX9_append_9 : decode cX9_append 9 = .ok (.if_icmp .le 6, 3) := by decide +kernel
theorem dX9_append_12 : decode cX9_append 12 = .ok (.bipush (-2), 2) := by decide +kernel
theorem dX9_append_14 : decode cX9_append 14 = .ok (.ireturn, 1) := by decide +kernel
theorem dX9_append_15 : decode cX9_append 15 = .ok (.aload_n 0, 1) := by decide +kernel
theorem dX9_append_16 : decode cX9_append 16 = .ok (.getfield 12, 3) := by decide +kernel
theorem dX9_append_19 : decode cX9_append 19 = .ok (.invokevirtual 88, 3) := by decide +kernel
theorem dX9_append_22 : decode cX9_append 22 = .ok (.bipush 80, 2) := by decide +kernel
theorem dX9_append_24 : decode cX9_append 24 = .ok (.if_icmp .lt 6, 3) := by decide +kernel
theorem dX9_append_27 : decode cX9_append 27 = .ok (.bipush (-3), 2) := by decide +kernel
theorem dX9_append_29 : decode cX9_append 29 = .ok (.ireturn, 1) := by decide +kernel
theorem dX9_append_30 : decode cX9_append 30 = .ok (.aload_n 0, 1) := by decide +kernel
theorem dX9_append_31 : decode cX9_append 31 = .ok (.getfield 12, 3) := by decide +kernel
theorem dX9_append_34 : decode cX9_append 34 = .ok (.iload_n 1, 1) := by decide +kernel
theorem dX9_append_35 : decode cX9_append 35 = .ok (.i2c, 1) := by decide +kernel
theorem dX9_append_36 : decode cX9_append 36 = .ok (.invokevirtual 92, 3) := by decide +kernel
theorem dX9_append_39 : decode cX9_append 39 = .ok (.aload_n 0, 1) := by decide +kernel
theorem dX9_append_40 : decode cX9_append 40 = .ok (.getfield 12, 3) := by decide +kernel
theorem dX9_append_43 : decode cX9_append 43 = .ok (.invokevirtual 88, 3) := by decide +kernel
theorem dX9_append_46 : decode cX9_append 46 = .ok (.ireturn, 1) := by decide +kernel
def fX9_append (N : Nat) (v0 : Nat) (v1 : Int32) (m0 : qM) : Option (Int32 × qM) :=
  if v1 < (33 : Int32) then (
  some ((-2 : Int32), m0)
  ) else (
  if v1 ≤ (126 : Int32) then (
  (qgR m0 v0 9 0).bind fun x1 =>
  (qChk m0 x1 7 (fX7_length N x1 m0)).bind fun b2 =>
  if b2.1 < (80 : Int32) then (
  (qgR b2.2 v0 9 0).bind fun x3 =>
  (qChk b2.2 x3 7 (fX7_add N x3 ((v1.toUInt32 % 65536).toInt32) b2.2)).bind fun b4 =>
  (qgR b4 v0 9 0).bind fun x5 =>
  (qChk b4 x5 7 (fX7_length N x5 b4)).bind fun b6 =>
  some (b6.1, b6.2)
  ) else (
  some ((-3 : Int32), b2.2)
  )
  ) else (
  some ((-2 : Int32), m0)
  )
  )
set_option maxRecDepth 100000 in
theorem bX9_append {E : qE} {N d bc bs : Nat} (hd : 1 ≤ d) {v0 : Nat} {v1 : Int32} {m0 : qM} : qB E yX9_append cX9_append 2 (some .int) (fun _ => True) d bc bs 0 [(0, .ref (E.2.1 + v0)), (1, .int v1)] [] m0 (fX9_append N v0 v1 m0) (fun b rr => rr = (some (.int b.1), b.2)) := by
  unfold fX9_append
  refine j_iload_n (q := 1) (np := 1) rfl rfl dX9_append_0 rfl ?_
  refine j_bipush (np := 3) cb_33 dX9_append_1 rfl ?_
  refine j_icmp_lt (tgt := 12) (np := 6) dX9_append_3 rfl rfl ?_ ?_
  · refine j_bipush (np := 14) cb_m2 dX9_append_12 rfl ?_
    exact j_iret rfl dX9_append_14 (fun rr h => h)
  · refine j_iload_n (q := 1) (np := 7) rfl rfl dX9_append_6 rfl ?_
    refine j_bipush (np := 9) cb_126 dX9_append_7 rfl ?_
    refine j_icmp_le (tgt := 15) (np := 12) dX9_append_9 rfl rfl ?_ ?_
    · refine j_aload_n (q := 0) (np := 16) rfl rfl dX9_append_15 rfl ?_
      refine j_gR (np := 19) flX9_12 dX9_append_16 rfl (fun x1 => ?_)
      refine j_callVi (ci := 7) (np := 22) (bc := bc) (bs := bs) (cb := 0) (cs := 0) (dd := d - 1) (As := []) (st := []) caX7_length mlX9_88 imX7_length seX7_length rfl rfl (by decide) (fun b hb => wX7_length (by omega) hb) (by omega) rfl rfl (Nat.le_of_ble_eq_true rfl) dX9_append_19 rfl (fun b2 => ?_)
      refine j_bipush (np := 24) cb_80 dX9_append_22 rfl ?_
      refine j_icmp_lt (tgt := 30) (np := 27) dX9_append_24 rfl rfl ?_ ?_
      · refine j_aload_n (q := 0) (np := 31) rfl rfl dX9_append_30 rfl ?_
        refine j_gR (np := 34) flX9_12 dX9_append_31 rfl (fun x3 => ?_)
        refine j_iload_n (q := 1) (np := 35) rfl rfl dX9_append_34 rfl ?_
        refine j_i2c (np := 36) dX9_append_35 rfl ?_
        refine j_callVv (ci := 7) (np := 39) (bc := bc) (bs := bs) (cb := 0) (cs := 0) (dd := d - 1) (As := [.int ((v1.toUInt32 % 65536).toInt32)]) (st := []) caX7_add mlX9_92 imX7_add seX7_add rfl rfl (by decide) (fun b hb => wX7_add (by omega) hb) (by omega) rfl rfl (Nat.le_of_ble_eq_true rfl) dX9_append_36 rfl (fun b4 => ?_)
        refine j_aload_n (q := 0) (np := 40) rfl rfl dX9_append_39 rfl ?_
        refine j_gR (np := 43) flX9_12 dX9_append_40 rfl (fun x5 => ?_)
        refine j_callVi (ci := 7) (np := 46) (bc := bc) (bs := bs) (cb := 0) (cs := 0) (dd := d - 1) (As := []) (st := []) caX7_length mlX9_88 imX7_length seX7_length rfl rfl (by decide) (fun b hb => wX7_length (by omega) hb) (by omega) rfl rfl (Nat.le_of_ble_eq_true rfl) dX9_append_43 rfl (fun b6 => ?_)
        exact j_iret rfl dX9_append_46 (fun rr h => h)
      · refine j_bipush (np := 29) cb_m3 dX9_append_27 rfl ?_
        exact j_iret rfl dX9_append_29 (fun rr h => h)
    · refine j_bipush (np := 14) cb_m2 dX9_append_12 rfl ?_
      exact j_iret rfl dX9_append_14 (fun rr h => h)
set_option maxRecDepth 100000 in
theorem wX9_append {E : qE} {N d : Nat} (hd : 1 ≤ d) {v0 : Nat} {v1 : Int32} {m0 : qM} {b : Int32 × qM} (h : fX9_append N v0 v1 m0 = some b) : qRun E yX9_append cX9_append 2 (some .int) d 0 0 [.ref (E.2.1 + v0), .int v1] m0 (some (.int b.1), b.2) := q_met pnX9 (Nat.le_of_ble_eq_true rfl) (bX9_append hd b _ h rfl)
theorem dX9_clearText_0 : decode cX9_clearText 0 = .ok (.aload_n 0, 1) := by decide +kernel
theorem dX9_clearText_1 : decode cX9_clearText 1 = .ok (.getfield 12, 3) := by decide +kernel
theorem dX9_clearText_4 : decode cX9_clearText 4 = .ok (.invokevirtual 88, 3) := by decide +kernel
theorem dX9_clearText_7 : decode cX9_clearText 7 = .ok (.istore_n 1, 1) := by decide +kernel
theorem dX9_clearText_8 : decode cX9_clearText 8 = .ok (.aload_n 0, 1) := by decide +kernel
theorem dX9_clearText_9 : decode cX9_clearText 9 = .ok (.getfield 12, 3) := by decide +kernel
theorem dX9_clearText_12 : decode cX9_clearText 12 = .ok (.invokevirtual 96, 3) := by decide +kernel
theorem dX9_clearText_15 : decode cX9_clearText 15 = .ok (.iload_n 1, 1) := by decide +kernel
theorem dX9_clearText_16 : decode cX9_clearText 16 = .ok (.ireturn, 1) := by decide +kernel
def fX9_clearText (N : Nat) (v0 : Nat) (m0 : qM) : Option (Int32 × qM) :=
  (qgR m0 v0 9 0).bind fun x1 =>
  (qChk m0 x1 7 (fX7_length N x1 m0)).bind fun b2 =>
  (qgR b2.2 v0 9 0).bind fun x3 =>
  (qChk b2.2 x3 7 (fX7_makeEmpty N x3 b2.2)).bind fun b4 =>
  some (b2.1, b4)
set_option maxRecDepth 100000 in
theorem bX9_clearText {E : qE} {N d bc bs : Nat} (hd : 1 ≤ d) {v0 : Nat} {m0 : qM} : qB E yX9_clearText cX9_clearText 2 (some .int) (fun _ => True) d bc bs 0 [(0, .ref (E.2.1 + v0))] [] m0 (fX9_clearText N v0 m0) (fun b rr => rr = (some (.int b.1), b.2)) := by
  unfold fX9_clearText
  refine j_aload_n (q := 0) (np := 1) rfl rfl dX9_clearText_0 rfl ?_
  refine j_gR (np := 4) flX9_12 dX9_clearText_1 rfl (fun x1 => ?_)
  refine j_callVi (ci := 7) (np := 7) (bc := bc) (bs := bs) (cb := 0) (cs := 0) (dd := d - 1) (As := []) (st := []) caX7_length mlX9_88 imX7_length seX7_length rfl rfl (by decide) (fun b hb => wX7_length (by omega) hb) (by omega) rfl rfl (Nat.le_of_ble_eq_true rfl) dX9_clearText_4 rfl (fun b2 => ?_)
  refine j_istore_n (np := 8) (lv2 := [(1, .int b2.1), (0, .ref (E.2.1 + v0))]) rfl (by decide) dX9_clearText_7 rfl rfl ?_
  refine j_aload_n (q := 1) (np := 9) rfl rfl dX9_clearText_8 rfl ?_
  refine j_gR (np := 12) flX9_12 dX9_clearText_9 rfl (fun x3 => ?_)
  refine j_callVv (ci := 7) (np := 15) (bc := bc) (bs := bs) (cb := 0) (cs := 0) (dd := d - 1) (As := []) (st := []) caX7_makeEmpty mlX9_96 imX7_makeEmpty seX7_makeEmpty rfl rfl (by decide) (fun b hb => wX7_makeEmpty (by omega) hb) (by omega) rfl rfl (Nat.le_of_ble_eq_true rfl) dX9_clearText_12 rfl (fun b4 => ?_)
  refine j_iload_n (q := 0) (np := 16) rfl rfl dX9_clearText_15 rfl ?_
  exact j_iret rfl dX9_clearText_16 (fun rr h => h)
set_option maxRecDepth 100000 in
theorem wX9_clearText {E : qE} {N d : Nat} (hd : 1 ≤ d) {v0 : Nat} {m0 : qM} {b : Int32 × qM} (h : fX9_clearText N v0 m0 = some b) : qRun E yX9_clearText cX9_clearText 2 (some .int) d 0 0 [.ref (E.2.1 + v0)] m0 (some (.int b.1), b.2) := q_met pnX9 (Nat.le_of_ble_eq_true rfl) (bX9_clearText hd b _ h rfl)
theorem dX9_enterText_0 : decode cX9_enterText 0 = .ok (.aload_n 0, 1) := by decide +kernel
theorem dX9_enterText_1 : decode cX9_enterText 1 = .ok (.getfield 77, 3) := by decide +kernel
theorem dX9_enterText_4 : decode cX9_enterText 4 = .ok (.invokevirtual 261, 3) := by decide +kernel
theorem dX9_enterText_7 : decode cX9_enterText 7 = .ok (.iconst 0, 1) := by decide +kernel
theorem dX9_enterText_8 : decode cX9_enterText 8 = .ok (.istore_n 1, 1) := by decide +kernel
theorem dX9_enterText_9 : decode cX9_enterText 9 = .ok (.iload_n 1, 1) := by decide +kernel
theorem dX9_enterText_10 : decode cX9_enterText 10 = .ok (.aload_n 0, 1) := by decide +kernel
theorem dX9_enterText_11 : decode cX9_enterText 11 = .ok (.getfield 12, 3) := by decide +kernel
theorem dX9_enterText_14 : decode cX9_enterText 14 = .ok (.invokevirtual 88, 3) := by decide +kernel
theorem dX9_enterText_17 : decode cX9_enterText 17 = .ok (.if_icmp .ge 34, 3) := by decide +kernel
theorem dX9_enterText_20 : decode cX9_enterText 20 = .ok (.aload_n 0, 1) := by decide +kernel
theorem dX9_enterText_21 : decode cX9_enterText 21 = .ok (.getfield 77, 3) := by decide +kernel
theorem dX9_enterText_24 : decode cX9_enterText 24 = .ok (.aload_n 0, 1) := by decide +kernel
theorem dX9_enterText_25 : decode cX9_enterText 25 = .ok (.getfield 12, 3) := by decide +kernel
theorem dX9_enterText_28 : decode cX9_enterText 28 = .ok (.iload_n 1, 1) := by decide +kernel
theorem dX9_enterText_29 : decode cX9_enterText 29 = .ok (.invokevirtual 167, 3) := by decide +kernel
theorem dX9_enterText_32 : decode cX9_enterText 32 = .ok (.aload_n 0, 1) := by decide +kernel
theorem dX9_enterText_33 : decode cX9_enterText 33 = .ok (.getfield 81, 3) := by decide +kernel
theorem dX9_enterText_36 : decode cX9_enterText 36 = .ok (.invokevirtual 262, 3) := by decide +kernel
theorem dX9_enterText_39 : decode cX9_enterText 39 = .ok (.ifCond .ne 6, 3) := by decide +kernel
theorem dX9_enterText_42 : decode cX9_enterText 42 = .ok (.bipush (-5), 2) := by decide +kernel
theorem dX9_enterText_44 : decode cX9_enterText 44 = .ok (.ireturn, 1) := by decide +kernel
theorem dX9_enterText_45 : decode cX9_enterText 45 = .ok (.iinc 1 1, 3) := by decide +kernel
theorem dX9_enterText_48 : decode cX9_enterText 48 = .ok (.goto (-39), 3) := by decide +kernel
theorem dX9_enterText_51 : decode cX9_enterText 51 = .ok (.aload_n 0, 1) := by decide +kernel
theorem dX9_enterText_52 : decode cX9_enterText 52 = .ok (.getfield 22, 3) := by decide +kernel
theorem dX9_enterText_55 : decode cX9_enterText 55 = .ok (.aload_n 0, 1) := by decide +kernel
theorem dX9_enterText_56 : decode cX9_enterText 56 = .ok (.getfield 77, 3) := by decide +kernel
theorem dX9_enterText_59 : decode cX9_enterText 59 = .ok (.bipush (-4), 2) := by decide +kernel
theorem dX9_enterText_61 : decode cX9_enterText 61 = .ok (.bipush (-4), 2) := by decide +kernel
theorem dX9_enterText_63 : decode cX9_enterText 63 = .ok (.invokevirtual 266, 3) := by decide +kernel
theorem dX9_enterText_66 : decode cX9_enterText 66 = .ok (.ireturn, 1) := by decide +kernel
def lX9_enterText_9 (N : Nat) (v0 : Nat) : Nat → Int32 → qM → Option ((qM) ⊕ (Int32 × qM))
  | 0, _, _ => none
  | n + 1, v1, m0 =>
    (qgR m0 v0 9 0).bind fun x1 =>
    (qChk m0 x1 7 (fX7_length N x1 m0)).bind fun b2 =>
    if b2.1 ≤ v1 then (
    some (.inl b2.2)
    ) else (
    (qgR b2.2 v0 9 10).bind fun x3 =>
    (qgR b2.2 v0 9 0).bind fun x4 =>
    (qChk b2.2 x4 7 (fX7_at N x4 v1 b2.2)).bind fun b5 =>
    (qgR b5.2 v0 9 11).bind fun x6 =>
    (qChk b5.2 x3 0 (fX0_addLetter N x3 b5.1 x6 b5.2)).bind fun b7 =>
    if b7.1 = 0 then (
    some (.inr ((-5 : Int32), b7.2))
    ) else (
    lX9_enterText_9 N v0 n (v1 + (1 : Int32)) b7.2
    )
    )
set_option maxRecDepth 100000 in
theorem lbX9_enterText_9 {E : qE} {N d bc bs : Nat} (hd : 3 ≤ d) {v0 : Nat} : ∀ (n : Nat) (v1 : Int32) (m0 : qM), qB E yX9_enterText cX9_enterText 2 (some .int) (fun _ => True) d bc bs 9 [(0, .ref (E.2.1 + v0)), (1, .int v1)] [] m0 (lX9_enterText_9 N v0 n v1 m0) (qGL (fun o rr => qJ E yX9_enterText cX9_enterText 2 (some .int) (fun _ => True) d bc bs 51 [(0, .ref (E.2.1 + v0))] [] o rr) (fun r => (some (.int r.1), r.2))) := by
  intro n
  induction n with
  | zero =>
    intro v1 m0
    exact j_none
  | succ n ih =>
    intro v1 m0
    unfold lX9_enterText_9
    refine j_iload_n (q := 1) (np := 10) rfl rfl dX9_enterText_9 rfl ?_
    refine j_aload_n (q := 0) (np := 11) rfl rfl dX9_enterText_10 rfl ?_
    refine j_gR (np := 14) flX9_12 dX9_enterText_11 rfl (fun x1 => ?_)
    refine j_callVi (ci := 7) (np := 17) (bc := bc) (bs := bs) (cb := 0) (cs := 0) (dd := d - 1) (As := []) (st := [.int v1]) caX7_length mlX9_88 imX7_length seX7_length rfl rfl (by decide) (fun b hb => wX7_length (by omega) hb) (by omega) rfl rfl (Nat.le_of_ble_eq_true rfl) dX9_enterText_14 rfl (fun b2 => ?_)
    refine j_icmp_ge (tgt := 51) (np := 20) dX9_enterText_17 rfl rfl ?_ ?_
    · refine j_sub (lv2 := [(0, .ref (E.2.1 + v0))]) [0] rfl ?_
      exact j_exit (fun rr h => h)
    · refine j_aload_n (q := 0) (np := 21) rfl rfl dX9_enterText_20 rfl ?_
      refine j_gR (np := 24) flX9_77 dX9_enterText_21 rfl (fun x3 => ?_)
      refine j_aload_n (q := 0) (np := 25) rfl rfl dX9_enterText_24 rfl ?_
      refine j_gR (np := 28) flX9_12 dX9_enterText_25 rfl (fun x4 => ?_)
      refine j_iload_n (q := 1) (np := 29) rfl rfl dX9_enterText_28 rfl ?_
      refine j_callVi (ci := 7) (np := 32) (bc := bc) (bs := bs) (cb := 0) (cs := 0) (dd := d - 1) (As := [.int v1]) (st := [.ref (E.2.1 + x3)]) caX7_at mlX9_167 imX7_at seX7_at rfl rfl (by decide) (fun b hb => wX7_at (by omega) hb) (by omega) rfl rfl (Nat.le_of_ble_eq_true rfl) dX9_enterText_29 rfl (fun b5 => ?_)
      refine j_aload_n (q := 0) (np := 33) rfl rfl dX9_enterText_32 rfl ?_
      refine j_gR (np := 36) flX9_81 dX9_enterText_33 rfl (fun x6 => ?_)
      refine j_callVi (ci := 0) (np := 39) (bc := bc) (bs := bs) (cb := 0) (cs := 0) (dd := d - 1) (As := [.int b5.1, .ref (E.2.1 + x6)]) (st := []) caX0_addLetter mlX9_262 imX0_addLetter seX0_addLetter rfl rfl (by decide) (fun b hb => wX0_addLetter (by omega) hb) (by omega) rfl rfl (Nat.le_of_ble_eq_true rfl) dX9_enterText_36 rfl (fun b7 => ?_)
      refine j_if_ne (tgt := 45) (np := 42) dX9_enterText_39 rfl rfl ?_ ?_
      · refine j_iinc (q := 1) (np := 48) (lv2 := [(1, .int (v1 + (1 : Int32))), (0, .ref (E.2.1 + v0))]) rfl (congrArg _ ci_1) (by decide) dX9_enterText_45 rfl rfl ?_
        refine j_goto (tgt := 9) dX9_enterText_48 rfl ?_
        refine j_sub (lv2 := [(0, .ref (E.2.1 + v0)), (1, .int (v1 + (1 : Int32)))]) [1, 0] rfl ?_
        exact ih _ _
      · refine j_bipush (np := 44) cb_m5 dX9_enterText_42 rfl ?_
        exact j_iret rfl dX9_enterText_44 (fun rr h => h)
def fX9_enterText (N : Nat) (v0 : Nat) (m0 : qM) : Option (Int32 × qM) :=
  (qgR m0 v0 9 10).bind fun x1 =>
  (qChk m0 x1 0 (fX0_makeEmpty N x1 m0)).bind fun b2 =>
  qTh (lX9_enterText_9 N v0 N (0 : Int32) b2) (fun o3 =>
  (qgR o3 v0 9 2).bind fun x4 =>
  (qgR o3 v0 9 10).bind fun x5 =>
  (qChk o3 x4 1 (fX1_enter N x4 x5 (-4 : Int32) (-4 : Int32) o3)).bind fun b6 =>
  some (b6.1, b6.2)
  ) (fun r => r)
set_option maxRecDepth 100000 in
theorem bX9_enterText {E : qE} {N d bc bs : Nat} (hd : 3 ≤ d) {v0 : Nat} {m0 : qM} : qB E yX9_enterText cX9_enterText 2 (some .int) (fun _ => True) d bc bs 0 [(0, .ref (E.2.1 + v0))] [] m0 (fX9_enterText N v0 m0) (fun b rr => rr = (some (.int b.1), b.2)) := by
  unfold fX9_enterText
  refine j_aload_n (q := 0) (np := 1) rfl rfl dX9_enterText_0 rfl ?_
  refine j_gR (np := 4) flX9_77 dX9_enterText_1 rfl (fun x1 => ?_)
  refine j_callVv (ci := 0) (np := 7) (bc := bc) (bs := bs) (cb := 0) (cs := 0) (dd := d - 1) (As := []) (st := []) caX0_makeEmpty mlX9_261 imX0_makeEmpty seX0_makeEmpty rfl rfl (by decide) (fun b hb => wX0_makeEmpty (by omega) hb) (by omega) rfl rfl (Nat.le_of_ble_eq_true rfl) dX9_enterText_4 rfl (fun b2 => ?_)
  refine j_iconst (np := 8) ci_0 dX9_enterText_7 rfl ?_
  refine j_istore_n (np := 9) (lv2 := [(1, .int (0 : Int32)), (0, .ref (E.2.1 + v0))]) rfl (by decide) dX9_enterText_8 rfl rfl ?_
  refine j_sub (lv2 := [(0, .ref (E.2.1 + v0)), (1, .int (0 : Int32))]) [1, 0] rfl ?_
  refine j_loopG (xp := 51) (lvX := fun o3 => [(0, .ref (E.2.1 + v0))]) (mX := fun o3 => o3) (lbX9_enterText_9 hd _ _ _) (fun r rr h => h) (fun o3 => ?_)
  refine j_aload_n (q := 0) (np := 52) rfl rfl dX9_enterText_51 rfl ?_
  refine j_gR (np := 55) flX9_22 dX9_enterText_52 rfl (fun x4 => ?_)
  refine j_aload_n (q := 0) (np := 56) rfl rfl dX9_enterText_55 rfl ?_
  refine j_gR (np := 59) flX9_77 dX9_enterText_56 rfl (fun x5 => ?_)
  refine j_bipush (np := 61) cb_m4 dX9_enterText_59 rfl ?_
  refine j_bipush (np := 63) cb_m4 dX9_enterText_61 rfl ?_
  refine j_callVi (ci := 1) (np := 66) (bc := bc) (bs := bs) (cb := 0) (cs := 0) (dd := d - 1) (As := [.ref (E.2.1 + x5), .int (-4 : Int32), .int (-4 : Int32)]) (st := []) caX1_enter mlX9_266 imX1_enter seX1_enter rfl rfl (by decide) (fun b hb => wX1_enter (by omega) hb) (by omega) rfl rfl (Nat.le_of_ble_eq_true rfl) dX9_enterText_63 rfl (fun b6 => ?_)
  exact j_iret rfl dX9_enterText_66 (fun rr h => h)
set_option maxRecDepth 100000 in
theorem wX9_enterText {E : qE} {N d : Nat} (hd : 3 ≤ d) {v0 : Nat} {m0 : qM} {b : Int32 × qM} (h : fX9_enterText N v0 m0 = some b) : qRun E yX9_enterText cX9_enterText 2 (some .int) d 0 0 [.ref (E.2.1 + v0)] m0 (some (.int b.1), b.2) := q_met pnX9 (Nat.le_of_ble_eq_true rfl) (bX9_enterText hd b _ h rfl)
theorem dX9_polishError_0 : decode cX9_polishError 0 = .ok (.iconst 1, 1) := by decide +kernel
theorem dX9_polishError_1 : decode cX9_polishError 1 = .ok (.istore 4, 2) := by decide +kernel
theorem dX9_polishError_3 : decode cX9_polishError 3 = .ok (.iconst 0, 1) := by decide +kernel
theorem dX9_polishError_4 : decode cX9_polishError 4 = .ok (.istore 5, 2) := by decide +kernel
theorem dX9_polishError_6 : decode cX9_polishError 6 = .ok (.iload 5, 2) := by decide +kernel
theorem dX9_polishError_8 : decode cX9_polishError 8 = .ok (.aload_n 0, 1) := by decide +kernel
theorem dX9_polishError_9 : decode cX9_polishError 9 = .ok (.getfield 12, 3) := by decide +kernel
theorem dX9_polishError_12 : decode cX9_polishError 12 = .ok (.invokevirtual 88, 3) := by decide +kernel
theorem dX9_polishError_15 : decode cX9_polishError 15 = .ok (.if_icmp .ge 73, 3) := by decide +kernel
theorem dX9_polishError_18 : decode cX9_polishError 18 = .ok (.aload_n 0, 1) := by decide +kernel
theorem dX9_polishError_19 : decode cX9_polishError 19 = .ok (.getfield 12, 3) := by decide +kernel
theorem dX9_polishError_22 : decode cX9_polishError 22 = .ok (.iload 5, 2) := by decide +kernel
theorem dX9_polishError_24 : decode cX9_polishError 24 = .ok (.invokevirtual 167, 3) := by decide +kernel
theorem dX9_polishError_27 : decode cX9_polishError 27 = .ok (.istore 6, 2) := by decide +kernel
theorem dX9_polishError_29 : decode cX9_polishError 29 = .ok (.iload 6, 2) := by decide +kernel
theorem dX9_polishError_31 : decode cX9_polishError 31 = .ok (.iload_n 2, 1) := by decide +kernel
theorem dX9_polishError_32 : decode cX9_polishError 32 = .ok (.if_icmp .lt 13, 3) := by decide +kernel
theorem dX9_polishError_35 : decode cX9_polishError 35 = .ok (.iload 6, 2) := by decide +kernel
theorem dX9_polishError_37 : decode cX9_polishError 37 = .ok (.iload_n 3, 1) := by decide +kernel
theorem dX9_polishError_38 : decode cX9_polishError 38 = .ok (.if_icmp .gt 7, 3) := by decide +kernel
theorem dX9_polishError_41 : decode cX9_polishError 41 = .ok (.iconst 1, 1) := by decide +kernel
theorem dX9_polishError_42 : decode cX9_polishError 42 = .ok (.goto 4, 3) := by decide +kernel
theorem dX9_polishError_45 : decode cX9_polishError 45 = .ok (.iconst 0, 1) := by decide +kernel
theorem dX9_polishError_46 : decode cX9_polishError 46 = .ok (.istore 7, 2) := by decide +kernel
theorem dX9_polishError_48 : decode cX9_polishError 48 = .ok (.iload 4, 2) := by decide +kernel
theorem dX9_polishError_50 : decode cX9_polishError 50 = .ok (.ifCond .eq 14, 3) := by decide +kernel
theorem dX9_polishError_53 : decode cX9_polishError 53 = .ok (.iload 7, 2) := by decide +kernel
theorem dX9_polishError_55 : decode cX9_polishError 55 = .ok (.ifCond .ne 12, 3) := by decide +kernel
theorem dX9_polishError_58 : decode cX9_polishError 58 = .ok (.iload 6, 2) := by decide +kernel
theorem dX9_polishError_60 : decode cX9_polishError 60 = .ok (.iload_n 1, 1) := by decide +kernel
theorem dX9_polishError_61 : decode cX9_polishError 61 = .ok (.if_icmp .eq 6, 3) := by decide +kernel
theorem dX9_polishError_64 : decode cX9_polishError 64 = .ok (.iload 5, 2) := by decide +kernel
theorem dX9_polishError_66 : decode cX9_polishError 66 = .ok (.ireturn, 1) := by decide +kernel
theorem dX9_polishError_67 : decode cX9_polishError 67 = .ok (.iload 4, 2) := by decide +kernel
theorem dX9_polishError_69 : decode cX9_polishError 69 = .ok (.iload 7, 2) := by decide +kernel
theorem dX9_polishError_71 : decode cX9_polishError 71 = .ok (.ifCond .eq 7, 3) := by decide +kernel
theorem dX9_polishError_74 : decode cX9_polishError 74 = .ok (.iconst (-1), 1) := by decide +kernel
theorem dX9_polishError_75 : decode cX9_polishError 75 = .ok (.goto 4, 3) := by decide +kernel
theorem dX9_polishError_78 : decode cX9_polishError 78 = .ok (.iconst 1, 1) := by decide +kernel
theorem dX9_polishError_79 : decode cX9_polishError 79 = .ok (.iadd, 1) := by decide +kernel
theorem dX9_polishError_80 : decode cX9_polishError 80 = .ok (.istore 4, 2) := by decide +kernel
theorem dX9_polishError_82 : decode cX9_polishError 82 = .ok (.iinc 5 1, 3) := by decide +kernel
theorem dX9_polishError_85 : decode cX9_polishError 85 = .ok (.goto (-79), 3) := by decide +kernel
theorem dX9_polishError_88 : decode cX9_polishError 88 = .ok (.iload 4, 2) := by decide +kernel
theorem dX9_polishError_90 : decode cX9_polishError 90 = .ok (.ifCond .ne 7, 3) := by decide +kernel
theorem dX9_polishError_93 : decode cX9_polishError 93 = .ok (.iconst (-1), 1) := by decide +kernel
theorem dX9_polishError_94 : decode cX9_polishError 94 = .ok (.goto 10, 3) := by decide +kernel
theorem dX9_polishError_97 : decode cX9_polishError 97 = .ok (.aload_n 0, 1) := by decide +kernel
theorem dX9_polishError_98 : decode cX9_polishError 98 = .ok (.getfield 12, 3) := by decide +kernel
theorem dX9_polishError_101 : decode cX9_polishError 101 = .ok (.invokevirtual 88, 3) := by decide +kernel
theorem dX9_polishError_104 : decode cX9_polishError 104 = .ok (.ireturn, 1) := by decide +kernel
def kX9_polishError_79 (N : Nat) (rec : Int32 → Int32 → qM → Option ((Int32 × qM) ⊕ (Int32 × qM))) (v0 : Nat) (v1 : Int32) (v2 : Int32) (v3 : Int32) (v5 : Int32) (s0 : Int32) (s1 : Int32) (m0 : qM) : Option ((Int32 × qM) ⊕ (Int32 × qM)) :=
  rec (s0 + s1) (v5 + (1 : Int32)) m0
set_option maxRecDepth 100000 in
theorem kbX9_polishError_79 {E : qE} {N d bc bs : Nat} (hd : 1 ≤ d) {v0 : Nat} {v1 : Int32} {v2 : Int32} {v3 : Int32} {v5 : Int32} {s0 : Int32} {s1 : Int32} {m0 : qM} {rec : Int32 → Int32 → qM → Option ((Int32 × qM) ⊕ (Int32 × qM))} (hrec : ∀ (v4 : Int32) (v5 : Int32) (m : qM), qB E yX9_polishError cX9_polishError 8 (some .int) (fun _ => True) d bc bs 6 [(0, .ref (E.2.1 + v0)), (1, .int v1), (2, .int v2), (3, .int v3), (4, .int v4), (5, .int v5)] [] m (rec v4 v5 m) (qGL (fun o rr => qJ E yX9_polishError cX9_polishError 8 (some .int) (fun _ => True) d bc bs 88 [(0, .ref (E.2.1 + v0)), (4, .int o.1)] [] o.2 rr) (fun r => (some (.int r.1), r.2)))) : qB E yX9_polishError cX9_polishError 8 (some .int) (fun _ => True) d bc bs 79 [(0, .ref (E.2.1 + v0)), (1, .int v1), (2, .int v2), (3, .int v3), (5, .int v5)] [.int s1, .int s0] m0 (kX9_polishError_79 N rec v0 v1 v2 v3 v5 s0 s1 m0) (qGL (fun o rr => qJ E yX9_polishError cX9_polishError 8 (some .int) (fun _ => True) d bc bs 88 [(0, .ref (E.2.1 + v0)), (4, .int o.1)] [] o.2 rr) (fun r => (some (.int r.1), r.2))) := by
  unfold kX9_polishError_79
  refine j_iadd (np := 80) dX9_polishError_79 rfl ?_
  refine j_istore (np := 82) (lv2 := [(4, .int (s0 + s1)), (0, .ref (E.2.1 + v0)), (1, .int v1), (2, .int v2), (3, .int v3), (5, .int v5)]) (by decide) dX9_polishError_80 rfl rfl ?_
  refine j_iinc (q := 5) (np := 85) (lv2 := [(5, .int (v5 + (1 : Int32))), (4, .int (s0 + s1)), (0, .ref (E.2.1 + v0)), (1, .int v1), (2, .int v2), (3, .int v3)]) rfl (congrArg _ ci_1) (by decide) dX9_polishError_82 rfl rfl ?_
  refine j_goto (tgt := 6) dX9_polishError_85 rfl ?_
  refine j_sub (lv2 := [(0, .ref (E.2.1 + v0)), (1, .int v1), (2, .int v2), (3, .int v3), (4, .int (s0 + s1)), (5, .int (v5 + (1 : Int32)))]) [2, 3, 4, 5, 1, 0] rfl ?_
  exact hrec _ _ _
def kX9_polishError_67 (N : Nat) (rec : Int32 → Int32 → qM → Option ((Int32 × qM) ⊕ (Int32 × qM))) (v0 : Nat) (v1 : Int32) (v2 : Int32) (v3 : Int32) (v4 : Int32) (v5 : Int32) (v7 : Int32)  (m0 : qM) : Option ((Int32 × qM) ⊕ (Int32 × qM)) :=
  if v7 = 0 then (
  kX9_polishError_79 N (rec) v0 v1 v2 v3 v5 v4 (1 : Int32) m0
  ) else (
  kX9_polishError_79 N (rec) v0 v1 v2 v3 v5 v4 (-1 : Int32) m0
  )
set_option maxRecDepth 100000 in
theorem kbX9_polishError_67 {E : qE} {N d bc bs : Nat} (hd : 1 ≤ d) {v0 : Nat} {v1 : Int32} {v2 : Int32} {v3 : Int32} {v4 : Int32} {v5 : Int32} {v7 : Int32}  {m0 : qM} {rec : Int32 → Int32 → qM → Option ((Int32 × qM) ⊕ (Int32 × qM))} (hrec : ∀ (v4 : Int32) (v5 : Int32) (m : qM), qB E yX9_polishError cX9_polishError 8 (some .int) (fun _ => True) d bc bs 6 [(0, .ref (E.2.1 + v0)), (1, .int v1), (2, .int v2), (3, .int v3), (4, .int v4), (5, .int v5)] [] m (rec v4 v5 m) (qGL (fun o rr => qJ E yX9_polishError cX9_polishError 8 (some .int) (fun _ => True) d bc bs 88 [(0, .ref (E.2.1 + v0)), (4, .int o.1)] [] o.2 rr) (fun r => (some (.int r.1), r.2)))) : qB E yX9_polishError cX9_polishError 8 (some .int) (fun _ => True) d bc bs 67 [(0, .ref (E.2.1 + v0)), (1, .int v1), (2, .int v2), (3, .int v3), (4, .int v4), (5, .int v5), (7, .int v7)] [] m0 (kX9_polishError_67 N rec v0 v1 v2 v3 v4 v5 v7 m0) (qGL (fun o rr => qJ E yX9_polishError cX9_polishError 8 (some .int) (fun _ => True) d bc bs 88 [(0, .ref (E.2.1 + v0)), (4, .int o.1)] [] o.2 rr) (fun r => (some (.int r.1), r.2))) := by
  unfold kX9_polishError_67
  refine j_iload (q := 4) (np := 69) rfl dX9_polishError_67 rfl ?_
  refine j_iload (q := 6) (np := 71) rfl dX9_polishError_69 rfl ?_
  refine j_if_eq (tgt := 78) (np := 74) dX9_polishError_71 rfl rfl ?_ ?_
  · refine j_iconst (np := 79) ci_1 dX9_polishError_78 rfl ?_
    refine j_sub (lv2 := [(0, .ref (E.2.1 + v0)), (1, .int v1), (2, .int v2), (3, .int v3), (5, .int v5)]) [0, 1, 2, 3, 5] rfl ?_
    exact kbX9_polishError_79 hd hrec
  · refine j_iconst (np := 75) ci_m1 dX9_polishError_74 rfl ?_
    refine j_goto (tgt := 79) dX9_polishError_75 rfl ?_
    refine j_sub (lv2 := [(0, .ref (E.2.1 + v0)), (1, .int v1), (2, .int v2), (3, .int v3), (5, .int v5)]) [0, 1, 2, 3, 5] rfl ?_
    exact kbX9_polishError_79 hd hrec
def kX9_polishError_46 (N : Nat) (rec : Int32 → Int32 → qM → Option ((Int32 × qM) ⊕ (Int32 × qM))) (v0 : Nat) (v1 : Int32) (v2 : Int32) (v3 : Int32) (v4 : Int32) (v5 : Int32) (v6 : Int32) (s0 : Int32) (m0 : qM) : Option ((Int32 × qM) ⊕ (Int32 × qM)) :=
  if v4 = 0 then (
  some (.inr (v5, m0))
  ) else (
  if s0 = 0 then (
  if v6 = v1 then (
  kX9_polishError_67 N (rec) v0 v1 v2 v3 v4 v5 s0 m0
  ) else (
  some (.inr (v5, m0))
  )
  ) else (
  kX9_polishError_67 N (rec) v0 v1 v2 v3 v4 v5 s0 m0
  )
  )
set_option maxRecDepth 100000 in
theorem kbX9_polishError_46 {E : qE} {N d bc bs : Nat} (hd : 1 ≤ d) {v0 : Nat} {v1 : Int32} {v2 : Int32} {v3 : Int32} {v4 : Int32} {v5 : Int32} {v6 : Int32} {s0 : Int32} {m0 : qM} {rec : Int32 → Int32 → qM → Option ((Int32 × qM) ⊕ (Int32 × qM))} (hrec : ∀ (v4 : Int32) (v5 : Int32) (m : qM), qB E yX9_polishError cX9_polishError 8 (some .int) (fun _ => True) d bc bs 6 [(0, .ref (E.2.1 + v0)), (1, .int v1), (2, .int v2), (3, .int v3), (4, .int v4), (5, .int v5)] [] m (rec v4 v5 m) (qGL (fun o rr => qJ E yX9_polishError cX9_polishError 8 (some .int) (fun _ => True) d bc bs 88 [(0, .ref (E.2.1 + v0)), (4, .int o.1)] [] o.2 rr) (fun r => (some (.int r.1), r.2)))) : qB E yX9_polishError cX9_polishError 8 (some .int) (fun _ => True) d bc bs 46 [(0, .ref (E.2.1 + v0)), (1, .int v1), (2, .int v2), (3, .int v3), (4, .int v4), (5, .int v5), (6, .int v6)] [.int s0] m0 (kX9_polishError_46 N rec v0 v1 v2 v3 v4 v5 v6 s0 m0) (qGL (fun o rr => qJ E yX9_polishError cX9_polishError 8 (some .int) (fun _ => True) d bc bs 88 [(0, .ref (E.2.1 + v0)), (4, .int o.1)] [] o.2 rr) (fun r => (some (.int r.1), r.2))) := by
  unfold kX9_polishError_46
  refine j_istore (np := 48) (lv2 := [(7, .int s0), (0, .ref (E.2.1 + v0)), (1, .int v1), (2, .int v2), (3, .int v3), (4, .int v4), (5, .int v5), (6, .int v6)]) (by decide) dX9_polishError_46 rfl rfl ?_
  refine j_iload (q := 5) (np := 50) rfl dX9_polishError_48 rfl ?_
  refine j_if_eq (tgt := 64) (np := 53) dX9_polishError_50 rfl rfl ?_ ?_
  · refine j_iload (q := 6) (np := 66) rfl dX9_polishError_64 rfl ?_
    exact j_iret rfl dX9_polishError_66 (fun rr h => h)
  · refine j_iload (q := 0) (np := 55) rfl dX9_polishError_53 rfl ?_
    refine j_if_ne (tgt := 67) (np := 58) dX9_polishError_55 rfl rfl ?_ ?_
    · refine j_sub (lv2 := [(0, .ref (E.2.1 + v0)), (1, .int v1), (2, .int v2), (3, .int v3), (4, .int v4), (5, .int v5), (7, .int s0)]) [1, 2, 3, 4, 5, 6, 0] rfl ?_
      exact kbX9_polishError_67 hd hrec
    · refine j_iload (q := 7) (np := 60) rfl dX9_polishError_58 rfl ?_
      refine j_iload_n (q := 2) (np := 61) rfl rfl dX9_polishError_60 rfl ?_
      refine j_icmp_eq (tgt := 67) (np := 64) dX9_polishError_61 rfl rfl ?_ ?_
      · refine j_sub (lv2 := [(0, .ref (E.2.1 + v0)), (1, .int v1), (2, .int v2), (3, .int v3), (4, .int v4), (5, .int v5), (7, .int s0)]) [1, 2, 3, 4, 5, 6, 0] rfl ?_
        exact kbX9_polishError_67 hd hrec
      · refine j_iload (q := 6) (np := 66) rfl dX9_polishError_64 rfl ?_
        exact j_iret rfl dX9_polishError_66 (fun rr h => h)
def kX9_polishError_45 (N : Nat) (rec : Int32 → Int32 → qM → Option ((Int32 × qM) ⊕ (Int32 × qM))) (v0 : Nat) (v1 : Int32) (v2 : Int32) (v3 : Int32) (v4 : Int32) (v5 : Int32) (v6 : Int32)  (m0 : qM) : Option ((Int32 × qM) ⊕ (Int32 × qM)) :=
  kX9_polishError_46 N (rec) v0 v1 v2 v3 v4 v5 v6 (0 : Int32) m0
set_option maxRecDepth 100000 in
theorem kbX9_polishError_45 {E : qE} {N d bc bs : Nat} (hd : 1 ≤ d) {v0 : Nat} {v1 : Int32} {v2 : Int32} {v3 : Int32} {v4 : Int32} {v5 : Int32} {v6 : Int32}  {m0 : qM} {rec : Int32 → Int32 → qM → Option ((Int32 × qM) ⊕ (Int32 × qM))} (hrec : ∀ (v4 : Int32) (v5 : Int32) (m : qM), qB E yX9_polishError cX9_polishError 8 (some .int) (fun _ => True) d bc bs 6 [(0, .ref (E.2.1 + v0)), (1, .int v1), (2, .int v2), (3, .int v3), (4, .int v4), (5, .int v5)] [] m (rec v4 v5 m) (qGL (fun o rr => qJ E yX9_polishError cX9_polishError 8 (some .int) (fun _ => True) d bc bs 88 [(0, .ref (E.2.1 + v0)), (4, .int o.1)] [] o.2 rr) (fun r => (some (.int r.1), r.2)))) : qB E yX9_polishError cX9_polishError 8 (some .int) (fun _ => True) d bc bs 45 [(0, .ref (E.2.1 + v0)), (1, .int v1), (2, .int v2), (3, .int v3), (4, .int v4), (5, .int v5), (6, .int v6)] [] m0 (kX9_polishError_45 N rec v0 v1 v2 v3 v4 v5 v6 m0) (qGL (fun o rr => qJ E yX9_polishError cX9_polishError 8 (some .int) (fun _ => True) d bc bs 88 [(0, .ref (E.2.1 + v0)), (4, .int o.1)] [] o.2 rr) (fun r => (some (.int r.1), r.2))) := by
  unfold kX9_polishError_45
  refine j_iconst (np := 46) ci_0 dX9_polishError_45 rfl ?_
  exact kbX9_polishError_46 hd hrec
def lX9_polishError_6 (N : Nat) (v0 : Nat) (v1 : Int32) (v2 : Int32) (v3 : Int32) : Nat → Int32 → Int32 → qM → Option ((Int32 × qM) ⊕ (Int32 × qM))
  | 0, _, _, _ => none
  | n + 1, v4, v5, m0 =>
    (qgR m0 v0 9 0).bind fun x1 =>
    (qChk m0 x1 7 (fX7_length N x1 m0)).bind fun b2 =>
    if b2.1 ≤ v5 then (
    some (.inl (v4, b2.2))
    ) else (
    (qgR b2.2 v0 9 0).bind fun x3 =>
    (qChk b2.2 x3 7 (fX7_at N x3 v5 b2.2)).bind fun b4 =>
    if b4.1 < v2 then (
    kX9_polishError_45 N (lX9_polishError_6 N v0 v1 v2 v3 n) v0 v1 v2 v3 v4 v5 b4.1 b4.2
    ) else (
    if v3 < b4.1 then (
    kX9_polishError_45 N (lX9_polishError_6 N v0 v1 v2 v3 n) v0 v1 v2 v3 v4 v5 b4.1 b4.2
    ) else (
    kX9_polishError_46 N (lX9_polishError_6 N v0 v1 v2 v3 n) v0 v1 v2 v3 v4 v5 b4.1 (1 : Int32) b4.2
    )
    )
    )
set_option maxRecDepth 100000 in
theorem lbX9_polishError_6 {E : qE} {N d bc bs : Nat} (hd : 1 ≤ d) {v0 : Nat} {v1 : Int32} {v2 : Int32} {v3 : Int32} : ∀ (n : Nat) (v4 : Int32) (v5 : Int32) (m0 : qM), qB E yX9_polishError cX9_polishError 8 (some .int) (fun _ => True) d bc bs 6 [(0, .ref (E.2.1 + v0)), (1, .int v1), (2, .int v2), (3, .int v3), (4, .int v4), (5, .int v5)] [] m0 (lX9_polishError_6 N v0 v1 v2 v3 n v4 v5 m0) (qGL (fun o rr => qJ E yX9_polishError cX9_polishError 8 (some .int) (fun _ => True) d bc bs 88 [(0, .ref (E.2.1 + v0)), (4, .int o.1)] [] o.2 rr) (fun r => (some (.int r.1), r.2))) := by
  intro n
  induction n with
  | zero =>
    intro v4 v5 m0
    exact j_none
  | succ n ih =>
    intro v4 v5 m0
    unfold lX9_polishError_6
    refine j_iload (q := 5) (np := 8) rfl dX9_polishError_6 rfl ?_
    refine j_aload_n (q := 0) (np := 9) rfl rfl dX9_polishError_8 rfl ?_
    refine j_gR (np := 12) flX9_12 dX9_polishError_9 rfl (fun x1 => ?_)
    refine j_callVi (ci := 7) (np := 15) (bc := bc) (bs := bs) (cb := 0) (cs := 0) (dd := d - 1) (As := []) (st := [.int v5]) caX7_length mlX9_88 imX7_length seX7_length rfl rfl (by decide) (fun b hb => wX7_length (by omega) hb) (by omega) rfl rfl (Nat.le_of_ble_eq_true rfl) dX9_polishError_12 rfl (fun b2 => ?_)
    refine j_icmp_ge (tgt := 88) (np := 18) dX9_polishError_15 rfl rfl ?_ ?_
    · refine j_sub (lv2 := [(0, .ref (E.2.1 + v0)), (4, .int v4)]) [0, 4] rfl ?_
      exact j_exit (fun rr h => h)
    · refine j_aload_n (q := 0) (np := 19) rfl rfl dX9_polishError_18 rfl ?_
      refine j_gR (np := 22) flX9_12 dX9_polishError_19 rfl (fun x3 => ?_)
      refine j_iload (q := 5) (np := 24) rfl dX9_polishError_22 rfl ?_
      refine j_callVi (ci := 7) (np := 27) (bc := bc) (bs := bs) (cb := 0) (cs := 0) (dd := d - 1) (As := [.int v5]) (st := []) caX7_at mlX9_167 imX7_at seX7_at rfl rfl (by decide) (fun b hb => wX7_at (by omega) hb) (by omega) rfl rfl (Nat.le_of_ble_eq_true rfl) dX9_polishError_24 rfl (fun b4 => ?_)
      refine j_istore (np := 29) (lv2 := [(6, .int b4.1), (0, .ref (E.2.1 + v0)), (1, .int v1), (2, .int v2), (3, .int v3), (4, .int v4), (5, .int v5)]) (by decide) dX9_polishError_27 rfl rfl ?_
      refine j_iload (q := 0) (np := 31) rfl dX9_polishError_29 rfl ?_
      refine j_iload_n (q := 3) (np := 32) rfl rfl dX9_polishError_31 rfl ?_
      refine j_icmp_lt (tgt := 45) (np := 35) dX9_polishError_32 rfl rfl ?_ ?_
      · refine j_sub (lv2 := [(0, .ref (E.2.1 + v0)), (1, .int v1), (2, .int v2), (3, .int v3), (4, .int v4), (5, .int v5), (6, .int b4.1)]) [1, 2, 3, 4, 5, 6, 0] rfl ?_
        exact kbX9_polishError_45 hd ih
      · refine j_iload (q := 0) (np := 37) rfl dX9_polishError_35 rfl ?_
        refine j_iload_n (q := 4) (np := 38) rfl rfl dX9_polishError_37 rfl ?_
        refine j_icmp_gt (tgt := 45) (np := 41) dX9_polishError_38 rfl rfl ?_ ?_
        · refine j_sub (lv2 := [(0, .ref (E.2.1 + v0)), (1, .int v1), (2, .int v2), (3, .int v3), (4, .int v4), (5, .int v5), (6, .int b4.1)]) [1, 2, 3, 4, 5, 6, 0] rfl ?_
          exact kbX9_polishError_45 hd ih
        · refine j_iconst (np := 42) ci_1 dX9_polishError_41 rfl ?_
          refine j_goto (tgt := 46) dX9_polishError_42 rfl ?_
          refine j_sub (lv2 := [(0, .ref (E.2.1 + v0)), (1, .int v1), (2, .int v2), (3, .int v3), (4, .int v4), (5, .int v5), (6, .int b4.1)]) [1, 2, 3, 4, 5, 6, 0] rfl ?_
          exact kbX9_polishError_46 hd ih
def fX9_polishError (N : Nat) (v0 : Nat) (v1 : Int32) (v2 : Int32) (v3 : Int32) (m0 : qM) : Option (Int32 × qM) :=
  qTh (lX9_polishError_6 N v0 v1 v2 v3 N (1 : Int32) (0 : Int32) m0) (fun o1 =>
  if o1.1 = 0 then (
  some ((-1 : Int32), o1.2)
  ) else (
  (qgR o1.2 v0 9 0).bind fun x2 =>
  (qChk o1.2 x2 7 (fX7_length N x2 o1.2)).bind fun b3 =>
  some (b3.1, b3.2)
  )
  ) (fun r => r)
set_option maxRecDepth 100000 in
theorem bX9_polishError {E : qE} {N d bc bs : Nat} (hd : 1 ≤ d) {v0 : Nat} {v1 : Int32} {v2 : Int32} {v3 : Int32} {m0 : qM} : qB E yX9_polishError cX9_polishError 8 (some .int) (fun _ => True) d bc bs 0 [(0, .ref (E.2.1 + v0)), (1, .int v1), (2, .int v2), (3, .int v3)] [] m0 (fX9_polishError N v0 v1 v2 v3 m0) (fun b rr => rr = (some (.int b.1), b.2)) := by
  unfold fX9_polishError
  refine j_iconst (np := 1) ci_1 dX9_polishError_0 rfl ?_
  refine j_istore (np := 3) (lv2 := [(4, .int (1 : Int32)), (0, .ref (E.2.1 + v0)), (1, .int v1), (2, .int v2), (3, .int v3)]) (by decide) dX9_polishError_1 rfl rfl ?_
  refine j_iconst (np := 4) ci_0 dX9_polishError_3 rfl ?_
  refine j_istore (np := 6) (lv2 := [(5, .int (0 : Int32)), (4, .int (1 : Int32)), (0, .ref (E.2.1 + v0)), (1, .int v1), (2, .int v2), (3, .int v3)]) (by decide) dX9_polishError_4 rfl rfl ?_
  refine j_sub (lv2 := [(0, .ref (E.2.1 + v0)), (1, .int v1), (2, .int v2), (3, .int v3), (4, .int (1 : Int32)), (5, .int (0 : Int32))]) [2, 3, 4, 5, 1, 0] rfl ?_
  refine j_loopG (xp := 88) (lvX := fun o1 => [(0, .ref (E.2.1 + v0)), (4, .int o1.1)]) (mX := fun o1 => o1.2) (lbX9_polishError_6 hd _ _ _ _) (fun r rr h => h) (fun o1 => ?_)
  refine j_iload (q := 1) (np := 90) rfl dX9_polishError_88 rfl ?_
  refine j_if_ne (tgt := 97) (np := 93) dX9_polishError_90 rfl rfl ?_ ?_
  · refine j_aload_n (q := 0) (np := 98) rfl rfl dX9_polishError_97 rfl ?_
    refine j_gR (np := 101) flX9_12 dX9_polishError_98 rfl (fun x2 => ?_)
    refine j_callVi (ci := 7) (np := 104) (bc := bc) (bs := bs) (cb := 0) (cs := 0) (dd := d - 1) (As := []) (st := []) caX7_length mlX9_88 imX7_length seX7_length rfl rfl (by decide) (fun b hb => wX7_length (by omega) hb) (by omega) rfl rfl (Nat.le_of_ble_eq_true rfl) dX9_polishError_101 rfl (fun b3 => ?_)
    exact j_iret rfl dX9_polishError_104 (fun rr h => h)
  · refine j_iconst (np := 94) ci_m1 dX9_polishError_93 rfl ?_
    refine j_goto (tgt := 104) dX9_polishError_94 rfl ?_
    exact j_iret rfl dX9_polishError_104 (fun rr h => h)
set_option maxRecDepth 100000 in
theorem wX9_polishError {E : qE} {N d : Nat} (hd : 1 ≤ d) {v0 : Nat} {v1 : Int32} {v2 : Int32} {v3 : Int32} {m0 : qM} {b : Int32 × qM} (h : fX9_polishError N v0 v1 v2 v3 m0 = some b) : qRun E yX9_polishError cX9_polishError 8 (some .int) d 0 0 [.ref (E.2.1 + v0), .int v1, .int v2, .int v3] m0 (some (.int b.1), b.2) := q_met pnX9 (Nat.le_of_ble_eq_true rfl) (bX9_polishError hd b _ h rfl)
theorem dX9_addAxiom_0 : decode cX9_addAxiom 0 = .ok (.aload_n 0, 1) := by decide +kernel
theorem dX9_addAxiom_1 : decode cX9_addAxiom 1 = .ok (.bipush 67, 2) := by decide +kernel
theorem dX9_addAxiom_3 : decode cX9_addAxiom 3 = .ok (.bipush 97, 2) := by decide +kernel
theorem dX9_addAxiom_5 : decode cX9_addAxiom 5 = .ok (.bipush 122, 2) := by decide +kernel
theorem dX9_addAxiom_7 : decode cX9_addAxiom 7 = .ok (.invokevirtual 99, 3) := by decide +kernel
theorem dX9_addAxiom_10 : decode cX9_addAxiom 10 = .ok (.istore_n 1, 1) := by decide +kernel
theorem dX9_addAxiom_11 : decode cX9_addAxiom 11 = .ok (.iload_n 1, 1) := by decide +kernel
theorem dX9_addAxiom_12 : decode cX9_addAxiom 12 = .ok (.iconst (-1), 1) := by decide +kernel
theorem dX9_addAxiom_13 : decode cX9_addAxiom 13 = .ok (.if_icmp .ne 10, 3) := by decide +kernel
theorem dX9_addAxiom_16 : decode cX9_addAxiom 16 = .ok (.aload_n 0, 1) := by decide +kernel
theorem dX9_addAxiom_17 : decode cX9_addAxiom 17 = .ok (.invokevirtual 103, 3) := by decide +kernel
theorem dX9_addAxiom_20 : decode cX9_addAxiom 20 = .ok (.goto 7, 3) := by decide +kernel
theorem dX9_addAxiom_23 : decode cX9_addAxiom 23 = .ok (.bipush (-100), 2) := by decide +kernel
theorem dX9_addAxiom_25 : decode cX9_addAxiom 25 = .ok (.iload_n 1, 1) := by decide +kernel
theorem dX9_addAxiom_26 : decode cX9_addAxiom 26 = .ok (.isub, 1) := by decide +kernel
theorem dX9_addAxiom_27 : decode cX9_addAxiom 27 = .ok (.istore_n 2, 1) := by decide +kernel
theorem dX9_addAxiom_28 : decode cX9_addAxiom 28 = .ok (.aload_n 0, 1) := by decide +kernel
theorem dX9_addAxiom_29 : decode cX9_addAxiom 29 = .ok (.getfield 12, 3) := by decide +kernel
theorem dX9_addAxiom_32 : decode cX9_addAxiom 32 = .ok (.invokevirtual 96, 3) := by decide +kernel
theorem dX9_addAxiom_35 : decode cX9_addAxiom 35 = .ok (.iload_n 2, 1) := by decide +kernel
theorem dX9_addAxiom_36 : decode cX9_addAxiom 36 = .ok (.ireturn, 1) := by decide +kernel
def kX9_addAxiom_27 (N : Nat) (v0 : Nat) (s0 : Int32) (m0 : qM) : Option (Int32 × qM) :=
  (qgR m0 v0 9 0).bind fun x1 =>
  (qChk m0 x1 7 (fX7_makeEmpty N x1 m0)).bind fun b2 =>
  some (s0, b2)
set_option maxRecDepth 100000 in
theorem kbX9_addAxiom_27 {E : qE} {N d bc bs : Nat} (hd : 4 ≤ d) {v0 : Nat} {s0 : Int32} {m0 : qM} : qB E yX9_addAxiom cX9_addAxiom 3 (some .int) (fun _ => True) d bc bs 27 [(0, .ref (E.2.1 + v0))] [.int s0] m0 (kX9_addAxiom_27 N v0 s0 m0) (fun b rr => rr = (some (.int b.1), b.2)) := by
  unfold kX9_addAxiom_27
  refine j_istore_n (np := 28) (lv2 := [(2, .int s0), (0, .ref (E.2.1 + v0))]) rfl (by decide) dX9_addAxiom_27 rfl rfl ?_
  refine j_aload_n (q := 1) (np := 29) rfl rfl dX9_addAxiom_28 rfl ?_
  refine j_gR (np := 32) flX9_12 dX9_addAxiom_29 rfl (fun x1 => ?_)
  refine j_callVv (ci := 7) (np := 35) (bc := bc) (bs := bs) (cb := 0) (cs := 0) (dd := d - 1) (As := []) (st := []) caX7_makeEmpty mlX9_96 imX7_makeEmpty seX7_makeEmpty rfl rfl (by decide) (fun b hb => wX7_makeEmpty (by omega) hb) (by omega) rfl rfl (Nat.le_of_ble_eq_true rfl) dX9_addAxiom_32 rfl (fun b2 => ?_)
  refine j_iload_n (q := 0) (np := 36) rfl rfl dX9_addAxiom_35 rfl ?_
  exact j_iret rfl dX9_addAxiom_36 (fun rr h => h)
def fX9_addAxiom (N : Nat) (v0 : Nat) (m0 : qM) : Option (Int32 × qM) :=
  (qChk m0 v0 9 (fX9_polishError N v0 (67 : Int32) (97 : Int32) (122 : Int32) m0)).bind fun b1 =>
  if b1.1 = (-1 : Int32) then (
  (qChk b1.2 v0 9 (fX9_enterText N v0 b1.2)).bind fun b2 =>
  kX9_addAxiom_27 N v0 b2.1 b2.2
  ) else (
  kX9_addAxiom_27 N v0 ((-100 : Int32) - b1.1) b1.2
  )
set_option maxRecDepth 100000 in
theorem bX9_addAxiom {E : qE} {N d bc bs : Nat} (hd : 4 ≤ d) {v0 : Nat} {m0 : qM} : qB E yX9_addAxiom cX9_addAxiom 3 (some .int) (fun _ => True) d bc bs 0 [(0, .ref (E.2.1 + v0))] [] m0 (fX9_addAxiom N v0 m0) (fun b rr => rr = (some (.int b.1), b.2)) := by
  unfold fX9_addAxiom
  refine j_aload_n (q := 0) (np := 1) rfl rfl dX9_addAxiom_0 rfl ?_
  refine j_bipush (np := 3) cb_67 dX9_addAxiom_1 rfl ?_
  refine j_bipush (np := 5) cb_97 dX9_addAxiom_3 rfl ?_
  refine j_bipush (np := 7) cb_122 dX9_addAxiom_5 rfl ?_
  refine j_callVi (ci := 9) (np := 10) (bc := bc) (bs := bs) (cb := 0) (cs := 0) (dd := d - 1) (As := [.int (67 : Int32), .int (97 : Int32), .int (122 : Int32)]) (st := []) caX9_polishError mlX9_99 imX9_polishError seX9_polishError rfl rfl (by decide) (fun b hb => wX9_polishError (by omega) hb) (by omega) rfl rfl (Nat.le_of_ble_eq_true rfl) dX9_addAxiom_7 rfl (fun b1 => ?_)
  refine j_istore_n (np := 11) (lv2 := [(1, .int b1.1), (0, .ref (E.2.1 + v0))]) rfl (by decide) dX9_addAxiom_10 rfl rfl ?_
  refine j_iload_n (q := 0) (np := 12) rfl rfl dX9_addAxiom_11 rfl ?_
  refine j_iconst (np := 13) ci_m1 dX9_addAxiom_12 rfl ?_
  refine j_icmp_ne (tgt := 23) (np := 16) dX9_addAxiom_13 rfl rfl ?_ ?_
  · refine j_bipush (np := 25) cb_m100 dX9_addAxiom_23 rfl ?_
    refine j_iload_n (q := 0) (np := 26) rfl rfl dX9_addAxiom_25 rfl ?_
    refine j_isub (np := 27) dX9_addAxiom_26 rfl ?_
    refine j_sub (lv2 := [(0, .ref (E.2.1 + v0))]) [1] rfl ?_
    exact kbX9_addAxiom_27 hd
  · refine j_aload_n (q := 1) (np := 17) rfl rfl dX9_addAxiom_16 rfl ?_
    refine j_callVi (ci := 9) (np := 20) (bc := bc) (bs := bs) (cb := 0) (cs := 0) (dd := d - 1) (As := []) (st := []) caX9_enterText mlX9_103 imX9_enterText seX9_enterText rfl rfl (by decide) (fun b hb => wX9_enterText (by omega) hb) (by omega) rfl rfl (Nat.le_of_ble_eq_true rfl) dX9_addAxiom_17 rfl (fun b2 => ?_)
    refine j_goto (tgt := 27) dX9_addAxiom_20 rfl ?_
    refine j_sub (lv2 := [(0, .ref (E.2.1 + v0))]) [1] rfl ?_
    exact kbX9_addAxiom_27 hd
set_option maxRecDepth 100000 in
theorem wX9_addAxiom {E : qE} {N d : Nat} (hd : 4 ≤ d) {v0 : Nat} {m0 : qM} {b : Int32 × qM} (h : fX9_addAxiom N v0 m0 = some b) : qRun E yX9_addAxiom cX9_addAxiom 3 (some .int) d 0 0 [.ref (E.2.1 + v0)] m0 (some (.int b.1), b.2) := q_met pnX9 (Nat.le_of_ble_eq_true rfl) (bX9_addAxiom hd b _ h rfl)
theorem dX9_derive_0 : decode cX9_derive 0 = .ok (.aload_n 0, 1) := by decide +kernel
theorem dX9_derive_1 : decode cX9_derive 1 = .ok (.getfield 29, 3) := by decide +kernel
theorem dX9_derive_4 : decode cX9_derive 4 = .ok (.aload_n 0, 1) := by decide +kernel
theorem dX9_derive_5 : decode cX9_derive 5 = .ok (.getfield 22, 3) := by decide +kernel
theorem dX9_derive_8 : decode cX9_derive 8 = .ok (.iload_n 1, 1) := by decide +kernel
theorem dX9_derive_9 : decode cX9_derive 9 = .ok (.invokevirtual 129, 3) := by decide +kernel
theorem dX9_derive_12 : decode cX9_derive 12 = .ok (.aload_n 0, 1) := by decide +kernel
theorem dX9_derive_13 : decode cX9_derive 13 = .ok (.getfield 22, 3) := by decide +kernel
theorem dX9_derive_16 : decode cX9_derive 16 = .ok (.iload_n 2, 1) := by decide +kernel
theorem dX9_derive_17 : decode cX9_derive 17 = .ok (.invokevirtual 129, 3) := by decide +kernel
theorem dX9_derive_20 : decode cX9_derive 20 = .ok (.aload_n 0, 1) := by decide +kernel
theorem dX9_derive_21 : decode cX9_derive 21 = .ok (.getfield 77, 3) := by decide +kernel
theorem dX9_derive_24 : decode cX9_derive 24 = .ok (.invokevirtual 270, 3) := by decide +kernel
theorem dX9_derive_27 : decode cX9_derive 27 = .ok (.istore_n 3, 1) := by decide +kernel
theorem dX9_derive_28 : decode cX9_derive 28 = .ok (.iload_n 3, 1) := by decide +kernel
theorem dX9_derive_29 : decode cX9_derive 29 = .ok (.ifCond .ne 19, 3) := by decide +kernel
theorem dX9_derive_32 : decode cX9_derive 32 = .ok (.aload_n 0, 1) := by decide +kernel
theorem dX9_derive_33 : decode cX9_derive 33 = .ok (.getfield 22, 3) := by decide +kernel
theorem dX9_derive_36 : decode cX9_derive 36 = .ok (.aload_n 0, 1) := by decide +kernel
theorem dX9_derive_37 : decode cX9_derive 37 = .ok (.getfield 77, 3) := by decide +kernel
theorem dX9_derive_40 : decode cX9_derive 40 = .ok (.iload_n 1, 1) := by decide +kernel
theorem dX9_derive_41 : decode cX9_derive 41 = .ok (.iload_n 2, 1) := by decide +kernel
theorem dX9_derive_42 : decode cX9_derive 42 = .ok (.invokevirtual 266, 3) := by decide +kernel
theorem dX9_derive_45 : decode cX9_derive 45 = .ok (.goto 4, 3) := by decide +kernel
theorem dX9_derive_48 : decode cX9_derive 48 = .ok (.iload_n 3, 1) := by decide +kernel
theorem dX9_derive_49 : decode cX9_derive 49 = .ok (.ireturn, 1) := by decide +kernel
def fX9_derive (N : Nat) (v0 : Nat) (v1 : Int32) (v2 : Int32) (m0 : qM) : Option (Int32 × qM) :=
  (qgR m0 v0 9 3).bind fun x1 =>
  (qgR m0 v0 9 2).bind fun x2 =>
  (qChk m0 x2 1 (fX1_at N x2 v1 m0)).bind fun b3 =>
  (qgR b3.2 v0 9 2).bind fun x4 =>
  (qChk b3.2 x4 1 (fX1_at N x4 v2 b3.2)).bind fun b5 =>
  (qgR b5.2 v0 9 10).bind fun x6 =>
  (qChk b5.2 x1 8 (fX8_detachInto N x1 b3.1 b5.1 x6 b5.2)).bind fun b7 =>
  if b7.1 = 0 then (
  (qgR b7.2 v0 9 2).bind fun x8 =>
  (qgR b7.2 v0 9 10).bind fun x9 =>
  (qChk b7.2 x8 1 (fX1_enter N x8 x9 v1 v2 b7.2)).bind fun b10 =>
  some (b10.1, b10.2)
  ) else (
  some (b7.1, b7.2)
  )
set_option maxRecDepth 100000 in
theorem bX9_derive {E : qE} {N d bc bs : Nat} (hd : 4 ≤ d) {v0 : Nat} {v1 : Int32} {v2 : Int32} {m0 : qM} : qB E yX9_derive cX9_derive 4 (some .int) (fun _ => True) d bc bs 0 [(0, .ref (E.2.1 + v0)), (1, .int v1), (2, .int v2)] [] m0 (fX9_derive N v0 v1 v2 m0) (fun b rr => rr = (some (.int b.1), b.2)) := by
  unfold fX9_derive
  refine j_aload_n (q := 0) (np := 1) rfl rfl dX9_derive_0 rfl ?_
  refine j_gR (np := 4) flX9_29 dX9_derive_1 rfl (fun x1 => ?_)
  refine j_aload_n (q := 0) (np := 5) rfl rfl dX9_derive_4 rfl ?_
  refine j_gR (np := 8) flX9_22 dX9_derive_5 rfl (fun x2 => ?_)
  refine j_iload_n (q := 1) (np := 9) rfl rfl dX9_derive_8 rfl ?_
  refine j_callVr (ci := 1) (np := 12) (bc := bc) (bs := bs) (cb := 0) (cs := 0) (dd := d - 1) (As := [.int v1]) (st := [.ref (E.2.1 + x1)]) caX1_at mlX9_129 imX1_at seX1_at rfl rfl (by decide) (fun b hb => wX1_at (by omega) hb) (by omega) rfl rfl (Nat.le_of_ble_eq_true rfl) dX9_derive_9 rfl (fun b3 => ?_)
  refine j_aload_n (q := 0) (np := 13) rfl rfl dX9_derive_12 rfl ?_
  refine j_gR (np := 16) flX9_22 dX9_derive_13 rfl (fun x4 => ?_)
  refine j_iload_n (q := 2) (np := 17) rfl rfl dX9_derive_16 rfl ?_
  refine j_callVr (ci := 1) (np := 20) (bc := bc) (bs := bs) (cb := 0) (cs := 0) (dd := d - 1) (As := [.int v2]) (st := [.ref (E.2.1 + b3.1), .ref (E.2.1 + x1)]) caX1_at mlX9_129 imX1_at seX1_at rfl rfl (by decide) (fun b hb => wX1_at (by omega) hb) (by omega) rfl rfl (Nat.le_of_ble_eq_true rfl) dX9_derive_17 rfl (fun b5 => ?_)
  refine j_aload_n (q := 0) (np := 21) rfl rfl dX9_derive_20 rfl ?_
  refine j_gR (np := 24) flX9_77 dX9_derive_21 rfl (fun x6 => ?_)
  refine j_callVi (ci := 8) (np := 27) (bc := bc) (bs := bs) (cb := 0) (cs := 0) (dd := d - 1) (As := [.ref (E.2.1 + b3.1), .ref (E.2.1 + b5.1), .ref (E.2.1 + x6)]) (st := []) caX8_detachInto mlX9_270 imX8_detachInto seX8_detachInto rfl rfl (by decide) (fun b hb => wX8_detachInto (by omega) hb) (by omega) rfl rfl (Nat.le_of_ble_eq_true rfl) dX9_derive_24 rfl (fun b7 => ?_)
  refine j_istore_n (np := 28) (lv2 := [(3, .int b7.1), (0, .ref (E.2.1 + v0)), (1, .int v1), (2, .int v2)]) rfl (by decide) dX9_derive_27 rfl rfl ?_
  refine j_iload_n (q := 0) (np := 29) rfl rfl dX9_derive_28 rfl ?_
  refine j_if_ne (tgt := 48) (np := 32) dX9_derive_29 rfl rfl ?_ ?_
  · refine j_iload_n (q := 0) (np := 49) rfl rfl dX9_derive_48 rfl ?_
    exact j_iret rfl dX9_derive_49 (fun rr h => h)
  · refine j_aload_n (q := 1) (np := 33) rfl rfl dX9_derive_32 rfl ?_
    refine j_gR (np := 36) flX9_22 dX9_derive_33 rfl (fun x8 => ?_)
    refine j_aload_n (q := 1) (np := 37) rfl rfl dX9_derive_36 rfl ?_
    refine j_gR (np := 40) flX9_77 dX9_derive_37 rfl (fun x9 => ?_)
    refine j_iload_n (q := 2) (np := 41) rfl rfl dX9_derive_40 rfl ?_
    refine j_iload_n (q := 3) (np := 42) rfl rfl dX9_derive_41 rfl ?_
    refine j_callVi (ci := 1) (np := 45) (bc := bc) (bs := bs) (cb := 0) (cs := 0) (dd := d - 1) (As := [.ref (E.2.1 + x9), .int v1, .int v2]) (st := []) caX1_enter mlX9_266 imX1_enter seX1_enter rfl rfl (by decide) (fun b hb => wX1_enter (by omega) hb) (by omega) rfl rfl (Nat.le_of_ble_eq_true rfl) dX9_derive_42 rfl (fun b10 => ?_)
    refine j_goto (tgt := 49) dX9_derive_45 rfl ?_
    exact j_iret rfl dX9_derive_49 (fun rr h => h)
set_option maxRecDepth 100000 in
theorem wX9_derive {E : qE} {N d : Nat} (hd : 4 ≤ d) {v0 : Nat} {v1 : Int32} {v2 : Int32} {m0 : qM} {b : Int32 × qM} (h : fX9_derive N v0 v1 v2 m0 = some b) : qRun E yX9_derive cX9_derive 4 (some .int) d 0 0 [.ref (E.2.1 + v0), .int v1, .int v2] m0 (some (.int b.1), b.2) := q_met pnX9 (Nat.le_of_ble_eq_true rfl) (bX9_derive hd b _ h rfl)
theorem dX9_detach_0 : decode cX9_detach 0 = .ok (.aload_n 0, 1) := by decide +kernel
theorem dX9_detach_1 : decode cX9_detach 1 = .ok (.getfield 22, 3) := by decide +kernel
theorem dX9_detach_4 : decode cX9_detach 4 = .ok (.iload_n 1, 1) := by decide +kernel
theorem dX9_detach_5 : decode cX9_detach 5 = .ok (.invokevirtual 106, 3) := by decide +kernel
theorem dX9_detach_8 : decode cX9_detach 8 = .ok (.ifCond .eq 14, 3) := by decide +kernel
theorem dX9_detach_11 : decode cX9_detach 11 = .ok (.aload_n 0, 1) := by decide +kernel
theorem dX9_detach_12 : decode cX9_detach 12 = .ok (.getfield 22, 3) := by decide +kernel
theorem dX9_detach_15 : decode cX9_detach 15 = .ok (.iload_n 2, 1) := by decide +kernel
theorem dX9_detach_16 : decode cX9_detach 16 = .ok (.invokevirtual 106, 3) := by decide +kernel
theorem dX9_detach_19 : decode cX9_detach 19 = .ok (.ifCond .ne 5, 3) := by decide +kernel
theorem dX9_detach_22 : decode cX9_detach 22 = .ok (.iconst (-1), 1) := by decide +kernel
theorem dX9_detach_23 : decode cX9_detach 23 = .ok (.ireturn, 1) := by decide +kernel
theorem dX9_detach_24 : decode cX9_detach 24 = .ok (.aload_n 0, 1) := by decide +kernel
theorem dX9_detach_25 : decode cX9_detach 25 = .ok (.iload_n 1, 1) := by decide +kernel
theorem dX9_detach_26 : decode cX9_detach 26 = .ok (.iload_n 2, 1) := by decide +kernel
theorem dX9_detach_27 : decode cX9_detach 27 = .ok (.invokevirtual 110, 3) := by decide +kernel
theorem dX9_detach_30 : decode cX9_detach 30 = .ok (.ireturn, 1) := by decide +kernel
def fX9_detach (N : Nat) (v0 : Nat) (v1 : Int32) (v2 : Int32) (m0 : qM) : Option (Int32 × qM) :=
  (qgR m0 v0 9 2).bind fun x1 =>
  (qChk m0 x1 1 (fX1_has N x1 v1 m0)).bind fun b2 =>
  if b2.1 = 0 then (
  some ((-1 : Int32), b2.2)
  ) else (
  (qgR b2.2 v0 9 2).bind fun x3 =>
  (qChk b2.2 x3 1 (fX1_has N x3 v2 b2.2)).bind fun b4 =>
  if b4.1 = 0 then (
  some ((-1 : Int32), b4.2)
  ) else (
  (qChk b4.2 v0 9 (fX9_derive N v0 v1 v2 b4.2)).bind fun b5 =>
  some (b5.1, b5.2)
  )
  )
set_option maxRecDepth 100000 in
theorem bX9_detach {E : qE} {N d bc bs : Nat} (hd : 5 ≤ d) {v0 : Nat} {v1 : Int32} {v2 : Int32} {m0 : qM} : qB E yX9_detach cX9_detach 3 (some .int) (fun _ => True) d bc bs 0 [(0, .ref (E.2.1 + v0)), (1, .int v1), (2, .int v2)] [] m0 (fX9_detach N v0 v1 v2 m0) (fun b rr => rr = (some (.int b.1), b.2)) := by
  unfold fX9_detach
  refine j_aload_n (q := 0) (np := 1) rfl rfl dX9_detach_0 rfl ?_
  refine j_gR (np := 4) flX9_22 dX9_detach_1 rfl (fun x1 => ?_)
  refine j_iload_n (q := 1) (np := 5) rfl rfl dX9_detach_4 rfl ?_
  refine j_callVi (ci := 1) (np := 8) (bc := bc) (bs := bs) (cb := 0) (cs := 0) (dd := d - 1) (As := [.int v1]) (st := []) caX1_has mlX9_106 imX1_has seX1_has rfl rfl (by decide) (fun b hb => wX1_has (by omega) hb) (by omega) rfl rfl (Nat.le_of_ble_eq_true rfl) dX9_detach_5 rfl (fun b2 => ?_)
  refine j_if_eq (tgt := 22) (np := 11) dX9_detach_8 rfl rfl ?_ ?_
  · refine j_iconst (np := 23) ci_m1 dX9_detach_22 rfl ?_
    exact j_iret rfl dX9_detach_23 (fun rr h => h)
  · refine j_aload_n (q := 0) (np := 12) rfl rfl dX9_detach_11 rfl ?_
    refine j_gR (np := 15) flX9_22 dX9_detach_12 rfl (fun x3 => ?_)
    refine j_iload_n (q := 2) (np := 16) rfl rfl dX9_detach_15 rfl ?_
    refine j_callVi (ci := 1) (np := 19) (bc := bc) (bs := bs) (cb := 0) (cs := 0) (dd := d - 1) (As := [.int v2]) (st := []) caX1_has mlX9_106 imX1_has seX1_has rfl rfl (by decide) (fun b hb => wX1_has (by omega) hb) (by omega) rfl rfl (Nat.le_of_ble_eq_true rfl) dX9_detach_16 rfl (fun b4 => ?_)
    refine j_if_ne (tgt := 24) (np := 22) dX9_detach_19 rfl rfl ?_ ?_
    · refine j_aload_n (q := 0) (np := 25) rfl rfl dX9_detach_24 rfl ?_
      refine j_iload_n (q := 1) (np := 26) rfl rfl dX9_detach_25 rfl ?_
      refine j_iload_n (q := 2) (np := 27) rfl rfl dX9_detach_26 rfl ?_
      refine j_callVi (ci := 9) (np := 30) (bc := bc) (bs := bs) (cb := 0) (cs := 0) (dd := d - 1) (As := [.int v1, .int v2]) (st := []) caX9_derive mlX9_110 imX9_derive seX9_derive rfl rfl (by decide) (fun b hb => wX9_derive (by omega) hb) (by omega) rfl rfl (Nat.le_of_ble_eq_true rfl) dX9_detach_27 rfl (fun b5 => ?_)
      exact j_iret rfl dX9_detach_30 (fun rr h => h)
    · refine j_iconst (np := 23) ci_m1 dX9_detach_22 rfl ?_
      exact j_iret rfl dX9_detach_23 (fun rr h => h)
set_option maxRecDepth 100000 in
theorem wX9_detach {E : qE} {N d : Nat} (hd : 5 ≤ d) {v0 : Nat} {v1 : Int32} {v2 : Int32} {m0 : qM} {b : Int32 × qM} (h : fX9_detach N v0 v1 v2 m0 = some b) : qRun E yX9_detach cX9_detach 3 (some .int) d 0 0 [.ref (E.2.1 + v0), .int v1, .int v2] m0 (some (.int b.1), b.2) := q_met pnX9 (Nat.le_of_ble_eq_true rfl) (bX9_detach hd b _ h rfl)
theorem dX9_proveText_0 : decode cX9_proveText 0 = .ok (.aload_n 0, 1) := by decide +kernel
theorem dX9_proveText_1 : decode cX9_proveText 1 = .ok (.getfield 22, 3) := by decide +kernel
theorem dX9_proveText_4 : decode cX9_proveText 4 = .ok (.invokevirtual 114, 3) := by decide +kernel
theorem dX9_proveText_7 : decode cX9_proveText 7 = .ok (.istore_n 1, 1) := by decide +kernel
theorem dX9_proveText_8 : decode cX9_proveText 8 = .ok (.iconst 0, 1) := by decide +kernel
theorem dX9_proveText_9 : decode cX9_proveText 9 = .ok (.istore_n 2, 1) := by decide +kernel
theorem dX9_proveText_10 : decode cX9_proveText 10 = .ok (.iconst (-1), 1) := by decide +kernel
theorem dX9_proveText_11 : decode cX9_proveText 11 = .ok (.istore_n 3, 1) := by decide +kernel
theorem dX9_proveText_12 : decode cX9_proveText 12 = .ok (.iconst 0, 1) := by decide +kernel
theorem dX9_proveText_13 : decode cX9_proveText 13 = .ok (.istore 4, 2) := by decide +kernel
theorem dX9_proveText_15 : decode cX9_proveText 15 = .ok (.iload 4, 2) := by decide +kernel
theorem dX9_proveText_17 : decode cX9_proveText 17 = .ok (.aload_n 0, 1) := by decide +kernel
theorem dX9_proveText_18 : decode cX9_proveText 18 = .ok (.getfield 12, 3) := by decide +kernel
theorem dX9_proveText_21 : decode cX9_proveText 21 = .ok (.invokevirtual 88, 3) := by decide +kernel
theorem dX9_proveText_24 : decode cX9_proveText 24 = .ok (.if_icmp .ge 107, 3) := by decide +kernel
theorem dX9_proveText_27 : decode cX9_proveText 27 = .ok (.aload_n 0, 1) := by decide +kernel
theorem dX9_proveText_28 : decode cX9_proveText 28 = .ok (.getfield 12, 3) := by decide +kernel
theorem dX9_proveText_31 : decode cX9_proveText 31 = .ok (.iload 4, 2) := by decide +kernel
theorem dX9_proveText_33 : decode cX9_proveText 33 = .ok (.invokevirtual 167, 3) := by decide +kernel
theorem dX9_proveText_36 : decode cX9_proveText 36 = .ok (.bipush 68, 2) := by decide +kernel
theorem dX9_proveText_38 : decode cX9_proveText 38 = .ok (.if_icmp .ne 16, 3) := by decide +kernel
theorem dX9_proveText_41 : decode cX9_proveText 41 = .ok (.aload_n 0, 1) := by decide +kernel
theorem dX9_proveText_42 : decode cX9_proveText 42 = .ok (.getfield 85, 3) := by decide +kernel
theorem dX9_proveText_45 : decode cX9_proveText 45 = .ok (.iload_n 2, 1) := by decide +kernel
theorem dX9_proveText_46 : decode cX9_proveText 46 = .ok (.iconst (-1), 1) := by decide +kernel
theorem dX9_proveText_47 : decode cX9_proveText 47 = .ok (.iastore, 1) := by decide +kernel
theorem dX9_proveText_48 : decode cX9_proveText 48 = .ok (.iinc 2 1, 3) := by decide +kernel
theorem dX9_proveText_51 : decode cX9_proveText 51 = .ok (.goto 74, 3) := by decide +kernel
theorem dX9_proveText_54 : decode cX9_proveText 54 = .ok (.aload_n 0, 1) := by decide +kernel
theorem dX9_proveText_55 : decode cX9_proveText 55 = .ok (.getfield 12, 3) := by decide +kernel
theorem dX9_proveText_58 : decode cX9_proveText 58 = .ok (.iload 4, 2) := by decide +kernel
theorem dX9_proveText_60 : decode cX9_proveText 60 = .ok (.invokevirtual 167, 3) := by decide +kernel
theorem dX9_proveText_63 : decode cX9_proveText 63 = .ok (.bipush 49, 2) := by decide +kernel
theorem dX9_proveText_65 : decode cX9_proveText 65 = .ok (.isub, 1) := by decide +kernel
theorem dX9_proveText_66 : decode cX9_proveText 66 = .ok (.istore_n 3, 1) := by decide +kernel
theorem dX9_proveText_67 : decode cX9_proveText 67 = .ok (.iload_n 2, 1) := by decide +kernel
theorem dX9_proveText_68 : decode cX9_proveText 68 = .ok (.ifCond .le 44, 3) := by decide +kernel
theorem dX9_proveText_71 : decode cX9_proveText 71 = .ok (.aload_n 0, 1) := by decide +kernel
theorem dX9_proveText_72 : decode cX9_proveText 72 = .ok (.getfield 85, 3) := by decide +kernel
theorem dX9_proveText_75 : decode cX9_proveText 75 = .ok (.iload_n 2, 1) := by decide +kernel
theorem dX9_proveText_76 : decode cX9_proveText 76 = .ok (.iconst 1, 1) := by decide +kernel
theorem dX9_proveText_77 : decode cX9_proveText 77 = .ok (.isub, 1) := by decide +kernel
theorem dX9_proveText_78 : decode cX9_proveText 78 = .ok (.iaload, 1) := by decide +kernel
theorem dX9_proveText_79 : decode cX9_proveText 79 = .ok (.iconst (-1), 1) := by decide +kernel
theorem dX9_proveText_80 : decode cX9_proveText 80 = .ok (.if_icmp .eq 32, 3) := by decide +kernel
theorem dX9_proveText_83 : decode cX9_proveText 83 = .ok (.iinc 2 (-1), 3) := by decide +kernel
theorem dX9_proveText_86 : decode cX9_proveText 86 = .ok (.aload_n 0, 1) := by decide +kernel
theorem dX9_proveText_87 : decode cX9_proveText 87 = .ok (.aload_n 0, 1) := by decide +kernel
theorem dX9_proveText_88 : decode cX9_proveText 88 = .ok (.getfield 85, 3) := by decide +kernel
theorem dX9_proveText_91 : decode cX9_proveText 91 = .ok (.iload_n 2, 1) := by decide +kernel
theorem dX9_proveText_92 : decode cX9_proveText 92 = .ok (.iaload, 1) := by decide +kernel
theorem dX9_proveText_93 : decode cX9_proveText 93 = .ok (.iload_n 3, 1) := by decide +kernel
theorem dX9_proveText_94 : decode cX9_proveText 94 = .ok (.invokevirtual 110, 3) := by decide +kernel
theorem dX9_proveText_97 : decode cX9_proveText 97 = .ok (.istore_n 3, 1) := by decide +kernel
theorem dX9_proveText_98 : decode cX9_proveText 98 = .ok (.iload_n 3, 1) := by decide +kernel
theorem dX9_proveText_99 : decode cX9_proveText 99 = .ok (.ifCond .ge (-32), 3) := by decide +kernel
theorem dX9_proveText_102 : decode cX9_proveText 102 = .ok (.aload_n 0, 1) := by decide +kernel
theorem dX9_proveText_103 : decode cX9_proveText 103 = .ok (.getfield 22, 3) := by decide +kernel
theorem dX9_proveText_106 : decode cX9_proveText 106 = .ok (.iload_n 1, 1) := by decide +kernel
theorem dX9_proveText_107 : decode cX9_proveText 107 = .ok (.invokevirtual 125, 3) := by decide +kernel
theorem dX9_proveText_110 : decode cX9_proveText 110 = .ok (.iload_n 3, 1) := by decide +kernel
theorem dX9_proveText_111 : decode cX9_proveText 111 = .ok (.ireturn, 1) := by decide +kernel
theorem dX9_proveText_112 : decode cX9_proveText 112 = .ok (.iload_n 2, 1) := by decide +kernel
theorem dX9_proveText_113 : decode cX9_proveText 113 = .ok (.ifCond .le 12, 3) := by decide +kernel
theorem dX9_proveText_116 : decode cX9_proveText 116 = .ok (.aload_n 0, 1) := by decide +kernel
theorem dX9_proveText_117 : decode cX9_proveText 117 = .ok (.getfield 85, 3) := by decide +kernel
theorem dX9_proveText_120 : decode cX9_proveText 120 = .ok (.iload_n 2, 1) := by decide +kernel
theorem dX9_proveText_121 : decode cX9_proveText 121 = .ok (.iconst 1, 1) := by decide +kernel
theorem dX9_proveText_122 : decode cX9_proveText 122 = .ok (.isub, 1) := by decide +kernel
theorem dX9_proveText_123 : decode cX9_proveText 123 = .ok (.iload_n 3, 1) := by decide +kernel
theorem dX9_proveText_124 : decode cX9_proveText 124 = .ok (.iastore, 1) := by decide +kernel
theorem dX9_proveText_125 : decode cX9_proveText 125 = .ok (.iinc 4 1, 3) := by decide +kernel
theorem dX9_proveText_128 : decode cX9_proveText 128 = .ok (.goto (-113), 3) := by decide +kernel
theorem dX9_proveText_131 : decode cX9_proveText 131 = .ok (.iload_n 3, 1) := by decide +kernel
theorem dX9_proveText_132 : decode cX9_proveText 132 = .ok (.ireturn, 1) := by decide +kernel
def lX9_proveText_67 (N : Nat) (v0 : Nat) (v1 : Int32) (v4 : Int32) : Nat → Int32 → Int32 → qM → Option ((Int32 × Int32 × qM) ⊕ (Int32 × qM))
  | 0, _, _, _ => none
  | n + 1, v2, v3, m0 =>
    if v2 ≤ 0 then (
    some (.inl (v2, v3, m0))
    ) else (
    (qgR m0 v0 9 12).bind fun x1 =>
    (qaI m0 x1 12 (v2 - (1 : Int32))).bind fun x2 =>
    if x2 = (-1 : Int32) then (
    some (.inl (v2, v3, m0))
    ) else (
    (qgR m0 v0 9 12).bind fun x3 =>
    (qaI m0 x3 12 (v2 + (-1 : Int32))).bind fun x4 =>
    (qChk m0 v0 9 (fX9_derive N v0 x4 v3 m0)).bind fun b5 =>
    if 0 ≤ b5.1 then (
    lX9_proveText_67 N v0 v1 v4 n (v2 + (-1 : Int32)) b5.1 b5.2
    ) else (
    (qgR b5.2 v0 9 2).bind fun x6 =>
    (qChk b5.2 x6 1 (fX1_shrinkTo N x6 v1 b5.2)).bind fun b7 =>
    some (.inr (b5.1, b7))
    )
    )
    )
set_option maxRecDepth 100000 in
theorem lbX9_proveText_67 {E : qE} {N d bc bs : Nat} (hd : 5 ≤ d) {v0 : Nat} {v1 : Int32} {v4 : Int32} : ∀ (n : Nat) (v2 : Int32) (v3 : Int32) (m0 : qM), qB E yX9_proveText cX9_proveText 5 (some .int) (fun _ => True) d bc bs 67 [(0, .ref (E.2.1 + v0)), (1, .int v1), (2, .int v2), (3, .int v3), (4, .int v4)] [] m0 (lX9_proveText_67 N v0 v1 v4 n v2 v3 m0) (qGL (fun o rr => qJ E yX9_proveText cX9_proveText 5 (some .int) (fun _ => True) d bc bs 112 [(0, .ref (E.2.1 + v0)), (1, .int v1), (2, .int o.1), (3, .int o.2.1), (4, .int v4)] [] o.2.2 rr) (fun r => (some (.int r.1), r.2))) := by
  intro n
  induction n with
  | zero =>
    intro v2 v3 m0
    exact j_none
  | succ n ih =>
    intro v2 v3 m0
    unfold lX9_proveText_67
    refine j_iload_n (q := 2) (np := 68) rfl rfl dX9_proveText_67 rfl ?_
    refine j_if_le (tgt := 112) (np := 71) dX9_proveText_68 rfl rfl ?_ ?_
    · exact j_exit (fun rr h => h)
    · refine j_aload_n (q := 0) (np := 72) rfl rfl dX9_proveText_71 rfl ?_
      refine j_gR (np := 75) flX9_85 dX9_proveText_72 rfl (fun x1 => ?_)
      refine j_iload_n (q := 2) (np := 76) rfl rfl dX9_proveText_75 rfl ?_
      refine j_iconst (np := 77) ci_1 dX9_proveText_76 rfl ?_
      refine j_isub (np := 78) dX9_proveText_77 rfl ?_
      refine j_iaload (np := 79) dX9_proveText_78 rfl (fun x2 => ?_)
      refine j_iconst (np := 80) ci_m1 dX9_proveText_79 rfl ?_
      refine j_icmp_eq (tgt := 112) (np := 83) dX9_proveText_80 rfl rfl ?_ ?_
      · exact j_exit (fun rr h => h)
      · refine j_iinc (q := 2) (np := 86) (lv2 := [(2, .int (v2 + (-1 : Int32))), (0, .ref (E.2.1 + v0)), (1, .int v1), (3, .int v3), (4, .int v4)]) rfl (congrArg _ ci_m1) (by decide) dX9_proveText_83 rfl rfl ?_
        refine j_aload_n (q := 1) (np := 87) rfl rfl dX9_proveText_86 rfl ?_
        refine j_aload_n (q := 1) (np := 88) rfl rfl dX9_proveText_87 rfl ?_
        refine j_gR (np := 91) flX9_85 dX9_proveText_88 rfl (fun x3 => ?_)
        refine j_iload_n (q := 0) (np := 92) rfl rfl dX9_proveText_91 rfl ?_
        refine j_iaload (np := 93) dX9_proveText_92 rfl (fun x4 => ?_)
        refine j_iload_n (q := 3) (np := 94) rfl rfl dX9_proveText_93 rfl ?_
        refine j_callVi (ci := 9) (np := 97) (bc := bc) (bs := bs) (cb := 0) (cs := 0) (dd := d - 1) (As := [.int x4, .int v3]) (st := []) caX9_derive mlX9_110 imX9_derive seX9_derive rfl rfl (by decide) (fun b hb => wX9_derive (by omega) hb) (by omega) rfl rfl (Nat.le_of_ble_eq_true rfl) dX9_proveText_94 rfl (fun b5 => ?_)
        refine j_istore_n (np := 98) (lv2 := [(3, .int b5.1), (2, .int (v2 + (-1 : Int32))), (0, .ref (E.2.1 + v0)), (1, .int v1), (4, .int v4)]) rfl (by decide) dX9_proveText_97 rfl rfl ?_
        refine j_iload_n (q := 0) (np := 99) rfl rfl dX9_proveText_98 rfl ?_
        refine j_if_ge (tgt := 67) (np := 102) dX9_proveText_99 rfl rfl ?_ ?_
        · refine j_sub (lv2 := [(0, .ref (E.2.1 + v0)), (1, .int v1), (2, .int (v2 + (-1 : Int32))), (3, .int b5.1), (4, .int v4)]) [2, 3, 1, 0, 4] rfl ?_
          exact ih _ _ _
        · refine j_aload_n (q := 2) (np := 103) rfl rfl dX9_proveText_102 rfl ?_
          refine j_gR (np := 106) flX9_22 dX9_proveText_103 rfl (fun x6 => ?_)
          refine j_iload_n (q := 3) (np := 107) rfl rfl dX9_proveText_106 rfl ?_
          refine j_callVv (ci := 1) (np := 110) (bc := bc) (bs := bs) (cb := 0) (cs := 0) (dd := d - 1) (As := [.int v1]) (st := []) caX1_shrinkTo mlX9_125 imX1_shrinkTo seX1_shrinkTo rfl rfl (by decide) (fun b hb => wX1_shrinkTo (by omega) hb) (by omega) rfl rfl (Nat.le_of_ble_eq_true rfl) dX9_proveText_107 rfl (fun b7 => ?_)
          refine j_iload_n (q := 0) (np := 111) rfl rfl dX9_proveText_110 rfl ?_
          exact j_iret rfl dX9_proveText_111 (fun rr h => h)
def kX9_proveText_125 (N : Nat) (rec : Int32 → Int32 → Int32 → qM → Option ((Int32 × qM) ⊕ (Int32 × qM))) (v0 : Nat) (v1 : Int32) (v2 : Int32) (v3 : Int32) (v4 : Int32)  (m0 : qM) : Option ((Int32 × qM) ⊕ (Int32 × qM)) :=
  rec v2 v3 (v4 + (1 : Int32)) m0
set_option maxRecDepth 100000 in
theorem kbX9_proveText_125 {E : qE} {N d bc bs : Nat} (hd : 5 ≤ d) {v0 : Nat} {v1 : Int32} {v2 : Int32} {v3 : Int32} {v4 : Int32}  {m0 : qM} {rec : Int32 → Int32 → Int32 → qM → Option ((Int32 × qM) ⊕ (Int32 × qM))} (hrec : ∀ (v2 : Int32) (v3 : Int32) (v4 : Int32) (m : qM), qB E yX9_proveText cX9_proveText 5 (some .int) (fun _ => True) d bc bs 15 [(0, .ref (E.2.1 + v0)), (1, .int v1), (2, .int v2), (3, .int v3), (4, .int v4)] [] m (rec v2 v3 v4 m) (qGL (fun o rr => qJ E yX9_proveText cX9_proveText 5 (some .int) (fun _ => True) d bc bs 131 [(3, .int o.1)] [] o.2 rr) (fun r => (some (.int r.1), r.2)))) : qB E yX9_proveText cX9_proveText 5 (some .int) (fun _ => True) d bc bs 125 [(0, .ref (E.2.1 + v0)), (1, .int v1), (2, .int v2), (3, .int v3), (4, .int v4)] [] m0 (kX9_proveText_125 N rec v0 v1 v2 v3 v4 m0) (qGL (fun o rr => qJ E yX9_proveText cX9_proveText 5 (some .int) (fun _ => True) d bc bs 131 [(3, .int o.1)] [] o.2 rr) (fun r => (some (.int r.1), r.2))) := by
  unfold kX9_proveText_125
  refine j_iinc (q := 4) (np := 128) (lv2 := [(4, .int (v4 + (1 : Int32))), (0, .ref (E.2.1 + v0)), (1, .int v1), (2, .int v2), (3, .int v3)]) rfl (congrArg _ ci_1) (by decide) dX9_proveText_125 rfl rfl ?_
  refine j_goto (tgt := 15) dX9_proveText_128 rfl ?_
  refine j_sub (lv2 := [(0, .ref (E.2.1 + v0)), (1, .int v1), (2, .int v2), (3, .int v3), (4, .int (v4 + (1 : Int32)))]) [1, 2, 3, 4, 0] rfl ?_
  exact hrec _ _ _ _
def lX9_proveText_15 (N : Nat) (v0 : Nat) (v1 : Int32) : Nat → Int32 → Int32 → Int32 → qM → Option ((Int32 × qM) ⊕ (Int32 × qM))
  | 0, _, _, _, _ => none
  | n + 1, v2, v3, v4, m0 =>
    (qgR m0 v0 9 0).bind fun x1 =>
    (qChk m0 x1 7 (fX7_length N x1 m0)).bind fun b2 =>
    if b2.1 ≤ v4 then (
    some (.inl (v3, b2.2))
    ) else (
    (qgR b2.2 v0 9 0).bind fun x3 =>
    (qChk b2.2 x3 7 (fX7_at N x3 v4 b2.2)).bind fun b4 =>
    if b4.1 = (68 : Int32) then (
    (qgR b4.2 v0 9 12).bind fun x10 =>
    (qwI b4.2 x10 12 v2 (-1 : Int32)).bind fun m11 =>
    kX9_proveText_125 N (lX9_proveText_15 N v0 v1 n) v0 v1 (v2 + (1 : Int32)) v3 v4 m11
    ) else (
    (qgR b4.2 v0 9 0).bind fun x5 =>
    (qChk b4.2 x5 7 (fX7_at N x5 v4 b4.2)).bind fun b6 =>
    qTh (lX9_proveText_67 N v0 v1 v4 N v2 (b6.1 - (49 : Int32)) b6.2) (fun o7 =>
    if o7.1 ≤ 0 then (
    kX9_proveText_125 N (lX9_proveText_15 N v0 v1 n) v0 v1 o7.1 o7.2.1 v4 o7.2.2
    ) else (
    (qgR o7.2.2 v0 9 12).bind fun x8 =>
    (qwI o7.2.2 x8 12 (o7.1 - (1 : Int32)) o7.2.1).bind fun m9 =>
    kX9_proveText_125 N (lX9_proveText_15 N v0 v1 n) v0 v1 o7.1 o7.2.1 v4 m9
    )
    ) (fun r => .inr r)
    )
    )
set_option maxRecDepth 100000 in
theorem lbX9_proveText_15 {E : qE} {N d bc bs : Nat} (hd : 5 ≤ d) {v0 : Nat} {v1 : Int32} : ∀ (n : Nat) (v2 : Int32) (v3 : Int32) (v4 : Int32) (m0 : qM), qB E yX9_proveText cX9_proveText 5 (some .int) (fun _ => True) d bc bs 15 [(0, .ref (E.2.1 + v0)), (1, .int v1), (2, .int v2), (3, .int v3), (4, .int v4)] [] m0 (lX9_proveText_15 N v0 v1 n v2 v3 v4 m0) (qGL (fun o rr => qJ E yX9_proveText cX9_proveText 5 (some .int) (fun _ => True) d bc bs 131 [(3, .int o.1)] [] o.2 rr) (fun r => (some (.int r.1), r.2))) := by
  intro n
  induction n with
  | zero =>
    intro v2 v3 v4 m0
    exact j_none
  | succ n ih =>
    intro v2 v3 v4 m0
    unfold lX9_proveText_15
    refine j_iload (q := 4) (np := 17) rfl dX9_proveText_15 rfl ?_
    refine j_aload_n (q := 0) (np := 18) rfl rfl dX9_proveText_17 rfl ?_
    refine j_gR (np := 21) flX9_12 dX9_proveText_18 rfl (fun x1 => ?_)
    refine j_callVi (ci := 7) (np := 24) (bc := bc) (bs := bs) (cb := 0) (cs := 0) (dd := d - 1) (As := []) (st := [.int v4]) caX7_length mlX9_88 imX7_length seX7_length rfl rfl (by decide) (fun b hb => wX7_length (by omega) hb) (by omega) rfl rfl (Nat.le_of_ble_eq_true rfl) dX9_proveText_21 rfl (fun b2 => ?_)
    refine j_icmp_ge (tgt := 131) (np := 27) dX9_proveText_24 rfl rfl ?_ ?_
    · refine j_sub (lv2 := [(3, .int v3)]) [3] rfl ?_
      exact j_exit (fun rr h => h)
    · refine j_aload_n (q := 0) (np := 28) rfl rfl dX9_proveText_27 rfl ?_
      refine j_gR (np := 31) flX9_12 dX9_proveText_28 rfl (fun x3 => ?_)
      refine j_iload (q := 4) (np := 33) rfl dX9_proveText_31 rfl ?_
      refine j_callVi (ci := 7) (np := 36) (bc := bc) (bs := bs) (cb := 0) (cs := 0) (dd := d - 1) (As := [.int v4]) (st := []) caX7_at mlX9_167 imX7_at seX7_at rfl rfl (by decide) (fun b hb => wX7_at (by omega) hb) (by omega) rfl rfl (Nat.le_of_ble_eq_true rfl) dX9_proveText_33 rfl (fun b4 => ?_)
      refine j_bipush (np := 38) cb_68 dX9_proveText_36 rfl ?_
      refine j_icmp_ne (tgt := 54) (np := 41) dX9_proveText_38 rfl rfl ?_ ?_
      · refine j_aload_n (q := 0) (np := 55) rfl rfl dX9_proveText_54 rfl ?_
        refine j_gR (np := 58) flX9_12 dX9_proveText_55 rfl (fun x5 => ?_)
        refine j_iload (q := 4) (np := 60) rfl dX9_proveText_58 rfl ?_
        refine j_callVi (ci := 7) (np := 63) (bc := bc) (bs := bs) (cb := 0) (cs := 0) (dd := d - 1) (As := [.int v4]) (st := []) caX7_at mlX9_167 imX7_at seX7_at rfl rfl (by decide) (fun b hb => wX7_at (by omega) hb) (by omega) rfl rfl (Nat.le_of_ble_eq_true rfl) dX9_proveText_60 rfl (fun b6 => ?_)
        refine j_bipush (np := 65) cb_49 dX9_proveText_63 rfl ?_
        refine j_isub (np := 66) dX9_proveText_65 rfl ?_
        refine j_istore_n (np := 67) (lv2 := [(3, .int (b6.1 - (49 : Int32))), (0, .ref (E.2.1 + v0)), (1, .int v1), (2, .int v2), (4, .int v4)]) rfl (by decide) dX9_proveText_66 rfl rfl ?_
        refine j_sub (lv2 := [(0, .ref (E.2.1 + v0)), (1, .int v1), (2, .int v2), (3, .int (b6.1 - (49 : Int32))), (4, .int v4)]) [1, 2, 3, 0, 4] rfl ?_
        refine j_loopG (xp := 112) (lvX := fun o7 => [(0, .ref (E.2.1 + v0)), (1, .int v1), (2, .int o7.1), (3, .int o7.2.1), (4, .int v4)]) (mX := fun o7 => o7.2.2) (lbX9_proveText_67 hd _ _ _ _) (fun r rr h => h) (fun o7 => ?_)
        refine j_iload_n (q := 2) (np := 113) rfl rfl dX9_proveText_112 rfl ?_
        refine j_if_le (tgt := 125) (np := 116) dX9_proveText_113 rfl rfl ?_ ?_
        · exact kbX9_proveText_125 hd ih
        · refine j_aload_n (q := 0) (np := 117) rfl rfl dX9_proveText_116 rfl ?_
          refine j_gR (np := 120) flX9_85 dX9_proveText_117 rfl (fun x8 => ?_)
          refine j_iload_n (q := 2) (np := 121) rfl rfl dX9_proveText_120 rfl ?_
          refine j_iconst (np := 122) ci_1 dX9_proveText_121 rfl ?_
          refine j_isub (np := 123) dX9_proveText_122 rfl ?_
          refine j_iload_n (q := 3) (np := 124) rfl rfl dX9_proveText_123 rfl ?_
          refine j_iastore (np := 125) dX9_proveText_124 rfl (fun m9 => ?_)
          exact kbX9_proveText_125 hd ih
      · refine j_aload_n (q := 0) (np := 42) rfl rfl dX9_proveText_41 rfl ?_
        refine j_gR (np := 45) flX9_85 dX9_proveText_42 rfl (fun x10 => ?_)
        refine j_iload_n (q := 2) (np := 46) rfl rfl dX9_proveText_45 rfl ?_
        refine j_iconst (np := 47) ci_m1 dX9_proveText_46 rfl ?_
        refine j_iastore (np := 48) dX9_proveText_47 rfl (fun m11 => ?_)
        refine j_iinc (q := 2) (np := 51) (lv2 := [(2, .int (v2 + (1 : Int32))), (0, .ref (E.2.1 + v0)), (1, .int v1), (3, .int v3), (4, .int v4)]) rfl (congrArg _ ci_1) (by decide) dX9_proveText_48 rfl rfl ?_
        refine j_goto (tgt := 125) dX9_proveText_51 rfl ?_
        refine j_sub (lv2 := [(0, .ref (E.2.1 + v0)), (1, .int v1), (2, .int (v2 + (1 : Int32))), (3, .int v3), (4, .int v4)]) [1, 2, 0, 3, 4] rfl ?_
        exact kbX9_proveText_125 hd ih
def fX9_proveText (N : Nat) (v0 : Nat) (m0 : qM) : Option (Int32 × qM) :=
  (qgR m0 v0 9 2).bind fun x1 =>
  (qChk m0 x1 1 (fX1_count N x1 m0)).bind fun b2 =>
  qTh (lX9_proveText_15 N v0 b2.1 N (0 : Int32) (-1 : Int32) (0 : Int32) b2.2) (fun o3 =>
  some (o3.1, o3.2)
  ) (fun r => r)
set_option maxRecDepth 100000 in
theorem bX9_proveText {E : qE} {N d bc bs : Nat} (hd : 5 ≤ d) {v0 : Nat} {m0 : qM} : qB E yX9_proveText cX9_proveText 5 (some .int) (fun _ => True) d bc bs 0 [(0, .ref (E.2.1 + v0))] [] m0 (fX9_proveText N v0 m0) (fun b rr => rr = (some (.int b.1), b.2)) := by
  unfold fX9_proveText
  refine j_aload_n (q := 0) (np := 1) rfl rfl dX9_proveText_0 rfl ?_
  refine j_gR (np := 4) flX9_22 dX9_proveText_1 rfl (fun x1 => ?_)
  refine j_callVi (ci := 1) (np := 7) (bc := bc) (bs := bs) (cb := 0) (cs := 0) (dd := d - 1) (As := []) (st := []) caX1_count mlX9_114 imX1_count seX1_count rfl rfl (by decide) (fun b hb => wX1_count (by omega) hb) (by omega) rfl rfl (Nat.le_of_ble_eq_true rfl) dX9_proveText_4 rfl (fun b2 => ?_)
  refine j_istore_n (np := 8) (lv2 := [(1, .int b2.1), (0, .ref (E.2.1 + v0))]) rfl (by decide) dX9_proveText_7 rfl rfl ?_
  refine j_iconst (np := 9) ci_0 dX9_proveText_8 rfl ?_
  refine j_istore_n (np := 10) (lv2 := [(2, .int (0 : Int32)), (1, .int b2.1), (0, .ref (E.2.1 + v0))]) rfl (by decide) dX9_proveText_9 rfl rfl ?_
  refine j_iconst (np := 11) ci_m1 dX9_proveText_10 rfl ?_
  refine j_istore_n (np := 12) (lv2 := [(3, .int (-1 : Int32)), (2, .int (0 : Int32)), (1, .int b2.1), (0, .ref (E.2.1 + v0))]) rfl (by decide) dX9_proveText_11 rfl rfl ?_
  refine j_iconst (np := 13) ci_0 dX9_proveText_12 rfl ?_
  refine j_istore (np := 15) (lv2 := [(4, .int (0 : Int32)), (3, .int (-1 : Int32)), (2, .int (0 : Int32)), (1, .int b2.1), (0, .ref (E.2.1 + v0))]) (by decide) dX9_proveText_13 rfl rfl ?_
  refine j_sub (lv2 := [(0, .ref (E.2.1 + v0)), (1, .int b2.1), (2, .int (0 : Int32)), (3, .int (-1 : Int32)), (4, .int (0 : Int32))]) [4, 3, 2, 1, 0] rfl ?_
  refine j_loopG (xp := 131) (lvX := fun o3 => [(3, .int o3.1)]) (mX := fun o3 => o3.2) (lbX9_proveText_15 hd _ _ _ _ _) (fun r rr h => h) (fun o3 => ?_)
  refine j_iload_n (q := 0) (np := 132) rfl rfl dX9_proveText_131 rfl ?_
  exact j_iret rfl dX9_proveText_132 (fun rr h => h)
set_option maxRecDepth 100000 in
theorem wX9_proveText {E : qE} {N d : Nat} (hd : 5 ≤ d) {v0 : Nat} {m0 : qM} {b : Int32 × qM} (h : fX9_proveText N v0 m0 = some b) : qRun E yX9_proveText cX9_proveText 5 (some .int) d 0 0 [.ref (E.2.1 + v0)] m0 (some (.int b.1), b.2) := q_met pnX9 (Nat.le_of_ble_eq_true rfl) (bX9_proveText hd b _ h rfl)
theorem dX9_prove_0 : decode cX9_prove 0 = .ok (.bipush 48, 2) := by decide +kernel
theorem dX9_prove_2 : decode cX9_prove 2 = .ok (.bipush 9, 2) := by decide +kernel
theorem dX9_prove_4 : decode cX9_prove 4 = .ok (.aload_n 0, 1) := by decide +kernel
theorem dX9_prove_5 : decode cX9_prove 5 = .ok (.getfield 22, 3) := by decide +kernel
theorem dX9_prove_8 : decode cX9_prove 8 = .ok (.invokevirtual 114, 3) := by decide +kernel
theorem dX9_prove_11 : decode cX9_prove 11 = .ok (.invokestatic 117, 3) := by decide +kernel
theorem dX9_prove_14 : decode cX9_prove 14 = .ok (.iadd, 1) := by decide +kernel
theorem dX9_prove_15 : decode cX9_prove 15 = .ok (.i2c, 1) := by decide +kernel
theorem dX9_prove_16 : decode cX9_prove 16 = .ok (.istore_n 1, 1) := by decide +kernel
theorem dX9_prove_17 : decode cX9_prove 17 = .ok (.aload_n 0, 1) := by decide +kernel
theorem dX9_prove_18 : decode cX9_prove 18 = .ok (.bipush 68, 2) := by decide +kernel
theorem dX9_prove_20 : decode cX9_prove 20 = .ok (.bipush 49, 2) := by decide +kernel
theorem dX9_prove_22 : decode cX9_prove 22 = .ok (.iload_n 1, 1) := by decide +kernel
theorem dX9_prove_23 : decode cX9_prove 23 = .ok (.invokevirtual 99, 3) := by decide +kernel
theorem dX9_prove_26 : decode cX9_prove 26 = .ok (.istore_n 2, 1) := by decide +kernel
theorem dX9_prove_27 : decode cX9_prove 27 = .ok (.iload_n 2, 1) := by decide +kernel
theorem dX9_prove_28 : decode cX9_prove 28 = .ok (.iconst (-1), 1) := by decide +kernel
theorem dX9_prove_29 : decode cX9_prove 29 = .ok (.if_icmp .ne 10, 3) := by decide +kernel
theorem dX9_prove_32 : decode cX9_prove 32 = .ok (.aload_n 0, 1) := by decide +kernel
theorem dX9_prove_33 : decode cX9_prove 33 = .ok (.invokevirtual 122, 3) := by decide +kernel
theorem dX9_prove_36 : decode cX9_prove 36 = .ok (.goto 7, 3) := by decide +kernel
theorem dX9_prove_39 : decode cX9_prove 39 = .ok (.bipush (-100), 2) := by decide +kernel
theorem dX9_prove_41 : decode cX9_prove 41 = .ok (.iload_n 2, 1) := by decide +kernel
theorem dX9_prove_42 : decode cX9_prove 42 = .ok (.isub, 1) := by decide +kernel
theorem dX9_prove_43 : decode cX9_prove 43 = .ok (.istore_n 3, 1) := by decide +kernel
theorem dX9_prove_44 : decode cX9_prove 44 = .ok (.aload_n 0, 1) := by decide +kernel
theorem dX9_prove_45 : decode cX9_prove 45 = .ok (.getfield 12, 3) := by decide +kernel
theorem dX9_prove_48 : decode cX9_prove 48 = .ok (.invokevirtual 96, 3) := by decide +kernel
theorem dX9_prove_51 : decode cX9_prove 51 = .ok (.iload_n 3, 1) := by decide +kernel
theorem dX9_prove_52 : decode cX9_prove 52 = .ok (.ireturn, 1) := by decide +kernel
def kX9_prove_43 (N : Nat) (v0 : Nat) (s0 : Int32) (m0 : qM) : Option (Int32 × qM) :=
  (qgR m0 v0 9 0).bind fun x1 =>
  (qChk m0 x1 7 (fX7_makeEmpty N x1 m0)).bind fun b2 =>
  some (s0, b2)
set_option maxRecDepth 100000 in
theorem kbX9_prove_43 {E : qE} {N d bc bs : Nat} (hd : 6 ≤ d) {v0 : Nat} {s0 : Int32} {m0 : qM} : qB E yX9_prove cX9_prove 4 (some .int) (fun _ => True) d bc bs 43 [(0, .ref (E.2.1 + v0))] [.int s0] m0 (kX9_prove_43 N v0 s0 m0) (fun b rr => rr = (some (.int b.1), b.2)) := by
  unfold kX9_prove_43
  refine j_istore_n (np := 44) (lv2 := [(3, .int s0), (0, .ref (E.2.1 + v0))]) rfl (by decide) dX9_prove_43 rfl rfl ?_
  refine j_aload_n (q := 1) (np := 45) rfl rfl dX9_prove_44 rfl ?_
  refine j_gR (np := 48) flX9_12 dX9_prove_45 rfl (fun x1 => ?_)
  refine j_callVv (ci := 7) (np := 51) (bc := bc) (bs := bs) (cb := 0) (cs := 0) (dd := d - 1) (As := []) (st := []) caX7_makeEmpty mlX9_96 imX7_makeEmpty seX7_makeEmpty rfl rfl (by decide) (fun b hb => wX7_makeEmpty (by omega) hb) (by omega) rfl rfl (Nat.le_of_ble_eq_true rfl) dX9_prove_48 rfl (fun b2 => ?_)
  refine j_iload_n (q := 0) (np := 52) rfl rfl dX9_prove_51 rfl ?_
  exact j_iret rfl dX9_prove_52 (fun rr h => h)
def fX9_prove (N : Nat) (v0 : Nat) (m0 : qM) : Option (Int32 × qM) :=
  (qgR m0 v0 9 2).bind fun x1 =>
  (qChk m0 x1 1 (fX1_count N x1 m0)).bind fun b2 =>
  (qChk b2.2 v0 9 (fX9_polishError N v0 (68 : Int32) (49 : Int32) ((((48 : Int32) + (if b2.1 < (9 : Int32) then b2.1 else (9 : Int32))).toUInt32 % 65536).toInt32) b2.2)).bind fun b3 =>
  if b3.1 = (-1 : Int32) then (
  (qChk b3.2 v0 9 (fX9_proveText N v0 b3.2)).bind fun b4 =>
  kX9_prove_43 N v0 b4.1 b4.2
  ) else (
  kX9_prove_43 N v0 ((-100 : Int32) - b3.1) b3.2
  )
set_option maxRecDepth 100000 in
theorem bX9_prove {E : qE} {N d bc bs : Nat} (hd : 6 ≤ d) {v0 : Nat} {m0 : qM} : qB E yX9_prove cX9_prove 4 (some .int) (fun _ => True) d bc bs 0 [(0, .ref (E.2.1 + v0))] [] m0 (fX9_prove N v0 m0) (fun b rr => rr = (some (.int b.1), b.2)) := by
  unfold fX9_prove
  refine j_bipush (np := 2) cb_48 dX9_prove_0 rfl ?_
  refine j_bipush (np := 4) cb_9 dX9_prove_2 rfl ?_
  refine j_aload_n (q := 0) (np := 5) rfl rfl dX9_prove_4 rfl ?_
  refine j_gR (np := 8) flX9_22 dX9_prove_5 rfl (fun x1 => ?_)
  refine j_callVi (ci := 1) (np := 11) (bc := bc) (bs := bs) (cb := 0) (cs := 0) (dd := d - 1) (As := []) (st := [.int (9 : Int32), .int (48 : Int32)]) caX1_count mlX9_114 imX1_count seX1_count rfl rfl (by decide) (fun b hb => wX1_count (by omega) hb) (by omega) rfl rfl (Nat.le_of_ble_eq_true rfl) dX9_prove_8 rfl (fun b2 => ?_)
  refine j_min (np := 14) mlX9_117 stmin inMath cdmin (by omega) (Nat.le_of_ble_eq_true rfl) dX9_prove_11 rfl ?_
  refine j_iadd (np := 15) dX9_prove_14 rfl ?_
  refine j_i2c (np := 16) dX9_prove_15 rfl ?_
  refine j_istore_n (np := 17) (lv2 := [(1, .int ((((48 : Int32) + (if b2.1 < (9 : Int32) then b2.1 else (9 : Int32))).toUInt32 % 65536).toInt32)), (0, .ref (E.2.1 + v0))]) rfl (by decide) dX9_prove_16 rfl rfl ?_
  refine j_aload_n (q := 1) (np := 18) rfl rfl dX9_prove_17 rfl ?_
  refine j_bipush (np := 20) cb_68 dX9_prove_18 rfl ?_
  refine j_bipush (np := 22) cb_49 dX9_prove_20 rfl ?_
  refine j_iload_n (q := 0) (np := 23) rfl rfl dX9_prove_22 rfl ?_
  refine j_callVi (ci := 9) (np := 26) (bc := bc) (bs := bs) (cb := 0) (cs := 0) (dd := d - 1) (As := [.int (68 : Int32), .int (49 : Int32), .int ((((48 : Int32) + (if b2.1 < (9 : Int32) then b2.1 else (9 : Int32))).toUInt32 % 65536).toInt32)]) (st := []) caX9_polishError mlX9_99 imX9_polishError seX9_polishError rfl rfl (by decide) (fun b hb => wX9_polishError (by omega) hb) (by omega) rfl rfl (Nat.le_of_ble_eq_true rfl) dX9_prove_23 rfl (fun b3 => ?_)
  refine j_istore_n (np := 27) (lv2 := [(2, .int b3.1), (1, .int ((((48 : Int32) + (if b2.1 < (9 : Int32) then b2.1 else (9 : Int32))).toUInt32 % 65536).toInt32)), (0, .ref (E.2.1 + v0))]) rfl (by decide) dX9_prove_26 rfl rfl ?_
  refine j_iload_n (q := 0) (np := 28) rfl rfl dX9_prove_27 rfl ?_
  refine j_iconst (np := 29) ci_m1 dX9_prove_28 rfl ?_
  refine j_icmp_ne (tgt := 39) (np := 32) dX9_prove_29 rfl rfl ?_ ?_
  · refine j_bipush (np := 41) cb_m100 dX9_prove_39 rfl ?_
    refine j_iload_n (q := 0) (np := 42) rfl rfl dX9_prove_41 rfl ?_
    refine j_isub (np := 43) dX9_prove_42 rfl ?_
    refine j_sub (lv2 := [(0, .ref (E.2.1 + v0))]) [2] rfl ?_
    exact kbX9_prove_43 hd
  · refine j_aload_n (q := 2) (np := 33) rfl rfl dX9_prove_32 rfl ?_
    refine j_callVi (ci := 9) (np := 36) (bc := bc) (bs := bs) (cb := 0) (cs := 0) (dd := d - 1) (As := []) (st := []) caX9_proveText mlX9_122 imX9_proveText seX9_proveText rfl rfl (by decide) (fun b hb => wX9_proveText (by omega) hb) (by omega) rfl rfl (Nat.le_of_ble_eq_true rfl) dX9_prove_33 rfl (fun b4 => ?_)
    refine j_goto (tgt := 43) dX9_prove_36 rfl ?_
    refine j_sub (lv2 := [(0, .ref (E.2.1 + v0))]) [2] rfl ?_
    exact kbX9_prove_43 hd
set_option maxRecDepth 100000 in
theorem wX9_prove {E : qE} {N d : Nat} (hd : 6 ≤ d) {v0 : Nat} {m0 : qM} {b : Int32 × qM} (h : fX9_prove N v0 m0 = some b) : qRun E yX9_prove cX9_prove 4 (some .int) d 0 0 [.ref (E.2.1 + v0)] m0 (some (.int b.1), b.2) := q_met pnX9 (Nat.le_of_ble_eq_true rfl) (bX9_prove hd b _ h rfl)
theorem dX9_cut_0 : decode cX9_cut 0 = .ok (.aload_n 0, 1) := by decide +kernel
theorem dX9_cut_1 : decode cX9_cut 1 = .ok (.getfield 22, 3) := by decide +kernel
theorem dX9_cut_4 : decode cX9_cut 4 = .ok (.invokevirtual 114, 3) := by decide +kernel
theorem dX9_cut_7 : decode cX9_cut 7 = .ok (.istore_n 2, 1) := by decide +kernel
theorem dX9_cut_8 : decode cX9_cut 8 = .ok (.iload_n 1, 1) := by decide +kernel
theorem dX9_cut_9 : decode cX9_cut 9 = .ok (.ifCond .lt 8, 3) := by decide +kernel
theorem dX9_cut_12 : decode cX9_cut 12 = .ok (.iload_n 1, 1) := by decide +kernel
theorem dX9_cut_13 : decode cX9_cut 13 = .ok (.iload_n 2, 1) := by decide +kernel
theorem dX9_cut_14 : decode cX9_cut 14 = .ok (.if_icmp .le 6, 3) := by decide +kernel
theorem dX9_cut_17 : decode cX9_cut 17 = .ok (.bipush (-2), 2) := by decide +kernel
theorem dX9_cut_19 : decode cX9_cut 19 = .ok (.ireturn, 1) := by decide +kernel
theorem dX9_cut_20 : decode cX9_cut 20 = .ok (.aload_n 0, 1) := by decide +kernel
theorem dX9_cut_21 : decode cX9_cut 21 = .ok (.getfield 22, 3) := by decide +kernel
theorem dX9_cut_24 : decode cX9_cut 24 = .ok (.iload_n 1, 1) := by decide +kernel
theorem dX9_cut_25 : decode cX9_cut 25 = .ok (.invokevirtual 125, 3) := by decide +kernel
theorem dX9_cut_28 : decode cX9_cut 28 = .ok (.iload_n 2, 1) := by decide +kernel
theorem dX9_cut_29 : decode cX9_cut 29 = .ok (.iload_n 1, 1) := by decide +kernel
theorem dX9_cut_30 : decode cX9_cut 30 = .ok (.isub, 1) := by decide +kernel
theorem dX9_cut_31 : decode cX9_cut 31 = .ok (.ireturn, 1) := by decide +kernel
def fX9_cut (N : Nat) (v0 : Nat) (v1 : Int32) (m0 : qM) : Option (Int32 × qM) :=
  (qgR m0 v0 9 2).bind fun x1 =>
  (qChk m0 x1 1 (fX1_count N x1 m0)).bind fun b2 =>
  if v1 < 0 then (
  some ((-2 : Int32), b2.2)
  ) else (
  if v1 ≤ b2.1 then (
  (qgR b2.2 v0 9 2).bind fun x3 =>
  (qChk b2.2 x3 1 (fX1_shrinkTo N x3 v1 b2.2)).bind fun b4 =>
  some (b2.1 - v1, b4)
  ) else (
  some ((-2 : Int32), b2.2)
  )
  )
set_option maxRecDepth 100000 in
theorem bX9_cut {E : qE} {N d bc bs : Nat} (hd : 1 ≤ d) {v0 : Nat} {v1 : Int32} {m0 : qM} : qB E yX9_cut cX9_cut 3 (some .int) (fun _ => True) d bc bs 0 [(0, .ref (E.2.1 + v0)), (1, .int v1)] [] m0 (fX9_cut N v0 v1 m0) (fun b rr => rr = (some (.int b.1), b.2)) := by
  unfold fX9_cut
  refine j_aload_n (q := 0) (np := 1) rfl rfl dX9_cut_0 rfl ?_
  refine j_gR (np := 4) flX9_22 dX9_cut_1 rfl (fun x1 => ?_)
  refine j_callVi (ci := 1) (np := 7) (bc := bc) (bs := bs) (cb := 0) (cs := 0) (dd := d - 1) (As := []) (st := []) caX1_count mlX9_114 imX1_count seX1_count rfl rfl (by decide) (fun b hb => wX1_count (by omega) hb) (by omega) rfl rfl (Nat.le_of_ble_eq_true rfl) dX9_cut_4 rfl (fun b2 => ?_)
  refine j_istore_n (np := 8) (lv2 := [(2, .int b2.1), (0, .ref (E.2.1 + v0)), (1, .int v1)]) rfl (by decide) dX9_cut_7 rfl rfl ?_
  refine j_iload_n (q := 2) (np := 9) rfl rfl dX9_cut_8 rfl ?_
  refine j_if_lt (tgt := 17) (np := 12) dX9_cut_9 rfl rfl ?_ ?_
  · refine j_bipush (np := 19) cb_m2 dX9_cut_17 rfl ?_
    exact j_iret rfl dX9_cut_19 (fun rr h => h)
  · refine j_iload_n (q := 2) (np := 13) rfl rfl dX9_cut_12 rfl ?_
    refine j_iload_n (q := 0) (np := 14) rfl rfl dX9_cut_13 rfl ?_
    refine j_icmp_le (tgt := 20) (np := 17) dX9_cut_14 rfl rfl ?_ ?_
    · refine j_aload_n (q := 1) (np := 21) rfl rfl dX9_cut_20 rfl ?_
      refine j_gR (np := 24) flX9_22 dX9_cut_21 rfl (fun x3 => ?_)
      refine j_iload_n (q := 2) (np := 25) rfl rfl dX9_cut_24 rfl ?_
      refine j_callVv (ci := 1) (np := 28) (bc := bc) (bs := bs) (cb := 0) (cs := 0) (dd := d - 1) (As := [.int v1]) (st := []) caX1_shrinkTo mlX9_125 imX1_shrinkTo seX1_shrinkTo rfl rfl (by decide) (fun b hb => wX1_shrinkTo (by omega) hb) (by omega) rfl rfl (Nat.le_of_ble_eq_true rfl) dX9_cut_25 rfl (fun b4 => ?_)
      refine j_iload_n (q := 0) (np := 29) rfl rfl dX9_cut_28 rfl ?_
      refine j_iload_n (q := 2) (np := 30) rfl rfl dX9_cut_29 rfl ?_
      refine j_isub (np := 31) dX9_cut_30 rfl ?_
      exact j_iret rfl dX9_cut_31 (fun rr h => h)
    · refine j_bipush (np := 19) cb_m2 dX9_cut_17 rfl ?_
      exact j_iret rfl dX9_cut_19 (fun rr h => h)
set_option maxRecDepth 100000 in
theorem wX9_cut {E : qE} {N d : Nat} (hd : 1 ≤ d) {v0 : Nat} {v1 : Int32} {m0 : qM} {b : Int32 × qM} (h : fX9_cut N v0 v1 m0 = some b) : qRun E yX9_cut cX9_cut 3 (some .int) d 0 0 [.ref (E.2.1 + v0), .int v1] m0 (some (.int b.1), b.2) := q_met pnX9 (Nat.le_of_ble_eq_true rfl) (bX9_cut hd b _ h rfl)
theorem dX9_listSize_0 : decode cX9_listSize 0 = .ok (.aload_n 0, 1) := by decide +kernel
theorem dX9_listSize_1 : decode cX9_listSize 1 = .ok (.getfield 22, 3) := by decide +kernel
theorem dX9_listSize_4 : decode cX9_listSize 4 = .ok (.invokevirtual 114, 3) := by decide +kernel
theorem dX9_listSize_7 : decode cX9_listSize 7 = .ok (.ireturn, 1) := by decide +kernel
def fX9_listSize (N : Nat) (v0 : Nat) (m0 : qM) : Option (Int32 × qM) :=
  (qgR m0 v0 9 2).bind fun x1 =>
  (qChk m0 x1 1 (fX1_count N x1 m0)).bind fun b2 =>
  some (b2.1, b2.2)
set_option maxRecDepth 100000 in
theorem bX9_listSize {E : qE} {N d bc bs : Nat} (hd : 1 ≤ d) {v0 : Nat} {m0 : qM} : qB E yX9_listSize cX9_listSize 1 (some .int) (fun _ => True) d bc bs 0 [(0, .ref (E.2.1 + v0))] [] m0 (fX9_listSize N v0 m0) (fun b rr => rr = (some (.int b.1), b.2)) := by
  unfold fX9_listSize
  refine j_aload_n (q := 0) (np := 1) rfl rfl dX9_listSize_0 rfl ?_
  refine j_gR (np := 4) flX9_22 dX9_listSize_1 rfl (fun x1 => ?_)
  refine j_callVi (ci := 1) (np := 7) (bc := bc) (bs := bs) (cb := 0) (cs := 0) (dd := d - 1) (As := []) (st := []) caX1_count mlX9_114 imX1_count seX1_count rfl rfl (by decide) (fun b hb => wX1_count (by omega) hb) (by omega) rfl rfl (Nat.le_of_ble_eq_true rfl) dX9_listSize_4 rfl (fun b2 => ?_)
  exact j_iret rfl dX9_listSize_7 (fun rr h => h)
set_option maxRecDepth 100000 in
theorem wX9_listSize {E : qE} {N d : Nat} (hd : 1 ≤ d) {v0 : Nat} {m0 : qM} {b : Int32 × qM} (h : fX9_listSize N v0 m0 = some b) : qRun E yX9_listSize cX9_listSize 1 (some .int) d 0 0 [.ref (E.2.1 + v0)] m0 (some (.int b.1), b.2) := q_met pnX9 (Nat.le_of_ble_eq_true rfl) (bX9_listSize hd b _ h rfl)
theorem dX9_formulaSize_0 : decode cX9_formulaSize 0 = .ok (.aload_n 0, 1) := by decide +kernel
theorem dX9_formulaSize_1 : decode cX9_formulaSize 1 = .ok (.getfield 22, 3) := by decide +kernel
theorem dX9_formulaSize_4 : decode cX9_formulaSize 4 = .ok (.iload_n 1, 1) := by decide +kernel
theorem dX9_formulaSize_5 : decode cX9_formulaSize 5 = .ok (.invokevirtual 106, 3) := by decide +kernel
theorem dX9_formulaSize_8 : decode cX9_formulaSize 8 = .ok (.ifCond .eq 17, 3) := by decide +kernel
theorem dX9_formulaSize_11 : decode cX9_formulaSize 11 = .ok (.aload_n 0, 1) := by decide +kernel
theorem dX9_formulaSize_12 : decode cX9_formulaSize 12 = .ok (.getfield 22, 3) := by decide +kernel
theorem dX9_formulaSize_15 : decode cX9_formulaSize 15 = .ok (.iload_n 1, 1) := by decide +kernel
theorem dX9_formulaSize_16 : decode cX9_formulaSize 16 = .ok (.invokevirtual 129, 3) := by decide +kernel
theorem dX9_formulaSize_19 : decode cX9_formulaSize 19 = .ok (.invokevirtual 133, 3) := by decide +kernel
theorem dX9_formulaSize_22 : decode cX9_formulaSize 22 = .ok (.goto 4, 3) := by decide +kernel
theorem dX9_formulaSize_25 : decode cX9_formulaSize 25 = .ok (.iconst (-1), 1) := by decide +kernel
theorem dX9_formulaSize_26 : decode cX9_formulaSize 26 = .ok (.ireturn, 1) := by decide +kernel
def fX9_formulaSize (N : Nat) (v0 : Nat) (v1 : Int32) (m0 : qM) : Option (Int32 × qM) :=
  (qgR m0 v0 9 2).bind fun x1 =>
  (qChk m0 x1 1 (fX1_has N x1 v1 m0)).bind fun b2 =>
  if b2.1 = 0 then (
  some ((-1 : Int32), b2.2)
  ) else (
  (qgR b2.2 v0 9 2).bind fun x3 =>
  (qChk b2.2 x3 1 (fX1_at N x3 v1 b2.2)).bind fun b4 =>
  (qChk b4.2 b4.1 0 (fX0_size N b4.1 b4.2)).bind fun b5 =>
  some (b5.1, b5.2)
  )
set_option maxRecDepth 100000 in
theorem bX9_formulaSize {E : qE} {N d bc bs : Nat} (hd : 1 ≤ d) {v0 : Nat} {v1 : Int32} {m0 : qM} : qB E yX9_formulaSize cX9_formulaSize 2 (some .int) (fun _ => True) d bc bs 0 [(0, .ref (E.2.1 + v0)), (1, .int v1)] [] m0 (fX9_formulaSize N v0 v1 m0) (fun b rr => rr = (some (.int b.1), b.2)) := by
  unfold fX9_formulaSize
  refine j_aload_n (q := 0) (np := 1) rfl rfl dX9_formulaSize_0 rfl ?_
  refine j_gR (np := 4) flX9_22 dX9_formulaSize_1 rfl (fun x1 => ?_)
  refine j_iload_n (q := 1) (np := 5) rfl rfl dX9_formulaSize_4 rfl ?_
  refine j_callVi (ci := 1) (np := 8) (bc := bc) (bs := bs) (cb := 0) (cs := 0) (dd := d - 1) (As := [.int v1]) (st := []) caX1_has mlX9_106 imX1_has seX1_has rfl rfl (by decide) (fun b hb => wX1_has (by omega) hb) (by omega) rfl rfl (Nat.le_of_ble_eq_true rfl) dX9_formulaSize_5 rfl (fun b2 => ?_)
  refine j_if_eq (tgt := 25) (np := 11) dX9_formulaSize_8 rfl rfl ?_ ?_
  · refine j_iconst (np := 26) ci_m1 dX9_formulaSize_25 rfl ?_
    exact j_iret rfl dX9_formulaSize_26 (fun rr h => h)
  · refine j_aload_n (q := 0) (np := 12) rfl rfl dX9_formulaSize_11 rfl ?_
    refine j_gR (np := 15) flX9_22 dX9_formulaSize_12 rfl (fun x3 => ?_)
    refine j_iload_n (q := 1) (np := 16) rfl rfl dX9_formulaSize_15 rfl ?_
    refine j_callVr (ci := 1) (np := 19) (bc := bc) (bs := bs) (cb := 0) (cs := 0) (dd := d - 1) (As := [.int v1]) (st := []) caX1_at mlX9_129 imX1_at seX1_at rfl rfl (by decide) (fun b hb => wX1_at (by omega) hb) (by omega) rfl rfl (Nat.le_of_ble_eq_true rfl) dX9_formulaSize_16 rfl (fun b4 => ?_)
    refine j_callVi (ci := 0) (np := 22) (bc := bc) (bs := bs) (cb := 0) (cs := 0) (dd := d - 1) (As := []) (st := []) caX0_size mlX9_133 imX0_size seX0_size rfl rfl (by decide) (fun b hb => wX0_size (by omega) hb) (by omega) rfl rfl (Nat.le_of_ble_eq_true rfl) dX9_formulaSize_19 rfl (fun b5 => ?_)
    refine j_goto (tgt := 26) dX9_formulaSize_22 rfl ?_
    exact j_iret rfl dX9_formulaSize_26 (fun rr h => h)
set_option maxRecDepth 100000 in
theorem wX9_formulaSize {E : qE} {N d : Nat} (hd : 1 ≤ d) {v0 : Nat} {v1 : Int32} {m0 : qM} {b : Int32 × qM} (h : fX9_formulaSize N v0 v1 m0 = some b) : qRun E yX9_formulaSize cX9_formulaSize 2 (some .int) d 0 0 [.ref (E.2.1 + v0), .int v1] m0 (some (.int b.1), b.2) := q_met pnX9 (Nat.le_of_ble_eq_true rfl) (bX9_formulaSize hd b _ h rfl)
theorem dX9_variableCount_0 : decode cX9_variableCount 0 = .ok (.aload_n 0, 1) := by decide +kernel
theorem dX9_variableCount_1 : decode cX9_variableCount 1 = .ok (.getfield 22, 3) := by decide +kernel
theorem dX9_variableCount_4 : decode cX9_variableCount 4 = .ok (.iload_n 1, 1) := by decide +kernel
theorem dX9_variableCount_5 : decode cX9_variableCount 5 = .ok (.invokevirtual 106, 3) := by decide +kernel
theorem dX9_variableCount_8 : decode cX9_variableCount 8 = .ok (.ifCond .eq 17, 3) := by decide +kernel
theorem dX9_variableCount_11 : decode cX9_variableCount 11 = .ok (.aload_n 0, 1) := by decide +kernel
theorem dX9_variableCount_12 : decode cX9_variableCount 12 = .ok (.getfield 22, 3) := by decide +kernel
theorem dX9_variableCount_15 : decode cX9_variableCount 15 = .ok (.iload_n 1, 1) := by decide +kernel
theorem dX9_variableCount_16 : decode cX9_variableCount 16 = .ok (.invokevirtual 129, 3) := by decide +kernel
theorem dX9_variableCount_19 : decode cX9_variableCount 19 = .ok (.invokevirtual 136, 3) := by decide +kernel
theorem dX9_variableCount_22 : decode cX9_variableCount 22 = .ok (.goto 4, 3) := by decide +kernel
theorem dX9_variableCount_25 : decode cX9_variableCount 25 = .ok (.iconst (-1), 1) := by decide +kernel
theorem dX9_variableCount_26 : decode cX9_variableCount 26 = .ok (.ireturn, 1) := by decide +kernel
def fX9_variableCount (N : Nat) (v0 : Nat) (v1 : Int32) (m0 : qM) : Option (Int32 × qM) :=
  (qgR m0 v0 9 2).bind fun x1 =>
  (qChk m0 x1 1 (fX1_has N x1 v1 m0)).bind fun b2 =>
  if b2.1 = 0 then (
  some ((-1 : Int32), b2.2)
  ) else (
  (qgR b2.2 v0 9 2).bind fun x3 =>
  (qChk b2.2 x3 1 (fX1_at N x3 v1 b2.2)).bind fun b4 =>
  (qChk b4.2 b4.1 0 (fX0_variables N b4.1 b4.2)).bind fun b5 =>
  some (b5.1, b5.2)
  )
set_option maxRecDepth 100000 in
theorem bX9_variableCount {E : qE} {N d bc bs : Nat} (hd : 1 ≤ d) {v0 : Nat} {v1 : Int32} {m0 : qM} : qB E yX9_variableCount cX9_variableCount 2 (some .int) (fun _ => True) d bc bs 0 [(0, .ref (E.2.1 + v0)), (1, .int v1)] [] m0 (fX9_variableCount N v0 v1 m0) (fun b rr => rr = (some (.int b.1), b.2)) := by
  unfold fX9_variableCount
  refine j_aload_n (q := 0) (np := 1) rfl rfl dX9_variableCount_0 rfl ?_
  refine j_gR (np := 4) flX9_22 dX9_variableCount_1 rfl (fun x1 => ?_)
  refine j_iload_n (q := 1) (np := 5) rfl rfl dX9_variableCount_4 rfl ?_
  refine j_callVi (ci := 1) (np := 8) (bc := bc) (bs := bs) (cb := 0) (cs := 0) (dd := d - 1) (As := [.int v1]) (st := []) caX1_has mlX9_106 imX1_has seX1_has rfl rfl (by decide) (fun b hb => wX1_has (by omega) hb) (by omega) rfl rfl (Nat.le_of_ble_eq_true rfl) dX9_variableCount_5 rfl (fun b2 => ?_)
  refine j_if_eq (tgt := 25) (np := 11) dX9_variableCount_8 rfl rfl ?_ ?_
  · refine j_iconst (np := 26) ci_m1 dX9_variableCount_25 rfl ?_
    exact j_iret rfl dX9_variableCount_26 (fun rr h => h)
  · refine j_aload_n (q := 0) (np := 12) rfl rfl dX9_variableCount_11 rfl ?_
    refine j_gR (np := 15) flX9_22 dX9_variableCount_12 rfl (fun x3 => ?_)
    refine j_iload_n (q := 1) (np := 16) rfl rfl dX9_variableCount_15 rfl ?_
    refine j_callVr (ci := 1) (np := 19) (bc := bc) (bs := bs) (cb := 0) (cs := 0) (dd := d - 1) (As := [.int v1]) (st := []) caX1_at mlX9_129 imX1_at seX1_at rfl rfl (by decide) (fun b hb => wX1_at (by omega) hb) (by omega) rfl rfl (Nat.le_of_ble_eq_true rfl) dX9_variableCount_16 rfl (fun b4 => ?_)
    refine j_callVi (ci := 0) (np := 22) (bc := bc) (bs := bs) (cb := 0) (cs := 0) (dd := d - 1) (As := []) (st := []) caX0_variables mlX9_136 imX0_variables seX0_variables rfl rfl (by decide) (fun b hb => wX0_variables (by omega) hb) (by omega) rfl rfl (Nat.le_of_ble_eq_true rfl) dX9_variableCount_19 rfl (fun b5 => ?_)
    refine j_goto (tgt := 26) dX9_variableCount_22 rfl ?_
    exact j_iret rfl dX9_variableCount_26 (fun rr h => h)
set_option maxRecDepth 100000 in
theorem wX9_variableCount {E : qE} {N d : Nat} (hd : 1 ≤ d) {v0 : Nat} {v1 : Int32} {m0 : qM} {b : Int32 × qM} (h : fX9_variableCount N v0 v1 m0 = some b) : qRun E yX9_variableCount cX9_variableCount 2 (some .int) d 0 0 [.ref (E.2.1 + v0), .int v1] m0 (some (.int b.1), b.2) := q_met pnX9 (Nat.le_of_ble_eq_true rfl) (bX9_variableCount hd b _ h rfl)
theorem dX9_majorOf_0 : decode cX9_majorOf 0 = .ok (.aload_n 0, 1) := by decide +kernel
theorem dX9_majorOf_1 : decode cX9_majorOf 1 = .ok (.getfield 22, 3) := by decide +kernel
theorem dX9_majorOf_4 : decode cX9_majorOf 4 = .ok (.iload_n 1, 1) := by decide +kernel
theorem dX9_majorOf_5 : decode cX9_majorOf 5 = .ok (.invokevirtual 106, 3) := by decide +kernel
theorem dX9_majorOf_8 : decode cX9_majorOf 8 = .ok (.ifCond .eq 14, 3) := by decide +kernel
theorem dX9_majorOf_11 : decode cX9_majorOf 11 = .ok (.aload_n 0, 1) := by decide +kernel
theorem dX9_majorOf_12 : decode cX9_majorOf 12 = .ok (.getfield 22, 3) := by decide +kernel
theorem dX9_majorOf_15 : decode cX9_majorOf 15 = .ok (.iload_n 1, 1) := by decide +kernel
theorem dX9_majorOf_16 : decode cX9_majorOf 16 = .ok (.invokevirtual 139, 3) := by decide +kernel
theorem dX9_majorOf_19 : decode cX9_majorOf 19 = .ok (.goto 4, 3) := by decide +kernel
theorem dX9_majorOf_22 : decode cX9_majorOf 22 = .ok (.iconst (-1), 1) := by decide +kernel
theorem dX9_majorOf_23 : decode cX9_majorOf 23 = .ok (.ireturn, 1) := by decide +kernel
def fX9_majorOf (N : Nat) (v0 : Nat) (v1 : Int32) (m0 : qM) : Option (Int32 × qM) :=
  (qgR m0 v0 9 2).bind fun x1 =>
  (qChk m0 x1 1 (fX1_has N x1 v1 m0)).bind fun b2 =>
  if b2.1 = 0 then (
  some ((-1 : Int32), b2.2)
  ) else (
  (qgR b2.2 v0 9 2).bind fun x3 =>
  (qChk b2.2 x3 1 (fX1_major N x3 v1 b2.2)).bind fun b4 =>
  some (b4.1, b4.2)
  )
set_option maxRecDepth 100000 in
theorem bX9_majorOf {E : qE} {N d bc bs : Nat} (hd : 1 ≤ d) {v0 : Nat} {v1 : Int32} {m0 : qM} : qB E yX9_majorOf cX9_majorOf 2 (some .int) (fun _ => True) d bc bs 0 [(0, .ref (E.2.1 + v0)), (1, .int v1)] [] m0 (fX9_majorOf N v0 v1 m0) (fun b rr => rr = (some (.int b.1), b.2)) := by
  unfold fX9_majorOf
  refine j_aload_n (q := 0) (np := 1) rfl rfl dX9_majorOf_0 rfl ?_
  refine j_gR (np := 4) flX9_22 dX9_majorOf_1 rfl (fun x1 => ?_)
  refine j_iload_n (q := 1) (np := 5) rfl rfl dX9_majorOf_4 rfl ?_
  refine j_callVi (ci := 1) (np := 8) (bc := bc) (bs := bs) (cb := 0) (cs := 0) (dd := d - 1) (As := [.int v1]) (st := []) caX1_has mlX9_106 imX1_has seX1_has rfl rfl (by decide) (fun b hb => wX1_has (by omega) hb) (by omega) rfl rfl (Nat.le_of_ble_eq_true rfl) dX9_majorOf_5 rfl (fun b2 => ?_)
  refine j_if_eq (tgt := 22) (np := 11) dX9_majorOf_8 rfl rfl ?_ ?_
  · refine j_iconst (np := 23) ci_m1 dX9_majorOf_22 rfl ?_
    exact j_iret rfl dX9_majorOf_23 (fun rr h => h)
  · refine j_aload_n (q := 0) (np := 12) rfl rfl dX9_majorOf_11 rfl ?_
    refine j_gR (np := 15) flX9_22 dX9_majorOf_12 rfl (fun x3 => ?_)
    refine j_iload_n (q := 1) (np := 16) rfl rfl dX9_majorOf_15 rfl ?_
    refine j_callVi (ci := 1) (np := 19) (bc := bc) (bs := bs) (cb := 0) (cs := 0) (dd := d - 1) (As := [.int v1]) (st := []) caX1_major mlX9_139 imX1_major seX1_major rfl rfl (by decide) (fun b hb => wX1_major (by omega) hb) (by omega) rfl rfl (Nat.le_of_ble_eq_true rfl) dX9_majorOf_16 rfl (fun b4 => ?_)
    refine j_goto (tgt := 23) dX9_majorOf_19 rfl ?_
    exact j_iret rfl dX9_majorOf_23 (fun rr h => h)
set_option maxRecDepth 100000 in
theorem wX9_majorOf {E : qE} {N d : Nat} (hd : 1 ≤ d) {v0 : Nat} {v1 : Int32} {m0 : qM} {b : Int32 × qM} (h : fX9_majorOf N v0 v1 m0 = some b) : qRun E yX9_majorOf cX9_majorOf 2 (some .int) d 0 0 [.ref (E.2.1 + v0), .int v1] m0 (some (.int b.1), b.2) := q_met pnX9 (Nat.le_of_ble_eq_true rfl) (bX9_majorOf hd b _ h rfl)
theorem dX9_minorOf_0 : decode cX9_minorOf 0 = .ok (.aload_n 0, 1) := by decide +kernel
theorem dX9_minorOf_1 : decode cX9_minorOf 1 = .ok (.getfield 22, 3) := by decide +kernel
theorem dX9_minorOf_4 : decode cX9_minorOf 4 = .ok (.iload_n 1, 1) := by decide +kernel
theorem dX9_minorOf_5 : decode cX9_minorOf 5 = .ok (.invokevirtual 106, 3) := by decide +kernel
theorem dX9_minorOf_8 : decode cX9_minorOf 8 = .ok (.ifCond .eq 14, 3) := by decide +kernel
theorem dX9_minorOf_11 : decode cX9_minorOf 11 = .ok (.aload_n 0, 1) := by decide +kernel
theorem dX9_minorOf_12 : decode cX9_minorOf 12 = .ok (.getfield 22, 3) := by decide +kernel
theorem dX9_minorOf_15 : decode cX9_minorOf 15 = .ok (.iload_n 1, 1) := by decide +kernel
theorem dX9_minorOf_16 : decode cX9_minorOf 16 = .ok (.invokevirtual 143, 3) := by decide +kernel
theorem dX9_minorOf_19 : decode cX9_minorOf 19 = .ok (.goto 4, 3) := by decide +kernel
theorem dX9_minorOf_22 : decode cX9_minorOf 22 = .ok (.iconst (-1), 1) := by decide +kernel
theorem dX9_minorOf_23 : decode cX9_minorOf 23 = .ok (.ireturn, 1) := by decide +kernel
def fX9_minorOf (N : Nat) (v0 : Nat) (v1 : Int32) (m0 : qM) : Option (Int32 × qM) :=
  (qgR m0 v0 9 2).bind fun x1 =>
  (qChk m0 x1 1 (fX1_has N x1 v1 m0)).bind fun b2 =>
  if b2.1 = 0 then (
  some ((-1 : Int32), b2.2)
  ) else (
  (qgR b2.2 v0 9 2).bind fun x3 =>
  (qChk b2.2 x3 1 (fX1_minor N x3 v1 b2.2)).bind fun b4 =>
  some (b4.1, b4.2)
  )
set_option maxRecDepth 100000 in
theorem bX9_minorOf {E : qE} {N d bc bs : Nat} (hd : 1 ≤ d) {v0 : Nat} {v1 : Int32} {m0 : qM} : qB E yX9_minorOf cX9_minorOf 2 (some .int) (fun _ => True) d bc bs 0 [(0, .ref (E.2.1 + v0)), (1, .int v1)] [] m0 (fX9_minorOf N v0 v1 m0) (fun b rr => rr = (some (.int b.1), b.2)) := by
  unfold fX9_minorOf
  refine j_aload_n (q := 0) (np := 1) rfl rfl dX9_minorOf_0 rfl ?_
  refine j_gR (np := 4) flX9_22 dX9_minorOf_1 rfl (fun x1 => ?_)
  refine j_iload_n (q := 1) (np := 5) rfl rfl dX9_minorOf_4 rfl ?_
  refine j_callVi (ci := 1) (np := 8) (bc := bc) (bs := bs) (cb := 0) (cs := 0) (dd := d - 1) (As := [.int v1]) (st := []) caX1_has mlX9_106 imX1_has seX1_has rfl rfl (by decide) (fun b hb => wX1_has (by omega) hb) (by omega) rfl rfl (Nat.le_of_ble_eq_true rfl) dX9_minorOf_5 rfl (fun b2 => ?_)
  refine j_if_eq (tgt := 22) (np := 11) dX9_minorOf_8 rfl rfl ?_ ?_
  · refine j_iconst (np := 23) ci_m1 dX9_minorOf_22 rfl ?_
    exact j_iret rfl dX9_minorOf_23 (fun rr h => h)
  · refine j_aload_n (q := 0) (np := 12) rfl rfl dX9_minorOf_11 rfl ?_
    refine j_gR (np := 15) flX9_22 dX9_minorOf_12 rfl (fun x3 => ?_)
    refine j_iload_n (q := 1) (np := 16) rfl rfl dX9_minorOf_15 rfl ?_
    refine j_callVi (ci := 1) (np := 19) (bc := bc) (bs := bs) (cb := 0) (cs := 0) (dd := d - 1) (As := [.int v1]) (st := []) caX1_minor mlX9_143 imX1_minor seX1_minor rfl rfl (by decide) (fun b hb => wX1_minor (by omega) hb) (by omega) rfl rfl (Nat.le_of_ble_eq_true rfl) dX9_minorOf_16 rfl (fun b4 => ?_)
    refine j_goto (tgt := 23) dX9_minorOf_19 rfl ?_
    exact j_iret rfl dX9_minorOf_23 (fun rr h => h)
set_option maxRecDepth 100000 in
theorem wX9_minorOf {E : qE} {N d : Nat} (hd : 1 ≤ d) {v0 : Nat} {v1 : Int32} {m0 : qM} {b : Int32 × qM} (h : fX9_minorOf N v0 v1 m0 = some b) : qRun E yX9_minorOf cX9_minorOf 2 (some .int) d 0 0 [.ref (E.2.1 + v0), .int v1] m0 (some (.int b.1), b.2) := q_met pnX9 (Nat.le_of_ble_eq_true rfl) (bX9_minorOf hd b _ h rfl)
theorem dX9_proofDepth_0 : decode cX9_proofDepth 0 = .ok (.aload_n 0, 1) := by decide +kernel
theorem dX9_proofDepth_1 : decode cX9_proofDepth 1 = .ok (.getfield 22, 3) := by decide +kernel
theorem dX9_proofDepth_4 : decode cX9_proofDepth 4 = .ok (.iload_n 1, 1) := by decide +kernel
theorem dX9_proofDepth_5 : decode cX9_proofDepth 5 = .ok (.invokevirtual 106, 3) := by decide +kernel
theorem dX9_proofDepth_8 : decode cX9_proofDepth 8 = .ok (.ifCond .eq 14, 3) := by decide +kernel
theorem dX9_proofDepth_11 : decode cX9_proofDepth 11 = .ok (.aload_n 0, 1) := by decide +kernel
theorem dX9_proofDepth_12 : decode cX9_proofDepth 12 = .ok (.getfield 22, 3) := by decide +kernel
theorem dX9_proofDepth_15 : decode cX9_proofDepth 15 = .ok (.iload_n 1, 1) := by decide +kernel
theorem dX9_proofDepth_16 : decode cX9_proofDepth 16 = .ok (.invokevirtual 146, 3) := by decide +kernel
theorem dX9_proofDepth_19 : decode cX9_proofDepth 19 = .ok (.goto 4, 3) := by decide +kernel
theorem dX9_proofDepth_22 : decode cX9_proofDepth 22 = .ok (.iconst (-1), 1) := by decide +kernel
theorem dX9_proofDepth_23 : decode cX9_proofDepth 23 = .ok (.ireturn, 1) := by decide +kernel
def fX9_proofDepth (N : Nat) (v0 : Nat) (v1 : Int32) (m0 : qM) : Option (Int32 × qM) :=
  (qgR m0 v0 9 2).bind fun x1 =>
  (qChk m0 x1 1 (fX1_has N x1 v1 m0)).bind fun b2 =>
  if b2.1 = 0 then (
  some ((-1 : Int32), b2.2)
  ) else (
  (qgR b2.2 v0 9 2).bind fun x3 =>
  (qChk b2.2 x3 1 (fX1_depth N x3 v1 b2.2)).bind fun b4 =>
  some (b4.1, b4.2)
  )
set_option maxRecDepth 100000 in
theorem bX9_proofDepth {E : qE} {N d bc bs : Nat} (hd : 1 ≤ d) {v0 : Nat} {v1 : Int32} {m0 : qM} : qB E yX9_proofDepth cX9_proofDepth 2 (some .int) (fun _ => True) d bc bs 0 [(0, .ref (E.2.1 + v0)), (1, .int v1)] [] m0 (fX9_proofDepth N v0 v1 m0) (fun b rr => rr = (some (.int b.1), b.2)) := by
  unfold fX9_proofDepth
  refine j_aload_n (q := 0) (np := 1) rfl rfl dX9_proofDepth_0 rfl ?_
  refine j_gR (np := 4) flX9_22 dX9_proofDepth_1 rfl (fun x1 => ?_)
  refine j_iload_n (q := 1) (np := 5) rfl rfl dX9_proofDepth_4 rfl ?_
  refine j_callVi (ci := 1) (np := 8) (bc := bc) (bs := bs) (cb := 0) (cs := 0) (dd := d - 1) (As := [.int v1]) (st := []) caX1_has mlX9_106 imX1_has seX1_has rfl rfl (by decide) (fun b hb => wX1_has (by omega) hb) (by omega) rfl rfl (Nat.le_of_ble_eq_true rfl) dX9_proofDepth_5 rfl (fun b2 => ?_)
  refine j_if_eq (tgt := 22) (np := 11) dX9_proofDepth_8 rfl rfl ?_ ?_
  · refine j_iconst (np := 23) ci_m1 dX9_proofDepth_22 rfl ?_
    exact j_iret rfl dX9_proofDepth_23 (fun rr h => h)
  · refine j_aload_n (q := 0) (np := 12) rfl rfl dX9_proofDepth_11 rfl ?_
    refine j_gR (np := 15) flX9_22 dX9_proofDepth_12 rfl (fun x3 => ?_)
    refine j_iload_n (q := 1) (np := 16) rfl rfl dX9_proofDepth_15 rfl ?_
    refine j_callVi (ci := 1) (np := 19) (bc := bc) (bs := bs) (cb := 0) (cs := 0) (dd := d - 1) (As := [.int v1]) (st := []) caX1_depth mlX9_146 imX1_depth seX1_depth rfl rfl (by decide) (fun b hb => wX1_depth (by omega) hb) (by omega) rfl rfl (Nat.le_of_ble_eq_true rfl) dX9_proofDepth_16 rfl (fun b4 => ?_)
    refine j_goto (tgt := 23) dX9_proofDepth_19 rfl ?_
    exact j_iret rfl dX9_proofDepth_23 (fun rr h => h)
set_option maxRecDepth 100000 in
theorem wX9_proofDepth {E : qE} {N d : Nat} (hd : 1 ≤ d) {v0 : Nat} {v1 : Int32} {m0 : qM} {b : Int32 × qM} (h : fX9_proofDepth N v0 v1 m0 = some b) : qRun E yX9_proofDepth cX9_proofDepth 2 (some .int) d 0 0 [.ref (E.2.1 + v0), .int v1] m0 (some (.int b.1), b.2) := q_met pnX9 (Nat.le_of_ble_eq_true rfl) (bX9_proofDepth hd b _ h rfl)
theorem dX9_proofSize_0 : decode cX9_proofSize 0 = .ok (.aload_n 0, 1) := by decide +kernel
theorem dX9_proofSize_1 : decode cX9_proofSize 1 = .ok (.getfield 22, 3) := by decide +kernel
theorem dX9_proofSize_4 : decode cX9_proofSize 4 = .ok (.iload_n 1, 1) := by decide +kernel
theorem dX9_proofSize_5 : decode cX9_proofSize 5 = .ok (.invokevirtual 106, 3) := by decide +kernel
theorem dX9_proofSize_8 : decode cX9_proofSize 8 = .ok (.ifCond .eq 14, 3) := by decide +kernel
theorem dX9_proofSize_11 : decode cX9_proofSize 11 = .ok (.aload_n 0, 1) := by decide +kernel
theorem dX9_proofSize_12 : decode cX9_proofSize 12 = .ok (.getfield 22, 3) := by decide +kernel
theorem dX9_proofSize_15 : decode cX9_proofSize 15 = .ok (.iload_n 1, 1) := by decide +kernel
theorem dX9_proofSize_16 : decode cX9_proofSize 16 = .ok (.invokevirtual 149, 3) := by decide +kernel
theorem dX9_proofSize_19 : decode cX9_proofSize 19 = .ok (.goto 6, 3) := by decide +kernel
theorem dX9_proofSize_22 : decode cX9_proofSize 22 = .ok (.ldc2_w 153, 3) := by decide +kernel
theorem dX9_proofSize_25 : decode cX9_proofSize 25 = .ok (.lreturn, 1) := by decide +kernel
def fX9_proofSize (N : Nat) (v0 : Nat) (v1 : Int32) (m0 : qM) : Option (Int64 × qM) :=
  (qgR m0 v0 9 2).bind fun x1 =>
  (qChk m0 x1 1 (fX1_has N x1 v1 m0)).bind fun b2 =>
  if b2.1 = 0 then (
  some ((-1 : Int64), b2.2)
  ) else (
  (qgR b2.2 v0 9 2).bind fun x3 =>
  (qChk b2.2 x3 1 (fX1_proofSigns N x3 v1 b2.2)).bind fun b4 =>
  some (b4.1, b4.2)
  )
set_option maxRecDepth 100000 in
theorem bX9_proofSize {E : qE} {N d bc bs : Nat} (hd : 1 ≤ d) {v0 : Nat} {v1 : Int32} {m0 : qM} : qB E yX9_proofSize cX9_proofSize 2 (some .long) (fun _ => True) d bc bs 0 [(0, .ref (E.2.1 + v0)), (1, .int v1)] [] m0 (fX9_proofSize N v0 v1 m0) (fun b rr => rr = (some (.long b.1), b.2)) := by
  unfold fX9_proofSize
  refine j_aload_n (q := 0) (np := 1) rfl rfl dX9_proofSize_0 rfl ?_
  refine j_gR (np := 4) flX9_22 dX9_proofSize_1 rfl (fun x1 => ?_)
  refine j_iload_n (q := 1) (np := 5) rfl rfl dX9_proofSize_4 rfl ?_
  refine j_callVi (ci := 1) (np := 8) (bc := bc) (bs := bs) (cb := 0) (cs := 0) (dd := d - 1) (As := [.int v1]) (st := []) caX1_has mlX9_106 imX1_has seX1_has rfl rfl (by decide) (fun b hb => wX1_has (by omega) hb) (by omega) rfl rfl (Nat.le_of_ble_eq_true rfl) dX9_proofSize_5 rfl (fun b2 => ?_)
  refine j_if_eq (tgt := 22) (np := 11) dX9_proofSize_8 rfl rfl ?_ ?_
  · refine j_ldc2 (np := 25) lgX9_153 dX9_proofSize_22 rfl ?_
    exact j_lret rfl dX9_proofSize_25 (fun rr h => h)
  · refine j_aload_n (q := 0) (np := 12) rfl rfl dX9_proofSize_11 rfl ?_
    refine j_gR (np := 15) flX9_22 dX9_proofSize_12 rfl (fun x3 => ?_)
    refine j_iload_n (q := 1) (np := 16) rfl rfl dX9_proofSize_15 rfl ?_
    refine j_callVl (ci := 1) (np := 19) (bc := bc) (bs := bs) (cb := 0) (cs := 0) (dd := d - 1) (As := [.int v1]) (st := []) caX1_proofSigns mlX9_149 imX1_proofSigns seX1_proofSigns rfl rfl (by decide) (fun b hb => wX1_proofSigns (by omega) hb) (by omega) rfl rfl (Nat.le_of_ble_eq_true rfl) dX9_proofSize_16 rfl (fun b4 => ?_)
    refine j_goto (tgt := 25) dX9_proofSize_19 rfl ?_
    exact j_lret rfl dX9_proofSize_25 (fun rr h => h)
set_option maxRecDepth 100000 in
theorem wX9_proofSize {E : qE} {N d : Nat} (hd : 1 ≤ d) {v0 : Nat} {v1 : Int32} {m0 : qM} {b : Int64 × qM} (h : fX9_proofSize N v0 v1 m0 = some b) : qRun E yX9_proofSize cX9_proofSize 2 (some .long) d 0 0 [.ref (E.2.1 + v0), .int v1] m0 (some (.long b.1), b.2) := q_met pnX9 (Nat.le_of_ble_eq_true rfl) (bX9_proofSize hd b _ h rfl)
theorem dX9_outputFormula_0 : decode cX9_outputFormula 0 = .ok (.aload_n 0, 1) := by decide +kernel
theorem dX9_outputFormula_1 : decode cX9_outputFormula 1 = .ok (.getfield 16, 3) := by decide +kernel
theorem dX9_outputFormula_4 : decode cX9_outputFormula 4 = .ok (.invokevirtual 96, 3) := by decide +kernel
theorem dX9_outputFormula_7 : decode cX9_outputFormula 7 = .ok (.aload_n 1, 1) := by decide +kernel
theorem dX9_outputFormula_8 : decode cX9_outputFormula 8 = .ok (.aload_n 0, 1) := by decide +kernel
theorem dX9_outputFormula_9 : decode cX9_outputFormula 9 = .ok (.getfield 16, 3) := by decide +kernel
theorem dX9_outputFormula_12 : decode cX9_outputFormula 12 = .ok (.invokevirtual 273, 3) := by decide +kernel
theorem dX9_outputFormula_15 : decode cX9_outputFormula 15 = .ok (.aload_n 0, 1) := by decide +kernel
theorem dX9_outputFormula_16 : decode cX9_outputFormula 16 = .ok (.getfield 16, 3) := by decide +kernel
theorem dX9_outputFormula_19 : decode cX9_outputFormula 19 = .ok (.invokevirtual 88, 3) := by decide +kernel
theorem dX9_outputFormula_22 : decode cX9_outputFormula 22 = .ok (.ireturn, 1) := by decide +kernel
def fX9_outputFormula (N : Nat) (v0 : Nat) (v1 : Nat) (m0 : qM) : Option (Int32 × qM) :=
  (qgR m0 v0 9 1).bind fun x1 =>
  (qChk m0 x1 7 (fX7_makeEmpty N x1 m0)).bind fun b2 =>
  (qgR b2 v0 9 1).bind fun x3 =>
  (qChk b2 v1 0 (fX0_writeTo N v1 x3 b2)).bind fun b4 =>
  (qgR b4 v0 9 1).bind fun x5 =>
  (qChk b4 x5 7 (fX7_length N x5 b4)).bind fun b6 =>
  some (b6.1, b6.2)
set_option maxRecDepth 100000 in
theorem bX9_outputFormula {E : qE} {N d bc bs : Nat} (hd : 2 ≤ d) {v0 : Nat} {v1 : Nat} {m0 : qM} : qB E yX9_outputFormula cX9_outputFormula 2 (some .int) (fun _ => True) d bc bs 0 [(0, .ref (E.2.1 + v0)), (1, .ref (E.2.1 + v1))] [] m0 (fX9_outputFormula N v0 v1 m0) (fun b rr => rr = (some (.int b.1), b.2)) := by
  unfold fX9_outputFormula
  refine j_aload_n (q := 0) (np := 1) rfl rfl dX9_outputFormula_0 rfl ?_
  refine j_gR (np := 4) flX9_16 dX9_outputFormula_1 rfl (fun x1 => ?_)
  refine j_callVv (ci := 7) (np := 7) (bc := bc) (bs := bs) (cb := 0) (cs := 0) (dd := d - 1) (As := []) (st := []) caX7_makeEmpty mlX9_96 imX7_makeEmpty seX7_makeEmpty rfl rfl (by decide) (fun b hb => wX7_makeEmpty (by omega) hb) (by omega) rfl rfl (Nat.le_of_ble_eq_true rfl) dX9_outputFormula_4 rfl (fun b2 => ?_)
  refine j_aload_n (q := 1) (np := 8) rfl rfl dX9_outputFormula_7 rfl ?_
  refine j_aload_n (q := 0) (np := 9) rfl rfl dX9_outputFormula_8 rfl ?_
  refine j_gR (np := 12) flX9_16 dX9_outputFormula_9 rfl (fun x3 => ?_)
  refine j_callVv (ci := 0) (np := 15) (bc := bc) (bs := bs) (cb := 0) (cs := 0) (dd := d - 1) (As := [.ref (E.2.1 + x3)]) (st := []) caX0_writeTo mlX9_273 imX0_writeTo seX0_writeTo rfl rfl (by decide) (fun b hb => wX0_writeTo (by omega) hb) (by omega) rfl rfl (Nat.le_of_ble_eq_true rfl) dX9_outputFormula_12 rfl (fun b4 => ?_)
  refine j_aload_n (q := 0) (np := 16) rfl rfl dX9_outputFormula_15 rfl ?_
  refine j_gR (np := 19) flX9_16 dX9_outputFormula_16 rfl (fun x5 => ?_)
  refine j_callVi (ci := 7) (np := 22) (bc := bc) (bs := bs) (cb := 0) (cs := 0) (dd := d - 1) (As := []) (st := []) caX7_length mlX9_88 imX7_length seX7_length rfl rfl (by decide) (fun b hb => wX7_length (by omega) hb) (by omega) rfl rfl (Nat.le_of_ble_eq_true rfl) dX9_outputFormula_19 rfl (fun b6 => ?_)
  exact j_iret rfl dX9_outputFormula_22 (fun rr h => h)
set_option maxRecDepth 100000 in
theorem wX9_outputFormula {E : qE} {N d : Nat} (hd : 2 ≤ d) {v0 : Nat} {v1 : Nat} {m0 : qM} {b : Int32 × qM} (h : fX9_outputFormula N v0 v1 m0 = some b) : qRun E yX9_outputFormula cX9_outputFormula 2 (some .int) d 0 0 [.ref (E.2.1 + v0), .ref (E.2.1 + v1)] m0 (some (.int b.1), b.2) := q_met pnX9 (Nat.le_of_ble_eq_true rfl) (bX9_outputFormula hd b _ h rfl)
theorem dX9_writeFormula_0 : decode cX9_writeFormula 0 = .ok (.aload_n 0, 1) := by decide +kernel
theorem dX9_writeFormula_1 : decode cX9_writeFormula 1 = .ok (.getfield 22, 3) := by decide +kernel
theorem dX9_writeFormula_4 : decode cX9_writeFormula 4 = .ok (.iload_n 1, 1) := by decide +kernel
theorem dX9_writeFormula_5 : decode cX9_writeFormula 5 = .ok (.invokevirtual 106, 3) := by decide +kernel
theorem dX9_writeFormula_8 : decode cX9_writeFormula 8 = .ok (.ifCond .ne 5, 3) := by decide +kernel
theorem dX9_writeFormula_11 : decode cX9_writeFormula 11 = .ok (.iconst (-1), 1) := by decide +kernel
theorem dX9_writeFormula_12 : decode cX9_writeFormula 12 = .ok (.ireturn, 1) := by decide +kernel
theorem dX9_writeFormula_13 : decode cX9_writeFormula 13 = .ok (.aload_n 0, 1) := by decide +kernel
theorem dX9_writeFormula_14 : decode cX9_writeFormula 14 = .ok (.aload_n 0, 1) := by decide +kernel
theorem dX9_writeFormula_15 : decode cX9_writeFormula 15 = .ok (.getfield 22, 3) := by decide +kernel
theorem dX9_writeFormula_18 : decode cX9_writeFormula 18 = .ok (.iload_n 1, 1) := by decide +kernel
theorem dX9_writeFormula_19 : decode cX9_writeFormula 19 = .ok (.invokevirtual 129, 3) := by decide +kernel
theorem dX9_writeFormula_22 : decode cX9_writeFormula 22 = .ok (.invokevirtual 155, 3) := by decide +kernel
theorem dX9_writeFormula_25 : decode cX9_writeFormula 25 = .ok (.ireturn, 1) := by decide +kernel
def fX9_writeFormula (N : Nat) (v0 : Nat) (v1 : Int32) (m0 : qM) : Option (Int32 × qM) :=
  (qgR m0 v0 9 2).bind fun x1 =>
  (qChk m0 x1 1 (fX1_has N x1 v1 m0)).bind fun b2 =>
  if b2.1 = 0 then (
  some ((-1 : Int32), b2.2)
  ) else (
  (qgR b2.2 v0 9 2).bind fun x3 =>
  (qChk b2.2 x3 1 (fX1_at N x3 v1 b2.2)).bind fun b4 =>
  (qChk b4.2 v0 9 (fX9_outputFormula N v0 b4.1 b4.2)).bind fun b5 =>
  some (b5.1, b5.2)
  )
set_option maxRecDepth 100000 in
theorem bX9_writeFormula {E : qE} {N d bc bs : Nat} (hd : 3 ≤ d) {v0 : Nat} {v1 : Int32} {m0 : qM} : qB E yX9_writeFormula cX9_writeFormula 2 (some .int) (fun _ => True) d bc bs 0 [(0, .ref (E.2.1 + v0)), (1, .int v1)] [] m0 (fX9_writeFormula N v0 v1 m0) (fun b rr => rr = (some (.int b.1), b.2)) := by
  unfold fX9_writeFormula
  refine j_aload_n (q := 0) (np := 1) rfl rfl dX9_writeFormula_0 rfl ?_
  refine j_gR (np := 4) flX9_22 dX9_writeFormula_1 rfl (fun x1 => ?_)
  refine j_iload_n (q := 1) (np := 5) rfl rfl dX9_writeFormula_4 rfl ?_
  refine j_callVi (ci := 1) (np := 8) (bc := bc) (bs := bs) (cb := 0) (cs := 0) (dd := d - 1) (As := [.int v1]) (st := []) caX1_has mlX9_106 imX1_has seX1_has rfl rfl (by decide) (fun b hb => wX1_has (by omega) hb) (by omega) rfl rfl (Nat.le_of_ble_eq_true rfl) dX9_writeFormula_5 rfl (fun b2 => ?_)
  refine j_if_ne (tgt := 13) (np := 11) dX9_writeFormula_8 rfl rfl ?_ ?_
  · refine j_aload_n (q := 0) (np := 14) rfl rfl dX9_writeFormula_13 rfl ?_
    refine j_aload_n (q := 0) (np := 15) rfl rfl dX9_writeFormula_14 rfl ?_
    refine j_gR (np := 18) flX9_22 dX9_writeFormula_15 rfl (fun x3 => ?_)
    refine j_iload_n (q := 1) (np := 19) rfl rfl dX9_writeFormula_18 rfl ?_
    refine j_callVr (ci := 1) (np := 22) (bc := bc) (bs := bs) (cb := 0) (cs := 0) (dd := d - 1) (As := [.int v1]) (st := [.ref (E.2.1 + v0)]) caX1_at mlX9_129 imX1_at seX1_at rfl rfl (by decide) (fun b hb => wX1_at (by omega) hb) (by omega) rfl rfl (Nat.le_of_ble_eq_true rfl) dX9_writeFormula_19 rfl (fun b4 => ?_)
    refine j_callVi (ci := 9) (np := 25) (bc := bc) (bs := bs) (cb := 0) (cs := 0) (dd := d - 1) (As := [.ref (E.2.1 + b4.1)]) (st := []) caX9_outputFormula mlX9_155 imX9_outputFormula seX9_outputFormula rfl rfl (by decide) (fun b hb => wX9_outputFormula (by omega) hb) (by omega) rfl rfl (Nat.le_of_ble_eq_true rfl) dX9_writeFormula_22 rfl (fun b5 => ?_)
    exact j_iret rfl dX9_writeFormula_25 (fun rr h => h)
  · refine j_iconst (np := 12) ci_m1 dX9_writeFormula_11 rfl ?_
    exact j_iret rfl dX9_writeFormula_12 (fun rr h => h)
set_option maxRecDepth 100000 in
theorem wX9_writeFormula {E : qE} {N d : Nat} (hd : 3 ≤ d) {v0 : Nat} {v1 : Int32} {m0 : qM} {b : Int32 × qM} (h : fX9_writeFormula N v0 v1 m0 = some b) : qRun E yX9_writeFormula cX9_writeFormula 2 (some .int) d 0 0 [.ref (E.2.1 + v0), .int v1] m0 (some (.int b.1), b.2) := q_met pnX9 (Nat.le_of_ble_eq_true rfl) (bX9_writeFormula hd b _ h rfl)
theorem dX9_outputProof_0 : decode cX9_outputProof 0 = .ok (.aload_n 0, 1) := by decide +kernel
theorem dX9_outputProof_1 : decode cX9_outputProof 1 = .ok (.getfield 16, 3) := by decide +kernel
theorem dX9_outputProof_4 : decode cX9_outputProof 4 = .ok (.invokevirtual 96, 3) := by decide +kernel
theorem dX9_outputProof_7 : decode cX9_outputProof 7 = .ok (.aload_n 0, 1) := by decide +kernel
theorem dX9_outputProof_8 : decode cX9_outputProof 8 = .ok (.getfield 85, 3) := by decide +kernel
theorem dX9_outputProof_11 : decode cX9_outputProof 11 = .ok (.iconst 0, 1) := by decide +kernel
theorem dX9_outputProof_12 : decode cX9_outputProof 12 = .ok (.iload_n 1, 1) := by decide +kernel
theorem dX9_outputProof_13 : decode cX9_outputProof 13 = .ok (.iastore, 1) := by decide +kernel
theorem dX9_outputProof_14 : decode cX9_outputProof 14 = .ok (.iconst 1, 1) := by decide +kernel
theorem dX9_outputProof_15 : decode cX9_outputProof 15 = .ok (.istore_n 2, 1) := by decide +kernel
theorem dX9_outputProof_16 : decode cX9_outputProof 16 = .ok (.iconst 0, 1) := by decide +kernel
theorem dX9_outputProof_17 : decode cX9_outputProof 17 = .ok (.istore_n 3, 1) := by decide +kernel
theorem dX9_outputProof_18 : decode cX9_outputProof 18 = .ok (.iload_n 3, 1) := by decide +kernel
theorem dX9_outputProof_19 : decode cX9_outputProof 19 = .ok (.bipush 120, 2) := by decide +kernel
theorem dX9_outputProof_21 : decode cX9_outputProof 21 = .ok (.if_icmp .ge 96, 3) := by decide +kernel
theorem dX9_outputProof_24 : decode cX9_outputProof 24 = .ok (.iload_n 2, 1) := by decide +kernel
theorem dX9_outputProof_25 : decode cX9_outputProof 25 = .ok (.ifCond .le 92, 3) := by decide +kernel
theorem dX9_outputProof_28 : decode cX9_outputProof 28 = .ok (.iinc 2 (-1), 3) := by decide +kernel
theorem dX9_outputProof_31 : decode cX9_outputProof 31 = .ok (.aload_n 0, 1) := by decide +kernel
theorem dX9_outputProof_32 : decode cX9_outputProof 32 = .ok (.getfield 85, 3) := by decide +kernel
theorem dX9_outputProof_35 : decode cX9_outputProof 35 = .ok (.iload_n 2, 1) := by decide +kernel
theorem dX9_outputProof_36 : decode cX9_outputProof 36 = .ok (.iaload, 1) := by decide +kernel
theorem dX9_outputProof_37 : decode cX9_outputProof 37 = .ok (.istore 4, 2) := by decide +kernel
theorem dX9_outputProof_39 : decode cX9_outputProof 39 = .ok (.aload_n 0, 1) := by decide +kernel
theorem dX9_outputProof_40 : decode cX9_outputProof 40 = .ok (.getfield 22, 3) := by decide +kernel
theorem dX9_outputProof_43 : decode cX9_outputProof 43 = .ok (.iload 4, 2) := by decide +kernel
theorem dX9_outputProof_45 : decode cX9_outputProof 45 = .ok (.invokevirtual 277, 3) := by decide +kernel
theorem dX9_outputProof_48 : decode cX9_outputProof 48 = .ok (.ifCond .eq 19, 3) := by decide +kernel
theorem dX9_outputProof_51 : decode cX9_outputProof 51 = .ok (.aload_n 0, 1) := by decide +kernel
theorem dX9_outputProof_52 : decode cX9_outputProof 52 = .ok (.getfield 16, 3) := by decide +kernel
theorem dX9_outputProof_55 : decode cX9_outputProof 55 = .ok (.bipush 49, 2) := by decide +kernel
theorem dX9_outputProof_57 : decode cX9_outputProof 57 = .ok (.iload 4, 2) := by decide +kernel
theorem dX9_outputProof_59 : decode cX9_outputProof 59 = .ok (.iadd, 1) := by decide +kernel
theorem dX9_outputProof_60 : decode cX9_outputProof 60 = .ok (.i2c, 1) := by decide +kernel
theorem dX9_outputProof_61 : decode cX9_outputProof 61 = .ok (.invokevirtual 92, 3) := by decide +kernel
theorem dX9_outputProof_64 : decode cX9_outputProof 64 = .ok (.goto 47, 3) := by decide +kernel
theorem dX9_outputProof_67 : decode cX9_outputProof 67 = .ok (.aload_n 0, 1) := by decide +kernel
theorem dX9_outputProof_68 : decode cX9_outputProof 68 = .ok (.getfield 16, 3) := by decide +kernel
theorem dX9_outputProof_71 : decode cX9_outputProof 71 = .ok (.bipush 68, 2) := by decide +kernel
theorem dX9_outputProof_73 : decode cX9_outputProof 73 = .ok (.invokevirtual 92, 3) := by decide +kernel
theorem dX9_outputProof_76 : decode cX9_outputProof 76 = .ok (.aload_n 0, 1) := by decide +kernel
theorem dX9_outputProof_77 : decode cX9_outputProof 77 = .ok (.getfield 85, 3) := by decide +kernel
theorem dX9_outputProof_80 : decode cX9_outputProof 80 = .ok (.iload_n 2, 1) := by decide +kernel
theorem dX9_outputProof_81 : decode cX9_outputProof 81 = .ok (.aload_n 0, 1) := by decide +kernel
theorem dX9_outputProof_82 : decode cX9_outputProof 82 = .ok (.getfield 22, 3) := by decide +kernel
theorem dX9_outputProof_85 : decode cX9_outputProof 85 = .ok (.iload 4, 2) := by decide +kernel
theorem dX9_outputProof_87 : decode cX9_outputProof 87 = .ok (.invokevirtual 143, 3) := by decide +kernel
theorem dX9_outputProof_90 : decode cX9_outputProof 90 = .ok (.iastore, 1) := by decide +kernel
theorem dX9_outputProof_91 : decode cX9_outputProof 91 = .ok (.aload_n 0, 1) := by decide +kernel
theorem dX9_outputProof_92 : decode cX9_outputProof 92 = .ok (.getfield 85, 3) := by decide +kernel
theorem dX9_outputProof_95 : decode cX9_outputProof 95 = .ok (.iload_n 2, 1) := by decide +kernel
theorem dX9_outputProof_96 : decode cX9_outputProof 96 = .ok (.iconst 1, 1) := by decide +kernel
theorem dX9_outputProof_97 : decode cX9_outputProof 97 = .ok (.iadd, 1) := by decide +kernel
theorem dX9_outputProof_98 : decode cX9_outputProof 98 = .ok (.aload_n 0, 1) := by decide +kernel
theorem dX9_outputProof_99 : decode cX9_outputProof 99 = .ok (.getfield 22, 3) := by decide +kernel
theorem dX9_outputProof_102 : decode cX9_outputProof 102 = .ok (.iload 4, 2) := by decide +kernel
theorem dX9_outputProof_104 : decode cX9_outputProof 104 = .ok (.invokevirtual 139, 3) := by decide +kernel
theorem dX9_outputProof_107 : decode cX9_outputProof 107 = .ok (.iastore, 1) := by decide +kernel
theorem dX9_outputProof_108 : decode cX9_outputProof 108 = .ok (.iinc 2 2, 3) := by decide +kernel
theorem dX9_outputProof_111 : decode cX9_outputProof 111 = .ok (.iinc 3 1, 3) := by decide +kernel
theorem dX9_outputProof_114 : decode cX9_outputProof 114 = .ok (.goto (-96), 3) := by decide +kernel
theorem dX9_outputProof_117 : decode cX9_outputProof 117 = .ok (.return_, 1) := by decide +kernel
def kX9_outputProof_111 (N : Nat) (rec : Int32 → Int32 → qM → Option (qM)) (v0 : Nat) (v2 : Int32) (v3 : Int32)  (m0 : qM) : Option (qM) :=
  rec v2 (v3 + (1 : Int32)) m0
set_option maxRecDepth 100000 in
theorem kbX9_outputProof_111 {E : qE} {N d bc bs : Nat} (hd : 1 ≤ d) {v0 : Nat} {v2 : Int32} {v3 : Int32}  {m0 : qM} {rec : Int32 → Int32 → qM → Option (qM)} (hrec : ∀ (v2 : Int32) (v3 : Int32) (m : qM), qB E yX9_outputProof cX9_outputProof 5 none (fun _ => True) d bc bs 18 [(0, .ref (E.2.1 + v0)), (2, .int v2), (3, .int v3)] [] m (rec v2 v3 m) (fun o rr => qJ E yX9_outputProof cX9_outputProof 5 none (fun _ => True) d bc bs 117 [] [] o rr)) : qB E yX9_outputProof cX9_outputProof 5 none (fun _ => True) d bc bs 111 [(0, .ref (E.2.1 + v0)), (2, .int v2), (3, .int v3)] [] m0 (kX9_outputProof_111 N rec v0 v2 v3 m0) (fun o rr => qJ E yX9_outputProof cX9_outputProof 5 none (fun _ => True) d bc bs 117 [] [] o rr) := by
  unfold kX9_outputProof_111
  refine j_iinc (q := 2) (np := 114) (lv2 := [(3, .int (v3 + (1 : Int32))), (0, .ref (E.2.1 + v0)), (2, .int v2)]) rfl (congrArg _ ci_1) (by decide) dX9_outputProof_111 rfl rfl ?_
  refine j_goto (tgt := 18) dX9_outputProof_114 rfl ?_
  refine j_sub (lv2 := [(0, .ref (E.2.1 + v0)), (2, .int v2), (3, .int (v3 + (1 : Int32)))]) [1, 2, 0] rfl ?_
  exact hrec _ _ _
def lX9_outputProof_18 (N : Nat) (v0 : Nat) : Nat → Int32 → Int32 → qM → Option (qM)
  | 0, _, _, _ => none
  | n + 1, v2, v3, m0 =>
    if (120 : Int32) ≤ v3 then (
    some m0
    ) else (
    if v2 ≤ 0 then (
    some m0
    ) else (
    (qgR m0 v0 9 12).bind fun x1 =>
    (qaI m0 x1 12 (v2 + (-1 : Int32))).bind fun x2 =>
    (qgR m0 v0 9 2).bind fun x3 =>
    (qChk m0 x3 1 (fX1_isAxiom N x3 x2 m0)).bind fun b4 =>
    if b4.1 = 0 then (
    (qgR b4.2 v0 9 1).bind fun x5 =>
    (qChk b4.2 x5 7 (fX7_add N x5 (68 : Int32) b4.2)).bind fun b6 =>
    (qgR b6 v0 9 12).bind fun x7 =>
    (qgR b6 v0 9 2).bind fun x8 =>
    (qChk b6 x8 1 (fX1_minor N x8 x2 b6)).bind fun b9 =>
    (qwI b9.2 x7 12 (v2 + (-1 : Int32)) b9.1).bind fun m10 =>
    (qgR m10 v0 9 12).bind fun x11 =>
    (qgR m10 v0 9 2).bind fun x12 =>
    (qChk m10 x12 1 (fX1_major N x12 x2 m10)).bind fun b13 =>
    (qwI b13.2 x11 12 ((v2 + (-1 : Int32)) + (1 : Int32)) b13.1).bind fun m14 =>
    kX9_outputProof_111 N (lX9_outputProof_18 N v0 n) v0 ((v2 + (-1 : Int32)) + (2 : Int32)) v3 m14
    ) else (
    (qgR b4.2 v0 9 1).bind fun x15 =>
    (qChk b4.2 x15 7 (fX7_add N x15 ((((49 : Int32) + x2).toUInt32 % 65536).toInt32) b4.2)).bind fun b16 =>
    kX9_outputProof_111 N (lX9_outputProof_18 N v0 n) v0 (v2 + (-1 : Int32)) v3 b16
    )
    )
    )
set_option maxRecDepth 100000 in
theorem lbX9_outputProof_18 {E : qE} {N d bc bs : Nat} (hd : 1 ≤ d) {v0 : Nat} : ∀ (n : Nat) (v2 : Int32) (v3 : Int32) (m0 : qM), qB E yX9_outputProof cX9_outputProof 5 none (fun _ => True) d bc bs 18 [(0, .ref (E.2.1 + v0)), (2, .int v2), (3, .int v3)] [] m0 (lX9_outputProof_18 N v0 n v2 v3 m0) (fun o rr => qJ E yX9_outputProof cX9_outputProof 5 none (fun _ => True) d bc bs 117 [] [] o rr) := by
  intro n
  induction n with
  | zero =>
    intro v2 v3 m0
    exact j_none
  | succ n ih =>
    intro v2 v3 m0
    unfold lX9_outputProof_18
    refine j_iload_n (q := 2) (np := 19) rfl rfl dX9_outputProof_18 rfl ?_
    refine j_bipush (np := 21) cb_120 dX9_outputProof_19 rfl ?_
    refine j_icmp_ge (tgt := 117) (np := 24) dX9_outputProof_21 rfl rfl ?_ ?_
    · refine j_sub (lv2 := []) [] rfl ?_
      exact j_exit (fun rr h => h)
    · refine j_iload_n (q := 1) (np := 25) rfl rfl dX9_outputProof_24 rfl ?_
      refine j_if_le (tgt := 117) (np := 28) dX9_outputProof_25 rfl rfl ?_ ?_
      · refine j_sub (lv2 := []) [] rfl ?_
        exact j_exit (fun rr h => h)
      · refine j_iinc (q := 1) (np := 31) (lv2 := [(2, .int (v2 + (-1 : Int32))), (0, .ref (E.2.1 + v0)), (3, .int v3)]) rfl (congrArg _ ci_m1) (by decide) dX9_outputProof_28 rfl rfl ?_
        refine j_aload_n (q := 1) (np := 32) rfl rfl dX9_outputProof_31 rfl ?_
        refine j_gR (np := 35) flX9_85 dX9_outputProof_32 rfl (fun x1 => ?_)
        refine j_iload_n (q := 0) (np := 36) rfl rfl dX9_outputProof_35 rfl ?_
        refine j_iaload (np := 37) dX9_outputProof_36 rfl (fun x2 => ?_)
        refine j_istore (np := 39) (lv2 := [(4, .int x2), (2, .int (v2 + (-1 : Int32))), (0, .ref (E.2.1 + v0)), (3, .int v3)]) (by decide) dX9_outputProof_37 rfl rfl ?_
        refine j_aload_n (q := 2) (np := 40) rfl rfl dX9_outputProof_39 rfl ?_
        refine j_gR (np := 43) flX9_22 dX9_outputProof_40 rfl (fun x3 => ?_)
        refine j_iload (q := 0) (np := 45) rfl dX9_outputProof_43 rfl ?_
        refine j_callVi (ci := 1) (np := 48) (bc := bc) (bs := bs) (cb := 0) (cs := 0) (dd := d - 1) (As := [.int x2]) (st := []) caX1_isAxiom mlX9_277 imX1_isAxiom seX1_isAxiom rfl rfl (by decide) (fun b hb => wX1_isAxiom (by omega) hb) (by omega) rfl rfl (Nat.le_of_ble_eq_true rfl) dX9_outputProof_45 rfl (fun b4 => ?_)
        refine j_if_eq (tgt := 67) (np := 51) dX9_outputProof_48 rfl rfl ?_ ?_
        · refine j_aload_n (q := 2) (np := 68) rfl rfl dX9_outputProof_67 rfl ?_
          refine j_gR (np := 71) flX9_16 dX9_outputProof_68 rfl (fun x5 => ?_)
          refine j_bipush (np := 73) cb_68 dX9_outputProof_71 rfl ?_
          refine j_callVv (ci := 7) (np := 76) (bc := bc) (bs := bs) (cb := 0) (cs := 0) (dd := d - 1) (As := [.int (68 : Int32)]) (st := []) caX7_add mlX9_92 imX7_add seX7_add rfl rfl (by decide) (fun b hb => wX7_add (by omega) hb) (by omega) rfl rfl (Nat.le_of_ble_eq_true rfl) dX9_outputProof_73 rfl (fun b6 => ?_)
          refine j_aload_n (q := 2) (np := 77) rfl rfl dX9_outputProof_76 rfl ?_
          refine j_gR (np := 80) flX9_85 dX9_outputProof_77 rfl (fun x7 => ?_)
          refine j_iload_n (q := 1) (np := 81) rfl rfl dX9_outputProof_80 rfl ?_
          refine j_aload_n (q := 2) (np := 82) rfl rfl dX9_outputProof_81 rfl ?_
          refine j_gR (np := 85) flX9_22 dX9_outputProof_82 rfl (fun x8 => ?_)
          refine j_iload (q := 0) (np := 87) rfl dX9_outputProof_85 rfl ?_
          refine j_callVi (ci := 1) (np := 90) (bc := bc) (bs := bs) (cb := 0) (cs := 0) (dd := d - 1) (As := [.int x2]) (st := [.int (v2 + (-1 : Int32)), .ref (E.2.1 + x7)]) caX1_minor mlX9_143 imX1_minor seX1_minor rfl rfl (by decide) (fun b hb => wX1_minor (by omega) hb) (by omega) rfl rfl (Nat.le_of_ble_eq_true rfl) dX9_outputProof_87 rfl (fun b9 => ?_)
          refine j_iastore (np := 91) dX9_outputProof_90 rfl (fun m10 => ?_)
          refine j_aload_n (q := 2) (np := 92) rfl rfl dX9_outputProof_91 rfl ?_
          refine j_gR (np := 95) flX9_85 dX9_outputProof_92 rfl (fun x11 => ?_)
          refine j_iload_n (q := 1) (np := 96) rfl rfl dX9_outputProof_95 rfl ?_
          refine j_iconst (np := 97) ci_1 dX9_outputProof_96 rfl ?_
          refine j_iadd (np := 98) dX9_outputProof_97 rfl ?_
          refine j_aload_n (q := 2) (np := 99) rfl rfl dX9_outputProof_98 rfl ?_
          refine j_gR (np := 102) flX9_22 dX9_outputProof_99 rfl (fun x12 => ?_)
          refine j_iload (q := 0) (np := 104) rfl dX9_outputProof_102 rfl ?_
          refine j_callVi (ci := 1) (np := 107) (bc := bc) (bs := bs) (cb := 0) (cs := 0) (dd := d - 1) (As := [.int x2]) (st := [.int ((v2 + (-1 : Int32)) + (1 : Int32)), .ref (E.2.1 + x11)]) caX1_major mlX9_139 imX1_major seX1_major rfl rfl (by decide) (fun b hb => wX1_major (by omega) hb) (by omega) rfl rfl (Nat.le_of_ble_eq_true rfl) dX9_outputProof_104 rfl (fun b13 => ?_)
          refine j_iastore (np := 108) dX9_outputProof_107 rfl (fun m14 => ?_)
          refine j_iinc (q := 1) (np := 111) (lv2 := [(2, .int ((v2 + (-1 : Int32)) + (2 : Int32))), (4, .int x2), (0, .ref (E.2.1 + v0)), (3, .int v3)]) rfl (congrArg _ ci_2) (by decide) dX9_outputProof_108 rfl rfl ?_
          refine j_sub (lv2 := [(0, .ref (E.2.1 + v0)), (2, .int ((v2 + (-1 : Int32)) + (2 : Int32))), (3, .int v3)]) [2, 0, 3] rfl ?_
          exact kbX9_outputProof_111 hd ih
        · refine j_aload_n (q := 2) (np := 52) rfl rfl dX9_outputProof_51 rfl ?_
          refine j_gR (np := 55) flX9_16 dX9_outputProof_52 rfl (fun x15 => ?_)
          refine j_bipush (np := 57) cb_49 dX9_outputProof_55 rfl ?_
          refine j_iload (q := 0) (np := 59) rfl dX9_outputProof_57 rfl ?_
          refine j_iadd (np := 60) dX9_outputProof_59 rfl ?_
          refine j_i2c (np := 61) dX9_outputProof_60 rfl ?_
          refine j_callVv (ci := 7) (np := 64) (bc := bc) (bs := bs) (cb := 0) (cs := 0) (dd := d - 1) (As := [.int ((((49 : Int32) + x2).toUInt32 % 65536).toInt32)]) (st := []) caX7_add mlX9_92 imX7_add seX7_add rfl rfl (by decide) (fun b hb => wX7_add (by omega) hb) (by omega) rfl rfl (Nat.le_of_ble_eq_true rfl) dX9_outputProof_61 rfl (fun b16 => ?_)
          refine j_goto (tgt := 111) dX9_outputProof_64 rfl ?_
          refine j_sub (lv2 := [(0, .ref (E.2.1 + v0)), (2, .int (v2 + (-1 : Int32))), (3, .int v3)]) [2, 1, 3] rfl ?_
          exact kbX9_outputProof_111 hd ih
def fX9_outputProof (N : Nat) (v0 : Nat) (v1 : Int32) (m0 : qM) : Option (qM) :=
  (qgR m0 v0 9 1).bind fun x1 =>
  (qChk m0 x1 7 (fX7_makeEmpty N x1 m0)).bind fun b2 =>
  (qgR b2 v0 9 12).bind fun x3 =>
  (qwI b2 x3 12 (0 : Int32) v1).bind fun m4 =>
  (lX9_outputProof_18 N v0 N (1 : Int32) (0 : Int32) m4).bind fun o5 =>
  some o5
set_option maxRecDepth 100000 in
theorem bX9_outputProof {E : qE} {N d bc bs : Nat} (hd : 1 ≤ d) {v0 : Nat} {v1 : Int32} {m0 : qM} : qB E yX9_outputProof cX9_outputProof 5 none (fun _ => True) d bc bs 0 [(0, .ref (E.2.1 + v0)), (1, .int v1)] [] m0 (fX9_outputProof N v0 v1 m0) (fun b rr => rr = (none, b)) := by
  unfold fX9_outputProof
  refine j_aload_n (q := 0) (np := 1) rfl rfl dX9_outputProof_0 rfl ?_
  refine j_gR (np := 4) flX9_16 dX9_outputProof_1 rfl (fun x1 => ?_)
  refine j_callVv (ci := 7) (np := 7) (bc := bc) (bs := bs) (cb := 0) (cs := 0) (dd := d - 1) (As := []) (st := []) caX7_makeEmpty mlX9_96 imX7_makeEmpty seX7_makeEmpty rfl rfl (by decide) (fun b hb => wX7_makeEmpty (by omega) hb) (by omega) rfl rfl (Nat.le_of_ble_eq_true rfl) dX9_outputProof_4 rfl (fun b2 => ?_)
  refine j_aload_n (q := 0) (np := 8) rfl rfl dX9_outputProof_7 rfl ?_
  refine j_gR (np := 11) flX9_85 dX9_outputProof_8 rfl (fun x3 => ?_)
  refine j_iconst (np := 12) ci_0 dX9_outputProof_11 rfl ?_
  refine j_iload_n (q := 1) (np := 13) rfl rfl dX9_outputProof_12 rfl ?_
  refine j_iastore (np := 14) dX9_outputProof_13 rfl (fun m4 => ?_)
  refine j_iconst (np := 15) ci_1 dX9_outputProof_14 rfl ?_
  refine j_istore_n (np := 16) (lv2 := [(2, .int (1 : Int32)), (0, .ref (E.2.1 + v0)), (1, .int v1)]) rfl (by decide) dX9_outputProof_15 rfl rfl ?_
  refine j_iconst (np := 17) ci_0 dX9_outputProof_16 rfl ?_
  refine j_istore_n (np := 18) (lv2 := [(3, .int (0 : Int32)), (2, .int (1 : Int32)), (0, .ref (E.2.1 + v0)), (1, .int v1)]) rfl (by decide) dX9_outputProof_17 rfl rfl ?_
  refine j_sub (lv2 := [(0, .ref (E.2.1 + v0)), (2, .int (1 : Int32)), (3, .int (0 : Int32))]) [2, 1, 0] rfl ?_
  refine j_loop (xp := 117) (lvX := fun o5 => []) (mX := fun o5 => o5) (lbX9_outputProof_18 hd _ _ _ _) (fun o5 => ?_)
  exact j_vret rfl dX9_outputProof_117 (fun rr h => h)
set_option maxRecDepth 100000 in
theorem wX9_outputProof {E : qE} {N d : Nat} (hd : 1 ≤ d) {v0 : Nat} {v1 : Int32} {m0 : qM} {b : qM} (h : fX9_outputProof N v0 v1 m0 = some b) : qRun E yX9_outputProof cX9_outputProof 5 none d 0 0 [.ref (E.2.1 + v0), .int v1] m0 (none, b) := q_met pnX9 (Nat.le_of_ble_eq_true rfl) (bX9_outputProof hd b _ h rfl)
theorem dX9_writeProof_0 : decode cX9_writeProof 0 = .ok (.aload_n 0, 1) := by decide +kernel
theorem dX9_writeProof_1 : decode cX9_writeProof 1 = .ok (.getfield 22, 3) := by decide +kernel
theorem dX9_writeProof_4 : decode cX9_writeProof 4 = .ok (.iload_n 1, 1) := by decide +kernel
theorem dX9_writeProof_5 : decode cX9_writeProof 5 = .ok (.invokevirtual 106, 3) := by decide +kernel
theorem dX9_writeProof_8 : decode cX9_writeProof 8 = .ok (.ifCond .ne 5, 3) := by decide +kernel
theorem dX9_writeProof_11 : decode cX9_writeProof 11 = .ok (.iconst (-1), 1) := by decide +kernel
theorem dX9_writeProof_12 : decode cX9_writeProof 12 = .ok (.ireturn, 1) := by decide +kernel
theorem dX9_writeProof_13 : decode cX9_writeProof 13 = .ok (.aload_n 0, 1) := by decide +kernel
theorem dX9_writeProof_14 : decode cX9_writeProof 14 = .ok (.getfield 22, 3) := by decide +kernel
theorem dX9_writeProof_17 : decode cX9_writeProof 17 = .ok (.iload_n 1, 1) := by decide +kernel
theorem dX9_writeProof_18 : decode cX9_writeProof 18 = .ok (.invokevirtual 149, 3) := by decide +kernel
theorem dX9_writeProof_21 : decode cX9_writeProof 21 = .ok (.ldc2_w 159, 3) := by decide +kernel
theorem dX9_writeProof_24 : decode cX9_writeProof 24 = .ok (.lcmp, 1) := by decide +kernel
theorem dX9_writeProof_25 : decode cX9_writeProof 25 = .ok (.ifCond .gt 16, 3) := by decide +kernel
theorem dX9_writeProof_28 : decode cX9_writeProof 28 = .ok (.aload_n 0, 1) := by decide +kernel
theorem dX9_writeProof_29 : decode cX9_writeProof 29 = .ok (.getfield 22, 3) := by decide +kernel
theorem dX9_writeProof_32 : decode cX9_writeProof 32 = .ok (.iload_n 1, 1) := by decide +kernel
theorem dX9_writeProof_33 : decode cX9_writeProof 33 = .ok (.invokevirtual 161, 3) := by decide +kernel
theorem dX9_writeProof_36 : decode cX9_writeProof 36 = .ok (.bipush 8, 2) := by decide +kernel
theorem dX9_writeProof_38 : decode cX9_writeProof 38 = .ok (.if_icmp .le 6, 3) := by decide +kernel
theorem dX9_writeProof_41 : decode cX9_writeProof 41 = .ok (.bipush (-5), 2) := by decide +kernel
theorem dX9_writeProof_43 : decode cX9_writeProof 43 = .ok (.ireturn, 1) := by decide +kernel
theorem dX9_writeProof_44 : decode cX9_writeProof 44 = .ok (.aload_n 0, 1) := by decide +kernel
theorem dX9_writeProof_45 : decode cX9_writeProof 45 = .ok (.iload_n 1, 1) := by decide +kernel
theorem dX9_writeProof_46 : decode cX9_writeProof 46 = .ok (.invokevirtual 164, 3) := by decide +kernel
theorem dX9_writeProof_49 : decode cX9_writeProof 49 = .ok (.aload_n 0, 1) := by decide +kernel
theorem dX9_writeProof_50 : decode cX9_writeProof 50 = .ok (.getfield 16, 3) := by decide +kernel
theorem dX9_writeProof_53 : decode cX9_writeProof 53 = .ok (.invokevirtual 88, 3) := by decide +kernel
theorem dX9_writeProof_56 : decode cX9_writeProof 56 = .ok (.ireturn, 1) := by decide +kernel
def fX9_writeProof (N : Nat) (v0 : Nat) (v1 : Int32) (m0 : qM) : Option (Int32 × qM) :=
  (qgR m0 v0 9 2).bind fun x1 =>
  (qChk m0 x1 1 (fX1_has N x1 v1 m0)).bind fun b2 =>
  if b2.1 = 0 then (
  some ((-1 : Int32), b2.2)
  ) else (
  (qgR b2.2 v0 9 2).bind fun x3 =>
  (qChk b2.2 x3 1 (fX1_proofSigns N x3 v1 b2.2)).bind fun b4 =>
  if 0 < lg_cmp b4.1 (49 : Int64) then (
  some ((-5 : Int32), b4.2)
  ) else (
  (qgR b4.2 v0 9 2).bind fun x5 =>
  (qChk b4.2 x5 1 (fX1_lastAxiom N x5 v1 b4.2)).bind fun b6 =>
  if b6.1 ≤ (8 : Int32) then (
  (qChk b6.2 v0 9 (fX9_outputProof N v0 v1 b6.2)).bind fun b7 =>
  (qgR b7 v0 9 1).bind fun x8 =>
  (qChk b7 x8 7 (fX7_length N x8 b7)).bind fun b9 =>
  some (b9.1, b9.2)
  ) else (
  some ((-5 : Int32), b6.2)
  )
  )
  )
set_option maxRecDepth 100000 in
theorem bX9_writeProof {E : qE} {N d bc bs : Nat} (hd : 2 ≤ d) {v0 : Nat} {v1 : Int32} {m0 : qM} : qB E yX9_writeProof cX9_writeProof 2 (some .int) (fun _ => True) d bc bs 0 [(0, .ref (E.2.1 + v0)), (1, .int v1)] [] m0 (fX9_writeProof N v0 v1 m0) (fun b rr => rr = (some (.int b.1), b.2)) := by
  unfold fX9_writeProof
  refine j_aload_n (q := 0) (np := 1) rfl rfl dX9_writeProof_0 rfl ?_
  refine j_gR (np := 4) flX9_22 dX9_writeProof_1 rfl (fun x1 => ?_)
  refine j_iload_n (q := 1) (np := 5) rfl rfl dX9_writeProof_4 rfl ?_
  refine j_callVi (ci := 1) (np := 8) (bc := bc) (bs := bs) (cb := 0) (cs := 0) (dd := d - 1) (As := [.int v1]) (st := []) caX1_has mlX9_106 imX1_has seX1_has rfl rfl (by decide) (fun b hb => wX1_has (by omega) hb) (by omega) rfl rfl (Nat.le_of_ble_eq_true rfl) dX9_writeProof_5 rfl (fun b2 => ?_)
  refine j_if_ne (tgt := 13) (np := 11) dX9_writeProof_8 rfl rfl ?_ ?_
  · refine j_aload_n (q := 0) (np := 14) rfl rfl dX9_writeProof_13 rfl ?_
    refine j_gR (np := 17) flX9_22 dX9_writeProof_14 rfl (fun x3 => ?_)
    refine j_iload_n (q := 1) (np := 18) rfl rfl dX9_writeProof_17 rfl ?_
    refine j_callVl (ci := 1) (np := 21) (bc := bc) (bs := bs) (cb := 0) (cs := 0) (dd := d - 1) (As := [.int v1]) (st := []) caX1_proofSigns mlX9_149 imX1_proofSigns seX1_proofSigns rfl rfl (by decide) (fun b hb => wX1_proofSigns (by omega) hb) (by omega) rfl rfl (Nat.le_of_ble_eq_true rfl) dX9_writeProof_18 rfl (fun b4 => ?_)
    refine j_ldc2 (np := 24) lgX9_159 dX9_writeProof_21 rfl ?_
    refine j_lcmp (np := 25) dX9_writeProof_24 rfl ?_
    refine j_if_gt (tgt := 41) (np := 28) dX9_writeProof_25 rfl rfl ?_ ?_
    · refine j_bipush (np := 43) cb_m5 dX9_writeProof_41 rfl ?_
      exact j_iret rfl dX9_writeProof_43 (fun rr h => h)
    · refine j_aload_n (q := 0) (np := 29) rfl rfl dX9_writeProof_28 rfl ?_
      refine j_gR (np := 32) flX9_22 dX9_writeProof_29 rfl (fun x5 => ?_)
      refine j_iload_n (q := 1) (np := 33) rfl rfl dX9_writeProof_32 rfl ?_
      refine j_callVi (ci := 1) (np := 36) (bc := bc) (bs := bs) (cb := 0) (cs := 0) (dd := d - 1) (As := [.int v1]) (st := []) caX1_lastAxiom mlX9_161 imX1_lastAxiom seX1_lastAxiom rfl rfl (by decide) (fun b hb => wX1_lastAxiom (by omega) hb) (by omega) rfl rfl (Nat.le_of_ble_eq_true rfl) dX9_writeProof_33 rfl (fun b6 => ?_)
      refine j_bipush (np := 38) cb_8 dX9_writeProof_36 rfl ?_
      refine j_icmp_le (tgt := 44) (np := 41) dX9_writeProof_38 rfl rfl ?_ ?_
      · refine j_aload_n (q := 0) (np := 45) rfl rfl dX9_writeProof_44 rfl ?_
        refine j_iload_n (q := 1) (np := 46) rfl rfl dX9_writeProof_45 rfl ?_
        refine j_callVv (ci := 9) (np := 49) (bc := bc) (bs := bs) (cb := 0) (cs := 0) (dd := d - 1) (As := [.int v1]) (st := []) caX9_outputProof mlX9_164 imX9_outputProof seX9_outputProof rfl rfl (by decide) (fun b hb => wX9_outputProof (by omega) hb) (by omega) rfl rfl (Nat.le_of_ble_eq_true rfl) dX9_writeProof_46 rfl (fun b7 => ?_)
        refine j_aload_n (q := 0) (np := 50) rfl rfl dX9_writeProof_49 rfl ?_
        refine j_gR (np := 53) flX9_16 dX9_writeProof_50 rfl (fun x8 => ?_)
        refine j_callVi (ci := 7) (np := 56) (bc := bc) (bs := bs) (cb := 0) (cs := 0) (dd := d - 1) (As := []) (st := []) caX7_length mlX9_88 imX7_length seX7_length rfl rfl (by decide) (fun b hb => wX7_length (by omega) hb) (by omega) rfl rfl (Nat.le_of_ble_eq_true rfl) dX9_writeProof_53 rfl (fun b9 => ?_)
        exact j_iret rfl dX9_writeProof_56 (fun rr h => h)
      · refine j_bipush (np := 43) cb_m5 dX9_writeProof_41 rfl ?_
        exact j_iret rfl dX9_writeProof_43 (fun rr h => h)
  · refine j_iconst (np := 12) ci_m1 dX9_writeProof_11 rfl ?_
    exact j_iret rfl dX9_writeProof_12 (fun rr h => h)
set_option maxRecDepth 100000 in
theorem wX9_writeProof {E : qE} {N d : Nat} (hd : 2 ≤ d) {v0 : Nat} {v1 : Int32} {m0 : qM} {b : Int32 × qM} (h : fX9_writeProof N v0 v1 m0 = some b) : qRun E yX9_writeProof cX9_writeProof 2 (some .int) d 0 0 [.ref (E.2.1 + v0), .int v1] m0 (some (.int b.1), b.2) := q_met pnX9 (Nat.le_of_ble_eq_true rfl) (bX9_writeProof hd b _ h rfl)
theorem dX9_outputLength_0 : decode cX9_outputLength 0 = .ok (.aload_n 0, 1) := by decide +kernel
theorem dX9_outputLength_1 : decode cX9_outputLength 1 = .ok (.getfield 16, 3) := by decide +kernel
theorem dX9_outputLength_4 : decode cX9_outputLength 4 = .ok (.invokevirtual 88, 3) := by decide +kernel
theorem dX9_outputLength_7 : decode cX9_outputLength 7 = .ok (.ireturn, 1) := by decide +kernel
def fX9_outputLength (N : Nat) (v0 : Nat) (m0 : qM) : Option (Int32 × qM) :=
  (qgR m0 v0 9 1).bind fun x1 =>
  (qChk m0 x1 7 (fX7_length N x1 m0)).bind fun b2 =>
  some (b2.1, b2.2)
set_option maxRecDepth 100000 in
theorem bX9_outputLength {E : qE} {N d bc bs : Nat} (hd : 1 ≤ d) {v0 : Nat} {m0 : qM} : qB E yX9_outputLength cX9_outputLength 1 (some .int) (fun _ => True) d bc bs 0 [(0, .ref (E.2.1 + v0))] [] m0 (fX9_outputLength N v0 m0) (fun b rr => rr = (some (.int b.1), b.2)) := by
  unfold fX9_outputLength
  refine j_aload_n (q := 0) (np := 1) rfl rfl dX9_outputLength_0 rfl ?_
  refine j_gR (np := 4) flX9_16 dX9_outputLength_1 rfl (fun x1 => ?_)
  refine j_callVi (ci := 7) (np := 7) (bc := bc) (bs := bs) (cb := 0) (cs := 0) (dd := d - 1) (As := []) (st := []) caX7_length mlX9_88 imX7_length seX7_length rfl rfl (by decide) (fun b hb => wX7_length (by omega) hb) (by omega) rfl rfl (Nat.le_of_ble_eq_true rfl) dX9_outputLength_4 rfl (fun b2 => ?_)
  exact j_iret rfl dX9_outputLength_7 (fun rr h => h)
set_option maxRecDepth 100000 in
theorem wX9_outputLength {E : qE} {N d : Nat} (hd : 1 ≤ d) {v0 : Nat} {m0 : qM} {b : Int32 × qM} (h : fX9_outputLength N v0 m0 = some b) : qRun E yX9_outputLength cX9_outputLength 1 (some .int) d 0 0 [.ref (E.2.1 + v0)] m0 (some (.int b.1), b.2) := q_met pnX9 (Nat.le_of_ble_eq_true rfl) (bX9_outputLength hd b _ h rfl)
theorem dX9_outputAt_0 : decode cX9_outputAt 0 = .ok (.iload_n 1, 1) := by decide +kernel
theorem dX9_outputAt_1 : decode cX9_outputAt 1 = .ok (.ifCond .lt 25, 3) := by decide +kernel
theorem dX9_outputAt_4 : decode cX9_outputAt 4 = .ok (.iload_n 1, 1) := by decide +kernel
theorem dX9_outputAt_5 : decode cX9_outputAt 5 = .ok (.aload_n 0, 1) := by decide +kernel
theorem dX9_outputAt_6 : decode cX9_outputAt 6 = .ok (.getfield 16, 3) := by decide +kernel
theorem dX9_outputAt_9 : decode cX9_outputAt 9 = .ok (.invokevirtual 88, 3) := by decide +kernel
theorem dX9_outputAt_12 : decode cX9_outputAt 12 = .ok (.if_icmp .ge 14, 3) := by decide +kernel
theorem dX9_outputAt_15 : decode cX9_outputAt 15 = .ok (.aload_n 0, 1) := by decide +kernel
theorem dX9_outputAt_16 : decode cX9_outputAt 16 = .ok (.getfield 16, 3) := by decide +kernel
theorem dX9_outputAt_19 : decode cX9_outputAt 19 = .ok (.iload_n 1, 1) := by decide +kernel
theorem dX9_outputAt_20 : decode cX9_outputAt 20 = .ok (.invokevirtual 167, 3) := by decide +kernel
theorem dX9_outputAt_23 : decode cX9_outputAt 23 = .ok (.goto 4, 3) := by decide +kernel
theorem dX9_outputAt_26 : decode cX9_outputAt 26 = .ok (.iconst (-1), 1) := by decide +kernel
theorem dX9_outputAt_27 : decode cX9_outputAt 27 = .ok (.ireturn, 1) := by decide +kernel
def fX9_outputAt (N : Nat) (v0 : Nat) (v1 : Int32) (m0 : qM) : Option (Int32 × qM) :=
  if v1 < 0 then (
  some ((-1 : Int32), m0)
  ) else (
  (qgR m0 v0 9 1).bind fun x1 =>
  (qChk m0 x1 7 (fX7_length N x1 m0)).bind fun b2 =>
  if b2.1 ≤ v1 then (
  some ((-1 : Int32), b2.2)
  ) else (
  (qgR b2.2 v0 9 1).bind fun x3 =>
  (qChk b2.2 x3 7 (fX7_at N x3 v1 b2.2)).bind fun b4 =>
  some (b4.1, b4.2)
  )
  )
set_option maxRecDepth 100000 in
theorem bX9_outputAt {E : qE} {N d bc bs : Nat} (hd : 1 ≤ d) {v0 : Nat} {v1 : Int32} {m0 : qM} : qB E yX9_outputAt cX9_outputAt 2 (some .int) (fun _ => True) d bc bs 0 [(0, .ref (E.2.1 + v0)), (1, .int v1)] [] m0 (fX9_outputAt N v0 v1 m0) (fun b rr => rr = (some (.int b.1), b.2)) := by
  unfold fX9_outputAt
  refine j_iload_n (q := 1) (np := 1) rfl rfl dX9_outputAt_0 rfl ?_
  refine j_if_lt (tgt := 26) (np := 4) dX9_outputAt_1 rfl rfl ?_ ?_
  · refine j_iconst (np := 27) ci_m1 dX9_outputAt_26 rfl ?_
    exact j_iret rfl dX9_outputAt_27 (fun rr h => h)
  · refine j_iload_n (q := 1) (np := 5) rfl rfl dX9_outputAt_4 rfl ?_
    refine j_aload_n (q := 0) (np := 6) rfl rfl dX9_outputAt_5 rfl ?_
    refine j_gR (np := 9) flX9_16 dX9_outputAt_6 rfl (fun x1 => ?_)
    refine j_callVi (ci := 7) (np := 12) (bc := bc) (bs := bs) (cb := 0) (cs := 0) (dd := d - 1) (As := []) (st := [.int v1]) caX7_length mlX9_88 imX7_length seX7_length rfl rfl (by decide) (fun b hb => wX7_length (by omega) hb) (by omega) rfl rfl (Nat.le_of_ble_eq_true rfl) dX9_outputAt_9 rfl (fun b2 => ?_)
    refine j_icmp_ge (tgt := 26) (np := 15) dX9_outputAt_12 rfl rfl ?_ ?_
    · refine j_iconst (np := 27) ci_m1 dX9_outputAt_26 rfl ?_
      exact j_iret rfl dX9_outputAt_27 (fun rr h => h)
    · refine j_aload_n (q := 0) (np := 16) rfl rfl dX9_outputAt_15 rfl ?_
      refine j_gR (np := 19) flX9_16 dX9_outputAt_16 rfl (fun x3 => ?_)
      refine j_iload_n (q := 1) (np := 20) rfl rfl dX9_outputAt_19 rfl ?_
      refine j_callVi (ci := 7) (np := 23) (bc := bc) (bs := bs) (cb := 0) (cs := 0) (dd := d - 1) (As := [.int v1]) (st := []) caX7_at mlX9_167 imX7_at seX7_at rfl rfl (by decide) (fun b hb => wX7_at (by omega) hb) (by omega) rfl rfl (Nat.le_of_ble_eq_true rfl) dX9_outputAt_20 rfl (fun b4 => ?_)
      refine j_goto (tgt := 27) dX9_outputAt_23 rfl ?_
      exact j_iret rfl dX9_outputAt_27 (fun rr h => h)
set_option maxRecDepth 100000 in
theorem wX9_outputAt {E : qE} {N d : Nat} (hd : 1 ≤ d) {v0 : Nat} {v1 : Int32} {m0 : qM} {b : Int32 × qM} (h : fX9_outputAt N v0 v1 m0 = some b) : qRun E yX9_outputAt cX9_outputAt 2 (some .int) d 0 0 [.ref (E.2.1 + v0), .int v1] m0 (some (.int b.1), b.2) := q_met pnX9 (Nat.le_of_ble_eq_true rfl) (bX9_outputAt hd b _ h rfl)
theorem dX9_isInstance_0 : decode cX9_isInstance 0 = .ok (.aload_n 0, 1) := by decide +kernel
theorem dX9_isInstance_1 : decode cX9_isInstance 1 = .ok (.getfield 22, 3) := by decide +kernel
theorem dX9_isInstance_4 : decode cX9_isInstance 4 = .ok (.iload_n 1, 1) := by decide +kernel
theorem dX9_isInstance_5 : decode cX9_isInstance 5 = .ok (.invokevirtual 106, 3) := by decide +kernel
theorem dX9_isInstance_8 : decode cX9_isInstance 8 = .ok (.ifCond .eq 14, 3) := by decide +kernel
theorem dX9_isInstance_11 : decode cX9_isInstance 11 = .ok (.aload_n 0, 1) := by decide +kernel
theorem dX9_isInstance_12 : decode cX9_isInstance 12 = .ok (.getfield 22, 3) := by decide +kernel
theorem dX9_isInstance_15 : decode cX9_isInstance 15 = .ok (.iload_n 2, 1) := by decide +kernel
theorem dX9_isInstance_16 : decode cX9_isInstance 16 = .ok (.invokevirtual 106, 3) := by decide +kernel
theorem dX9_isInstance_19 : decode cX9_isInstance 19 = .ok (.ifCond .ne 5, 3) := by decide +kernel
theorem dX9_isInstance_22 : decode cX9_isInstance 22 = .ok (.iconst (-1), 1) := by decide +kernel
theorem dX9_isInstance_23 : decode cX9_isInstance 23 = .ok (.ireturn, 1) := by decide +kernel
theorem dX9_isInstance_24 : decode cX9_isInstance 24 = .ok (.aload_n 0, 1) := by decide +kernel
theorem dX9_isInstance_25 : decode cX9_isInstance 25 = .ok (.getfield 36, 3) := by decide +kernel
theorem dX9_isInstance_28 : decode cX9_isInstance 28 = .ok (.aload_n 0, 1) := by decide +kernel
theorem dX9_isInstance_29 : decode cX9_isInstance 29 = .ok (.getfield 22, 3) := by decide +kernel
theorem dX9_isInstance_32 : decode cX9_isInstance 32 = .ok (.iload_n 1, 1) := by decide +kernel
theorem dX9_isInstance_33 : decode cX9_isInstance 33 = .ok (.invokevirtual 129, 3) := by decide +kernel
theorem dX9_isInstance_36 : decode cX9_isInstance 36 = .ok (.aload_n 0, 1) := by decide +kernel
theorem dX9_isInstance_37 : decode cX9_isInstance 37 = .ok (.getfield 22, 3) := by decide +kernel
theorem dX9_isInstance_40 : decode cX9_isInstance 40 = .ok (.iload_n 2, 1) := by decide +kernel
theorem dX9_isInstance_41 : decode cX9_isInstance 41 = .ok (.invokevirtual 129, 3) := by decide +kernel
theorem dX9_isInstance_44 : decode cX9_isInstance 44 = .ok (.invokevirtual 170, 3) := by decide +kernel
theorem dX9_isInstance_47 : decode cX9_isInstance 47 = .ok (.ifCond .eq 7, 3) := by decide +kernel
theorem dX9_isInstance_50 : decode cX9_isInstance 50 = .ok (.iconst 1, 1) := by decide +kernel
theorem dX9_isInstance_51 : decode cX9_isInstance 51 = .ok (.goto 4, 3) := by decide +kernel
theorem dX9_isInstance_54 : decode cX9_isInstance 54 = .ok (.iconst 0, 1) := by decide +kernel
theorem dX9_isInstance_55 : decode cX9_isInstance 55 = .ok (.ireturn, 1) := by decide +kernel
def fX9_isInstance (N : Nat) (v0 : Nat) (v1 : Int32) (v2 : Int32) (m0 : qM) : Option (Int32 × qM) :=
  (qgR m0 v0 9 2).bind fun x1 =>
  (qChk m0 x1 1 (fX1_has N x1 v1 m0)).bind fun b2 =>
  if b2.1 = 0 then (
  some ((-1 : Int32), b2.2)
  ) else (
  (qgR b2.2 v0 9 2).bind fun x3 =>
  (qChk b2.2 x3 1 (fX1_has N x3 v2 b2.2)).bind fun b4 =>
  if b4.1 = 0 then (
  some ((-1 : Int32), b4.2)
  ) else (
  (qgR b4.2 v0 9 4).bind fun x5 =>
  (qgR b4.2 v0 9 2).bind fun x6 =>
  (qChk b4.2 x6 1 (fX1_at N x6 v1 b4.2)).bind fun b7 =>
  (qgR b7.2 v0 9 2).bind fun x8 =>
  (qChk b7.2 x8 1 (fX1_at N x8 v2 b7.2)).bind fun b9 =>
  (qChk b9.2 x5 3 (fX3_matches N x5 b7.1 b9.1 b9.2)).bind fun b10 =>
  if b10.1 = 0 then (
  some ((0 : Int32), b10.2)
  ) else (
  some ((1 : Int32), b10.2)
  )
  )
  )
set_option maxRecDepth 100000 in
theorem bX9_isInstance {E : qE} {N d bc bs : Nat} (hd : 2 ≤ d) {v0 : Nat} {v1 : Int32} {v2 : Int32} {m0 : qM} : qB E yX9_isInstance cX9_isInstance 3 (some .int) (fun _ => True) d bc bs 0 [(0, .ref (E.2.1 + v0)), (1, .int v1), (2, .int v2)] [] m0 (fX9_isInstance N v0 v1 v2 m0) (fun b rr => rr = (some (.int b.1), b.2)) := by
  unfold fX9_isInstance
  refine j_aload_n (q := 0) (np := 1) rfl rfl dX9_isInstance_0 rfl ?_
  refine j_gR (np := 4) flX9_22 dX9_isInstance_1 rfl (fun x1 => ?_)
  refine j_iload_n (q := 1) (np := 5) rfl rfl dX9_isInstance_4 rfl ?_
  refine j_callVi (ci := 1) (np := 8) (bc := bc) (bs := bs) (cb := 0) (cs := 0) (dd := d - 1) (As := [.int v1]) (st := []) caX1_has mlX9_106 imX1_has seX1_has rfl rfl (by decide) (fun b hb => wX1_has (by omega) hb) (by omega) rfl rfl (Nat.le_of_ble_eq_true rfl) dX9_isInstance_5 rfl (fun b2 => ?_)
  refine j_if_eq (tgt := 22) (np := 11) dX9_isInstance_8 rfl rfl ?_ ?_
  · refine j_iconst (np := 23) ci_m1 dX9_isInstance_22 rfl ?_
    exact j_iret rfl dX9_isInstance_23 (fun rr h => h)
  · refine j_aload_n (q := 0) (np := 12) rfl rfl dX9_isInstance_11 rfl ?_
    refine j_gR (np := 15) flX9_22 dX9_isInstance_12 rfl (fun x3 => ?_)
    refine j_iload_n (q := 2) (np := 16) rfl rfl dX9_isInstance_15 rfl ?_
    refine j_callVi (ci := 1) (np := 19) (bc := bc) (bs := bs) (cb := 0) (cs := 0) (dd := d - 1) (As := [.int v2]) (st := []) caX1_has mlX9_106 imX1_has seX1_has rfl rfl (by decide) (fun b hb => wX1_has (by omega) hb) (by omega) rfl rfl (Nat.le_of_ble_eq_true rfl) dX9_isInstance_16 rfl (fun b4 => ?_)
    refine j_if_ne (tgt := 24) (np := 22) dX9_isInstance_19 rfl rfl ?_ ?_
    · refine j_aload_n (q := 0) (np := 25) rfl rfl dX9_isInstance_24 rfl ?_
      refine j_gR (np := 28) flX9_36 dX9_isInstance_25 rfl (fun x5 => ?_)
      refine j_aload_n (q := 0) (np := 29) rfl rfl dX9_isInstance_28 rfl ?_
      refine j_gR (np := 32) flX9_22 dX9_isInstance_29 rfl (fun x6 => ?_)
      refine j_iload_n (q := 1) (np := 33) rfl rfl dX9_isInstance_32 rfl ?_
      refine j_callVr (ci := 1) (np := 36) (bc := bc) (bs := bs) (cb := 0) (cs := 0) (dd := d - 1) (As := [.int v1]) (st := [.ref (E.2.1 + x5)]) caX1_at mlX9_129 imX1_at seX1_at rfl rfl (by decide) (fun b hb => wX1_at (by omega) hb) (by omega) rfl rfl (Nat.le_of_ble_eq_true rfl) dX9_isInstance_33 rfl (fun b7 => ?_)
      refine j_aload_n (q := 0) (np := 37) rfl rfl dX9_isInstance_36 rfl ?_
      refine j_gR (np := 40) flX9_22 dX9_isInstance_37 rfl (fun x8 => ?_)
      refine j_iload_n (q := 2) (np := 41) rfl rfl dX9_isInstance_40 rfl ?_
      refine j_callVr (ci := 1) (np := 44) (bc := bc) (bs := bs) (cb := 0) (cs := 0) (dd := d - 1) (As := [.int v2]) (st := [.ref (E.2.1 + b7.1), .ref (E.2.1 + x5)]) caX1_at mlX9_129 imX1_at seX1_at rfl rfl (by decide) (fun b hb => wX1_at (by omega) hb) (by omega) rfl rfl (Nat.le_of_ble_eq_true rfl) dX9_isInstance_41 rfl (fun b9 => ?_)
      refine j_callVi (ci := 3) (np := 47) (bc := bc) (bs := bs) (cb := 0) (cs := 0) (dd := d - 1) (As := [.ref (E.2.1 + b7.1), .ref (E.2.1 + b9.1)]) (st := []) caX3_matches mlX9_170 imX3_matches seX3_matches rfl rfl (by decide) (fun b hb => wX3_matches (by omega) hb) (by omega) rfl rfl (Nat.le_of_ble_eq_true rfl) dX9_isInstance_44 rfl (fun b10 => ?_)
      refine j_if_eq (tgt := 54) (np := 50) dX9_isInstance_47 rfl rfl ?_ ?_
      · refine j_iconst (np := 55) ci_0 dX9_isInstance_54 rfl ?_
        exact j_iret rfl dX9_isInstance_55 (fun rr h => h)
      · refine j_iconst (np := 51) ci_1 dX9_isInstance_50 rfl ?_
        refine j_goto (tgt := 55) dX9_isInstance_51 rfl ?_
        exact j_iret rfl dX9_isInstance_55 (fun rr h => h)
    · refine j_iconst (np := 23) ci_m1 dX9_isInstance_22 rfl ?_
      exact j_iret rfl dX9_isInstance_23 (fun rr h => h)
set_option maxRecDepth 100000 in
theorem wX9_isInstance {E : qE} {N d : Nat} (hd : 2 ≤ d) {v0 : Nat} {v1 : Int32} {v2 : Int32} {m0 : qM} {b : Int32 × qM} (h : fX9_isInstance N v0 v1 v2 m0 = some b) : qRun E yX9_isInstance cX9_isInstance 3 (some .int) d 0 0 [.ref (E.2.1 + v0), .int v1, .int v2] m0 (some (.int b.1), b.2) := q_met pnX9 (Nat.le_of_ble_eq_true rfl) (bX9_isInstance hd b _ h rfl)
theorem dX9_moreGeneral_0 : decode cX9_moreGeneral 0 = .ok (.aload_n 0, 1) := by decide +kernel
theorem dX9_moreGeneral_1 : decode cX9_moreGeneral 1 = .ok (.getfield 22, 3) := by decide +kernel
theorem dX9_moreGeneral_4 : decode cX9_moreGeneral 4 = .ok (.iload_n 1, 1) := by decide +kernel
theorem dX9_moreGeneral_5 : decode cX9_moreGeneral 5 = .ok (.invokevirtual 106, 3) := by decide +kernel
theorem dX9_moreGeneral_8 : decode cX9_moreGeneral 8 = .ok (.ifCond .ne 5, 3) := by decide +kernel
theorem dX9_moreGeneral_11 : decode cX9_moreGeneral 11 = .ok (.iconst (-1), 1) := by decide +kernel
theorem dX9_moreGeneral_12 : decode cX9_moreGeneral 12 = .ok (.ireturn, 1) := by decide +kernel
theorem dX9_moreGeneral_13 : decode cX9_moreGeneral 13 = .ok (.iconst 0, 1) := by decide +kernel
theorem dX9_moreGeneral_14 : decode cX9_moreGeneral 14 = .ok (.istore_n 2, 1) := by decide +kernel
theorem dX9_moreGeneral_15 : decode cX9_moreGeneral 15 = .ok (.iload_n 2, 1) := by decide +kernel
theorem dX9_moreGeneral_16 : decode cX9_moreGeneral 16 = .ok (.aload_n 0, 1) := by decide +kernel
theorem dX9_moreGeneral_17 : decode cX9_moreGeneral 17 = .ok (.getfield 22, 3) := by decide +kernel
theorem dX9_moreGeneral_20 : decode cX9_moreGeneral 20 = .ok (.invokevirtual 114, 3) := by decide +kernel
theorem dX9_moreGeneral_23 : decode cX9_moreGeneral 23 = .ok (.if_icmp .ge 42, 3) := by decide +kernel
theorem dX9_moreGeneral_26 : decode cX9_moreGeneral 26 = .ok (.iload_n 2, 1) := by decide +kernel
theorem dX9_moreGeneral_27 : decode cX9_moreGeneral 27 = .ok (.iload_n 1, 1) := by decide +kernel
theorem dX9_moreGeneral_28 : decode cX9_moreGeneral 28 = .ok (.if_icmp .eq 31, 3) := by decide +kernel
theorem dX9_moreGeneral_31 : decode cX9_moreGeneral 31 = .ok (.aload_n 0, 1) := by decide +kernel
theorem dX9_moreGeneral_32 : decode cX9_moreGeneral 32 = .ok (.getfield 36, 3) := by decide +kernel
theorem dX9_moreGeneral_35 : decode cX9_moreGeneral 35 = .ok (.aload_n 0, 1) := by decide +kernel
theorem dX9_moreGeneral_36 : decode cX9_moreGeneral 36 = .ok (.getfield 22, 3) := by decide +kernel
theorem dX9_moreGeneral_39 : decode cX9_moreGeneral 39 = .ok (.iload_n 1, 1) := by decide +kernel
theorem dX9_moreGeneral_40 : decode cX9_moreGeneral 40 = .ok (.invokevirtual 129, 3) := by decide +kernel
theorem dX9_moreGeneral_43 : decode cX9_moreGeneral 43 = .ok (.aload_n 0, 1) := by decide +kernel
theorem dX9_moreGeneral_44 : decode cX9_moreGeneral 44 = .ok (.getfield 22, 3) := by decide +kernel
theorem dX9_moreGeneral_47 : decode cX9_moreGeneral 47 = .ok (.iload_n 2, 1) := by decide +kernel
theorem dX9_moreGeneral_48 : decode cX9_moreGeneral 48 = .ok (.invokevirtual 129, 3) := by decide +kernel
theorem dX9_moreGeneral_51 : decode cX9_moreGeneral 51 = .ok (.invokevirtual 170, 3) := by decide +kernel
theorem dX9_moreGeneral_54 : decode cX9_moreGeneral 54 = .ok (.ifCond .eq 5, 3) := by decide +kernel
theorem dX9_moreGeneral_57 : decode cX9_moreGeneral 57 = .ok (.iload_n 2, 1) := by decide +kernel
theorem dX9_moreGeneral_58 : decode cX9_moreGeneral 58 = .ok (.ireturn, 1) := by decide +kernel
theorem dX9_moreGeneral_59 : decode cX9_moreGeneral 59 = .ok (.iinc 2 1, 3) := by decide +kernel
theorem dX9_moreGeneral_62 : decode cX9_moreGeneral 62 = .ok (.goto (-47), 3) := by decide +kernel
theorem dX9_moreGeneral_65 : decode cX9_moreGeneral 65 = .ok (.bipush (-4), 2) := by decide +kernel
theorem dX9_moreGeneral_67 : decode cX9_moreGeneral 67 = .ok (.ireturn, 1) := by decide +kernel
def kX9_moreGeneral_59 (N : Nat) (rec : Int32 → qM → Option ((qM) ⊕ (Int32 × qM))) (v0 : Nat) (v1 : Int32) (v2 : Int32)  (m0 : qM) : Option ((qM) ⊕ (Int32 × qM)) :=
  rec (v2 + (1 : Int32)) m0
set_option maxRecDepth 100000 in
theorem kbX9_moreGeneral_59 {E : qE} {N d bc bs : Nat} (hd : 2 ≤ d) {v0 : Nat} {v1 : Int32} {v2 : Int32}  {m0 : qM} {rec : Int32 → qM → Option ((qM) ⊕ (Int32 × qM))} (hrec : ∀ (v2 : Int32) (m : qM), qB E yX9_moreGeneral cX9_moreGeneral 3 (some .int) (fun _ => True) d bc bs 15 [(0, .ref (E.2.1 + v0)), (1, .int v1), (2, .int v2)] [] m (rec v2 m) (qGL (fun o rr => qJ E yX9_moreGeneral cX9_moreGeneral 3 (some .int) (fun _ => True) d bc bs 65 [] [] o rr) (fun r => (some (.int r.1), r.2)))) : qB E yX9_moreGeneral cX9_moreGeneral 3 (some .int) (fun _ => True) d bc bs 59 [(0, .ref (E.2.1 + v0)), (1, .int v1), (2, .int v2)] [] m0 (kX9_moreGeneral_59 N rec v0 v1 v2 m0) (qGL (fun o rr => qJ E yX9_moreGeneral cX9_moreGeneral 3 (some .int) (fun _ => True) d bc bs 65 [] [] o rr) (fun r => (some (.int r.1), r.2))) := by
  unfold kX9_moreGeneral_59
  refine j_iinc (q := 2) (np := 62) (lv2 := [(2, .int (v2 + (1 : Int32))), (0, .ref (E.2.1 + v0)), (1, .int v1)]) rfl (congrArg _ ci_1) (by decide) dX9_moreGeneral_59 rfl rfl ?_
  refine j_goto (tgt := 15) dX9_moreGeneral_62 rfl ?_
  refine j_sub (lv2 := [(0, .ref (E.2.1 + v0)), (1, .int v1), (2, .int (v2 + (1 : Int32)))]) [1, 2, 0] rfl ?_
  exact hrec _ _
def lX9_moreGeneral_15 (N : Nat) (v0 : Nat) (v1 : Int32) : Nat → Int32 → qM → Option ((qM) ⊕ (Int32 × qM))
  | 0, _, _ => none
  | n + 1, v2, m0 =>
    (qgR m0 v0 9 2).bind fun x1 =>
    (qChk m0 x1 1 (fX1_count N x1 m0)).bind fun b2 =>
    if b2.1 ≤ v2 then (
    some (.inl b2.2)
    ) else (
    if v2 = v1 then (
    kX9_moreGeneral_59 N (lX9_moreGeneral_15 N v0 v1 n) v0 v1 v2 b2.2
    ) else (
    (qgR b2.2 v0 9 4).bind fun x3 =>
    (qgR b2.2 v0 9 2).bind fun x4 =>
    (qChk b2.2 x4 1 (fX1_at N x4 v1 b2.2)).bind fun b5 =>
    (qgR b5.2 v0 9 2).bind fun x6 =>
    (qChk b5.2 x6 1 (fX1_at N x6 v2 b5.2)).bind fun b7 =>
    (qChk b7.2 x3 3 (fX3_matches N x3 b5.1 b7.1 b7.2)).bind fun b8 =>
    if b8.1 = 0 then (
    kX9_moreGeneral_59 N (lX9_moreGeneral_15 N v0 v1 n) v0 v1 v2 b8.2
    ) else (
    some (.inr (v2, b8.2))
    )
    )
    )
set_option maxRecDepth 100000 in
theorem lbX9_moreGeneral_15 {E : qE} {N d bc bs : Nat} (hd : 2 ≤ d) {v0 : Nat} {v1 : Int32} : ∀ (n : Nat) (v2 : Int32) (m0 : qM), qB E yX9_moreGeneral cX9_moreGeneral 3 (some .int) (fun _ => True) d bc bs 15 [(0, .ref (E.2.1 + v0)), (1, .int v1), (2, .int v2)] [] m0 (lX9_moreGeneral_15 N v0 v1 n v2 m0) (qGL (fun o rr => qJ E yX9_moreGeneral cX9_moreGeneral 3 (some .int) (fun _ => True) d bc bs 65 [] [] o rr) (fun r => (some (.int r.1), r.2))) := by
  intro n
  induction n with
  | zero =>
    intro v2 m0
    exact j_none
  | succ n ih =>
    intro v2 m0
    unfold lX9_moreGeneral_15
    refine j_iload_n (q := 2) (np := 16) rfl rfl dX9_moreGeneral_15 rfl ?_
    refine j_aload_n (q := 0) (np := 17) rfl rfl dX9_moreGeneral_16 rfl ?_
    refine j_gR (np := 20) flX9_22 dX9_moreGeneral_17 rfl (fun x1 => ?_)
    refine j_callVi (ci := 1) (np := 23) (bc := bc) (bs := bs) (cb := 0) (cs := 0) (dd := d - 1) (As := []) (st := [.int v2]) caX1_count mlX9_114 imX1_count seX1_count rfl rfl (by decide) (fun b hb => wX1_count (by omega) hb) (by omega) rfl rfl (Nat.le_of_ble_eq_true rfl) dX9_moreGeneral_20 rfl (fun b2 => ?_)
    refine j_icmp_ge (tgt := 65) (np := 26) dX9_moreGeneral_23 rfl rfl ?_ ?_
    · refine j_sub (lv2 := []) [] rfl ?_
      exact j_exit (fun rr h => h)
    · refine j_iload_n (q := 2) (np := 27) rfl rfl dX9_moreGeneral_26 rfl ?_
      refine j_iload_n (q := 1) (np := 28) rfl rfl dX9_moreGeneral_27 rfl ?_
      refine j_icmp_eq (tgt := 59) (np := 31) dX9_moreGeneral_28 rfl rfl ?_ ?_
      · exact kbX9_moreGeneral_59 hd ih
      · refine j_aload_n (q := 0) (np := 32) rfl rfl dX9_moreGeneral_31 rfl ?_
        refine j_gR (np := 35) flX9_36 dX9_moreGeneral_32 rfl (fun x3 => ?_)
        refine j_aload_n (q := 0) (np := 36) rfl rfl dX9_moreGeneral_35 rfl ?_
        refine j_gR (np := 39) flX9_22 dX9_moreGeneral_36 rfl (fun x4 => ?_)
        refine j_iload_n (q := 1) (np := 40) rfl rfl dX9_moreGeneral_39 rfl ?_
        refine j_callVr (ci := 1) (np := 43) (bc := bc) (bs := bs) (cb := 0) (cs := 0) (dd := d - 1) (As := [.int v1]) (st := [.ref (E.2.1 + x3)]) caX1_at mlX9_129 imX1_at seX1_at rfl rfl (by decide) (fun b hb => wX1_at (by omega) hb) (by omega) rfl rfl (Nat.le_of_ble_eq_true rfl) dX9_moreGeneral_40 rfl (fun b5 => ?_)
        refine j_aload_n (q := 0) (np := 44) rfl rfl dX9_moreGeneral_43 rfl ?_
        refine j_gR (np := 47) flX9_22 dX9_moreGeneral_44 rfl (fun x6 => ?_)
        refine j_iload_n (q := 2) (np := 48) rfl rfl dX9_moreGeneral_47 rfl ?_
        refine j_callVr (ci := 1) (np := 51) (bc := bc) (bs := bs) (cb := 0) (cs := 0) (dd := d - 1) (As := [.int v2]) (st := [.ref (E.2.1 + b5.1), .ref (E.2.1 + x3)]) caX1_at mlX9_129 imX1_at seX1_at rfl rfl (by decide) (fun b hb => wX1_at (by omega) hb) (by omega) rfl rfl (Nat.le_of_ble_eq_true rfl) dX9_moreGeneral_48 rfl (fun b7 => ?_)
        refine j_callVi (ci := 3) (np := 54) (bc := bc) (bs := bs) (cb := 0) (cs := 0) (dd := d - 1) (As := [.ref (E.2.1 + b5.1), .ref (E.2.1 + b7.1)]) (st := []) caX3_matches mlX9_170 imX3_matches seX3_matches rfl rfl (by decide) (fun b hb => wX3_matches (by omega) hb) (by omega) rfl rfl (Nat.le_of_ble_eq_true rfl) dX9_moreGeneral_51 rfl (fun b8 => ?_)
        refine j_if_eq (tgt := 59) (np := 57) dX9_moreGeneral_54 rfl rfl ?_ ?_
        · exact kbX9_moreGeneral_59 hd ih
        · refine j_iload_n (q := 2) (np := 58) rfl rfl dX9_moreGeneral_57 rfl ?_
          exact j_iret rfl dX9_moreGeneral_58 (fun rr h => h)
def fX9_moreGeneral (N : Nat) (v0 : Nat) (v1 : Int32) (m0 : qM) : Option (Int32 × qM) :=
  (qgR m0 v0 9 2).bind fun x1 =>
  (qChk m0 x1 1 (fX1_has N x1 v1 m0)).bind fun b2 =>
  if b2.1 = 0 then (
  some ((-1 : Int32), b2.2)
  ) else (
  qTh (lX9_moreGeneral_15 N v0 v1 N (0 : Int32) b2.2) (fun o3 =>
  some ((-4 : Int32), o3)
  ) (fun r => r)
  )
set_option maxRecDepth 100000 in
theorem bX9_moreGeneral {E : qE} {N d bc bs : Nat} (hd : 2 ≤ d) {v0 : Nat} {v1 : Int32} {m0 : qM} : qB E yX9_moreGeneral cX9_moreGeneral 3 (some .int) (fun _ => True) d bc bs 0 [(0, .ref (E.2.1 + v0)), (1, .int v1)] [] m0 (fX9_moreGeneral N v0 v1 m0) (fun b rr => rr = (some (.int b.1), b.2)) := by
  unfold fX9_moreGeneral
  refine j_aload_n (q := 0) (np := 1) rfl rfl dX9_moreGeneral_0 rfl ?_
  refine j_gR (np := 4) flX9_22 dX9_moreGeneral_1 rfl (fun x1 => ?_)
  refine j_iload_n (q := 1) (np := 5) rfl rfl dX9_moreGeneral_4 rfl ?_
  refine j_callVi (ci := 1) (np := 8) (bc := bc) (bs := bs) (cb := 0) (cs := 0) (dd := d - 1) (As := [.int v1]) (st := []) caX1_has mlX9_106 imX1_has seX1_has rfl rfl (by decide) (fun b hb => wX1_has (by omega) hb) (by omega) rfl rfl (Nat.le_of_ble_eq_true rfl) dX9_moreGeneral_5 rfl (fun b2 => ?_)
  refine j_if_ne (tgt := 13) (np := 11) dX9_moreGeneral_8 rfl rfl ?_ ?_
  · refine j_iconst (np := 14) ci_0 dX9_moreGeneral_13 rfl ?_
    refine j_istore_n (np := 15) (lv2 := [(2, .int (0 : Int32)), (0, .ref (E.2.1 + v0)), (1, .int v1)]) rfl (by decide) dX9_moreGeneral_14 rfl rfl ?_
    refine j_sub (lv2 := [(0, .ref (E.2.1 + v0)), (1, .int v1), (2, .int (0 : Int32))]) [1, 2, 0] rfl ?_
    refine j_loopG (xp := 65) (lvX := fun o3 => []) (mX := fun o3 => o3) (lbX9_moreGeneral_15 hd _ _ _) (fun r rr h => h) (fun o3 => ?_)
    refine j_bipush (np := 67) cb_m4 dX9_moreGeneral_65 rfl ?_
    exact j_iret rfl dX9_moreGeneral_67 (fun rr h => h)
  · refine j_iconst (np := 12) ci_m1 dX9_moreGeneral_11 rfl ?_
    exact j_iret rfl dX9_moreGeneral_12 (fun rr h => h)
set_option maxRecDepth 100000 in
theorem wX9_moreGeneral {E : qE} {N d : Nat} (hd : 2 ≤ d) {v0 : Nat} {v1 : Int32} {m0 : qM} {b : Int32 × qM} (h : fX9_moreGeneral N v0 v1 m0 = some b) : qRun E yX9_moreGeneral cX9_moreGeneral 3 (some .int) d 0 0 [.ref (E.2.1 + v0), .int v1] m0 (some (.int b.1), b.2) := q_met pnX9 (Nat.le_of_ble_eq_true rfl) (bX9_moreGeneral hd b _ h rfl)
theorem dX9_unify_0 : decode cX9_unify 0 = .ok (.aload_n 0, 1) := by decide +kernel
theorem dX9_unify_1 : decode cX9_unify 1 = .ok (.getfield 22, 3) := by decide +kernel
theorem dX9_unify_4 : decode cX9_unify 4 = .ok (.iload_n 1, 1) := by decide +kernel
theorem dX9_unify_5 : decode cX9_unify 5 = .ok (.invokevirtual 106, 3) := by decide +kernel
theorem dX9_unify_8 : decode cX9_unify 8 = .ok (.ifCond .eq 14, 3) := by decide +kernel
theorem dX9_unify_11 : decode cX9_unify 11 = .ok (.aload_n 0, 1) := by decide +kernel
theorem dX9_unify_12 : decode cX9_unify 12 = .ok (.getfield 22, 3) := by decide +kernel
theorem dX9_unify_15 : decode cX9_unify 15 = .ok (.iload_n 2, 1) := by decide +kernel
theorem dX9_unify_16 : decode cX9_unify 16 = .ok (.invokevirtual 106, 3) := by decide +kernel
theorem dX9_unify_19 : decode cX9_unify 19 = .ok (.ifCond .ne 5, 3) := by decide +kernel
theorem dX9_unify_22 : decode cX9_unify 22 = .ok (.iconst (-1), 1) := by decide +kernel
theorem dX9_unify_23 : decode cX9_unify 23 = .ok (.ireturn, 1) := by decide +kernel
theorem dX9_unify_24 : decode cX9_unify 24 = .ok (.aload_n 0, 1) := by decide +kernel
theorem dX9_unify_25 : decode cX9_unify 25 = .ok (.getfield 29, 3) := by decide +kernel
theorem dX9_unify_28 : decode cX9_unify 28 = .ok (.aload_n 0, 1) := by decide +kernel
theorem dX9_unify_29 : decode cX9_unify 29 = .ok (.getfield 22, 3) := by decide +kernel
theorem dX9_unify_32 : decode cX9_unify 32 = .ok (.iload_n 1, 1) := by decide +kernel
theorem dX9_unify_33 : decode cX9_unify 33 = .ok (.invokevirtual 129, 3) := by decide +kernel
theorem dX9_unify_36 : decode cX9_unify 36 = .ok (.aload_n 0, 1) := by decide +kernel
theorem dX9_unify_37 : decode cX9_unify 37 = .ok (.getfield 22, 3) := by decide +kernel
theorem dX9_unify_40 : decode cX9_unify 40 = .ok (.iload_n 2, 1) := by decide +kernel
theorem dX9_unify_41 : decode cX9_unify 41 = .ok (.invokevirtual 129, 3) := by decide +kernel
theorem dX9_unify_44 : decode cX9_unify 44 = .ok (.aload_n 0, 1) := by decide +kernel
theorem dX9_unify_45 : decode cX9_unify 45 = .ok (.getfield 77, 3) := by decide +kernel
theorem dX9_unify_48 : decode cX9_unify 48 = .ok (.invokevirtual 174, 3) := by decide +kernel
theorem dX9_unify_51 : decode cX9_unify 51 = .ok (.istore_n 3, 1) := by decide +kernel
theorem dX9_unify_52 : decode cX9_unify 52 = .ok (.iload_n 3, 1) := by decide +kernel
theorem dX9_unify_53 : decode cX9_unify 53 = .ok (.ifCond .ne 14, 3) := by decide +kernel
theorem dX9_unify_56 : decode cX9_unify 56 = .ok (.aload_n 0, 1) := by decide +kernel
theorem dX9_unify_57 : decode cX9_unify 57 = .ok (.aload_n 0, 1) := by decide +kernel
theorem dX9_unify_58 : decode cX9_unify 58 = .ok (.getfield 77, 3) := by decide +kernel
theorem dX9_unify_61 : decode cX9_unify 61 = .ok (.invokevirtual 155, 3) := by decide +kernel
theorem dX9_unify_64 : decode cX9_unify 64 = .ok (.goto 4, 3) := by decide +kernel
theorem dX9_unify_67 : decode cX9_unify 67 = .ok (.iload_n 3, 1) := by decide +kernel
theorem dX9_unify_68 : decode cX9_unify 68 = .ok (.ireturn, 1) := by decide +kernel
def fX9_unify (N : Nat) (v0 : Nat) (v1 : Int32) (v2 : Int32) (m0 : qM) : Option (Int32 × qM) :=
  (qgR m0 v0 9 2).bind fun x1 =>
  (qChk m0 x1 1 (fX1_has N x1 v1 m0)).bind fun b2 =>
  if b2.1 = 0 then (
  some ((-1 : Int32), b2.2)
  ) else (
  (qgR b2.2 v0 9 2).bind fun x3 =>
  (qChk b2.2 x3 1 (fX1_has N x3 v2 b2.2)).bind fun b4 =>
  if b4.1 = 0 then (
  some ((-1 : Int32), b4.2)
  ) else (
  (qgR b4.2 v0 9 3).bind fun x5 =>
  (qgR b4.2 v0 9 2).bind fun x6 =>
  (qChk b4.2 x6 1 (fX1_at N x6 v1 b4.2)).bind fun b7 =>
  (qgR b7.2 v0 9 2).bind fun x8 =>
  (qChk b7.2 x8 1 (fX1_at N x8 v2 b7.2)).bind fun b9 =>
  (qgR b9.2 v0 9 10).bind fun x10 =>
  (qChk b9.2 x5 8 (fX8_unifyInto N x5 b7.1 b9.1 x10 b9.2)).bind fun b11 =>
  if b11.1 = 0 then (
  (qgR b11.2 v0 9 10).bind fun x12 =>
  (qChk b11.2 v0 9 (fX9_outputFormula N v0 x12 b11.2)).bind fun b13 =>
  some (b13.1, b13.2)
  ) else (
  some (b11.1, b11.2)
  )
  )
  )
set_option maxRecDepth 100000 in
theorem bX9_unify {E : qE} {N d bc bs : Nat} (hd : 4 ≤ d) {v0 : Nat} {v1 : Int32} {v2 : Int32} {m0 : qM} : qB E yX9_unify cX9_unify 4 (some .int) (fun _ => True) d bc bs 0 [(0, .ref (E.2.1 + v0)), (1, .int v1), (2, .int v2)] [] m0 (fX9_unify N v0 v1 v2 m0) (fun b rr => rr = (some (.int b.1), b.2)) := by
  unfold fX9_unify
  refine j_aload_n (q := 0) (np := 1) rfl rfl dX9_unify_0 rfl ?_
  refine j_gR (np := 4) flX9_22 dX9_unify_1 rfl (fun x1 => ?_)
  refine j_iload_n (q := 1) (np := 5) rfl rfl dX9_unify_4 rfl ?_
  refine j_callVi (ci := 1) (np := 8) (bc := bc) (bs := bs) (cb := 0) (cs := 0) (dd := d - 1) (As := [.int v1]) (st := []) caX1_has mlX9_106 imX1_has seX1_has rfl rfl (by decide) (fun b hb => wX1_has (by omega) hb) (by omega) rfl rfl (Nat.le_of_ble_eq_true rfl) dX9_unify_5 rfl (fun b2 => ?_)
  refine j_if_eq (tgt := 22) (np := 11) dX9_unify_8 rfl rfl ?_ ?_
  · refine j_iconst (np := 23) ci_m1 dX9_unify_22 rfl ?_
    exact j_iret rfl dX9_unify_23 (fun rr h => h)
  · refine j_aload_n (q := 0) (np := 12) rfl rfl dX9_unify_11 rfl ?_
    refine j_gR (np := 15) flX9_22 dX9_unify_12 rfl (fun x3 => ?_)
    refine j_iload_n (q := 2) (np := 16) rfl rfl dX9_unify_15 rfl ?_
    refine j_callVi (ci := 1) (np := 19) (bc := bc) (bs := bs) (cb := 0) (cs := 0) (dd := d - 1) (As := [.int v2]) (st := []) caX1_has mlX9_106 imX1_has seX1_has rfl rfl (by decide) (fun b hb => wX1_has (by omega) hb) (by omega) rfl rfl (Nat.le_of_ble_eq_true rfl) dX9_unify_16 rfl (fun b4 => ?_)
    refine j_if_ne (tgt := 24) (np := 22) dX9_unify_19 rfl rfl ?_ ?_
    · refine j_aload_n (q := 0) (np := 25) rfl rfl dX9_unify_24 rfl ?_
      refine j_gR (np := 28) flX9_29 dX9_unify_25 rfl (fun x5 => ?_)
      refine j_aload_n (q := 0) (np := 29) rfl rfl dX9_unify_28 rfl ?_
      refine j_gR (np := 32) flX9_22 dX9_unify_29 rfl (fun x6 => ?_)
      refine j_iload_n (q := 1) (np := 33) rfl rfl dX9_unify_32 rfl ?_
      refine j_callVr (ci := 1) (np := 36) (bc := bc) (bs := bs) (cb := 0) (cs := 0) (dd := d - 1) (As := [.int v1]) (st := [.ref (E.2.1 + x5)]) caX1_at mlX9_129 imX1_at seX1_at rfl rfl (by decide) (fun b hb => wX1_at (by omega) hb) (by omega) rfl rfl (Nat.le_of_ble_eq_true rfl) dX9_unify_33 rfl (fun b7 => ?_)
      refine j_aload_n (q := 0) (np := 37) rfl rfl dX9_unify_36 rfl ?_
      refine j_gR (np := 40) flX9_22 dX9_unify_37 rfl (fun x8 => ?_)
      refine j_iload_n (q := 2) (np := 41) rfl rfl dX9_unify_40 rfl ?_
      refine j_callVr (ci := 1) (np := 44) (bc := bc) (bs := bs) (cb := 0) (cs := 0) (dd := d - 1) (As := [.int v2]) (st := [.ref (E.2.1 + b7.1), .ref (E.2.1 + x5)]) caX1_at mlX9_129 imX1_at seX1_at rfl rfl (by decide) (fun b hb => wX1_at (by omega) hb) (by omega) rfl rfl (Nat.le_of_ble_eq_true rfl) dX9_unify_41 rfl (fun b9 => ?_)
      refine j_aload_n (q := 0) (np := 45) rfl rfl dX9_unify_44 rfl ?_
      refine j_gR (np := 48) flX9_77 dX9_unify_45 rfl (fun x10 => ?_)
      refine j_callVi (ci := 8) (np := 51) (bc := bc) (bs := bs) (cb := 0) (cs := 0) (dd := d - 1) (As := [.ref (E.2.1 + b7.1), .ref (E.2.1 + b9.1), .ref (E.2.1 + x10)]) (st := []) caX8_unifyInto mlX9_174 imX8_unifyInto seX8_unifyInto rfl rfl (by decide) (fun b hb => wX8_unifyInto (by omega) hb) (by omega) rfl rfl (Nat.le_of_ble_eq_true rfl) dX9_unify_48 rfl (fun b11 => ?_)
      refine j_istore_n (np := 52) (lv2 := [(3, .int b11.1), (0, .ref (E.2.1 + v0)), (1, .int v1), (2, .int v2)]) rfl (by decide) dX9_unify_51 rfl rfl ?_
      refine j_iload_n (q := 0) (np := 53) rfl rfl dX9_unify_52 rfl ?_
      refine j_if_ne (tgt := 67) (np := 56) dX9_unify_53 rfl rfl ?_ ?_
      · refine j_iload_n (q := 0) (np := 68) rfl rfl dX9_unify_67 rfl ?_
        exact j_iret rfl dX9_unify_68 (fun rr h => h)
      · refine j_aload_n (q := 1) (np := 57) rfl rfl dX9_unify_56 rfl ?_
        refine j_aload_n (q := 1) (np := 58) rfl rfl dX9_unify_57 rfl ?_
        refine j_gR (np := 61) flX9_77 dX9_unify_58 rfl (fun x12 => ?_)
        refine j_callVi (ci := 9) (np := 64) (bc := bc) (bs := bs) (cb := 0) (cs := 0) (dd := d - 1) (As := [.ref (E.2.1 + x12)]) (st := []) caX9_outputFormula mlX9_155 imX9_outputFormula seX9_outputFormula rfl rfl (by decide) (fun b hb => wX9_outputFormula (by omega) hb) (by omega) rfl rfl (Nat.le_of_ble_eq_true rfl) dX9_unify_61 rfl (fun b13 => ?_)
        refine j_goto (tgt := 68) dX9_unify_64 rfl ?_
        exact j_iret rfl dX9_unify_68 (fun rr h => h)
    · refine j_iconst (np := 23) ci_m1 dX9_unify_22 rfl ?_
      exact j_iret rfl dX9_unify_23 (fun rr h => h)
set_option maxRecDepth 100000 in
theorem wX9_unify {E : qE} {N d : Nat} (hd : 4 ≤ d) {v0 : Nat} {v1 : Int32} {v2 : Int32} {m0 : qM} {b : Int32 × qM} (h : fX9_unify N v0 v1 v2 m0 = some b) : qRun E yX9_unify cX9_unify 4 (some .int) d 0 0 [.ref (E.2.1 + v0), .int v1, .int v2] m0 (some (.int b.1), b.2) := q_met pnX9 (Nat.le_of_ble_eq_true rfl) (bX9_unify hd b _ h rfl)
theorem dX9_tryInRound_0 : decode cX9_tryInRound 0 = .ok (.aload_n 0, 1) := by decide +kernel
theorem dX9_tryInRound_1 : decode cX9_tryInRound 1 = .ok (.getfield 29, 3) := by decide +kernel
theorem dX9_tryInRound_4 : decode cX9_tryInRound 4 = .ok (.aload_n 0, 1) := by decide +kernel
theorem dX9_tryInRound_5 : decode cX9_tryInRound 5 = .ok (.getfield 22, 3) := by decide +kernel
theorem dX9_tryInRound_8 : decode cX9_tryInRound 8 = .ok (.iload_n 1, 1) := by decide +kernel
theorem dX9_tryInRound_9 : decode cX9_tryInRound 9 = .ok (.invokevirtual 129, 3) := by decide +kernel
theorem dX9_tryInRound_12 : decode cX9_tryInRound 12 = .ok (.aload_n 0, 1) := by decide +kernel
theorem dX9_tryInRound_13 : decode cX9_tryInRound 13 = .ok (.getfield 22, 3) := by decide +kernel
theorem dX9_tryInRound_16 : decode cX9_tryInRound 16 = .ok (.iload_n 2, 1) := by decide +kernel
theorem dX9_tryInRound_17 : decode cX9_tryInRound 17 = .ok (.invokevirtual 129, 3) := by decide +kernel
theorem dX9_tryInRound_20 : decode cX9_tryInRound 20 = .ok (.aload_n 0, 1) := by decide +kernel
theorem dX9_tryInRound_21 : decode cX9_tryInRound 21 = .ok (.getfield 77, 3) := by decide +kernel
theorem dX9_tryInRound_24 : decode cX9_tryInRound 24 = .ok (.invokevirtual 270, 3) := by decide +kernel
theorem dX9_tryInRound_27 : decode cX9_tryInRound 27 = .ok (.istore 4, 2) := by decide +kernel
theorem dX9_tryInRound_29 : decode cX9_tryInRound 29 = .ok (.iload 4, 2) := by decide +kernel
theorem dX9_tryInRound_31 : decode cX9_tryInRound 31 = .ok (.ifCond .ne 46, 3) := by decide +kernel
theorem dX9_tryInRound_34 : decode cX9_tryInRound 34 = .ok (.aload_n 0, 1) := by decide +kernel
theorem dX9_tryInRound_35 : decode cX9_tryInRound 35 = .ok (.getfield 77, 3) := by decide +kernel
theorem dX9_tryInRound_38 : decode cX9_tryInRound 38 = .ok (.invokevirtual 133, 3) := by decide +kernel
theorem dX9_tryInRound_41 : decode cX9_tryInRound 41 = .ok (.iload_n 3, 1) := by decide +kernel
theorem dX9_tryInRound_42 : decode cX9_tryInRound 42 = .ok (.if_icmp .gt 35, 3) := by decide +kernel
theorem dX9_tryInRound_45 : decode cX9_tryInRound 45 = .ok (.aload_n 0, 1) := by decide +kernel
theorem dX9_tryInRound_46 : decode cX9_tryInRound 46 = .ok (.getfield 22, 3) := by decide +kernel
theorem dX9_tryInRound_49 : decode cX9_tryInRound 49 = .ok (.aload_n 0, 1) := by decide +kernel
theorem dX9_tryInRound_50 : decode cX9_tryInRound 50 = .ok (.getfield 77, 3) := by decide +kernel
theorem dX9_tryInRound_53 : decode cX9_tryInRound 53 = .ok (.aload_n 0, 1) := by decide +kernel
theorem dX9_tryInRound_54 : decode cX9_tryInRound 54 = .ok (.getfield 36, 3) := by decide +kernel
theorem dX9_tryInRound_57 : decode cX9_tryInRound 57 = .ok (.invokevirtual 280, 3) := by decide +kernel
theorem dX9_tryInRound_60 : decode cX9_tryInRound 60 = .ok (.ifCond .ne 17, 3) := by decide +kernel
theorem dX9_tryInRound_63 : decode cX9_tryInRound 63 = .ok (.aload_n 0, 1) := by decide +kernel
theorem dX9_tryInRound_64 : decode cX9_tryInRound 64 = .ok (.getfield 22, 3) := by decide +kernel
theorem dX9_tryInRound_67 : decode cX9_tryInRound 67 = .ok (.aload_n 0, 1) := by decide +kernel
theorem dX9_tryInRound_68 : decode cX9_tryInRound 68 = .ok (.getfield 77, 3) := by decide +kernel
theorem dX9_tryInRound_71 : decode cX9_tryInRound 71 = .ok (.iload_n 1, 1) := by decide +kernel
theorem dX9_tryInRound_72 : decode cX9_tryInRound 72 = .ok (.iload_n 2, 1) := by decide +kernel
theorem dX9_tryInRound_73 : decode cX9_tryInRound 73 = .ok (.invokevirtual 266, 3) := by decide +kernel
theorem dX9_tryInRound_76 : decode cX9_tryInRound 76 = .ok (.pop, 1) := by decide +kernel
theorem dX9_tryInRound_77 : decode cX9_tryInRound 77 = .ok (.return_, 1) := by decide +kernel
def fX9_tryInRound (N : Nat) (v0 : Nat) (v1 : Int32) (v2 : Int32) (v3 : Int32) (m0 : qM) : Option (qM) :=
  (qgR m0 v0 9 3).bind fun x1 =>
  (qgR m0 v0 9 2).bind fun x2 =>
  (qChk m0 x2 1 (fX1_at N x2 v1 m0)).bind fun b3 =>
  (qgR b3.2 v0 9 2).bind fun x4 =>
  (qChk b3.2 x4 1 (fX1_at N x4 v2 b3.2)).bind fun b5 =>
  (qgR b5.2 v0 9 10).bind fun x6 =>
  (qChk b5.2 x1 8 (fX8_detachInto N x1 b3.1 b5.1 x6 b5.2)).bind fun b7 =>
  if b7.1 = 0 then (
  (qgR b7.2 v0 9 10).bind fun x8 =>
  (qChk b7.2 x8 0 (fX0_size N x8 b7.2)).bind fun b9 =>
  if v3 < b9.1 then (
  some b9.2
  ) else (
  (qgR b9.2 v0 9 2).bind fun x10 =>
  (qgR b9.2 v0 9 10).bind fun x11 =>
  (qgR b9.2 v0 9 4).bind fun x12 =>
  (qChk b9.2 x10 1 (fX1_covers N x10 x11 x12 b9.2)).bind fun b13 =>
  if b13.1 = 0 then (
  (qgR b13.2 v0 9 2).bind fun x14 =>
  (qgR b13.2 v0 9 10).bind fun x15 =>
  (qChk b13.2 x14 1 (fX1_enter N x14 x15 v1 v2 b13.2)).bind fun b16 =>
  some b16.2
  ) else (
  some b13.2
  )
  )
  ) else (
  some b7.2
  )
set_option maxRecDepth 100000 in
theorem bX9_tryInRound {E : qE} {N d bc bs : Nat} (hd : 4 ≤ d) {v0 : Nat} {v1 : Int32} {v2 : Int32} {v3 : Int32} {m0 : qM} : qB E yX9_tryInRound cX9_tryInRound 5 none (fun _ => True) d bc bs 0 [(0, .ref (E.2.1 + v0)), (1, .int v1), (2, .int v2), (3, .int v3)] [] m0 (fX9_tryInRound N v0 v1 v2 v3 m0) (fun b rr => rr = (none, b)) := by
  unfold fX9_tryInRound
  refine j_aload_n (q := 0) (np := 1) rfl rfl dX9_tryInRound_0 rfl ?_
  refine j_gR (np := 4) flX9_29 dX9_tryInRound_1 rfl (fun x1 => ?_)
  refine j_aload_n (q := 0) (np := 5) rfl rfl dX9_tryInRound_4 rfl ?_
  refine j_gR (np := 8) flX9_22 dX9_tryInRound_5 rfl (fun x2 => ?_)
  refine j_iload_n (q := 1) (np := 9) rfl rfl dX9_tryInRound_8 rfl ?_
  refine j_callVr (ci := 1) (np := 12) (bc := bc) (bs := bs) (cb := 0) (cs := 0) (dd := d - 1) (As := [.int v1]) (st := [.ref (E.2.1 + x1)]) caX1_at mlX9_129 imX1_at seX1_at rfl rfl (by decide) (fun b hb => wX1_at (by omega) hb) (by omega) rfl rfl (Nat.le_of_ble_eq_true rfl) dX9_tryInRound_9 rfl (fun b3 => ?_)
  refine j_aload_n (q := 0) (np := 13) rfl rfl dX9_tryInRound_12 rfl ?_
  refine j_gR (np := 16) flX9_22 dX9_tryInRound_13 rfl (fun x4 => ?_)
  refine j_iload_n (q := 2) (np := 17) rfl rfl dX9_tryInRound_16 rfl ?_
  refine j_callVr (ci := 1) (np := 20) (bc := bc) (bs := bs) (cb := 0) (cs := 0) (dd := d - 1) (As := [.int v2]) (st := [.ref (E.2.1 + b3.1), .ref (E.2.1 + x1)]) caX1_at mlX9_129 imX1_at seX1_at rfl rfl (by decide) (fun b hb => wX1_at (by omega) hb) (by omega) rfl rfl (Nat.le_of_ble_eq_true rfl) dX9_tryInRound_17 rfl (fun b5 => ?_)
  refine j_aload_n (q := 0) (np := 21) rfl rfl dX9_tryInRound_20 rfl ?_
  refine j_gR (np := 24) flX9_77 dX9_tryInRound_21 rfl (fun x6 => ?_)
  refine j_callVi (ci := 8) (np := 27) (bc := bc) (bs := bs) (cb := 0) (cs := 0) (dd := d - 1) (As := [.ref (E.2.1 + b3.1), .ref (E.2.1 + b5.1), .ref (E.2.1 + x6)]) (st := []) caX8_detachInto mlX9_270 imX8_detachInto seX8_detachInto rfl rfl (by decide) (fun b hb => wX8_detachInto (by omega) hb) (by omega) rfl rfl (Nat.le_of_ble_eq_true rfl) dX9_tryInRound_24 rfl (fun b7 => ?_)
  refine j_istore (np := 29) (lv2 := [(4, .int b7.1), (0, .ref (E.2.1 + v0)), (1, .int v1), (2, .int v2), (3, .int v3)]) (by decide) dX9_tryInRound_27 rfl rfl ?_
  refine j_iload (q := 0) (np := 31) rfl dX9_tryInRound_29 rfl ?_
  refine j_if_ne (tgt := 77) (np := 34) dX9_tryInRound_31 rfl rfl ?_ ?_
  · exact j_vret rfl dX9_tryInRound_77 (fun rr h => h)
  · refine j_aload_n (q := 1) (np := 35) rfl rfl dX9_tryInRound_34 rfl ?_
    refine j_gR (np := 38) flX9_77 dX9_tryInRound_35 rfl (fun x8 => ?_)
    refine j_callVi (ci := 0) (np := 41) (bc := bc) (bs := bs) (cb := 0) (cs := 0) (dd := d - 1) (As := []) (st := []) caX0_size mlX9_133 imX0_size seX0_size rfl rfl (by decide) (fun b hb => wX0_size (by omega) hb) (by omega) rfl rfl (Nat.le_of_ble_eq_true rfl) dX9_tryInRound_38 rfl (fun b9 => ?_)
    refine j_iload_n (q := 4) (np := 42) rfl rfl dX9_tryInRound_41 rfl ?_
    refine j_icmp_gt (tgt := 77) (np := 45) dX9_tryInRound_42 rfl rfl ?_ ?_
    · exact j_vret rfl dX9_tryInRound_77 (fun rr h => h)
    · refine j_aload_n (q := 1) (np := 46) rfl rfl dX9_tryInRound_45 rfl ?_
      refine j_gR (np := 49) flX9_22 dX9_tryInRound_46 rfl (fun x10 => ?_)
      refine j_aload_n (q := 1) (np := 50) rfl rfl dX9_tryInRound_49 rfl ?_
      refine j_gR (np := 53) flX9_77 dX9_tryInRound_50 rfl (fun x11 => ?_)
      refine j_aload_n (q := 1) (np := 54) rfl rfl dX9_tryInRound_53 rfl ?_
      refine j_gR (np := 57) flX9_36 dX9_tryInRound_54 rfl (fun x12 => ?_)
      refine j_callVi (ci := 1) (np := 60) (bc := bc) (bs := bs) (cb := 0) (cs := 0) (dd := d - 1) (As := [.ref (E.2.1 + x11), .ref (E.2.1 + x12)]) (st := []) caX1_covers mlX9_280 imX1_covers seX1_covers rfl rfl (by decide) (fun b hb => wX1_covers (by omega) hb) (by omega) rfl rfl (Nat.le_of_ble_eq_true rfl) dX9_tryInRound_57 rfl (fun b13 => ?_)
      refine j_if_ne (tgt := 77) (np := 63) dX9_tryInRound_60 rfl rfl ?_ ?_
      · exact j_vret rfl dX9_tryInRound_77 (fun rr h => h)
      · refine j_aload_n (q := 1) (np := 64) rfl rfl dX9_tryInRound_63 rfl ?_
        refine j_gR (np := 67) flX9_22 dX9_tryInRound_64 rfl (fun x14 => ?_)
        refine j_aload_n (q := 1) (np := 68) rfl rfl dX9_tryInRound_67 rfl ?_
        refine j_gR (np := 71) flX9_77 dX9_tryInRound_68 rfl (fun x15 => ?_)
        refine j_iload_n (q := 2) (np := 72) rfl rfl dX9_tryInRound_71 rfl ?_
        refine j_iload_n (q := 3) (np := 73) rfl rfl dX9_tryInRound_72 rfl ?_
        refine j_callVi (ci := 1) (np := 76) (bc := bc) (bs := bs) (cb := 0) (cs := 0) (dd := d - 1) (As := [.ref (E.2.1 + x15), .int v1, .int v2]) (st := []) caX1_enter mlX9_266 imX1_enter seX1_enter rfl rfl (by decide) (fun b hb => wX1_enter (by omega) hb) (by omega) rfl rfl (Nat.le_of_ble_eq_true rfl) dX9_tryInRound_73 rfl (fun b16 => ?_)
        refine j_pop (np := 77) rfl dX9_tryInRound_76 rfl ?_
        exact j_vret rfl dX9_tryInRound_77 (fun rr h => h)
set_option maxRecDepth 100000 in
theorem wX9_tryInRound {E : qE} {N d : Nat} (hd : 4 ≤ d) {v0 : Nat} {v1 : Int32} {v2 : Int32} {v3 : Int32} {m0 : qM} {b : qM} (h : fX9_tryInRound N v0 v1 v2 v3 m0 = some b) : qRun E yX9_tryInRound cX9_tryInRound 5 none d 0 0 [.ref (E.2.1 + v0), .int v1, .int v2, .int v3] m0 (none, b) := q_met pnX9 (Nat.le_of_ble_eq_true rfl) (bX9_tryInRound hd b _ h rfl)
