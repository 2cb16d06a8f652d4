def qGL {β γ : Type} (X : β → qRR → Prop) (F : γ → qRR) : β ⊕ γ → qRR → Prop := fun o rr => match o with
  | .inl b => X b rr
  | .inr r => rr = F r
theorem z0 : (0 : Int32) &&& 1 = 0 := by decide
theorem z1 : (1 : Int32) &&& 1 = 1 := by decide
section JMORE
variable {E : qE} {y : MethodName} {cc : ByteArray} {nL : Nat} {ret : Option FieldType} {Ex : State → Prop} {d bc bs pc : Nat} {lv : List (Nat × Value)} {st : List Value} {m : qM} {α : Type} {P : Option α} {G : α → qRR → Prop}
theorem j_loopG {β γ : Type} {b1 b2 xp : Nat} {L : Option (β ⊕ γ)} {K : β → Option α} {w : γ → α} {fin : γ → qRR} {lvX : β → List (Nat × Value)} {mX : β → qM} (hL : qB E y cc nL ret Ex d b1 b2 pc lv [] m L (qGL (fun b rr => qJ E y cc nL ret Ex d bc bs xp (lvX b) [] (mX b) rr) fin)) (hw : ∀ r rr, G (w r) rr → rr = fin r) (kk : ∀ o : β, qB E y cc nL ret Ex d bc bs xp (lvX o) [] (mX o) (K o) G) : qB E y cc nL ret Ex d b1 b2 pc lv [] m (qTh L K w) G := by
  intro a rr hP hG
  unfold qTh at hP
  cases hLo : L with
  | none => rw [hLo] at hP; cases hP
  | some o =>
    rw [hLo] at hP
    cases o with
    | inl b => exact hL _ rr hLo (kk b a rr hP hG)
    | inr r =>
      have hP2 : w r = a := Option.some.inj hP
      subst hP2
      exact hL _ rr hLo (hw r rr hG)
theorem j_callVi {np idx n cb cs ci a dd nL2 : Nat} {y2 : MethodName} {cc2 : ByteArray} {ret2 : Option FieldType} {As st2 : List Value} {r0 : vw_C} {F : Option (Int32 × qM)} {K : Int32 × qM → Option α}
    (hcal : qCal y2 cc2 nL2 ret2 n) (hlk : Cond.methodLink y.cls idx y2 ∈ qTb) (him : Cond.instanceMethod y2 ∈ qTb) (hsel : Cond.selects y2.cls y2 y2 ∈ qTb) (hci : vwCl[ci]? = some r0) (hci2 : r0.1 = y2.cls) (hci3 : ci < 11)
    (hrun : ∀ b, F = some b → qRun E y2 cc2 nL2 ret2 dd cb cs (.ref (E.2.1 + a) :: As) m (some (.int b.1), b.2)) (hd : dd + 1 ≤ d) (hAs : As.length = n) (hst : st2 = As.reverse ++ .ref (E.2.1 + a) :: st) (hw : (st.map fun v => v.category).sum ≤ 8) (hdg : decode cc pc = .ok (.invokevirtual idx, 3)) (hn : pc + 3 = np)
    (kk : ∀ b : Int32 × qM, qB E y cc nL ret Ex d bc bs np lv (.int b.1 :: st) b.2 (K b) G) : qB E y cc nL ret Ex d (bc + cb) (bs + cs) pc lv st2 m ((qChk m a ci F).bind K) G :=
  j_callVc (val := fun b => some (.int b.1)) (mem := fun b => b.2) hcal hlk him hsel hci hci2 hci3 hrun hd hAs hst hw hdg hn kk
theorem j_callSi {np idx n cb cs dd nL2 : Nat} {y2 : MethodName} {cc2 : ByteArray} {ret2 : Option FieldType} {As st2 : List Value} {F : Option (Int32 × qM)} {K : Int32 × qM → Option α}
    (hcal : qCal y2 cc2 nL2 ret2 n) (hlk : Cond.methodLink y.cls idx y2 ∈ qTb) (him : Cond.static y2 ∈ qTb)
    (hrun : ∀ b, F = some b → qRun E y2 cc2 nL2 ret2 dd cb cs As m (some (.int b.1), b.2)) (hd : dd + 1 ≤ d) (hAs : As.length = n) (hst : st2 = As.reverse ++ st) (hw : (st.map fun v => v.category).sum ≤ 8) (hdg : decode cc pc = .ok (.invokestatic idx, 3)) (hn : pc + 3 = np)
    (kk : ∀ b : Int32 × qM, qB E y cc nL ret Ex d bc bs np lv (.int b.1 :: st) b.2 (K b) G) : qB E y cc nL ret Ex d (bc + cb) (bs + cs) pc lv st2 m (F.bind K) G :=
  j_callS (val := fun b => some (.int b.1)) (mem := fun b => b.2) hcal hlk him hrun hd hAs hst hw hdg hn kk
theorem j_callVl {np idx n cb cs ci a dd nL2 : Nat} {y2 : MethodName} {cc2 : ByteArray} {ret2 : Option FieldType} {As st2 : List Value} {r0 : vw_C} {F : Option (Int64 × qM)} {K : Int64 × qM → Option α}
    (hcal : qCal y2 cc2 nL2 ret2 n) (hlk : Cond.methodLink y.cls idx y2 ∈ qTb) (him : Cond.instanceMethod y2 ∈ qTb) (hsel : Cond.selects y2.cls y2 y2 ∈ qTb) (hci : vwCl[ci]? = some r0) (hci2 : r0.1 = y2.cls) (hci3 : ci < 11)
    (hrun : ∀ b, F = some b → qRun E y2 cc2 nL2 ret2 dd cb cs (.ref (E.2.1 + a) :: As) m (some (.long b.1), b.2)) (hd : dd + 1 ≤ d) (hAs : As.length = n) (hst : st2 = As.reverse ++ .ref (E.2.1 + a) :: st) (hw : (st.map fun v => v.category).sum ≤ 8) (hdg : decode cc pc = .ok (.invokevirtual idx, 3)) (hn : pc + 3 = np)
    (kk : ∀ b : Int64 × qM, qB E y cc nL ret Ex d bc bs np lv (.long b.1 :: st) b.2 (K b) G) : qB E y cc nL ret Ex d (bc + cb) (bs + cs) pc lv st2 m ((qChk m a ci F).bind K) G :=
  j_callVc (val := fun b => some (.long b.1)) (mem := fun b => b.2) hcal hlk him hsel hci hci2 hci3 hrun hd hAs hst hw hdg hn kk
theorem j_callSl {np idx n cb cs dd nL2 : Nat} {y2 : MethodName} {cc2 : ByteArray} {ret2 : Option FieldType} {As st2 : List Value} {F : Option (Int64 × qM)} {K : Int64 × qM → Option α}
    (hcal : qCal y2 cc2 nL2 ret2 n) (hlk : Cond.methodLink y.cls idx y2 ∈ qTb) (him : Cond.static y2 ∈ qTb)
    (hrun : ∀ b, F = some b → qRun E y2 cc2 nL2 ret2 dd cb cs As m (some (.long b.1), b.2)) (hd : dd + 1 ≤ d) (hAs : As.length = n) (hst : st2 = As.reverse ++ st) (hw : (st.map fun v => v.category).sum ≤ 8) (hdg : decode cc pc = .ok (.invokestatic idx, 3)) (hn : pc + 3 = np)
    (kk : ∀ b : Int64 × qM, qB E y cc nL ret Ex d bc bs np lv (.long b.1 :: st) b.2 (K b) G) : qB E y cc nL ret Ex d (bc + cb) (bs + cs) pc lv st2 m (F.bind K) G :=
  j_callS (val := fun b => some (.long b.1)) (mem := fun b => b.2) hcal hlk him hrun hd hAs hst hw hdg hn kk
theorem j_callVr {np idx n cb cs ci a dd nL2 : Nat} {y2 : MethodName} {cc2 : ByteArray} {ret2 : Option FieldType} {As st2 : List Value} {r0 : vw_C} {F : Option (Nat × qM)} {K : Nat × qM → Option α}
    (hcal : qCal y2 cc2 nL2 ret2 n) (hlk : Cond.methodLink y.cls idx y2 ∈ qTb) (him : Cond.instanceMethod y2 ∈ qTb) (hsel : Cond.selects y2.cls y2 y2 ∈ qTb) (hci : vwCl[ci]? = some r0) (hci2 : r0.1 = y2.cls) (hci3 : ci < 11)
    (hrun : ∀ b, F = some b → qRun E y2 cc2 nL2 ret2 dd cb cs (.ref (E.2.1 + a) :: As) m (some (.ref (E.2.1 + b.1)), b.2)) (hd : dd + 1 ≤ d) (hAs : As.length = n) (hst : st2 = As.reverse ++ .ref (E.2.1 + a) :: st) (hw : (st.map fun v => v.category).sum ≤ 8) (hdg : decode cc pc = .ok (.invokevirtual idx, 3)) (hn : pc + 3 = np)
    (kk : ∀ b : Nat × qM, qB E y cc nL ret Ex d bc bs np lv (.ref (E.2.1 + b.1) :: st) b.2 (K b) G) : qB E y cc nL ret Ex d (bc + cb) (bs + cs) pc lv st2 m ((qChk m a ci F).bind K) G :=
  j_callVc (val := fun b => some (.ref (E.2.1 + b.1))) (mem := fun b => b.2) hcal hlk him hsel hci hci2 hci3 hrun hd hAs hst hw hdg hn kk
theorem j_callSr {np idx n cb cs dd nL2 : Nat} {y2 : MethodName} {cc2 : ByteArray} {ret2 : Option FieldType} {As st2 : List Value} {F : Option (Nat × qM)} {K : Nat × qM → Option α}
    (hcal : qCal y2 cc2 nL2 ret2 n) (hlk : Cond.methodLink y.cls idx y2 ∈ qTb) (him : Cond.static y2 ∈ qTb)
    (hrun : ∀ b, F = some b → qRun E y2 cc2 nL2 ret2 dd cb cs As m (some (.ref (E.2.1 + b.1)), b.2)) (hd : dd + 1 ≤ d) (hAs : As.length = n) (hst : st2 = As.reverse ++ st) (hw : (st.map fun v => v.category).sum ≤ 8) (hdg : decode cc pc = .ok (.invokestatic idx, 3)) (hn : pc + 3 = np)
    (kk : ∀ b : Nat × qM, qB E y cc nL ret Ex d bc bs np lv (.ref (E.2.1 + b.1) :: st) b.2 (K b) G) : qB E y cc nL ret Ex d (bc + cb) (bs + cs) pc lv st2 m (F.bind K) G :=
  j_callS (val := fun b => some (.ref (E.2.1 + b.1))) (mem := fun b => b.2) hcal hlk him hrun hd hAs hst hw hdg hn kk
theorem j_callVs {np idx n cb cs ci a dd nL2 : Nat} {y2 : MethodName} {cc2 : ByteArray} {ret2 : Option FieldType} {As st2 : List Value} {r0 : vw_C} {F : Option (Nat × qM)} {K : Nat × qM → Option α}
    (hcal : qCal y2 cc2 nL2 ret2 n) (hlk : Cond.methodLink y.cls idx y2 ∈ qTb) (him : Cond.instanceMethod y2 ∈ qTb) (hsel : Cond.selects y2.cls y2 y2 ∈ qTb) (hci : vwCl[ci]? = some r0) (hci2 : r0.1 = y2.cls) (hci3 : ci < 11)
    (hrun : ∀ b, F = some b → qRun E y2 cc2 nL2 ret2 dd cb cs (.ref (E.2.1 + a) :: As) m (some (.ref (E.2.2.2.2.1 b.1)), b.2)) (hd : dd + 1 ≤ d) (hAs : As.length = n) (hst : st2 = As.reverse ++ .ref (E.2.1 + a) :: st) (hw : (st.map fun v => v.category).sum ≤ 8) (hdg : decode cc pc = .ok (.invokevirtual idx, 3)) (hn : pc + 3 = np)
    (kk : ∀ b : Nat × qM, qB E y cc nL ret Ex d bc bs np lv (.ref (E.2.2.2.2.1 b.1) :: st) b.2 (K b) G) : qB E y cc nL ret Ex d (bc + cb) (bs + cs) pc lv st2 m ((qChk m a ci F).bind K) G :=
  j_callVc (val := fun b => some (.ref (E.2.2.2.2.1 b.1))) (mem := fun b => b.2) hcal hlk him hsel hci hci2 hci3 hrun hd hAs hst hw hdg hn kk
theorem j_callSs {np idx n cb cs dd nL2 : Nat} {y2 : MethodName} {cc2 : ByteArray} {ret2 : Option FieldType} {As st2 : List Value} {F : Option (Nat × qM)} {K : Nat × qM → Option α}
    (hcal : qCal y2 cc2 nL2 ret2 n) (hlk : Cond.methodLink y.cls idx y2 ∈ qTb) (him : Cond.static y2 ∈ qTb)
    (hrun : ∀ b, F = some b → qRun E y2 cc2 nL2 ret2 dd cb cs As m (some (.ref (E.2.2.2.2.1 b.1)), b.2)) (hd : dd + 1 ≤ d) (hAs : As.length = n) (hst : st2 = As.reverse ++ st) (hw : (st.map fun v => v.category).sum ≤ 8) (hdg : decode cc pc = .ok (.invokestatic idx, 3)) (hn : pc + 3 = np)
    (kk : ∀ b : Nat × qM, qB E y cc nL ret Ex d bc bs np lv (.ref (E.2.2.2.2.1 b.1) :: st) b.2 (K b) G) : qB E y cc nL ret Ex d (bc + cb) (bs + cs) pc lv st2 m (F.bind K) G :=
  j_callS (val := fun b => some (.ref (E.2.2.2.2.1 b.1))) (mem := fun b => b.2) hcal hlk him hrun hd hAs hst hw hdg hn kk
theorem j_callVv {np idx n cb cs ci a dd nL2 : Nat} {y2 : MethodName} {cc2 : ByteArray} {ret2 : Option FieldType} {As st2 : List Value} {r0 : vw_C} {F : Option (qM)} {K : qM → Option α}
    (hcal : qCal y2 cc2 nL2 ret2 n) (hlk : Cond.methodLink y.cls idx y2 ∈ qTb) (him : Cond.instanceMethod y2 ∈ qTb) (hsel : Cond.selects y2.cls y2 y2 ∈ qTb) (hci : vwCl[ci]? = some r0) (hci2 : r0.1 = y2.cls) (hci3 : ci < 11)
    (hrun : ∀ b, F = some b → qRun E y2 cc2 nL2 ret2 dd cb cs (.ref (E.2.1 + a) :: As) m (none, b)) (hd : dd + 1 ≤ d) (hAs : As.length = n) (hst : st2 = As.reverse ++ .ref (E.2.1 + a) :: st) (hw : (st.map fun v => v.category).sum ≤ 8) (hdg : decode cc pc = .ok (.invokevirtual idx, 3)) (hn : pc + 3 = np)
    (kk : ∀ b : qM, qB E y cc nL ret Ex d bc bs np lv st b (K b) G) : qB E y cc nL ret Ex d (bc + cb) (bs + cs) pc lv st2 m ((qChk m a ci F).bind K) G :=
  j_callVc (val := fun b => none) (mem := fun b => b) hcal hlk him hsel hci hci2 hci3 hrun hd hAs hst hw hdg hn kk
theorem j_callSv {np idx n cb cs dd nL2 : Nat} {y2 : MethodName} {cc2 : ByteArray} {ret2 : Option FieldType} {As st2 : List Value} {F : Option (qM)} {K : qM → Option α}
    (hcal : qCal y2 cc2 nL2 ret2 n) (hlk : Cond.methodLink y.cls idx y2 ∈ qTb) (him : Cond.static y2 ∈ qTb)
    (hrun : ∀ b, F = some b → qRun E y2 cc2 nL2 ret2 dd cb cs As m (none, b)) (hd : dd + 1 ≤ d) (hAs : As.length = n) (hst : st2 = As.reverse ++ st) (hw : (st.map fun v => v.category).sum ≤ 8) (hdg : decode cc pc = .ok (.invokestatic idx, 3)) (hn : pc + 3 = np)
    (kk : ∀ b : qM, qB E y cc nL ret Ex d bc bs np lv st b (K b) G) : qB E y cc nL ret Ex d (bc + cb) (bs + cs) pc lv st2 m (F.bind K) G :=
  j_callS (val := fun b => none) (mem := fun b => b) hcal hlk him hrun hd hAs hst hw hdg hn kk
end JMORE
theorem ci_m1 : Int32.ofInt (-1) = (-1 : Int32) := by decide
theorem ci_0 : Int32.ofInt (0) = (0 : Int32) := by decide
theorem ci_1 : Int32.ofInt (1) = (1 : Int32) := by decide
theorem ci_2 : Int32.ofInt (2) = (2 : Int32) := by decide
theorem ci_3 : Int32.ofInt (3) = (3 : Int32) := by decide
theorem ci_4 : Int32.ofInt (4) = (4 : Int32) := by decide
theorem ci_5 : Int32.ofInt (5) = (5 : Int32) := by decide
theorem ci_6 : Int32.ofInt (6) = (6 : Int32) := by decide
theorem cb_m100 : (Int8.ofInt (-100)).toInt32 = (-100 : Int32) := by decide
theorem cb_m9 : (Int8.ofInt (-9)).toInt32 = (-9 : Int32) := by decide
theorem cb_m8 : (Int8.ofInt (-8)).toInt32 = (-8 : Int32) := by decide
theorem cb_m7 : (Int8.ofInt (-7)).toInt32 = (-7 : Int32) := by decide
theorem cb_m6 : (Int8.ofInt (-6)).toInt32 = (-6 : Int32) := by decide
theorem cb_m5 : (Int8.ofInt (-5)).toInt32 = (-5 : Int32) := by decide
theorem cb_m4 : (Int8.ofInt (-4)).toInt32 = (-4 : Int32) := by decide
theorem cb_m3 : (Int8.ofInt (-3)).toInt32 = (-3 : Int32) := by decide
theorem cb_m2 : (Int8.ofInt (-2)).toInt32 = (-2 : Int32) := by decide
theorem cb_6 : (Int8.ofInt (6)).toInt32 = (6 : Int32) := by decide
theorem cb_7 : (Int8.ofInt (7)).toInt32 = (7 : Int32) := by decide
theorem cb_8 : (Int8.ofInt (8)).toInt32 = (8 : Int32) := by decide
theorem cb_9 : (Int8.ofInt (9)).toInt32 = (9 : Int32) := by decide
theorem cb_10 : (Int8.ofInt (10)).toInt32 = (10 : Int32) := by decide
theorem cb_12 : (Int8.ofInt (12)).toInt32 = (12 : Int32) := by decide
theorem cb_16 : (Int8.ofInt (16)).toInt32 = (16 : Int32) := by decide
theorem cb_17 : (Int8.ofInt (17)).toInt32 = (17 : Int32) := by decide
theorem cb_26 : (Int8.ofInt (26)).toInt32 = (26 : Int32) := by decide
theorem cb_33 : (Int8.ofInt (33)).toInt32 = (33 : Int32) := by decide
theorem cb_39 : (Int8.ofInt (39)).toInt32 = (39 : Int32) := by decide
theorem cb_40 : (Int8.ofInt (40)).toInt32 = (40 : Int32) := by decide
theorem cb_41 : (Int8.ofInt (41)).toInt32 = (41 : Int32) := by decide
theorem cb_48 : (Int8.ofInt (48)).toInt32 = (48 : Int32) := by decide
theorem cb_49 : (Int8.ofInt (49)).toInt32 = (49 : Int32) := by decide
theorem cb_50 : (Int8.ofInt (50)).toInt32 = (50 : Int32) := by decide
theorem cb_57 : (Int8.ofInt (57)).toInt32 = (57 : Int32) := by decide
theorem cb_60 : (Int8.ofInt (60)).toInt32 = (60 : Int32) := by decide
theorem cb_63 : (Int8.ofInt (63)).toInt32 = (63 : Int32) := by decide
theorem cb_64 : (Int8.ofInt (64)).toInt32 = (64 : Int32) := by decide
theorem cb_67 : (Int8.ofInt (67)).toInt32 = (67 : Int32) := by decide
theorem cb_68 : (Int8.ofInt (68)).toInt32 = (68 : Int32) := by decide
theorem cb_78 : (Int8.ofInt (78)).toInt32 = (78 : Int32) := by decide
theorem cb_80 : (Int8.ofInt (80)).toInt32 = (80 : Int32) := by decide
theorem cb_97 : (Int8.ofInt (97)).toInt32 = (97 : Int32) := by decide
theorem cb_99 : (Int8.ofInt (99)).toInt32 = (99 : Int32) := by decide
theorem cb_100 : (Int8.ofInt (100)).toInt32 = (100 : Int32) := by decide
theorem cb_120 : (Int8.ofInt (120)).toInt32 = (120 : Int32) := by decide
theorem cb_121 : (Int8.ofInt (121)).toInt32 = (121 : Int32) := by decide
theorem cb_122 : (Int8.ofInt (122)).toInt32 = (122 : Int32) := by decide
theorem cb_126 : (Int8.ofInt (126)).toInt32 = (126 : Int32) := by decide
theorem cs_156 : (Int16.ofInt (156)).toInt32 = (156 : Int32) := by decide
theorem cs_160 : (Int16.ofInt (160)).toInt32 = (160 : Int32) := by decide
theorem cs_181 : (Int16.ofInt (181)).toInt32 = (181 : Int32) := by decide
theorem cs_240 : (Int16.ofInt (240)).toInt32 = (240 : Int32) := by decide
theorem cs_255 : (Int16.ofInt (255)).toInt32 = (255 : Int32) := by decide
theorem cs_400 : (Int16.ofInt (400)).toInt32 = (400 : Int32) := by decide
theorem cs_1023 : (Int16.ofInt (1023)).toInt32 = (1023 : Int32) := by decide
theorem cs_3900 : (Int16.ofInt (3900)).toInt32 = (3900 : Int32) := by decide
theorem cs_7000 : (Int16.ofInt (7000)).toInt32 = (7000 : Int32) := by decide
theorem cs_7059 : (Int16.ofInt (7059)).toInt32 = (7059 : Int32) := by decide
theorem pnX0 : plainName RX0 = true := by decide
theorem pnX1 : plainName RX1 = true := by decide
theorem pnX2 : plainName RX2 = true := by decide
theorem pnX3 : plainName RX3 = true := by decide
theorem pnX4 : plainName RX4 = true := by decide
theorem pnX5 : plainName RX5 = true := by decide
theorem pnX6 : plainName RX6 = true := by decide
theorem pnX7 : plainName RX7 = true := by decide
theorem pnX8 : plainName RX8 = true := by decide
theorem pnX9 : plainName RX9 = true := by decide
theorem pnX10 : plainName RX10 = true := by decide
theorem pnJ7 : plainName RJ7 = true := by decide
theorem pnL : plainName RL = true := by decide
theorem pnJ0 : plainName RJ0 = true := by decide
theorem pnJ1 : plainName RJ1 = true := by decide
theorem pnJ3 : plainName RJ3 = true := by decide
section JINIT
variable {E : qE} {y : MethodName} {cc : ByteArray} {nL : Nat} {ret : Option FieldType} {Ex : State → Prop} {d bc bs pc : Nat} {lv : List (Nat × Value)} {st : List Value} {m : qM} {α : Type} {P : Option α} {G : α → qRR → Prop}
theorem j_callIw {np idx n cb cs a dd nL2 : Nat} {y2 : MethodName} {cc2 : ByteArray} {As st2 : List Value} {F : Option qM} {K : qM → Option α}
    (hcal : qCal y2 cc2 nL2 none n) (hlk : Cond.methodLink y.cls idx y2 ∈ qTb) (him : Cond.instanceMethod y2 ∈ qTb) (hnm : y2.name = "<init>")
    (hrun : ∀ b, F = some b → qRun E y2 cc2 nL2 none dd cb cs (.ref (E.2.1 + a) :: As) m (none, b)) (hd : dd + 1 ≤ d) (hAs : As.length = n) (hst : st2 = As.reverse ++ .ref (E.2.1 + a) :: st) (hw : (st.map fun v => v.category).sum ≤ 8) (hdg : decode cc pc = .ok (.invokespecial idx, 3)) (hn : pc + 3 = np)
    (kk : ∀ b : qM, qB E y cc nL ret Ex d bc bs np lv st b (K b) G) : qB E y cc nL ret Ex d (bc + cb) (bs + cs) pc lv st2 m (F.bind K) G :=
  j_callI (mem := fun b => b) hcal hlk him hnm hrun hd hAs hst hw hdg hn kk
theorem j_callINw {np idx n cb cs a dd nL2 : Nat} {y2 : MethodName} {cc2 : ByteArray} {host : String} {As st2 : List Value} {F : Option qM} {K : qM → Option α}
    (hcal : qCal y2 cc2 nL2 none n) (hlk : Cond.methodLinkNest y.cls idx y2 host ∈ qNest) (him : Cond.instanceMethod y2 ∈ qTb) (hnm : y2.name = "<init>")
    (hrun : ∀ b, F = some b → qRun E y2 cc2 nL2 none dd cb cs (.ref (E.2.1 + a) :: As) m (none, b)) (hd : dd + 1 ≤ d) (hAs : As.length = n) (hst : st2 = As.reverse ++ .ref (E.2.1 + a) :: st) (hw : (st.map fun v => v.category).sum ≤ 8) (hdg : decode cc pc = .ok (.invokespecial idx, 3)) (hn : pc + 3 = np)
    (kk : ∀ b : qM, qB E y cc nL ret Ex d bc bs np lv st b (K b) G) : qB E y cc nL ret Ex d (bc + cb) (bs + cs) pc lv st2 m (F.bind K) G :=
  j_callIN (mem := fun b => b) hcal hlk him hnm hrun hd hAs hst hw hdg hn kk
end JINIT
