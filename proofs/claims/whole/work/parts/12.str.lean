-- ===== the twelve texts =====
def qtl (k : Nat) : Nat := (qTx.getD k []).length
def qsv (k : Nat) : Option Nat := if k < 12 then some k else none
def qsc (k : Nat) : Option Int32 := if k < 12 then some 0 else none
def qbl (k : Nat) : Option Int32 := if k < 12 then some (Int32.ofNat (qtl k)) else none
def qba (k : Nat) (i : Int32) : Option Int32 := if k < 12 ∧ ¬ i < 0 ∧ i.toNatClampNeg < qtl k then some ((qTx.getD k []).getD i.toNatClampNeg 0) else none
def qChs {α : Type} (k : Nat) (P : Option α) : Option α := if k < 12 then P else none
section JSTR
variable {E : qE} {y : MethodName} {cc : ByteArray} {nL : Nat} {ret : Option FieldType} {Ex : State → Prop} {d bc bs pc : Nat} {lv : List (Nat × Value)} {st : List Value} {m : qM} {α : Type} {P : Option α} {G : α → qRR → Prop}
theorem j_ldcS {np idx k : Nat} {tx : String} (h : (y.cls, idx, tx, k) ∈ qSites) (hdg : decode cc pc = .ok (.ldc idx, 2)) (hn : pc + 2 = np) (kk : qB E y cc nL ret Ex d bc bs np lv (.ref (E.2.2.2.2.1 k) :: st) m P G) : qB E y cc nL ret Ex d bc bs pc lv st m P G := by
  intro a1 rr hP hG p e R s mi args below meth c H locs cells slots mc ms ls Qf S hR hS hc hs hl
  subst hn
  exact va_ldcS S.1.1 S.1.2.1 S.1.2.2.2.1 (S.1.2.2.2.2.2.1.2.2.2.2.1 _ h) hdg (kk a1 rr hP hG p e R s mi args below meth c H locs cells slots mc ms ls Qf S hR hS hc hs hl)
theorem j_sval {np idx k : Nat} {K : Nat → Option α} (hlk : Cond.fieldLink y.cls idx "java/lang/String" "value" "[B" ∈ qTb) (hdg : decode cc pc = .ok (.getfield idx, 3)) (hn : pc + 3 = np) (kk : ∀ v : Nat, qB E y cc nL ret Ex d bc bs np lv (.ref (E.2.2.2.2.2 v) :: st) m (K v) G) : qB E y cc nL ret Ex d bc bs pc lv (.ref (E.2.2.2.2.1 k) :: st) m ((qsv k).bind K) G := by
  intro a1 rr hP hG p e R s mi args below meth c H locs cells slots mc ms ls Qf S hR hS hc hs hl
  subst hn
  unfold qsv at hP
  by_cases hk : k < 12
  · rw [if_pos hk] at hP
    exact vk_getf S.1.1 S.1.2.1 (S.1.2.2.2.2.2.1.2.2.2.2.2.1 k hk).2.2.1 hS S.1.2.2.2.1 (S.1.2.2.2.2.1 _ hlk) (fun _ h => h) hdg (kk _ a1 rr hP hG p e R s mi args below meth c H locs cells slots mc ms ls Qf S hR hS hc hs hl)
  · rw [if_neg hk] at hP; cases hP
theorem j_scod {np idx k : Nat} {K : Int32 → Option α} (hlk : Cond.fieldLink y.cls idx "java/lang/String" "coder" "B" ∈ qTb) (hdg : decode cc pc = .ok (.getfield idx, 3)) (hn : pc + 3 = np) (kk : ∀ v : Int32, qB E y cc nL ret Ex d bc bs np lv (.int v :: st) m (K v) G) : qB E y cc nL ret Ex d bc bs pc lv (.ref (E.2.2.2.2.1 k) :: st) m ((qsc k).bind K) G := by
  intro a1 rr hP hG p e R s mi args below meth c H locs cells slots mc ms ls Qf S hR hS hc hs hl
  subst hn
  unfold qsc at hP
  by_cases hk : k < 12
  · rw [if_pos hk] at hP
    exact vk_getf S.1.1 S.1.2.1 (S.1.2.2.2.2.2.1.2.2.2.2.2.1 k hk).2.1 hS S.1.2.2.2.1 (S.1.2.2.2.2.1 _ hlk) (fun _ h => h) hdg (kk _ a1 rr hP hG p e R s mi args below meth c H locs cells slots mc ms ls Qf S hR hS hc hs hl)
  · rw [if_neg hk] at hP; cases hP
theorem j_blen {np k : Nat} {K : Int32 → Option α} (hdg : decode cc pc = .ok (.arraylength, 1)) (hn : pc + 1 = np) (kk : ∀ v : Int32, qB E y cc nL ret Ex d bc bs np lv (.int v :: st) m (K v) G) : qB E y cc nL ret Ex d bc bs pc lv (.ref (E.2.2.2.2.2 k) :: st) m ((qbl k).bind K) G := by
  intro a1 rr hP hG p e R s mi args below meth c H locs cells slots mc ms ls Qf S hR hS hc hs hl
  subst hn
  unfold qbl at hP
  by_cases hk : k < 12
  · rw [if_pos hk] at hP
    exact va_tlen S.1.1 S.1.2.1 (S.1.2.2.2.2.2.1.2.2.2.2.2.1 k hk).2.2.2 hS rfl hdg (kk _ a1 rr hP hG p e R s mi args below meth c H locs cells slots mc ms ls Qf S hR hS hc hs hl)
  · rw [if_neg hk] at hP; cases hP
theorem j_bal8 {np k : Nat} {i : Int32} {K : Int32 → Option α} (hdg : decode cc pc = .ok (.baload, 1)) (hn : pc + 1 = np) (kk : ∀ v : Int32, qB E y cc nL ret Ex d bc bs np lv (.int v :: st) m (K v) G) : qB E y cc nL ret Ex d bc bs pc lv (.int i :: .ref (E.2.2.2.2.2 k) :: st) m ((qba k i).bind K) G := by
  intro a1 rr hP hG p e R s mi args below meth c H locs cells slots mc ms ls Qf S hR hS hc hs hl
  subst hn
  unfold qba at hP
  by_cases hk : k < 12 ∧ ¬ i < 0 ∧ i.toNatClampNeg < qtl k
  · rw [if_pos hk] at hP
    exact va_tb S.1.1 S.1.2.1 (S.1.2.2.2.2.2.1.2.2.2.2.2.1 k hk.1).2.2.2 hS (q_vin hk.2.1 hk.2.2) rfl hdg (kk _ a1 rr hP hG p e R s mi args below meth c H locs cells slots mc ms ls Qf S hR hS hc hs hl)
  · rw [if_neg hk] at hP; cases hP
theorem j_cmpct {np idx : Nat} (hlk : Cond.fieldLink y.cls idx "java/lang/String" "COMPACT_STRINGS" "Z" ∈ qTb) (hdg : decode cc pc = .ok (.getstatic idx, 3)) (hn : pc + 3 = np) (kk : qB E y cc nL ret Ex d bc bs np lv (.int 1 :: st) m P G) : qB E y cc nL ret Ex d bc bs pc lv st m P G := by
  intro a1 rr hP hG p e R s mi args below meth c H locs cells slots mc ms ls Qf S hR hS hc hs hl
  subst hn
  exact va_gets S.1.1 S.1.2.1 S.1.2.2.2.2.2.1.2.2.2.2.2.2.1 hS S.1.2.2.2.1 (S.1.2.2.2.2.1 _ hlk) (fun _ h => h) hdg (kk a1 rr hP hG p e R s mi args below meth c H locs cells slots mc ms ls Qf S hR hS hc hs hl)
theorem j_frm {np idx : Nat} (hlk : Cond.fieldLink y.cls idx "jdk/internal/util/Preconditions" "SIOOBE_FORMATTER" "Ljava/util/function/BiFunction;" ∈ qTb) (hdg : decode cc pc = .ok (.getstatic idx, 3)) (hn : pc + 3 = np) (kk : ∀ x : Option Nat, qB E y cc nL ret Ex d bc bs np lv (va_rf x :: st) m P G) : qB E y cc nL ret Ex d bc bs pc lv st m P G := by
  intro a1 rr hP hG p e R s mi args below meth c H locs cells slots mc ms ls Qf S hR hS hc hs hl
  subst hn
  rcases S.1.2.2.2.2.2.1.2.2.2.2.2.2.2 with hZ | ⟨t, hZ⟩
  · exact va_gets S.1.1 S.1.2.1 hZ hS S.1.2.2.2.1 (S.1.2.2.2.2.1 _ hlk) (fun _ h => h) hdg (kk none a1 rr hP hG p e R s mi args below meth c H locs cells slots mc ms ls Qf S hR hS hc hs hl)
  · exact va_gets S.1.1 S.1.2.1 hZ hS S.1.2.2.2.1 (S.1.2.2.2.2.1 _ hlk) (fun _ h => h) hdg (kk (some t) a1 rr hP hG p e R s mi args below meth c H locs cells slots mc ms ls Qf S hR hS hc hs hl)
theorem q_cat (x : Option Nat) : (va_rf x).category = 1 := by cases x <;> rfl
/-- a call of a String -/
theorem j_callT {np idx n k dd nL2 : Nat} {y2 : MethodName} {cc2 : ByteArray} {ret2 : Option FieldType} {As st2 : List Value} {F : Option (Int32 × qM)} {K : Int32 × qM → Option α}
    (hcal : qCal y2 cc2 nL2 ret2 n) (hlk : Cond.methodLink y.cls idx y2 ∈ qTb) (him : Cond.instanceMethod y2 ∈ qTb) (hsel : Cond.selects y2.cls y2 y2 ∈ qTb) (hcl : y2.cls = "java/lang/String")
    (hrun : ∀ b, F = some b → qRun E y2 cc2 nL2 ret2 dd 0 0 (.ref (E.2.2.2.2.1 k) :: As) m (some (.int b.1), b.2)) (hd : dd + 1 ≤ d) (hAs : As.length = n) (hst : st2 = As.reverse ++ .ref (E.2.2.2.2.1 k) :: st) (hw : (st.map fun v => v.category).sum ≤ 8) (hdg : decode cc pc = .ok (.invokevirtual idx, 3)) (hn : pc + 3 = np)
    (kk : ∀ b : Int32 × qM, qB E y cc nL ret Ex d bc bs np lv (.int b.1 :: st) b.2 (K b) G) : qB E y cc nL ret Ex d bc bs pc lv st2 m ((qChs k F).bind K) G := by
  intro a1 rr hP hG p e R s mi args below meth c H locs cells slots mc ms ls Qf S hR hS hc hs hl
  subst hn; subst hst
  unfold qChs at hP
  by_cases hk : k < 12
  · rw [if_pos hk] at hP
    cases hF : F with
    | none => rw [hF] at hP; cases hP
    | some b =>
      rw [hF] at hP
      obtain ⟨⟨hx, hb, hml, hown, hts, hTb, hbase, hname, hEx⟩, ⟨r1, r2, r3, r4⟩, r5⟩ := id S
      obtain ⟨w1, w2, w3, w4⟩ := hcal
      have hcw : CallW R s args y.cls y2.cls idx y2 cc2 nL2 ret2 (Cond.code y2 cc2 nL2 ret2 :: qTb) { frames := dd, cells := 0, slots := 0, locals := 41 * dd } 0 0 n := ⟨callB_of n hts (qTb_code w1) rfl rfl rfl (hts _ w2) (hts _ hlk) w3 ⟨by show dd + 1 ≤ R.frames; omega, by show 8 + (nL2 + 11) + 41 * dd ≤ R.locals; omega⟩, hts _ him, hts _ hsel⟩
      have hrecv : ∃ cellB : Cell, H[E.2.2.2.2.1 k]? = some cellB ∧ cellB.vm.isStatics = false ∧ s.vm.findClass y2.cls = some cellB.cls := by
        rw [hcl]
        obtain ⟨cell, h1, h2, h3, -⟩ := (hTb.2.2.2.2.2.1 k hk).1.kept hS.2.1
        exact ⟨cell, h1, h2, h3⟩
      exact q_after (va_runV (C := y2.cls) (As := As) (rest := st) ⟨hx, hb, hml, hown, hts⟩ (hrun b hF) hcw ⟨q_blind E _ m, hrecv, q_pre S.1 hR hS _⟩ rfl hAs hl.1 rfl (lv_room hw) hdg ⟨by omega, by omega⟩) hS (fun H1 locs1 hR1 hS1 => kk b a1 rr hP hG p e R s mi args below meth c H1 locs1 (cells + 0) (slots + 0) mc ms ls Qf S hR1 hS1 (by omega) (by omega) hl)
  · rw [if_neg hk] at hP; cases hP
end JSTR
