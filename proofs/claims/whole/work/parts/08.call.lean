theorem qNest_on : ∀ w ∈ qNest, w.onTables = true := by decide
theorem qNest_form : ∀ w ∈ qNest, ∃ (a : String) (i : Nat) (x : MethodName) (h : String), w = .methodLinkNest a i x h := by
  intro w hw
  simp only [qNest, List.mem_cons, List.not_mem_nil, or_false] at hw
  rcases hw with rfl | rfl | rfl | rfl | rfl | rfl | rfl | rfl | rfl <;> exact ⟨_, _, _, _, rfl⟩
theorem qStr_to {E : qE} {u U : State} {H H1 : Heap} (hvm : u.vm.Alike U.vm) (hq : ∀ a : Nat, a < H.size → ¬ qA E a → H1[a]? = H[a]?) (h : qStr E u H) : qStr E U H1 := fun i hi =>
  ⟨(va_O.moved hvm (h i hi).1).kept hq, (va_OF.moved hvm (h i hi).2.1).kept hq, (va_OF.moved hvm (h i hi).2.2.1).kept hq, (va_T.moved hvm (h i hi).2.2.2).kept hq⟩
/-- the tables' words at a callee's start -/
theorem qTab_warm {E : qE} {s U : State} (hW : s.WarmedH U.vm) (hq : ∀ a : Nat, a < s.heap.size → ¬ qA E a → U.heap[a]? = s.heap[a]?) (h : qTab E s) : qTab E U := by
  obtain ⟨h1, h2, h3, h4, h5, h6, h7, h8⟩ := h
  refine ⟨va_K.moved hW.alike h1, fun w hw => ?_, va_AO.moved hW.alike h3, va_AO.moved hW.alike h4, fun q hq => (h5 q hq).warm hW, qStr_to hW.alike hq h6, (va_Z.moved hW.alike h7).kept hq, (va_Zq.moved hW.alike h8).kept hq⟩
  obtain ⟨a, i, x, hh, rfl⟩ := qNest_form w hw
  exact va_Nw.warmM hW (h2 _ hw)
theorem qTab_same {E : qE} {s U : State} (hv : U.vm = s.vm) (hh : U.heap = s.heap) (h : qTab E s) : qTab E U := by
  obtain ⟨h1, h2, h3, h4, h5, h6, h7, h8⟩ := h
  have hal : s.vm.Alike U.vm := by rw [hv]; exact Vm.Alike.refl _
  exact ⟨va_K.moved hal h1, fun w hw => va_Nw.same (qNest_on w hw) hv.symm (h2 w hw), va_AO.moved hal h3, va_AO.moved hal h4, fun q hq => (h5 q hq).same hv, by rw [hh]; exact qStr_to hal (fun _ _ _ => rfl) h6, by rw [hh]; exact va_Z.moved hal h7, by rw [hh]; exact va_Zq.moved hal h8⟩
theorem q_blind (E : qE) (args : List Value) (m : qM) : FrameBlind (va_Pc args (fun U => qRel E m U.heap ∧ qTab E U ∧ E.2.1 ≤ U.heap.size)) := fun a U g mk h => ⟨h.1, h.2.1, qTab_same (s := U) (U := U.calling g mk a) rfl rfl h.2.2.1, h.2.2.2⟩
def qCal (y : MethodName) (cc : ByteArray) (nL : Nat) (ret : Option FieldType) (n : Nat) : Prop :=
  Cond.code y cc nL ret ∈ qTb ∧ Cond.initialized y.cls ∈ qTb ∧ (y.cls ≠ "java/lang/invoke/MethodHandle" ∧ y.cls ≠ "java/lang/invoke/VarHandle" ∧ (parseMethodDescriptor y.desc).map (fun d => d.parameters.length) = some n) ∧ nL ≤ 20
def qRes {α : Type} (E : qE) (r : Option α) : Prop := True
theorem q_after {p : Program} {l : Launch} {e : Env} {R : Room} {s : State} {mi : MethodId} {args : Array Value} {below : List Frame} {meth : Method} {c : Code} {H : Heap} {locs : List Loc} {cells slots mc ms : Nat} {Q : State → Prop} {pc : Nat} {ls : Array Slot} {rest st0 : List Value} {E : qE} {rr : qRR} {av : Array Value}
    (hr : va_Run p l e R s mi args below meth c H locs cells slots mc ms (F0 mi pc ls st0) rest (qQc E rr av) (qA E)) (hS : va_S (qA E) s.heap H locs)
    (kk : ∀ (H1 : Heap) (locs1 : List Loc), qRel E rr.2 H1 → va_S (qA E) s.heap H1 locs1 → W p l e R s mi args below meth c H1 locs1 (cells + mc) (slots + ms) Q (F0 mi (pc + 3) ls (rr.1.toList ++ rest))) : W p l e R s mi args below meth c H locs cells slots Q (F0 mi pc ls st0) := by
  intro T hT X
  obtain ⟨v, st₀, t, T', L, h0, X', hL, e1, e2, ⟨hv, hRel, hz, hk⟩, st⟩ := hr T hT X
  have hv2 : v = rr.1 := by injection hv
  subst hv2
  rw [h0] at hz hk
  obtain ⟨t2, a1, b1⟩ := kk T'.heap (locs ++ L) (by rw [e1]; exact hRel)
    ⟨Nat.le_trans hS.1 (by rw [e1]; exact hz), fun q h1 h2 => by rw [e1, hk q (Nat.lt_of_lt_of_le h1 hS.1) h2]; exact hS.2.1 q h1 h2, fun q hq => by
      rcases List.mem_append.mp hq with h | h
      · exact hS.2.2 q h
      · exact hL q h⟩ T' rfl X'
  exact ⟨t2, st t2 a1, b1⟩
section JCALL
variable {E : qE} {y : MethodName} {cc : ByteArray} {nL : Nat} {ret : Option FieldType} {Ex : State → Prop} {d bc bs pc : Nat} {lv : List (Nat × Value)} {st : List Value} {m : qM} {α : Type} {P : Option α} {G : α → qRR → Prop}
theorem q_pre {p : Program} {s : State} {mi : MethodId} {args : Array Value} {meth : Method} {c : Code} {H : Heap} {locs : List Loc} (C0 : qCx E y cc nL Ex p s mi args meth c) (hR : qRel E m H) (hS : va_S (qA E) s.heap H locs) (av : List Value) : ∀ U : State, U.heap = H → s.WarmedH U.vm → va_Pc av (fun U => qRel E m U.heap ∧ qTab E U ∧ E.2.1 ≤ U.heap.size) av.toArray U := by
  intro U hU hW
  refine ⟨rfl, by rw [hU]; exact hR, qTab_warm hW (fun a h1 h2 => by rw [hU]; exact hS.2.1 a h1 h2) C0.2.2.2.2.2.1, by rw [hU]; have := hS.1; have := C0.2.2.2.2.2.2.1; omega⟩
/-- invokevirtual -/
theorem j_callV {β : Type} {np idx n cb cs ci a dd nL2 : Nat} {y2 : MethodName} {cc2 : ByteArray} {ret2 : Option FieldType} {As st2 : List Value} {r0 : vw_C} {F : Option β} {K : β → Option α} {val : β → Option Value} {mem : β → qM}
    (hcal : qCal y2 cc2 nL2 ret2 n) (hlk : Cond.methodLink y.cls idx y2 ∈ qTb) (him : Cond.instanceMethod y2 ∈ qTb) (hsel : Cond.selects y2.cls y2 y2 ∈ qTb) (hci : vwCl[ci]? = some r0) (hci2 : r0.1 = y2.cls) (hci3 : ci < 11) (hkind : F = none ∨ qK m a = ci)
    (hrun : ∀ b, F = some b → qRun E y2 cc2 nL2 ret2 dd cb cs (.ref (E.2.1 + a) :: As) m (val b, mem b)) (hd : dd + 1 ≤ d) (hAs : As.length = n) (hst : st2 = As.reverse ++ .ref (E.2.1 + a) :: st) (hw : (st.map fun v => v.category).sum ≤ 8) (hdg : decode cc pc = .ok (.invokevirtual idx, 3)) (hn : pc + 3 = np)
    (kk : ∀ b : β, qB E y cc nL ret Ex d bc bs np lv ((val b).toList ++ st) (mem b) (K b) G) : qB E y cc nL ret Ex d (bc + cb) (bs + cs) pc lv st2 m (F.bind K) G := by
  intro a1 rr hP hG p e R s mi args below meth c H locs cells slots mc ms ls Qf S hR hS hc hs hl
  subst hn; subst hst
  cases hF : F with
  | none => rw [hF] at hP; cases hP
  | some b =>
    rw [hF] at hP
    obtain ⟨⟨hx, hb, hml, hown, hts, hTb, hbase, hname, hEx⟩, ⟨r1, r2, r3, r4⟩, r5⟩ := id S
    obtain ⟨w1, w2, w3, w4⟩ := hcal
    have hkd : qK m a = ci := by rcases hkind with h | h; (rw [hF] at h; cases h); exact h
    have hcw : CallW R s args y.cls y2.cls idx y2 cc2 nL2 ret2 (Cond.code y2 cc2 nL2 ret2 :: qTb) { frames := dd, cells := cb, slots := cs, locals := 41 * dd } cb cs n := ⟨callB_of n hts (qTb_code w1) rfl rfl rfl (hts _ w2) (hts _ hlk) w3 ⟨by show dd + 1 ≤ R.frames; omega, by show 8 + (nL2 + 11) + 41 * dd ≤ R.locals; omega⟩, hts _ him, hts _ hsel⟩
    have hrecv := va_recv hTb.1 hR.1 hci (qget_o hR hci3 hkd)
    rw [hci2] at hrecv
    exact q_after (va_runV (C := y2.cls) (As := As) (rest := st) ⟨hx, hb, hml, hown, hts⟩ (hrun b hF) hcw ⟨q_blind E _ m, hrecv, q_pre S.1 hR hS _⟩ rfl hAs hl.1 rfl (lv_room hw) hdg ⟨by omega, by omega⟩) hS (fun H1 locs1 hR1 hS1 => kk b a1 rr hP hG p e R s mi args below meth c H1 locs1 (cells + cb) (slots + cs) mc ms ls Qf S hR1 hS1 (by omega) (by omega) hl)
/-- invokestatic -/
theorem j_callS {β : Type} {np idx n cb cs dd nL2 : Nat} {y2 : MethodName} {cc2 : ByteArray} {ret2 : Option FieldType} {As st2 : List Value} {F : Option β} {K : β → Option α} {val : β → Option Value} {mem : β → qM}
    (hcal : qCal y2 cc2 nL2 ret2 n) (hlk : Cond.methodLink y.cls idx y2 ∈ qTb) (him : Cond.static y2 ∈ qTb)
    (hrun : ∀ b, F = some b → qRun E y2 cc2 nL2 ret2 dd cb cs As m (val b, mem b)) (hd : dd + 1 ≤ d) (hAs : As.length = n) (hst : st2 = As.reverse ++ st) (hw : (st.map fun v => v.category).sum ≤ 8) (hdg : decode cc pc = .ok (.invokestatic idx, 3)) (hn : pc + 3 = np)
    (kk : ∀ b : β, qB E y cc nL ret Ex d bc bs np lv ((val b).toList ++ st) (mem b) (K b) G) : qB E y cc nL ret Ex d (bc + cb) (bs + cs) pc lv st2 m (F.bind K) G := by
  intro a1 rr hP hG p e R s mi args below meth c H locs cells slots mc ms ls Qf S hR hS hc hs hl
  subst hn; subst hst
  cases hF : F with
  | none => rw [hF] at hP; cases hP
  | some b =>
    rw [hF] at hP
    obtain ⟨⟨hx, hb, hml, hown, hts, hTb, hbase, hname, hEx⟩, ⟨r1, r2, r3, r4⟩, r5⟩ := id S
    obtain ⟨w1, w2, w3, w4⟩ := hcal
    have hcw : CallB R s args y.cls idx y2 cc2 nL2 ret2 (Cond.code y2 cc2 nL2 ret2 :: qTb) { frames := dd, cells := cb, slots := cs, locals := 41 * dd } cb cs n := callB_of n hts (qTb_code w1) rfl rfl rfl (hts _ w2) (hts _ hlk) w3 ⟨by show dd + 1 ≤ R.frames; omega, by show 8 + (nL2 + 11) + 41 * dd ≤ R.locals; omega⟩
    exact q_after (va_runS (As := As) (rest := st) ⟨hx, hb, hml, hown, hts⟩ (hrun b hF) ⟨hcw, hts _ him⟩ ⟨q_blind E _ m, q_pre S.1 hR hS _⟩ rfl hAs hl.1 rfl (lv_room hw) hdg ⟨by omega, by omega⟩) hS (fun H1 locs1 hR1 hS1 => kk b a1 rr hP hG p e R s mi args below meth c H1 locs1 (cells + cb) (slots + cs) mc ms ls Qf S hR1 hS1 (by omega) (by omega) hl)
/-- invokespecial of a constructor -/
theorem j_callI {β : Type} {np idx n cb cs a dd nL2 : Nat} {y2 : MethodName} {cc2 : ByteArray} {As st2 : List Value} {F : Option β} {K : β → Option α} {mem : β → qM}
    (hcal : qCal y2 cc2 nL2 none n) (hlk : Cond.methodLink y.cls idx y2 ∈ qTb) (him : Cond.instanceMethod y2 ∈ qTb) (hnm : y2.name = "<init>")
    (hrun : ∀ b, F = some b → qRun E y2 cc2 nL2 none dd cb cs (.ref (E.2.1 + a) :: As) m (none, mem b)) (hd : dd + 1 ≤ d) (hAs : As.length = n) (hst : st2 = As.reverse ++ .ref (E.2.1 + a) :: st) (hw : (st.map fun v => v.category).sum ≤ 8) (hdg : decode cc pc = .ok (.invokespecial idx, 3)) (hn : pc + 3 = np)
    (kk : ∀ b : β, qB E y cc nL ret Ex d bc bs np lv st (mem b) (K b) G) : qB E y cc nL ret Ex d (bc + cb) (bs + cs) pc lv st2 m (F.bind K) G := by
  intro a1 rr hP hG p e R s mi args below meth c H locs cells slots mc ms ls Qf S hR hS hc hs hl
  subst hn; subst hst
  cases hF : F with
  | none => rw [hF] at hP; cases hP
  | some b =>
    rw [hF] at hP
    obtain ⟨⟨hx, hb, hml, hown, hts, hTb, hbase, hname, hEx⟩, ⟨r1, r2, r3, r4⟩, r5⟩ := id S
    obtain ⟨w1, w2, w3, w4⟩ := hcal
    have hcw : CallB R s args y.cls idx y2 cc2 nL2 none (Cond.code y2 cc2 nL2 none :: qTb) { frames := dd, cells := cb, slots := cs, locals := 41 * dd } cb cs n := callB_of n hts (qTb_code w1) rfl rfl rfl (hts _ w2) (hts _ hlk) w3 ⟨by show dd + 1 ≤ R.frames; omega, by show 8 + (nL2 + 11) + 41 * dd ≤ R.locals; omega⟩
    exact q_after (va_runI (As := As) (rest := st) ⟨hx, hb, hml, hown, hts⟩ (hrun b hF) ⟨hcw, hnm, hts _ him⟩ ⟨q_blind E _ m, q_pre S.1 hR hS _⟩ rfl hAs hl.1 rfl (lv_room hw) hdg ⟨by omega, by omega⟩) hS (fun H1 locs1 hR1 hS1 => kk b a1 rr hP hG p e R s mi args below meth c H1 locs1 (cells + cb) (slots + cs) mc ms ls Qf S hR1 hS1 (by omega) (by omega) hl)
/-- .. of a nest mate's private one -/
theorem j_callIN {β : Type} {np idx n cb cs a dd nL2 : Nat} {y2 : MethodName} {cc2 : ByteArray} {host : String} {As st2 : List Value} {F : Option β} {K : β → Option α} {mem : β → qM}
    (hcal : qCal y2 cc2 nL2 none n) (hlk : Cond.methodLinkNest y.cls idx y2 host ∈ qNest) (him : Cond.instanceMethod y2 ∈ qTb) (hnm : y2.name = "<init>")
    (hrun : ∀ b, F = some b → qRun E y2 cc2 nL2 none dd cb cs (.ref (E.2.1 + a) :: As) m (none, mem b)) (hd : dd + 1 ≤ d) (hAs : As.length = n) (hst : st2 = As.reverse ++ .ref (E.2.1 + a) :: st) (hw : (st.map fun v => v.category).sum ≤ 8) (hdg : decode cc pc = .ok (.invokespecial idx, 3)) (hn : pc + 3 = np)
    (kk : ∀ b : β, qB E y cc nL ret Ex d bc bs np lv st (mem b) (K b) G) : qB E y cc nL ret Ex d (bc + cb) (bs + cs) pc lv st2 m (F.bind K) G := by
  intro a1 rr hP hG p e R s mi args below meth c H locs cells slots mc ms ls Qf S hR hS hc hs hl
  subst hn; subst hst
  cases hF : F with
  | none => rw [hF] at hP; cases hP
  | some b =>
    rw [hF] at hP
    obtain ⟨⟨hx, hb, hml, hown, hts, hTb, hbase, hname, hEx⟩, ⟨r1, r2, r3, r4⟩, r5⟩ := id S
    obtain ⟨w1, w2, w3, w4⟩ := hcal
    exact q_after (va_runIN (host := host) (As := As) (rest := st) ⟨hx, hb, hml, hown, hts⟩ (hrun b hF) ⟨va_cnB n hts (qTb_code w1) rfl rfl rfl (hTb.2.1 _ hlk) (hts _ w2) w3 ⟨by show dd + 1 ≤ R.frames; omega, by show 8 + (nL2 + 11) + 41 * dd ≤ R.locals; omega⟩, hnm, hts _ him⟩ ⟨q_blind E _ m, q_pre S.1 hR hS _⟩ rfl hAs hl.1 rfl (lv_room hw) hdg ⟨by omega, by omega⟩) hS (fun H1 locs1 hR1 hS1 => kk b a1 rr hP hG p e R s mi args below meth c H1 locs1 (cells + cb) (slots + cs) mc ms ls Qf S hR1 hS1 (by omega) (by omega) hl)
/-- Object's own constructor -/
theorem j_objInit {np idx a : Nat} (hlk : Cond.methodLink y.cls idx Lib.objectInit ∈ qTb) (him : Cond.instanceMethod Lib.objectInit ∈ qTb) (hcd : Cond.code Lib.objectInit ⟨#[0xb1]⟩ 1 none ∈ qTb) (hd : 1 ≤ d) (hw : (st.map fun v => v.category).sum ≤ 8) (hdg : decode cc pc = .ok (.invokespecial idx, 3)) (hn : pc + 3 = np)
    (kk : qB E y cc nL ret Ex d bc bs np lv st m P G) : qB E y cc nL ret Ex d bc bs pc lv (.ref (E.2.1 + a) :: st) m P G := by
  intro a1 rr hP hG p e R s mi args below meth c H locs cells slots mc ms ls Qf S hR hS hc hs hl
  subst hn
  obtain ⟨⟨hx, hb, hml, hown, hts, hTb, hbase, hname, hEx⟩, ⟨r1, r2, r3, r4⟩, r5⟩ := id S
  exact W.objInit hx hb hown (hts _ hlk) (hts _ him) (hts _ hcd) rfl (by rw [hml]; exact hl.1) rfl hdg (by omega) (by show 2 * 0 + _ + 12 ≤ _; omega) (kk a1 rr hP hG p e R s mi args below meth c H locs cells slots mc ms ls Qf S hR hS hc hs hl)
theorem j_max {np idx : Nat} {x z : Int32} (hlk : Cond.methodLink y.cls idx Lib.Math.max.name ∈ qTb) (h1 : Cond.static Lib.Math.max.name ∈ qTb) (h2 : Cond.initialized "java/lang/Math" ∈ qTb) (h3 : Cond.code Lib.Math.max.name Lib.Math.max.code 2 (some .int) ∈ qTb) (hd : 1 ≤ d) (hw : (st.map fun v => v.category).sum ≤ 8) (hdg : decode cc pc = .ok (.invokestatic idx, 3)) (hn : pc + 3 = np)
    (kk : qB E y cc nL ret Ex d bc bs np lv (.int (if x < z then z else x) :: st) m P G) : qB E y cc nL ret Ex d bc bs pc lv (.int z :: .int x :: st) m P G := by
  intro a1 rr hP hG p e R s mi args below meth c H locs cells slots mc ms ls Qf S hR hS hc hs hl
  subst hn
  obtain ⟨⟨hx, hb, hml, hown, hts, hTb, hbase, hname, hEx⟩, ⟨r1, r2, r3, r4⟩, r5⟩ := id S
  exact va_mmax hx hb (by rw [hml]; exact hl.1.symm) hown (hts _ hlk) (hts _ h1) (hts _ h2) (hts _ h3) (by omega) (by omega) (by omega) (by omega) hdg (kk a1 rr hP hG p e R s mi args below meth c H locs cells slots mc ms ls Qf S hR hS hc hs hl)
theorem j_min {np idx : Nat} {x z : Int32} (hlk : Cond.methodLink y.cls idx Lib.Math.min.name ∈ qTb) (h1 : Cond.static Lib.Math.min.name ∈ qTb) (h2 : Cond.initialized "java/lang/Math" ∈ qTb) (h3 : Cond.code Lib.Math.min.name Lib.Math.min.code 2 (some .int) ∈ qTb) (hd : 1 ≤ d) (hw : (st.map fun v => v.category).sum ≤ 8) (hdg : decode cc pc = .ok (.invokestatic idx, 3)) (hn : pc + 3 = np)
    (kk : qB E y cc nL ret Ex d bc bs np lv (.int (if z < x then z else x) :: st) m P G) : qB E y cc nL ret Ex d bc bs pc lv (.int z :: .int x :: st) m P G := by
  intro a1 rr hP hG p e R s mi args below meth c H locs cells slots mc ms ls Qf S hR hS hc hs hl
  subst hn
  obtain ⟨⟨hx, hb, hml, hown, hts, hTb, hbase, hname, hEx⟩, ⟨r1, r2, r3, r4⟩, r5⟩ := id S
  exact va_mmin hx hb (by rw [hml]; exact hl.1.symm) hown (hts _ hlk) (hts _ h1) (hts _ h2) (hts _ h3) (by omega) (by omega) (by omega) (by omega) hdg (kk a1 rr hP hG p e R s mi args below meth c H locs cells slots mc ms ls Qf S hR hS hc hs hl)
end JCALL
section JMET
variable {p : Program} {l : Launch} {e : Env} {R : Room} {s : State} {mi : MethodId} {args : Array Value} {below : List Frame} {meth : Method} {c : Code} {H : Heap} {locs : List Loc} {cells slots : Nat}
theorem q_zret {cc : ByteArray} {Qc : Array Value → State → Outcome → State → Prop} {free : Addr → Prop} {v v2 : Int32} {ty : FieldType} (hexec : p.tables.exec = Jvm.exec) (hb : c.code = cc) (hr : meth.sig.returnType = some ty) (hn : narrow ty (.int v) = .int v2)
    (hq : ∀ t : State, t.heap = H → s.WarmedH t.vm → Qc args s (.returned (some (.int v2))) t) (hf : ∀ q ∈ locs, free q.base)
    {pc : Nat} {ls : Array Slot} (hdg : decode cc pc = .ok (.ireturn, 1)) (hlocks : meth.locks = false) : W p l e R s mi args below meth c H locs cells slots (MQ below Qc args s cells slots free) (F0 mi pc ls [.int v]) := by
  intro T hT X
  obtain ⟨fs, hret, hrun, hended, hW, hframe⟩ := X.leave (v := some (.int v2)) (hlocks := hlocks) (fun h => by rw [hr] at h; cases h)
  have hmeth' : T.vm.method? mi = some meth := X.method'
  refine ⟨T.setFrames fs, ?_, .returned (some (.int v2)), hrun, hended, hq _ hT hW, locs, ⟨⟨_, rfl⟩, hW, hframe⟩, hf⟩
  jvm_step X.here [X.here.top, hexec, hb, hdg, hmeth', hr, hn]
  (try refine ⟨rfl, ?_⟩); (try refine ⟨rfl, ?_⟩)
  first | (intro acts; rw [hret _ acts rfl rfl rfl]) | rw [hret _ _ rfl rfl rfl]
  exact Steps.refl _
end JMET
theorem q_met {E : qE} {y : MethodName} {cc : ByteArray} {nL : Nat} {ret : Option FieldType} {d bc bs : Nat} {av : List Value} {m : qM} {rr : qRR} (hy : plainName y.cls = true) (hlen : (lg_sl av).length ≤ nL) (h : qJ E y cc nL ret (fun _ => True) d bc bs 0 (lv_args 0 av) [] m rr) : qRun E y cc nL ret d bc bs av m rr := by
  refine Met.ofW (cc := cc) (maxL := nL) (ret := ret) hy rfl ?_
  intro p e s mi args below meth c s₁ B hml hv
  obtain ⟨rfl, hRel, hTab, hbase⟩ := hv
  have hts := atoms_spec (ws := Cond.code y cc nL ret :: qTb) B.pre
  have hl := lv_entry av (n := nL) hlen
  rw [lg_entry_eq]
  refine h p e _ s mi _ below meth c s.heap [] 0 0 bc bs _ _ ⟨⟨B.exec, B.bytes, hml, findClass_of_methodNamed B.named, fun w hw => hts w (List.mem_cons_of_mem _ hw), hTab, hbase, (name_of_methodNamed B.named B.method).1, trivial⟩, ⟨Nat.le_refl _, Nat.le_refl _, Nat.le_refl _, Nat.le_refl _⟩, ?_⟩ hRel va_S.rf (by omega) (by omega) hl
  intro pc ls H locs v hdg hval hm hR hS
  have hq : ∀ t : State, t.heap = H → s.WarmedH t.vm → qQc E rr av.toArray s (.returned rr.1) t := fun t ht hW => ⟨rfl, by rw [ht]; exact hR, hS.F ht⟩
  have hr := B.returns
  cases ret with
  | none =>
    have hv : v = none := hval
    subst hv
    have e1 : rr.1 = none := hm.symm
    rw [e1] at hq
    exact W.vret B.exec B.bytes hr hq hS.2.2 hdg B.notSynchronized
  | some ty =>
    cases ty with
    | int =>
      obtain ⟨i, rfl⟩ := hval
      have e1 : rr.1 = some (.int i) := hm.symm
      rw [e1] at hq
      exact W.iret B.exec B.bytes hr hq hS.2.2 hdg B.notSynchronized
    | boolean =>
      obtain ⟨i, rfl⟩ := hval
      have e1 : rr.1 = some (.int (i &&& 1)) := hm.symm
      rw [e1] at hq
      exact q_zret B.exec B.bytes hr rfl hq hS.2.2 hdg B.notSynchronized
    | char =>
      obtain ⟨i, rfl⟩ := hval
      have e1 : rr.1 = some (.int i.toUInt32.toUInt16.toUInt32.toInt32) := hm.symm
      rw [e1] at hq
      exact q_zret B.exec B.bytes hr rfl hq hS.2.2 hdg B.notSynchronized
    | byte =>
      obtain ⟨i, rfl⟩ := hval
      have e1 : rr.1 = some (.int i.toInt8.toInt32) := hm.symm
      rw [e1] at hq
      exact q_zret B.exec B.bytes hr rfl hq hS.2.2 hdg B.notSynchronized
    | long =>
      obtain ⟨i, rfl⟩ := hval
      have e1 : rr.1 = some (.long i) := hm.symm
      rw [e1] at hq
      exact W.lret B.exec B.bytes hr hq hS.2.2 hdg B.notSynchronized
    | object C =>
      obtain ⟨i, rfl⟩ := hval
      have e1 : rr.1 = some (.ref i) := hm.symm
      rw [e1] at hq
      exact W.aret B.exec B.bytes hr (Or.inl ⟨C, rfl⟩) (Or.inr ⟨i, rfl⟩) hq hS.2.2 hdg B.notSynchronized
    | _ => exact hval.elim
