-- ===== THE ABSTRACT MEMORY: ints, longs, references (by places counted from the base), kinds, lengths, how many cells =====
abbrev qM : Type := (Nat → Nat → Int32) × (Nat → Nat → Int64) × (Nat → Nat → Option Nat) × (Nat → Nat) × (Nat → Nat) × Nat
def qI (m : qM) : Nat → Nat → Int32 := m.1
def qL (m : qM) : Nat → Nat → Int64 := m.2.1
def qR (m : qM) : Nat → Nat → Option Nat := m.2.2.1
def qK (m : qM) : Nat → Nat := m.2.2.2.1
def qN (m : qM) : Nat → Nat := m.2.2.2.2.1
def qT (m : qM) : Nat := m.2.2.2.2.2
def qu {α : Type} (f : Nat → Nat → α) (a k : Nat) (v : α) : Nat → Nat → α := fun x j => if x = a then (if j = k then v else f x j) else f x j
def qur {α : Type} (f : Nat → Nat → α) (a : Nat) (g : Nat → α) : Nat → Nat → α := fun x j => if x = a then g j else f x j
def qsI (m : qM) (a k : Nat) (v : Int32) : qM := (qu (qI m) a k v, qL m, qR m, qK m, qN m, qT m)
def qsL (m : qM) (a k : Nat) (v : Int64) : qM := (qI m, qu (qL m) a k v, qR m, qK m, qN m, qT m)
def qsR (m : qM) (a k : Nat) (v : Option Nat) : qM := (qI m, qL m, qu (qR m) a k v, qK m, qN m, qT m)
def qsA (m : qM) (a : Nat) (g : Nat → Int32) : qM := (qur (qI m) a g, qL m, qR m, qK m, qN m, qT m)
/-- a new cell of a kind, of a length: zeros, no references -/
def qnw (m : qM) (c n : Nat) : qM := (qur (qI m) (qT m) (fun _ => 0), qur (qL m) (qT m) (fun _ => 0), qur (qR m) (qT m) (fun _ => none), va_up (qK m) (qT m) c, va_up (qN m) (qT m) n, qT m + 1)
-- kinds: 0 .. 10 the classes of vwCl; 11 char, 12 int, 13 long, 14 boolean arrays; 15, 16 arrays of Formula, of Row; 99 nothing
def qFk : List (List Bool) := [[true, false, false], [true, true, true, true, true, true, false], [true, true, true, true, true, false], [true], [true, true, true, false], [true, false, false], [true, true, true, true, true, true, true, false, false, false], [true, false], [true, true, true, true, true, true, true, true, true, false, false], [true, true, true, true, true, true, true, true, true, true, true, true, true], [true, true, true, true, true, false, true, false, false, false, true, false, true, false, true, true, true, true, true, true, true, false, true, true, false, false, true, false, true, true, true, true, false, true, true, false, false, true]]
def qFn (ci : Nat) : Nat := (qFk.getD ci []).length
def qFr (ci k : Nat) : Bool := (qFk.getD ci []).getD k false
-- ===== THE ENVIRONMENT: launch, base, the classes' numbers and slots, the array classes, the strings and their bytes =====
abbrev qE : Type := Launch × Nat × va_G × (Nat → ClassId) × (Nat → Nat) × (Nat → Nat)
def qA (E : qE) : Nat → Prop := fun q => E.2.1 ≤ q
def qrf (E : qE) (r : Option Nat) : Option Nat := r.map (fun a => E.2.1 + a)
def qfs (E : qE) (m : qM) (a ci : Nat) : List Value := (List.range (qFn ci)).map (fun k => if qFr ci k = true then va_rf (qrf E (qR m a k)) else .int (qI m a k))
def qar (E : qE) (m : qM) (a : Nat) : (Nat → Int32) ⊕ (Nat → Int64) ⊕ (Nat → UInt32) ⊕ (Nat → UInt64) ⊕ (Nat → Option Nat) :=
  if qK m a = 13 then .inr (.inl (qL m a)) else if 15 ≤ qK m a then .inr (.inr (.inr (.inr (fun j => qrf E (qR m a j))))) else .inl (qI m a)
def qc (E : qE) (m : qM) (a : Nat) : va_E := if qK m a < 11 then .inr (qK m a, qfs E m a (qK m a)) else .inl (E.2.2.2.1 (qK m a), qN m a, qar E m a)
def qW (E : qE) (m : qM) : va_W := (List.range (qT m)).map (fun a => (E.2.1 + a, qc E m a))
def qRel (E : qE) (m : qM) (H : Heap) : Prop := va_P E.2.2.1 vwCl (qW E m) H ∧ H.size = E.2.1 + qT m ∧ ∀ a, qT m ≤ a → qK m a = 99
def qty (E : qE) : List (ClassId × FieldType) := [(E.2.2.2.1 11, .char), (E.2.2.2.1 12, .int), (E.2.2.2.1 13, .long), (E.2.2.2.1 14, .boolean), (E.2.2.2.1 15, .object "CondensedDetachment$Formula"), (E.2.2.2.1 16, .object "CondensedDetachment$Row")]
-- the words that aren't of the table's good ones
def qNest : List Cond := [.methodLinkNest RX9 11 yX7_init RX9, .methodLinkNest RX9 28 yX8_init RX9, .methodLinkNest RX9 35 yX3_init RX9, .methodLinkNest RX9 51 yX4_init RX9, .methodLinkNest RX9 58 yX6_init RX9, .methodLinkNest RX9 69 yX5_init RX9, .methodLinkNest RX9 76 yX0_init RX9, .methodLinkNest RX1 34 yX0_init RX9, .methodLinkNest RX2 11 yX0_init RX9]
-- the places of String constants: class, entry, text, which of the twelve texts
def qSites : List (String × Nat × String × Nat) := [("CondensedDetachment$Term", 35, "CaCba", 0), ("CondensedDetachment$Term", 37, "CCaCbcCCabCac", 1), ("CondensedDetachment$Term", 39, "CCabCCcaCcb", 2), ("CondensedDetachment$Term", 41, "CCaCbcCbCac", 3), ("CondensedDetachment$Term", 43, "CCaCabCab", 4), ("CondensedDetachment$Term", 45, "Caa", 5), ("CondensedDetachment$Term", 47, "02@12@\x40", 6), ("CondensedDetachment$Term", 49, "012@\x40", 7), ("CondensedDetachment$Term", 51, "02@1@", 8), ("CondensedDetachment$Term", 53, "01@1@", 9), ("CondensedDetachment$Term", 55, "0", 10), ("CondensedDetachmentModel", 237, "SKIBCW", 11), ("CondensedDetachmentModel", 244, "CCaCbcCCabCac", 1), ("CondensedDetachmentModel", 246, "CaCba", 0), ("CondensedDetachmentModel", 248, "Caa", 5), ("CondensedDetachmentModel", 250, "CCabCCcaCcb", 2), ("CondensedDetachmentModel", 252, "CCaCbcCbCac", 3), ("CondensedDetachmentModel", 254, "CCaCabCab", 4)]
def qTx : List (List Int32) := [[67, 97, 67, 98, 97], [67, 67, 97, 67, 98, 99, 67, 67, 97, 98, 67, 97, 99], [67, 67, 97, 98, 67, 67, 99, 97, 67, 99, 98], [67, 67, 97, 67, 98, 99, 67, 98, 67, 97, 99], [67, 67, 97, 67, 97, 98, 67, 97, 98], [67, 97, 97], [48, 50, 64, 49, 50, 64, 64], [48, 49, 50, 64, 64], [48, 50, 64, 49, 64], [48, 49, 64, 49, 64], [48], [83, 75, 73, 66, 67, 87]]
def qStr (E : qE) (U : State) (H : Heap) : Prop := ∀ i : Nat, i < 12 → va_O "java/lang/String" (E.2.2.2.2.1 i) (qA E) U H ∧ va_OF "java/lang/String" "coder" "B" (.int 0) (E.2.2.2.2.1 i) (qA E) U H ∧ va_OF "java/lang/String" "value" "[B" (.ref (E.2.2.2.2.2 i)) (E.2.2.2.2.1 i) (qA E) U H ∧ va_T .byte (E.2.2.2.2.2 i) (qTx.getD i []).length (fun j => .int ((qTx.getD i []).getD j 0)) (qA E) U H
def qTab (E : qE) (U : State) : Prop := va_K E.2.2.1 vwCl (qty E) U ∧ (∀ w ∈ qNest, va_Nw w U) ∧ va_AO "CondensedDetachment$Formula" U ∧ va_AO "CondensedDetachment$Row" U ∧ (∀ q ∈ qSites, vk_R q.1 q.2.1 q.2.2.1 (E.2.2.2.2.1 q.2.2.2) U) ∧ qStr E U U.heap ∧ va_Z "java/lang/String" "COMPACT_STRINGS" "Z" (.int 1) (qA E) U U.heap ∧ va_Zq "jdk/internal/util/Preconditions" "SIOOBE_FORMATTER" "Ljava/util/function/BiFunction;" (qA E) U U.heap
-- ===== THE JUDGEMENT =====
abbrev qRR : Type := Option Value × qM
def qQc (E : qE) (rr : qRR) : Array Value → State → Outcome → State → Prop := fun _ st o t => o = .returned rr.1 ∧ qRel E rr.2 t.heap ∧ va_F (qA E) st t
def qRi (ret : Option FieldType) : Instr := match ret with
  | none => .return_
  | some .long => .lreturn
  | some (.object _) => .areturn
  | some (.array _) => .areturn
  | some _ => .ireturn
def qVal (ret : Option FieldType) (v : Option Value) : Prop := match ret with
  | none => v = none
  | some .int => ∃ i, v = some (.int i)
  | some .boolean => ∃ i, v = some (.int i)
  | some .char => ∃ i, v = some (.int i)
  | some .byte => ∃ i, v = some (.int i)
  | some .long => ∃ x, v = some (.long x)
  | some (.object _) => ∃ x, v = some (.ref x)
  | _ => False
def qCx (E : qE) (y : MethodName) (cc : ByteArray) (nL : Nat) (Ex : State → Prop) (p : Program) (s : State) (mi : MethodId) (args : Array Value) (meth : Method) (c : Code) : Prop :=
  p.tables.exec = Jvm.exec ∧ c.code = cc ∧ c.maxLocals = nL ∧ s.vm.findClass y.cls = some mi.cls ∧ (∀ w ∈ qTb, w.before args s = true) ∧ qTab E s ∧ E.2.1 ≤ s.heap.size ∧ meth.name = y.name ∧ Ex s
/-- the end of an activation: at a return, with the answer on the stack -/
def qEx (E : qE) (cc : ByteArray) (ret : Option FieldType) (rr : qRR) (p : Program) (e : Env) (R : Room) (s : State) (mi : MethodId) (args : Array Value) (below : List Frame) (meth : Method) (c : Code) (mc ms : Nat) (Qf : State → Prop) : Prop :=
  ∀ (pc : Nat) (ls : Array Slot) (H : Heap) (locs : List Loc) (v : Option Value), decode cc pc = .ok (qRi ret, 1) → qVal ret v → v.map (fun x => match ret with | some t => narrow t x | none => x) = rr.1 → qRel E rr.2 H → va_S (qA E) s.heap H locs → W p E.1 e R s mi args below meth c H locs mc ms Qf (F0 mi pc ls v.toList)
def qSt (E : qE) (y : MethodName) (cc : ByteArray) (nL : Nat) (ret : Option FieldType) (Ex : State → Prop) (d : Nat) (rr : qRR) (p : Program) (e : Env) (R : Room) (s : State) (mi : MethodId) (args : Array Value) (below : List Frame) (meth : Method) (c : Code) (mc ms : Nat) (Qf : State → Prop) : Prop :=
  qCx E y cc nL Ex p s mi args meth c ∧ (d ≤ R.frames ∧ 41 * d ≤ R.locals ∧ mc ≤ R.cells ∧ ms ≤ R.slots) ∧ qEx E cc ret rr p e R s mi args below meth c mc ms Qf
def qJ (E : qE) (y : MethodName) (cc : ByteArray) (nL : Nat) (ret : Option FieldType) (Ex : State → Prop) (d bc bs pc : Nat) (lv : List (Nat × Value)) (st : List Value) (m : qM) (rr : qRR) : Prop :=
  ∀ (p : Program) (e : Env) (R : Room) (s : State) (mi : MethodId) (args : Array Value) (below : List Frame) (meth : Method) (c : Code) (H : Heap) (locs : List Loc) (cells slots mc ms : Nat) (ls : Array Slot) (Qf : State → Prop),
    qSt E y cc nL ret Ex d rr p e R s mi args below meth c mc ms Qf → qRel E m H → va_S (qA E) s.heap H locs → cells + bc ≤ mc → slots + bs ≤ ms → lv_has ls nL lv → W p E.1 e R s mi args below meth c H locs cells slots Qf (F0 mi pc ls st)
/-- a program: whatever it answers, and whatever that means for the end, the machine comes there -/
def qB (E : qE) (y : MethodName) (cc : ByteArray) (nL : Nat) (ret : Option FieldType) (Ex : State → Prop) (d bc bs pc : Nat) (lv : List (Nat × Value)) (st : List Value) (m : qM) {α : Type} (P : Option α) (G : α → qRR → Prop) : Prop :=
  ∀ (a : α) (rr : qRR), P = some a → G a rr → qJ E y cc nL ret Ex d bc bs pc lv st m rr
/-- a method's contract -/
def qRun (E : qE) (y : MethodName) (cc : ByteArray) (nL : Nat) (ret : Option FieldType) (d bc bs : Nat) (args : List Value) (m : qM) (rr : qRR) : Prop :=
  Met E.1 y (Cond.code y cc nL ret :: qTb) { frames := d, cells := bc, slots := bs, locals := 41 * d } (va_Pc args (fun U => qRel E m U.heap ∧ qTab E U ∧ E.2.1 ≤ U.heap.size)) (qQc E rr) bc bs (qA E)
-- ===== the primitives of programs =====
def qgI (m : qM) (a c k : Nat) : Option Int32 := if qK m a = c then some (qI m a k) else none
def qgR (m : qM) (a c k : Nat) : Option Nat := if qK m a = c then qR m a k else none
def qpI (m : qM) (a c k : Nat) (v : Int32) : Option qM := if qK m a = c then some (qsI m a k v) else none
def qpR (m : qM) (a c k v : Nat) : Option qM := if qK m a = c then some (qsR m a k (some v)) else none
def qaI (m : qM) (a c : Nat) (i : Int32) : Option Int32 := if qK m a = c ∧ ¬ i < 0 ∧ i.toNatClampNeg < qN m a then some (qI m a i.toNatClampNeg) else none
def qaL (m : qM) (a : Nat) (i : Int32) : Option Int64 := if qK m a = 13 ∧ ¬ i < 0 ∧ i.toNatClampNeg < qN m a then some (qL m a i.toNatClampNeg) else none
def qaR (m : qM) (a c : Nat) (i : Int32) : Option Nat := if qK m a = c ∧ ¬ i < 0 ∧ i.toNatClampNeg < qN m a then qR m a i.toNatClampNeg else none
def qwI (m : qM) (a c : Nat) (i v : Int32) : Option qM := if qK m a = c ∧ ¬ i < 0 ∧ i.toNatClampNeg < qN m a then some (qsI m a i.toNatClampNeg v) else none
def qwL (m : qM) (a : Nat) (i : Int32) (v : Int64) : Option qM := if qK m a = 13 ∧ ¬ i < 0 ∧ i.toNatClampNeg < qN m a then some (qsL m a i.toNatClampNeg v) else none
def qwR (m : qM) (a c : Nat) (i : Int32) (v : Nat) : Option qM := if qK m a = c ∧ ¬ i < 0 ∧ i.toNatClampNeg < qN m a ∧ qK m v + 15 = (if c = 15 then 15 else 20) then some (qsR m a i.toNatClampNeg (some v)) else none
def qlen (m : qM) (a : Nat) : Option Int32 := if 11 ≤ qK m a ∧ qK m a ≤ 16 then some (Int32.ofNat (qN m a)) else none
/-- a new array: its length is at most bs -/
def qnA (m : qM) (c : Nat) (n : Int32) (bs : Nat) : Option qM := if ¬ n < 0 ∧ n.toNatClampNeg ≤ bs then some (qnw m c n.toNatClampNeg) else none
-- ===== the world's list =====
theorem qW_get {E : qE} {m : qM} {a : Nat} (h : a < qT m) : (qW E m)[a]? = some (E.2.1 + a, qc E m a) := by
  simp [qW, h]
theorem qW_of {E : qE} {m : qM} {k : Nat} {q : Nat × va_E} (h : (qW E m)[k]? = some q) : k < qT m ∧ q = (E.2.1 + k, qc E m k) := by
  have hl : k < qT m := by
    have := (List.getElem?_eq_some_iff.mp h).1
    simpa [qW] using this
  rw [qW_get hl] at h
  exact ⟨hl, (Option.some.inj h).symm⟩
theorem qW_D (E : qE) (m : qM) : va_D (qA E) (qW E m) := by
  refine ⟨fun i j p q hi hj hpq => ?_, fun k q hk => ?_⟩
  · obtain ⟨-, rfl⟩ := qW_of hi
    obtain ⟨-, rfl⟩ := qW_of hj
    simp at hpq
    omega
  · obtain ⟨-, rfl⟩ := qW_of hk
    exact Nat.le_add_right _ _
theorem qW_set {E : qE} {m m' : qM} {a : Nat} {e : va_E} (hT : qT m' = qT m) (he : qc E m' a = e) (ho : ∀ x, x ≠ a → qc E m' x = qc E m x) : (qW E m).set a (E.2.1 + a, e) = qW E m' := by
  apply List.ext_getElem?
  intro k
  rw [List.getElem?_set]
  by_cases hk : k < qT m
  · rw [qW_get (E := E) (m := m') (by rw [hT]; exact hk)]
    by_cases hka : a = k
    · subst hka
      rw [if_pos rfl, if_pos (by simpa [qW] using hk), he]
    · rw [if_neg hka, qW_get hk, ho k (fun h => hka h.symm)]
  · have h1 : (qW E m')[k]? = none := by rw [List.getElem?_eq_none_iff]; simp [qW, hT]; omega
    rw [h1]
    by_cases hka : a = k
    · subst hka
      rw [if_pos rfl, if_neg (by simpa [qW] using hk)]
    · rw [if_neg hka, List.getElem?_eq_none_iff]; simp [qW]; omega
theorem qW_push {E : qE} {m m' : qM} {e : va_E} (hT : qT m' = qT m + 1) (he : qc E m' (qT m) = e) (ho : ∀ x, x < qT m → qc E m' x = qc E m x) : qW E m ++ [(E.2.1 + qT m, e)] = qW E m' := by
  unfold qW
  rw [hT, List.range_succ, List.map_append, List.map_cons, List.map_nil, he]
  congr 1
  apply List.map_congr_left
  intro a ha
  rw [ho a (List.mem_range.mp ha)]
