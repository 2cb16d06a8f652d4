section JROWS
variable {E : qE} {y : MethodName} {cc : ByteArray} {nL : Nat} {ret : Option FieldType} {Ex : State → Prop} {d bc bs pc : Nat} {lv : List (Nat × Value)} {st : List Value} {m : qM} {α : Type} {P : Option α} {G : α → qRR → Prop}
theorem j_iconst {np : Nat} {n : Int} {v : Int32} (hv : Int32.ofInt n = v) (hdg : decode cc pc = .ok (.iconst n, 1)) (hn : pc + 1 = np) (k : qB E y cc nL ret Ex d bc bs np lv (.int v :: st) m P G) : qB E y cc nL ret Ex d bc bs pc lv (st) m P G := by
  intro a rr hP hG p e R s mi args below meth c H locs cells slots mc ms ls Qf S hR hS hc hs hl
  subst hn
  exact lv_iconst S.1.1 S.1.2.1 hdg hv (k a rr hP hG p e R s mi args below meth c H locs cells slots mc ms ls Qf S hR hS hc hs hl)
theorem j_bipush {np : Nat} {n : Int} {v : Int32} (hv : (Int8.ofInt n).toInt32 = v) (hdg : decode cc pc = .ok (.bipush n, 2)) (hn : pc + 2 = np) (k : qB E y cc nL ret Ex d bc bs np lv (.int v :: st) m P G) : qB E y cc nL ret Ex d bc bs pc lv (st) m P G := by
  intro a rr hP hG p e R s mi args below meth c H locs cells slots mc ms ls Qf S hR hS hc hs hl
  subst hn
  exact lv_bipush S.1.1 S.1.2.1 hdg hv (k a rr hP hG p e R s mi args below meth c H locs cells slots mc ms ls Qf S hR hS hc hs hl)
theorem j_sipush {np : Nat} {n : Int} {v : Int32} (hv : (Int16.ofInt n).toInt32 = v) (hdg : decode cc pc = .ok (.sipush n, 3)) (hn : pc + 3 = np) (k : qB E y cc nL ret Ex d bc bs np lv (.int v :: st) m P G) : qB E y cc nL ret Ex d bc bs pc lv (st) m P G := by
  intro a rr hP hG p e R s mi args below meth c H locs cells slots mc ms ls Qf S hR hS hc hs hl
  subst hn
  exact lv_sipush S.1.1 S.1.2.1 hdg hv (k a rr hP hG p e R s mi args below meth c H locs cells slots mc ms ls Qf S hR hS hc hs hl)
theorem j_lconst {np : Nat} {n : Fin 2} {v : Int64} (hv : Int64.ofNat (n : Nat) = v) (hdg : decode cc pc = .ok (.lconst n, 1)) (hn : pc + 1 = np) (k : qB E y cc nL ret Ex d bc bs np lv (.long v :: st) m P G) : qB E y cc nL ret Ex d bc bs pc lv (st) m P G := by
  intro a rr hP hG p e R s mi args below meth c H locs cells slots mc ms ls Qf S hR hS hc hs hl
  subst hn
  exact lv_lconst S.1.1 S.1.2.1 hdg hv (k a rr hP hG p e R s mi args below meth c H locs cells slots mc ms ls Qf S hR hS hc hs hl)
theorem j_ldc2 {np : Nat} {index : Nat} {v : Int64} (hw : Cond.constantLong y.cls index v ∈ qTb) (hdg : decode cc pc = .ok (.ldc2_w index, 3)) (hn : pc + 3 = np) (k : qB E y cc nL ret Ex d bc bs np lv (.long v :: st) m P G) : qB E y cc nL ret Ex d bc bs pc lv (st) m P G := by
  intro a rr hP hG p e R s mi args below meth c H locs cells slots mc ms ls Qf S hR hS hc hs hl
  subst hn
  exact lv_ldc2 S.1.1 S.1.2.1 S.1.2.2.2.1 (S.1.2.2.2.2.1 _ hw) hdg (k a rr hP hG p e R s mi args below meth c H locs cells slots mc ms ls Qf S hR hS hc hs hl)
theorem j_iload_n {np : Nat} {k : Fin 4} {i q : Nat} {x : Int32} (hi : (k : Nat) = i) (hq : lv[q]? = some (i, .int x)) (hdg : decode cc pc = .ok (.iload_n k, 1)) (hn : pc + 1 = np) (k : qB E y cc nL ret Ex d bc bs np lv (.int x :: st) m P G) : qB E y cc nL ret Ex d bc bs pc lv (st) m P G := by
  intro a rr hP hG p e R s mi args below meth c H locs cells slots mc ms ls Qf S hR hS hc hs hl
  subst hn
  exact lv_iload_n S.1.1 S.1.2.1 hdg hi (lv_at hl q hq) (k a rr hP hG p e R s mi args below meth c H locs cells slots mc ms ls Qf S hR hS hc hs hl)
theorem j_iload {np : Nat} {i q : Nat} {x : Int32} (hq : lv[q]? = some (i, .int x)) (hdg : decode cc pc = .ok (.iload i, 2)) (hn : pc + 2 = np) (k : qB E y cc nL ret Ex d bc bs np lv (.int x :: st) m P G) : qB E y cc nL ret Ex d bc bs pc lv (st) m P G := by
  intro a rr hP hG p e R s mi args below meth c H locs cells slots mc ms ls Qf S hR hS hc hs hl
  subst hn
  exact lv_iload S.1.1 S.1.2.1 hdg (lv_at hl q hq) (k a rr hP hG p e R s mi args below meth c H locs cells slots mc ms ls Qf S hR hS hc hs hl)
theorem j_lload_n {np : Nat} {k : Fin 4} {i q : Nat} {x : Int64} (hi : (k : Nat) = i) (hq : lv[q]? = some (i, .long x)) (hdg : decode cc pc = .ok (.lload_n k, 1)) (hn : pc + 1 = np) (k : qB E y cc nL ret Ex d bc bs np lv (.long x :: st) m P G) : qB E y cc nL ret Ex d bc bs pc lv (st) m P G := by
  intro a rr hP hG p e R s mi args below meth c H locs cells slots mc ms ls Qf S hR hS hc hs hl
  subst hn
  exact lv_lload_n S.1.1 S.1.2.1 hdg hi (lv_at hl q hq) (k a rr hP hG p e R s mi args below meth c H locs cells slots mc ms ls Qf S hR hS hc hs hl)
theorem j_lload {np : Nat} {i q : Nat} {x : Int64} (hq : lv[q]? = some (i, .long x)) (hdg : decode cc pc = .ok (.lload i, 2)) (hn : pc + 2 = np) (k : qB E y cc nL ret Ex d bc bs np lv (.long x :: st) m P G) : qB E y cc nL ret Ex d bc bs pc lv (st) m P G := by
  intro a rr hP hG p e R s mi args below meth c H locs cells slots mc ms ls Qf S hR hS hc hs hl
  subst hn
  exact lv_lload S.1.1 S.1.2.1 hdg (lv_at hl q hq) (k a rr hP hG p e R s mi args below meth c H locs cells slots mc ms ls Qf S hR hS hc hs hl)
theorem j_aload_n {np : Nat} {k : Fin 4} {i q : Nat} {x : Nat} (hi : (k : Nat) = i) (hq : lv[q]? = some (i, .ref x)) (hdg : decode cc pc = .ok (.aload_n k, 1)) (hn : pc + 1 = np) (k : qB E y cc nL ret Ex d bc bs np lv (.ref x :: st) m P G) : qB E y cc nL ret Ex d bc bs pc lv (st) m P G := by
  intro a rr hP hG p e R s mi args below meth c H locs cells slots mc ms ls Qf S hR hS hc hs hl
  subst hn
  exact lv_aload_n S.1.1 S.1.2.1 hdg hi (lv_at hl q hq) (k a rr hP hG p e R s mi args below meth c H locs cells slots mc ms ls Qf S hR hS hc hs hl)
theorem j_aload {np : Nat} {i q : Nat} {x : Nat} (hq : lv[q]? = some (i, .ref x)) (hdg : decode cc pc = .ok (.aload i, 2)) (hn : pc + 2 = np) (k : qB E y cc nL ret Ex d bc bs np lv (.ref x :: st) m P G) : qB E y cc nL ret Ex d bc bs pc lv (st) m P G := by
  intro a rr hP hG p e R s mi args below meth c H locs cells slots mc ms ls Qf S hR hS hc hs hl
  subst hn
  exact lv_aload S.1.1 S.1.2.1 hdg (lv_at hl q hq) (k a rr hP hG p e R s mi args below meth c H locs cells slots mc ms ls Qf S hR hS hc hs hl)
theorem j_istore_n {np : Nat} {k : Fin 4} {i : Nat} {x : Int32} (hi : (k : Nat) = i) (hin : i < nL) {lv2 : List (Nat × Value)} (hdg : decode cc pc = .ok (.istore_n k, 1)) (hn : pc + 1 = np) (hl2 : (i, Value.int x) :: lv.filter (fun q => !(q.1 == i) && !(q.1 + 1 == i && q.2.category == 2)) = lv2) (k : qB E y cc nL ret Ex d bc bs np lv2 st m P G) : qB E y cc nL ret Ex d bc bs pc lv (.int x :: st) m P G := by
  intro a rr hP hG p e R s mi args below meth c H locs cells slots mc ms ls Qf S hR hS hc hs hl
  subst hn
  exact lv_istore_n S.1.1 S.1.2.1 hdg hi hl hin hl2 (fun ls2 hl2 => k a rr hP hG p e R s mi args below meth c H locs cells slots mc ms ls2 Qf S hR hS hc hs hl2)
theorem j_istore {np : Nat} {i : Nat} {x : Int32} (hin : i < nL) {lv2 : List (Nat × Value)} (hdg : decode cc pc = .ok (.istore i, 2)) (hn : pc + 2 = np) (hl2 : (i, Value.int x) :: lv.filter (fun q => !(q.1 == i) && !(q.1 + 1 == i && q.2.category == 2)) = lv2) (k : qB E y cc nL ret Ex d bc bs np lv2 st m P G) : qB E y cc nL ret Ex d bc bs pc lv (.int x :: st) m P G := by
  intro a rr hP hG p e R s mi args below meth c H locs cells slots mc ms ls Qf S hR hS hc hs hl
  subst hn
  exact lv_istore S.1.1 S.1.2.1 hdg hl hin hl2 (fun ls2 hl2 => k a rr hP hG p e R s mi args below meth c H locs cells slots mc ms ls2 Qf S hR hS hc hs hl2)
theorem j_astore_n {np : Nat} {k : Fin 4} {i : Nat} {x : Nat} (hi : (k : Nat) = i) (hin : i < nL) {lv2 : List (Nat × Value)} (hdg : decode cc pc = .ok (.astore_n k, 1)) (hn : pc + 1 = np) (hl2 : (i, Value.ref x) :: lv.filter (fun q => !(q.1 == i) && !(q.1 + 1 == i && q.2.category == 2)) = lv2) (k : qB E y cc nL ret Ex d bc bs np lv2 st m P G) : qB E y cc nL ret Ex d bc bs pc lv (.ref x :: st) m P G := by
  intro a rr hP hG p e R s mi args below meth c H locs cells slots mc ms ls Qf S hR hS hc hs hl
  subst hn
  exact lv_astore_n S.1.1 S.1.2.1 hdg hi hl hin hl2 (fun ls2 hl2 => k a rr hP hG p e R s mi args below meth c H locs cells slots mc ms ls2 Qf S hR hS hc hs hl2)
theorem j_astore {np : Nat} {i : Nat} {x : Nat} (hin : i < nL) {lv2 : List (Nat × Value)} (hdg : decode cc pc = .ok (.astore i, 2)) (hn : pc + 2 = np) (hl2 : (i, Value.ref x) :: lv.filter (fun q => !(q.1 == i) && !(q.1 + 1 == i && q.2.category == 2)) = lv2) (k : qB E y cc nL ret Ex d bc bs np lv2 st m P G) : qB E y cc nL ret Ex d bc bs pc lv (.ref x :: st) m P G := by
  intro a rr hP hG p e R s mi args below meth c H locs cells slots mc ms ls Qf S hR hS hc hs hl
  subst hn
  exact lv_astore S.1.1 S.1.2.1 hdg hl hin hl2 (fun ls2 hl2 => k a rr hP hG p e R s mi args below meth c H locs cells slots mc ms ls2 Qf S hR hS hc hs hl2)
theorem j_iinc {np : Nat} {i q : Nat} {n : Int} {x v : Int32} (hq : lv[q]? = some (i, .int x)) (hv : x + Int32.ofInt n = v) (hin : i < nL) {lv2 : List (Nat × Value)} (hdg : decode cc pc = .ok (.iinc i n, 3)) (hn : pc + 3 = np) (hl2 : (i, Value.int v) :: lv.filter (fun q => !(q.1 == i) && !(q.1 + 1 == i && q.2.category == 2)) = lv2) (k : qB E y cc nL ret Ex d bc bs np lv2 st m P G) : qB E y cc nL ret Ex d bc bs pc lv (st) m P G := by
  intro a rr hP hG p e R s mi args below meth c H locs cells slots mc ms ls Qf S hR hS hc hs hl
  subst hn
  exact lv_iinc S.1.1 S.1.2.1 hdg hl hq hv hin hl2 (fun ls2 hl2 => k a rr hP hG p e R s mi args below meth c H locs cells slots mc ms ls2 Qf S hR hS hc hs hl2)
theorem j_iadd {np : Nat} {x z : Int32} (hdg : decode cc pc = .ok (.iadd, 1)) (hn : pc + 1 = np) (k : qB E y cc nL ret Ex d bc bs np lv (.int (x + z) :: st) m P G) : qB E y cc nL ret Ex d bc bs pc lv (.int z :: .int x :: st) m P G := by
  intro a rr hP hG p e R s mi args below meth c H locs cells slots mc ms ls Qf S hR hS hc hs hl
  subst hn
  exact lv_iadd S.1.1 S.1.2.1 hdg (k a rr hP hG p e R s mi args below meth c H locs cells slots mc ms ls Qf S hR hS hc hs hl)
theorem j_isub {np : Nat} {x z : Int32} (hdg : decode cc pc = .ok (.isub, 1)) (hn : pc + 1 = np) (k : qB E y cc nL ret Ex d bc bs np lv (.int (x - z) :: st) m P G) : qB E y cc nL ret Ex d bc bs pc lv (.int z :: .int x :: st) m P G := by
  intro a rr hP hG p e R s mi args below meth c H locs cells slots mc ms ls Qf S hR hS hc hs hl
  subst hn
  exact lv_isub S.1.1 S.1.2.1 hdg (k a rr hP hG p e R s mi args below meth c H locs cells slots mc ms ls Qf S hR hS hc hs hl)
theorem j_imul {np : Nat} {x z : Int32} (hdg : decode cc pc = .ok (.imul, 1)) (hn : pc + 1 = np) (k : qB E y cc nL ret Ex d bc bs np lv (.int (x * z) :: st) m P G) : qB E y cc nL ret Ex d bc bs pc lv (.int z :: .int x :: st) m P G := by
  intro a rr hP hG p e R s mi args below meth c H locs cells slots mc ms ls Qf S hR hS hc hs hl
  subst hn
  exact lv_imul S.1.1 S.1.2.1 hdg (k a rr hP hG p e R s mi args below meth c H locs cells slots mc ms ls Qf S hR hS hc hs hl)
theorem j_iand {np : Nat} {x z : Int32} (hdg : decode cc pc = .ok (.iand, 1)) (hn : pc + 1 = np) (k : qB E y cc nL ret Ex d bc bs np lv (.int (x &&& z) :: st) m P G) : qB E y cc nL ret Ex d bc bs pc lv (.int z :: .int x :: st) m P G := by
  intro a rr hP hG p e R s mi args below meth c H locs cells slots mc ms ls Qf S hR hS hc hs hl
  subst hn
  exact lv_iand S.1.1 S.1.2.1 hdg (k a rr hP hG p e R s mi args below meth c H locs cells slots mc ms ls Qf S hR hS hc hs hl)
theorem j_ishr {np : Nat} {x z : Int32} (hdg : decode cc pc = .ok (.ishr, 1)) (hn : pc + 1 = np) (k : qB E y cc nL ret Ex d bc bs np lv (.int (x >>> (z &&& 31)) :: st) m P G) : qB E y cc nL ret Ex d bc bs pc lv (.int z :: .int x :: st) m P G := by
  intro a rr hP hG p e R s mi args below meth c H locs cells slots mc ms ls Qf S hR hS hc hs hl
  subst hn
  exact lv_ishr S.1.1 S.1.2.1 hdg (k a rr hP hG p e R s mi args below meth c H locs cells slots mc ms ls Qf S hR hS hc hs hl)
theorem j_ishl {np : Nat} {x z : Int32} (hdg : decode cc pc = .ok (.ishl, 1)) (hn : pc + 1 = np) (k : qB E y cc nL ret Ex d bc bs np lv (.int (x <<< (z &&& 31)) :: st) m P G) : qB E y cc nL ret Ex d bc bs pc lv (.int z :: .int x :: st) m P G := by
  intro a rr hP hG p e R s mi args below meth c H locs cells slots mc ms ls Qf S hR hS hc hs hl
  subst hn
  exact lv_ishl S.1.1 S.1.2.1 hdg (k a rr hP hG p e R s mi args below meth c H locs cells slots mc ms ls Qf S hR hS hc hs hl)
theorem j_idiv {np : Nat} {x z : Int32} (hne : ¬ z = 0) (hdg : decode cc pc = .ok (.idiv, 1)) (hn : pc + 1 = np) (k : qB E y cc nL ret Ex d bc bs np lv (.int (x / z) :: st) m P G) : qB E y cc nL ret Ex d bc bs pc lv (.int z :: .int x :: st) m P G := by
  intro a rr hP hG p e R s mi args below meth c H locs cells slots mc ms ls Qf S hR hS hc hs hl
  subst hn
  exact lv_idiv S.1.1 S.1.2.1 hdg hne (k a rr hP hG p e R s mi args below meth c H locs cells slots mc ms ls Qf S hR hS hc hs hl)
theorem j_irem {np : Nat} {x z : Int32} (hne : ¬ z = 0) (hdg : decode cc pc = .ok (.irem, 1)) (hn : pc + 1 = np) (k : qB E y cc nL ret Ex d bc bs np lv (.int (x - x / z * z) :: st) m P G) : qB E y cc nL ret Ex d bc bs pc lv (.int z :: .int x :: st) m P G := by
  intro a rr hP hG p e R s mi args below meth c H locs cells slots mc ms ls Qf S hR hS hc hs hl
  subst hn
  exact lv_irem S.1.1 S.1.2.1 hdg hne (k a rr hP hG p e R s mi args below meth c H locs cells slots mc ms ls Qf S hR hS hc hs hl)
theorem j_ladd {np : Nat} {x z : Int64} (hdg : decode cc pc = .ok (.ladd, 1)) (hn : pc + 1 = np) (k : qB E y cc nL ret Ex d bc bs np lv (.long (x + z) :: st) m P G) : qB E y cc nL ret Ex d bc bs pc lv (.long z :: .long x :: st) m P G := by
  intro a rr hP hG p e R s mi args below meth c H locs cells slots mc ms ls Qf S hR hS hc hs hl
  subst hn
  exact lv_ladd S.1.1 S.1.2.1 hdg (k a rr hP hG p e R s mi args below meth c H locs cells slots mc ms ls Qf S hR hS hc hs hl)
theorem j_lcmp {np : Nat} {x z : Int64} (hdg : decode cc pc = .ok (.lcmp, 1)) (hn : pc + 1 = np) (k : qB E y cc nL ret Ex d bc bs np lv (.int (lg_cmp x z) :: st) m P G) : qB E y cc nL ret Ex d bc bs pc lv (.long z :: .long x :: st) m P G := by
  intro a rr hP hG p e R s mi args below meth c H locs cells slots mc ms ls Qf S hR hS hc hs hl
  subst hn
  exact W.lcmp S.1.1 S.1.2.1 hdg (k a rr hP hG p e R s mi args below meth c H locs cells slots mc ms ls Qf S hR hS hc hs hl)
theorem j_i2l {np : Nat} {x : Int32} (hdg : decode cc pc = .ok (.i2l, 1)) (hn : pc + 1 = np) (k : qB E y cc nL ret Ex d bc bs np lv (.long x.toInt64 :: st) m P G) : qB E y cc nL ret Ex d bc bs pc lv (.int x :: st) m P G := by
  intro a rr hP hG p e R s mi args below meth c H locs cells slots mc ms ls Qf S hR hS hc hs hl
  subst hn
  exact lv_i2l S.1.1 S.1.2.1 hdg rfl (k a rr hP hG p e R s mi args below meth c H locs cells slots mc ms ls Qf S hR hS hc hs hl)
theorem j_i2b {np : Nat} {x : Int32} (hdg : decode cc pc = .ok (.i2b, 1)) (hn : pc + 1 = np) (k : qB E y cc nL ret Ex d bc bs np lv (.int x.toInt8.toInt32 :: st) m P G) : qB E y cc nL ret Ex d bc bs pc lv (.int x :: st) m P G := by
  intro a rr hP hG p e R s mi args below meth c H locs cells slots mc ms ls Qf S hR hS hc hs hl
  subst hn
  exact lv_i2b S.1.1 S.1.2.1 hdg rfl (k a rr hP hG p e R s mi args below meth c H locs cells slots mc ms ls Qf S hR hS hc hs hl)
theorem j_i2c {np : Nat} {x : Int32} (hdg : decode cc pc = .ok (.i2c, 1)) (hn : pc + 1 = np) (k : qB E y cc nL ret Ex d bc bs np lv (.int (x.toUInt32 % 65536).toInt32 :: st) m P G) : qB E y cc nL ret Ex d bc bs pc lv (.int x :: st) m P G := by
  intro a rr hP hG p e R s mi args below meth c H locs cells slots mc ms ls Qf S hR hS hc hs hl
  subst hn
  exact lv_i2c S.1.1 S.1.2.1 hdg rfl (k a rr hP hG p e R s mi args below meth c H locs cells slots mc ms ls Qf S hR hS hc hs hl)
theorem j_dup {np : Nat} {va : Value} (hva : va.category = 1) (hdg : decode cc pc = .ok (.dup, 1)) (hn : pc + 1 = np) (k : qB E y cc nL ret Ex d bc bs np lv (va :: va :: st) m P G) : qB E y cc nL ret Ex d bc bs pc lv (va :: st) m P G := by
  intro a rr hP hG p e R s mi args below meth c H locs cells slots mc ms ls Qf S hR hS hc hs hl
  subst hn
  exact lv_dup S.1.1 S.1.2.1 hdg hva (k a rr hP hG p e R s mi args below meth c H locs cells slots mc ms ls Qf S hR hS hc hs hl)
theorem j_pop {np : Nat} {va : Value} (hva : va.category = 1) (hdg : decode cc pc = .ok (.pop, 1)) (hn : pc + 1 = np) (k : qB E y cc nL ret Ex d bc bs np lv (st) m P G) : qB E y cc nL ret Ex d bc bs pc lv (va :: st) m P G := by
  intro a rr hP hG p e R s mi args below meth c H locs cells slots mc ms ls Qf S hR hS hc hs hl
  subst hn
  exact lv_pop S.1.1 S.1.2.1 hdg hva (k a rr hP hG p e R s mi args below meth c H locs cells slots mc ms ls Qf S hR hS hc hs hl)
theorem j_dup_x1 {np : Nat} {va vb : Value} (hva : va.category = 1) (hvb : vb.category = 1) (hdg : decode cc pc = .ok (.dup_x1, 1)) (hn : pc + 1 = np) (k : qB E y cc nL ret Ex d bc bs np lv (va :: vb :: va :: st) m P G) : qB E y cc nL ret Ex d bc bs pc lv (va :: vb :: st) m P G := by
  intro a rr hP hG p e R s mi args below meth c H locs cells slots mc ms ls Qf S hR hS hc hs hl
  subst hn
  exact lv_dup_x1 S.1.1 S.1.2.1 hdg hva hvb (k a rr hP hG p e R s mi args below meth c H locs cells slots mc ms ls Qf S hR hS hc hs hl)
theorem j_dup2 {np : Nat} {va vb : Value} (hva : va.category = 1) (hvb : vb.category = 1) (hdg : decode cc pc = .ok (.dup2, 1)) (hn : pc + 1 = np) (k : qB E y cc nL ret Ex d bc bs np lv (va :: vb :: va :: vb :: st) m P G) : qB E y cc nL ret Ex d bc bs pc lv (va :: vb :: st) m P G := by
  intro a rr hP hG p e R s mi args below meth c H locs cells slots mc ms ls Qf S hR hS hc hs hl
  subst hn
  exact lv_dup2_11 S.1.1 S.1.2.1 hdg hva hvb (k a rr hP hG p e R s mi args below meth c H locs cells slots mc ms ls Qf S hR hS hc hs hl)
theorem j_if_ne {np : Nat} {x : Int32} {off : Int} {tgt : Nat} {P1 P2 : Option α} (hdg : decode cc pc = .ok (.ifCond .ne off, 3)) (ht : (pc : Int) + off = (tgt : Int)) (hn : pc + 3 = np) (k1 : qB E y cc nL ret Ex d bc bs tgt lv st m P1 G) (k2 : qB E y cc nL ret Ex d bc bs np lv st m P2 G) : qB E y cc nL ret Ex d bc bs pc lv (.int x :: st) m (if x = 0 then P2 else P1) G := by
  intro a rr hP hG p e R s mi args below meth c H locs cells slots mc ms ls Qf S hR hS hc hs hl
  subst hn
  refine lv_if_ne S.1.1 S.1.2.1 hdg ht (fun h => ?_) (fun h => ?_)
  · rw [if_neg h] at hP; exact k1 a rr hP hG p e R s mi args below meth c H locs cells slots mc ms ls Qf S hR hS hc hs hl
  · rw [if_pos h] at hP; exact k2 a rr hP hG p e R s mi args below meth c H locs cells slots mc ms ls Qf S hR hS hc hs hl
theorem j_icmp_ne {np : Nat} {x z : Int32} {off : Int} {tgt : Nat} {P1 P2 : Option α} (hdg : decode cc pc = .ok (.if_icmp .ne off, 3)) (ht : (pc : Int) + off = (tgt : Int)) (hn : pc + 3 = np) (k1 : qB E y cc nL ret Ex d bc bs tgt lv st m P1 G) (k2 : qB E y cc nL ret Ex d bc bs np lv st m P2 G) : qB E y cc nL ret Ex d bc bs pc lv (.int z :: .int x :: st) m (if x = z then P2 else P1) G := by
  intro a rr hP hG p e R s mi args below meth c H locs cells slots mc ms ls Qf S hR hS hc hs hl
  subst hn
  refine lv_icmp_ne S.1.1 S.1.2.1 hdg ht (fun h => ?_) (fun h => ?_)
  · rw [if_neg h] at hP; exact k1 a rr hP hG p e R s mi args below meth c H locs cells slots mc ms ls Qf S hR hS hc hs hl
  · rw [if_pos h] at hP; exact k2 a rr hP hG p e R s mi args below meth c H locs cells slots mc ms ls Qf S hR hS hc hs hl
theorem j_if_eq {np : Nat} {x : Int32} {off : Int} {tgt : Nat} {P1 P2 : Option α} (hdg : decode cc pc = .ok (.ifCond .eq off, 3)) (ht : (pc : Int) + off = (tgt : Int)) (hn : pc + 3 = np) (k1 : qB E y cc nL ret Ex d bc bs tgt lv st m P1 G) (k2 : qB E y cc nL ret Ex d bc bs np lv st m P2 G) : qB E y cc nL ret Ex d bc bs pc lv (.int x :: st) m (if x = 0 then P1 else P2) G := by
  intro a rr hP hG p e R s mi args below meth c H locs cells slots mc ms ls Qf S hR hS hc hs hl
  subst hn
  refine lv_if_eq S.1.1 S.1.2.1 hdg ht (fun h => ?_) (fun h => ?_)
  · rw [if_pos h] at hP; exact k1 a rr hP hG p e R s mi args below meth c H locs cells slots mc ms ls Qf S hR hS hc hs hl
  · rw [if_neg h] at hP; exact k2 a rr hP hG p e R s mi args below meth c H locs cells slots mc ms ls Qf S hR hS hc hs hl
theorem j_icmp_eq {np : Nat} {x z : Int32} {off : Int} {tgt : Nat} {P1 P2 : Option α} (hdg : decode cc pc = .ok (.if_icmp .eq off, 3)) (ht : (pc : Int) + off = (tgt : Int)) (hn : pc + 3 = np) (k1 : qB E y cc nL ret Ex d bc bs tgt lv st m P1 G) (k2 : qB E y cc nL ret Ex d bc bs np lv st m P2 G) : qB E y cc nL ret Ex d bc bs pc lv (.int z :: .int x :: st) m (if x = z then P1 else P2) G := by
  intro a rr hP hG p e R s mi args below meth c H locs cells slots mc ms ls Qf S hR hS hc hs hl
  subst hn
  refine lv_icmp_eq S.1.1 S.1.2.1 hdg ht (fun h => ?_) (fun h => ?_)
  · rw [if_pos h] at hP; exact k1 a rr hP hG p e R s mi args below meth c H locs cells slots mc ms ls Qf S hR hS hc hs hl
  · rw [if_neg h] at hP; exact k2 a rr hP hG p e R s mi args below meth c H locs cells slots mc ms ls Qf S hR hS hc hs hl
theorem j_if_lt {np : Nat} {x : Int32} {off : Int} {tgt : Nat} {P1 P2 : Option α} (hdg : decode cc pc = .ok (.ifCond .lt off, 3)) (ht : (pc : Int) + off = (tgt : Int)) (hn : pc + 3 = np) (k1 : qB E y cc nL ret Ex d bc bs tgt lv st m P1 G) (k2 : qB E y cc nL ret Ex d bc bs np lv st m P2 G) : qB E y cc nL ret Ex d bc bs pc lv (.int x :: st) m (if x < 0 then P1 else P2) G := by
  intro a rr hP hG p e R s mi args below meth c H locs cells slots mc ms ls Qf S hR hS hc hs hl
  subst hn
  refine lv_if_lt S.1.1 S.1.2.1 hdg ht (fun h => ?_) (fun h => ?_)
  · rw [if_pos h] at hP; exact k1 a rr hP hG p e R s mi args below meth c H locs cells slots mc ms ls Qf S hR hS hc hs hl
  · rw [if_neg h] at hP; exact k2 a rr hP hG p e R s mi args below meth c H locs cells slots mc ms ls Qf S hR hS hc hs hl
theorem j_icmp_lt {np : Nat} {x z : Int32} {off : Int} {tgt : Nat} {P1 P2 : Option α} (hdg : decode cc pc = .ok (.if_icmp .lt off, 3)) (ht : (pc : Int) + off = (tgt : Int)) (hn : pc + 3 = np) (k1 : qB E y cc nL ret Ex d bc bs tgt lv st m P1 G) (k2 : qB E y cc nL ret Ex d bc bs np lv st m P2 G) : qB E y cc nL ret Ex d bc bs pc lv (.int z :: .int x :: st) m (if x < z then P1 else P2) G := by
  intro a rr hP hG p e R s mi args below meth c H locs cells slots mc ms ls Qf S hR hS hc hs hl
  subst hn
  refine lv_icmp_lt S.1.1 S.1.2.1 hdg ht (fun h => ?_) (fun h => ?_)
  · rw [if_pos h] at hP; exact k1 a rr hP hG p e R s mi args below meth c H locs cells slots mc ms ls Qf S hR hS hc hs hl
  · rw [if_neg h] at hP; exact k2 a rr hP hG p e R s mi args below meth c H locs cells slots mc ms ls Qf S hR hS hc hs hl
theorem j_if_ge {np : Nat} {x : Int32} {off : Int} {tgt : Nat} {P1 P2 : Option α} (hdg : decode cc pc = .ok (.ifCond .ge off, 3)) (ht : (pc : Int) + off = (tgt : Int)) (hn : pc + 3 = np) (k1 : qB E y cc nL ret Ex d bc bs tgt lv st m P1 G) (k2 : qB E y cc nL ret Ex d bc bs np lv st m P2 G) : qB E y cc nL ret Ex d bc bs pc lv (.int x :: st) m (if 0 ≤ x then P1 else P2) G := by
  intro a rr hP hG p e R s mi args below meth c H locs cells slots mc ms ls Qf S hR hS hc hs hl
  subst hn
  refine lv_if_ge S.1.1 S.1.2.1 hdg ht (fun h => ?_) (fun h => ?_)
  · rw [if_pos h] at hP; exact k1 a rr hP hG p e R s mi args below meth c H locs cells slots mc ms ls Qf S hR hS hc hs hl
  · rw [if_neg h] at hP; exact k2 a rr hP hG p e R s mi args below meth c H locs cells slots mc ms ls Qf S hR hS hc hs hl
theorem j_icmp_ge {np : Nat} {x z : Int32} {off : Int} {tgt : Nat} {P1 P2 : Option α} (hdg : decode cc pc = .ok (.if_icmp .ge off, 3)) (ht : (pc : Int) + off = (tgt : Int)) (hn : pc + 3 = np) (k1 : qB E y cc nL ret Ex d bc bs tgt lv st m P1 G) (k2 : qB E y cc nL ret Ex d bc bs np lv st m P2 G) : qB E y cc nL ret Ex d bc bs pc lv (.int z :: .int x :: st) m (if z ≤ x then P1 else P2) G := by
  intro a rr hP hG p e R s mi args below meth c H locs cells slots mc ms ls Qf S hR hS hc hs hl
  subst hn
  refine lv_icmp_ge S.1.1 S.1.2.1 hdg ht (fun h => ?_) (fun h => ?_)
  · rw [if_pos h] at hP; exact k1 a rr hP hG p e R s mi args below meth c H locs cells slots mc ms ls Qf S hR hS hc hs hl
  · rw [if_neg h] at hP; exact k2 a rr hP hG p e R s mi args below meth c H locs cells slots mc ms ls Qf S hR hS hc hs hl
theorem j_if_gt {np : Nat} {x : Int32} {off : Int} {tgt : Nat} {P1 P2 : Option α} (hdg : decode cc pc = .ok (.ifCond .gt off, 3)) (ht : (pc : Int) + off = (tgt : Int)) (hn : pc + 3 = np) (k1 : qB E y cc nL ret Ex d bc bs tgt lv st m P1 G) (k2 : qB E y cc nL ret Ex d bc bs np lv st m P2 G) : qB E y cc nL ret Ex d bc bs pc lv (.int x :: st) m (if 0 < x then P1 else P2) G := by
  intro a rr hP hG p e R s mi args below meth c H locs cells slots mc ms ls Qf S hR hS hc hs hl
  subst hn
  refine lv_if_gt S.1.1 S.1.2.1 hdg ht (fun h => ?_) (fun h => ?_)
  · rw [if_pos h] at hP; exact k1 a rr hP hG p e R s mi args below meth c H locs cells slots mc ms ls Qf S hR hS hc hs hl
  · rw [if_neg h] at hP; exact k2 a rr hP hG p e R s mi args below meth c H locs cells slots mc ms ls Qf S hR hS hc hs hl
theorem j_icmp_gt {np : Nat} {x z : Int32} {off : Int} {tgt : Nat} {P1 P2 : Option α} (hdg : decode cc pc = .ok (.if_icmp .gt off, 3)) (ht : (pc : Int) + off = (tgt : Int)) (hn : pc + 3 = np) (k1 : qB E y cc nL ret Ex d bc bs tgt lv st m P1 G) (k2 : qB E y cc nL ret Ex d bc bs np lv st m P2 G) : qB E y cc nL ret Ex d bc bs pc lv (.int z :: .int x :: st) m (if z < x then P1 else P2) G := by
  intro a rr hP hG p e R s mi args below meth c H locs cells slots mc ms ls Qf S hR hS hc hs hl
  subst hn
  refine lv_icmp_gt S.1.1 S.1.2.1 hdg ht (fun h => ?_) (fun h => ?_)
  · rw [if_pos h] at hP; exact k1 a rr hP hG p e R s mi args below meth c H locs cells slots mc ms ls Qf S hR hS hc hs hl
  · rw [if_neg h] at hP; exact k2 a rr hP hG p e R s mi args below meth c H locs cells slots mc ms ls Qf S hR hS hc hs hl
theorem j_if_le {np : Nat} {x : Int32} {off : Int} {tgt : Nat} {P1 P2 : Option α} (hdg : decode cc pc = .ok (.ifCond .le off, 3)) (ht : (pc : Int) + off = (tgt : Int)) (hn : pc + 3 = np) (k1 : qB E y cc nL ret Ex d bc bs tgt lv st m P1 G) (k2 : qB E y cc nL ret Ex d bc bs np lv st m P2 G) : qB E y cc nL ret Ex d bc bs pc lv (.int x :: st) m (if x ≤ 0 then P1 else P2) G := by
  intro a rr hP hG p e R s mi args below meth c H locs cells slots mc ms ls Qf S hR hS hc hs hl
  subst hn
  refine lv_if_le S.1.1 S.1.2.1 hdg ht (fun h => ?_) (fun h => ?_)
  · rw [if_pos h] at hP; exact k1 a rr hP hG p e R s mi args below meth c H locs cells slots mc ms ls Qf S hR hS hc hs hl
  · rw [if_neg h] at hP; exact k2 a rr hP hG p e R s mi args below meth c H locs cells slots mc ms ls Qf S hR hS hc hs hl
theorem j_icmp_le {np : Nat} {x z : Int32} {off : Int} {tgt : Nat} {P1 P2 : Option α} (hdg : decode cc pc = .ok (.if_icmp .le off, 3)) (ht : (pc : Int) + off = (tgt : Int)) (hn : pc + 3 = np) (k1 : qB E y cc nL ret Ex d bc bs tgt lv st m P1 G) (k2 : qB E y cc nL ret Ex d bc bs np lv st m P2 G) : qB E y cc nL ret Ex d bc bs pc lv (.int z :: .int x :: st) m (if x ≤ z then P1 else P2) G := by
  intro a rr hP hG p e R s mi args below meth c H locs cells slots mc ms ls Qf S hR hS hc hs hl
  subst hn
  refine lv_icmp_le S.1.1 S.1.2.1 hdg ht (fun h => ?_) (fun h => ?_)
  · rw [if_pos h] at hP; exact k1 a rr hP hG p e R s mi args below meth c H locs cells slots mc ms ls Qf S hR hS hc hs hl
  · rw [if_neg h] at hP; exact k2 a rr hP hG p e R s mi args below meth c H locs cells slots mc ms ls Qf S hR hS hc hs hl
theorem j_goto {off : Int} {tgt : Nat} (hdg : decode cc pc = .ok (.goto off, 3)) (ht : (pc : Int) + off = (tgt : Int)) (k : qB E y cc nL ret Ex d bc bs tgt lv st m P G) : qB E y cc nL ret Ex d bc bs pc lv st m P G := by
  intro a rr hP hG p e R s mi args below meth c H locs cells slots mc ms ls Qf S hR hS hc hs hl
  exact lv_goto S.1.1 S.1.2.1 hdg ht (k a rr hP hG p e R s mi args below meth c H locs cells slots mc ms ls Qf S hR hS hc hs hl)
theorem j_sub {lv2 : List (Nat × Value)} (ks : List Nat) (h : lv_pick lv ks = lv2) (k : qB E y cc nL ret Ex d bc bs pc lv2 st m P G) : qB E y cc nL ret Ex d bc bs pc lv st m P G := by
  intro a rr hP hG p e R s mi args below meth c H locs cells slots mc ms ls Qf S hR hS hc hs hl
  exact k a rr hP hG p e R s mi args below meth c H locs cells slots mc ms ls Qf S hR hS hc hs (lv_sub hl ks h)
theorem j_bud {b1 b2 : Nat} (h1 : b1 ≤ bc) (h2 : b2 ≤ bs) (k : qB E y cc nL ret Ex d b1 b2 pc lv st m P G) : qB E y cc nL ret Ex d bc bs pc lv st m P G := by
  intro a rr hP hG p e R s mi args below meth c H locs cells slots mc ms ls Qf S hR hS hc hs hl
  exact k a rr hP hG p e R s mi args below meth c H locs cells slots mc ms ls Qf S hR hS (by omega) (by omega) hl
theorem j_none : qB E y cc nL ret Ex d bc bs pc lv st m (none : Option α) G := fun a rr hP _ => by cases hP
theorem j_if_pos {C : Prop} {P1 : Option α} [Decidable C] (k : C → qB E y cc nL ret Ex d bc bs pc lv st m P1 G) : qB E y cc nL ret Ex d bc bs pc lv st m (if C then P1 else none) G := by
  intro a rr hP
  by_cases h : C
  · rw [if_pos h] at hP; exact k h a rr hP
  · rw [if_neg h] at hP; cases hP
theorem j_vret  {w : α} (hret : ret = none) (hdg : decode cc pc = .ok (.return_, 1)) (hg : ∀ rr, G w rr → rr = (none, m)) : qB E y cc nL ret Ex d bc bs pc lv [] m (some w) G := by
  intro a rr hP hG p e R s mi args below meth c H locs cells slots mc ms ls Qf S hR hS hc hs hl
  cases hP
  have e := hg rr hG
  subst e; subst hret
  refine W.widen (k := mc) (n := ms) (by omega) (by omega) ?_
  exact S.2.2 pc ls H locs (none) hdg rfl rfl hR hS
theorem j_iret {x : Int32} {w : α} (hret : ret = some .int) (hdg : decode cc pc = .ok (.ireturn, 1)) (hg : ∀ rr, G w rr → rr = (some (.int x), m)) : qB E y cc nL ret Ex d bc bs pc lv [.int x] m (some w) G := by
  intro a rr hP hG p e R s mi args below meth c H locs cells slots mc ms ls Qf S hR hS hc hs hl
  cases hP
  have e := hg rr hG
  subst e; subst hret
  refine W.widen (k := mc) (n := ms) (by omega) (by omega) ?_
  exact S.2.2 pc ls H locs (some (.int x)) hdg ⟨_, rfl⟩ rfl hR hS
theorem j_zret {x : Int32} {w : α} (hret : ret = some .boolean) (hdg : decode cc pc = .ok (.ireturn, 1)) (hg : ∀ rr, G w rr → rr = (some (.int (x &&& 1)), m)) : qB E y cc nL ret Ex d bc bs pc lv [.int x] m (some w) G := by
  intro a rr hP hG p e R s mi args below meth c H locs cells slots mc ms ls Qf S hR hS hc hs hl
  cases hP
  have e := hg rr hG
  subst e; subst hret
  refine W.widen (k := mc) (n := ms) (by omega) (by omega) ?_
  exact S.2.2 pc ls H locs (some (.int x)) hdg ⟨_, rfl⟩ rfl hR hS
theorem j_cret {x : Int32} {w : α} (hret : ret = some .char) (hdg : decode cc pc = .ok (.ireturn, 1)) (hg : ∀ rr, G w rr → rr = (some (.int x.toUInt32.toUInt16.toUInt32.toInt32), m)) : qB E y cc nL ret Ex d bc bs pc lv [.int x] m (some w) G := by
  intro a rr hP hG p e R s mi args below meth c H locs cells slots mc ms ls Qf S hR hS hc hs hl
  cases hP
  have e := hg rr hG
  subst e; subst hret
  refine W.widen (k := mc) (n := ms) (by omega) (by omega) ?_
  exact S.2.2 pc ls H locs (some (.int x)) hdg ⟨_, rfl⟩ rfl hR hS
theorem j_bret {x : Int32} {w : α} (hret : ret = some .byte) (hdg : decode cc pc = .ok (.ireturn, 1)) (hg : ∀ rr, G w rr → rr = (some (.int x.toInt8.toInt32), m)) : qB E y cc nL ret Ex d bc bs pc lv [.int x] m (some w) G := by
  intro a rr hP hG p e R s mi args below meth c H locs cells slots mc ms ls Qf S hR hS hc hs hl
  cases hP
  have e := hg rr hG
  subst e; subst hret
  refine W.widen (k := mc) (n := ms) (by omega) (by omega) ?_
  exact S.2.2 pc ls H locs (some (.int x)) hdg ⟨_, rfl⟩ rfl hR hS
theorem j_lret {x : Int64} {w : α} (hret : ret = some .long) (hdg : decode cc pc = .ok (.lreturn, 1)) (hg : ∀ rr, G w rr → rr = (some (.long x), m)) : qB E y cc nL ret Ex d bc bs pc lv [.long x] m (some w) G := by
  intro a rr hP hG p e R s mi args below meth c H locs cells slots mc ms ls Qf S hR hS hc hs hl
  cases hP
  have e := hg rr hG
  subst e; subst hret
  refine W.widen (k := mc) (n := ms) (by omega) (by omega) ?_
  exact S.2.2 pc ls H locs (some (.long x)) hdg ⟨_, rfl⟩ rfl hR hS
theorem j_aret {x : Nat} {C : String} {w : α} (hret : ret = some (.object C)) (hdg : decode cc pc = .ok (.areturn, 1)) (hg : ∀ rr, G w rr → rr = (some (.ref x), m)) : qB E y cc nL ret Ex d bc bs pc lv [.ref x] m (some w) G := by
  intro a rr hP hG p e R s mi args below meth c H locs cells slots mc ms ls Qf S hR hS hc hs hl
  cases hP
  have e := hg rr hG
  subst e; subst hret
  refine W.widen (k := mc) (n := ms) (by omega) (by omega) ?_
  exact S.2.2 pc ls H locs (some (.ref x)) hdg ⟨_, rfl⟩ rfl hR hS
end JROWS
