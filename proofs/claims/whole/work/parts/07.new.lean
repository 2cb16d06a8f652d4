theorem qRel_new {E : qE} {m : qM} {H H1 : Heap} {c n : Nat} {e : va_E} (h : qRel E m H) (hc : c < 99) (he : qc E (qnw m c n) (qT m) = e) (hat : va_at E.2.2.1 vwCl (E.2.1 + qT m, e) H1) (z : H1.size = H.size + 1) (oq : ∀ q : Nat, q < H.size → H1[q]? = H[q]?) : qRel E (qnw m c n) H1 := by
  have hK : ∀ x, x ≠ qT m → qK (qnw m c n) x = qK m x := fun x hx => by show va_up (qK m) (qT m) c x = _; simp [va_up, hx]
  refine ⟨?_, by rw [z, h.2.1]; rfl, fun a ha => ?_⟩
  · rw [← qW_push (m := m) (m' := qnw m c n) rfl he (fun x hx => ?_)]
    · refine (h.1.kept (fun k q hk => oq q.1 ((h.1 k q hk).lt))).app (fun k q hk => ?_)
      have hz : k < 1 := (List.getElem?_eq_some_iff.mp hk).1
      rw [show k = 0 by omega] at hk
      cases hk
      exact hat
    · have hx2 : x ≠ qT m := Nat.ne_of_lt hx
      exact qc_congr (hK x hx2) (by show va_up (qN m) (qT m) n x = _; simp [va_up, hx2]) (qur_ne hx2) (qur_ne hx2) (qur_ne hx2)
  · have ha2 : qT m + 1 ≤ a := ha
    rw [hK a (by omega)]
    exact h.2.2 a (by omega)
theorem q_sz {E : qE} {m : qM} {H H1 : Heap} {s : State} {locs : List Loc} (h : qRel E m H) (hS : va_S (qA E) s.heap H locs) (hb : E.2.1 ≤ s.heap.size) (z : H1.size = H.size + 1) (oq : ∀ q : Nat, q < H.size → H1[q]? = H[q]?) : va_S (qA E) s.heap H1 locs :=
  ⟨by have := hS.1; omega, fun q h1 h2 => by rw [oq q (Nat.lt_of_lt_of_le h1 hS.1)]; exact hS.2.1 q h1 h2, hS.2.2⟩
/-- a new cell: its place, and the memory then -/
def qNew {α : Type} (m : qM) (c n : Nat) (K : Nat → qM → Option α) : Option α := K (qT m) (qnw m c n)
section JNEW
variable {E : qE} {y : MethodName} {cc : ByteArray} {nL : Nat} {ret : Option FieldType} {Ex : State → Prop} {d bc bs pc : Nat} {lv : List (Nat × Value)} {st : List Value} {m : qM} {α : Type} {P : Option α} {G : α → qRR → Prop}
theorem j_new {np ci idx N : Nat} {C : String} {T : u_T} {ty : Nat → FieldType} {K : Nat → qM → Option α} (hC : qCls ci C T N ty) (hlk : Cond.classLink y.cls idx C ∈ qTb) (hdg : decode cc pc = .ok (.new idx, 3)) (hn : pc + 3 = np) (kk : ∀ (a : Nat) (m2 : qM), qB E y cc nL ret Ex d bc bs np lv (.ref (E.2.1 + a) :: st) m2 (K a m2) G) : qB E y cc nL ret Ex d (bc + 1) (bs + N) pc lv st m (qNew m ci 0 K) G := by
  intro a1 rr hP hG p e R s mi args below meth c H locs cells slots mc ms ls Qf S hR hS hc hs hl
  subst hn
  obtain ⟨h1, h2, h3, h4, h5, h6, h7, h8, h9⟩ := hC
  obtain ⟨⟨hx, hb, hml, hown, hts, hTb, hbase, hname, hEx⟩, ⟨r1, r2, r3, r4⟩, r5⟩ := id S
  have hKn := hTb.1.1 ci _ h1
  refine W.newcK hx hb hown (hts _ hlk) (hts _ h8) (hts _ h9) rfl hdg (by omega) (by omega) hKn.2.1 hR.2.1 fun H1 kC hkC e1 z1 o1 => ?_
  have z2 : H1.size = H.size + 1 := by rw [z1, hR.2.1]
  have o2 : ∀ q : Nat, q < H.size → H1[q]? = H[q]? := fun q hq => o1 q (by rw [← hR.2.1]; exact hq)
  have hK2 : qK (qnw m ci 0) (qT m) = ci := by show va_up (qK m) (qT m) ci (qT m) = ci; simp [va_up]
  refine kk _ _ a1 rr hP hG p e R s mi args below meth c H1 locs (cells + 1) (slots + N) mc ms ls Qf S (qRel_new hR (by omega) (e := .inr (ci, qfs E (qnw m ci 0) (qT m) ci)) (by rw [qc, hK2, if_pos h2]) ?_ z2 o2) (q_sz hR hS hbase z2 o2) (by omega) (by omega) hl
  refine ⟨_, h1, (u_born ty hts h4 hKn hkC e1 h5).to (fun k hk => ?_)⟩
  have hk2 : k < qFn ci := by rw [← h3]; exact hk
  have h7k := h7 k hk
  have eI : qI (qnw m ci 0) (qT m) k = 0 := by show qur (qI m) (qT m) (fun _ => 0) (qT m) k = 0; simp [qur]
  have eR : qR (qnw m ci 0) (qT m) k = none := by show qur (qR m) (qT m) (fun _ => none) (qT m) k = none; simp [qur]
  by_cases hr : qFr ci k = true
  · rw [if_pos hr] at h7k
    have hv : vp_V (qfs E (qnw m ci 0) (qT m) ci) k = .null := by
      simp only [vp_V, List.getD_eq_getElem?_getD, qfs_R hk2 hr, eR]; rfl
    show defaultValue (ty k) = vp_V (qfs E (qnw m ci 0) (qT m) ci) k
    rw [hv]
    cases hz : ty k <;> rw [hz] at h7k <;> first | rfl | (simp [refKind] at h7k)
  · rw [if_neg hr] at h7k
    have hv : vp_V (qfs E (qnw m ci 0) (qT m) ci) k = .int 0 := by
      simp only [vp_V, List.getD_eq_getElem?_getD, qfs_I hk2 (by simpa using hr), eI]; rfl
    show defaultValue (ty k) = vp_V (qfs E (qnw m ci 0) (qT m) ci) k
    rw [hv, h7k]; rfl
/-- a new array of ints, chars, booleans -/
theorem j_newarr {np c0 t n0 : Nat} {atype : ArrayType} {ty : FieldType} {n : Int32} {K : Nat → qM → Option α} (hc0 : c0 = 11 ∨ c0 = 12 ∨ c0 = 14) (hty : newarray.typeOf atype = ty) (hdv : defaultValue ty = .int 0) (hcb : componentBytes ty ≤ 8) (hn0 : n0 ≤ 1000000) (ht : ∀ E : qE, (qty E)[t]? = some (E.2.2.2.1 c0, ty)) (hra : ∀ (U : State) (cA : ClassId), va_RA U cA ty = (U.vm.findClass ("[" ++ ty.toString) = some cA)) (hw : Cond.arrayClass ty ∈ qTb) (hdg : decode cc pc = .ok (.newarray atype, 2)) (hn : pc + 2 = np) (kk : ∀ (a : Nat) (m2 : qM), qB E y cc nL ret Ex d bc bs np lv (.ref (E.2.1 + a) :: st) m2 (K a m2) G) : qB E y cc nL ret Ex d (bc + 1) (bs + n0) pc lv (.int n :: st) m (if ¬ n < 0 ∧ n.toNatClampNeg ≤ n0 then qNew m c0 n.toNatClampNeg K else none) G := by
  intro a1 rr hP hG p e R s mi args below meth c H locs cells slots mc ms ls Qf S hR hS hc hs hl
  subst hn
  obtain ⟨⟨hx, hb, hml, hown, hts, hTb, hbase, hname, hEx⟩, ⟨r1, r2, r3, r4⟩, r5⟩ := id S
  by_cases hN : ¬ n < 0 ∧ n.toNatClampNeg ≤ n0
  · rw [if_pos hN] at hP
    subst hty
    refine va_newaK hx hb (hts _ hw) rfl hdg rfl hN.1 rfl (by have := Nat.mul_le_mul (show n.toNatClampNeg ≤ 1000000 by omega) hcb; omega) (by omega) (by omega) hR.2.1 fun H1 cA e1 z1 o1 hAr hNm => ?_
    have z2 : H1.size = H.size + 1 := by rw [z1, hR.2.1]
    have o2 : ∀ q : Nat, q < H.size → H1[q]? = H[q]? := fun q hq => o1 q (by rw [← hR.2.1]; exact hq)
    have hK2 : qK (qnw m c0 n.toNatClampNeg) (qT m) = c0 := by show va_up (qK m) (qT m) c0 (qT m) = c0; simp [va_up]
    have hN2 : qN (qnw m c0 n.toNatClampNeg) (qT m) = n.toNatClampNeg := by show va_up (qN m) (qT m) _ (qT m) = _; simp [va_up]
    have hI2 : qI (qnw m c0 n.toNatClampNeg) (qT m) = fun _ => 0 := qur_eq
    have hcA : cA = E.2.2.2.1 c0 := by
      have h1 := (hTb.1.2 t _ (ht E)).2
      rw [hra] at h1
      exact Option.some.inj (hNm.symm.trans h1)
    subst hcA
    refine kk _ _ a1 rr hP hG p e R s mi args below meth c H1 locs (cells + 1) (slots + n.toNatClampNeg) mc ms ls Qf S (qRel_new hR (by omega) (qc_i hK2 hc0) ?_ z2 o2) (q_sz hR hS hbase z2 o2) (by omega) (by omega) hl
    show H1[E.2.1 + qT m]? = some (vp_cell _ _)
    rw [e1, hN2, hI2, hdv, vp_cell_i]
  · rw [if_neg hN] at hP; cases hP
theorem j_newlong {np n0 : Nat} {n : Int32} {K : Nat → qM → Option α} (hn0 : n0 ≤ 1000000) (hw : Cond.arrayClass .long ∈ qTb) (hdg : decode cc pc = .ok (.newarray .long, 2)) (hn : pc + 2 = np) (kk : ∀ (a : Nat) (m2 : qM), qB E y cc nL ret Ex d bc bs np lv (.ref (E.2.1 + a) :: st) m2 (K a m2) G) : qB E y cc nL ret Ex d (bc + 1) (bs + n0) pc lv (.int n :: st) m (if ¬ n < 0 ∧ n.toNatClampNeg ≤ n0 then qNew m 13 n.toNatClampNeg K else none) G := by
  intro a1 rr hP hG p e R s mi args below meth c H locs cells slots mc ms ls Qf S hR hS hc hs hl
  subst hn
  obtain ⟨⟨hx, hb, hml, hown, hts, hTb, hbase, hname, hEx⟩, ⟨r1, r2, r3, r4⟩, r5⟩ := id S
  by_cases hN : ¬ n < 0 ∧ n.toNatClampNeg ≤ n0
  · rw [if_pos hN] at hP
    have hcb : componentBytes (newarray.typeOf .long) ≤ 8 := by decide
    refine va_newaK (atype := .long) hx hb (hts _ hw) rfl hdg rfl hN.1 rfl (by have := Nat.mul_le_mul (show n.toNatClampNeg ≤ 1000000 by omega) hcb; omega) (by omega) (by omega) hR.2.1 fun H1 cA e1 z1 o1 hAr hNm => ?_
    have z2 : H1.size = H.size + 1 := by rw [z1, hR.2.1]
    have o2 : ∀ q : Nat, q < H.size → H1[q]? = H[q]? := fun q hq => o1 q (by rw [← hR.2.1]; exact hq)
    have hK2 : qK (qnw m 13 n.toNatClampNeg) (qT m) = 13 := by show va_up (qK m) (qT m) 13 (qT m) = 13; simp [va_up]
    have hN2 : qN (qnw m 13 n.toNatClampNeg) (qT m) = n.toNatClampNeg := by show va_up (qN m) (qT m) _ (qT m) = _; simp [va_up]
    have hI2 : qL (qnw m 13 n.toNatClampNeg) (qT m) = fun _ => 0 := qur_eq
    have hcA : cA = E.2.2.2.1 13 := by
      have h1 : s.vm.findClass ("[" ++ (FieldType.long).toString) = some (E.2.2.2.1 13) := (hTb.1.2 2 _ rfl).2
      exact Option.some.inj (hNm.symm.trans h1)
    subst hcA
    refine kk _ _ a1 rr hP hG p e R s mi args below meth c H1 locs (cells + 1) (slots + n.toNatClampNeg) mc ms ls Qf S (qRel_new hR (by omega) (qc_l hK2) ?_ z2 o2) (q_sz hR hS hbase z2 o2) (by omega) (by omega) hl
    show H1[E.2.1 + qT m]? = some (vp_cell _ _)
    rw [e1, hN2, hI2, vp_cell_l]
    rfl
  · rw [if_neg hN] at hP; cases hP
theorem j_anew {np c0 t n0 idx : Nat} {C : String} {n : Int32} {K : Nat → qM → Option α} (hc0 : c0 = 15 ∨ c0 = 16) (hn0 : n0 ≤ 1000000) (ht : ∀ E : qE, (qty E)[t]? = some (E.2.2.2.1 c0, .object C)) (hao : ∀ (E : qE) (U : State), qTab E U → va_AO C U) (hlk : Cond.classLink y.cls idx C ∈ qTb) (hdg : decode cc pc = .ok (.anewarray idx, 3)) (hn : pc + 3 = np) (kk : ∀ (a : Nat) (m2 : qM), qB E y cc nL ret Ex d bc bs np lv (.ref (E.2.1 + a) :: st) m2 (K a m2) G) : qB E y cc nL ret Ex d (bc + 1) (bs + n0) pc lv (.int n :: st) m (if ¬ n < 0 ∧ n.toNatClampNeg ≤ n0 then qNew m c0 n.toNatClampNeg K else none) G := by
  intro a1 rr hP hG p e R s mi args below meth c H locs cells slots mc ms ls Qf S hR hS hc hs hl
  subst hn
  obtain ⟨⟨hx, hb, hml, hown, hts, hTb, hbase, hname, hEx⟩, ⟨r1, r2, r3, r4⟩, r5⟩ := id S
  by_cases hN : ¬ n < 0 ∧ n.toNatClampNeg ≤ n0
  · rw [if_pos hN] at hP
    refine W.anew hx hb hown (hts _ hlk) (va_AO.use (hao E s hTb)) rfl hdg rfl hN.1 (by omega) (by omega) (by omega) fun cA kA comp f1 f2 f3 f4 => ?_
    have hcA : cA = E.2.2.2.1 c0 := by
      obtain ⟨kB, cB, g1, g2, g3, g4⟩ := (hTb.1.2 t _ (ht E)).2
      exact Option.some.inj (f1.symm.trans g4)
    subst hcA
    generalize hH1 : H.push ({ cls := E.2.2.2.1 c0, slots := Array.replicate n.toNatClampNeg .null, vm := .none } : Cell) = H1
    have z2 : H1.size = H.size + 1 := by rw [← hH1, Array.size_push]
    have e1 : H1[H.size]? = some (arrV (E.2.2.2.1 c0) n.toNatClampNeg (fun _ => .null)) := by rw [← hH1, Array.getElem?_push_size, ← arrV_new]
    have o2 : ∀ q : Nat, q < H.size → H1[q]? = H[q]? := fun q hq => by rw [← hH1, Array.getElem?_push, if_neg (Nat.ne_of_lt hq)]
    have hK2 : qK (qnw m c0 n.toNatClampNeg) (qT m) = c0 := by show va_up (qK m) (qT m) c0 (qT m) = c0; simp [va_up]
    have hN2 : qN (qnw m c0 n.toNatClampNeg) (qT m) = n.toNatClampNeg := by show va_up (qN m) (qT m) _ (qT m) = _; simp [va_up]
    have hI2 : qR (qnw m c0 n.toNatClampNeg) (qT m) = fun _ => none := qur_eq
    rw [hR.2.1]
    refine kk _ _ a1 rr hP hG p e R s mi args below meth c H1 locs (cells + 1) (slots + n.toNatClampNeg) mc ms ls Qf S (qRel_new hR (by omega) (qc_r hK2 hc0) ?_ z2 o2) (q_sz hR hS hbase z2 o2) (by omega) (by omega) hl
    show H1[E.2.1 + qT m]? = some (vp_cell _ _)
    rw [← hR.2.1, e1, hN2, vp_cell_q]
    congr 2
    funext j
    rw [hI2]
    rfl
  · rw [if_neg hN] at hP; cases hP
theorem j_aastore {np a t c0 ci v : Nat} {r0 : vw_C} {i : Int32} {K : qM → Option α} (hcc : (c0 = 15 ∧ ci = 0) ∨ (c0 = 16 ∧ ci = 5)) (hci : vwCl[ci]? = some r0) (ht : ∀ E : qE, (qty E)[t]? = some (E.2.2.2.1 c0, .object r0.1)) (hdg : decode cc pc = .ok (.aastore, 1)) (hn : pc + 1 = np) (kk : ∀ m2 : qM, qB E y cc nL ret Ex d bc bs np lv st m2 (K m2) G) : qB E y cc nL ret Ex d bc bs pc lv (.ref (E.2.1 + v) :: .int i :: .ref (E.2.1 + a) :: st) m ((qwR m a c0 i v).bind K) G := by
  intro a1 rr hP hG p e R s mi args below meth c H locs cells slots mc ms ls Qf S hR hS hc hs hl
  subst hn
  obtain ⟨⟨hx, hb, hml, hown, hts, hTb, hbase, hname, hEx⟩, ⟨r1, r2, r3, r4⟩, r5⟩ := id S
  unfold qwR at hP
  by_cases hK : qK m a = c0 ∧ ¬ i < 0 ∧ i.toNatClampNeg < qN m a ∧ qK m v + 15 = (if c0 = 15 then 15 else 20)
  · rw [if_pos hK] at hP
    obtain ⟨hKa, h0, hlt, hKv⟩ := hK
    have hc0 : c0 = 15 ∨ c0 = 16 := by omega
    have hKv2 : qK m v = ci := by rcases hcc with ⟨h, h2⟩ | ⟨h, h2⟩ <;> subst h <;> subst h2 <;> simp at hKv <;> omega
    have hci11 : ci < 11 := by omega
    have hK2 : qK (qsR m a i.toNatClampNeg (some v)) a = c0 := hKa
    obtain ⟨r', hr', cellV, g1, g2, g3, -⟩ := hR.1 v _ (qget_o hR hci11 hKv2)
    have hcls := (hTb.1.1 ci r0 hci).2
    obtain ⟨kA, comp, k1, k2, k3, -⟩ := (hTb.1.2 t _ (ht E)).2
    have hcomp : comp = E.2.2.1.1 ci := Option.some.inj (k3.symm.trans hcls.1)
    subst hcomp
    obtain ⟨kC, hkC, -⟩ := hcls.2
    refine W.aast hx hb (hR.1 a _ (qget_r hR hKa hc0)) (fun q h => by cases h) (fun h => by cases h) k1 k2 rfl hkC ⟨h0, by show _ < (arrV _ _ _).slots.size; rw [arrV_size]; exact hlt⟩ g1 (fun q h => by rw [g3] at h; cases h) (by rw [g2]; exact hkC) (by rw [g2]; exact va_assign hcls) rfl rfl hdg fun H1 e1 z oq => ?_
    refine kk _ a1 rr hP hG p e R s mi args below meth c H1 _ cells slots mc ms ls Qf S (qRel_set hR (qlt hR (by omega) hKa) rfl rfl (qc_r hK2 hc0) (fun x hx => qc_sR_ne hx) ?_ z oq) (hS.put z oq (Nat.le_add_right _ _)) hc hs hl
    show H1[E.2.1 + a]? = some (vp_cell _ _)
    rw [e1]
    rw [vp_cell_q, vp_cell_q, arrV_store]
    congr 2
    funext q
    by_cases hq : q = i.toNatClampNeg
    · subst hq
      simp [updV, qsR, qR, qu, va_rf, qrf]
    · simp [updV, qsR, qR, qu, hq]
  · rw [if_neg hK] at hP; cases hP
end JNEW
