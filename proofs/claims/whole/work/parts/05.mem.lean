-- ===== classes and fields, by the tables =====
def qCls (ci : Nat) (C : String) (T : u_T) (N : Nat) (ty : Nat → FieldType) : Prop :=
  vwCl[ci]? = some (C, T, N) ∧ ci < 11 ∧ N = qFn ci ∧ (∀ w ∈ u_ws C T N, w ∈ qTb) ∧ (∀ k, k < N → parseFieldDescriptor (T k).2.2.1 = some (ty k)) ∧ (∀ a, a < N → ∀ b, b < N → a ≠ b → (T a).2.1 ≠ (T b).2.1) ∧ (∀ k, k < N → if qFr ci k = true then refKind (ty k) = true else ty k = .int) ∧ Cond.instantiable C N ∈ qTb ∧ Cond.initialized C ∈ qTb
def qFld (own : String) (idx ci k : Nat) (r fin : Bool) : Prop :=
  ∃ (C : String) (T : u_T) (N : Nat) (ty : Nat → FieldType), qCls ci C T N ty ∧ k < N ∧ qFr ci k = r ∧ (T k).2.2.2 = fin ∧ (fin = true → (T k).1 = own) ∧ Cond.fieldLink own idx (T k).1 (T k).2.1 (T k).2.2.1 ∈ qTb
theorem qlt {E : qE} {m : qM} {H : Heap} (h : qRel E m H) {a c : Nat} (hc : c < 99) (hk : qK m a = c) : a < qT m := by
  rcases Nat.lt_or_ge a (qT m) with q | q
  · exact q
  · have := h.2.2 a q; omega
theorem qget_o {E : qE} {m : qM} {H : Heap} (h : qRel E m H) {a ci : Nat} (hc : ci < 11) (hk : qK m a = ci) : (qW E m)[a]? = some (E.2.1 + a, .inr (ci, qfs E m a ci)) := by
  rw [qW_get (qlt h (by omega) hk), qc, hk, if_pos hc]
theorem qfs_I {E : qE} {m : qM} {a ci k : Nat} (hk : k < qFn ci) (hr : qFr ci k = false) : (qfs E m a ci)[k]? = some (.int (qI m a k)) := by
  simp [qfs, hk, hr]
theorem qfs_R {E : qE} {m : qM} {a ci k : Nat} (hk : k < qFn ci) (hr : qFr ci k = true) : (qfs E m a ci)[k]? = some (va_rf (qrf E (qR m a k))) := by
  simp [qfs, hk, hr]
theorem qfs_sI {E : qE} {m : qM} {a ci k : Nat} (hr : qFr ci k = false) (v : Int32) : qfs E (qsI m a k v) a ci = (qfs E m a ci).set k (.int v) := by
  apply List.ext_getElem?
  intro j
  rw [List.getElem?_set]
  by_cases hj : k = j
  · subst hj
    by_cases hl : k < qFn ci
    · simp [qfs, hl, hr, qsI, qI, qu]
    · simp [qfs, hl]
  · by_cases hl : j < qFn ci
    · have hj2 : ¬ j = k := fun h => hj h.symm
      simp [qfs, hl, hj, hj2, qsI, qI, qu, qR]
    · simp [qfs, hl, hj]
theorem qfs_sR {E : qE} {m : qM} {a ci k : Nat} (hr : qFr ci k = true) (v : Option Nat) : qfs E (qsR m a k v) a ci = (qfs E m a ci).set k (va_rf (qrf E v)) := by
  apply List.ext_getElem?
  intro j
  rw [List.getElem?_set]
  by_cases hj : k = j
  · subst hj
    by_cases hl : k < qFn ci
    · simp [qfs, hl, hr, qsR, qR, qu]
    · simp [qfs, hl]
  · by_cases hl : j < qFn ci
    · have hj2 : ¬ j = k := fun h => hj h.symm
      simp [qfs, hl, hj, hj2, qsR, qI, qu, qR]
    · simp [qfs, hl, hj]
theorem qfs_len (E : qE) (m : qM) (a ci : Nat) : (qfs E m a ci).length = qFn ci := by simp [qfs]
theorem qc_congr {E : qE} {m m' : qM} {x : Nat} (hK : qK m' x = qK m x) (hN : qN m' x = qN m x) (hI : qI m' x = qI m x) (hL : qL m' x = qL m x) (hR : qR m' x = qR m x) : qc E m' x = qc E m x := by
  unfold qc qfs qar
  rw [hK, hN, hI, hL, hR]
theorem qu_ne {α : Type} {f : Nat → Nat → α} {a k x : Nat} {v : α} (h : x ≠ a) : qu f a k v x = f x := by funext j; simp [qu, h]
theorem qur_ne {α : Type} {f : Nat → Nat → α} {a x : Nat} {g : Nat → α} (h : x ≠ a) : qur f a g x = f x := by funext j; simp [qur, h]
theorem qur_eq {α : Type} {f : Nat → Nat → α} {a : Nat} {g : Nat → α} : qur f a g a = g := by funext j; simp [qur]
theorem qu_eq {α : Type} {f : Nat → Nat → α} {a k : Nat} {v : α} : qu f a k v a = fun j => if j = k then v else f a j := by funext j; simp [qu]
theorem qc_sI_ne {E : qE} {m : qM} {a k : Nat} {v : Int32} {x : Nat} (h : x ≠ a) : qc E (qsI m a k v) x = qc E m x := qc_congr rfl rfl (qu_ne h) rfl rfl
theorem qc_sL_ne {E : qE} {m : qM} {a k : Nat} {v : Int64} {x : Nat} (h : x ≠ a) : qc E (qsL m a k v) x = qc E m x := qc_congr rfl rfl rfl (qu_ne h) rfl
theorem qc_sR_ne {E : qE} {m : qM} {a k : Nat} {v : Option Nat} {x : Nat} (h : x ≠ a) : qc E (qsR m a k v) x = qc E m x := qc_congr rfl rfl rfl rfl (qu_ne h)
theorem qc_sA_ne {E : qE} {m : qM} {a : Nat} {g : Nat → Int32} {x : Nat} (h : x ≠ a) : qc E (qsA m a g) x = qc E m x := qc_congr rfl rfl (qur_ne h) rfl rfl
theorem qRel_set {E : qE} {m m' : qM} {H H1 : Heap} {a : Nat} {e : va_E} (h : qRel E m H) (ha : a < qT m) (hT : qT m' = qT m) (hK : qK m' = qK m) (he : qc E m' a = e) (ho : ∀ x, x ≠ a → qc E m' x = qc E m x) (hat : va_at E.2.2.1 vwCl (E.2.1 + a, e) H1) (z : H1.size = H.size) (oq : ∀ q : Nat, q ≠ E.2.1 + a → H1[q]? = H[q]?) : qRel E m' H1 := by
  refine ⟨?_, by rw [z, hT]; exact h.2.1, by rw [hT, hK]; exact h.2.2⟩
  rw [← qW_set hT he ho]
  exact h.1.set (qW_D E m) (qW_get ha) hat oq
section JMEM
variable {E : qE} {y : MethodName} {cc : ByteArray} {nL : Nat} {ret : Option FieldType} {Ex : State → Prop} {d bc bs pc : Nat} {lv : List (Nat × Value)} {st : List Value} {m : qM} {α : Type} {P : Option α} {G : α → qRR → Prop}
theorem j_gI {np a ci k idx : Nat} {fin : Bool} {K : Int32 → Option α} (hf : qFld y.cls idx ci k false fin) (hdg : decode cc pc = .ok (.getfield idx, 3)) (hn : pc + 3 = np) (kk : ∀ v : Int32, qB E y cc nL ret Ex d bc bs np lv (.int v :: st) m (K v) G) : qB E y cc nL ret Ex d bc bs pc lv (.ref (E.2.1 + a) :: st) m ((qgI m a ci k).bind K) G := by
  intro a1 rr hP hG p e R s mi args below meth c H locs cells slots mc ms ls Qf S hR hS hc hs hl
  subst hn
  obtain ⟨C, T, N, ty, ⟨h1, h2, h3, h4, h5, h6, h7, h8, h9⟩, hk, hr, hfin, hown1, hlk⟩ := hf
  unfold qgI at hP
  by_cases hK : qK m a = ci
  · rw [if_pos hK] at hP
    exact va_get (C := C) (T := T) (N := N) S.1.1 S.1.2.1 S.1.2.2.2.2.1 h4 S.1.2.2.2.1 S.1.2.2.2.2.2.1.1 hR.1 a (qget_o hR h2 hK) h1 k hk (S.1.2.2.2.2.1 _ hlk) (fun _ h => h) (qfs_I (by rw [← h3]; exact hk) hr) hdg (kk _ a1 rr hP hG p e R s mi args below meth c H locs cells slots mc ms ls Qf S hR hS hc hs hl)
  · rw [if_neg hK] at hP; cases hP
theorem j_gR {np a ci k idx : Nat} {fin : Bool} {K : Nat → Option α} (hf : qFld y.cls idx ci k true fin) (hdg : decode cc pc = .ok (.getfield idx, 3)) (hn : pc + 3 = np) (kk : ∀ v : Nat, qB E y cc nL ret Ex d bc bs np lv (.ref (E.2.1 + v) :: st) m (K v) G) : qB E y cc nL ret Ex d bc bs pc lv (.ref (E.2.1 + a) :: st) m ((qgR m a ci k).bind K) G := by
  intro a1 rr hP hG p e R s mi args below meth c H locs cells slots mc ms ls Qf S hR hS hc hs hl
  subst hn
  obtain ⟨C, T, N, ty, ⟨h1, h2, h3, h4, h5, h6, h7, h8, h9⟩, hk, hr, hfin, hown1, hlk⟩ := hf
  unfold qgR at hP
  by_cases hK : qK m a = ci
  · rw [if_pos hK] at hP
    cases hv : qR m a k with
    | none => rw [hv] at hP; cases hP
    | some v =>
      rw [hv] at hP
      have hv2 : (qfs E m a ci)[k]? = some (.ref (E.2.1 + v)) := by rw [qfs_R (by rw [← h3]; exact hk) hr, hv]; rfl
      exact va_get (C := C) (T := T) (N := N) S.1.1 S.1.2.1 S.1.2.2.2.2.1 h4 S.1.2.2.2.1 S.1.2.2.2.2.2.1.1 hR.1 a (qget_o hR h2 hK) h1 k hk (S.1.2.2.2.2.1 _ hlk) (fun _ h => h) hv2 hdg (kk _ a1 rr hP hG p e R s mi args below meth c H locs cells slots mc ms ls Qf S hR hS hc hs hl)
  · rw [if_neg hK] at hP; cases hP
/-- a field is put: what the heap is then -/
theorem q_put {p : Program} {e : Env} {R : Room} {s : State} {mi : MethodId} {args : Array Value} {below : List Frame} {meth : Method} {c : Code} {H : Heap} {locs : List Loc} {cells slots : Nat} {Qf : State → Prop} {ls : Array Slot} {a ci k idx : Nat} {r fin : Bool} {v : Value} {m' : qM} (hf : qFld y.cls idx ci k r fin) (hini : fin = true → y.name = "<init>") (C0 : qCx E y cc nL Ex p s mi args meth c) (hR : qRel E m H) (hS : va_S (qA E) s.heap H locs) (hK : qK m a = ci) (hv : if r = true then ∃ x, v = .ref x else ∃ x, v = .int x)
    (hT : qT m' = qT m) (hK' : qK m' = qK m) (he : qc E m' a = .inr (ci, (qfs E m a ci).set k v)) (ho : ∀ x, x ≠ a → qc E m' x = qc E m x) (hdg : decode cc pc = .ok (.putfield idx, 3))
    (kk : ∀ (H1 : Heap) (locs1 : List Loc), qRel E m' H1 → va_S (qA E) s.heap H1 locs1 → W p E.1 e R s mi args below meth c H1 locs1 cells slots Qf (F0 mi (pc + 3) ls st)) : W p E.1 e R s mi args below meth c H locs cells slots Qf (F0 mi pc ls (v :: .ref (E.2.1 + a) :: st)) := by
  obtain ⟨C, T, N, ty, ⟨h1, h2, h3, h4, h5, h6, h7, h8, h9⟩, hk, hr, hfin, hown1, hlk⟩ := hf
  obtain ⟨hx, hb, hml, hown, hts, hTb, hbase, hname, -⟩ := C0
  have hlt : a < qT m := qlt hR (by omega) hK
  have hty := h7 k hk
  have hnf : narrow (ty k) v = v ∧ fits (ty k) v = true := by
    rw [hr] at hty
    cases r with
    | true =>
      obtain ⟨x, rfl⟩ := hv
      have hq : refKind (ty k) = true := by simpa using hty
      cases hz : ty k <;> rw [hz] at hq <;> first | exact ⟨rfl, rfl⟩ | (simp [refKind] at hq)
    | false =>
      obtain ⟨x, rfl⟩ := hv
      have hq : ty k = .int := by simpa using hty
      rw [hq]; exact ⟨rfl, rfl⟩
  have hap := va_apart (own := y.cls) (D := E.2.2.1) (cl := vwCl) (tys := qty E) hts h4 ty h5 h6 hTb.1 h1
  obtain ⟨r0, g1, cell, q1, q2, q3, q4⟩ := hR.1 a _ (qget_o hR h2 hK)
  have hr0 : r0 = (C, T, N) := Option.some.inj (g1.symm.trans h1)
  subst hr0
  obtain ⟨hSl, hfc, kC, hkC, hkind⟩ := hTb.1.1 ci _ h1
  obtain ⟨cf, kf, fi, f, hi, hsl⟩ := hSl k hk
  have hst := (u_facts hfc hkC (u_lays hts h4 hk) hi).1
  have fin2 : ∀ H' : Heap, H'[E.2.1 + a]? = some (cell.setSlot ((E.2.2.1).2 ci k) v) → H'.size = H.size → (∀ q, q ≠ E.2.1 + a → H'[q]? = H[q]?) → W p E.1 e R s mi args below meth c H' (locs ++ [⟨E.2.1 + a, (E.2.2.1).2 ci k⟩]) cells slots Qf (F0 mi (pc + 3) ls st) := by
    intro H' e1 e2 e3
    refine kk H' _ (qRel_set hR hlt hT hK' he ho ?_ e2 e3) (hS.put e2 e3 (Nat.le_add_right _ _))
    exact ⟨_, h1, t_OB.to (V := updV (vp_V (qfs E m a ci)) k v) ⟨_, e1, q2, q3, t_set q4 hap hk v⟩ (fun j _ => vp_updV_set (by rw [qfs_len, ← h3]; exact hk) v j)⟩
  have hlay := hts _ (h4 _ (u_in_lay hk))
  unfold u_lay at hlay
  cases fin with
  | false =>
    rw [if_neg (by rw [hfin]; decide)] at hlay
    have h6' := u_store hfc hkC hkind hlay hi (h5 k hk) hnf.1 hnf.2
    refine W.putK hx hb (f := f) ⟨hown, hts _ hlk, ⟨_, _, _, hi⟩, hst⟩ (by rw [q2]; exact h6') q1 q3 (by rw [hsl]; exact k2_hasslot (q4 k hk)) rfl rfl hdg fun H' e1 e2 e3 => ?_
    rw [hsl] at e1 ⊢
    exact fin2 H' e1 e2 e3
  | true =>
    rw [if_pos hfin] at hlay
    have hcf : mi.cls = cf := by
      obtain ⟨_, _, c', _, _, _, -, -, hf', -, -, -, hown2, -⟩ := Cond.laysFinal_spec hlay
      have e1 : c' = cf := by have := hi.symm.trans hf'; simp at this; exact this.1.symm
      rw [hown1 rfl] at hown2
      rw [← e1]; exact Option.some.inj (hown.symm.trans hown2)
    have h6' := u_fits hfc hkC hkind (Or.inr hlay) hi (h5 k hk) hnf.1 hnf.2
    refine W.putFinK hx hb hown (hts _ hlk) hi hst hcf (by rw [hname]; exact hini rfl) (by rw [q2]; exact h6') q1 q3 (by rw [hsl]; exact k2_hasslot (q4 k hk)) rfl rfl hdg fun H' e1 e2 e3 => ?_
    rw [hsl] at e1 ⊢
    exact fin2 H' e1 e2 e3
theorem j_pI {np a ci k idx : Nat} {v : Int32} {K : qM → Option α} (hf : qFld y.cls idx ci k false false) (hdg : decode cc pc = .ok (.putfield idx, 3)) (hn : pc + 3 = np) (kk : ∀ m2 : qM, qB E y cc nL ret Ex d bc bs np lv st m2 (K m2) G) : qB E y cc nL ret Ex d bc bs pc lv (.int v :: .ref (E.2.1 + a) :: st) m ((qpI m a ci k v).bind K) G := by
  intro a1 rr hP hG p e R s mi args below meth c H locs cells slots mc ms ls Qf S hR hS hc hs hl
  subst hn
  unfold qpI at hP
  by_cases hK : qK m a = ci
  · rw [if_pos hK] at hP
    have hf2 := hf
    obtain ⟨C, T, N, ty, ⟨h1, h2, h3, -⟩, hk, hr, -⟩ := hf2
    refine q_put (m' := qsI m a k v) hf (fun h => by cases h) S.1 hR hS hK ⟨v, rfl⟩ rfl rfl ?_ (fun x hx => qc_sI_ne hx) hdg (fun H1 locs1 hR1 hS1 => kk _ a1 rr hP hG p e R s mi args below meth c H1 locs1 cells slots mc ms ls Qf S hR1 hS1 hc hs hl)
    have hK2 : qK (qsI m a k v) a = ci := hK
    rw [qc, hK2, if_pos h2, qfs_sI hr]
  · rw [if_neg hK] at hP; cases hP
theorem j_pR {np a ci k idx : Nat} {fin : Bool} {v : Nat} {K : qM → Option α} (hf : qFld y.cls idx ci k true fin) (hini : fin = true → y.name = "<init>") (hdg : decode cc pc = .ok (.putfield idx, 3)) (hn : pc + 3 = np) (kk : ∀ m2 : qM, qB E y cc nL ret Ex d bc bs np lv st m2 (K m2) G) : qB E y cc nL ret Ex d bc bs pc lv (.ref (E.2.1 + v) :: .ref (E.2.1 + a) :: st) m ((qpR m a ci k v).bind K) G := by
  intro a1 rr hP hG p e R s mi args below meth c H locs cells slots mc ms ls Qf S hR hS hc hs hl
  subst hn
  unfold qpR at hP
  by_cases hK : qK m a = ci
  · rw [if_pos hK] at hP
    have hf2 := hf
    obtain ⟨C, T, N, ty, ⟨h1, h2, h3, -⟩, hk, hr, -⟩ := hf2
    refine q_put (m' := qsR m a k (some v)) hf hini S.1 hR hS hK ⟨_, rfl⟩ rfl rfl ?_ (fun x hx => qc_sR_ne hx) hdg (fun H1 locs1 hR1 hS1 => kk _ a1 rr hP hG p e R s mi args below meth c H1 locs1 cells slots mc ms ls Qf S hR1 hS1 hc hs hl)
    have hK2 : qK (qsR m a k (some v)) a = ci := hK
    rw [qc, hK2, if_pos h2, qfs_sR hr]
    rfl
  · rw [if_neg hK] at hP; cases hP
end JMEM
