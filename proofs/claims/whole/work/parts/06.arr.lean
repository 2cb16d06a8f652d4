theorem qget_i {E : qE} {m : qM} {H : Heap} (h : qRel E m H) {a c : Nat} (hk : qK m a = c) (hc : c = 11 ∨ c = 12 ∨ c = 14) : (qW E m)[a]? = some (E.2.1 + a, .inl (E.2.2.2.1 c, qN m a, .inl (qI m a))) := by
  rw [qW_get (qlt h (by omega) hk), qc, qar, hk, if_neg (by omega), if_neg (by omega), if_neg (by omega)]
theorem qget_l {E : qE} {m : qM} {H : Heap} (h : qRel E m H) {a : Nat} (hk : qK m a = 13) : (qW E m)[a]? = some (E.2.1 + a, .inl (E.2.2.2.1 13, qN m a, .inr (.inl (qL m a)))) := by
  rw [qW_get (qlt h (by omega) hk), qc, qar, hk, if_neg (by omega), if_pos rfl]
theorem qget_r {E : qE} {m : qM} {H : Heap} (h : qRel E m H) {a c : Nat} (hk : qK m a = c) (hc : c = 15 ∨ c = 16) : (qW E m)[a]? = some (E.2.1 + a, .inl (E.2.2.2.1 c, qN m a, .inr (.inr (.inr (.inr (fun j => qrf E (qR m a j))))))) := by
  rw [qW_get (qlt h (by omega) hk), qc, qar, hk, if_neg (by omega), if_neg (by omega), if_pos (by omega)]
theorem qc_i {E : qE} {m : qM} {a c : Nat} (hk : qK m a = c) (hc : c = 11 ∨ c = 12 ∨ c = 14) : qc E m a = .inl (E.2.2.2.1 c, qN m a, .inl (qI m a)) := by
  rw [qc, qar, hk, if_neg (by omega), if_neg (by omega), if_neg (by omega)]
theorem qc_l {E : qE} {m : qM} {a : Nat} (hk : qK m a = 13) : qc E m a = .inl (E.2.2.2.1 13, qN m a, .inr (.inl (qL m a))) := by
  rw [qc, qar, hk, if_neg (by omega), if_pos rfl]
theorem qc_r {E : qE} {m : qM} {a c : Nat} (hk : qK m a = c) (hc : c = 15 ∨ c = 16) : qc E m a = .inl (E.2.2.2.1 c, qN m a, .inr (.inr (.inr (.inr (fun j => qrf E (qR m a j)))))) := by
  rw [qc, qar, hk, if_neg (by omega), if_neg (by omega), if_pos (by omega)]
theorem q_vin {i : Int32} {n : Nat} (h1 : ¬ i < 0) (h2 : i.toNatClampNeg < n) : vp_in i n := fun h => h.elim h1 (fun h => absurd h2 (Nat.not_lt.mpr h))
section JARR
variable {E : qE} {y : MethodName} {cc : ByteArray} {nL : Nat} {ret : Option FieldType} {Ex : State → Prop} {d bc bs pc : Nat} {lv : List (Nat × Value)} {st : List Value} {m : qM} {α : Type} {P : Option α} {G : α → qRR → Prop}
theorem j_iaload {np a : Nat} {i : Int32} {K : Int32 → Option α} (hdg : decode cc pc = .ok (.iaload, 1)) (hn : pc + 1 = np) (kk : ∀ v : Int32, qB E y cc nL ret Ex d bc bs np lv (.int v :: st) m (K v) G) : qB E y cc nL ret Ex d bc bs pc lv (.int i :: .ref (E.2.1 + a) :: st) m ((qaI m a 12 i).bind K) G := by
  intro a1 rr hP hG p e R s mi args below meth c H locs cells slots mc ms ls Qf S hR hS hc hs hl
  subst hn
  unfold qaI at hP
  by_cases hK : qK m a = 12 ∧ ¬ i < 0 ∧ i.toNatClampNeg < qN m a
  · rw [if_pos hK] at hP
    exact va_iald S.1.1 S.1.2.1 S.1.2.2.2.2.2.1.1 hR.1 a 1 (qget_i hR hK.1 (by omega)) rfl (q_vin hK.2.1 hK.2.2) hdg (kk _ a1 rr hP hG p e R s mi args below meth c H locs cells slots mc ms ls Qf S hR hS hc hs hl)
  · rw [if_neg hK] at hP; cases hP
theorem j_caload {np a : Nat} {i : Int32} {K : Int32 → Option α} (hdg : decode cc pc = .ok (.caload, 1)) (hn : pc + 1 = np) (kk : ∀ v : Int32, qB E y cc nL ret Ex d bc bs np lv (.int v :: st) m (K v) G) : qB E y cc nL ret Ex d bc bs pc lv (.int i :: .ref (E.2.1 + a) :: st) m ((qaI m a 11 i).bind K) G := by
  intro a1 rr hP hG p e R s mi args below meth c H locs cells slots mc ms ls Qf S hR hS hc hs hl
  subst hn
  unfold qaI at hP
  by_cases hK : qK m a = 11 ∧ ¬ i < 0 ∧ i.toNatClampNeg < qN m a
  · rw [if_pos hK] at hP
    exact va_cald S.1.1 S.1.2.1 S.1.2.2.2.2.2.1.1 hR.1 a 0 (qget_i hR hK.1 (by omega)) rfl (q_vin hK.2.1 hK.2.2) hdg (kk _ a1 rr hP hG p e R s mi args below meth c H locs cells slots mc ms ls Qf S hR hS hc hs hl)
  · rw [if_neg hK] at hP; cases hP
theorem j_baload {np a : Nat} {i : Int32} {K : Int32 → Option α} (hdg : decode cc pc = .ok (.baload, 1)) (hn : pc + 1 = np) (kk : ∀ v : Int32, qB E y cc nL ret Ex d bc bs np lv (.int v :: st) m (K v) G) : qB E y cc nL ret Ex d bc bs pc lv (.int i :: .ref (E.2.1 + a) :: st) m ((qaI m a 14 i).bind K) G := by
  intro a1 rr hP hG p e R s mi args below meth c H locs cells slots mc ms ls Qf S hR hS hc hs hl
  subst hn
  unfold qaI at hP
  by_cases hK : qK m a = 14 ∧ ¬ i < 0 ∧ i.toNatClampNeg < qN m a
  · rw [if_pos hK] at hP
    exact va_zald S.1.1 S.1.2.1 S.1.2.2.2.2.2.1.1 hR.1 a 3 (qget_i hR hK.1 (by omega)) rfl (q_vin hK.2.1 hK.2.2) hdg (kk _ a1 rr hP hG p e R s mi args below meth c H locs cells slots mc ms ls Qf S hR hS hc hs hl)
  · rw [if_neg hK] at hP; cases hP
theorem j_iastore {np a : Nat} {i x : Int32} {K : qM → Option α} (hdg : decode cc pc = .ok (.iastore, 1)) (hn : pc + 1 = np) (kk : ∀ m2 : qM, qB E y cc nL ret Ex d bc bs np lv st m2 (K m2) G) : qB E y cc nL ret Ex d bc bs pc lv (.int x :: .int i :: .ref (E.2.1 + a) :: st) m ((qwI m a 12 i x).bind K) G := by
  intro a1 rr hP hG p e R s mi args below meth c H locs cells slots mc ms ls Qf S hR hS hc hs hl
  subst hn
  unfold qwI at hP
  by_cases hK : qK m a = 12 ∧ ¬ i < 0 ∧ i.toNatClampNeg < qN m a
  · rw [if_pos hK] at hP
    have hin := q_vin hK.2.1 hK.2.2
    have hK2 : qK (qsI m a i.toNatClampNeg x) a = 12 := hK.1
    refine W.iast S.1.1 S.1.2.1 (hR.1 a _ (qget_i hR hK.1 (by omega))) ((S.1.2.2.2.2.2.1.1.2 1 _ rfl).1 (qN m a) (fun j => .int (qI m a j))) (fun q => by cases q) (by show ¬ (i < 0 ∨ (arrV _ _ _).slots.size ≤ _); rw [arrV_size]; exact hin) rfl rfl hdg fun H1 e1 z oq => ?_
    refine kk _ a1 rr hP hG p e R s mi args below meth c H1 _ cells slots mc ms ls Qf S (qRel_set hR (qlt hR (by omega) hK.1) rfl rfl (qc_i hK2 (by omega)) (fun x hx => qc_sI_ne hx) ?_ z oq) (hS.put z oq (Nat.le_add_right _ _)) hc hs hl
    show H1[E.2.1 + a]? = some (vp_cell _ _)
    rw [e1]
    rw [vp_cell_i, vp_cell_i, arrV_store]
    congr 2
    funext q
    by_cases hq : q = i.toNatClampNeg
    · subst hq
      simp [updV, qsI, qI, qu]
      try rfl
    · simp [updV, qsI, qI, qu, hq]
  · rw [if_neg hK] at hP; cases hP
theorem j_castore {np a : Nat} {i x : Int32} {K : qM → Option α} (hdg : decode cc pc = .ok (.castore, 1)) (hn : pc + 1 = np) (kk : ∀ m2 : qM, qB E y cc nL ret Ex d bc bs np lv st m2 (K m2) G) : qB E y cc nL ret Ex d bc bs pc lv (.int x :: .int i :: .ref (E.2.1 + a) :: st) m ((qwI m a 11 i x.toUInt32.toUInt16.toUInt32.toInt32).bind K) G := by
  intro a1 rr hP hG p e R s mi args below meth c H locs cells slots mc ms ls Qf S hR hS hc hs hl
  subst hn
  unfold qwI at hP
  by_cases hK : qK m a = 11 ∧ ¬ i < 0 ∧ i.toNatClampNeg < qN m a
  · rw [if_pos hK] at hP
    have hin := q_vin hK.2.1 hK.2.2
    have hK2 : qK (qsI m a i.toNatClampNeg x.toUInt32.toUInt16.toUInt32.toInt32) a = 11 := hK.1
    refine W.cast S.1.1 S.1.2.1 (hR.1 a _ (qget_i hR hK.1 (by omega))) ((S.1.2.2.2.2.2.1.1.2 0 _ rfl).1 (qN m a) (fun j => .int (qI m a j))) (fun q => by cases q) (by show ¬ (i < 0 ∨ (arrV _ _ _).slots.size ≤ _); rw [arrV_size]; exact hin) rfl rfl hdg fun H1 e1 z oq => ?_
    refine kk _ a1 rr hP hG p e R s mi args below meth c H1 _ cells slots mc ms ls Qf S (qRel_set hR (qlt hR (by omega) hK.1) rfl rfl (qc_i hK2 (by omega)) (fun x hx => qc_sI_ne hx) ?_ z oq) (hS.put z oq (Nat.le_add_right _ _)) hc hs hl
    show H1[E.2.1 + a]? = some (vp_cell _ _)
    rw [e1]
    rw [vp_cell_i, vp_cell_i, arrV_store]
    congr 2
    funext q
    by_cases hq : q = i.toNatClampNeg
    · subst hq
      simp [updV, qsI, qI, qu]
      try rfl
    · simp [updV, qsI, qI, qu, hq]
  · rw [if_neg hK] at hP; cases hP
theorem j_bastore {np a : Nat} {i x : Int32} {K : qM → Option α} (hdg : decode cc pc = .ok (.bastore, 1)) (hn : pc + 1 = np) (kk : ∀ m2 : qM, qB E y cc nL ret Ex d bc bs np lv st m2 (K m2) G) : qB E y cc nL ret Ex d bc bs pc lv (.int x :: .int i :: .ref (E.2.1 + a) :: st) m ((qwI m a 14 i (x &&& 1)).bind K) G := by
  intro a1 rr hP hG p e R s mi args below meth c H locs cells slots mc ms ls Qf S hR hS hc hs hl
  subst hn
  unfold qwI at hP
  by_cases hK : qK m a = 14 ∧ ¬ i < 0 ∧ i.toNatClampNeg < qN m a
  · rw [if_pos hK] at hP
    have hin := q_vin hK.2.1 hK.2.2
    have hK2 : qK (qsI m a i.toNatClampNeg (x &&& 1)) a = 14 := hK.1
    refine W.zast S.1.1 S.1.2.1 (hR.1 a _ (qget_i hR hK.1 (by omega))) ((S.1.2.2.2.2.2.1.1.2 3 _ rfl).1 (qN m a) (fun j => .int (qI m a j))) (fun q => by cases q) (by show ¬ (i < 0 ∨ (arrV _ _ _).slots.size ≤ _); rw [arrV_size]; exact hin) rfl rfl hdg fun H1 e1 z oq => ?_
    refine kk _ a1 rr hP hG p e R s mi args below meth c H1 _ cells slots mc ms ls Qf S (qRel_set hR (qlt hR (by omega) hK.1) rfl rfl (qc_i hK2 (by omega)) (fun x hx => qc_sI_ne hx) ?_ z oq) (hS.put z oq (Nat.le_add_right _ _)) hc hs hl
    show H1[E.2.1 + a]? = some (vp_cell _ _)
    rw [e1]
    rw [vp_cell_i, vp_cell_i, arrV_store]
    congr 2
    funext q
    by_cases hq : q = i.toNatClampNeg
    · subst hq
      simp [updV, qsI, qI, qu]
      try rfl
    · simp [updV, qsI, qI, qu, hq]
  · rw [if_neg hK] at hP; cases hP
theorem j_laload {np a : Nat} {i : Int32} {K : Int64 → Option α} (hdg : decode cc pc = .ok (.laload, 1)) (hn : pc + 1 = np) (kk : ∀ v : Int64, qB E y cc nL ret Ex d bc bs np lv (.long v :: st) m (K v) G) : qB E y cc nL ret Ex d bc bs pc lv (.int i :: .ref (E.2.1 + a) :: st) m ((qaL m a i).bind K) G := by
  intro a1 rr hP hG p e R s mi args below meth c H locs cells slots mc ms ls Qf S hR hS hc hs hl
  subst hn
  unfold qaL at hP
  by_cases hK : qK m a = 13 ∧ ¬ i < 0 ∧ i.toNatClampNeg < qN m a
  · rw [if_pos hK] at hP
    exact va_lald S.1.1 S.1.2.1 S.1.2.2.2.2.2.1.1 hR.1 a 2 (qget_l hR hK.1) rfl (q_vin hK.2.1 hK.2.2) hdg (kk _ a1 rr hP hG p e R s mi args below meth c H locs cells slots mc ms ls Qf S hR hS hc hs hl)
  · rw [if_neg hK] at hP; cases hP
theorem j_lastore {np a : Nat} {i : Int32} {x : Int64} {K : qM → Option α} (hdg : decode cc pc = .ok (.lastore, 1)) (hn : pc + 1 = np) (kk : ∀ m2 : qM, qB E y cc nL ret Ex d bc bs np lv st m2 (K m2) G) : qB E y cc nL ret Ex d bc bs pc lv (.long x :: .int i :: .ref (E.2.1 + a) :: st) m ((qwL m a i x).bind K) G := by
  intro a1 rr hP hG p e R s mi args below meth c H locs cells slots mc ms ls Qf S hR hS hc hs hl
  subst hn
  unfold qwL at hP
  by_cases hK : qK m a = 13 ∧ ¬ i < 0 ∧ i.toNatClampNeg < qN m a
  · rw [if_pos hK] at hP
    have hin := q_vin hK.2.1 hK.2.2
    have hK2 : qK (qsL m a i.toNatClampNeg x) a = 13 := hK.1
    refine W.last S.1.1 S.1.2.1 (hR.1 a _ (qget_l hR hK.1)) ((S.1.2.2.2.2.2.1.1.2 2 _ rfl).1 (qN m a) (fun j => .long (qL m a j))) (fun q => by cases q) (by show ¬ (i < 0 ∨ (arrV _ _ _).slots.size ≤ _); rw [arrV_size]; exact hin) rfl rfl hdg fun H1 e1 z oq => ?_
    refine kk _ a1 rr hP hG p e R s mi args below meth c H1 _ cells slots mc ms ls Qf S (qRel_set hR (qlt hR (by omega) hK.1) rfl rfl (qc_l hK2) (fun x hx => qc_sL_ne hx) ?_ z oq) (hS.put z oq (Nat.le_add_right _ _)) hc hs hl
    show H1[E.2.1 + a]? = some (vp_cell _ _)
    rw [e1]
    rw [vp_cell_l, vp_cell_l, arrV_store]
    congr 2
    funext q
    by_cases hq : q = i.toNatClampNeg
    · subst hq
      simp [updV, qsL, qL, qu]
    · simp [updV, qsL, qL, qu, hq]
  · rw [if_neg hK] at hP; cases hP
theorem j_aaload {np a t c0 : Nat} {C : String} {i : Int32} {K : Nat → Option α} (hc0 : c0 = 15 ∨ c0 = 16) (ht : ∀ E : qE, (qty E)[t]? = some (E.2.2.2.1 c0, .object C)) (hdg : decode cc pc = .ok (.aaload, 1)) (hn : pc + 1 = np) (kk : ∀ v : Nat, qB E y cc nL ret Ex d bc bs np lv (.ref (E.2.1 + v) :: st) m (K v) G) : qB E y cc nL ret Ex d bc bs pc lv (.int i :: .ref (E.2.1 + a) :: st) m ((qaR m a c0 i).bind K) G := by
  intro a1 rr hP hG p e R s mi args below meth c H locs cells slots mc ms ls Qf S hR hS hc hs hl
  subst hn
  unfold qaR at hP
  by_cases hK : qK m a = c0 ∧ ¬ i < 0 ∧ i.toNatClampNeg < qN m a
  · rw [if_pos hK] at hP
    cases hv : qR m a i.toNatClampNeg with
    | none => rw [hv] at hP; cases hP
    | some v =>
      rw [hv] at hP
      refine va_aldq S.1.1 S.1.2.1 S.1.2.2.2.2.2.1.1 hR.1 a t (qget_r hR hK.1 hc0) (ht E) (q_vin hK.2.1 hK.2.2) hdg ?_
      rw [hv]
      exact kk _ a1 rr hP hG p e R s mi args below meth c H locs cells slots mc ms ls Qf S hR hS hc hs hl
  · rw [if_neg hK] at hP; cases hP
end JARR
