-- ===== the matrix: nine entries below 3, the designated values =====
def CMx (I : Nat → Nat → Int32) (tb : Nat → Nat) (de : Nat) : Prop := I 389 3 = nI de ∧ de < 8 ∧ ∀ i, i < 9 → I 390 i = nI (tb i) ∧ tb i < 3
def MMx (I : Nat → Nat → Int32) (tb : Nat → Nat) (de : Nat) : Prop := I 433 13 = nI de ∧ de < 8 ∧ ∀ i, i < 9 → I 441 i = nI (tb i) ∧ tb i < 3
def dMc (a : Nat) : Prop := a = 389 ∨ a = 390
def dMm (a : Nat) : Prop := a = 433 ∨ a = 441
theorem XS.mx {K N : Nat → Nat} {R : Nat → Nat → Option Nat} (h : XS K N R) : K 0 = 9 ∧ R 0 6 = some 389 ∧ K 389 = 4 ∧ R 389 0 = some 390 ∧ K 390 = 12 ∧ N 390 = 9 := ⟨h.1.1, h.1.2.2.2.2.2.2.2.1, h.2.2.2.2.2.1.1, h.2.2.2.2.2.1.2.1, h.2.2.2.2.2.1.2.2.2.2.1, h.2.2.2.2.2.1.2.2.2.2.2.1⟩
theorem MS.mx {K N : Nat → Nat} {R : Nat → Nat → Option Nat} (h : MS K N R) : K 433 = 10 ∧ R 433 12 = some 441 ∧ K 441 = 12 ∧ N 441 = 9 := ⟨h.1.1, h.1.2.2.2.2.2.2.2.2.1, h.2.1.2.2.2.2.2.2.2.1, h.2.2.2.2.2.2.2.2.2.1⟩
def b3 (v : Int32) : Int32 := if v < 0 then 0 else if 3 ≤ v then 0 else 1
theorem isTruth_eq {N : Nat} {v : Int32} {m : qM} : fX9_isTruthValue N v m = some (b3 v, m) := by
  unfold fX9_isTruthValue b3
  by_cases h1 : v < 0
  · simp only [h1, ↓reduceIte]
  · by_cases h2 : 3 ≤ v
    · simp only [h1, h2, ↓reduceIte]
    · simp only [h1, h2, ↓reduceIte]
theorem isVal_eq {N : Nat} {v : Int32} {m : qM} : fX10_isValue N v m = some (b3 v, m) := by
  unfold fX10_isValue b3
  rw [fX10_in_eq]
  rcases i3 v with ⟨h, -⟩ | ⟨h1, h2, h3⟩ | ⟨h1, h2, h3, -⟩
  · simp only [h, ↓reduceIte, Option.bind_some, z0]
  · simp only [h1, h2, h3, ↓reduceIte, Option.bind_some, z0]
  · simp only [h1, h2, h3, ↓reduceIte, Option.bind_some, z1]
theorem b3_cases (v : Int32) : b3 v = 0 ∨ (b3 v = 1 ∧ ∃ x : Nat, x < 3 ∧ v = nI x) := by
  unfold b3
  rcases i3 v with ⟨h, -⟩ | ⟨h1, h2, h3⟩ | ⟨h1, h2, h3, j, hj, e⟩
  · simp only [h, ↓reduceIte, true_or]
  · simp only [h1, h2, ↓reduceIte, true_or]
  · simp only [h1, h2, ↓reduceIte]; exact Or.inr ⟨trivial, j, hj, e⟩
def aSet (tb : Nat → Nat) (x y v : Int32) : Int32 := if b3 x = 0 then -1 else if b3 y = 0 then -1 else if b3 v = 0 then -2 else nI (tb (3 * x.toNatClampNeg + y.toNatClampNeg))
def sSet (tb : Nat → Nat) (x y v : Int32) : Nat → Nat := if b3 x = 0 then tb else if b3 y = 0 then tb else if b3 v = 0 then tb else fun k => if k = 3 * x.toNatClampNeg + y.toNatClampNeg then v.toNatClampNeg else tb k
theorem c_setEntry {m : qM} {tb : Nat → Nat} {de : Nat} (hX : XS (qK m) (qN m) (qR m)) (hx : CMx (qI m) tb de) (x y v : Int32) : ∃ m2, fX9_setEntry NF 0 x y v m = some (aSet tb x y v, m2) ∧ CMx (qI m2) (sSet tb x y v) de ∧ Fx dMc m m2 := by
  unfold fX9_setEntry aSet sSet
  simp only [isTruth_eq, Option.bind_some]
  rcases b3_cases x with hx0 | ⟨hx1, x, hx3, rfl⟩
  · exact ⟨m, by simp only [hx0, ↓reduceIte], by simp only [hx0, ↓reduceIte]; exact hx, Fx.rf⟩
  have h10 : ¬ (1 : Int32) = 0 := by decide
  simp only [hx1, h10, ↓reduceIte]
  rcases b3_cases y with hy0 | ⟨hy1, y, hy3, rfl⟩
  · exact ⟨m, by simp only [hy0, ↓reduceIte], by simp only [hy0, ↓reduceIte]; exact hx, Fx.rf⟩
  simp only [hy1, h10, ↓reduceIte]
  rcases b3_cases v with hv0 | ⟨hv1, v, hv3, rfl⟩
  · exact ⟨m, by simp only [hv0, ↓reduceIte], by simp only [hv0, ↓reduceIte]; exact hx, Fx.rf⟩
  simp only [hv1, h10, ↓reduceIte]
  obtain ⟨k0, r0, k1, r1, k2, n2⟩ := hX.mx
  obtain ⟨t1, t2, t3⟩ := hx
  have c1 : (nI x).toNatClampNeg = x := nI_clamp (by omega)
  have c2 : (nI y).toNatClampNeg = y := nI_clamp (by omega)
  have c3 : (nI v).toNatClampNeg = v := nI_clamp (by omega)
  rw [c1, c2, c3]
  have hb : 3 * x + y < qN m 390 := by omega
  have e3 : (3 : Int32) * nI x + nI y = nI (3 * x + y) := by
    show nI 3 * nI x + nI y = _
    rw [pk_mul, nI_add]
  have ht := (t3 (3 * x + y) (by omega)).1
  refine ⟨qsI m 390 (3 * x + y) (nI v), ?_, ⟨?_, t2, fun i hi => ?_⟩, Fx.sI (D := dMc) Fx.rf (Or.inr rfl)⟩
  · simp (disch := first | assumption | omega) only [fX4_replaceEntry, qP, qChk_, Option.bind_some, r0, r1, e3, ht]
  · have e : ¬ (389 : Nat) = 390 := by decide
    simp only [qS, e, ↓reduceIte]; exact t1
  · simp only [qS, ↓reduceIte]
    by_cases h : i = 3 * x + y
    · rw [if_pos h, if_pos h]; exact ⟨rfl, hv3⟩
    · rw [if_neg h, if_neg h]; exact t3 i hi
theorem m_setEntry {m : qM} {tb : Nat → Nat} {de : Nat} (hM : MS (qK m) (qN m) (qR m)) (hx : MMx (qI m) tb de) (x y v : Int32) : ∃ m2, fX10_setEntry NF 433 x y v m = some (aSet tb x y v, m2) ∧ MMx (qI m2) (sSet tb x y v) de ∧ Fx dMm m m2 := by
  unfold fX10_setEntry aSet sSet
  simp only [isVal_eq, Option.bind_some]
  rcases b3_cases x with hx0 | ⟨hx1, x, hx3, rfl⟩
  · exact ⟨m, by simp only [hx0, ↓reduceIte], by simp only [hx0, ↓reduceIte]; exact hx, Fx.rf⟩
  have h10 : ¬ (1 : Int32) = 0 := by decide
  simp only [hx1, h10, ↓reduceIte]
  rcases b3_cases y with hy0 | ⟨hy1, y, hy3, rfl⟩
  · exact ⟨m, by simp only [hy0, ↓reduceIte], by simp only [hy0, ↓reduceIte]; exact hx, Fx.rf⟩
  simp only [hy1, h10, ↓reduceIte]
  rcases b3_cases v with hv0 | ⟨hv1, v, hv3, rfl⟩
  · exact ⟨m, by simp only [hv0, ↓reduceIte], by simp only [hv0, ↓reduceIte]; exact hx, Fx.rf⟩
  simp only [hv1, h10, ↓reduceIte]
  obtain ⟨k0, r1, k2, n2⟩ := hM.mx
  obtain ⟨t1, t2, t3⟩ := hx
  have c1 : (nI x).toNatClampNeg = x := nI_clamp (by omega)
  have c2 : (nI y).toNatClampNeg = y := nI_clamp (by omega)
  have c3 : (nI v).toNatClampNeg = v := nI_clamp (by omega)
  rw [c1, c2, c3]
  have hb : 3 * x + y < qN m 441 := by omega
  have e3 : (3 : Int32) * nI x + nI y = nI (3 * x + y) := by
    show nI 3 * nI x + nI y = _
    rw [pk_mul, nI_add]
  have ht := (t3 (3 * x + y) (by omega)).1
  refine ⟨qsI m 441 (3 * x + y) (nI v), ?_, ⟨?_, t2, fun i hi => ?_⟩, Fx.sI (D := dMm) Fx.rf (Or.inr rfl)⟩
  · simp (disch := first | assumption | omega) only [qP, qChk_, Option.bind_some, r1, e3, ht]
  · have e : ¬ (433 : Nat) = 441 := by decide
    simp only [qS, e, ↓reduceIte]; exact t1
  · simp only [qS, ↓reduceIte]
    by_cases h : i = 3 * x + y
    · rw [if_pos h, if_pos h]; exact ⟨rfl, hv3⟩
    · rw [if_neg h, if_neg h]; exact t3 i hi
theorem i7 (v : Int32) : (v < 0 ∧ v < 0) ∨ (¬ v < 0 ∧ ¬ v ≤ 7 ∧ 7 < v) ∨ (¬ v < 0 ∧ v ≤ 7 ∧ ¬ 7 < v ∧ ∃ x : Nat, x < 8 ∧ v = nI x) := by
  by_cases h : v < 0
  · exact Or.inl ⟨h, h⟩
  · by_cases h2 : v ≤ 7
    · obtain ⟨j, hj, rfl⟩ : ∃ j : Nat, j ≤ 7 ∧ v = nI j := nI_of2 (M := 7) (n := 7) (by decide) h h2
      exact Or.inr (Or.inr ⟨h, h2, Int32.not_lt.mpr h2, j, by omega, rfl⟩)
    · exact Or.inr (Or.inl ⟨h, h2, Int32.not_le.mp h2⟩)
def aDes (de : Nat) (v : Int32) : Int32 := if v < 0 then -2 else if v ≤ 7 then nI de else -2
def sDes (de : Nat) (v : Int32) : Nat := if v < 0 then de else if v ≤ 7 then v.toNatClampNeg else de
theorem c_setDes {m : qM} {tb : Nat → Nat} {de : Nat} (hX : XS (qK m) (qN m) (qR m)) (hx : CMx (qI m) tb de) (v : Int32) : ∃ m2, fX9_setDesignated NF 0 v m = some (aDes de v, m2) ∧ CMx (qI m2) tb (sDes de v) ∧ Fx dMc m m2 := by
  unfold fX9_setDesignated aDes sDes
  rcases i7 v with ⟨h, -⟩ | ⟨h1, h2, h3⟩ | ⟨h1, h2, h3, j, hj, rfl⟩
  · exact ⟨m, by simp only [h, ↓reduceIte], by simp only [h, ↓reduceIte]; exact hx, Fx.rf⟩
  · exact ⟨m, by simp only [h1, h2, ↓reduceIte], by simp only [h1, h2, ↓reduceIte]; exact hx, Fx.rf⟩
  simp only [h1, h2, ↓reduceIte]
  obtain ⟨k0, r0, k1, r1, k2, n2⟩ := hX.mx
  obtain ⟨t1, t2, t3⟩ := hx
  have c1 : (nI j).toNatClampNeg = j := nI_clamp (by omega)
  rw [c1]
  refine ⟨qsI m 389 3 (nI j), ?_, ⟨by simp only [qS, ↓reduceIte], hj, fun i hi => ?_⟩, Fx.sI (D := dMc) Fx.rf (Or.inl rfl)⟩
  · simp (disch := first | assumption | omega) only [fX4_replaceDesignated, qP, qChk_, Option.bind_some, r0, t1]
  · have e : ¬ (390 : Nat) = 389 := by decide
    simp only [qS, e, ↓reduceIte]; exact t3 i hi
theorem m_setDes {m : qM} {tb : Nat → Nat} {de : Nat} (hM : MS (qK m) (qN m) (qR m)) (hx : MMx (qI m) tb de) (v : Int32) : ∃ m2, fX10_setDesignated NF 433 v m = some (aDes de v, m2) ∧ MMx (qI m2) tb (sDes de v) ∧ Fx dMm m m2 := by
  unfold fX10_setDesignated aDes sDes
  rw [fX10_in_eq]
  simp only [Option.bind_some]
  rcases i7 v with ⟨h, -⟩ | ⟨h1, h2, h3⟩ | ⟨h1, h2, h3, j, hj, rfl⟩
  · exact ⟨m, by simp only [h, ↓reduceIte], by simp only [h, ↓reduceIte]; exact hx, Fx.rf⟩
  · exact ⟨m, by simp only [h1, h2, h3, ↓reduceIte], by simp only [h1, h2, ↓reduceIte]; exact hx, Fx.rf⟩
  have h10 : ¬ (1 : Int32) = 0 := by decide
  simp only [h1, h2, h3, ↓reduceIte, h10]
  obtain ⟨k0, r1, k2, n2⟩ := hM.mx
  obtain ⟨t1, t2, t3⟩ := hx
  have c1 : (nI j).toNatClampNeg = j := nI_clamp (by omega)
  rw [c1]
  refine ⟨qsI m 433 13 (nI j), ?_, ⟨by simp only [qS, ↓reduceIte], hj, fun i hi => ?_⟩, Fx.sI (D := dMm) Fx.rf (Or.inl rfl)⟩
  · simp (disch := first | assumption | omega) only [qP, qChk_, Option.bind_some, t1]
  · have e : ¬ (441 : Nat) = 433 := by decide
    simp only [qS, e, ↓reduceIte]; exact t3 i hi
-- ===== isNormal =====
def dg (de : Nat) (v : Int32) : Int32 := if (nI de >>> (v &&& 31)) &&& (1 : Int32) = (1 : Int32) then 1 else 0
def inF (tb : Nat → Nat) (de x : Nat) : Nat → Nat → Bool
  | 0, _ => true
  | k + 1, y => if dg de (nI x) = 0 then inF tb de x k (y + 1) else if dg de (nI (tb (3 * x + y))) = 0 then inF tb de x k (y + 1) else if dg de (nI y) = 0 then false else inF tb de x k (y + 1)
def ouF (tb : Nat → Nat) (de : Nat) : Nat → Nat → Bool
  | 0, _ => true
  | k + 1, x => if inF tb de x 3 0 = true then ouF tb de k (x + 1) else false
theorem c_dg {m : qM} {tb : Nat → Nat} {de : Nat} (hX : XS (qK m) (qN m) (qR m)) (hx : CMx (qI m) tb de) (v : Int32) : fX4_isDesignated NF 389 v m = some (dg de v, m) := by
  obtain ⟨k0, r0, k1, r1, k2, n2⟩ := hX.mx
  unfold fX4_isDesignated dg
  simp (disch := first | assumption | omega) only [qP, Option.bind_some, hx.1]
  by_cases h : (nI de >>> (v &&& 31)) &&& (1 : Int32) = (1 : Int32)
  · rw [if_pos h, if_pos h]
  · rw [if_neg h, if_neg h]
theorem c_in {m : qM} {tb : Nat → Nat} {de : Nat} (hX : XS (qK m) (qN m) (qR m)) (hx : CMx (qI m) tb de) {x : Nat} (hx3 : x < 3) : ∀ (n k y : Nat), y + k = 3 → k < n → lX4_keepsDesignation_9 NF 389 (nI x) n (nI y) m = some (if inF tb de x k y = true then .inl m else .inr (0, m)) := by
  obtain ⟨k0, r0, k1, r1, k2, n2⟩ := hX.mx
  have hd := c_dg hX hx
  intro n
  induction n with
  | zero => intro k y _ h; omega
  | succ n ih =>
    intro k y hy hk
    unfold lX4_keepsDesignation_9 kX4_keepsDesignation_49
    cases k with
    | zero =>
      have h3 : 3 ≤ y := by omega
      simp (disch := first | assumption | omega) only [lits, nA, h3, inF, ↓reduceIte]
    | succ k =>
      have h3 : ¬ 3 ≤ y := by omega
      have hb : 3 * x + y < qN m 390 := by omega
      have ht := (hx.2.2 (3 * x + y) (by omega)).1
      have ih1 := ih k (y + 1) (by omega) (by omega)
      simp (disch := first | assumption | omega) only [lits, nA, h3, ↓reduceIte, qP, qChk_, hd, Option.bind_some, r1, ht, inF, ih1]
      have h00 : nI 0 = 0 := rfl
      simp only [h00]
      by_cases e1 : dg de (nI x) = 0
      · simp only [e1, ↓reduceIte]
      · by_cases e2 : dg de (nI (tb (3 * x + y))) = 0
        · simp only [e1, e2, ↓reduceIte]
        · by_cases e3 : dg de (nI y) = 0
          · simp [e1, e2, e3]
          · simp only [e1, e2, e3, ↓reduceIte]
theorem c_ou {m : qM} {tb : Nat → Nat} {de : Nat} (hX : XS (qK m) (qN m) (qR m)) (hx : CMx (qI m) tb de) : ∀ (n k x : Nat), x + k = 3 → k < n → lX4_keepsDesignation_2 NF 389 n (nI x) m = some (if ouF tb de k x = true then .inl m else .inr (0, m)) := by
  intro n
  induction n with
  | zero => intro k y _ h; omega
  | succ n ih =>
    intro k x hy hk
    unfold lX4_keepsDesignation_2
    cases k with
    | zero =>
      have h3 : 3 ≤ x := by omega
      simp (disch := first | assumption | omega) only [lits, nA, h3, ouF, ↓reduceIte]
    | succ k =>
      have h3 : ¬ 3 ≤ x := by omega
      have ih1 := ih k (x + 1) (by omega) (by omega)
      have hin := c_in hX hx (show x < 3 by omega) NF 3 0 (by omega) (by unfold NF; omega)
      simp (disch := first | assumption | omega) only [lits, nA, h3, ↓reduceIte, hin, qTh, ouF, Option.bind_some]
      by_cases e : inF tb de x 3 0 = true
      · simp only [e, ↓reduceIte]; exact ih1
      · simp [e]
theorem m_dg {m : qM} {tb : Nat → Nat} {de : Nat} (hM : MS (qK m) (qN m) (qR m)) (hx : MMx (qI m) tb de) (v : Int32) : fX10_isDesignated NF 433 v m = some (dg de v, m) := by
  obtain ⟨k1, r1, k2, n2⟩ := hM.mx
  unfold fX10_isDesignated dg
  simp (disch := first | assumption | omega) only [qP, Option.bind_some, hx.1]
  by_cases h : (nI de >>> (v &&& 31)) &&& (1 : Int32) = (1 : Int32)
  · rw [if_pos h, if_pos h]
  · rw [if_neg h, if_neg h]
theorem m_in {m : qM} {tb : Nat → Nat} {de : Nat} (hM : MS (qK m) (qN m) (qR m)) (hx : MMx (qI m) tb de) {x : Nat} (hx3 : x < 3) : ∀ (n k y : Nat), y + k = 3 → k < n → lX10_isNormal_9 NF 433 (nI x) n (nI y) m = some (if inF tb de x k y = true then .inl m else .inr (0, m)) := by
  obtain ⟨k1, r1, k2, n2⟩ := hM.mx
  have hd := m_dg hM hx
  intro n
  induction n with
  | zero => intro k y _ h; omega
  | succ n ih =>
    intro k y hy hk
    unfold lX10_isNormal_9 kX10_isNormal_49
    cases k with
    | zero =>
      have h3 : 3 ≤ y := by omega
      simp (disch := first | assumption | omega) only [lits, nA, h3, inF, ↓reduceIte]
    | succ k =>
      have h3 : ¬ 3 ≤ y := by omega
      have hb : 3 * x + y < qN m 441 := by omega
      have ht := (hx.2.2 (3 * x + y) (by omega)).1
      have ih1 := ih k (y + 1) (by omega) (by omega)
      simp (disch := first | assumption | omega) only [lits, nA, h3, ↓reduceIte, qP, qChk_, hd, Option.bind_some, r1, ht, inF, ih1]
      have h00 : nI 0 = 0 := rfl
      simp only [h00]
      by_cases e1 : dg de (nI x) = 0
      · simp only [e1, ↓reduceIte]
      · by_cases e2 : dg de (nI (tb (3 * x + y))) = 0
        · simp only [e1, e2, ↓reduceIte]
        · by_cases e3 : dg de (nI y) = 0
          · simp [e1, e2, e3]
          · simp only [e1, e2, e3, ↓reduceIte]
theorem m_ou {m : qM} {tb : Nat → Nat} {de : Nat} (hM : MS (qK m) (qN m) (qR m)) (hx : MMx (qI m) tb de) : ∀ (n k x : Nat), x + k = 3 → k < n → lX10_isNormal_2 NF 433 n (nI x) m = some (if ouF tb de k x = true then .inl m else .inr (0, m)) := by
  intro n
  induction n with
  | zero => intro k y _ h; omega
  | succ n ih =>
    intro k x hy hk
    unfold lX10_isNormal_2
    cases k with
    | zero =>
      have h3 : 3 ≤ x := by omega
      simp (disch := first | assumption | omega) only [lits, nA, h3, ouF, ↓reduceIte]
    | succ k =>
      have h3 : ¬ 3 ≤ x := by omega
      have ih1 := ih k (x + 1) (by omega) (by omega)
      have hin := m_in hM hx (show x < 3 by omega) NF 3 0 (by omega) (by unfold NF; omega)
      simp (disch := first | assumption | omega) only [lits, nA, h3, ↓reduceIte, hin, qTh, ouF, Option.bind_some]
      by_cases e : inF tb de x 3 0 = true
      · simp only [e, ↓reduceIte]; exact ih1
      · simp [e]
def aNor (tb : Nat → Nat) (de : Nat) : Int32 := if ouF tb de 3 0 = true then 1 else 0
theorem c_isNormal {m : qM} {tb : Nat → Nat} {de : Nat} (hX : XS (qK m) (qN m) (qR m)) (hx : CMx (qI m) tb de) : fX9_isNormal NF 0 m = some (aNor tb de, m) := by
  obtain ⟨k0, r0, k1, r1, k2, n2⟩ := hX.mx
  have h := c_ou hX hx NF 3 0 (by omega) (by unfold NF; omega)
  have h' : lX4_keepsDesignation_2 NF 389 NF 0 m = some (if ouF tb de 3 0 = true then .inl m else .inr (0, m)) := h
  unfold fX9_isNormal fX4_keepsDesignation aNor
  by_cases e : ouF tb de 3 0 = true
  · have h10 : ¬ (1 : Int32) = 0 := by decide
    simp (disch := first | assumption | omega) only [qP, qChk_, Option.bind_some, r0, h', qTh, e, ↓reduceIte, h10]
  · simp (disch := first | assumption | omega) only [qP, qChk_, Option.bind_some, r0, h', qTh, e]
    rfl
theorem m_isNormal {m : qM} {tb : Nat → Nat} {de : Nat} (hM : MS (qK m) (qN m) (qR m)) (hx : MMx (qI m) tb de) : fX10_isNormal NF 433 m = some (aNor tb de, m) := by
  have h := m_ou hM hx NF 3 0 (by omega) (by unfold NF; omega)
  have h' : lX10_isNormal_2 NF 433 NF 0 m = some (if ouF tb de 3 0 = true then .inl m else .inr (0, m)) := h
  unfold fX10_isNormal aNor
  by_cases e : ouF tb de 3 0 = true
  · simp only [Option.bind_some, h', qTh, e, ↓reduceIte]
  · simp only [Option.bind_some, h', qTh, e]
    rfl
