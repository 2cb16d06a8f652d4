theorem subI {a b : Nat} (ha : a < 2 ^ 31) (hb : b < 2 ^ 31) : (nI a - nI b).toInt = (a : Int) - b := by
  rw [Int32.toInt_sub, nI_toInt ha, nI_toInt hb]
  exact Int.bmod_eq_of_le (by omega) (by omega)
/-- index i and count c lie in a row of len -/
def spOK (len : Nat) (i c : Int32) : Prop := ∃ a q : Nat, i = nI a ∧ c = nI q ∧ a + q ≤ len
theorem spans_yes {N o len a q : Nat} {m : qM} (hK : qK m o = 5) (hI : qI m o 2 = nI len) (hl : len ≤ 80) (h : a + q ≤ len) : fX5_spans N o (nI a) (nI q) m = some (1, m) := by
  unfold fX5_spans
  have h1 : ¬ nI a < 0 := nI_pos (by omega)
  have h2 : ¬ nI q < 0 := nI_pos (by omega)
  have h3 : ¬ nI len - nI q < nI a := by
    rw [Int32.lt_iff_toInt_lt, subI (by omega) (by omega), nI_toInt (by omega)]; omega
  simp (disch := first | assumption | omega) only [h1, h2, h3, ↓reduceIte, qP, hI, Option.bind_some]
theorem spans_no {N o len : Nat} {i c : Int32} {m : qM} (hK : qK m o = 5) (hI : qI m o 2 = nI len) (hl : len ≤ 80) (h : ¬ spOK len i c) : fX5_spans N o i c m = some (0, m) := by
  unfold fX5_spans
  by_cases h1 : i < 0
  · simp only [h1, ↓reduceIte]
  by_cases h2 : c < 0
  · simp only [h1, h2, ↓reduceIte]
  obtain ⟨a, ha, rfl⟩ := nI_of h1
  obtain ⟨q, hq, rfl⟩ := nI_of h2
  have h3 : nI len - nI q < nI a := by
    rw [Int32.lt_iff_toInt_lt, subI (by omega) hq, nI_toInt ha]
    have : ¬ a + q ≤ len := fun z => h ⟨a, q, rfl, rfl, z⟩
    omega
  simp (disch := first | assumption | omega) only [h1, h2, h3, ↓reduceIte, qP, hI, Option.bind_some]
theorem in_yes {N len a : Nat} {m : qM} (hl : len ≤ 80) (h : a + 1 ≤ len) : fX10_in N (nI a) 0 (nI len - 1) m = some (1, m) := by
  rw [fX10_in_eq]
  have h1 : ¬ nI a < 0 := nI_pos (by omega)
  have h2 : ¬ nI len - 1 < nI a := by
    show ¬ nI len - nI 1 < nI a
    rw [Int32.lt_iff_toInt_lt, subI (by omega) (by omega), nI_toInt (by omega)]; omega
  simp only [h1, h2, ↓reduceIte]
theorem in_no {N len : Nat} {i : Int32} {m : qM} (hl : len ≤ 80) (h : ¬ spOK len i 1) : fX10_in N i 0 (nI len - 1) m = some (0, m) := by
  rw [fX10_in_eq]
  by_cases h1 : i < 0
  · simp only [h1, ↓reduceIte]
  obtain ⟨a, ha, rfl⟩ := nI_of h1
  have h2 : nI len - 1 < nI a := by
    show nI len - nI 1 < nI a
    rw [Int32.lt_iff_toInt_lt, subI (by omega) (by omega), nI_toInt ha]
    have : ¬ a + 1 ≤ len := fun z => h ⟨a, 1, rfl, rfl, z⟩
    omega
  simp only [h1, h2, ↓reduceIte]
def CRs (I : Nat → Nat → Int32) (ro : Nat → rowT) : Prop := ∀ j, j < 3 → CRw I j (ro j)
def MRs (I : Nat → Nat → Int32) (ro : Nat → rowT) : Prop := ∀ j, j < 3 → MRw I j (ro j)
def dRc (a : Nat) : Prop := 402 ≤ a ∧ a < 408
def dRm (a : Nat) : Prop := 443 ≤ a ∧ a ≤ 445
def rset (ro : Nat → rowT) (j : Nat) (x : rowT) : Nat → rowT := fun k => if k = j then x else ro k
def elset (el : Nat → Int32) (i : Nat) (v : Int32) : Nat → Int32 := fun k => if k = i then v else el k
theorem set_eq {N o a ty i : Nat} {v : Int32} {m : qM} (hK : qK m o = 5) (hR : qR m o 0 = some a) (hKa : qK m a = 12) (hN : qN m a = 80) (hI : qI m o 1 = nI ty) (hty : ty < 3) (hi : i < 80) : fX5_set N o (nI i) v m = some (qsI m a i (stv ty v)) := by
  unfold fX5_set stv
  have hb : i < qN m a := by omega
  by_cases h0 : ty = 0
  · subst h0
    simp (disch := first | assumption | omega) only [↓reduceIte, qP, hI, hR, Option.bind_some, lits]
  by_cases h1 : ty = 1
  · subst h1
    have e0 : ¬ (1 : Nat) = 0 := by decide
    simp (disch := first | assumption | omega) only [↓reduceIte, qP, hI, hR, Option.bind_some, lits, nA, e0]
  · simp (disch := first | assumption | omega) only [↓reduceIte, qP, hI, hR, Option.bind_some, lits, nA, h0, h1]
theorem msets_eq {N j ty i : Nat} {v : Int32} {m : qM} (hM : MS (qK m) (qN m) (qR m)) (hj : j < 3) (hI : qI m 443 j = nI ty) (hty : ty < 3) (hi : i < 80) : fX10_sets N 433 (nI j) (nI i) v m = some (qsI m 445 (80 * j + i) (stv ty v)) := by
  obtain ⟨k0, r15, r16, r17, k3, k4, k5, n3, n4, n5⟩ := hM.rw
  unfold fX10_sets stv kX10_sets_40
  have hb : j < qN m 443 := by omega
  have hb2 : 80 * j + i < qN m 445 := by omega
  by_cases h0 : ty = 0
  · subst h0
    simp (disch := first | assumption | omega) only [↓reduceIte, qP, hI, r15, r17, Option.bind_some, lits, nA]
  by_cases h1 : ty = 1
  · subst h1
    have e0 : ¬ (1 : Nat) = 0 := by decide
    simp (disch := first | assumption | omega) only [↓reduceIte, qP, hI, r15, r17, Option.bind_some, lits, nA, e0]
  · simp (disch := first | assumption | omega) only [↓reduceIte, qP, hI, r15, r17, Option.bind_some, lits, nA, h0, h1]
/-- put: what it answers and what the rows are then -/
def okPut (ro : Nat → rowT) (r i : Int32) : Prop := ∃ (j a ty len : Nat) (el : Nat → Int32), j < 3 ∧ r = nI j ∧ ro j = some (ty, len, el) ∧ i = nI a ∧ a + 1 ≤ len
def PutR (ro : Nat → rowT) (r i v : Int32) (b : Int32) (ro2 : Nat → rowT) : Prop :=
  (¬ aLk ro r = 0 ∧ b = aLk ro r ∧ ro2 = ro) ∨ (∃ (j ty len : Nat) (el : Nat → Int32), j < 3 ∧ r = nI j ∧ ro j = some (ty, len, el) ∧ ((¬ spOK len i 1 ∧ b = -8 ∧ ro2 = ro) ∨ (∃ a, i = nI a ∧ a + 1 ≤ len ∧ b = 1 ∧ ro2 = rset ro j (some (ty, len, elset el a (stv ty v))))))
theorem aLk_cases (ro : Nat → rowT) (r : Int32) : (¬ aLk ro r = 0 ∧ aLk ro r < 0) ∨ (aLk ro r = 0 ∧ ∃ (j ty len : Nat) (el : Nat → Int32), j < 3 ∧ r = nI j ∧ ro j = some (ty, len, el)) := by
  unfold aLk
  rcases i3 r with ⟨h, -⟩ | ⟨h1, h2, -⟩ | ⟨h1, h2, -, j, hj, rfl⟩
  · simp only [h, ↓reduceIte]; exact Or.inl (by decide)
  · simp only [h1, h2, ↓reduceIte]; exact Or.inl (by decide)
  · simp only [h1, h2, ↓reduceIte]
    rw [nI_clamp (by omega)]
    cases hx : ro j with
    | none => exact Or.inl (by decide)
    | some x => obtain ⟨ty, len, el⟩ := x; exact Or.inr ⟨rfl, j, ty, len, el, hj, rfl, hx⟩
theorem c_put {m : qM} {ro : Nat → rowT} (hX : XS (qK m) (qN m) (qR m)) (hr : CRs (qI m) ro) (r i v : Int32) : ∃ m2 b ro2, fX9_put NF 0 r i v m = some (b, m2) ∧ PutR ro r i v b ro2 ∧ CRs (qI m2) ro2 ∧ Fx dRc m m2 := by
  have k0 : qK m 0 = 9 := hX.1.1
  have hf := c_fault hX hr r
  unfold fX9_put
  rw [qChk_ _ _ _ _ k0, hf]
  simp only [Option.bind_some]
  rcases aLk_cases ro r with ⟨h0, -⟩ | ⟨h0, j, ty, len, el, hj, rfl, hx⟩
  · exact ⟨m, _, ro, by simp only [h0, ↓reduceIte], Or.inl ⟨h0, rfl, rfl⟩, hr, Fx.rf⟩
  simp only [h0, ↓reduceIte]
  obtain ⟨k1, r1, k2, n2, ra⟩ := hX.rw hj
  obtain ⟨-, r0, ka, na⟩ := hX.rwA
  have hb : j < qN m 401 := by omega
  have hj2 := hr j hj
  rw [hx] at hj2
  obtain ⟨w1, w2, w3, w4, w5⟩ := hj2
  by_cases hs : spOK len i 1
  · obtain ⟨a, q, rfl, hq, haq⟩ := hs
    have hq1 : q = 1 := by
      rcases Nat.lt_or_ge q (2 ^ 31) with hl | hl
      · have : nI 1 = nI q := hq
        exact ((nI_eq (by omega) hl).mp this).symm
      · omega
    subst hq1
    have hsp := spans_yes (N := NF) k1 w3 w4 haq
    have hset := set_eq (N := NF) (v := v) k1 r1 k2 n2 w1 w2 (show a < 80 by omega)
    have h10 : ¬ (1 : Int32) = 0 := by decide
    refine ⟨qsI m (402 + 2 * j + 1) a (stv ty v), 1, _, ?_, Or.inr ⟨j, ty, len, el, hj, rfl, hx, Or.inr ⟨a, rfl, haq, rfl, rfl⟩⟩, ?_, Fx.sI (D := dRc) Fx.rf ⟨by omega, by omega⟩⟩
    · have hsp' : fX5_spans NF (402 + 2 * j) (nI a) 1 m = some (1, m) := hsp
      simp (disch := first | assumption | omega) only [qP, qChk_, Option.bind_some, r0, ra, hsp', hset, h10, ↓reduceIte]
    · intro k hk
      unfold rset
      by_cases hkj : k = j
      · subst hkj
        rw [if_pos rfl]
        have e3 : ¬ 402 + 2 * k = 402 + 2 * k + 1 := by omega
        refine ⟨by simp only [qS, e3, ↓reduceIte]; exact w1, w2, by simp only [qS, e3, ↓reduceIte]; exact w3, w4, fun z hz => ?_⟩
        simp only [qS, ↓reduceIte, elset]
        by_cases hza : z = a
        · rw [if_pos hza, if_pos hza]
        · rw [if_neg hza, if_neg hza]; exact w5 z hz
      · rw [if_neg hkj]
        have h := hr k hk
        unfold CRw at h ⊢
        have e3 : ¬ 402 + 2 * k = 402 + 2 * j + 1 := by omega
        have e4 : ¬ 402 + 2 * k + 1 = 402 + 2 * j + 1 := by omega
        simp only [qS, e3, e4, ↓reduceIte]
        exact h
  · have hsp := spans_no (N := NF) k1 w3 w4 hs
    refine ⟨m, -8, ro, ?_, Or.inr ⟨j, ty, len, el, hj, rfl, hx, Or.inl ⟨hs, rfl, rfl⟩⟩, hr, Fx.rf⟩
    simp (disch := first | assumption | omega) only [qP, qChk_, Option.bind_some, r0, ra, hsp, ↓reduceIte]
theorem m_put {m : qM} {ro : Nat → rowT} (hM : MS (qK m) (qN m) (qR m)) (hr : MRs (qI m) ro) (r i v : Int32) : ∃ m2 b ro2, fX10_put NF 433 r i v m = some (b, m2) ∧ PutR ro r i v b ro2 ∧ MRs (qI m2) ro2 ∧ Fx dRm m m2 := by
  obtain ⟨k0, r15, r16, r17, k3, k4, k5, n3, n4, n5⟩ := hM.rw
  have hf := m_lacks hM hr r
  unfold fX10_put
  rw [qChk_ _ _ _ _ k0, hf]
  simp only [Option.bind_some]
  rcases aLk_cases ro r with ⟨h0, h9⟩ | ⟨h0, j, ty, len, el, hj, rfl, hx⟩
  · have h9' : ¬ (0 : Int32) ≤ aLk ro r := Int32.not_le.mpr h9
    exact ⟨m, _, ro, by simp only [h9', ↓reduceIte], Or.inl ⟨h0, rfl, rfl⟩, hr, Fx.rf⟩
  have h00 : (0 : Int32) ≤ 0 := by decide
  simp only [h0, h00, ↓reduceIte]
  have hb : j < qN m 444 := by omega
  have hj2 := hr j hj
  rw [hx] at hj2
  obtain ⟨w1, w2, w3, w4, w5⟩ := hj2
  by_cases hs : spOK len i 1
  · obtain ⟨a, q, rfl, hq, haq⟩ := hs
    have hq1 : q = 1 := by
      rcases Nat.lt_or_ge q (2 ^ 31) with hl | hl
      · have : nI 1 = nI q := hq
        exact ((nI_eq (by omega) hl).mp this).symm
      · omega
    subst hq1
    have hin := in_yes (N := NF) (m := m) w4 haq
    have hset := msets_eq (N := NF) (v := v) hM hj w1 w2 (show a < 80 by omega)
    have h10 : ¬ (1 : Int32) = 0 := by decide
    refine ⟨qsI m 445 (80 * j + a) (stv ty v), 1, _, ?_, Or.inr ⟨j, ty, len, el, hj, rfl, hx, Or.inr ⟨a, rfl, haq, rfl, rfl⟩⟩, ?_, Fx.sI (D := dRm) Fx.rf ⟨by omega, by omega⟩⟩
    · simp (disch := first | assumption | omega) only [qP, qChk_, Option.bind_some, r16, w3, hin, hset, h10, ↓reduceIte]
    · intro k hk
      unfold rset
      have e3 : ¬ (443 : Nat) = 445 := by decide
      have e4 : ¬ (444 : Nat) = 445 := by decide
      by_cases hkj : k = j
      · subst hkj
        rw [if_pos rfl]
        refine ⟨by simp only [qS, e3, ↓reduceIte]; exact w1, w2, by simp only [qS, e4, ↓reduceIte]; exact w3, w4, fun z hz => ?_⟩
        simp only [qS, ↓reduceIte, elset]
        by_cases hza : z = a
        · rw [if_pos hza, if_pos (by omega)]
        · rw [if_neg hza, if_neg (by omega)]; exact w5 z hz
      · rw [if_neg hkj]
        have h := hr k hk
        cases hxk : ro k with
        | none =>
          rw [hxk] at h
          show qI _ 443 k = -1
          simp only [qS, e3, ↓reduceIte]
          exact h
        | some x =>
          obtain ⟨ty2, len2, el2⟩ := x
          rw [hxk] at h
          obtain ⟨v1, v2, v3, v4, v5⟩ := h
          refine ⟨by simp only [qS, e3, ↓reduceIte]; exact v1, v2, by simp only [qS, e4, ↓reduceIte]; exact v3, v4, fun z hz => ?_⟩
          simp only [qS, ↓reduceIte]
          rw [if_neg (by omega)]; exact v5 z hz
  · have hin := in_no (N := NF) (m := m) w4 hs
    refine ⟨m, -8, ro, ?_, Or.inr ⟨j, ty, len, el, hj, rfl, hx, Or.inl ⟨hs, rfl, rfl⟩⟩, hr, Fx.rf⟩
    simp (disch := first | assumption | omega) only [qP, qChk_, Option.bind_some, r16, w3, hin, ↓reduceIte]
