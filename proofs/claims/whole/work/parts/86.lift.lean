section
-- ===== the small operations on the whole state =====
theorem m_setEntry2 {m : qM} {tb : Nat → Nat} {de : Nat} (hM : MS (qK m) (qN m) (qR m)) (hx : MMx (qI m) tb de) (x y v : Int32) : ∃ m2, fX10_setEntry NF 433 x y v m = some (aSet tb x y v, m2) ∧ MMx (qI m2) (sSet tb x y v) de ∧ Fx dMm m m2 ∧ (∀ j, j ≠ 13 → qI m2 433 j = qI m 433 j) := by
  unfold fX10_setEntry aSet sSet
  simp only [isVal_eq, Option.bind_some]
  rcases b3_cases x with hx0 | ⟨hx1, x, hx3, rfl⟩
  · exact ⟨m, by simp only [hx0, ↓reduceIte], by simp only [hx0, ↓reduceIte]; exact hx, Fx.rf, fun _ _ => rfl⟩
  have h10 : ¬ (1 : Int32) = 0 := by decide
  simp only [hx1, h10, ↓reduceIte]
  rcases b3_cases y with hy0 | ⟨hy1, y, hy3, rfl⟩
  · exact ⟨m, by simp only [hy0, ↓reduceIte], by simp only [hy0, ↓reduceIte]; exact hx, Fx.rf, fun _ _ => rfl⟩
  simp only [hy1, h10, ↓reduceIte]
  rcases b3_cases v with hv0 | ⟨hv1, v, hv3, rfl⟩
  · exact ⟨m, by simp only [hv0, ↓reduceIte], by simp only [hv0, ↓reduceIte]; exact hx, Fx.rf, fun _ _ => rfl⟩
  simp only [hv1, h10, ↓reduceIte]
  obtain ⟨k0, r1, k2, n2⟩ := hM.mx
  obtain ⟨t1, t2, t3⟩ := hx
  have c1 : (nI x).toNatClampNeg = x := nI_clamp (by omega)
  have c2 : (nI y).toNatClampNeg = y := nI_clamp (by omega)
  have c3 : (nI v).toNatClampNeg = v := nI_clamp (by omega)
  rw [c1, c2, c3]
  have hb : 3 * x + y < qN m 441 := by omega
  have e3 : (3 : Int32) * nI x + nI y = nI (3 * x + y) := by
    show nI 3 * nI x + nI y = _
    rw [pk_mul, nI_add]
  have ht := (t3 (3 * x + y) (by omega)).1
  refine ⟨qsI m 441 (3 * x + y) (nI v), ?_, ⟨?_, t2, fun i hi => ?_⟩, Fx.sI (D := dMm) Fx.rf (Or.inr rfl), fun j hj => by simp [qS]⟩
  · simp (disch := first | assumption | omega) only [qP, qChk_, Option.bind_some, r1, e3, ht]
  · have e : ¬ (433 : Nat) = 441 := by decide
    simp only [qS, e, ↓reduceIte]; exact t1
  · simp only [qS, ↓reduceIte]
    by_cases h : i = 3 * x + y
    · rw [if_pos h, if_pos h]; exact ⟨rfl, hv3⟩
    · rw [if_neg h, if_neg h]; exact t3 i hi
theorem m_setDes2 {m : qM} {tb : Nat → Nat} {de : Nat} (hM : MS (qK m) (qN m) (qR m)) (hx : MMx (qI m) tb de) (v : Int32) : ∃ m2, fX10_setDesignated NF 433 v m = some (aDes de v, m2) ∧ MMx (qI m2) tb (sDes de v) ∧ Fx dMm m m2 ∧ (∀ j, j ≠ 13 → qI m2 433 j = qI m 433 j) := by
  unfold fX10_setDesignated aDes sDes
  rw [fX10_in_eq]
  simp only [Option.bind_some]
  rcases i7 v with ⟨h, -⟩ | ⟨h1, h2, h3⟩ | ⟨h1, h2, h3, j, hj, rfl⟩
  · exact ⟨m, by simp only [h, ↓reduceIte], by simp only [h, ↓reduceIte]; exact hx, Fx.rf, fun _ _ => rfl⟩
  · exact ⟨m, by simp only [h1, h2, h3, ↓reduceIte], by simp only [h1, h2, ↓reduceIte]; exact hx, Fx.rf, fun _ _ => rfl⟩
  have h10 : ¬ (1 : Int32) = 0 := by decide
  simp only [h1, h2, h3, ↓reduceIte, h10]
  obtain ⟨k0, r1, k2, n2⟩ := hM.mx
  obtain ⟨t1, t2, t3⟩ := hx
  have c1 : (nI j).toNatClampNeg = j := nI_clamp (by omega)
  rw [c1]
  refine ⟨qsI m 433 13 (nI j), ?_, ⟨by simp only [qS, ↓reduceIte], hj, fun i hi => ?_⟩, Fx.sI (D := dMm) Fx.rf (Or.inl rfl), fun j hj => by simp [qS, hj]⟩
  · simp (disch := first | assumption | omega) only [qP, qChk_, Option.bind_some, t1]
  · have e : ¬ (441 : Nat) = 433 := by decide
    simp only [qS, e, ↓reduceIte]; exact t3 i hi
theorem m_clear2 {m : qM} {tx : List Nat} (hM : MS (qK m) (qN m) (qR m)) (hT : MTx (qI m) tx) : ∃ m2, fX10_clearText NF 433 m = some (nI tx.length, m2) ∧ MTx (qI m2) [] ∧ Fx (fun a => a = 433 ∨ a = 439) m m2 ∧ (∀ j, j ≠ 7 → qI m2 433 j = qI m 433 j) := by
  have k0 : qK m 433 = 10 := hM.1.1
  obtain ⟨t1, t2, t3⟩ := hT
  refine ⟨qsI m 433 7 0, ?_, ⟨by simp [qS]; rfl, by simp, fun i hi => by simp at hi⟩, Fx.rf.sI (Or.inl rfl), fun j hj => by simp [qS, hj]⟩
  unfold fX10_clearText
  simp (disch := first | assumption | omega | (simp only [qS]; assumption)) only [qP, qS, Option.bind_some, t1]

theorem CP_mx {m m2 : qM} {s : ST} {tb : Nat → Nat} {de : Nat} (h : CP m s) (hn : sN s ≤ 60) (f : Fx dMc m m2) (hM : CMx (qI m2) tb de) : CP m2 (wDe (wTb s tb) de) := by
  obtain ⟨h1, h2, h3, h4, h5, h6, h7⟩ := h
  have e : ∀ a, (a < 389 ∨ 390 < a) → qI m2 a = qI m a := fun a ha => f.i (by unfold dMc; omega)
  exact ⟨f.X h1, CTx_of (e 1 (by omega)) (e 2 (by omega)) h2, h3, CTx_of (e 3 (by omega)) (e 4 (by omega)) h4, CLs_of h5 hn (fun a _ ha => ⟨e a (by omega), f.l (by unfold dMc; omega)⟩), hM, CRs_of h7 (fun a _ ha => e a (by omega))⟩
theorem MP_mx {m m2 : qM} {s : ST} {tb : Nat → Nat} {de : Nat} (h : MP m s) (f : Fx dMm m m2) (hj : ∀ j, j ≠ 13 → qI m2 433 j = qI m 433 j) (hM : MMx (qI m2) tb de) : MP m2 (wDe (wTb s tb) de) := by
  obtain ⟨q1, q2, q3, q4, q5, q6, q7⟩ := h
  have e : ∀ a, a ≠ 433 → a ≠ 441 → qI m2 a = qI m a := fun a h1 h2 => f.i (by unfold dMm; omega)
  exact ⟨f.M q1, by rw [f.2.2.2.1]; exact q2, MTx_of q3 (hj 7 (by decide)) (e 439 (by omega) (by omega)), MOu_of q4 (hj 11 (by decide)) (e 440 (by omega) (by omega)), MLs_of q5 (fun a ha _ => e a (by omega) (by omega)) (hj 5 (by decide)), hM, MRs_of q7 (fun a ha _ => e a (by omega) (by omega))⟩
def sSe (s : ST) (x y v : Int32) : ST := wDe (wTb s (sSet (sTb s) x y v)) (sDe s)
def sDs (s : ST) (v : Int32) : ST := wDe (wTb s (sTb s)) (sDes (sDe s) v)
theorem cp_setEntry {m : qM} {s : ST} (h : CP m s) (hs : okS s) (x y v : Int32) : ∃ m2, fX9_setEntry NF 0 x y v m = some (aSet (sTb s) x y v, m2) ∧ CP m2 (sSe s x y v) ∧ Gc m m2 := by
  obtain ⟨m2, p1, p2, p3⟩ := c_setEntry h.1 h.2.2.2.2.2.1 x y v
  exact ⟨m2, p1, CP_mx h hs.1.1 p3 p2, p3.mono (fun a ha => by unfold dMc at ha; omega)⟩
theorem mp_setEntry {m : qM} {s : ST} (h : MP m s) (x y v : Int32) : ∃ m2, fX10_setEntry NF 433 x y v m = some (aSet (sTb s) x y v, m2) ∧ MP m2 (sSe s x y v) ∧ Gm m m2 := by
  obtain ⟨m2, p1, p2, p3, p4⟩ := m_setEntry2 h.1 h.2.2.2.2.2.1 x y v
  exact ⟨m2, p1, MP_mx h p3 p4 p2, p3.mono (fun a ha => by unfold dMm at ha; omega)⟩
theorem cp_setDes {m : qM} {s : ST} (h : CP m s) (hs : okS s) (v : Int32) : ∃ m2, fX9_setDesignated NF 0 v m = some (aDes (sDe s) v, m2) ∧ CP m2 (sDs s v) ∧ Gc m m2 := by
  obtain ⟨m2, p1, p2, p3⟩ := c_setDes h.1 h.2.2.2.2.2.1 v
  exact ⟨m2, p1, CP_mx h hs.1.1 p3 p2, p3.mono (fun a ha => by unfold dMc at ha; omega)⟩
theorem mp_setDes {m : qM} {s : ST} (h : MP m s) (v : Int32) : ∃ m2, fX10_setDesignated NF 433 v m = some (aDes (sDe s) v, m2) ∧ MP m2 (sDs s v) ∧ Gm m m2 := by
  obtain ⟨m2, p1, p2, p3, p4⟩ := m_setDes2 h.1 h.2.2.2.2.2.1 v
  exact ⟨m2, p1, MP_mx h p3 p4 p2, p3.mono (fun a ha => by unfold dMm at ha; omega)⟩
theorem cp_isNormal {m : qM} {s : ST} (h : CP m s) : ∃ m2, fX9_isNormal NF 0 m = some (aNor (sTb s) (sDe s), m2) ∧ CP m2 s ∧ Gc m m2 := ⟨m, c_isNormal h.1 h.2.2.2.2.2.1, h, Fx.rf⟩
theorem mp_isNormal {m : qM} {s : ST} (h : MP m s) : ∃ m2, fX10_isNormal NF 433 m = some (aNor (sTb s) (sDe s), m2) ∧ MP m2 s ∧ Gm m m2 := ⟨m, m_isNormal h.1 h.2.2.2.2.2.1, h, Fx.rf⟩
theorem cp_clear {m : qM} {s : ST} (h : CP m s) (hs : okS s) : ∃ m2, fX9_clearText NF 0 m = some (nI (sTx s).length, m2) ∧ CP m2 (wTx s []) ∧ Gc m m2 := by
  obtain ⟨m2, p1, p2, p3⟩ := c_clear h.1 h.2.1
  exact ⟨m2, p1, CP_txt h hs.1.1 p3 p2 (by simp), p3.mono (fun a ha => by omega)⟩
theorem mp_clear {m : qM} {s : ST} (h : MP m s) : ∃ m2, fX10_clearText NF 433 m = some (nI (sTx s).length, m2) ∧ MP m2 (wTx s []) ∧ Gm m m2 := by
  obtain ⟨m2, p1, p2, p3, p4⟩ := m_clear2 h.1 h.2.2.1
  exact ⟨m2, p1, MP_txt h p3 p4 p2, p3.mono (fun a ha => by omega)⟩
theorem ok_clear {s : ST} (h : okS s) : okS (wTx s []) := ⟨h.1, fun c hc => by simp [wTx, sTx] at hc, h.2.2⟩
theorem cp_rowEl {m : qM} {s : ST} (h : CP m s) (r i : Int32) : ∃ m2, fX9_rowElement NF 0 r i m = some (elR (sRo s) r i, m2) ∧ CP m2 s ∧ Gc m m2 := ⟨m, c_rowEl h.1 h.2.2.2.2.2.2 r i, h, Fx.rf⟩
theorem mp_rowEl {m : qM} {s : ST} (h : MP m s) (r i : Int32) : ∃ m2, fX10_rowElement NF 433 r i m = some (elR (sRo s) r i, m2) ∧ MP m2 s ∧ Gm m m2 := ⟨m, m_rowEl h.1 h.2.2.2.2.2.2 r i, h, Fx.rf⟩
/-- put: both sides at once -/
theorem b_put {m : qM} {s : ST} (hc : CP m s) (hm : MP m s) (hs : okS s) (r i v : Int32) : ∃ b s2 m1 m2, fX9_put NF 0 r i v m = some (b, m1) ∧ fX10_put NF 433 r i v m1 = some (b, m2) ∧ CP m2 s2 ∧ MP m2 s2 ∧ okS s2 ∧ qK m1 433 = 10 := by
  obtain ⟨m1, b, ro, p1, p2, p3, p4⟩ := c_put hc.1 hc.2.2.2.2.2.2 r i v
  have g1 : Gc m m1 := p4.mono (fun a ha => by unfold dRc at ha; omega)
  have hc1 := CP_ro hc hs.1.1 p4 p3
  have hm1 := MP_of hm g1
  obtain ⟨m2, b2, ro2, q1, q2, q3, q4⟩ := m_put hm1.1 hm1.2.2.2.2.2.2 r i v
  obtain ⟨e1, e2⟩ := PutR_un (CRs_le hc.2.2.2.2.2.2) p2 q2
  subst e1
  subst e2
  have g2 : Gm m1 m2 := q4.mono (fun a ha => by unfold dRm at ha; omega)
  exact ⟨b, wRo s ro, m1, m2, p1, q1, CP_of hc1 hs.1.1 g2, MP_ro hm1 q4 q3, hs, hm1.1.a.1⟩
theorem b_alloc {m : qM} {s : ST} (hc : CP m s) (hm : MP m s) (hs : okS s) (r t l : Int32) : ∃ b s2 m1 m2, fX9_allocate NF 0 r t l m = some (b, m1) ∧ fX10_allocate NF 433 r t l m1 = some (b, m2) ∧ CP m2 s2 ∧ MP m2 s2 ∧ okS s2 ∧ qK m1 433 = 10 := by
  obtain ⟨m1, p1, p2⟩ := c_allocate hc.1 r t l
  rcases p2 with ⟨n1, rfl⟩ | ⟨j, ty, len, hj, rfl, hty, rfl, hlen, rfl, p3, p4⟩
  · obtain ⟨m2, q1, q2⟩ := m_allocate hm.1 hm.2.2.2.2.2.2 r t l
    rcases q2 with ⟨-, rfl⟩ | ⟨j, ty, len, hj, rfl, hty, rfl, hlen, rfl, q3, q4⟩
    · exact ⟨_, s, _, _, p1, q1, hc, hm, hs, hm.1.a.1⟩
    · refine absurd ⟨nI_pos (by omega), fun z => ?_, nI_pos (by omega), fun z => ?_, (nI_leI (b := 80) (by omega) (by omega)).mpr hlen, nI_g0 (by omega)⟩ n1
      · have := (nI_leI (a := 3) (by omega) (by omega)).mp z; omega
      · have := (nI_ltI (a := 2) (by omega) (by omega)).mp z; omega
  · have f : Fx dRc m m1 := p4.mono (fun a ha => by unfold dRc; omega)
    have hro : CRs (qI m1) (rset (sRo s) j (some (ty, len, fun _ => 0))) := by
      intro k hk
      unfold rset
      by_cases e : k = j
      · rw [if_pos e, e]; exact p3
      · rw [if_neg e]
        have h := hc.2.2.2.2.2.2 k hk
        unfold CRw at h ⊢
        rw [p4.i (show ¬ (402 + 2 * k = 402 + 2 * j ∨ 402 + 2 * k = 402 + 2 * j + 1) by omega), p4.i (show ¬ (402 + 2 * k + 1 = 402 + 2 * j ∨ 402 + 2 * k + 1 = 402 + 2 * j + 1) by omega)]
        exact h
    have hc1 := CP_ro hc hs.1.1 f hro
    have hm1 := MP_of hm (f.mono (fun a ha => by unfold dRc at ha; omega))
    obtain ⟨m2, q1, q2⟩ := m_allocate hm1.1 hm1.2.2.2.2.2.2 (nI j) (nI ty) (nI len)
    rcases q2 with ⟨n1, -⟩ | ⟨j2, ty2, len2, hj2, e1, hty2, e2, hlen2, e3, q3, q4⟩
    · refine absurd ⟨nI_pos (by omega), fun z => ?_, nI_pos (by omega), fun z => ?_, (nI_leI (b := 80) (by omega) (by omega)).mpr hlen, nI_g0 (by omega)⟩ n1
      · have := (nI_leI (a := 3) (by omega) (by omega)).mp z; omega
      · have := (nI_ltI (a := 2) (by omega) (by omega)).mp z; omega
    · have e1' := (nI_eq (by omega) (by omega)).mp e1
      have e2' := (nI_eq (by omega) (by omega)).mp e2
      have e3' := (nI_eq (by omega) (by omega)).mp e3
      subst e1'
      subst e2'
      subst e3'
      exact ⟨_, wRo s (rset (sRo s) j (some (ty, len, fun _ => 0))), m1, m2, p1, q1, CP_of hc1 hs.1.1 (q4.mono (fun a ha => by unfold dRm at ha; omega)), MP_ro hm1 q4 q3, hs, hm1.1.a.1⟩
end
