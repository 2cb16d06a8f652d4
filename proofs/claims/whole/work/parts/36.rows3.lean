theorem aLk_some {ro : Nat → rowT} {j ty len : Nat} {el : Nat → Int32} (hj : j < 3) (h : ro j = some (ty, len, el)) : aLk ro (nI j) = 0 := by
  rcases aLk_cases ro (nI j) with ⟨h1, -⟩ | ⟨h1, -⟩
  · exfalso
    apply h1
    unfold aLk
    rcases i3 (nI j) with ⟨g, -⟩ | ⟨g1, g2, -⟩ | ⟨g1, g2, -, j2, hj2, e⟩
    · exact absurd g (nI_pos (by omega))
    · have : nI 3 ≤ nI j := g2
      rw [nI_leI (by omega) (by omega)] at this; omega
    · simp only [g1, g2, ↓reduceIte]
      rw [nI_clamp (by omega), h]
  · exact h1
theorem row_un {ro : Nat → rowT} {j j2 ty ty2 len len2 : Nat} {el el2 : Nat → Int32} (hj : j < 3) (hj2 : j2 < 3) (e : nI j = nI j2) (h : ro j = some (ty, len, el)) (h2 : ro j2 = some (ty2, len2, el2)) : j = j2 ∧ ty = ty2 ∧ len = len2 ∧ el = el2 := by
  have hjj : j = j2 := (nI_eq (by omega) (by omega)).mp e
  subst hjj
  rw [h] at h2
  simp at h2
  exact ⟨rfl, h2.1, h2.2.1, h2.2.2⟩
theorem PutR_un {ro : Nat → rowT} {r i v b b2 : Int32} {o o2 : Nat → rowT} (hro : ∀ (j ty len : Nat) (el : Nat → Int32), j < 3 → ro j = some (ty, len, el) → len ≤ 80) (h : PutR ro r i v b o) (h2 : PutR ro r i v b2 o2) : b = b2 ∧ o = o2 := by
  rcases h with ⟨h1, rfl, rfl⟩ | ⟨j, ty, len, el, hj, rfl, hx, h⟩
  · rcases h2 with ⟨-, rfl, rfl⟩ | ⟨j, ty, len, el, hj, rfl, hx, -⟩
    · exact ⟨rfl, rfl⟩
    · exact absurd (aLk_some hj hx) h1
  · rcases h2 with ⟨h1, -⟩ | ⟨j2, ty2, len2, el2, hj2, e, hx2, h2⟩
    · exact absurd (aLk_some hj hx) h1
    · obtain ⟨rfl, rfl, rfl, rfl⟩ := row_un hj hj2 e hx hx2
      rcases h with ⟨g1, rfl, rfl⟩ | ⟨a, rfl, ha, rfl, rfl⟩
      · rcases h2 with ⟨-, rfl, rfl⟩ | ⟨a, rfl, ha, rfl, rfl⟩
        · exact ⟨rfl, rfl⟩
        · exact absurd ⟨a, 1, rfl, rfl, ha⟩ g1
      · rcases h2 with ⟨g1, -⟩ | ⟨a2, e2, ha2, rfl, rfl⟩
        · exact absurd ⟨a, 1, rfl, rfl, ha⟩ g1
        · have hl := hro j ty len el hj hx
          have : a = a2 := (nI_eq (by omega) (by omega)).mp e2
          subst this
          exact ⟨rfl, rfl⟩
theorem CRs_le {I : Nat → Nat → Int32} {ro : Nat → rowT} (h : CRs I ro) (j ty len : Nat) (el : Nat → Int32) (hj : j < 3) (hx : ro j = some (ty, len, el)) : len ≤ 80 := by
  have h1 := h j hj
  rw [hx] at h1
  exact h1.2.2.2.1
-- ===== rowElement =====
def elR (ro : Nat → rowT) (r i : Int32) : Int64 := if aLk ro r = 0 then (match ro r.toNatClampNeg with
  | none => -9223372036854775808
  | some (ty, len, el) => if i < 0 then -9223372036854775808 else if i.toNatClampNeg < len then (el i.toNatClampNeg).toInt64 else -9223372036854775808) else -9223372036854775808
theorem sp1_cases {len : Nat} (hl : len ≤ 80) (i : Int32) : (spOK len i 1 ∧ ∃ a, i = nI a ∧ a + 1 ≤ len ∧ ¬ i < 0 ∧ i.toNatClampNeg = a) ∨ (¬ spOK len i 1 ∧ (i < 0 ∨ (¬ i < 0 ∧ ¬ i.toNatClampNeg < len))) := by
  by_cases h : i < 0
  · refine Or.inr ⟨?_, Or.inl h⟩
    rintro ⟨a, q, rfl, -, hq⟩
    exact nI_pos (by omega) h
  · obtain ⟨a, ha, rfl⟩ := nI_of h
    by_cases h2 : a < len
    · exact Or.inl ⟨⟨a, 1, rfl, rfl, h2⟩, a, rfl, h2, h, nI_clamp ha⟩
    · refine Or.inr ⟨?_, Or.inr ⟨h, by rw [nI_clamp ha]; exact h2⟩⟩
      rintro ⟨a2, q, e, e2, hq⟩
      have : a = a2 := (nI_eq ha (by omega)).mp e
      have h1 : nI 1 = nI q := e2
      have : 1 = q := (nI_eq (by omega) (by omega)).mp h1
      omega
theorem c_rowEl {m : qM} {ro : Nat → rowT} (hX : XS (qK m) (qN m) (qR m)) (hr : CRs (qI m) ro) (r i : Int32) : fX9_rowElement NF 0 r i m = some (elR ro r i, m) := by
  have k0 : qK m 0 = 9 := hX.1.1
  have hf := c_fault hX hr r
  unfold fX9_rowElement elR
  rw [qChk_ _ _ _ _ k0, hf]
  simp only [Option.bind_some]
  rcases aLk_cases ro r with ⟨h0, -⟩ | ⟨h0, j, ty, len, el, hj, rfl, hx⟩
  · simp only [h0, ↓reduceIte]
  simp only [h0, ↓reduceIte]
  have hcl : (nI j).toNatClampNeg = j := nI_clamp (by omega)
  obtain ⟨k1, r1, k2, n2, ra⟩ := hX.rw hj
  obtain ⟨-, r0, ka, na⟩ := hX.rwA
  have hb : j < qN m 401 := by omega
  have hj2 := hr j hj
  rw [hcl]
  rw [hx] at hj2 ⊢
  obtain ⟨w1, w2, w3, w4, w5⟩ := hj2
  rcases sp1_cases w4 i with ⟨hs, a, rfl, ha, hi1, hi2⟩ | ⟨hs, hi⟩
  · have hsp : fX5_spans NF (402 + 2 * j) (nI a) 1 m = some (1, m) := spans_yes (N := NF) (q := 1) k1 w3 w4 ha
    have h10 : ¬ (1 : Int32) = 0 := by decide
    have hb2 : a < qN m (402 + 2 * j + 1) := by omega
    have ha2 : a < len := ha
    have hel : qI m (402 + 2 * j + 1) a = el a := w5 a (by omega)
    unfold fX5_at
    simp (disch := first | assumption | omega) only [qP, qChk_, Option.bind_some, r0, ra, r1, hsp, h10, hi1, hi2, ha2, hel, ↓reduceIte]
  · have hsp := spans_no (N := NF) k1 w3 w4 hs
    rcases hi with hi | ⟨hi1, hi2⟩
    · simp (disch := first | assumption | omega) only [qP, qChk_, Option.bind_some, r0, ra, hsp, hi, ↓reduceIte]
    · simp (disch := first | assumption | omega) only [qP, qChk_, Option.bind_some, r0, ra, hsp, hi1, hi2, ↓reduceIte]
theorem m_rowEl {m : qM} {ro : Nat → rowT} (hM : MS (qK m) (qN m) (qR m)) (hr : MRs (qI m) ro) (r i : Int32) : fX10_rowElement NF 433 r i m = some (elR ro r i, m) := by
  obtain ⟨k0, r15, r16, r17, k3, k4, k5, n3, n4, n5⟩ := hM.rw
  have hf := m_lacks hM hr r
  unfold fX10_rowElement elR
  rw [qChk_ _ _ _ _ k0, hf]
  simp only [Option.bind_some]
  rcases aLk_cases ro r with ⟨h0, h9⟩ | ⟨h0, j, ty, len, el, hj, rfl, hx⟩
  · simp only [h0, h9, ↓reduceIte]
  have h00 : ¬ (0 : Int32) < 0 := by decide
  simp only [h0, h00, ↓reduceIte]
  have hcl : (nI j).toNatClampNeg = j := nI_clamp (by omega)
  have hb : j < qN m 444 := by omega
  have hj2 := hr j hj
  rw [hcl]
  rw [hx] at hj2 ⊢
  obtain ⟨w1, w2, w3, w4, w5⟩ := hj2
  rcases sp1_cases w4 i with ⟨hs, a, rfl, ha, hi1, hi2⟩ | ⟨hs, hi⟩
  · have hin := in_yes (N := NF) (m := m) w4 ha
    have h10 : ¬ (1 : Int32) = 0 := by decide
    have hb2 : 80 * j + a < qN m 445 := by omega
    have ha2 : a < len := ha
    have hel : qI m 445 (80 * j + a) = el a := w5 a (by omega)
    have e80 : (80 : Int32) * nI j + nI a = nI (80 * j + a) := by
      show nI 80 * nI j + nI a = _
      rw [pk_mul, nI_add]
    simp (disch := first | assumption | omega) only [qP, qChk_, Option.bind_some, r16, r17, w3, hin, h10, hi1, hi2, ha2, e80, hel, ↓reduceIte]
  · have hin := in_no (N := NF) (m := m) w4 hs
    rcases hi with hi | ⟨hi1, hi2⟩
    · simp (disch := first | assumption | omega) only [qP, qChk_, Option.bind_some, r16, w3, hin, hi, ↓reduceIte]
    · simp (disch := first | assumption | omega) only [qP, qChk_, Option.bind_some, r16, w3, hin, hi1, hi2, ↓reduceIte]
-- ===== allocate of the reference =====
theorem mall_loop {j : Nat} (hj : j < 3) {l : Int32} : ∀ (n k : Nat) (m : qM), MS (qK m) (qN m) (qR m) → k ≤ 80 → 80 - k < n → ∃ m2, lX10_allocate_51 NF 433 (nI j) l n (nI k) m = some m2 ∧ Fx (fun x => x = 445) m m2 ∧ ∀ z, qI m2 445 z = if 80 * j + k ≤ z ∧ z < 80 * j + 80 then 0 else qI m 445 z := by
  intro n
  induction n with
  | zero => intro k m _ _ h; omega
  | succ n ih =>
    intro k m hM hk hn
    obtain ⟨k0, r15, r16, r17, k3, k4, k5, n3, n4, n5⟩ := hM.rw
    unfold lX10_allocate_51
    by_cases h : 80 ≤ k
    · refine ⟨m, ?_, Fx.rf, fun z => ?_⟩
      · simp (disch := omega) only [nA, lits, h, ↓reduceIte]
      · rw [if_neg (by omega)]
    · have hb : 80 * j + k < qN m 445 := by omega
      obtain ⟨m2, e1, e2, e3⟩ := ih (k + 1) (qsI m 445 (80 * j + k) 0) hM (by omega) (by omega)
      refine ⟨m2, ?_, (Fx.sI (D := fun x => x = 445) Fx.rf rfl).tr e2, fun z => ?_⟩
      · simp (disch := first | assumption | omega) only [nA, lits, qP, h, ↓reduceIte, Option.bind_some, r17]
        exact e1
      · rw [e3 z]
        simp only [qS, ↓reduceIte]
        by_cases hz : z = 80 * j + k
        · subst hz; rw [if_neg (by omega), if_pos rfl, if_pos (by omega)]
        · rw [if_neg hz]
          by_cases hz2 : 80 * j + (k + 1) ≤ z ∧ z < 80 * j + 80
          · rw [if_pos hz2, if_pos (by omega)]
          · rw [if_neg hz2, if_neg (by omega)]
theorem m_allocate {m : qM} {ro : Nat → rowT} (hM : MS (qK m) (qN m) (qR m)) (hr : MRs (qI m) ro) (r t l : Int32) : ∃ m2, fX10_allocate NF 433 r t l m = some (aAll r t l, m2) ∧ ((¬ okAll r t l ∧ m2 = m) ∨ (∃ j ty len : Nat, j < 3 ∧ r = nI j ∧ ty < 3 ∧ t = nI ty ∧ len ≤ 80 ∧ l = nI len ∧ MRs (qI m2) (rset ro j (some (ty, len, fun _ => 0))) ∧ Fx dRm m m2)) := by
  unfold fX10_allocate aAll okAll
  rw [fX10_isRow_eq]
  simp only [Option.bind_some]
  rcases i3 r with ⟨h, -⟩ | ⟨h1, h2, h3⟩ | ⟨h1, h2, h3, j, hj, rfl⟩
  · exact ⟨m, by simp only [h, ↓reduceIte], Or.inl ⟨fun q => q.1 h, rfl⟩⟩
  · exact ⟨m, by simp only [h1, h2, h3, ↓reduceIte], Or.inl ⟨fun q => q.2.1 h2, rfl⟩⟩
  have h10 : ¬ (1 : Int32) = 0 := by decide
  simp only [h1, h2, h3, ↓reduceIte, h10, fX10_in_eq, Option.bind_some]
  rcases i3 t with ⟨g, -⟩ | ⟨g1, -, g2⟩ | ⟨g1, -, g2, ty, hty, rfl⟩
  · exact ⟨m, by simp only [g, ↓reduceIte], Or.inl ⟨fun q => q.2.2.1 g, rfl⟩⟩
  · exact ⟨m, by simp only [g1, g2, ↓reduceIte], Or.inl ⟨fun q => q.2.2.2.1 g2, rfl⟩⟩
  simp only [g1, g2, ↓reduceIte, h10]
  by_cases e1 : l ≤ 80
  · by_cases e2 : 0 ≤ l
    · obtain ⟨len, hlen, rfl⟩ : ∃ len : Nat, len ≤ 80 ∧ l = nI len := nI_of2 (M := 80) (n := 80) (by decide) (Int32.not_lt.mpr e2) e1
      simp only [e1, e2, ↓reduceIte]
      obtain ⟨k0, r15, r16, r17, k3, k4, k5, n3, n4, n5⟩ := hM.rw
      have hb : j < qN m 443 := by omega
      have hb2 : j < qN m 444 := by omega
      obtain ⟨m2, f1, f2, f3⟩ := mall_loop hj (l := nI len) NF 0 (qsI (qsI m 443 j (nI ty)) 444 j (nI len)) hM (by omega) (by unfold NF; omega)
      have f1' : lX10_allocate_51 NF 433 (nI j) (nI len) NF 0 (qsI (qsI m 443 j (nI ty)) 444 j (nI len)) = some m2 := f1
      refine ⟨m2, ?_, Or.inr ⟨j, ty, len, hj, rfl, hty, rfl, hlen, rfl, ?_, (Fx.sI (D := dRm) (Fx.sI Fx.rf ⟨by omega, by omega⟩) ⟨by omega, by omega⟩).tr (f2.mono (fun a h => by rw [h]; exact ⟨by omega, by omega⟩))⟩⟩
      · simp (disch := first | assumption | omega | (simp only [qS]; assumption)) only [qP, qS, Option.bind_some, r15, r16, f1']
      · have i3' : qI m2 443 = qI (qsI (qsI m 443 j (nI ty)) 444 j (nI len)) 443 := f2.i (by decide)
        have i4' : qI m2 444 = qI (qsI (qsI m 443 j (nI ty)) 444 j (nI len)) 444 := f2.i (by decide)
        have e5 : ¬ (443 : Nat) = 444 := by decide
        have e6 : ¬ (444 : Nat) = 443 := by decide
        have e7 : ¬ (445 : Nat) = 443 := by decide
        have e8 : ¬ (445 : Nat) = 444 := by decide
        intro k hk
        unfold rset
        by_cases hkj : k = j
        · subst hkj
          rw [if_pos rfl]
          refine ⟨by rw [i3']; simp only [qS, e5, ↓reduceIte], hty, by rw [i4']; simp only [qS, ↓reduceIte], hlen, fun z hz => ?_⟩
          rw [f3, if_pos (by omega)]
        · rw [if_neg hkj]
          have h := hr k hk
          cases hxk : ro k with
          | none =>
            rw [hxk] at h
            show qI m2 443 k = -1
            rw [i3']
            simp only [qS, e5, hkj, ↓reduceIte]
            exact h
          | some x =>
            obtain ⟨ty2, len2, el2⟩ := x
            rw [hxk] at h
            obtain ⟨v1, v2, v3, v4, v5⟩ := h
            refine ⟨by rw [i3']; simp only [qS, e5, hkj, ↓reduceIte]; exact v1, v2, by rw [i4']; simp only [qS, e6, hkj, ↓reduceIte]; exact v3, v4, fun z hz => ?_⟩
            rw [f3, if_neg (by omega)]
            simp only [qS, e7, e8, ↓reduceIte]
            exact v5 z hz
    · exact ⟨m, by simp only [e1, e2, ↓reduceIte], Or.inl ⟨fun q => e2 q.2.2.2.2.2, rfl⟩⟩
  · exact ⟨m, by simp only [e1, ↓reduceIte], Or.inl ⟨fun q => e1 q.2.2.2.2.1, rfl⟩⟩
