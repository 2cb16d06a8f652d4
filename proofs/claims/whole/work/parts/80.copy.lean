section
-- ===== elements copied =====
theorem c_isRow {N : Nat} {v : Int32} {m : qM} : fX9_isRow N v m = some (hasA 3 v, m) := fX9_isRow_eq
theorem m_isRow {N : Nat} {v : Int32} {m : qM} : fX10_isRow N v m = some (hasA 3 v, m) := by
  rw [fX10_isRow_eq]
  rcases i3 v with ⟨h, -⟩ | ⟨h1, h2, h3⟩ | ⟨h1, h2, h3, -⟩
  · have e : hasA 3 v = 0 := if_pos h
    rw [if_pos h, e]
  · have e : hasA 3 v = 0 := by unfold hasA; rw [if_neg h1, if_pos (show nI 3 ≤ v from h2)]
    rw [if_neg h1, if_pos h3, e]
  · have e : hasA 3 v = 1 := by unfold hasA; rw [if_neg h1, if_neg (show ¬ nI 3 ≤ v from h2)]
    rw [if_neg h1, if_neg h3, e]
theorem miss_yes {N o : Nat} {m : qM} (hK : qK m o = 5) (h : qI m o 2 = -1) : fX5_isMissing N o m = some (1, m) := by
  unfold fX5_isMissing
  refine EgI hK h ?_
  refine EIp rfl ?_
  rfl
theorem miss_no {N o len : Nat} {m : qM} (hK : qK m o = 5) (h : qI m o 2 = nI len) (hl : len ≤ 80) : fX5_isMissing N o m = some (0, m) := by
  unfold fX5_isMissing
  refine EgI hK h ?_
  refine EIn (fun z => ?_) ?_
  · have := nI_g0 (i := len) (by omega)
    rw [z] at this
    exact absurd this (by decide)
  rfl
def cpT (s : ST) (r i q p n : Int32) : Int32 × ST := if hasA 3 r = 0 then (-1, s) else if hasA 3 q = 0 then (-1, s) else match sRo s r.toNatClampNeg, sRo s q.toNatClampNeg with
  | some x, some y => if x.1 = y.1 then (if spB x.2.1 i n = true then (if spB y.2.1 p n = true then (n, wRo s (rset (sRo s) q.toNatClampNeg (some (y.1, y.2.1, va_cpy x.2.2 y.2.2 i.toNatClampNeg p.toNatClampNeg n.toNatClampNeg)))) else (-8, s)) else (-8, s)) else (-7, s)
  | _, _ => (-6, s)
theorem cpT_hit {s : ST} {j k : Nat} {i p n : Int32} (hj : j < 3) (hk : k < 3) : cpT s (nI j) i (nI k) p n = match sRo s j, sRo s k with
  | some x, some y => if x.1 = y.1 then (if spB x.2.1 i n = true then (if spB y.2.1 p n = true then (n, wRo s (rset (sRo s) k (some (y.1, y.2.1, va_cpy x.2.2 y.2.2 i.toNatClampNeg p.toNatClampNeg n.toNatClampNeg)))) else (-8, s)) else (-8, s)) else (-7, s)
  | _, _ => (-6, s) := by
  have e1 : ¬ hasA 3 (nI j) = 0 := by
    unfold hasA
    rw [if_neg (nI_pos (by omega)), if_neg (fun z => by have := (nI_leI (by omega) (by omega)).mp z; omega)]
    exact i10
  have e2 : ¬ hasA 3 (nI k) = 0 := by
    unfold hasA
    rw [if_neg (nI_pos (by omega)), if_neg (fun z => by have := (nI_leI (by omega) (by omega)).mp z; omega)]
    exact i10
  unfold cpT
  rw [if_neg e1, if_neg e2, nI_clamp (by omega), nI_clamp (by omega)]
theorem ok_cp {s : ST} (h : okS s) (r i q p n : Int32) : okS (cpT s r i q p n).2 := by
  unfold cpT
  split
  · exact h
  split
  · exact h
  split
  · split
    · split
      · split
        · exact h
        · exact h
      · exact h
    · exact h
  · exact h
theorem CRw_all {m : qM} {ro : Nat → rowT} {k ty len : Nat} {el g el' : Nat → Int32} (hr : CRs (qI m) ro) (hk : k < 3) (h : ro k = some (ty, len, el)) (hg : ∀ z, z < 80 → g z = el' z) : CRs (qI (qsA m (402 + 2 * k + 1) g)) (rset ro k (some (ty, len, el'))) := by
  have hj2 := hr k hk
  rw [h] at hj2
  obtain ⟨w1, w2, w3, w4, w5⟩ := hj2
  intro x hx
  unfold rset
  by_cases hkj : x = k
  · subst hkj
    rw [if_pos rfl]
    have e3 : ¬ 402 + 2 * x = 402 + 2 * x + 1 := by omega
    refine ⟨by simp only [qS, e3, ↓reduceIte]; exact w1, w2, by simp only [qS, e3, ↓reduceIte]; exact w3, w4, fun z hz => ?_⟩
    simp only [qS, ↓reduceIte]
    exact hg z hz
  · rw [if_neg hkj]
    have h := hr x hx
    unfold CRw at h ⊢
    have e3 : ¬ 402 + 2 * x = 402 + 2 * k + 1 := by omega
    have e4 : ¬ 402 + 2 * x + 1 = 402 + 2 * k + 1 := by omega
    simp only [qS, e3, e4, ↓reduceIte]
    exact h
theorem CRs_no {I : Nat → Nat → Int32} {ro : Nat → rowT} {j : Nat} (h : CRs I ro) (hj : j < 3) (hx : ro j = none) : I (402 + 2 * j) 2 = -1 := by
  have := h j hj
  rw [hx] at this
  exact this
theorem MRs_no {I : Nat → Nat → Int32} {ro : Nat → rowT} {j : Nat} (h : MRs I ro) (hj : j < 3) (hx : ro j = none) : I 443 j = -1 := by
  have := h j hj
  rw [hx] at this
  exact this
theorem cpy_s {el el2 : Nat → Int32} {a b k : Nat} : elset (va_cpy el el2 a b k) (b + k) (el (a + k)) = va_cpy el el2 a b (k + 1) := by
  funext z
  unfold elset va_cpy
  by_cases e : z = b + k
  · rw [if_pos e, if_pos (by omega), show z - b = k by omega]
  · rw [if_neg e]
    by_cases e2 : b ≤ z ∧ z < b + k
    · rw [if_pos e2, if_pos (by omega)]
    · rw [if_neg e2, if_neg (by omega)]
theorem c_cpEl {m : qM} {s : ST} (h : CP m s) (hs : okS s) (r i q p n : Int32) : ∃ m2, fX9_copyElements NF 0 r i q p n m = some ((cpT s r i q p n).1, m2) ∧ CP m2 (cpT s r i q p n).2 ∧ Gc m m2 := by
  have hP := h
  obtain ⟨hX, -, -, hO, -, -, hR⟩ := h
  have hn := hs.1.1
  obtain ⟨k0, r00, r01, r02, r03, r04, r05, r06, r07, r08, -⟩ := hX.c0
  unfold fX9_copyElements
  rcases hasA_cases (n := 3) (by omega) r with ⟨h1, -⟩ | ⟨j, hj, rfl, h1⟩
  · have hc : cpT s r i q p n = (-1, s) := by unfold cpT; rw [if_pos h1]
    rw [hc]
    refine ⟨m, ?_, hP, Fx.rf⟩
    refine EB c_isRow ?_
    refine EIp h1 ?_
    rfl
  rcases hasA_cases (n := 3) (by omega) q with ⟨h2, -⟩ | ⟨k, hk, rfl, h2⟩
  · have hc : cpT s (nI j) i q p n = (-1, s) := by unfold cpT; rw [if_neg (by rw [h1]; exact i10), if_pos h2]
    rw [hc]
    refine ⟨m, ?_, hP, Fx.rf⟩
    refine EB c_isRow ?_
    refine EIn (show ¬ hasA 3 (nI j) = 0 by rw [h1]; exact i10) ?_
    refine EB c_isRow ?_
    refine EIp h2 ?_
    rfl
  rw [cpT_hit hj hk]
  obtain ⟨k1, q1, k2, n2, ra⟩ := hX.rw hj
  obtain ⟨k3, q3, k4, n4, rb⟩ := hX.rw hk
  obtain ⟨-, -, ka, na⟩ := hX.rwA
  cases hx : sRo s j with
  | none =>
    have w := CRs_no hR hj hx
    refine ⟨m, ?_, hP, Fx.rf⟩
    refine EB c_isRow ?_
    refine EIn (show ¬ hasA 3 (nI j) = 0 by rw [h1]; exact i10) ?_
    refine EB c_isRow ?_
    refine EIn (show ¬ hasA 3 (nI k) = 0 by rw [h2]; exact i10) ?_
    refine EgR k0 r08 ?_
    refine EaR ka rfl (show j < qN m 401 by omega) (by omega) ra ?_
    refine EC k1 (miss_yes k1 w) ?_
    refine EIn i10 ?_
    rfl
  | some x =>
    obtain ⟨ty, len, el⟩ := x
    obtain ⟨w1, w2, w3, w4, w5⟩ := CRs_len hR hj hx
    cases hy : sRo s k with
    | none =>
      have w := CRs_no hR hk hy
      refine ⟨m, ?_, hP, Fx.rf⟩
      refine EB c_isRow ?_
      refine EIn (show ¬ hasA 3 (nI j) = 0 by rw [h1]; exact i10) ?_
      refine EB c_isRow ?_
      refine EIn (show ¬ hasA 3 (nI k) = 0 by rw [h2]; exact i10) ?_
      refine EgR k0 r08 ?_
      refine EaR ka rfl (show j < qN m 401 by omega) (by omega) ra ?_
      refine EC k1 (miss_no k1 w3 w4) ?_
      refine EIp rfl ?_
      refine EgR k0 r08 ?_
      refine EaR ka rfl (show k < qN m 401 by omega) (by omega) rb ?_
      refine EC k3 (miss_yes k3 w) ?_
      refine EIn i10 ?_
      rfl
    | some y =>
      obtain ⟨ty2, len2, el2⟩ := y
      obtain ⟨v1, v2, v3, v4, v5⟩ := CRs_len hR hk hy
      have ht1 : fX5_type NF (402 + 2 * j) m = some (nI ty, m) := by
        unfold fX5_type
        refine EgI k1 w1 ?_
        rfl
      have ht2 : fX5_type NF (402 + 2 * k) m = some (nI ty2, m) := by
        unfold fX5_type
        refine EgI k3 v1 ?_
        rfl
      by_cases et : ty = ty2
      · subst et
        show ∃ m2, _ = some ((if ty = ty then (if spB len i n = true then (if spB len2 p n = true then (n, wRo s (rset (sRo s) k (some (ty, len2, va_cpy el el2 i.toNatClampNeg p.toNatClampNeg n.toNatClampNeg)))) else (-8, s)) else (-8, s)) else (-7, s)).1, m2) ∧ CP m2 (if ty = ty then (if spB len i n = true then (if spB len2 p n = true then (n, wRo s (rset (sRo s) k (some (ty, len2, va_cpy el el2 i.toNatClampNeg p.toNatClampNeg n.toNatClampNeg)))) else (-8, s)) else (-8, s)) else (-7, s)).2 ∧ Gc m m2
        rw [if_pos rfl]
        rcases spB_cases w4 i n with ⟨e1, -, a, c, rfl, rfl, e3, e4, e5⟩ | ⟨e1, e2⟩
        · rw [if_pos e1]
          rcases spB_cases v4 p (nI c) with ⟨g1, -, b, c2, rfl, g2, g3, g4, -⟩ | ⟨g1, g2⟩
          · rw [if_pos g1, e4, e5, g4]
            have hcc : c = c2 := (nI_eq (by omega) (by omega)).mp g2
            subst hcc
            have hcp : qcpy m (402 + 2 * j + 1) (nI a) (402 + 2 * k + 1) (nI b) (nI c) = some (qsA m (402 + 2 * k + 1) (va_cpy (qI m (402 + 2 * j + 1)) (qI m (402 + 2 * k + 1)) a b c)) := by
              unfold qcpy
              rw [e4, e5, g4, if_pos ⟨k2, k4, ⟨nI_pos (by omega), nI_pos (by omega), nI_pos (by omega)⟩, by omega, by omega⟩]
            have f : Fx dRc m (qsA m (402 + 2 * k + 1) (va_cpy (qI m (402 + 2 * j + 1)) (qI m (402 + 2 * k + 1)) a b c)) := Fx.rf.sA (show dRc (402 + 2 * k + 1) by unfold dRc; omega)
            refine ⟨_, ?_, CP_ro hP hn f (CRw_all hR hk hy (fun z hz => ?_)), f.mono (fun a ha => by unfold dRc at ha; omega)⟩
            · refine EB c_isRow ?_
              refine EIn (show ¬ hasA 3 (nI j) = 0 by rw [h1]; exact i10) ?_
              refine EB c_isRow ?_
              refine EIn (show ¬ hasA 3 (nI k) = 0 by rw [h2]; exact i10) ?_
              refine EgR k0 r08 ?_
              refine EaR ka rfl (show j < qN m 401 by omega) (by omega) ra ?_
              refine EC k1 (miss_no k1 w3 w4) ?_
              refine EIp rfl ?_
              refine EgR k0 r08 ?_
              refine EaR ka rfl (show k < qN m 401 by omega) (by omega) rb ?_
              refine EC k3 (miss_no k3 v3 v4) ?_
              refine EIp rfl ?_
              refine EgR k0 r08 ?_
              refine EaR ka rfl (show j < qN m 401 by omega) (by omega) ra ?_
              refine EC k1 ht1 ?_
              refine EgR k0 r08 ?_
              refine EaR ka rfl (show k < qN m 401 by omega) (by omega) rb ?_
              refine EC k3 ht2 ?_
              refine EIp rfl ?_
              refine EgR k0 r08 ?_
              refine EaR ka rfl (show j < qN m 401 by omega) (by omega) ra ?_
              refine EC k1 (spans_yes k1 w3 w4 e3) ?_
              refine EIn i10 ?_
              refine EgR k0 r08 ?_
              refine EaR ka rfl (show k < qN m 401 by omega) (by omega) rb ?_
              refine EC k3 (spans_yes k3 v3 v4 g3) ?_
              refine EIn i10 ?_
              refine EgR k0 r08 ?_
              refine EaR ka rfl (show k < qN m 401 by omega) (by omega) rb ?_
              refine EgR k0 r08 ?_
              refine EaR ka rfl (show j < qN m 401 by omega) (by omega) ra ?_
              have hcf : fX5_copyFrom NF (402 + 2 * k) (402 + 2 * j) (nI a) (nI b) (nI c) m = some (qsA m (402 + 2 * k + 1) (va_cpy (qI m (402 + 2 * j + 1)) (qI m (402 + 2 * k + 1)) a b c)) := by
                unfold fX5_copyFrom
                refine EgR k1 q1 ?_
                refine EgR k3 q3 ?_
                refine EB hcp ?_
                rfl
              refine EC k3 hcf ?_
              rfl
            · unfold va_cpy
              by_cases e : b ≤ z ∧ z < b + c
              · rw [if_pos e, if_pos e]; exact w5 _ (by omega)
              · rw [if_neg e, if_neg e]; exact v5 z hz
          · rw [g1]
            refine ⟨m, ?_, hP, Fx.rf⟩
            refine EB c_isRow ?_
            refine EIn (show ¬ hasA 3 (nI j) = 0 by rw [h1]; exact i10) ?_
            refine EB c_isRow ?_
            refine EIn (show ¬ hasA 3 (nI k) = 0 by rw [h2]; exact i10) ?_
            refine EgR k0 r08 ?_
            refine EaR ka rfl (show j < qN m 401 by omega) (by omega) ra ?_
            refine EC k1 (miss_no k1 w3 w4) ?_
            refine EIp rfl ?_
            refine EgR k0 r08 ?_
            refine EaR ka rfl (show k < qN m 401 by omega) (by omega) rb ?_
            refine EC k3 (miss_no k3 v3 v4) ?_
            refine EIp rfl ?_
            refine EgR k0 r08 ?_
            refine EaR ka rfl (show j < qN m 401 by omega) (by omega) ra ?_
            refine EC k1 ht1 ?_
            refine EgR k0 r08 ?_
            refine EaR ka rfl (show k < qN m 401 by omega) (by omega) rb ?_
            refine EC k3 ht2 ?_
            refine EIp rfl ?_
            refine EgR k0 r08 ?_
            refine EaR ka rfl (show j < qN m 401 by omega) (by omega) ra ?_
            refine EC k1 (spans_yes k1 w3 w4 e3) ?_
            refine EIn i10 ?_
            refine EgR k0 r08 ?_
            refine EaR ka rfl (show k < qN m 401 by omega) (by omega) rb ?_
            refine EC k3 (spans_no k3 v3 v4 g2) ?_
            refine EIp rfl ?_
            rfl
        · rw [e1]
          refine ⟨m, ?_, hP, Fx.rf⟩
          refine EB c_isRow ?_
          refine EIn (show ¬ hasA 3 (nI j) = 0 by rw [h1]; exact i10) ?_
          refine EB c_isRow ?_
          refine EIn (show ¬ hasA 3 (nI k) = 0 by rw [h2]; exact i10) ?_
          refine EgR k0 r08 ?_
          refine EaR ka rfl (show j < qN m 401 by omega) (by omega) ra ?_
          refine EC k1 (miss_no k1 w3 w4) ?_
          refine EIp rfl ?_
          refine EgR k0 r08 ?_
          refine EaR ka rfl (show k < qN m 401 by omega) (by omega) rb ?_
          refine EC k3 (miss_no k3 v3 v4) ?_
          refine EIp rfl ?_
          refine EgR k0 r08 ?_
          refine EaR ka rfl (show j < qN m 401 by omega) (by omega) ra ?_
          refine EC k1 ht1 ?_
          refine EgR k0 r08 ?_
          refine EaR ka rfl (show k < qN m 401 by omega) (by omega) rb ?_
          refine EC k3 ht2 ?_
          refine EIp rfl ?_
          refine EgR k0 r08 ?_
          refine EaR ka rfl (show j < qN m 401 by omega) (by omega) ra ?_
          refine EC k1 (spans_no k1 w3 w4 e2) ?_
          refine EIp rfl ?_
          rfl
      · have hne : ¬ nI ty = nI ty2 := fun z => et ((nI_eq (by omega) (by omega)).mp z)
        show ∃ m2, _ = some ((if ty = ty2 then (if spB len i n = true then (if spB len2 p n = true then (n, wRo s (rset (sRo s) k (some (ty2, len2, va_cpy el el2 i.toNatClampNeg p.toNatClampNeg n.toNatClampNeg)))) else (-8, s)) else (-8, s)) else (-7, s)).1, m2) ∧ CP m2 (if ty = ty2 then (if spB len i n = true then (if spB len2 p n = true then (n, wRo s (rset (sRo s) k (some (ty2, len2, va_cpy el el2 i.toNatClampNeg p.toNatClampNeg n.toNatClampNeg)))) else (-8, s)) else (-8, s)) else (-7, s)).2 ∧ Gc m m2
        rw [if_neg et]
        refine ⟨m, ?_, hP, Fx.rf⟩
        refine EB c_isRow ?_
        refine EIn (show ¬ hasA 3 (nI j) = 0 by rw [h1]; exact i10) ?_
        refine EB c_isRow ?_
        refine EIn (show ¬ hasA 3 (nI k) = 0 by rw [h2]; exact i10) ?_
        refine EgR k0 r08 ?_
        refine EaR ka rfl (show j < qN m 401 by omega) (by omega) ra ?_
        refine EC k1 (miss_no k1 w3 w4) ?_
        refine EIp rfl ?_
        refine EgR k0 r08 ?_
        refine EaR ka rfl (show k < qN m 401 by omega) (by omega) rb ?_
        refine EC k3 (miss_no k3 v3 v4) ?_
        refine EIp rfl ?_
        refine EgR k0 r08 ?_
        refine EaR ka rfl (show j < qN m 401 by omega) (by omega) ra ?_
        refine EC k1 ht1 ?_
        refine EgR k0 r08 ?_
        refine EaR ka rfl (show k < qN m 401 by omega) (by omega) rb ?_
        refine EC k3 ht2 ?_
        refine EIn hne ?_
        rfl
theorem m_cpEl {m : qM} {s : ST} (h : MP m s) (hs : okS s) (r i q p n : Int32) : ∃ m2, fX10_copyElements NF 433 r i q p n m = some ((cpT s r i q p n).1, m2) ∧ MP m2 (cpT s r i q p n).2 ∧ Gz m m2 := by
  have hP := h
  obtain ⟨hM, hT, -, -, -, -, hR⟩ := h
  obtain ⟨k433, r15, r16, r17, k443, k444, k445, n443, n444, n445⟩ := hM.rw
  unfold fX10_copyElements
  rcases hasA_cases (n := 3) (by omega) r with ⟨h1, -⟩ | ⟨j, hj, rfl, h1⟩
  · have hc : cpT s r i q p n = (-1, s) := by unfold cpT; rw [if_pos h1]
    rw [hc]
    refine ⟨m, ?_, hP, Fz.rf⟩
    refine EB m_isRow ?_
    refine EIp h1 ?_
    rfl
  rcases hasA_cases (n := 3) (by omega) q with ⟨h2, -⟩ | ⟨k, hk, rfl, h2⟩
  · have hc : cpT s (nI j) i q p n = (-1, s) := by unfold cpT; rw [if_neg (by rw [h1]; exact i10), if_pos h2]
    rw [hc]
    refine ⟨m, ?_, hP, Fz.rf⟩
    refine EB m_isRow ?_
    refine EIn (show ¬ hasA 3 (nI j) = 0 by rw [h1]; exact i10) ?_
    refine EB m_isRow ?_
    refine EIp h2 ?_
    rfl
  rw [cpT_hit hj hk]
  cases hx : sRo s j with
  | none =>
    have w := MRs_no hR hj hx
    refine ⟨m, ?_, hP, Fz.rf⟩
    refine EB m_isRow ?_
    refine EIn (show ¬ hasA 3 (nI j) = 0 by rw [h1]; exact i10) ?_
    refine EB m_isRow ?_
    refine EIn (show ¬ hasA 3 (nI k) = 0 by rw [h2]; exact i10) ?_
    refine EgR k433 r15 ?_
    refine EaI k443 rfl (show j < qN m 443 by omega) (by omega) w ?_
    refine EIp (show (-1 : Int32) < 0 by decide) ?_
    rfl
  | some x =>
    obtain ⟨ty, len, el⟩ := x
    obtain ⟨w1, w2, w3, w4, w5⟩ := MRs_len hR hj hx
    cases hy : sRo s k with
    | none =>
      have w := MRs_no hR hk hy
      refine ⟨m, ?_, hP, Fz.rf⟩
      refine EB m_isRow ?_
      refine EIn (show ¬ hasA 3 (nI j) = 0 by rw [h1]; exact i10) ?_
      refine EB m_isRow ?_
      refine EIn (show ¬ hasA 3 (nI k) = 0 by rw [h2]; exact i10) ?_
      refine EgR k433 r15 ?_
      refine EaI k443 rfl (show j < qN m 443 by omega) (by omega) w1 ?_
      refine EIn (nI_pos (by omega)) ?_
      refine EgR k433 r15 ?_
      refine EaI k443 rfl (show k < qN m 443 by omega) (by omega) w ?_
      refine EIn (show ¬ (0 : Int32) ≤ -1 by decide) ?_
      rfl
    | some y =>
      obtain ⟨ty2, len2, el2⟩ := y
      obtain ⟨v1, v2, v3, v4, v5⟩ := MRs_len hR hk hy
      by_cases et : ty = ty2
      · subst et
        show ∃ m2, _ = some ((if ty = ty then (if spB len i n = true then (if spB len2 p n = true then (n, wRo s (rset (sRo s) k (some (ty, len2, va_cpy el el2 i.toNatClampNeg p.toNatClampNeg n.toNatClampNeg)))) else (-8, s)) else (-8, s)) else (-7, s)).1, m2) ∧ MP m2 (if ty = ty then (if spB len i n = true then (if spB len2 p n = true then (n, wRo s (rset (sRo s) k (some (ty, len2, va_cpy el el2 i.toNatClampNeg p.toNatClampNeg n.toNatClampNeg)))) else (-8, s)) else (-8, s)) else (-7, s)).2 ∧ Gz m m2
        rw [if_pos rfl]
        rcases spB_cases w4 i n with ⟨e1, -, a, c, rfl, rfl, e3, e4, e5⟩ | ⟨e1, e2⟩
        · rw [if_pos e1]
          rcases spB_cases v4 p (nI c) with ⟨g1, -, b, c2, rfl, g2, g3, g4, -⟩ | ⟨g1, g2⟩
          · rw [if_pos g1, e4, e5, g4]
            have hcc : c = c2 := (nI_eq (by omega) (by omega)).mp g2
            subst hcc
            obtain ⟨A, hA⟩ : ∃ A, A = qT m := ⟨_, rfl⟩
            have hA459 : 459 ≤ A := by omega
            obtain ⟨z1, z2, -, -⟩ := qnw_at (m := m) (c := 12) (n := c)
            rw [← hA] at z1 z2
            have f0 : Fz (fun _ => False) m (qnw m 12 c) := Fz.new hT
            obtain ⟨b1, y1, y2, y3, y4, y5⟩ := walk (l := fun g (x : Int32 × qM) => lX10_copyElements_116 NF 433 (nI j) (nI a) (nI k) (nI b) (nI c) A g x.1 x.2) (J := fun r x => ∃ z m', z + r = c ∧ x = (nI z, m') ∧ Fz (fun _ => False) m m' ∧ qK m' A = 12 ∧ qN m' A = c ∧ ∀ t, t < z → qI m' A t = el (a + t)) (Q := fun m' => Fz (fun _ => False) m m' ∧ qK m' A = 12 ∧ qN m' A = c ∧ ∀ t, t < c → qI m' A t = el (a + t)) (fun g r x hj2 => by
              obtain ⟨z, m', hz, rfl, hF, hK, hN, hD⟩ := hj2
              have hP' := MP_z hP hF
              obtain ⟨K433, -, -, R17, -, -, K445, -, -, N445⟩ := hP'.1.rw
              obtain ⟨u1, u2, u3, u4, u5⟩ := MRs_len hP'.2.2.2.2.2.2 hj hx
              refine Or.inl ⟨(nI (z + 1), qsI m' A z (el (a + z))), ⟨z + 1, _, by omega, rfl, hF.sIh hA459, hK, hN, fun t ht => ?_⟩, ?_⟩
              · by_cases et : t = z
                · rw [et]; simp [qS]
                · simp only [qS, et, ↓reduceIte]
                  exact hD t (by omega)
              · show lX10_copyElements_116 NF 433 (nI j) (nI a) (nI k) (nI b) (nI c) A (g + 1) (nI z) m' = lX10_copyElements_116 NF 433 (nI j) (nI a) (nI k) (nI b) (nI c) A g (nI (z + 1)) _
                conv => lhs; unfold lX10_copyElements_116
                refine EIn (fun z => by have := (nI_leI (by omega) (by omega)).mp z; omega) ?_
                refine EgR K433 R17 ?_
                refine EaI K445 (show (((80 : Int32) * nI j) + nI a) + nI z = nI (80 * j + (a + z)) by rw [show (80 : Int32) * nI j = nI (80 * j) from pk_mul 80 j, nI_add, nI_add, Nat.add_assoc]) (by omega) (by omega) (u5 (a + z) (by omega)) ?_
                refine EwI hK rfl (show z < qN m' A by omega) (by omega) rfl ?_
                rw [nI_s]) (fun g x hj2 => by
              obtain ⟨z, m', hz, rfl, hF, hK, hN, hD⟩ := hj2
              obtain rfl : z = c := by omega
              refine ⟨m', ?_, hF, hK, hN, hD⟩
              show lX10_copyElements_116 NF 433 (nI j) (nI a) (nI k) (nI b) (nI z) A (g + 1) (nI z) m' = _
              unfold lX10_copyElements_116
              refine EIp ((nI_leI (by omega) (by omega)).mpr (Nat.le_refl _)) ?_
              rfl) c NF (nI 0, qnw m 12 c) (by unfold NF; omega) ⟨0, _, by omega, rfl, f0, z1, z2, fun t ht => by omega⟩
            have hPb := MP_z hP y2
            have h00 : va_cpy el el2 a b 0 = el2 := by
              funext z; unfold va_cpy; rw [if_neg (by omega)]
            obtain ⟨b2, x1, x2, x3⟩ := walk (l := fun g (x : Int32 × qM) => lX10_copyElements_151 NF 433 (nI k) (nI b) (nI c) A g x.1 x.2) (J := fun r x => ∃ z m', z + r = c ∧ x = (nI z, m') ∧ MP m' (wRo s (rset (sRo s) k (some (ty, len2, va_cpy el el2 a b z)))) ∧ Gz m m' ∧ qK m' A = 12 ∧ qN m' A = c ∧ ∀ t, t < c → qI m' A t = el (a + t)) (Q := fun m' => MP m' (wRo s (rset (sRo s) k (some (ty, len2, va_cpy el el2 a b c)))) ∧ Gz m m') (fun g r x hj2 => by
              obtain ⟨z, m', hz, rfl, hP', hF, hK, hN, hD⟩ := hj2
              obtain ⟨K433, -, -, R17, -, -, K445, -, -, N445⟩ := hP'.1.rw
              have f1 : Fx dRm m' (qsI m' 445 (80 * k + (b + z)) (el (a + z))) := Fx.rf.sI (show dRm 445 by unfold dRm; omega)
              refine Or.inl ⟨(nI (z + 1), qsI m' 445 (80 * k + (b + z)) (el (a + z))), ⟨z + 1, _, by omega, rfl, ?_, hF.tr (Fz.of (f1.mono (fun a ha => by unfold dRm at ha; omega))), hK, hN, fun t ht => ?_⟩, ?_⟩
              · have hw := MRw_set (i := b + z) (v := el (a + z)) hP'.2.2.2.2.2.2 hk (by omega) rset_at
                rw [cpy_s] at hw
                have hw2 := MP_ro hP' f1 hw
                have hro : rset (sRo (wRo s (rset (sRo s) k (some (ty, len2, va_cpy el el2 a b z))))) k (some (ty, len2, va_cpy el el2 a b (z + 1))) = rset (sRo s) k (some (ty, len2, va_cpy el el2 a b (z + 1))) := rset_rset
                rw [hro] at hw2
                exact hw2
              · have hne : ¬ A = 445 := by omega
                simp only [qS, hne, ↓reduceIte]
                exact hD t ht
              · show lX10_copyElements_151 NF 433 (nI k) (nI b) (nI c) A (g + 1) (nI z) m' = lX10_copyElements_151 NF 433 (nI k) (nI b) (nI c) A g (nI (z + 1)) _
                conv => lhs; unfold lX10_copyElements_151
                refine EIn (fun z => by have := (nI_leI (by omega) (by omega)).mp z; omega) ?_
                refine EgR K433 R17 ?_
                refine EaI hK rfl (show z < qN m' A by omega) (by omega) (hD z (by omega)) ?_
                refine EwI K445 (show (((80 : Int32) * nI k) + nI b) + nI z = nI (80 * k + (b + z)) by rw [show (80 : Int32) * nI k = nI (80 * k) from pk_mul 80 k, nI_add, nI_add, Nat.add_assoc]) (show 80 * k + (b + z) < qN m' 445 by omega) (by omega) rfl ?_
                rw [nI_s]) (fun g x hj2 => by
              obtain ⟨z, m', hz, rfl, hP', hF, hK, hN, hD⟩ := hj2
              obtain rfl : z = c := by omega
              refine ⟨m', ?_, hP', hF⟩
              show lX10_copyElements_151 NF 433 (nI k) (nI b) (nI z) A (g + 1) (nI z) m' = _
              unfold lX10_copyElements_151
              refine EIp ((nI_leI (by omega) (by omega)).mpr (Nat.le_refl _)) ?_
              rfl) c NF (nI 0, b1) (by unfold NF; omega) ⟨0, b1, by omega, rfl, by rw [h00, ← hy, rset_same]; exact hPb, y2.mono (fun a _ z => z.elim), y3, y4, y5⟩
            refine ⟨b2, ?_, x2, x3⟩
            refine EB m_isRow ?_
            refine EIn (show ¬ hasA 3 (nI j) = 0 by rw [h1]; exact i10) ?_
            refine EB m_isRow ?_
            refine EIn (show ¬ hasA 3 (nI k) = 0 by rw [h2]; exact i10) ?_
            refine EgR k433 r15 ?_
            refine EaI k443 rfl (show j < qN m 443 by omega) (by omega) w1 ?_
            refine EIn (nI_pos (by omega)) ?_
            refine EgR k433 r15 ?_
            refine EaI k443 rfl (show k < qN m 443 by omega) (by omega) v1 ?_
            refine EIp (nI_g0 (by omega)) ?_
            refine EgR k433 r15 ?_
            refine EaI k443 rfl (show j < qN m 443 by omega) (by omega) w1 ?_
            refine EgR k433 r15 ?_
            refine EaI k443 rfl (show k < qN m 443 by omega) (by omega) v1 ?_
            refine EIp rfl ?_
            refine EIn (nI_pos (by omega)) ?_
            refine EIn (nI_pos (by omega)) ?_
            refine EIn (nI_pos (by omega)) ?_
            refine EgR k433 r16 ?_
            refine EaI k444 rfl (show j < qN m 444 by omega) (by omega) w3 ?_
            refine EIn (fun z => by have := (lsum2 (by omega) (by omega) (by omega)).mp z; omega) ?_
            refine EgR k433 r16 ?_
            refine EaI k444 rfl (show k < qN m 444 by omega) (by omega) v3 ?_
            refine EIp ((lsum (by omega) (by omega) (by omega)).mpr g3) ?_
            refine EIp ⟨nI_pos (by omega), by omega⟩ ?_
            unfold qNew
            dsimp only
            rw [← hA]
            refine EB y1 ?_
            refine EB x1 ?_
            rfl
          · rw [g1]
            refine ⟨m, ?_, hP, Fz.rf⟩
            refine EB m_isRow ?_
            refine EIn (show ¬ hasA 3 (nI j) = 0 by rw [h1]; exact i10) ?_
            refine EB m_isRow ?_
            refine EIn (show ¬ hasA 3 (nI k) = 0 by rw [h2]; exact i10) ?_
            refine EgR k433 r15 ?_
            refine EaI k443 rfl (show j < qN m 443 by omega) (by omega) w1 ?_
            refine EIn (nI_pos (by omega)) ?_
            refine EgR k433 r15 ?_
            refine EaI k443 rfl (show k < qN m 443 by omega) (by omega) v1 ?_
            refine EIp (nI_g0 (by omega)) ?_
            refine EgR k433 r15 ?_
            refine EaI k443 rfl (show j < qN m 443 by omega) (by omega) w1 ?_
            refine EgR k433 r15 ?_
            refine EaI k443 rfl (show k < qN m 443 by omega) (by omega) v1 ?_
            refine EIp rfl ?_
            refine EIn (nI_pos (by omega)) ?_
            by_cases h4 : p < 0
            · refine EIp h4 ?_
              rfl
            · obtain ⟨b, hb, rfl⟩ := nI_of (x := p) h4
              refine EIn h4 ?_
              refine EIn (nI_pos (by omega)) ?_
              refine EgR k433 r16 ?_
              refine EaI k444 rfl (show j < qN m 444 by omega) (by omega) w3 ?_
              refine EIn (fun z => by have := (lsum2 (by omega) (by omega) (by omega)).mp z; omega) ?_
              refine EgR k433 r16 ?_
              refine EaI k444 rfl (show k < qN m 444 by omega) (by omega) v3 ?_
              refine EIn (fun z => g2 ⟨b, c, rfl, rfl, (lsum hb (by omega) (by omega)).mp z⟩) ?_
              rfl
        · rw [e1]
          refine ⟨m, ?_, hP, Fz.rf⟩
          refine EB m_isRow ?_
          refine EIn (show ¬ hasA 3 (nI j) = 0 by rw [h1]; exact i10) ?_
          refine EB m_isRow ?_
          refine EIn (show ¬ hasA 3 (nI k) = 0 by rw [h2]; exact i10) ?_
          refine EgR k433 r15 ?_
          refine EaI k443 rfl (show j < qN m 443 by omega) (by omega) w1 ?_
          refine EIn (nI_pos (by omega)) ?_
          refine EgR k433 r15 ?_
          refine EaI k443 rfl (show k < qN m 443 by omega) (by omega) v1 ?_
          refine EIp (nI_g0 (by omega)) ?_
          refine EgR k433 r15 ?_
          refine EaI k443 rfl (show j < qN m 443 by omega) (by omega) w1 ?_
          refine EgR k433 r15 ?_
          refine EaI k443 rfl (show k < qN m 443 by omega) (by omega) v1 ?_
          refine EIp rfl ?_
          by_cases h3 : i < 0
          · refine EIp h3 ?_
            rfl
          · refine EIn h3 ?_
            by_cases h4 : p < 0
            · refine EIp h4 ?_
              rfl
            · refine EIn h4 ?_
              by_cases h5 : n < 0
              · refine EIp h5 ?_
                rfl
              · refine EIn h5 ?_
                obtain ⟨a, ha, rfl⟩ := nI_of (x := i) h3
                obtain ⟨c, hc, rfl⟩ := nI_of (x := n) h5
                refine EgR k433 r16 ?_
                refine EaI k444 rfl (show j < qN m 444 by omega) (by omega) w3 ?_
                refine EIp ((lsum2 ha hc (by omega)).mpr (Nat.lt_of_not_le (fun z => e2 ⟨a, c, rfl, rfl, z⟩))) ?_
                rfl
      · have hne : ¬ nI ty = nI ty2 := fun z => et ((nI_eq (by omega) (by omega)).mp z)
        show ∃ m2, _ = some ((if ty = ty2 then (if spB len i n = true then (if spB len2 p n = true then (n, wRo s (rset (sRo s) k (some (ty2, len2, va_cpy el el2 i.toNatClampNeg p.toNatClampNeg n.toNatClampNeg)))) else (-8, s)) else (-8, s)) else (-7, s)).1, m2) ∧ MP m2 (if ty = ty2 then (if spB len i n = true then (if spB len2 p n = true then (n, wRo s (rset (sRo s) k (some (ty2, len2, va_cpy el el2 i.toNatClampNeg p.toNatClampNeg n.toNatClampNeg)))) else (-8, s)) else (-8, s)) else (-7, s)).2 ∧ Gz m m2
        rw [if_neg et]
        refine ⟨m, ?_, hP, Fz.rf⟩
        refine EB m_isRow ?_
        refine EIn (show ¬ hasA 3 (nI j) = 0 by rw [h1]; exact i10) ?_
        refine EB m_isRow ?_
        refine EIn (show ¬ hasA 3 (nI k) = 0 by rw [h2]; exact i10) ?_
        refine EgR k433 r15 ?_
        refine EaI k443 rfl (show j < qN m 443 by omega) (by omega) w1 ?_
        refine EIn (nI_pos (by omega)) ?_
        refine EgR k433 r15 ?_
        refine EaI k443 rfl (show k < qN m 443 by omega) (by omega) v1 ?_
        refine EIp (nI_g0 (by omega)) ?_
        refine EgR k433 r15 ?_
        refine EaI k443 rfl (show j < qN m 443 by omega) (by omega) w1 ?_
        refine EgR k433 r15 ?_
        refine EaI k443 rfl (show k < qN m 443 by omega) (by omega) v1 ?_
        refine EIn hne ?_
        rfl
end
