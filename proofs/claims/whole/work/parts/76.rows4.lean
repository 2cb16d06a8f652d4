section
-- ===== an output into a row, a row into the text =====
def spB (len : Nat) (i c : Int32) : Bool := if i < 0 then false else if c < 0 then false else decide (i.toNatClampNeg + c.toNatClampNeg ≤ len)
theorem spB_cases {len : Nat} (hl : len ≤ 80) (i c : Int32) : (spB len i c = true ∧ spOK len i c ∧ ∃ a q, i = nI a ∧ c = nI q ∧ a + q ≤ len ∧ i.toNatClampNeg = a ∧ c.toNatClampNeg = q) ∨ (spB len i c = false ∧ ¬ spOK len i c) := by
  unfold spB
  by_cases h1 : i < 0
  · rw [if_pos h1]
    refine Or.inr ⟨rfl, fun ⟨a, q, e1, e2, e3⟩ => ?_⟩
    rw [e1] at h1; exact nI_pos (by omega) h1
  · rw [if_neg h1]
    by_cases h2 : c < 0
    · rw [if_pos h2]
      refine Or.inr ⟨rfl, fun ⟨a, q, e1, e2, e3⟩ => ?_⟩
      rw [e2] at h2; exact nI_pos (by omega) h2
    · rw [if_neg h2]
      obtain ⟨a, ha, rfl⟩ := nI_of (x := i) h1
      obtain ⟨q, hq, rfl⟩ := nI_of (x := c) h2
      rw [nI_clamp ha, nI_clamp hq]
      by_cases h3 : a + q ≤ len
      · exact Or.inl ⟨decide_eq_true h3, ⟨a, q, rfl, rfl, h3⟩, a, q, rfl, rfl, h3, rfl, rfl⟩
      · refine Or.inr ⟨decide_eq_false h3, fun ⟨a', q', e1, e2, e3⟩ => h3 ?_⟩
        have g1 := (nI_eq ha (by omega)).mp e1
        have g2 := (nI_eq hq (by omega)).mp e2
        omega
theorem lsum {a q len : Nat} (ha : a < 2 ^ 31) (hq : q < 2 ^ 31) (hl : len < 2 ^ 31) : (lg_cmp ((nI a).toInt64 + (nI q).toInt64) (nI len).toInt64 ≤ 0) ↔ a + q ≤ len := by
  rw [lg_cmp_le, nI_l ha, nI_l hq, nI_l hl, lN_add]
  exact pk_lLE (by omega) (by omega)
theorem lsum2 {a q len : Nat} (ha : a < 2 ^ 31) (hq : q < 2 ^ 31) (hl : len < 2 ^ 31) : (0 < lg_cmp ((nI a).toInt64 + (nI q).toInt64) (nI len).toInt64) ↔ len < a + q := by
  rw [lg_cmp_gt, nI_l ha, nI_l hq, nI_l hl, lN_add]
  exact pk_lLT (by omega) (by omega)
def rowG {α : Type} (ro : Nat → rowT) (r : Int32) (bad : Int32 → α) (f : Nat → Nat → Nat → (Nat → Int32) → α) : α := if aLk ro r = 0 then (match ro r.toNatClampNeg with
  | none => bad 0
  | some x => f r.toNatClampNeg x.1 x.2.1 x.2.2) else bad (aLk ro r)
theorem rowG_bad {α : Type} {ro : Nat → rowT} {r : Int32} {bad : Int32 → α} {f : Nat → Nat → Nat → (Nat → Int32) → α} (h : ¬ aLk ro r = 0) : rowG ro r bad f = bad (aLk ro r) := if_neg h
theorem rowG_hit {α : Type} {ro : Nat → rowT} {bad : Int32 → α} {f : Nat → Nat → Nat → (Nat → Int32) → α} {j ty len : Nat} {el : Nat → Int32} (hj : j < 3) (h0 : aLk ro (nI j) = 0) (h : ro j = some (ty, len, el)) : rowG ro (nI j) bad f = f j ty len el := by
  unfold rowG
  rw [if_pos h0, nI_clamp (by omega), h]
def stEl (ty : Nat) (ou : List Nat) (a : Nat) (el : Nat → Int32) : Nat → Int32 := fun z => if a ≤ z ∧ z < a + ou.length then stv ty (nI (ou.getD (z - a) 0)) else el z
def aSt (s : ST) (r i : Int32) : Int32 := rowG (sRo s) r (fun b => b) (fun _ _ len _ => if spB len i (nI (sOu s).length) = true then nI (sOu s).length else -8)
def sSt (s : ST) (r i : Int32) : ST := rowG (sRo s) r (fun _ => s) (fun j ty len el => if spB len i (nI (sOu s).length) = true then wRo s (rset (sRo s) j (some (ty, len, stEl ty (sOu s) i.toNatClampNeg el))) else s)
theorem stEl_snoc {ty a k : Nat} {ou : List Nat} {el : Nat → Int32} (hk : k < ou.length) : elset (stEl ty (ou.take k) a el) (a + k) (stv ty (nI (ou.getD k 0))) = stEl ty (ou.take (k + 1)) a el := by
  have hl : (ou.take k).length = k := by rw [List.length_take]; omega
  have hl2 : (ou.take (k + 1)).length = k + 1 := by rw [List.length_take]; omega
  have hg : ∀ i n, i < n → (ou.take n).getD i 0 = ou.getD i 0 := fun i n h => by
    rw [List.getD_eq_getElem?_getD, List.getD_eq_getElem?_getD, List.getElem?_take, if_pos h]
  funext z
  unfold elset stEl
  rw [hl, hl2]
  by_cases e : z = a + k
  · rw [if_pos e, if_pos (by omega), hg _ _ (by omega), show z - a = k by omega]
  · rw [if_neg e]
    by_cases e2 : a ≤ z ∧ z < a + k
    · rw [if_pos e2, if_pos (by omega), hg _ _ (by omega), hg _ _ (by omega)]
    · rw [if_neg e2, if_neg (by omega)]
theorem CRw_set {m : qM} {ro : Nat → rowT} {j ty len i : Nat} {el : Nat → Int32} {v : Int32} (hr : CRs (qI m) ro) (hj : j < 3) (h : ro j = some (ty, len, el)) : CRs (qI (qsI m (402 + 2 * j + 1) i v)) (rset ro j (some (ty, len, elset el i v))) := by
  have hj2 := hr j hj
  rw [h] at hj2
  obtain ⟨w1, w2, w3, w4, w5⟩ := hj2
  intro k hk
  unfold rset
  by_cases hkj : k = j
  · subst hkj
    rw [if_pos rfl]
    have e3 : ¬ 402 + 2 * k = 402 + 2 * k + 1 := by omega
    refine ⟨by simp only [qS, e3, ↓reduceIte]; exact w1, w2, by simp only [qS, e3, ↓reduceIte]; exact w3, w4, fun z hz => ?_⟩
    simp only [qS, ↓reduceIte, elset]
    by_cases hza : z = i
    · rw [if_pos hza, if_pos hza]
    · rw [if_neg hza, if_neg hza]; exact w5 z hz
  · rw [if_neg hkj]
    have h := hr k hk
    unfold CRw at h ⊢
    have e3 : ¬ 402 + 2 * k = 402 + 2 * j + 1 := by omega
    have e4 : ¬ 402 + 2 * k + 1 = 402 + 2 * j + 1 := by omega
    simp only [qS, e3, e4, ↓reduceIte]
    exact h
theorem MRw_set {m : qM} {ro : Nat → rowT} {j ty len i : Nat} {el : Nat → Int32} {v : Int32} (hr : MRs (qI m) ro) (hj : j < 3) (hi : i < 80) (h : ro j = some (ty, len, el)) : MRs (qI (qsI m 445 (80 * j + i) v)) (rset ro j (some (ty, len, elset el i v))) := by
  have hj2 := hr j hj
  rw [h] at hj2
  obtain ⟨w1, w2, w3, w4, w5⟩ := hj2
  intro k hk
  unfold rset
  by_cases hkj : k = j
  · subst hkj
    rw [if_pos rfl]
    refine ⟨by simp only [qS]; rw [if_neg (by decide)]; exact w1, w2, by simp only [qS]; rw [if_neg (by decide)]; exact w3, w4, fun z hz => ?_⟩
    simp only [qS, ↓reduceIte, elset]
    by_cases hza : z = i
    · rw [if_pos (by omega), if_pos hza]
    · rw [if_neg (by omega), if_neg hza]; exact w5 z hz
  · rw [if_neg hkj]
    have h := hr k hk
    unfold MRw at h ⊢
    have e1 : ∀ z, qI (qsI m 445 (80 * j + i) v) 443 z = qI m 443 z := fun z => by simp [qS]
    have e2 : ∀ z, qI (qsI m 445 (80 * j + i) v) 444 z = qI m 444 z := fun z => by simp [qS]
    have e3 : ∀ z, z < 80 → qI (qsI m 445 (80 * j + i) v) 445 (80 * k + z) = qI m 445 (80 * k + z) := fun z hz => by
      have : ¬ 80 * k + z = 80 * j + i := by omega
      simp [qS, this]
    cases hx : ro k with
    | none => rw [hx] at h; show qI _ 443 k = -1; rw [e1]; exact h
    | some x =>
      obtain ⟨ty2, len2, el2⟩ := x
      rw [hx] at h
      obtain ⟨z1, z2, z3, z4, z5⟩ := h
      refine ⟨by rw [e1]; exact z1, z2, by rw [e2]; exact z3, z4, fun z hz => by rw [e3 z hz]; exact z5 z hz⟩
theorem rset_rset {ro : Nat → rowT} {j : Nat} {x y : rowT} : rset (rset ro j x) j y = rset ro j y := by
  funext k
  unfold rset
  by_cases e : k = j
  · rw [if_pos e, if_pos e]
  · rw [if_neg e, if_neg e, if_neg e]
theorem rset_same {ro : Nat → rowT} {j : Nat} : rset ro j (ro j) = ro := by
  funext k
  unfold rset
  by_cases e : k = j
  · rw [if_pos e, e]
  · rw [if_neg e]
theorem CP_ro {m m2 : qM} {s : ST} {ro : Nat → rowT} (h : CP m s) (hn : sN s ≤ 60) (f : Fx dRc m m2) (hR : CRs (qI m2) ro) : CP m2 (wRo s ro) := by
  obtain ⟨h1, h2, h3, h4, h5, h6, h7⟩ := h
  have e : ∀ a, (a < 402 ∨ 408 ≤ a) → qI m2 a = qI m a := fun a ha => f.i (by unfold dRc; omega)
  exact ⟨f.X h1, CTx_of (e 1 (by omega)) (e 2 (by omega)) h2, h3, CTx_of (e 3 (by omega)) (e 4 (by omega)) h4, CLs_of h5 hn (fun a _ ha => ⟨e a (by omega), f.l (by unfold dRc; omega)⟩), CMx_of h6 (e 389 (by omega)) (e 390 (by omega)), hR⟩
theorem MP_ro {m m2 : qM} {s : ST} {ro : Nat → rowT} (h : MP m s) (f : Fx dRm m m2) (hR : MRs (qI m2) ro) : MP m2 (wRo s ro) := by
  obtain ⟨q1, q2, q3, q4, q5, q6, q7⟩ := h
  have e : ∀ a, (a < 443 ∨ 445 < a) → qI m2 a = qI m a := fun a ha => f.i (by unfold dRm; omega)
  exact ⟨f.M q1, by rw [f.2.2.2.1]; exact q2, MTx_of q3 (by rw [e 433 (by omega)]) (e 439 (by omega)), MOu_of q4 (by rw [e 433 (by omega)]) (e 440 (by omega)), MLs_of q5 (fun a ha _ => e a (by omega)) (by rw [e 433 (by omega)]), MMx_of q6 (by rw [e 433 (by omega)]) (e 441 (by omega)), hR⟩
theorem CRs_len {I : Nat → Nat → Int32} {ro : Nat → rowT} {j ty len : Nat} {el : Nat → Int32} (h : CRs I ro) (hj : j < 3) (hx : ro j = some (ty, len, el)) : I (402 + 2 * j) 1 = nI ty ∧ ty < 3 ∧ I (402 + 2 * j) 2 = nI len ∧ len ≤ 80 ∧ ∀ i, i < 80 → I (402 + 2 * j + 1) i = el i := by
  have := h j hj
  rw [hx] at this
  exact this
theorem MRs_len {I : Nat → Nat → Int32} {ro : Nat → rowT} {j ty len : Nat} {el : Nat → Int32} (h : MRs I ro) (hj : j < 3) (hx : ro j = some (ty, len, el)) : I 443 j = nI ty ∧ ty < 3 ∧ I 444 j = nI len ∧ len ≤ 80 ∧ ∀ i, i < 80 → I 445 (80 * j + i) = el i := by
  have := h j hj
  rw [hx] at this
  exact this
theorem rset_at {ro : Nat → rowT} {j : Nat} {x : rowT} : rset ro j x j = x := if_pos rfl
theorem c_storeOut {m : qM} {s : ST} (h : CP m s) (hs : okS s) (r i : Int32) : ∃ m2, fX9_storeOutput NF 0 r i m = some (aSt s r i, m2) ∧ CP m2 (sSt s r i) ∧ Gc m m2 := by
  have hP := h
  obtain ⟨hX, -, -, hO, -, -, hR⟩ := h
  have hn := hs.1.1
  have h120 := hs.2.2.1
  obtain ⟨k0, r00, r01, r02, r03, r04, r05, r06, r07, r08, -⟩ := hX.c0
  have hf := c_fault hX hR r
  have hlen : fX7_length NF 3 m = some (nI (sOu s).length, m) := by rw [fX7_length_eq hX.t3.1, hO.1]
  unfold fX9_storeOutput aSt sSt
  rcases aLk_cases (sRo s) r with ⟨h0, -⟩ | ⟨h0, j, ty, len, el, hj, rfl, hx⟩
  · rw [rowG_bad h0, rowG_bad h0]
    refine ⟨m, ?_, hP, Fx.rf⟩
    refine EC k0 hf ?_
    refine EIn h0 ?_
    rfl
  · rw [rowG_hit hj h0 hx, rowG_hit hj h0 hx]
    obtain ⟨k1, q1, k2, n2, ra⟩ := hX.rw hj
    obtain ⟨-, -, ka, na⟩ := hX.rwA
    obtain ⟨w1, w2, w3, w4, w5⟩ := CRs_len hR hj hx
    have hpre : ∀ (b : Int32) R, fX5_spans NF (402 + 2 * j) i (nI (sOu s).length) m = some (b, m) → (if b = 0 then some ((-8 : Int32), m) else (lX9_storeOutput_38 NF 0 (nI j) i NF (0 : Int32) m).bind fun o7 => (qgR o7 0 9 1).bind fun x8 => (qChk o7 x8 7 (fX7_length NF x8 o7)).bind fun b9 => some (b9.1, b9.2)) = R → ((qChk m 0 9 (fX9_rowFault NF 0 (nI j) m)).bind fun b1 => if b1.1 = 0 then (qgR b1.2 0 9 8).bind fun x2 => (qaR b1.2 x2 16 (nI j)).bind fun x3 => (qgR b1.2 0 9 1).bind fun x4 => (qChk b1.2 x4 7 (fX7_length NF x4 b1.2)).bind fun b5 => (qChk b5.2 x3 5 (fX5_spans NF x3 i b5.1 b5.2)).bind fun b6 => if b6.1 = 0 then some ((-8 : Int32), b6.2) else (lX9_storeOutput_38 NF 0 (nI j) i NF (0 : Int32) b6.2).bind fun o7 => (qgR o7 0 9 1).bind fun x8 => (qChk o7 x8 7 (fX7_length NF x8 o7)).bind fun b9 => some (b9.1, b9.2) else some (b1.1, b1.2)) = R := by
      intro b R hsp hR2
      refine EC k0 hf ?_
      refine EIp h0 ?_
      refine EgR k0 r08 ?_
      refine EaR ka rfl (show j < qN m 401 by omega) (by omega) ra ?_
      refine EgR k0 r01 ?_
      refine EC hX.t3.1 hlen ?_
      refine EC k1 hsp ?_
      exact hR2
    rcases spB_cases w4 i (nI (sOu s).length) with ⟨e1, -, a, q, rfl, e2, e3, e4, -⟩ | ⟨e1, e2⟩
    · have hq : (sOu s).length = q := (nI_eq (by omega) (by omega)).mp e2
      subst hq
      rw [if_pos e1, if_pos e1, e4]
      have hsp := spans_yes (N := NF) k1 w3 w4 e3
      obtain ⟨b, b1, b2, b3⟩ := walk (l := fun g (x : Int32 × qM) => lX9_storeOutput_38 NF 0 (nI j) (nI a) g x.1 x.2) (J := fun r x => ∃ k m', k + r = (sOu s).length ∧ x = (nI k, m') ∧ Fx dRc m m' ∧ CRs (qI m') (rset (sRo s) j (some (ty, len, stEl ty ((sOu s).take k) a el)))) (Q := fun m' => Fx dRc m m' ∧ CRs (qI m') (rset (sRo s) j (some (ty, len, stEl ty (sOu s) a el)))) (fun g r x hj2 => by
        obtain ⟨k, m', hk, rfl, hF, hC⟩ := hj2
        have hX' := hF.X hX
        obtain ⟨K0, R00, R01, R02, R03, R04, R05, R06, R07, R08, -⟩ := hX'.c0
        obtain ⟨K1, Q1, K2, N2, RA⟩ := hX'.rw hj
        obtain ⟨-, -, KA, NA⟩ := hX'.rwA
        obtain ⟨v1, v2, v3, v4, v5⟩ := CRs_len hC hj rset_at
        have hO' : CTx (qI m') 3 (sOu s) := CTx_of (hF.i (by unfold dRc; omega)) (hF.i (by unfold dRc; omega)) hO
        have hlen' : fX7_length NF 3 m' = some (nI (sOu s).length, m') := by rw [fX7_length_eq hX'.t3.1, hO'.1]
        have hat := fX7_at_eq (N := NF) hX'.t3 hO' (show k < (sOu s).length by omega)
        have hset := set_eq (N := NF) (i := a + k) (v := nI ((sOu s).getD k 0)) K1 Q1 K2 N2 v1 v2 (by omega)
        refine Or.inl ⟨(nI (k + 1), qsI m' (402 + 2 * j + 1) (a + k) (stv ty (nI ((sOu s).getD k 0)))), ⟨k + 1, _, by omega, rfl, hF.tr (Fx.sI (D := dRc) Fx.rf (show dRc (402 + 2 * j + 1) by unfold dRc; omega)), ?_⟩, ?_⟩
        · have := CRw_set (i := a + k) (v := stv ty (nI ((sOu s).getD k 0))) hC hj rset_at
          rw [rset_rset, stEl_snoc (by omega)] at this
          exact this
        · show lX9_storeOutput_38 NF 0 (nI j) (nI a) (g + 1) (nI k) m' = lX9_storeOutput_38 NF 0 (nI j) (nI a) g (nI (k + 1)) _
          conv => lhs; unfold lX9_storeOutput_38
          refine EgR K0 R01 ?_
          refine EC hX'.t3.1 hlen' ?_
          refine EIn (fun z => by have := (nI_leI (by omega) (by omega)).mp z; omega) ?_
          refine EgR K0 R08 ?_
          refine EaR KA rfl (show j < qN m' 401 by omega) (by omega) RA ?_
          refine EgR K0 R01 ?_
          refine EC hX'.t3.1 hat ?_
          rw [nI_add]
          refine EC K1 hset ?_
          rw [nI_s]) (fun g x hj2 => by
        obtain ⟨k, m', hk, rfl, hF, hC⟩ := hj2
        obtain rfl : k = (sOu s).length := by omega
        rw [List.take_of_length_le (Nat.le_refl _)] at hC
        have hX' := hF.X hX
        have hO' : CTx (qI m') 3 (sOu s) := CTx_of (hF.i (by unfold dRc; omega)) (hF.i (by unfold dRc; omega)) hO
        have hlen' : fX7_length NF 3 m' = some (nI (sOu s).length, m') := by rw [fX7_length_eq hX'.t3.1, hO'.1]
        refine ⟨m', ?_, hF, hC⟩
        show lX9_storeOutput_38 NF 0 (nI j) (nI a) (g + 1) (nI (sOu s).length) m' = _
        unfold lX9_storeOutput_38
        refine EgR hX'.c0.1 hX'.c0.2.2.1 ?_
        refine EC hX'.t3.1 hlen' ?_
        refine EIp ((nI_leI (by omega) (by omega)).mpr (Nat.le_refl _)) ?_
        rfl) (sOu s).length NF (nI 0, m) (by unfold NF; omega) ⟨0, m, by omega, rfl, Fx.rf, by
        have : stEl ty (List.take 0 (sOu s)) a el = el := by
          funext z; unfold stEl; rw [if_neg (by simp)]
        rw [this, ← hx, rset_same]; exact hR⟩
      have hXb := b2.X hX
      have hOb : CTx (qI b) 3 (sOu s) := CTx_of (b2.i (by unfold dRc; omega)) (b2.i (by unfold dRc; omega)) hO
      refine ⟨b, hpre 1 _ hsp ?_, CP_ro hP hn b2 b3, b2.mono (fun a ha => by unfold dRc at ha; omega)⟩
      refine EIn i10 ?_
      refine EB b1 ?_
      refine EgR hXb.c0.1 hXb.c0.2.2.1 ?_
      refine EC hXb.t3.1 (b := (nI (sOu s).length, b)) (by rw [fX7_length_eq hXb.t3.1, hOb.1]) ?_
      rfl
    · rw [e1]
      have hsp := spans_no (N := NF) k1 w3 w4 e2
      exact ⟨m, hpre 0 _ hsp (if_pos rfl), hP, Fx.rf⟩
theorem m_storeOut {m : qM} {s : ST} (h : MP m s) (hs : okS s) (r i : Int32) : ∃ m2, fX10_storeOutput NF 433 r i m = some (aSt s r i, m2) ∧ MP m2 (sSt s r i) ∧ Gm m m2 := by
  have hP := h
  obtain ⟨hM, -, -, hO, -, -, hR⟩ := h
  have hn := hs.1.1
  have h120 := hs.2.2.1
  obtain ⟨k433, r15, r16, r17, k443, k444, k445, n443, n444, n445⟩ := hM.rw
  have hf := m_lacks hM hR r
  unfold fX10_storeOutput aSt sSt
  rcases aLk_cases (sRo s) r with ⟨h0, h0'⟩ | ⟨h0, j, ty, len, el, hj, rfl, hx⟩
  · rw [rowG_bad h0, rowG_bad h0]
    refine ⟨m, ?_, hP, Fx.rf⟩
    refine EC k433 hf ?_
    refine EIn (Int32.not_le.mpr h0') ?_
    rfl
  · rw [rowG_hit hj h0 hx, rowG_hit hj h0 hx]
    obtain ⟨w1, w2, w3, w4, w5⟩ := MRs_len hR hj hx
    rcases spB_cases w4 i (nI (sOu s).length) with ⟨e1, -, a, q, rfl, e2, e3, e4, -⟩ | ⟨e1, e2⟩
    · have hq : (sOu s).length = q := (nI_eq (by omega) (by omega)).mp e2
      subst hq
      rw [if_pos e1, if_pos e1, e4]
      obtain ⟨b, b1, b2, b3⟩ := walk (l := fun g (x : Int32 × qM) => lX10_storeOutput_41 NF 433 (nI j) (nI a) g x.1 x.2) (J := fun r x => ∃ k m', k + r = (sOu s).length ∧ x = (nI k, m') ∧ Fx dRm m m' ∧ MRs (qI m') (rset (sRo s) j (some (ty, len, stEl ty ((sOu s).take k) a el)))) (Q := fun m' => Fx dRm m m' ∧ MRs (qI m') (rset (sRo s) j (some (ty, len, stEl ty (sOu s) a el)))) (fun g r x hj2 => by
        obtain ⟨k, m', hk, rfl, hF, hC⟩ := hj2
        have hM' := hF.M hM
        obtain ⟨K433, R10, K440, N440⟩ := hM'.o
        obtain ⟨v1, v2, v3, v4, v5⟩ := MRs_len hC hj rset_at
        have hO1 : qI m' 433 11 = nI (sOu s).length := by rw [hF.i (by unfold dRm; omega)]; exact hO.1
        have hO2 : qI m' 440 k = nI ((sOu s).getD k 0) := by rw [hF.i (by unfold dRm; omega)]; exact hO.2 k (by omega)
        have hset := msets_eq (N := NF) (j := j) (i := a + k) (v := nI ((sOu s).getD k 0)) hM' hj v1 v2 (by omega)
        refine Or.inl ⟨(nI (k + 1), qsI m' 445 (80 * j + (a + k)) (stv ty (nI ((sOu s).getD k 0)))), ⟨k + 1, _, by omega, rfl, hF.tr (Fx.sI (D := dRm) Fx.rf (show dRm 445 by unfold dRm; omega)), ?_⟩, ?_⟩
        · have := MRw_set (i := a + k) (v := stv ty (nI ((sOu s).getD k 0))) hC hj (by omega) rset_at
          rw [rset_rset, stEl_snoc (by omega)] at this
          exact this
        · show lX10_storeOutput_41 NF 433 (nI j) (nI a) (g + 1) (nI k) m' = lX10_storeOutput_41 NF 433 (nI j) (nI a) g (nI (k + 1)) _
          conv => lhs; unfold lX10_storeOutput_41
          refine EgI K433 hO1 ?_
          refine EIn (fun z => by have := (nI_leI (by omega) (by omega)).mp z; omega) ?_
          refine EgR K433 R10 ?_
          refine EaI K440 rfl (show k < qN m' 440 by omega) (by omega) hO2 ?_
          rw [nI_add]
          refine EC K433 hset ?_
          rw [nI_s]) (fun g x hj2 => by
        obtain ⟨k, m', hk, rfl, hF, hC⟩ := hj2
        obtain rfl : k = (sOu s).length := by omega
        rw [List.take_of_length_le (Nat.le_refl _)] at hC
        refine ⟨m', ?_, hF, hC⟩
        show lX10_storeOutput_41 NF 433 (nI j) (nI a) (g + 1) (nI (sOu s).length) m' = _
        unfold lX10_storeOutput_41
        refine EgI (hF.M hM).o.1 (show qI m' 433 11 = nI (sOu s).length by rw [hF.i (by unfold dRm; omega)]; exact hO.1) ?_
        refine EIp ((nI_leI (by omega) (by omega)).mpr (Nat.le_refl _)) ?_
        rfl) (sOu s).length NF (nI 0, m) (by unfold NF; omega) ⟨0, m, by omega, rfl, Fx.rf, by
        have : stEl ty (List.take 0 (sOu s)) a el = el := by
          funext z; unfold stEl; rw [if_neg (by simp)]
        rw [this, ← hx, rset_same]; exact hR⟩
      refine ⟨b, ?_, MP_ro hP b2 b3, b2.mono (fun a ha => by unfold dRm at ha; omega)⟩
      refine EC k433 hf ?_
      refine EIp (show (0 : Int32) ≤ aLk (sRo s) (nI j) by rw [h0]; decide) ?_
      refine EIn (nI_pos (by omega)) ?_
      refine EgI k433 hO.1 ?_
      refine EgR k433 r16 ?_
      refine EaI k444 rfl (show j < qN m 444 by omega) (by omega) w3 ?_
      refine EIp ((lsum (by omega) (by omega) (by omega)).mpr e3) ?_
      refine EB b1 ?_
      refine EgI (b2.M hM).o.1 (show qI b 433 11 = nI (sOu s).length by rw [b2.i (by unfold dRm; omega)]; exact hO.1) ?_
      rfl
    · rw [e1]
      refine ⟨m, ?_, hP, Fx.rf⟩
      refine EC k433 hf ?_
      refine EIp (show (0 : Int32) ≤ aLk (sRo s) (nI j) by rw [h0]; decide) ?_
      by_cases h1 : i < 0
      · refine EIp h1 ?_
        rfl
      · refine EIn h1 ?_
        obtain ⟨a, ha, rfl⟩ := nI_of (x := i) h1
        refine EgI k433 hO.1 ?_
        refine EgR k433 r16 ?_
        refine EaI k444 rfl (show j < qN m 444 by omega) (by omega) w3 ?_
        refine EIn (fun z => e2 ⟨a, (sOu s).length, rfl, rfl, (lsum ha (by omega) (by omega)).mp z⟩) ?_
        rfl
theorem ok_st {s : ST} (h : okS s) (r i : Int32) : okS (sSt s r i) := by
  unfold sSt
  rcases aLk_cases (sRo s) r with ⟨h0, -⟩ | ⟨h0, j, ty, len, el, hj, rfl, hx⟩
  · rw [rowG_bad h0]; exact h
  · rw [rowG_hit hj h0 hx]
    by_cases e : spB len i (nI (sOu s).length) = true
    · rw [if_pos e]; exact h
    · rw [if_neg e]; exact h
-- ===== loadText =====
def ldT (el : Nat → Int32) (a : Nat) : Nat → Nat → List Nat → Nat × List Nat
  | 0, k, tx => (k, tx)
  | r + 1, k, tx => if aApp tx (el (a + k)) ≤ 0 then (k, sApp tx (el (a + k))) else ldT el a r (k + 1) (sApp tx (el (a + k)))
theorem ldT_s {el : Nat → Int32} {a r k : Nat} {tx : List Nat} : ldT el a (r + 1) k tx = if aApp tx (el (a + k)) ≤ 0 then (k, sApp tx (el (a + k))) else ldT el a r (k + 1) (sApp tx (el (a + k))) := rfl
def aLd (s : ST) (r i c : Int32) : Int32 := rowG (sRo s) r (fun b => b) (fun _ _ len el => if spB len i c = true then nI (ldT el i.toNatClampNeg c.toNatClampNeg 0 (sTx s)).1 else -8)
def sLd (s : ST) (r i c : Int32) : ST := rowG (sRo s) r (fun _ => s) (fun _ _ len el => if spB len i c = true then wTx s (ldT el i.toNatClampNeg c.toNatClampNeg 0 (sTx s)).2 else s)
theorem sApp_ok {tx : List Nat} {v : Int32} (h : ∀ c, c ∈ tx → 33 ≤ c ∧ c ≤ 126) : ∀ c, c ∈ sApp tx v → 33 ≤ c ∧ c ≤ 126 := by
  intro c hc
  unfold sApp at hc
  by_cases h1 : v < 33
  · rw [if_pos h1] at hc; exact h c hc
  · rw [if_neg h1] at hc
    by_cases h2 : v ≤ 126
    · rw [if_pos h2] at hc
      by_cases h3 : tx.length < 80
      · rw [if_pos h3] at hc
        rcases List.mem_append.mp hc with hc | hc
        · exact h c hc
        · obtain ⟨k, k1, k2, rfl⟩ := i32_of h1 h2
          rw [List.mem_singleton, nI_clamp (by omega)] at hc
          omega
      · rw [if_neg h3] at hc; exact h c hc
    · rw [if_neg h2] at hc; exact h c hc
theorem ldT_ok {el : Nat → Int32} {a : Nat} : ∀ (r k : Nat) (tx : List Nat), (∀ c, c ∈ tx → 33 ≤ c ∧ c ≤ 126) → ∀ c, c ∈ (ldT el a r k tx).2 → 33 ≤ c ∧ c ≤ 126 := by
  intro r
  induction r with
  | zero => intro k tx h; exact h
  | succ r ih =>
    intro k tx h
    unfold ldT
    split
    · exact sApp_ok h
    · exact ih _ _ (sApp_ok h)
theorem ok_ld {s : ST} (h : okS s) (r i c : Int32) : okS (sLd s r i c) := by
  unfold sLd
  rcases aLk_cases (sRo s) r with ⟨h0, -⟩ | ⟨h0, j, ty, len, el, hj, rfl, hx⟩
  · rw [rowG_bad h0]; exact h
  · rw [rowG_hit hj h0 hx]
    by_cases e : spB len i c = true
    · rw [if_pos e]; exact ⟨h.1, ldT_ok _ _ _ h.2.1, h.2.2⟩
    · rw [if_neg e]; exact h
theorem CP_txt {m m2 : qM} {s : ST} {tx : List Nat} (h : CP m s) (hn : sN s ≤ 60) (f : Fx (fun a => a = 1 ∨ a = 2) m m2) (hT : CTx (qI m2) 1 tx) (hl : tx.length ≤ 80) : CP m2 (wTx s tx) := by
  obtain ⟨h1, h2, h3, h4, h5, h6, h7⟩ := h
  exact ⟨f.X h1, hT, hl, CTx_of (f.i (by omega)) (f.i (by omega)) h4, CLs_of h5 hn (fun a _ _ => ⟨f.i (by omega), f.l (by omega)⟩), CMx_of h6 (f.i (by omega)) (f.i (by omega)), CRs_of h7 (fun a _ _ => f.i (by omega))⟩
theorem c_app {m : qM} {s : ST} (h : CP m s) (hs : okS s) (v : Int32) : ∃ m2, fX9_append NF 0 v m = some (aApp (sTx s) v, m2) ∧ CP m2 (wTx s (sApp (sTx s) v)) ∧ Fx (fun a => a = 1 ∨ a = 2) m m2 := by
  obtain ⟨m2, p1, p2, p3, p4⟩ := c_append h.1 h.2.1 h.2.2.1 v
  exact ⟨m2, p1, CP_txt h hs.1.1 p4 p2 p3, p4⟩
theorem ok_app {s : ST} (h : okS s) (v : Int32) : okS (wTx s (sApp (sTx s) v)) := ⟨h.1, sApp_ok h.2.1, h.2.2⟩
theorem c_loadText {m : qM} {s : ST} (h : CP m s) (hs : okS s) (r i c : Int32) : ∃ m2, fX9_loadText NF 0 r i c m = some (aLd s r i c, m2) ∧ CP m2 (sLd s r i c) ∧ Gc m m2 := by
  have hP := h
  obtain ⟨hX, -, -, -, -, -, hR⟩ := h
  have hn := hs.1.1
  obtain ⟨k0, r00, r01, r02, r03, r04, r05, r06, r07, r08, -⟩ := hX.c0
  have hf := c_fault hX hR r
  unfold fX9_loadText aLd sLd
  rcases aLk_cases (sRo s) r with ⟨h0, -⟩ | ⟨h0, j, ty, len, el, hj, rfl, hx⟩
  · rw [rowG_bad h0, rowG_bad h0]
    refine ⟨m, ?_, hP, Fx.rf⟩
    refine EC k0 hf ?_
    refine EIn h0 ?_
    rfl
  · rw [rowG_hit hj h0 hx, rowG_hit hj h0 hx]
    obtain ⟨k1, q1, k2, n2, ra⟩ := hX.rw hj
    obtain ⟨-, -, ka, na⟩ := hX.rwA
    obtain ⟨w1, w2, w3, w4, w5⟩ := CRs_len hR hj hx
    have hpre : ∀ (b : Int32) R, fX5_spans NF (402 + 2 * j) i c m = some (b, m) → (if b = 0 then some ((-8 : Int32), m) else (lX9_loadText_35 NF 0 (nI j) i c NF (0 : Int32) m).bind fun o5 => some (o5.1, o5.2)) = R → ((qChk m 0 9 (fX9_rowFault NF 0 (nI j) m)).bind fun b1 => if b1.1 = 0 then (qgR b1.2 0 9 8).bind fun x2 => (qaR b1.2 x2 16 (nI j)).bind fun x3 => (qChk b1.2 x3 5 (fX5_spans NF x3 i c b1.2)).bind fun b4 => if b4.1 = 0 then some ((-8 : Int32), b4.2) else (lX9_loadText_35 NF 0 (nI j) i c NF (0 : Int32) b4.2).bind fun o5 => some (o5.1, o5.2) else some (b1.1, b1.2)) = R := by
      intro b R hsp hR2
      refine EC k0 hf ?_
      refine EIp h0 ?_
      refine EgR k0 r08 ?_
      refine EaR ka rfl (show j < qN m 401 by omega) (by omega) ra ?_
      refine EC k1 hsp ?_
      exact hR2
    rcases spB_cases w4 i c with ⟨e1, -, a, q, rfl, rfl, e3, e4, e5⟩ | ⟨e1, e2⟩
    · rw [if_pos e1, if_pos e1, e4, e5]
      have hsp := spans_yes (N := NF) k1 w3 w4 e3
      obtain ⟨b, b1, m', b2, b3, b4⟩ := walk (l := fun g (x : Int32 × qM) => lX9_loadText_35 NF 0 (nI j) (nI a) (nI q) g x.1 x.2) (J := fun r x => ∃ k m' tx, k + r = q ∧ x = (nI k, m') ∧ CP m' (wTx s tx) ∧ okS (wTx s tx) ∧ Fx (fun a => a = 1 ∨ a = 2) m m' ∧ ldT el a r k tx = ldT el a q 0 (sTx s)) (Q := fun b => ∃ m', b = (nI (ldT el a q 0 (sTx s)).1, m') ∧ CP m' (wTx s (ldT el a q 0 (sTx s)).2) ∧ Fx (fun a => a = 1 ∨ a = 2) m m') (fun g r x hj2 => by
        obtain ⟨k, m', tx, hk, rfl, hP', hs', hF, hl⟩ := hj2
        have hX' := hP'.1
        obtain ⟨K0, R00, R01, R02, R03, R04, R05, R06, R07, R08, -⟩ := hX'.c0
        obtain ⟨K1, Q1, K2, N2, RA⟩ := hX'.rw hj
        obtain ⟨-, -, KA, NA⟩ := hX'.rwA
        obtain ⟨v1, v2, v3, v4, v5⟩ := CRs_len hP'.2.2.2.2.2.2 hj hx
        obtain ⟨m2, p1, p2, p3⟩ := c_app hP' hs' (el (a + k))
        have hat : fX5_at NF (402 + 2 * j) (nI (a + k)) m' = some (el (a + k), m') := by
          unfold fX5_at
          refine EgR K1 Q1 ?_
          refine EaI K2 rfl (by omega) (by omega) (v5 (a + k) (by omega)) ?_
          rfl
        have hpre2 : ∀ R, (if aApp tx (el (a + k)) ≤ 0 then some (nI k, m2) else lX9_loadText_35 NF 0 (nI j) (nI a) (nI q) g (nI (k + 1)) m2) = R → lX9_loadText_35 NF 0 (nI j) (nI a) (nI q) (g + 1) (nI k) m' = R := by
          intro R hR2
          unfold lX9_loadText_35
          refine EIn (fun z => by have := (nI_leI (by omega) (by omega)).mp z; omega) ?_
          refine EgR K0 R08 ?_
          refine EaR KA rfl (show j < qN m' 401 by omega) (by omega) RA ?_
          rw [nI_add]
          refine EC K1 hat ?_
          refine EC K0 p1 ?_
          rw [nI_s]
          exact hR2
        rw [ldT_s] at hl
        by_cases e : aApp tx (el (a + k)) ≤ 0
        · rw [if_pos e] at hl
          have hl2 : ldT el a q 0 (sTx s) = (k, sApp tx (el (a + k))) := by rw [hl]
          refine Or.inr ⟨_, hpre2 _ (if_pos e), m2, ?_, ?_, hF.tr p3⟩
          · rw [hl2]
          · rw [hl2]; exact p2
        · rw [if_neg e] at hl
          exact Or.inl ⟨(nI (k + 1), m2), ⟨k + 1, m2, _, by omega, rfl, p2, ok_app hs' _, hF.tr p3, hl⟩, hpre2 _ (if_neg e)⟩) (fun g x hj2 => by
        obtain ⟨k, m', tx, hk, rfl, hP', hs', hF, hl⟩ := hj2
        obtain rfl : k = q := by omega
        have hl2 : (k, tx) = ldT el a k 0 (sTx s) := hl
        refine ⟨(nI k, m'), ?_, m', by rw [← hl2], by rw [← hl2]; exact hP', hF⟩
        show lX9_loadText_35 NF 0 (nI j) (nI a) (nI k) (g + 1) (nI k) m' = _
        unfold lX9_loadText_35
        refine EIp ((nI_leI (by omega) (by omega)).mpr (Nat.le_refl _)) ?_
        rfl) q NF (nI 0, m) (by unfold NF; omega) ⟨0, m, sTx s, by omega, rfl, hP, hs, Fx.rf, rfl⟩
      refine ⟨m', hpre 1 _ hsp ?_, b3, b4.mono (fun a ha => by omega)⟩
      refine EIn i10 ?_
      refine EB (show lX9_loadText_35 NF 0 (nI j) (nI a) (nI q) NF 0 m = some (nI (ldT el a q 0 (sTx s)).1, m') by rw [← b2]; exact b1) ?_
      rfl
    · rw [e1]
      have hsp := spans_no (N := NF) k1 w3 w4 e2
      exact ⟨m, hpre 0 _ hsp (if_pos rfl), hP, Fx.rf⟩
theorem MP_txt {m m2 : qM} {s : ST} {tx : List Nat} (h : MP m s) (f : Fx (fun a => a = 433 ∨ a = 439) m m2) (hj : ∀ j, j ≠ 7 → qI m2 433 j = qI m 433 j) (hT : MTx (qI m2) tx) : MP m2 (wTx s tx) := by
  obtain ⟨q1, q2, q3, q4, q5, q6, q7⟩ := h
  exact ⟨f.M q1, by rw [f.2.2.2.1]; exact q2, hT, MOu_of q4 (hj 11 (by decide)) (f.i (by omega)), MLs_of q5 (fun a ha _ => f.i (by omega)) (hj 5 (by decide)), MMx_of q6 (hj 13 (by decide)) (f.i (by omega)), MRs_of q7 (fun a ha _ => f.i (by omega))⟩
theorem m_append2 {m : qM} {tx : List Nat} (hM : MS (qK m) (qN m) (qR m)) (hT : MTx (qI m) tx) (v : Int32) : ∃ m2, fX10_append NF 433 v m = some (aApp tx v, m2) ∧ MTx (qI m2) (sApp tx v) ∧ Fx (fun a => a = 433 ∨ a = 439) m m2 ∧ (∀ j, j ≠ 7 → qI m2 433 j = qI m 433 j) := by
  have k0 : qK m 433 = 10 := hM.1.1
  have r6 : qR m 433 6 = some 439 := hM.1.2.2.2.2.2.2.1
  have k6 : qK m 439 = 12 := hM.2.1.2.2.2.2.2.1
  have n6 : qN m 439 = 80 := hM.2.2.2.2.2.2.2.1
  obtain ⟨t1, t2, t3⟩ := hT
  unfold fX10_append aApp sApp
  rw [fX10_in_eq]
  by_cases h1 : v < 33
  · refine ⟨m, ?_, ?_, Fx.rf, fun _ _ => rfl⟩
    · simp only [h1, ↓reduceIte, Option.bind_some]
    · rw [if_pos h1]; exact ⟨t1, t2, t3⟩
  by_cases h2 : v ≤ 126
  · have h2' : ¬ 126 < v := Int32.not_lt.mpr h2
    obtain ⟨c, hc1, hc2, rfl⟩ := i32_of h1 h2
    have hcl : (nI c).toNatClampNeg = c := nI_clamp (by omega)
    have h10 : ¬ (1 : Int32) = 0 := by decide
    by_cases h3 : tx.length < 80
    · have hb : tx.length < qN m 439 := by omega
      have h80 : ¬ tx.length = 80 := by omega
      refine ⟨qsI (qsI m 433 7 (nI (tx.length + 1))) 439 tx.length (nI c), ?_, ?_, (Fx.rf.sI (Or.inl rfl)).sI (Or.inr rfl), fun j hj => by simp [qS, hj]⟩
      · simp only [h1, h2, h2', h3, ↓reduceIte, Option.bind_some, h10]
        simp (disch := first | assumption | omega | (simp only [qS]; assumption)) only [qP, qS, Option.bind_some, r6, t1, lits, nA, h80, ↓reduceIte]
        simp
      · rw [if_neg h1, if_pos h2, if_pos h3, hcl]
        refine ⟨by simp [qS], by simp; omega, fun i hi => ?_⟩
        have hi2 : i < tx.length + 1 := by simpa using hi
        by_cases he : i = tx.length
        · subst he
          simp [qS]; omega
        · have hi3 : i < tx.length := by omega
          have e : (tx ++ [c]).getD i 0 = tx.getD i 0 := by simp [List.getD_eq_getElem?_getD, List.getElem?_append_left hi3]
          rw [e]
          refine ⟨?_, (t3 i hi3).2⟩
          have e1 : ¬ (439 : Nat) = 433 := by decide
          simp only [qS, e1, he, ↓reduceIte]
          exact (t3 i hi3).1
    · have h80 : tx.length = 80 := by omega
      refine ⟨m, ?_, ?_, Fx.rf, fun _ _ => rfl⟩
      · simp only [h1, h2, h2', h3, ↓reduceIte, Option.bind_some, h10]
        simp (disch := first | assumption | omega | (simp only [qS]; assumption)) only [qP, qS, Option.bind_some, r6, t1, lits, nA, h80, ↓reduceIte]
      · rw [if_neg h1, if_pos h2, if_neg h3]; exact ⟨t1, t2, t3⟩
  · have h2' : 126 < v := Int32.not_le.mp h2
    refine ⟨m, ?_, ?_, Fx.rf, fun _ _ => rfl⟩
    · simp only [h1, h2, h2', ↓reduceIte, Option.bind_some]
    · rw [if_neg h1, if_neg h2]; exact ⟨t1, t2, t3⟩
theorem m_app {m : qM} {s : ST} (h : MP m s) (v : Int32) : ∃ m2, fX10_append NF 433 v m = some (aApp (sTx s) v, m2) ∧ MP m2 (wTx s (sApp (sTx s) v)) ∧ Fx (fun a => a = 433 ∨ a = 439) m m2 := by
  obtain ⟨m2, p1, p2, p3, p4⟩ := m_append2 h.1 h.2.2.1 v
  exact ⟨m2, p1, MP_txt h p3 p4 p2, p3⟩
theorem m_loadText {m : qM} {s : ST} (h : MP m s) (hs : okS s) (r i c : Int32) : ∃ m2, fX10_loadText NF 433 r i c m = some (aLd s r i c, m2) ∧ MP m2 (sLd s r i c) ∧ Gm m m2 := by
  have hP := h
  obtain ⟨hM, -, -, -, -, -, hR⟩ := h
  obtain ⟨k433, r15, r16, r17, k443, k444, k445, n443, n444, n445⟩ := hM.rw
  have hf := m_lacks hM hR r
  unfold fX10_loadText aLd sLd
  rcases aLk_cases (sRo s) r with ⟨h0, h0'⟩ | ⟨h0, j, ty, len, el, hj, rfl, hx⟩
  · rw [rowG_bad h0, rowG_bad h0]
    refine ⟨m, ?_, hP, Fx.rf⟩
    refine EC k433 hf ?_
    refine EIn (Int32.not_le.mpr h0') ?_
    rfl
  · rw [rowG_hit hj h0 hx, rowG_hit hj h0 hx]
    obtain ⟨w1, w2, w3, w4, w5⟩ := MRs_len hR hj hx
    have hz : (0 : Int32) ≤ aLk (sRo s) (nI j) := by rw [h0]; decide
    rcases spB_cases w4 i c with ⟨e1, -, a, q, rfl, rfl, e3, e4, e5⟩ | ⟨e1, e2⟩
    · rw [if_pos e1, if_pos e1, e4, e5]
      obtain ⟨b, b1, m', b2, b3, b4⟩ := walk (l := fun g (x : Int32 × qM) => lX10_loadText_45 NF 433 (nI j) (nI a) (nI q) g x.1 x.2) (J := fun r x => ∃ k m' tx, k + r = q ∧ x = (nI k, m') ∧ MP m' (wTx s tx) ∧ Fx (fun a => a = 433 ∨ a = 439) m m' ∧ ldT el a r k tx = ldT el a q 0 (sTx s)) (Q := fun b => ∃ m', b = (nI (ldT el a q 0 (sTx s)).1, m') ∧ MP m' (wTx s (ldT el a q 0 (sTx s)).2) ∧ Fx (fun a => a = 433 ∨ a = 439) m m') (fun g r x hj2 => by
        obtain ⟨k, m', tx, hk, rfl, hP', hF, hl⟩ := hj2
        obtain ⟨K433, -, -, R17, -, -, K445, -, -, N445⟩ := hP'.1.rw
        obtain ⟨v1, v2, v3, v4, v5⟩ := MRs_len hP'.2.2.2.2.2.2 hj hx
        obtain ⟨m2, p1, p2, p3⟩ := m_app hP' (el (a + k))
        have hpre2 : ∀ R, (if aApp tx (el (a + k)) ≤ 0 then some (nI k, m2) else lX10_loadText_45 NF 433 (nI j) (nI a) (nI q) g (nI (k + 1)) m2) = R → lX10_loadText_45 NF 433 (nI j) (nI a) (nI q) (g + 1) (nI k) m' = R := by
          intro R hR2
          unfold lX10_loadText_45
          refine EIn (fun z => by have := (nI_leI (by omega) (by omega)).mp z; omega) ?_
          refine EgR K433 R17 ?_
          refine EaI K445 (show (((80 : Int32) * nI j) + nI a) + nI k = nI (80 * j + (a + k)) by rw [show (80 : Int32) * nI j = nI (80 * j) from pk_mul 80 j, nI_add, nI_add, Nat.add_assoc]) (by omega) (by omega) (v5 (a + k) (by omega)) ?_
          refine EC K433 p1 ?_
          rw [nI_s]
          exact hR2
        rw [ldT_s] at hl
        by_cases e : aApp tx (el (a + k)) ≤ 0
        · rw [if_pos e] at hl
          have hl2 : ldT el a q 0 (sTx s) = (k, sApp tx (el (a + k))) := by rw [hl]
          refine Or.inr ⟨_, hpre2 _ (if_pos e), m2, ?_, ?_, hF.tr p3⟩
          · rw [hl2]
          · rw [hl2]; exact p2
        · rw [if_neg e] at hl
          exact Or.inl ⟨(nI (k + 1), m2), ⟨k + 1, m2, _, by omega, rfl, p2, hF.tr p3, hl⟩, hpre2 _ (if_neg e)⟩) (fun g x hj2 => by
        obtain ⟨k, m', tx, hk, rfl, hP', hF, hl⟩ := hj2
        obtain rfl : k = q := by omega
        have hl2 : (k, tx) = ldT el a k 0 (sTx s) := hl
        refine ⟨(nI k, m'), ?_, m', by rw [← hl2], by rw [← hl2]; exact hP', hF⟩
        show lX10_loadText_45 NF 433 (nI j) (nI a) (nI k) (g + 1) (nI k) m' = _
        unfold lX10_loadText_45
        refine EIp ((nI_leI (by omega) (by omega)).mpr (Nat.le_refl _)) ?_
        rfl) q NF (nI 0, m) (by unfold NF; omega) ⟨0, m, sTx s, by omega, rfl, hP, Fx.rf, rfl⟩
      refine ⟨m', ?_, b3, b4.mono (fun a ha => by omega)⟩
      refine EC k433 hf ?_
      refine EIp hz ?_
      refine EIn (nI_pos (by omega)) ?_
      refine EIn (nI_pos (by omega)) ?_
      refine EgR k433 r16 ?_
      refine EaI k444 rfl (show j < qN m 444 by omega) (by omega) w3 ?_
      refine EIp ((lsum (by omega) (by omega) (by omega)).mpr e3) ?_
      refine EB (show lX10_loadText_45 NF 433 (nI j) (nI a) (nI q) NF 0 m = some (nI (ldT el a q 0 (sTx s)).1, m') by rw [← b2]; exact b1) ?_
      rfl
    · rw [e1]
      refine ⟨m, ?_, hP, Fx.rf⟩
      refine EC k433 hf ?_
      refine EIp hz ?_
      by_cases h1 : i < 0
      · refine EIp h1 ?_
        rfl
      · refine EIn h1 ?_
        by_cases h2 : c < 0
        · refine EIp h2 ?_
          rfl
        · refine EIn h2 ?_
          obtain ⟨a, ha, rfl⟩ := nI_of (x := i) h1
          obtain ⟨q, hq, rfl⟩ := nI_of (x := c) h2
          refine EgR k433 r16 ?_
          refine EaI k444 rfl (show j < qN m 444 by omega) (by omega) w3 ?_
          refine EIn (fun z => e2 ⟨a, q, rfl, rfl, (lsum ha hq (by omega)).mp z⟩) ?_
          rfl
end
