section
-- ===== shortest of the class =====
def dSr (a : Nat) : Prop := 132 ≤ a ∧ a ≤ 388
theorem CLv_148 {m : qM} {s : ST} {P : PL} {z : Nat} {v : Int32} (hn : sN s ≤ 60) (h : CLv m s P) : CLv (qsI m 148 z v) s P := by
  have f : Fx (fun a => a = 148) m (qsI m 148 z v) := Fx.rf.sI rfl
  exact ⟨CP_fx h.1 hn f (fun a ha => by omega), by rw [f.i (by omega)]; exact h.2.1, fun y hy => CFm_of (h.2.2 y hy) (f.i (by omega)) (f.i (by omega))⟩
theorem c_after {s : ST} {k j mo : Nat} {S : Nat → Nat} {P P2 : PL} {rec : Int32 → qM → Option (qM ⊕ (Int32 × qM))} (hs : okS s) (hj : j < sN s) (hk : k ≤ 4) {m : qM} (h : CLv m s P2) (hP : okQ P2) (hI : lvI S k P) (hE : exP k P P2) (h148 : ∀ z, z ≤ k → qI m 148 z = nI (S z)) : ∃ m2, kX2_search_50 NF rec 144 5 (12 + 2 * j) (nI mo) (nI k) 1 m = (if covK P2 k (sFo s j) = true then some (.inr (nI k, m2)) else rec (nI (k + 1)) m2) ∧ CLv m2 s P2 ∧ (∀ z, z < k + 1 → qI m2 148 z = nI (setN S (k + 1) P2.1 z)) ∧ Fx dSr m m2 := by
  have hn := hs.1.1
  have h120 := hP.1
  obtain ⟨k144, r0, r1, r2, r3, r4, k147, n147, k148, n148, F145⟩ := h.1.1.pv
  have h3 : CLv (qsI m 148 (k + 1) (nI P2.1)) s P2 := CLv_148 hn h
  have f3 : Fx dSr m (qsI m 148 (k + 1) (nI P2.1)) := Fx.rf.sI (show dSr 148 by unfold dSr; omega)
  obtain ⟨i1, i2, i3', i4, i5, i6⟩ := hI
  obtain ⟨e1, e2, e3⟩ := hE
  obtain ⟨m2, q1, q2⟩ := c_cov2 (k := k) (was := P.1) hs hj (by omega) h3 hP e1 (show qI (qsI m 148 (k + 1) (nI P2.1)) 148 k = nI P.1 by simp only [qS]; rw [if_pos trivial, if_neg (by omega), h148 k (by omega), i2]) (by simp [qS]) (fun z hz => by have := (i6 z hz).1; rw [(e2 z hz).2]; omega) (fun z h1 h2 => e3 z h1 h2)
  refine ⟨m2, ?_, ⟨CP_fx h3.1 hn q2 (fun a ha => by omega), by rw [q2.i (by omega)]; exact h3.2.1, fun y hy => CFm_of (h3.2.2 y hy) (q2.i (by omega)) (q2.i (by omega))⟩, fun z hz => ?_, f3.tr (q2.mono (fun a ha => by unfold dSr; omega))⟩
  · have hpre : ∀ R, (if iB (covK P2 k (sFo s j)) = 0 then rec (nI (k + 1)) m2 else some (.inr (nI k, m2))) = R → kX2_search_50 NF rec 144 5 (12 + 2 * j) (nI mo) (nI k) 1 m = R := by
      intro R hR
      unfold kX2_search_50
      refine EIn i10 ?_
      refine EgR k144 r4 ?_
      refine EgI k144 h.2.1 ?_
      refine EwI k148 (nI_s _) (show k + 1 < qN m 148 by omega) (by omega) rfl ?_
      refine EC (show qK (qsI m 148 (k + 1) (nI P2.1)) 144 = 2 from k144) q1 ?_
      rw [nI_s]
      exact hR
    by_cases e : covK P2 k (sFo s j) = true
    · rw [if_pos e]
      exact hpre _ (by rw [e]; exact if_neg i10)
    · have e' : covK P2 k (sFo s j) = false := by simpa using e
      rw [if_neg e]
      exact hpre _ (by rw [e']; exact if_pos rfl)
  · rw [q2.i (by omega), setN_ne (by omega)]
    simp only [qS]
    rw [if_pos trivial, if_neg (by omega)]
    exact h148 z (by omega)
def P00 : PL := (0, fun _ => .var 0, fun _ => 0)
theorem lvR0 {P : PL} : lvR 0 P = some P := if_pos rfl
theorem srch_s {φ : Tm} {r k : Nat} {P : PL} : srch φ (r + 1) k P = match lvR k P with
    | none => -5
    | some P2 => if covK P2 k φ = true then nI k else srch φ r (k + 1) P2 := rfl
theorem srch_none {φ : Tm} {r k : Nat} {P : PL} (h : lvR k P = none) : srch φ (r + 1) k P = -5 := by rw [srch_s, h]
theorem srch_some {φ : Tm} {r k : Nat} {P P2 : PL} (h : lvR k P = some P2) : srch φ (r + 1) k P = if covK P2 k φ = true then nI k else srch φ r (k + 1) P2 := by rw [srch_s, h]
theorem c_search {s : ST} {j mo : Nat} (hs : okS s) (hj : j < sN s) (hmo : mo ≤ 4) {m : qM} (h : CP m s) : ∃ m2, fX2_search NF 144 5 (12 + 2 * j) (nI mo) m = some (srch (sFo s j) (mo + 1) 0 (ax0 s), m2) ∧ CP m2 s ∧ Gc m m2 := by
  have hn := hs.1.1
  obtain ⟨k144, r0, r1, r2, r3, r4, k147, n147, k148, n148, F145⟩ := h.1.pv
  have f1 : Fx dSr m (qsI m 144 5 0) := Fx.rf.sI (show dSr 144 by unfold dSr; omega)
  have hL1 : CLv (qsI m 144 5 0) s P00 := ⟨CP_fx h hn f1 (fun a ha => by unfold dSr at ha; omega), by simp [qS, P00]; rfl, fun z hz => absurd hz (by show ¬ z < 0; omega)⟩
  obtain ⟨T, hTd⟩ : ∃ T, T = srch (sFo s j) (mo + 1) 0 (ax0 s) := ⟨_, rfl⟩
  obtain ⟨r, e1, m2, e2, e3, e4⟩ := walk (l := fun g (z : Int32 × qM) => lX2_search_8 NF 144 5 (12 + 2 * j) (nI mo) g z.1 z.2) (J := fun r z => ∃ k m' P S, k + r = mo + 1 ∧ z = (nI k, m') ∧ CLv m' s P ∧ okQ P ∧ lvI S k P ∧ (∀ z, z < k → qI m' 148 z = nI (S z)) ∧ Fx dSr m m' ∧ srch (sFo s j) r k (if k = 0 then ax0 s else P) = T ∧ (k = 0 → P = P00)) (Q := fun b => ∃ m2, CP m2 s ∧ Fx dSr m m2 ∧ (b = .inr (T, m2) ∨ (b = .inl m2 ∧ T = -4))) (fun g r z hj2 => by
    obtain ⟨k, m', P, S, hk, rfl, hL, hP, hI, h148, hF, hT, h00⟩ := hj2
    have hk4 : k ≤ 4 := by omega
    have h120 := hP.1
    obtain ⟨K144, R0, R1, R2, R3, R4, K147, N147, K148, N148, -⟩ := hL.1.1.pv
    have hL3 : CLv (qsI m' 148 k (nI P.1)) s P := CLv_148 hn hL
    have f3 : Fx dSr m' (qsI m' 148 k (nI P.1)) := Fx.rf.sI (show dSr 148 by unfold dSr; omega)
    have h148' : ∀ z, z ≤ k → qI (qsI m' 148 k (nI P.1)) 148 z = nI (S z) := fun z hz => by
      simp only [qS]
      rw [if_pos trivial]
      by_cases e : z = k
      · rw [if_pos e, e, hI.2.1]
      · rw [if_neg e]; exact h148 z (by omega)
    have hpre : ∀ R, (if nI k = 0 then (qChk (qsI m' 148 k (nI P.1)) 144 2 (fX2_addAxioms NF 144 5 (qsI m' 148 k (nI P.1)))).bind fun b5 => kX2_search_50 NF (lX2_search_8 NF 144 5 (12 + 2 * j) (nI mo) g) 144 5 (12 + 2 * j) (nI mo) (nI k) b5.1 b5.2 else (qChk (qsI m' 148 k (nI P.1)) 144 2 (fX2_addLevel NF 144 (nI k) (qsI m' 148 k (nI P.1)))).bind fun b4 => kX2_search_50 NF (lX2_search_8 NF 144 5 (12 + 2 * j) (nI mo) g) 144 5 (12 + 2 * j) (nI mo) (nI k) b4.1 b4.2) = R → lX2_search_8 NF 144 5 (12 + 2 * j) (nI mo) (g + 1) (nI k) m' = R := by
      intro R hR
      unfold lX2_search_8
      refine EIn (fun z => by have := (nI_ltI (by omega) (by omega)).mp z; omega) ?_
      refine EIn (fun z => by have := (nI_ltI (a := 4) (by omega) (by omega)).mp z; omega) ?_
      refine EgR K144 R4 ?_
      refine EgI K144 hL.2.1 ?_
      refine EwI K148 rfl (show k < qN m' 148 by omega) (by omega) rfl ?_
      exact hR
    have fin : ∀ (P2 : PL) (m4 : qM) (Pk : PL), Pk = (if k = 0 then ax0 s else P) → lvR k Pk = some P2 → CLv m4 s P2 → okQ P2 → exP k P P2 → Fx dPL (qsI m' 148 k (nI P.1)) m4 → (lX2_search_8 NF 144 5 (12 + 2 * j) (nI mo) (g + 1) (nI k) m' = kX2_search_50 NF (lX2_search_8 NF 144 5 (12 + 2 * j) (nI mo) g) 144 5 (12 + 2 * j) (nI mo) (nI k) 1 m4) → (∃ z2 : Int32 × qM, (∃ k m' P S, k + r = mo + 1 ∧ z2 = (nI k, m') ∧ CLv m' s P ∧ okQ P ∧ lvI S k P ∧ (∀ z, z < k → qI m' 148 z = nI (S z)) ∧ Fx dSr m m' ∧ srch (sFo s j) r k (if k = 0 then ax0 s else P) = T ∧ (k = 0 → P = P00)) ∧ lX2_search_8 NF 144 5 (12 + 2 * j) (nI mo) (g + 1) (nI k) m' = lX2_search_8 NF 144 5 (12 + 2 * j) (nI mo) g z2.1 z2.2) ∨ ∃ b, lX2_search_8 NF 144 5 (12 + 2 * j) (nI mo) (g + 1) (nI k) m' = some b ∧ ∃ m2, CP m2 s ∧ Fx dSr m m2 ∧ (b = .inr (T, m2) ∨ (b = .inl m2 ∧ T = -4)) := by
      intro P2 m4 Pk hPk hl hL4 hP4 hE4 hF4 hgo
      rw [← hPk, srch_some hl] at hT
      obtain ⟨m6, u1, u2, u3, u4⟩ := c_after (j := j) (mo := mo) (rec := lX2_search_8 NF 144 5 (12 + 2 * j) (nI mo) g) hs hj hk4 hL4 hP4 hI hE4 (fun z hz => by rw [hF4.i (by unfold dPL; omega)]; exact h148' z hz)
      have f6 : Fx dSr m m6 := ((hF.tr f3).tr (hF4.mono (fun a ha => by unfold dPL at ha; unfold dSr; omega))).tr u4
      rw [hgo]
      by_cases e : covK P2 k (sFo s j) = true
      · rw [if_pos e] at hT u1
        exact Or.inr ⟨_, u1, m6, u2.1, f6, Or.inl (by rw [hT])⟩
      · rw [if_neg e] at hT u1
        exact Or.inl ⟨(nI (k + 1), m6), ⟨k + 1, m6, P2, _, by omega, rfl, u2, hP4, lvI_next hI hE4, u3, f6, by rw [if_neg (by omega)]; exact hT, fun z => absurd z (by omega)⟩, u1⟩
    by_cases hk0 : k = 0
    · have hPP := h00 hk0
      subst hk0
      subst hPP
      obtain ⟨m4, q1, q2, q3, q4, q5⟩ := c_addAxs hs hL3 hP rfl
      refine fin (ax0 s) m4 (ax0 s) (if_pos rfl).symm lvR0 q2 q3 q4 q5 (hpre _ ?_)
      refine EIp rfl ?_
      refine EC (show qK (qsI m' 148 0 (nI P00.1)) 144 = 2 from K144) q1 ?_
      rfl
    · obtain ⟨q, q1, q2⟩ := c_addLevel (k := k) hn hk4 (by omega) hL3 hP hI h148'
      have hne : ¬ nI k = 0 := fun z => hk0 ((nI_eq (b := 0) (by omega) (by omega)).mp z)
      rcases q2 with ⟨P2, m4, t1, rfl, t3, t4, t5, t6⟩ | ⟨m4, t1, rfl, t3, t4⟩
      · refine fin P2 m4 P (if_neg hk0).symm t1 t3 t4 t5 t6 (hpre _ ?_)
        refine EIn hne ?_
        refine EC (show qK (qsI m' 148 k (nI P.1)) 144 = 2 from K144) q1 ?_
        rfl
      · rw [if_neg hk0, srch_none t1] at hT
        refine Or.inr ⟨.inr (-5, m4), hpre _ ?_, m4, t3, (hF.tr f3).tr (t4.mono (fun a ha => by unfold dPL at ha; unfold dSr; omega)), Or.inl (by rw [hT])⟩
        refine EIn hne ?_
        refine EC (show qK (qsI m' 148 k (nI P.1)) 144 = 2 from K144) q1 ?_
        unfold kX2_search_50
        refine EIp rfl ?_
        rfl) (fun g z hj2 => by
    obtain ⟨k, m', P, S, hk, rfl, hL, hP, hI, h148, hF, hT, h00⟩ := hj2
    obtain rfl : k = mo + 1 := by omega
    refine ⟨.inl m', ?_, m', hL.1, hF, Or.inr ⟨rfl, hT.symm⟩⟩
    show lX2_search_8 NF 144 5 (12 + 2 * j) (nI mo) (g + 1) (nI (mo + 1)) m' = _
    unfold lX2_search_8
    refine EIp ((nI_ltI (by omega) (by omega)).mpr (by omega)) ?_
    rfl) (mo + 1) NF (nI 0, qsI m 144 5 0) (by unfold NF; omega) ⟨0, _, P00, fun _ => 0, by omega, rfl, hL1, ⟨by show 0 ≤ 120; omega, fun z hz => absurd hz (by show ¬ z < 0; omega)⟩, ⟨rfl, rfl, fun i hi => absurd hi (by omega), fun i hi => Nat.le_refl _, fun i hi => absurd hi (by omega), fun y hy => absurd hy (by show ¬ y < 0; omega)⟩, fun z hz => absurd hz (by omega), f1, by rw [if_pos rfl, hTd], fun _ => rfl⟩
  rw [← hTd]
  have hpre : ∀ R, (qTh (some r) (fun o2 => some ((-4 : Int32), o2)) (fun r => r)) = R → fX2_search NF 144 5 (12 + 2 * j) (nI mo) m = R := by
    intro R hR
    unfold fX2_search
    refine EpI k144 rfl ?_
    rw [show lX2_search_8 NF 144 5 (12 + 2 * j) (nI mo) NF 0 (qsI m 144 5 0) = some r from e1]
    exact hR
  have g2 : Gc m m2 := e3.mono (fun a ha => by unfold dSr at ha; omega)
  rcases e4 with rfl | ⟨rfl, e5⟩
  · exact ⟨m2, hpre _ rfl, e2, g2⟩
  · exact ⟨m2, hpre _ (by rw [e5]; rfl), e2, g2⟩
theorem c_shortest {m : qM} {s : ST} (h : CP m s) (hs : okS s) (v w : Int32) : ∃ m2, fX9_shortest NF 0 v w m = some (aSh s v w, m2) ∧ CP m2 s ∧ Gc m m2 := by
  have hX := h.1
  have hL := h.2.2.2.2.1
  have hn := hs.1.1
  obtain ⟨k0, r00, r01, r02, r03, r04, r05, -⟩ := hX.c0
  have k5 := hX.ls.1
  unfold fX9_shortest aSh
  rcases hasA_cases (n := sN s) (by omega) v with ⟨h1, -⟩ | ⟨j, hj, rfl, h1⟩
  · rw [ansN_miss h1]
    refine ⟨m, ?_, h, Fx.rf⟩
    refine EgR k0 r02 ?_
    refine EC k5 (c_has k5 hL.1 v) ?_
    refine EIp h1 ?_
    rfl
  · rw [ansN_hit (by omega) h1]
    have hpre : ∀ R, (if w < 0 then some ((-2 : Int32), m) else if w ≤ (4 : Int32) then (qgR m 0 9 5).bind fun x3 => (qgR m 0 9 2).bind fun x4 => (qgR m 0 9 2).bind fun x5 => (qChk m x5 1 (fX1_at NF x5 (nI j) m)).bind fun b6 => (qChk b6.2 x3 2 (fX2_search NF x3 x4 b6.1 w b6.2)).bind fun b7 => some (b7.1, b7.2) else some ((-2 : Int32), m)) = R → ((qgR m 0 9 2).bind fun x1 => (qChk m x1 1 (fX1_has NF x1 (nI j) m)).bind fun b2 => if b2.1 = 0 then some ((-1 : Int32), b2.2) else if w < 0 then some ((-2 : Int32), b2.2) else if w ≤ (4 : Int32) then (qgR b2.2 0 9 5).bind fun x3 => (qgR b2.2 0 9 2).bind fun x4 => (qgR b2.2 0 9 2).bind fun x5 => (qChk b2.2 x5 1 (fX1_at NF x5 (nI j) b2.2)).bind fun b6 => (qChk b6.2 x3 2 (fX2_search NF x3 x4 b6.1 w b6.2)).bind fun b7 => some (b7.1, b7.2) else some ((-2 : Int32), b2.2)) = R := by
      intro R hR
      refine EgR k0 r02 ?_
      refine EC k5 (c_has k5 hL.1 _) ?_
      refine EIn (show ¬ hasA (sN s) (nI j) = 0 by rw [h1]; exact i10) ?_
      exact hR
    by_cases h2 : w < 0
    · rw [if_pos h2]
      exact ⟨m, hpre _ (if_pos h2), h, Fx.rf⟩
    · rw [if_neg h2]
      by_cases h3 : w ≤ 4
      · rw [if_pos h3]
        obtain ⟨mo, hmo, rfl⟩ := nI_of (x := w) h2
        have h3' : nI mo ≤ nI 4 := h3
        rw [nI_leI hmo (by omega)] at h3'
        rw [nI_clamp hmo]
        obtain ⟨m2, q1, q2, q3⟩ := c_search (j := j) (mo := mo) hs hj h3' h
        refine ⟨m2, hpre _ ?_, q2, q3⟩
        refine EIn h2 ?_
        refine EIp h3 ?_
        refine EgR k0 r05 ?_
        refine EgR k0 r02 ?_
        refine EgR k0 r02 ?_
        refine EC k5 (c_lat hX (by omega)) ?_
        refine EC hX.pv.1 q1 ?_
        rfl
      · rw [if_neg h3]
        refine ⟨m, hpre _ ?_, h, Fx.rf⟩
        refine EIn h2 ?_
        refine EIn h3 ?_
        rfl
end
