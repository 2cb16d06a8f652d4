section
-- ===== shortest of the reference: axioms, levels =====
theorem sh63 {N v0 : Nat} {v1 v2 v3 v4 : Int32} : ∀ (n : Nat) (v5 : Int32) (m : qM), lX10_shortest_63 N v0 v1 v2 v3 v4 n v5 m = lX10_writeFormula_22 N v0 v4 n v5 m := by
  intro n
  induction n with
  | zero => intro v5 m; rfl
  | succ n ih =>
    intro v5 m
    unfold lX10_shortest_63 lX10_writeFormula_22
    simp only [ih]
theorem m_axs {s : ST} {v1 v2 : Int32} {m : qM} (hs : okS s) (h : MP m s) : ∃ m2, lX10_shortest_27 NF 433 v1 v2 NF 0 0 m = some (nI (ax0 s).1, m2) ∧ MLv m2 s (ax0 s) ∧ okQ (ax0 s) ∧ exP 0 P00 (ax0 s) ∧ Gm m m2 := by
  have hn := hs.1.1
  obtain ⟨r, e1, m2, rfl, e3⟩ := walk (l := fun g (z : Int32 × Int32 × qM) => lX10_shortest_27 NF 433 v1 v2 g z.1 z.2.1 z.2.2) (J := fun r z => ∃ j m' P', j + r = sN s ∧ z = (nI P'.1, nI j, m') ∧ MLv m' s P' ∧ okQ P' ∧ P'.1 ≤ j ∧ exP 0 P00 P' ∧ Gm m m' ∧ axIn (sEn s) (sFo s) r j P' = ax0 s) (Q := fun r => ∃ m2, r = (nI (ax0 s).1, m2) ∧ MLv m2 s (ax0 s) ∧ okQ (ax0 s) ∧ exP 0 P00 (ax0 s) ∧ Gm m m2) (fun g r z hj2 => by
    obtain ⟨j, m', P', hj, rfl, hL, hP', hjn, hE, hF, hT⟩ := hj2
    have hLs := hL.1.2.2.2.2.1
    obtain ⟨s1, s2, s3⟩ := hLs.2 j (by omega)
    obtain ⟨k433, r0, r1, r2, r3, k434, k435, k436, k437, n434, n435, n436, n437⟩ := hL.1.1.a
    have hF2 := hs.1.2.2 j (by omega)
    rw [axIn_s] at hT
    have hneg := mj_neg (n := j) (e := sEn s j) (by omega) (fun a b z => hs.1.2.1 j a b (by omega) z)
    have hpre : ∀ R, (if mjv (sEn s j) < 0 then (qpI m' 433 10 27 (nI (tS (sFo s j)))).bind fun m6 => (lX10_shortest_63 NF 433 v1 v2 (nI P'.1) (nI j) NF (0 : Int32) m6).bind fun o7 => (qChk o7 433 10 (fX10_puts NF 433 ((60 : Int32) + nI P'.1) o7)).bind fun b8 => (qgR b8 433 10 4).bind fun x9 => (qwI b8 x9 12 (nI P'.1) (0 : Int32)).bind fun m10 => lX10_shortest_27 NF 433 v1 v2 g (nI (P'.1 + 1)) (nI (j + 1)) m10 else lX10_shortest_27 NF 433 v1 v2 g (nI P'.1) (nI (j + 1)) m') = R → lX10_shortest_27 NF 433 v1 v2 (g + 1) (nI P'.1) (nI j) m' = R := by
      intro R hR
      conv => lhs; unfold lX10_shortest_27 kX10_shortest_116
      refine EgI k433 hLs.1 ?_
      refine EIn (fun z => by have := (nI_leI (by omega) (by omega)).mp z; omega) ?_
      refine EgR k433 r2 ?_
      refine EaI k436 rfl (show j < qN m' 436 by omega) (by omega) s2 ?_
      by_cases e : mjv (sEn s j) < 0
      · rw [if_pos e] at hR
        refine EIp e ?_
        refine EgR k433 r1 ?_
        refine EaI k435 rfl (show j < qN m' 435 by omega) (by omega) s1.1 ?_
        rw [nI_s, nI_s]
        exact hR
      · rw [if_neg e] at hR
        refine EIn e ?_
        rw [nI_s]
        exact hR
    by_cases e : sEn s j = none
    · rw [if_pos e] at hT
      have hlt : mjv (sEn s j) < 0 := by rw [e]; decide
      obtain ⟨m7, t1, t2, t3, t4⟩ := m_takes (i := j) hL.1.1 (by omega) s1 hF2.2.1
      have hL7 : MLv m7 s P' := MLv_fx hL t2 (fun a ha => by omega) (t3 5 (by decide)) (t3 7 (by decide)) (t3 11 (by decide)) (t3 13 (by decide))
      obtain ⟨m2, q1, q2, q3, q4⟩ := m_addP (k := 0) hL7 hs hP' (by omega) t4 hF2
      obtain ⟨o1, o2⟩ := plAdd_ok (k := 0) hP' (by omega) hF2
      obtain ⟨K2, R42, K4382, N4382⟩ := q2.1.1.lv
      have f9 : Gm m2 (qsI m2 438 P'.1 (nI 0)) := Fx.rf.sI (show 433 ≤ 438 by omega)
      refine Or.inl ⟨(nI (P'.1 + 1), nI (j + 1), qsI m2 438 P'.1 (nI 0)), ⟨j + 1, _, plAdd 0 P' (sFo s j), by omega, rfl, q2, o1, by show P'.1 + 1 ≤ j + 1; omega, hE.tr o2, ((hF.tr (t2.mono (fun a ha => by omega))).tr q3).tr f9, hT⟩, hpre _ ?_⟩
      refine EIp hlt ?_
      refine EpI k433 rfl ?_
      refine EB (by rw [sh63]; exact t1) ?_
      refine EC hL7.1.1.a.1 q1 ?_
      refine EgR K2 R42 ?_
      refine EwI K4382 rfl (show P'.1 < qN (qsI m2 438 P'.1 (nI 0)) 438 by omega) (by omega) (show (0 : Int32) = nI 0 from rfl) ?_
      rfl
    · rw [if_neg e] at hT
      have hlt : ¬ mjv (sEn s j) < 0 := Int32.not_lt.mpr (hneg.mpr e)
      exact Or.inl ⟨(nI P'.1, nI (j + 1), m'), ⟨j + 1, m', P', by omega, rfl, hL, hP', by omega, hE, hF, hT⟩, hpre _ (if_neg hlt)⟩) (fun g z hj2 => by
    obtain ⟨j, m', P', hj, rfl, hL, hP', hjn, hE, hF, hT⟩ := hj2
    obtain rfl : j = sN s := by omega
    have hT' : P' = ax0 s := hT
    refine ⟨(nI P'.1, m'), ?_, m', by rw [hT'], hT' ▸ hL, hT' ▸ hP', hT' ▸ hE, hF⟩
    show lX10_shortest_27 NF 433 v1 v2 (g + 1) (nI P'.1) (nI (sN s)) m' = _
    unfold lX10_shortest_27
    refine EgI hL.1.1.a.1 hL.1.2.2.2.2.1.1 ?_
    refine EIp ((nI_leI (by omega) (by omega)).mpr (Nat.le_refl _)) ?_
    rfl) (sN s) NF (nI 0, nI 0, m) (by unfold NF; omega) ⟨0, m, P00, by omega, rfl, ⟨h, fun z hz => absurd hz (by show ¬ z < 0; omega)⟩, ⟨by show 0 ≤ 120; omega, fun z hz => absurd hz (by show ¬ z < 0; omega)⟩, by show 0 ≤ 0; omega, exP.rf, Fx.rf, rfl⟩
  exact ⟨m2, e1, e3⟩
theorem m_shortest {m : qM} {s : ST} (h : MP m s) (hs : okS s) (v w : Int32) : ∃ m2, fX10_shortest NF 433 v w m = some (aSh s v w, m2) ∧ MP m2 s ∧ Gm m m2 := by
  have hL := h.2.2.2.2.1
  have hn := hs.1.1
  have k433 := h.1.a.1
  unfold fX10_shortest aSh
  rcases hasA_cases (n := sN s) (by omega) v with ⟨h1, -⟩ | ⟨j, hj, rfl, h1⟩
  · rw [ansN_miss h1]
    refine ⟨m, ?_, h, Fx.rf⟩
    refine EC k433 (m_isOne k433 hL.1 hn v) ?_
    refine EIp h1 ?_
    rfl
  rw [ansN_hit (by omega) h1]
  have hpre : ∀ (b : Int32) R, fX10_in NF w 0 4 m = some (b, m) → (if b = 0 then some ((-2 : Int32), m) else (lX10_shortest_27 NF 433 (nI j) w NF (0 : Int32) (0 : Int32) m).bind fun o3 => qTh (lX10_shortest_125 NF 433 (nI j) w NF o3.1 (0 : Int32) o3.2) (fun o4 => some ((-4 : Int32), o4)) (fun r => r)) = R → ((qChk m 433 10 (fX10_isOne NF 433 (nI j) m)).bind fun b1 => if b1.1 = 0 then some ((-1 : Int32), b1.2) else (fX10_in NF w (0 : Int32) (4 : Int32) b1.2).bind fun b2 => if b2.1 = 0 then some ((-2 : Int32), b2.2) else (lX10_shortest_27 NF 433 (nI j) w NF (0 : Int32) (0 : Int32) b2.2).bind fun o3 => qTh (lX10_shortest_125 NF 433 (nI j) w NF o3.1 (0 : Int32) o3.2) (fun o4 => some ((-4 : Int32), o4)) (fun r => r)) = R := by
    intro b R hb hR
    refine EC k433 (m_isOne k433 hL.1 hn _) ?_
    refine EIn (show ¬ hasA (sN s) (nI j) = 0 by rw [h1]; exact i10) ?_
    refine EB hb ?_
    exact hR
  by_cases h2 : w < 0
  · rw [if_pos h2]
    exact ⟨m, hpre 0 _ (by rw [fX10_in_eq, if_pos h2]) (if_pos rfl), h, Fx.rf⟩
  rw [if_neg h2]
  by_cases h3 : w ≤ 4
  · rw [if_pos h3]
    obtain ⟨mo, hmo, rfl⟩ := nI_of (x := w) h2
    have h3' : nI mo ≤ nI 4 := h3
    rw [nI_leI hmo (by omega)] at h3'
    rw [nI_clamp hmo]
    obtain ⟨m1, a1, a2, a3, a4, a5⟩ := m_axs (v1 := nI j) (v2 := nI mo) hs h
    obtain ⟨T, hTd⟩ : ∃ T, T = srch (sFo s j) (mo + 1) 0 (ax0 s) := ⟨_, rfl⟩
    obtain ⟨r, e1, m2, e2, e3, e4⟩ := walk (l := fun g (z : Int32 × Int32 × qM) => lX10_shortest_125 NF 433 (nI j) (nI mo) g z.1 z.2.1 z.2.2) (J := fun r z => ∃ k m' P, k + r = mo + 1 ∧ z = (nI P.1, nI k, m') ∧ MLv m' s P ∧ okQ P ∧ (∀ z, z < P.1 → P.2.2 z < max k 1) ∧ Gm m m' ∧ srch (sFo s j) r k P = T) (Q := fun b => ∃ m2, MP m2 s ∧ Gm m m2 ∧ (b = .inr (T, m2) ∨ (b = .inl m2 ∧ T = -4))) (fun g r z hj2 => by
      obtain ⟨k, m', P, hk, rfl, hL', hP, hlv, hF, hT⟩ := hj2
      have hk4 : k ≤ 4 := by omega
      obtain ⟨q, q1, q2⟩ := m_shOut (v1 := nI j) (v2 := nI mo) (k := k) hs hk4 (fun hk0 z hz => by have := hlv z hz; omega) hL' hP
      have hpre2 : ∀ R, (qTh (some q) (fun o1 => qTh (lX10_shortest_257 NF 433 (nI j) (nI mo) o1.1 (nI k) NF (0 : Int32) o1.2) (fun o2 => lX10_shortest_125 NF 433 (nI j) (nI mo) g o1.1 (nI (k + 1)) o2) (fun r => .inr r)) (fun r => .inr r)) = R → lX10_shortest_125 NF 433 (nI j) (nI mo) (g + 1) (nI P.1) (nI k) m' = R := by
        intro R hR
        conv => lhs; unfold lX10_shortest_125
        refine EIn (fun z => by have := (nI_ltI (by omega) (by omega)).mp z; omega) ?_
        rw [show lX10_shortest_137 NF 433 (nI j) (nI mo) (nI k) (nI P.1) NF (nI P.1) (0 : Int32) m' = some q from q1, nI_s]
        exact hR
      rcases q2 with ⟨P2, m3, t1, rfl, t3, t4, t5, t6⟩ | ⟨m3, t1, rfl, t3, t4⟩
      · rw [srch_some t1] at hT
        have hlv2 : ∀ z, z < P2.1 → P2.2.2 z < k + 1 := fun z hz => by
          by_cases e : z < P.1
          · rw [(t5.2.1 z e).2]; have := hlv z e; omega
          · rw [t5.2.2 z (by omega) hz]; omega
        obtain ⟨m4, u1, u2, u3⟩ := m_cov2 (v2 := nI mo) (k := k) hs hj (by omega) t3 t4 (fun z hz => by have := hlv2 z hz; omega)
        by_cases e : covK P2 k (sFo s j) = true
        · rw [if_pos e] at hT u1
          refine Or.inr ⟨.inr (nI k, m4), hpre2 _ ?_, m4, u2.1, (hF.tr t6).tr u3, Or.inl (by rw [hT])⟩
          refine ETl rfl ?_
          refine ETr u1 ?_
          rfl
        · rw [if_neg e] at hT u1
          refine Or.inl ⟨(nI P2.1, nI (k + 1), m4), ⟨k + 1, m4, P2, by omega, rfl, u2, t4, fun z hz => by have := hlv2 z hz; omega, (hF.tr t6).tr u3, hT⟩, hpre2 _ ?_⟩
          refine ETl rfl ?_
          refine ETl u1 ?_
          rfl
      · rw [srch_none t1] at hT
        exact Or.inr ⟨.inr (-5, m3), hpre2 _ rfl, m3, t3, hF.tr t4, Or.inl (by rw [hT])⟩) (fun g z hj2 => by
      obtain ⟨k, m', P, hk, rfl, hL', hP, hlv, hF, hT⟩ := hj2
      obtain rfl : k = mo + 1 := by omega
      refine ⟨.inl m', ?_, m', hL'.1, hF, Or.inr ⟨rfl, hT.symm⟩⟩
      show lX10_shortest_125 NF 433 (nI j) (nI mo) (g + 1) (nI P.1) (nI (mo + 1)) m' = _
      unfold lX10_shortest_125
      refine EIp ((nI_ltI (by omega) (by omega)).mpr (by omega)) ?_
      rfl) (mo + 1) NF (nI (ax0 s).1, nI 0, m1) (by unfold NF; omega) ⟨0, m1, ax0 s, by omega, rfl, a2, a3, fun z hz => by have := a4.2.2 z (by show 0 ≤ z; omega) hz; rw [this]; decide, a5, by rw [hTd]⟩
    rw [← hTd]
    have hin : fX10_in NF (nI mo) 0 4 m = some (1, m) := by rw [fX10_in_eq, if_neg h2, if_neg (Int32.not_lt.mpr h3)]
    have hgo : ∀ R, (qTh (some r) (fun o4 => some ((-4 : Int32), o4)) (fun r => r)) = R → (if (1 : Int32) = 0 then some ((-2 : Int32), m) else (lX10_shortest_27 NF 433 (nI j) (nI mo) NF (0 : Int32) (0 : Int32) m).bind fun o3 => qTh (lX10_shortest_125 NF 433 (nI j) (nI mo) NF o3.1 (0 : Int32) o3.2) (fun o4 => some ((-4 : Int32), o4)) (fun r => r)) = R := by
      intro R hR
      refine EIn i10 ?_
      refine EB a1 ?_
      rw [show lX10_shortest_125 NF 433 (nI j) (nI mo) NF (nI (ax0 s).1, m1).1 (0 : Int32) (nI (ax0 s).1, m1).2 = some r from e1]
      exact hR
    rcases e4 with rfl | ⟨rfl, e5⟩
    · exact ⟨m2, hpre 1 _ hin (hgo _ rfl), e2, e3⟩
    · exact ⟨m2, hpre 1 _ hin (hgo _ (by rw [e5]; rfl)), e2, e3⟩
  · rw [if_neg h3]
    exact ⟨m, hpre 0 _ (by rw [fX10_in_eq, if_neg h2, if_pos (Int32.not_le.mp h3)]) (if_pos rfl), h, Fx.rf⟩
end
