section
-- ===== the reference's round =====
theorem MP_puts {m m1 : qM} {s : ST} {z : Nat} {t : Tm} (h : MP m s) (hok : okS s) (f : Fx dPu m m1) (hz : sN s ≤ z) (p4 : ∀ j, j ≠ z → qI m1 435 j = qI m 435 j) (p5 : ∀ y, (y < 39 * z ∨ 39 * z + tS t ≤ y) → qI m1 434 y = qI m 434 y) : MP m1 s := by
  obtain ⟨q1, q2, q3, q4, q5, q6, q7⟩ := h
  have e : ∀ a, a ≠ 434 → a ≠ 435 → qI m1 a = qI m a := fun a h1 h2 => f.i (by unfold dPu; omega)
  refine ⟨f.M q1, by rw [f.2.2.2.1]; exact q2, MTx_of q3 (by rw [e 433 (by omega) (by omega)]) (e 439 (by omega) (by omega)), MOu_of q4 (by rw [e 433 (by omega) (by omega)]) (e 440 (by omega) (by omega)), ⟨by rw [e 433 (by omega) (by omega)]; exact q5.1, fun i hi => ?_⟩, MMx_of q6 (by rw [e 433 (by omega) (by omega)]) (e 441 (by omega) (by omega)), MRs_of q7 (fun a ha _ => e a (by omega) (by omega))⟩
  obtain ⟨⟨s1, s2⟩, s3, s4⟩ := q5.2 i hi
  have h39 := (hok.1.2.2 i hi).2.1
  rw [e 436 (by omega) (by omega), e 437 (by omega) (by omega)]
  exact ⟨⟨by rw [p4 i (by omega)]; exact s1, fun j hj => by rw [p5 _ (by omega)]; exact s2 j hj⟩, s3, s4⟩
theorem MP_add {m m1 : qM} {s : ST} {t : Tm} {e : Option (Nat × Nat)} (h : MP m s) (hok : okS s) (hn : sN s < 60) (f : Fx dPu m m1) (p3 : SlT (qI m1) (sN s) t) (p4 : ∀ j, j ≠ sN s → qI m1 435 j = qI m 435 j) (p5 : ∀ y, (y < 39 * sN s ∨ 39 * sN s + tS t ≤ y) → qI m1 434 y = qI m 434 y) : MP (qsI (qsI (qsI m1 436 (sN s) (mjv e)) 437 (sN s) (mnv e)) 433 5 (nI (sN s + 1))) (wLs s (sN s + 1) (setN (sFo s) (sN s) t) (setN (sEn s) (sN s) e)) := by
  have h1 := MP_puts h hok f (Nat.le_refl _) p4 p5
  obtain ⟨q1, q2, q3, q4, q5, q6, q7⟩ := h1
  let m4 : qM := qsI (qsI (qsI m1 436 (sN s) (mjv e)) 437 (sN s) (mnv e)) 433 5 (nI (sN s + 1))
  have f4 : Fx dEn m1 m4 := ((Fx.rf.sI (by unfold dEn; omega)).sI (by unfold dEn; omega)).sI (by unfold dEn; omega)
  have hj : ∀ j, j ≠ 5 → qI m4 433 j = qI m1 433 j := fun j hj => by simp [m4, qS, hj]
  have e4 : qI m4 434 = qI m1 434 := by funext z; simp [m4, qS]
  have e5 : qI m4 435 = qI m1 435 := by funext z; simp [m4, qS]
  refine ⟨f4.M q1, by rw [f4.2.2.2.1]; exact q2, MTx_of q3 (hj 7 (by decide)) (f4.i (by simp [dEn])), MOu_of q4 (hj 11 (by decide)) (f4.i (by simp [dEn])), ⟨by simp [qS, wLs, sN], fun i hi => ?_⟩, MMx_of q6 (hj 13 (by decide)) (f4.i (by simp [dEn])), MRs_of q7 (fun a ha _ => f4.i (by unfold dEn; omega))⟩
  have hi' : i < sN s + 1 := hi
  show SlT (qI m4) i (setN (sFo s) (sN s) t i) ∧ qI m4 436 i = mjv (setN (sEn s) (sN s) e i) ∧ qI m4 437 i = mnv (setN (sEn s) (sN s) e i)
  unfold SlT Cd
  rw [e4, e5]
  by_cases ei : i = sN s
  · subst ei
    rw [setN_eq, setN_eq]
    exact ⟨p3, by simp [m4, qS], by simp [m4, qS]⟩
  · obtain ⟨s1, s3, s4⟩ := q5.2 i (by omega)
    rw [setN_ne ei, setN_ne ei]
    exact ⟨s1, by simp [m4, qS, ei, s3], by simp [m4, qS, ei, s4]⟩
theorem One_of {I I2 : Nat → Nat → Int32} {t : Tm} (h : One I t) (e1 : I2 433 27 = I 433 27) (e2 : I2 451 = I 451) : One I2 t := by
  unfold One Cd; rw [e1, e2]; exact h
theorem SlT_of {I I2 : Nat → Nat → Int32} {i : Nat} {t : Tm} (h : SlT I i t) (e1 : I2 434 = I 434) (e2 : I2 435 = I 435) : SlT I2 i t := by
  unfold SlT Cd; rw [e1, e2]; exact h
theorem m_cov {v1 v2 v3 v4 : Int32} {m : qM} {s : ST} {t : Tm} (h : MP m s) (hs : okS s) (hS : SlT (qI m) 60 t) (h39 : tS t ≤ 39) (hb : bel 99 t) : ∃ m2, lX10_round_76 NF 433 v1 v2 v3 v4 NF 0 0 m = some (iB (covB s t), m2) ∧ Fx (fun a => a = 452) m m2 := by
  have hn := hs.1.1
  have hMP : ∀ {m' m2 : qM}, MP m' s → Fx (fun a => a = 452) m' m2 → MP m2 s := fun hP' p2 => MP_fx hP' p2 (fun a ha => by omega) (by rw [p2.i (by omega)]) (by rw [p2.i (by omega)]) (by rw [p2.i (by omega)]) (by rw [p2.i (by omega)])
  obtain ⟨b, e1, m2, e3, e4⟩ := walk (l := fun g (x : Int32 × Int32 × qM) => lX10_round_76 NF 433 v1 v2 v3 v4 g x.1 x.2.1 x.2.2) (J := fun r x => ∃ k m', MP m' s ∧ Fx (fun a => a = 452) m m' ∧ ((k + r = sN s ∧ x = (0, nI k, m') ∧ fstF (covP s t) r k = fstF (covP s t) (sN s) 0) ∨ (k ≤ sN s ∧ x = (1, nI k, m') ∧ fstF (covP s t) (sN s) 0 < sN s))) (Q := fun b => ∃ m2, Fx (fun a => a = 452) m m2 ∧ b = (iB (covB s t), m2)) (fun g r x hj2 => by
    obtain ⟨k, m', hP', hF, hx⟩ := hj2
    have hM' := hP'.1
    have hL' := hP'.2.2.2.2.1
    rcases hx with ⟨hk, rfl, hp⟩ | ⟨hk, rfl, hp⟩
    · obtain ⟨m2, q1, q2⟩ := m_isFrom (s := 60) (z := k) hM' (by omega) (by omega) (SlT_of hS (hF.i (by omega)) (hF.i (by omega))) (hL'.2 k (by omega)).1 h39 hb (hs.1.2.2 k (by omega))
      have hgo : lX10_round_76 NF 433 v1 v2 v3 v4 (g + 1) 0 (nI k) m' = lX10_round_76 NF 433 v1 v2 v3 v4 g (iB (covP s t k)) (nI (k + 1)) m2 := by
        conv => lhs; unfold lX10_round_76
        refine EgI hM'.a.1 hL'.1 ?_
        refine EIn (fun z => by have := (nI_leI (by omega) (by omega)).mp z; omega) ?_
        refine EIp rfl ?_
        refine EC hM'.a.1 q1 ?_
        rw [nI_s]
        rfl
      rw [fstF_s] at hp
      by_cases e : covP s t k = true
      · rw [if_pos e] at hp
        rw [e] at hgo
        exact Or.inl ⟨(1, nI (k + 1), m2), ⟨k + 1, m2, hMP hP' q2, hF.tr q2, Or.inr ⟨by omega, rfl, by omega⟩⟩, hgo⟩
      · have e' : covP s t k = false := by simpa using e
        rw [if_neg e] at hp
        rw [e'] at hgo
        exact Or.inl ⟨(0, nI (k + 1), m2), ⟨k + 1, m2, hMP hP' q2, hF.tr q2, Or.inl ⟨by omega, rfl, hp⟩⟩, hgo⟩
    · refine Or.inr ⟨(1, m'), ?_, m', hF, by unfold covB; rw [decide_eq_true hp]; rfl⟩
      show lX10_round_76 NF 433 v1 v2 v3 v4 (g + 1) 1 (nI k) m' = _
      unfold lX10_round_76
      refine EgI hM'.a.1 hL'.1 ?_
      by_cases e : sN s ≤ k
      · refine EIp ((nI_leI (by omega) (by omega)).mpr e) ?_
        rfl
      · refine EIn (fun z => e ((nI_leI (by omega) (by omega)).mp z)) ?_
        refine EIn i10 ?_
        rfl) (fun g x hj2 => by
    obtain ⟨k, m', hP', hF, hx⟩ := hj2
    have hM' := hP'.1
    have hL' := hP'.2.2.2.2.1
    rcases hx with ⟨hk, rfl, hp⟩ | ⟨hk, rfl, hp⟩
    · have hp2 : k = fstF (covP s t) (sN s) 0 := hp
      refine ⟨(0, m'), ?_, m', hF, by unfold covB; rw [decide_eq_false (by omega)]; rfl⟩
      show lX10_round_76 NF 433 v1 v2 v3 v4 (g + 1) 0 (nI k) m' = _
      unfold lX10_round_76
      refine EgI hM'.a.1 hL'.1 ?_
      refine EIp ((nI_leI (by omega) (by omega)).mpr (by omega)) ?_
      rfl
    · refine ⟨(1, m'), ?_, m', hF, by unfold covB; rw [decide_eq_true hp]; rfl⟩
      show lX10_round_76 NF 433 v1 v2 v3 v4 (g + 1) 1 (nI k) m' = _
      unfold lX10_round_76
      refine EgI hM'.a.1 hL'.1 ?_
      by_cases e : sN s ≤ k
      · refine EIp ((nI_leI (by omega) (by omega)).mpr e) ?_
        rfl
      · refine EIn (fun z => e ((nI_leI (by omega) (by omega)).mp z)) ?_
        refine EIn i10 ?_
        rfl) (sN s) NF (0, nI 0, m) (by unfold NF; omega) ⟨0, m, h, Fx.rf, Or.inl ⟨by omega, rfl, rfl⟩⟩
  exact ⟨m2, by rw [e4] at e1; exact e1, e3⟩
theorem m_detM {m : qM} {s : ST} {x y : Nat} (h : MP m s) (hs : okS s) (hx : x < sN s) (hy : y < sN s) : ∃ m1, fX10_detaches_ NF 433 (nI x) (nI y) m = some (rc (dU (sFo s x) (sFo s y)), m1) ∧ MP m1 s ∧ Gm m m1 ∧ (rc (dU (sFo s x) (sFo s y)) = 0 → One (qI m1) (rdT s x y)) := by
  have hP := h
  obtain ⟨hM, -, -, -, hL, -⟩ := h
  have hn := hs.1.1
  obtain ⟨k433, r0, r1, r2, r3, k434, k435, k436, k437, n434, n435, n436, n437⟩ := hM.a
  obtain ⟨b1, s1, -⟩ := hs.1.2.2 x hx
  obtain ⟨b2, s2, -⟩ := hs.1.2.2 y hy
  obtain ⟨m1, p1, p2, p3, p4⟩ := m_detaches (A := 434) (B := 434) (w := 39 * x) (u := 39 * y) hM (Or.inl rfl) (Or.inl rfl) (by omega) (by omega) (bel_mono b1 (by omega)) (bel_mono b2 (by omega)) s1 s2 (hL.2 x hx).1.2 (hL.2 y hy).1.2
  refine ⟨m1, ?_, MP_fx hP p2 (fun a ha => by unfold dDt at ha; omega) (p3 5 (by simp [kp])) (p3 7 (by simp [kp])) (p3 11 (by simp [kp])) (p3 13 (by simp [kp])), p2.mono (fun a ha => by unfold dDt at ha; omega), fun e => p4 (rc_ok.mp e)⟩
  unfold fX10_detaches_
  refine EgR k433 r0 ?_
  refine EgR k433 r0 ?_
  rw [ix39', ix39']
  refine EC k433 p1 ?_
  rfl
theorem m_rdStep {m : qM} {s : ST} {x y lim was g : Nat} (h : MP m s) (hs : okS s) (hx : x < sN s) (hy : y < sN s) (hyw : y < was) (hw : was ≤ 60) (h60 : sN s < 60) (hl : lim ≤ 39) : ∃ m2, lX10_round_28 NF 433 (nI lim) (nI was) (nI x) (g + 1) (nI y) m = lX10_round_28 NF 433 (nI lim) (nI was) (nI x) g (nI (y + 1)) m2 ∧ MP m2 (rdStep lim s x y) ∧ Gm m m2 := by
  have hP := h
  obtain ⟨hM, -, -, -, hL, -⟩ := h
  have k433 := hM.a.1
  obtain ⟨m1, p1, p2, p3, p4⟩ := m_detM hP hs hx hy
  have K1 := p2.1.a.1
  have hpre : ∀ R, (if rc (dU (sFo s x) (sFo s y)) < 0 then lX10_round_28 NF 433 (nI lim) (nI was) (nI x) g (nI (y + 1)) m1 else (qgI m1 433 10 27).bind fun x3 => if x3 ≤ nI lim then (qChk m1 433 10 (fX10_puts NF 433 (60 : Int32) m1)).bind fun b4 => (lX10_round_76 NF 433 (nI lim) (nI was) (nI x) (nI y) NF (0 : Int32) (0 : Int32) b4).bind fun o5 => if o5.1 = 0 then (qgI o5.2 433 10 5).bind fun x6 => (qChk o5.2 433 10 (fX10_puts NF 433 x6 o5.2)).bind fun b7 => (qgR b7 433 10 2).bind fun x8 => (qgI b7 433 10 5).bind fun x9 => (qwI b7 x8 12 x9 (nI x)).bind fun m10 => (qgR m10 433 10 3).bind fun x11 => (qgI m10 433 10 5).bind fun x12 => (qwI m10 x11 12 x12 (nI y)).bind fun m13 => (qgI m13 433 10 5).bind fun x14 => (qpI m13 433 10 5 (x14 + (1 : Int32))).bind fun m15 => lX10_round_28 NF 433 (nI lim) (nI was) (nI x) g (nI (y + 1)) m15 else lX10_round_28 NF 433 (nI lim) (nI was) (nI x) g (nI (y + 1)) o5.2 else lX10_round_28 NF 433 (nI lim) (nI was) (nI x) g (nI (y + 1)) m1) = R → lX10_round_28 NF 433 (nI lim) (nI was) (nI x) (g + 1) (nI y) m = R := by
    intro R hR
    conv => lhs; unfold lX10_round_28
    unfold kX10_round_153
    refine EIn (fun z => by have := (nI_leI (by omega) (by omega)).mp z; omega) ?_
    refine EgI k433 hL.1 ?_
    refine EIn (fun z => by have := (nI_leI (a := 60) (by omega) (by omega)).mp z; omega) ?_
    refine EC k433 p1 ?_
    rw [nI_s]
    exact hR
  unfold rdStep
  rw [if_pos h60]
  by_cases e : rc (dU (sFo s x) (sFo s y)) = 0
  · have hF : okF (rdT s x y) := rdT_ok hs hx hy e
    have hO := p4 e
    have h39 := hF.2.1
    have hb99 : bel 99 (rdT s x y) := bel_mono hF.1 (by omega)
    have hng : ¬ rc (dU (sFo s x) (sFo s y)) < 0 := by rw [e]; decide
    by_cases e2 : tS (rdT s x y) ≤ lim
    · obtain ⟨m2, q1, q2, q3, q4, q5⟩ := m_puts (i := 60) p2.1 (by omega) hO h39
      have hP2 : MP m2 s := MP_puts p2 hs q2 hs.1.1 q4 q5
      have K2 := hP2.1.a.1
      obtain ⟨m3, u1, u2⟩ := m_cov (v1 := nI lim) (v2 := nI was) (v3 := nI x) (v4 := nI y) hP2 hs q3 h39 hb99
      have hP3 : MP m3 s := MP_fx hP2 u2 (fun a ha => by omega) (by rw [u2.i (by omega)]) (by rw [u2.i (by omega)]) (by rw [u2.i (by omega)]) (by rw [u2.i (by omega)])
      obtain ⟨K3, -, -, L2, L3, -, -, K436, K437, -, -, N436, N437⟩ := hP3.1.a
      have hO3 : One (qI m3) (rdT s x y) := One_of hO (by rw [u2.i (by omega), q2.i (by simp [dPu])]) (by rw [u2.i (by omega), q2.i (by simp [dPu])])
      have g3 : Gm m m3 := (p3.tr (q2.mono (fun a ha => by unfold dPu at ha; omega))).tr (u2.mono (fun a ha => by omega))
      have hpre2 : ∀ R, (if iB (covB s (rdT s x y)) = 0 then (qgI m3 433 10 5).bind fun x6 => (qChk m3 433 10 (fX10_puts NF 433 x6 m3)).bind fun b7 => (qgR b7 433 10 2).bind fun x8 => (qgI b7 433 10 5).bind fun x9 => (qwI b7 x8 12 x9 (nI x)).bind fun m10 => (qgR m10 433 10 3).bind fun x11 => (qgI m10 433 10 5).bind fun x12 => (qwI m10 x11 12 x12 (nI y)).bind fun m13 => (qgI m13 433 10 5).bind fun x14 => (qpI m13 433 10 5 (x14 + (1 : Int32))).bind fun m15 => lX10_round_28 NF 433 (nI lim) (nI was) (nI x) g (nI (y + 1)) m15 else lX10_round_28 NF 433 (nI lim) (nI was) (nI x) g (nI (y + 1)) m3) = R → lX10_round_28 NF 433 (nI lim) (nI was) (nI x) (g + 1) (nI y) m = R := by
        intro R hR
        apply hpre
        refine EIn hng ?_
        refine EgI K1 hO.1 ?_
        refine EIp ((nI_leI (by omega) (by omega)).mpr e2) ?_
        refine EC K1 q1 ?_
        refine EB u1 ?_
        exact hR
      by_cases e3 : covB s (rdT s x y) = false
      · rw [if_pos ⟨e, e2, e3⟩]
        obtain ⟨m4, w1, w2, w3, w4, w5⟩ := m_puts (i := sN s) hP3.1 (by omega) hO3 h39
        have hA := MP_add (e := some (x, y)) hP3 hs h60 w2 w3 w4 w5
        have K4 : qK m4 433 = 10 := by rw [w2.1]; exact K3
        have H5 : qI m4 433 5 = nI (sN s) := by rw [w2.i (by simp [dPu])]; exact hP3.2.2.2.2.1.1
        have f5 : Fx dEn m4 (qsI (qsI (qsI m4 436 (sN s) (mjv (some (x, y)))) 437 (sN s) (mnv (some (x, y)))) 433 5 (nI (sN s + 1))) := ((Fx.rf.sI (by unfold dEn; omega)).sI (by unfold dEn; omega)).sI (by unfold dEn; omega)
        refine ⟨_, hpre2 _ ?_, hA, (g3.tr (w2.mono (fun a ha => by unfold dPu at ha; omega))).tr (f5.mono (fun a ha => by unfold dEn at ha; omega))⟩
        rw [e3]
        refine EIp rfl ?_
        refine EgI K3 hP3.2.2.2.2.1.1 ?_
        refine EC K3 w1 ?_
        refine EgR K4 (show qR m4 433 2 = some 436 by rw [w2.2.2.1]; exact L2) ?_
        refine EgI K4 H5 ?_
        refine EwI (show qK m4 436 = 12 by rw [w2.1]; exact K436) rfl (show sN s < qN m4 436 by rw [w2.2.1]; omega) (by omega) (show nI x = mjv (some (x, y)) from rfl) ?_
        refine EgR (show qK (qsI m4 436 (sN s) (mjv (some (x, y)))) 433 = 10 from K4) (show qR (qsI m4 436 (sN s) (mjv (some (x, y)))) 433 3 = some 437 by show qR m4 433 3 = _; rw [w2.2.2.1]; exact L3) ?_
        refine EgI (show qK (qsI m4 436 (sN s) (mjv (some (x, y)))) 433 = 10 from K4) (show qI (qsI m4 436 (sN s) (mjv (some (x, y)))) 433 5 = nI (sN s) from H5) ?_
        refine EwI (show qK (qsI m4 436 (sN s) (mjv (some (x, y)))) 437 = 12 by show qK m4 437 = 12; rw [w2.1]; exact K437) rfl (show sN s < qN m4 437 by rw [w2.2.1]; omega) (by omega) (show nI y = mnv (some (x, y)) from rfl) ?_
        refine EgI (show qK (qsI (qsI m4 436 (sN s) (mjv (some (x, y)))) 437 (sN s) (mnv (some (x, y)))) 433 = 10 from K4) (show qI (qsI (qsI m4 436 (sN s) (mjv (some (x, y)))) 437 (sN s) (mnv (some (x, y)))) 433 5 = nI (sN s) from H5) ?_
        refine EpI (show qK (qsI (qsI m4 436 (sN s) (mjv (some (x, y)))) 437 (sN s) (mnv (some (x, y)))) 433 = 10 from K4) (nI_s _) ?_
        rfl
      · rw [if_neg (fun z => e3 z.2.2)]
        have e' : covB s (rdT s x y) = true := by simpa using e3
        refine ⟨m3, hpre2 _ ?_, hP3, g3⟩
        rw [e']
        refine EIn i10 ?_
        rfl
    · rw [if_neg (fun z => e2 z.2.1)]
      refine ⟨m1, hpre _ ?_, p2, p3⟩
      refine EIn hng ?_
      refine EgI K1 hO.1 ?_
      refine EIn (fun z => e2 ((nI_leI (by omega) (by omega)).mp z)) ?_
      rfl
  · rw [if_neg (fun z => e z.1)]
    exact ⟨m1, hpre _ (if_pos (rc_neg e)), p2, p3⟩
theorem m_rdIn {lim x was : Nat} (hl : lim ≤ 39) (hx : x < was) (hw : was ≤ 60) {m : qM} {s : ST} (h : MP m s) (hs : okS s) (hws : was ≤ sN s) : ∃ m2, lX10_round_28 NF 433 (nI lim) (nI was) (nI x) NF 0 m = some m2 ∧ MP m2 (rdIn lim x was 0 s) ∧ Gm m m2 := by
  obtain ⟨b, e1, e2, e3⟩ := walk (l := fun g (z : Int32 × qM) => lX10_round_28 NF 433 (nI lim) (nI was) (nI x) g z.1 z.2) (J := fun r z => ∃ k m' s', k + r = was ∧ z = (nI k, m') ∧ MP m' s' ∧ okS s' ∧ was ≤ sN s' ∧ rdIn lim x r k s' = rdIn lim x was 0 s ∧ Gm m m') (Q := fun m2 => MP m2 (rdIn lim x was 0 s) ∧ Gm m m2) (fun g r z hj => by
    obtain ⟨k, m', s', hk, rfl, hP', hs', hw', hp, hg⟩ := hj
    by_cases e : sN s' < 60
    · obtain ⟨m2, q1, q2, q3⟩ := m_rdStep (x := x) (y := k) (lim := lim) (was := was) (g := g) hP' hs' (by omega) (by omega) (by omega) hw e hl
      obtain ⟨o1, o2⟩ := rdStep_ok (lim := lim) (x := x) (y := k) hs' (by omega) (by omega)
      exact Or.inl ⟨(nI (k + 1), m2), ⟨k + 1, m2, _, by omega, rfl, q2, o1, by omega, hp, hg.tr q3⟩, q1⟩
    · rw [rdIn_full _ _ s' e] at hp
      refine Or.inr ⟨m', ?_, hp ▸ hP', hg⟩
      have h60 := hs'.1.1
      show lX10_round_28 NF 433 (nI lim) (nI was) (nI x) (g + 1) (nI k) m' = _
      unfold lX10_round_28
      refine EIn (fun z => by have := (nI_leI (by omega) (by omega)).mp z; omega) ?_
      refine EgI hP'.1.a.1 hP'.2.2.2.2.1.1 ?_
      refine EIp ((nI_leI (a := 60) (by omega) (by omega)).mpr (by omega)) ?_
      rfl) (fun g z hj => by
    obtain ⟨k, m', s', hk, rfl, hP', hs', hw', hp, hg⟩ := hj
    obtain rfl : k = was := by omega
    have hp' : s' = rdIn lim x k 0 s := hp
    refine ⟨m', ?_, hp' ▸ hP', hg⟩
    show lX10_round_28 NF 433 (nI lim) (nI k) (nI x) (g + 1) (nI k) m' = _
    unfold lX10_round_28
    refine EIp ((nI_leI (by omega) (by omega)).mpr (Nat.le_refl _)) ?_
    rfl) was NF (nI 0, m) (by unfold NF; omega) ⟨0, m, s, by omega, rfl, h, hs, hws, rfl, Fx.rf⟩
  exact ⟨b, e1, e2, e3⟩
theorem m_round {m : qM} {s : ST} (h : MP m s) (hs : okS s) (v : Int32) : ∃ m2, fX10_round NF 433 v m = some (aRd s v, m2) ∧ MP m2 (sRd s v) ∧ Gm m m2 := by
  have k433 := h.1.a.1
  have hn := hs.1.1
  unfold fX10_round aRd
  by_cases h1 : v < 1
  · rw [if_pos h1]
    have : sRd s v = s := if_pos h1
    rw [this]
    refine ⟨m, ?_, h, Fx.rf⟩
    refine EB (b := (0, m)) (by rw [fX10_in_eq, if_pos h1]) ?_
    refine EIp rfl ?_
    rfl
  · rw [if_neg h1]
    by_cases h2 : v ≤ 39
    · rw [if_pos h2]
      obtain ⟨l, hl1, hl2, rfl⟩ := lim_ok h1 h2
      have esr : sRd s (nI l) = rdOut l (sN s) (sN s) 0 s := by
        unfold sRd
        rw [if_neg h1, if_pos h2, nI_clamp (by omega)]
      rw [esr]
      obtain ⟨b, e1, e2, e3⟩ := walk (l := fun g (z : Int32 × qM) => lX10_round_20 NF 433 (nI l) (nI (sN s)) g z.1 z.2) (J := fun r z => ∃ k m' s', k + r = sN s ∧ z = (nI k, m') ∧ MP m' s' ∧ okS s' ∧ sN s ≤ sN s' ∧ rdOut l (sN s) r k s' = rdOut l (sN s) (sN s) 0 s ∧ Gm m m') (Q := fun m2 => MP m2 (rdOut l (sN s) (sN s) 0 s) ∧ Gm m m2) (fun g r z hj => by
        obtain ⟨k, m', s', hk, rfl, hP', hs', hw', hp, hg⟩ := hj
        obtain ⟨m2, q1, q2, q3⟩ := m_rdIn (x := k) (was := sN s) hl2 (by omega) hn hP' hs' hw'
        obtain ⟨o1, o2⟩ := rdIn_ok (lim := l) (x := k) (sN s) 0 s' hs' (by omega) (by omega)
        refine Or.inl ⟨(nI (k + 1), m2), ⟨k + 1, m2, _, by omega, rfl, q2, o1, by omega, hp, hg.tr q3⟩, ?_⟩
        show lX10_round_20 NF 433 (nI l) (nI (sN s)) (g + 1) (nI k) m' = lX10_round_20 NF 433 (nI l) (nI (sN s)) g (nI (k + 1)) m2
        conv => lhs; unfold lX10_round_20
        refine EIn (fun z => by have := (nI_leI (by omega) (by omega)).mp z; omega) ?_
        refine EB q1 ?_
        rw [nI_s]) (fun g z hj => by
        obtain ⟨k, m', s', hk, rfl, hP', hs', hw', hp, hg⟩ := hj
        obtain rfl : k = sN s := by omega
        have hp' : s' = rdOut l (sN s) (sN s) 0 s := hp
        refine ⟨m', ?_, hp' ▸ hP', hg⟩
        show lX10_round_20 NF 433 (nI l) (nI (sN s)) (g + 1) (nI (sN s)) m' = _
        unfold lX10_round_20
        refine EIp ((nI_leI (by omega) (by omega)).mpr (Nat.le_refl _)) ?_
        rfl) (sN s) NF (nI 0, m) (by unfold NF; omega) ⟨0, m, s, by omega, rfl, h, hs, Nat.le_refl _, rfl, Fx.rf⟩
      refine ⟨b, ?_, e2, e3⟩
      refine EB (b := (1, m)) (by rw [fX10_in_eq, if_neg h1, if_neg (Int32.not_lt.mpr h2)]) ?_
      refine EIn i10 ?_
      refine EgI k433 h.2.2.2.2.1.1 ?_
      refine EB e1 ?_
      refine EgI e2.1.a.1 e2.2.2.2.2.1.1 ?_
      rfl
    · rw [if_neg h2]
      have : sRd s v = s := by unfold sRd; rw [if_neg h1, if_neg h2]
      rw [this]
      refine ⟨m, ?_, h, Fx.rf⟩
      refine EB (b := (0, m)) (by rw [fX10_in_eq, if_neg h1, if_pos (Int32.not_le.mp h2)]) ?_
      refine EIp rfl ?_
      rfl
end
