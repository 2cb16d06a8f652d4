section
-- ===== instances =====
def aIns (s : ST) (v w : Int32) : Int32 := ans2 (-1) (sN s) (fun i j => iB (isIn (sFo s j) (sFo s i))) v w
theorem iB_0 {b : Bool} : iB b = 0 ↔ b = false := by cases b <;> simp [iB]
theorem c_isInst {m : qM} {s : ST} (h : CP m s) (hs : okS s) (v w : Int32) : ∃ m2, fX9_isInstance NF 0 v w m = some (aIns s v w, m2) ∧ CP m2 s ∧ Gc m m2 := by
  have hP := h
  obtain ⟨hX, -, -, -, hL, -⟩ := h
  have hn := hs.1.1
  obtain ⟨k0, r00, r01, r02, r03, r04, -⟩ := hX.c0
  have k5 := hX.ls.1
  have k142 : qK m 142 = 3 := by
    obtain ⟨-, -, -, -, -, -, -, -, -, -, -, -, -, -, -, -, -, -, -, -, -, -, -, -, -, -, -, -, k142, -⟩ := hX.un
    exact k142
  unfold fX9_isInstance aIns ans2
  rcases hasA_cases (n := sN s) (by omega) v with ⟨h1, -⟩ | ⟨i, hi, rfl, h1⟩
  · rw [ansN_miss h1]
    refine ⟨m, ?_, hP, Fx.rf⟩
    refine EgR k0 r02 ?_
    refine EC k5 (c_has k5 hL.1 v) ?_
    refine EIp h1 ?_
    rfl
  · rw [ansN_hit (by omega) h1]
    rcases hasA_cases (n := sN s) (by omega) w with ⟨h2, -⟩ | ⟨j, hj, rfl, h2⟩
    · rw [ansN_miss h2]
      refine ⟨m, ?_, hP, Fx.rf⟩
      refine EgR k0 r02 ?_
      refine EC k5 (c_has k5 hL.1 _) ?_
      refine EIn (show ¬ hasA (sN s) (nI i) = 0 by rw [h1]; exact i10) ?_
      refine EgR k0 r02 ?_
      refine EC k5 (c_has k5 hL.1 w) ?_
      refine EIp h2 ?_
      rfl
    · rw [ansN_hit (by omega) h2]
      obtain ⟨m2, p1, p2⟩ := c_matches (f := 12 + 2 * i) (g := 12 + 2 * j) (by omega) (by omega) hX.un (hX.lf (i := i) (by omega)).1 (hX.lf (i := j) (by omega)).1 (hL.2 i hi).1 (hL.2 j hj).1 (bel_mono (hs.1.2.2 i hi).1 (by omega)) (hs.1.2.2 j hj)
      refine ⟨m2, ?_, CP_fx hP hn p2 (fun a ha => by omega), p2.mono (fun a ha => by omega)⟩
      refine EgR k0 r02 ?_
      refine EC k5 (c_has k5 hL.1 _) ?_
      refine EIn (show ¬ hasA (sN s) (nI i) = 0 by rw [h1]; exact i10) ?_
      refine EgR k0 r02 ?_
      refine EC k5 (c_has k5 hL.1 _) ?_
      refine EIn (show ¬ hasA (sN s) (nI j) = 0 by rw [h2]; exact i10) ?_
      refine EgR k0 r04 ?_
      refine EgR k0 r02 ?_
      refine EC k5 (c_lat hX (by omega)) ?_
      refine EgR k0 r02 ?_
      refine EC k5 (c_lat hX (by omega)) ?_
      refine EC k142 p1 ?_
      show _ = some (iB (isIn (sFo s j) (sFo s i)), m2)
      by_cases e : isIn (sFo s j) (sFo s i) = true
      · rw [e]
        refine EIn i10 ?_
        rfl
      · have e' : isIn (sFo s j) (sFo s i) = false := by simpa using e
        rw [e']
        refine EIp rfl ?_
        rfl
theorem m_isInst {m : qM} {s : ST} (h : MP m s) (hs : okS s) (v w : Int32) : ∃ m2, fX10_isInstance NF 433 v w m = some (aIns s v w, m2) ∧ MP m2 s ∧ Gm m m2 := by
  have hP := h
  obtain ⟨hM, -, -, -, hL, -⟩ := h
  have hn := hs.1.1
  have k433 := hM.a.1
  unfold fX10_isInstance aIns ans2
  rcases hasA_cases (n := sN s) (by omega) v with ⟨h1, -⟩ | ⟨i, hi, rfl, h1⟩
  · rw [ansN_miss h1]
    refine ⟨m, ?_, hP, Fx.rf⟩
    refine EC k433 (m_isOne k433 hL.1 hn v) ?_
    refine EIp h1 ?_
    rfl
  · rw [ansN_hit (by omega) h1]
    rcases hasA_cases (n := sN s) (by omega) w with ⟨h2, -⟩ | ⟨j, hj, rfl, h2⟩
    · rw [ansN_miss h2]
      refine ⟨m, ?_, hP, Fx.rf⟩
      refine EC k433 (m_isOne k433 hL.1 hn _) ?_
      refine EIn (show ¬ hasA (sN s) (nI i) = 0 by rw [h1]; exact i10) ?_
      refine EC k433 (m_isOne k433 hL.1 hn w) ?_
      refine EIp h2 ?_
      rfl
    · rw [ansN_hit (by omega) h2]
      obtain ⟨m2, p1, p2⟩ := m_isFrom (s := i) (z := j) hM (by omega) (by omega) (hL.2 i hi).1 (hL.2 j hj).1 (hs.1.2.2 i hi).2.1 (bel_mono (hs.1.2.2 i hi).1 (by omega)) (hs.1.2.2 j hj)
      refine ⟨m2, ?_, MP_fx hP p2 (fun a ha => by omega) (by rw [p2.i (by omega)]) (by rw [p2.i (by omega)]) (by rw [p2.i (by omega)]) (by rw [p2.i (by omega)]), p2.mono (fun a ha => by omega)⟩
      refine EC k433 (m_isOne k433 hL.1 hn _) ?_
      refine EIn (show ¬ hasA (sN s) (nI i) = 0 by rw [h1]; exact i10) ?_
      refine EC k433 (m_isOne k433 hL.1 hn _) ?_
      refine EIn (show ¬ hasA (sN s) (nI j) = 0 by rw [h2]; exact i10) ?_
      refine EC k433 p1 ?_
      show _ = some (iB (isIn (sFo s j) (sFo s i)), m2)
      by_cases e : isIn (sFo s j) (sFo s i) = true
      · rw [e]
        refine EIn i10 ?_
        rfl
      · have e' : isIn (sFo s j) (sFo s i) = false := by simpa using e
        rw [e']
        refine EIp rfl ?_
        rfl
-- ===== the first more general one =====
def mgP (s : ST) (j : Nat) : Nat → Bool := fun k => !(decide (k = j)) && isIn (sFo s k) (sFo s j)
def mgA (s : ST) (j : Nat) : Int32 := if fstF (mgP s j) (sN s) 0 < sN s then nI (fstF (mgP s j) (sN s) 0) else -4
def aMg (s : ST) (v : Int32) : Int32 := ansN (-1) (sN s) (mgA s) v
theorem c_moreGen {m : qM} {s : ST} (h : CP m s) (hs : okS s) (v : Int32) : ∃ m2, fX9_moreGeneral NF 0 v m = some (aMg s v, m2) ∧ CP m2 s ∧ Gc m m2 := by
  have hP := h
  obtain ⟨hX, -, -, -, hL, -⟩ := h
  have hn := hs.1.1
  obtain ⟨k0, r00, r01, r02, r03, r04, -⟩ := hX.c0
  have k5 := hX.ls.1
  unfold fX9_moreGeneral aMg
  rcases hasA_cases (n := sN s) (by omega) v with ⟨h1, -⟩ | ⟨j, hj, rfl, h1⟩
  · rw [ansN_miss h1]
    refine ⟨m, ?_, hP, Fx.rf⟩
    refine EgR k0 r02 ?_
    refine EC k5 (c_has k5 hL.1 v) ?_
    refine EIp h1 ?_
    rfl
  · rw [ansN_hit (by omega) h1]
    have go : ∀ g k m', k < sN s → CP m' s → ∃ m2, CP m2 s ∧ Fx (fun a => a = 143) m' m2 ∧ lX9_moreGeneral_15 NF 0 (nI j) (g + 1) (nI k) m' = if mgP s j k = true then some (.inr (nI k, m2)) else lX9_moreGeneral_15 NF 0 (nI j) g (nI (k + 1)) m2 := by
      intro g k m' hk hP'
      have hX' := hP'.1
      have hL' := hP'.2.2.2.2.1
      obtain ⟨K0, R00, R01, R02, R03, R04, -⟩ := hX'.c0
      have K5 := hX'.ls.1
      have k142 : qK m' 142 = 3 := by
        obtain ⟨-, -, -, -, -, -, -, -, -, -, -, -, -, -, -, -, -, -, -, -, -, -, -, -, -, -, -, -, k142, -⟩ := hX'.un
        exact k142
      have hc : fX1_count NF 5 m' = some (nI (sN s), m') := by
        unfold fX1_count
        refine EgI K5 hL'.1 ?_
        rfl
      by_cases e : k = j
      · subst e
        refine ⟨m', hP', Fx.rf, ?_⟩
        have hf : mgP s k k = false := by simp [mgP]
        rw [hf]
        conv => lhs; unfold lX9_moreGeneral_15
        unfold kX9_moreGeneral_59
        refine EgR K0 R02 ?_
        refine EC K5 hc ?_
        refine EIn (fun z => by have := (nI_leI (by omega) (by omega)).mp z; omega) ?_
        refine EIp rfl ?_
        rw [nI_s]
        rfl
      · obtain ⟨m2, p1, p2⟩ := c_matches (f := 12 + 2 * j) (g := 12 + 2 * k) (by omega) (by omega) hX'.un (hX'.lf (i := j) (by omega)).1 (hX'.lf (i := k) (by omega)).1 (hL'.2 j hj).1 (hL'.2 k hk).1 (bel_mono (hs.1.2.2 j hj).1 (by omega)) (hs.1.2.2 k hk)
        refine ⟨m2, CP_fx hP' hn p2 (fun a ha => by omega), p2, ?_⟩
        have hf : mgP s j k = isIn (sFo s k) (sFo s j) := by simp [mgP, e]
        rw [hf]
        conv => lhs; unfold lX9_moreGeneral_15
        unfold kX9_moreGeneral_59
        refine EgR K0 R02 ?_
        refine EC K5 hc ?_
        refine EIn (fun z => by have := (nI_leI (by omega) (by omega)).mp z; omega) ?_
        refine EIn (fun z => e ((nI_eq (by omega) (by omega)).mp z)) ?_
        refine EgR K0 R04 ?_
        refine EgR K0 R02 ?_
        refine EC K5 (c_lat hX' (by omega)) ?_
        refine EgR K0 R02 ?_
        refine EC K5 (c_lat hX' (by omega)) ?_
        refine EC k142 p1 ?_
        by_cases e2 : isIn (sFo s k) (sFo s j) = true
        · rw [e2]
          refine EIn i10 ?_
          rfl
        · have e' : isIn (sFo s k) (sFo s j) = false := by simpa using e2
          rw [e']
          refine EIp rfl ?_
          rw [nI_s]
          rfl
    obtain ⟨b, e1, m2, e2, e3, e4⟩ := walk (l := fun g (x : Int32 × qM) => lX9_moreGeneral_15 NF 0 (nI j) g x.1 x.2) (J := fun r x => ∃ k m', k + r = sN s ∧ x = (nI k, m') ∧ CP m' s ∧ Fx (fun a => a = 143) m m' ∧ fstF (mgP s j) r k = fstF (mgP s j) (sN s) 0) (Q := fun b => ∃ m2, CP m2 s ∧ Fx (fun a => a = 143) m m2 ∧ b = (if fstF (mgP s j) (sN s) 0 < sN s then .inr (nI (fstF (mgP s j) (sN s) 0), m2) else .inl m2)) (fun g r x hj2 => by
      obtain ⟨k, m', hk, rfl, hP', hF, hp⟩ := hj2
      obtain ⟨m2, q1, q2, q3⟩ := go g k m' (by omega) hP'
      rw [fstF_s] at hp
      by_cases e : mgP s j k = true
      · rw [if_pos e] at q3 hp
        refine Or.inr ⟨_, q3, m2, q1, hF.tr q2, ?_⟩
        rw [← hp, if_pos (by omega)]
      · rw [if_neg e] at q3 hp
        exact Or.inl ⟨(nI (k + 1), m2), ⟨k + 1, m2, by omega, rfl, q1, hF.tr q2, hp⟩, q3⟩) (fun g x hj2 => by
      obtain ⟨k, m', hk, rfl, hP', hF, hp⟩ := hj2
      obtain rfl : k = sN s := by omega
      have hp2 : sN s = fstF (mgP s j) (sN s) 0 := hp
      have hX' := hP'.1
      have K5 := hX'.ls.1
      have hc : fX1_count NF 5 m' = some (nI (sN s), m') := by
        unfold fX1_count
        refine EgI K5 hP'.2.2.2.2.1.1 ?_
        rfl
      refine ⟨.inl m', ?_, m', hP', hF, by rw [if_neg (by omega)]⟩
      show lX9_moreGeneral_15 NF 0 (nI j) (g + 1) (nI (sN s)) m' = _
      unfold lX9_moreGeneral_15
      refine EgR hX'.c0.1 hX'.c0.2.2.2.1 ?_
      refine EC K5 hc ?_
      refine EIp ((nI_leI (by omega) (by omega)).mpr (Nat.le_refl _)) ?_
      rfl) (sN s) NF (nI 0, m) (by unfold NF; omega) ⟨0, m, by omega, rfl, hP, Fx.rf, rfl⟩
    refine ⟨m2, ?_, e2, e3.mono (fun a ha => by omega)⟩
    refine EgR k0 r02 ?_
    refine EC k5 (c_has k5 hL.1 _) ?_
    refine EIn (show ¬ hasA (sN s) (nI j) = 0 by rw [h1]; exact i10) ?_
    dsimp only
    rw [show lX9_moreGeneral_15 NF 0 (nI j) NF 0 m = some b from e1, e4]
    unfold mgA
    by_cases e : fstF (mgP s j) (sN s) 0 < sN s
    · rw [if_pos e, if_pos e]; rfl
    · rw [if_neg e, if_neg e]; rfl
theorem m_moreGen {m : qM} {s : ST} (h : MP m s) (hs : okS s) (v : Int32) : ∃ m2, fX10_moreGeneral NF 433 v m = some (aMg s v, m2) ∧ MP m2 s ∧ Gm m m2 := by
  have hP := h
  obtain ⟨hM, -, -, -, hL, -⟩ := h
  have hn := hs.1.1
  have k433 := hM.a.1
  unfold fX10_moreGeneral aMg
  rcases hasA_cases (n := sN s) (by omega) v with ⟨h1, -⟩ | ⟨j, hj, rfl, h1⟩
  · rw [ansN_miss h1]
    refine ⟨m, ?_, hP, Fx.rf⟩
    refine EC k433 (m_isOne k433 hL.1 hn v) ?_
    refine EIp h1 ?_
    rfl
  · rw [ansN_hit (by omega) h1]
    have go : ∀ g k m', k < sN s → MP m' s → ∃ m2, MP m2 s ∧ Fx (fun a => a = 452) m' m2 ∧ lX10_moreGeneral_12 NF 433 (nI j) (g + 1) (nI k) m' = if mgP s j k = true then some (.inr (nI k, m2)) else lX10_moreGeneral_12 NF 433 (nI j) g (nI (k + 1)) m2 := by
      intro g k m' hk hP'
      have hM' := hP'.1
      have hL' := hP'.2.2.2.2.1
      have K433 := hM'.a.1
      by_cases e : k = j
      · subst e
        refine ⟨m', hP', Fx.rf, ?_⟩
        have hf : mgP s k k = false := by simp [mgP]
        rw [hf]
        conv => lhs; unfold lX10_moreGeneral_12
        unfold kX10_moreGeneral_36
        refine EgI K433 hL'.1 ?_
        refine EIn (fun z => by have := (nI_leI (by omega) (by omega)).mp z; omega) ?_
        refine EIp rfl ?_
        rw [nI_s]
        rfl
      · obtain ⟨m2, p1, p2⟩ := m_isFrom (s := j) (z := k) hM' (by omega) (by omega) (hL'.2 j hj).1 (hL'.2 k hk).1 (hs.1.2.2 j hj).2.1 (bel_mono (hs.1.2.2 j hj).1 (by omega)) (hs.1.2.2 k hk)
        refine ⟨m2, MP_fx hP' p2 (fun a ha => by omega) (by rw [p2.i (by omega)]) (by rw [p2.i (by omega)]) (by rw [p2.i (by omega)]) (by rw [p2.i (by omega)]), p2, ?_⟩
        have hf : mgP s j k = isIn (sFo s k) (sFo s j) := by simp [mgP, e]
        rw [hf]
        conv => lhs; unfold lX10_moreGeneral_12
        unfold kX10_moreGeneral_36
        refine EgI K433 hL'.1 ?_
        refine EIn (fun z => by have := (nI_leI (by omega) (by omega)).mp z; omega) ?_
        refine EIn (fun z => e ((nI_eq (by omega) (by omega)).mp z)) ?_
        refine EC K433 p1 ?_
        by_cases e2 : isIn (sFo s k) (sFo s j) = true
        · rw [e2]
          refine EIn i10 ?_
          rfl
        · have e' : isIn (sFo s k) (sFo s j) = false := by simpa using e2
          rw [e']
          refine EIp rfl ?_
          rw [nI_s]
          rfl
    obtain ⟨b, e1, m2, e2, e3, e4⟩ := walk (l := fun g (x : Int32 × qM) => lX10_moreGeneral_12 NF 433 (nI j) g x.1 x.2) (J := fun r x => ∃ k m', k + r = sN s ∧ x = (nI k, m') ∧ MP m' s ∧ Fx (fun a => a = 452) m m' ∧ fstF (mgP s j) r k = fstF (mgP s j) (sN s) 0) (Q := fun b => ∃ m2, MP m2 s ∧ Fx (fun a => a = 452) m m2 ∧ b = (if fstF (mgP s j) (sN s) 0 < sN s then .inr (nI (fstF (mgP s j) (sN s) 0), m2) else .inl m2)) (fun g r x hj2 => by
      obtain ⟨k, m', hk, rfl, hP', hF, hp⟩ := hj2
      obtain ⟨m2, q1, q2, q3⟩ := go g k m' (by omega) hP'
      rw [fstF_s] at hp
      by_cases e : mgP s j k = true
      · rw [if_pos e] at q3 hp
        refine Or.inr ⟨_, q3, m2, q1, hF.tr q2, ?_⟩
        rw [← hp, if_pos (by omega)]
      · rw [if_neg e] at q3 hp
        exact Or.inl ⟨(nI (k + 1), m2), ⟨k + 1, m2, by omega, rfl, q1, hF.tr q2, hp⟩, q3⟩) (fun g x hj2 => by
      obtain ⟨k, m', hk, rfl, hP', hF, hp⟩ := hj2
      obtain rfl : k = sN s := by omega
      have hp2 : sN s = fstF (mgP s j) (sN s) 0 := hp
      refine ⟨.inl m', ?_, m', hP', hF, by rw [if_neg (by omega)]⟩
      show lX10_moreGeneral_12 NF 433 (nI j) (g + 1) (nI (sN s)) m' = _
      unfold lX10_moreGeneral_12
      refine EgI hP'.1.a.1 hP'.2.2.2.2.1.1 ?_
      refine EIp ((nI_leI (by omega) (by omega)).mpr (Nat.le_refl _)) ?_
      rfl) (sN s) NF (nI 0, m) (by unfold NF; omega) ⟨0, m, by omega, rfl, hP, Fx.rf, rfl⟩
    refine ⟨m2, ?_, e2, e3.mono (fun a ha => by omega)⟩
    refine EC k433 (m_isOne k433 hL.1 hn _) ?_
    refine EIn (show ¬ hasA (sN s) (nI j) = 0 by rw [h1]; exact i10) ?_
    dsimp only
    rw [show lX10_moreGeneral_12 NF 433 (nI j) NF 0 m = some b from e1, e4]
    unfold mgA
    by_cases e : fstF (mgP s j) (sN s) 0 < sN s
    · rw [if_pos e, if_pos e]; rfl
    · rw [if_neg e, if_neg e]; rfl
end
