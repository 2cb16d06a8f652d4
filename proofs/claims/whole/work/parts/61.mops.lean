section
-- ===== the reference's list =====
theorem MS.a {K N : Nat → Nat} {R : Nat → Nat → Option Nat} (h : MS K N R) : K 433 = 10 ∧ R 433 0 = some 434 ∧ R 433 1 = some 435 ∧ R 433 2 = some 436 ∧ R 433 3 = some 437 ∧ K 434 = 12 ∧ K 435 = 12 ∧ K 436 = 12 ∧ K 437 = 12 ∧ N 434 = 7059 ∧ N 435 = 181 ∧ N 436 = 60 ∧ N 437 = 60 := by
  obtain ⟨⟨k433, r0, r1, r2, r3, -⟩, ⟨k434, k435, k436, k437, -⟩, ⟨n434, n435, n436, n437, -⟩⟩ := h
  exact ⟨k433, r0, r1, r2, r3, k434, k435, k436, k437, n434, n435, n436, n437⟩
def dEn (a : Nat) : Prop := a = 433 ∨ (434 ≤ a ∧ a ≤ 437)
theorem MLs_keep {I : Nat → Nat → Int32} {n : Nat} {fo : Nat → Tm} {en : Nat → Option (Nat × Nat)} {t : Tm} {e : Option (Nat × Nat)} (h : MLs I n fo en) : MLs I n (setN fo n t) (setN en n e) := by
  refine ⟨h.1, fun i hi => ?_⟩
  rw [setN_ne (by omega), setN_ne (by omega)]
  exact h.2 i hi
theorem nI_n1 {k : Nat} (h : k < 2 ^ 31) : ¬ nI k < 0 := nI_pos h
theorem m_enters {m : qM} {n : Nat} {fo : Nat → Tm} {en : Nat → Option (Nat × Nat)} {t : Tm} {e : Option (Nat × Nat)} (hM : MS (qK m) (qN m) (qR m)) (hL : MLs (qI m) n fo en) (hok : okL n fo en) (ho : One (qI m) t) (ht : okF t) (hv : ∀ a b, e = some (a, b) → a < n ∧ b < n) :
    ∃ m2, fX10_enters NF 433 (mjv e) (mnv e) m = some (entA n fo t, m2) ∧ Fx dEn m m2 ∧ (∀ j, j ≠ 5 → qI m2 433 j = qI m 433 j) ∧ MLs (qI m2) (entN n fo t) (setN fo n t) (setN en n e) := by
  have hn := hok.1
  have hM0 := hM
  obtain ⟨k433, r0, r1, r2, r3, k434, k435, k436, k437, n434, n435, n436, n437⟩ := hM.a
  have h5 := hL.1
  have hpl := m_place (lo := 0) (n := n) (g := fo) hM0 (by omega) (fun i _ hi => ⟨(hL.2 i (by omega)).1, bel_mono (hok.2.2 i (by omega)).1 (by omega), (hok.2.2 i (by omega)).2.1⟩) ho (bel_mono ht.1 (by omega)) (by have := ht.2.1; omega)
  rw [Nat.zero_add] at hpl
  have hpl2 : fX10_place NF 433 0 (nI n) m = some (if plc n fo t < n then nI (plc n fo t) else -1, m) := hpl
  unfold fX10_enters entA entN
  by_cases h1 : plc n fo t < n
  · rw [if_pos h1] at hpl2
    rw [if_pos h1, if_pos h1]
    refine ⟨m, ?_, Fx.rf, fun _ _ => rfl, MLs_keep hL⟩
    refine EgI k433 h5 ?_
    refine EC k433 hpl2 ?_
    refine EIn (show ¬ nI (plc n fo t) < 0 from nI_pos (by omega)) ?_
    rfl
  rw [if_neg h1] at hpl2
  rw [if_neg h1, if_neg h1]
  by_cases h2 : n < 60
  · rw [if_pos h2, if_pos h2]
    obtain ⟨m1, p1, p2, p3, p4, p5⟩ := m_puts (i := n) hM0 (by omega) ho ht.2.1
    have K433 : qK m1 433 = 10 := by rw [p2.1]; exact k433
    have K436 : qK m1 436 = 12 := by rw [p2.1]; exact k436
    have K437 : qK m1 437 = 12 := by rw [p2.1]; exact k437
    have N436 : qN m1 436 = 60 := by rw [p2.2.1]; exact n436
    have N437 : qN m1 437 = 60 := by rw [p2.2.1]; exact n437
    have R2 : qR m1 433 2 = some 436 := by rw [p2.2.2.1]; exact r2
    have R3 : qR m1 433 3 = some 437 := by rw [p2.2.2.1]; exact r3
    have H5 : qI m1 433 5 = nI n := by rw [p2.i (by simp [dPu])]; exact h5
    let m4 : qM := qsI (qsI (qsI m1 436 n (mjv e)) 437 n (mnv e)) 433 5 (nI (n + 1))
    refine ⟨m4, ?_, ?_, ?_, ?_⟩
    · refine EgI k433 h5 ?_
      refine EC k433 hpl2 ?_
      refine EIp (show (-1 : Int32) < 0 by decide) ?_
      refine EgI k433 h5 ?_
      refine EIn (fun z => by have := (nI_eq (b := 60) (by omega) (by omega)).mp z; omega) ?_
      refine EgI k433 h5 ?_
      refine EC k433 p1 ?_
      refine EgR K433 R2 ?_
      refine EgI K433 H5 ?_
      refine EwI K436 rfl (by omega) (by omega) rfl ?_
      refine EgR (show qK (qsI m1 436 n (mjv e)) 433 = 10 from K433) (show qR (qsI m1 436 n (mjv e)) 433 3 = some 437 from R3) ?_
      refine EgI (show qK (qsI m1 436 n (mjv e)) 433 = 10 from K433) (show qI (qsI m1 436 n (mjv e)) 433 5 = nI n from H5) ?_
      refine EwI (show qK (qsI m1 436 n (mjv e)) 437 = 12 from K437) rfl (show n < qN m1 437 by omega) (by omega) rfl ?_
      refine EgI (show qK (qsI (qsI m1 436 n (mjv e)) 437 n (mnv e)) 433 = 10 from K433) (show qI (qsI (qsI m1 436 n (mjv e)) 437 n (mnv e)) 433 5 = nI n from H5) ?_
      refine EpI (show qK (qsI (qsI m1 436 n (mjv e)) 437 n (mnv e)) 433 = 10 from K433) (nI_s _) ?_
      rfl
    · exact (((p2.mono (fun a ha => by unfold dPu at ha; unfold dEn; omega)).sI (by unfold dEn; omega)).sI (by unfold dEn; omega)).sI (by unfold dEn; omega)
    · intro j hj
      simp only [m4, qS, hj, ↓reduceIte]
      rw [p2.i (by simp [dPu])]
      simp
    · refine ⟨by simp [m4, qS], fun i hi => ?_⟩
      have e4 : qI m4 434 = qI m1 434 := by funext z; simp [m4, qS]
      have e5 : qI m4 435 = qI m1 435 := by funext z; simp [m4, qS]
      unfold SlT Cd
      rw [e4, e5]
      by_cases ei : i = n
      · subst ei
        rw [setN_eq, setN_eq]
        exact ⟨p3, by simp [m4, qS], by simp [m4, qS]⟩
      · obtain ⟨⟨s1, s2⟩, s3, s4⟩ := hL.2 i (by omega)
        rw [setN_ne ei, setN_ne ei]
        have h39 := (hok.2.2 i (by omega)).2.1
        refine ⟨⟨by rw [p4 i ei]; exact s1, fun j hj => by rw [p5 _ (by omega)]; exact s2 j hj⟩, ?_, ?_⟩
        · have : qI m4 436 i = qI m1 436 i := by simp [m4, qS, ei]
          rw [this, p2.i (by simp [dPu])]; exact s3
        · have : qI m4 437 i = qI m1 437 i := by simp [m4, qS, ei]
          rw [this, p2.i (by simp [dPu])]; exact s4
  · rw [if_neg h2, if_neg h2]
    refine ⟨m, ?_, Fx.rf, fun _ _ => rfl, MLs_keep hL⟩
    refine EgI k433 h5 ?_
    refine EC k433 hpl2 ?_
    refine EIp (show (-1 : Int32) < 0 by decide) ?_
    refine EgI k433 h5 ?_
    refine EIp (show nI n = (60 : Int32) by rw [show n = 60 by omega]; rfl) ?_
    rfl
theorem MP_ent {m m2 : qM} {s : ST} {n : Nat} {fo : Nat → Tm} {en : Nat → Option (Nat × Nat)} (h : MP m s) (f : Fx dEn m m2) (hj : ∀ j, j ≠ 5 → qI m2 433 j = qI m 433 j) (hL : MLs (qI m2) n fo en) : MP m2 (wLs s n fo en) := by
  obtain ⟨q1, q2, q3, q4, q5, q6, q7⟩ := h
  exact ⟨f.M q1, by rw [f.2.2.2.1]; exact q2, MTx_of q3 (hj 7 (by decide)) (f.i (by simp [dEn])), MOu_of q4 (hj 11 (by decide)) (f.i (by simp [dEn])), hL, MMx_of q6 (hj 13 (by decide)) (f.i (by simp [dEn])), MRs_of q7 (fun a ha _ => f.i (by unfold dEn; omega))⟩
theorem m_detach {m : qM} {s : ST} (h : MP m s) (hs : okS s) (v w : Int32) : ∃ m2, fX10_detach NF 433 v w m = some (aDet s v w, m2) ∧ MP m2 (sDet s v w) ∧ Gm m m2 ∧ (qI m2 433 8 = qI m 433 8) := by
  have hP := h
  obtain ⟨hM, -, -, -, hL, -⟩ := h
  have hn := hs.1.1
  obtain ⟨k433, r0, r1, r2, r3, k434, k435, k436, k437, n434, n435, n436, n437⟩ := hM.a
  unfold fX10_detach aDet sDet ans2
  rcases hasA_cases (n := sN s) (by omega) v with ⟨h1, -⟩ | ⟨i, hi, rfl, h1⟩
  · rw [ansN_miss h1, ansN_miss h1]
    refine ⟨m, ?_, hP, Fx.rf, rfl⟩
    refine EC k433 (m_isOne k433 hL.1 hn v) ?_
    refine EIp h1 ?_
    rfl
  · rw [ansN_hit (by omega) h1, ansN_hit (by omega) h1]
    rcases hasA_cases (n := sN s) (by omega) w with ⟨h2, -⟩ | ⟨j, hj, rfl, h2⟩
    · rw [ansN_miss h2, ansN_miss h2]
      refine ⟨m, ?_, hP, Fx.rf, rfl⟩
      refine EC k433 (m_isOne k433 hL.1 hn _) ?_
      refine EIn (show ¬ hasA (sN s) (nI i) = 0 by rw [h1]; exact i10) ?_
      refine EC k433 (m_isOne k433 hL.1 hn w) ?_
      refine EIp h2 ?_
      rfl
    · rw [ansN_hit (by omega) h2, ansN_hit (by omega) h2]
      obtain ⟨b1, s1, -⟩ := hs.1.2.2 i hi
      obtain ⟨b2, s2, -⟩ := hs.1.2.2 j hj
      obtain ⟨m1, p1, p2, p3, p4⟩ := m_detaches (A := 434) (B := 434) (w := 39 * i) (u := 39 * j) hM (Or.inl rfl) (Or.inl rfl) (by omega) (by omega) (bel_mono b1 (by omega)) (bel_mono b2 (by omega)) s1 s2 (hL.2 i hi).1.2 (hL.2 j hj).1.2
      have hP1 : MP m1 s := MP_fx hP p2 (fun a ha => by unfold dDt at ha; omega) (p3 5 (by simp [kp])) (p3 7 (by simp [kp])) (p3 11 (by simp [kp])) (p3 13 (by simp [kp]))
      have g1 : Gm m m1 := p2.mono (fun a ha => by unfold dDt at ha; omega)
      have hd : fX10_detaches_ NF 433 (nI i) (nI j) m = some (rc (dU (sFo s i) (sFo s j)), m1) := by
        unfold fX10_detaches_
        refine EgR k433 r0 ?_
        refine EgR k433 r0 ?_
        rw [ix39', ix39']
        refine EC k433 p1 ?_
        rfl
      have hM1 := hP1.1
      have K433 := hM1.a.1
      have hpre : ∀ R, (if 0 ≤ rc (dU (sFo s i) (sFo s j)) then (qChk m1 433 10 (fX10_enters NF 433 (nI i) (nI j) m1)).bind fun b4 => some (b4.1, b4.2) else some (rc (dU (sFo s i) (sFo s j)), m1)) = R → ((qChk m 433 10 (fX10_isOne NF 433 (nI i) m)).bind fun b1 => if b1.1 = 0 then some ((-1 : Int32), b1.2) else (qChk b1.2 433 10 (fX10_isOne NF 433 (nI j) b1.2)).bind fun b2 => if b2.1 = 0 then some ((-1 : Int32), b2.2) else (qChk b2.2 433 10 (fX10_detaches_ NF 433 (nI i) (nI j) b2.2)).bind fun b3 => if 0 ≤ b3.1 then (qChk b3.2 433 10 (fX10_enters NF 433 (nI i) (nI j) b3.2)).bind fun b4 => some (b4.1, b4.2) else some (b3.1, b3.2)) = R := by
        intro R hR
        refine EC k433 (m_isOne k433 hL.1 hn _) ?_
        refine EIn (show ¬ hasA (sN s) (nI i) = 0 by rw [h1]; exact i10) ?_
        refine EC k433 (m_isOne k433 hL.1 hn _) ?_
        refine EIn (show ¬ hasA (sN s) (nI j) = 0 by rw [h2]; exact i10) ?_
        refine EC k433 hd ?_
        exact hR
      show ∃ m2, _ = some (detA s i j, m2) ∧ MP m2 (detS s i j) ∧ Gm m m2 ∧ (qI m2 433 8 = qI m 433 8)
      unfold detA detS
      by_cases e : rc (dU (sFo s i) (sFo s j)) = 0
      · rw [if_pos e, if_pos e]
        have hF := dU_okF b1 b2 s1 s2 (rc_ok.mp e)
        obtain ⟨m2, w1, w2, w3, w4⟩ := m_enters (e := some (i, j)) hM1 hP1.2.2.2.2.1 hs.1 (p4 (rc_ok.mp e)) hF (fun a b z => by injection z with z; injection z with z1 z2; subst z1 z2; exact ⟨hi, hj⟩)
        refine ⟨m2, ?_, MP_ent hP1 w2 w3 w4, g1.tr (w2.mono (fun a ha => by unfold dEn at ha; omega)), (w3 8 (by decide)).trans (p3 8 (by simp [kp]))⟩
        apply hpre
        refine EIp (by rw [e]; decide) ?_
        refine EC K433 w1 ?_
        rfl
      · rw [if_neg e, if_neg e]
        refine ⟨m1, ?_, hP1, g1, p3 8 (by simp [kp])⟩
        apply hpre
        refine EIn (fun z => absurd (rc_neg e) (Int32.not_lt.mpr z)) ?_
        rfl
-- ===== reads =====
theorem m_fsize {m : qM} {s : ST} (h : MP m s) (hs : okS s) (v : Int32) : fX10_formulaSize NF 433 v m = some (ansN (-1 : Int32) (sN s) (fun j => nI (tS (sFo s j))) v, m) := by
  obtain ⟨hM, -, -, -, hL, -⟩ := h
  have hn := hs.1.1
  obtain ⟨k433, r0, r1, r2, r3, k434, k435, k436, k437, n434, n435, n436, n437⟩ := hM.a
  unfold fX10_formulaSize
  refine EC k433 (m_isOne k433 hL.1 hn v) ?_
  rcases hasA_cases (n := sN s) (by omega) v with ⟨h1, -⟩ | ⟨j, hj, rfl, h1⟩
  · rw [ansN_miss h1]
    refine EIp h1 ?_
    rfl
  · rw [ansN_hit (by omega) h1]
    have h := hL.2 j hj
    refine EIn (show ¬ hasA (sN s) (nI j) = 0 by rw [h1]; exact i10) ?_
    refine EgR k433 r1 ?_
    refine EaI k435 rfl (show j < qN m 435 by omega) (by omega) (h.1.1) ?_
    rfl
theorem m_majorOf {m : qM} {s : ST} (h : MP m s) (hs : okS s) (v : Int32) : fX10_majorOf NF 433 v m = some (ansN (-1 : Int32) (sN s) (fun j => mjv (sEn s j)) v, m) := by
  obtain ⟨hM, -, -, -, hL, -⟩ := h
  have hn := hs.1.1
  obtain ⟨k433, r0, r1, r2, r3, k434, k435, k436, k437, n434, n435, n436, n437⟩ := hM.a
  unfold fX10_majorOf
  refine EC k433 (m_isOne k433 hL.1 hn v) ?_
  rcases hasA_cases (n := sN s) (by omega) v with ⟨h1, -⟩ | ⟨j, hj, rfl, h1⟩
  · rw [ansN_miss h1]
    refine EIp h1 ?_
    rfl
  · rw [ansN_hit (by omega) h1]
    have h := hL.2 j hj
    refine EIn (show ¬ hasA (sN s) (nI j) = 0 by rw [h1]; exact i10) ?_
    refine EgR k433 r2 ?_
    refine EaI k436 rfl (show j < qN m 436 by omega) (by omega) (h.2.1) ?_
    rfl
theorem m_minorOf {m : qM} {s : ST} (h : MP m s) (hs : okS s) (v : Int32) : fX10_minorOf NF 433 v m = some (ansN (-1 : Int32) (sN s) (fun j => mnv (sEn s j)) v, m) := by
  obtain ⟨hM, -, -, -, hL, -⟩ := h
  have hn := hs.1.1
  obtain ⟨k433, r0, r1, r2, r3, k434, k435, k436, k437, n434, n435, n436, n437⟩ := hM.a
  unfold fX10_minorOf
  refine EC k433 (m_isOne k433 hL.1 hn v) ?_
  rcases hasA_cases (n := sN s) (by omega) v with ⟨h1, -⟩ | ⟨j, hj, rfl, h1⟩
  · rw [ansN_miss h1]
    refine EIp h1 ?_
    rfl
  · rw [ansN_hit (by omega) h1]
    have h := hL.2 j hj
    refine EIn (show ¬ hasA (sN s) (nI j) = 0 by rw [h1]; exact i10) ?_
    refine EgR k433 r3 ?_
    refine EaI k437 rfl (show j < qN m 437 by omega) (by omega) (h.2.2) ?_
    rfl
theorem m_listSize {m : qM} {s : ST} (h : MP m s) : fX10_listSize NF 433 m = some (nI (sN s), m) := by
  obtain ⟨hM, -, -, -, hL, -⟩ := h
  unfold fX10_listSize
  refine EgI hM.a.1 hL.1 ?_
  rfl
theorem m_outLen {m : qM} {s : ST} (h : MP m s) : fX10_outputLength NF 433 m = some (nI (sOu s).length, m) := by
  obtain ⟨hM, -, -, hO, -⟩ := h
  unfold fX10_outputLength
  refine EgI hM.a.1 hO.1 ?_
  rfl
theorem MS.o {K N : Nat → Nat} {R : Nat → Nat → Option Nat} (h : MS K N R) : K 433 = 10 ∧ R 433 10 = some 440 ∧ K 440 = 12 ∧ N 440 = 400 := by
  obtain ⟨⟨k433, r0, r1, r2, r3, r4, r6, r10, -⟩, ⟨k434, k435, k436, k437, k438, k439, k440, -⟩, ⟨n434, n435, n436, n437, n438, n439, n440, -⟩⟩ := h
  exact ⟨k433, r10, k440, n440⟩
theorem in_range {n : Nat} (hn : n ≤ 1000) (v : Int32) {m : qM} {N : Nat} : fX10_in N v 0 (nI n - 1) m = some (if v < 0 then 0 else if nI n ≤ v then 0 else 1, m) := by
  rw [fX10_in_eq]
  by_cases h0 : v < 0
  · rw [if_pos h0, if_pos h0]
  · rw [if_neg h0, if_neg h0]
    obtain ⟨j, hj, rfl⟩ := nI_of (x := v) h0
    by_cases hz : n = 0
    · subst hz
      have e1 : nI 0 - 1 < nI j := by
        rw [show nI 0 - 1 = (-1 : Int32) by decide]
        exact Int32.lt_of_lt_of_le (by decide : (-1 : Int32) < 0) (Int32.not_lt.mp h0)
      rw [if_pos e1, if_pos (show nI 0 ≤ nI j from Int32.not_lt.mp h0)]
    · rw [nI_m1 (by omega)]
      by_cases h1 : n ≤ j
      · rw [if_pos ((nI_ltI (by omega) hj).mpr (by omega)), if_pos ((nI_leI (by omega) hj).mpr h1)]
      · rw [if_neg (fun z => h1 (by have := (nI_ltI (by omega) hj).mp z; omega)), if_neg (fun z => h1 ((nI_leI (by omega) hj).mp z))]
theorem m_outAt {m : qM} {s : ST} (h : MP m s) (hs : okS s) (v : Int32) : fX10_outputAt NF 433 v m = some (aOut (sOu s) v, m) := by
  obtain ⟨hM, -, -, hO, -⟩ := h
  obtain ⟨k433, r10, k440, n440⟩ := hM.o
  have h120 := hs.2.2.1
  unfold fX10_outputAt aOut
  refine EgI k433 hO.1 ?_
  refine EB (in_range (by omega) v) ?_
  rcases pk_ix v (n := (sOu s).length) (by omega) with e | e | ⟨j, hj, rfl⟩
  · rw [if_pos e, if_pos e]
    refine EIp rfl ?_
    rfl
  · by_cases e0 : v < 0
    · rw [if_pos e0, if_pos e0]
      refine EIp rfl ?_
      rfl
    · rw [if_neg e0, if_neg e0, if_pos e, if_pos e]
      refine EIp rfl ?_
      rfl
  · have e0 : ¬ nI j < 0 := nI_pos (by omega)
    have e1 : ¬ nI (sOu s).length ≤ nI j := fun z => by have := (nI_leI (by omega) (by omega)).mp z; omega
    rw [if_neg e0, if_neg e0, if_neg e1, if_neg e1, nI_clamp (by omega)]
    refine EIn i10 ?_
    refine EgR k433 r10 ?_
    refine EaI k440 rfl (show j < qN m 440 by omega) (by omega) (hO.2 j hj) ?_
    rfl
theorem m_cut {m : qM} {s : ST} (h : MP m s) (hs : okS s) (v : Int32) : ∃ m2, fX10_cut NF 433 v m = some (aCut (sN s) v, m2) ∧ MP m2 (sCut s v) ∧ Gm m m2 := by
  have hP := h
  obtain ⟨hM, q2, q3, q4, hL, q6, q7⟩ := h
  have hn := hs.1.1
  have k433 := hM.a.1
  unfold fX10_cut aCut sCut
  by_cases h0 : v < 0
  · rw [if_pos h0, if_pos h0]
    refine ⟨m, ?_, hP, Fx.rf⟩
    refine EgI k433 hL.1 ?_
    refine EB (b := (0, m)) (by rw [fX10_in_eq, if_pos h0]) ?_
    refine EIp rfl ?_
    rfl
  · rw [if_neg h0, if_neg h0]
    by_cases h1 : v ≤ nI (sN s)
    · rw [if_pos h1, if_pos h1]
      obtain ⟨j, hj, rfl⟩ := cut_ok hn h0 h1
      have f : Fx (fun a => a = 433) m (qsI m 433 5 (nI j)) := Fx.rf.sI rfl
      have e5 : ∀ k, k ≠ 5 → qI (qsI m 433 5 (nI j)) 433 k = qI m 433 k := fun k hk => by simp [qS, hk]
      refine ⟨qsI m 433 5 (nI j), ?_, ?_, f.mono (fun a ha => by omega)⟩
      · refine EgI k433 hL.1 ?_
        refine EB (b := (1, m)) (by rw [fX10_in_eq, if_neg h0, if_neg (Int32.not_lt.mpr h1)]) ?_
        refine EIn i10 ?_
        refine EgI k433 hL.1 ?_
        refine EpI k433 rfl ?_
        rfl
      · rw [nI_clamp (by omega)]
        have f434 : ∀ a, 434 ≤ a → qI (qsI m 433 5 (nI j)) a = qI m a := fun a ha => f.i (by omega)
        refine ⟨f.M hM, q2, MTx_of q3 (e5 7 (by decide)) (f434 439 (by omega)), MOu_of q4 (e5 11 (by decide)) (f434 440 (by omega)), ⟨by simp [qS, wLs, sN], fun i hi => ?_⟩, MMx_of q6 (e5 13 (by decide)) (f434 441 (by omega)), MRs_of q7 (fun a ha _ => f434 a (by omega))⟩
        have hi' : i < j := hi
        unfold SlT Cd
        rw [f434 434 (by omega), f434 435 (by omega), f434 436 (by omega), f434 437 (by omega)]
        exact hL.2 i (by omega)
    · rw [if_neg h1, if_neg h1]
      refine ⟨m, ?_, hP, Fx.rf⟩
      refine EgI k433 hL.1 ?_
      refine EB (b := (0, m)) (by rw [fX10_in_eq, if_neg h0, if_pos (Int32.not_le.mp h1)]) ?_
      refine EIp rfl ?_
      rfl
end
