section
-- ===== validity, refutations, counts: the class =====
def vaG (s : ST) (j : Nat) : Int32 := if nv (sFo s j) ≤ 8 then (if rfK (sTb s) (sDe s) (sFo s j) < 3 ^ nv (sFo s j) then 0 else 1) else -5
def aVal (s : ST) (v : Int32) : Int32 := ansN (-1) (sN s) (vaG s) v
def rfG (s : ST) (j x : Nat) : Int32 := if nv (sFo s j) ≤ 8 then (if rfK (sTb s) (sDe s) (sFo s j) < 3 ^ nv (sFo s j) then nI (vl (nv (sFo s j)) (rfK (sTb s) (sDe s) (sFo s j)) x) else -4) else -5
def aRef (s : ST) (v w : Int32) : Int32 := ansN (-1) (sN s) (fun j => ansN (-1) (nv (sFo s j)) (rfG s j) w) v
def cnG (s : ST) (j x : Nat) : Int32 := if nv (sFo s j) ≤ 8 then nI (cnt (cvP (sTb s) (sFo s j) x) (3 ^ nv (sFo s j))) else -5
def aCnt (s : ST) (v w : Int32) : Int32 := ansN (-1) (sN s) (fun j => if b3 w = 0 then -1 else cnG s j w.toNatClampNeg) v
theorem nv_12 {t : Tm} (h : okF t) : nv t ≤ 39 := by
  have hl := nm_len (pol t) []
  rw [pol_len] at hl
  simp only [List.length_nil, Nat.zero_add] at hl
  have := h.2.1
  show (nm [] (pol t)).length ≤ 39
  omega
theorem c_isValid {m : qM} {s : ST} (h : CP m s) (hs : okS s) (v : Int32) : ∃ m2, fX9_isValid NF 0 v m = some (aVal s v, m2) ∧ CP m2 s ∧ Gc m m2 := by
  have hP := h
  obtain ⟨hX, -, -, -, hL, -⟩ := h
  have hn := hs.1.1
  obtain ⟨k0, r00, r01, r02, r03, r04, r05, r06, -⟩ := hX.c0
  have k5 := hX.ls.1
  unfold fX9_isValid aVal
  rcases hasA_cases (n := sN s) (by omega) v with ⟨h1, -⟩ | ⟨j, hj, rfl, h1⟩
  · rw [ansN_miss h1]
    refine ⟨m, ?_, hP, Fx.rf⟩
    refine EgR k0 r02 ?_
    refine EC k5 (c_has k5 hL.1 v) ?_
    refine EIp h1 ?_
    rfl
  · rw [ansN_hit (by omega) h1]
    have F := (hX.lf (i := j) (by omega)).1
    have C := (hL.2 j hj).1
    have hφ := hs.1.2.2 j hj
    have h39 := nv_12 hφ
    have hpre : ∀ R, (if nI (nv (sFo s j)) ≤ (8 : Int32) then (qgR m 0 9 6).bind fun x6 => (qgR m 0 9 2).bind fun x7 => (qChk m x7 1 (fX1_at NF x7 (nI j) m)).bind fun b8 => (qChk b8.2 x6 4 (fX4_refutes NF x6 b8.1 b8.2)).bind fun b9 => if b9.1 = 0 then some ((1 : Int32), b9.2) else some ((0 : Int32), b9.2) else some ((-5 : Int32), m)) = R → ((qgR m 0 9 2).bind fun x1 => (qChk m x1 1 (fX1_has NF x1 (nI j) m)).bind fun b2 => if b2.1 = 0 then some ((-1 : Int32), b2.2) else (qgR b2.2 0 9 2).bind fun x3 => (qChk b2.2 x3 1 (fX1_at NF x3 (nI j) b2.2)).bind fun b4 => (qChk b4.2 b4.1 0 (fX0_variables NF b4.1 b4.2)).bind fun b5 => if b5.1 ≤ (8 : Int32) then (qgR b5.2 0 9 6).bind fun x6 => (qgR b5.2 0 9 2).bind fun x7 => (qChk b5.2 x7 1 (fX1_at NF x7 (nI j) b5.2)).bind fun b8 => (qChk b8.2 x6 4 (fX4_refutes NF x6 b8.1 b8.2)).bind fun b9 => if b9.1 = 0 then some ((1 : Int32), b9.2) else some ((0 : Int32), b9.2) else some ((-5 : Int32), b5.2)) = R := by
      intro R hR
      refine EgR k0 r02 ?_
      refine EC k5 (c_has k5 hL.1 _) ?_
      refine EIn (show ¬ hasA (sN s) (nI j) = 0 by rw [h1]; exact i10) ?_
      refine EgR k0 r02 ?_
      refine EC k5 (c_lat hX (by omega)) ?_
      refine EC F.1 (c_vars F C) ?_
      exact hR
    unfold vaG
    by_cases e : nv (sFo s j) ≤ 8
    · rw [if_pos e]
      obtain ⟨m2, p1, p2, -⟩ := c_refutes hP hn (f := 12 + 2 * j) (by omega) F C hφ e
      refine ⟨m2, hpre _ ?_, CP_fx hP hn p2 (fun a ha => by unfold dVa at ha; omega), p2.mono (fun a ha => by unfold dVa at ha; omega)⟩
      refine EIp ((nI_leI (b := 8) (by omega) (by omega)).mpr e) ?_
      refine EgR k0 r06 ?_
      refine EgR k0 r02 ?_
      refine EC k5 (c_lat hX (by omega)) ?_
      refine EC hX.mv.1 p1 ?_
      by_cases e2 : rfK (sTb s) (sDe s) (sFo s j) < 3 ^ nv (sFo s j)
      · rw [if_pos e2, if_pos e2]
        refine EIn i10 ?_
        rfl
      · rw [if_neg e2, if_neg e2]
        refine EIp rfl ?_
        rfl
    · rw [if_neg e]
      refine ⟨m, hpre _ ?_, hP, Fx.rf⟩
      refine EIn (fun z => e ((nI_leI (b := 8) (by omega) (by omega)).mp z)) ?_
      rfl
theorem c_refutation {m : qM} {s : ST} (h : CP m s) (hs : okS s) (v w : Int32) : ∃ m2, fX9_refutation NF 0 v w m = some (aRef s v w, m2) ∧ CP m2 s ∧ Gc m m2 := by
  have hP := h
  obtain ⟨hX, -, -, -, hL, -⟩ := h
  have hn := hs.1.1
  obtain ⟨k0, r00, r01, r02, r03, r04, r05, r06, -⟩ := hX.c0
  have k5 := hX.ls.1
  unfold fX9_refutation aRef
  rcases hasA_cases (n := sN s) (by omega) v with ⟨h1, -⟩ | ⟨j, hj, rfl, h1⟩
  · rw [ansN_miss h1]
    refine ⟨m, ?_, hP, Fx.rf⟩
    refine EgR k0 r02 ?_
    refine EC k5 (c_has k5 hL.1 v) ?_
    refine EIp h1 ?_
    rfl
  · rw [ansN_hit (by omega) h1]
    have F := (hX.lf (i := j) (by omega)).1
    have C := (hL.2 j hj).1
    have hφ := hs.1.2.2 j hj
    have h39 := nv_12 hφ
    rcases hasA_cases (n := nv (sFo s j)) (by omega) w with ⟨h2, h2'⟩ | ⟨x, hx, rfl, h2⟩
    · show ∃ m2, _ = some (ansN (-1) (nv (sFo s j)) (rfG s j) w, m2) ∧ CP m2 s ∧ Gc m m2
      rw [ansN_miss h2]
      refine ⟨m, ?_, hP, Fx.rf⟩
      refine EgR k0 r02 ?_
      refine EC k5 (c_has k5 hL.1 _) ?_
      refine EIn (show ¬ hasA (sN s) (nI j) = 0 by rw [h1]; exact i10) ?_
      by_cases e0 : w < 0
      · refine EIp e0 ?_
        rfl
      · refine EIn e0 ?_
        refine EgR k0 r02 ?_
        refine EC k5 (c_lat hX (by omega)) ?_
        refine EC F.1 (c_vars F C) ?_
        refine EIn (fun z => h2' ?_) ?_
        · obtain ⟨x, hx, rfl⟩ := nI_of (x := w) e0
          have := (nI_ltI hx (by omega)).mp z
          exact ⟨x, 1, rfl, rfl, by omega⟩
        rfl
    · show ∃ m2, _ = some (ansN (-1) (nv (sFo s j)) (rfG s j) (nI x), m2) ∧ CP m2 s ∧ Gc m m2
      rw [ansN_hit (by omega) h2]
      have hpre : ∀ R, (if nI (nv (sFo s j)) ≤ (8 : Int32) then (qgR m 0 9 6).bind fun x9 => (qgR m 0 9 2).bind fun x10 => (qChk m x10 1 (fX1_at NF x10 (nI j) m)).bind fun b11 => (qChk b11.2 x9 4 (fX4_refutes NF x9 b11.1 b11.2)).bind fun b12 => if b12.1 = 0 then some ((-4 : Int32), b12.2) else (qgR b12.2 0 9 6).bind fun x13 => (qChk b12.2 x13 4 (fX4_variableValue NF x13 (nI x) b12.2)).bind fun b14 => some (b14.1, b14.2) else some ((-5 : Int32), m)) = R → fX9_refutation NF 0 (nI j) (nI x) m = R := by
        intro R hR
        unfold fX9_refutation
        refine EgR k0 r02 ?_
        refine EC k5 (c_has k5 hL.1 _) ?_
        refine EIn (show ¬ hasA (sN s) (nI j) = 0 by rw [h1]; exact i10) ?_
        refine EIn (nI_pos (by omega)) ?_
        refine EgR k0 r02 ?_
        refine EC k5 (c_lat hX (by omega)) ?_
        refine EC F.1 (c_vars F C) ?_
        refine EIp ((nI_ltI (by omega) (by omega)).mpr hx) ?_
        refine EgR k0 r02 ?_
        refine EC k5 (c_lat hX (by omega)) ?_
        refine EC F.1 (c_vars F C) ?_
        exact hR
      unfold fX9_refutation at hpre
      unfold rfG
      by_cases e : nv (sFo s j) ≤ 8
      · rw [if_pos e]
        obtain ⟨m2, p1, p2, p3⟩ := c_refutes hP hn (f := 12 + 2 * j) (by omega) F C hφ e
        have hP2 : CP m2 s := CP_fx hP hn p2 (fun a ha => by unfold dVa at ha; omega)
        refine ⟨m2, hpre _ ?_, hP2, p2.mono (fun a ha => by unfold dVa at ha; omega)⟩
        refine EIp ((nI_leI (b := 8) (by omega) (by omega)).mpr e) ?_
        refine EgR k0 r06 ?_
        refine EgR k0 r02 ?_
        refine EC k5 (c_lat hX (by omega)) ?_
        refine EC hX.mv.1 p1 ?_
        by_cases e2 : rfK (sTb s) (sDe s) (sFo s j) < 3 ^ nv (sFo s j)
        · rw [if_pos e2, if_pos e2]
          obtain ⟨K0, R00, R01, R02, R03, R04, R05, R06, -⟩ := hP2.1.c0
          obtain ⟨k389, q0, q1, q2, k390, n390, k391, n391, k392, n392⟩ := hP2.1.mv
          have hvv : fX4_variableValue NF 389 (nI x) m2 = some (nI (vl (nv (sFo s j)) (rfK (sTb s) (sDe s) (sFo s j)) x), m2) := by
            unfold fX4_variableValue
            refine EgR k389 q1 ?_
            refine EaI k391 rfl (by omega) (by omega) (p3 e2 x hx) ?_
            rfl
          refine EIn i10 ?_
          refine EgR K0 R06 ?_
          refine EC k389 hvv ?_
          rfl
        · rw [if_neg e2, if_neg e2]
          refine EIp rfl ?_
          rfl
      · rw [if_neg e]
        refine ⟨m, hpre _ ?_, hP, Fx.rf⟩
        refine EIn (fun z => e ((nI_leI (b := 8) (by omega) (by omega)).mp z)) ?_
        rfl
theorem c_count {m : qM} {s : ST} (h : CP m s) (hs : okS s) (v w : Int32) : ∃ m2, fX9_countValuations NF 0 v w m = some (aCnt s v w, m2) ∧ CP m2 s ∧ Gc m m2 := by
  have hP := h
  obtain ⟨hX, -, -, -, hL, -⟩ := h
  have hn := hs.1.1
  obtain ⟨k0, r00, r01, r02, r03, r04, r05, r06, -⟩ := hX.c0
  have k5 := hX.ls.1
  unfold fX9_countValuations aCnt
  rcases hasA_cases (n := sN s) (by omega) v with ⟨h1, -⟩ | ⟨j, hj, rfl, h1⟩
  · rw [ansN_miss h1]
    refine ⟨m, ?_, hP, Fx.rf⟩
    refine EgR k0 r02 ?_
    refine EC k5 (c_has k5 hL.1 v) ?_
    refine EIp h1 ?_
    rfl
  · rw [ansN_hit (by omega) h1]
    have F := (hX.lf (i := j) (by omega)).1
    have C := (hL.2 j hj).1
    have hφ := hs.1.2.2 j hj
    have h39 := nv_12 hφ
    rcases b3_cases w with hb | ⟨hb, x, hx, rfl⟩
    · show ∃ m2, _ = some (if b3 w = 0 then -1 else cnG s j w.toNatClampNeg, m2) ∧ CP m2 s ∧ Gc m m2
      rw [if_pos hb]
      refine ⟨m, ?_, hP, Fx.rf⟩
      refine EgR k0 r02 ?_
      refine EC k5 (c_has k5 hL.1 _) ?_
      refine EIn (show ¬ hasA (sN s) (nI j) = 0 by rw [h1]; exact i10) ?_
      refine EB isTruth_eq ?_
      refine EIp hb ?_
      rfl
    · show ∃ m2, _ = some (if b3 (nI x) = 0 then -1 else cnG s j (nI x).toNatClampNeg, m2) ∧ CP m2 s ∧ Gc m m2
      rw [if_neg (by rw [hb]; exact i10), nI_clamp (by omega)]
      have hpre : ∀ R, (if nI (nv (sFo s j)) ≤ (8 : Int32) then (qgR m 0 9 6).bind fun x7 => (qgR m 0 9 2).bind fun x8 => (qChk m x8 1 (fX1_at NF x8 (nI j) m)).bind fun b9 => (qChk b9.2 x7 4 (fX4_countOf NF x7 b9.1 (nI x) b9.2)).bind fun b10 => some (b10.1, b10.2) else some ((-5 : Int32), m)) = R → fX9_countValuations NF 0 (nI j) (nI x) m = R := by
        intro R hR
        unfold fX9_countValuations
        refine EgR k0 r02 ?_
        refine EC k5 (c_has k5 hL.1 _) ?_
        refine EIn (show ¬ hasA (sN s) (nI j) = 0 by rw [h1]; exact i10) ?_
        refine EB isTruth_eq ?_
        refine EIn (show ¬ b3 (nI x) = 0 by rw [hb]; exact i10) ?_
        refine EgR k0 r02 ?_
        refine EC k5 (c_lat hX (by omega)) ?_
        refine EC F.1 (c_vars F C) ?_
        exact hR
      unfold fX9_countValuations at hpre
      unfold cnG
      by_cases e : nv (sFo s j) ≤ 8
      · rw [if_pos e]
        obtain ⟨m2, p1, p2⟩ := c_countOf hP hn (f := 12 + 2 * j) (x := x) (by omega) F C hφ e hx
        refine ⟨m2, hpre _ ?_, CP_fx hP hn p2 (fun a ha => by unfold dVa at ha; omega), p2.mono (fun a ha => by unfold dVa at ha; omega)⟩
        refine EIp ((nI_leI (b := 8) (by omega) (by omega)).mpr e) ?_
        refine EgR k0 r06 ?_
        refine EgR k0 r02 ?_
        refine EC k5 (c_lat hX (by omega)) ?_
        refine EC hX.mv.1 p1 ?_
        rfl
      · rw [if_neg e]
        refine ⟨m, hpre _ ?_, hP, Fx.rf⟩
        refine EIn (fun z => e ((nI_leI (b := 8) (by omega) (by omega)).mp z)) ?_
        rfl
end
