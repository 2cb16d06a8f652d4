section
-- ===== the class derives =====
noncomputable def detA (s : ST) (i j : Nat) : Int32 := if rc (dU (sFo s i) (sFo s j)) = 0 then entA (sN s) (sFo s) (rt (dU (sFo s i) (sFo s j))) else rc (dU (sFo s i) (sFo s j))
noncomputable def detS (s : ST) (i j : Nat) : ST := if rc (dU (sFo s i) (sFo s j)) = 0 then wLs s (entN (sN s) (sFo s) (rt (dU (sFo s i) (sFo s j)))) (setN (sFo s) (sN s) (rt (dU (sFo s i) (sFo s j)))) (setN (sEn s) (sN s) (some (i, j))) else s
theorem ok_det {s : ST} {i j : Nat} (h : okS s) (hi : i < sN s) (hj : j < sN s) : okS (detS s i j) := by
  unfold detS
  by_cases e : rc (dU (sFo s i) (sFo s j)) = 0
  · rw [if_pos e]
    obtain ⟨b1, s1, -⟩ := h.1.2.2 i hi
    obtain ⟨b2, s2, -⟩ := h.1.2.2 j hj
    exact ⟨okL_ent h.1 (dU_okF b1 b2 s1 s2 (rc_ok.mp e)) (fun a b z => by injection z with z; injection z with z1 z2; subst z1 z2; exact ⟨hi, hj⟩), h.2⟩
  · rw [if_neg e]; exact h
theorem XS.f429 {K N : Nat → Nat} {R : Nat → Nat → Option Nat} (h : XS K N R) : FmS K N R 429 := by
  obtain ⟨-, -, -, -, -, -, -, -, -, -, -, h1, h2, h3, h4, -⟩ := h
  exact ⟨h1, h2, h3, h4⟩
theorem XS.r31 {K N : Nat → Nat} {R : Nat → Nat → Option Nat} (h : XS K N R) : K 431 = 12 ∧ N 431 = 12 ∧ K 432 = 12 ∧ N 432 = 120 := by
  obtain ⟨-, -, -, -, -, -, -, -, -, -, -, h1, h2, h3, h4, h5, h6, h7, h8⟩ := h
  exact ⟨h5, h6, h7, h8⟩
theorem CP_ent {m m2 : qM} {s : ST} {n : Nat} {fo : Nat → Tm} {en : Nat → Option (Nat × Nat)} (h : CP m s) (f : Fx dLi m m2) (hL : CLs (qI m2) (qL m2) n fo en) : CP m2 (wLs s n fo en) := by
  obtain ⟨h1, h2, h3, h4, h5, h6, h7⟩ := h
  exact ⟨f.X h1, CTx_of (f.i (by unfold dLi; omega)) (f.i (by unfold dLi; omega)) h2, h3, CTx_of (f.i (by unfold dLi; omega)) (f.i (by unfold dLi; omega)) h4, hL, CMx_of h6 (f.i (by unfold dLi; omega)) (f.i (by unfold dLi; omega)), CRs_of h7 (fun a _ _ => f.i (by unfold dLi; omega))⟩
theorem c_derive {m : qM} {s : ST} {i j : Nat} (h : CP m s) (hs : okS s) (hi : i < sN s) (hj : j < sN s) : ∃ m2, fX9_derive NF 0 (nI i) (nI j) m = some (detA s i j, m2) ∧ CP m2 (detS s i j) ∧ Fx (fun a => a < 431) m m2 := by
  have hP := h
  obtain ⟨hX, -, -, -, hL, -⟩ := h
  have hn := hs.1.1
  obtain ⟨k0, r00, r01, r02, r03, r04, r05, r06, r07, r08, r09, r010, -⟩ := hX.c0
  have k5 := hX.ls.1
  have k132 := hX.un.1
  obtain ⟨b1, s1, -⟩ := hs.1.2.2 i hi
  obtain ⟨b2, s2, -⟩ := hs.1.2.2 j hj
  obtain ⟨m1, p1, p2, p3⟩ := c_detachInto (f3 := 429) hX.un (hX.lf (i := i) (by omega)).1 (hX.lf (i := j) (by omega)).1 hX.f429 (by omega) (by omega) (by omega) (hL.2 i hi).1 (hL.2 j hj).1 b1 b2
  have hP1 : CP m1 s := CP_fx hP hn p2 (fun a ha => by unfold dDi at ha; omega)
  have g1 : Fx (fun a => a < 431) m m1 := p2.mono (fun a ha => by unfold dDi at ha; omega)
  have hX1 := hP1.1
  obtain ⟨K0, R00, R01, R02, R03, R04, R05, R06, R07, R08, R09, R010, -⟩ := hX1.c0
  have K5 := hX1.ls.1
  unfold fX9_derive detA detS
  by_cases e : rc (dU (sFo s i) (sFo s j)) = 0
  · rw [if_pos e, if_pos e]
    obtain ⟨q1, q2⟩ := p3 (rc_ok.mp e)
    obtain ⟨m2, w1, w2, w3⟩ := c_enter (e := some (i, j)) hX1 hP1.2.2.2.2.1 hs.1 hX1.f429 (by omega) q1 (bel_mono q2.1 (by omega)) (fun a b z => by injection z with z; injection z with z1 z2; subst z1 z2; exact ⟨hi, hj⟩)
    refine ⟨m2, ?_, CP_ent hP1 w2 w3, g1.tr (w2.mono (fun a ha => by unfold dLi at ha; omega))⟩
    refine EgR k0 r03 ?_
    refine EgR k0 r02 ?_
    refine EC k5 (c_lat hX (by omega)) ?_
    refine EgR k0 r02 ?_
    refine EC k5 (c_lat hX (by omega)) ?_
    refine EgR k0 r010 ?_
    refine EC k132 p1 ?_
    refine EIp e ?_
    refine EgR K0 R02 ?_
    refine EgR K0 R010 ?_
    refine EC K5 w1 ?_
    rfl
  · rw [if_neg e, if_neg e]
    refine ⟨m1, ?_, hP1, g1⟩
    refine EgR k0 r03 ?_
    refine EgR k0 r02 ?_
    refine EC k5 (c_lat hX (by omega)) ?_
    refine EgR k0 r02 ?_
    refine EC k5 (c_lat hX (by omega)) ?_
    refine EgR k0 r010 ?_
    refine EC k132 p1 ?_
    refine EIn e ?_
    rfl
-- ===== answers of two numbers =====
def ans2 {α : Type} (d : α) (n : Nat) (g : Nat → Nat → α) (v w : Int32) : α := ansN d n (fun i => ansN d n (g i) w) v
noncomputable def aDet (s : ST) (v w : Int32) : Int32 := ans2 (-1) (sN s) (fun i j => detA s i j) v w
noncomputable def sDet (s : ST) (v w : Int32) : ST := ans2 s (sN s) (fun i j => detS s i j) v w
theorem ok_sdet {s : ST} (h : okS s) (v w : Int32) : okS (sDet s v w) := by
  have hn := h.1.1
  unfold sDet ans2
  rcases hasA_cases (n := sN s) (by omega) v with ⟨h1, -⟩ | ⟨i, hi, rfl, h1⟩
  · rw [ansN_miss h1]; exact h
  · rw [ansN_hit (by omega) h1]
    rcases hasA_cases (n := sN s) (by omega) w with ⟨h2, -⟩ | ⟨j, hj, rfl, h2⟩
    · rw [ansN_miss h2]; exact h
    · rw [ansN_hit (by omega) h2]; exact ok_det h hi hj
theorem c_detach {m : qM} {s : ST} (h : CP m s) (hs : okS s) (v w : Int32) : ∃ m2, fX9_detach NF 0 v w m = some (aDet s v w, m2) ∧ CP m2 (sDet s v w) ∧ Gc m m2 := by
  have hP := h
  obtain ⟨hX, -, -, -, hL, -⟩ := h
  have hn := hs.1.1
  obtain ⟨k0, r00, r01, r02, -⟩ := hX.c0
  have k5 := hX.ls.1
  unfold fX9_detach aDet sDet ans2
  rcases hasA_cases (n := sN s) (by omega) v with ⟨h1, -⟩ | ⟨i, hi, rfl, h1⟩
  · rw [ansN_miss h1, ansN_miss h1]
    refine ⟨m, ?_, hP, Fx.rf⟩
    refine EgR k0 r02 ?_
    refine EC k5 (c_has k5 hL.1 v) ?_
    refine EIp h1 ?_
    rfl
  · rw [ansN_hit (by omega) h1, ansN_hit (by omega) h1]
    rcases hasA_cases (n := sN s) (by omega) w with ⟨h2, -⟩ | ⟨j, hj, rfl, h2⟩
    · rw [ansN_miss h2, ansN_miss h2]
      refine ⟨m, ?_, hP, Fx.rf⟩
      refine EgR k0 r02 ?_
      refine EC k5 (c_has k5 hL.1 _) ?_
      refine EIn (show ¬ hasA (sN s) (nI i) = 0 by rw [h1]; exact i10) ?_
      refine EgR k0 r02 ?_
      refine EC k5 (c_has k5 hL.1 w) ?_
      refine EIp h2 ?_
      rfl
    · rw [ansN_hit (by omega) h2, ansN_hit (by omega) h2]
      obtain ⟨m2, p1, p2, p3⟩ := c_derive hP hs hi hj
      refine ⟨m2, ?_, p2, p3.mono (fun a ha => by omega)⟩
      refine EgR k0 r02 ?_
      refine EC k5 (c_has k5 hL.1 _) ?_
      refine EIn (show ¬ hasA (sN s) (nI i) = 0 by rw [h1]; exact i10) ?_
      refine EgR k0 r02 ?_
      refine EC k5 (c_has k5 hL.1 _) ?_
      refine EIn (show ¬ hasA (sN s) (nI j) = 0 by rw [h2]; exact i10) ?_
      refine EC k0 p1 ?_
      rfl
noncomputable def uniA (s : ST) (i j : Nat) : Int32 := if rc (uU (sFo s i) (sFo s j)) = 0 then nI (tS (rt (uU (sFo s i) (sFo s j)))) else rc (uU (sFo s i) (sFo s j))
noncomputable def uniS (s : ST) (i j : Nat) : ST := if rc (uU (sFo s i) (sFo s j)) = 0 then wOu s (chs (rt (uU (sFo s i) (sFo s j)))) else s
noncomputable def aUni (s : ST) (v w : Int32) : Int32 := ans2 (-1) (sN s) (fun i j => uniA s i j) v w
noncomputable def sUni (s : ST) (v w : Int32) : ST := ans2 s (sN s) (fun i j => uniS s i j) v w
theorem ok_uni {s : ST} (h : okS s) (v w : Int32) : okS (sUni s v w) := by
  have hn := h.1.1
  unfold sUni ans2
  rcases hasA_cases (n := sN s) (by omega) v with ⟨h1, -⟩ | ⟨i, hi, rfl, h1⟩
  · rw [ansN_miss h1]; exact h
  · rw [ansN_hit (by omega) h1]
    rcases hasA_cases (n := sN s) (by omega) w with ⟨h2, -⟩ | ⟨j, hj, rfl, h2⟩
    · rw [ansN_miss h2]; exact h
    · rw [ansN_hit (by omega) h2]
      show okS (uniS s i j)
      unfold uniS
      by_cases e : rc (uU (sFo s i) (sFo s j)) = 0
      · rw [if_pos e]
        obtain ⟨b1, s1, -⟩ := h.1.2.2 i hi
        obtain ⟨b2, s2, -⟩ := h.1.2.2 j hj
        exact okF_out h (uU_okF b1 b2 s1 s2 (rc_ok.mp e))
      · rw [if_neg e]; exact h
theorem c_unify {m : qM} {s : ST} (h : CP m s) (hs : okS s) (v w : Int32) : ∃ m2, fX9_unify NF 0 v w m = some (aUni s v w, m2) ∧ CP m2 (sUni s v w) ∧ Gc m m2 := by
  have hP := h
  obtain ⟨hX, -, -, -, hL, -⟩ := h
  have hn := hs.1.1
  obtain ⟨k0, r00, r01, r02, r03, r04, r05, r06, r07, r08, r09, r010, -⟩ := hX.c0
  have k5 := hX.ls.1
  have k132 := hX.un.1
  unfold fX9_unify aUni sUni ans2
  rcases hasA_cases (n := sN s) (by omega) v with ⟨h1, -⟩ | ⟨i, hi, rfl, h1⟩
  · rw [ansN_miss h1, ansN_miss h1]
    refine ⟨m, ?_, hP, Fx.rf⟩
    refine EgR k0 r02 ?_
    refine EC k5 (c_has k5 hL.1 v) ?_
    refine EIp h1 ?_
    rfl
  · rw [ansN_hit (by omega) h1, ansN_hit (by omega) h1]
    rcases hasA_cases (n := sN s) (by omega) w with ⟨h2, -⟩ | ⟨j, hj, rfl, h2⟩
    · rw [ansN_miss h2, ansN_miss h2]
      refine ⟨m, ?_, hP, Fx.rf⟩
      refine EgR k0 r02 ?_
      refine EC k5 (c_has k5 hL.1 _) ?_
      refine EIn (show ¬ hasA (sN s) (nI i) = 0 by rw [h1]; exact i10) ?_
      refine EgR k0 r02 ?_
      refine EC k5 (c_has k5 hL.1 w) ?_
      refine EIp h2 ?_
      rfl
    · rw [ansN_hit (by omega) h2, ansN_hit (by omega) h2]
      obtain ⟨b1, s1, -⟩ := hs.1.2.2 i hi
      obtain ⟨b2, s2, -⟩ := hs.1.2.2 j hj
      obtain ⟨m1, p1, p2, p3⟩ := c_unifyInto (f3 := 429) hX.un (hX.lf (i := i) (by omega)).1 (hX.lf (i := j) (by omega)).1 hX.f429 (by omega) (by omega) (by omega) (hL.2 i hi).1 (hL.2 j hj).1 b1 b2
      have hP1 : CP m1 s := CP_fx hP hn p2 (fun a ha => by unfold dDi at ha; omega)
      have g1 : Gc m m1 := p2.mono (fun a ha => by unfold dDi at ha; omega)
      have hX1 := hP1.1
      obtain ⟨K0, R00, R01, R02, R03, R04, R05, R06, R07, R08, R09, R010, -⟩ := hX1.c0
      have hpre : ∀ R, (if rc (uU (sFo s i) (sFo s j)) = 0 then (qgR m1 0 9 10).bind fun x12 => (qChk m1 0 9 (fX9_outputFormula NF 0 x12 m1)).bind fun b13 => some (b13.1, b13.2) else some (rc (uU (sFo s i) (sFo s j)), m1)) = R → fX9_unify NF 0 (nI i) (nI j) m = R := by
        intro R hR
        unfold fX9_unify
        refine EgR k0 r02 ?_
        refine EC k5 (c_has k5 hL.1 _) ?_
        refine EIn (show ¬ hasA (sN s) (nI i) = 0 by rw [h1]; exact i10) ?_
        refine EgR k0 r02 ?_
        refine EC k5 (c_has k5 hL.1 _) ?_
        refine EIn (show ¬ hasA (sN s) (nI j) = 0 by rw [h2]; exact i10) ?_
        refine EgR k0 r03 ?_
        refine EgR k0 r02 ?_
        refine EC k5 (c_lat hX (by omega)) ?_
        refine EgR k0 r02 ?_
        refine EC k5 (c_lat hX (by omega)) ?_
        refine EgR k0 r010 ?_
        refine EC k132 p1 ?_
        exact hR
      unfold fX9_unify at hpre
      show ∃ m2, _ = some (uniA s i j, m2) ∧ CP m2 (uniS s i j) ∧ Gc m m2
      unfold uniA uniS
      by_cases e : rc (uU (sFo s i) (sFo s j)) = 0
      · rw [if_pos e, if_pos e]
        obtain ⟨q1, q2⟩ := p3 (rc_ok.mp e)
        obtain ⟨m2, w1, w2, w3⟩ := c_outF hX1 hX1.f429 (by omega) q1 q2.1
        refine ⟨m2, ?_, CP_out hP1 hn w2 w3, g1.tr (w2.mono (fun a ha => by omega))⟩
        apply hpre
        refine EIp e ?_
        refine EgR K0 R010 ?_
        refine EC K0 w1 ?_
        rfl
      · rw [if_neg e, if_neg e]
        refine ⟨m1, ?_, hP1, g1⟩
        apply hpre
        refine EIn e ?_
        rfl
end
