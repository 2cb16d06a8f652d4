section
-- ===== answers of one number =====
def ansN {α : Type} (d : α) (n : Nat) (g : Nat → α) (v : Int32) : α := if hasA n v = 0 then d else g v.toNatClampNeg
theorem ansN_miss {α : Type} {d : α} {n : Nat} {g : Nat → α} {v : Int32} (h : hasA n v = 0) : ansN d n g v = d := if_pos h
theorem ansN_hit {α : Type} {d : α} {n j : Nat} {g : Nat → α} (hj : j < 80) (h : hasA n (nI j) = 1) : ansN d n g (nI j) = g j := by
  unfold ansN
  rw [if_neg (by rw [h]; exact i10), nI_clamp (by omega)]
theorem XS.c0 {K N : Nat → Nat} {R : Nat → Nat → Option Nat} (h : XS K N R) : K 0 = 9 ∧ R 0 0 = some 1 ∧ R 0 1 = some 3 ∧ R 0 2 = some 5 ∧ R 0 3 = some 132 ∧ R 0 4 = some 142 ∧ R 0 5 = some 144 ∧ R 0 6 = some 389 ∧ R 0 7 = some 393 ∧ R 0 8 = some 401 ∧ R 0 9 = some 408 ∧ R 0 10 = some 429 ∧ R 0 11 = some 431 ∧ R 0 12 = some 432 := h.1
theorem c_lat {m : qM} {j : Nat} (hX : XS (qK m) (qN m) (qR m)) (hj : j < 60) : fX1_at NF 5 (nI j) m = some (12 + 2 * j, m) := by
  obtain ⟨k5, r50, r51, r52, r53, r54, r55, k6, n6, -⟩ := hX.ls
  unfold fX1_at
  refine EgR k5 r50 ?_
  refine EaR k6 rfl (by omega) (by omega) (hX.lf hj).2 ?_
  rfl
theorem c_l_major {m : qM} {n j : Nat} {fo : Nat → Tm} {en : Nat → Option (Nat × Nat)} (hX : XS (qK m) (qN m) (qR m)) (hL : CLs (qI m) (qL m) n fo en) (hn : n ≤ 60) (hj : j < n) : fX1_major NF 5 (nI j) m = some (mjv (en j), m) := by
  obtain ⟨k5, r50, r51, r52, r53, r54, r55, k6, n6, k7, n7, k8, n8, k9, n9, k10, n10, k11, n11, -⟩ := hX.ls
  have h := hL.2 j hj
  unfold fX1_major
  refine EgR k5 r51 ?_
  refine EaI k7 rfl (by omega) (by omega) (h.2.1) ?_
  rfl
theorem c_l_minor {m : qM} {n j : Nat} {fo : Nat → Tm} {en : Nat → Option (Nat × Nat)} (hX : XS (qK m) (qN m) (qR m)) (hL : CLs (qI m) (qL m) n fo en) (hn : n ≤ 60) (hj : j < n) : fX1_minor NF 5 (nI j) m = some (mnv (en j), m) := by
  obtain ⟨k5, r50, r51, r52, r53, r54, r55, k6, n6, k7, n7, k8, n8, k9, n9, k10, n10, k11, n11, -⟩ := hX.ls
  have h := hL.2 j hj
  unfold fX1_minor
  refine EgR k5 r52 ?_
  refine EaI k8 rfl (by omega) (by omega) (h.2.2.1) ?_
  rfl
theorem c_l_depth {m : qM} {n j : Nat} {fo : Nat → Tm} {en : Nat → Option (Nat × Nat)} (hX : XS (qK m) (qN m) (qR m)) (hL : CLs (qI m) (qL m) n fo en) (hn : n ≤ 60) (hj : j < n) : fX1_depth NF 5 (nI j) m = some (nI (rDep en j), m) := by
  obtain ⟨k5, r50, r51, r52, r53, r54, r55, k6, n6, k7, n7, k8, n8, k9, n9, k10, n10, k11, n11, -⟩ := hX.ls
  have h := hL.2 j hj
  unfold fX1_depth
  refine EgR k5 r53 ?_
  refine EaI k9 rfl (by omega) (by omega) (h.2.2.2.1) ?_
  rfl
theorem c_l_lastAxiom {m : qM} {n j : Nat} {fo : Nat → Tm} {en : Nat → Option (Nat × Nat)} (hX : XS (qK m) (qN m) (qR m)) (hL : CLs (qI m) (qL m) n fo en) (hn : n ≤ 60) (hj : j < n) : fX1_lastAxiom NF 5 (nI j) m = some (nI (rLast en j), m) := by
  obtain ⟨k5, r50, r51, r52, r53, r54, r55, k6, n6, k7, n7, k8, n8, k9, n9, k10, n10, k11, n11, -⟩ := hX.ls
  have h := hL.2 j hj
  unfold fX1_lastAxiom
  refine EgR k5 r54 ?_
  refine EaI k10 rfl (by omega) (by omega) (h.2.2.2.2.1) ?_
  rfl
theorem c_l_sig {m : qM} {n j : Nat} {fo : Nat → Tm} {en : Nat → Option (Nat × Nat)} (hX : XS (qK m) (qN m) (qR m)) (hL : CLs (qI m) (qL m) n fo en) (hn : n ≤ 60) (hj : j < n) : fX1_proofSigns NF 5 (nI j) m = some (Int64.ofNat (rSig en j), m) := by
  obtain ⟨k5, r50, r51, r52, r53, r54, r55, k6, n6, k7, n7, k8, n8, k9, n9, k10, n10, k11, n11, -⟩ := hX.ls
  have h := hL.2 j hj
  unfold fX1_proofSigns
  refine EgR k5 r55 ?_
  refine EaL k11 rfl (by omega) (by omega) h.2.2.2.2.2 ?_
  rfl
theorem c_fsize {m : qM} {s : ST} (h : CP m s) (hs : okS s) (v : Int32) : fX9_formulaSize NF 0 v m = some (ansN (-1 : Int32) (sN s) (fun j => nI (tS (sFo s j))) v, m) := by
  obtain ⟨hX, -, -, -, hL, -⟩ := h
  have hn := hs.1.1
  obtain ⟨k0, r00, r01, r02, -⟩ := hX.c0
  have k5 := hX.ls.1
  unfold fX9_formulaSize
  refine EgR k0 r02 ?_
  refine EC k5 (c_has k5 hL.1 v) ?_
  rcases hasA_cases (n := sN s) (by omega) v with ⟨h1, -⟩ | ⟨j, hj, rfl, h1⟩
  · rw [ansN_miss h1]
    refine EIp h1 ?_
    rfl
  · rw [ansN_hit (by omega) h1]
    refine EIn (show ¬ hasA (sN s) (nI j) = 0 by rw [h1]; exact i10) ?_
    refine EgR k0 r02 ?_
    refine EC k5 (c_lat hX (by omega)) ?_
    refine EC (hX.lf (i := j) (by omega)).1.1 (c_size (hX.lf (i := j) (by omega)).1 (hL.2 j hj).1) ?_
    rfl
theorem c_vcount {m : qM} {s : ST} (h : CP m s) (hs : okS s) (v : Int32) : fX9_variableCount NF 0 v m = some (ansN (-1 : Int32) (sN s) (fun j => nI (nv (sFo s j))) v, m) := by
  obtain ⟨hX, -, -, -, hL, -⟩ := h
  have hn := hs.1.1
  obtain ⟨k0, r00, r01, r02, -⟩ := hX.c0
  have k5 := hX.ls.1
  unfold fX9_variableCount
  refine EgR k0 r02 ?_
  refine EC k5 (c_has k5 hL.1 v) ?_
  rcases hasA_cases (n := sN s) (by omega) v with ⟨h1, -⟩ | ⟨j, hj, rfl, h1⟩
  · rw [ansN_miss h1]
    refine EIp h1 ?_
    rfl
  · rw [ansN_hit (by omega) h1]
    refine EIn (show ¬ hasA (sN s) (nI j) = 0 by rw [h1]; exact i10) ?_
    refine EgR k0 r02 ?_
    refine EC k5 (c_lat hX (by omega)) ?_
    refine EC (hX.lf (i := j) (by omega)).1.1 (c_vars (hX.lf (i := j) (by omega)).1 (hL.2 j hj).1) ?_
    rfl
theorem c_majorOf {m : qM} {s : ST} (h : CP m s) (hs : okS s) (v : Int32) : fX9_majorOf NF 0 v m = some (ansN (-1 : Int32) (sN s) (fun j => mjv (sEn s j)) v, m) := by
  obtain ⟨hX, -, -, -, hL, -⟩ := h
  have hn := hs.1.1
  obtain ⟨k0, r00, r01, r02, -⟩ := hX.c0
  have k5 := hX.ls.1
  unfold fX9_majorOf
  refine EgR k0 r02 ?_
  refine EC k5 (c_has k5 hL.1 v) ?_
  rcases hasA_cases (n := sN s) (by omega) v with ⟨h1, -⟩ | ⟨j, hj, rfl, h1⟩
  · rw [ansN_miss h1]
    refine EIp h1 ?_
    rfl
  · rw [ansN_hit (by omega) h1]
    refine EIn (show ¬ hasA (sN s) (nI j) = 0 by rw [h1]; exact i10) ?_
    refine EgR k0 r02 ?_
    refine EC k5 (c_l_major hX hL hn hj) ?_
    rfl
theorem c_minorOf {m : qM} {s : ST} (h : CP m s) (hs : okS s) (v : Int32) : fX9_minorOf NF 0 v m = some (ansN (-1 : Int32) (sN s) (fun j => mnv (sEn s j)) v, m) := by
  obtain ⟨hX, -, -, -, hL, -⟩ := h
  have hn := hs.1.1
  obtain ⟨k0, r00, r01, r02, -⟩ := hX.c0
  have k5 := hX.ls.1
  unfold fX9_minorOf
  refine EgR k0 r02 ?_
  refine EC k5 (c_has k5 hL.1 v) ?_
  rcases hasA_cases (n := sN s) (by omega) v with ⟨h1, -⟩ | ⟨j, hj, rfl, h1⟩
  · rw [ansN_miss h1]
    refine EIp h1 ?_
    rfl
  · rw [ansN_hit (by omega) h1]
    refine EIn (show ¬ hasA (sN s) (nI j) = 0 by rw [h1]; exact i10) ?_
    refine EgR k0 r02 ?_
    refine EC k5 (c_l_minor hX hL hn hj) ?_
    rfl
theorem c_depth {m : qM} {s : ST} (h : CP m s) (hs : okS s) (v : Int32) : fX9_proofDepth NF 0 v m = some (ansN (-1 : Int32) (sN s) (fun j => nI (rDep (sEn s) j)) v, m) := by
  obtain ⟨hX, -, -, -, hL, -⟩ := h
  have hn := hs.1.1
  obtain ⟨k0, r00, r01, r02, -⟩ := hX.c0
  have k5 := hX.ls.1
  unfold fX9_proofDepth
  refine EgR k0 r02 ?_
  refine EC k5 (c_has k5 hL.1 v) ?_
  rcases hasA_cases (n := sN s) (by omega) v with ⟨h1, -⟩ | ⟨j, hj, rfl, h1⟩
  · rw [ansN_miss h1]
    refine EIp h1 ?_
    rfl
  · rw [ansN_hit (by omega) h1]
    refine EIn (show ¬ hasA (sN s) (nI j) = 0 by rw [h1]; exact i10) ?_
    refine EgR k0 r02 ?_
    refine EC k5 (c_l_depth hX hL hn hj) ?_
    rfl
theorem c_psize {m : qM} {s : ST} (h : CP m s) (hs : okS s) (v : Int32) : fX9_proofSize NF 0 v m = some (ansN (-1 : Int64) (sN s) (fun j => Int64.ofNat (rSig (sEn s) j)) v, m) := by
  obtain ⟨hX, -, -, -, hL, -⟩ := h
  have hn := hs.1.1
  obtain ⟨k0, r00, r01, r02, -⟩ := hX.c0
  have k5 := hX.ls.1
  unfold fX9_proofSize
  refine EgR k0 r02 ?_
  refine EC k5 (c_has k5 hL.1 v) ?_
  rcases hasA_cases (n := sN s) (by omega) v with ⟨h1, -⟩ | ⟨j, hj, rfl, h1⟩
  · rw [ansN_miss h1]
    refine EIp h1 ?_
    rfl
  · rw [ansN_hit (by omega) h1]
    refine EIn (show ¬ hasA (sN s) (nI j) = 0 by rw [h1]; exact i10) ?_
    refine EgR k0 r02 ?_
    refine EC k5 (c_l_sig hX hL hn hj) ?_
    rfl
theorem c_listSize {m : qM} {s : ST} (h : CP m s) : fX9_listSize NF 0 m = some (nI (sN s), m) := by
  obtain ⟨hX, -, -, -, hL, -⟩ := h
  obtain ⟨k0, r00, r01, r02, -⟩ := hX.c0
  have k5 := hX.ls.1
  have hc : fX1_count NF 5 m = some (nI (sN s), m) := by
    unfold fX1_count
    refine EgI k5 hL.1 ?_
    rfl
  unfold fX9_listSize
  refine EgR k0 r02 ?_
  refine EC k5 hc ?_
  rfl
theorem c_outLen {m : qM} {s : ST} (h : CP m s) : fX9_outputLength NF 0 m = some (nI (sOu s).length, m) := by
  obtain ⟨hX, -, -, hO, -⟩ := h
  obtain ⟨k0, r00, r01, r02, -⟩ := hX.c0
  unfold fX9_outputLength
  refine EgR k0 r01 ?_
  have hl : fX7_length NF 3 m = some (nI (sOu s).length, m) := by rw [fX7_length_eq hX.t3.1, hO.1]
  refine EC hX.t3.1 hl ?_
  rfl
def aOut (ou : List Nat) (v : Int32) : Int32 := if v < 0 then -1 else if nI ou.length ≤ v then -1 else nI (ou.getD v.toNatClampNeg 0)
theorem c_outAt {m : qM} {s : ST} (h : CP m s) (v : Int32) : fX9_outputAt NF 0 v m = some (aOut (sOu s) v, m) := by
  obtain ⟨hX, -, -, hO, -⟩ := h
  obtain ⟨k0, r00, r01, r02, -⟩ := hX.c0
  have hl : fX7_length NF 3 m = some (nI (sOu s).length, m) := by rw [fX7_length_eq hX.t3.1, hO.1]
  have h120 := hO.2.1
  unfold fX9_outputAt aOut
  rcases pk_ix v (n := (sOu s).length) (by omega) with e | e | ⟨j, hj, rfl⟩
  · rw [if_pos e, if_pos e]
  · by_cases e0 : v < 0
    · rw [if_pos e0, if_pos e0]
    · rw [if_neg e0, if_neg e0, if_pos e]
      refine EgR k0 r01 ?_
      refine EC hX.t3.1 hl ?_
      refine EIp e ?_
      rfl
  · have e0 : ¬ nI j < 0 := nI_pos (by omega)
    have e1 : ¬ nI (sOu s).length ≤ nI j := fun z => by have := (nI_leI (by omega) (by omega)).mp z; omega
    rw [if_neg e0, if_neg e0, if_neg e1, nI_clamp (by omega)]
    refine EgR k0 r01 ?_
    refine EC hX.t3.1 hl ?_
    refine EIn e1 ?_
    refine EgR k0 r01 ?_
    refine EC hX.t3.1 (fX7_at_eq hX.t3 hO hj) ?_
    rfl
def aCut (n : Nat) (v : Int32) : Int32 := if v < 0 then -2 else if v ≤ nI n then nI n - v else -2
def sCut (s : ST) (v : Int32) : ST := if v < 0 then s else if v ≤ nI (sN s) then wLs s v.toNatClampNeg (sFo s) (sEn s) else s
theorem cut_ok {n : Nat} (hn : n ≤ 60) {v : Int32} (h0 : ¬ v < 0) (h1 : v ≤ nI n) : ∃ j, j ≤ n ∧ v = nI j := by
  obtain ⟨j, hj, rfl⟩ := nI_of (x := v) h0
  exact ⟨j, (nI_leI hj (by omega)).mp h1, rfl⟩
theorem okL_cut {n j : Nat} {fo : Nat → Tm} {en : Nat → Option (Nat × Nat)} (h : okL n fo en) (hj : j ≤ n) : okL j fo en := ⟨by have := h.1; omega, fun i a b hi => h.2.1 i a b (by omega), fun i hi => h.2.2 i (by omega)⟩
theorem ok_cut {s : ST} (h : okS s) (v : Int32) : okS (sCut s v) := by
  unfold sCut
  by_cases h0 : v < 0
  · rw [if_pos h0]; exact h
  · rw [if_neg h0]
    by_cases h1 : v ≤ nI (sN s)
    · rw [if_pos h1]
      obtain ⟨j, hj, rfl⟩ := cut_ok h.1.1 h0 h1
      have := h.1.1
      rw [nI_clamp (by omega)]
      exact ⟨okL_cut h.1 hj, h.2⟩
    · rw [if_neg h1]; exact h
theorem CLs_cut {I : Nat → Nat → Int32} {L : Nat → Nat → Int64} {n j : Nat} {fo : Nat → Tm} {en : Nat → Option (Nat × Nat)} (h : CLs I L n fo en) (hj : j ≤ n) : CLs (qu I 5 6 (nI j)) L j fo en := by
  refine ⟨by simp [qu], fun i hi => ?_⟩
  obtain ⟨h1, h2, h3, h4, h5, h6⟩ := h.2 i (by omega)
  have e : ∀ a, a ≠ 5 → qu I 5 6 (nI j) a = I a := fun a ha => qu_ne ha
  rw [e 7 (by omega), e 8 (by omega), e 9 (by omega), e 10 (by omega)]
  exact ⟨CFm_of h1 (e _ (by omega)) (e _ (by omega)), h2, h3, h4, h5, h6⟩
theorem c_cut {m : qM} {s : ST} (h : CP m s) (hs : okS s) (v : Int32) : ∃ m2, fX9_cut NF 0 v m = some (aCut (sN s) v, m2) ∧ CP m2 (sCut s v) ∧ Gc m m2 := by
  have hP := h
  obtain ⟨hX, h2, h3, h4, hL, h6, h7⟩ := h
  have hn := hs.1.1
  obtain ⟨k0, r00, r01, r02, -⟩ := hX.c0
  have k5 := hX.ls.1
  have hc : fX1_count NF 5 m = some (nI (sN s), m) := by
    unfold fX1_count
    refine EgI k5 hL.1 ?_
    rfl
  unfold fX9_cut aCut sCut
  by_cases h0 : v < 0
  · rw [if_pos h0, if_pos h0]
    refine ⟨m, ?_, hP, Fx.rf⟩
    refine EgR k0 r02 ?_
    refine EC k5 hc ?_
    refine EIp h0 ?_
    rfl
  · rw [if_neg h0, if_neg h0]
    by_cases h1 : v ≤ nI (sN s)
    · rw [if_pos h1, if_pos h1]
      obtain ⟨j, hj, rfl⟩ := cut_ok hn h0 h1
      have f : Fx (fun a => a = 5) m (qsI m 5 6 (nI j)) := Fx.rf.sI rfl
      refine ⟨qsI m 5 6 (nI j), ?_, ?_, f.mono (fun a ha => by omega)⟩
      · refine EgR k0 r02 ?_
        refine EC k5 hc ?_
        refine EIn h0 ?_
        refine EIp h1 ?_
        refine EgR k0 r02 ?_
        have hsh : fX1_shrinkTo NF 5 (nI j) m = some (qsI m 5 6 (nI j)) := by
          unfold fX1_shrinkTo
          refine EpI k5 rfl ?_
          rfl
        refine EC k5 hsh ?_
        rfl
      · rw [nI_clamp (by omega)]
        exact ⟨f.X hX, CTx_of (f.i (by omega)) (f.i (by omega)) h2, h3, CTx_of (f.i (by omega)) (f.i (by omega)) h4, CLs_cut hL hj, CMx_of h6 (f.i (by omega)) (f.i (by omega)), CRs_of h7 (fun a _ _ => f.i (by omega))⟩
    · rw [if_neg h1, if_neg h1]
      refine ⟨m, ?_, hP, Fx.rf⟩
      refine EgR k0 r02 ?_
      refine EC k5 hc ?_
      refine EIn h0 ?_
      refine EIn h1 ?_
      rfl
-- ===== texts that are written =====
def chr (c : Nat) : Nat := if c = 99 then 67 else 97 + c
def chs (t : Tm) : List Nat := (pol t).map chr
theorem chs_len {t : Tm} : (chs t).length = tS t := by unfold chs; rw [List.length_map, pol_len]
theorem chs_lt {t : Tm} (h : bel 12 t) : ∀ c, c ∈ chs t → c < 128 := by
  intro c hc
  obtain ⟨a, ha, rfl⟩ := List.mem_map.mp hc
  unfold chr
  rcases pol_mem ha with e | e
  · rw [if_pos e]; omega
  · have := h a e
    split <;> omega
theorem getD_map {l : List Nat} {f : Nat → Nat} {i : Nat} (h : i < l.length) : (l.map f).getD i 0 = f (l.getD i 0) := by
  rw [List.getD_eq_getElem?_getD, List.getD_eq_getElem?_getD, List.getElem?_map, List.getElem?_eq_getElem h]
  rfl
theorem take_snoc {l : List Nat} {k : Nat} (h : k < l.length) : l.take (k + 1) = l.take k ++ [l.getD k 0] := by
  rw [List.take_succ, List.getD_eq_getElem?_getD, List.getElem?_eq_getElem h]
  rfl
theorem c_outF {m : qM} {f : Nat} {t : Tm} (hX : XS (qK m) (qN m) (qR m)) (F : FmS (qK m) (qN m) (qR m) f) (hf : 4 < f) (C : CFm (qI m) f t) (hb : bel 12 t) : ∃ m2, fX9_outputFormula NF 0 f m = some (nI (tS t), m2) ∧ Fx (fun a => a = 3 ∨ a = 4) m m2 ∧ CTx (qI m2) 3 (chs t) := by
  obtain ⟨k0, r00, r01, r02, -⟩ := hX.c0
  obtain ⟨fk, fr, fk1, fn1⟩ := F
  have ht3 := hX.t3
  have h39 := C.2.2.1
  let m1 : qM := qsI m 3 1 0
  have hl : (chs t).length = tS t := chs_len
  obtain ⟨b, e1, e2, e3⟩ := walk (l := fun g (s : Int32 × qM) => lX0_writeTo_2 NF f 3 g s.1 s.2) (J := fun r s => ∃ k m', k + r = tS t ∧ s = (nI k, m') ∧ Fx (fun a => a = 3 ∨ a = 4) m m' ∧ CTx (qI m') 3 ((chs t).take k)) (Q := fun m' => Fx (fun a => a = 3 ∨ a = 4) m m' ∧ CTx (qI m') 3 (chs t)) (fun g r s hj => by
    obtain ⟨k, m', hk, rfl, hF, hT⟩ := hj
    have hC' : CFm (qI m') f t := CFm_of C (hF.i (by omega)) (hF.i (by omega))
    obtain ⟨c1, c2, c3, c4⟩ := hC'
    have K0 : qK m' f = 0 := by rw [hF.1]; exact fk
    have K1 : qK m' (f + 1) = 12 := by rw [hF.1]; exact fk1
    have N1 : qN m' (f + 1) = 39 := by rw [hF.2.1]; exact fn1
    have R1 : qR m' f 0 = some (f + 1) := by rw [hF.2.2.1]; exact fr
    have ht3' : TxS (qK m') (qN m') (qR m') 3 := by rw [hF.1, hF.2.1, hF.2.2.1]; exact ht3
    have htl : ((chs t).take k).length = k := by rw [List.length_take]; omega
    have hnew : (chs t).getD k 0 = chr ((pol t).getD k 0) := getD_map (by rw [pol_len]; omega)
    have hp1 : (pol t).getD k 0 = 99 ∨ (pol t).getD k 0 < 12 := by
      rcases pol_mem (mem_getD (ns := pol t) (j := k) (by rw [pol_len]; omega)) with e | e
      · exact Or.inl e
      · exact Or.inr (hb _ e)
    have hlt : chr ((pol t).getD k 0) < 65536 := by unfold chr; split <;> omega
    have hadd := fX7_add_eq (N := NF) ht3' hT (by rw [htl]; omega) hlt
    have hF2 : Fx (fun a => a = 3 ∨ a = 4) m' (qsI (qsI m' (3 + 1) ((chs t).take k).length (nI (chr ((pol t).getD k 0)))) 3 1 (nI (((chs t).take k).length + 1))) := (Fx.rf.sI (Or.inr rfl)).sI (Or.inl rfl)
    refine Or.inl ⟨(nI (k + 1), _), ⟨k + 1, _, by omega, rfl, hF.tr hF2, ?_⟩, ?_⟩
    · rw [take_snoc (by omega), hnew]
      exact CTx_add hT (by rw [htl]; omega) hlt
    · show lX0_writeTo_2 NF f 3 (g + 1) (nI k) m' = lX0_writeTo_2 NF f 3 g (nI (k + 1)) _
      conv => lhs; unfold lX0_writeTo_2
      unfold kX0_writeTo_36
      have c4k := c4 k (by omega)
      refine EgI K0 c1 ?_
      refine EIn (fun z => by have := (nI_leI (by omega) (by omega)).mp z; omega) ?_
      refine EgR K0 R1 ?_
      refine EaI K1 rfl (by omega) (by omega) c4k ?_
      by_cases e : (pol t).getD k 0 = 99
      · refine EIp (by rw [e]; rfl) ?_
        have e67 : chr ((pol t).getD k 0) = 67 := if_pos e
        rw [e67] at hadd ⊢
        refine EC ht3'.1 hadd ?_
        rw [nI_s]
      · rw [cS_n e] at c4k ⊢
        refine EIn (nI_ng (by omega)) ?_
        refine EgR K0 R1 ?_
        refine EaI K1 rfl (by omega) (by omega) c4k ?_
        have e97 : chr ((pol t).getD k 0) = 97 + (pol t).getD k 0 := if_neg e
        have ech : (((97 : Int32) + nI ((pol t).getD k 0)).toUInt32 % 65536).toInt32 = nI (97 + (pol t).getD k 0) := by
          rw [show (97 : Int32) + nI ((pol t).getD k 0) = nI (97 + (pol t).getD k 0) from nI_add 97 _]
          exact ch_mod (by omega)
        rw [ech]
        rw [e97] at hadd ⊢
        refine EC ht3'.1 hadd ?_
        rw [nI_s]) (fun g s hj => by
    obtain ⟨k, m', hk, rfl, hF, hT⟩ := hj
    obtain rfl : k = tS t := by omega
    refine ⟨m', ?_, hF, ?_⟩
    · show lX0_writeTo_2 NF f 3 (g + 1) (nI (tS t)) m' = _
      unfold lX0_writeTo_2
      refine EgI (show qK m' f = 0 by rw [hF.1]; exact fk) (show qI m' f 1 = nI (tS t) by rw [hF.i (by omega)]; exact C.1) ?_
      refine EIp ((nI_leI (by omega) (by omega)).mpr (Nat.le_refl _)) ?_
      rfl
    · rw [List.take_of_length_le (by omega)] at hT; exact hT) (tS t) NF (nI 0, m1) (by unfold NF; omega) ⟨0, m1, by omega, rfl, Fx.rf.sI (Or.inl rfl), by rw [List.take_zero]; exact CTx_clear⟩
  refine ⟨b, ?_, e2, e3⟩
  have K0 : qK b 0 = 9 := by rw [e2.1]; exact k0
  have R01 : qR b 0 1 = some 3 := by rw [e2.2.2.1]; exact r01
  have K3 : qK b 3 = 7 := by rw [e2.1]; exact ht3.1
  unfold fX9_outputFormula
  refine EgR k0 r01 ?_
  refine EC ht3.1 (fX7_makeEmpty_eq ht3.1) ?_
  refine EgR (show qK m1 0 = 9 from k0) (show qR m1 0 1 = some 3 from r01) ?_
  have hw : fX0_writeTo NF f 3 m1 = some b := by
    unfold fX0_writeTo
    refine EB e1 ?_
    rfl
  refine EC (show qK m1 f = 0 from fk) hw ?_
  refine EgR K0 R01 ?_
  have hlen : fX7_length NF 3 b = some (nI (tS t), b) := by rw [fX7_length_eq K3, e3.1, hl]
  refine EC K3 hlen ?_
  rfl
def sWf (s : ST) (v : Int32) : ST := ansN s (sN s) (fun j => wOu s (chs (sFo s j))) v
theorem okF_out {s : ST} {t : Tm} (h : okS s) (ht : okF t) : okS (wOu s (chs t)) := ⟨h.1, h.2.1, by show (chs t).length ≤ 120; rw [chs_len]; have := ht.2.1; omega, chs_lt ht.1⟩
theorem ok_wf {s : ST} (h : okS s) (v : Int32) : okS (sWf s v) := by
  unfold sWf
  have hn := h.1.1
  rcases hasA_cases (n := sN s) (by omega) v with ⟨h1, -⟩ | ⟨j, hj, rfl, h1⟩
  · rw [ansN_miss h1]; exact h
  · rw [ansN_hit (by omega) h1]; exact okF_out h (h.1.2.2 j hj)
theorem CP_out {m m2 : qM} {s : ST} {ou : List Nat} (h : CP m s) (hn : sN s ≤ 60) (f : Fx (fun a => a = 3 ∨ a = 4) m m2) (hT : CTx (qI m2) 3 ou) : CP m2 (wOu s ou) := by
  obtain ⟨h1, h2, h3, h4, h5, h6, h7⟩ := h
  exact ⟨f.X h1, CTx_of (f.i (by omega)) (f.i (by omega)) h2, h3, hT, CLs_of h5 hn (fun a _ _ => ⟨f.i (by omega), f.l (by omega)⟩), CMx_of h6 (f.i (by omega)) (f.i (by omega)), CRs_of h7 (fun a _ _ => f.i (by omega))⟩
theorem c_writeFormula {m : qM} {s : ST} (h : CP m s) (hs : okS s) (v : Int32) : ∃ m2, fX9_writeFormula NF 0 v m = some (ansN (-1 : Int32) (sN s) (fun j => nI (tS (sFo s j))) v, m2) ∧ CP m2 (sWf s v) ∧ Gc m m2 := by
  have hP := h
  obtain ⟨hX, -, -, -, hL, -⟩ := h
  have hn := hs.1.1
  obtain ⟨k0, r00, r01, r02, -⟩ := hX.c0
  have k5 := hX.ls.1
  unfold fX9_writeFormula sWf
  rcases hasA_cases (n := sN s) (by omega) v with ⟨h1, -⟩ | ⟨j, hj, rfl, h1⟩
  · rw [ansN_miss h1, ansN_miss h1]
    refine ⟨m, ?_, hP, Fx.rf⟩
    refine EgR k0 r02 ?_
    refine EC k5 (c_has k5 hL.1 v) ?_
    refine EIp h1 ?_
    rfl
  · rw [ansN_hit (by omega) h1, ansN_hit (by omega) h1]
    obtain ⟨m2, p1, p2, p3⟩ := c_outF hX (hX.lf (i := j) (by omega)).1 (by omega) (hL.2 j hj).1 (hs.1.2.2 j hj).1
    refine ⟨m2, ?_, CP_out hP hn p2 p3, p2.mono (fun a ha => by omega)⟩
    refine EgR k0 r02 ?_
    refine EC k5 (c_has k5 hL.1 _) ?_
    refine EIn (show ¬ hasA (sN s) (nI j) = 0 by rw [h1]; exact i10) ?_
    refine EgR k0 r02 ?_
    refine EC k5 (c_lat hX (by omega)) ?_
    refine EC k0 p1 ?_
    rfl
end
