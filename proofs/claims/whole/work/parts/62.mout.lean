section
-- ===== the reference tells a formula =====
theorem m_tells {m : qM} {t : Tm} (hM : MS (qK m) (qN m) (qR m)) (ho : One (qI m) t) (hb : bel 12 t) (h39 : tS t ≤ 39) : ∃ m2, fX10_tellsOne NF 433 m = some m2 ∧ Fx (fun a => a = 433 ∨ a = 440) m m2 ∧ (∀ j, j ≠ 11 → qI m2 433 j = qI m 433 j) ∧ MOu (qI m2) (chs t) := by
  obtain ⟨⟨k433, r0, r1, r2, r3, r4, r6, r10, r12, r14, r15, r16, r17, r18, r19, r20, r22, r23, r26, -⟩, ⟨k434, k435, k436, k437, k438, k439, k440, k441, k442, k443, k444, k445, k446, k447, k448, k449, k450, k451, -⟩, ⟨n434, n435, n436, n437, n438, n439, n440, n441, n442, n443, n444, n445, n446, n447, n448, n449, n450, n451, -⟩⟩ := hM
  obtain ⟨o1, o2⟩ := ho
  let m1 : qM := qsI m 433 11 (nI (tS t))
  have hl : (chs t).length = tS t := chs_len
  obtain ⟨b, e1, e2, e3, e4⟩ := walk (l := fun g (s : Int32 × qM) => lX10_tellsOne_10 NF 433 g s.1 s.2) (J := fun r s => ∃ k m', k + r = tS t ∧ s = (nI k, m') ∧ Fx (fun a => a = 433 ∨ a = 440) m m' ∧ qI m' 433 = qI m1 433 ∧ ∀ i, i < k → qI m' 440 i = nI ((chs t).getD i 0)) (Q := fun m' => Fx (fun a => a = 433 ∨ a = 440) m m' ∧ qI m' 433 = qI m1 433 ∧ ∀ i, i < tS t → qI m' 440 i = nI ((chs t).getD i 0)) (fun g r s hj => by
    obtain ⟨k, m', hk, rfl, hF, h433, hT⟩ := hj
    have K433 : qK m' 433 = 10 := by rw [hF.1]; exact k433
    have K440 : qK m' 440 = 12 := by rw [hF.1]; exact k440
    have K451 : qK m' 451 = 12 := by rw [hF.1]; exact k451
    have N440 : qN m' 440 = 400 := by rw [hF.2.1]; exact n440
    have N451 : qN m' 451 = 80 := by rw [hF.2.1]; exact n451
    have R10 : qR m' 433 10 = some 440 := by rw [hF.2.2.1]; exact r10
    have R26 : qR m' 433 26 = some 451 := by rw [hF.2.2.1]; exact r26
    have o1' : qI m' 433 27 = nI (tS t) := by rw [h433]; simp [m1, qS, o1]
    have hnew : (chs t).getD k 0 = chr ((pol t).getD k 0) := getD_map (by rw [pol_len]; omega)
    have hp1 := pol_lt (bel_mono hb (by omega : 12 ≤ 99)) k
    have o2k : qI m' 451 k = nI ((pol t).getD k 0) := by
      rw [hF.i (by omega)]
      have := o2 k (by omega)
      rwa [Nat.zero_add] at this
    refine Or.inl ⟨(nI (k + 1), qsI m' 440 k (nI (chr ((pol t).getD k 0)))), ⟨k + 1, _, by omega, rfl, hF.sI (Or.inr rfl), ?_, fun i hi => ?_⟩, ?_⟩
    · rw [← h433]; funext z; simp [qS]
    · simp only [qS, ↓reduceIte]
      by_cases ei : i = k
      · rw [if_pos ei, ei, hnew]
      · rw [if_neg ei]; exact hT i (by omega)
    · show lX10_tellsOne_10 NF 433 (g + 1) (nI k) m' = lX10_tellsOne_10 NF 433 g (nI (k + 1)) _
      conv => lhs; unfold lX10_tellsOne_10
      unfold kX10_tellsOne_48
      refine EgI K433 o1' ?_
      refine EIn (fun z => by have := (nI_leI (by omega) (by omega)).mp z; omega) ?_
      refine EgR K433 R10 ?_
      refine EgR K433 R26 ?_
      refine EaI K451 rfl (by omega) (by omega) o2k ?_
      by_cases e : (pol t).getD k 0 = 99
      · refine EIp (by rw [e]; rfl) ?_
        have e67 : chr ((pol t).getD k 0) = 67 := if_pos e
        rw [e67]
        refine EwI K440 rfl (by omega) (by omega) (show (67 : Int32) = nI 67 from rfl) ?_
        rw [nI_s]
      · refine EIn (fun z => e ((nI_eq (b := 99) (by omega) (by omega)).mp z)) ?_
        refine EgR K433 R26 ?_
        refine EaI K451 rfl (by omega) (by omega) o2k ?_
        have e97 : chr ((pol t).getD k 0) = 97 + (pol t).getD k 0 := if_neg e
        rw [e97]
        refine EwI K440 rfl (by omega) (by omega) (show (97 : Int32) + nI ((pol t).getD k 0) = nI (97 + (pol t).getD k 0) from nI_add 97 _) ?_
        rw [nI_s]) (fun g s hj => by
    obtain ⟨k, m', hk, rfl, hF, h433, hT⟩ := hj
    obtain rfl : k = tS t := by omega
    refine ⟨m', ?_, hF, h433, hT⟩
    show lX10_tellsOne_10 NF 433 (g + 1) (nI (tS t)) m' = _
    unfold lX10_tellsOne_10
    refine EgI (show qK m' 433 = 10 by rw [hF.1]; exact k433) (show qI m' 433 27 = nI (tS t) by rw [h433]; simp [m1, qS, o1]) ?_
    refine EIp ((nI_leI (by omega) (by omega)).mpr (Nat.le_refl _)) ?_
    rfl) (tS t) NF (nI 0, m1) (by unfold NF; omega) ⟨0, m1, by omega, rfl, Fx.rf.sI (Or.inl rfl), rfl, fun i hi => by omega⟩
  refine ⟨b, ?_, e2, fun j hj => by rw [e3]; simp [m1, qS, hj], by rw [e3, hl]; simp [m1, qS], fun i hi => e4 i (by omega)⟩
  unfold fX10_tellsOne
  refine EgI k433 o1 ?_
  refine EpI k433 rfl ?_
  refine EB e1 ?_
  rfl
theorem MP_out {m m2 : qM} {s : ST} {ou : List Nat} (h : MP m s) (f : Fx (fun a => a = 433 ∨ a = 440) m m2) (hj : ∀ j, j ≠ 11 → qI m2 433 j = qI m 433 j) (hT : MOu (qI m2) ou) : MP m2 (wOu s ou) := by
  obtain ⟨q1, q2, q3, q4, q5, q6, q7⟩ := h
  exact ⟨f.M q1, by rw [f.2.2.2.1]; exact q2, MTx_of q3 (hj 7 (by decide)) (f.i (by omega)), hT, MLs_of q5 (fun a ha _ => f.i (by omega)) (hj 5 (by decide)), MMx_of q6 (hj 13 (by decide)) (f.i (by omega)), MRs_of q7 (fun a ha _ => f.i (by omega))⟩
/-- a slot's formula becomes the one -/
theorem m_takes {m : qM} {i : Nat} {t : Tm} (hM : MS (qK m) (qN m) (qR m)) (hi : i < 181) (hs : SlT (qI m) i t) (h39 : tS t ≤ 39) : ∃ m2, lX10_writeFormula_22 NF 433 (nI i) NF 0 (qsI m 433 27 (nI (tS t))) = some m2 ∧ Fx (fun a => a = 433 ∨ a = 451) m m2 ∧ (∀ j, j ≠ 27 → qI m2 433 j = qI m 433 j) ∧ One (qI m2) t := by
  obtain ⟨⟨k433, r0, r1, r2, r3, r4, r6, r10, r12, r14, r15, r16, r17, r18, r19, r20, r22, r23, r26, -⟩, ⟨k434, k435, k436, k437, k438, k439, k440, k441, k442, k443, k444, k445, k446, k447, k448, k449, k450, k451, -⟩, ⟨n434, n435, n436, n437, n438, n439, n440, n441, n442, n443, n444, n445, n446, n447, n448, n449, n450, n451, -⟩⟩ := hM
  let m1 : qM := qsI m 433 27 (nI (tS t))
  obtain ⟨b, e1, e2, e3, e4⟩ := walk (l := fun g (s : Int32 × qM) => lX10_writeFormula_22 NF 433 (nI i) g s.1 s.2) (J := fun r s => ∃ k m', k + r = tS t ∧ s = (nI k, m') ∧ Fx (fun a => a = 433 ∨ a = 451) m m' ∧ qI m' 433 = qI m1 433 ∧ ∀ z, z < k → qI m' 451 z = nI ((pol t).getD z 0)) (Q := fun m' => Fx (fun a => a = 433 ∨ a = 451) m m' ∧ qI m' 433 = qI m1 433 ∧ ∀ z, z < tS t → qI m' 451 z = nI ((pol t).getD z 0)) (fun g r s hj => by
    obtain ⟨k, m', hk, rfl, hF, h433, hT⟩ := hj
    have K433 : qK m' 433 = 10 := by rw [hF.1]; exact k433
    have K434 : qK m' 434 = 12 := by rw [hF.1]; exact k434
    have K451 : qK m' 451 = 12 := by rw [hF.1]; exact k451
    have N434 : qN m' 434 = 7059 := by rw [hF.2.1]; exact n434
    have N451 : qN m' 451 = 80 := by rw [hF.2.1]; exact n451
    have R0 : qR m' 433 0 = some 434 := by rw [hF.2.2.1]; exact r0
    have R26 : qR m' 433 26 = some 451 := by rw [hF.2.2.1]; exact r26
    have o1' : qI m' 433 27 = nI (tS t) := by rw [h433]; simp [m1, qS]
    have o2k : qI m' 434 (39 * i + k) = nI ((pol t).getD k 0) := by
      rw [hF.i (by omega)]
      exact hs.2 k (by omega)
    refine Or.inl ⟨(nI (k + 1), qsI m' 451 k (nI ((pol t).getD k 0))), ⟨k + 1, _, by omega, rfl, hF.sI (Or.inr rfl), ?_, fun z hz => ?_⟩, ?_⟩
    · rw [← h433]; funext z; simp [qS]
    · simp only [qS, ↓reduceIte]
      by_cases ei : z = k
      · rw [if_pos ei, ei]
      · rw [if_neg ei]; exact hT z (by omega)
    · show lX10_writeFormula_22 NF 433 (nI i) (g + 1) (nI k) m' = lX10_writeFormula_22 NF 433 (nI i) g (nI (k + 1)) _
      conv => lhs; unfold lX10_writeFormula_22
      refine EgI K433 o1' ?_
      refine EIn (fun z => by have := (nI_leI (by omega) (by omega)).mp z; omega) ?_
      refine EgR K433 R26 ?_
      refine EgR K433 R0 ?_
      refine EaI K434 (ix39 _ _) (by omega) (by omega) o2k ?_
      refine EwI K451 rfl (by omega) (by omega) rfl ?_
      rw [nI_s]) (fun g s hj => by
    obtain ⟨k, m', hk, rfl, hF, h433, hT⟩ := hj
    obtain rfl : k = tS t := by omega
    refine ⟨m', ?_, hF, h433, hT⟩
    show lX10_writeFormula_22 NF 433 (nI i) (g + 1) (nI (tS t)) m' = _
    unfold lX10_writeFormula_22
    refine EgI (show qK m' 433 = 10 by rw [hF.1]; exact k433) (show qI m' 433 27 = nI (tS t) by rw [h433]; simp [m1, qS]) ?_
    refine EIp ((nI_leI (by omega) (by omega)).mpr (Nat.le_refl _)) ?_
    rfl) (tS t) NF (nI 0, m1) (by unfold NF; omega) ⟨0, m1, by omega, rfl, Fx.rf.sI (Or.inl rfl), rfl, fun i hi => by omega⟩
  exact ⟨b, e1, e2, fun j hj => by rw [e3]; simp [m1, qS, hj], by rw [e3]; simp [m1, qS], fun z hz => by rw [Nat.zero_add]; exact e4 z hz⟩
theorem m_writeFormula {m : qM} {s : ST} (h : MP m s) (hs : okS s) (v : Int32) : ∃ m2, fX10_writeFormula NF 433 v m = some (ansN (-1 : Int32) (sN s) (fun j => nI (tS (sFo s j))) v, m2) ∧ MP m2 (sWf s v) ∧ Gm m m2 := by
  have hP := h
  obtain ⟨hM, -, -, -, hL, -⟩ := h
  have hn := hs.1.1
  obtain ⟨k433, r0, r1, r2, r3, k434, k435, k436, k437, n434, n435, n436, n437⟩ := hM.a
  unfold fX10_writeFormula sWf
  rcases hasA_cases (n := sN s) (by omega) v with ⟨h1, -⟩ | ⟨j, hj, rfl, h1⟩
  · rw [ansN_miss h1, ansN_miss h1]
    refine ⟨m, ?_, hP, Fx.rf⟩
    refine EC k433 (m_isOne k433 hL.1 hn v) ?_
    refine EIp h1 ?_
    rfl
  · rw [ansN_hit (by omega) h1, ansN_hit (by omega) h1]
    obtain ⟨b1, s1, -⟩ := hs.1.2.2 j hj
    have hsl := (hL.2 j hj).1
    obtain ⟨m1, p1, p2, p3, p4⟩ := m_takes (i := j) hM (by omega) hsl s1
    have hP1 : MP m1 s := MP_fx hP p2 (fun a ha => by omega) (p3 5 (by decide)) (p3 7 (by decide)) (p3 11 (by decide)) (p3 13 (by decide))
    obtain ⟨m2, w1, w2, w3, w4⟩ := m_tells hP1.1 p4 b1 s1
    have K1 : qK m1 433 = 10 := hP1.1.a.1
    have K2 : qK m2 433 = 10 := by rw [w2.1]; exact K1
    refine ⟨m2, ?_, MP_out hP1 w2 w3 w4, (p2.mono (fun a ha => by omega)).tr (w2.mono (fun a ha => by omega))⟩
    refine EC k433 (m_isOne k433 hL.1 hn _) ?_
    refine EIn (show ¬ hasA (sN s) (nI j) = 0 by rw [h1]; exact i10) ?_
    refine EgR k433 r1 ?_
    refine EaI k435 rfl (show j < qN m 435 by omega) (by omega) hsl.1 ?_
    refine EpI k433 rfl ?_
    refine EB p1 ?_
    refine EC K1 w1 ?_
    refine EgI K2 (show qI m2 433 27 = nI (tS (sFo s j)) by rw [w3 27 (by decide)]; exact p4.1) ?_
    rfl
-- ===== how many variables =====
theorem nv_max {t : Tm} (h : okF t) : (∀ i, i < tS t → (pol t).getD i 0 ≠ 99 → (pol t).getD i 0 < nv t) ∧ (0 < nv t → ∃ i, i < tS t ∧ (pol t).getD i 0 = nv t - 1) := by
  obtain ⟨hb, h39, hc⟩ := h
  have hb99 : bel 99 t := bel_mono hb (by omega)
  have hl := nm_len (pol t) []
  rw [pol_len] at hl
  simp only [List.length_nil, Nat.zero_add] at hl
  constructor
  · intro i hi hne
    have ho : ocs ((pol t).getD i 0) t := (pol_mem (mem_getD (by rw [pol_len]; exact hi))).resolve_left hne
    have key : ocs ((pol t).getD i 0) (cT t) := by rw [hc]; exact ho
    exact cT_ocs key (Or.inr ⟨rfl, hb99⟩)
  · intro hp
    have hp' : 0 < (nm [] (pol t)).length := hp
    -- the last name
    have hlt : nv t - 1 < (nm [] (pol t)).length := by show (nm [] (pol t)).length - 1 < _; omega
    have hm := mem_getD hlt
    rcases (nm_mem _ _ _).mp hm with q | ⟨q1, q2⟩
    · simp at q
    · have e1 : ixo (nm [] (pol t)) ((nm [] (pol t)).getD (nv t - 1) 0) ∈ pol t := by
        have e2 : pol t = cn [] (pol t) := by conv => lhs; rw [← hc, pol_cT hb99]
        rw [e2, cn_idx]
        apply List.mem_map.mpr
        refine ⟨(nm [] (pol t)).getD (nv t - 1) 0, q1, ?_⟩
        rw [if_neg q2, ← cn_idx, ← e2]
      have e3 : ixo (nm [] (pol t)) ((nm [] (pol t)).getD (nv t - 1) 0) = nv t - 1 := by
        apply idx_first hlt rfl
        intro j hj e
        have hnd : (nm [] (pol t)).Nodup := by
          have gen : ∀ (cs ns : List Nat), ns.Nodup → (nm ns cs).Nodup := by
            intro cs
            induction cs with
            | nil => intro ns h; exact h
            | cons c cs ih =>
              intro ns hn
              by_cases hc : c = 99
              · simp only [nm, hc, ↓reduceIte]; exact ih ns hn
              · by_cases hc2 : c ∈ ns
                · simp only [nm, hc, hc2, ↓reduceIte]; exact ih ns hn
                · simp only [nm, hc, hc2, ↓reduceIte]
                  apply ih
                  rw [List.nodup_append]
                  refine ⟨hn, by simp, fun a ha b hb e => ?_⟩
                  rw [List.mem_singleton] at hb
                  exact hc2 (by rw [← hb, ← e]; exact ha)
          exact gen (pol t) [] List.nodup_nil
        rw [List.getD_eq_getElem?_getD, List.getD_eq_getElem?_getD, List.getElem?_eq_getElem hlt, List.getElem?_eq_getElem (by omega : j < _)] at e
        have := (List.getElem_inj hnd).mp e
        omega
      rw [e3] at e1
      obtain ⟨i, hi, e⟩ := List.getElem_of_mem e1
      refine ⟨i, by rw [← pol_len]; exact hi, ?_⟩
      rw [List.getD_eq_getElem?_getD, List.getElem?_eq_getElem hi]
      exact e
theorem m_vars {m : qM} {i : Nat} {t : Tm} (hM : MS (qK m) (qN m) (qR m)) (hi : i < 181) (hs : SlT (qI m) i t) (ht : okF t) : fX10_variables NF 433 (nI i) m = some (nI (nv t), m) := by
  obtain ⟨k433, r0, r1, r2, r3, k434, k435, k436, k437, n434, n435, n436, n437⟩ := hM.a
  obtain ⟨x1, x2⟩ := nv_max ht
  have h39 := ht.2.1
  have hb99 : bel 99 t := bel_mono ht.1 (by omega)
  -- most: the greatest number yet
  obtain ⟨b, e1, e2⟩ := walk (l := fun g (s : Int32 × Int32) => lX10_variables_4 NF 433 (nI i) g s.1 s.2 m) (J := fun r s => ∃ k w, k + r = tS t ∧ s = (nI w + (-1), nI k) ∧ w ≤ nv t ∧ (∀ z, z < k → (pol t).getD z 0 ≠ 99 → (pol t).getD z 0 < w)) (Q := fun b => b = (nI (nv t) + (-1), m)) (fun g r s hj => by
    obtain ⟨k, w, hk, rfl, hw, hT⟩ := hj
    have hp := pol_lt hb99 k
    have hck := hs.2 k (by omega)
    have hnv : nv t ≤ 39 := by
      have hl := nm_len (pol t) []
      rw [pol_len] at hl
      simp only [List.length_nil, Nat.zero_add] at hl
      show (nm [] (pol t)).length ≤ 39
      omega
    have hpre : ∀ R, (if (pol t).getD k 0 = 99 then lX10_variables_4 NF 433 (nI i) g (nI w + (-1)) (nI (k + 1)) m else lX10_variables_4 NF 433 (nI i) g (if nI w + (-1) < nI ((pol t).getD k 0) then nI ((pol t).getD k 0) else nI w + (-1)) (nI (k + 1)) m) = R → lX10_variables_4 NF 433 (nI i) (g + 1) (nI w + (-1)) (nI k) m = R := by
      intro R hR
      unfold lX10_variables_4 kX10_variables_46
      refine EgR k433 r1 ?_
      refine EaI k435 rfl (by omega) (by omega) hs.1 ?_
      refine EIn (fun z => by have := (nI_leI (by omega) (by omega)).mp z; omega) ?_
      refine EgR k433 r0 ?_
      refine EaI k434 (ix39 _ _) (by omega) (by omega) hck ?_
      by_cases e : (pol t).getD k 0 = 99
      · rw [if_pos e] at hR
        refine EIp (by rw [e]; rfl) ?_
        rw [nI_s]; exact hR
      · rw [if_neg e] at hR
        refine EIn (fun z => e ((nI_eq (b := 99) (by omega) (by omega)).mp z)) ?_
        refine EgR k433 r0 ?_
        refine EaI k434 (ix39 _ _) (by omega) (by omega) hck ?_
        rw [nI_s]; exact hR
    left
    by_cases e : (pol t).getD k 0 = 99
    · refine ⟨(nI w + (-1), nI (k + 1)), ⟨k + 1, w, by omega, rfl, hw, fun z hz hz2 => ?_⟩, hpre _ (if_pos e)⟩
      by_cases ez : z = k
      · rw [ez] at hz2; exact absurd e hz2
      · exact hT z (by omega) hz2
    · have hc := x1 k (by omega) e
      by_cases ew : w ≤ (pol t).getD k 0
      · refine ⟨(nI ((pol t).getD k 0 + 1) + (-1), nI (k + 1)), ⟨k + 1, (pol t).getD k 0 + 1, by omega, rfl, by omega, fun z hz hz2 => ?_⟩, hpre _ ?_⟩
        · by_cases ez : z = k
          · rw [ez]; omega
          · have := hT z (by omega) hz2; omega
        · rw [if_neg e]
          have hlt : nI w + (-1) < nI ((pol t).getD k 0) := by
            by_cases h0 : w = 0
            · rw [h0, nI_p0]
              exact Int32.lt_of_lt_of_le (by decide : (-1 : Int32) < 0) (nI_g0 (by omega))
            · rw [nI_p (by omega), nI_ltI (by omega) (by omega)]; omega
          rw [if_pos hlt, nI_p (by omega), Nat.add_sub_cancel]
      · refine ⟨(nI w + (-1), nI (k + 1)), ⟨k + 1, w, by omega, rfl, hw, fun z hz hz2 => ?_⟩, hpre _ ?_⟩
        · by_cases ez : z = k
          · rw [ez]; omega
          · exact hT z (by omega) hz2
        · rw [if_neg e]
          have hlt : ¬ nI w + (-1) < nI ((pol t).getD k 0) := by
            rw [nI_p (by omega), nI_ltI (by omega) (by omega)]; omega
          rw [if_neg hlt]) (fun g s hj => by
    obtain ⟨k, w, hk, rfl, hw, hT⟩ := hj
    obtain rfl : k = tS t := by omega
    refine ⟨(nI w + (-1), m), ?_, ?_⟩
    · show lX10_variables_4 NF 433 (nI i) (g + 1) (nI w + (-1)) (nI (tS t)) m = _
      unfold lX10_variables_4
      refine EgR k433 r1 ?_
      refine EaI k435 rfl (by omega) (by omega) hs.1 ?_
      refine EIp ((nI_leI (by omega) (by omega)).mpr (Nat.le_refl _)) ?_
      rfl
    · have : w = nv t := by
        by_cases h0 : nv t = 0
        · omega
        · obtain ⟨z, hz1, hz2⟩ := x2 (by omega)
          have hnv : nv t ≤ 39 := by
            have hl := nm_len (pol t) []
            rw [pol_len] at hl
            simp only [List.length_nil, Nat.zero_add] at hl
            show (nm [] (pol t)).length ≤ 39
            omega
          have := hT z hz1 (by omega)
          omega
      rw [this]) (tS t) NF (nI 0 + (-1), nI 0) (by unfold NF; omega) ⟨0, 0, by omega, rfl, by omega, fun z hz => by omega⟩
  rw [e2] at e1
  unfold fX10_variables
  refine EB (show lX10_variables_4 NF 433 (nI i) NF (-1) 0 m = some (nI (nv t) + (-1), m) from e1) ?_
  have : nI (nv t) + (-1 : Int32) + 1 = nI (nv t) := by rw [Int32.add_assoc, show (-1 : Int32) + 1 = 0 by decide, Int32.add_zero]
  show some (nI (nv t) + (-1 : Int32) + 1, m) = _
  rw [this]
theorem m_vcount {m : qM} {s : ST} (h : MP m s) (hs : okS s) (v : Int32) : fX10_variableCount NF 433 v m = some (ansN (-1 : Int32) (sN s) (fun j => nI (nv (sFo s j))) v, m) := by
  obtain ⟨hM, -, -, -, hL, -⟩ := h
  have hn := hs.1.1
  have k433 := hM.a.1
  unfold fX10_variableCount
  refine EC k433 (m_isOne k433 hL.1 hn v) ?_
  rcases hasA_cases (n := sN s) (by omega) v with ⟨h1, -⟩ | ⟨j, hj, rfl, h1⟩
  · rw [ansN_miss h1]
    refine EIp h1 ?_
    rfl
  · rw [ansN_hit (by omega) h1]
    refine EIn (show ¬ hasA (sN s) (nI j) = 0 by rw [h1]; exact i10) ?_
    refine EC k433 (m_vars hM (by omega) (hL.2 j hj).1 (hs.1.2.2 j hj)) ?_
    rfl
-- ===== the reference unifies two formulas of the list =====
theorem m_unify {m : qM} {s : ST} (h : MP m s) (hs : okS s) (v w : Int32) : ∃ m2, fX10_unify NF 433 v w m = some (aUni s v w, m2) ∧ MP m2 (sUni s v w) ∧ Gm m m2 := by
  have hP := h
  obtain ⟨hM, -, -, -, hL, -⟩ := h
  have hn := hs.1.1
  obtain ⟨k433, r0, r1, r2, r3, k434, k435, k436, k437, n434, n435, n436, n437⟩ := hM.a
  unfold aUni sUni ans2
  rcases hasA_cases (n := sN s) (by omega) v with ⟨h1, -⟩ | ⟨i, hi, rfl, h1⟩
  · rw [ansN_miss h1, ansN_miss h1]
    refine ⟨m, ?_, hP, Fx.rf⟩
    unfold fX10_unify
    refine EC k433 (m_isOne k433 hL.1 hn v) ?_
    refine EIp h1 ?_
    rfl
  · rw [ansN_hit (by omega) h1, ansN_hit (by omega) h1]
    rcases hasA_cases (n := sN s) (by omega) w with ⟨h2, -⟩ | ⟨j, hj, rfl, h2⟩
    · rw [ansN_miss h2, ansN_miss h2]
      refine ⟨m, ?_, hP, Fx.rf⟩
      unfold fX10_unify
      refine EC k433 (m_isOne k433 hL.1 hn _) ?_
      refine EIn (show ¬ hasA (sN s) (nI i) = 0 by rw [h1]; exact i10) ?_
      refine EC k433 (m_isOne k433 hL.1 hn w) ?_
      refine EIp h2 ?_
      rfl
    · rw [ansN_hit (by omega) h2, ansN_hit (by omega) h2]
      show ∃ m2, _ = some (uniA s i j, m2) ∧ MP m2 (uniS s i j) ∧ Gm m m2
      obtain ⟨b1, s1, -⟩ := hs.1.2.2 i hi
      obtain ⟨b2, s2, -⟩ := hs.1.2.2 j hj
      generalize hφ : sFo s i = φ at b1 s1
      generalize hψ : sFo s j = ψ at b2 s2
      have cφ : Cd (qI m) 434 (39 * i) φ := hφ ▸ (hL.2 i hi).1.2
      have cψ : Cd (qI m) 434 (39 * j) ψ := hψ ▸ (hL.2 j hj).1.2
      obtain ⟨m1, m2, m3, p1, p2, p3, f1, f2, f3, hk, hI, hG, h450⟩ := m_start (A := 434) (B := 434) (w := 39 * i) (u := 39 * j) hM (Or.inl rfl) (Or.inl rfl) (by omega) (by omega) (bel_mono b1 (by omega)) (bel_mono b2 (by omega)) s1 s2 cφ cψ
      have hp1 := tS_pos φ
      have hp2 := tS_pos ψ
      have es : tS (shf 39 ψ) = tS ψ := shf_tS
      have hA0 : tr φ (shf 39 ψ) 0 = φ := tr_A
      have hB0 : tr φ (shf 39 ψ) (tS φ) = shf 39 ψ := tr_B
      obtain ⟨m4, b, q1, q2, q3⟩ := m_unifies (P := fun τ => sb τ φ = sb τ (shf 39 ψ)) hG kU m3 (tr φ (shf 39 ψ)) 0 (tS φ) (fun _ => false) hI (fun τ _ n _ => rfl) (by omega) (by omega) (fun τ hτ => by rw [hA0, hB0]; exact hτ) (fun k _ h => by cases h) (by have := cnt_le (fun j => ! false) 78; unfold kU; omega)
      have f4 : Fx dDt m m4 := f3.tr (q2.mono (fun a ha => by rcases ha with h | h <;> simp [dDt, h]))
      have k4 : ∀ j, kp j → qI m4 433 j = qI m 433 j := fun j hj => by rw [q2.i (by simp [dUn])]; exact hk j hj
      have hP4 : MP m4 s := MP_fx hP f4 (fun a ha => by unfold dDt at ha; omega) (k4 5 (by simp [kp])) (k4 7 (by simp [kp])) (k4 11 (by simp [kp])) (k4 13 (by simp [kp]))
      have K1 : qK m1 433 = 10 := by rw [f1.1]; exact k433
      have K2 : qK m2 433 = 10 := by rw [f2.1]; exact k433
      have K3 : qK m3 433 = 10 := by rw [f3.1]; exact k433
      have K4 : qK m4 433 = 10 := by rw [f4.1]; exact k433
      have R1 : qR m1 433 0 = some 434 := by rw [f1.2.2.1]; exact r0
      have R2 : qR m2 433 0 = some 434 := by rw [f2.2.2.1]; exact r0
      have hpre : ∀ R, (if b = 0 then some ((-4 : Int32), m4) else (qChk m4 433 10 (fX10_written NF 433 (nI 0) m4)).bind fun b11 => if 0 ≤ b11.1 then (qChk b11.2 433 10 (fX10_tellsOne NF 433 b11.2)).bind fun b12 => (qgI b12 433 10 27).bind fun x13 => some (x13, b12) else some ((-5 : Int32), b11.2)) = R → fX10_unify NF 433 (nI i) (nI j) m = R := by
        intro R hR
        unfold fX10_unify
        refine EC k433 (m_isOne k433 hL.1 hn _) ?_
        refine EIn (show ¬ hasA (sN s) (nI i) = 0 by rw [h1]; exact i10) ?_
        refine EC k433 (m_isOne k433 hL.1 hn _) ?_
        refine EIn (show ¬ hasA (sN s) (nI j) = 0 by rw [h2]; exact i10) ?_
        refine EC k433 p1 ?_
        rw [ix39', ix39']
        refine EpI K1 rfl ?_
        refine EgR (show qK (qsI m1 433 25 (nI (39 * i))) 433 = 10 from K1) (show qR (qsI m1 433 25 (nI (39 * i))) 433 0 = some 434 from R1) ?_
        refine EC (show qK (qsI m1 433 25 (nI (39 * i))) 433 = 10 from K1) p2 ?_
        dsimp only
        refine EpI K2 rfl ?_
        refine EgR (show qK (qsI m2 433 25 (nI (39 * j))) 433 = 10 from K2) (show qR (qsI m2 433 25 (nI (39 * j))) 433 0 = some 434 from R2) ?_
        refine EC (show qK (qsI m2 433 25 (nI (39 * j))) 433 = 10 from K2) p3 ?_
        dsimp only
        refine EC K3 q1 ?_
        exact hR
      unfold uniA uniS
      rw [hφ, hψ]
      rcases q3 with ⟨rfl, qn⟩ | ⟨rfl, den2, ρ, t1, t2, t3, t4⟩
      · have hz : uU φ ψ = none := uR_eq (Or.inl ⟨rfl, qn⟩)
        have hrc : ¬ rc (uU φ ψ) = 0 := by rw [hz]; decide
        rw [if_neg hrc, if_neg hrc, hz]
        refine ⟨m4, hpre _ ?_, hP4, f4.mono (fun a ha => by unfold dDt at ha; omega)⟩
        rw [if_pos rfl]; rfl
      · have hu : sb ρ φ = sb ρ (shf 39 ψ) := by
          rw [t3 0 (by omega), t3 (tS φ) (by omega), hA0, hB0] at t4
          exact t4
        obtain ⟨σ, z1, z2⟩ := MG_of t3 t2 hu (fun v hv => Or.inl hv) (fun v hv => Or.inr hv)
        have hr : sb σ φ = den2 0 := by
          rw [t3 0 (by omega), hA0]
          exact z2 φ (fun v hv => Or.inl hv)
        have hbel : bel 99 (den2 0) := bel_mono (t1.2.2.1.2.2.1 _ (by omega)) (by omega)
        have hz : uU φ ψ = some (cT (den2 0), tS (den2 0), nv (den2 0)) := uR_eq (Or.inr ⟨σ, z1, by rw [hr]; exact hbel, by rw [hr]⟩)
        obtain ⟨m5, u1, u2, u3, u4⟩ := m_written (n := 0) hG t1 (by omega) (fun j hj => by rw [q2.i (by simp [dUn])]; exact h450 j hj)
        rw [← hz] at u1
        have f5 : Fx dDt m m5 := f4.tr (u2.mono (fun a ha => by rcases ha with h | h | h <;> simp [dDt, h]))
        have hP5 : MP m5 s := MP_fx hP f5 (fun a ha => by unfold dDt at ha; omega) ((u3 5 (by decide) (by decide)).trans (k4 5 (by simp [kp]))) ((u3 7 (by decide) (by decide)).trans (k4 7 (by simp [kp]))) ((u3 11 (by decide) (by decide)).trans (k4 11 (by simp [kp]))) ((u3 13 (by decide) (by decide)).trans (k4 13 (by simp [kp])))
        have K5 : qK m5 433 = 10 := by rw [f5.1]; exact k433
        have g5 : Gm m m5 := f5.mono (fun a ha => by unfold dDt at ha; omega)
        by_cases e : rc (uU φ ψ) = 0
        · rw [if_pos e, if_pos e]
          have hok := rc_ok.mp e
          have hF := uU_okF b1 b2 s1 s2 hok
          have hone : One (qI m5) (rt (uU φ ψ)) := by
            obtain ⟨t', s', v', e', h3, h4⟩ := hok
            rw [hz] at e' ⊢
            injection e' with e'
            injection e' with e1 e2
            injection e2 with e2 e3
            exact u4 (by omega)
          obtain ⟨m6, w1, w2, w3, w4⟩ := m_tells hP5.1 hone hF.1 hF.2.1
          have K6 : qK m6 433 = 10 := by rw [w2.1]; exact K5
          refine ⟨m6, hpre _ ?_, MP_out hP5 w2 w3 w4, g5.tr (w2.mono (fun a ha => by omega))⟩
          refine EIn i10 ?_
          refine EC K4 u1 ?_
          refine EIp (show (0 : Int32) ≤ rc (uU φ ψ) by rw [e]; decide) ?_
          refine EC K5 w1 ?_
          refine EgI K6 (show qI m6 433 27 = nI (tS (rt (uU φ ψ))) by rw [w3 27 (by decide)]; exact hone.1) ?_
          rfl
        · rw [if_neg e, if_neg e]
          refine ⟨m5, hpre _ ?_, hP5, g5⟩
          refine EIn i10 ?_
          refine EC K4 u1 ?_
          refine EIn (fun z => absurd (rc_neg e) (Int32.not_lt.mpr z)) ?_
          have : rc (uU φ ψ) = -5 := by
            rw [hz] at e ⊢
            unfold rc at e ⊢
            by_cases q : tS (den2 0) ≤ 39 ∧ nv (den2 0) ≤ 12
            · exact absurd (if_pos q) e
            · exact if_neg q
          rw [this]
end
