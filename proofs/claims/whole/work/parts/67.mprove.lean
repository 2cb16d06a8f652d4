section
-- ===== the reference reads a proof =====
theorem m_readsP {m : qM} {tx : List Nat} {n : Nat} (hM : MS (qK m) (qN m) (qR m)) (hT : MTx (qI m) tx) (h5 : qI m 433 5 = nI n) (hn : n ≤ 60) : ∃ m2, Fx (fun a => a = 433) m m2 ∧ (∀ j, j ≠ 9 → qI m2 433 j = qI m 433 j) ∧ ((∃ p, pE 68 49 (hiD n) 1 0 tx = some p ∧ fX10_readsProof NF 433 m = some (0, m2) ∧ qI m2 433 9 = nI p) ∨ (pE 68 49 (hiD n) 1 0 tx = none ∧ fX10_readsProof NF 433 m = some (1, m2))) := by
  obtain ⟨k433, r6, k439, n439, r26, k451, n451, r28, k452, n452⟩ := hM.t
  have h80 := hT.2.1
  obtain ⟨b, e1, e2⟩ := walk (l := fun g (x : Int32 × Int32 × qM) => lX10_readsProof_4 NF 433 g x.1 x.2.1 x.2.2) (J := fun r x => ∃ k d m', k + r = tx.length ∧ x = (nI d, nI k, m') ∧ d ≤ k + 1 ∧ pE 68 49 (hiD n) d k (tx.drop k) = pE 68 49 (hiD n) 1 0 tx ∧ Fx (fun a => a = 433) m m' ∧ (∀ j, j ≠ 9 → qI m' 433 j = qI m 433 j)) (Q := fun b => ∃ m', Fx (fun a => a = 433) m m' ∧ (∀ j, j ≠ 9 → qI m' 433 j = qI m 433 j) ∧ ((∃ p, pE 68 49 (hiD n) 1 0 tx = some p ∧ b = .inr (0, m') ∧ qI m' 433 9 = nI p) ∨ (∃ d, d < 200 ∧ pE 68 49 (hiD n) 1 0 tx = (if d = 0 then none else some tx.length) ∧ b = .inl (nI d, m')))) (fun g r x hj => by
    obtain ⟨k, d, m', hk, rfl, hd, hp, hF, hj⟩ := hj
    have hM' := hF.M hM
    obtain ⟨K433, R6, K439, N439, R26, K451, N451, -⟩ := hM'.t
    have h7 : qI m' 433 7 = nI tx.length := by rw [hj 7 (by decide)]; exact hT.1
    have hat : qI m' 439 k = nI (tx.getD k 0) := by rw [hF.i (by omega)]; exact (hT.2.2 k (by omega)).1
    have hlt := (hT.2.2 k (by omega)).2
    rw [drop_cons (by omega), pE_cons] at hp
    generalize hcc : tx.getD k 0 = c at hp hat hlt
    let m4 : qM := qsI m' 433 9 (nI k)
    have f4 : Fx (fun a => a = 433) m m4 := hF.sI rfl
    have j4 : ∀ j, j ≠ 9 → qI m4 433 j = qI m 433 j := fun j a1 => by simp only [m4, qS, a1, ↓reduceIte]; exact hj j a1
    have H5 : qI m4 433 5 = nI n := by rw [j4 5 (by decide)]; exact h5
    have hpre : ∀ R, (if nI d = 0 then some (.inr ((0 : Int32), m4)) else if nI c = 68 then kX10_readsProof_58 NF (lX10_readsProof_4 NF 433 g) 433 (nI d) (nI k) (nI c) m4 else (fX10_in NF (nI c) 49 57 m4).bind fun b5 => if b5.1 = 0 then some (.inr ((0 : Int32), b5.2)) else (qgI b5.2 433 10 5).bind fun x6 => if nI c - (49 : Int32) < x6 then kX10_readsProof_58 NF (lX10_readsProof_4 NF 433 g) 433 (nI d) (nI k) (nI c) b5.2 else some (.inr ((0 : Int32), b5.2))) = R → lX10_readsProof_4 NF 433 (g + 1) (nI d) (nI k) m' = R := by
      intro R hR
      unfold lX10_readsProof_4
      refine EgI K433 h7 ?_
      refine EIn (fun z => by have := (nI_leI (by omega) (by omega)).mp z; omega) ?_
      refine EgR K433 R6 ?_
      refine EaI K439 rfl (by omega) (by omega) hat ?_
      refine EpI K433 rfl ?_
      exact hR
    have h58 : kX10_readsProof_58 NF (lX10_readsProof_4 NF 433 g) 433 (nI d) (nI k) (nI c) m4 = lX10_readsProof_4 NF 433 g (if c = 68 then nI d + 1 else nI d + (-1)) (nI (k + 1)) m4 := by
      unfold kX10_readsProof_58 kX10_readsProof_70
      by_cases e : c = 68
      · rw [if_pos e, nI_s k]
        refine EIp (by rw [e]; rfl) ?_
        rfl
      · rw [if_neg e, nI_s k]
        refine EIn (fun z => e ((nI_eq (b := 68) (by omega) (by omega)).mp z)) ?_
        rfl
    have hin : fX10_in NF (nI c) 49 57 m4 = some (if 49 ≤ c ∧ c ≤ 57 then 1 else 0, m4) := in_nat (a := 49) (b := 57) (by omega) (by omega) (by omega)
    by_cases e0 : d = 0
    · rw [if_pos e0] at hp
      exact Or.inr ⟨_, hpre _ (if_pos (by rw [e0]; rfl)), m4, f4, j4, Or.inl ⟨k, hp.symm, rfl, by simp [m4, qS]⟩⟩
    · have q0 : ¬ nI d = 0 := fun z => e0 ((nI_eq (b := 0) (by omega) (by omega)).mp z)
      rw [if_neg e0] at hp
      by_cases h1 : 49 ≤ c ∧ c ≤ hiD n
      · rw [if_pos h1] at hp
        have h57 : 49 ≤ c ∧ c ≤ 57 := ⟨h1.1, by have := h1.2; unfold hiD at this; omega⟩
        have hcn : c - 49 < n := by have := h1.2; unfold hiD at this; omega
        refine Or.inl ⟨(nI (d - 1), nI (k + 1), m4), ⟨k + 1, d - 1, m4, by omega, rfl, by omega, hp, f4, j4⟩, hpre _ ?_⟩
        rw [if_neg q0]
        refine EIn (fun z => by have := (nI_eq (b := 68) (by omega) (by omega)).mp z; omega) ?_
        rw [hin, if_pos h57]
        refine EB rfl ?_
        refine EIn i10 ?_
        refine EgI (show qK m4 433 = 10 from K433) H5 ?_
        refine EIp (show nI c - (49 : Int32) < nI n by rw [show nI c - (49 : Int32) = nI (c - 49) from pk_sub h57.1]; exact (nI_ltI (by omega) (by omega)).mpr hcn) ?_
        show kX10_readsProof_58 NF _ 433 (nI d) (nI k) (nI c) m4 = _
        rw [h58, if_neg (by omega), nI_p (by omega)]
      · rw [if_neg h1] at hp
        by_cases h2 : c = 68
        · rw [if_pos h2] at hp
          refine Or.inl ⟨(nI (d + 1), nI (k + 1), m4), ⟨k + 1, d + 1, m4, by omega, rfl, by omega, hp, f4, j4⟩, hpre _ ?_⟩
          rw [if_neg q0]
          refine EIp (by rw [h2]; rfl) ?_
          rw [h58, if_pos h2, nI_s]
        · rw [if_neg h2] at hp
          refine Or.inr ⟨_, hpre (some (.inr (0, m4))) ?_, m4, f4, j4, Or.inl ⟨k, hp.symm, rfl, by simp [m4, qS]⟩⟩
          rw [if_neg q0]
          refine EIn (fun z => h2 ((nI_eq (b := 68) (by omega) (by omega)).mp z)) ?_
          rw [hin]
          by_cases h57 : 49 ≤ c ∧ c ≤ 57
          · rw [if_pos h57]
            refine EB rfl ?_
            refine EIn i10 ?_
            refine EgI (show qK m4 433 = 10 from K433) H5 ?_
            refine EIn (fun z => h1 ⟨h57.1, ?_⟩) ?_
            · rw [show nI c - (49 : Int32) = nI (c - 49) from pk_sub h57.1] at z
              have := (nI_ltI (by omega) (by omega)).mp z
              unfold hiD
              omega
            rfl
          · rw [if_neg h57]
            refine EB rfl ?_
            refine EIp rfl ?_
            rfl) (fun g x hj => by
    obtain ⟨k, d, m', hk, rfl, hd, hp, hF, hj⟩ := hj
    obtain rfl : k = tx.length := by omega
    rw [List.drop_of_length_le (Nat.le_refl _), pE_nil] at hp
    have K433 : qK m' 433 = 10 := by rw [hF.1]; exact k433
    refine ⟨.inl (nI d, m'), ?_, m', hF, hj, Or.inr ⟨d, by omega, hp.symm, rfl⟩⟩
    show lX10_readsProof_4 NF 433 (g + 1) (nI d) (nI tx.length) m' = _
    unfold lX10_readsProof_4
    refine EgI K433 (show qI m' 433 7 = nI tx.length by rw [hj 7 (by decide)]; exact hT.1) ?_
    refine EIp ((nI_leI (by omega) (by omega)).mpr (Nat.le_refl _)) ?_
    rfl) tx.length NF (nI 1, nI 0, m) (by unfold NF; omega) ⟨0, 1, m, by omega, rfl, by omega, by rw [List.drop_zero], Fx.rf, fun _ _ => rfl⟩
  have hpre : ∀ R, qTh (some b) (fun o2 => (qgI o2.2 433 10 7).bind fun x3 => (qpI o2.2 433 10 9 x3).bind fun m4 => if o2.1 = 0 then some ((1 : Int32), m4) else some ((0 : Int32), m4)) (fun r => r) = R → fX10_readsProof NF 433 m = R := by
    intro R hR
    unfold fX10_readsProof
    rw [show lX10_readsProof_4 NF 433 NF 1 0 m = some b from e1]
    exact hR
  obtain ⟨m', hF, hj, h⟩ := e2
  rcases h with ⟨p, h1, rfl, h2⟩ | ⟨d, h0, h1, rfl⟩
  · exact ⟨m', hF, hj, Or.inl ⟨p, h1, hpre _ rfl, h2⟩⟩
  · have K433 : qK m' 433 = 10 := by rw [hF.1]; exact k433
    have h7 : qI m' 433 7 = nI tx.length := by rw [hj 7 (by decide)]; exact hT.1
    let m6 : qM := qsI m' 433 9 (nI tx.length)
    have f6 : Fx (fun a => a = 433) m m6 := hF.sI rfl
    have j6 : ∀ j, j ≠ 9 → qI m6 433 j = qI m 433 j := fun j a1 => by simp only [m6, qS, a1, ↓reduceIte]; exact hj j a1
    refine ⟨m6, f6, j6, ?_⟩
    by_cases e0 : d = 0
    · rw [if_pos e0] at h1
      refine Or.inr ⟨h1, hpre _ ?_⟩
      show (qgI m' 433 10 7).bind _ = _
      refine EgI K433 h7 ?_
      refine EpI K433 rfl ?_
      refine EIp (show nI d = 0 by rw [e0]; rfl) ?_
      rfl
    · rw [if_neg e0] at h1
      refine Or.inl ⟨tx.length, h1, hpre _ ?_, by simp [m6, qS]⟩
      show (qgI m' 433 10 7).bind _ = _
      refine EgI K433 h7 ?_
      refine EpI K433 rfl ?_
      refine EIn (show ¬ nI d = 0 from fun z => e0 ((nI_eq (b := 0) (by omega) (by omega)).mp z)) ?_
      rfl
theorem aDet_in {s : ST} {v w : Int32} (hn : sN s ≤ 60) (h1 : inL s v) (h2 : inL s w) : aDet s v w = detA s v.toNatClampNeg w.toNatClampNeg ∧ sDet s v w = detS s v.toNatClampNeg w.toNatClampNeg := by
  obtain ⟨i, hi, rfl⟩ := h1
  obtain ⟨j, hj, rfl⟩ := h2
  have hh : ∀ k, k < sN s → hasA (sN s) (nI k) = 1 := fun k hk => by
    rcases hasA_cases (n := sN s) (by omega) (nI k) with ⟨-, h⟩ | ⟨_, _, _, h⟩
    · exact absurd ⟨k, 1, rfl, rfl, by omega⟩ h
    · exact h
  unfold aDet sDet ans2
  rw [ansN_hit (by omega) (hh i hi), ansN_hit (by omega) (hh j hj), ansN_hit (by omega) (hh i hi), ansN_hit (by omega) (hh j hj), nI_clamp (by omega), nI_clamp (by omega)]
  exact ⟨rfl, rfl⟩
theorem MP_433 {m : qM} {s : ST} {k : Nat} {v : Int32} (h : MP m s) (h5 : k ≠ 5) (h7 : k ≠ 7) (h11 : k ≠ 11) (h13 : k ≠ 13) : MP (qsI m 433 k v) s :=
  MP_fx (D := fun a => a = 433) h (Fx.rf.sI rfl) (fun a ha => Or.inl ha) (by simp [qS, Ne.symm h5]) (by simp [qS, Ne.symm h7]) (by simp [qS, Ne.symm h11]) (by simp [qS, Ne.symm h13])
theorem m_proves {tx : List Nat} (h80 : tx.length ≤ 80) (hch : ∀ c, c ∈ tx → c = 68 ∨ (49 ≤ c ∧ c ≤ 57)) : ∀ (t : Tm) (k p : Nat) (s : ST) (m : qM), tS t ≤ k → MP m s → okS s → bel (sN s) t → sTx s = tx → p + tS t ≤ tx.length → (∀ i, i < tS t → cd 68 49 (tx.getD (p + i) 0) = (pol t).getD i 0) → qI m 433 8 = nI p →
    ∃ m2, fX10_proves NF k 433 m = some ((pvT t s).1, m2) ∧ MP m2 (pvT t s).2 ∧ Gm m m2 ∧ (¬ (pvT t s).1 < 0 → qI m2 433 8 = nI (p + tS t)) := by
  intro t
  induction t with
  | var v =>
    intro k p s m hk hP hs hb htx hpl hcd h8
    obtain ⟨k, rfl⟩ : ∃ z, k = z + 1 := ⟨k - 1, by simp only [tS] at hk; omega⟩
    simp only [tS] at hpl hcd
    have hc0 := hcd 0 (by omega)
    rw [Nat.add_zero] at hc0
    have hv : v < sN s := bel_var.mp hb
    have hn := hs.1.1
    obtain ⟨k433, r6, k439, n439, -⟩ := hP.1.t
    have hT := hP.2.2.1
    rw [htx] at hT
    have hat := (hT.2.2 p (by omega)).1
    have hcc := hch _ (mem_getD (ns := tx) (j := p) (by omega))
    have hc0' : cd 68 49 (tx.getD p 0) = v := hc0
    generalize tx.getD p 0 = c at hat hcc hc0'
    have hc68 : ¬ c = 68 := fun z => by rw [z] at hc0'; have : (99 : Nat) = v := hc0'; omega
    have hcv : c - 49 = v := by rw [← hc0']; exact (if_neg hc68).symm
    have hr := hcc.resolve_left hc68
    refine ⟨qsI m 433 8 (nI (p + 1)), ?_, MP_433 hP (by decide) (by decide) (by decide) (by decide), Fx.rf.sI (by omega), fun _ => by simp [qS, tS]⟩
    conv => lhs; unfold fX10_proves
    refine EgR k433 r6 ?_
    refine EgI k433 h8 ?_
    refine EpI k433 (nI_s _) ?_
    refine EaI (show qK (qsI m 433 8 (nI (p + 1))) 439 = 12 from k439) rfl (show p < qN m 439 by omega) (by omega) (show qI (qsI m 433 8 (nI (p + 1))) 439 p = nI c by simp only [qS]; rw [if_neg (by decide)]; exact hat) ?_
    refine EIn (fun z => hc68 ((nI_eq (b := 68) (by omega) (by omega)).mp z)) ?_
    rw [show nI c - (49 : Int32) = nI v by rw [← hcv]; exact pk_sub hr.1]
    rfl
  | op a b iha ihb =>
    intro k p s m hk hP hs hb htx hpl hcd h8
    simp only [tS] at hk hpl hcd
    obtain ⟨k, rfl⟩ : ∃ z, k = z + 1 := ⟨k - 1, by omega⟩
    have hpa := tS_pos a
    have hpb := tS_pos b
    obtain ⟨hb1, hb2⟩ := bel_op.mp hb
    have hc0 := hcd 0 (by omega)
    rw [Nat.add_zero] at hc0
    have hn := hs.1.1
    obtain ⟨k433, r6, k439, n439, -⟩ := hP.1.t
    have hT := hP.2.2.1
    rw [htx] at hT
    have hat := (hT.2.2 p (by omega)).1
    have hcc := hch _ (mem_getD (ns := tx) (j := p) (by omega))
    have hc0' : cd 68 49 (tx.getD p 0) = 99 := hc0
    have hc68 : tx.getD p 0 = 68 := by
      rcases hcc with e | e
      · exact e
      · unfold cd at hc0'
        by_cases e2 : tx.getD p 0 = 68
        · exact e2
        · rw [if_neg e2] at hc0'; omega
    rw [hc68] at hat
    let m1 : qM := qsI m 433 8 (nI (p + 1))
    have hP1 : MP m1 s := MP_433 hP (by decide) (by decide) (by decide) (by decide)
    obtain ⟨m2, a1, a2, a3, a4⟩ := iha k (p + 1) s m1 (by omega) hP1 hs hb1 htx (by omega) (fun i hi => by
      have := hcd (i + 1) (by omega)
      rw [show p + (i + 1) = p + 1 + i by omega] at this
      rw [this, pol_opA hi]) (by simp [m1, qS])
    obtain ⟨oa1, oa2, oa3, oa4⟩ := pv_ok a s hs hb1
    have g12 : Gm m m2 := (Fx.sI (D := fun a => 433 ≤ a) Fx.rf (by omega)).tr a3
    have hun : pvT (.op a b) s = if (pvT a s).1 < 0 then pvT a s else if (pvT b (pvT a s).2).1 < 0 then pvT b (pvT a s).2 else (detA (pvT b (pvT a s).2).2 (pvT a s).1.toNatClampNeg (pvT b (pvT a s).2).1.toNatClampNeg, detS (pvT b (pvT a s).2).2 (pvT a s).1.toNatClampNeg (pvT b (pvT a s).2).1.toNatClampNeg) := rfl
    rw [hun]
    have hpre : ∀ R, (if 0 ≤ (pvT a s).1 then (qChk m2 433 10 (fX10_proves NF k 433 m2)).bind fun b6 => if 0 ≤ b6.1 then (qChk b6.2 433 10 (fX10_detach NF 433 (pvT a s).1 b6.1 b6.2)).bind fun b7 => some (b7.1, b7.2) else some (b6.1, b6.2) else some ((pvT a s).1, m2)) = R → fX10_proves NF (k + 1) 433 m = R := by
      intro R hR
      unfold fX10_proves
      refine EgR k433 r6 ?_
      refine EgI k433 h8 ?_
      refine EpI k433 (nI_s _) ?_
      refine EaI (show qK m1 439 = 12 from k439) rfl (show p < qN m 439 by omega) (by omega) (show qI m1 439 p = nI 68 by simp only [m1, qS]; rw [if_neg (by decide)]; exact hat) ?_
      refine EIp rfl ?_
      refine EC (show qK m1 433 = 10 from k433) a1 ?_
      exact hR
    by_cases e1 : (pvT a s).1 < 0
    · rw [if_pos e1]
      exact ⟨m2, hpre _ (if_neg (Int32.not_le.mpr e1)), a2, g12, fun h => absurd e1 h⟩
    rw [if_neg e1]
    have K2 := a2.1.a.1
    obtain ⟨m3, b1, b2, b3, b4⟩ := ihb k (p + 1 + tS a) (pvT a s).2 m2 (by omega) a2 oa1 (bel_mono hb2 oa2) (oa3.trans htx) (by omega) (fun i hi => by
      have := hcd (i + 1 + tS a) (by omega)
      rw [show p + (i + 1 + tS a) = p + 1 + tS a + i by omega] at this
      rw [this, pol_opB]) (a4 e1)
    obtain ⟨ob1, ob2, ob3, ob4⟩ := pv_ok b (pvT a s).2 oa1 (bel_mono hb2 oa2)
    have g13 : Gm m m3 := g12.tr b3
    by_cases e2 : (pvT b (pvT a s).2).1 < 0
    · rw [if_pos e2]
      refine ⟨m3, hpre _ ?_, b2, g13, fun h => absurd e2 h⟩
      rw [if_pos (Int32.not_lt.mp e1)]
      refine EC K2 b1 ?_
      exact if_neg (Int32.not_le.mpr e2)
    rw [if_neg e2]
    have K3 := b2.1.a.1
    have ia := oa4.resolve_left e1
    have ib := ob4.resolve_left e2
    have ia' : inL (pvT b (pvT a s).2).2 (pvT a s).1 := by
      obtain ⟨z, hz, e⟩ := ia
      exact ⟨z, by omega, e⟩
    obtain ⟨d1, d2⟩ := aDet_in ob1.1.1 ia' ib
    obtain ⟨m4, c1, c2, c3, c4⟩ := m_detach b2 ob1 (pvT a s).1 (pvT b (pvT a s).2).1
    rw [d1] at c1
    rw [d2] at c2
    refine ⟨m4, hpre _ ?_, c2, g13.tr c3, fun _ => ?_⟩
    · rw [if_pos (Int32.not_lt.mp e1)]
      refine EC K2 b1 ?_
      refine EIp (Int32.not_lt.mp e2) ?_
      refine EC K3 c1 ?_
      rfl
    · rw [c4, b4 e2]
      congr 1
      simp only [tS]; omega
theorem MP_n0 {m : qM} {s : ST} {n0 : Nat} (h : MP m s) (hn : n0 ≤ sN s) : MP (qsI m 433 5 (nI n0)) (wLs s n0 (sFo s) (sEn s)) := by
  obtain ⟨q1, q2, q3, q4, q5, q6, q7⟩ := h
  have f : Fx (fun a => a = 433) m (qsI m 433 5 (nI n0)) := Fx.rf.sI rfl
  have e5 : ∀ k, k ≠ 5 → qI (qsI m 433 5 (nI n0)) 433 k = qI m 433 k := fun k hk => by simp [qS, hk]
  have f434 : ∀ a, 434 ≤ a → qI (qsI m 433 5 (nI n0)) a = qI m a := fun a ha => f.i (by omega)
  refine ⟨f.M q1, q2, MTx_of q3 (e5 7 (by decide)) (f434 439 (by omega)), MOu_of q4 (e5 11 (by decide)) (f434 440 (by omega)), ⟨by simp [qS, wLs, sN], fun i hi => ?_⟩, MMx_of q6 (e5 13 (by decide)) (f434 441 (by omega)), MRs_of q7 (fun a ha _ => f434 a (by omega))⟩
  have hi' : i < n0 := hi
  unfold SlT Cd
  rw [f434 434 (by omega), f434 435 (by omega), f434 436 (by omega), f434 437 (by omega)]
  exact q5.2 i (by omega)
theorem m_prove {m : qM} {s : ST} (h : MP m s) (hs : okS s) : ∃ m2, fX10_prove NF 433 m = some (aPv s, m2) ∧ MP m2 (sPv s) ∧ Gm m m2 := by
  have hP := h
  obtain ⟨hM, -, hT, -, hL, -⟩ := h
  have k433 := hM.a.1
  have hn := hs.1.1
  have h80 := hT.2.1
  obtain ⟨m1, f1, j1, hr⟩ := m_readsP hM hT hL.1 hn
  have hP1 : MP m1 s := MP_fx hP f1 (fun a ha => by omega) (j1 5 (by decide)) (j1 7 (by decide)) (j1 11 (by decide)) (j1 13 (by decide))
  have K1 : qK m1 433 = 10 := by rw [f1.1]; exact k433
  have g1 : Gm m m1 := f1.mono (fun a ha => by omega)
  unfold fX10_prove aPv sPv
  rcases hr with ⟨p, hp, e1, e2⟩ | ⟨hp, e1⟩
  · rw [hp]
    refine ⟨qsI m1 433 7 (nI 0), ?_, MP_tx0 hP1, g1.sI (by omega)⟩
    refine EC k433 e1 ?_
    refine EIp rfl ?_
    refine EpI K1 (show (0 : Int32) = nI 0 from rfl) ?_
    refine EgI (show qK (qsI m1 433 7 (nI 0)) 433 = 10 from K1) (show qI (qsI m1 433 7 (nI 0)) 433 9 = nI p by simp only [qS]; rw [if_pos trivial, if_neg (by decide)]; exact e2) ?_
    rfl
  · rw [hp]
    obtain ⟨hpol, hb⟩ := pv_bel hp
    have hch := pE_chars _ _ _ hp
    have hcl : ((sTx s).map (cd 68 49)).length = (sTx s).length := List.length_map ..
    have htS : tS (pT 68 49 (sTx s)) = (sTx s).length := by rw [← pol_len, hpol, hcl]
    let m3 : qM := qsI m1 433 8 (nI 0)
    have hP3 : MP m3 s := MP_433 hP1 (by decide) (by decide) (by decide) (by decide)
    obtain ⟨m4, p1, p2, p3, -⟩ := m_proves (tx := sTx s) h80 (fun c hc => by
      rcases hch c hc with e | e
      · exact Or.inl e
      · unfold hiD at e; exact Or.inr (by omega)) (pT 68 49 (sTx s)) kR 0 s m3 (by unfold kR; omega) hP3 hs hb rfl (by omega) (fun i hi => by rw [hpol, Nat.zero_add, getD_map (by omega)]) (by simp [m3, qS])
    have er : pvT (pT 68 49 (sTx s)) s = pvR s := rfl
    rw [er] at p1 p2
    have K4 := p2.1.a.1
    have g4 : Gm m m4 := (g1.sI (by omega)).tr p3
    obtain ⟨oa1, oa2, oa3, oa4⟩ := pv_ok _ s hs hb
    rw [er] at oa1 oa2 oa3 oa4
    have hpre : ∀ R, (if 0 ≤ (pvR s).1 then some ((pvR s).1, qsI m4 433 7 (nI 0)) else (qpI (qsI m4 433 7 (nI 0)) 433 10 5 (nI (sN s))).bind fun m6 => some ((pvR s).1, m6)) = R → ((qChk m 433 10 (fX10_readsProof NF 433 m)).bind fun b1 => if b1.1 = 0 then (qpI b1.2 433 10 7 (0 : Int32)).bind fun m7 => (qgI m7 433 10 9).bind fun x8 => some ((-100 : Int32) - x8, m7) else (qgI b1.2 433 10 5).bind fun x2 => (qpI b1.2 433 10 8 (0 : Int32)).bind fun m3 => (qChk m3 433 10 (fX10_proves NF kR 433 m3)).bind fun b4 => (qpI b4.2 433 10 7 (0 : Int32)).bind fun m5 => if 0 ≤ b4.1 then some (b4.1, m5) else (qpI m5 433 10 5 x2).bind fun m6 => some (b4.1, m6)) = R := by
      intro R hR
      refine EC k433 e1 ?_
      refine EIn i10 ?_
      refine EgI K1 (show qI m1 433 5 = nI (sN s) by rw [j1 5 (by decide)]; exact hL.1) ?_
      refine EpI K1 (show (0 : Int32) = nI 0 from rfl) ?_
      refine EC (show qK m3 433 = 10 from K1) p1 ?_
      refine EpI K4 (show (0 : Int32) = nI 0 from rfl) ?_
      exact hR
    show ∃ m2, _ = some ((pvR s).1, m2) ∧ MP m2 (wTx (if (pvR s).1 < 0 then bck s (pvR s).2 else (pvR s).2) []) ∧ Gm m m2
    by_cases e : (pvR s).1 < 0
    · rw [if_pos e]
      have hP5 := MP_tx0 p2
      have hP6 := MP_n0 (n0 := sN s) hP5 oa2
      refine ⟨qsI (qsI m4 433 7 (nI 0)) 433 5 (nI (sN s)), hpre _ ?_, hP6, (g4.sI (by omega)).sI (by omega)⟩
      refine EIn (Int32.not_le.mpr e) ?_
      refine EpI (show qK (qsI m4 433 7 (nI 0)) 433 = 10 from K4) rfl ?_
      rfl
    · rw [if_neg e]
      refine ⟨qsI m4 433 7 (nI 0), hpre _ (if_pos (Int32.not_lt.mp e)), MP_tx0 p2, g4.sI (by omega)⟩
end
