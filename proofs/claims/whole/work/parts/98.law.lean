section
-- ===== the law =====
def OkM (m : qM) : Prop := ∃ s, CP m s ∧ MP m s ∧ okS s
def Pair {α : Type} (C M : qM → Option (α × qM)) (m : qM) : Prop := ∃ a m2 m3, C m = some (a, m2) ∧ qK m2 433 = 10 ∧ M m2 = some (a, m3) ∧ OkM m3
theorem pair_of {α : Type} {C M : qM → Option (α × qM)} {m : qM} {s s2 : ST} {a : α} (hm : MP m s) (h1 : ∃ m2, C m = some (a, m2) ∧ CP m2 s2 ∧ Gc m m2) (h2 : ∀ m2, MP m2 s → ∃ m3, M m2 = some (a, m3) ∧ MP m3 s2 ∧ Gz m2 m3) (hs : okS s2) : Pair C M m := by
  obtain ⟨m2, p1, p2, p3⟩ := h1
  have hm2 := MP_of hm p3
  obtain ⟨m3, q1, q2, q3⟩ := h2 m2 hm2
  exact ⟨a, m2, m3, p1, hm2.1.a.1, q1, s2, CP_z p2 hs.1.1 q3, q2, hs⟩
theorem Gz_m {α : Type} {P : Option (α × qM)} {m : qM} {s : ST} {a : α} {D : Nat → Prop} (h : ∃ m3, P = some (a, m3) ∧ MP m3 s ∧ Fx D m m3) (hD : ∀ b, D b → 433 ≤ b) : ∃ m3, P = some (a, m3) ∧ MP m3 s ∧ Gz m m3 := by
  obtain ⟨m3, h1, h2, h3⟩ := h
  exact ⟨m3, h1, h2, Gz_of (h3.mono hD)⟩
theorem Gc_m {α : Type} {P : Option (α × qM)} {m : qM} {s : ST} {a : α} {D : Nat → Prop} (h : ∃ m3, P = some (a, m3) ∧ CP m3 s ∧ Fx D m m3) (hD : ∀ b, D b → b < 433) : ∃ m3, P = some (a, m3) ∧ CP m3 s ∧ Gc m m3 := by
  obtain ⟨m3, h1, h2, h3⟩ := h
  exact ⟨m3, h1, h2, h3.mono hD⟩
theorem K_c {α : Type} {P : Option (α × qM)} {m : qM} {s : ST} {a : α} (h : P = some (a, m)) (hc : CP m s) : ∃ m3, P = some (a, m3) ∧ CP m3 s ∧ Gc m m3 := ⟨m, h, hc, Fx.rf⟩
theorem K_m {α : Type} {P : Option (α × qM)} {m : qM} {s : ST} {a : α} (h : P = some (a, m)) (hc : MP m s) : ∃ m3, P = some (a, m3) ∧ MP m3 s ∧ Gm m m3 := ⟨m, h, hc, Fx.rf⟩
theorem K_3 {α : Type} {P : Option (α × qM)} {m : qM} {s : ST} {a : α} {Z : qM → Prop} (h : ∃ m3, P = some (a, m3) ∧ MP m3 s ∧ Gm m m3 ∧ Z m3) : ∃ m3, P = some (a, m3) ∧ MP m3 s ∧ Gm m m3 := by
  obtain ⟨m3, h1, h2, h3, -⟩ := h
  exact ⟨m3, h1, h2, h3⟩
theorem p_0 {m : qM} {s : ST} (hc : CP m s) (hm : MP m s) (hs : okS s) (a0 : Int32) : Pair (fun m => fX9_append NF 0 a0 m) (fun m => fX10_append NF 433 a0 m) m :=
  pair_of hm (Gc_m (c_app hc hs a0) (fun b hb => by omega)) (fun m2 hm2 => (Gz_m (m_app hm2 a0) (fun b hb => by omega))) (ok_app hs _)
theorem p_1 {m : qM} {s : ST} (hc : CP m s) (hm : MP m s) (hs : okS s) : Pair (fun m => fX9_clearText NF 0 m) (fun m => fX10_clearText NF 433 m) m :=
  pair_of hm (cp_clear hc hs) (fun m2 hm2 => (Gz_m (mp_clear hm2) (fun b hb => by omega))) (ok_clear hs)
theorem p_2 {m : qM} {s : ST} (hc : CP m s) (hm : MP m s) (hs : okS s) : Pair (fun m => fX9_addAxiom NF 0 m) (fun m => fX10_addAxiom NF 433 m) m :=
  pair_of hm (c_addAxiom hc hs) (fun m2 hm2 => (Gz_m (m_addAxiom hm2 hs) (fun b hb => by omega))) (ok_ax hs)
theorem p_3 {m : qM} {s : ST} (hc : CP m s) (hm : MP m s) (hs : okS s) (a0 a1 : Int32) : Pair (fun m => fX9_detach NF 0 a0 a1 m) (fun m => fX10_detach NF 433 a0 a1 m) m :=
  pair_of hm (c_detach hc hs a0 a1) (fun m2 hm2 => (Gz_m (K_3 (m_detach hm2 hs a0 a1)) (fun b hb => by omega))) (ok_sdet hs _ _)
theorem p_4 {m : qM} {s : ST} (hc : CP m s) (hm : MP m s) (hs : okS s) : Pair (fun m => fX9_prove NF 0 m) (fun m => fX10_prove NF 433 m) m :=
  pair_of hm (c_prove hc hs) (fun m2 hm2 => (Gz_m (m_prove hm2 hs) (fun b hb => by omega))) (ok_pv hs)
theorem p_5 {m : qM} {s : ST} (hc : CP m s) (hm : MP m s) (hs : okS s) (a0 : Int32) : Pair (fun m => fX9_cut NF 0 a0 m) (fun m => fX10_cut NF 433 a0 m) m :=
  pair_of hm (c_cut hc hs a0) (fun m2 hm2 => (Gz_m (m_cut hm2 hs a0) (fun b hb => by omega))) (ok_cut hs _)
theorem p_6 {m : qM} {s : ST} (hc : CP m s) (hm : MP m s) (hs : okS s) : Pair (fun m => fX9_listSize NF 0 m) (fun m => fX10_listSize NF 433 m) m :=
  pair_of hm (K_c (c_listSize hc) hc) (fun m2 hm2 => (Gz_m (K_m (m_listSize hm2) hm2) (fun b hb => by omega))) (hs)
theorem p_7 {m : qM} {s : ST} (hc : CP m s) (hm : MP m s) (hs : okS s) (a0 : Int32) : Pair (fun m => fX9_formulaSize NF 0 a0 m) (fun m => fX10_formulaSize NF 433 a0 m) m :=
  pair_of hm (K_c (c_fsize hc hs a0) hc) (fun m2 hm2 => (Gz_m (K_m (m_fsize hm2 hs a0) hm2) (fun b hb => by omega))) (hs)
theorem p_8 {m : qM} {s : ST} (hc : CP m s) (hm : MP m s) (hs : okS s) (a0 : Int32) : Pair (fun m => fX9_variableCount NF 0 a0 m) (fun m => fX10_variableCount NF 433 a0 m) m :=
  pair_of hm (K_c (c_vcount hc hs a0) hc) (fun m2 hm2 => (Gz_m (K_m (m_vcount hm2 hs a0) hm2) (fun b hb => by omega))) (hs)
theorem p_9 {m : qM} {s : ST} (hc : CP m s) (hm : MP m s) (hs : okS s) (a0 : Int32) : Pair (fun m => fX9_majorOf NF 0 a0 m) (fun m => fX10_majorOf NF 433 a0 m) m :=
  pair_of hm (K_c (c_majorOf hc hs a0) hc) (fun m2 hm2 => (Gz_m (K_m (m_majorOf hm2 hs a0) hm2) (fun b hb => by omega))) (hs)
theorem p_10 {m : qM} {s : ST} (hc : CP m s) (hm : MP m s) (hs : okS s) (a0 : Int32) : Pair (fun m => fX9_minorOf NF 0 a0 m) (fun m => fX10_minorOf NF 433 a0 m) m :=
  pair_of hm (K_c (c_minorOf hc hs a0) hc) (fun m2 hm2 => (Gz_m (K_m (m_minorOf hm2 hs a0) hm2) (fun b hb => by omega))) (hs)
theorem p_11 {m : qM} {s : ST} (hc : CP m s) (hm : MP m s) (hs : okS s) (a0 : Int32) : Pair (fun m => fX9_proofDepth NF 0 a0 m) (fun m => fX10_proofDepth NF 433 a0 m) m :=
  pair_of hm (K_c (c_depth hc hs a0) hc) (fun m2 hm2 => (m_depth hm2 hs a0)) (hs)
theorem p_12 {m : qM} {s : ST} (hc : CP m s) (hm : MP m s) (hs : okS s) (a0 : Int32) : Pair (fun m => fX9_proofSize NF 0 a0 m) (fun m => fX10_proofSize NF 433 a0 m) m :=
  pair_of hm (K_c (c_psize hc hs a0) hc) (fun m2 hm2 => (m_psize hm2 hs a0)) (hs)
theorem p_13 {m : qM} {s : ST} (hc : CP m s) (hm : MP m s) (hs : okS s) (a0 : Int32) : Pair (fun m => fX9_writeFormula NF 0 a0 m) (fun m => fX10_writeFormula NF 433 a0 m) m :=
  pair_of hm (c_writeFormula hc hs a0) (fun m2 hm2 => (Gz_m (m_writeFormula hm2 hs a0) (fun b hb => by omega))) (ok_wf hs _)
theorem p_14 {m : qM} {s : ST} (hc : CP m s) (hm : MP m s) (hs : okS s) (a0 : Int32) : Pair (fun m => fX9_writeProof NF 0 a0 m) (fun m => fX10_writeProof NF 433 a0 m) m :=
  pair_of hm (c_writeProof hc hs a0) (fun m2 hm2 => (m_writeProof hm2 hs a0)) (ok_wp hs _)
theorem p_15 {m : qM} {s : ST} (hc : CP m s) (hm : MP m s) (hs : okS s) : Pair (fun m => fX9_outputLength NF 0 m) (fun m => fX10_outputLength NF 433 m) m :=
  pair_of hm (K_c (c_outLen hc) hc) (fun m2 hm2 => (Gz_m (K_m (m_outLen hm2) hm2) (fun b hb => by omega))) (hs)
theorem p_16 {m : qM} {s : ST} (hc : CP m s) (hm : MP m s) (hs : okS s) (a0 : Int32) : Pair (fun m => fX9_outputAt NF 0 a0 m) (fun m => fX10_outputAt NF 433 a0 m) m :=
  pair_of hm (K_c (c_outAt hc a0) hc) (fun m2 hm2 => (Gz_m (K_m (m_outAt hm2 hs a0) hm2) (fun b hb => by omega))) (hs)
theorem p_17 {m : qM} {s : ST} (hc : CP m s) (hm : MP m s) (hs : okS s) (a0 a1 : Int32) : Pair (fun m => fX9_isInstance NF 0 a0 a1 m) (fun m => fX10_isInstance NF 433 a0 a1 m) m :=
  pair_of hm (c_isInst hc hs a0 a1) (fun m2 hm2 => (Gz_m (m_isInst hm2 hs a0 a1) (fun b hb => by omega))) (hs)
theorem p_18 {m : qM} {s : ST} (hc : CP m s) (hm : MP m s) (hs : okS s) (a0 : Int32) : Pair (fun m => fX9_moreGeneral NF 0 a0 m) (fun m => fX10_moreGeneral NF 433 a0 m) m :=
  pair_of hm (c_moreGen hc hs a0) (fun m2 hm2 => (Gz_m (m_moreGen hm2 hs a0) (fun b hb => by omega))) (hs)
theorem p_19 {m : qM} {s : ST} (hc : CP m s) (hm : MP m s) (hs : okS s) (a0 a1 : Int32) : Pair (fun m => fX9_unify NF 0 a0 a1 m) (fun m => fX10_unify NF 433 a0 a1 m) m :=
  pair_of hm (c_unify hc hs a0 a1) (fun m2 hm2 => (Gz_m (m_unify hm2 hs a0 a1) (fun b hb => by omega))) (ok_uni hs _ _)
theorem p_20 {m : qM} {s : ST} (hc : CP m s) (hm : MP m s) (hs : okS s) (a0 : Int32) : Pair (fun m => fX9_round NF 0 a0 m) (fun m => fX10_round NF 433 a0 m) m :=
  pair_of hm (c_round hc hs a0) (fun m2 hm2 => (Gz_m (m_round hm2 hs a0) (fun b hb => by omega))) (ok_rd hs _)
theorem p_21 {m : qM} {s : ST} (hc : CP m s) (hm : MP m s) (hs : okS s) (a0 a1 : Int32) : Pair (fun m => fX9_shortest NF 0 a0 a1 m) (fun m => fX10_shortest NF 433 a0 a1 m) m :=
  pair_of hm (c_shortest hc hs a0 a1) (fun m2 hm2 => (Gz_m (m_shortest hm2 hs a0 a1) (fun b hb => by omega))) (hs)
theorem p_22 {m : qM} {s : ST} (hc : CP m s) (hm : MP m s) (hs : okS s) (a0 a1 a2 : Int32) : Pair (fun m => fX9_setEntry NF 0 a0 a1 a2 m) (fun m => fX10_setEntry NF 433 a0 a1 a2 m) m :=
  pair_of hm (cp_setEntry hc hs a0 a1 a2) (fun m2 hm2 => (Gz_m (mp_setEntry hm2 a0 a1 a2) (fun b hb => by omega))) (hs)
theorem p_23 {m : qM} {s : ST} (hc : CP m s) (hm : MP m s) (hs : okS s) (a0 : Int32) : Pair (fun m => fX9_setDesignated NF 0 a0 m) (fun m => fX10_setDesignated NF 433 a0 m) m :=
  pair_of hm (cp_setDes hc hs a0) (fun m2 hm2 => (Gz_m (mp_setDes hm2 a0) (fun b hb => by omega))) (hs)
theorem p_24 {m : qM} {s : ST} (hc : CP m s) (hm : MP m s) (hs : okS s) : Pair (fun m => fX9_isNormal NF 0 m) (fun m => fX10_isNormal NF 433 m) m :=
  pair_of hm (cp_isNormal hc) (fun m2 hm2 => (Gz_m (mp_isNormal hm2) (fun b hb => by omega))) (hs)
theorem p_25 {m : qM} {s : ST} (hc : CP m s) (hm : MP m s) (hs : okS s) (a0 : Int32) : Pair (fun m => fX9_isValid NF 0 a0 m) (fun m => fX10_isValid NF 433 a0 m) m :=
  pair_of hm (c_isValid hc hs a0) (fun m2 hm2 => (Gz_m (m_isValid hm2 hs a0) (fun b hb => by omega))) (hs)
theorem p_26 {m : qM} {s : ST} (hc : CP m s) (hm : MP m s) (hs : okS s) (a0 a1 : Int32) : Pair (fun m => fX9_refutation NF 0 a0 a1 m) (fun m => fX10_refutation NF 433 a0 a1 m) m :=
  pair_of hm (c_refutation hc hs a0 a1) (fun m2 hm2 => (Gz_m (m_refutation hm2 hs a0 a1) (fun b hb => by omega))) (hs)
theorem p_27 {m : qM} {s : ST} (hc : CP m s) (hm : MP m s) (hs : okS s) (a0 a1 : Int32) : Pair (fun m => fX9_countValuations NF 0 a0 a1 m) (fun m => fX10_countValuations NF 433 a0 a1 m) m :=
  pair_of hm (c_count hc hs a0 a1) (fun m2 hm2 => (Gz_m (m_count hm2 hs a0 a1) (fun b hb => by omega))) (hs)
theorem p_28 {m : qM} {s : ST} (hc : CP m s) (hm : MP m s) (hs : okS s) : Pair (fun m => fX9_addType NF 0 m) (fun m => fX10_addType NF 433 m) m :=
  pair_of hm (c_addType hc hs) (fun m2 hm2 => (Gz_m (m_addType hm2 hs) (fun b hb => by omega))) (ok_ty hs)
def RedOk : Prop := ∀ (m : qM) (s : ST), CP m s → MP m s → okS s → ∀ (a0 : Int32), Pair (fun m => fX9_reduceTerm NF 0 a0 m) (fun m => fX10_reduceTerm NF 433 a0 m) m
theorem p_30 {m : qM} {s : ST} (hc : CP m s) (hm : MP m s) (hs : okS s) (a0 a1 a2 : Int32) : Pair (fun m => fX9_allocate NF 0 a0 a1 a2 m) (fun m => fX10_allocate NF 433 a0 a1 a2 m) m := by
  obtain ⟨b, s2, m1, m2, h1, h2, h3, h4, h5, h6⟩ := b_alloc hc hm hs a0 a1 a2
  exact ⟨b, m1, m2, h1, h6, h2, s2, h3, h4, h5⟩
theorem p_31 {m : qM} {s : ST} (hc : CP m s) (hm : MP m s) (hs : okS s) (a0 a1 a2 : Int32) : Pair (fun m => fX9_put NF 0 a0 a1 a2 m) (fun m => fX10_put NF 433 a0 a1 a2 m) m := by
  obtain ⟨b, s2, m1, m2, h1, h2, h3, h4, h5, h6⟩ := b_put hc hm hs a0 a1 a2
  exact ⟨b, m1, m2, h1, h6, h2, s2, h3, h4, h5⟩
theorem p_32 {m : qM} {s : ST} (hc : CP m s) (hm : MP m s) (hs : okS s) (a0 a1 : Int32) : Pair (fun m => fX9_rowElement NF 0 a0 a1 m) (fun m => fX10_rowElement NF 433 a0 a1 m) m :=
  pair_of hm (cp_rowEl hc a0 a1) (fun m2 hm2 => (Gz_m (mp_rowEl hm2 a0 a1) (fun b hb => by omega))) (hs)
theorem p_33 {m : qM} {s : ST} (hc : CP m s) (hm : MP m s) (hs : okS s) (a0 a1 a2 a3 a4 : Int32) : Pair (fun m => fX9_copyElements NF 0 a0 a1 a2 a3 a4 m) (fun m => fX10_copyElements NF 433 a0 a1 a2 a3 a4 m) m :=
  pair_of hm (c_cpEl hc hs a0 a1 a2 a3 a4) (fun m2 hm2 => (m_cpEl hm2 hs a0 a1 a2 a3 a4)) (ok_cp hs _ _ _ _ _)
theorem p_34 {m : qM} {s : ST} (hc : CP m s) (hm : MP m s) (hs : okS s) (a0 a1 : Int32) : Pair (fun m => fX9_storeOutput NF 0 a0 a1 m) (fun m => fX10_storeOutput NF 433 a0 a1 m) m :=
  pair_of hm (c_storeOut hc hs a0 a1) (fun m2 hm2 => (Gz_m (m_storeOut hm2 hs a0 a1) (fun b hb => by omega))) (ok_st hs _ _)
theorem p_35 {m : qM} {s : ST} (hc : CP m s) (hm : MP m s) (hs : okS s) (a0 a1 a2 : Int32) : Pair (fun m => fX9_loadText NF 0 a0 a1 a2 m) (fun m => fX10_loadText NF 433 a0 a1 a2 m) m :=
  pair_of hm (c_loadText hc hs a0 a1 a2) (fun m2 hm2 => (Gz_m (m_loadText hm2 hs a0 a1 a2) (fun b hb => by omega))) (ok_ld hs _ _ _)
theorem lg_self (a : Int64) : lg_cmp a a = 0 := by
  unfold lg_cmp
  simp
theorem law_step (hred : RedOk) {xs : Nat → Int32} {L b i g : Nat} {m : qM} (h : OkM m) (hi : i + 6 ≤ L) (hL : L ≤ 3072) : ∃ m2, OkM m2 ∧ lL_law_18 NF xs L b 0 433 (g + 1) (nI i) m = lL_law_18 NF xs L b 0 433 g (nI (i + 6)) m2 := by
  obtain ⟨s, hc, hm, hs⟩ := h
  have k0 : qK m 0 = 9 := hc.1.c0.1
  have hge : ¬ (Int32.ofNat L) - (6 : Int32) < nI i := by
    show ¬ nI L - nI 6 < nI i
    rw [pk_sub (by omega)]
    exact fun z => by have := (nI_ltI (by omega) (by omega)).mp z; omega
  have hq : ∀ j, j < 6 → qsx xs L (nI (i + j)) = some (xs (i + j)) := fun j hj => by
    unfold qsx
    rw [if_pos ⟨nI_pos (by omega), by rw [nI_clamp (by omega)]; omega⟩, nI_clamp (by omega)]
  have q0 : qsx xs L (nI i) = some (xs i) := hq 0 (by omega)
  have q1 : qsx xs L (nI i + (1 : Int32)) = some (xs (i + 1)) := by rw [show nI i + (1 : Int32) = nI (i + 1) from nI_add i 1]; exact hq 1 (by omega)
  have q2 : qsx xs L (nI i + (2 : Int32)) = some (xs (i + 2)) := by rw [show nI i + (2 : Int32) = nI (i + 2) from nI_add i 2]; exact hq 2 (by omega)
  have q3 : qsx xs L (nI i + (3 : Int32)) = some (xs (i + 3)) := by rw [show nI i + (3 : Int32) = nI (i + 3) from nI_add i 3]; exact hq 3 (by omega)
  have q4 : qsx xs L (nI i + (4 : Int32)) = some (xs (i + 4)) := by rw [show nI i + (4 : Int32) = nI (i + 4) from nI_add i 4]; exact hq 4 (by omega)
  have q5 : qsx xs L (nI i + (5 : Int32)) = some (xs (i + 5)) := by rw [show nI i + (5 : Int32) = nI (i + 5) from nI_add i 5]; exact hq 5 (by omega)
  have n6 : nI i + (6 : Int32) = nI (i + 6) := nI_add i 6
  by_cases e0 : xs i &&& (63 : Int32) = (0 : Int32)
  · obtain ⟨a, m2, m3, h1, h2, h3, h4⟩ := p_0 hc hm hs (xs (i + 1))
    refine ⟨m3, h4, ?_⟩
    conv => lhs; unfold lL_law_18
    refine EIn hge ?_
    refine EB q0 ?_
    refine EIp e0 ?_
    refine EB q1 ?_
    refine EC k0 h1 ?_
    refine EB q1 ?_
    refine EC h2 h3 ?_
    refine EIp rfl ?_
    rw [n6]
  by_cases e1 : xs i &&& (63 : Int32) = (1 : Int32)
  · obtain ⟨a, m2, m3, h1, h2, h3, h4⟩ := p_1 hc hm hs 
    refine ⟨m3, h4, ?_⟩
    conv => lhs; unfold lL_law_18
    refine EIn hge ?_
    refine EB q0 ?_
    refine EIn e0 ?_
    refine EIp e1 ?_
    refine EC k0 h1 ?_
    refine EC h2 h3 ?_
    refine EIp rfl ?_
    rw [n6]
  by_cases e2 : xs i &&& (63 : Int32) = (2 : Int32)
  · obtain ⟨a, m2, m3, h1, h2, h3, h4⟩ := p_2 hc hm hs 
    refine ⟨m3, h4, ?_⟩
    conv => lhs; unfold lL_law_18
    refine EIn hge ?_
    refine EB q0 ?_
    refine EIn e0 ?_
    refine EIn e1 ?_
    refine EIp e2 ?_
    refine EC k0 h1 ?_
    refine EC h2 h3 ?_
    refine EIp rfl ?_
    rw [n6]
  by_cases e3 : xs i &&& (63 : Int32) = (3 : Int32)
  · obtain ⟨a, m2, m3, h1, h2, h3, h4⟩ := p_3 hc hm hs (xs (i + 1)) (xs (i + 2))
    refine ⟨m3, h4, ?_⟩
    conv => lhs; unfold lL_law_18
    refine EIn hge ?_
    refine EB q0 ?_
    refine EIn e0 ?_
    refine EIn e1 ?_
    refine EIn e2 ?_
    refine EIp e3 ?_
    refine EB q1 ?_
    refine EB q2 ?_
    refine EC k0 h1 ?_
    refine EB q1 ?_
    refine EB q2 ?_
    refine EC h2 h3 ?_
    refine EIp rfl ?_
    rw [n6]
  by_cases e4 : xs i &&& (63 : Int32) = (4 : Int32)
  · obtain ⟨a, m2, m3, h1, h2, h3, h4⟩ := p_4 hc hm hs 
    refine ⟨m3, h4, ?_⟩
    conv => lhs; unfold lL_law_18
    refine EIn hge ?_
    refine EB q0 ?_
    refine EIn e0 ?_
    refine EIn e1 ?_
    refine EIn e2 ?_
    refine EIn e3 ?_
    refine EIp e4 ?_
    refine EC k0 h1 ?_
    refine EC h2 h3 ?_
    refine EIp rfl ?_
    rw [n6]
  by_cases e5 : xs i &&& (63 : Int32) = (5 : Int32)
  · obtain ⟨a, m2, m3, h1, h2, h3, h4⟩ := p_5 hc hm hs (xs (i + 1))
    refine ⟨m3, h4, ?_⟩
    conv => lhs; unfold lL_law_18
    refine EIn hge ?_
    refine EB q0 ?_
    refine EIn e0 ?_
    refine EIn e1 ?_
    refine EIn e2 ?_
    refine EIn e3 ?_
    refine EIn e4 ?_
    refine EIp e5 ?_
    refine EB q1 ?_
    refine EC k0 h1 ?_
    refine EB q1 ?_
    refine EC h2 h3 ?_
    refine EIp rfl ?_
    rw [n6]
  by_cases e6 : xs i &&& (63 : Int32) = (6 : Int32)
  · obtain ⟨a, m2, m3, h1, h2, h3, h4⟩ := p_6 hc hm hs 
    refine ⟨m3, h4, ?_⟩
    conv => lhs; unfold lL_law_18
    refine EIn hge ?_
    refine EB q0 ?_
    refine EIn e0 ?_
    refine EIn e1 ?_
    refine EIn e2 ?_
    refine EIn e3 ?_
    refine EIn e4 ?_
    refine EIn e5 ?_
    refine EIp e6 ?_
    refine EC k0 h1 ?_
    refine EC h2 h3 ?_
    refine EIp rfl ?_
    rw [n6]
  by_cases e7 : xs i &&& (63 : Int32) = (7 : Int32)
  · obtain ⟨a, m2, m3, h1, h2, h3, h4⟩ := p_7 hc hm hs (xs (i + 1))
    refine ⟨m3, h4, ?_⟩
    conv => lhs; unfold lL_law_18
    refine EIn hge ?_
    refine EB q0 ?_
    refine EIn e0 ?_
    refine EIn e1 ?_
    refine EIn e2 ?_
    refine EIn e3 ?_
    refine EIn e4 ?_
    refine EIn e5 ?_
    refine EIn e6 ?_
    refine EIp e7 ?_
    refine EB q1 ?_
    refine EC k0 h1 ?_
    refine EB q1 ?_
    refine EC h2 h3 ?_
    refine EIp rfl ?_
    rw [n6]
  by_cases e8 : xs i &&& (63 : Int32) = (8 : Int32)
  · obtain ⟨a, m2, m3, h1, h2, h3, h4⟩ := p_8 hc hm hs (xs (i + 1))
    refine ⟨m3, h4, ?_⟩
    conv => lhs; unfold lL_law_18
    refine EIn hge ?_
    refine EB q0 ?_
    refine EIn e0 ?_
    refine EIn e1 ?_
    refine EIn e2 ?_
    refine EIn e3 ?_
    refine EIn e4 ?_
    refine EIn e5 ?_
    refine EIn e6 ?_
    refine EIn e7 ?_
    refine EIp e8 ?_
    refine EB q1 ?_
    refine EC k0 h1 ?_
    refine EB q1 ?_
    refine EC h2 h3 ?_
    refine EIp rfl ?_
    rw [n6]
  by_cases e9 : xs i &&& (63 : Int32) = (9 : Int32)
  · obtain ⟨a, m2, m3, h1, h2, h3, h4⟩ := p_9 hc hm hs (xs (i + 1))
    refine ⟨m3, h4, ?_⟩
    conv => lhs; unfold lL_law_18
    refine EIn hge ?_
    refine EB q0 ?_
    refine EIn e0 ?_
    refine EIn e1 ?_
    refine EIn e2 ?_
    refine EIn e3 ?_
    refine EIn e4 ?_
    refine EIn e5 ?_
    refine EIn e6 ?_
    refine EIn e7 ?_
    refine EIn e8 ?_
    refine EIp e9 ?_
    refine EB q1 ?_
    refine EC k0 h1 ?_
    refine EB q1 ?_
    refine EC h2 h3 ?_
    refine EIp rfl ?_
    rw [n6]
  by_cases e10 : xs i &&& (63 : Int32) = (10 : Int32)
  · obtain ⟨a, m2, m3, h1, h2, h3, h4⟩ := p_10 hc hm hs (xs (i + 1))
    refine ⟨m3, h4, ?_⟩
    conv => lhs; unfold lL_law_18
    refine EIn hge ?_
    refine EB q0 ?_
    refine EIn e0 ?_
    refine EIn e1 ?_
    refine EIn e2 ?_
    refine EIn e3 ?_
    refine EIn e4 ?_
    refine EIn e5 ?_
    refine EIn e6 ?_
    refine EIn e7 ?_
    refine EIn e8 ?_
    refine EIn e9 ?_
    refine EIp e10 ?_
    refine EB q1 ?_
    refine EC k0 h1 ?_
    refine EB q1 ?_
    refine EC h2 h3 ?_
    refine EIp rfl ?_
    rw [n6]
  by_cases e11 : xs i &&& (63 : Int32) = (11 : Int32)
  · obtain ⟨a, m2, m3, h1, h2, h3, h4⟩ := p_11 hc hm hs (xs (i + 1))
    refine ⟨m3, h4, ?_⟩
    conv => lhs; unfold lL_law_18
    refine EIn hge ?_
    refine EB q0 ?_
    refine EIn e0 ?_
    refine EIn e1 ?_
    refine EIn e2 ?_
    refine EIn e3 ?_
    refine EIn e4 ?_
    refine EIn e5 ?_
    refine EIn e6 ?_
    refine EIn e7 ?_
    refine EIn e8 ?_
    refine EIn e9 ?_
    refine EIn e10 ?_
    refine EIp e11 ?_
    refine EB q1 ?_
    refine EC k0 h1 ?_
    refine EB q1 ?_
    refine EC h2 h3 ?_
    refine EIp rfl ?_
    rw [n6]
  by_cases e12 : xs i &&& (63 : Int32) = (12 : Int32)
  · obtain ⟨a, m2, m3, h1, h2, h3, h4⟩ := p_12 hc hm hs (xs (i + 1))
    refine ⟨m3, h4, ?_⟩
    conv => lhs; unfold lL_law_18
    refine EIn hge ?_
    refine EB q0 ?_
    refine EIn e0 ?_
    refine EIn e1 ?_
    refine EIn e2 ?_
    refine EIn e3 ?_
    refine EIn e4 ?_
    refine EIn e5 ?_
    refine EIn e6 ?_
    refine EIn e7 ?_
    refine EIn e8 ?_
    refine EIn e9 ?_
    refine EIn e10 ?_
    refine EIn e11 ?_
    refine EIp e12 ?_
    refine EB q1 ?_
    refine EC k0 h1 ?_
    refine EB q1 ?_
    refine EC h2 h3 ?_
    refine EIp (lg_self _) ?_
    rw [n6]
  by_cases e13 : xs i &&& (63 : Int32) = (13 : Int32)
  · obtain ⟨a, m2, m3, h1, h2, h3, h4⟩ := p_13 hc hm hs (xs (i + 1))
    refine ⟨m3, h4, ?_⟩
    conv => lhs; unfold lL_law_18
    refine EIn hge ?_
    refine EB q0 ?_
    refine EIn e0 ?_
    refine EIn e1 ?_
    refine EIn e2 ?_
    refine EIn e3 ?_
    refine EIn e4 ?_
    refine EIn e5 ?_
    refine EIn e6 ?_
    refine EIn e7 ?_
    refine EIn e8 ?_
    refine EIn e9 ?_
    refine EIn e10 ?_
    refine EIn e11 ?_
    refine EIn e12 ?_
    refine EIp e13 ?_
    refine EB q1 ?_
    refine EC k0 h1 ?_
    refine EB q1 ?_
    refine EC h2 h3 ?_
    refine EIp rfl ?_
    rw [n6]
  by_cases e14 : xs i &&& (63 : Int32) = (14 : Int32)
  · obtain ⟨a, m2, m3, h1, h2, h3, h4⟩ := p_14 hc hm hs (xs (i + 1))
    refine ⟨m3, h4, ?_⟩
    conv => lhs; unfold lL_law_18
    refine EIn hge ?_
    refine EB q0 ?_
    refine EIn e0 ?_
    refine EIn e1 ?_
    refine EIn e2 ?_
    refine EIn e3 ?_
    refine EIn e4 ?_
    refine EIn e5 ?_
    refine EIn e6 ?_
    refine EIn e7 ?_
    refine EIn e8 ?_
    refine EIn e9 ?_
    refine EIn e10 ?_
    refine EIn e11 ?_
    refine EIn e12 ?_
    refine EIn e13 ?_
    refine EIp e14 ?_
    refine EB q1 ?_
    refine EC k0 h1 ?_
    refine EB q1 ?_
    refine EC h2 h3 ?_
    refine EIp rfl ?_
    rw [n6]
  by_cases e15 : xs i &&& (63 : Int32) = (15 : Int32)
  · obtain ⟨a, m2, m3, h1, h2, h3, h4⟩ := p_15 hc hm hs 
    refine ⟨m3, h4, ?_⟩
    conv => lhs; unfold lL_law_18
    refine EIn hge ?_
    refine EB q0 ?_
    refine EIn e0 ?_
    refine EIn e1 ?_
    refine EIn e2 ?_
    refine EIn e3 ?_
    refine EIn e4 ?_
    refine EIn e5 ?_
    refine EIn e6 ?_
    refine EIn e7 ?_
    refine EIn e8 ?_
    refine EIn e9 ?_
    refine EIn e10 ?_
    refine EIn e11 ?_
    refine EIn e12 ?_
    refine EIn e13 ?_
    refine EIn e14 ?_
    refine EIp e15 ?_
    refine EC k0 h1 ?_
    refine EC h2 h3 ?_
    refine EIp rfl ?_
    rw [n6]
  by_cases e16 : xs i &&& (63 : Int32) = (16 : Int32)
  · obtain ⟨a, m2, m3, h1, h2, h3, h4⟩ := p_16 hc hm hs (xs (i + 1))
    refine ⟨m3, h4, ?_⟩
    conv => lhs; unfold lL_law_18
    refine EIn hge ?_
    refine EB q0 ?_
    refine EIn e0 ?_
    refine EIn e1 ?_
    refine EIn e2 ?_
    refine EIn e3 ?_
    refine EIn e4 ?_
    refine EIn e5 ?_
    refine EIn e6 ?_
    refine EIn e7 ?_
    refine EIn e8 ?_
    refine EIn e9 ?_
    refine EIn e10 ?_
    refine EIn e11 ?_
    refine EIn e12 ?_
    refine EIn e13 ?_
    refine EIn e14 ?_
    refine EIn e15 ?_
    refine EIp e16 ?_
    refine EB q1 ?_
    refine EC k0 h1 ?_
    refine EB q1 ?_
    refine EC h2 h3 ?_
    refine EIp rfl ?_
    rw [n6]
  by_cases e17 : xs i &&& (63 : Int32) = (17 : Int32)
  · obtain ⟨a, m2, m3, h1, h2, h3, h4⟩ := p_17 hc hm hs (xs (i + 1)) (xs (i + 2))
    refine ⟨m3, h4, ?_⟩
    conv => lhs; unfold lL_law_18
    refine EIn hge ?_
    refine EB q0 ?_
    refine EIn e0 ?_
    refine EIn e1 ?_
    refine EIn e2 ?_
    refine EIn e3 ?_
    refine EIn e4 ?_
    refine EIn e5 ?_
    refine EIn e6 ?_
    refine EIn e7 ?_
    refine EIn e8 ?_
    refine EIn e9 ?_
    refine EIn e10 ?_
    refine EIn e11 ?_
    refine EIn e12 ?_
    refine EIn e13 ?_
    refine EIn e14 ?_
    refine EIn e15 ?_
    refine EIn e16 ?_
    refine EIp e17 ?_
    refine EB q1 ?_
    refine EB q2 ?_
    refine EC k0 h1 ?_
    refine EB q1 ?_
    refine EB q2 ?_
    refine EC h2 h3 ?_
    refine EIp rfl ?_
    rw [n6]
  by_cases e18 : xs i &&& (63 : Int32) = (18 : Int32)
  · obtain ⟨a, m2, m3, h1, h2, h3, h4⟩ := p_18 hc hm hs (xs (i + 1))
    refine ⟨m3, h4, ?_⟩
    conv => lhs; unfold lL_law_18
    refine EIn hge ?_
    refine EB q0 ?_
    refine EIn e0 ?_
    refine EIn e1 ?_
    refine EIn e2 ?_
    refine EIn e3 ?_
    refine EIn e4 ?_
    refine EIn e5 ?_
    refine EIn e6 ?_
    refine EIn e7 ?_
    refine EIn e8 ?_
    refine EIn e9 ?_
    refine EIn e10 ?_
    refine EIn e11 ?_
    refine EIn e12 ?_
    refine EIn e13 ?_
    refine EIn e14 ?_
    refine EIn e15 ?_
    refine EIn e16 ?_
    refine EIn e17 ?_
    refine EIp e18 ?_
    refine EB q1 ?_
    refine EC k0 h1 ?_
    refine EB q1 ?_
    refine EC h2 h3 ?_
    refine EIp rfl ?_
    rw [n6]
  by_cases e19 : xs i &&& (63 : Int32) = (19 : Int32)
  · obtain ⟨a, m2, m3, h1, h2, h3, h4⟩ := p_19 hc hm hs (xs (i + 1)) (xs (i + 2))
    refine ⟨m3, h4, ?_⟩
    conv => lhs; unfold lL_law_18
    refine EIn hge ?_
    refine EB q0 ?_
    refine EIn e0 ?_
    refine EIn e1 ?_
    refine EIn e2 ?_
    refine EIn e3 ?_
    refine EIn e4 ?_
    refine EIn e5 ?_
    refine EIn e6 ?_
    refine EIn e7 ?_
    refine EIn e8 ?_
    refine EIn e9 ?_
    refine EIn e10 ?_
    refine EIn e11 ?_
    refine EIn e12 ?_
    refine EIn e13 ?_
    refine EIn e14 ?_
    refine EIn e15 ?_
    refine EIn e16 ?_
    refine EIn e17 ?_
    refine EIn e18 ?_
    refine EIp e19 ?_
    refine EB q1 ?_
    refine EB q2 ?_
    refine EC k0 h1 ?_
    refine EB q1 ?_
    refine EB q2 ?_
    refine EC h2 h3 ?_
    refine EIp rfl ?_
    rw [n6]
  by_cases e20 : xs i &&& (63 : Int32) = (20 : Int32)
  · obtain ⟨a, m2, m3, h1, h2, h3, h4⟩ := p_20 hc hm hs (xs (i + 1))
    refine ⟨m3, h4, ?_⟩
    conv => lhs; unfold lL_law_18
    refine EIn hge ?_
    refine EB q0 ?_
    refine EIn e0 ?_
    refine EIn e1 ?_
    refine EIn e2 ?_
    refine EIn e3 ?_
    refine EIn e4 ?_
    refine EIn e5 ?_
    refine EIn e6 ?_
    refine EIn e7 ?_
    refine EIn e8 ?_
    refine EIn e9 ?_
    refine EIn e10 ?_
    refine EIn e11 ?_
    refine EIn e12 ?_
    refine EIn e13 ?_
    refine EIn e14 ?_
    refine EIn e15 ?_
    refine EIn e16 ?_
    refine EIn e17 ?_
    refine EIn e18 ?_
    refine EIn e19 ?_
    refine EIp e20 ?_
    refine EB q1 ?_
    refine EC k0 h1 ?_
    refine EB q1 ?_
    refine EC h2 h3 ?_
    refine EIp rfl ?_
    rw [n6]
  by_cases e21 : xs i &&& (63 : Int32) = (21 : Int32)
  · obtain ⟨a, m2, m3, h1, h2, h3, h4⟩ := p_21 hc hm hs (xs (i + 1)) (xs (i + 2))
    refine ⟨m3, h4, ?_⟩
    conv => lhs; unfold lL_law_18
    refine EIn hge ?_
    refine EB q0 ?_
    refine EIn e0 ?_
    refine EIn e1 ?_
    refine EIn e2 ?_
    refine EIn e3 ?_
    refine EIn e4 ?_
    refine EIn e5 ?_
    refine EIn e6 ?_
    refine EIn e7 ?_
    refine EIn e8 ?_
    refine EIn e9 ?_
    refine EIn e10 ?_
    refine EIn e11 ?_
    refine EIn e12 ?_
    refine EIn e13 ?_
    refine EIn e14 ?_
    refine EIn e15 ?_
    refine EIn e16 ?_
    refine EIn e17 ?_
    refine EIn e18 ?_
    refine EIn e19 ?_
    refine EIn e20 ?_
    refine EIp e21 ?_
    refine EB q1 ?_
    refine EB q2 ?_
    refine EC k0 h1 ?_
    refine EB q1 ?_
    refine EB q2 ?_
    refine EC h2 h3 ?_
    refine EIp rfl ?_
    rw [n6]
  by_cases e22 : xs i &&& (63 : Int32) = (22 : Int32)
  · obtain ⟨a, m2, m3, h1, h2, h3, h4⟩ := p_22 hc hm hs (xs (i + 1)) (xs (i + 2)) (xs (i + 3))
    refine ⟨m3, h4, ?_⟩
    conv => lhs; unfold lL_law_18
    refine EIn hge ?_
    refine EB q0 ?_
    refine EIn e0 ?_
    refine EIn e1 ?_
    refine EIn e2 ?_
    refine EIn e3 ?_
    refine EIn e4 ?_
    refine EIn e5 ?_
    refine EIn e6 ?_
    refine EIn e7 ?_
    refine EIn e8 ?_
    refine EIn e9 ?_
    refine EIn e10 ?_
    refine EIn e11 ?_
    refine EIn e12 ?_
    refine EIn e13 ?_
    refine EIn e14 ?_
    refine EIn e15 ?_
    refine EIn e16 ?_
    refine EIn e17 ?_
    refine EIn e18 ?_
    refine EIn e19 ?_
    refine EIn e20 ?_
    refine EIn e21 ?_
    refine EIp e22 ?_
    refine EB q1 ?_
    refine EB q2 ?_
    refine EB q3 ?_
    refine EC k0 h1 ?_
    refine EB q1 ?_
    refine EB q2 ?_
    refine EB q3 ?_
    refine EC h2 h3 ?_
    refine EIp rfl ?_
    rw [n6]
  by_cases e23 : xs i &&& (63 : Int32) = (23 : Int32)
  · obtain ⟨a, m2, m3, h1, h2, h3, h4⟩ := p_23 hc hm hs (xs (i + 1))
    refine ⟨m3, h4, ?_⟩
    conv => lhs; unfold lL_law_18
    refine EIn hge ?_
    refine EB q0 ?_
    refine EIn e0 ?_
    refine EIn e1 ?_
    refine EIn e2 ?_
    refine EIn e3 ?_
    refine EIn e4 ?_
    refine EIn e5 ?_
    refine EIn e6 ?_
    refine EIn e7 ?_
    refine EIn e8 ?_
    refine EIn e9 ?_
    refine EIn e10 ?_
    refine EIn e11 ?_
    refine EIn e12 ?_
    refine EIn e13 ?_
    refine EIn e14 ?_
    refine EIn e15 ?_
    refine EIn e16 ?_
    refine EIn e17 ?_
    refine EIn e18 ?_
    refine EIn e19 ?_
    refine EIn e20 ?_
    refine EIn e21 ?_
    refine EIn e22 ?_
    refine EIp e23 ?_
    refine EB q1 ?_
    refine EC k0 h1 ?_
    refine EB q1 ?_
    refine EC h2 h3 ?_
    refine EIp rfl ?_
    rw [n6]
  by_cases e24 : xs i &&& (63 : Int32) = (24 : Int32)
  · obtain ⟨a, m2, m3, h1, h2, h3, h4⟩ := p_24 hc hm hs 
    refine ⟨m3, h4, ?_⟩
    conv => lhs; unfold lL_law_18
    refine EIn hge ?_
    refine EB q0 ?_
    refine EIn e0 ?_
    refine EIn e1 ?_
    refine EIn e2 ?_
    refine EIn e3 ?_
    refine EIn e4 ?_
    refine EIn e5 ?_
    refine EIn e6 ?_
    refine EIn e7 ?_
    refine EIn e8 ?_
    refine EIn e9 ?_
    refine EIn e10 ?_
    refine EIn e11 ?_
    refine EIn e12 ?_
    refine EIn e13 ?_
    refine EIn e14 ?_
    refine EIn e15 ?_
    refine EIn e16 ?_
    refine EIn e17 ?_
    refine EIn e18 ?_
    refine EIn e19 ?_
    refine EIn e20 ?_
    refine EIn e21 ?_
    refine EIn e22 ?_
    refine EIn e23 ?_
    refine EIp e24 ?_
    refine EC k0 h1 ?_
    refine EC h2 h3 ?_
    refine EIp rfl ?_
    rw [n6]
  by_cases e25 : xs i &&& (63 : Int32) = (25 : Int32)
  · obtain ⟨a, m2, m3, h1, h2, h3, h4⟩ := p_25 hc hm hs (xs (i + 1))
    refine ⟨m3, h4, ?_⟩
    conv => lhs; unfold lL_law_18
    refine EIn hge ?_
    refine EB q0 ?_
    refine EIn e0 ?_
    refine EIn e1 ?_
    refine EIn e2 ?_
    refine EIn e3 ?_
    refine EIn e4 ?_
    refine EIn e5 ?_
    refine EIn e6 ?_
    refine EIn e7 ?_
    refine EIn e8 ?_
    refine EIn e9 ?_
    refine EIn e10 ?_
    refine EIn e11 ?_
    refine EIn e12 ?_
    refine EIn e13 ?_
    refine EIn e14 ?_
    refine EIn e15 ?_
    refine EIn e16 ?_
    refine EIn e17 ?_
    refine EIn e18 ?_
    refine EIn e19 ?_
    refine EIn e20 ?_
    refine EIn e21 ?_
    refine EIn e22 ?_
    refine EIn e23 ?_
    refine EIn e24 ?_
    refine EIp e25 ?_
    refine EB q1 ?_
    refine EC k0 h1 ?_
    refine EB q1 ?_
    refine EC h2 h3 ?_
    refine EIp rfl ?_
    rw [n6]
  by_cases e26 : xs i &&& (63 : Int32) = (26 : Int32)
  · obtain ⟨a, m2, m3, h1, h2, h3, h4⟩ := p_26 hc hm hs (xs (i + 1)) (xs (i + 2))
    refine ⟨m3, h4, ?_⟩
    conv => lhs; unfold lL_law_18
    refine EIn hge ?_
    refine EB q0 ?_
    refine EIn e0 ?_
    refine EIn e1 ?_
    refine EIn e2 ?_
    refine EIn e3 ?_
    refine EIn e4 ?_
    refine EIn e5 ?_
    refine EIn e6 ?_
    refine EIn e7 ?_
    refine EIn e8 ?_
    refine EIn e9 ?_
    refine EIn e10 ?_
    refine EIn e11 ?_
    refine EIn e12 ?_
    refine EIn e13 ?_
    refine EIn e14 ?_
    refine EIn e15 ?_
    refine EIn e16 ?_
    refine EIn e17 ?_
    refine EIn e18 ?_
    refine EIn e19 ?_
    refine EIn e20 ?_
    refine EIn e21 ?_
    refine EIn e22 ?_
    refine EIn e23 ?_
    refine EIn e24 ?_
    refine EIn e25 ?_
    refine EIp e26 ?_
    refine EB q1 ?_
    refine EB q2 ?_
    refine EC k0 h1 ?_
    refine EB q1 ?_
    refine EB q2 ?_
    refine EC h2 h3 ?_
    refine EIp rfl ?_
    rw [n6]
  by_cases e27 : xs i &&& (63 : Int32) = (27 : Int32)
  · obtain ⟨a, m2, m3, h1, h2, h3, h4⟩ := p_27 hc hm hs (xs (i + 1)) (xs (i + 2))
    refine ⟨m3, h4, ?_⟩
    conv => lhs; unfold lL_law_18
    refine EIn hge ?_
    refine EB q0 ?_
    refine EIn e0 ?_
    refine EIn e1 ?_
    refine EIn e2 ?_
    refine EIn e3 ?_
    refine EIn e4 ?_
    refine EIn e5 ?_
    refine EIn e6 ?_
    refine EIn e7 ?_
    refine EIn e8 ?_
    refine EIn e9 ?_
    refine EIn e10 ?_
    refine EIn e11 ?_
    refine EIn e12 ?_
    refine EIn e13 ?_
    refine EIn e14 ?_
    refine EIn e15 ?_
    refine EIn e16 ?_
    refine EIn e17 ?_
    refine EIn e18 ?_
    refine EIn e19 ?_
    refine EIn e20 ?_
    refine EIn e21 ?_
    refine EIn e22 ?_
    refine EIn e23 ?_
    refine EIn e24 ?_
    refine EIn e25 ?_
    refine EIn e26 ?_
    refine EIp e27 ?_
    refine EB q1 ?_
    refine EB q2 ?_
    refine EC k0 h1 ?_
    refine EB q1 ?_
    refine EB q2 ?_
    refine EC h2 h3 ?_
    refine EIp rfl ?_
    rw [n6]
  by_cases e28 : xs i &&& (63 : Int32) = (28 : Int32)
  · obtain ⟨a, m2, m3, h1, h2, h3, h4⟩ := p_28 hc hm hs 
    refine ⟨m3, h4, ?_⟩
    conv => lhs; unfold lL_law_18
    refine EIn hge ?_
    refine EB q0 ?_
    refine EIn e0 ?_
    refine EIn e1 ?_
    refine EIn e2 ?_
    refine EIn e3 ?_
    refine EIn e4 ?_
    refine EIn e5 ?_
    refine EIn e6 ?_
    refine EIn e7 ?_
    refine EIn e8 ?_
    refine EIn e9 ?_
    refine EIn e10 ?_
    refine EIn e11 ?_
    refine EIn e12 ?_
    refine EIn e13 ?_
    refine EIn e14 ?_
    refine EIn e15 ?_
    refine EIn e16 ?_
    refine EIn e17 ?_
    refine EIn e18 ?_
    refine EIn e19 ?_
    refine EIn e20 ?_
    refine EIn e21 ?_
    refine EIn e22 ?_
    refine EIn e23 ?_
    refine EIn e24 ?_
    refine EIn e25 ?_
    refine EIn e26 ?_
    refine EIn e27 ?_
    refine EIp e28 ?_
    refine EC k0 h1 ?_
    refine EC h2 h3 ?_
    refine EIp rfl ?_
    rw [n6]
  by_cases e29 : xs i &&& (63 : Int32) = (29 : Int32)
  · obtain ⟨a, m2, m3, h1, h2, h3, h4⟩ := hred m s hc hm hs (xs (i + 1))
    refine ⟨m3, h4, ?_⟩
    conv => lhs; unfold lL_law_18
    refine EIn hge ?_
    refine EB q0 ?_
    refine EIn e0 ?_
    refine EIn e1 ?_
    refine EIn e2 ?_
    refine EIn e3 ?_
    refine EIn e4 ?_
    refine EIn e5 ?_
    refine EIn e6 ?_
    refine EIn e7 ?_
    refine EIn e8 ?_
    refine EIn e9 ?_
    refine EIn e10 ?_
    refine EIn e11 ?_
    refine EIn e12 ?_
    refine EIn e13 ?_
    refine EIn e14 ?_
    refine EIn e15 ?_
    refine EIn e16 ?_
    refine EIn e17 ?_
    refine EIn e18 ?_
    refine EIn e19 ?_
    refine EIn e20 ?_
    refine EIn e21 ?_
    refine EIn e22 ?_
    refine EIn e23 ?_
    refine EIn e24 ?_
    refine EIn e25 ?_
    refine EIn e26 ?_
    refine EIn e27 ?_
    refine EIn e28 ?_
    refine EIp e29 ?_
    refine EB q1 ?_
    refine EC k0 h1 ?_
    refine EB q1 ?_
    refine EC h2 h3 ?_
    refine EIp rfl ?_
    rw [n6]
  by_cases e30 : xs i &&& (63 : Int32) = (30 : Int32)
  · obtain ⟨a, m2, m3, h1, h2, h3, h4⟩ := p_30 hc hm hs (xs (i + 1)) (xs (i + 2)) (xs (i + 3))
    refine ⟨m3, h4, ?_⟩
    conv => lhs; unfold lL_law_18
    refine EIn hge ?_
    refine EB q0 ?_
    refine EIn e0 ?_
    refine EIn e1 ?_
    refine EIn e2 ?_
    refine EIn e3 ?_
    refine EIn e4 ?_
    refine EIn e5 ?_
    refine EIn e6 ?_
    refine EIn e7 ?_
    refine EIn e8 ?_
    refine EIn e9 ?_
    refine EIn e10 ?_
    refine EIn e11 ?_
    refine EIn e12 ?_
    refine EIn e13 ?_
    refine EIn e14 ?_
    refine EIn e15 ?_
    refine EIn e16 ?_
    refine EIn e17 ?_
    refine EIn e18 ?_
    refine EIn e19 ?_
    refine EIn e20 ?_
    refine EIn e21 ?_
    refine EIn e22 ?_
    refine EIn e23 ?_
    refine EIn e24 ?_
    refine EIn e25 ?_
    refine EIn e26 ?_
    refine EIn e27 ?_
    refine EIn e28 ?_
    refine EIn e29 ?_
    refine EIp e30 ?_
    refine EB q1 ?_
    refine EB q2 ?_
    refine EB q3 ?_
    refine EC k0 h1 ?_
    refine EB q1 ?_
    refine EB q2 ?_
    refine EB q3 ?_
    refine EC h2 h3 ?_
    refine EIp rfl ?_
    rw [n6]
  by_cases e31 : xs i &&& (63 : Int32) = (31 : Int32)
  · obtain ⟨a, m2, m3, h1, h2, h3, h4⟩ := p_31 hc hm hs (xs (i + 1)) (xs (i + 2)) (xs (i + 3))
    refine ⟨m3, h4, ?_⟩
    conv => lhs; unfold lL_law_18
    refine EIn hge ?_
    refine EB q0 ?_
    refine EIn e0 ?_
    refine EIn e1 ?_
    refine EIn e2 ?_
    refine EIn e3 ?_
    refine EIn e4 ?_
    refine EIn e5 ?_
    refine EIn e6 ?_
    refine EIn e7 ?_
    refine EIn e8 ?_
    refine EIn e9 ?_
    refine EIn e10 ?_
    refine EIn e11 ?_
    refine EIn e12 ?_
    refine EIn e13 ?_
    refine EIn e14 ?_
    refine EIn e15 ?_
    refine EIn e16 ?_
    refine EIn e17 ?_
    refine EIn e18 ?_
    refine EIn e19 ?_
    refine EIn e20 ?_
    refine EIn e21 ?_
    refine EIn e22 ?_
    refine EIn e23 ?_
    refine EIn e24 ?_
    refine EIn e25 ?_
    refine EIn e26 ?_
    refine EIn e27 ?_
    refine EIn e28 ?_
    refine EIn e29 ?_
    refine EIn e30 ?_
    refine EIp e31 ?_
    refine EB q1 ?_
    refine EB q2 ?_
    refine EB q3 ?_
    refine EC k0 h1 ?_
    refine EB q1 ?_
    refine EB q2 ?_
    refine EB q3 ?_
    refine EC h2 h3 ?_
    refine EIp rfl ?_
    rw [n6]
  by_cases e32 : xs i &&& (63 : Int32) = (32 : Int32)
  · obtain ⟨a, m2, m3, h1, h2, h3, h4⟩ := p_32 hc hm hs (xs (i + 1)) (xs (i + 2))
    refine ⟨m3, h4, ?_⟩
    conv => lhs; unfold lL_law_18
    refine EIn hge ?_
    refine EB q0 ?_
    refine EIn e0 ?_
    refine EIn e1 ?_
    refine EIn e2 ?_
    refine EIn e3 ?_
    refine EIn e4 ?_
    refine EIn e5 ?_
    refine EIn e6 ?_
    refine EIn e7 ?_
    refine EIn e8 ?_
    refine EIn e9 ?_
    refine EIn e10 ?_
    refine EIn e11 ?_
    refine EIn e12 ?_
    refine EIn e13 ?_
    refine EIn e14 ?_
    refine EIn e15 ?_
    refine EIn e16 ?_
    refine EIn e17 ?_
    refine EIn e18 ?_
    refine EIn e19 ?_
    refine EIn e20 ?_
    refine EIn e21 ?_
    refine EIn e22 ?_
    refine EIn e23 ?_
    refine EIn e24 ?_
    refine EIn e25 ?_
    refine EIn e26 ?_
    refine EIn e27 ?_
    refine EIn e28 ?_
    refine EIn e29 ?_
    refine EIn e30 ?_
    refine EIn e31 ?_
    refine EIp e32 ?_
    refine EB q1 ?_
    refine EB q2 ?_
    refine EC k0 h1 ?_
    refine EB q1 ?_
    refine EB q2 ?_
    refine EC h2 h3 ?_
    refine EIp (lg_self _) ?_
    rw [n6]
  by_cases e33 : xs i &&& (63 : Int32) = (33 : Int32)
  · obtain ⟨a, m2, m3, h1, h2, h3, h4⟩ := p_33 hc hm hs (xs (i + 1)) (xs (i + 2)) (xs (i + 3)) (xs (i + 4)) (xs (i + 5))
    refine ⟨m3, h4, ?_⟩
    conv => lhs; unfold lL_law_18
    refine EIn hge ?_
    refine EB q0 ?_
    refine EIn e0 ?_
    refine EIn e1 ?_
    refine EIn e2 ?_
    refine EIn e3 ?_
    refine EIn e4 ?_
    refine EIn e5 ?_
    refine EIn e6 ?_
    refine EIn e7 ?_
    refine EIn e8 ?_
    refine EIn e9 ?_
    refine EIn e10 ?_
    refine EIn e11 ?_
    refine EIn e12 ?_
    refine EIn e13 ?_
    refine EIn e14 ?_
    refine EIn e15 ?_
    refine EIn e16 ?_
    refine EIn e17 ?_
    refine EIn e18 ?_
    refine EIn e19 ?_
    refine EIn e20 ?_
    refine EIn e21 ?_
    refine EIn e22 ?_
    refine EIn e23 ?_
    refine EIn e24 ?_
    refine EIn e25 ?_
    refine EIn e26 ?_
    refine EIn e27 ?_
    refine EIn e28 ?_
    refine EIn e29 ?_
    refine EIn e30 ?_
    refine EIn e31 ?_
    refine EIn e32 ?_
    refine EIp e33 ?_
    refine EB q1 ?_
    refine EB q2 ?_
    refine EB q3 ?_
    refine EB q4 ?_
    refine EB q5 ?_
    refine EC k0 h1 ?_
    refine EB q1 ?_
    refine EB q2 ?_
    refine EB q3 ?_
    refine EB q4 ?_
    refine EB q5 ?_
    refine EC h2 h3 ?_
    refine EIp rfl ?_
    rw [n6]
  by_cases e34 : xs i &&& (63 : Int32) = (34 : Int32)
  · obtain ⟨a, m2, m3, h1, h2, h3, h4⟩ := p_34 hc hm hs (xs (i + 1)) (xs (i + 2))
    refine ⟨m3, h4, ?_⟩
    conv => lhs; unfold lL_law_18
    refine EIn hge ?_
    refine EB q0 ?_
    refine EIn e0 ?_
    refine EIn e1 ?_
    refine EIn e2 ?_
    refine EIn e3 ?_
    refine EIn e4 ?_
    refine EIn e5 ?_
    refine EIn e6 ?_
    refine EIn e7 ?_
    refine EIn e8 ?_
    refine EIn e9 ?_
    refine EIn e10 ?_
    refine EIn e11 ?_
    refine EIn e12 ?_
    refine EIn e13 ?_
    refine EIn e14 ?_
    refine EIn e15 ?_
    refine EIn e16 ?_
    refine EIn e17 ?_
    refine EIn e18 ?_
    refine EIn e19 ?_
    refine EIn e20 ?_
    refine EIn e21 ?_
    refine EIn e22 ?_
    refine EIn e23 ?_
    refine EIn e24 ?_
    refine EIn e25 ?_
    refine EIn e26 ?_
    refine EIn e27 ?_
    refine EIn e28 ?_
    refine EIn e29 ?_
    refine EIn e30 ?_
    refine EIn e31 ?_
    refine EIn e32 ?_
    refine EIn e33 ?_
    refine EIp e34 ?_
    refine EB q1 ?_
    refine EB q2 ?_
    refine EC k0 h1 ?_
    refine EB q1 ?_
    refine EB q2 ?_
    refine EC h2 h3 ?_
    refine EIp rfl ?_
    rw [n6]
  by_cases e35 : xs i &&& (63 : Int32) = (35 : Int32)
  · obtain ⟨a, m2, m3, h1, h2, h3, h4⟩ := p_35 hc hm hs (xs (i + 1)) (xs (i + 2)) (xs (i + 3))
    refine ⟨m3, h4, ?_⟩
    conv => lhs; unfold lL_law_18
    refine EIn hge ?_
    refine EB q0 ?_
    refine EIn e0 ?_
    refine EIn e1 ?_
    refine EIn e2 ?_
    refine EIn e3 ?_
    refine EIn e4 ?_
    refine EIn e5 ?_
    refine EIn e6 ?_
    refine EIn e7 ?_
    refine EIn e8 ?_
    refine EIn e9 ?_
    refine EIn e10 ?_
    refine EIn e11 ?_
    refine EIn e12 ?_
    refine EIn e13 ?_
    refine EIn e14 ?_
    refine EIn e15 ?_
    refine EIn e16 ?_
    refine EIn e17 ?_
    refine EIn e18 ?_
    refine EIn e19 ?_
    refine EIn e20 ?_
    refine EIn e21 ?_
    refine EIn e22 ?_
    refine EIn e23 ?_
    refine EIn e24 ?_
    refine EIn e25 ?_
    refine EIn e26 ?_
    refine EIn e27 ?_
    refine EIn e28 ?_
    refine EIn e29 ?_
    refine EIn e30 ?_
    refine EIn e31 ?_
    refine EIn e32 ?_
    refine EIn e33 ?_
    refine EIn e34 ?_
    refine EIp e35 ?_
    refine EB q1 ?_
    refine EB q2 ?_
    refine EB q3 ?_
    refine EC k0 h1 ?_
    refine EB q1 ?_
    refine EB q2 ?_
    refine EB q3 ?_
    refine EC h2 h3 ?_
    refine EIp rfl ?_
    rw [n6]
  refine ⟨m, ⟨s, hc, hm, hs⟩, ?_⟩
  conv => lhs; unfold lL_law_18
  refine EIn hge ?_
  refine EB q0 ?_
  refine EIn e0 ?_
  refine EIn e1 ?_
  refine EIn e2 ?_
  refine EIn e3 ?_
  refine EIn e4 ?_
  refine EIn e5 ?_
  refine EIn e6 ?_
  refine EIn e7 ?_
  refine EIn e8 ?_
  refine EIn e9 ?_
  refine EIn e10 ?_
  refine EIn e11 ?_
  refine EIn e12 ?_
  refine EIn e13 ?_
  refine EIn e14 ?_
  refine EIn e15 ?_
  refine EIn e16 ?_
  refine EIn e17 ?_
  refine EIn e18 ?_
  refine EIn e19 ?_
  refine EIn e20 ?_
  refine EIn e21 ?_
  refine EIn e22 ?_
  refine EIn e23 ?_
  refine EIn e24 ?_
  refine EIn e25 ?_
  refine EIn e26 ?_
  refine EIn e27 ?_
  refine EIn e28 ?_
  refine EIn e29 ?_
  refine EIn e30 ?_
  refine EIn e31 ?_
  refine EIn e32 ?_
  refine EIn e33 ?_
  refine EIn e34 ?_
  refine EIn e35 ?_
  rw [n6]
theorem law_end {L i : Nat} (h : ¬ i + 6 ≤ L) (hi : i ≤ L) (hL : L ≤ 3072) : (Int32.ofNat L) - (6 : Int32) < nI i := by
  by_cases e : 6 ≤ L
  · have e2 : Int32.ofNat L - (6 : Int32) = nI (L - 6) := pk_sub (a := L) (b := 6) e
    rw [e2]
    exact (nI_ltI (by omega) (by omega)).mpr (by omega)
  · exact (by decide : ∀ L, L < 6 → ∀ i, i < 6 → Int32.ofNat L - (6 : Int32) < nI i) L (by omega) i (by omega)
theorem law_loop (hred : RedOk) {xs : Nat → Int32} {L b : Nat} {m : qM} (h : OkM m) (hL : L ≤ 3072) : ∃ m2, lL_law_18 NF xs L b 0 433 NF 0 m = some (.inl m2) := by
  obtain ⟨r, e1, m2, rfl⟩ := walk (l := fun g (x : Int32 × qM) => lL_law_18 NF xs L b 0 433 g x.1 x.2) (J := fun r x => ∃ i m', L ≤ i + 6 * r + 5 ∧ x = (nI i, m') ∧ i ≤ L ∧ OkM m') (Q := fun r => ∃ m2, r = .inl m2) (fun g r x hj => by
    obtain ⟨i, m', hi, rfl, hiL, hO⟩ := hj
    by_cases e : i + 6 ≤ L
    · obtain ⟨m2, h1, h2⟩ := law_step (g := g) (b := b) hred hO e hL
      exact Or.inl ⟨(nI (i + 6), m2), ⟨i + 6, m2, by omega, rfl, by omega, h1⟩, h2⟩
    · refine Or.inr ⟨.inl m', ?_, m', rfl⟩
      show lL_law_18 NF xs L b 0 433 (g + 1) (nI i) m' = _
      unfold lL_law_18
      refine EIp (law_end e hiL hL) ?_
      rfl) (fun g x hj => by
    obtain ⟨i, m', hi, rfl, hiL, hO⟩ := hj
    refine ⟨.inl m', ?_, m', rfl⟩
    show lL_law_18 NF xs L b 0 433 (g + 1) (nI i) m' = _
    unfold lL_law_18
    refine EIp (law_end (by omega) hiL hL) ?_
    rfl) 512 NF (nI 0, m) (by unfold NF; omega) ⟨0, m, by omega, rfl, by omega, h⟩
  exact ⟨m2, e1⟩
set_option maxRecDepth 100000 in
theorem mS_c : qI mS 1 1 = nI 0 ∧ qI mS 3 1 = nI 0 ∧ qI mS 5 6 = nI 0 ∧ qI mS 389 3 = nI 4 ∧ (∀ i, i < 9 → qI mS 390 i = nI ([2, 2, 2, 1, 2, 2, 0, 1, 2].getD i 0)) ∧ (∀ j, j < 3 → qI mS (402 + 2 * j) 2 = -1) := by decide +kernel
set_option maxRecDepth 100000 in
theorem mS_m : qI mS 433 7 = nI 0 ∧ qI mS 433 11 = nI 0 ∧ qI mS 433 5 = nI 0 ∧ qI mS 433 13 = nI 4 ∧ (∀ i, i < 9 → qI mS 441 i = nI ([2, 2, 2, 1, 2, 2, 0, 1, 2].getD i 0)) ∧ (∀ j, j < 3 → qI mS 443 j = -1) := by decide +kernel
set_option maxRecDepth 100000 in
theorem init_T : (fX9_init NF 0 (qnw qM0 9 0)).map qT = some 433 := by decide +kernel
def s00 : ST := (([], []), (0, fun _ => .var 0, fun _ => none), ((fun i => [2, 2, 2, 1, 2, 2, 0, 1, 2].getD i 0), 4), fun _ => none)
theorem tb_lt : ∀ i, i < 9 → [2, 2, 2, 1, 2, 2, 0, 1, 2].getD i 0 < 3 := by decide
theorem no0 {P : Prop} {i : Nat} (h : i < ([] : List Nat).length) : P := absurd h (by simp)
theorem init_ok : OkM mS := by
  obtain ⟨c1, c2, c3, c4, c5, c6⟩ := mS_c
  obtain ⟨d1, d2, d3, d4, d5, d6⟩ := mS_m
  refine ⟨s00, ⟨XS_S, ⟨c1, by simp [s00, sTx], fun i hi => no0 hi⟩, by simp [s00, sTx], ⟨c2, by simp [s00, sOu], fun i hi => no0 hi⟩, ⟨c3, fun j hj => absurd hj (by show ¬ j < 0; omega)⟩, ⟨c4, by show 4 < 8; omega, fun i hi => ⟨c5 i hi, tb_lt i hi⟩⟩, fun j hj => c6 j hj⟩, ⟨MS_S, by rw [mS_T]; exact Nat.le_refl _, ⟨d1, by simp [s00, sTx], fun i hi => no0 hi⟩, ⟨d2, fun i hi => no0 hi⟩, ⟨d3, fun j hj => absurd hj (by show ¬ j < 0; omega)⟩, ⟨d4, by show 4 < 8; omega, fun i hi => ⟨d5 i hi, tb_lt i hi⟩⟩, fun j hj => d6 j hj⟩, ⟨by show 0 ≤ 60; omega, fun i a b hi => absurd hi (by show ¬ i < 0; omega), fun i hi => absurd hi (by show ¬ i < 0; omega)⟩, fun c hc => by simp [s00, sTx] at hc, by simp [s00, sOu], fun c hc => by simp [s00, sOu] at hc⟩
set_option maxRecDepth 100000 in
theorem pure_of (hred : RedOk) (xs : Nat → Int32) (L b : Nat) (hL : L ≤ 3072) : ∃ m : qM, fL_law NF xs L b qM0 = some (1, m) := by
  have h := mS_eq
  have hT := init_T
  obtain ⟨m2, e⟩ := law_loop (xs := xs) (L := L) (b := b) hred init_ok hL
  cases hb : fX9_init NF 0 (qnw qM0 9 0) with
  | none => rw [hb] at h; cases h
  | some b1 =>
    rw [hb, Option.bind_some] at h
    rw [hb] at hT
    have hT1 : qT b1 = 433 := by simpa using hT
    refine ⟨m2, ?_⟩
    have hb2 : fX9_init NF (qT qM0) (qnw qM0 9 0) = some b1 := hb
    have h2 : fX10_init NF (qT b1) (qnw b1 10 0) = some mS := by rw [hT1]; exact h
    unfold fL_law qNew
    refine EB hb2 ?_
    refine EB h2 ?_
    rw [hT1]
    refine ETl e ?_
    rfl
end
