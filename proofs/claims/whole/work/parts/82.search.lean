section
-- ===== shortest: the class =====
noncomputable def ouA (k b w : Nat) : Nat → Nat → PL → Option PL
  | 0, _, P => some P
  | r + 1, x, P => (inG k ttG x w b P).bind (ouA k b w r (x + 1))
theorem ouA_s {k b w r x : Nat} {P : PL} : ouA k b w (r + 1) x P = (inG k ttG x w b P).bind (ouA k b w r (x + 1)) := rfl
theorem ouA_eq {k b w was : Nat} {f : Nat → Nat → Bool} (hw : b + w ≤ was) : ∀ (r x : Nat) (P : PL), (∀ z, x ≤ z → z < x + r → ∀ y, y < was → f z y = decide (b ≤ y ∧ y < b + w)) → ouG k f was r x P = ouA k b w r x P := by
  intro r
  induction r with
  | zero => intro x P _; rfl
  | succ r ih =>
    intro x P h
    rw [ouG_s, ouA_s, inG_cut hw (fun y hy => h x (Nat.le_refl _) (by omega) y hy)]
    cases hs : inG k ttG x w b P with
    | none => rfl
    | some P2 => exact ih (x + 1) P2 (fun z h1 h2 y hy => h z (by omega) (by omega) y hy)
def RsQ (s : ST) (k : Nat) (P : PL) (m : qM) (T : Option PL) (r : Int32 × qM) : Prop := (∃ P2 m2, T = some P2 ∧ r = (1, m2) ∧ CLv m2 s P2 ∧ okQ P2 ∧ exP k P P2 ∧ Fx dPL m m2) ∨ ∃ m2, T = none ∧ r = (0, m2) ∧ CP m2 s ∧ Fx dPL m m2
theorem c_cmb {s : ST} {k i j a b v w : Nat} (hn : sN s ≤ 60) (hi : i < 5) (hj : j < 5) {m : qM} {P : PL} (h : CLv m s P) (hP : okQ P) (ha : a + v ≤ P.1) (hb : b + w ≤ P.1) (h1 : qI m 148 i = nI a) (h2 : qI m 148 (i + 1) = nI (a + v)) (h3 : qI m 148 j = nI b) (h4 : qI m 148 (j + 1) = nI (b + w)) : ∃ r, fX2_combine NF 144 (nI i) (nI j) m = some r ∧ RsQ s k P m (ouA k b w v a P) r := by
  have h120 := hP.1
  obtain ⟨k144, r0, r1, r2, r3, r4, k147, n147, k148, n148, F145⟩ := h.1.1.pv
  obtain ⟨r, e1, e2⟩ := walk (l := fun g (z : Int32 × qM) => lX2_combine_7 NF 144 (nI i) (nI j) g z.1 z.2) (J := fun r z => ∃ x m' P', x + r = a + v ∧ z = (nI x, m') ∧ CLv m' s P' ∧ okQ P' ∧ exP k P P' ∧ Fx dPL m m' ∧ ouA k b w r x P' = ouA k b w v a P) (Q := fun r => RsL s k P m (ouA k b w v a P) r) (fun g r z hj2 => by
    obtain ⟨x, m', P', hx, rfl, hL, hP', hE, hF, hT⟩ := hj2
    have hPP := hE.1
    have h120' := hP'.1
    obtain ⟨K144, R0, R1, R2, R3, R4, K147, N147, K148, N148, -⟩ := hL.1.1.pv
    have e148 : qI m' 148 = qI m 148 := hF.i (by unfold dPL; omega)
    obtain ⟨q, q1, q2⟩ := c_cmbIn (k := k) (i := i) hn hj hL hP' (show x < P'.1 by omega) (show b + w ≤ P'.1 by omega) (by rw [e148]; exact h4)
    have hpre : ∀ R, (qTh (some q) (fun o5 => lX2_combine_7 NF 144 (nI i) (nI j) g (nI (x + 1)) o5) (fun r => .inr r)) = R → lX2_combine_7 NF 144 (nI i) (nI j) (g + 1) (nI x) m' = R := by
      intro R hR
      conv => lhs; unfold lX2_combine_7
      refine EgR K144 R4 ?_
      refine EaI K148 (nI_s _) (show i + 1 < qN m' 148 by omega) (by omega) ((congrFun e148 (i + 1)).trans h2) ?_
      refine EIn (fun z => by have := (nI_leI (by omega) (by omega)).mp z; omega) ?_
      refine EgR K144 R4 ?_
      refine EaI K148 rfl (show j < qN m' 148 by omega) (by omega) ((congrFun e148 j).trans h3) ?_
      rw [q1, nI_s]
      exact hR
    rw [ouA_s] at hT
    rcases q2 with ⟨P2, m2, t1, rfl, t3, t4, t5, t6⟩ | ⟨m2, t1, rfl, t3, t4⟩
    · rw [t1, Option.bind_some] at hT
      exact Or.inl ⟨(nI (x + 1), m2), ⟨x + 1, m2, P2, by omega, rfl, t3, t4, hE.tr t5, hF.tr t6, hT⟩, hpre _ rfl⟩
    · rw [t1, Option.bind_none] at hT
      exact Or.inr ⟨.inr (0, m2), hpre _ rfl, Or.inr ⟨m2, hT.symm, rfl, t3, hF.tr t4⟩⟩) (fun g z hj2 => by
    obtain ⟨x, m', P', hx, rfl, hL, hP', hE, hF, hT⟩ := hj2
    obtain rfl : x = a + v := by omega
    obtain ⟨K144, R0, R1, R2, R3, R4, K147, N147, K148, N148, -⟩ := hL.1.1.pv
    refine ⟨.inl m', ?_, Or.inl ⟨P', m', hT.symm, rfl, hL, hP', hE, hF⟩⟩
    show lX2_combine_7 NF 144 (nI i) (nI j) (g + 1) (nI (a + v)) m' = _
    unfold lX2_combine_7
    refine EgR K144 R4 ?_
    refine EaI K148 (nI_s _) (show i + 1 < qN m' 148 by omega) (by omega) (show qI m' 148 (i + 1) = nI (a + v) by rw [hF.i (by unfold dPL; omega)]; exact h2) ?_
    refine EIp ((nI_leI (by omega) (by omega)).mpr (Nat.le_refl _)) ?_
    rfl) v NF (nI a, m) (by unfold NF; omega) ⟨a, m, P, by omega, rfl, h, hP, exP.rf, Fx.rf, rfl⟩
  have hpre : ∀ R, (qTh (some r) (fun o3 => some ((1 : Int32), o3)) (fun r => r)) = R → fX2_combine NF 144 (nI i) (nI j) m = R := by
    intro R hR
    unfold fX2_combine
    refine EgR k144 r4 ?_
    refine EaI k148 rfl (show i < qN m 148 by omega) (by omega) h1 ?_
    rw [show lX2_combine_7 NF 144 (nI i) (nI j) NF (nI a) m = some r from e1]
    exact hR
  rcases e2 with ⟨P2, m2, t1, rfl, t⟩ | ⟨m2, t1, rfl, t⟩
  · exact ⟨(1, m2), hpre _ rfl, Or.inl ⟨P2, m2, t1, rfl, t⟩⟩
  · exact ⟨(0, m2), hpre _ rfl, Or.inr ⟨m2, t1, rfl, t⟩⟩
def lvI (S : Nat → Nat) (k : Nat) (P : PL) : Prop := S 0 = 0 ∧ S k = P.1 ∧ (∀ i, i < k → S i ≤ S (i + 1)) ∧ (∀ i, i ≤ k → S i ≤ P.1) ∧ (∀ i, i < k → ∀ x, S i ≤ x → x < S (i + 1) → P.2.2 x = i) ∧ ∀ y, y < P.1 → P.2.2 y < k ∧ S (P.2.2 y) ≤ y ∧ y < S (P.2.2 y + 1)
theorem lvI_next {S : Nat → Nat} {k : Nat} {P P2 : PL} (h : lvI S k P) (e : exP k P P2) : lvI (setN S (k + 1) P2.1) (k + 1) P2 := by
  obtain ⟨h1, h2, h3, h4, h5, h6⟩ := h
  obtain ⟨e1, e2, e3⟩ := e
  have hS : ∀ i, i ≤ k → setN S (k + 1) P2.1 i = S i := fun i hi => setN_ne (by omega)
  refine ⟨(hS 0 (by omega)).trans h1, setN_eq, fun i hi => ?_, fun i hi => ?_, fun i hi x hx hx2 => ?_, fun y hy => ?_⟩
  · rw [hS i (by omega)]
    by_cases ei : i = k
    · rw [ei, setN_eq, h2]; exact e1
    · rw [hS (i + 1) (by omega)]; exact h3 i (by omega)
  · by_cases ei : i = k + 1
    · rw [ei, setN_eq]; exact Nat.le_refl _
    · rw [hS i (by omega)]; exact Nat.le_trans (h4 i (by omega)) e1
  · rw [hS i (by omega)] at hx
    by_cases ei : i = k
    · rw [ei, setN_eq] at hx2
      rw [ei] at hx ⊢
      exact e3 x (by omega) hx2
    · rw [hS (i + 1) (by omega)] at hx2
      have := h4 (i + 1) (by omega)
      rw [(e2 x (by omega)).2]
      exact h5 i (by omega) x hx hx2
  · by_cases ey : y < P.1
    · obtain ⟨a1, a2, a3⟩ := h6 y ey
      rw [(e2 y ey).2, hS _ (by omega), hS _ (by omega)]
      exact ⟨by omega, a2, a3⟩
    · rw [e3 y (by omega) hy, hS k (Nat.le_refl _), setN_eq, h2]
      exact ⟨by omega, by omega, hy⟩
theorem c_addLevel {s : ST} {k : Nat} {S : Nat → Nat} (hn : sN s ≤ 60) (hk : k ≤ 4) (hk1 : 1 ≤ k) {m : qM} {P : PL} (h : CLv m s P) (hP : okQ P) (hI : lvI S k P) (h148 : ∀ z, z ≤ k → qI m 148 z = nI (S z)) : ∃ r, fX2_addLevel NF 144 (nI k) m = some r ∧ RsQ s k P m (lvR k P) r := by
  have h120 := hP.1
  obtain ⟨i1, i2, i3', i4, i5, i6⟩ := hI
  have hlv : lvR k P = ouG k (fLv k P.2.2) P.1 P.1 0 P := if_neg (by omega)
  obtain ⟨r, e1, e2⟩ := walk (l := fun g (z : Int32 × qM) => lX2_addLevel_2 NF 144 (nI k) g z.1 z.2) (J := fun r z => ∃ i m' P', i + r = k ∧ z = (nI i, m') ∧ CLv m' s P' ∧ okQ P' ∧ exP k P P' ∧ Fx dPL m m' ∧ ouG k (fLv k P.2.2) P.1 (P.1 - S i) (S i) P' = lvR k P) (Q := fun r => RsL s k P m (lvR k P) r) (fun g r z hj2 => by
    obtain ⟨i, m', P', hi, rfl, hL, hP', hE, hF, hT⟩ := hj2
    have hPP := hE.1
    have e148 : qI m' 148 = qI m 148 := hF.i (by unfold dPL; omega)
    obtain ⟨j, hj⟩ : ∃ j, i + j + 1 = k := ⟨k - 1 - i, by omega⟩
    have s1 := i3' i (by omega)
    have s2 := i3' j (by omega)
    have s3 := i4 (i + 1) (by omega)
    have s4 := i4 (j + 1) (by omega)
    obtain ⟨q, q1, q2⟩ := c_cmb (k := k) (i := i) (j := j) (a := S i) (v := S (i + 1) - S i) (b := S j) (w := S (j + 1) - S j) hn (by omega) (by omega) hL hP' (by omega) (by omega) (by rw [e148]; exact h148 i (by omega)) (by rw [e148, show S i + (S (i + 1) - S i) = S (i + 1) by omega]; exact h148 _ (by omega)) (by rw [e148]; exact h148 j (by omega)) (by rw [e148, show S j + (S (j + 1) - S j) = S (j + 1) by omega]; exact h148 _ (by omega))
    have hq : ouA k (S j) (S (j + 1) - S j) (S (i + 1) - S i) (S i) P' = ouG k (fLv k P.2.2) P.1 (S (i + 1) - S i) (S i) P' := by
      refine (ouA_eq (by omega) _ _ _ (fun z hz1 hz2 y hy => ?_)).symm
      have lz := i5 i (by omega) z hz1 (by omega)
      obtain ⟨y1, y2, y3⟩ := i6 y hy
      unfold fLv
      rw [lz]
      by_cases ey : S j ≤ y ∧ y < S j + (S (j + 1) - S j)
      · have ly := i5 j (by omega) y ey.1 (by omega)
        rw [decide_eq_true ey, ly]
        exact decide_eq_true hj
      · rw [decide_eq_false ey]
        refine decide_eq_false (fun hh => ey ?_)
        have : P.2.2 y = j := by omega
        rw [this] at y2 y3
        exact ⟨y2, by omega⟩
    rw [hq] at q2
    rw [show P.1 - S i = (S (i + 1) - S i) + (P.1 - S (i + 1)) by omega, ouG_add, show S i + (S (i + 1) - S i) = S (i + 1) by omega] at hT
    have hk1' : (nI k - (1 : Int32)) - nI i = nI j := by
      rw [nI_m1 (by omega), show nI (k - 1) - nI i = nI (k - 1 - i) from pk_sub (by omega)]
      congr 1; omega
    have hpre : ∀ R, (if q.1 = 0 then some (.inr ((0 : Int32), q.2)) else lX2_addLevel_2 NF 144 (nI k) g (nI (i + 1)) q.2) = R → lX2_addLevel_2 NF 144 (nI k) (g + 1) (nI i) m' = R := by
      intro R hR
      unfold lX2_addLevel_2
      refine EIn (fun z => by have := (nI_leI (by omega) (by omega)).mp z; omega) ?_
      rw [hk1']
      refine EC hL.1.1.pv.1 q1 ?_
      rw [nI_s]
      exact hR
    rcases q2 with ⟨P2, m2, t1, rfl, t3, t4, t5, t6⟩ | ⟨m2, t1, rfl, t3, t4⟩
    · rw [t1, Option.bind_some] at hT
      exact Or.inl ⟨(nI (i + 1), m2), ⟨i + 1, m2, P2, by omega, rfl, t3, t4, hE.tr t5, hF.tr t6, hT⟩, hpre _ (if_neg i10)⟩
    · rw [t1, Option.bind_none] at hT
      exact Or.inr ⟨.inr (0, m2), hpre _ (if_pos rfl), Or.inr ⟨m2, hT.symm, rfl, t3, hF.tr t4⟩⟩) (fun g z hj2 => by
    obtain ⟨i, m', P', hi, rfl, hL, hP', hE, hF, hT⟩ := hj2
    obtain rfl : i = k := by omega
    rw [i2, Nat.sub_self] at hT
    refine ⟨.inl m', ?_, Or.inl ⟨P', m', hT.symm, rfl, hL, hP', hE, hF⟩⟩
    show lX2_addLevel_2 NF 144 (nI i) (g + 1) (nI i) m' = _
    unfold lX2_addLevel_2
    refine EIp ((nI_leI (by omega) (by omega)).mpr (Nat.le_refl _)) ?_
    rfl) k NF (nI 0, m) (by unfold NF; omega) ⟨0, m, P, by omega, rfl, h, hP, exP.rf, Fx.rf, by rw [hlv, i1, Nat.sub_zero]⟩
  have hpre : ∀ R, (qTh (some r) (fun o1 => some ((1 : Int32), o1)) (fun r => r)) = R → fX2_addLevel NF 144 (nI k) m = R := by
    intro R hR
    unfold fX2_addLevel
    rw [show lX2_addLevel_2 NF 144 (nI k) NF 0 m = some r from e1]
    exact hR
  rcases e2 with ⟨P2, m2, t1, rfl, t⟩ | ⟨m2, t1, rfl, t⟩
  · exact ⟨(1, m2), hpre _ rfl, Or.inl ⟨P2, m2, t1, rfl, t⟩⟩
  · exact ⟨(0, m2), hpre _ rfl, Or.inr ⟨m2, t1, rfl, t⟩⟩
theorem axIn_s {en : Nat → Option (Nat × Nat)} {fo : Nat → Tm} {r j : Nat} {P : PL} : axIn en fo (r + 1) j P = axIn en fo r (j + 1) (if en j = none then plAdd 0 P (fo j) else P) := rfl
theorem c_addAxs {s : ST} {m : qM} {P : PL} (hs : okS s) (h : CLv m s P) (hP : okQ P) (h0 : P.1 = 0) : ∃ m2, fX2_addAxioms NF 144 5 m = some (1, m2) ∧ CLv m2 s (axIn (sEn s) (sFo s) (sN s) 0 P) ∧ okQ (axIn (sEn s) (sFo s) (sN s) 0 P) ∧ exP 0 P (axIn (sEn s) (sFo s) (sN s) 0 P) ∧ Fx dPL m m2 := by
  have hn := hs.1.1
  obtain ⟨r, e1, m2, rfl, e3, e4, e5, e6⟩ := walk (l := fun g (z : Int32 × qM) => lX2_addAxioms_2 NF 144 5 g z.1 z.2) (J := fun r z => ∃ j m' P', j + r = sN s ∧ z = (nI j, m') ∧ CLv m' s P' ∧ okQ P' ∧ P'.1 ≤ j ∧ exP 0 P P' ∧ Fx dPL m m' ∧ axIn (sEn s) (sFo s) r j P' = axIn (sEn s) (sFo s) (sN s) 0 P) (Q := fun r => ∃ m2, r = .inl m2 ∧ CLv m2 s (axIn (sEn s) (sFo s) (sN s) 0 P) ∧ okQ (axIn (sEn s) (sFo s) (sN s) 0 P) ∧ exP 0 P (axIn (sEn s) (sFo s) (sN s) 0 P) ∧ Fx dPL m m2) (fun g r z hj2 => by
    obtain ⟨j, m', P', hj, rfl, hL, hP', hjn, hE, hF, hT⟩ := hj2
    have hX := hL.1.1
    have k5 := hX.ls.1
    have hLs := hL.1.2.2.2.2.1
    have hc : fX1_count NF 5 m' = some (nI (sN s), m') := by
      unfold fX1_count
      refine EgI k5 hLs.1 ?_
      rfl
    have hax := c_isAx (j := j) hL.1 hs (by omega)
    rw [axIn_s] at hT
    have hpre : ∀ R, (if (if sEn s j = none then (1 : Int32) else 0) = 0 then lX2_addAxioms_2 NF 144 5 g (nI (j + 1)) m' else (qChk m' 5 1 (fX1_at NF 5 (nI j) m')).bind fun b3 => (qChk b3.2 144 2 (fX2_addNew NF 144 b3.1 b3.2)).bind fun b4 => if b4.1 = 0 then some (.inr ((0 : Int32), b4.2)) else lX2_addAxioms_2 NF 144 5 g (nI (j + 1)) b4.2) = R → lX2_addAxioms_2 NF 144 5 (g + 1) (nI j) m' = R := by
      intro R hR
      conv => lhs; unfold lX2_addAxioms_2 kX2_addAxioms_32
      refine EC k5 hc ?_
      refine EIn (fun z => by have := (nI_leI (by omega) (by omega)).mp z; omega) ?_
      refine EC k5 hax ?_
      rw [nI_s]
      exact hR
    by_cases e : sEn s j = none
    · rw [if_pos e] at hT
      have hF2 := hs.1.2.2 j (by omega)
      obtain ⟨m2, q1, q2, q3⟩ := c_addNew (k := 0) hn hL hP' (by omega) (hX.lf (i := j) (by omega)).1 (by omega) (by omega) (by omega) (hLs.2 j (by omega)).1
      obtain ⟨o1, o2⟩ := plAdd_ok (k := 0) hP' (by omega) hF2
      refine Or.inl ⟨(nI (j + 1), m2), ⟨j + 1, m2, _, by omega, rfl, q2, o1, by show P'.1 + 1 ≤ j + 1; omega, hE.tr o2, hF.tr q3, hT⟩, hpre _ ?_⟩
      rw [if_pos e]
      refine EIn i10 ?_
      refine EC k5 (c_lat hX (by omega)) ?_
      refine EC hX.pv.1 q1 ?_
      refine EIn i10 ?_
      rfl
    · rw [if_neg e] at hT
      refine Or.inl ⟨(nI (j + 1), m'), ⟨j + 1, m', P', by omega, rfl, hL, hP', by omega, hE, hF, hT⟩, hpre _ ?_⟩
      rw [if_neg e]
      refine EIp rfl ?_
      rfl) (fun g z hj2 => by
    obtain ⟨j, m', P', hj, rfl, hL, hP', hjn, hE, hF, hT⟩ := hj2
    obtain rfl : j = sN s := by omega
    have hT' : P' = axIn (sEn s) (sFo s) (sN s) 0 P := hT
    have hLs := hL.1.2.2.2.2.1
    have k5 := hL.1.1.ls.1
    have hc : fX1_count NF 5 m' = some (nI (sN s), m') := by
      unfold fX1_count
      refine EgI k5 hLs.1 ?_
      rfl
    refine ⟨.inl m', ?_, m', rfl, hT' ▸ hL, hT' ▸ hP', hT' ▸ hE, hF⟩
    show lX2_addAxioms_2 NF 144 5 (g + 1) (nI (sN s)) m' = _
    unfold lX2_addAxioms_2
    refine EC k5 hc ?_
    refine EIp ((nI_leI (by omega) (by omega)).mpr (Nat.le_refl _)) ?_
    rfl) (sN s) NF (nI 0, m) (by unfold NF; omega) ⟨0, m, P, by omega, rfl, h, hP, by omega, exP.rf, Fx.rf, rfl⟩
  refine ⟨m2, ?_, e3, e4, e5, e6⟩
  unfold fX2_addAxioms
  refine ETl (show lX2_addAxioms_2 NF 144 5 NF 0 m = some (.inl m2) from e1) ?_
  rfl
theorem fstF_skip {p : Nat → Bool} {b : Nat} : ∀ (a k : Nat), (∀ j, k ≤ j → j < k + a → p j = false) → fstF p (a + b) k = fstF p b (k + a) := by
  intro a
  induction a with
  | zero => intro k _; rw [Nat.zero_add]; rfl
  | succ a ih =>
    intro k h
    rw [show a + 1 + b = (a + b) + 1 by omega, fstF_s, if_neg (by rw [h k (Nat.le_refl _) (by omega)]; decide), ih (k + 1) (fun j h1 h2 => h j (by omega) (by omega))]
    congr 1; omega
theorem c_cov2 {s : ST} {k j was : Nat} (hs : okS s) (hj : j < sN s) (hk : k < 5) {m : qM} {P : PL} (h : CLv m s P) (hP : okQ P) (hw : was ≤ P.1) (h1 : qI m 148 k = nI was) (h2 : qI m 148 (k + 1) = nI P.1) (l1 : ∀ z, z < was → P.2.2 z ≠ k) (l2 : ∀ z, was ≤ z → z < P.1 → P.2.2 z = k) : ∃ m2, fX2_covers NF 144 (12 + 2 * j) (nI k) m = some (iB (covK P k (sFo s j)), m2) ∧ Fx (fun a => a = 143) m m2 := by
  have hn := hs.1.1
  have h120 := hP.1
  obtain ⟨k144, r0, r1, r2, r3, r4, k147, n147, k148, n148, F145⟩ := h.1.1.pv
  have hφ := hs.1.2.2 j hj
  have hcv : fstF (fun x => decide (P.2.2 x = k) && isIn (P.2.1 x) (sFo s j)) P.1 0 = fstF (fun x => isIn (P.2.1 x) (sFo s j)) (P.1 - was) was := by
    have e := fstF_skip (p := fun x => decide (P.2.2 x = k) && isIn (P.2.1 x) (sFo s j)) (b := P.1 - was) was 0 (fun z _ hz => by simp only [decide_eq_false (l1 z (by omega)), Bool.false_and])
    rw [show was + (P.1 - was) = P.1 by omega, Nat.zero_add] at e
    rw [e]
    exact fstF_congr _ _ (fun z h1 h2 => by simp only [decide_eq_true (l2 z h1 (by omega)), Bool.true_and])
  have hle := (fstF_le (fun x => isIn (P.2.1 x) (sFo s j)) (P.1 - was) was).2
  obtain ⟨r, e1, m2, e2, e3⟩ := walk (l := fun g (z : Int32 × qM) => lX2_covers_7 NF 144 (12 + 2 * j) (nI k) g z.1 z.2) (J := fun r z => ∃ y m', y + r = P.1 ∧ z = (nI y, m') ∧ CLv m' s P ∧ Fx (fun a => a = 143) m m' ∧ fstF (fun x => isIn (P.2.1 x) (sFo s j)) r y = fstF (fun x => isIn (P.2.1 x) (sFo s j)) (P.1 - was) was) (Q := fun r => ∃ m2, r = (if fstF (fun x => isIn (P.2.1 x) (sFo s j)) (P.1 - was) was < P.1 then .inr (1, m2) else .inl m2) ∧ Fx (fun a => a = 143) m m2) (fun g r z hj2 => by
    obtain ⟨y, m', hy, rfl, hL, hF, hT⟩ := hj2
    have hX := hL.1.1
    obtain ⟨K144, R0, R1, R2, R3, R4, K147, N147, K148, N148, -⟩ := hX.pv
    obtain ⟨Fy, Ry⟩ := hX.pf (i := y) (by omega)
    obtain ⟨m2, q1, q2⟩ := c_matches (f := 12 + 2 * j) (g := 149 + 2 * y) (by omega) (by omega) hX.un (hX.lf (i := j) (by omega)).1 Fy (hL.1.2.2.2.2.1.2 j hj).1 (hL.2.2 y (by omega)) (bel_mono hφ.1 (by omega)) (hP.2 y (by omega))
    have hpre : ∀ R, (if iB (isIn (P.2.1 y) (sFo s j)) = 0 then lX2_covers_7 NF 144 (12 + 2 * j) (nI k) g (nI (y + 1)) m2 else some (.inr ((1 : Int32), m2))) = R → lX2_covers_7 NF 144 (12 + 2 * j) (nI k) (g + 1) (nI y) m' = R := by
      intro R hR
      unfold lX2_covers_7
      refine EgR K144 R4 ?_
      refine EaI K148 (nI_s _) (show k + 1 < qN m' 148 by omega) (by omega) ((congrFun (hF.i (show ¬ 148 = 143 by omega)) (k + 1)).trans h2) ?_
      refine EIn (fun z => by have := (nI_leI (by omega) (by omega)).mp z; omega) ?_
      refine EgR K144 R1 ?_
      refine EgR K144 R3 ?_
      refine EaR K147 rfl (show y < qN m' 147 by omega) (by omega) Ry ?_
      refine EC hX.k142 q1 ?_
      rw [nI_s]
      exact hR
    rw [fstF_s] at hT
    by_cases e : isIn (P.2.1 y) (sFo s j) = true
    · rw [if_pos e] at hT
      refine Or.inr ⟨.inr (1, m2), hpre _ (by rw [e]; exact if_neg i10), m2, ?_, hF.tr q2⟩
      rw [← hT, if_pos (by omega)]
    · have e' : isIn (P.2.1 y) (sFo s j) = false := by simpa using e
      rw [if_neg e] at hT
      exact Or.inl ⟨(nI (y + 1), m2), ⟨y + 1, m2, by omega, rfl, ⟨CP_fx hL.1 hn q2 (fun a ha => by omega), by rw [q2.i (by omega)]; exact hL.2.1, fun z hz => CFm_of (hL.2.2 z hz) (q2.i (by omega)) (q2.i (by omega))⟩, hF.tr q2, hT⟩, hpre _ (by rw [e']; exact if_pos rfl)⟩) (fun g z hj2 => by
    obtain ⟨y, m', hy, rfl, hL, hF, hT⟩ := hj2
    obtain rfl : y = P.1 := by omega
    have hT' : P.1 = fstF (fun x => isIn (P.2.1 x) (sFo s j)) (P.1 - was) was := hT
    obtain ⟨K144, R0, R1, R2, R3, R4, K147, N147, K148, N148, -⟩ := hL.1.1.pv
    refine ⟨.inl m', ?_, m', by rw [if_neg (by omega)], hF⟩
    show lX2_covers_7 NF 144 (12 + 2 * j) (nI k) (g + 1) (nI P.1) m' = _
    unfold lX2_covers_7
    refine EgR K144 R4 ?_
    refine EaI K148 (nI_s _) (show k + 1 < qN m' 148 by omega) (by omega) (show qI m' 148 (k + 1) = nI P.1 by rw [hF.i (by omega)]; exact h2) ?_
    refine EIp ((nI_leI (by omega) (by omega)).mpr (Nat.le_refl _)) ?_
    rfl) (P.1 - was) NF (nI was, m) (by unfold NF; omega) ⟨was, m, by omega, rfl, h, Fx.rf, rfl⟩
  refine ⟨m2, ?_, e3⟩
  unfold fX2_covers covK
  refine EgR k144 r4 ?_
  refine EaI k148 rfl (show k < qN m 148 by omega) (by omega) h1 ?_
  rw [show lX2_covers_7 NF 144 (12 + 2 * j) (nI k) NF (nI was) m = some r from e1, e2, hcv]
  by_cases e : fstF (fun x => isIn (P.2.1 x) (sFo s j)) (P.1 - was) was < P.1
  · rw [if_pos e, decide_eq_true e]; rfl
  · rw [if_neg e, decide_eq_false e]; rfl
end
