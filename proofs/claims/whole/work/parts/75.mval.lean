section
-- ===== the reference's valuations =====
theorem MS.v {K N : Nat → Nat} {R : Nat → Nat → Option Nat} (h : MS K N R) : K 433 = 10 ∧ R 433 0 = some 434 ∧ K 434 = 12 ∧ N 434 = 7059 ∧ R 433 12 = some 441 ∧ K 441 = 12 ∧ N 441 = 9 ∧ R 433 14 = some 442 ∧ K 442 = 12 ∧ N 442 = 8 := by
  obtain ⟨⟨k433, r0, r1, r2, r3, r4, r6, r10, r12, r14, -⟩, ⟨k434, k435, k436, k437, k438, k439, k440, k441, k442, -⟩, ⟨n434, n435, n436, n437, n438, n439, n440, n441, n442, -⟩⟩ := h
  exact ⟨k433, r0, k434, n434, r12, k441, n441, r14, k442, n442⟩
theorem m_vAt {s : Nat} {φ : Tm} {tb vv : Nat → Nat} (hs : s < 181) (h39 : tS φ ≤ 39) (hb : bel 8 φ) (htb : ∀ i, i < 9 → tb i < 3) (hvv : ∀ v, ocs v φ → vv v < 3) : ∀ (t : Tm) (k p : Nat) (m : qM), tS t ≤ k → (∀ v, ocs v t → ocs v φ) → At (pol φ) p t → MS (qK m) (qN m) (qR m) → SlT (qI m) s φ → (∀ i, i < 9 → qI m 441 i = nI (tb i)) → (∀ v, ocs v φ → qI m 442 v = nI (vv v)) → qI m 433 25 = nI p →
    ∃ m2, fX10_valueAt NF k 433 (nI s) m = some (nI (ev tb vv t), m2) ∧ Fx (fun a => a = 433) m m2 ∧ (∀ j, j ≠ 25 → qI m2 433 j = qI m 433 j) ∧ qI m2 433 25 = nI (p + tS t) := by
  intro t
  induction t with
  | var v =>
    intro k p m hk hoc hA hM hS hT hV h25
    obtain ⟨k, rfl⟩ : ∃ z, k = z + 1 := ⟨k - 1, by simp only [tS] at hk; omega⟩
    obtain ⟨k433, r0, k434, n434, r12, k441, n441, r14, k442, n442⟩ := hM.v
    have hv := At_var hA
    rw [pol_len] at hv
    have ho : ocs v φ := hoc v rfl
    have hv8 := hb v ho
    have hc : qI m 434 (39 * s + p) = nI v := by rw [hS.2 p hv.1, hv.2]
    refine ⟨qsI m 433 25 (nI (p + 1)), ?_, Fx.rf.sI rfl, fun j hj => by simp [qS, hj], by simp [qS, tS]⟩
    conv => lhs; unfold fX10_valueAt
    refine EgR k433 r0 ?_
    refine EgI k433 h25 ?_
    refine EpI k433 (nI_s _) ?_
    refine EaI (show qK (qsI m 433 25 (nI (p + 1))) 434 = 12 from k434) (ix39 _ _) (show 39 * s + p < qN m 434 by omega) (by omega) (show qI (qsI m 433 25 (nI (p + 1))) 434 (39 * s + p) = nI v by simp only [qS]; rw [if_neg (by decide)]; exact hc) ?_
    refine EIn (fun z => by have := (nI_eq (b := 99) (by omega) (by omega)).mp z; omega) ?_
    refine EgR (show qK (qsI m 433 25 (nI (p + 1))) 433 = 10 from k433) (show qR (qsI m 433 25 (nI (p + 1))) 433 14 = some 442 from r14) ?_
    refine EaI (show qK (qsI m 433 25 (nI (p + 1))) 442 = 12 from k442) rfl (show v < qN m 442 by omega) (by omega) (show qI (qsI m 433 25 (nI (p + 1))) 442 v = nI (vv v) by simp only [qS]; rw [if_neg (by decide)]; exact hV v ho) ?_
    rfl
  | op a b iha ihb =>
    intro k p m hk hoc hA hM hS hT hV h25
    simp only [tS] at hk
    obtain ⟨k, rfl⟩ : ∃ z, k = z + 1 := ⟨k - 1, by omega⟩
    obtain ⟨k433, r0, k434, n434, r12, k441, n441, r14, k442, n442⟩ := hM.v
    obtain ⟨h0, h1, h2, h3⟩ := At_op hA
    rw [pol_len] at h0
    have hpa := tS_pos a
    have hpb := tS_pos b
    have hc : qI m 434 (39 * s + p) = nI 99 := by rw [hS.2 p h0, h1]
    let m1 : qM := qsI m 433 25 (nI (p + 1))
    have f1 : Fx (fun a => a = 433) m m1 := Fx.rf.sI rfl
    have tr : ∀ {m' : qM}, Fx (fun a => a = 433) m m' → SlT (qI m') s φ ∧ (∀ i, i < 9 → qI m' 441 i = nI (tb i)) ∧ (∀ v, ocs v φ → qI m' 442 v = nI (vv v)) := fun {m'} f => ⟨SlT_of hS (f.i (by omega)) (f.i (by omega)), fun i hi => by rw [f.i (by omega)]; exact hT i hi, fun v hv => by rw [f.i (by omega)]; exact hV v hv⟩
    obtain ⟨t1, t2, t3⟩ := tr f1
    obtain ⟨m2, p1, p2, p3, p4⟩ := iha k (p + 1) m1 (by omega) (fun v hv => hoc v (Or.inl hv)) h2 (f1.M hM) t1 t2 t3 (by simp [m1, qS])
    have f2 := f1.tr p2
    obtain ⟨t4, t5, t6⟩ := tr f2
    obtain ⟨m3, q1, q2, q3, q4⟩ := ihb k (p + 1 + tS a) m2 (by omega) (fun v hv => hoc v (Or.inr hv)) h3 (f2.M hM) t4 t5 t6 p4
    have f3 := f2.tr q2
    obtain ⟨t7, t8, t9⟩ := tr f3
    have ea := ev_lt htb a (fun v hv => hvv v (hoc v (Or.inl hv)))
    have eb := ev_lt htb b (fun v hv => hvv v (hoc v (Or.inr hv)))
    obtain ⟨K433, -, -, -, R12, K441, N441, -⟩ := (f3.M hM).v
    have K2 := (f2.M hM).v.1
    refine ⟨m3, ?_, f3, fun j hj => ?_, ?_⟩
    · conv => lhs; unfold fX10_valueAt
      refine EgR k433 r0 ?_
      refine EgI k433 h25 ?_
      refine EpI k433 (nI_s _) ?_
      refine EaI (show qK m1 434 = 12 from k434) (ix39 _ _) (show 39 * s + p < qN m 434 by omega) (by omega) (show qI m1 434 (39 * s + p) = nI 99 by simp only [m1, qS]; rw [if_neg (by decide)]; exact hc) ?_
      refine EIp rfl ?_
      refine EC (show qK m1 433 = 10 from k433) p1 ?_
      refine EC K2 q1 ?_
      refine EgR K433 R12 ?_
      refine EaI K441 (show ((3 : Int32) * nI (ev tb vv a)) + nI (ev tb vv b) = nI (3 * ev tb vv a + ev tb vv b) by rw [show (3 : Int32) * nI (ev tb vv a) = nI (3 * ev tb vv a) from pk_mul 3 _, nI_add]) (show 3 * ev tb vv a + ev tb vv b < qN m3 441 by omega) (by omega) (t8 _ (by omega)) ?_
      rfl
    · rw [q3 j hj, p3 j hj]
      simp [m1, qS, hj]
    · rw [q4]
      congr 1
      simp only [tS]; omega
theorem m_values {m : qM} {many k : Nat} (hM : MS (qK m) (qN m) (qR m)) (hm : many ≤ 8) (hk : k < 7000) : ∃ m2, fX10_values NF 433 (nI k) (nI many) m = some m2 ∧ Fx (fun a => a = 442) m m2 ∧ ∀ v, v < many → qI m2 442 v = nI (vl many k v) := by
  have gen : ∀ (r k n : Nat) (m : qM), MS (qK m) (qN m) (qR m) → r ≤ 8 → k < 7000 → r < n → ∃ m2, lX10_values_7 NF 433 n (nI k) (nI r + (-1)) m = some m2 ∧ Fx (fun a => a = 442) m m2 ∧ (∀ j, j < r → qI m2 442 (r - 1 - j) = nI (d3 k j)) ∧ ∀ v, r ≤ v → qI m2 442 v = qI m 442 v := by
    intro r
    induction r with
    | zero =>
      intro k n m hM hr hk hn
      obtain ⟨n, rfl⟩ : ∃ z, n = z + 1 := ⟨n - 1, by omega⟩
      refine ⟨m, ?_, Fx.rf, fun j hj => by omega, fun _ _ => rfl⟩
      unfold lX10_values_7
      rw [if_pos (by decide)]
    | succ r ih =>
      intro k n m hM hr hk hn
      obtain ⟨n, rfl⟩ : ∃ z, n = z + 1 := ⟨n - 1, by omega⟩
      have hM0 := hM
      obtain ⟨k433, r0, k434, n434, r12, k441, n441, r14, k442, n442⟩ := hM.v
      obtain ⟨m2, p1, p2, p3, p4⟩ := ih (k / 3) n (qsI m 442 r (nI (k % 3))) hM0 (by omega) (by omega) (by omega)
      refine ⟨m2, ?_, (Fx.sI (D := fun a => a = 442) Fx.rf rfl).tr p2, fun j hj => ?_, fun v hv => ?_⟩
      · rw [show nI (r + 1) + (-1 : Int32) = nI r from nI_p (by omega)]
        conv => lhs; unfold lX10_values_7
        refine EIn (nI_pos (by omega)) ?_
        refine EgR k433 r14 ?_
        refine EwI k442 rfl (show r < qN m 442 by omega) (by omega) (show nI k - nI k / (3 : Int32) * (3 : Int32) = nI (k % 3) from pk_rem (d := 3) (by omega) (by omega) (by omega)) ?_
        rw [show nI k / (3 : Int32) = nI (k / 3) from pk_div (d := 3) (by omega) (by omega) (by omega)]
        exact p1
      · cases j with
        | zero =>
          rw [show r + 1 - 1 - 0 = r by omega, p4 r (Nat.le_refl _)]
          simp [qS]
          rfl
        | succ j =>
          rw [show r + 1 - 1 - (j + 1) = r - 1 - j by omega]
          exact p3 j (by omega)
      · rw [p4 v (by omega)]
        have : ¬ v = r := by omega
        simp [qS, this]
  obtain ⟨m2, p1, p2, p3, -⟩ := gen many k NF m hM hm hk (by unfold NF; omega)
  refine ⟨m2, ?_, p2, fun v hv => ?_⟩
  · unfold fX10_values
    rw [show nI many - (1 : Int32) = nI many + (-1) by rw [Int32.sub_eq_add_neg]]
    refine EB p1 ?_
    rfl
  · have := p3 (many - 1 - v) (by omega)
    rw [show many - 1 - (many - 1 - v) = v by omega] at this
    exact this
theorem m_power {m : qM} {many : Nat} (hm : many ≤ 8) : fX10_power NF (nI many) m = some (nI (3 ^ many), m) := by
  obtain ⟨b, e1, e2⟩ := walk (l := fun g (x : Int32 × Int32) => lX10_power_4 NF (nI many) g x.1 x.2 m) (J := fun r x => ∃ k, k + r = many ∧ x = (nI (3 ^ k), nI k)) (Q := fun b => b = (nI (3 ^ many), m)) (fun g r x hj => by
    obtain ⟨k, hk, rfl⟩ := hj
    refine Or.inl ⟨(nI (3 ^ (k + 1)), nI (k + 1)), ⟨k + 1, by omega, rfl⟩, ?_⟩
    show lX10_power_4 NF (nI many) (g + 1) (nI (3 ^ k)) (nI k) m = lX10_power_4 NF (nI many) g (nI (3 ^ (k + 1))) (nI (k + 1)) m
    conv => lhs; unfold lX10_power_4
    refine EIn (fun z => by have := (nI_leI (by omega) (by omega)).mp z; omega) ?_
    rw [show nI (3 ^ k) * (3 : Int32) = nI (3 ^ k * 3) from pk_mul _ 3, nI_s, Nat.pow_succ]) (fun g x hj => by
    obtain ⟨k, hk, rfl⟩ := hj
    obtain rfl : k = many := by omega
    refine ⟨_, ?_, rfl⟩
    show lX10_power_4 NF (nI k) (g + 1) (nI (3 ^ k)) (nI k) m = _
    unfold lX10_power_4
    refine EIp ((nI_leI (by omega) (by omega)).mpr (Nat.le_refl _)) ?_
    rfl) many NF (nI (3 ^ 0), nI 0) (by unfold NF; omega) ⟨0, by omega, rfl⟩
  unfold fX10_power
  refine EB (show lX10_power_4 NF (nI many) NF 1 0 m = some (nI (3 ^ many), m) by rw [← e2]; exact e1) ?_
  rfl
def dVm (a : Nat) : Prop := a = 433 ∨ a = 442
theorem m_valK {m : qM} {s : ST} {j k : Nat} (h : MP m s) (hs : okS s) (hj : j < sN s) (h8 : nv (sFo s j) ≤ 8) (hk : k < 7000) : ∃ m1 m2, fX10_values NF 433 (nI k) (nI (nv (sFo s j))) m = some m1 ∧ MP m1 s ∧ fX10_valueOf NF 433 (nI j) m1 = some (nI (ev (sTb s) (vl (nv (sFo s j)) k) (sFo s j)), m2) ∧ MP m2 s ∧ Fx dVm m m2 ∧ Fx dVm m m1 ∧ ∀ v, v < nv (sFo s j) → qI m1 442 v = nI (vl (nv (sFo s j)) k v) := by
  have hn := hs.1.1
  have hφ := hs.1.2.2 j hj
  obtain ⟨m1, p1, p2, p3⟩ := m_values h.1 h8 hk
  have hP1 : MP m1 s := MP_fx h p2 (fun a ha => by omega) (by rw [p2.i (by omega)]) (by rw [p2.i (by omega)]) (by rw [p2.i (by omega)]) (by rw [p2.i (by omega)])
  have hP1' : MP (qsI m1 433 25 (nI 0)) s := MP_433 hP1 (by decide) (by decide) (by decide) (by decide)
  have hmx := hP1'.2.2.2.2.2.1
  obtain ⟨m2, q1, q2, q3, q4⟩ := m_vAt (s := j) (φ := sFo s j) (tb := sTb s) (vv := vl (nv (sFo s j)) k) (by omega) hφ.2.1 (fun v hv => by have := okF_oc hφ v hv; omega) (fun i hi => (hmx.2.2 i hi).2) (fun v _ => d3_lt _ _) (sFo s j) kR 0 (qsI m1 433 25 (nI 0)) (by have := hφ.2.1; unfold kR; omega) (fun v hv => hv) At_self hP1'.1 (hP1'.2.2.2.2.1.2 j hj).1 (fun i hi => (hmx.2.2 i hi).1) (fun v hv => by
    have : qI (qsI m1 433 25 (nI 0)) 442 v = qI m1 442 v := by simp [qS]
    rw [this]
    exact p3 v (okF_oc hφ v hv)) (by simp [qS])
  have hP2 : MP m2 s := MP_fx hP1' q2 (fun a ha => by omega) (q3 5 (by decide)) (q3 7 (by decide)) (q3 11 (by decide)) (q3 13 (by decide))
  refine ⟨m1, m2, p1, hP1, ?_, hP2, (Fx.sI (D := dVm) (p2.mono (fun a ha => Or.inr ha)) (Or.inl rfl)).tr (q2.mono (fun a ha => Or.inl ha)), p2.mono (fun a ha => Or.inr ha), p3⟩
  unfold fX10_valueOf
  refine EpI hP1.1.a.1 (show (0 : Int32) = nI 0 from rfl) ?_
  refine EC hP1'.1.a.1 q1 ?_
  rfl
theorem m_refutes {m : qM} {s : ST} {j : Nat} (h : MP m s) (hs : okS s) (hj : j < sN s) (h8 : nv (sFo s j) ≤ 8) : ∃ m2, fX10_refutes NF 433 (nI j) (nI (nv (sFo s j))) m = some (if rfK (sTb s) (sDe s) (sFo s j) < 3 ^ nv (sFo s j) then nI (rfK (sTb s) (sDe s) (sFo s j)) else -1, m2) ∧ MP m2 s ∧ Fx dVm m m2 := by
  have hp3 := p3_le h8
  obtain ⟨b, e1, m', e2, e3, e4⟩ := walk (l := fun g (x : Int32 × qM) => lX10_refutes_2 NF 433 (nI j) (nI (nv (sFo s j))) g x.1 x.2) (J := fun r x => ∃ k m', k + r = 3 ^ nv (sFo s j) ∧ x = (nI k, m') ∧ MP m' s ∧ Fx dVm m m' ∧ fstF (rfP (sTb s) (sDe s) (sFo s j)) r k = rfK (sTb s) (sDe s) (sFo s j)) (Q := fun b => ∃ m', MP m' s ∧ Fx dVm m m' ∧ b = (if rfK (sTb s) (sDe s) (sFo s j) < 3 ^ nv (sFo s j) then .inr (nI (rfK (sTb s) (sDe s) (sFo s j)), m') else .inl m')) (fun g r x hj2 => by
    obtain ⟨k, m', hk, rfl, hP', hF, hp⟩ := hj2
    obtain ⟨m1, m2, q1, q2, q3, q4, q5, -, -⟩ := m_valK (k := k) hP' hs hj h8 (by omega)
    have hdg := m_dg q4.1 q4.2.2.2.2.2.1 (nI (ev (sTb s) (vl (nv (sFo s j)) k) (sFo s j)))
    have hpre : ∀ R, (if dg (sDe s) (nI (ev (sTb s) (vl (nv (sFo s j)) k) (sFo s j))) = 0 then some (.inr (nI k, m2)) else lX10_refutes_2 NF 433 (nI j) (nI (nv (sFo s j))) g (nI (k + 1)) m2) = R → lX10_refutes_2 NF 433 (nI j) (nI (nv (sFo s j))) (g + 1) (nI k) m' = R := by
      intro R hR
      unfold lX10_refutes_2
      refine EB (m_power h8) ?_
      refine EIn (fun z => by have := (nI_leI (by omega) (by omega)).mp z; omega) ?_
      refine EC hP'.1.a.1 q1 ?_
      refine EC q2.1.a.1 q3 ?_
      refine EC q4.1.a.1 hdg ?_
      rw [nI_s]
      exact hR
    rw [fstF_s] at hp
    by_cases e : dg (sDe s) (nI (ev (sTb s) (vl (nv (sFo s j)) k) (sFo s j))) = 0
    · have er : rfP (sTb s) (sDe s) (sFo s j) k = true := decide_eq_true e
      rw [if_pos er] at hp
      refine Or.inr ⟨_, hpre _ (if_pos e), m2, q4, hF.tr q5, ?_⟩
      rw [← hp, if_pos (by omega)]
    · have er : ¬ rfP (sTb s) (sDe s) (sFo s j) k = true := fun z => e (of_decide_eq_true z)
      rw [if_neg er] at hp
      exact Or.inl ⟨(nI (k + 1), m2), ⟨k + 1, m2, by omega, rfl, q4, hF.tr q5, hp⟩, hpre _ (if_neg e)⟩) (fun g x hj2 => by
    obtain ⟨k, m', hk, rfl, hP', hF, hp⟩ := hj2
    obtain rfl : k = 3 ^ nv (sFo s j) := by omega
    have hp2 : 3 ^ nv (sFo s j) = rfK (sTb s) (sDe s) (sFo s j) := hp
    refine ⟨.inl m', ?_, m', hP', hF, by rw [if_neg (by omega)]⟩
    show lX10_refutes_2 NF 433 (nI j) (nI (nv (sFo s j))) (g + 1) (nI (3 ^ nv (sFo s j))) m' = _
    unfold lX10_refutes_2
    refine EB (m_power h8) ?_
    refine EIp ((nI_leI (by omega) (by omega)).mpr (Nat.le_refl _)) ?_
    rfl) (3 ^ nv (sFo s j)) NF (nI 0, m) (by unfold NF; omega) ⟨0, m, by omega, rfl, h, Fx.rf, rfl⟩
  refine ⟨m', ?_, e2, e3⟩
  unfold fX10_refutes
  rw [show lX10_refutes_2 NF 433 (nI j) (nI (nv (sFo s j))) NF 0 m = some b from e1, e4]
  by_cases e : rfK (sTb s) (sDe s) (sFo s j) < 3 ^ nv (sFo s j)
  · rw [if_pos e, if_pos e]; rfl
  · rw [if_neg e, if_neg e]; rfl
theorem m_isValid {m : qM} {s : ST} (h : MP m s) (hs : okS s) (v : Int32) : ∃ m2, fX10_isValid NF 433 v m = some (aVal s v, m2) ∧ MP m2 s ∧ Gm m m2 := by
  have hP := h
  obtain ⟨hM, -, -, -, hL, -⟩ := h
  have hn := hs.1.1
  have k433 := hM.a.1
  unfold fX10_isValid aVal
  rcases hasA_cases (n := sN s) (by omega) v with ⟨h1, -⟩ | ⟨j, hj, rfl, h1⟩
  · rw [ansN_miss h1]
    refine ⟨m, ?_, hP, Fx.rf⟩
    refine EC k433 (m_isOne k433 hL.1 hn v) ?_
    refine EIp h1 ?_
    rfl
  · rw [ansN_hit (by omega) h1]
    have hφ := hs.1.2.2 j hj
    have h39 := nv_12 hφ
    have hvr := m_vars hM (by omega) (hL.2 j hj).1 hφ
    unfold vaG
    by_cases e : nv (sFo s j) ≤ 8
    · rw [if_pos e]
      have hp3 := p3_le e
      obtain ⟨m2, p1, p2, p3⟩ := m_refutes hP hs hj e
      refine ⟨m2, ?_, p2, p3.mono (fun a ha => by unfold dVm at ha; omega)⟩
      refine EC k433 (m_isOne k433 hL.1 hn _) ?_
      refine EIn (show ¬ hasA (sN s) (nI j) = 0 by rw [h1]; exact i10) ?_
      refine EC k433 hvr ?_
      refine EIp ((nI_leI (b := 8) (by omega) (by omega)).mpr e) ?_
      refine EC k433 p1 ?_
      by_cases e2 : rfK (sTb s) (sDe s) (sFo s j) < 3 ^ nv (sFo s j)
      · rw [if_pos e2, if_pos e2]
        refine EIp (nI_g0 (by omega)) ?_
        rfl
      · rw [if_neg e2, if_neg e2]
        refine EIn (show ¬ (0 : Int32) ≤ -1 by decide) ?_
        rfl
    · rw [if_neg e]
      refine ⟨m, ?_, hP, Fx.rf⟩
      refine EC k433 (m_isOne k433 hL.1 hn _) ?_
      refine EIn (show ¬ hasA (sN s) (nI j) = 0 by rw [h1]; exact i10) ?_
      refine EC k433 hvr ?_
      refine EIn (fun z => e ((nI_leI (b := 8) (by omega) (by omega)).mp z)) ?_
      rfl
theorem m_refutation {m : qM} {s : ST} (h : MP m s) (hs : okS s) (v w : Int32) : ∃ m2, fX10_refutation NF 433 v w m = some (aRef s v w, m2) ∧ MP m2 s ∧ Gm m m2 := by
  have hP := h
  obtain ⟨hM, -, -, -, hL, -⟩ := h
  have hn := hs.1.1
  have k433 := hM.a.1
  unfold fX10_refutation aRef
  rcases hasA_cases (n := sN s) (by omega) v with ⟨h1, -⟩ | ⟨j, hj, rfl, h1⟩
  · rw [ansN_miss h1]
    refine ⟨m, ?_, hP, Fx.rf⟩
    refine EC k433 (m_isOne k433 hL.1 hn v) ?_
    refine EIp h1 ?_
    rfl
  · rw [ansN_hit (by omega) h1]
    have hφ := hs.1.2.2 j hj
    have h39 := nv_12 hφ
    have hvr := m_vars hM (by omega) (hL.2 j hj).1 hφ
    have hin : fX10_in NF w 0 (nI (nv (sFo s j)) - 1) m = some (hasA (nv (sFo s j)) w, m) := in_range (by omega) w
    show ∃ m2, _ = some (ansN (-1) (nv (sFo s j)) (rfG s j) w, m2) ∧ MP m2 s ∧ Gm m m2
    rcases hasA_cases (n := nv (sFo s j)) (by omega) w with ⟨h2, h2'⟩ | ⟨x, hx, rfl, h2⟩
    · rw [ansN_miss h2]
      refine ⟨m, ?_, hP, Fx.rf⟩
      refine EC k433 (m_isOne k433 hL.1 hn _) ?_
      refine EIn (show ¬ hasA (sN s) (nI j) = 0 by rw [h1]; exact i10) ?_
      refine EC k433 hvr ?_
      refine EB hin ?_
      refine EIp h2 ?_
      rfl
    · rw [ansN_hit (by omega) h2]
      unfold rfG
      by_cases e : nv (sFo s j) ≤ 8
      · rw [if_pos e]
        have hp3 := p3_le e
        obtain ⟨m2, p1, p2, p3⟩ := m_refutes hP hs hj e
        by_cases e2 : rfK (sTb s) (sDe s) (sFo s j) < 3 ^ nv (sFo s j)
        · rw [if_pos e2] at p1
          rw [if_pos e2]
          obtain ⟨m3, -, q1, q2, -, -, -, q6, q7⟩ := m_valK (k := rfK (sTb s) (sDe s) (sFo s j)) p2 hs hj e (by omega)
          obtain ⟨K433, -, -, -, -, -, -, R14, K442, N442⟩ := q2.1.v
          refine ⟨m3, ?_, q2, (p3.tr q6).mono (fun a ha => by unfold dVm at ha; omega)⟩
          refine EC k433 (m_isOne k433 hL.1 hn _) ?_
          refine EIn (show ¬ hasA (sN s) (nI j) = 0 by rw [h1]; exact i10) ?_
          refine EC k433 hvr ?_
          refine EB hin ?_
          refine EIn (show ¬ hasA (nv (sFo s j)) (nI x) = 0 by rw [h2]; exact i10) ?_
          refine EC k433 hvr ?_
          refine EIp ((nI_leI (b := 8) (by omega) (by omega)).mpr e) ?_
          refine EC k433 p1 ?_
          refine EIp (nI_g0 (by omega)) ?_
          refine EC p2.1.a.1 q1 ?_
          refine EgR K433 R14 ?_
          refine EaI K442 rfl (by omega) (by omega) (q7 x hx) ?_
          rfl
        · rw [if_neg e2] at p1
          rw [if_neg e2]
          refine ⟨m2, ?_, p2, p3.mono (fun a ha => by unfold dVm at ha; omega)⟩
          refine EC k433 (m_isOne k433 hL.1 hn _) ?_
          refine EIn (show ¬ hasA (sN s) (nI j) = 0 by rw [h1]; exact i10) ?_
          refine EC k433 hvr ?_
          refine EB hin ?_
          refine EIn (show ¬ hasA (nv (sFo s j)) (nI x) = 0 by rw [h2]; exact i10) ?_
          refine EC k433 hvr ?_
          refine EIp ((nI_leI (b := 8) (by omega) (by omega)).mpr e) ?_
          refine EC k433 p1 ?_
          refine EIn (show ¬ (0 : Int32) ≤ -1 by decide) ?_
          rfl
      · rw [if_neg e]
        refine ⟨m, ?_, hP, Fx.rf⟩
        refine EC k433 (m_isOne k433 hL.1 hn _) ?_
        refine EIn (show ¬ hasA (sN s) (nI j) = 0 by rw [h1]; exact i10) ?_
        refine EC k433 hvr ?_
        refine EB hin ?_
        refine EIn (show ¬ hasA (nv (sFo s j)) (nI x) = 0 by rw [h2]; exact i10) ?_
        refine EC k433 hvr ?_
        refine EIn (fun z => e ((nI_leI (b := 8) (by omega) (by omega)).mp z)) ?_
        rfl
theorem m_count {m : qM} {s : ST} (h : MP m s) (hs : okS s) (v w : Int32) : ∃ m2, fX10_countValuations NF 433 v w m = some (aCnt s v w, m2) ∧ MP m2 s ∧ Gm m m2 := by
  have hP := h
  obtain ⟨hM, -, -, -, hL, hmx, -⟩ := h
  have hn := hs.1.1
  have k433 := hM.a.1
  unfold fX10_countValuations aCnt
  rcases hasA_cases (n := sN s) (by omega) v with ⟨h1, -⟩ | ⟨j, hj, rfl, h1⟩
  · rw [ansN_miss h1]
    refine ⟨m, ?_, hP, Fx.rf⟩
    refine EC k433 (m_isOne k433 hL.1 hn v) ?_
    refine EIp h1 ?_
    rfl
  · rw [ansN_hit (by omega) h1]
    have hφ := hs.1.2.2 j hj
    have h39 := nv_12 hφ
    have hvr := m_vars hM (by omega) (hL.2 j hj).1 hφ
    show ∃ m2, _ = some (if b3 w = 0 then -1 else cnG s j w.toNatClampNeg, m2) ∧ MP m2 s ∧ Gm m m2
    rcases b3_cases w with hb | ⟨hb, x, hx, rfl⟩
    · rw [if_pos hb]
      refine ⟨m, ?_, hP, Fx.rf⟩
      refine EC k433 (m_isOne k433 hL.1 hn _) ?_
      refine EIn (show ¬ hasA (sN s) (nI j) = 0 by rw [h1]; exact i10) ?_
      refine EB isVal_eq ?_
      refine EIp hb ?_
      rfl
    · rw [if_neg (by rw [hb]; exact i10), nI_clamp (by omega)]
      unfold cnG
      by_cases e : nv (sFo s j) ≤ 8
      · rw [if_pos e]
        have hp3 := p3_le e
        obtain ⟨b, e1, m', e2, e3, e4⟩ := walk (l := fun g (y : Int32 × Int32 × qM) => lX10_countValuations_38 NF 433 (nI j) (nI x) (nI (nv (sFo s j))) g y.1 y.2.1 y.2.2) (J := fun r y => ∃ k m', k + r = 3 ^ nv (sFo s j) ∧ y = (nI (cnt (cvP (sTb s) (sFo s j) x) k), nI k, m') ∧ MP m' s ∧ Fx dVm m m') (Q := fun b => ∃ m', b = (nI (cnt (cvP (sTb s) (sFo s j) x) (3 ^ nv (sFo s j))), m') ∧ MP m' s ∧ Fx dVm m m') (fun g r y hj2 => by
          obtain ⟨k, m', hk, rfl, hP', hF⟩ := hj2
          obtain ⟨m1, m2, q1, q2, q3, q4, q5, -, -⟩ := m_valK (k := k) hP' hs hj e (by omega)
          have hel : ev (sTb s) (vl (nv (sFo s j)) k) (sFo s j) < 3 := ev_lt (fun i hi => (hmx.2.2 i hi).2) _ (fun v _ => d3_lt _ _)
          refine Or.inl ⟨(nI (cnt (cvP (sTb s) (sFo s j) x) (k + 1)), nI (k + 1), m2), ⟨k + 1, m2, by omega, rfl, q4, hF.tr q5⟩, ?_⟩
          show lX10_countValuations_38 NF 433 (nI j) (nI x) (nI (nv (sFo s j))) (g + 1) (nI (cnt (cvP (sTb s) (sFo s j) x) k)) (nI k) m' = lX10_countValuations_38 NF 433 (nI j) (nI x) (nI (nv (sFo s j))) g (nI (cnt (cvP (sTb s) (sFo s j) x) (k + 1))) (nI (k + 1)) m2
          have hc : cnt (cvP (sTb s) (sFo s j) x) (k + 1) = cnt (cvP (sTb s) (sFo s j) x) k + (if cvP (sTb s) (sFo s j) x k = true then 1 else 0) := rfl
          conv => lhs; unfold lX10_countValuations_38
          unfold kX10_countValuations_66
          refine EB (m_power e) ?_
          refine EIn (fun z => by have := (nI_leI (by omega) (by omega)).mp z; omega) ?_
          refine EC hP'.1.a.1 q1 ?_
          refine EC q2.1.a.1 q3 ?_
          by_cases e5 : ev (sTb s) (vl (nv (sFo s j)) k) (sFo s j) = x
          · have er : cvP (sTb s) (sFo s j) x k = true := decide_eq_true e5
            rw [hc, if_pos er]
            refine EIp (by rw [e5]) ?_
            rw [nI_s, nI_s]
          · have er : ¬ cvP (sTb s) (sFo s j) x k = true := fun z => e5 (of_decide_eq_true z)
            rw [hc, if_neg er]
            refine EIn (fun z => e5 ((nI_eq (by omega) (by omega)).mp z)) ?_
            rw [nI_s]
            rfl) (fun g y hj2 => by
          obtain ⟨k, m', hk, rfl, hP', hF⟩ := hj2
          obtain rfl : k = 3 ^ nv (sFo s j) := by omega
          refine ⟨_, ?_, m', rfl, hP', hF⟩
          show lX10_countValuations_38 NF 433 (nI j) (nI x) (nI (nv (sFo s j))) (g + 1) (nI (cnt (cvP (sTb s) (sFo s j) x) (3 ^ nv (sFo s j)))) (nI (3 ^ nv (sFo s j))) m' = _
          unfold lX10_countValuations_38
          refine EB (m_power e) ?_
          refine EIp ((nI_leI (by omega) (by omega)).mpr (Nat.le_refl _)) ?_
          rfl) (3 ^ nv (sFo s j)) NF (nI 0, nI 0, m) (by unfold NF; omega) ⟨0, m, by omega, rfl, hP, Fx.rf⟩
        refine ⟨m', ?_, e3, e4.mono (fun a ha => by unfold dVm at ha; omega)⟩
        refine EC k433 (m_isOne k433 hL.1 hn _) ?_
        refine EIn (show ¬ hasA (sN s) (nI j) = 0 by rw [h1]; exact i10) ?_
        refine EB isVal_eq ?_
        refine EIn (show ¬ b3 (nI x) = 0 by rw [hb]; exact i10) ?_
        refine EC k433 hvr ?_
        refine EIp ((nI_leI (b := 8) (by omega) (by omega)).mpr e) ?_
        refine EB (show lX10_countValuations_38 NF 433 (nI j) (nI x) (nI (nv (sFo s j))) NF 0 0 m = some (nI (cnt (cvP (sTb s) (sFo s j) x) (3 ^ nv (sFo s j))), m') by rw [← e2]; exact e1) ?_
        rfl
      · rw [if_neg e]
        refine ⟨m, ?_, hP, Fx.rf⟩
        refine EC k433 (m_isOne k433 hL.1 hn _) ?_
        refine EIn (show ¬ hasA (sN s) (nI j) = 0 by rw [h1]; exact i10) ?_
        refine EB isVal_eq ?_
        refine EIn (show ¬ b3 (nI x) = 0 by rw [hb]; exact i10) ?_
        refine EC k433 hvr ?_
        refine EIn (fun z => e ((nI_leI (b := 8) (by omega) (by omega)).mp z)) ?_
        rfl
end
