section
-- ===== the reference's matching =====
theorem m_endT {m : qM} {s : Nat} {φ : Tm} (hM : MS (qK m) (qN m) (qR m)) (hs : s < 181) (hS : SlT (qI m) s φ) (h39 : tS φ ≤ 39) (hb : bel 99 φ) : ∀ (t : Tm) (i d n : Nat), bel 99 t → At (pol φ) i t → d + tS t ≤ 1000 → lX10_endOf_5 NF 433 (nI s) (n + tS t) (nI (d + 1)) (nI i) m = lX10_endOf_5 NF 433 (nI s) n (nI d) (nI (i + tS t)) m := by
  obtain ⟨k433, r0, r1, r2, r3, k434, k435, k436, k437, n434, n435, n436, n437⟩ := hM.a
  have step : ∀ (i d n : Nat), i < tS φ → d < 2000 → lX10_endOf_5 NF 433 (nI s) (n + 1) (nI (d + 1)) (nI i) m = if (pol φ).getD i 0 = 99 then lX10_endOf_5 NF 433 (nI s) n (nI (d + 2)) (nI (i + 1)) m else lX10_endOf_5 NF 433 (nI s) n (nI d) (nI (i + 1)) m := by
    intro i d n hi hd
    have hp := pol_lt hb i
    have c4i := hS.2 i hi
    conv => lhs; unfold lX10_endOf_5
    unfold kX10_endOf_35
    refine EIn (fun z => by have := (nI_leI (b := 0) (by omega) (by omega)).mp z; omega) ?_
    refine EgR k433 r0 ?_
    refine EaI k434 (ix39 _ _) (by omega) (by omega) c4i ?_
    by_cases e : (pol φ).getD i 0 = 99
    · rw [if_pos e]
      refine EIp (by rw [e]; rfl) ?_
      rw [nI_s, nI_s]
    · rw [if_neg e]
      refine EIn (fun z => e ((nI_eq (b := 99) (by omega) (by omega)).mp z)) ?_
      rw [nI_s i, nI_p (by omega), Nat.add_sub_cancel]
  intro t
  induction t with
  | var v =>
    intro i d n hbt hA hd
    have hv := At_var hA
    rw [pol_len] at hv
    have hv99 := bel_var.mp hbt
    simp only [tS]
    rw [step i d n hv.1 (by omega), if_neg (by omega)]
  | op a b iha ihb =>
    intro i d n hbt hA hd
    obtain ⟨hb1, hb2⟩ := bel_op.mp hbt
    obtain ⟨h0, h1, h2, h3⟩ := At_op hA
    rw [pol_len] at h0
    simp only [tS] at hd ⊢
    rw [show n + (tS a + tS b + 1) = (n + tS b + tS a) + 1 by omega, step i d _ h0 (by omega), if_pos h1, iha (i + 1) (d + 1) (n + tS b) hb1 h2 (by omega), ihb (i + 1 + tS a) d n hb2 h3 (by omega)]
    congr 2
    omega
theorem m_endOf {m : qM} {s q : Nat} {φ u : Tm} (hM : MS (qK m) (qN m) (qR m)) (hs : s < 181) (hS : SlT (qI m) s φ) (h39 : tS φ ≤ 39) (hb : bel 99 φ) (hu : bel 99 u) (hA : At (pol φ) q u) : fX10_endOf NF 433 (nI s) (nI q) m = some (nI (q + tS u), m) := by
  have hl := hA.1
  rw [pol_len] at hl
  have h1 := m_endT hM hs hS h39 hb u q 0 (NF - tS u) hu hA (by omega)
  rw [show NF - tS u + tS u = NF by unfold NF; omega] at h1
  obtain ⟨z, hz⟩ : ∃ z, NF - tS u = z + 1 := ⟨NF - tS u - 1, by unfold NF; omega⟩
  have h2 : lX10_endOf_5 NF 433 (nI s) (NF - tS u) (nI 0) (nI (q + tS u)) m = some (nI (q + tS u), m) := by
    rw [hz]
    unfold lX10_endOf_5
    refine EIp (by decide) ?_
    rfl
  unfold fX10_endOf
  refine EB (show lX10_endOf_5 NF 433 (nI s) NF 1 (nI q) m = some (nI (q + tS u), m) from h1.trans h2) ?_
  rfl
theorem m_cmp {m : qM} {s q b c : Nat} {φ : Tm} {v2 v4 : Int32} (hM : MS (qK m) (qN m) (qR m)) (hs : s < 181) (hS : SlT (qI m) s φ) (h39 : tS φ ≤ 39) (hb : bel 99 φ) (hq : q + c ≤ tS φ) (hbc : b + c ≤ tS φ) : ((∀ i, i < c → (pol φ).getD (q + i) 0 = (pol φ).getD (b + i) 0) → lX10_isFrom_128 NF 433 (nI s) v2 (nI q) v4 (nI (q + c)) (nI b) NF 0 m = some (.inl m)) ∧ ((∃ i, i < c ∧ ¬ (pol φ).getD (q + i) 0 = (pol φ).getD (b + i) 0) → lX10_isFrom_128 NF 433 (nI s) v2 (nI q) v4 (nI (q + c)) (nI b) NF 0 m = some (.inr (0, m))) := by
  obtain ⟨k433, r0, r1, r2, r3, k434, k435, k436, k437, n434, n435, n436, n437⟩ := hM.a
  have esub : nI (q + c) - nI q = nI c := by rw [show nI (q + c) - nI q = nI (q + c - q) from pk_sub (by omega)]; congr 1; omega
  have stop : ∀ f, lX10_isFrom_128 NF 433 (nI s) v2 (nI q) v4 (nI (q + c)) (nI b) (f + 1) (nI c) m = some (.inl m) := by
    intro f
    unfold lX10_isFrom_128
    refine EIp (by rw [esub]; exact (nI_leI (by omega) (by omega)).mpr (Nat.le_refl _)) ?_
    rfl
  have go : ∀ f k, k < c → lX10_isFrom_128 NF 433 (nI s) v2 (nI q) v4 (nI (q + c)) (nI b) (f + 1) (nI k) m = if (pol φ).getD (q + k) 0 = (pol φ).getD (b + k) 0 then lX10_isFrom_128 NF 433 (nI s) v2 (nI q) v4 (nI (q + c)) (nI b) f (nI (k + 1)) m else some (.inr (0, m)) := by
    intro f k hk
    have p1 := pol_lt hb (q + k)
    have p2 := pol_lt hb (b + k)
    conv => lhs; unfold lX10_isFrom_128
    refine EIn (by rw [esub]; exact fun z => by have := (nI_leI (by omega) (by omega)).mp z; omega) ?_
    refine EgR k433 r0 ?_
    refine EaI k434 (show (((39 : Int32) * nI s) + nI b) + nI k = nI (39 * s + (b + k)) by rw [ix39, nI_add, Nat.add_assoc]) (by omega) (by omega) (hS.2 (b + k) (by omega)) ?_
    refine EgR k433 r0 ?_
    refine EaI k434 (show (((39 : Int32) * nI s) + nI q) + nI k = nI (39 * s + (q + k)) by rw [ix39, nI_add, Nat.add_assoc]) (by omega) (by omega) (hS.2 (q + k) (by omega)) ?_
    by_cases e : (pol φ).getD (q + k) 0 = (pol φ).getD (b + k) 0
    · rw [if_pos e, if_pos (by rw [e]), nI_s]
    · rw [if_neg e, if_neg (fun z => e ((nI_eq (by omega) (by omega)).mp z).symm)]
  constructor
  · intro h
    obtain ⟨x, e1, e2⟩ := walk (l := fun f (k : Int32) => lX10_isFrom_128 NF 433 (nI s) v2 (nI q) v4 (nI (q + c)) (nI b) f k m) (J := fun r y => ∃ k, k + r = c ∧ y = nI k) (Q := fun b => b = .inl m) (fun f r y hj => by
      obtain ⟨k, hk, rfl⟩ := hj
      have hg := go f k (by omega)
      rw [if_pos (h k (by omega))] at hg
      exact Or.inl ⟨nI (k + 1), ⟨k + 1, by omega, rfl⟩, hg⟩) (fun f y hj => by
      obtain ⟨k, hk, rfl⟩ := hj
      obtain rfl : k = c := by omega
      exact ⟨_, stop f, rfl⟩) c NF (nI 0) (by unfold NF; omega) ⟨0, by omega, rfl⟩
    rw [e2] at e1
    exact e1
  · intro h
    obtain ⟨i0, hi0, hne⟩ := h
    obtain ⟨x, e1, e2⟩ := walk (l := fun f (k : Int32) => lX10_isFrom_128 NF 433 (nI s) v2 (nI q) v4 (nI (q + c)) (nI b) f k m) (J := fun r y => ∃ k, k + r = i0 ∧ y = nI k) (Q := fun b => b = .inr (0, m)) (fun f r y hj => by
      obtain ⟨k, hk, rfl⟩ := hj
      have hg := go f k (by omega)
      by_cases e : (pol φ).getD (q + k) 0 = (pol φ).getD (b + k) 0
      · rw [if_pos e] at hg
        exact Or.inl ⟨nI (k + 1), ⟨k + 1, by omega, rfl⟩, hg⟩
      · rw [if_neg e] at hg
        exact Or.inr ⟨_, hg, rfl⟩) (fun f y hj => by
      obtain ⟨k, hk, rfl⟩ := hj
      obtain rfl : k = i0 := by omega
      have hg := go f k hi0
      rw [if_neg hne] at hg
      exact ⟨_, hg, rfl⟩) i0 NF (nI 0) (by unfold NF; omega) ⟨0, by omega, rfl⟩
    rw [e2] at e1
    exact e1
def Bn (I : Nat → Nat → Int32) (k : Nat) : Prop := ∀ v, k ≤ v → v < 26 → I 452 v = -1
theorem m_mt {s z : Nat} {φ γ : Tm} (hs : s < 181) (hz : z < 181) (h39 : tS φ ≤ 39) (h39g : tS γ ≤ 39) (bφ : bel 99 φ) (bγ : bel 12 γ) : ∀ (t u : Tm) (i q n : Nat) (bs : List Tm) (m : qM), MS (qK m) (qN m) (qR m) → SlT (qI m) s φ → SlT (qI m) z γ → At (pol γ) i t → At (pol φ) q u → bel 12 t → bel 99 u → orC bs.length t → bs.length ≤ 12 → SBd (qI m) 452 (pol φ) bs q → Bn (qI m) bs.length →
    ∃ m2, Fx (fun a => a = 452) m m2 ∧ ((mt t u bs = none ∧ lX10_isFrom_26 NF 433 (nI s) (nI z) (n + tS t) (nI q) (nI i) m = some (.inr (0, m2))) ∨ ∃ bs2, mt t u bs = some bs2 ∧ bs2.length ≤ 12 ∧ SBd (qI m2) 452 (pol φ) bs2 (q + tS u) ∧ Bn (qI m2) bs2.length ∧ lX10_isFrom_26 NF 433 (nI s) (nI z) (n + tS t) (nI q) (nI i) m = lX10_isFrom_26 NF 433 (nI s) (nI z) n (nI (q + tS u)) (nI (i + tS t)) m2) := by
  intro t
  induction t with
  | var v =>
    intro u i q n bs m hM hS hZ hA hB bt bu ho hl hSB hBn
    have hv := At_var hA
    rw [pol_len] at hv
    have hv12 := bel_var.mp bt
    have hvl : v ≤ bs.length := ho
    have hq := hB.1
    rw [pol_len] at hq
    have hpu := tS_pos u
    obtain ⟨k433, r0, r1, r2, r3, k434, k435, k436, k437, n434, n435, n436, n437⟩ := hM.a
    obtain ⟨-, -, -, -, -, -, -, r28, k452, n452⟩ := hM.t
    have hcg : qI m 434 (39 * z + i) = nI v := by rw [hZ.2 i hv.1, hv.2]
    have hend := m_endOf hM hs hS h39 bφ bu hB
    have hpre : ∀ R, ((qaI m 452 12 (nI v)).bind fun x7 => if x7 < 0 then (qgR m 433 10 28).bind fun x8 => (qwI m x8 12 (nI v) (nI q)).bind fun m9 => lX10_isFrom_26 NF 433 (nI s) (nI z) n (nI (q + tS u)) (nI (i + 1)) m9 else (qgR m 433 10 28).bind fun x10 => (qaI m x10 12 (nI v)).bind fun x11 => (qChk m 433 10 (fX10_endOf NF 433 (nI s) x11 m)).bind fun b12 => if b12.1 - x11 = nI (q + tS u) - nI q then qTh (lX10_isFrom_128 NF 433 (nI s) (nI z) (nI q) (nI i) (nI (q + tS u)) x11 NF (0 : Int32) b12.2) (fun o13 => lX10_isFrom_26 NF 433 (nI s) (nI z) n (nI (q + tS u)) (nI (i + 1)) o13) (fun r => .inr r) else some (.inr ((0 : Int32), b12.2))) = R → lX10_isFrom_26 NF 433 (nI s) (nI z) (n + 1) (nI q) (nI i) m = R := by
      intro R hR
      conv => lhs; unfold lX10_isFrom_26
      unfold kX10_isFrom_188 kX10_isFrom_191
      refine EgR k433 r1 ?_
      refine EaI k435 rfl (by omega) (by omega) hZ.1 ?_
      refine EIn (fun w => by have := (nI_leI (by omega) (by omega)).mp w; omega) ?_
      refine EgR k433 r0 ?_
      refine EaI k434 (ix39 _ _) (by omega) (by omega) hcg ?_
      refine EIn (fun w => by have := (nI_eq (b := 99) (by omega) (by omega)).mp w; omega) ?_
      refine EC k433 hend ?_
      refine EgR k433 r28 ?_
      rw [nI_s]
      exact hR
    simp only [tS, mt]
    by_cases e : v < bs.length
    · rw [if_pos e]
      obtain ⟨b, s1, s2, s3, s4⟩ := hSB v e
      have hbl := s2.1
      rw [pol_len] at hbl
      have hpb := tS_pos (bs.getD v (.var 0))
      have hend2 := m_endOf hM hs hS h39 bφ s4 s2
      have esub : nI (q + tS u) - nI q = nI (tS u) := by rw [show nI (q + tS u) - nI q = nI (q + tS u - q) from pk_sub (by omega)]; congr 1; omega
      have esub2 : nI (b + tS (bs.getD v (.var 0))) - nI b = nI (tS (bs.getD v (.var 0))) := by rw [show nI (b + tS (bs.getD v (.var 0))) - nI b = nI (b + tS (bs.getD v (.var 0)) - b) from pk_sub (by omega)]; congr 1; omega
      have hsg := seg_same s2 hB s4 bu (by rw [pol_len]; omega)
      have hpre2 : ∀ R, (if nI (tS (bs.getD v (.var 0))) = nI (tS u) then qTh (lX10_isFrom_128 NF 433 (nI s) (nI z) (nI q) (nI i) (nI (q + tS u)) (nI b) NF (0 : Int32) m) (fun o13 => lX10_isFrom_26 NF 433 (nI s) (nI z) n (nI (q + tS u)) (nI (i + 1)) o13) (fun r => .inr r) else some (.inr ((0 : Int32), m))) = R → lX10_isFrom_26 NF 433 (nI s) (nI z) (n + 1) (nI q) (nI i) m = R := by
        intro R hR
        apply hpre
        refine EaI k452 rfl (by omega) (by omega) s1 ?_
        refine EIn (nI_pos (by omega)) ?_
        refine EgR k433 r28 ?_
        refine EaI k452 rfl (by omega) (by omega) s1 ?_
        refine EC k433 hend2 ?_
        dsimp only
        rw [esub, esub2]
        exact hR
      by_cases el : tS (bs.getD v (.var 0)) = tS u
      · obtain ⟨y1, y2⟩ := m_cmp (v2 := nI z) (v4 := nI i) (q := q) (b := b) (c := tS u) hM hs hS h39 bφ (by omega) (by omega)
        by_cases e2 : sameT (bs.getD v (.var 0)) u = true
        · rw [if_pos e2]
          refine ⟨m, Fx.rf, Or.inr ⟨bs, rfl, hl, SBd_mono hSB (by omega), hBn, hpre2 _ ?_⟩⟩
          rw [if_pos (by rw [el]), y1 (fun j hj => hsg.mp e2 j hj)]
          rfl
        · rw [if_neg e2]
          refine ⟨m, Fx.rf, Or.inl ⟨rfl, hpre2 _ ?_⟩⟩
          rw [if_pos (by rw [el]), y2 (by
            apply Classical.byContradiction
            intro hno
            apply e2
            rw [hsg]
            intro j hj
            exact Classical.byContradiction (fun w => hno ⟨j, hj, w⟩))]
          rfl
      · have e2 : ¬ sameT (bs.getD v (.var 0)) u = true := fun w => el (by rw [(sameT_iff s4 bu).mp w])
        rw [if_neg e2]
        refine ⟨m, Fx.rf, Or.inl ⟨rfl, hpre2 _ ?_⟩⟩
        rw [if_neg (fun w => el ((nI_eq (by omega) (by omega)).mp w))]
    · rw [if_neg e]
      obtain rfl : v = bs.length := by omega
      have hneg := hBn bs.length (Nat.le_refl _) (by omega)
      refine ⟨qsI m 452 bs.length (nI q), Fx.rf.sI rfl, Or.inr ⟨bs ++ [u], rfl, by simp; omega, fun j hj => ?_, fun w h1 h2 => ?_, hpre _ ?_⟩⟩
      · rw [getDT_snoc]
        by_cases ej : j = bs.length
        · rw [if_pos ej]
          exact ⟨q, by simp [qS, ej], hB, Nat.le_refl _, bu⟩
        · rw [if_neg ej]
          obtain ⟨b, s1, s2, s3, s4⟩ := hSB j (by simp at hj; omega)
          exact ⟨b, by simp [qS, ej, s1], s2, by omega, s4⟩
      · simp at h1
        have : ¬ w = bs.length := by omega
        simp only [qS, this, ↓reduceIte]
        simp [hBn w (by omega) h2]
      · refine EaI k452 rfl (by omega) (by omega) hneg ?_
        refine EIp (by decide) ?_
        refine EgR k433 r28 ?_
        refine EwI k452 rfl (by omega) (by omega) rfl ?_
        rfl
  | op a b iha ihb =>
    intro u i q n bs m hM hS hZ hA hB bt bu ho hl hSB hBn
    obtain ⟨h0, h1, h2, h3⟩ := At_op hA
    rw [pol_len] at h0
    obtain ⟨bt1, bt2⟩ := bel_op.mp bt
    have hq := hB.1
    rw [pol_len] at hq
    have hpu := tS_pos u
    obtain ⟨k433, r0, r1, r2, r3, k434, k435, k436, k437, n434, n435, n436, n437⟩ := hM.a
    have hcg : qI m 434 (39 * z + i) = nI 99 := by rw [hZ.2 i h0, h1]
    have hcf := hS.2 q (by omega)
    have hpre : ∀ R, (if nI ((pol φ).getD q 0) = (99 : Int32) then lX10_isFrom_26 NF 433 (nI s) (nI z) (n + tS b + tS a) (nI (q + 1)) (nI (i + 1)) m else some (.inr ((0 : Int32), m))) = R → lX10_isFrom_26 NF 433 (nI s) (nI z) (n + (tS a + tS b + 1)) (nI q) (nI i) m = R := by
      intro R hR
      rw [show n + (tS a + tS b + 1) = (n + tS b + tS a) + 1 by omega]
      conv => lhs; unfold lX10_isFrom_26
      unfold kX10_isFrom_191
      refine EgR k433 r1 ?_
      refine EaI k435 rfl (by omega) (by omega) hZ.1 ?_
      refine EIn (fun w => by have := (nI_leI (by omega) (by omega)).mp w; omega) ?_
      refine EgR k433 r0 ?_
      refine EaI k434 (ix39 _ _) (by omega) (by omega) hcg ?_
      refine EIp rfl ?_
      refine EgR k433 r0 ?_
      refine EaI k434 (ix39 _ _) (by omega) (by omega) hcf ?_
      rw [nI_s, nI_s]
      exact hR
    cases u with
    | var w =>
      have hw := At_var hB
      have hw99 := bel_var.mp bu
      simp only [tS, mt]
      refine ⟨m, Fx.rf, Or.inl ⟨trivial, hpre _ ?_⟩⟩
      rw [hw.2]
      exact if_neg (fun y => by have := (nI_eq (b := 99) (by omega) (by omega)).mp y; omega)
    | op l r =>
      obtain ⟨g0, g1, g2, g3⟩ := At_op hB
      obtain ⟨bl, br⟩ := bel_op.mp bu
      simp only [tS, mt]
      have hgo := hpre (lX10_isFrom_26 NF 433 (nI s) (nI z) (n + tS b + tS a) (nI (q + 1)) (nI (i + 1)) m) (by rw [g1]; exact if_pos rfl)
      obtain ⟨m2, f2, hr⟩ := iha l (i + 1) (q + 1) (n + tS b) bs m hM hS hZ h2 g2 bt1 bl ho.1 hl (SBd_mono hSB (by omega)) hBn
      rw [hgo]
      rcases hr with ⟨e1, e2⟩ | ⟨bs2, e1, e2, e3, e5, e4⟩
      · rw [e1, e2]
        exact ⟨m2, f2, Or.inl ⟨rfl, rfl⟩⟩
      · rw [e1, e4]
        have S2 : SlT (qI m2) s φ := by unfold SlT Cd; rw [f2.i (by omega), f2.i (by omega)]; exact hS
        have Z2 : SlT (qI m2) z γ := by unfold SlT Cd; rw [f2.i (by omega), f2.i (by omega)]; exact hZ
        have hnx := mt_nx a l bs bs2 ho.1 e1
        obtain ⟨m3, f3, hr3⟩ := ihb r (i + 1 + tS a) (q + 1 + tS l) n bs2 m2 (f2.M hM) S2 Z2 h3 g3 bt2 br (by rw [hnx]; exact ho.2) e2 e3 e5
        refine ⟨m3, f2.tr f3, ?_⟩
        rw [show q + (tS l + tS r + 1) = q + 1 + tS l + tS r by omega, show i + (tS a + tS b + 1) = i + 1 + tS a + tS b by omega]
        exact hr3
theorem m_beg1 {v1 v2 : Int32} : ∀ (f k : Nat) (m : qM), MS (qK m) (qN m) (qR m) → k ≤ 26 → 26 < f + k → ∃ m2, lX10_isFrom_2 NF 433 v1 v2 f (nI k) m = some m2 ∧ Fx (fun a => a = 452) m m2 ∧ ∀ v, v < 26 → qI m2 452 v = if k ≤ v then -1 else qI m 452 v := by
  intro f
  induction f with
  | zero => intro k m _ h1 h2; omega
  | succ f ih =>
    intro k m hM hk hf
    have hM0 := hM
    obtain ⟨k433, r6, k439, n439, r26, k451, n451, r28, k452, n452⟩ := hM.t
    by_cases e : 26 ≤ k
    · refine ⟨m, ?_, Fx.rf, fun v hv => by rw [if_neg (by omega)]⟩
      unfold lX10_isFrom_2
      refine EIp ((nI_leI (a := 26) (by omega) (by omega)).mpr e) ?_
      rfl
    · obtain ⟨m2, p1, p2, p3⟩ := ih (k + 1) (qsI m 452 k (-1)) hM0 (by omega) (by omega)
      refine ⟨m2, ?_, (Fx.sI (D := fun a => a = 452) Fx.rf rfl).tr p2, fun v hv => ?_⟩
      · conv => lhs; unfold lX10_isFrom_2
        refine EIn (fun z => e ((nI_leI (a := 26) (by omega) (by omega)).mp z)) ?_
        refine EgR k433 r28 ?_
        refine EwI k452 rfl (by omega) (by omega) rfl ?_
        rw [nI_s]; exact p1
      · rw [p3 v hv]
        simp only [qS, ↓reduceIte]
        by_cases e2 : v = k
        · rw [if_neg (by omega), if_pos e2, if_pos (by omega)]
        · rw [if_neg e2]
          by_cases e3 : k + 1 ≤ v
          · rw [if_pos e3, if_pos (by omega)]
          · rw [if_neg e3, if_neg (by omega)]
theorem m_isFrom {m : qM} {s z : Nat} {φ γ : Tm} (hM : MS (qK m) (qN m) (qR m)) (hs : s < 181) (hz : z < 181) (hS : SlT (qI m) s φ) (hZ : SlT (qI m) z γ) (h39 : tS φ ≤ 39) (bφ : bel 99 φ) (hγ : okF γ) : ∃ m2, fX10_isFrom NF 433 (nI s) (nI z) m = some (iB (isIn γ φ), m2) ∧ Fx (fun a => a = 452) m m2 := by
  have hγ39 := hγ.2.1
  obtain ⟨m1, p1, p2, p3⟩ := m_beg1 (v1 := nI s) (v2 := nI z) NF 0 m hM (by omega) (by unfold NF; omega)
  have S1 : SlT (qI m1) s φ := by unfold SlT Cd; rw [p2.i (by omega), p2.i (by omega)]; exact hS
  have Z1 : SlT (qI m1) z γ := by unfold SlT Cd; rw [p2.i (by omega), p2.i (by omega)]; exact hZ
  obtain ⟨m2, f2, hr⟩ := m_mt hs hz h39 hγ39 bφ hγ.1 γ φ 0 0 (NF - tS γ) [] m1 (p2.M hM) S1 Z1 At_self At_self hγ.1 bφ (okF_ord hγ) (by simp) (fun j hj => by simp at hj) (fun v _ hv => by rw [p3 v hv, if_pos (by omega)])
  rw [show NF - tS γ + tS γ = NF by unfold NF; omega] at hr
  have hpre : ∀ (b : qM ⊕ (Int32 × qM)) R, lX10_isFrom_26 NF 433 (nI s) (nI z) NF 0 0 m1 = some b → qTh (some b) (fun o3 => some ((1 : Int32), o3)) (fun r => r) = R → fX10_isFrom NF 433 (nI s) (nI z) m = R := by
    intro b R hb hR
    unfold fX10_isFrom
    refine EB p1 ?_
    rw [hb]; exact hR
  unfold isIn
  rcases hr with ⟨e1, e2⟩ | ⟨bs2, e1, e2, e3, e5, e4⟩
  · rw [e1]
    exact ⟨m2, hpre _ _ e2 rfl, p2.tr f2⟩
  · rw [e1]
    refine ⟨m2, hpre (.inl m2) _ (e4.trans ?_) rfl, p2.tr f2⟩
    obtain ⟨y, hy⟩ : ∃ y, NF - tS γ = y + 1 := ⟨NF - tS γ - 1, by unfold NF; omega⟩
    rw [hy]
    have hM2 := f2.M (p2.M hM)
    obtain ⟨k433, r0, r1, r2, r3, k434, k435, k436, k437, n434, n435, n436, n437⟩ := hM2.a
    unfold lX10_isFrom_26
    refine EgR k433 r1 ?_
    refine EaI k435 rfl (by omega) (by omega) (show qI m2 435 z = nI (tS γ) by rw [f2.i (by omega)]; exact Z1.1) ?_
    refine EIp ((nI_leI (by omega) (by omega)).mpr (by omega)) ?_
    rfl
end
