section
theorem c_solve13 {P : (Nat → Tm) → Prop} {T : Nat → Tm} {nd p q : Nat} (hG : GG T nd) : ∀ (f i k : Nat) (m : qM) (par hd h : Nat → Nat) (shp : Nat → Option Nat) (qf qs : Nat → Nat), xU m → UV m T nd par shp → UF T nd par hd h shp → Cp P T nd par → Cg T nd par hd shp (Qu qf qs i k) p q → i ≤ k → k + 2 * hds par nd ≤ 2 * nd + 1 → 1 ≤ hds par nd → qI m 132 10 = nI k → qI m 132 9 = nI nd → (∀ j, j < k → qI m 138 j = nI (qf j) ∧ qI m 139 j = nI (qs j) ∧ qf j < nd ∧ qs j < nd ∧ ∀ τ, P τ → sb τ (T (qf j)) = sb τ (T (qs j))) → 157 ≤ f + i →
    ∃ m2 par2 hd2 h2 shp2, lX8_mergeAll_13 NF 132 f (nI i) m = some m2 ∧ Fx dSo m m2 ∧ UV m2 T nd par2 shp2 ∧ UF T nd par2 hd2 h2 shp2 ∧ Cp P T nd par2 ∧ Cg T nd par2 hd2 shp2 (fun _ => True) p q ∧ qI m2 132 9 = nI nd := by
  have hnd := hG.1
  intro f
  induction f with
  | zero => intro i k m par hd h shp qf qs _ _ _ _ _ hik hkb hh1 _ _ _ hf; omega
  | succ f ih =>
    intro i k m par hd h shp qf qs hU hV hF hC hCg hik hkb hh1 h10 h9 hQ hf
    have hU0 := hU
    obtain ⟨k132, r0, r1, r2, r3, r4, r5, r6, r7, r8, k133, n133, k134, n134, k135, n135, k136, n136, k137, n137, k138, n138, k139, n139, k140, n140, k141, n141, -⟩ := hU
    by_cases e : k ≤ i
    · refine ⟨m, par, hd, h, shp, ?_, Fx.rf, hV, hF, hC, ?_, h9⟩
      · unfold lX8_mergeAll_13
        refine EgI k132 h10 ?_
        refine EIp ((nI_leI (by omega) (by omega)).mpr e) ?_
        rfl
      · intro E hE _
        exact hCg E hE (fun j h1 h2 => by omega)
    · have hi : i < k := by omega
      obtain ⟨q1, q2, q3, q4, q5⟩ := hQ i hi
      have e1 := c_headOf hU0 hV hF.1 hnd q3 (by have := hF.2.1 _ q3; omega)
      have e2 := c_headOf hU0 hV hF.1 hnd q4 (by have := hF.2.1 _ q4; omega)
      have hstep : ∀ m', fX8_merge NF 132 (nI (hd (qf i))) (nI (hd (qs i))) m = some m' → lX8_mergeAll_13 NF 132 (f + 1) (nI i) m = lX8_mergeAll_13 NF 132 f (nI (i + 1)) m' := by
        intro m' hm
        conv => lhs; unfold lX8_mergeAll_13
        refine EgI k132 h10 ?_
        refine EIn (fun z => e ((nI_leI (by omega) (by omega)).mp z)) ?_
        refine EIn (fun z => by have := (nI_leI (a := 156) (by omega) (by omega)).mp z; omega) ?_
        refine EgR k132 r5 ?_
        refine EaI k138 rfl (by omega) (by omega) q1 ?_
        refine EC k132 e1 ?_
        dsimp only
        refine EgR k132 r6 ?_
        refine EaI k139 rfl (by omega) (by omega) q2 ?_
        refine EC k132 e2 ?_
        dsimp only
        refine EC k132 hm ?_
        rw [nI_s]
      have pa := (hF.1 _ q3).2.2.1
      have pb := (hF.1 _ q4).2.2.1
      have la := (hF.1 _ q3).2.1
      have lb := (hF.1 _ q4).2.1
      by_cases hab : hd (qf i) = hd (qs i)
      · have hm : fX8_merge NF 132 (nI (hd (qf i))) (nI (hd (qs i))) m = some m := by
          unfold fX8_merge
          rw [if_pos (by rw [hab])]
        rw [hstep m hm]
        exact ih (i + 1) k m par hd h shp qf qs hU0 hV hF hC (Cg_same hF.1 hCg rfl rfl q3 q4 hab) (by omega) hkb hh1 h10 h9 hQ (by omega)
      · obtain ⟨hm1, hm2⟩ := hds_merge la lb pa pb hab
        obtain ⟨m2, k2, p1, p2, p3, p4, p5, p6, p7⟩ := c_merge hU0 hV hF hnd la lb pa pb hab h10 (by omega)
        have hU2 : xU m2 := xU_of hU0 p2
        have hF2 := UF_merge hF la lb pa pb hab
        have hC2 := Cp_merge hF.1 hC q3 q4 rfl rfl q5
        rw [hstep m2 p1]
        rcases p7 with ⟨rfl, hno⟩ | ⟨rfl, s1, s2, hs1, hs2, g1, g2, g3⟩
        · have hCg2 := Cg_merge (qf2 := qf) (qs2 := qs) hF hCg rfl rfl q3 q4 rfl rfl hab (Nat.le_refl _) (fun j _ => ⟨rfl, rfl⟩) (by
            intro s1 s2 l1 r1 l2 r2 z1 z2
            rcases hno with z | z
            · rw [z] at z1; cases z1
            · rw [z] at z2; cases z2)
          obtain ⟨m3, par3, hd3, h3, shp3, w1, w2, w3⟩ := ih (i + 1) k2 m2 _ _ _ _ qf qs hU2 p3 hF2 hC2 hCg2 (by omega) (by omega) hm2 p4 (p5.trans h9) (fun j hj => by
            obtain ⟨y1, y2, y3⟩ := hQ j hj
            obtain ⟨x1, x2⟩ := p6 j hj
            exact ⟨x1.trans y1, x2.trans y2, y3⟩) (by omega)
          exact ⟨m3, par3, hd3, h3, shp3, w1, p2.tr w2, w3⟩
        · obtain ⟨u1, u2, l1, rr1, u3⟩ := hF.2.2.2.1 _ s1 la pa hs1
          obtain ⟨v1, v2, l2, rr2, v3⟩ := hF.2.2.2.1 _ s2 lb pb hs2
          obtain ⟨g4, g5⟩ := g3 l1 rr1 l2 rr2 u3 v3
          obtain ⟨d1, -, -⟩ := hG.2.2 s1 l1 rr1 u1 u3
          obtain ⟨d2, -, -⟩ := hG.2.2 s2 l2 rr2 v1 v3
          have hpair := Cp_pair hG hF.1 hC u1 v1 u2 v2 u3 v3 (fun τ hτ => by
            rw [← Cp_hd hF.1 hC τ hτ _ q3, ← Cp_hd hF.1 hC τ hτ _ q4]; exact q5 τ hτ)
          let qf2 : Nat → Nat := fun j => if j = k then s1 + 1 else if j = k + 1 then s1 + 1 + tS l1 else qf j
          let qs2 : Nat → Nat := fun j => if j = k then s2 + 1 else if j = k + 1 then s2 + 1 + tS l2 else qs j
          have o1 : qf2 k = s1 + 1 := by simp [qf2]
          have o2 : qs2 k = s2 + 1 := by simp [qs2]
          have o3 : qf2 (k + 1) = s1 + 1 + tS l1 := by simp [qf2]
          have o4 : qs2 (k + 1) = s2 + 1 + tS l2 := by simp [qs2]
          have o5 : ∀ j, j < k → qf2 j = qf j ∧ qs2 j = qs j := fun j hj => by
            have z1 : ¬ j = k := by omega
            have z2 : ¬ j = k + 1 := by omega
            simp [qf2, qs2, z1, z2]
          have hCg2 := Cg_merge (qf2 := qf2) (qs2 := qs2) (k2 := k + 2) hF hCg rfl rfl q3 q4 rfl rfl hab (by omega) o5 (by
            intro s1' s2' l1' r1' l2' r2' z1 z2 z3 z4 E hE
            rw [hs1] at z1
            rw [hs2] at z2
            injection z1 with z1
            injection z2 with z2
            subst z1 z2
            rw [u3] at z3
            rw [v3] at z4
            injection z3 with z3 _
            injection z4 with z4 _
            subst z3 z4
            have y1 := hE k (by omega) (by omega)
            have y2 := hE (k + 1) (by omega) (by omega)
            rw [o1, o2] at y1
            rw [o3, o4] at y2
            exact ⟨y1, y2⟩)
          obtain ⟨m3, par3, hd3, h3, shp3, w1, w2, w3⟩ := ih (i + 1) (k + 2) m2 _ _ _ _ qf2 qs2 hU2 p3 hF2 hC2 hCg2 (by omega) (by omega) hm2 p4 (p5.trans h9) (fun j hj => by
            by_cases j1 : j = k
            · subst j1
              rw [o1, o2]
              exact ⟨g1, g2, by omega, by omega, fun τ hτ => (hpair τ hτ).1⟩
            · by_cases j2 : j = k + 1
              · subst j2
                rw [o3, o4]
                exact ⟨g4, g5, d1, d2, fun τ hτ => (hpair τ hτ).2⟩
              · obtain ⟨y1, y2, y3⟩ := hQ j (by omega)
                obtain ⟨x1, x2⟩ := p6 j (by omega)
                obtain ⟨t1, t2⟩ := o5 j (by omega)
                rw [t1, t2]
                exact ⟨x1.trans y1, x2.trans y2, y3⟩) (by omega)
          exact ⟨m3, par3, hd3, h3, shp3, w1, p2.tr w2, w3⟩
def pkk (par hd : Nat → Nat) (k : Nat) : Nat → Nat := fun n => if n < k then hd n else par n
theorem PH_pkk {nd k : Nat} {par hd h : Nat → Nat} (hP : PH nd par hd h) : PH nd (pkk par hd k) hd h := by
  intro n hn
  obtain ⟨h1, h2, h3, h4, h5, h6, h7⟩ := hP n hn
  have hh : pkk par hd k (hd n) = hd n := by
    unfold pkk
    by_cases e : hd n < k
    · rw [if_pos e, h4]
    · rw [if_neg e, h3]
  obtain ⟨g1, g2, g3, g4, g5, g6, g7⟩ := hP (hd n) h2
  by_cases e : n < k
  · have e1 : pkk par hd k n = hd n := if_pos e
    rw [e1]
    refine ⟨h2, h2, hh, h4, h4, fun q => ⟨q, ?_⟩, fun q => ?_⟩
    · rw [q] at h3; exact (h6 h3).2
    · rw [(g6 h3).2]
      have := h7 (fun z => q (h6 z).1)
      omega
  · have e1 : pkk par hd k n = par n := if_neg e
    rw [e1]
    exact ⟨h1, h2, hh, h4, h5, h6, h7⟩
theorem c_solve60 {T : Nat → Tm} {nd : Nat} {par hd h : Nat → Nat} {shp : Nat → Option Nat} (hnd : nd ≤ 78) (hP : PH nd par hd h) (hh : ∀ n, n < nd → h n ≤ 78) : ∀ (f k : Nat) (m : qM), xU m → UV m T nd (pkk par hd k) shp → qI m 132 9 = nI nd → k ≤ nd → nd < f + k → ∃ m2, lX8_mergeAll_60 NF 132 f (nI k) m = some m2 ∧ Fx dSo m m2 ∧ UV m2 T nd hd shp ∧ qI m2 132 9 = nI nd := by
  intro f
  induction f with
  | zero => intro k m _ _ _ h1 h2; omega
  | succ f ih =>
    intro k m hU hV h9 hk hf
    have hU0 := hU
    obtain ⟨k132, r0, r1, r2, r3, r4, r5, r6, r7, r8, k133, n133, k134, n134, k135, n135, k136, n136, k137, n137, k138, n138, k139, n139, k140, n140, k141, n141, -⟩ := hU
    by_cases e : nd ≤ k
    · refine ⟨m, ?_, Fx.rf, ?_, h9⟩
      · unfold lX8_mergeAll_60
        refine EgI k132 h9 ?_
        refine EIp ((nI_leI (by omega) (by omega)).mpr e) ?_
        rfl
      · intro n hn
        have := hV n hn
        rwa [show pkk par hd k n = hd n from if_pos (by omega)] at this
    · have hkn : k < nd := by omega
      have e1 := c_headOf hU0 hV (PH_pkk hP) hnd hkn (hh k hkn)
      have hV2 : UV (qsI m 134 k (nI (hd k))) T nd (pkk par hd (k + 1)) shp := by
        intro n hn
        obtain ⟨v1, v2, v3⟩ := hV n hn
        refine ⟨?_, v2, v3⟩
        simp only [qS, ↓reduceIte]
        by_cases en : n = k
        · rw [if_pos en, en]
          have : pkk par hd (k + 1) k = hd k := if_pos (by omega)
          rw [this]
        · rw [if_neg en, v1]
          have : pkk par hd (k + 1) n = pkk par hd k n := by
            unfold pkk
            by_cases e2 : n < k
            · rw [if_pos e2, if_pos (by omega)]
            · rw [if_neg e2, if_neg (by omega)]
          rw [this]
      obtain ⟨m2, w1, w2, w3, w4⟩ := ih (k + 1) (qsI m 134 k (nI (hd k))) hU0 hV2 h9 (by omega) (by omega)
      refine ⟨m2, ?_, (Fx.sI (D := dSo) Fx.rf (by simp [dSo])).tr w2, w3, w4⟩
      conv => lhs; unfold lX8_mergeAll_60
      refine EgI k132 h9 ?_
      refine EIn (fun z => e ((nI_leI (by omega) (by omega)).mp z)) ?_
      refine EgR k132 r1 ?_
      refine EC k132 e1 ?_
      dsimp only
      refine EwI k134 rfl (by omega) (by omega) rfl ?_
      rw [nI_s]
      exact w1
end
