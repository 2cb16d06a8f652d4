section
-- ===== depths and sizes of proofs: the reference =====
theorem Fz.sIh {D : Nat → Prop} {m1 m2 : qM} {a k : Nat} {v : Int32} (h : Fz D m1 m2) (ha : 459 ≤ a) : Fz D m1 (qsI m2 a k v) := by
  refine h.tr ⟨fun b hb => ⟨rfl, rfl, rfl⟩, fun b hb _ => ⟨?_, rfl⟩, Nat.le_refl _⟩
  funext j
  have : ¬ b = a := by omega
  simp [qS, this]
theorem Fz.sLh {D : Nat → Prop} {m1 m2 : qM} {a k : Nat} {v : Int64} (h : Fz D m1 m2) (ha : 459 ≤ a) : Fz D m1 (qsL m2 a k v) := by
  refine h.tr ⟨fun b hb => ⟨rfl, rfl, rfl⟩, fun b hb _ => ⟨rfl, ?_⟩, Nat.le_refl _⟩
  funext j
  have : ¬ b = a := by omega
  simp [qS, this]
theorem mj_neg {e : Option (Nat × Nat)} {n : Nat} (hn : n ≤ 60) (h : ∀ a b, e = some (a, b) → a < n ∧ b < n) : (0 ≤ mjv e) ↔ e ≠ none := by
  cases e with
  | none => exact ⟨fun z => absurd z (by decide), fun z => absurd rfl z⟩
  | some p =>
    obtain ⟨a, b⟩ := p
    have := h a b rfl
    exact ⟨fun _ => Option.some_ne_none _, fun _ => nI_g0 (by omega)⟩
theorem m_depth {m : qM} {s : ST} (h : MP m s) (hs : okS s) (v : Int32) : ∃ m2, fX10_proofDepth NF 433 v m = some (ansN (-1 : Int32) (sN s) (fun j => nI (rDep (sEn s) j)) v, m2) ∧ MP m2 s ∧ Gz m m2 := by
  have hP := h
  obtain ⟨hM, hT, -, -, hL, -⟩ := h
  have hn := hs.1.1
  have k433 := hM.a.1
  unfold fX10_proofDepth
  rcases hasA_cases (n := sN s) (by omega) v with ⟨h1, -⟩ | ⟨j, hj, rfl, h1⟩
  · rw [ansN_miss h1]
    refine ⟨m, ?_, hP, Fz.rf⟩
    refine EC k433 (m_isOne k433 hL.1 hn v) ?_
    refine EIp h1 ?_
    rfl
  · rw [ansN_hit (by omega) h1]
    obtain ⟨A, hA⟩ : ∃ A, A = qT m := ⟨_, rfl⟩
    have hA459 : 459 ≤ A := by omega
    have hj1 : (nI j + (1 : Int32)).toNatClampNeg = j + 1 := by rw [nI_s, nI_clamp (by omega)]
    obtain ⟨w1, w2, -, -⟩ := qnw_at (m := m) (c := 12) (n := j + 1)
    rw [← hA] at w1 w2
    have f0 : Fz (fun _ => False) m (qnw m 12 (j + 1)) := Fz.new hT
    obtain ⟨b, e1, e2, e3, e4, e5⟩ := walk (l := fun g (x : Int32 × qM) => lX10_proofDepth_18 NF 433 (nI j) A g x.1 x.2) (J := fun r x => ∃ k m', k + r = j + 1 ∧ x = (nI k, m') ∧ Fz (fun _ => False) m m' ∧ qK m' A = 12 ∧ qN m' A = j + 1 ∧ ∀ z, z < k → qI m' A z = nI (rDep (sEn s) z)) (Q := fun m' => Fz (fun _ => False) m m' ∧ qK m' A = 12 ∧ qN m' A = j + 1 ∧ ∀ z, z < j + 1 → qI m' A z = nI (rDep (sEn s) z)) (fun g r x hj2 => by
      obtain ⟨k, m', hk, rfl, hF, hK, hN, hD⟩ := hj2
      have hP' := MP_z hP hF
      have hL' := hP'.2.2.2.2.1
      obtain ⟨K433, R0, R1, R2, R3, K434, K435, K436, K437, N434, N435, N436, N437⟩ := hP'.1.a
      obtain ⟨-, l2, l3⟩ := hL'.2 k (by omega)
      have hpre : ∀ (x : Nat), (0 ≤ mjv (sEn s k) → ∃ a b, sEn s k = some (a, b) ∧ x = 1 + max (rDep (sEn s) a) (rDep (sEn s) b)) → (¬ 0 ≤ mjv (sEn s k) → x = 0) → lX10_proofDepth_18 NF 433 (nI j) A (g + 1) (nI k) m' = lX10_proofDepth_18 NF 433 (nI j) A g (nI (k + 1)) (qsI m' A k (nI x)) := by
        intro x hx1 hx2
        conv => lhs; unfold lX10_proofDepth_18
        unfold kX10_proofDepth_59
        refine EIn (fun z => by have := (nI_ltI (by omega) (by omega)).mp z; omega) ?_
        refine EgR K433 R2 ?_
        refine EaI K436 rfl (show k < qN m' 436 by omega) (by omega) l2 ?_
        by_cases e : 0 ≤ mjv (sEn s k)
        · obtain ⟨a, b, he, rfl⟩ := hx1 e
          obtain ⟨o1, o2⟩ := hs.1.2.1 k a b (by omega) he
          have d1 := rDep_le hs.1.2.1 (show a < sN s by omega)
          have d2 := rDep_le hs.1.2.1 (show b < sN s by omega)
          rw [he] at l2 l3
          refine EIp e ?_
          refine EgR K433 R2 ?_
          refine EaI K436 rfl (show k < qN m' 436 by omega) (by omega) l2 ?_
          refine EaI hK (show mjv (some (a, b)) = nI a from rfl) (show a < qN m' A by omega) (by omega) (hD a o1) ?_
          refine EgR K433 R3 ?_
          refine EaI K437 rfl (show k < qN m' 437 by omega) (by omega) l3 ?_
          refine EaI hK (show mnv (some (a, b)) = nI b from rfl) (show b < qN m' A by omega) (by omega) (hD b o2) ?_
          rw [maxI (by omega) (by omega)]
          refine EwI hK rfl (show k < qN m' A by omega) (by omega) (show (1 : Int32) + nI (max (rDep (sEn s) a) (rDep (sEn s) b)) = nI (1 + max (rDep (sEn s) a) (rDep (sEn s) b)) from nI_add 1 _) ?_
          rw [nI_s]
        · have hx0 := hx2 e
          subst hx0
          refine EIn e ?_
          refine EwI hK rfl (show k < qN m' A by omega) (by omega) (show (0 : Int32) = nI 0 from rfl) ?_
          rw [nI_s]
      refine Or.inl ⟨(nI (k + 1), qsI m' A k (nI (rDep (sEn s) k))), ⟨k + 1, _, by omega, rfl, hF.sIh hA459, hK, hN, fun z hz => ?_⟩, hpre _ (fun e => ?_) (fun e => ?_)⟩
      · by_cases ez : z = k
        · rw [ez]; simp [qS]
        · simp only [qS, ez, ↓reduceIte]
          exact hD z (by omega)
      · have hne := (mj_neg (n := k) (by omega) (fun a b z => hs.1.2.1 k a b (by omega) z)).mp e
        cases hq : sEn s k with
        | none => exact absurd hq hne
        | some p =>
          obtain ⟨a, b⟩ := p
          exact ⟨a, b, rfl, RC_some hs.1.2.1 (by omega) hq⟩
      · have hne := (fun z => e ((mj_neg (n := k) (by omega) (fun a b z => hs.1.2.1 k a b (by omega) z)).mpr z))
        cases hq : sEn s k with
        | none => exact RC_none hq
        | some p => exact absurd (fun z => by rw [hq] at z; cases z) hne) (fun g x hj2 => by
      obtain ⟨k, m', hk, rfl, hF, hK, hN, hD⟩ := hj2
      obtain rfl : k = j + 1 := by omega
      refine ⟨m', ?_, hF, hK, hN, hD⟩
      show lX10_proofDepth_18 NF 433 (nI j) A (g + 1) (nI (j + 1)) m' = _
      unfold lX10_proofDepth_18
      refine EIp ((nI_ltI (by omega) (by omega)).mpr (by omega)) ?_
      rfl) (j + 1) NF (nI 0, qnw m 12 (j + 1)) (by unfold NF; omega) ⟨0, _, by omega, rfl, f0, w1, w2, fun z hz => by omega⟩
    refine ⟨b, ?_, MP_z hP e2, e2.mono (fun a _ z => z.elim)⟩
    refine EC k433 (m_isOne k433 hL.1 hn _) ?_
    refine EIn (show ¬ hasA (sN s) (nI j) = 0 by rw [h1]; exact i10) ?_
    refine EIp ⟨by rw [nI_s]; exact nI_pos (by omega), by rw [hj1]; omega⟩ ?_
    unfold qNew
    rw [hj1]
    dsimp only
    rw [← hA]
    refine EB e1 ?_
    refine EaI e3 rfl (by omega) (by omega) (e5 j (by omega)) ?_
    rfl
theorem m_signs {m : qM} {s : ST} {j : Nat} (h : MP m s) (hs : okS s) (hj : j < sN s) : ∃ m2, fX10_signs NF 433 (nI j) m = some (Int64.ofNat (rSig (sEn s) j), m2) ∧ MP m2 s ∧ Fz (fun _ => False) m m2 := by
  have hP := h
  obtain ⟨hM, hT, -, -, hL, -⟩ := h
  have hn := hs.1.1
  have k433 := hM.a.1
  unfold fX10_signs
  obtain ⟨A, hA⟩ : ∃ A, A = qT m := ⟨_, rfl⟩
  have hA459 : 459 ≤ A := by omega
  have hj1 : (nI j + (1 : Int32)).toNatClampNeg = j + 1 := by rw [nI_s, nI_clamp (by omega)]
  obtain ⟨w1, w2, -, -⟩ := qnw_at (m := m) (c := 13) (n := j + 1)
  rw [← hA] at w1 w2
  have f0 : Fz (fun _ => False) m (qnw m 13 (j + 1)) := Fz.new hT
  obtain ⟨b, e1, e2, e3, e4, e5⟩ := walk (l := fun g (x : Int32 × qM) => lX10_signs_8 NF 433 (nI j) A g x.1 x.2) (J := fun r x => ∃ k m', k + r = j + 1 ∧ x = (nI k, m') ∧ Fz (fun _ => False) m m' ∧ qK m' A = 13 ∧ qN m' A = j + 1 ∧ ∀ z, z < k → qL m' A z = Int64.ofNat (rSig (sEn s) z)) (Q := fun m' => Fz (fun _ => False) m m' ∧ qK m' A = 13 ∧ qN m' A = j + 1 ∧ ∀ z, z < j + 1 → qL m' A z = Int64.ofNat (rSig (sEn s) z)) (fun g r x hj2 => by
    obtain ⟨k, m', hk, rfl, hF, hK, hN, hD⟩ := hj2
    have hP' := MP_z hP hF
    have hL' := hP'.2.2.2.2.1
    obtain ⟨K433, R0, R1, R2, R3, K434, K435, K436, K437, N434, N435, N436, N437⟩ := hP'.1.a
    obtain ⟨-, l2, l3⟩ := hL'.2 k (by omega)
    have hpre : ∀ (x : Nat), (0 ≤ mjv (sEn s k) → ∃ a b, sEn s k = some (a, b) ∧ x = 1 + rSig (sEn s) a + rSig (sEn s) b) → (¬ 0 ≤ mjv (sEn s k) → x = 0) → lX10_signs_8 NF 433 (nI j) A (g + 1) (nI k) m' = lX10_signs_8 NF 433 (nI j) A g (nI (k + 1)) (qsL m' A k (Int64.ofNat x)) := by
      intro x hx1 hx2
      conv => lhs; unfold lX10_signs_8
      unfold kX10_signs_47
      refine EIn (fun z => by have := (nI_ltI (by omega) (by omega)).mp z; omega) ?_
      refine EgR K433 R2 ?_
      refine EaI K436 rfl (show k < qN m' 436 by omega) (by omega) l2 ?_
      by_cases e : 0 ≤ mjv (sEn s k)
      · obtain ⟨a, b, he, rfl⟩ := hx1 e
        obtain ⟨o1, o2⟩ := hs.1.2.1 k a b (by omega) he
        rw [he] at l2 l3
        refine EIp e ?_
        refine EgR K433 R2 ?_
        refine EaI K436 rfl (show k < qN m' 436 by omega) (by omega) l2 ?_
        refine EaL hK (show mjv (some (a, b)) = nI a from rfl) (show a < qN m' A by omega) (by omega) (hD a o1) ?_
        refine EgR K433 R3 ?_
        refine EaI K437 rfl (show k < qN m' 437 by omega) (by omega) l3 ?_
        refine EaL hK (show mnv (some (a, b)) = nI b from rfl) (show b < qN m' A by omega) (by omega) (hD b o2) ?_
        rw [show ((1 : Int64) + Int64.ofNat (rSig (sEn s) a)) + Int64.ofNat (rSig (sEn s) b) = Int64.ofNat (1 + rSig (sEn s) a + rSig (sEn s) b) by rw [Int64.ofNat_add, Int64.ofNat_add]; rfl]
        refine EwL hK rfl (show k < qN m' A by omega) (by omega) ?_
        rw [nI_s]
      · have hx0 := hx2 e
        subst hx0
        refine EIn e ?_
        refine EwL hK rfl (show k < qN m' A by omega) (by omega) ?_
        rw [nI_s]
        rfl
    refine Or.inl ⟨(nI (k + 1), qsL m' A k (Int64.ofNat (rSig (sEn s) k))), ⟨k + 1, _, by omega, rfl, hF.sLh hA459, hK, hN, fun z hz => ?_⟩, hpre _ (fun e => ?_) (fun e => ?_)⟩
    · by_cases ez : z = k
      · rw [ez]; simp [qS]
      · simp only [qS, ez, ↓reduceIte]
        exact hD z (by omega)
    · have hne := (mj_neg (n := k) (by omega) (fun a b z => hs.1.2.1 k a b (by omega) z)).mp e
      cases hq : sEn s k with
      | none => exact absurd hq hne
      | some p =>
        obtain ⟨a, b⟩ := p
        exact ⟨a, b, rfl, RC_some hs.1.2.1 (by omega) hq⟩
    · have hne := (fun z => e ((mj_neg (n := k) (by omega) (fun a b z => hs.1.2.1 k a b (by omega) z)).mpr z))
      cases hq : sEn s k with
      | none => exact RC_none hq
      | some p => exact absurd (fun z => by rw [hq] at z; cases z) hne) (fun g x hj2 => by
    obtain ⟨k, m', hk, rfl, hF, hK, hN, hD⟩ := hj2
    obtain rfl : k = j + 1 := by omega
    refine ⟨m', ?_, hF, hK, hN, hD⟩
    show lX10_signs_8 NF 433 (nI j) A (g + 1) (nI (j + 1)) m' = _
    unfold lX10_signs_8
    refine EIp ((nI_ltI (by omega) (by omega)).mpr (by omega)) ?_
    rfl) (j + 1) NF (nI 0, qnw m 13 (j + 1)) (by unfold NF; omega) ⟨0, _, by omega, rfl, f0, w1, w2, fun z hz => by omega⟩
  refine ⟨b, ?_, MP_z hP e2, e2⟩
  refine EIp ⟨by rw [nI_s]; exact nI_pos (by omega), by rw [hj1]; omega⟩ ?_
  unfold qNew
  rw [hj1]
  dsimp only
  rw [← hA]
  refine EB e1 ?_
  refine EaL e3 rfl (by omega) (by omega) (e5 j (by omega)) ?_
  rfl
theorem m_psize {m : qM} {s : ST} (h : MP m s) (hs : okS s) (v : Int32) : ∃ m2, fX10_proofSize NF 433 v m = some (ansN (-1 : Int64) (sN s) (fun j => Int64.ofNat (rSig (sEn s) j)) v, m2) ∧ MP m2 s ∧ Gz m m2 := by
  have k433 := h.1.a.1
  have hL := h.2.2.2.2.1
  have hn := hs.1.1
  unfold fX10_proofSize
  rcases hasA_cases (n := sN s) (by omega) v with ⟨h1, -⟩ | ⟨j, hj, rfl, h1⟩
  · rw [ansN_miss h1]
    refine ⟨m, ?_, h, Fz.rf⟩
    refine EC k433 (m_isOne k433 hL.1 hn v) ?_
    refine EIp h1 ?_
    rfl
  · rw [ansN_hit (by omega) h1]
    obtain ⟨m2, p1, p2, p3⟩ := m_signs h hs hj
    refine ⟨m2, ?_, p2, p3.mono (fun a _ z => z.elim)⟩
    refine EC k433 (m_isOne k433 hL.1 hn _) ?_
    refine EIn (show ¬ hasA (sN s) (nI j) = 0 by rw [h1]; exact i10) ?_
    refine EC k433 p1 ?_
    rfl
-- ===== proofs written: what =====
def pfT (en : Nat → Option (Nat × Nat)) (i : Nat) : List Nat := RC (fun i => [49 + i]) (fun x y => 68 :: (x ++ y)) en i
theorem pf_some {en : Nat → Option (Nat × Nat)} {n i a b : Nat} (h : enOK en n) (hi : i < n) (e : en i = some (a, b)) : pfT en i = 68 :: (pfT en a ++ pfT en b) ∧ rSig en i = 1 + rSig en a + rSig en b ∧ rLast en i = max (rLast en a) (rLast en b) := ⟨RC_some h hi e, RC_some h hi e, RC_some h hi e⟩
theorem pf_none {en : Nat → Option (Nat × Nat)} {i : Nat} (e : en i = none) : pfT en i = [49 + i] ∧ rSig en i = 0 ∧ rLast en i = i := ⟨RC_none e, RC_none e, RC_none e⟩
theorem pf_len {en : Nat → Option (Nat × Nat)} {n : Nat} (h : enOK en n) : ∀ (k i : Nat), i < k → i < n → (pfT en i).length = 2 * rSig en i + 1 := by
  intro k
  induction k with
  | zero => intro i h; omega
  | succ k ih =>
    intro i hk hi
    cases he : en i with
    | none => obtain ⟨e1, e2, -⟩ := pf_none he; rw [e1, e2]; rfl
    | some p =>
      obtain ⟨a, b⟩ := p
      obtain ⟨o1, o2⟩ := h i a b hi he
      obtain ⟨e1, e2, -⟩ := pf_some h hi he
      rw [e1, e2, List.length_cons, List.length_append, ih a (by omega) (by omega), ih b (by omega) (by omega)]
      omega
theorem pf_ch {en : Nat → Option (Nat × Nat)} {n : Nat} (h : enOK en n) : ∀ (k i : Nat), i < k → i < n → rLast en i ≤ 8 → ∀ c, c ∈ pfT en i → c < 128 := by
  intro k
  induction k with
  | zero => intro i h; omega
  | succ k ih =>
    intro i hk hi hl c hc
    cases he : en i with
    | none =>
      obtain ⟨e1, e2, e3⟩ := pf_none he
      rw [e1, List.mem_singleton] at hc
      omega
    | some p =>
      obtain ⟨a, b⟩ := p
      obtain ⟨o1, o2⟩ := h i a b hi he
      obtain ⟨e1, e2, e3⟩ := pf_some h hi he
      rw [e1] at hc
      rcases List.mem_cons.mp hc with rfl | hc
      · omega
      · rcases List.mem_append.mp hc with hc | hc
        · exact ih a (by omega) (by omega) (by omega) c hc
        · exact ih b (by omega) (by omega) (by omega) c hc
def wpG (s : ST) (j : Nat) : Int32 := if rSig (sEn s) j ≤ 49 ∧ rLast (sEn s) j ≤ 8 then nI (2 * rSig (sEn s) j + 1) else -5
def wpH (s : ST) (j : Nat) : ST := if rSig (sEn s) j ≤ 49 ∧ rLast (sEn s) j ≤ 8 then wOu s (pfT (sEn s) j) else s
def aWp (s : ST) (v : Int32) : Int32 := ansN (-1) (sN s) (wpG s) v
def sWp (s : ST) (v : Int32) : ST := ansN s (sN s) (wpH s) v
theorem ok_wp {s : ST} (h : okS s) (v : Int32) : okS (sWp s v) := by
  have hn := h.1.1
  unfold sWp
  rcases hasA_cases (n := sN s) (by omega) v with ⟨h1, -⟩ | ⟨j, hj, rfl, h1⟩
  · rw [ansN_miss h1]; exact h
  · rw [ansN_hit (by omega) h1]
    unfold wpH
    by_cases e : rSig (sEn s) j ≤ 49 ∧ rLast (sEn s) j ≤ 8
    · rw [if_pos e]
      refine ⟨h.1, h.2.1, ?_, pf_ch h.1.2.1 (j + 1) j (by omega) hj e.2⟩
      show (pfT (sEn s) j).length ≤ 120
      rw [pf_len h.1.2.1 (j + 1) j (by omega) hj]
      omega
    · rw [if_neg e]; exact h
theorem sig49 {n : Nat} (h : n < 2 ^ 62) : (0 < lg_cmp (Int64.ofNat n) (49 : Int64)) ↔ 49 < n := by
  rw [lg_cmp_gt]
  exact pk_lLT (a := 49) (b := n) (by omega) (by omega)
theorem sig_small {s : ST} {j : Nat} (hs : okS s) (hj : j < sN s) : rSig (sEn s) j < 2 ^ 62 := by
  have h1 := rSig_lt hs.1.2.1 hj
  have hn := hs.1.1
  have h2 : 2 ^ j ≤ 2 ^ 60 := Nat.pow_le_pow_right (by omega) (by omega)
  omega
theorem m_digits {m : qM} {s : ST} (h : MP m s) (hs : okS s) : ∀ (k j : Nat), j < sN s → rSig (sEn s) j < k → fX10_hasDigits NF k 433 (nI j) m = some (if rLast (sEn s) j ≤ 8 then 1 else 0, m) := by
  have hn := hs.1.1
  obtain ⟨K433, R0, R1, R2, R3, K434, K435, K436, K437, N434, N435, N436, N437⟩ := h.1.a
  intro k
  induction k with
  | zero => intro j _ h; omega
  | succ k ih =>
    intro j hj hk
    obtain ⟨-, l2, l3⟩ := h.2.2.2.2.1.2 j hj
    unfold fX10_hasDigits
    refine EgR K433 R2 ?_
    refine EaI K436 rfl (show j < qN m 436 by omega) (by omega) l2 ?_
    cases he : sEn s j with
    | none =>
      obtain ⟨e1, e2, e3⟩ := pf_none he
      rw [e3]
      refine EIn (show ¬ (0 : Int32) ≤ mjv none by decide) ?_
      by_cases e : 9 ≤ j
      · rw [if_neg (show ¬ j ≤ 8 by omega)]
        refine EIp ((nI_leI (a := 9) (by omega) (by omega)).mpr e) ?_
        rfl
      · rw [if_pos (show j ≤ 8 by omega)]
        refine EIn (fun z => e ((nI_leI (a := 9) (by omega) (by omega)).mp z)) ?_
        rfl
    | some p =>
      obtain ⟨a, b⟩ := p
      obtain ⟨o1, o2⟩ := hs.1.2.1 j a b hj he
      obtain ⟨e1, e2, e3⟩ := pf_some hs.1.2.1 hj he
      rw [he] at l2 l3
      have ha := ih a (by omega) (by omega)
      have hb := ih b (by omega) (by omega)
      rw [e3]
      refine EIp (show (0 : Int32) ≤ mjv (some (a, b)) from nI_g0 (by omega)) ?_
      refine EgR K433 R2 ?_
      refine EaI K436 rfl (show j < qN m 436 by omega) (by omega) l2 ?_
      refine EC K433 ha ?_
      by_cases g1 : rLast (sEn s) a ≤ 8
      · rw [if_pos g1]
        refine EIn i10 ?_
        refine EgR K433 R3 ?_
        refine EaI K437 rfl (show j < qN m 437 by omega) (by omega) l3 ?_
        refine EC K433 hb ?_
        by_cases g2 : rLast (sEn s) b ≤ 8
        · rw [if_pos g2, if_pos (show max (rLast (sEn s) a) (rLast (sEn s) b) ≤ 8 by omega)]
          refine EIn i10 ?_
          rfl
        · rw [if_neg g2, if_neg (show ¬ max (rLast (sEn s) a) (rLast (sEn s) b) ≤ 8 by omega)]
          refine EIp rfl ?_
          rfl
      · rw [if_neg g1, if_neg (show ¬ max (rLast (sEn s) a) (rLast (sEn s) b) ≤ 8 by omega)]
        refine EIp rfl ?_
        rfl
def OuS (I : Nat → Nat → Int32) (cs : List Nat) : Prop := I 433 11 = nI cs.length ∧ ∀ i, i < cs.length → I 440 i = nI (cs.getD i 0)
theorem OuS_snoc {m : qM} {cs : List Nat} {c : Nat} (h : OuS (qI m) cs) : OuS (qI (qsI (qsI m 433 11 (nI (cs.length + 1))) 440 cs.length (nI c))) (cs ++ [c]) := by
  refine ⟨by simp [qS], fun i hi => ?_⟩
  rw [getD_snoc]
  simp only [qS, ↓reduceIte]
  by_cases e : i = cs.length
  · rw [if_pos e, if_pos e]
  · rw [if_neg e, if_neg e, if_neg (by decide)]
    exact h.2 i (by simp at hi; omega)
theorem m_tellsP {s : ST} (hs : okS s) : ∀ (k j : Nat) (m : qM) (cs : List Nat), j < sN s → rSig (sEn s) j < k → MS (qK m) (qN m) (qR m) → MLs (qI m) (sN s) (sFo s) (sEn s) → OuS (qI m) cs → cs.length + (2 * rSig (sEn s) j + 1) ≤ 400 → ∃ m2, fX10_tellsProof NF k 433 (nI j) m = some m2 ∧ Fx (fun a => a = 433 ∨ a = 440) m m2 ∧ (∀ z, z ≠ 11 → qI m2 433 z = qI m 433 z) ∧ OuS (qI m2) (cs ++ pfT (sEn s) j) := by
  have hn := hs.1.1
  intro k
  induction k with
  | zero => intro j m cs _ h; omega
  | succ k ih =>
    intro j m cs hj hk hM hL hO hlen
    obtain ⟨K433, R0, R1, R2, R3, K434, K435, K436, K437, N434, N435, N436, N437⟩ := hM.a
    obtain ⟨-, R10, K440, N440⟩ := hM.o
    obtain ⟨-, l2, l3⟩ := hL.2 j hj
    have mkf : ∀ c, Fx (fun a => a = 433 ∨ a = 440) m (qsI (qsI m 433 11 (nI (cs.length + 1))) 440 cs.length (nI c)) := fun c => (Fx.rf.sI (Or.inl rfl)).sI (Or.inr rfl)
    have tr : ∀ {m' : qM}, Fx (fun a => a = 433 ∨ a = 440) m m' → (∀ z, z ≠ 11 → qI m' 433 z = qI m 433 z) → MLs (qI m') (sN s) (sFo s) (sEn s) := fun {m'} f hz => MLs_of hL (fun a h1 h2 => f.i (by omega)) (hz 5 (by decide))
    have hz1 : ∀ c z, z ≠ 11 → qI (qsI (qsI m 433 11 (nI (cs.length + 1))) 440 cs.length (nI c)) 433 z = qI m 433 z := fun c z hz => by simp [qS, hz]
    cases he : sEn s j with
    | none =>
      obtain ⟨e1, e2, e3⟩ := pf_none he
      rw [he] at l2
      refine ⟨_, ?_, mkf (49 + j), hz1 _, by rw [e1]; exact OuS_snoc hO⟩
      conv => lhs; unfold fX10_tellsProof kX10_tellsProof_33
      refine EgR K433 R10 ?_
      refine EgI K433 hO.1 ?_
      refine EpI K433 (nI_s _) ?_
      refine EgR (show qK (qsI m 433 11 (nI (cs.length + 1))) 433 = 10 from K433) (show qR (qsI m 433 11 (nI (cs.length + 1))) 433 2 = some 436 from R2) ?_
      refine EaI (show qK (qsI m 433 11 (nI (cs.length + 1))) 436 = 12 from K436) rfl (show j < qN m 436 by omega) (by omega) (show qI (qsI m 433 11 (nI (cs.length + 1))) 436 j = mjv none by simp [qS, l2]) ?_
      refine EIn (show ¬ (0 : Int32) ≤ mjv none by decide) ?_
      refine EwI (show qK (qsI m 433 11 (nI (cs.length + 1))) 440 = 12 from K440) rfl (show cs.length < qN m 440 by omega) (by omega) (show (49 : Int32) + nI j = nI (49 + j) from nI_add 49 j) ?_
      refine EgR (show qK (qsI (qsI m 433 11 (nI (cs.length + 1))) 440 cs.length (nI (49 + j))) 433 = 10 from K433) (show qR (qsI (qsI m 433 11 (nI (cs.length + 1))) 440 cs.length (nI (49 + j))) 433 2 = some 436 from R2) ?_
      refine EaI (show qK (qsI (qsI m 433 11 (nI (cs.length + 1))) 440 cs.length (nI (49 + j))) 436 = 12 from K436) rfl (show j < qN m 436 by omega) (by omega) (show qI (qsI (qsI m 433 11 (nI (cs.length + 1))) 440 cs.length (nI (49 + j))) 436 j = mjv none by simp [qS, l2]) ?_
      refine EIn (show ¬ (0 : Int32) ≤ mjv none by decide) ?_
      rfl
    | some p =>
      obtain ⟨a, b⟩ := p
      obtain ⟨o1, o2⟩ := hs.1.2.1 j a b hj he
      obtain ⟨e1, e2, e3⟩ := pf_some hs.1.2.1 hj he
      rw [he] at l2 l3
      have hla := pf_len hs.1.2.1 (a + 1) a (by omega) (by omega)
      let m1 : qM := qsI (qsI m 433 11 (nI (cs.length + 1))) 440 cs.length (nI 68)
      have f1 := mkf 68
      have z1 := hz1 68
      obtain ⟨m2, p1, p2, p3, p4⟩ := ih a m1 (cs ++ [68]) (by omega) (by omega) (f1.M hM) (tr f1 z1) (OuS_snoc hO) (by simp; omega)
      have f2 := f1.tr p2
      have z2 : ∀ z, z ≠ 11 → qI m2 433 z = qI m 433 z := fun z hz => (p3 z hz).trans (z1 z hz)
      obtain ⟨m3, q1, q2, q3, q4⟩ := ih b m2 (cs ++ [68] ++ pfT (sEn s) a) (by omega) (by omega) (f2.M hM) (tr f2 z2) p4 (by simp [hla]; omega)
      have hM2 := f2.M hM
      obtain ⟨K433', -, -, -, R3', -, -, -, K437', -, -, -, N437'⟩ := hM2.a
      have l3' := ((tr f2 z2).2 j hj).2.2
      rw [he] at l3'
      refine ⟨m3, ?_, f2.tr q2, fun z hz => (q3 z hz).trans (z2 z hz), by rw [e1]; simpa [List.append_assoc] using q4⟩
      conv => lhs; unfold fX10_tellsProof kX10_tellsProof_33
      refine EgR K433 R10 ?_
      refine EgI K433 hO.1 ?_
      refine EpI K433 (nI_s _) ?_
      refine EgR (show qK (qsI m 433 11 (nI (cs.length + 1))) 433 = 10 from K433) (show qR (qsI m 433 11 (nI (cs.length + 1))) 433 2 = some 436 from R2) ?_
      refine EaI (show qK (qsI m 433 11 (nI (cs.length + 1))) 436 = 12 from K436) rfl (show j < qN m 436 by omega) (by omega) (show qI (qsI m 433 11 (nI (cs.length + 1))) 436 j = mjv (some (a, b)) by simp [qS, l2]) ?_
      refine EIp (show (0 : Int32) ≤ mjv (some (a, b)) from nI_g0 (by omega)) ?_
      refine EwI (show qK (qsI m 433 11 (nI (cs.length + 1))) 440 = 12 from K440) rfl (show cs.length < qN m 440 by omega) (by omega) (show (68 : Int32) = nI 68 from rfl) ?_
      show (qgR m1 433 10 2).bind _ = _
      refine EgR (show qK m1 433 = 10 from K433) (show qR m1 433 2 = some 436 from R2) ?_
      refine EaI (show qK m1 436 = 12 from K436) rfl (show j < qN m 436 by omega) (by omega) (show qI m1 436 j = mjv (some (a, b)) by simp [m1, qS, l2]) ?_
      refine EIp (show (0 : Int32) ≤ mjv (some (a, b)) from nI_g0 (by omega)) ?_
      refine EgR (show qK m1 433 = 10 from K433) (show qR m1 433 2 = some 436 from R2) ?_
      refine EaI (show qK m1 436 = 12 from K436) rfl (show j < qN m 436 by omega) (by omega) (show qI m1 436 j = mjv (some (a, b)) by simp [m1, qS, l2]) ?_
      refine EC (show qK m1 433 = 10 from K433) p1 ?_
      refine EgR K433' R3' ?_
      refine EaI K437' rfl (show j < qN m2 437 by omega) (by omega) l3' ?_
      refine EC K433' q1 ?_
      rfl
theorem m_writeProof {m : qM} {s : ST} (h : MP m s) (hs : okS s) (v : Int32) : ∃ m2, fX10_writeProof NF 433 v m = some (aWp s v, m2) ∧ MP m2 (sWp s v) ∧ Gz m m2 := by
  have k433 := h.1.a.1
  have hL := h.2.2.2.2.1
  have hn := hs.1.1
  unfold fX10_writeProof aWp sWp
  rcases hasA_cases (n := sN s) (by omega) v with ⟨h1, -⟩ | ⟨j, hj, rfl, h1⟩
  · rw [ansN_miss h1, ansN_miss h1]
    refine ⟨m, ?_, h, Fz.rf⟩
    refine EC k433 (m_isOne k433 hL.1 hn v) ?_
    refine EIp h1 ?_
    rfl
  · rw [ansN_hit (by omega) h1, ansN_hit (by omega) h1]
    obtain ⟨m1, p1, p2, p3⟩ := m_signs h hs hj
    have K1 := p2.1.a.1
    have g1 : Gz m m1 := p3.mono (fun a _ z => z.elim)
    have hpre : ∀ R, (if 0 < lg_cmp (Int64.ofNat (rSig (sEn s) j)) (49 : Int64) then some ((-5 : Int32), m1) else (qChk m1 433 10 (fX10_hasDigits NF kR 433 (nI j) m1)).bind fun b3 => if b3.1 = 0 then some ((-5 : Int32), b3.2) else (qpI b3.2 433 10 11 (0 : Int32)).bind fun m4 => (qChk m4 433 10 (fX10_tellsProof NF kR 433 (nI j) m4)).bind fun b5 => (qgI b5 433 10 11).bind fun x6 => some (x6, b5)) = R → ((qChk m 433 10 (fX10_isOne NF 433 (nI j) m)).bind fun b1 => if b1.1 = 0 then some ((-1 : Int32), b1.2) else (qChk b1.2 433 10 (fX10_signs NF 433 (nI j) b1.2)).bind fun b2 => if 0 < lg_cmp b2.1 (49 : Int64) then some ((-5 : Int32), b2.2) else (qChk b2.2 433 10 (fX10_hasDigits NF kR 433 (nI j) b2.2)).bind fun b3 => if b3.1 = 0 then some ((-5 : Int32), b3.2) else (qpI b3.2 433 10 11 (0 : Int32)).bind fun m4 => (qChk m4 433 10 (fX10_tellsProof NF kR 433 (nI j) m4)).bind fun b5 => (qgI b5 433 10 11).bind fun x6 => some (x6, b5)) = R := by
      intro R hR
      refine EC k433 (m_isOne k433 hL.1 hn _) ?_
      refine EIn (show ¬ hasA (sN s) (nI j) = 0 by rw [h1]; exact i10) ?_
      refine EC k433 p1 ?_
      exact hR
    unfold wpG wpH
    have hsm := sig_small hs hj
    by_cases g : rSig (sEn s) j ≤ 49
    · have hd := m_digits p2 hs kR j hj (by unfold kR; omega)
      by_cases g2 : rLast (sEn s) j ≤ 8
      · rw [if_pos ⟨g, g2⟩, if_pos ⟨g, g2⟩]
        rw [if_pos g2] at hd
        have hlen := pf_len hs.1.2.1 (j + 1) j (by omega) hj
        have f0 : Fx (fun a => a = 433 ∨ a = 440) m1 (qsI m1 433 11 (nI 0)) := Fx.rf.sI (Or.inl rfl)
        have z0 : ∀ z, z ≠ 11 → qI (qsI m1 433 11 (nI 0)) 433 z = qI m1 433 z := fun z hz => by simp [qS, hz]
        obtain ⟨m2, q1, q2, q3, q4⟩ := m_tellsP hs kR j (qsI m1 433 11 (nI 0)) [] hj (by unfold kR; omega) (f0.M p2.1) (MLs_of p2.2.2.2.2.1 (fun a h1 h2 => f0.i (by omega)) (z0 5 (by decide))) ⟨by simp [qS], fun i hi => by simp at hi⟩ (by simp; omega)
        rw [List.nil_append] at q4
        have f2 := f0.tr q2
        refine ⟨m2, hpre _ ?_, MP_out p2 f2 (fun z hz => (q3 z hz).trans (z0 z hz)) q4, g1.tr (Fz.of (f2.mono (fun a ha => by omega)))⟩
        refine EIn (fun z => by have := (sig49 hsm).mp z; omega) ?_
        refine EC K1 hd ?_
        refine EIn i10 ?_
        refine EpI K1 (show (0 : Int32) = nI 0 from rfl) ?_
        refine EC (show qK (qsI m1 433 11 (nI 0)) 433 = 10 from K1) q1 ?_
        refine EgI (show qK m2 433 = 10 by rw [f2.1]; exact K1) q4.1 ?_
        rw [hlen]
      · rw [if_neg (fun z => g2 z.2), if_neg (fun z => g2 z.2)]
        rw [if_neg g2] at hd
        refine ⟨m1, hpre _ ?_, p2, g1⟩
        refine EIn (fun z => by have := (sig49 hsm).mp z; omega) ?_
        refine EC K1 hd ?_
        refine EIp rfl ?_
        rfl
    · rw [if_neg (fun z => g z.1), if_neg (fun z => g z.1)]
      refine ⟨m1, hpre _ ?_, p2, g1⟩
      exact if_pos ((sig49 hsm).mpr (by omega))
end
