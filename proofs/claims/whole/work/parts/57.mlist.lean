section
-- ===== which numbers are formulas =====
def hasA (n : Nat) (v : Int32) : Int32 := if v < 0 then 0 else if nI n ≤ v then 0 else 1
theorem hasA_cases {n : Nat} (hn : n ≤ 80) (v : Int32) : (hasA n v = 0 ∧ ¬ spOK n v 1) ∨ ∃ j, j < n ∧ v = nI j ∧ hasA n v = 1 := by
  unfold hasA
  have hno : (∀ j, j < n → v ≠ nI j) → ¬ spOK n v 1 := by
    intro h hs
    obtain ⟨a, q, e1, e2, e3⟩ := hs
    have hq : q = 1 := ((nI_eq (a := 1) (b := q) (by omega) (by omega)).mp e2).symm
    exact h a (by omega) e1
  rcases pk_ix v (n := n) (by omega) with h | h | ⟨j, hj, rfl⟩
  · left
    refine ⟨if_pos h, hno (fun j hj e => ?_)⟩
    rw [e] at h
    exact nI_pos (by omega) h
  · left
    refine ⟨by split <;> simp [h], hno (fun j hj e => ?_)⟩
    rw [e, nI_leI (by omega) (by omega)] at h
    omega
  · right
    refine ⟨j, hj, rfl, ?_⟩
    rw [if_neg (nI_pos (by omega)), if_neg (fun z => by have := (nI_leI (by omega) (by omega)).mp z; omega)]
theorem c_has {m : qM} {n : Nat} (k5 : qK m 5 = 1) (h : qI m 5 6 = nI n) (v : Int32) : fX1_has NF 5 v m = some (hasA n v, m) := by
  unfold fX1_has hasA
  by_cases h1 : v < 0
  · rw [if_pos h1, if_pos h1]
  · rw [if_neg h1, if_neg h1]
    refine EgI k5 h ?_
    by_cases h2 : nI n ≤ v
    · rw [if_pos h2, if_pos h2]
    · rw [if_neg h2, if_neg h2]
theorem m_isOne {m : qM} {n : Nat} (k433 : qK m 433 = 10) (h : qI m 433 5 = nI n) (hn : n ≤ 60) (v : Int32) : fX10_isOne NF 433 v m = some (hasA n v, m) := by
  unfold fX10_isOne
  refine EgI k433 h ?_
  rcases hasA_cases (n := n) (by omega) v with ⟨h1, h2⟩ | ⟨j, hj, rfl, h1⟩
  · rw [in_no (by omega) h2, h1]
    exact b0s _
  · rw [in_yes (by omega) (by omega), h1]
    exact b1s _
-- ===== the reference's slots =====
def SlT (I : Nat → Nat → Int32) (i : Nat) (t : Tm) : Prop := I 435 i = nI (tS t) ∧ Cd I 434 (39 * i) t
def MLs (I : Nat → Nat → Int32) (n : Nat) (fo : Nat → Tm) (en : Nat → Option (Nat × Nat)) : Prop := I 433 5 = nI n ∧ ∀ i, i < n → SlT I i (fo i) ∧ I 436 i = mjv (en i) ∧ I 437 i = mnv (en i)
theorem ix39 (i k : Nat) : ((39 : Int32) * nI i) + nI k = nI (39 * i + k) := by
  rw [show (39 : Int32) * nI i = nI (39 * i) from pk_mul 39 i, nI_add]
theorem ix39' (i : Nat) : (39 : Int32) * nI i = nI (39 * i) := pk_mul 39 i
theorem fstF_s {p : Nat → Bool} {n k : Nat} : fstF p (n + 1) k = if p k = true then k else fstF p n (k + 1) := rfl
/-- one slot against one -/
theorem m_same {m : qM} {i : Nat} {s t : Tm} {v2 : Int32} (hM : MS (qK m) (qN m) (qR m)) (hi : i < 181) (hs : SlT (qI m) i s) (ho : One (qI m) t) (bs : bel 99 s) (bt : bel 99 t) (h39 : tS s ≤ 39) (e : tS s = tS t) : lX10_place_30 NF 433 v2 (nI i) NF 1 0 m = some (if sameT s t = true then 1 else 0, m) := by
  obtain ⟨⟨k433, r0, r1, r2, r3, r4, r6, r10, r12, r14, r15, r16, r17, r18, r19, r20, r22, r23, r26, -⟩, ⟨k434, k435, k436, k437, k438, k439, k440, k441, k442, k443, k444, k445, k446, k447, k448, k449, k450, k451, -⟩, ⟨n434, n435, n436, n437, n438, n439, n440, n441, n442, n443, n444, n445, n446, n447, n448, n449, n450, n451, -⟩⟩ := hM
  obtain ⟨o1, o2⟩ := ho
  have hsame : sameT s t = true ↔ ∀ j, j < tS s → (pol s).getD j 0 = (pol t).getD j 0 := by
    unfold sameT
    rw [decide_eq_true_eq]
    constructor
    · intro z j _; rw [z]
    · intro z
      exact list_ext_getD (by rw [pol_len, pol_len, e]) (fun j hj => z j (by rw [pol_len] at hj; exact hj))
  obtain ⟨b, e1, e2⟩ := walk (l := fun g (s : Int32 × Int32) => lX10_place_30 NF 433 v2 (nI i) g s.1 s.2 m) (J := fun r x => (∃ k, k + r = tS s ∧ x = (1, nI k) ∧ ∀ j, j < k → (pol s).getD j 0 = (pol t).getD j 0) ∨ (∃ k, k ≤ tS s ∧ x = (0, nI k) ∧ ¬ sameT s t = true)) (Q := fun b => b = (if sameT s t = true then 1 else 0, m)) (fun g r x hj => by
    rcases hj with ⟨k, hk, rfl, hp⟩ | ⟨k, hk, rfl, hp⟩
    · have hp1 := pol_lt bs k
      have hp2 := pol_lt bt k
      have o2k := o2 k (by omega)
      rw [Nat.zero_add] at o2k
      have hgo : lX10_place_30 NF 433 v2 (nI i) (g + 1) 1 (nI k) m = if (pol s).getD k 0 = (pol t).getD k 0 then lX10_place_30 NF 433 v2 (nI i) g 1 (nI (k + 1)) m else lX10_place_30 NF 433 v2 (nI i) g 0 (nI (k + 1)) m := by
        conv => lhs; unfold lX10_place_30
        unfold kX10_place_71
        refine EgI k433 o1 ?_
        refine EIn (fun z => by have := (nI_leI (by omega) (by omega)).mp z; omega) ?_
        refine EIn i10 ?_
        refine EgR k433 r0 ?_
        refine EaI k434 (ix39 _ _) (by omega) (by omega) (hs.2 k (by omega)) ?_
        refine EgR k433 r26 ?_
        refine EaI k451 rfl (by omega) (by omega) o2k ?_
        rw [nI_s]
        by_cases ec : (pol s).getD k 0 = (pol t).getD k 0
        · rw [if_pos ec, if_pos (by rw [ec])]
        · rw [if_neg ec, if_neg (fun z => ec ((nI_eq (by omega) (by omega)).mp z))]
      by_cases ec : (pol s).getD k 0 = (pol t).getD k 0
      · rw [if_pos ec] at hgo
        exact Or.inl ⟨(1, nI (k + 1)), Or.inl ⟨k + 1, by omega, rfl, fun j hj => by
          by_cases ej : j = k
          · rw [ej]; exact ec
          · exact hp j (by omega)⟩, hgo⟩
      · rw [if_neg ec] at hgo
        exact Or.inl ⟨(0, nI (k + 1)), Or.inr ⟨k + 1, by omega, rfl, fun z => ec (hsame.mp z k (by omega))⟩, hgo⟩
    · refine Or.inr ⟨(0, m), ?_, by rw [if_neg hp]⟩
      show lX10_place_30 NF 433 v2 (nI i) (g + 1) 0 (nI k) m = _
      unfold lX10_place_30
      refine EgI k433 o1 ?_
      by_cases ek : tS t ≤ k
      · refine EIp ((nI_leI (by omega) (by omega)).mpr ek) ?_
        rfl
      · refine EIn (fun z => ek ((nI_leI (by omega) (by omega)).mp z)) ?_
        refine EIp rfl ?_
        rfl) (fun g x hj => by
    rcases hj with ⟨k, hk, rfl, hp⟩ | ⟨k, hk, rfl, hp⟩
    · refine ⟨(1, m), ?_, by rw [if_pos (hsame.mpr (fun j hj => hp j (by omega)))]⟩
      show lX10_place_30 NF 433 v2 (nI i) (g + 1) 1 (nI k) m = _
      unfold lX10_place_30
      refine EgI k433 o1 ?_
      refine EIp ((nI_leI (by omega) (by omega)).mpr (by omega)) ?_
      rfl
    · refine ⟨(0, m), ?_, by rw [if_neg hp]⟩
      show lX10_place_30 NF 433 v2 (nI i) (g + 1) 0 (nI k) m = _
      unfold lX10_place_30
      refine EgI k433 o1 ?_
      by_cases ek : tS t ≤ k
      · refine EIp ((nI_leI (by omega) (by omega)).mpr ek) ?_
        rfl
      · refine EIn (fun z => ek ((nI_leI (by omega) (by omega)).mp z)) ?_
        refine EIp rfl ?_
        rfl) (tS s) NF (1, nI 0) (by unfold NF; omega) (Or.inl ⟨0, by omega, rfl, fun j hj => by omega⟩)
  rw [e2] at e1
  exact e1
theorem m_place {m : qM} {lo n : Nat} {g : Nat → Tm} {t : Tm} (hM : MS (qK m) (qN m) (qR m)) (hn : lo + n ≤ 181) (hs : ∀ i, lo ≤ i → i < lo + n → SlT (qI m) i (g i) ∧ bel 99 (g i) ∧ tS (g i) ≤ 39) (ho : One (qI m) t) (bt : bel 99 t) (ht : tS t ≤ 80) : fX10_place NF 433 (nI lo) (nI (lo + n)) m = some (if fstF (fun i => sameT (g i) t) n lo < lo + n then nI (fstF (fun i => sameT (g i) t) n lo) else -1, m) := by
  have hM0 := hM
  obtain ⟨⟨k433, r0, r1, -⟩, ⟨k434, k435, -⟩, ⟨n434, n435, -⟩⟩ := hM
  have o1 := ho.1
  have hgo : ∀ f k, lo ≤ k → k < lo + n → lX10_place_2 NF 433 (nI (lo + n)) (f + 1) (nI k) m = if sameT (g k) t = true then some (.inr (nI k, m)) else lX10_place_2 NF 433 (nI (lo + n)) f (nI (k + 1)) m := by
    intro f k h1 h2
    obtain ⟨s1, s2, s3⟩ := hs k h1 h2
    conv => lhs; unfold lX10_place_2
    unfold kX10_place_25
    refine EIn (fun z => by have := (nI_leI (by omega) (by omega)).mp z; omega) ?_
    refine EgR k433 r1 ?_
    refine EaI k435 rfl (by omega) (by omega) s1.1 ?_
    refine EgI k433 o1 ?_
    by_cases e : tS (g k) = tS t
    · have hsm := m_same (v2 := nI (lo + n)) hM0 (by omega) s1 ho s2 bt s3 e
      refine EIp (by rw [e]) ?_
      refine EB hsm ?_
      by_cases e2 : sameT (g k) t = true
      · rw [if_pos e2, if_pos e2]
        refine EIn i10 ?_
        rfl
      · rw [if_neg e2, if_neg e2]
        refine EIp rfl ?_
        rw [nI_s]
    · have e2 : ¬ sameT (g k) t = true := fun z => e (by rw [(sameT_iff s2 bt).mp z])
      rw [if_neg e2]
      refine EIn (fun z => e ((nI_eq (by omega) (by omega)).mp z)) ?_
      have hz : lX10_place_30 NF 433 (nI (lo + n)) (nI k) NF 0 0 m = some (0, m) := by
        show lX10_place_30 NF 433 (nI (lo + n)) (nI k) (6999 + 1) 0 (nI 0) m = _
        unfold lX10_place_30
        refine EgI k433 o1 ?_
        have := tS_pos t
        refine EIn (fun z => by have := (nI_leI (by omega) (by omega)).mp z; omega) ?_
        refine EIp rfl ?_
        rfl
      refine EB hz ?_
      refine EIp rfl ?_
      rw [nI_s]
  obtain ⟨b, e1, e2⟩ := walk (l := fun f (k : Int32) => lX10_place_2 NF 433 (nI (lo + n)) f k m) (J := fun r s => ∃ k, lo ≤ k ∧ k + r = lo + n ∧ s = nI k ∧ fstF (fun i => sameT (g i) t) r k = fstF (fun i => sameT (g i) t) n lo) (Q := fun b => b = (if fstF (fun i => sameT (g i) t) n lo < lo + n then .inr (nI (fstF (fun i => sameT (g i) t) n lo), m) else .inl m)) (fun f r s hj => by
    obtain ⟨k, h1, hk, rfl, hp⟩ := hj
    have hg := hgo f k h1 (by omega)
    rw [fstF_s] at hp
    by_cases e : sameT (g k) t = true
    · rw [if_pos e] at hg hp
      refine Or.inr ⟨_, hg, ?_⟩
      rw [← hp, if_pos (by omega)]
    · rw [if_neg e] at hg hp
      exact Or.inl ⟨nI (k + 1), ⟨k + 1, by omega, by omega, rfl, hp⟩, hg⟩) (fun f s hj => by
    obtain ⟨k, h1, hk, rfl, hp⟩ := hj
    have hp2 : k = fstF (fun i => sameT (g i) t) n lo := hp
    refine ⟨.inl m, ?_, ?_⟩
    · show lX10_place_2 NF 433 (nI (lo + n)) (f + 1) (nI k) m = _
      unfold lX10_place_2
      refine EIp ((nI_leI (by omega) (by omega)).mpr (by omega)) ?_
      rfl
    · rw [if_neg (by omega)]) n NF (nI lo) (by unfold NF; omega) ⟨lo, by omega, by omega, rfl, rfl⟩
  unfold fX10_place
  rw [show lX10_place_2 NF 433 (nI (lo + n)) NF (nI lo) m = some b from e1, e2]
  by_cases e : fstF (fun i => sameT (g i) t) n lo < lo + n
  · rw [if_pos e, if_pos e]; rfl
  · rw [if_neg e, if_neg e]; rfl
def dPu (a : Nat) : Prop := a = 434 ∨ a = 435
theorem m_puts {m : qM} {i : Nat} {t : Tm} (hM : MS (qK m) (qN m) (qR m)) (hi : i < 181) (ho : One (qI m) t) (ht : tS t ≤ 39) : ∃ m2, fX10_puts NF 433 (nI i) m = some m2 ∧ Fx dPu m m2 ∧ SlT (qI m2) i t ∧ (∀ j, j ≠ i → qI m2 435 j = qI m 435 j) ∧ (∀ z, (z < 39 * i ∨ 39 * i + tS t ≤ z) → qI m2 434 z = qI m 434 z) := by
  obtain ⟨⟨k433, r0, r1, r2, r3, r4, r6, r10, r12, r14, r15, r16, r17, r18, r19, r20, r22, r23, r26, -⟩, ⟨k434, k435, k436, k437, k438, k439, k440, k441, k442, k443, k444, k445, k446, k447, k448, k449, k450, k451, -⟩, ⟨n434, n435, n436, n437, n438, n439, n440, n441, n442, n443, n444, n445, n446, n447, n448, n449, n450, n451, -⟩⟩ := hM
  obtain ⟨o1, o2⟩ := ho
  let m1 : qM := qsI m 435 i (nI (tS t))
  obtain ⟨b, e1, e2⟩ := walk (l := fun f (s : Int32 × qM) => lX10_puts_12 NF 433 (nI i) f s.1 s.2) (J := fun r s => ∃ k m', k + r = tS t ∧ s = (nI k, m') ∧ Fx (fun a => a = 434) m1 m' ∧ ∀ z, qI m' 434 z = if 39 * i ≤ z ∧ z < 39 * i + k then nI ((pol t).getD (z - 39 * i) 0) else qI m 434 z) (Q := fun m' => Fx (fun a => a = 434) m1 m' ∧ ∀ z, qI m' 434 z = if 39 * i ≤ z ∧ z < 39 * i + tS t then nI ((pol t).getD (z - 39 * i) 0) else qI m 434 z) (fun f r s hj => by
    obtain ⟨k, m', hk, rfl, hF, hz⟩ := hj
    have o2k : qI m' 451 k = nI ((pol t).getD k 0) := by
      rw [hF.i (by decide)]
      have := o2 k (by omega)
      rw [Nat.zero_add] at this
      exact this
    have o1' : qI m' 433 27 = nI (tS t) := by rw [hF.i (by decide)]; exact o1
    have K433 : qK m' 433 = 10 := by rw [hF.1]; exact k433
    have K434 : qK m' 434 = 12 := by rw [hF.1]; exact k434
    have K451 : qK m' 451 = 12 := by rw [hF.1]; exact k451
    have N434 : qN m' 434 = 7059 := by rw [hF.2.1]; exact n434
    have N451 : qN m' 451 = 80 := by rw [hF.2.1]; exact n451
    have R0 : qR m' 433 0 = some 434 := by rw [hF.2.2.1]; exact r0
    have R26 : qR m' 433 26 = some 451 := by rw [hF.2.2.1]; exact r26
    refine Or.inl ⟨(nI (k + 1), qsI m' 434 (39 * i + k) (nI ((pol t).getD k 0))), ⟨k + 1, _, by omega, rfl, hF.sI rfl, fun z => ?_⟩, ?_⟩
    · simp only [qS, ↓reduceIte]
      by_cases ez : z = 39 * i + k
      · rw [if_pos ez, if_pos (by omega), ez, Nat.add_sub_cancel_left]
      · rw [if_neg ez, hz z]
        by_cases e3 : 39 * i ≤ z ∧ z < 39 * i + k
        · rw [if_pos e3, if_pos (by omega)]
        · rw [if_neg e3, if_neg (by omega)]
    · show lX10_puts_12 NF 433 (nI i) (f + 1) (nI k) m' = lX10_puts_12 NF 433 (nI i) f (nI (k + 1)) _
      conv => lhs; unfold lX10_puts_12
      refine EgI K433 o1' ?_
      refine EIn (fun z => by have := (nI_leI (by omega) (by omega)).mp z; omega) ?_
      refine EgR K433 R0 ?_
      refine EgR K433 R26 ?_
      refine EaI K451 rfl (by omega) (by omega) o2k ?_
      refine EwI K434 (ix39 _ _) (by omega) (by omega) rfl ?_
      rw [nI_s]) (fun f s hj => by
    obtain ⟨k, m', hk, rfl, hF, hz⟩ := hj
    obtain rfl : k = tS t := by omega
    refine ⟨m', ?_, hF, hz⟩
    show lX10_puts_12 NF 433 (nI i) (f + 1) (nI (tS t)) m' = _
    unfold lX10_puts_12
    refine EgI (show qK m' 433 = 10 by rw [hF.1]; exact k433) (show qI m' 433 27 = nI (tS t) by rw [hF.i (by decide)]; exact o1) ?_
    refine EIp ((nI_leI (by omega) (by omega)).mpr (Nat.le_refl _)) ?_
    rfl) (tS t) NF (nI 0, m1) (by unfold NF; omega) ⟨0, m1, by omega, rfl, Fx.rf, fun z => by rw [if_neg (by omega)]; rfl⟩
  obtain ⟨hF, hz⟩ := e2
  have f1 : Fx dPu m m1 := Fx.rf.sI (Or.inr rfl)
  refine ⟨b, ?_, f1.tr (hF.mono (fun a h => Or.inl h)), ⟨?_, fun j hj => ?_⟩, fun j hj => ?_, fun z hz2 => ?_⟩
  · unfold fX10_puts
    refine EgR k433 r1 ?_
    refine EgI k433 o1 ?_
    refine EwI k435 rfl (by omega) (by omega) rfl ?_
    refine EB e1 ?_
    rfl
  · rw [hF.i (by decide)]; simp [m1, qS]
  · rw [hz, if_pos (by omega), Nat.add_sub_cancel_left]
  · rw [hF.i (by decide)]; simp [m1, qS, hj]
  · rw [hz, if_neg (by omega)]
end
