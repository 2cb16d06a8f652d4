section
-- ===== the reference reads a formula =====
theorem MS.t {K N : Nat → Nat} {R : Nat → Nat → Option Nat} (h : MS K N R) : K 433 = 10 ∧ R 433 6 = some 439 ∧ K 439 = 12 ∧ N 439 = 80 ∧ R 433 26 = some 451 ∧ K 451 = 12 ∧ N 451 = 80 ∧ R 433 28 = some 452 ∧ K 452 = 12 ∧ N 452 = 26 := by
  obtain ⟨⟨k433, r0, r1, r2, r3, r4, r6, r10, r12, r14, r15, r16, r17, r18, r19, r20, r22, r23, r26, r28, -⟩, ⟨k434, k435, k436, k437, k438, k439, k440, k441, k442, k443, k444, k445, k446, k447, k448, k449, k450, k451, k452, -⟩, ⟨n434, n435, n436, n437, n438, n439, n440, n441, n442, n443, n444, n445, n446, n447, n448, n449, n450, n451, n452, -⟩⟩ := h
  exact ⟨k433, r6, k439, n439, r26, k451, n451, r28, k452, n452⟩
theorem in_nat {N c a b : Nat} {m : qM} (hc : c < 2 ^ 31) (ha : a < 2 ^ 31) (hb : b < 2 ^ 31) : fX10_in N (nI c) (nI a) (nI b) m = some (if a ≤ c ∧ c ≤ b then 1 else 0, m) := by
  rw [fX10_in_eq]
  by_cases h1 : c < a
  · rw [if_pos ((nI_ltI hc ha).mpr h1), if_neg (by omega)]
  · rw [if_neg (fun z => h1 ((nI_ltI hc ha).mp z))]
    by_cases h2 : b < c
    · rw [if_pos ((nI_ltI hb hc).mpr h2), if_neg (by omega)]
    · rw [if_neg (fun z => h2 ((nI_ltI hb hc).mp z)), if_pos (by omega)]
def dRe (a : Nat) : Prop := a = 433 ∨ a = 451
theorem m_reads {m : qM} {tx : List Nat} (hM : MS (qK m) (qN m) (qR m)) (hT : MTx (qI m) tx) : ∃ m2, Fx dRe m m2 ∧ (∀ j, j ≠ 9 → j ≠ 27 → qI m2 433 j = qI m 433 j) ∧ ((∃ p, pE 67 97 122 1 0 tx = some p ∧ fX10_readsFormula NF 433 m = some (0, m2) ∧ qI m2 433 9 = nI p) ∨ (pE 67 97 122 1 0 tx = none ∧ fX10_readsFormula NF 433 m = some (1, m2) ∧ qI m2 433 27 = nI tx.length ∧ ∀ i, i < tx.length → qI m2 451 i = nI (cd 67 97 (tx.getD i 0)))) := by
  obtain ⟨k433, r6, k439, n439, r26, k451, n451, r28, k452, n452⟩ := hM.t
  have h80 := hT.2.1
  let m1 : qM := qsI m 433 27 (nI 0)
  have f1 : Fx dRe m m1 := Fx.rf.sI (Or.inl rfl)
  obtain ⟨b, e1, e2⟩ := walk (l := fun g (x : Int32 × Int32 × qM) => lX10_readsFormula_9 NF 433 g x.1 x.2.1 x.2.2) (J := fun r x => ∃ k d m', k + r = tx.length ∧ x = (nI d, nI k, m') ∧ d ≤ k + 1 ∧ pE 67 97 122 d k (tx.drop k) = pE 67 97 122 1 0 tx ∧ Fx dRe m m' ∧ (∀ j, j ≠ 9 → j ≠ 27 → qI m' 433 j = qI m 433 j) ∧ qI m' 433 27 = nI k ∧ ∀ i, i < k → qI m' 451 i = nI (cd 67 97 (tx.getD i 0))) (Q := fun b => ∃ m', Fx dRe m m' ∧ (∀ j, j ≠ 9 → j ≠ 27 → qI m' 433 j = qI m 433 j) ∧ ((∃ p, pE 67 97 122 1 0 tx = some p ∧ b = .inr (0, m') ∧ qI m' 433 9 = nI p) ∨ (∃ d, d < 200 ∧ pE 67 97 122 1 0 tx = (if d = 0 then none else some tx.length) ∧ b = .inl (nI d, m') ∧ qI m' 433 27 = nI tx.length ∧ ∀ i, i < tx.length → qI m' 451 i = nI (cd 67 97 (tx.getD i 0))))) (fun g r x hj => by
    obtain ⟨k, d, m', hk, rfl, hd, hp, hF, hj, h27, hc⟩ := hj
    have hM' := hF.M hM
    obtain ⟨K433, R6, K439, N439, R26, K451, N451, -⟩ := hM'.t
    have h7 : qI m' 433 7 = nI tx.length := by rw [hj 7 (by decide) (by decide)]; exact hT.1
    have hat : qI m' 439 k = nI (tx.getD k 0) := by rw [hF.i (by simp [dRe])]; exact (hT.2.2 k (by omega)).1
    have hlt := (hT.2.2 k (by omega)).2
    rw [drop_cons (by omega), pE_cons] at hp
    generalize hcc : tx.getD k 0 = c at hp hat hlt
    let m4 : qM := qsI m' 433 9 (nI k)
    have f4 : Fx dRe m m4 := hF.sI (Or.inl rfl)
    have j4 : ∀ j, j ≠ 9 → j ≠ 27 → qI m4 433 j = qI m 433 j := fun j a1 a2 => by simp only [m4, qS, a1, ↓reduceIte]; exact hj j a1 a2
    have hpre : ∀ R, (if nI d = 0 then some (.inr ((0 : Int32), m4)) else if nI c = 67 then kX10_readsFormula_52 NF (lX10_readsFormula_9 NF 433 g) 433 (nI d) (nI k) (nI c) m4 else (fX10_in NF (nI c) 97 122 m4).bind fun b5 => if b5.1 = 0 then some (.inr ((0 : Int32), b5.2)) else kX10_readsFormula_52 NF (lX10_readsFormula_9 NF 433 g) 433 (nI d) (nI k) (nI c) b5.2) = R → lX10_readsFormula_9 NF 433 (g + 1) (nI d) (nI k) m' = R := by
      intro R hR
      unfold lX10_readsFormula_9
      refine EgI K433 h7 ?_
      refine EIn (fun z => by have := (nI_leI (by omega) (by omega)).mp z; omega) ?_
      refine EgR K433 R6 ?_
      refine EaI K439 rfl (by omega) (by omega) hat ?_
      refine EpI K433 rfl ?_
      exact hR
    let m5 : qM := qsI (qsI m4 433 27 (nI (k + 1))) 451 k (nI (cd 67 97 c))
    have f5 : Fx dRe m m5 := (f4.sI (Or.inl rfl)).sI (Or.inr rfl)
    have j5 : ∀ j, j ≠ 9 → j ≠ 27 → qI m5 433 j = qI m 433 j := fun j a1 a2 => by simp only [m5, qS, a2, ↓reduceIte]; rw [if_neg (by decide)]; exact j4 j a1 a2
    have h275 : qI m5 433 27 = nI (k + 1) := by simp [m5, qS]
    have hc5 : ∀ i, i < k + 1 → qI m5 451 i = nI (cd 67 97 (tx.getD i 0)) := fun i hi => by
      by_cases ei : i = k
      · rw [ei, hcc]; simp [m5, qS]
      · simp only [m5, m4, qS, ei, ↓reduceIte]
        rw [if_neg (by decide), if_neg (by decide)]
        exact hc i (by omega)
    have h52 : c = 67 ∨ (97 ≤ c ∧ c ≤ 122) → kX10_readsFormula_52 NF (lX10_readsFormula_9 NF 433 g) 433 (nI d) (nI k) (nI c) m4 = lX10_readsFormula_9 NF 433 g (if c = 67 then nI d + 1 else nI d + (-1)) (nI (k + 1)) m5 := by
      intro hcs
      have H27 : qI m4 433 27 = nI k := by simp [m4, qS, h27]
      unfold kX10_readsFormula_52 kX10_readsFormula_64 kX10_readsFormula_96
      by_cases e : c = 67
      · subst e
        rw [if_pos rfl]
        refine EIp rfl ?_
        refine EgR (show qK m4 433 = 10 from K433) (show qR m4 433 26 = some 451 from R26) ?_
        refine EgI (show qK m4 433 = 10 from K433) H27 ?_
        refine EpI (show qK m4 433 = 10 from K433) (nI_s _) ?_
        refine EIp rfl ?_
        refine EwI (show qK (qsI m4 433 27 (nI (k + 1))) 451 = 12 from K451) rfl (show k < qN m' 451 by omega) (by omega) (show (99 : Int32) = nI (cd 67 97 67) from rfl) ?_
        rw [nI_s k]
      · have e' : ¬ nI c = (67 : Int32) := fun z => e ((nI_eq (b := 67) (by omega) (by omega)).mp z)
        have hr := hcs.resolve_left e
        have ecd : cd 67 97 c = c - 97 := if_neg e
        rw [if_neg e]
        refine EIn e' ?_
        refine EgR (show qK m4 433 = 10 from K433) (show qR m4 433 26 = some 451 from R26) ?_
        refine EgI (show qK m4 433 = 10 from K433) H27 ?_
        refine EpI (show qK m4 433 = 10 from K433) (nI_s _) ?_
        refine EIn e' ?_
        refine EwI (show qK (qsI m4 433 27 (nI (k + 1))) 451 = 12 from K451) rfl (show k < qN m' 451 by omega) (by omega) (show nI c - (97 : Int32) = nI (cd 67 97 c) by rw [ecd]; exact pk_sub hr.1) ?_
        rw [nI_s k]
    have hin : fX10_in NF (nI c) 97 122 m4 = some (if 97 ≤ c ∧ c ≤ 122 then 1 else 0, m4) := in_nat (a := 97) (b := 122) (by omega) (by omega) (by omega)
    by_cases e0 : d = 0
    · rw [if_pos e0] at hp
      exact Or.inr ⟨_, hpre _ (if_pos (by rw [e0]; rfl)), m4, f4, j4, Or.inl ⟨k, hp.symm, rfl, by simp [m4, qS]⟩⟩
    · have q0 : ¬ nI d = 0 := fun z => e0 ((nI_eq (b := 0) (by omega) (by omega)).mp z)
      rw [if_neg e0] at hp
      by_cases h1 : 97 ≤ c ∧ c ≤ 122
      · rw [if_pos h1] at hp
        refine Or.inl ⟨(nI (d - 1), nI (k + 1), m5), ⟨k + 1, d - 1, m5, by omega, rfl, by omega, hp, f5, j5, h275, hc5⟩, hpre _ ?_⟩
        rw [if_neg q0]
        refine EIn (fun z => by have := (nI_eq (b := 67) (by omega) (by omega)).mp z; omega) ?_
        rw [hin, if_pos h1]
        refine EB rfl ?_
        refine EIn i10 ?_
        show kX10_readsFormula_52 NF _ 433 (nI d) (nI k) (nI c) m4 = _
        rw [h52 (Or.inr h1), if_neg (by omega), nI_p (by omega)]
      · rw [if_neg h1] at hp
        by_cases h2 : c = 67
        · rw [if_pos h2] at hp
          refine Or.inl ⟨(nI (d + 1), nI (k + 1), m5), ⟨k + 1, d + 1, m5, by omega, rfl, by omega, hp, f5, j5, h275, hc5⟩, hpre _ ?_⟩
          rw [if_neg q0]
          refine EIp (by rw [h2]; rfl) ?_
          rw [h52 (Or.inl h2), if_pos h2, nI_s]
        · rw [if_neg h2] at hp
          refine Or.inr ⟨_, hpre _ ?_, m4, f4, j4, Or.inl ⟨k, hp.symm, rfl, by simp [m4, qS]⟩⟩
          rw [if_neg q0]
          refine EIn (fun z => h2 ((nI_eq (b := 67) (by omega) (by omega)).mp z)) ?_
          rw [hin, if_neg h1]
          refine EB rfl ?_
          refine EIp rfl ?_
          rfl) (fun g x hj => by
    obtain ⟨k, d, m', hk, rfl, hd, hp, hF, hj, h27, hc⟩ := hj
    obtain rfl : k = tx.length := by omega
    rw [List.drop_of_length_le (Nat.le_refl _), pE_nil] at hp
    have K433 : qK m' 433 = 10 := by rw [hF.1]; exact k433
    refine ⟨.inl (nI d, m'), ?_, m', hF, hj, Or.inr ⟨d, by omega, hp.symm, rfl, h27, hc⟩⟩
    show lX10_readsFormula_9 NF 433 (g + 1) (nI d) (nI tx.length) m' = _
    unfold lX10_readsFormula_9
    refine EgI K433 (show qI m' 433 7 = nI tx.length by rw [hj 7 (by decide) (by decide)]; exact hT.1) ?_
    refine EIp ((nI_leI (by omega) (by omega)).mpr (Nat.le_refl _)) ?_
    rfl) tx.length NF (nI 1, nI 0, m1) (by unfold NF; omega) ⟨0, 1, m1, by omega, rfl, by omega, by rw [List.drop_zero], f1, fun j _ a2 => by simp [m1, qS, a2], by simp [m1, qS], fun i hi => by omega⟩
  have hpre : ∀ R, qTh (some b) (fun o2 => (qgI o2.2 433 10 7).bind fun x3 => (qpI o2.2 433 10 9 x3).bind fun m4 => if o2.1 = 0 then some ((1 : Int32), m4) else some ((0 : Int32), m4)) (fun r => r) = R → fX10_readsFormula NF 433 m = R := by
    intro R hR
    unfold fX10_readsFormula
    refine EpI k433 (show (0 : Int32) = nI 0 from rfl) ?_
    rw [show lX10_readsFormula_9 NF 433 NF 1 0 (qsI m 433 27 (nI 0)) = some b from e1]
    exact hR
  obtain ⟨m', hF, hj, h⟩ := e2
  rcases h with ⟨p, h1, rfl, h2⟩ | ⟨d, h0, h1, rfl, h2, h3⟩
  · exact ⟨m', hF, hj, Or.inl ⟨p, h1, hpre _ rfl, h2⟩⟩
  · have K433 : qK m' 433 = 10 := by rw [hF.1]; exact k433
    have h7 : qI m' 433 7 = nI tx.length := by rw [hj 7 (by decide) (by decide)]; exact hT.1
    let m6 : qM := qsI m' 433 9 (nI tx.length)
    have f6 : Fx dRe m m6 := hF.sI (Or.inl rfl)
    have j6 : ∀ j, j ≠ 9 → j ≠ 27 → qI m6 433 j = qI m 433 j := fun j a1 a2 => by simp only [m6, qS, a1, ↓reduceIte]; exact hj j a1 a2
    refine ⟨m6, f6, j6, ?_⟩
    by_cases e0 : d = 0
    · rw [if_pos e0] at h1
      refine Or.inr ⟨h1, hpre _ ?_, ?_, fun i hi => ?_⟩
      · show (qgI m' 433 10 7).bind _ = _
        refine EgI K433 h7 ?_
        refine EpI K433 rfl ?_
        refine EIp (show nI d = 0 by rw [e0]; rfl) ?_
        rfl
      · simp [m6, qS, h2]
      · simp only [m6, qS]; rw [if_neg (by decide)]; exact h3 i hi
    · rw [if_neg e0] at h1
      refine Or.inl ⟨tx.length, h1, hpre _ ?_, by simp [m6, qS]⟩
      show (qgI m' 433 10 7).bind _ = _
      refine EgI K433 h7 ?_
      refine EpI K433 rfl ?_
      refine EIn (show ¬ nI d = 0 from fun z => e0 ((nI_eq (b := 0) (by omega) (by omega)).mp z)) ?_
      rfl
-- ===== the reference names the variables =====
def Bg (I : Nat → Nat → Int32) (ns : List Nat) : Prop := ∀ v, v < 26 → I 452 v = if v ∈ ns then nI (ixo ns v) else -1
theorem m_beg0 : ∀ (f k : Nat) (m : qM), MS (qK m) (qN m) (qR m) → k ≤ 26 → 26 < f + k → ∃ m2, lX10_names_2 NF 433 f (nI k) m = some m2 ∧ Fx (fun a => a = 452) m m2 ∧ ∀ v, v < 26 → qI m2 452 v = if k ≤ v then -1 else qI m 452 v := by
  intro f
  induction f with
  | zero => intro k m _ h1 h2; omega
  | succ f ih =>
    intro k m hM hk hf
    have hM0 := hM
    obtain ⟨k433, r6, k439, n439, r26, k451, n451, r28, k452, n452⟩ := hM.t
    by_cases e : 26 ≤ k
    · refine ⟨m, ?_, Fx.rf, fun v hv => by rw [if_neg (by omega)]⟩
      unfold lX10_names_2
      refine EIp ((nI_leI (a := 26) (by omega) (by omega)).mpr e) ?_
      rfl
    · obtain ⟨m2, p1, p2, p3⟩ := ih (k + 1) (qsI m 452 k (-1)) hM0 (by omega) (by omega)
      refine ⟨m2, ?_, (Fx.sI (D := fun a => a = 452) Fx.rf rfl).tr p2, fun v hv => ?_⟩
      · conv => lhs; unfold lX10_names_2
        refine EIn (fun z => e ((nI_leI (a := 26) (by omega) (by omega)).mp z)) ?_
        refine EgR k433 r28 ?_
        refine EwI k452 rfl (by omega) (by omega) rfl ?_
        rw [nI_s]; exact p1
      · rw [p3 v hv]
        simp only [qS, ↓reduceIte]
        by_cases e2 : v = k
        · rw [if_neg (by omega), if_pos e2, if_pos (by omega)]
        · rw [if_neg e2]
          by_cases e3 : k + 1 ≤ v
          · rw [if_pos e3, if_pos (by omega)]
          · rw [if_neg e3, if_neg (by omega)]
theorem m_names {m : qM} {cs : List Nat} (hM : MS (qK m) (qN m) (qR m)) (hl : cs.length ≤ 80) (hc : ∀ c, c ∈ cs → c = 99 ∨ c < 26) (h27 : qI m 433 27 = nI cs.length) (h451 : ∀ i, i < cs.length → qI m 451 i = nI (cs.getD i 0)) :
    ∃ m2, fX10_names NF 433 m = some (if cs.length ≤ 39 ∧ (nm [] cs).length ≤ 12 then 1 else 0, m2) ∧ Fx (fun a => a = 451 ∨ a = 452) m m2 ∧ ∀ i, i < cs.length → qI m2 451 i = nI ((cn [] cs).getD i 0) := by
  have hM0 := hM
  obtain ⟨k433, r6, k439, n439, r26, k451, n451, r28, k452, n452⟩ := hM.t
  obtain ⟨m1, p1, p2, p3⟩ := m_beg0 NF 0 m hM0 (by omega) (by unfold NF; omega)
  have f1 : Fx (fun a => a = 451 ∨ a = 452) m m1 := p2.mono (fun a h => Or.inr h)
  obtain ⟨b, e1, e2⟩ := walk (l := fun g (x : Int32 × Int32 × qM) => lX10_names_25 NF 433 g x.1 x.2.1 x.2.2) (J := fun r x => ∃ k m', k + r = cs.length ∧ x = (nI (nm [] (cs.take k)).length, nI k, m') ∧ Fx (fun a => a = 451 ∨ a = 452) m m' ∧ Bg (qI m') (nm [] (cs.take k)) ∧ (∀ i, i < k → qI m' 451 i = nI ((cn [] (cs.take k)).getD i 0)) ∧ (∀ i, k ≤ i → i < cs.length → qI m' 451 i = nI (cs.getD i 0))) (Q := fun b => ∃ m', b = (nI (nm [] cs).length, m') ∧ Fx (fun a => a = 451 ∨ a = 452) m m' ∧ ∀ i, i < cs.length → qI m' 451 i = nI ((cn [] cs).getD i 0)) (fun g r x hj => by
    obtain ⟨k, m', hk, rfl, hF, hB, h1, h2⟩ := hj
    have hM' := hF.M hM
    obtain ⟨K433, R6, K439, N439, R26, K451, N451, R28, K452, N452⟩ := hM'.t
    have H27 : qI m' 433 27 = nI cs.length := by rw [hF.i (by omega)]; exact h27
    have hck := h2 k (Nat.le_refl _) (by omega)
    have hcc := hc _ (mem_getD (ns := cs) (j := k) (by omega))
    have htk : cs.take (k + 1) = cs.take k ++ [cs.getD k 0] := take_snoc (by omega)
    have hcnl : (cn [] (cs.take k)).length = k := by rw [cn_len, List.length_take]; omega
    have hnl := nm_len (cs.take k) []
    rw [List.length_take] at hnl
    simp only [List.length_nil, Nat.zero_add] at hnl
    generalize hc0 : cs.getD k 0 = c at hck hcc htk
    generalize hns : nm [] (cs.take k) = ns at hB hnl
    generalize hcn : cn [] (cs.take k) = cn0 at h1 hcnl
    have hend : ∀ (m'' : qM), (∀ i, i ≠ k → qI m'' 451 i = qI m' 451 i) → qI m'' 451 k = nI ((cn ns [c]).getD 0 0) → (∀ i, i < k + 1 → qI m'' 451 i = nI ((cn [] (cs.take (k + 1))).getD i 0)) ∧ (∀ i, k + 1 ≤ i → i < cs.length → qI m'' 451 i = nI (cs.getD i 0)) := by
      intro m'' g1 g2
      refine ⟨fun i hi => ?_, fun i hi1 hi2 => by rw [g1 i (by omega)]; exact h2 i (by omega) hi2⟩
      have hsing : cn ns [c] = [(cn ns [c]).getD 0 0] := by
        have hl1 := cn_len [c] ns
        match hq : cn ns [c], hl1 with
        | [x], _ => rfl
      rw [htk, cn_app, hns, hcn, hsing, getD_snoc, hcnl]
      by_cases ei : i = k
      · rw [if_pos ei, ei]; exact g2
      · rw [if_neg ei, g1 i ei]; exact h1 i (by omega)
    left
    by_cases e99 : c = 99
    · have en : nm ns [c] = ns := by rw [e99]; rfl
      have ec : cn ns [c] = [99] := by rw [e99]; rfl
      obtain ⟨q1, q2⟩ := hend m' (fun _ _ => rfl) (by rw [ec, hck, e99]; rfl)
      refine ⟨(nI ns.length, nI (k + 1), m'), ⟨k + 1, m', by omega, ?_, hF, ?_, q1, q2⟩, ?_⟩
      · rw [htk, nm_app, hns, en]
      · rw [htk, nm_app, hns, en]; exact hB
      · show lX10_names_25 NF 433 (g + 1) (nI ns.length) (nI k) m' = lX10_names_25 NF 433 g (nI ns.length) (nI (k + 1)) m'
        conv => lhs; unfold lX10_names_25 kX10_names_93
        refine EgI K433 H27 ?_
        refine EIn (fun z => by have := (nI_leI (by omega) (by omega)).mp z; omega) ?_
        refine EgR K433 R26 ?_
        refine EaI K451 rfl (by omega) (by omega) hck ?_
        refine EIp (by rw [e99]; rfl) ?_
        rw [nI_s]
    · have hc26 : c < 26 := hcc.resolve_left e99
      have hbc := hB c hc26
      have ec : cn ns [c] = [ixo ns c] := cn_one e99
      have c99 : ¬ nI c = (99 : Int32) := fun z => e99 ((nI_eq (b := 99) (by omega) (by omega)).mp z)
      by_cases hm : c ∈ ns
      · have en : nm ns [c] = ns := by rw [nm_one e99, if_pos hm]
        rw [if_pos hm] at hbc
        have hix := ixo_in hm
        let m2 : qM := qsI m' 451 k (nI (ixo ns c))
        obtain ⟨q1, q2⟩ := hend m2 (fun i hi => by simp [m2, qS, hi]) (by rw [ec]; simp [m2, qS])
        refine ⟨(nI ns.length, nI (k + 1), m2), ⟨k + 1, m2, by omega, ?_, hF.sI (Or.inl rfl), ?_, q1, q2⟩, ?_⟩
        · rw [htk, nm_app, hns, en]
        · rw [htk, nm_app, hns, en]
          intro v hv
          simp only [m2, qS]; rw [if_neg (by decide)]; exact hB v hv
        · show lX10_names_25 NF 433 (g + 1) (nI ns.length) (nI k) m' = lX10_names_25 NF 433 g (nI ns.length) (nI (k + 1)) m2
          conv => lhs; unfold lX10_names_25 kX10_names_76 kX10_names_93
          refine EgI K433 H27 ?_
          refine EIn (fun z => by have := (nI_leI (by omega) (by omega)).mp z; omega) ?_
          refine EgR K433 R26 ?_
          refine EaI K451 rfl (by omega) (by omega) hck ?_
          refine EIn c99 ?_
          refine EgR K433 R28 ?_
          refine EgR K433 R26 ?_
          refine EaI K451 rfl (by omega) (by omega) hck ?_
          refine EaI K452 rfl (by omega) (by omega) hbc ?_
          refine EIp (nI_g0 (by omega)) ?_
          refine EgR K433 R26 ?_
          refine EgR K433 R28 ?_
          refine EgR K433 R26 ?_
          refine EaI K451 rfl (by omega) (by omega) hck ?_
          refine EaI K452 rfl (by omega) (by omega) hbc ?_
          refine EwI K451 rfl (by omega) (by omega) rfl ?_
          rw [nI_s]
      · have en : nm ns [c] = ns ++ [c] := by rw [nm_one e99, if_neg hm]
        rw [if_neg hm] at hbc
        have hix := ixo_nin hm
        let m3 : qM := qsI m' 452 c (nI ns.length)
        let m2 : qM := qsI m3 451 k (nI ns.length)
        obtain ⟨q1, q2⟩ := hend m2 (fun i hi => by simp [m2, m3, qS, hi]) (by rw [ec, hix]; simp [m2, qS])
        refine ⟨(nI (ns.length + 1), nI (k + 1), m2), ⟨k + 1, m2, by omega, ?_, (hF.sI (Or.inr rfl)).sI (Or.inl rfl), ?_, q1, q2⟩, ?_⟩
        · rw [htk, nm_app, hns, en]; simp
        · rw [htk, nm_app, hns, en]
          intro v hv
          simp only [m2, m3, qS]
          rw [if_neg (by decide), if_pos trivial]
          by_cases ev : v = c
          · subst ev
            rw [if_pos rfl, if_pos (by simp)]
            congr 1
            unfold ixo
            rw [List.idxOf_append, if_neg hm]
            simp
          · rw [if_neg ev, hB v hv]
            by_cases e3 : v ∈ ns
            · rw [if_pos e3, if_pos (by simp [e3])]
              unfold ixo
              rw [List.idxOf_append, if_pos e3]
            · rw [if_neg e3, if_neg (by simp [e3, ev])]
        · show lX10_names_25 NF 433 (g + 1) (nI ns.length) (nI k) m' = lX10_names_25 NF 433 g (nI (ns.length + 1)) (nI (k + 1)) m2
          have hck3 : qI m3 451 k = nI c := by simp only [m3, qS]; rw [if_neg (by decide)]; exact hck
          have hbc3 : qI m3 452 c = nI ns.length := by simp [m3, qS]
          conv => lhs; unfold lX10_names_25 kX10_names_76 kX10_names_93
          refine EgI K433 H27 ?_
          refine EIn (fun z => by have := (nI_leI (by omega) (by omega)).mp z; omega) ?_
          refine EgR K433 R26 ?_
          refine EaI K451 rfl (by omega) (by omega) hck ?_
          refine EIn c99 ?_
          refine EgR K433 R28 ?_
          refine EgR K433 R26 ?_
          refine EaI K451 rfl (by omega) (by omega) hck ?_
          refine EaI K452 rfl (by omega) (by omega) hbc ?_
          refine EIn (by decide) ?_
          refine EgR K433 R28 ?_
          refine EgR K433 R26 ?_
          refine EaI K451 rfl (by omega) (by omega) hck ?_
          refine EwI K452 rfl (by omega) (by omega) rfl ?_
          show (qgR m3 433 10 26).bind _ = _
          refine EgR (show qK m3 433 = 10 from K433) (show qR m3 433 26 = some 451 from R26) ?_
          refine EgR (show qK m3 433 = 10 from K433) (show qR m3 433 28 = some 452 from R28) ?_
          refine EgR (show qK m3 433 = 10 from K433) (show qR m3 433 26 = some 451 from R26) ?_
          refine EaI (show qK m3 451 = 12 from K451) rfl (show k < qN m' 451 by omega) (by omega) hck3 ?_
          refine EaI (show qK m3 452 = 12 from K452) rfl (show c < qN m' 452 by omega) (by omega) hbc3 ?_
          refine EwI (show qK m3 451 = 12 from K451) rfl (show k < qN m' 451 by omega) (by omega) rfl ?_
          rw [nI_s, nI_s]) (fun g x hj => by
    obtain ⟨k, m', hk, rfl, hF, hB, h1, h2⟩ := hj
    obtain rfl : k = cs.length := by omega
    have htk : cs.take cs.length = cs := List.take_of_length_le (Nat.le_refl _)
    rw [htk] at h1
    refine ⟨(nI (nm [] (cs.take cs.length)).length, m'), ?_, m', by rw [htk], hF, h1⟩
    show lX10_names_25 NF 433 (g + 1) (nI (nm [] (cs.take cs.length)).length) (nI cs.length) m' = _
    unfold lX10_names_25
    refine EgI (show qK m' 433 = 10 by rw [hF.1]; exact k433) (show qI m' 433 27 = nI cs.length by rw [hF.i (by omega)]; exact h27) ?_
    refine EIp ((nI_leI (by omega) (by omega)).mpr (Nat.le_refl _)) ?_
    rfl) cs.length NF (nI 0, nI 0, m1) (by unfold NF; omega) ⟨0, m1, by omega, by simp [nm], f1, fun v hv => by rw [p3 v hv]; simp [nm], fun i hi => by omega, fun i _ hi => by rw [p2.i (by omega)]; exact h451 i hi⟩
  obtain ⟨m', rfl, hF, h1⟩ := e2
  refine ⟨m', ?_, hF, h1⟩
  have hnl := nm_len cs []
  simp only [List.length_nil, Nat.zero_add] at hnl
  unfold fX10_names
  refine EB p1 ?_
  refine EB (show lX10_names_25 NF 433 NF 0 0 m1 = some (nI (nm [] cs).length, m') from e1) ?_
  refine EgI (show qK m' 433 = 10 by rw [hF.1]; exact k433) (show qI m' 433 27 = nI cs.length by rw [hF.i (by omega)]; exact h27) ?_
  by_cases g1 : 39 < cs.length
  · rw [show (if cs.length ≤ 39 ∧ (nm [] cs).length ≤ 12 then (1 : Int32) else 0) = 0 from if_neg (by omega)]
    refine EIp ((nI_ltI (a := 39) (by omega) (by omega)).mpr g1) ?_
    rfl
  · refine EIn (fun z => g1 ((nI_ltI (a := 39) (by omega) (by omega)).mp z)) ?_
    by_cases g2 : 12 < (nm [] cs).length
    · rw [show (if cs.length ≤ 39 ∧ (nm [] cs).length ≤ 12 then (1 : Int32) else 0) = 0 from if_neg (by omega)]
      refine EIp ((nI_ltI (a := 12) (by omega) (by omega)).mpr g2) ?_
      rfl
    · rw [show (if cs.length ≤ 39 ∧ (nm [] cs).length ≤ 12 then (1 : Int32) else 0) = 1 from if_pos (by omega)]
      refine EIn (fun z => g2 ((nI_ltI (a := 12) (by omega) (by omega)).mp z)) ?_
      rfl
theorem MP_tx0 {m : qM} {s : ST} (h : MP m s) : MP (qsI m 433 7 (nI 0)) (wTx s []) := by
  obtain ⟨q1, q2, q3, q4, q5, q6, q7⟩ := h
  have f : Fx (fun a => a = 433) m (qsI m 433 7 (nI 0)) := Fx.rf.sI rfl
  exact ⟨f.M q1, q2, ⟨by simp [qS, wTx, sTx], by simp [wTx, sTx], fun i hi => by simp [wTx, sTx] at hi⟩, MOu_of q4 (by simp [qS]) (f.i (by omega)), MLs_of q5 (fun a ha _ => f.i (by omega)) (by simp [qS]), MMx_of q6 (by simp [qS]) (f.i (by omega)), MRs_of q7 (fun a ha _ => f.i (by omega))⟩
theorem m_addAxiom {m : qM} {s : ST} (h : MP m s) (hs : okS s) : ∃ m2, fX10_addAxiom NF 433 m = some (aAx s, m2) ∧ MP m2 (sAx s) ∧ Gm m m2 := by
  have hP := h
  obtain ⟨hM, -, hT, -⟩ := h
  have k433 := hM.a.1
  have hn := hs.1.1
  have h80 := hT.2.1
  obtain ⟨m1, f1, j1, hr⟩ := m_reads hM hT
  have hP1 : MP m1 s := MP_fx hP f1 (fun a ha => by unfold dRe at ha; omega) (j1 5 (by decide) (by decide)) (j1 7 (by decide) (by decide)) (j1 11 (by decide) (by decide)) (j1 13 (by decide) (by decide))
  have hP2 := MP_tx0 hP1
  have K1 : qK m1 433 = 10 := by rw [f1.1]; exact k433
  let m2 : qM := qsI m1 433 7 (nI 0)
  have g2 : Gm m m2 := (f1.mono (fun a ha => by unfold dRe at ha; omega)).sI (by omega)
  unfold fX10_addAxiom aAx sAx
  rcases hr with ⟨p, hp, e1, e2⟩ | ⟨hp, e1, e2, e3⟩
  · rw [hp]
    refine ⟨m2, ?_, hP2, g2⟩
    refine EC k433 e1 ?_
    refine EpI K1 (show (0 : Int32) = nI 0 from rfl) ?_
    refine EIp rfl ?_
    refine EgI (show qK m2 433 = 10 from K1) (show qI m2 433 9 = nI p by simp only [m2, qS]; rw [if_pos trivial, if_neg (by decide)]; exact e2) ?_
    rfl
  · rw [hp]
    obtain ⟨hpol, hb⟩ := pT_pol (B := 67) (lo := 97) (hi := 122) (by omega) (by omega) hp
    generalize ht : pT 67 97 (sTx s) = t at hpol hb
    have hcl : ((sTx s).map (cd 67 97)).length = (sTx s).length := List.length_map ..
    have htS : tS t = (sTx s).length := by rw [← pol_len, hpol, hcl]
    have hch := pE_chars _ _ _ hp
    obtain ⟨m3, q1, q2, q3⟩ := m_names (m := m2) (cs := (sTx s).map (cd 67 97)) hP2.1 (by omega) (fun c hc => by
      obtain ⟨a, ha, rfl⟩ := List.mem_map.mp hc
      unfold cd
      by_cases e : a = 67
      · rw [if_pos e]; exact Or.inl rfl
      · rw [if_neg e]
        have := (hch a ha).resolve_left e
        exact Or.inr (by omega)) (by simp only [m2, qS]; rw [if_pos trivial, if_neg (by decide), hcl]; exact e2) (fun i hi => by
      rw [getD_map (by omega)]
      simp only [m2, qS]; rw [if_neg (by decide)]
      exact e3 i (by omega))
    have hnv : nv t = (nm [] ((sTx s).map (cd 67 97))).length := by unfold nv; rw [hpol]
    rw [hcl, ← htS, ← hnv] at q1
    have hP3 : MP m3 (wTx s []) := MP_fx hP2 q2 (fun a ha => by omega) (by rw [q2.i (by omega)]) (by rw [q2.i (by omega)]) (by rw [q2.i (by omega)]) (by rw [q2.i (by omega)])
    have g3 : Gm m m3 := g2.tr (q2.mono (fun a ha => by omega))
    have K3 : qK m3 433 = 10 := hP3.1.a.1
    have hpre : ∀ R, (if (if tS t ≤ 39 ∧ nv t ≤ 12 then (1 : Int32) else 0) = 0 then some ((-5 : Int32), m3) else (qChk m3 433 10 (fX10_enters NF 433 (-4) (-4) m3)).bind fun b4 => some (b4.1, b4.2)) = R → ((qChk m 433 10 (fX10_readsFormula NF 433 m)).bind fun b1 => (qpI b1.2 433 10 7 (0 : Int32)).bind fun m2 => if b1.1 = 0 then (qgI m2 433 10 9).bind fun x5 => some ((-100 : Int32) - x5, m2) else (qChk m2 433 10 (fX10_names NF 433 m2)).bind fun b3 => if b3.1 = 0 then some ((-5 : Int32), b3.2) else (qChk b3.2 433 10 (fX10_enters NF 433 (-4) (-4) b3.2)).bind fun b4 => some (b4.1, b4.2)) = R := by
      intro R hR
      refine EC k433 e1 ?_
      refine EpI K1 (show (0 : Int32) = nI 0 from rfl) ?_
      refine EIn i10 ?_
      refine EC (show qK m2 433 = 10 from K1) q1 ?_
      exact hR
    show ∃ m2, _ = some (axA s, m2) ∧ MP m2 (wTx (axS s) []) ∧ Gm m m2
    unfold axA axS
    rw [ht]
    by_cases e : tS t ≤ 39 ∧ nv t ≤ 12
    · rw [if_pos e, if_pos e]
      have hb99 : bel 99 t := bel_mono hb (by omega)
      have hF := okF_cT hb99 e.1 e.2
      have hone : One (qI m3) (cT t) := by
        refine ⟨?_, fun i hi => ?_⟩
        · rw [q2.i (by omega), tS_cT, htS]
          simp only [m2, qS]; rw [if_pos trivial, if_neg (by decide)]; exact e2
        · rw [tS_cT] at hi
          rw [Nat.zero_add, q3 i (by omega), pol_cT hb99, hpol]
      obtain ⟨m4, w1, w2, w3, w4⟩ := m_enters (e := none) hP3.1 hP3.2.2.2.2.1 hs.1 hone hF (fun a b z => by cases z)
      refine ⟨m4, hpre _ ?_, MP_ent hP3 w2 w3 w4, g3.tr (w2.mono (fun a ha => by unfold dEn at ha; omega))⟩
      rw [if_pos e]
      refine EIn i10 ?_
      refine EC K3 w1 ?_
      rfl
    · rw [if_neg e, if_neg e]
      refine ⟨m3, hpre _ ?_, hP3, g3⟩
      rw [if_neg e]
      rfl
end
