section
-- ===== reduction in the reference: writing, the steps =====
theorem ixL_g {c : Nat} (h : ixL c < 6) : lets.getD (ixL c) 0 = c := by
  have h1 := fstF_hit (p := fun i => decide (lets.getD i 0 = c)) 6 0 (by show ixL c < 0 + 6; omega)
  exact of_decide_eq_true h1
theorem lt_len : qtl 11 = lets.length ∧ lets.length < 20 := by decide
theorem lt_ch : ∀ i, i < lets.length → ((((((qTx.getD 11 []).getD i 0) &&& (255 : Int32)).toUInt32 % 65536).toInt32).toUInt32.toUInt16.toUInt32.toInt32).toUInt32.toUInt16.toUInt32.toInt32 = nI (lets.getD i 0) := by decide
theorem s_atL {c : Nat} {m : qM} (h : ixL c < 6) : qChs 11 (fJ0_charAt_5068e NF 11 (nI (ixL c)) m) = some (nI c, m) := by
  have e := s_at3 (N := NF) (k := 11) (i := ixL c) (m := m) (ls := lets) (by omega) lt_len.1 lt_len.2 lt_ch (by show ixL c < 6; exact h)
  rw [ixL_g h] at e
  unfold qChs
  rw [if_pos (by omega)]
  exact e
def dTw (a : Nat) : Prop := a = 433 ∨ a = 440
theorem MOu_put {m : qM} {ou : List Nat} {c : Nat} (h : MOu (qI m) ou) : MOu (qI (qsI (qsI m 433 11 (nI (ou.length + 1))) 440 ou.length (nI c))) (ou ++ [c]) ∧ Fx dTw m (qsI (qsI m 433 11 (nI (ou.length + 1))) 440 ou.length (nI c)) ∧ ∀ j, j ≠ 11 → qI (qsI (qsI m 433 11 (nI (ou.length + 1))) 440 ou.length (nI c)) 433 j = qI m 433 j := by
  refine ⟨⟨?_, fun i hi => ?_⟩, (Fx.rf.sI (Or.inl rfl)).sI (Or.inr rfl), fun j hj => ?_⟩
  · simp only [qS]
    rw [if_neg (by decide), if_pos trivial, if_pos trivial, List.length_append]
    rfl
  · have hi2 : i < ou.length + 1 := by simpa using hi
    rw [getD_snoc]
    simp only [qS]
    rw [if_pos trivial, if_neg (show ¬ (440 : Nat) = 433 by decide)]
    by_cases e : i = ou.length
    · rw [if_pos e, if_pos e]
    · rw [if_neg e, if_neg e]; exact h.2 i (by omega)
  · simp only [qS]
    rw [if_neg (by decide), if_pos trivial, if_neg hj]
theorem NdT_tw {m m2 : qM} {n i : Nat} {t : Tm} (f : Fx dTw m m2) (h : NdT (qI m) n t i) : NdT (qI m2) n t i :=
  NdT_of (Nat.le_refl _) (fun a j x y _ => by rw [f.i (show ¬ dTw a by unfold dTw; omega)]) h
theorem m_tellsT {n : Nat} (hn : n ≤ 7000) : ∀ (t : Tm) (b : Bool) (k i : Nat) (ou : List Nat) (m : qM), MS (qK m) (qN m) (qR m) → NdT (qI m) n t i → yDp t < k → MOu (qI m) ou → ou.length + (yTl t b).length ≤ 400 → ∃ m2, fX10_tells NF k 433 (nI i) (bI b) m = some m2 ∧ Fx dTw m m2 ∧ (∀ j, j ≠ 11 → qI m2 433 j = qI m 433 j) ∧ MOu (qI m2) (ou ++ yTl t b) := by
  intro t
  induction t with
  | var c =>
    intro b k i ou m hM h hk hou hl
    obtain ⟨k, rfl⟩ : ∃ z, k = z + 1 := ⟨k - 1, by omega⟩
    obtain ⟨k433, r29, r30, r31, k453, k454, k455, n453, n454, n455, -, -, -, r10, k440, n440⟩ := hM.nd
    obtain ⟨h1, h2, h3⟩ := h
    have hl2 : ou.length + 1 ≤ 400 := hl
    obtain ⟨w1, w2, w3⟩ := MOu_put (c := c) hou
    refine ⟨_, ?_, w2, w3, w1⟩
    let m5 : qM := qsI m 433 11 (nI (ou.length + 1))
    unfold fX10_tells
    refine EgR k433 r29 ?_
    refine EaI k453 rfl (show i < qN m 453 by omega) (by omega) h2 ?_
    refine EIn (nI_pos (by omega)) ?_
    refine EgR k433 r10 ?_
    refine EgI k433 hou.1 ?_
    refine EpI k433 (nI_s _) ?_
    refine EgR (show qK m5 433 = 10 from k433) (show qR m5 433 29 = some 453 from r29) ?_
    refine EaI (show qK m5 453 = 12 from k453) rfl (show i < qN m5 453 from by show i < qN m 453; omega) (by omega) (show qI m5 453 i = nI (ixL c) by simp only [m5, qS]; rw [if_neg (by decide)]; exact h2) ?_
    refine EB (s_atL h3) ?_
    refine EwI (show qK m5 440 = 12 from k440) rfl (show ou.length < qN m5 440 from by show ou.length < qN m 440; omega) (by omega) rfl ?_
    rfl
  | op f x ihf ihx =>
    intro b k i ou m hM h hk hou hl
    obtain ⟨k, rfl⟩ : ∃ z, k = z + 1 := ⟨k - 1, by omega⟩
    have hdd : max (yDp f) (yDp x) + 1 < k + 1 := hk
    /- both parts, and the closing sign -/
    have key : ∀ (ou1 : List Nat) (m1 : qM), MS (qK m1) (qN m1) (qR m1) → NdT (qI m1) n (.op f x) i → MOu (qI m1) ou1 → ou1.length + ((yTl f false).length + ((yTl x true).length + (if b = true then 1 else 0))) ≤ 400 → ∃ m2, kX10_tells_59 NF (fX10_tells NF k) 433 (nI i) (bI b) m1 = some m2 ∧ Fx dTw m1 m2 ∧ (∀ j, j ≠ 11 → qI m2 433 j = qI m1 433 j) ∧ MOu (qI m2) (ou1 ++ (yTl f false ++ (yTl x true ++ (if b = true then [41] else [])))) := by
      intro ou1 m1 hM1 h1 hou1 hl1
      obtain ⟨k433, r29, r30, r31, k453, k454, k455, n453, n454, n455, -, -, -, r10, k440, n440⟩ := hM1.nd
      obtain ⟨g1, g2, a, c, g3, g4, g5, g6⟩ := id h1
      obtain ⟨m2, p1, p2, p3, p4⟩ := ihf false k a ou1 m1 hM1 g5 (by omega) hou1 (by omega)
      have hM2 := p2.M hM1
      obtain ⟨K433, -, -, R31, -, -, K455, -, -, N455, -⟩ := hM2.nd
      obtain ⟨m3, q1, q2, q3, q4⟩ := ihx true k c (ou1 ++ yTl f false) m2 hM2 (NdT_tw p2 g6) (by omega) p4 (by rw [List.length_append]; omega)
      have hM3 := q2.M hM2
      obtain ⟨L433, -, -, -, -, -, -, -, -, -, -, -, -, R10, L440, O440⟩ := hM3.nd
      have hpre : ∀ R, (if bI b = 0 then some m3 else (qgR m3 433 10 10).bind fun x7 => (qgI m3 433 10 11).bind fun x8 => (qpI m3 433 10 11 (x8 + (1 : Int32))).bind fun m9 => (qwI m9 x7 12 x8 (41 : Int32)).bind fun m10 => some m10) = R → kX10_tells_59 NF (fX10_tells NF k) 433 (nI i) (bI b) m1 = R := by
        intro R hR
        unfold kX10_tells_59
        refine EgR k433 r30 ?_
        refine EaI k454 rfl (show i < qN m1 454 by omega) (by omega) g3 ?_
        refine EC k433 (show fX10_tells NF k 433 (nI a) (0 : Int32) m1 = some m2 from p1) ?_
        refine EgR K433 R31 ?_
        refine EaI K455 rfl (show i < qN m2 455 by omega) (by omega) (show qI m2 455 i = nI c by rw [p2.i (show ¬ dTw 455 by unfold dTw; omega)]; exact g4) ?_
        refine EC K433 (show fX10_tells NF k 433 (nI c) (1 : Int32) m2 = some m3 from q1) ?_
        exact hR
      cases b with
      | false =>
        refine ⟨m3, hpre _ (if_pos rfl), p2.tr q2, fun j hj => (q3 j hj).trans (p3 j hj), ?_⟩
        rw [List.append_assoc] at q4
        rw [if_neg (by decide), List.append_nil]
        exact q4
      | true =>
        have hl3 : ou1.length + ((yTl f false).length + ((yTl x true).length + 1)) ≤ 400 := hl1
        obtain ⟨w1, w2, w3⟩ := MOu_put (c := 41) q4
        have hlen : (ou1 ++ yTl f false ++ yTl x true).length = ou1.length + (yTl f false).length + (yTl x true).length := by
          rw [List.length_append, List.length_append]
        refine ⟨_, hpre _ ?_, (p2.tr q2).tr w2, fun j hj => ((w3 j hj).trans (q3 j hj)).trans (p3 j hj), ?_⟩
        · refine EIn i10 ?_
          refine EgR L433 R10 ?_
          refine EgI L433 q4.1 ?_
          refine EpI L433 (nI_s _) ?_
          refine EwI (show qK (qsI m3 433 11 (nI ((ou1 ++ yTl f false ++ yTl x true).length + 1))) 440 = 12 from L440) rfl (show (ou1 ++ yTl f false ++ yTl x true).length < qN m3 440 by omega) (by omega) (show (41 : Int32) = nI 41 from rfl) ?_
          rfl
        · rw [if_pos rfl, ← List.append_assoc, ← List.append_assoc]
          exact w1
    have hM' := hM
    obtain ⟨k433, r29, r30, r31, k453, k454, k455, n453, n454, n455, -, -, -, r10, k440, n440⟩ := hM'.nd
    obtain ⟨g1, g2, -⟩ := id h
    cases b with
    | false =>
      have hl2 : ou.length + (yTl f false ++ yTl x true).length ≤ 400 := hl
      rw [List.length_append] at hl2
      obtain ⟨m2, p1, p2, p3, p4⟩ := key ou m hM h hou (by show ou.length + ((yTl f false).length + ((yTl x true).length + 0)) ≤ 400; omega)
      refine ⟨m2, ?_, p2, p3, ?_⟩
      · conv => lhs; unfold fX10_tells
        refine EgR k433 r29 ?_
        refine EaI k453 rfl (show i < qN m 453 by omega) (by omega) g2 ?_
        refine EIp (by decide) ?_
        refine EIp rfl ?_
        exact p1
      · rw [if_neg (by decide), List.append_nil] at p4
        exact p4
    | true =>
      have hl2 : ou.length + (40 :: (yTl f false ++ (yTl x true ++ [41]))).length ≤ 400 := hl
      rw [List.length_cons, List.length_append, List.length_append] at hl2
      have hl3 : ou.length + ((yTl f false).length + ((yTl x true).length + 1) + 1) ≤ 400 := hl2
      obtain ⟨w1, w2, w3⟩ := MOu_put (c := 40) hou
      have hl4 : (ou ++ [40]).length = ou.length + 1 := by rw [List.length_append]; rfl
      obtain ⟨m2, p1, p2, p3, p4⟩ := key (ou ++ [40]) _ (w2.M hM) (NdT_tw w2 h) w1 (by show (ou ++ [40]).length + ((yTl f false).length + ((yTl x true).length + 1)) ≤ 400; omega)
      refine ⟨m2, ?_, w2.tr p2, fun j hj => (p3 j hj).trans (w3 j hj), ?_⟩
      · conv => lhs; unfold fX10_tells
        refine EgR k433 r29 ?_
        refine EaI k453 rfl (show i < qN m 453 by omega) (by omega) g2 ?_
        refine EIp (by decide) ?_
        refine EIn i10 ?_
        refine EgR k433 r10 ?_
        refine EgI k433 hou.1 ?_
        refine EpI k433 (nI_s _) ?_
        refine EwI (show qK (qsI m 433 11 (nI (ou.length + 1))) 440 = 12 from k440) rfl (show ou.length < qN m 440 by omega) (by omega) (show (40 : Int32) = nI 40 from rfl) ?_
        exact p1
      · rw [if_pos rfl, List.append_assoc] at p4
        exact p4
theorem m_redL {st : Nat} (hst : st ≤ 50) : ∀ (r n f i ct : Nat) (t : Tm) (m : qM), n + r = st → r < f → MS (qK m) (qN m) (qR m) → qI m 433 32 = nI ct → NdT (qI m) ct t i → yLv t ≤ 80 → ct ≤ 200 + 90 * n → ∃ m2 ct2, Nf m m2 ct ct2 ∧ ((∃ t2 n2 j, yRn r n t = .inl (t2, n2) ∧ lX10_reduceTerm_70 NF 433 (nI st) f (nI i) (nI n) m = some (.inl (nI j, nI n2, m2)) ∧ NdT (qI m2) ct2 t2 j ∧ ct2 ≤ 7000) ∨ (yRn r n t = .inr (-5) ∧ lX10_reduceTerm_70 NF 433 (nI st) f (nI i) (nI n) m = some (.inr (-5, m2)))) := by
  intro r
  induction r with
  | zero =>
    intro n f i ct t m hn hf hM h32 h hl hc
    obtain ⟨f, rfl⟩ : ∃ g, f = g + 1 := ⟨f - 1, by omega⟩
    refine ⟨m, ct, Nf.rf h32, Or.inl ⟨t, n, i, rfl, ?_, h, by omega⟩⟩
    unfold lX10_reduceTerm_70
    exact if_pos ((nI_leI (by omega) (by omega)).mpr (by omega))
  | succ r ih =>
    intro n f i ct t m hn hf hM h32 h hl hc
    obtain ⟨f, rfl⟩ : ∃ g, f = g + 1 := ⟨f - 1, by omega⟩
    have hdl := yDp_lv t
    obtain ⟨m1, c1, a1, a2, a3⟩ := m_reduces t kR i ct m hM h32 h (by unfold kR; omega) (by omega) (by omega)
    have hM1 := a1.M hM
    have hlt : ¬ nI st ≤ nI n := fun z => by have := (nI_leI (by omega) (by omega)).mp z; omega
    rw [yRn_s]
    rcases a3 with ⟨hr, e1, a4⟩ | ⟨u, j, hr, a4, a5⟩
    · subst e1
      rw [hr]
      refine ⟨m1, _, a1, Or.inl ⟨t, n, i, rfl, ?_, a1.nd h, by omega⟩⟩
      unfold lX10_reduceTerm_70
      refine EIn hlt ?_
      refine EC hM.nd.1 a4 ?_
      exact if_neg (show ¬ (0 : Int32) ≤ -1 by decide)
    · rw [hr]
      have hd := yRd_d hr
      have hll := yRd_l hr
      have hjl := NdT_lt a5
      have hsz := m_sizeOf hM1 (n := c1) (by omega) u kR j a5 (by unfold kR; omega)
      have hpre : ∀ R, (if nI (yLv u) ≤ (40 : Int32) then lX10_reduceTerm_70 NF 433 (nI st) f (nI j) (nI (n + 1)) m1 else some (.inr ((-5 : Int32), m1))) = R → lX10_reduceTerm_70 NF 433 (nI st) (f + 1) (nI i) (nI n) m = R := by
        intro R hR
        conv => lhs; unfold lX10_reduceTerm_70
        refine EIn hlt ?_
        refine EC hM.nd.1 a4 ?_
        refine EIp (nI_g0 (by omega)) ?_
        refine EC hM1.nd.1 hsz ?_
        rw [nI_s]
        exact hR
      by_cases e : yLv u ≤ 40
      · obtain ⟨m3, c3, d1, d2⟩ := ih (n + 1) f j c1 u m1 (by omega) (by omega) hM1 a1.2.2.2.2 a5 (by omega) (by omega)
        refine ⟨m3, c3, a1.tr d1, ?_⟩
        show (∃ t2 n2 j', (if yLv u ≤ 40 then yRn r (n + 1) u else .inr (-5)) = .inl (t2, n2) ∧ _) ∨ ((if yLv u ≤ 40 then yRn r (n + 1) u else .inr (-5)) = .inr (-5) ∧ _)
        rw [if_pos e]
        have go : ∀ R, lX10_reduceTerm_70 NF 433 (nI st) f (nI j) (nI (n + 1)) m1 = R → lX10_reduceTerm_70 NF 433 (nI st) (f + 1) (nI i) (nI n) m = R := fun R hR => hpre _ (EIp ((nI_leI (b := 40) (by omega) (by omega)).mpr e) hR)
        rcases d2 with ⟨t2, n2, j2, v1, v2, v3⟩ | ⟨v1, v2⟩
        · exact Or.inl ⟨t2, n2, j2, v1, go _ v2, v3⟩
        · exact Or.inr ⟨v1, go _ v2⟩
      · refine ⟨m1, c1, a1, Or.inr ⟨?_, hpre _ ?_⟩⟩
        · show (if yLv u ≤ 40 then yRn r (n + 1) u else .inr (-5)) = .inr (-5)
          rw [if_neg e]
        · exact if_neg (fun z => e ((nI_leI (b := 40) (by omega) (by omega)).mp z))
theorem m_reduceTerm {m : qM} {s : ST} (h : MP m s) (hs : okS s) (a : Int32) : ∃ m2, fX10_reduceTerm NF 433 a m = some ((yRt s a).1, m2) ∧ MP m2 (yRt s a).2 ∧ Gm m m2 := by
  have k433 := h.1.a.1
  have h80 := h.2.2.1.2.1
  obtain ⟨m1, f1, j1, hr⟩ := m_isTerm h hs
  have hP1 : MP m1 s := MP_kq h f1 (fun a ha => Or.inl ha) (fun j hj => j1 j (by unfold kq at hj; omega))
  have K1 := hP1.1.a.1
  have g1 : Gm m m1 := f1.mono (fun a ha => by omega)
  let m7 : qM := qsI m1 433 7 (nI 0)
  have hP7 : MP m7 (wTx s []) := MP_tx0 hP1
  have g7 : Gm m m7 := g1.sI (by omega)
  have head : ∀ R, (∀ v, fX10_isTerm NF 433 m = some (v, m1) → ((fX10_in NF a (0 : Int32) (50 : Int32) m1).bind fun b2 => if b2.1 = 0 then kX10_reduceTerm_19 NF 433 a b2.2 else if v = 0 then kX10_reduceTerm_19 NF 433 a b2.2 else (qpI b2.2 433 10 8 (0 : Int32)).bind fun m3 => (qpI m3 433 10 32 (0 : Int32)).bind fun m4 => (qChk m4 433 10 (fX10_readsTerm NF kR 433 m4)).bind fun b5 => (qpI b5.2 433 10 7 (0 : Int32)).bind fun m6 => qTh (lX10_reduceTerm_70 NF 433 a NF b5.1 (0 : Int32) m6) (fun o7 => (qpI o7.2.2 433 10 11 (0 : Int32)).bind fun m8 => (qChk m8 433 10 (fX10_tells NF kR 433 o7.1 (0 : Int32) m8)).bind fun b9 => some (o7.2.1, b9)) (fun r => r)) = R) → fX10_reduceTerm NF 433 a m = R := by
    intro R hR
    unfold fX10_reduceTerm
    rcases hr with ⟨p, -, e1, -⟩ | ⟨-, e1⟩
    · exact EC k433 e1 (hR 0 e1)
    · exact EC k433 e1 (hR 1 e1)
  have low : ∀ z : Int32, (if a < 0 then (0 : Int32) else if (50 : Int32) < a then 0 else 1) = 0 → kX10_reduceTerm_19 NF 433 a m1 = some (-2, m7) := by
    intro z hz
    unfold kX10_reduceTerm_19
    refine EpI K1 (show (0 : Int32) = nI 0 from rfl) ?_
    refine EB fX10_in_eq ?_
    exact if_pos hz
  unfold yRt
  by_cases c1 : a < 0
  · rw [if_pos c1]
    refine ⟨m7, head _ (fun v _ => ?_), hP7, g7⟩
    refine EB fX10_in_eq ?_
    refine EIp (if_pos c1) ?_
    exact low 0 (if_pos c1)
  rw [if_neg c1]
  by_cases c2 : (50 : Int32) < a
  · rw [if_pos c2]
    have e : (if a < 0 then (0 : Int32) else if (50 : Int32) < a then 0 else 1) = 0 := by rw [if_neg c1, if_pos c2]
    refine ⟨m7, head _ (fun v _ => ?_), hP7, g7⟩
    refine EB fX10_in_eq ?_
    refine EIp e ?_
    exact low 0 e
  rw [if_neg c2]
  have e0 : ¬ (if a < 0 then (0 : Int32) else if (50 : Int32) < a then 0 else 1) = 0 := by rw [if_neg c1, if_neg c2]; decide
  obtain ⟨j, hj, rfl⟩ := nI_of (x := a) c1
  have hj50 : j ≤ 50 := by
    apply Classical.byContradiction
    intro z
    exact c2 ((nI_ltI (a := 50) (by omega) hj).mpr (by omega))
  rw [nI_clamp hj]
  rcases hr with ⟨p, hp, e1, e2⟩ | ⟨hp, e1⟩
  · rw [hp]
    refine ⟨m7, head _ (fun v hv => ?_), hP7, g7⟩
    have hv0 : v = 0 := by rw [e1] at hv; injection hv with hv; injection hv with hv; exact hv.symm
    refine EB fX10_in_eq ?_
    refine EIn e0 ?_
    refine EIp hv0 ?_
    unfold kX10_reduceTerm_19
    refine EpI K1 (show (0 : Int32) = nI 0 from rfl) ?_
    refine EB fX10_in_eq ?_
    refine EIn e0 ?_
    refine EgI (show qK m7 433 = 10 from K1) (show qI m7 433 9 = nI p by simp only [m7, qS]; rw [if_pos trivial, if_neg (by decide)]; exact e2) ?_
    rfl
  · rw [hp]
    obtain ⟨y0, y1, y2, y3, y4⟩ := yTx_ok hp h80
    let m3 : qM := qsI m1 433 8 (nI 0)
    let m4 : qM := qsI m3 433 32 (nI 0)
    have hP4 : MP m4 s := MP_set (MP_set hP1 (by simp [kq])) (by simp [kq])
    have g4 : Gm m m4 := (g1.sI (by omega)).sI (by omega)
    have hR4 : RdP m4 s 0 0 := ⟨hP4, by simp [m4, m3, qS], by simp [m4, qS], by omega⟩
    obtain ⟨m5, w, i, p2, n5, q1, q2, q3, q4, q5, q6, q7, q8, q9⟩ := m_readsT hs kR [] [] [yTx s] m4 0 0 (by simp) (by unfold kR; simp) hR4 (by omega) hp y0
    have hpe : p2 = (sTx s).length := by
      rcases q7 with e | e
      · exact e
      · apply Classical.byContradiction
        intro hne
        rw [drop_cons (show p2 < (sTx s).length by omega), tE_cons, if_neg (by omega), if_pos e, if_pos (show ([] : List Bool).length = 0 from rfl)] at q8
        cases q8
    rw [hpe, List.drop_length, ps_nil] at q9
    have hw : w = yTx s := by
      have q9' : [w] = [yTx s] := q9
      injection q9'
    subst hw
    have hn5 := q3.2.2.2
    have K5 := q3.1.1.a.1
    have G5 : Gm m m5 := g4.tr (q2.1.mono (fun a ha => by unfold dNd at ha; omega))
    let m6 : qM := qsI m5 433 7 (nI 0)
    have hP6 : MP m6 (wTx s []) := MP_tx0 q3.1
    have hnd6 : NdT (qI m6) n5 (yTx s) i := NdT_of (Nat.le_refl _) (fun a j x y _ => by simp only [m6, qS]; rw [if_neg (by omega)]) q4
    have h326 : qI m6 433 32 = nI n5 := by simp only [m6, qS]; rw [if_pos trivial, if_neg (by decide)]; exact q3.2.2.1
    have G6 : Gm m m6 := G5.sI (by omega)
    obtain ⟨m8, c8, d1, d2⟩ := m_redL hj50 j 0 NF i n5 (yTx s) m6 (by omega) (by unfold NF; omega) hP6.1 h326 hnd6 y4 (by omega)
    have hP8 := d1.P hP6
    have G8 : Gm m m8 := G6.tr (d1.1.mono (fun a ha => by unfold dNd at ha; omega))
    have K8 := hP8.1.a.1
    have body : ∀ R, qTh (lX10_reduceTerm_70 NF 433 (nI j) NF (nI i) (0 : Int32) m6) (fun o7 => (qpI o7.2.2 433 10 11 (0 : Int32)).bind fun m8 => (qChk m8 433 10 (fX10_tells NF kR 433 o7.1 (0 : Int32) m8)).bind fun b9 => some (o7.2.1, b9)) (fun r => r) = R → fX10_reduceTerm NF 433 (nI j) m = R := by
      intro R hR
      refine head _ (fun v hv => ?_)
      have hv1 : v = 1 := by rw [e1] at hv; injection hv with hv; injection hv with hv; exact hv.symm
      refine EB fX10_in_eq ?_
      refine EIn e0 ?_
      refine EIn (by rw [hv1]; exact i10) ?_
      refine EpI K1 (show (0 : Int32) = nI 0 from rfl) ?_
      refine EpI (show qK m3 433 = 10 from K1) (show (0 : Int32) = nI 0 from rfl) ?_
      refine EC (show qK m4 433 = 10 from K1) q1 ?_
      refine EpI K5 (show (0 : Int32) = nI 0 from rfl) ?_
      exact hR
    rcases d2 with ⟨t2, n2, j2, v1, v2, v3, v4⟩ | ⟨v1, v2⟩
    · rw [v1]
      obtain ⟨z1, z2, z3, z4⟩ := yRn_out _ _ _ _ _ v1 y1 (by omega) y4
      let m9 : qM := qsI m8 433 11 (nI 0)
      have f9 : Fx dTw m8 m9 := Fx.rf.sI (Or.inl rfl)
      have hj9 : ∀ j, j ≠ 11 → qI m9 433 j = qI m8 433 j := fun j hj => by simp only [m9, qS]; rw [if_pos trivial, if_neg hj]
      have hdl := yDp_lv t2
      obtain ⟨m10, u1, u2, u3, u4⟩ := m_tellsT (n := c8) v4 t2 false kR j2 [] m9 (f9.M hP8.1) (NdT_tw f9 v3) (by unfold kR; omega) ⟨by simp [m9, qS], fun i hi => by simp at hi⟩ (by show 0 + _ ≤ 400; omega)
      have f10 : Fx dTw m8 m10 := f9.tr u2
      refine ⟨m10, body _ ?_, MP_out hP8 (f10.mono (fun a ha => ha)) (fun j hj => (u3 j hj).trans (hj9 j hj)) u4, G8.tr (f10.mono (fun a ha => by unfold dTw at ha; omega))⟩
      refine ETl v2 ?_
      refine EpI K8 (show (0 : Int32) = nI 0 from rfl) ?_
      refine EC (show qK m9 433 = 10 from K8) (show fX10_tells NF kR 433 (nI j2) (0 : Int32) m9 = some m10 from u1) ?_
      rfl
    · rw [v1]
      refine ⟨m8, body _ ?_, hP8, G8⟩
      exact ETr v2 rfl
end
