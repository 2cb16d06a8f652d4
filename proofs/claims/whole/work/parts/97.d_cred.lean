section
-- ===== reduction: what a run of steps gives =====
def yRn : Nat → Nat → Tm → (Tm × Nat) ⊕ Int32
  | 0, n, t => .inl (t, n)
  | r + 1, n, t => (yRd t).elim (.inl (t, n)) (fun u => if yLv u ≤ 40 then yRn r (n + 1) u else .inr (-5))
theorem yRn_s {r n : Nat} {t : Tm} : yRn (r + 1) n t = (yRd t).elim (.inl (t, n)) (fun u => if yLv u ≤ 40 then yRn r (n + 1) u else .inr (-5)) := rfl
theorem yRn_out : ∀ (r n : Nat) (t t2 : Tm) (n2 : Nat), yRn r n t = .inl (t2, n2) → yOk t → (yTl t false).length ≤ 120 → yLv t ≤ 80 → yOk t2 ∧ (yTl t2 false).length ≤ 120 ∧ yLv t2 ≤ 80 ∧ n2 ≤ n + r := by
  intro r
  induction r with
  | zero =>
    intro n t t2 n2 h h1 h2 h3
    have h' : (Sum.inl (t, n) : (Tm × Nat) ⊕ Int32) = .inl (t2, n2) := h
    injection h' with h'
    injection h' with e1 e2
    subst e1
    subst e2
    exact ⟨h1, h2, h3, by omega⟩
  | succ r ih =>
    intro n t t2 n2 h h1 h2 h3
    rw [yRn_s] at h
    cases hr : yRd t with
    | none =>
      rw [hr] at h
      have h' : (Sum.inl (t, n) : (Tm × Nat) ⊕ Int32) = .inl (t2, n2) := h
      injection h' with h'
      injection h' with e1 e2
      subst e1
      subst e2
      exact ⟨h1, h2, h3, by omega⟩
    | some u =>
      rw [hr] at h
      have h' : (if yLv u ≤ 40 then yRn r (n + 1) u else .inr (-5)) = (.inl (t2, n2) : (Tm × Nat) ⊕ Int32) := h
      by_cases e : yLv u ≤ 40
      · rw [if_pos e] at h'
        have := yTl_3 u
        obtain ⟨q1, q2, q3, q4⟩ := ih (n + 1) u t2 n2 h' (yOk_rd h1 hr) (by omega) (by omega)
        exact ⟨q1, q2, q3, by omega⟩
      · rw [if_neg e] at h'; cases h'
theorem yRn_5 : ∀ (r n : Nat) (t : Tm) (e : Int32), yRn r n t = .inr e → e = -5 := by
  intro r
  induction r with
  | zero => intro n t e h; cases h
  | succ r ih =>
    intro n t e h
    rw [yRn_s] at h
    cases hr : yRd t with
    | none => rw [hr] at h; cases h
    | some u =>
      rw [hr] at h
      have h' : (if yLv u ≤ 40 then yRn r (n + 1) u else .inr (-5)) = (.inr e : (Tm × Nat) ⊕ Int32) := h
      by_cases e2 : yLv u ≤ 40
      · rw [if_pos e2] at h'; exact ih _ _ _ h'
      · rw [if_neg e2] at h'; injection h' with h'; exact h'.symm
def yTx (s : ST) : Tm := (yEx (ps [false] (sTx s)) []).headD (.var 0)
theorem tE_64 : ∀ (cs : List Nat) (d : Nat) (e : Bool) (k : Nat), tE d e k cs = none → ∀ c, c ∈ cs → c ≠ 64 := by
  intro cs
  induction cs with
  | nil => intro d e k _ c hc; simp at hc
  | cons a cs ih =>
    intro d e k h
    rw [tE_cons] at h
    have key : a ≠ 64 ∧ ∃ d e k, tE d e k cs = none := by
      split at h
      · rename_i e1
        split at h
        · exact ⟨by omega, _, _, _, h⟩
        · cases h
      · split at h
        · rename_i e1
          split at h
          · cases h
          · split at h
            · cases h
            · exact ⟨by omega, _, _, _, h⟩
        · split at h
          · rename_i e1
            exact ⟨(ixL_c e1).2, _, _, _, h⟩
          · cases h
    intro c hc
    obtain ⟨k1, d, e, k, k2⟩ := key
    rcases List.mem_cons.mp hc with rfl | hc
    · exact k1
    · exact ih d e k k2 c hc
theorem yTx_ok {s : ST} (hp : tE 0 true 0 (sTx s) = none) (h80 : (sTx s).length ≤ 80) : yEx (ps [false] (sTx s)) [] = [yTx s] ∧ yOk (yTx s) ∧ ps [false] (sTx s) = yPf (yTx s) ∧ (yTl (yTx s) false).length ≤ 80 ∧ yLv (yTx s) ≤ 80 := by
  have hh : hk 0 (ps [false] (sTx s)) := ps_hk (sTx s) false [] 0 (by simp) hp
  obtain ⟨t, h1, h2, h3⟩ := yEx_ok (ps [false] (sTx s)) [] hh (fun t ht => by simp at ht)
  have e : yTx s = t := by unfold yTx; rw [h1]; rfl
  have h4 : ps [false] (sTx s) = yPf t := h3
  have h5 := yPr_pf t h2 [] false
  have h6 := yPr_ps (sTx s) [false] false (tE_64 _ _ _ _ hp)
  rw [List.append_nil, ← h4] at h5
  have h7 : yPr [] (yIs t) = 0 := rfl
  rw [h7] at h5
  have h8 : (yTl t false).length ≤ 80 := by
    rw [if_neg (by simp)] at h6
    simp at h6
    omega
  rw [e]
  exact ⟨h1, h2, h4, h8, Nat.le_trans (yLv_tl t false) h8⟩
def yRu (s : ST) : Option Nat → (Tm × Nat) ⊕ Int32 → Int32 × ST
  | some p, _ => ((-100 : Int32) - nI p, wTx s [])
  | none, .inl z => (nI z.2, wOu (wTx s []) (yTl z.1 false))
  | none, .inr e => (e, wTx s [])
def yRt (s : ST) (a : Int32) : Int32 × ST := if a < 0 then (-2, wTx s []) else if (50 : Int32) < a then (-2, wTx s []) else yRu s (tE 0 true 0 (sTx s)) (yRn a.toNatClampNeg 0 (yTx s))
theorem yTl_lt {t : Tm} (ho : yOk t) : ∀ b c, c ∈ yTl t b → c < 128 := by
  induction t with
  | var d =>
    intro b c hc
    have : c = d := by simpa [yTl] using hc
    have := (ixL_c ho).1
    omega
  | op f x ihf ihx =>
    intro b c hc
    have hc2 : c ∈ (if b = true then 40 :: (yTl f false ++ (yTl x true ++ [41])) else yTl f false ++ yTl x true) := hc
    have h1 := ihf ho.1 false c
    have h2 := ihx ho.2 true c
    split at hc2
    · simp only [List.mem_cons, List.mem_append, List.not_mem_nil, or_false] at hc2
      rcases hc2 with h | h | h | h
      · omega
      · exact h1 h
      · exact h2 h
      · omega
    · rcases List.mem_append.mp hc2 with h | h
      · exact h1 h
      · exact h2 h
theorem ok_rt {s : ST} (hs : okS s) (h80 : (sTx s).length ≤ 80) (a : Int32) : okS (yRt s a).2 := by
  unfold yRt
  split
  · exact ok_clear hs
  split
  · exact ok_clear hs
  cases hp : tE 0 true 0 (sTx s) with
  | some p => exact ok_clear hs
  | none =>
    obtain ⟨-, h1, -, h2, h3⟩ := yTx_ok hp h80
    cases hr : yRn a.toNatClampNeg 0 (yTx s) with
    | inr e => exact ok_clear hs
    | inl z =>
      obtain ⟨t2, n2⟩ := z
      obtain ⟨q1, q2, -⟩ := yRn_out _ _ _ _ _ hr h1 (by omega) h3
      have hc := ok_clear hs
      exact ⟨hc.1, hc.2.1, q2, fun c hc => yTl_lt q1 _ c hc⟩
-- ===== the class reduces =====
theorem c_redL {st : Nat} (hst : st ≤ 50) : ∀ (r n f : Nat) (t : Tm) (m : qM) (S : Nat), n + r = st → r < f → yOk t → yLv t ≤ 80 → TmC m S → Sg (qI m) S (yPf t) → qK m 0 = 9 → qR m 0 7 = some 393 → ∃ m2 S2, Fy dTr m m2 ∧ TmC m2 S2 ∧ ((∃ t2 n2, yRn r n t = .inl (t2, n2) ∧ lX9_reduceText_13 NF 0 (nI st) f (nI n) m = some (.inl (nI n2, m2)) ∧ Sg (qI m2) S2 (yPf t2)) ∨ (yRn r n t = .inr (-5) ∧ lX9_reduceText_13 NF 0 (nI st) f (nI n) m = some (.inr (-5, m2)))) := by
  intro r
  induction r with
  | zero =>
    intro n f t m S hn hf ho hl hT hg k0 r07
    obtain ⟨f, rfl⟩ : ∃ g, f = g + 1 := ⟨f - 1, by omega⟩
    refine ⟨m, S, Fy_of Fx.rf, hT, Or.inl ⟨t, n, rfl, ?_, hg⟩⟩
    unfold lX9_reduceText_13
    exact if_pos ((nI_leI (by omega) (by omega)).mpr (by omega))
  | succ r ih =>
    intro n f t m S hn hf ho hl hT hg k0 r07
    obtain ⟨f, rfl⟩ : ∃ g, f = g + 1 := ⟨f - 1, by omega⟩
    have k := hT.2.1
    rw [yRn_s]
    obtain ⟨m1, a1, a2, a3⟩ := c_findRedex ho hl hT hg
    have hT1 := TmC_fx a1 hT
    have k01 : qK m1 0 = 9 := by rw [a1.1]; exact k0
    have r071 : qR m1 0 7 = some 393 := by rw [a1.2.2.1]; exact r07
    have g1 : Fy dTr m m1 := Fy_of (a1.mono (fun a ha => by unfold dFb at ha; unfold dTr; omega))
    have hlt : ¬ nI st ≤ nI n := fun z => by have := (nI_leI (by omega) (by omega)).mp z; omega
    rcases a3 with ⟨hr, a4⟩ | ⟨u, pre, c, as, post, hr, e1, e2, e3, e4, e5, a4, a5, a6⟩
    · rw [hr]
      refine ⟨m1, S, g1, hT1, Or.inl ⟨t, n, rfl, ?_, a2⟩⟩
      conv => lhs; unfold lX9_reduceText_13
      refine EIn hlt ?_
      refine EgR k0 r07 ?_
      refine EC k a4 ?_
      exact if_pos rfl
    · rw [hr]
      have hlu := yRd_l hr
      have hlen := yPf_len t
      have hlc := yPf_lt ho
      rw [e1] at a2 hlen hlc
      have hx : RxC m1 pre c as := ⟨e2, e3, e4, a5, a6⟩
      have hsz := c_sizeA (post := post) (u := u) hT1 a2 (by omega) hx e5 (by omega)
      have hpre : ∀ R, (if nI (yLv u) ≤ (40 : Int32) then (qgR m1 0 9 7).bind fun x5 => (qChk m1 x5 6 (fX6_makeStep NF x5 m1)).bind fun b6 => lX9_reduceText_13 NF 0 (nI st) f (nI (n + 1)) b6 else some (.inr ((-5 : Int32), m1))) = R → lX9_reduceText_13 NF 0 (nI st) (f + 1) (nI n) m = R := by
        intro R hR
        conv => lhs; unfold lX9_reduceText_13
        refine EIn hlt ?_
        refine EgR k0 r07 ?_
        refine EC k a4 ?_
        refine EIn i10 ?_
        refine EgR k01 r071 ?_
        refine EC hT1.2.1 hsz ?_
        rw [nI_s]
        exact hR
      by_cases e : yLv u ≤ 40
      · obtain ⟨m2, b1, b2, b3, b4⟩ := c_makeStep hlc hT1 a2 (by omega) hx e5 e
        obtain ⟨m3, S3, d1, d2, d3⟩ := ih (n + 1) f u m2 (799 - S) (by omega) (by omega) (yOk_rd ho hr) (by omega) b2 b3 (by rw [b4.1]; exact k01) (by rw [b4.2.2.1 0 (by decide)]; exact r071)
        refine ⟨m3, S3, (g1.tr b4).tr d1, d2, ?_⟩
        show (∃ t2 n2, (if yLv u ≤ 40 then yRn r (n + 1) u else .inr (-5)) = .inl (t2, n2) ∧ _) ∨ ((if yLv u ≤ 40 then yRn r (n + 1) u else .inr (-5)) = .inr (-5) ∧ _)
        rw [if_pos e]
        have go : ∀ R, lX9_reduceText_13 NF 0 (nI st) f (nI (n + 1)) m2 = R → lX9_reduceText_13 NF 0 (nI st) (f + 1) (nI n) m = R := by
          intro R hR
          refine hpre _ ?_
          refine EIp ((nI_leI (b := 40) (by omega) (by omega)).mpr e) ?_
          refine EgR k01 r071 ?_
          refine EC hT1.2.1 b1 ?_
          exact hR
        rcases d3 with ⟨t2, n2, v1, v2, v3⟩ | ⟨v1, v2⟩
        · exact Or.inl ⟨t2, n2, v1, go _ v2, v3⟩
        · exact Or.inr ⟨v1, go _ v2⟩
      · refine ⟨m1, S, g1, hT1, Or.inr ⟨?_, hpre _ ?_⟩⟩
        · show (if yLv u ≤ 40 then yRn r (n + 1) u else .inr (-5)) = .inr (-5)
          rw [if_neg e]
        · exact if_neg (fun z => e ((nI_leI (b := 40) (by omega) (by omega)).mp z))
theorem CP_trou {m m2 : qM} {s : ST} {ou : List Nat} (h : CP m s) (hn : sN s ≤ 60) (f : Fx (fun a => dTr a ∨ dOu a) m m2) (hT : CTx (qI m2) 3 ou) : CP m2 (wOu s ou) := by
  obtain ⟨h1, h2, h3, h4, h5, h6, h7⟩ := h
  have e : ∀ a, ¬ (393 ≤ a ∧ a ≤ 400) ∧ a ≠ 3 ∧ a ≠ 4 → qI m2 a = qI m a := fun a ha => f.i (by unfold dTr dOu; omega)
  have el : ∀ a, ¬ (393 ≤ a ∧ a ≤ 400) ∧ a ≠ 3 ∧ a ≠ 4 → qL m2 a = qL m a := fun a ha => f.l (by unfold dTr dOu; omega)
  exact ⟨f.X h1, CTx_of (e 1 (by omega)) (e 2 (by omega)) h2, h3, hT, CLs_of h5 hn (fun a _ ha => ⟨e a (by omega), el a (by omega)⟩), CMx_of h6 (e 389 (by omega)) (e 390 (by omega)), CRs_of h7 (fun a _ ha => e a (by omega))⟩
theorem c_reduceTerm {m : qM} {s : ST} (h : CP m s) (hs : okS s) (a : Int32) : ∃ m2, fX9_reduceTerm NF 0 a m = some ((yRt s a).1, m2) ∧ CP m2 (yRt s a).2 ∧ Fy (fun a => a < 433) m m2 := by
  have hn := hs.1.1
  have h80 := h.2.2.1
  obtain ⟨k0, r00, r01, -⟩ := h.1.c0
  have r07 : qR m 0 7 = some 393 := by
    obtain ⟨-, -, -, -, -, -, -, -, x, -⟩ := h.1.1
    exact x
  /- the end: the text is emptied -/
  have fin : ∀ (m' : qM) (s' : ST) (v : Int32), CP m' s' → sN s' ≤ 60 → Fy (fun a => a < 433) m m' → ∃ m2, kX9_reduceTerm_36 NF 0 v m' = some (v, m2) ∧ CP m2 (wTx s' []) ∧ Fy (fun a => a < 433) m m2 := by
    intro m' s' v h' hn' f'
    obtain ⟨K0, R00, -⟩ := h'.1.c0
    obtain ⟨w1, w2⟩ := CP_tx h' hn'
    refine ⟨qsI m' 1 1 0, ?_, w1, f'.tr (Fy_of (w2.mono (fun a ha => by omega)))⟩
    unfold kX9_reduceTerm_36
    refine EgR K0 R00 ?_
    refine EC h'.1.t1.1 (fX7_makeEmpty_eq h'.1.t1.1) ?_
    rfl
  unfold yRt
  by_cases c1 : a < 0
  · rw [if_pos c1]
    obtain ⟨m2, q1, q2, q3⟩ := fin m s (-2) h hn (Fy_of Fx.rf)
    refine ⟨m2, ?_, q2, q3⟩
    unfold fX9_reduceTerm
    exact EIp c1 q1
  rw [if_neg c1]
  by_cases c2 : (50 : Int32) < a
  · rw [if_pos c2]
    obtain ⟨m2, q1, q2, q3⟩ := fin m s (-2) h hn (Fy_of Fx.rf)
    refine ⟨m2, ?_, q2, q3⟩
    unfold fX9_reduceTerm
    exact EIn c1 (EIp c2 q1)
  rw [if_neg c2]
  obtain ⟨j, hj, rfl⟩ := nI_of (x := a) c1
  have hj50 : j ≤ 50 := by
    apply Classical.byContradiction
    intro z
    exact c2 ((nI_ltI (a := 50) (by omega) hj).mpr (by omega))
  rw [nI_clamp hj]
  have hpo := c_termErr h hs
  cases hp : tE 0 true 0 (sTx s) with
  | some p =>
    rw [hp] at hpo
    have hpl := (tE_len _ _ _ _ _ hp).2
    obtain ⟨m2, q1, q2, q3⟩ := fin m s ((-100 : Int32) - nI p) h hn (Fy_of Fx.rf)
    refine ⟨m2, ?_, q2, q3⟩
    unfold fX9_reduceTerm
    refine EIn c1 ?_
    refine EIn c2 ?_
    refine EC k0 hpo ?_
    refine EIn (show ¬ nI p = -1 from nI_ng (by omega)) ?_
    unfold kX9_reduceTerm_35
    exact q1
  | none =>
    rw [hp] at hpo
    obtain ⟨-, y1, y2, y3, y4⟩ := yTx_ok hp h80
    obtain ⟨S, hT⟩ := TmC_X h.1
    obtain ⟨hS, k, -, -, -, -, -, r5, -⟩ := id hT
    obtain ⟨m1, a1, a2, a3⟩ := c_read h hs hp hS r5
    rw [y2] at a3
    have hT1 := TmC_fx a2 hT
    have g1 : Fy dTr m m1 := Fy_of (a2.mono (fun a ha => by unfold dTm at ha; unfold dTr; omega))
    obtain ⟨m2, S2, b1, b2, b3⟩ := c_redL hj50 j 0 NF (yTx s) m1 S (by omega) (by unfold NF; omega) y1 y4 hT1 a3 (by rw [a2.1]; exact k0) (by rw [a2.2.2.1]; exact r07)
    have g2 := g1.tr b1
    have h2 := CP_fy h hn g2 b2
    have G2 : Fy (fun a => a < 433) m m2 := g2.mono (fun a ha => by unfold dTr at ha; omega)
    obtain ⟨K0, R00, R01, -⟩ := h2.1.c0
    have R07 : qR m2 0 7 = some 393 := by rw [g2.2.2.1 0 (by decide)]; exact r07
    have head : ∀ (v : Int32) (m' : qM) (R : Option (Int32 × qM)), fX9_reduceText NF 0 (nI j) m = some (v, m') → kX9_reduceTerm_36 NF 0 v m' = R → fX9_reduceTerm NF 0 (nI j) m = R := by
      intro v m' R e1 e2
      unfold fX9_reduceTerm
      refine EIn c1 ?_
      refine EIn c2 ?_
      refine EC k0 hpo ?_
      refine EIp rfl ?_
      refine EC k0 e1 ?_
      unfold kX9_reduceTerm_35
      exact e2
    rcases b3 with ⟨t2, n2, v1, v2, v3⟩ | ⟨v1, v2⟩
    · rw [v1]
      obtain ⟨z1, z2, z3, z4⟩ := yRn_out _ _ _ _ _ v1 y1 (by omega) y4
      let m3 : qM := qsI m2 3 1 0
      have f3 : Fx (fun a => a = 3 ∨ a = 4) m2 m3 := Fx.rf.sI (Or.inl rfl)
      have hc3 : CTx (qI m3) 3 [] := CTx_clear
      have h3 := CP_out h2 hn f3 hc3
      have hT3 := TmC_fx f3 b2
      have hg3 : Sg (qI m3) S2 (yPf t2) := Sg_fx f3 (by omega) (by have := b2.1; omega) v3
      obtain ⟨m4, d1, d2, d3⟩ := c_writeTo z1 z3 z2 hT3 h3.1.t3 hg3 hc3
      have h4 := CP_trou h3 hn d2 d3
      obtain ⟨m5, q1, q2, q3⟩ := fin m4 _ (nI n2) h4 hn ((G2.tr (Fy_of (f3.mono (fun a ha => by omega)))).tr (Fy_of (d2.mono (fun a ha => by unfold dTr dOu at ha; omega))))
      refine ⟨m5, head (nI n2) m4 _ ?_ q1, q2, q3⟩
      unfold fX9_reduceText
      refine EgR k0 r07 ?_
      refine EgR k0 r00 ?_
      refine EC k a1 ?_
      refine ETl v2 ?_
      refine EgR K0 R01 ?_
      refine EC h2.1.t3.1 (fX7_makeEmpty_eq h2.1.t3.1) ?_
      refine EgR (show qK m3 0 = 9 from K0) (show qR m3 0 7 = some 393 from R07) ?_
      refine EgR (show qK m3 0 = 9 from K0) (show qR m3 0 1 = some 3 from R01) ?_
      refine EC hT3.2.1 d1 ?_
      rfl
    · rw [v1]
      obtain ⟨m3, q1, q2, q3⟩ := fin m2 s (-5) h2 hn G2
      refine ⟨m3, head (-5) m2 _ ?_ q1, q2, q3⟩
      unfold fX9_reduceText
      refine EgR k0 r07 ?_
      refine EgR k0 r00 ?_
      refine EC k a1 ?_
      exact ETr v2 rfl
end
