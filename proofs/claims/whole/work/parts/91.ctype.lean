section
-- ===== addType of the class =====
def TyP (I : Nat → Nat → Int32) : List Tm → Prop
  | [] => True
  | t :: st => CFm I (409 + 2 * st.length) t ∧ TyP I st
theorem TyP_of {I I2 : Nat → Nat → Int32} : ∀ {st : List Tm}, TyP I st → (∀ a, 409 ≤ a → a < 409 + 2 * st.length → I2 a = I a) → TyP I2 st
  | [], _, _ => trivial
  | t :: st, h, e => ⟨CFm_of h.1 (e _ (by omega) (by simp)) (e _ (by omega) (by simp; omega)), TyP_of h.2 (fun a h1 h2 => e a h1 (by simp; omega))⟩
def dEt (a : Nat) : Prop := (132 ≤ a ∧ a ≤ 141) ∨ (409 ≤ a ∧ a ≤ 428) ∨ a = 431
theorem c_enterType {m : qM} {s : ST} (h : CP m s) (hs : okS s) (hp : tE 0 true 0 (sTx s) = none) : ∃ m2, fX9_enterType NF 0 m = some (teA s, m2) ∧ CP m2 (teS s) ∧ Gc m m2 := by
  have hP := h
  have hn := hs.1.1
  have h80 := h.2.2.1
  have hX := h.1
  obtain ⟨k0, r00, r01, r02, r03, r04, r05, r06, r07, r08, r09, r010, r011, r012⟩ := hX.c0
  obtain ⟨S, hS, k393, r394, k394, n394, rS, kS, nS⟩ := hX.tm
  obtain ⟨m1, p1, p2, p3⟩ := c_read hP hs hp hS rS
  have hP1 : CP m1 s := CP_fx hP hn p2 (fun a ha => by unfold dTm at ha; omega)
  have hh0 := ps_hk (sTx s) false [] 0 (by simp) hp
  have hpl := ps_len (sTx s) [false]
  have g1 : Gc m m1 := p2.mono (fun a ha => by unfold dTm at ha; omega)
  generalize hsg : ps [false] (sTx s) = sg at *
  have hh : hk ([] : List Tm).length sg ∧ ([] : List Tm).length ≤ 10 := ⟨hh0, by simp⟩
  obtain ⟨b, e1, e2⟩ := walk (l := fun g (x : Int32 × Int32 × qM) => lX9_enterType_15 NF 0 g x.1 x.2.1 x.2.2) (J := fun r x => ∃ i st m', i + r = sg.length ∧ x = (nI st.length, nI i, m') ∧ Fx dEt m1 m' ∧ TyP (qI m') st ∧ (∀ t, t ∈ st → okF t) ∧ (hk st.length (sg.drop i) ∧ st.length ≤ 10) ∧ exS (sg.drop i) st = exS sg []) (Q := fun b => ∃ m', Fx dEt m1 m' ∧ ((∃ t, b = .inl m' ∧ exS sg [] = .inl [t] ∧ CFm (qI m') 409 t ∧ okF t) ∨ ∃ f, b = .inr (f, m') ∧ exS sg [] = .inr f)) (fun g r x hj => by
    obtain ⟨i, st, m', hi, rfl, hF, hT, hok, ⟨hhk, h10l⟩, hex⟩ := hj
    have hP' : CP m' s := CP_fx hP1 hn hF (fun a ha => by unfold dEt at ha; omega)
    have hX' := hP'.1
    obtain ⟨K0, R00, R01, R02, R03, R04, R05, R06, R07, R08, R09, R010, R011, R012⟩ := hX'.c0
    have K393 : qK m' 393 = 6 := by rw [hF.1, p2.1]; exact k393
    have RS : qR m' 393 5 = some S := by rw [hF.2.2.1, p2.2.2.1]; exact rS
    have KS : qK m' S = 11 := by rw [hF.1, p2.1]; exact kS
    have NS : qN m' S = 160 := by rw [hF.2.1, p2.2.1]; exact nS
    have hlen : fX6_length NF 393 m' = some (nI sg.length, m') := by
      unfold fX6_length
      refine EgI K393 (show qI m' 393 7 = nI sg.length by rw [hF.i (by unfold dEt; omega)]; exact p3.1) ?_
      rfl
    rw [drop_cons (by omega)] at hhk hex
    have hsi : qI m' S i = nI (sg.getD i 0) := by rw [hF.i (by unfold dEt; omega)]; exact p3.2 i (by omega)
    generalize hcc : sg.getD i 0 = c at *
    have hc128 : c < 128 := by
      by_cases e : c = 64
      · omega
      · rw [hk_let e] at hhk; have := ixL_c hhk.2.1; omega
    have hat : fX6_at NF 393 (nI i) m' = some (nI c, m') := by
      unfold fX6_at
      refine EgR K393 RS ?_
      refine EaI KS rfl (show i < qN m' S by omega) (by omega) hsi ?_
      rw [c16 c hc128]
    have hpre : ∀ R, (if nI c = (64 : Int32) then (if nI st.length < (2 : Int32) then kX9_enterType_91 NF (lX9_enterType_15 NF 0 g) 0 (nI st.length) (nI i) (nI c) m' else (qgR m' 0 9 3).bind fun x5 => (qgR m' 0 9 9).bind fun x6 => (qaR m' x6 15 ((nI st.length + (-1 : Int32)) - (1 : Int32))).bind fun x7 => (qgR m' 0 9 9).bind fun x8 => (qaR m' x8 15 (nI st.length + (-1 : Int32))).bind fun x9 => (qgR m' 0 9 9).bind fun x10 => (qaR m' x10 15 ((nI st.length + (-1 : Int32)) - (1 : Int32))).bind fun x11 => (qChk m' x5 8 (fX8_detachInto NF x5 x7 x9 x11 m')).bind fun b12 => if b12.1 = 0 then kX9_enterType_117 NF (lX9_enterType_15 NF 0 g) 0 (nI st.length + (-1 : Int32)) (nI i) b12.2 else some (.inr (b12.1, b12.2))) else kX9_enterType_91 NF (lX9_enterType_15 NF 0 g) 0 (nI st.length) (nI i) (nI c) m') = R → lX9_enterType_15 NF 0 (g + 1) (nI st.length) (nI i) m' = R := by
      intro R hR
      conv => lhs; unfold lX9_enterType_15
      refine EgR K0 R07 ?_
      refine EC K393 hlen ?_
      refine EIn (fun z => by have := (nI_leI (by omega) (by omega)).mp z; omega) ?_
      refine EgR K0 R07 ?_
      refine EC K393 hat ?_
      exact hR
    have e64 : (nI c = (64 : Int32)) ↔ c = 64 := nI_eq (b := 64) (by omega) (by omega)
    by_cases c1 : c = 64
    · subst c1
      rw [hk_app] at hhk
      rcases st with _ | ⟨a, _ | ⟨b, rr⟩⟩
      · have := hhk.1; simp at this
      · have := hhk.1; simp at this
      · rw [ex_app] at hex
        have hl : (a :: b :: rr).length = rr.length + 2 := by simp
        rw [hl] at hhk hpre
        have hlt : rr.length + 2 ≤ 10 := by rw [hl] at h10l; exact h10l
        obtain ⟨Fa, Ra, k408, n408⟩ := hX'.yy (i := rr.length + 1) (by omega)
        obtain ⟨Fb, Rb, -, -⟩ := hX'.yy (i := rr.length) (by omega)
        have oa := hok a (by simp)
        have ob := hok b (by simp)
        have Ca : CFm (qI m') (409 + 2 * (rr.length + 1)) a := hT.1
        have Cb : CFm (qI m') (409 + 2 * rr.length) b := hT.2.1
        obtain ⟨m2, q1, q2, q3⟩ := c_detachInto (f3 := 409 + 2 * rr.length) hX'.un Fb Fa Fb (by omega) (by omega) (by omega) Cb Ca ob.1 oa.1
        have f2 : Fx dEt m1 m2 := hF.tr (q2.mono (fun a ha => by unfold dDi at ha; unfold dEt; omega))
        have x1 : nI (rr.length + 2) + (-1 : Int32) = nI (rr.length + 1) := nI_p (by omega)
        have x2 : nI (rr.length + 1) - (1 : Int32) = nI rr.length := nI_m1 (by omega)
        have hpre2 : ∀ R, (if rc (dU b a) = 0 then lX9_enterType_15 NF 0 g (nI (rr.length + 1)) (nI (i + 1)) m2 else some (.inr (rc (dU b a), m2))) = R → lX9_enterType_15 NF 0 (g + 1) (nI (rr.length + 2)) (nI i) m' = R := by
          intro R hR
          apply hpre
          refine EIp rfl ?_
          refine EIn (fun z => by have := (nI_ltI (b := 2) (by omega) (by omega)).mp z; omega) ?_
          refine EgR K0 R03 ?_
          refine EgR K0 R09 ?_
          rw [x1, x2]
          refine EaR k408 rfl (show rr.length < qN m' 408 by omega) (by omega) Rb ?_
          refine EgR K0 R09 ?_
          refine EaR k408 rfl (show rr.length + 1 < qN m' 408 by omega) (by omega) Ra ?_
          refine EgR K0 R09 ?_
          refine EaR k408 rfl (show rr.length < qN m' 408 by omega) (by omega) Rb ?_
          refine EC hX'.un.1 q1 ?_
          unfold kX9_enterType_117
          rw [nI_s]
          exact hR
        by_cases hr : rc (dU b a) = 0
        · rw [if_pos hr] at hex
          obtain ⟨w1, w2⟩ := q3 (rc_ok.mp hr)
          refine Or.inl ⟨(nI (rr.length + 1), nI (i + 1), m2), ⟨i + 1, rt (dU b a) :: rr, m2, by omega, rfl, f2, ⟨w1, TyP_of hT.2.2 (fun a h1 h2 => q2.i (by unfold dDi; omega))⟩, fun t ht => ?_, ?_, hex⟩, hpre2 _ (if_pos hr)⟩
          · rcases List.mem_cons.mp ht with rfl | ht
            · exact w2
            · exact hok t (by simp [ht])
          · exact ⟨by have := hhk.2; simpa using this, by simp; omega⟩
        · rw [if_neg hr] at hex
          exact Or.inr ⟨_, hpre2 _ (if_neg hr), m2, f2, Or.inr ⟨_, rfl, hex.symm⟩⟩
    · rw [hk_let c1] at hhk
      rw [ex_let c1] at hex
      obtain ⟨F, R9, k408, n408⟩ := hX'.yy (i := st.length) (by omega)
      obtain ⟨m2, q1, q2, q3⟩ := c_readType (c := c) (i := st.length) hX' (by omega) hc128
      have f2 : Fx dEt m1 m2 := hF.tr (q2.mono (fun a ha => by unfold dTy at ha; unfold dEt; omega))
      refine Or.inl ⟨(nI (st.length + 1), nI (i + 1), m2), ⟨i + 1, tyT (tyK c) :: st, m2, by omega, rfl, f2, ⟨q3, TyP_of hT (fun a h1 h2 => q2.i (by unfold dTy; omega))⟩, fun t ht => ?_, ⟨by simpa using hhk.2.2, by simp; omega⟩, hex⟩, hpre _ ?_⟩
      · rcases List.mem_cons.mp ht with rfl | ht
        · exact ty_okF (tyK_lt c)
        · exact hok t ht
      · refine EIn (fun z => c1 (e64.mp z)) ?_
        unfold kX9_enterType_91
        refine EIn (fun z => c1 (e64.mp z)) ?_
        refine EIn (fun z => by have := (nI_leI (a := 10) (by omega) (by omega)).mp z; omega) ?_
        refine EgR K0 R09 ?_
        refine EaR k408 rfl (show st.length < qN m' 408 by omega) (by omega) R9 ?_
        refine EC K0 q1 ?_
        unfold kX9_enterType_117
        rw [nI_s, nI_s]) (fun g x hj => by
    obtain ⟨i, st, m', hi, rfl, hF, hT, hok, ⟨hhk, h10l⟩, hex⟩ := hj
    obtain rfl : i = sg.length := by omega
    rw [List.drop_length] at hhk hex
    have h1 : st.length = 1 := hhk
    obtain ⟨t, rfl⟩ := one_getD h1
    have hP' : CP m' s := CP_fx hP1 hn hF (fun a ha => by unfold dEt at ha; omega)
    obtain ⟨K0, R00, R01, R02, R03, R04, R05, R06, R07, -⟩ := hP'.1.c0
    have K393 : qK m' 393 = 6 := by rw [hF.1, p2.1]; exact k393
    have hlen : fX6_length NF 393 m' = some (nI sg.length, m') := by
      unfold fX6_length
      refine EgI K393 (show qI m' 393 7 = nI sg.length by rw [hF.i (by unfold dEt; omega)]; exact p3.1) ?_
      rfl
    refine ⟨.inl m', ?_, m', hF, Or.inl ⟨t, rfl, hex.symm, hT.1, hok t (by simp)⟩⟩
    show lX9_enterType_15 NF 0 (g + 1) (nI [t].length) (nI sg.length) m' = _
    unfold lX9_enterType_15
    refine EgR K0 R07 ?_
    refine EC K393 hlen ?_
    refine EIp ((nI_leI (by omega) (by omega)).mpr (Nat.le_refl _)) ?_
    rfl) sg.length NF (nI 0, nI 0, m1) (by unfold NF; omega) ⟨0, [], m1, by omega, rfl, Fx.rf, trivial, fun t ht => by simp at ht, hh, rfl⟩
  have hpre : ∀ R, qTh (some b) (fun o4 => (qgR o4 0 9 2).bind fun x5 => (qgR o4 0 9 9).bind fun x6 => (qaR o4 x6 15 (0 : Int32)).bind fun x7 => (qChk o4 x5 1 (fX1_enter NF x5 x7 (-4 : Int32) (-4 : Int32) o4)).bind fun b8 => some (b8.1, b8.2)) (fun r => r) = R → fX9_enterType NF 0 m = R := by
    intro R hR
    unfold fX9_enterType
    refine EgR k0 r07 ?_
    refine EgR k0 r00 ?_
    refine EC k393 p1 ?_
    rw [show lX9_enterType_15 NF 0 NF 0 0 m1 = some b from e1]
    exact hR
  unfold teA teS
  rw [hsg]
  obtain ⟨m', hF, e2⟩ := e2
  have hP' : CP m' s := CP_fx hP1 hn hF (fun a ha => by unfold dEt at ha; omega)
  have hX' := hP'.1
  have gF : Gc m m' := g1.tr (hF.mono (fun a ha => by unfold dEt at ha; omega))
  rcases e2 with ⟨t, rfl, he, hC, ht⟩ | ⟨f, rfl, he⟩
  · rw [he]
    obtain ⟨F, R9, k408, n408⟩ := hX'.yy (i := 0) (by omega)
    obtain ⟨m2, w1, w2, w3⟩ := c_enter (e := none) hX' hP'.2.2.2.2.1 hs.1 F (by omega) hC (bel_mono ht.1 (by omega)) (fun a b z => by cases z)
    refine ⟨m2, hpre _ ?_, CP_ent hP' w2 w3, gF.tr (w2.mono (fun a ha => by unfold dLi at ha; omega))⟩
    show (qgR m' 0 9 2).bind _ = _
    refine EgR hX'.c0.1 hX'.c0.2.2.2.1 ?_
    refine EgR hX'.c0.1 hX'.c0.2.2.2.2.2.2.2.2.2.2.1 ?_
    refine EaR k408 (show (0 : Int32) = nI 0 from rfl) (show 0 < qN m' 408 by omega) (by omega) R9 ?_
    refine EC hX'.ls.1 w1 ?_
    rfl
  · rw [he]
    exact ⟨m', hpre _ rfl, hP', gF⟩
theorem c_addType {m : qM} {s : ST} (h : CP m s) (hs : okS s) : ∃ m2, fX9_addType NF 0 m = some (aTy s, m2) ∧ CP m2 (sTy s) ∧ Gc m m2 := by
  have hX := h.1
  have hn := hs.1.1
  obtain ⟨k0, r00, -⟩ := hX.c0
  have hpo := c_termErr h hs
  unfold fX9_addType aTy sTy
  cases hp : tE 0 true 0 (sTx s) with
  | some p =>
    rw [hp] at hpo
    obtain ⟨w1, w2⟩ := CP_tx h hn
    have hpl := (tE_len _ _ _ _ _ hp).2
    have h80 := h.2.2.1
    refine ⟨qsI m 1 1 0, ?_, w1, w2.mono (fun a ha => by omega)⟩
    refine EC k0 hpo ?_
    refine EIn (show ¬ nI p = -1 from nI_ng (by omega)) ?_
    unfold kX9_addType_21
    refine EgR k0 r00 ?_
    refine EC hX.t1.1 (fX7_makeEmpty_eq hX.t1.1) ?_
    rfl
  | none =>
    rw [hp] at hpo
    obtain ⟨m1, p1, p2, p3⟩ := c_enterType h hs hp
    obtain ⟨w1, w2⟩ := CP_tx p2 (te_ok hs hp).1.1
    have hX1 := p2.1
    refine ⟨qsI m1 1 1 0, ?_, w1, p3.tr (w2.mono (fun a ha => by omega))⟩
    refine EC k0 hpo ?_
    refine EIp rfl ?_
    refine EC k0 p1 ?_
    unfold kX9_addType_21
    refine EgR hX1.c0.1 hX1.c0.2.1 ?_
    refine EC hX1.t1.1 (fX7_makeEmpty_eq hX1.t1.1) ?_
    rfl
end
