section
-- ===== the class enters a formula =====
theorem c_find {m : qM} {f n : Nat} {fo : Nat → Tm} {en : Nat → Option (Nat × Nat)} {t : Tm} {mj mn : Int32} (hX : XS (qK m) (qN m) (qR m)) (hL : CLs (qI m) (qL m) n fo en) (hok : okL n fo en) (F : FmS (qK m) (qN m) (qR m) f) (C : CFm (qI m) f t) (hb : bel 99 t) : lX1_enter_3 NF 5 f mj mn NF 0 m = some (if plc n fo t < n then .inr (nI (plc n fo t), m) else .inl m) := by
  have hn := hok.1
  have h56 := hL.1
  obtain ⟨k5, r50, r51, r52, r53, r54, r55, k6, n6, -⟩ := hX.ls
  have go : ∀ g k, k < n → lX1_enter_3 NF 5 f mj mn (g + 1) (nI k) m = if sameT (fo k) t = true then some (.inr (nI k, m)) else lX1_enter_3 NF 5 f mj mn g (nI (k + 1)) m := by
    intro g k hk
    obtain ⟨Fk, Rk⟩ := hX.lf (i := k) (by omega)
    have hsm := c_sameAs Fk F (hL.2 k hk).1 C (bel_mono (hok.2.2 k hk).1 (by omega)) hb
    conv => lhs; unfold lX1_enter_3
    refine EgI k5 h56 ?_
    refine EIn (fun z => by have := (nI_leI (by omega) (by omega)).mp z; omega) ?_
    refine EgR k5 r50 ?_
    refine EaR k6 rfl (by omega) (by omega) Rk ?_
    refine EC Fk.1 hsm ?_
    by_cases e : sameT (fo k) t = true
    · rw [if_pos e, if_pos e]
      refine EIn i10 ?_
      rfl
    · rw [if_neg e, if_neg e]
      refine EIp rfl ?_
      rw [nI_s]
  obtain ⟨b, e1, e2⟩ := walk (l := fun g (k : Int32) => lX1_enter_3 NF 5 f mj mn g k m) (J := fun r s => ∃ k, k + r = n ∧ s = nI k ∧ fstF (fun i => sameT (fo i) t) r k = plc n fo t) (Q := fun b => b = (if plc n fo t < n then .inr (nI (plc n fo t), m) else .inl m)) (fun g r s hj => by
    obtain ⟨k, hk, rfl, hp⟩ := hj
    have hg := go g k (by omega)
    unfold fstF at hp
    by_cases e : sameT (fo k) t = true
    · rw [if_pos e] at hg hp
      refine Or.inr ⟨_, hg, ?_⟩
      rw [← hp, if_pos (by omega)]
    · rw [if_neg e] at hg hp
      exact Or.inl ⟨nI (k + 1), ⟨k + 1, by omega, rfl, hp⟩, hg⟩) (fun g s hj => by
    obtain ⟨k, hk, rfl, hp⟩ := hj
    obtain rfl : k = n := by omega
    have hp2 : k = plc k fo t := hp
    refine ⟨.inl m, ?_, ?_⟩
    · show lX1_enter_3 NF 5 f mj mn (g + 1) (nI k) m = _
      unfold lX1_enter_3
      refine EgI k5 h56 ?_
      refine EIp ((nI_leI (by omega) (by omega)).mpr (Nat.le_refl _)) ?_
      rfl
    · rw [if_neg (by omega)]) n NF (nI 0) (by unfold NF; omega) ⟨0, by omega, rfl, rfl⟩
  rw [e2] at e1
  exact e1
def dLi (a : Nat) : Prop := 5 ≤ a ∧ a < 132
theorem maxI {a b : Nat} (ha : a < 2 ^ 31) (hb : b < 2 ^ 31) : (if nI a < nI b then nI b else nI a) = nI (max a b) := by
  by_cases h : a < b
  · rw [if_pos ((nI_ltI ha hb).mpr h), Nat.max_eq_right (by omega)]
  · rw [if_neg (fun z => h ((nI_ltI ha hb).mp z)), Nat.max_eq_left (by omega)]
def mEn (m : qM) (n : Nat) (mj mn : Int32) (d : Int32) (s : Int64) (la : Int32) : qM := qsI (qsI (qsL (qsI (qsI (qsI m 7 n mj) 8 n mn) 9 n d) 11 n s) 10 n la) 5 6 (nI (n + 1))
theorem mEn_ls {m m1 : qM} {n : Nat} {fo : Nat → Tm} {en : Nat → Option (Nat × Nat)} {t : Tm} {e : Option (Nat × Nat)} (hL : CLs (qI m) (qL m) n fo en) (hok : okL n fo en) (hn : n < 60) (he : ∀ a b, e = some (a, b) → a < n ∧ b < n) (f1 : Fx (dF (12 + 2 * n)) m m1) (C1 : CFm (qI m1) (12 + 2 * n) t) : CLs (qI (mEn m1 n (mjv e) (mnv e) (nI (rDep (setN en n e) n)) (Int64.ofNat (rSig (setN en n e) n)) (nI (rLast (setN en n e) n)))) (qL (mEn m1 n (mjv e) (mnv e) (nI (rDep (setN en n e) n)) (Int64.ofNat (rSig (setN en n e) n)) (nI (rLast (setN en n e) n)))) (n + 1) (setN fo n t) (setN en n e) := by
  refine ⟨by simp [mEn, qS], fun i hi => ?_⟩
  by_cases e1 : i = n
  · subst e1
    simp only [setN_eq]
    refine ⟨CFm_of C1 ?_ ?_, by simp [mEn, qS], by simp [mEn, qS], by simp [mEn, qS], by simp [mEn, qS], by simp [mEn, qS]⟩
    · funext j; simp only [mEn, qS]
      rw [if_neg (by omega), if_neg (by omega), if_neg (by omega), if_neg (by omega), if_neg (by omega)]
    · funext j; simp only [mEn, qS]
      rw [if_neg (by omega), if_neg (by omega), if_neg (by omega), if_neg (by omega), if_neg (by omega)]
  · obtain ⟨h1, h2, h3, h4, h5, h6⟩ := hL.2 i (by omega)
    have hc : ∀ {β : Type} {ax : Nat → β} {op : β → β → β}, RC ax op (setN en n e) i = RC ax op en i := RC_congr hok.2.1 (fun j hj => setN_ne (by omega)) (by omega)
    simp only [setN_ne e1]
    have g7 : qI m1 7 = qI m 7 := f1.i (by unfold dF; omega)
    have g8 : qI m1 8 = qI m 8 := f1.i (by unfold dF; omega)
    have g9 : qI m1 9 = qI m 9 := f1.i (by unfold dF; omega)
    have g10 : qI m1 10 = qI m 10 := f1.i (by unfold dF; omega)
    have g11 : qL m1 11 = qL m 11 := f1.l (by unfold dF; omega)
    refine ⟨CFm_of h1 ?_ ?_, ?_, ?_, ?_, ?_, ?_⟩
    · have : qI m1 (12 + 2 * i) = qI m (12 + 2 * i) := f1.i (by unfold dF; omega)
      rw [← this]
      funext j; simp only [mEn, qS]
      rw [if_neg (by omega), if_neg (by omega), if_neg (by omega), if_neg (by omega), if_neg (by omega)]
    · have : qI m1 (12 + 2 * i + 1) = qI m (12 + 2 * i + 1) := f1.i (by unfold dF; omega)
      rw [← this]
      funext j; simp only [mEn, qS]
      rw [if_neg (by omega), if_neg (by omega), if_neg (by omega), if_neg (by omega), if_neg (by omega)]
    · simp only [mEn, qS, e1, ↓reduceIte]; rw [← h2, g7]; simp
    · simp only [mEn, qS, e1, ↓reduceIte]; rw [← h3, g8]; simp
    · simp only [mEn, qS, e1, ↓reduceIte]; rw [show rDep (setN en n e) i = rDep en i from hc, g9]; simpa using h4
    · simp only [mEn, qS, e1, ↓reduceIte]; rw [show rLast (setN en n e) i = rLast en i from hc, g10]; simpa using h5
    · simp only [mEn, qS, e1, ↓reduceIte]; rw [show rSig (setN en n e) i = rSig en i from hc, g11]; simpa using h6
theorem c_enter {m : qM} {f n : Nat} {fo : Nat → Tm} {en : Nat → Option (Nat × Nat)} {t : Tm} {e : Option (Nat × Nat)} (hX : XS (qK m) (qN m) (qR m)) (hL : CLs (qI m) (qL m) n fo en) (hok : okL n fo en) (F : FmS (qK m) (qN m) (qR m) f) (hf : 141 < f) (C : CFm (qI m) f t) (hb : bel 99 t) (he : ∀ a b, e = some (a, b) → a < n ∧ b < n) :
    ∃ m2, fX1_enter NF 5 f (mjv e) (mnv e) m = some (entA n fo t, m2) ∧ Fx dLi m m2 ∧ CLs (qI m2) (qL m2) (entN n fo t) (setN fo n t) (setN en n e) := by
  have hfind := c_find (mj := mjv e) (mn := mnv e) hX hL hok F C hb
  have hn := hok.1
  have h56 := hL.1
  have hkeep : CLs (qI m) (qL m) n (setN fo n t) (setN en n e) := by
    refine ⟨h56, fun i hi => ?_⟩
    have hc : ∀ {β : Type} {ax : Nat → β} {op : β → β → β}, RC ax op (setN en n e) i = RC ax op en i := RC_congr hok.2.1 (fun j hj => setN_ne (by omega)) (by omega)
    unfold rDep rLast rSig
    rw [hc, hc, hc, setN_ne (by omega), setN_ne (by omega)]
    exact hL.2 i hi
  obtain ⟨k5, r50, r51, r52, r53, r54, r55, k6, n6, k7, n7, k8, n8, k9, n9, k10, n10, k11, n11, -⟩ := hX.ls
  unfold fX1_enter
  rw [hfind]
  unfold entA entN
  by_cases h1 : plc n fo t < n
  · rw [if_pos h1, if_pos h1, if_pos h1]
    exact ⟨m, rfl, Fx.rf, hkeep⟩
  rw [if_neg h1, if_neg h1, if_neg h1]
  by_cases h2 : n < 60
  · rw [if_pos h2, if_pos h2]
    obtain ⟨Fn, Rn⟩ := hX.lf (i := n) h2
    obtain ⟨m1, p1, p2, p3⟩ := c_copy Fn F C (by omega)
    have hd : Fx dLi m m1 := p2.mono (fun a ha => by unfold dF at ha; unfold dLi; omega)
    have eK := p2.1
    have eN := p2.2.1
    have eR := p2.2.2.1
    have g56 : qI m1 5 6 = nI n := by rw [p2.i (by unfold dF; omega)]; exact h56
    have hfull : fX1_isFull NF 5 m = some (0, m) := by
      unfold fX1_isFull
      refine EgI k5 h56 ?_
      refine EIp ((nI_ltI (b := 60) (by omega) (by omega)).mpr h2) ?_
      rfl
    have hok2 : enOK (setN en n e) (n + 1) := by
      intro i a b hi hs
      by_cases e1 : i = n
      · subst e1; rw [setN_eq] at hs; exact he a b hs
      · rw [setN_ne e1] at hs; exact hok.2.1 i a b (by omega) hs
    have hls := mEn_ls (e := e) hL hok h2 he p2 p3
    have K5 : qK m1 5 = 1 := by rw [eK]; exact k5
    have K7 : qK m1 7 = 12 := by rw [eK]; exact k7
    have K8 : qK m1 8 = 12 := by rw [eK]; exact k8
    have K9 : qK m1 9 = 12 := by rw [eK]; exact k9
    have K10 : qK m1 10 = 12 := by rw [eK]; exact k10
    have K11 : qK m1 11 = 13 := by rw [eK]; exact k11
    have N7 : n < qN m1 7 := by rw [eN]; omega
    have N8 : n < qN m1 8 := by rw [eN]; omega
    have N9 : qN m1 9 = 60 := by rw [eN]; exact n9
    have N10 : qN m1 10 = 60 := by rw [eN]; exact n10
    have N11 : qN m1 11 = 60 := by rw [eN]; exact n11
    have R51 : qR m1 5 1 = some 7 := by rw [eR]; exact r51
    have R52 : qR m1 5 2 = some 8 := by rw [eR]; exact r52
    have R53 : qR m1 5 3 = some 9 := by rw [eR]; exact r53
    have R54 : qR m1 5 4 = some 10 := by rw [eR]; exact r54
    have R55 : qR m1 5 5 = some 11 := by rw [eR]; exact r55
    let m3 : qM := qsI (qsI m1 7 n (mjv e)) 8 n (mnv e)
    have g563 : qI m3 5 6 = nI n := g56
    refine ⟨_, ?_, ?_, hls⟩
    · show (qChk m 5 1 (fX1_isFull NF 5 m)).bind _ = _
      refine EC k5 hfull ?_
      refine EIp rfl ?_
      refine EgR k5 r50 ?_
      refine EgI k5 h56 ?_
      refine EaR k6 rfl (show n < qN m 6 by omega) (by omega) Rn ?_
      refine EC Fn.1 p1 ?_
      refine EgR K5 R51 ?_
      refine EgI K5 g56 ?_
      refine EwI K7 rfl N7 (by omega) rfl ?_
      refine EgR (show qK (qsI m1 7 n (mjv e)) 5 = 1 from K5) (show qR (qsI m1 7 n (mjv e)) 5 2 = some 8 from R52) ?_
      refine EgI (show qK (qsI m1 7 n (mjv e)) 5 = 1 from K5) (show qI (qsI m1 7 n (mjv e)) 5 6 = nI n from g56) ?_
      refine EwI (show qK (qsI m1 7 n (mjv e)) 8 = 12 from K8) rfl (show n < qN m1 8 from N8) (by omega) rfl ?_
      show (qChk m3 5 1 (fX1_has NF 5 (mjv e) m3)).bind _ = _
      cases e with
      | none =>
        have hd0 : rDep (setN en n none) n = 0 := RC_none setN_eq
        have hs0 : rSig (setN en n none) n = 0 := RC_none setN_eq
        have hl0 : rLast (setN en n none) n = n := RC_none setN_eq
        have hh : fX1_has NF 5 (mjv none) m3 = some (0, m3) := by
          unfold fX1_has
          exact if_pos (by decide)
        rw [hd0, hs0, hl0]
        refine EC (show qK m3 5 = 1 from K5) hh ?_
        refine EIp rfl ?_
        unfold kX1_enter_98 kX1_enter_99
        refine EgR (show qK m3 5 = 1 from K5) (show qR m3 5 3 = some 9 from R53) ?_
        refine EgI (show qK m3 5 = 1 from K5) g563 ?_
        refine EIp rfl ?_
        unfold kX1_enter_135
        refine EwI (show qK m3 9 = 12 from K9) rfl (show n < qN m1 9 by omega) (by omega) (show (0 : Int32) = nI 0 from rfl) ?_
        refine EgR (show qK (qsI m3 9 n (nI 0)) 5 = 1 from K5) (show qR (qsI m3 9 n (nI 0)) 5 5 = some 11 from R55) ?_
        refine EgI (show qK (qsI m3 9 n (nI 0)) 5 = 1 from K5) (show qI (qsI m3 9 n (nI 0)) 5 6 = nI n from g56) ?_
        refine EIp rfl ?_
        unfold kX1_enter_168
        refine EwL (show qK (qsI m3 9 n (nI 0)) 11 = 13 from K11) rfl (show n < qN m1 11 by omega) (by omega) ?_
        refine EgR (show qK (qsL (qsI m3 9 n (nI 0)) 11 n 0) 5 = 1 from K5) (show qR (qsL (qsI m3 9 n (nI 0)) 11 n 0) 5 4 = some 10 from R54) ?_
        refine EgI (show qK (qsL (qsI m3 9 n (nI 0)) 11 n 0) 5 = 1 from K5) (show qI (qsL (qsI m3 9 n (nI 0)) 11 n 0) 5 6 = nI n from g56) ?_
        refine EIp rfl ?_
        refine EgI (show qK (qsL (qsI m3 9 n (nI 0)) 11 n 0) 5 = 1 from K5) (show qI (qsL (qsI m3 9 n (nI 0)) 11 n 0) 5 6 = nI n from g56) ?_
        unfold kX1_enter_204
        refine EwI (show qK (qsL (qsI m3 9 n (nI 0)) 11 n 0) 10 = 12 from K10) rfl (show n < qN m1 10 by omega) (by omega) rfl ?_
        refine EgI (show qK (qsI (qsL (qsI m3 9 n (nI 0)) 11 n 0) 10 n (nI n)) 5 = 1 from K5) (show qI (qsI (qsL (qsI m3 9 n (nI 0)) 11 n 0) 10 n (nI n)) 5 6 = nI n from g56) ?_
        refine EpI (show qK (qsI (qsL (qsI m3 9 n (nI 0)) 11 n 0) 10 n (nI n)) 5 = 1 from K5) (nI_s _) ?_
        refine EgI (show qK (qsI (qsI (qsL (qsI m3 9 n (nI 0)) 11 n 0) 10 n (nI n)) 5 6 (nI (n + 1))) 5 = 1 from K5) (v := nI (n + 1)) (by simp [qS]) ?_
        rw [nI_m1 (by omega)]
        rfl
      | some p =>
        obtain ⟨a, b⟩ := p
        obtain ⟨ha, hbn⟩ := he a b rfl
        have hcc : ∀ {β : Type} {ax : Nat → β} {op : β → β → β} {i : Nat}, i < n → RC ax op (setN en n (some (a, b))) i = RC ax op en i := fun hi => RC_congr hok.2.1 (fun j hj => setN_ne (by omega)) hi
        have hd0 : rDep (setN en n (some (a, b))) n = 1 + max (rDep en a) (rDep en b) := by
          unfold rDep
          rw [RC_some hok2 (by omega) setN_eq, hcc ha, hcc hbn]
        have hs0 : rSig (setN en n (some (a, b))) n = 1 + rSig en a + rSig en b := by
          unfold rSig
          rw [RC_some hok2 (by omega) setN_eq, hcc ha, hcc hbn]
        have hl0 : rLast (setN en n (some (a, b))) n = max (rLast en a) (rLast en b) := by
          unfold rLast
          rw [RC_some hok2 (by omega) setN_eq, hcc ha, hcc hbn]
        obtain ⟨-, -, -, a9, a10, a11⟩ := hL.2 a ha
        obtain ⟨-, -, -, b9, b10, b11⟩ := hL.2 b hbn
        have dla := rDep_le hok.2.1 ha
        have dlb := rDep_le hok.2.1 hbn
        have lla := rLast_le hok.2.1 ha
        have llb := rLast_le hok.2.1 hbn
        have c9 : qI m1 9 = qI m 9 := p2.i (by unfold dF; omega)
        have c10 : qI m1 10 = qI m 10 := p2.i (by unfold dF; omega)
        have c11 : qL m1 11 = qL m 11 := p2.l (by unfold dF; omega)
        have hh1 : fX1_has NF 5 (nI a) m3 = some (1, m3) := by
          unfold fX1_has
          refine EIn (nI_pos (by omega)) ?_
          refine EgI (show qK m3 5 = 1 from K5) g563 ?_
          refine EIn (fun z => by have := (nI_leI (by omega) (by omega)).mp z; omega) ?_
          rfl
        have hh2 : fX1_has NF 5 (nI b) m3 = some (1, m3) := by
          unfold fX1_has
          refine EIn (nI_pos (by omega)) ?_
          refine EgI (show qK m3 5 = 1 from K5) g563 ?_
          refine EIn (fun z => by have := (nI_leI (by omega) (by omega)).mp z; omega) ?_
          rfl
        rw [hd0, hs0, hl0]
        refine EC (show qK m3 5 = 1 from K5) hh1 ?_
        refine EIn i10 ?_
        refine EC (show qK m3 5 = 1 from K5) hh2 ?_
        refine EIn i10 ?_
        unfold kX1_enter_99
        refine EgR (show qK m3 5 = 1 from K5) (show qR m3 5 3 = some 9 from R53) ?_
        refine EgI (show qK m3 5 = 1 from K5) g563 ?_
        refine EIn i10 ?_
        refine EgR (show qK m3 5 = 1 from K5) (show qR m3 5 3 = some 9 from R53) ?_
        refine EaI (show qK m3 9 = 12 from K9) (show mjv (some (a, b)) = nI a from rfl) (show a < qN m1 9 by omega) (by omega) (show qI m3 9 a = nI (rDep en a) by show qI m1 9 a = _; rw [c9]; exact a9) ?_
        refine EgR (show qK m3 5 = 1 from K5) (show qR m3 5 3 = some 9 from R53) ?_
        refine EaI (show qK m3 9 = 12 from K9) (show mnv (some (a, b)) = nI b from rfl) (show b < qN m1 9 by omega) (by omega) (show qI m3 9 b = nI (rDep en b) by show qI m1 9 b = _; rw [c9]; exact b9) ?_
        rw [maxI (by omega) (by omega), show (1 : Int32) + nI (max (rDep en a) (rDep en b)) = nI (1 + max (rDep en a) (rDep en b)) from nI_add 1 _]
        unfold kX1_enter_135
        refine EwI (show qK m3 9 = 12 from K9) rfl (show n < qN m1 9 by omega) (by omega) rfl ?_
        generalize hq4 : qsI m3 9 n (nI (1 + max (rDep en a) (rDep en b))) = q4
        have Kq : qK q4 = qK m1 := by rw [← hq4]; rfl
        have Nq : qN q4 = qN m1 := by rw [← hq4]; rfl
        have Rq : qR q4 = qR m1 := by rw [← hq4]; rfl
        have Lq : qL q4 = qL m1 := by rw [← hq4]; rfl
        have Iq5 : qI q4 5 6 = nI n := by rw [← hq4]; exact g56
        have Iq10 : qI q4 10 = qI m1 10 := by rw [← hq4]; rfl
        refine EgR (show qK q4 5 = 1 by rw [Kq]; exact K5) (show qR q4 5 5 = some 11 by rw [Rq]; exact R55) ?_
        refine EgI (show qK q4 5 = 1 by rw [Kq]; exact K5) Iq5 ?_
        refine EIn i10 ?_
        refine EgR (show qK q4 5 = 1 by rw [Kq]; exact K5) (show qR q4 5 5 = some 11 by rw [Rq]; exact R55) ?_
        refine EaL (show qK q4 11 = 13 by rw [Kq]; exact K11) (show mjv (some (a, b)) = nI a from rfl) (show a < qN q4 11 by rw [Nq]; omega) (by omega) (show qL q4 11 a = Int64.ofNat (rSig en a) by rw [Lq, c11]; exact a11) ?_
        refine EgR (show qK q4 5 = 1 by rw [Kq]; exact K5) (show qR q4 5 5 = some 11 by rw [Rq]; exact R55) ?_
        refine EaL (show qK q4 11 = 13 by rw [Kq]; exact K11) (show mnv (some (a, b)) = nI b from rfl) (show b < qN q4 11 by rw [Nq]; omega) (by omega) (show qL q4 11 b = Int64.ofNat (rSig en b) by rw [Lq, c11]; exact b11) ?_
        have hsum : ((1 : Int64) + Int64.ofNat (rSig en a)) + Int64.ofNat (rSig en b) = Int64.ofNat (1 + rSig en a + rSig en b) := by rw [Int64.ofNat_add, Int64.ofNat_add]; rfl
        rw [hsum]
        unfold kX1_enter_168
        refine EwL (show qK q4 11 = 13 by rw [Kq]; exact K11) rfl (show n < qN q4 11 by rw [Nq]; omega) (by omega) ?_
        generalize hq5 : qsL q4 11 n (Int64.ofNat (1 + rSig en a + rSig en b)) = q5
        have Kq2 : qK q5 = qK m1 := by rw [← hq5]; exact Kq
        have Nq2 : qN q5 = qN m1 := by rw [← hq5]; exact Nq
        have Rq2 : qR q5 = qR m1 := by rw [← hq5]; exact Rq
        have Iq52 : qI q5 5 6 = nI n := by rw [← hq5]; exact Iq5
        have Iq102 : qI q5 10 = qI m1 10 := by rw [← hq5]; exact Iq10
        refine EgR (show qK q5 5 = 1 by rw [Kq2]; exact K5) (show qR q5 5 4 = some 10 by rw [Rq2]; exact R54) ?_
        refine EgI (show qK q5 5 = 1 by rw [Kq2]; exact K5) Iq52 ?_
        refine EIn i10 ?_
        refine EgR (show qK q5 5 = 1 by rw [Kq2]; exact K5) (show qR q5 5 4 = some 10 by rw [Rq2]; exact R54) ?_
        refine EaI (show qK q5 10 = 12 by rw [Kq2]; exact K10) (show mjv (some (a, b)) = nI a from rfl) (show a < qN q5 10 by rw [Nq2]; omega) (by omega) (show qI q5 10 a = nI (rLast en a) by rw [Iq102, c10]; exact a10) ?_
        refine EgR (show qK q5 5 = 1 by rw [Kq2]; exact K5) (show qR q5 5 4 = some 10 by rw [Rq2]; exact R54) ?_
        refine EaI (show qK q5 10 = 12 by rw [Kq2]; exact K10) (show mnv (some (a, b)) = nI b from rfl) (show b < qN q5 10 by rw [Nq2]; omega) (by omega) (show qI q5 10 b = nI (rLast en b) by rw [Iq102, c10]; exact b10) ?_
        rw [maxI (by omega) (by omega)]
        unfold kX1_enter_204
        refine EwI (show qK q5 10 = 12 by rw [Kq2]; exact K10) rfl (show n < qN q5 10 by rw [Nq2]; omega) (by omega) rfl ?_
        refine EgI (show qK (qsI q5 10 n (nI (max (rLast en a) (rLast en b)))) 5 = 1 by show qK q5 5 = 1; rw [Kq2]; exact K5) (show qI (qsI q5 10 n (nI (max (rLast en a) (rLast en b)))) 5 6 = nI n from Iq52) ?_
        refine EpI (show qK (qsI q5 10 n (nI (max (rLast en a) (rLast en b)))) 5 = 1 by show qK q5 5 = 1; rw [Kq2]; exact K5) (nI_s _) ?_
        refine EgI (show qK (qsI (qsI q5 10 n (nI (max (rLast en a) (rLast en b)))) 5 6 (nI (n + 1))) 5 = 1 by show qK q5 5 = 1; rw [Kq2]; exact K5) (v := nI (n + 1)) (by simp [qS]) ?_
        rw [nI_m1 (by omega), ← hq5, ← hq4]
        rfl
    · unfold mEn
      exact hd.tr ((((((Fx.rf.sI (by unfold dLi; omega)).sI (by unfold dLi; omega)).sI (by unfold dLi; omega)).sL (by unfold dLi; omega)).sI (by unfold dLi; omega)).sI (by unfold dLi; omega))
  · rw [if_neg h2, if_neg h2]
    have hfull : fX1_isFull NF 5 m = some (1, m) := by
      unfold fX1_isFull
      refine EgI k5 h56 ?_
      refine EIn (fun z => h2 ((nI_ltI (b := 60) (by omega) (by omega)).mp z)) ?_
      rfl
    refine ⟨m, ?_, Fx.rf, hkeep⟩
    show (qChk m 5 1 (fX1_isFull NF 5 m)).bind _ = _
    refine EC k5 hfull ?_
    refine EIn i10 ?_
    rfl
end
