section
-- ===== a round =====
theorem mt_self : ∀ (t : Tm) (bs : List Tm), orC bs.length t → bel 99 t → (∀ j, j < bs.length → bs.getD j (.var 0) = .var j) → ∃ bs2, mt t t bs = some bs2 ∧ ∀ j, j < bs2.length → bs2.getD j (.var 0) = .var j := by
  intro t
  induction t with
  | var v =>
    intro bs ho hb h
    have ho' : v ≤ bs.length := ho
    simp only [mt]
    by_cases e : v < bs.length
    · rw [if_pos e, h v e, if_pos ((sameT_iff hb hb).mpr rfl)]
      exact ⟨bs, rfl, h⟩
    · rw [if_neg e]
      refine ⟨_, rfl, fun j hj => ?_⟩
      rw [getDT_snoc]
      by_cases ej : j = bs.length
      · rw [if_pos ej]; congr 1; omega
      · rw [if_neg ej]; exact h j (by simp at hj; omega)
  | op a b iha ihb =>
    intro bs ho hb h
    obtain ⟨b1, b2⟩ := bel_op.mp hb
    obtain ⟨bs1, e1, h1⟩ := iha bs ho.1 b1 h
    have hnx := mt_nx a a bs bs1 ho.1 e1
    obtain ⟨bs2, e2, h2⟩ := ihb bs1 (by rw [hnx]; exact ho.2) b2 h1
    refine ⟨bs2, ?_, h2⟩
    simp only [mt]
    rw [e1]
    exact e2
theorem isIn_self {t : Tm} (h : okF t) : isIn t t = true := by
  obtain ⟨bs2, e, -⟩ := mt_self t [] (okF_ord h) (bel_mono h.1 (by omega)) (fun j hj => by simp at hj)
  unfold isIn
  rw [e]; rfl
theorem fstF_of {p : Nat → Bool} {n j : Nat} (hj : j < n) (hp : p j = true) : fstF p n 0 ≤ j := by
  apply Classical.byContradiction
  intro h
  have := fstF_miss (p := p) n 0 j (by omega) (by omega)
  rw [hp] at this
  cases this
def covP (s : ST) (t : Tm) : Nat → Bool := fun g => isIn (sFo s g) t
def covB (s : ST) (t : Tm) : Bool := decide (fstF (covP s t) (sN s) 0 < sN s)
theorem cov_new {s : ST} {t : Tm} (ht : okF t) (hs : okS s) (h : covB s t = false) : plc (sN s) (sFo s) t = sN s := by
  have hle := (fstF_le (fun i => sameT (sFo s i) t) (sN s) 0).2
  have e : plc (sN s) (sFo s) t = fstF (fun i => sameT (sFo s i) t) (sN s) 0 := rfl
  apply Classical.byContradiction
  intro hne
  have hlt : fstF (fun i => sameT (sFo s i) t) (sN s) 0 < 0 + sN s := by omega
  have hh := fstF_hit (p := fun i => sameT (sFo s i) t) (sN s) 0 hlt
  have hk : plc (sN s) (sFo s) t < sN s := by omega
  have hh2 : sameT (sFo s (plc (sN s) (sFo s) t)) t = true := hh
  rw [sameT_iff (bel_mono (hs.1.2.2 _ hk).1 (by omega)) (bel_mono ht.1 (by omega))] at hh2
  have hc : covP s t (plc (sN s) (sFo s) t) = true := by unfold covP; rw [hh2]; exact isIn_self ht
  have := fstF_of hk hc
  unfold covB at h
  rw [decide_eq_false_iff_not] at h
  omega
noncomputable def rdT (s : ST) (x y : Nat) : Tm := rt (dU (sFo s x) (sFo s y))
noncomputable def rdA (s : ST) (x y : Nat) : ST := wLs s (sN s + 1) (setN (sFo s) (sN s) (rdT s x y)) (setN (sEn s) (sN s) (some (x, y)))
noncomputable def rdStep (lim : Nat) (s : ST) (x y : Nat) : ST := if sN s < 60 then (if rc (dU (sFo s x) (sFo s y)) = 0 ∧ tS (rdT s x y) ≤ lim ∧ covB s (rdT s x y) = false then rdA s x y else s) else s
theorem rdT_ok {s : ST} {x y : Nat} (hs : okS s) (hx : x < sN s) (hy : y < sN s) (h : rc (dU (sFo s x) (sFo s y)) = 0) : okF (rdT s x y) := by
  obtain ⟨b1, s1, -⟩ := hs.1.2.2 x hx
  obtain ⟨b2, s2, -⟩ := hs.1.2.2 y hy
  exact dU_okF b1 b2 s1 s2 (rc_ok.mp h)
theorem rdStep_ok {lim : Nat} {s : ST} {x y : Nat} (hs : okS s) (hx : x < sN s) (hy : y < sN s) : okS (rdStep lim s x y) ∧ sN s ≤ sN (rdStep lim s x y) := by
  unfold rdStep
  by_cases e1 : sN s < 60
  · rw [if_pos e1]
    by_cases e2 : rc (dU (sFo s x) (sFo s y)) = 0 ∧ tS (rdT s x y) ≤ lim ∧ covB s (rdT s x y) = false
    · rw [if_pos e2]
      have hF := rdT_ok hs hx hy e2.1
      refine ⟨⟨⟨by show sN s + 1 ≤ 60; omega, fun i a b hi hi2 => ?_, fun i hi => ?_⟩, hs.2⟩, by show sN s ≤ sN s + 1; omega⟩
      · have hi' : i < sN s + 1 := hi
        have hi2' : setN (sEn s) (sN s) (some (x, y)) i = some (a, b) := hi2
        by_cases e : i = sN s
        · rw [e, setN_eq] at hi2'; injection hi2' with h; injection h with h1 h2; omega
        · rw [setN_ne e] at hi2'; exact hs.1.2.1 i a b (by omega) hi2'
      · have hi' : i < sN s + 1 := hi
        show okF (setN (sFo s) (sN s) (rdT s x y) i)
        by_cases e : i = sN s
        · rw [e, setN_eq]; exact hF
        · rw [setN_ne e]; exact hs.1.2.2 i (by omega)
    · rw [if_neg e2]; exact ⟨hs, Nat.le_refl _⟩
  · rw [if_neg e1]; exact ⟨hs, Nat.le_refl _⟩
noncomputable def rdIn (lim x : Nat) : Nat → Nat → ST → ST
  | 0, _, s => s
  | k + 1, y, s => rdIn lim x k (y + 1) (rdStep lim s x y)
noncomputable def rdOut (lim was : Nat) : Nat → Nat → ST → ST
  | 0, _, s => s
  | k + 1, x, s => rdOut lim was k (x + 1) (rdIn lim x was 0 s)
theorem rdStep_full {lim : Nat} {s : ST} {x y : Nat} (h : ¬ sN s < 60) : rdStep lim s x y = s := if_neg h
theorem rdIn_full {lim x : Nat} : ∀ (k y : Nat) (s : ST), ¬ sN s < 60 → rdIn lim x k y s = s := by
  intro k
  induction k with
  | zero => intro y s _; rfl
  | succ k ih => intro y s h; unfold rdIn; rw [rdStep_full h]; exact ih _ s h
theorem rdOut_full {lim was : Nat} : ∀ (k x : Nat) (s : ST), ¬ sN s < 60 → rdOut lim was k x s = s := by
  intro k
  induction k with
  | zero => intro x s _; rfl
  | succ k ih => intro x s h; unfold rdOut; rw [rdIn_full _ _ s h]; exact ih _ s h
theorem rdIn_ok {lim x : Nat} : ∀ (k y : Nat) (s : ST), okS s → x < sN s → y + k ≤ sN s → okS (rdIn lim x k y s) ∧ sN s ≤ sN (rdIn lim x k y s) := by
  intro k
  induction k with
  | zero => intro y s h _ _; exact ⟨h, Nat.le_refl _⟩
  | succ k ih =>
    intro y s h hx hy
    obtain ⟨h1, h2⟩ := rdStep_ok (lim := lim) h hx (show y < sN s by omega)
    obtain ⟨h3, h4⟩ := ih (y + 1) (rdStep lim s x y) h1 (by omega) (by omega)
    exact ⟨h3, by unfold rdIn; omega⟩
theorem rdOut_ok {lim was : Nat} : ∀ (k x : Nat) (s : ST), okS s → was ≤ sN s → x + k ≤ was → okS (rdOut lim was k x s) ∧ sN s ≤ sN (rdOut lim was k x s) := by
  intro k
  induction k with
  | zero => intro x s h _ _; exact ⟨h, Nat.le_refl _⟩
  | succ k ih =>
    intro x s h hw hx
    obtain ⟨h1, h2⟩ := rdIn_ok (lim := lim) (x := x) was 0 s h (by omega) (by omega)
    obtain ⟨h3, h4⟩ := ih (x + 1) (rdIn lim x was 0 s) h1 (by omega) (by omega)
    exact ⟨h3, by unfold rdOut; omega⟩
noncomputable def sRd (s : ST) (v : Int32) : ST := if v < 1 then s else if v ≤ 39 then rdOut v.toNatClampNeg (sN s) (sN s) 0 s else s
noncomputable def aRd (s : ST) (v : Int32) : Int32 := if v < 1 then -2 else if v ≤ 39 then nI (sN (sRd s v)) - nI (sN s) else -2
theorem lim_ok {v : Int32} (h1 : ¬ v < 1) (h2 : v ≤ 39) : ∃ l, 1 ≤ l ∧ l ≤ 39 ∧ v = nI l := by
  obtain ⟨l, hl, rfl⟩ := nI_of (x := v) (fun z => h1 (Int32.lt_trans z (by decide)))
  have e1 : ¬ nI l < nI 1 := h1
  have e2 : nI l ≤ nI 39 := h2
  rw [nI_ltI hl (by omega)] at e1
  rw [nI_leI hl (by omega)] at e2
  exact ⟨l, by omega, by omega, rfl⟩
theorem ok_rd {s : ST} (h : okS s) (v : Int32) : okS (sRd s v) := by
  unfold sRd
  by_cases h1 : v < 1
  · rw [if_pos h1]; exact h
  · rw [if_neg h1]
    by_cases h2 : v ≤ 39
    · rw [if_pos h2]; exact (rdOut_ok (sN s) 0 s h (Nat.le_refl _) (by omega)).1
    · rw [if_neg h2]; exact h
-- ===== the class =====
theorem XS.k142 {K N : Nat → Nat} {R : Nat → Nat → Option Nat} (h : XS K N R) : K 142 = 3 := by
  obtain ⟨-, -, -, -, -, -, -, -, -, -, -, -, -, -, -, -, -, -, -, -, -, -, -, -, -, -, -, -, k142, -⟩ := h.un
  exact k142
theorem c_covers {m : qM} {s : ST} {f : Nat} {t : Tm} (h : CP m s) (hs : okS s) (F : FmS (qK m) (qN m) (qR m) f) (hf : 143 < f) (C : CFm (qI m) f t) (hb : bel 99 t) : ∃ m2, fX1_covers NF 5 f 142 m = some (iB (covB s t), m2) ∧ Fx (fun a => a = 143) m m2 := by
  have hn := hs.1.1
  have go : ∀ g k m', k < sN s → CP m' s → FmS (qK m') (qN m') (qR m') f → CFm (qI m') f t → ∃ m2, CP m2 s ∧ Fx (fun a => a = 143) m' m2 ∧ lX1_covers_2 NF 5 f 142 (g + 1) (nI k) m' = if covP s t k = true then some (.inr (1, m2)) else lX1_covers_2 NF 5 f 142 g (nI (k + 1)) m2 := by
    intro g k m' hk hP' F' C'
    have hX' := hP'.1
    have hL' := hP'.2.2.2.2.1
    obtain ⟨k5, r50, r51, r52, r53, r54, r55, k6, n6, -⟩ := hX'.ls
    obtain ⟨Fk, Rk⟩ := hX'.lf (i := k) (by omega)
    obtain ⟨m2, p1, p2⟩ := c_matches (f := f) (g := 12 + 2 * k) (by omega) (by omega) hX'.un F' Fk C' (hL'.2 k hk).1 hb (hs.1.2.2 k hk)
    refine ⟨m2, CP_fx hP' hn p2 (fun a ha => by omega), p2, ?_⟩
    conv => lhs; unfold lX1_covers_2
    refine EgI k5 hL'.1 ?_
    refine EIn (fun z => by have := (nI_leI (by omega) (by omega)).mp z; omega) ?_
    refine EgR k5 r50 ?_
    refine EaR k6 rfl (by omega) (by omega) Rk ?_
    refine EC hX'.k142 p1 ?_
    show (if iB (covP s t k) = 0 then _ else _) = _
    by_cases e2 : covP s t k = true
    · rw [e2]
      refine EIn i10 ?_
      rfl
    · have e' : covP s t k = false := by simpa using e2
      rw [e']
      refine EIp rfl ?_
      rw [nI_s]
      rfl
  obtain ⟨b, e1, m2, e3, e4⟩ := walk (l := fun g (x : Int32 × qM) => lX1_covers_2 NF 5 f 142 g x.1 x.2) (J := fun r x => ∃ k m', k + r = sN s ∧ x = (nI k, m') ∧ CP m' s ∧ Fx (fun a => a = 143) m m' ∧ fstF (covP s t) r k = fstF (covP s t) (sN s) 0) (Q := fun b => ∃ m2, Fx (fun a => a = 143) m m2 ∧ b = (if fstF (covP s t) (sN s) 0 < sN s then .inr (1, m2) else .inl m2)) (fun g r x hj2 => by
    obtain ⟨k, m', hk, rfl, hP', hF, hp⟩ := hj2
    obtain ⟨m2, q1, q2, q3⟩ := go g k m' (by omega) hP' (FmS_of F hF) (CFm_of C (hF.i (by omega)) (hF.i (by omega)))
    rw [fstF_s] at hp
    by_cases e : covP s t k = true
    · rw [if_pos e] at q3 hp
      refine Or.inr ⟨_, q3, m2, hF.tr q2, ?_⟩
      rw [← hp, if_pos (by omega)]
    · rw [if_neg e] at q3 hp
      exact Or.inl ⟨(nI (k + 1), m2), ⟨k + 1, m2, by omega, rfl, q1, hF.tr q2, hp⟩, q3⟩) (fun g x hj2 => by
    obtain ⟨k, m', hk, rfl, hP', hF, hp⟩ := hj2
    obtain rfl : k = sN s := by omega
    have hp2 : sN s = fstF (covP s t) (sN s) 0 := hp
    refine ⟨.inl m', ?_, m', hF, by rw [if_neg (by omega)]⟩
    show lX1_covers_2 NF 5 f 142 (g + 1) (nI (sN s)) m' = _
    unfold lX1_covers_2
    refine EgI hP'.1.ls.1 hP'.2.2.2.2.1.1 ?_
    refine EIp ((nI_leI (by omega) (by omega)).mpr (Nat.le_refl _)) ?_
    rfl) (sN s) NF (nI 0, m) (by unfold NF; omega) ⟨0, m, by omega, rfl, h, Fx.rf, rfl⟩
  refine ⟨m2, ?_, e3⟩
  unfold fX1_covers covB
  rw [show lX1_covers_2 NF 5 f 142 NF 0 m = some b from e1, e4]
  by_cases e : fstF (covP s t) (sN s) 0 < sN s
  · rw [if_pos e, decide_eq_true e]; rfl
  · rw [if_neg e, decide_eq_false e]; rfl
theorem c_try {m : qM} {s : ST} {x y lim : Nat} (h : CP m s) (hs : okS s) (hx : x < sN s) (hy : y < sN s) (h60 : sN s < 60) (hl : lim ≤ 39) : ∃ m2, fX9_tryInRound NF 0 (nI x) (nI y) (nI lim) m = some m2 ∧ CP m2 (rdStep lim s x y) ∧ Gc m m2 := by
  have hP := h
  obtain ⟨hX, -, -, -, hL, -⟩ := h
  have hn := hs.1.1
  obtain ⟨k0, r00, r01, r02, r03, r04, r05, r06, r07, r08, r09, r010, -⟩ := hX.c0
  have k5 := hX.ls.1
  have k132 := hX.un.1
  obtain ⟨b1, s1, -⟩ := hs.1.2.2 x hx
  obtain ⟨b2, s2, -⟩ := hs.1.2.2 y hy
  obtain ⟨m1, p1, p2, p3⟩ := c_detachInto (f3 := 429) hX.un (hX.lf (i := x) (by omega)).1 (hX.lf (i := y) (by omega)).1 hX.f429 (by omega) (by omega) (by omega) (hL.2 x hx).1 (hL.2 y hy).1 b1 b2
  have hP1 : CP m1 s := CP_fx hP hn p2 (fun a ha => by unfold dDi at ha; omega)
  have g1 : Gc m m1 := p2.mono (fun a ha => by unfold dDi at ha; omega)
  have hX1 := hP1.1
  obtain ⟨K0, R00, R01, R02, R03, R04, R05, R06, R07, R08, R09, R010, -⟩ := hX1.c0
  have K5 := hX1.ls.1
  have hpre : ∀ R, (if rc (dU (sFo s x) (sFo s y)) = 0 then (qgR m1 0 9 10).bind fun x8 => (qChk m1 x8 0 (fX0_size NF x8 m1)).bind fun b9 => if nI lim < b9.1 then some b9.2 else (qgR b9.2 0 9 2).bind fun x10 => (qgR b9.2 0 9 10).bind fun x11 => (qgR b9.2 0 9 4).bind fun x12 => (qChk b9.2 x10 1 (fX1_covers NF x10 x11 x12 b9.2)).bind fun b13 => if b13.1 = 0 then (qgR b13.2 0 9 2).bind fun x14 => (qgR b13.2 0 9 10).bind fun x15 => (qChk b13.2 x14 1 (fX1_enter NF x14 x15 (nI x) (nI y) b13.2)).bind fun b16 => some b16.2 else some b13.2 else some m1) = R → fX9_tryInRound NF 0 (nI x) (nI y) (nI lim) m = R := by
    intro R hR
    unfold fX9_tryInRound
    refine EgR k0 r03 ?_
    refine EgR k0 r02 ?_
    refine EC k5 (c_lat hX (by omega)) ?_
    refine EgR k0 r02 ?_
    refine EC k5 (c_lat hX (by omega)) ?_
    refine EgR k0 r010 ?_
    refine EC k132 p1 ?_
    exact hR
  unfold rdStep
  rw [if_pos h60]
  by_cases e : rc (dU (sFo s x) (sFo s y)) = 0
  · have hF : okF (rdT s x y) := rdT_ok hs hx hy e
    have hC : CFm (qI m1) 429 (rdT s x y) := (p3 (rc_ok.mp e)).1
    have h39 := hF.2.1
    by_cases e2 : tS (rdT s x y) ≤ lim
    · obtain ⟨m2, q1, q2⟩ := c_covers hP1 hs hX1.f429 (by omega) hC (bel_mono hF.1 (by omega))
      have hP2 : CP m2 s := CP_fx hP1 hn q2 (fun a ha => by omega)
      have hX2 := hP2.1
      obtain ⟨L0, S00, S01, S02, S03, S04, S05, S06, S07, S08, S09, S010, -⟩ := hX2.c0
      have g2 : Gc m m2 := g1.tr (q2.mono (fun a ha => by omega))
      have hpre2 : ∀ R, (if iB (covB s (rdT s x y)) = 0 then (qgR m2 0 9 2).bind fun x14 => (qgR m2 0 9 10).bind fun x15 => (qChk m2 x14 1 (fX1_enter NF x14 x15 (nI x) (nI y) m2)).bind fun b16 => some b16.2 else some m2) = R → fX9_tryInRound NF 0 (nI x) (nI y) (nI lim) m = R := by
        intro R hR
        apply hpre
        refine EIp e ?_
        refine EgR K0 R010 ?_
        refine EC hX1.f429.1 (c_size hX1.f429 hC) ?_
        refine EIn (fun z => by have := (nI_ltI (by omega) (by omega)).mp z; omega) ?_
        refine EgR K0 R02 ?_
        refine EgR K0 R010 ?_
        refine EgR K0 R04 ?_
        refine EC K5 q1 ?_
        exact hR
      by_cases e3 : covB s (rdT s x y) = false
      · rw [if_pos ⟨e, e2, e3⟩]
        have hpl := cov_new hF hs e3
        have hC2 : CFm (qI m2) 429 (rdT s x y) := CFm_of hC (q2.i (by omega)) (q2.i (by omega))
        obtain ⟨m3, w1, w2, w3⟩ := c_enter (e := some (x, y)) hX2 hP2.2.2.2.2.1 hs.1 hX2.f429 (by omega) hC2 (bel_mono hF.1 (by omega)) (fun a b z => by injection z with z; injection z with z1 z2; subst z1 z2; exact ⟨hx, hy⟩)
        have eN : entN (sN s) (sFo s) (rdT s x y) = sN s + 1 := by
          unfold entN
          rw [if_neg (by omega), if_pos h60]
        rw [eN] at w3
        refine ⟨m3, hpre2 _ ?_, CP_ent hP2 w2 w3, g2.tr (w2.mono (fun a ha => by unfold dLi at ha; omega))⟩
        rw [e3]
        refine EIp rfl ?_
        refine EgR L0 S02 ?_
        refine EgR L0 S010 ?_
        refine EC hX2.ls.1 w1 ?_
        rfl
      · rw [if_neg (fun z => e3 z.2.2)]
        refine ⟨m2, hpre2 _ ?_, hP2, g2⟩
        have e' : covB s (rdT s x y) = true := by simpa using e3
        rw [e']
        refine EIn i10 ?_
        rfl
    · rw [if_neg (fun z => e2 z.2.1)]
      refine ⟨m1, hpre _ ?_, hP1, g1⟩
      refine EIp e ?_
      refine EgR K0 R010 ?_
      refine EC hX1.f429.1 (c_size hX1.f429 hC) ?_
      refine EIp ((nI_ltI (by omega) (by omega)).mpr (by omega)) ?_
      rfl
  · rw [if_neg (fun z => e z.1)]
    exact ⟨m1, hpre _ (if_neg e), hP1, g1⟩
theorem c_full {m : qM} {s : ST} (h : CP m s) (hn : sN s ≤ 60) : fX1_isFull NF 5 m = some (if sN s < 60 then 0 else 1, m) := by
  unfold fX1_isFull
  refine EgI h.1.ls.1 h.2.2.2.2.1.1 ?_
  by_cases e : sN s < 60
  · rw [if_pos e]
    refine EIp ((nI_ltI (b := 60) (by omega) (by omega)).mpr e) ?_
    rfl
  · rw [if_neg e]
    refine EIn (fun z => e ((nI_ltI (b := 60) (by omega) (by omega)).mp z)) ?_
    rfl
theorem c_rdIn {lim x was : Nat} (hl : lim ≤ 39) (hx : x < was) (hw : was ≤ 60) {m : qM} {s : ST} (h : CP m s) (hs : okS s) (hws : was ≤ sN s) : ∃ m2, lX9_round_42 NF 0 (nI lim) (nI was) (nI x) NF 0 m = some m2 ∧ CP m2 (rdIn lim x was 0 s) ∧ Gc m m2 := by
  obtain ⟨b, e1, e2, e3⟩ := walk (l := fun g (z : Int32 × qM) => lX9_round_42 NF 0 (nI lim) (nI was) (nI x) g z.1 z.2) (J := fun r z => ∃ k m' s', k + r = was ∧ z = (nI k, m') ∧ CP m' s' ∧ okS s' ∧ was ≤ sN s' ∧ rdIn lim x r k s' = rdIn lim x was 0 s ∧ Gc m m') (Q := fun m2 => CP m2 (rdIn lim x was 0 s) ∧ Gc m m2) (fun g r z hj => by
    obtain ⟨k, m', s', hk, rfl, hP', hs', hw', hp, hg⟩ := hj
    have hX' := hP'.1
    have hfu := c_full hP' hs'.1.1
    by_cases e : sN s' < 60
    · rw [if_pos e] at hfu
      obtain ⟨m2, q1, q2, q3⟩ := c_try (x := x) (y := k) (lim := lim) hP' hs' (by omega) (by omega) e hl
      obtain ⟨o1, o2⟩ := rdStep_ok (lim := lim) (x := x) (y := k) hs' (by omega) (by omega)
      refine Or.inl ⟨(nI (k + 1), m2), ⟨k + 1, m2, _, by omega, rfl, q2, o1, by omega, hp, hg.tr q3⟩, ?_⟩
      show lX9_round_42 NF 0 (nI lim) (nI was) (nI x) (g + 1) (nI k) m' = lX9_round_42 NF 0 (nI lim) (nI was) (nI x) g (nI (k + 1)) m2
      conv => lhs; unfold lX9_round_42
      refine EIn (fun z => by have := (nI_leI (by omega) (by omega)).mp z; omega) ?_
      refine EgR hX'.c0.1 hX'.c0.2.2.2.1 ?_
      refine EC hX'.ls.1 hfu ?_
      refine EIp rfl ?_
      refine EC hX'.c0.1 q1 ?_
      rw [nI_s]
    · rw [if_neg e] at hfu
      rw [rdIn_full _ _ s' e] at hp
      refine Or.inr ⟨m', ?_, hp ▸ hP', hg⟩
      show lX9_round_42 NF 0 (nI lim) (nI was) (nI x) (g + 1) (nI k) m' = _
      unfold lX9_round_42
      refine EIn (fun z => by have := (nI_leI (by omega) (by omega)).mp z; omega) ?_
      refine EgR hX'.c0.1 hX'.c0.2.2.2.1 ?_
      refine EC hX'.ls.1 hfu ?_
      refine EIn i10 ?_
      rfl) (fun g z hj => by
    obtain ⟨k, m', s', hk, rfl, hP', hs', hw', hp, hg⟩ := hj
    obtain rfl : k = was := by omega
    have hp' : s' = rdIn lim x k 0 s := hp
    refine ⟨m', ?_, hp' ▸ hP', hg⟩
    show lX9_round_42 NF 0 (nI lim) (nI k) (nI x) (g + 1) (nI k) m' = _
    unfold lX9_round_42
    refine EIp ((nI_leI (by omega) (by omega)).mpr (Nat.le_refl _)) ?_
    rfl) was NF (nI 0, m) (by unfold NF; omega) ⟨0, m, s, by omega, rfl, h, hs, hws, rfl, Fx.rf⟩
  exact ⟨b, e1, e2, e3⟩
theorem c_round {m : qM} {s : ST} (h : CP m s) (hs : okS s) (v : Int32) : ∃ m2, fX9_round NF 0 v m = some (aRd s v, m2) ∧ CP m2 (sRd s v) ∧ Gc m m2 := by
  have hX := h.1
  have hn := hs.1.1
  have hcnt : ∀ {m' : qM} {s' : ST}, CP m' s' → fX1_count NF 5 m' = some (nI (sN s'), m') := fun {m'} {s'} hP' => by
    unfold fX1_count
    refine EgI hP'.1.ls.1 hP'.2.2.2.2.1.1 ?_
    rfl
  unfold fX9_round aRd
  by_cases h1 : v < 1
  · rw [if_pos h1, if_pos h1]
    have : sRd s v = s := if_pos h1
    rw [this]
    exact ⟨m, rfl, h, Fx.rf⟩
  · rw [if_neg h1, if_neg h1]
    by_cases h2 : v ≤ 39
    · rw [if_pos h2, if_pos h2]
      obtain ⟨l, hl1, hl2, rfl⟩ := lim_ok h1 h2
      have esr : sRd s (nI l) = rdOut l (sN s) (sN s) 0 s := by
        unfold sRd
        rw [if_neg h1, if_pos h2, nI_clamp (by omega)]
      rw [esr]
      obtain ⟨b, e1, e2, e3⟩ := walk (l := fun g (z : Int32 × qM) => lX9_round_24 NF 0 (nI l) (nI (sN s)) g z.1 z.2) (J := fun r z => ∃ k m' s', k + r = sN s ∧ z = (nI k, m') ∧ CP m' s' ∧ okS s' ∧ sN s ≤ sN s' ∧ rdOut l (sN s) r k s' = rdOut l (sN s) (sN s) 0 s ∧ Gc m m') (Q := fun m2 => CP m2 (rdOut l (sN s) (sN s) 0 s) ∧ Gc m m2) (fun g r z hj => by
        obtain ⟨k, m', s', hk, rfl, hP', hs', hw', hp, hg⟩ := hj
        have hX' := hP'.1
        have hfu := c_full hP' hs'.1.1
        by_cases e : sN s' < 60
        · rw [if_pos e] at hfu
          obtain ⟨m2, q1, q2, q3⟩ := c_rdIn (x := k) (was := sN s) hl2 (by omega) hn hP' hs' hw'
          obtain ⟨o1, o2⟩ := rdIn_ok (lim := l) (x := k) (sN s) 0 s' hs' (by omega) (by omega)
          refine Or.inl ⟨(nI (k + 1), m2), ⟨k + 1, m2, _, by omega, rfl, q2, o1, by omega, hp, hg.tr q3⟩, ?_⟩
          show lX9_round_24 NF 0 (nI l) (nI (sN s)) (g + 1) (nI k) m' = lX9_round_24 NF 0 (nI l) (nI (sN s)) g (nI (k + 1)) m2
          conv => lhs; unfold lX9_round_24
          refine EIn (fun z => by have := (nI_leI (by omega) (by omega)).mp z; omega) ?_
          refine EgR hX'.c0.1 hX'.c0.2.2.2.1 ?_
          refine EC hX'.ls.1 hfu ?_
          refine EIp rfl ?_
          refine EB q1 ?_
          rw [nI_s]
        · rw [if_neg e] at hfu
          rw [rdOut_full _ _ s' e] at hp
          refine Or.inr ⟨m', ?_, hp ▸ hP', hg⟩
          show lX9_round_24 NF 0 (nI l) (nI (sN s)) (g + 1) (nI k) m' = _
          unfold lX9_round_24
          refine EIn (fun z => by have := (nI_leI (by omega) (by omega)).mp z; omega) ?_
          refine EgR hX'.c0.1 hX'.c0.2.2.2.1 ?_
          refine EC hX'.ls.1 hfu ?_
          refine EIn i10 ?_
          rfl) (fun g z hj => by
        obtain ⟨k, m', s', hk, rfl, hP', hs', hw', hp, hg⟩ := hj
        obtain rfl : k = sN s := by omega
        have hp' : s' = rdOut l (sN s) (sN s) 0 s := hp
        refine ⟨m', ?_, hp' ▸ hP', hg⟩
        show lX9_round_24 NF 0 (nI l) (nI (sN s)) (g + 1) (nI (sN s)) m' = _
        unfold lX9_round_24
        refine EIp ((nI_leI (by omega) (by omega)).mpr (Nat.le_refl _)) ?_
        rfl) (sN s) NF (nI 0, m) (by unfold NF; omega) ⟨0, m, s, by omega, rfl, h, hs, Nat.le_refl _, rfl, Fx.rf⟩
      refine ⟨b, ?_, e2, e3⟩
      refine EgR hX.c0.1 hX.c0.2.2.2.1 ?_
      refine EC hX.ls.1 (hcnt h) ?_
      refine EB e1 ?_
      refine EgR e2.1.c0.1 e2.1.c0.2.2.2.1 ?_
      refine EC e2.1.ls.1 (hcnt e2) ?_
      rfl
    · rw [if_neg h2, if_neg h2]
      have : sRd s v = s := by unfold sRd; rw [if_neg h1, if_neg h2]
      rw [this]
      exact ⟨m, rfl, h, Fx.rf⟩
end
