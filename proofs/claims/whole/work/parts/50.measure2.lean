section
def Zv (hd : Nat → Nat) (shp : Nat → Option Nat) : Nat → Bool := fun x => decide (hd x = x) && (shp x).isNone
theorem c_mInit {T : Nat → Tm} {nd : Nat} {par hd h : Nat → Nat} {shp : Nat → Option Nat} (hG : GG T nd) (hF : UF T nd par hd h shp) : ∀ (f k : Nat) (m : qM), xU m → qI m 132 9 = nI nd → UV m T nd hd shp → k ≤ nd → (∀ x, x < k → qI m 136 x = if Zv hd shp x = true then nI 1 else 0) → nd < f + k →
    ∃ m2, lX8_measure_4 NF 132 f (nI (cnt (opn hd (Zv hd shp)) k)) (nI k) m = some (nI (cnt (opn hd (Zv hd shp)) nd), m2) ∧ Fx dMe m m2 ∧ ∀ x, x < nd → qI m2 136 x = if Zv hd shp x = true then nI 1 else 0 := by
  have hnd := hG.1
  intro f
  induction f with
  | zero => intro k m _ _ _ h1 _ h2; omega
  | succ f ih =>
    intro k m hU h9 hV hk hS hf
    have hU0 := hU
    obtain ⟨k132, r0, r1, r2, r3, r4, r5, r6, r7, r8, k133, n133, k134, n134, k135, n135, k136, n136, k137, n137, k138, n138, k139, n139, k140, n140, k141, n141, -⟩ := hU
    by_cases e : nd ≤ k
    · obtain rfl : k = nd := by omega
      refine ⟨m, ?_, Fx.rf, hS⟩
      unfold lX8_measure_4
      refine EgI k132 h9 ?_
      refine EIp ((nI_leI (by omega) (by omega)).mpr e) ?_
      rfl
    · have hkn : k < nd := by omega
      have hce : ¬ nI nd ≤ nI k := fun z => e ((nI_leI (by omega) (by omega)).mp z)
      obtain ⟨v1, v2, v3⟩ := hV k hkn
      have hhk : hd k < nd := (hF.1 k hkn).2.1
      let w : Int32 := if Zv hd shp k = true then nI 1 else 0
      let m1 : qM := qsI m 136 k w
      have f1 : Fx dMe m m1 := Fx.rf.sI rfl
      have hS1 : ∀ x, x < k + 1 → qI m1 136 x = if Zv hd shp x = true then nI 1 else 0 := by
        intro x hx
        by_cases ex : x = k
        · subst ex; simp [m1, w, qS]
        · simp only [m1, qS, ex, ↓reduceIte]; exact hS x (by omega)
      have v1' : qI m1 134 k = nI (hd k) := v1
      obtain ⟨m2, p1, p2, p3⟩ := ih (k + 1) m1 (xU_of hU0 f1) h9 (UV_fx hV f1) (by omega) hS1 (by omega)
      refine ⟨m2, ?_, f1.tr p2, p3⟩
      rw [← p1]
      have hc : cnt (opn hd (Zv hd shp)) (k + 1) = cnt (opn hd (Zv hd shp)) k + (if opn hd (Zv hd shp) k = true then 1 else 0) := rfl
      conv => lhs; unfold lX8_measure_4 kX8_measure_36 kX8_measure_37 kX8_measure_52 kX8_measure_72 kX8_measure_73
      refine EgI k132 h9 ?_
      refine EIn hce ?_
      refine EgR k132 r1 ?_
      refine EaI k134 rfl (by omega) (by omega) v1 ?_
      by_cases e1 : hd k = k
      · refine EIp (by rw [e1]) ?_
        refine EgR k132 r2 ?_
        cases hs : shp k with
        | none =>
          rw [hs] at v2
          have v2' : qI m 135 k = -1 := v2
          have hz : Zv hd shp k = true := by simp [Zv, e1, hs]
          have ho : opn hd (Zv hd shp) k = false := by simp [opn, hz]
          have hw : w = 1 := by show (if _ then _ else _) = _; rw [if_pos hz]; rfl
          rw [hc, ho]
          refine EaI k135 rfl (by omega) (by omega) v2' ?_
          refine EIp rfl ?_
          refine EgR k132 r3 ?_
          refine EIn (by decide) ?_
          refine EwI k136 rfl (by omega) (by omega) hw.symm ?_
          show (qgR m1 132 8 1).bind _ = _
          refine EgR k132 r1 ?_
          refine EaI k134 rfl (show k < qN m 134 by omega) (by omega) v1' ?_
          refine EIp (by rw [e1]) ?_
          refine EIn (by decide) ?_
          rw [nI_s, Int32.add_zero]
          rfl
        | some s =>
          rw [hs] at v2
          have v2' : qI m 135 k = nI s := v2
          have hpk : par k = k := by have := (hF.1 k hkn).2.2.1; rw [e1] at this; exact this
          obtain ⟨q1, -⟩ := hF.2.2.2.1 k s hkn hpk hs
          have hz : Zv hd shp k = false := by simp [Zv, hs]
          have ho : opn hd (Zv hd shp) k = true := by simp [opn, hz, e1]
          have hw : w = 0 := by show (if _ then _ else _) = _; rw [if_neg (by rw [hz]; decide)]
          rw [hc, ho]
          refine EaI k135 rfl (by omega) (by omega) v2' ?_
          refine EIn (nI_ng (by omega)) ?_
          refine EgR k132 r3 ?_
          refine EIp rfl ?_
          refine EwI k136 rfl (by omega) (by omega) hw.symm ?_
          show (qgR m1 132 8 1).bind _ = _
          refine EgR k132 r1 ?_
          refine EaI k134 rfl (show k < qN m 134 by omega) (by omega) v1' ?_
          refine EIp (by rw [e1]) ?_
          refine EIp rfl ?_
          rw [nI_s, nI_s]
          rfl
      · have c1 : ¬ nI (hd k) = nI k := fun z => e1 ((nI_eq (by omega) (by omega)).mp z)
        have hz : Zv hd shp k = false := by simp [Zv, e1]
        have ho : opn hd (Zv hd shp) k = false := by simp [opn, e1]
        have hw : w = 0 := by show (if _ then _ else _) = _; rw [if_neg (by rw [hz]; decide)]
        rw [hc, ho]
        refine EIn c1 ?_
        refine EgR k132 r3 ?_
        refine EIp rfl ?_
        refine EwI k136 rfl (by omega) (by omega) hw.symm ?_
        show (qgR m1 132 8 1).bind _ = _
        refine EgR k132 r1 ?_
        refine EaI k134 rfl (show k < qN m 134 by omega) (by omega) v1' ?_
        refine EIn c1 ?_
        rw [nI_s, Int32.add_zero]
        rfl
theorem c_measure {m : qM} {T : Nat → Tm} {nd : Nat} {par hd h : Nat → Nat} {shp : Nat → Option Nat} (hG : GG T nd) (hF : UF T nd par hd h shp) (hU : xU m) (h9 : qI m 132 9 = nI nd) (hV : UV m T nd hd shp) :
    ∃ m2 Z den r, fX8_measure NF 132 m = some (r, m2) ∧ Fx dMe m m2 ∧ SZ m2 nd Z den ∧ DnS T nd hd shp Z den ∧ ZH nd hd shp Z ∧ ((r = 1 ∧ ∀ x, x < nd → hd x = x → Z x = true) ∨ (r = 0 ∧ Stk T nd hd shp Z 0 ∧ ∃ x0, x0 < nd ∧ hd x0 = x0 ∧ Z x0 = false)) := by
  have hnd := hG.1
  have hpar : ∀ x, x < nd → hd x = x → par x = x := fun x hx e => by have := (hF.1 x hx).2.2.1; rw [e] at this; exact this
  obtain ⟨m1, p1, p2, p3⟩ := c_mInit hG hF NF 0 m hU h9 hV (by omega) (fun x hx => by omega) (by unfold NF; omega)
  have hvar : ∀ x, x < nd → Zv hd shp x = true → ∃ v, T x = .var v := by
    intro x hx hz
    simp only [Zv, Bool.and_eq_true, decide_eq_true_eq, Option.isNone_iff_eq_none] at hz
    cases ht : T x with
    | var v => exact ⟨v, rfl⟩
    | op l r =>
      obtain ⟨s, hs⟩ := hF.2.2.1 x l r hx ht
      rw [hz.1, hz.2] at hs
      cases hs
  have hS : SZ m1 nd (Zv hd shp) T := by
    intro x hx
    rw [p3 x hx]
    by_cases hz : Zv hd shp x = true
    · obtain ⟨v, hv⟩ := hvar x hx hz
      rw [if_pos hz, if_pos hz, hv]
      rfl
    · rw [if_neg hz, if_neg hz]
  have hD : DnS T nd hd shp (Zv hd shp) T := by
    intro x hx hh hz
    obtain ⟨v, hv⟩ := hvar x hx hz
    refine ⟨fun _ => ⟨v, hv, hv⟩, fun s l r hs _ => ?_⟩
    simp only [Zv, Bool.and_eq_true, decide_eq_true_eq, Option.isNone_iff_eq_none] at hz
    rw [hs] at hz
    cases hz.2
  have hZ : ZH nd hd shp (Zv hd shp) := by
    intro x hx
    refine ⟨fun hz => ?_, fun e1 e2 => by simp [Zv, e1, e2]⟩
    simp only [Zv, Bool.and_eq_true, decide_eq_true_eq] at hz
    exact hz.1
  have hcl := cnt_le (opn hd (Zv hd shp)) nd
  obtain ⟨m2, Z2, den2, w1, w2, w3, w4, w5, w6⟩ := c_passes hG hF NF 0 m1 (Zv hd shp) T 1 (xU_of hU p2) (by rw [p2.i (by simp [dMe])]; exact h9) (UV_fx hV p2) hS hD hZ (by omega) (Or.inl ⟨rfl, by omega⟩) (by unfold NF; omega)
  have p1' : lX8_measure_4 NF 132 NF 0 0 m = some (nI (cnt (opn hd (Zv hd shp)) nd), m1) := p1
  have w1' : lX8_measure_85 NF 132 NF (nI (cnt (opn hd (Zv hd shp)) nd)) 1 0 m1 = some (nI (cnt (opn hd Z2) nd), m2) := w1
  have hcl2 := cnt_le (opn hd Z2) nd
  by_cases e : cnt (opn hd Z2) nd = 0
  · refine ⟨m2, Z2, den2, 1, ?_, p2.tr w2, w3, w4, w5, Or.inl ⟨rfl, fun x hx hh => ?_⟩⟩
    · unfold fX8_measure
      refine EB p1' ?_
      dsimp only
      refine EB w1' ?_
      dsimp only
      refine EIp (by rw [e]; rfl) ?_
      rfl
    · have := cnt_zero e x hx
      simpa [opn, hh] using this
  · refine ⟨m2, Z2, den2, 0, ?_, p2.tr w2, w3, w4, w5, Or.inr ⟨rfl, w6.resolve_left e, ?_⟩⟩
    · unfold fX8_measure
      refine EB p1' ?_
      dsimp only
      refine EB w1' ?_
      dsimp only
      refine EIn (fun z => e ((nI_eq (b := 0) (by omega) (by omega)).mp z)) ?_
      rfl
    · apply Classical.byContradiction
      intro hno
      apply e
      have : cnt (opn hd Z2) nd = cnt (fun _ => false) nd := cnt_congr (fun x hx => by
        cases ho : opn hd Z2 x with
        | false => rfl
        | true =>
          simp only [opn, Bool.and_eq_true, decide_eq_true_eq, Bool.not_eq_true'] at ho
          exact absurd ⟨x, hx, ho.1, ho.2⟩ hno)
      rw [this]
      have gen : ∀ n, cnt (fun _ => false) n = 0 := by
        intro n
        induction n with
        | zero => rfl
        | succ n ih => unfold cnt; rw [ih]; rfl
      exact gen nd
-- ===== the class solves =====
def dSv (a : Nat) : Prop := dSo a ∨ a = 136
/-- what a solved unification leaves: classes with heads, sizes, trees -/
def Sol (m : qM) (T : Nat → Tm) (nd a b : Nat) (hd : Nat → Nat) (shp : Nat → Option Nat) (den : Nat → Tm) : Prop :=
  xU m ∧ UV m T nd hd shp ∧ (∀ n, n < nd → hd n < nd ∧ hd (hd n) = hd n ∧ qI m 136 (hd n) = nI (min (tS (den (hd n))) 40)) ∧ (∀ n s, n < nd → shp (hd n) = some s → s < nd ∧ ∃ l r, T s = .op l r ∧ s + 1 + tS l < nd ∧ den (hd n) = .op (den (hd (s + 1))) (den (hd (s + 1 + tS l)))) ∧ (∀ n, n < nd → shp (hd n) = none → ∃ v, T (hd n) = .var v ∧ den (hd n) = .var v) ∧ (∀ n k v, n < nd → k < nd → T n = .var v → T k = .var v → hd n = hd k) ∧ hd a = hd b ∧ (∀ τ, sb τ (T a) = sb τ (T b) → ∀ n, n < nd → sb τ (den (hd n)) = sb τ (T n)) ∧ ∃ ρ : Nat → Tm, ∀ n, n < nd → den (hd n) = sb ρ (T n)
theorem c_solve {m : qM} {T : Nat → Tm} {nd a b : Nat} {par hd h : Nat → Nat} {shp : Nat → Option Nat} (hG : GG T nd) (hU : xU m) (h9 : qI m 132 9 = nI nd) (hV : UV m T nd par shp) (hF : UF T nd par hd h shp) (hTp : ∀ n, n < nd → T n = T (par n)) (hTs : ∀ n s l r, n < nd → T n = .op l r → shp (hd n) = some s → s = n) (ha : a < nd) (hb : b < nd) :
    ∃ m4 m2 r, fX8_mergeAll NF 132 (nI a) (nI b) m = some m4 ∧ qK m4 132 = 8 ∧ fX8_measure NF 132 m4 = some (r, m2) ∧ Fx dSv m m2 ∧ ((r = 0 ∧ ∀ τ, ¬ sb τ (T a) = sb τ (T b)) ∨ (r = 1 ∧ ∃ hd2 shp2 den, Sol m2 T nd a b hd2 shp2 den)) := by
  have hnd := hG.1
  have k132 : qK m 132 = 8 := hU.1
  let m1 : qM := qsI m 132 10 (nI 0)
  have hU1 : xU m1 := hU
  have e1 := c_enq (m := m1) (q := 0) (x := nI a) (y := nI b) hU1 (by simp [m1, qS]) (by omega)
  let m2 : qM := eqM m1 0 (nI a) (nI b)
  have f2 : Fx dSo m m2 := (((Fx.rf.sI (by simp [dSo])).sI (by simp [dSo])).sI (by simp [dSo])).sI (by simp [dSo])
  have hU2 : xU m2 := hU
  have hV2 : UV m2 T nd par shp := by
    intro n hn
    obtain ⟨v1, v2, v3⟩ := hV n hn
    refine ⟨?_, ?_, fun l r ht => ?_⟩
    · simp only [m2, m1, eqM, qS]; exact v1
    · simp only [m2, m1, eqM, qS]; exact v2
    · simp only [m2, m1, eqM, qS]; exact v3 l r ht
  have h92 : qI m2 132 9 = nI nd := by simp only [m2, m1, eqM, qS, ↓reduceIte]; exact h9
  have h10 : qI m2 132 10 = nI 1 := by simp [m2, eqM, qS]
  have hh1 : 1 ≤ hds par nd := by
    have hp0 := hF.1 a ha
    exact cnt_pos (k := hd a) hp0.2.1 (by simp [hp0.2.2.1])
  have hh2 := cnt_le (fun j => decide (par j = j)) nd
  have hh3 : hds par nd ≤ nd := hh2
  obtain ⟨m3, par3, hd3, h3, shp3, p1, p2, p3, p4, p5, p6, p7⟩ := c_solve13 (P := fun τ => sb τ (T a) = sb τ (T b)) (p := a) (q := b) hG NF 0 1 m2 par hd h shp (fun _ => a) (fun _ => b) hU2 hV2 hF (fun τ _ n hn => by rw [← hTp n hn]) (by
    intro E hE hQ
    refine ⟨hQ 0 (by omega) (by omega), fun n s l r l2 r2 hn ht hs ht2 => ?_⟩
    have := hTs n s l r hn ht hs
    subst this
    rw [ht] at ht2
    injection ht2 with ht2 _
    subst ht2
    exact ⟨rfl, rfl⟩) (by omega) (by omega) hh1 h10 h92 (by
    intro j hj
    obtain rfl : j = 0 := by omega
    exact ⟨by simp [m2, eqM, qS], by simp [m2, eqM, qS], ha, hb, fun τ hτ => hτ⟩) (by unfold NF; omega)
  have hU3 : xU m3 := xU_of hU2 p2
  have hP3 := p4.1
  have hpk0 : pkk par3 hd3 0 = par3 := by funext n; unfold pkk; rw [if_neg (by omega)]
  obtain ⟨m4, q1, q2, q3, q4⟩ := c_solve60 (T := T) (shp := shp3) hnd hP3 (fun n hn => by have := p4.2.1 n hn; omega) NF 0 m3 hU3 (by rw [hpk0]; exact p3) p7 (by omega) (by unfold NF; omega)
  have hU4 : xU m4 := xU_of hU3 q2
  obtain ⟨m5, Z, den, r, s1, s2, s3, s4, s5, s6⟩ := c_measure hG p4 hU4 q4 q3
  have hU5 : xU m5 := xU_of hU4 s2
  have fin : Fx dSv m m5 := ((f2.tr (p2.tr q2)).mono (fun a h => Or.inl h)).tr (s2.mono (fun a h => Or.inr h))
  have hrun : fX8_mergeAll NF 132 (nI a) (nI b) m = some m4 := by
    unfold fX8_mergeAll
    refine EpI k132 (show (0 : Int32) = nI 0 from rfl) ?_
    refine EC (show qK m1 132 = 8 from k132) e1 ?_
    refine EB p1 ?_
    refine EB q1 ?_
    rfl
  rcases s6 with ⟨rfl, hz⟩ | ⟨rfl, hstk, x0, y1, y2, y3⟩
  · refine ⟨m4, m5, 1, hrun, hU4.1, s1, fin, Or.inr ⟨rfl, hd3, shp3, den, hU5, UV_fx q3 s2, fun n hn => ?_, fun n s hn hs => ?_, fun n hn hs => ?_, p4.2.2.2.2, ?_⟩⟩
    · have hh := hP3 n hn
      refine ⟨hh.2.1, hh.2.2.2.1, ?_⟩
      rw [s3 _ hh.2.1, if_pos (hz _ hh.2.1 hh.2.2.2.1)]
    · have hh := hP3 n hn
      obtain ⟨t1, t2, l, r, t3⟩ := p4.2.2.2.1 _ s hh.2.1 hh.2.2.1 hs
      obtain ⟨g1, -, -⟩ := hG.2.2 s l r t1 t3
      obtain ⟨-, -, t4⟩ := (s4 _ hh.2.1 hh.2.2.2.1 (hz _ hh.2.1 hh.2.2.2.1)).2 s l r hs t3
      exact ⟨t1, l, r, t3, g1, t4⟩
    · have hh := hP3 n hn
      exact (s4 _ hh.2.1 hh.2.2.2.1 (hz _ hh.2.1 hh.2.2.2.1)).1 hs
    · exact the_uni hG p4 p5 s4 hz p6
  · exact ⟨m4, m5, 0, hrun, hU4.1, s1, fin, Or.inl ⟨rfl, no_uni hG p4 p5 (fun x hx hh hs => (s5 x hx).2 hh hs) (fun x s l r g1 g2 g3 g4 g5 => hstk x s l r (by omega) g1 g2 g3 g4 g5) y1 y2 y3⟩⟩
end
