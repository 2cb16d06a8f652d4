section
-- ===== sizes of the classes =====
def SZ (m : qM) (nd : Nat) (Z : Nat → Bool) (den : Nat → Tm) : Prop := ∀ x, x < nd → qI m 136 x = if Z x = true then nI (min (tS (den x)) 40) else 0
def opn (hd : Nat → Nat) (Z : Nat → Bool) : Nat → Bool := fun x => decide (hd x = x) && !(Z x)
def Stk (T : Nat → Tm) (nd : Nat) (hd : Nat → Nat) (shp : Nat → Option Nat) (Z : Nat → Bool) (lo : Nat) : Prop := ∀ x s l r, lo ≤ x → x < nd → hd x = x → Z x = false → shp x = some s → T s = .op l r → Z (hd (s + 1)) = false ∨ Z (hd (s + 1 + tS l)) = false
def ZH (nd : Nat) (hd : Nat → Nat) (shp : Nat → Option Nat) (Z : Nat → Bool) : Prop := ∀ x, x < nd → (Z x = true → hd x = x) ∧ (hd x = x → shp x = none → Z x = true)
def dMe (a : Nat) : Prop := a = 136
theorem UV_fx {m m2 : qM} {T : Nat → Tm} {nd : Nat} {par : Nat → Nat} {shp : Nat → Option Nat} (h : UV m T nd par shp) (f : Fx dMe m m2) : UV m2 T nd par shp := by
  intro n hn
  rw [f.i (show ¬ dMe 134 by simp [dMe]), f.i (show ¬ dMe 135 by simp [dMe]), f.i (show ¬ dMe 133 by simp [dMe])]
  exact h n hn
theorem z1i (b : Bool) : ((if b = true then (1 : Int32) else 0) = 0) ↔ b = false := by cases b <;> decide
theorem min40' {a b : Nat} : (if (40 : Int32) < (nI (min a 40) + nI (min b 40)) + (1 : Int32) then (40 : Int32) else (nI (min a 40) + nI (min b 40)) + (1 : Int32)) = nI (min (a + b + 1) 40) := by
  have e : (nI (min a 40) + nI (min b 40)) + (1 : Int32) = nI (min a 40 + min b 40 + 1) := by rw [nI_add, nI_s]
  rw [e]
  by_cases h : 40 < min a 40 + min b 40 + 1
  · have hq : (40 : Int32) < nI (min a 40 + min b 40 + 1) := (nI_ltI (a := 40) (by omega) (by omega)).mpr h
    rw [if_pos hq]
    rw [show min (a + b + 1) 40 = 40 by omega]; rfl
  · have hq : ¬ (40 : Int32) < nI (min a 40 + min b 40 + 1) := fun z => h ((nI_ltI (a := 40) (by omega) (by omega)).mp z)
    rw [if_neg hq]
    rw [show min (a + b + 1) 40 = min a 40 + min b 40 + 1 by omega]
theorem minNz {a : Nat} (h : 0 < a) : ¬ nI (min a 40) = 0 := fun e => by
  have := (nI_eq (a := min a 40) (b := 0) (by omega) (by omega)).mp e
  omega
theorem c_mClass {m : qM} {T : Nat → Tm} {nd x s : Nat} {l r : Tm} {hd : Nat → Nat} {shp : Nat → Option Nat} {Z : Nat → Bool} {den : Nat → Tm} (hG : GG T nd) (hH : ∀ n, n < nd → hd n < nd) (hU : xU m) (hV : UV m T nd hd shp) (hS : SZ m nd Z den) (hx : x < nd) (hs : shp x = some s) (hsn : s < nd) (ht : T s = .op l r) :
    (fX8_measureClass NF 132 (nI x) m = some (0, m) ∧ (Z (hd (s + 1)) = false ∨ Z (hd (s + 1 + tS l)) = false)) ∨ (fX8_measureClass NF 132 (nI x) m = some (1, qsI m 136 x (nI (min (tS (den (hd (s + 1))) + tS (den (hd (s + 1 + tS l))) + 1) 40))) ∧ Z (hd (s + 1)) = true ∧ Z (hd (s + 1 + tS l)) = true) := by
  have hnd := hG.1
  obtain ⟨g1, g2, g3⟩ := hG.2.2 s l r hsn ht
  obtain ⟨v1, v2, v3⟩ := hV x hx
  obtain ⟨w1, w2, w3⟩ := hV s hsn
  have w4 := w3 l r ht
  have a1 := (hV (s + 1) (by omega)).1
  have a2 := (hV (s + 1 + tS l) g1).1
  have b1 := hH (s + 1) (by omega)
  have b2 := hH (s + 1 + tS l) g1
  have s1 := hS _ b1
  have s2 := hS _ b2
  rw [hs] at v2
  have v2' : qI m 135 x = nI s := v2
  obtain ⟨k132, r0, r1, r2, r3, r4, r5, r6, r7, r8, k133, n133, k134, n134, k135, n135, k136, n136, k137, n137, k138, n138, k139, n139, k140, n140, k141, n141, -⟩ := hU
  have key : ∀ R, (if qI m 136 (hd (s + 1)) = 0 then some ((0 : Int32), m) else (if qI m 136 (hd (s + 1 + tS l)) = 0 then some ((0 : Int32), m) else (qgR m 132 8 3).bind fun x15 => (qwI m x15 12 (nI x) (if (40 : Int32) < (qI m 136 (hd (s + 1)) + qI m 136 (hd (s + 1 + tS l))) + (1 : Int32) then (40 : Int32) else (qI m 136 (hd (s + 1)) + qI m 136 (hd (s + 1 + tS l))) + (1 : Int32))).bind fun m16 => some ((1 : Int32), m16))) = R → fX8_measureClass NF 132 (nI x) m = R := by
    intro R hR
    unfold fX8_measureClass
    refine EgR k132 r3 ?_
    refine EgR k132 r1 ?_
    refine EgR k132 r2 ?_
    refine EaI k135 rfl (by omega) (by omega) v2' ?_
    refine EaI k134 (nI_s _) (by omega) (by omega) a1 ?_
    refine EaI k136 rfl (by omega) (by omega) rfl ?_
    refine EgR k132 r3 ?_
    refine EgR k132 r1 ?_
    refine EgR k132 r0 ?_
    refine EgR k132 r2 ?_
    refine EaI k135 rfl (by omega) (by omega) v2' ?_
    refine EaI k133 rfl (by omega) (by omega) w4 ?_
    refine EaI k134 rfl (by omega) (by omega) a2 ?_
    refine EaI k136 rfl (by omega) (by omega) rfl ?_
    exact hR
  by_cases z1 : Z (hd (s + 1)) = true
  · by_cases z2 : Z (hd (s + 1 + tS l)) = true
    · right
      refine ⟨?_, z1, z2⟩
      rw [if_pos z1] at s1
      rw [if_pos z2] at s2
      apply key
      rw [s1, s2]
      refine EIn (minNz (tS_pos _)) ?_
      refine EIn (minNz (tS_pos _)) ?_
      refine EgR k132 r3 ?_
      refine EwI k136 rfl (by omega) (by omega) min40' ?_
      rfl
    · left
      refine ⟨?_, Or.inr (by simpa using z2)⟩
      rw [if_pos z1] at s1
      rw [if_neg z2] at s2
      apply key
      rw [s1, s2]
      refine EIn (minNz (tS_pos _)) ?_
      refine EIp rfl ?_
      rfl
  · left
    refine ⟨?_, Or.inl (by simpa using z1)⟩
    rw [if_neg z1] at s1
    apply key
    rw [s1]
    refine EIp rfl ?_
    rfl
theorem DnS_put {T : Nat → Tm} {nd x s : Nat} {l r : Tm} {hd : Nat → Nat} {shp : Nat → Option Nat} {Z : Nat → Bool} {den : Nat → Tm} (hD : DnS T nd hd shp Z den) (hz : Z x = false) (hs : shp x = some s) (ht : T s = .op l r) (z1 : Z (hd (s + 1)) = true) (z2 : Z (hd (s + 1 + tS l)) = true) : DnS T nd hd shp (fun y => if y = x then true else Z y) (fun y => if y = x then .op (den (hd (s + 1))) (den (hd (s + 1 + tS l))) else den y) := by
  have ne : ∀ y, Z y = true → ¬ y = x := fun y hy e => by rw [e, hz] at hy; cases hy
  intro y hy hh hzy
  by_cases e : y = x
  · subst e
    refine ⟨fun q => (by rw [hs] at q; cases q), fun s' l' r' q1 q2 => ?_⟩
    rw [hs] at q1
    injection q1 with q1
    subst q1
    rw [ht] at q2
    injection q2 with q2 q3
    subst q2 q3
    have n1 := ne _ z1
    have n2 := ne _ z2
    simp only [n1, n2, ↓reduceIte]
    exact ⟨z1, z2, trivial⟩
  · simp only [e, ↓reduceIte] at hzy ⊢
    obtain ⟨d1, d2⟩ := hD y hy hh hzy
    refine ⟨d1, fun s' l' r' q1 q2 => ?_⟩
    obtain ⟨f1, f2, f3⟩ := d2 s' l' r' q1 q2
    have n1 := ne _ f1
    have n2 := ne _ f2
    simp only [n1, n2, ↓reduceIte]
    exact ⟨f1, f2, f3⟩
/-- one pass -/
theorem c_pass {T : Nat → Tm} {nd : Nat} {par hd h : Nat → Nat} {shp : Nat → Option Nat} {ps : Int32} (hG : GG T nd) (hF : UF T nd par hd h shp) : ∀ (k f : Nat) (m : qM) (Z : Nat → Bool) (den : Nat → Tm) (c : Int32), k ≤ nd → k < f → xU m → UV m T nd hd shp → SZ m nd Z den → DnS T nd hd shp Z den → ZH nd hd shp Z → ((c = 1) ∨ (c = 0 ∧ Stk T nd hd shp Z k)) →
    ∃ m2 Z2 den2 c2, lX8_measure_109 NF 132 ps f (nI (cnt (opn hd Z) nd)) c (nI k + (-1)) m = some (nI (cnt (opn hd Z2) nd), c2, m2) ∧ Fx dMe m m2 ∧ SZ m2 nd Z2 den2 ∧ DnS T nd hd shp Z2 den2 ∧ ZH nd hd shp Z2 ∧ cnt (opn hd Z2) nd ≤ cnt (opn hd Z) nd ∧ ((c2 = 1 ∧ (c = 1 ∨ cnt (opn hd Z2) nd < cnt (opn hd Z) nd)) ∨ (c2 = 0 ∧ Stk T nd hd shp Z2 0)) := by
  have hnd := hG.1
  intro k
  induction k with
  | zero =>
    intro f m Z den c hk hf hU hV hS hD hZ hc
    obtain ⟨f, rfl⟩ : ∃ g, f = g + 1 := ⟨f - 1, by omega⟩
    refine ⟨m, Z, den, c, ?_, Fx.rf, hS, hD, hZ, Nat.le_refl _, ?_⟩
    · unfold lX8_measure_109
      rw [if_pos (by decide)]
    · rcases hc with h | ⟨h1, h2⟩
      · exact Or.inl ⟨h, Or.inl h⟩
      · exact Or.inr ⟨h1, h2⟩
  | succ k ih =>
    intro f m Z den c hk hf hU hV hS hD hZ hc
    obtain ⟨f, rfl⟩ : ∃ g, f = g + 1 := ⟨f - 1, by omega⟩
    have hU0 := hU
    obtain ⟨k132, r0, r1, r2, r3, r4, r5, r6, r7, r8, k133, n133, k134, n134, k135, n135, k136, n136, k137, n137, k138, n138, k139, n139, k140, n140, k141, n141, -⟩ := hU
    have hkn : k < nd := by omega
    obtain ⟨v1, v2, v3⟩ := hV k hkn
    have vs := hS k hkn
    have hhk : hd k < nd := (hF.1 k hkn).2.1
    have e0 : nI (k + 1) + (-1 : Int32) = nI k := nI_p (by omega)
    have hn0 : ¬ nI k < 0 := nI_pos (by omega)
    have hstk : ∀ Z', (¬ (hd k = k ∧ Z' k = false) ∨ ∀ s l r, shp k = some s → T s = .op l r → Z' (hd (s + 1)) = false ∨ Z' (hd (s + 1 + tS l)) = false) → Stk T nd hd shp Z' (k + 1) → Stk T nd hd shp Z' k := by
      intro Z' h1 h2 x s l r q1 q2 q3 q4 q5 q6
      by_cases e : x = k
      · subst e
        rcases h1 with h1 | h1
        · exact absurd ⟨q3, q4⟩ h1
        · exact h1 s l r q5 q6
      · exact h2 x s l r (by omega) q2 q3 q4 q5 q6
    have skip : (¬ (hd k = k ∧ Z k = false) ∨ (∀ s l r, shp k = some s → T s = .op l r → Z (hd (s + 1)) = false ∨ Z (hd (s + 1 + tS l)) = false)) → lX8_measure_109 NF 132 ps (f + 1) (nI (cnt (opn hd Z) nd)) c (nI k) m = lX8_measure_109 NF 132 ps f (nI (cnt (opn hd Z) nd)) c (nI k + (-1)) m →
        ∃ m2 Z2 den2 c2, lX8_measure_109 NF 132 ps (f + 1) (nI (cnt (opn hd Z) nd)) c (nI k) m = some (nI (cnt (opn hd Z2) nd), c2, m2) ∧ Fx dMe m m2 ∧ SZ m2 nd Z2 den2 ∧ DnS T nd hd shp Z2 den2 ∧ ZH nd hd shp Z2 ∧ cnt (opn hd Z2) nd ≤ cnt (opn hd Z) nd ∧ ((c2 = 1 ∧ (c = 1 ∨ cnt (opn hd Z2) nd < cnt (opn hd Z) nd)) ∨ (c2 = 0 ∧ Stk T nd hd shp Z2 0)) := by
      intro hns he
      rw [he]
      exact ih f m Z den c (by omega) (by omega) hU0 hV hS hD hZ (hc.imp id (fun z => ⟨z.1, hstk Z hns z.2⟩))
    rw [e0]
    by_cases e1 : hd k = k
    · have c1 : nI (hd k) = nI k := by rw [e1]
      by_cases e2 : Z k = true
      · rw [if_pos e2] at vs
        refine skip (Or.inl (fun z => by rw [e2] at z; cases z.2)) ?_
        conv => lhs; unfold lX8_measure_109 kX8_measure_150
        refine EIn hn0 ?_
        refine EgR k132 r1 ?_
        refine EaI k134 rfl (by omega) (by omega) v1 ?_
        refine EIp c1 ?_
        refine EgR k132 r3 ?_
        refine EaI k136 rfl (by omega) (by omega) vs ?_
        refine EIn (minNz (tS_pos _)) ?_
        rfl
      · rw [if_neg e2] at vs
        have e2' : Z k = false := by simpa using e2
        cases hs : shp k with
        | none => rw [(hZ k hkn).2 e1 hs] at e2'; cases e2'
        | some s =>
          have hpk : par k = k := by have := (hF.1 k hkn).2.2.1; rw [e1] at this; exact this
          obtain ⟨q1, q2, l, r, q3⟩ := hF.2.2.2.1 k s hkn hpk hs
          rcases c_mClass hG (fun n hn => (hF.1 n hn).2.1) hU0 hV hS hkn hs q1 q3 with ⟨w1, w2⟩ | ⟨w1, w2, w3⟩
          · refine skip (Or.inr (fun s' l' r' z1 z2 => by
              rw [hs] at z1
              injection z1 with z1
              subst z1
              rw [q3] at z2
              injection z2 with z2 z3
              subst z2
              exact w2)) ?_
            conv => lhs; unfold lX8_measure_109 kX8_measure_150
            refine EIn hn0 ?_
            refine EgR k132 r1 ?_
            refine EaI k134 rfl (by omega) (by omega) v1 ?_
            refine EIp c1 ?_
            refine EgR k132 r3 ?_
            refine EaI k136 rfl (by omega) (by omega) vs ?_
            refine EIp rfl ?_
            refine EC k132 w1 ?_
            dsimp only
            refine EIp rfl ?_
            rfl
          · let Z' : Nat → Bool := fun y => if y = k then true else Z y
            let den' : Nat → Tm := fun y => if y = k then .op (den (hd (s + 1))) (den (hd (s + 1 + tS l))) else den y
            have hD' : DnS T nd hd shp Z' den' := DnS_put hD e2' hs q3 w2 w3
            have hcnt : cnt (opn hd Z') nd + 1 = cnt (opn hd Z) nd := by
              apply cnt_set (k := k) hkn
              · simp [opn, e1, e2']
              · simp [opn, Z']
              · intro j _ hj; simp [opn, Z', hj]
            let m1 : qM := qsI m 136 k (nI (min (tS (den (hd (s + 1))) + tS (den (hd (s + 1 + tS l))) + 1) 40))
            have f1 : Fx dMe m m1 := Fx.rf.sI rfl
            have hS' : SZ m1 nd Z' den' := by
              intro x hx
              by_cases ex : x = k
              · subst ex; simp [m1, Z', den', qS, tS]
              · simp only [m1, Z', den', qS, ex, ↓reduceIte]; exact hS x hx
            have hZ' : ZH nd hd shp Z' := by
              intro x hx
              refine ⟨fun z => ?_, fun z1 z2 => ?_⟩
              · by_cases ex : x = k
                · rw [ex]; exact e1
                · simp only [Z', ex, ↓reduceIte] at z; exact (hZ x hx).1 z
              · by_cases ex : x = k
                · simp [Z', ex]
                · simp only [Z', ex, ↓reduceIte]; exact (hZ x hx).2 z1 z2
            have hsub : nI (cnt (opn hd Z) nd) + (-1 : Int32) = nI (cnt (opn hd Z') nd) := by rw [nI_p (by omega)]; congr 1; omega
            obtain ⟨m2, Z2, den2, c2, p1, p2, p3, p4, p5, p6, p7⟩ := ih f m1 Z' den' 1 (by omega) (by omega) (xU_of hU0 f1) (UV_fx hV f1) hS' hD' hZ' (Or.inl rfl)
            refine ⟨m2, Z2, den2, c2, ?_, f1.tr p2, p3, p4, p5, by omega, ?_⟩
            · conv => lhs; unfold lX8_measure_109 kX8_measure_150
              refine EIn hn0 ?_
              refine EgR k132 r1 ?_
              refine EaI k134 rfl (by omega) (by omega) v1 ?_
              refine EIp c1 ?_
              refine EgR k132 r3 ?_
              refine EaI k136 rfl (by omega) (by omega) vs ?_
              refine EIp rfl ?_
              refine EC k132 w1 ?_
              dsimp only
              refine EIn (by decide) ?_
              rw [hsub]
              exact p1
            · rcases p7 with ⟨z1, z2⟩ | z
              · exact Or.inl ⟨z1, Or.inr (by omega)⟩
              · exact Or.inr z
    · have c1 : ¬ nI (hd k) = nI k := fun z => e1 ((nI_eq (by omega) (by omega)).mp z)
      refine skip (Or.inl (fun z => e1 z.1)) ?_
      conv => lhs; unfold lX8_measure_109 kX8_measure_150
      refine EIn hn0 ?_
      refine EgR k132 r1 ?_
      refine EaI k134 rfl (by omega) (by omega) v1 ?_
      refine EIn c1 ?_
      rfl
theorem c_passes {T : Nat → Tm} {nd : Nat} {par hd h : Nat → Nat} {shp : Nat → Option Nat} (hG : GG T nd) (hF : UF T nd par hd h shp) : ∀ (f i : Nat) (m : qM) (Z : Nat → Bool) (den : Nat → Tm) (c : Int32), xU m → qI m 132 9 = nI nd → UV m T nd hd shp → SZ m nd Z den → DnS T nd hd shp Z den → ZH nd hd shp Z → i ≤ 78 → ((c = 1 ∧ cnt (opn hd Z) nd + i ≤ 78) ∨ (c = 0 ∧ Stk T nd hd shp Z 0)) → 79 ≤ f + i →
    ∃ m2 Z2 den2, lX8_measure_85 NF 132 f (nI (cnt (opn hd Z) nd)) c (nI i) m = some (nI (cnt (opn hd Z2) nd), m2) ∧ Fx dMe m m2 ∧ SZ m2 nd Z2 den2 ∧ DnS T nd hd shp Z2 den2 ∧ ZH nd hd shp Z2 ∧ (cnt (opn hd Z2) nd = 0 ∨ Stk T nd hd shp Z2 0) := by
  have hnd := hG.1
  intro f
  induction f with
  | zero => intro i m Z den c _ _ _ _ _ _ _ _ h; omega
  | succ f ih =>
    intro i m Z den c hU h9 hV hS hD hZ hi hc hf
    have hcl := cnt_le (opn hd Z) nd
    have k132 : qK m 132 = 8 := hU.1
    conv => enter [1, m2, 1, Z2, 1, den2, 1, 1]; unfold lX8_measure_85
    by_cases e1 : 78 ≤ i
    · refine ⟨m, Z, den, ?_, Fx.rf, hS, hD, hZ, ?_⟩
      · refine EIp ((nI_leI (a := 78) (by omega) (by omega)).mpr e1) ?_; rfl
      · rcases hc with ⟨h1, h2⟩ | ⟨h1, h2⟩
        · exact Or.inl (by omega)
        · exact Or.inr h2
    · have c1 : ¬ (78 : Int32) ≤ nI i := fun z => e1 ((nI_leI (a := 78) (by omega) (by omega)).mp z)
      rcases hc with ⟨rfl, h2⟩ | ⟨rfl, h2⟩
      · by_cases e2 : cnt (opn hd Z) nd = 0
        · refine ⟨m, Z, den, ?_, Fx.rf, hS, hD, hZ, Or.inl e2⟩
          refine EIn c1 ?_
          refine EIn (by decide) ?_
          refine EIp (by rw [e2]; decide) ?_
          rfl
        · obtain ⟨m1, Z1, den1, c1', p1, p2, p3, p4, p5, p6, p7⟩ := c_pass (ps := nI i) hG hF nd NF m Z den 0 (Nat.le_refl _) (by unfold NF; omega) hU hV hS hD hZ (Or.inr ⟨rfl, fun x s l r q1 q2 => by omega⟩)
          have h91 : qI m1 132 9 = nI nd := by rw [p2.i (by simp [dMe])]; exact h9
          obtain ⟨m2, Z2, den2, w1, w2, w3⟩ := ih (i + 1) m1 Z1 den1 c1' (xU_of hU p2) h91 (UV_fx hV p2) p3 p4 p5 (by omega) (by
            rcases p7 with ⟨z1, z2 | z2⟩ | z
            · exact absurd z2 (by decide)
            · exact Or.inl ⟨z1, by omega⟩
            · exact Or.inr z) (by omega)
          refine ⟨m2, Z2, den2, ?_, p2.tr w2, w3⟩
          refine EIn c1 ?_
          refine EIn (by decide) ?_
          refine EIn (fun z => e2 (by have := (nI_leI (a := cnt (opn hd Z) nd) (b := 0) (by omega) (by omega)).mp z; omega)) ?_
          refine EgI k132 h9 ?_
          have e3 : nI nd - (1 : Int32) = nI nd + (-1) := by rw [Int32.sub_eq_add_neg]
          rw [e3]
          refine EB p1 ?_
          dsimp only
          rw [nI_s]
          exact w1
      · refine ⟨m, Z, den, ?_, Fx.rf, hS, hD, hZ, Or.inr h2⟩
        refine EIn c1 ?_
        refine EIp rfl ?_
        rfl
end
