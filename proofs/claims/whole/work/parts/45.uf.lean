
-- ===== classes of parts: a forest of parents =====
def PH (nd : Nat) (par hd h : Nat → Nat) : Prop := ∀ n, n < nd → par n < nd ∧ hd n < nd ∧ par (hd n) = hd n ∧ hd (hd n) = hd n ∧ hd (par n) = hd n ∧ (par n = n → hd n = n ∧ h n = 0) ∧ (par n ≠ n → h (par n) < h n)
def hds (par : Nat → Nat) (nd : Nat) : Nat := cnt (fun j => decide (par j = j)) nd
def UF (T : Nat → Tm) (nd : Nat) (par hd h : Nat → Nat) (shp : Nat → Option Nat) : Prop := PH nd par hd h ∧ (∀ n, n < nd → h n + hds par nd ≤ nd) ∧ (∀ n l r, n < nd → T n = .op l r → ∃ s, shp (hd n) = some s) ∧ (∀ x s, x < nd → par x = x → shp x = some s → s < nd ∧ hd s = x ∧ ∃ l r, T s = .op l r) ∧ (∀ n k v, n < nd → k < nd → T n = .var v → T k = .var v → hd n = hd k)
theorem E_hd {α : Type} {nd : Nat} {par hd h : Nat → Nat} {E : Nat → α} (hP : PH nd par hd h) (hE : ∀ n, n < nd → E n = E (par n)) : ∀ (k n : Nat), n < nd → h n ≤ k → E n = E (hd n) := by
  intro k
  induction k with
  | zero =>
    intro n hn hk
    obtain ⟨h1, h2, h3, h4, h5, h6, h7⟩ := hP n hn
    by_cases e : par n = n
    · rw [(h6 e).1]
    · have := h7 e; omega
  | succ k ih =>
    intro n hn hk
    obtain ⟨h1, h2, h3, h4, h5, h6, h7⟩ := hP n hn
    by_cases e : par n = n
    · rw [(h6 e).1]
    · have := h7 e
      rw [hE n hn, ih (par n) h1 (by omega), h5]
def updN (f : Nat → Nat) (a v : Nat) : Nat → Nat := fun n => if n = a then v else f n
def hd2 (hd : Nat → Nat) (a b : Nat) : Nat → Nat := fun n => if hd n = b then a else hd n
def h2f (hd h : Nat → Nat) (b : Nat) : Nat → Nat := fun n => if hd n = b then h n + 1 else h n
def shp2 (shp : Nat → Option Nat) (a b : Nat) : Nat → Option Nat := fun x => if x = a then (if (shp a).isNone then shp b else shp a) else shp x
theorem PH_merge {nd a b : Nat} {par hd h : Nat → Nat} (hP : PH nd par hd h) (ha : a < nd) (hb : b < nd) (pa : par a = a) (pb : par b = b) (hab : a ≠ b) : PH nd (updN par b a) (hd2 hd a b) (h2f hd h b) := by
  have hda : hd a = a := ((hP a ha).2.2.2.2.2.1 pa).1
  have hdb : hd b = b := ((hP b hb).2.2.2.2.2.1 pb).1
  have h0a : h a = 0 := ((hP a ha).2.2.2.2.2.1 pa).2
  have h0b : h b = 0 := ((hP b hb).2.2.2.2.2.1 pb).2
  intro n hn
  obtain ⟨h1, h2, h3, h4, h5, h6, h7⟩ := hP n hn
  by_cases e : hd n = b
  · have e2 : hd2 hd a b n = a := by simp [hd2, e]
    have e3 : updN par b a a = a := by simp [updN, hab, pa]
    have e4 : hd2 hd a b a = a := by simp [hd2, hda, hab]
    have e5 : h2f hd h b n = h n + 1 := by simp [h2f, e]
    by_cases en : n = b
    · have e6 : updN par b a n = a := by simp [updN, en]
      rw [e2, e6]
      refine ⟨ha, ha, e3, e4, e4, fun q => absurd (q.trans en) hab, fun _ => ?_⟩
      rw [e5]
      have : h2f hd h b a = h a := by simp [h2f, hda, hab]
      rw [this]; omega
    · have e6 : updN par b a n = par n := by simp [updN, en]
      have e7 : hd2 hd a b (par n) = a := by simp [hd2, h5, e]
      rw [e2, e6]
      refine ⟨h1, ha, e3, e4, e7, fun q => ?_, fun q => ?_⟩
      · exact absurd ((h6 q).1.symm.trans e) en
      · rw [e5]
        have : h2f hd h b (par n) = h (par n) + 1 := by simp [h2f, h5, e]
        rw [this]
        have := h7 q
        omega
  · have e2 : hd2 hd a b n = hd n := by simp [hd2, e]
    have en : n ≠ b := fun q => e (by rw [q]; exact hdb)
    have e6 : updN par b a n = par n := by simp [updN, en]
    have e3 : updN par b a (hd n) = hd n := by simp [updN, e, h3]
    have e4 : hd2 hd a b (hd n) = hd n := by simp [hd2, h4, e]
    have e7 : hd2 hd a b (par n) = hd n := by simp [hd2, h5, e]
    rw [e2, e6]
    refine ⟨h1, h2, e3, e4, e7, fun q => ⟨(h6 q).1, ?_⟩, fun q => ?_⟩
    · simp [h2f, e, (h6 q).2]
    · have e8 : h2f hd h b n = h n := by simp [h2f, e]
      have e9 : h2f hd h b (par n) = h (par n) := by simp [h2f, h5, e]
      rw [e8, e9]; exact h7 q
theorem hds_merge {nd a b : Nat} {par : Nat → Nat} (ha : a < nd) (hb : b < nd) (pa : par a = a) (pb : par b = b) (hab : a ≠ b) : hds (updN par b a) nd + 1 = hds par nd ∧ 1 ≤ hds (updN par b a) nd := by
  refine ⟨?_, ?_⟩
  · unfold hds
    apply cnt_set (k := b) hb
    · simp [pb]
    · simp [updN, hab]
    · intro j _ hj; simp [updN, hj]
  · exact cnt_pos (k := a) ha (by simp [updN, hab, pa])
theorem UF_merge {T : Nat → Tm} {nd a b : Nat} {par hd h : Nat → Nat} {shp : Nat → Option Nat} (hU : UF T nd par hd h shp) (ha : a < nd) (hb : b < nd) (pa : par a = a) (pb : par b = b) (hab : a ≠ b) : UF T nd (updN par b a) (hd2 hd a b) (h2f hd h b) (shp2 shp a b) := by
  obtain ⟨hP, hc, hs, ht, hv⟩ := hU
  have hda : hd a = a := ((hP a ha).2.2.2.2.2.1 pa).1
  have hdb : hd b = b := ((hP b hb).2.2.2.2.2.1 pb).1
  obtain ⟨m1, m2⟩ := hds_merge ha hb pa pb hab
  refine ⟨PH_merge hP ha hb pa pb hab, fun n hn => ?_, fun n l r hn h1 => ?_, fun x s hx hp h1 => ?_, fun n k v hn hk h1 h2 => ?_⟩
  · have := hc n hn
    unfold h2f
    split <;> omega
  · obtain ⟨s, h2⟩ := hs n l r hn h1
    by_cases e : hd n = b
    · have e2 : hd2 hd a b n = a := by simp [hd2, e]
      rw [e2]
      rw [e] at h2
      cases h3 : shp a with
      | none => exact ⟨s, by simp [shp2, h3, h2]⟩
      | some q => exact ⟨q, by simp [shp2, h3]⟩
    · have e2 : hd2 hd a b n = hd n := by simp [hd2, e]
      rw [e2]
      by_cases e3 : hd n = a
      · rw [e3] at h2 ⊢; exact ⟨s, by simp [shp2, h2]⟩
      · exact ⟨s, by simp [shp2, e3, h2]⟩
  · have hxb : x ≠ b := fun q => by
      have : updN par b a x = a := by simp [updN, q]
      rw [this] at hp
      exact hab (hp.trans q)
    have hp2 : par x = x := by simpa [updN, hxb] using hp
    by_cases e : x = a
    · subst e
      cases h3 : shp x with
      | none =>
        have h4 : shp b = some s := by simpa [shp2, h3] using h1
        obtain ⟨q1, q2, q3⟩ := ht b s hb pb h4
        exact ⟨q1, by simp [hd2, q2], q3⟩
      | some q =>
        have h4 : q = s := by simpa [shp2, h3] using h1
        subst h4
        obtain ⟨q1, q2, q3⟩ := ht x q hx hp2 h3
        exact ⟨q1, by simp [hd2, q2], q3⟩
    · have h4 : shp x = some s := by simpa [shp2, e] using h1
      obtain ⟨q1, q2, q3⟩ := ht x s hx hp2 h4
      exact ⟨q1, by simp [hd2, q2, hxb], q3⟩
  · simp only [hd2, hv n k v hn hk h1 h2]
-- what must be equal, if all that waits becomes equal
def Qu (qf qs : Nat → Nat) (i q : Nat) (E : Nat → Nat) : Prop := ∀ j, i ≤ j → j < q → E (qf j) = E (qs j)
def Cg (T : Nat → Tm) (nd : Nat) (par hd : Nat → Nat) (shp : Nat → Option Nat) (Q : (Nat → Nat) → Prop) (p q : Nat) : Prop := ∀ E : Nat → Nat, (∀ n, n < nd → E n = E (par n)) → Q E → E p = E q ∧ ∀ n s l r l2 r2, n < nd → T n = .op l r → shp (hd n) = some s → T s = .op l2 r2 → E (n + 1) = E (s + 1) ∧ E (n + 1 + tS l) = E (s + 1 + tS l2)
theorem Cg_same {T : Nat → Tm} {nd p q i k x y : Nat} {par hd h qf qs : Nat → Nat} {shp : Nat → Option Nat} (hP : PH nd par hd h) (hC : Cg T nd par hd shp (Qu qf qs i k) p q) (hx : qf i = x) (hy : qs i = y) (hxn : x < nd) (hyn : y < nd) (e : hd x = hd y) : Cg T nd par hd shp (Qu qf qs (i + 1) k) p q := by
  intro E hE hQ
  apply hC E hE
  intro j h1 h2
  by_cases ej : j = i
  · rw [ej, hx, hy, E_hd hP hE (h x) x hxn (Nat.le_refl _), E_hd hP hE (h y) y hyn (Nat.le_refl _), e]
  · exact hQ j (by omega) h2
theorem Cg_merge {T : Nat → Tm} {nd p q i k k2 x y a b : Nat} {par hd h qf qs qf2 qs2 : Nat → Nat} {shp : Nat → Option Nat} (hU : UF T nd par hd h shp) (hC : Cg T nd par hd shp (Qu qf qs i k) p q) (hx : qf i = x) (hy : qs i = y) (hxn : x < nd) (hyn : y < nd) (ea : hd x = a) (eb : hd y = b) (hab : a ≠ b) (hk : k ≤ k2) (hq : ∀ j, j < k → qf2 j = qf j ∧ qs2 j = qs j)
    (hn : ∀ s1 s2 l1 r1 l2 r2, shp a = some s1 → shp b = some s2 → T s1 = .op l1 r1 → T s2 = .op l2 r2 → ∀ E, Qu qf2 qs2 (i + 1) k2 E → E (s1 + 1) = E (s2 + 1) ∧ E (s1 + 1 + tS l1) = E (s2 + 1 + tS l2)) : Cg T nd (updN par b a) (hd2 hd a b) (shp2 shp a b) (Qu qf2 qs2 (i + 1) k2) p q := by
  obtain ⟨hP, hc, hs, ht, hv⟩ := hU
  have ha : a < nd := ea ▸ (hP x hxn).2.1
  have hb : b < nd := eb ▸ (hP y hyn).2.1
  have pa : par a = a := ea ▸ (hP x hxn).2.2.1
  have pb : par b = b := eb ▸ (hP y hyn).2.2.1
  intro E hE hQ
  have hEab : E b = E a := by
    have := hE b hb
    simpa [updN] using this
  have hE0 : ∀ n, n < nd → E n = E (par n) := by
    intro n hn
    by_cases e : n = b
    · rw [e, pb]
    · have := hE n hn
      simpa [updN, e] using this
  have hEx := E_hd hP hE0 (h x) x hxn (Nat.le_refl _)
  have hEy := E_hd hP hE0 (h y) y hyn (Nat.le_refl _)
  obtain ⟨c1, c2⟩ := hC E hE0 (fun j h1 h2 => by
    by_cases ej : j = i
    · rw [ej, hx, hy, hEx, hEy, ea, eb, hEab]
    · have := hQ j (by omega) (by omega)
      rw [(hq j h2).1, (hq j h2).2] at this
      exact this)
  refine ⟨c1, fun n s l r l2 r2 hn2 h1 h2 h3 => ?_⟩
  obtain ⟨s0, h4⟩ := hs n l r hn2 h1
  by_cases e : hd n = b
  · have e2 : hd2 hd a b n = a := by simp [hd2, e]
    rw [e2] at h2
    rw [e] at h4
    obtain ⟨q1, q2, l3, r3, q3⟩ := ht b s0 hb pb h4
    have h5 := c2 n s0 l r l3 r3 hn2 h1 (by rw [e]; exact h4) q3
    cases h6 : shp a with
    | none =>
      have h7 : s0 = s := by
        have : shp b = some s := by simpa [shp2, h6] using h2
        rw [h4] at this; exact Option.some.inj this
      subst h7
      rw [h3] at q3
      injection q3 with q4 q5
      rw [q4]; exact h5
    | some s1 =>
      have h7 : s1 = s := by simpa [shp2, h6] using h2
      subst h7
      obtain ⟨w1, w2⟩ := hn s1 s0 l2 r2 l3 r3 h6 h4 h3 q3 E hQ
      rw [w1, w2]; exact h5
  · have e2 : hd2 hd a b n = hd n := by simp [hd2, e]
    rw [e2] at h2
    have h5 : shp (hd n) = some s := by
      by_cases e3 : hd n = a
      · rw [e3] at h2 h4 ⊢; simpa [shp2, h4] using h2
      · simpa [shp2, e3] using h2
    exact c2 n s l r l2 r2 hn2 h1 h5 h3
-- every solution keeps to the classes
def Cp (P : (Nat → Tm) → Prop) (T : Nat → Tm) (nd : Nat) (par : Nat → Nat) : Prop := ∀ τ, P τ → ∀ n, n < nd → sb τ (T n) = sb τ (T (par n))
theorem Cp_hd {P : (Nat → Tm) → Prop} {T : Nat → Tm} {nd : Nat} {par hd h : Nat → Nat} (hP : PH nd par hd h) (hC : Cp P T nd par) (τ : Nat → Tm) (hτ : P τ) (n : Nat) (hn : n < nd) : sb τ (T n) = sb τ (T (hd n)) := E_hd (E := fun n => sb τ (T n)) hP (hC τ hτ) (h n) n hn (Nat.le_refl _)
theorem Cp_merge {P : (Nat → Tm) → Prop} {T : Nat → Tm} {nd x y a b : Nat} {par hd h : Nat → Nat} (hP : PH nd par hd h) (hC : Cp P T nd par) (hxn : x < nd) (hyn : y < nd) (ea : hd x = a) (eb : hd y = b) (hxy : ∀ τ, P τ → sb τ (T x) = sb τ (T y)) : Cp P T nd (updN par b a) := by
  intro τ hτ n hn
  by_cases e : n = b
  · have h1 := Cp_hd hP hC τ hτ x hxn
    have h2 := Cp_hd hP hC τ hτ y hyn
    rw [ea] at h1
    rw [eb] at h2
    simp only [updN, e, ↓reduceIte]
    rw [← h2, ← h1, hxy τ hτ]
  · simp only [updN, e, ↓reduceIte]; exact hC τ hτ n hn
theorem Cp_pair {P : (Nat → Tm) → Prop} {T : Nat → Tm} {nd a b s1 s2 : Nat} {par hd h : Nat → Nat} {l1 r1 l2 r2 : Tm} (hG : GG T nd) (hP : PH nd par hd h) (hC : Cp P T nd par) (h1 : s1 < nd) (h2 : s2 < nd) (e1 : hd s1 = a) (e2 : hd s2 = b) (t1 : T s1 = .op l1 r1) (t2 : T s2 = .op l2 r2) (hxy : ∀ τ, P τ → sb τ (T a) = sb τ (T b)) : ∀ τ, P τ → sb τ (T (s1 + 1)) = sb τ (T (s2 + 1)) ∧ sb τ (T (s1 + 1 + tS l1)) = sb τ (T (s2 + 1 + tS l2)) := by
  intro τ hτ
  have q1 := Cp_hd hP hC τ hτ s1 h1
  have q2 := Cp_hd hP hC τ hτ s2 h2
  rw [e1] at q1
  rw [e2] at q2
  have q3 : sb τ (T s1) = sb τ (T s2) := by rw [q1, q2]; exact hxy τ hτ
  obtain ⟨_, g1, g2⟩ := hG.2.2 s1 l1 r1 h1 t1
  obtain ⟨_, g3, g4⟩ := hG.2.2 s2 l2 r2 h2 t2
  rw [t1, t2] at q3
  rw [g1, g2, g3, g4]
  simp only [sb] at q3
  injection q3 with q4 q5
  exact ⟨q4, q5⟩
-- ===== the trees of the classes =====
/-- den: the trees of the heads that have a size -/
def DnS (T : Nat → Tm) (nd : Nat) (hd : Nat → Nat) (shp : Nat → Option Nat) (Z : Nat → Bool) (den : Nat → Tm) : Prop := ∀ x, x < nd → hd x = x → Z x = true → (shp x = none → ∃ v, T x = .var v ∧ den x = .var v) ∧ (∀ s l r, shp x = some s → T s = .op l r → Z (hd (s + 1)) = true ∧ Z (hd (s + 1 + tS l)) = true ∧ den x = .op (den (hd (s + 1))) (den (hd (s + 1 + tS l))))
theorem no_uni {P : (Nat → Tm) → Prop} {T : Nat → Tm} {nd x0 : Nat} {par hd h : Nat → Nat} {shp : Nat → Option Nat} {Z : Nat → Bool} (hG : GG T nd) (hU : UF T nd par hd h shp) (hC : Cp P T nd par) (hv : ∀ x, x < nd → hd x = x → shp x = none → Z x = true)
    (hstuck : ∀ x s l r, x < nd → hd x = x → Z x = false → shp x = some s → T s = .op l r → Z (hd (s + 1)) = false ∨ Z (hd (s + 1 + tS l)) = false) (hx0 : x0 < nd) (h0 : hd x0 = x0) (hz0 : Z x0 = false) : ∀ τ, ¬ P τ := by
  intro τ hτ
  have key : ∀ (k x : Nat), x < nd → hd x = x → Z x = false → tS (sb τ (T x)) ≤ k → False := by
    intro k
    induction k with
    | zero => intro x _ _ _ hk; have := tS_pos (sb τ (T x)); omega
    | succ k ih =>
      intro x hx hh hz hk
      cases hs : shp x with
      | none => rw [hv x hx hh hs] at hz; cases hz
      | some s =>
        have hpx : par x = x := by have := (hU.1 x hx).2.2.1; rw [hh] at this; exact this
        obtain ⟨q1, q2, l, r, q3⟩ := hU.2.2.2.1 x s hx hpx hs
        obtain ⟨g1, g2, g3⟩ := hG.2.2 s l r q1 q3
        have e1 := Cp_hd hU.1 hC τ hτ s q1
        rw [q2, q3] at e1
        have e2 := Cp_hd hU.1 hC τ hτ (s + 1) (by omega)
        have e3 := Cp_hd hU.1 hC τ hτ (s + 1 + tS l) g1
        rw [g2] at e2
        rw [g3] at e3
        rw [← e1] at hk
        simp only [sb, tS] at hk
        rcases hstuck x s l r hx hh hz hs q3 with h1 | h1
        · exact ih (hd (s + 1)) (hU.1 (s + 1) (by omega)).2.1 (hU.1 (s + 1) (by omega)).2.2.2.1 h1 (by rw [← e2]; omega)
        · exact ih (hd (s + 1 + tS l)) (hU.1 _ g1).2.1 (hU.1 _ g1).2.2.2.1 h1 (by rw [← e3]; omega)
  exact key _ x0 hx0 h0 hz0 (Nat.le_refl _)
theorem the_uni {P : (Nat → Tm) → Prop} {T : Nat → Tm} {nd p q : Nat} {par hd h : Nat → Nat} {shp : Nat → Option Nat} {Z : Nat → Bool} {den : Nat → Tm} (hG : GG T nd) (hU : UF T nd par hd h shp) (hC : Cp P T nd par) (hD : DnS T nd hd shp Z den) (hZ : ∀ x, x < nd → hd x = x → Z x = true) (hcg : Cg T nd par hd shp (fun _ => True) p q) : hd p = hd q ∧ (∀ τ, P τ → ∀ n, n < nd → sb τ (den (hd n)) = sb τ (T n)) ∧ ∃ ρ : Nat → Tm, ∀ n, n < nd → den (hd n) = sb ρ (T n) := by
  have hcg2 := hcg hd (fun n hn => (hU.1 n hn).2.2.2.2.1.symm) trivial
  refine ⟨hcg2.1, fun τ hτ n hn => ?_, ?_⟩
  · have key : ∀ (k x : Nat), x < nd → hd x = x → tS (den x) ≤ k → sb τ (den x) = sb τ (T x) := by
      intro k
      induction k with
      | zero => intro x _ _ hk; have := tS_pos (den x); omega
      | succ k ih =>
        intro x hx hh hk
        obtain ⟨d1, d2⟩ := hD x hx hh (hZ x hx hh)
        cases hs : shp x with
        | none => obtain ⟨v, e1, e2⟩ := d1 hs; rw [e1, e2]
        | some s =>
          have hpx : par x = x := by have := (hU.1 x hx).2.2.1; rw [hh] at this; exact this
          obtain ⟨q1, q2, l, r, q3⟩ := hU.2.2.2.1 x s hx hpx hs
          obtain ⟨g1, g2, g3⟩ := hG.2.2 s l r q1 q3
          obtain ⟨_, _, e4⟩ := d2 s l r hs q3
          have e1 := Cp_hd hU.1 hC τ hτ s q1
          rw [q2, q3] at e1
          have e2 := Cp_hd hU.1 hC τ hτ (s + 1) (by omega)
          have e3 := Cp_hd hU.1 hC τ hτ (s + 1 + tS l) g1
          rw [g2] at e2
          rw [g3] at e3
          rw [e4] at hk ⊢
          simp only [tS] at hk
          rw [← e1]
          simp only [sb]
          rw [ih (hd (s + 1)) (hU.1 (s + 1) (by omega)).2.1 (hU.1 (s + 1) (by omega)).2.2.2.1 (by omega), ih (hd (s + 1 + tS l)) (hU.1 _ g1).2.1 (hU.1 _ g1).2.2.2.1 (by omega), e2, e3]
    rw [key _ (hd n) (hU.1 n hn).2.1 (hU.1 n hn).2.2.2.1 (Nat.le_refl _)]
    exact (Cp_hd hU.1 hC τ hτ n hn).symm
  · let ρ : Nat → Tm := fun v => @dite Tm (∃ n, n < nd ∧ T n = .var v) (Classical.propDecidable _) (fun hq => den (hd (Classical.choose hq))) (fun _ => .var v)
    have hρ : ∀ n v, n < nd → T n = .var v → ρ v = den (hd n) := by
      intro n v hn ht
      have hq : ∃ n, n < nd ∧ T n = .var v := ⟨n, hn, ht⟩
      have e : ρ v = den (hd (Classical.choose hq)) := dif_pos hq
      rw [e]
      obtain ⟨w1, w2⟩ := Classical.choose_spec hq
      rw [hU.2.2.2.2 _ n v w1 hn w2 ht]
    refine ⟨ρ, ?_⟩
    have key : ∀ (t : Tm) (n : Nat), n < nd → T n = t → den (hd n) = sb ρ t := by
      intro t
      induction t with
      | var v => intro n hn ht; exact (hρ n v hn ht).symm
      | op l r ihl ihr =>
        intro n hn ht
        obtain ⟨s, hs⟩ := hU.2.2.1 n l r hn ht
        have hhx := hU.1 n hn
        obtain ⟨q1, q2, l2, r2, q3⟩ := hU.2.2.2.1 (hd n) s hhx.2.1 hhx.2.2.1 hs
        obtain ⟨_, _, e4⟩ := (hD (hd n) hhx.2.1 hhx.2.2.2.1 (hZ _ hhx.2.1 hhx.2.2.2.1)).2 s l2 r2 hs q3
        obtain ⟨c1, c2⟩ := hcg2.2 n s l r l2 r2 hn ht hs q3
        obtain ⟨g1, g2, g3⟩ := hG.2.2 n l r hn ht
        rw [e4, ← c1, ← c2, ihl (n + 1) (by omega) g2, ihr (n + 1 + tS l) g1 g3]
        rfl
    intro n hn
    exact key (T n) n hn rfl
