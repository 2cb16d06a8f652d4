section
-- ===== the class's classes of parts, in its rows =====
def shI : Option Nat → Int32
  | none => -1
  | some s => nI s
def UV (m : qM) (T : Nat → Tm) (nd : Nat) (par : Nat → Nat) (shp : Nat → Option Nat) : Prop := ∀ n, n < nd → qI m 134 n = nI (par n) ∧ qI m 135 n = shI (shp n) ∧ ∀ l r, T n = .op l r → qI m 133 n = nI (n + 1 + tS l)
def dSo (a : Nat) : Prop := a = 132 ∨ a = 134 ∨ a = 135 ∨ a = 138 ∨ a = 139
abbrev xU (m : qM) : Prop := xsU (qK m) (qN m) (qR m)
theorem xU_of {D : Nat → Prop} {m m2 : qM} (h : xU m) (f : Fx D m m2) : xU m2 := by unfold xU; rw [f.1, f.2.1, f.2.2.1]; exact h
theorem c_head_stop {m : qM} {n hops f : Nat} (hU : xU m) (hn : n < 78) (h134 : qI m 134 n = nI n) (hh : hops ≤ 78) : lX8_headOf_4 NF 132 (f + 1) (nI n) (nI hops) m = some (nI n, m) := by
  obtain ⟨k132, r0, r1, r2, r3, r4, r5, r6, r7, r8, k133, n133, k134, n134, k135, n135, k136, n136, k137, n137, k138, n138, k139, n139, k140, n140, k141, n141, -⟩ := hU
  unfold lX8_headOf_4
  by_cases h78 : 78 ≤ hops
  · repeat (first | refine EgR (by first | with_reducible assumption | (simp only [qS]; with_reducible assumption)) (by first | with_reducible assumption | (simp only [qS]; with_reducible assumption)) ?_ | refine EgI (by first | with_reducible assumption | (simp only [qS]; with_reducible assumption)) (by first | with_reducible assumption | (simp only [qS, ↓reduceIte]; first | with_reducible assumption | assumption) | exact rfl) ?_ | refine EpI (by first | with_reducible assumption | (simp only [qS]; with_reducible assumption)) (by first | with_reducible exact nI_s _ | with_reducible exact nI_add _ _ | with_reducible exact nI_p (by omega) | with_reducible exact nI_m1 (by omega) | with_reducible exact nI_s2 _ | exact rfl) ?_ | refine EaI (by first | with_reducible assumption | (simp only [qS]; with_reducible assumption)) (by first | with_reducible exact nI_s _ | with_reducible exact nI_add _ _ | with_reducible exact nI_p (by omega) | with_reducible exact nI_m1 (by omega) | with_reducible exact nI_s2 _ | exact rfl) (by first | assumption | omega | (simp only [qS]; omega)) (by omega) (by first | with_reducible assumption | (simp only [qS, ↓reduceIte]; first | with_reducible assumption | assumption) | exact rfl) ?_ | refine EwI (by first | with_reducible assumption | (simp only [qS]; with_reducible assumption)) (by first | with_reducible exact nI_s _ | with_reducible exact nI_add _ _ | with_reducible exact nI_p (by omega) | with_reducible exact nI_m1 (by omega) | with_reducible exact nI_s2 _ | exact rfl) (by first | assumption | omega | (simp only [qS]; omega)) (by omega) (by first | with_reducible exact nI_s _ | with_reducible exact nI_add _ _ | with_reducible exact nI_p (by omega) | with_reducible exact nI_m1 (by omega) | with_reducible exact nI_s2 _ | exact rfl) ?_ | refine EaR (by first | with_reducible assumption | (simp only [qS]; with_reducible assumption)) (by first | with_reducible exact nI_s _ | with_reducible exact nI_add _ _ | with_reducible exact nI_p (by omega) | with_reducible exact nI_m1 (by omega) | with_reducible exact nI_s2 _ | exact rfl) (by first | assumption | omega | (simp only [qS]; omega)) (by omega) (by first | with_reducible assumption | (simp only [qS]; with_reducible assumption)) ?_ | (refine EC (by first | with_reducible assumption | (simp only [qS]; with_reducible assumption)) (by first | with_reducible assumption | (simp only [qS]; with_reducible assumption)) ?_; try dsimp only) | (refine EB (by first | with_reducible assumption | (simp only [qS]; with_reducible assumption)) ?_; try dsimp only) | refine EIp (by first | with_reducible assumption | with_reducible rfl | decide | with_reducible exact nI_ng (by omega) | (simp (disch := omega) only [lits, nA]; omega)) ?_ | refine EIn (by first | with_reducible assumption | with_reducible rfl | decide | with_reducible exact nI_ng (by omega) | (simp (disch := omega) only [lits, nA]; omega)) ?_)
    rfl
  · have c1 : ¬ (78 : Int32) ≤ nI hops := fun e => h78 ((nI_leI (a := 78) (by omega) (by omega)).mp e)
    repeat (first | refine EgR (by first | with_reducible assumption | (simp only [qS]; with_reducible assumption)) (by first | with_reducible assumption | (simp only [qS]; with_reducible assumption)) ?_ | refine EgI (by first | with_reducible assumption | (simp only [qS]; with_reducible assumption)) (by first | with_reducible assumption | (simp only [qS, ↓reduceIte]; first | with_reducible assumption | assumption) | exact rfl) ?_ | refine EpI (by first | with_reducible assumption | (simp only [qS]; with_reducible assumption)) (by first | with_reducible exact nI_s _ | with_reducible exact nI_add _ _ | with_reducible exact nI_p (by omega) | with_reducible exact nI_m1 (by omega) | with_reducible exact nI_s2 _ | exact rfl) ?_ | refine EaI (by first | with_reducible assumption | (simp only [qS]; with_reducible assumption)) (by first | with_reducible exact nI_s _ | with_reducible exact nI_add _ _ | with_reducible exact nI_p (by omega) | with_reducible exact nI_m1 (by omega) | with_reducible exact nI_s2 _ | exact rfl) (by first | assumption | omega | (simp only [qS]; omega)) (by omega) (by first | with_reducible assumption | (simp only [qS, ↓reduceIte]; first | with_reducible assumption | assumption) | exact rfl) ?_ | refine EwI (by first | with_reducible assumption | (simp only [qS]; with_reducible assumption)) (by first | with_reducible exact nI_s _ | with_reducible exact nI_add _ _ | with_reducible exact nI_p (by omega) | with_reducible exact nI_m1 (by omega) | with_reducible exact nI_s2 _ | exact rfl) (by first | assumption | omega | (simp only [qS]; omega)) (by omega) (by first | with_reducible exact nI_s _ | with_reducible exact nI_add _ _ | with_reducible exact nI_p (by omega) | with_reducible exact nI_m1 (by omega) | with_reducible exact nI_s2 _ | exact rfl) ?_ | refine EaR (by first | with_reducible assumption | (simp only [qS]; with_reducible assumption)) (by first | with_reducible exact nI_s _ | with_reducible exact nI_add _ _ | with_reducible exact nI_p (by omega) | with_reducible exact nI_m1 (by omega) | with_reducible exact nI_s2 _ | exact rfl) (by first | assumption | omega | (simp only [qS]; omega)) (by omega) (by first | with_reducible assumption | (simp only [qS]; with_reducible assumption)) ?_ | (refine EC (by first | with_reducible assumption | (simp only [qS]; with_reducible assumption)) (by first | with_reducible assumption | (simp only [qS]; with_reducible assumption)) ?_; try dsimp only) | (refine EB (by first | with_reducible assumption | (simp only [qS]; with_reducible assumption)) ?_; try dsimp only) | refine EIp (by first | with_reducible assumption | with_reducible rfl | decide | with_reducible exact nI_ng (by omega) | (simp (disch := omega) only [lits, nA]; omega)) ?_ | refine EIn (by first | with_reducible assumption | with_reducible rfl | decide | with_reducible exact nI_ng (by omega) | (simp (disch := omega) only [lits, nA]; omega)) ?_)
    rfl
theorem c_head_loop {m : qM} {T : Nat → Tm} {nd : Nat} {par hd h : Nat → Nat} {shp : Nat → Option Nat} (hU : xU m) (hV : UV m T nd par shp) (hP : PH nd par hd h) (hnd : nd ≤ 78) : ∀ (k n hops f : Nat), n < nd → h n ≤ k → h n + hops ≤ 78 → k < f → lX8_headOf_4 NF 132 f (nI n) (nI hops) m = some (nI (hd n), m) := by
  intro k
  induction k with
  | zero =>
    intro n hops f hn hk hh hf
    obtain ⟨f, rfl⟩ : ∃ g, f = g + 1 := ⟨f - 1, by omega⟩
    obtain ⟨h1, h2, h3, h4, h5, h6, h7⟩ := hP n hn
    have e : par n = n := Classical.byContradiction (fun e => by have := h7 e; omega)
    rw [(h6 e).1]
    exact c_head_stop hU (by omega) (by rw [(hV n hn).1, e]) (by omega)
  | succ k ih =>
    intro n hops f hn hk hh hf
    obtain ⟨f, rfl⟩ : ∃ g, f = g + 1 := ⟨f - 1, by omega⟩
    obtain ⟨h1, h2, h3, h4, h5, h6, h7⟩ := hP n hn
    by_cases e : par n = n
    · rw [(h6 e).1]
      exact c_head_stop hU (by omega) (by rw [(hV n hn).1, e]) (by omega)
    · have h8 := h7 e
      have h9 := ih (par n) (hops + 1) f h1 (by omega) (by omega) (by omega)
      rw [h5] at h9
      have v1 := (hV n hn).1
      have c1 : ¬ (78 : Int32) ≤ nI hops := fun q => by have := (nI_leI (a := 78) (by omega) (by omega)).mp q; omega
      have c2 : ¬ nI (par n) = nI n := fun q => e ((nI_eq (by omega) (by omega)).mp q)
      obtain ⟨k132, r0, r1, r2, r3, r4, r5, r6, r7, r8, k133, n133, k134, n134, k135, n135, k136, n136, k137, n137, k138, n138, k139, n139, k140, n140, k141, n141, -⟩ := hU
      conv => lhs; unfold lX8_headOf_4
      generalize hR : lX8_headOf_4 NF 132 f = R at h9 ⊢
      repeat (first | refine EgR (by first | with_reducible assumption | (simp only [qS]; with_reducible assumption)) (by first | with_reducible assumption | (simp only [qS]; with_reducible assumption)) ?_ | refine EgI (by first | with_reducible assumption | (simp only [qS]; with_reducible assumption)) (by first | with_reducible assumption | (simp only [qS, ↓reduceIte]; first | with_reducible assumption | assumption) | exact rfl) ?_ | refine EpI (by first | with_reducible assumption | (simp only [qS]; with_reducible assumption)) (by first | with_reducible exact nI_s _ | with_reducible exact nI_add _ _ | with_reducible exact nI_p (by omega) | with_reducible exact nI_m1 (by omega) | with_reducible exact nI_s2 _ | exact rfl) ?_ | refine EaI (by first | with_reducible assumption | (simp only [qS]; with_reducible assumption)) (by first | with_reducible exact nI_s _ | with_reducible exact nI_add _ _ | with_reducible exact nI_p (by omega) | with_reducible exact nI_m1 (by omega) | with_reducible exact nI_s2 _ | exact rfl) (by first | assumption | omega | (simp only [qS]; omega)) (by omega) (by first | with_reducible assumption | (simp only [qS, ↓reduceIte]; first | with_reducible assumption | assumption) | exact rfl) ?_ | refine EwI (by first | with_reducible assumption | (simp only [qS]; with_reducible assumption)) (by first | with_reducible exact nI_s _ | with_reducible exact nI_add _ _ | with_reducible exact nI_p (by omega) | with_reducible exact nI_m1 (by omega) | with_reducible exact nI_s2 _ | exact rfl) (by first | assumption | omega | (simp only [qS]; omega)) (by omega) (by first | with_reducible exact nI_s _ | with_reducible exact nI_add _ _ | with_reducible exact nI_p (by omega) | with_reducible exact nI_m1 (by omega) | with_reducible exact nI_s2 _ | exact rfl) ?_ | refine EaR (by first | with_reducible assumption | (simp only [qS]; with_reducible assumption)) (by first | with_reducible exact nI_s _ | with_reducible exact nI_add _ _ | with_reducible exact nI_p (by omega) | with_reducible exact nI_m1 (by omega) | with_reducible exact nI_s2 _ | exact rfl) (by first | assumption | omega | (simp only [qS]; omega)) (by omega) (by first | with_reducible assumption | (simp only [qS]; with_reducible assumption)) ?_ | (refine EC (by first | with_reducible assumption | (simp only [qS]; with_reducible assumption)) (by first | with_reducible assumption | (simp only [qS]; with_reducible assumption)) ?_; try dsimp only) | (refine EB (by first | with_reducible assumption | (simp only [qS]; with_reducible assumption)) ?_; try dsimp only) | refine EIp (by first | with_reducible assumption | with_reducible rfl | decide | with_reducible exact nI_ng (by omega) | (simp (disch := omega) only [lits, nA]; omega)) ?_ | refine EIn (by first | with_reducible assumption | with_reducible rfl | decide | with_reducible exact nI_ng (by omega) | (simp (disch := omega) only [lits, nA]; omega)) ?_)
      rw [nI_s]
      exact h9
theorem c_headOf {m : qM} {T : Nat → Tm} {nd n : Nat} {par hd h : Nat → Nat} {shp : Nat → Option Nat} (hU : xU m) (hV : UV m T nd par shp) (hP : PH nd par hd h) (hnd : nd ≤ 78) (hn : n < nd) (hh : h n ≤ 78) : fX8_headOf NF 132 (nI n) m = some (nI (hd n), m) := by
  have h1 := c_head_loop hU hV hP hnd 78 n 0 NF hn (by omega) (by omega) (by unfold NF; omega)
  unfold fX8_headOf
  refine EB h1 ?_
  rfl
def eqM (m : qM) (q : Nat) (x y : Int32) : qM := qsI (qsI (qsI m 138 q x) 139 q y) 132 10 (nI (q + 1))
theorem c_enq {m : qM} {q : Nat} {x y : Int32} (hU : xU m) (hq : qI m 132 10 = nI q) (hl : q < 156) : fX8_enqueue NF 132 x y m = some (eqM m q x y) := by
  obtain ⟨k132, r0, r1, r2, r3, r4, r5, r6, r7, r8, k133, n133, k134, n134, k135, n135, k136, n136, k137, n137, k138, n138, k139, n139, k140, n140, k141, n141, -⟩ := hU
  have c1 : ¬ (156 : Int32) ≤ nI q := fun e => by have := (nI_leI (a := 156) (by omega) (by omega)).mp e; omega
  unfold fX8_enqueue eqM
  repeat (first | refine EgR (by first | with_reducible assumption | (simp only [qS]; with_reducible assumption)) (by first | with_reducible assumption | (simp only [qS]; with_reducible assumption)) ?_ | refine EgI (by first | with_reducible assumption | (simp only [qS]; with_reducible assumption)) (by first | with_reducible assumption | (simp only [qS, ↓reduceIte]; first | with_reducible assumption | assumption) | exact rfl) ?_ | refine EpI (by first | with_reducible assumption | (simp only [qS]; with_reducible assumption)) (by first | with_reducible exact nI_s _ | with_reducible exact nI_add _ _ | with_reducible exact nI_p (by omega) | with_reducible exact nI_m1 (by omega) | with_reducible exact nI_s2 _ | exact rfl) ?_ | refine EaI (by first | with_reducible assumption | (simp only [qS]; with_reducible assumption)) (by first | with_reducible exact nI_s _ | with_reducible exact nI_add _ _ | with_reducible exact nI_p (by omega) | with_reducible exact nI_m1 (by omega) | with_reducible exact nI_s2 _ | exact rfl) (by first | assumption | omega | (simp only [qS]; omega)) (by omega) (by first | with_reducible assumption | (simp only [qS, ↓reduceIte]; first | with_reducible assumption | assumption) | exact rfl) ?_ | refine EwI (by first | with_reducible assumption | (simp only [qS]; with_reducible assumption)) (by first | with_reducible exact nI_s _ | with_reducible exact nI_add _ _ | with_reducible exact nI_p (by omega) | with_reducible exact nI_m1 (by omega) | with_reducible exact nI_s2 _ | exact rfl) (by first | assumption | omega | (simp only [qS]; omega)) (by omega) (by first | with_reducible exact nI_s _ | with_reducible exact nI_add _ _ | with_reducible exact nI_p (by omega) | with_reducible exact nI_m1 (by omega) | with_reducible exact nI_s2 _ | exact rfl) ?_ | refine EaR (by first | with_reducible assumption | (simp only [qS]; with_reducible assumption)) (by first | with_reducible exact nI_s _ | with_reducible exact nI_add _ _ | with_reducible exact nI_p (by omega) | with_reducible exact nI_m1 (by omega) | with_reducible exact nI_s2 _ | exact rfl) (by first | assumption | omega | (simp only [qS]; omega)) (by omega) (by first | with_reducible assumption | (simp only [qS]; with_reducible assumption)) ?_ | (refine EC (by first | with_reducible assumption | (simp only [qS]; with_reducible assumption)) (by first | with_reducible assumption | (simp only [qS]; with_reducible assumption)) ?_; try dsimp only) | (refine EB (by first | with_reducible assumption | (simp only [qS]; with_reducible assumption)) ?_; try dsimp only) | refine EIp (by first | with_reducible assumption | with_reducible rfl | decide | with_reducible exact nI_ng (by omega) | (simp (disch := omega) only [lits, nA]; omega)) ?_ | refine EIn (by first | with_reducible assumption | with_reducible rfl | decide | with_reducible exact nI_ng (by omega) | (simp (disch := omega) only [lits, nA]; omega)) ?_)
  rfl
theorem c_merge {m : qM} {T : Nat → Tm} {nd a b k : Nat} {par hd h : Nat → Nat} {shp : Nat → Option Nat} (hU : xU m) (hV : UV m T nd par shp) (hF : UF T nd par hd h shp) (hnd : nd ≤ 78) (ha : a < nd) (hb : b < nd) (pa : par a = a) (pb : par b = b) (hab : a ≠ b) (hq : qI m 132 10 = nI k) (hk : k + 2 ≤ 156) :
    ∃ m2 k2, fX8_merge NF 132 (nI a) (nI b) m = some m2 ∧ Fx dSo m m2 ∧ UV m2 T nd (updN par b a) (shp2 shp a b) ∧ qI m2 132 10 = nI k2 ∧ qI m2 132 9 = qI m 132 9 ∧ (∀ j, j < k → qI m2 138 j = qI m 138 j ∧ qI m2 139 j = qI m 139 j) ∧ ((k2 = k ∧ (shp a = none ∨ shp b = none)) ∨ (k2 = k + 2 ∧ ∃ s1 s2, shp a = some s1 ∧ shp b = some s2 ∧ qI m2 138 k = nI (s1 + 1) ∧ qI m2 139 k = nI (s2 + 1) ∧ ∀ l1 r1 l2 r2, T s1 = .op l1 r1 → T s2 = .op l2 r2 → qI m2 138 (k + 1) = nI (s1 + 1 + tS l1) ∧ qI m2 139 (k + 1) = nI (s2 + 1 + tS l2))) := by
  obtain ⟨va1, va2, va3⟩ := hV a ha
  obtain ⟨vb1, vb2, vb3⟩ := hV b hb
  have hba : ¬ b = a := fun e => hab e.symm
  have hU0 := hU
  obtain ⟨k132, r0, r1, r2, r3, r4, r5, r6, r7, r8, k133, n133, k134, n134, k135, n135, k136, n136, k137, n137, k138, n138, k139, n139, k140, n140, k141, n141, -⟩ := hU
  have cab : ¬ nI a = nI b := fun q => hab ((nI_eq (by omega) (by omega)).mp q)
  have hUp : ∀ (m2 : qM), (∀ n, qI m2 134 n = if n = b then nI a else qI m 134 n) → (∀ n, qI m2 135 n = if n = a then shI (shp2 shp a b a) else qI m 135 n) → (∀ n, qI m2 133 n = qI m 133 n) → UV m2 T nd (updN par b a) (shp2 shp a b) := by
    intro m2 e1 e2 e3 n hn
    obtain ⟨v1, v2, v3⟩ := hV n hn
    refine ⟨?_, ?_, fun l r ht => by rw [e3]; exact v3 l r ht⟩
    · rw [e1]
      by_cases e : n = b
      · simp only [e, updN, ↓reduceIte]
      · simp only [e, updN, ↓reduceIte, v1]
    · rw [e2]
      by_cases e : n = a
      · rw [if_pos e, e]
      · rw [if_neg e, v2]
        simp only [shp2, e, ↓reduceIte]
  unfold fX8_merge
  cases hsa : shp a with
  | none =>
    rw [hsa] at va2
    have va2' : qI m 135 a = -1 := va2
    refine ⟨qsI (qsI m 134 b (nI a)) 135 a (shI (shp b)), k, ?_, (Fx.rf.sI (by simp [dSo])).sI (by simp [dSo]), ?_, by simp only [qS]; exact hq, by simp only [qS]; rfl, fun j _ => ⟨rfl, rfl⟩, Or.inl ⟨rfl, Or.inl rfl⟩⟩
    · repeat (first | refine EgR (by first | with_reducible assumption | (simp only [qS]; with_reducible assumption)) (by first | with_reducible assumption | (simp only [qS]; with_reducible assumption)) ?_ | refine EgI (by first | with_reducible assumption | (simp only [qS]; with_reducible assumption)) (by first | with_reducible assumption | (simp only [qS, ↓reduceIte]; first | with_reducible assumption | assumption) | exact rfl) ?_ | refine EpI (by first | with_reducible assumption | (simp only [qS]; with_reducible assumption)) (by first | with_reducible exact nI_s _ | with_reducible exact nI_add _ _ | with_reducible exact nI_p (by omega) | with_reducible exact nI_m1 (by omega) | with_reducible exact nI_s2 _ | exact rfl) ?_ | refine EaI (by first | with_reducible assumption | (simp only [qS]; with_reducible assumption)) (by first | with_reducible exact nI_s _ | with_reducible exact nI_add _ _ | with_reducible exact nI_p (by omega) | with_reducible exact nI_m1 (by omega) | with_reducible exact nI_s2 _ | exact rfl) (by first | assumption | omega | (simp only [qS]; omega)) (by omega) (by first | with_reducible assumption | (simp only [qS, ↓reduceIte]; first | with_reducible assumption | assumption) | exact rfl) ?_ | refine EwI (by first | with_reducible assumption | (simp only [qS]; with_reducible assumption)) (by first | with_reducible exact nI_s _ | with_reducible exact nI_add _ _ | with_reducible exact nI_p (by omega) | with_reducible exact nI_m1 (by omega) | with_reducible exact nI_s2 _ | exact rfl) (by first | assumption | omega | (simp only [qS]; omega)) (by omega) (by first | with_reducible exact nI_s _ | with_reducible exact nI_add _ _ | with_reducible exact nI_p (by omega) | with_reducible exact nI_m1 (by omega) | with_reducible exact nI_s2 _ | exact rfl) ?_ | refine EaR (by first | with_reducible assumption | (simp only [qS]; with_reducible assumption)) (by first | with_reducible exact nI_s _ | with_reducible exact nI_add _ _ | with_reducible exact nI_p (by omega) | with_reducible exact nI_m1 (by omega) | with_reducible exact nI_s2 _ | exact rfl) (by first | assumption | omega | (simp only [qS]; omega)) (by omega) (by first | with_reducible assumption | (simp only [qS]; with_reducible assumption)) ?_ | (refine EC (by first | with_reducible assumption | (simp only [qS]; with_reducible assumption)) (by first | with_reducible assumption | (simp only [qS]; with_reducible assumption)) ?_; try dsimp only) | (refine EB (by first | with_reducible assumption | (simp only [qS]; with_reducible assumption)) ?_; try dsimp only) | refine EIp (by first | with_reducible assumption | with_reducible rfl | decide | with_reducible exact nI_ng (by omega) | (simp (disch := omega) only [lits, nA]; omega)) ?_ | refine EIn (by first | with_reducible assumption | with_reducible rfl | decide | with_reducible exact nI_ng (by omega) | (simp (disch := omega) only [lits, nA]; omega)) ?_)
      rfl
    · apply hUp
      · intro n; simp only [qS]; rfl
      · intro n
        simp only [qS, ↓reduceIte]
        by_cases e : n = a
        · rw [if_pos e, if_pos e]; simp [shp2, hsa]
        · rw [if_neg e, if_neg e]; rfl
      · intro n; rfl
  | some s1 =>
    rw [hsa] at va2
    have va2' : qI m 135 a = nI s1 := va2
    obtain ⟨q1, q2, l1, r1', q3⟩ := hF.2.2.2.1 a s1 ha pa hsa
    have cs1 : ¬ nI s1 = -1 := nI_ng (by omega)
    have hs2 : shp2 shp a b a = some s1 := by simp [shp2, hsa]
    cases hsb : shp b with
    | none =>
      rw [hsb] at vb2
      have vb2' : qI m 135 b = -1 := vb2
      refine ⟨qsI m 134 b (nI a), k, ?_, Fx.rf.sI (by simp [dSo]), ?_, by simp only [qS]; exact hq, by simp only [qS]; rfl, fun j _ => ⟨rfl, rfl⟩, Or.inl ⟨rfl, Or.inr rfl⟩⟩
      · repeat (first | refine EgR (by first | with_reducible assumption | (simp only [qS]; with_reducible assumption)) (by first | with_reducible assumption | (simp only [qS]; with_reducible assumption)) ?_ | refine EgI (by first | with_reducible assumption | (simp only [qS]; with_reducible assumption)) (by first | with_reducible assumption | (simp only [qS, ↓reduceIte]; first | with_reducible assumption | assumption) | exact rfl) ?_ | refine EpI (by first | with_reducible assumption | (simp only [qS]; with_reducible assumption)) (by first | with_reducible exact nI_s _ | with_reducible exact nI_add _ _ | with_reducible exact nI_p (by omega) | with_reducible exact nI_m1 (by omega) | with_reducible exact nI_s2 _ | exact rfl) ?_ | refine EaI (by first | with_reducible assumption | (simp only [qS]; with_reducible assumption)) (by first | with_reducible exact nI_s _ | with_reducible exact nI_add _ _ | with_reducible exact nI_p (by omega) | with_reducible exact nI_m1 (by omega) | with_reducible exact nI_s2 _ | exact rfl) (by first | assumption | omega | (simp only [qS]; omega)) (by omega) (by first | with_reducible assumption | (simp only [qS, ↓reduceIte]; first | with_reducible assumption | assumption) | exact rfl) ?_ | refine EwI (by first | with_reducible assumption | (simp only [qS]; with_reducible assumption)) (by first | with_reducible exact nI_s _ | with_reducible exact nI_add _ _ | with_reducible exact nI_p (by omega) | with_reducible exact nI_m1 (by omega) | with_reducible exact nI_s2 _ | exact rfl) (by first | assumption | omega | (simp only [qS]; omega)) (by omega) (by first | with_reducible exact nI_s _ | with_reducible exact nI_add _ _ | with_reducible exact nI_p (by omega) | with_reducible exact nI_m1 (by omega) | with_reducible exact nI_s2 _ | exact rfl) ?_ | refine EaR (by first | with_reducible assumption | (simp only [qS]; with_reducible assumption)) (by first | with_reducible exact nI_s _ | with_reducible exact nI_add _ _ | with_reducible exact nI_p (by omega) | with_reducible exact nI_m1 (by omega) | with_reducible exact nI_s2 _ | exact rfl) (by first | assumption | omega | (simp only [qS]; omega)) (by omega) (by first | with_reducible assumption | (simp only [qS]; with_reducible assumption)) ?_ | (refine EC (by first | with_reducible assumption | (simp only [qS]; with_reducible assumption)) (by first | with_reducible assumption | (simp only [qS]; with_reducible assumption)) ?_; try dsimp only) | (refine EB (by first | with_reducible assumption | (simp only [qS]; with_reducible assumption)) ?_; try dsimp only) | refine EIp (by first | with_reducible assumption | with_reducible rfl | decide | with_reducible exact nI_ng (by omega) | (simp (disch := omega) only [lits, nA]; omega)) ?_ | refine EIn (by first | with_reducible assumption | with_reducible rfl | decide | with_reducible exact nI_ng (by omega) | (simp (disch := omega) only [lits, nA]; omega)) ?_)
        rfl
      · apply hUp
        · intro n; simp only [qS]; rfl
        · intro n
          simp only [qS]
          by_cases e : n = a
          · rw [if_pos e, hs2, e]; exact va2'
          · rw [if_neg e]; rfl
        · intro n; rfl
    | some s2 =>
      rw [hsb] at vb2
      have vb2' : qI m 135 b = nI s2 := vb2
      obtain ⟨q4, q5, l2, r2', q6⟩ := hF.2.2.2.1 b s2 hb pb hsb
      have cs2 : ¬ nI s2 = -1 := nI_ng (by omega)
      let m1 : qM := qsI m 134 b (nI a)
      have hU1 : xU m1 := hU0
      have hq1 : qI m1 132 10 = nI k := hq
      have e1 := c_enq (m := m1) (q := k) (x := nI (s1 + 1)) (y := nI (s2 + 1)) hU1 hq1 (by omega)
      let m2 : qM := eqM m1 k (nI (s1 + 1)) (nI (s2 + 1))
      have hU2 : xU m2 := hU0
      have hq2 : qI m2 132 10 = nI (k + 1) := by simp [m2, eqM, qS]
      have e2 := c_enq (m := m2) (q := k + 1) (x := nI (s1 + 1 + tS l1)) (y := nI (s2 + 1 + tS l2)) hU2 hq2 (by omega)
      have w1 : qI m2 133 s1 = nI (s1 + 1 + tS l1) := (hV s1 q1).2.2 l1 r1' q3
      have w2 : qI m2 133 s2 = nI (s2 + 1 + tS l2) := (hV s2 q4).2.2 l2 r2' q6
      refine ⟨eqM m2 (k + 1) (nI (s1 + 1 + tS l1)) (nI (s2 + 1 + tS l2)), k + 2, ?_, ?_, ?_, ?_, ?_, ?_, Or.inr ⟨rfl, s1, s2, rfl, rfl, ?_, ?_, ?_⟩⟩
      · have g1 : qI m1 135 a = nI s1 := va2'
        have g2 : qI m1 135 b = nI s2 := vb2'
        have g3 : qR m2 132 0 = some 133 := r0
        have g4 : qK m2 132 = 8 := k132
        have g5 : qK m2 133 = 12 := k133
        have g6 : s1 < qN m2 133 := by show s1 < qN m 133; omega
        have g7 : s2 < qN m2 133 := by show s2 < qN m 133; omega
        refine EIn cab ?_
        refine EgR k132 r1 ?_
        refine EwI k134 rfl (by omega) (by omega) rfl ?_
        show (qgR m1 132 8 2).bind _ = _
        refine EgR k132 r2 ?_
        refine EaI k135 rfl (show a < qN m 135 by omega) (by omega) g1 ?_
        refine EgR k132 r2 ?_
        refine EaI k135 rfl (show b < qN m 135 by omega) (by omega) g2 ?_
        refine EIn cs1 ?_
        refine EIn cs2 ?_
        rw [nI_s, nI_s]
        refine EC k132 e1 ?_
        refine EgR g4 g3 ?_
        refine EaI g5 rfl g6 (by omega) w1 ?_
        refine EgR g4 g3 ?_
        refine EaI g5 rfl g7 (by omega) w2 ?_
        refine EC g4 e2 ?_
        rfl
      · exact ((((((Fx.rf.sI (by simp [dSo])).sI (by simp [dSo])).sI (by simp [dSo])).sI (by simp [dSo])).sI (by simp [dSo])).sI (by simp [dSo])).sI (by simp [dSo])
      · apply hUp
        · intro n; simp [m2, m1, eqM, qS]
        · intro n
          simp only [m2, m1, eqM, qS]
          by_cases e : n = a
          · rw [if_pos e, hs2, e]; exact va2'
          · rw [if_neg e]; rfl
        · intro n; rfl
      · simp [eqM, qS]
      · simp [m2, m1, eqM, qS]
      · intro j hj
        have j1 : ¬ j = k := by omega
        have j2 : ¬ j = k + 1 := by omega
        simp [m2, m1, eqM, qS, j1, j2]
      · simp [m2, m1, eqM, qS]
      · simp [m2, m1, eqM, qS]
      · intro l1' r1'' l2' r2'' t1 t2
        rw [q3] at t1
        rw [q6] at t2
        injection t1 with t1 _
        injection t2 with t2 _
        subst t1 t2
        exact ⟨by simp [m2, m1, eqM, qS], by simp [m2, m1, eqM, qS]⟩
end
