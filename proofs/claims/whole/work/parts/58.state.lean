section
-- ===== what both sides hold =====
abbrev ST : Type := (List Nat × List Nat) × (Nat × (Nat → Tm) × (Nat → Option (Nat × Nat))) × ((Nat → Nat) × Nat) × (Nat → rowT)
def sTx (s : ST) : List Nat := s.1.1
def sOu (s : ST) : List Nat := s.1.2
def sN (s : ST) : Nat := s.2.1.1
def sFo (s : ST) : Nat → Tm := s.2.1.2.1
def sEn (s : ST) : Nat → Option (Nat × Nat) := s.2.1.2.2
def sTb (s : ST) : Nat → Nat := s.2.2.1.1
def sDe (s : ST) : Nat := s.2.2.1.2
def sRo (s : ST) : Nat → rowT := s.2.2.2
def wTx (s : ST) (x : List Nat) : ST := ((x, s.1.2), s.2)
def wOu (s : ST) (x : List Nat) : ST := ((s.1.1, x), s.2)
def wLs (s : ST) (n : Nat) (fo : Nat → Tm) (en : Nat → Option (Nat × Nat)) : ST := (s.1, (n, fo, en), s.2.2)
def wTb (s : ST) (x : Nat → Nat) : ST := (s.1, s.2.1, (x, s.2.2.1.2), s.2.2.2)
def wDe (s : ST) (x : Nat) : ST := (s.1, s.2.1, (s.2.2.1.1, x), s.2.2.2)
def wRo (s : ST) (x : Nat → rowT) : ST := (s.1, s.2.1, s.2.2.1, x)
def okS (s : ST) : Prop := okL (sN s) (sFo s) (sEn s) ∧ (∀ c, c ∈ sTx s → 33 ≤ c ∧ c ≤ 126) ∧ (sOu s).length ≤ 120 ∧ ∀ c, c ∈ sOu s → c < 128
def CP (m : qM) (s : ST) : Prop := XS (qK m) (qN m) (qR m) ∧ CTx (qI m) 1 (sTx s) ∧ (sTx s).length ≤ 80 ∧ CTx (qI m) 3 (sOu s) ∧ CLs (qI m) (qL m) (sN s) (sFo s) (sEn s) ∧ CMx (qI m) (sTb s) (sDe s) ∧ CRs (qI m) (sRo s)
def MOu (I : Nat → Nat → Int32) (ls : List Nat) : Prop := I 433 11 = nI ls.length ∧ ∀ i, i < ls.length → I 440 i = nI (ls.getD i 0)
def MP (m : qM) (s : ST) : Prop := MS (qK m) (qN m) (qR m) ∧ 459 ≤ qT m ∧ MTx (qI m) (sTx s) ∧ MOu (qI m) (sOu s) ∧ MLs (qI m) (sN s) (sFo s) (sEn s) ∧ MMx (qI m) (sTb s) (sDe s) ∧ MRs (qI m) (sRo s)
abbrev Gc : qM → qM → Prop := Fx (fun a => a < 433)
abbrev Gm : qM → qM → Prop := Fx (fun a => 433 ≤ a)
theorem CRs_of {I I2 : Nat → Nat → Int32} {ro : Nat → rowT} (h : CRs I ro) (e : ∀ a, 402 ≤ a → a < 408 → I2 a = I a) : CRs I2 ro := by
  intro j hj
  have := h j hj
  unfold CRw at this ⊢
  rw [e (402 + 2 * j) (by omega) (by omega), e (402 + 2 * j + 1) (by omega) (by omega)]
  exact this
theorem MRs_of {I I2 : Nat → Nat → Int32} {ro : Nat → rowT} (h : MRs I ro) (e : ∀ a, 443 ≤ a → a ≤ 445 → I2 a = I a) : MRs I2 ro := by
  intro j hj
  have := h j hj
  unfold MRw at this ⊢
  rw [e 443 (by omega) (by omega), e 444 (by omega) (by omega), e 445 (by omega) (by omega)]
  exact this
theorem CMx_of {I I2 : Nat → Nat → Int32} {tb : Nat → Nat} {de : Nat} (h : CMx I tb de) (e1 : I2 389 = I 389) (e2 : I2 390 = I 390) : CMx I2 tb de := by
  unfold CMx; rw [e1, e2]; exact h
theorem CLs_of {I I2 : Nat → Nat → Int32} {L L2 : Nat → Nat → Int64} {n : Nat} {fo : Nat → Tm} {en : Nat → Option (Nat × Nat)} (h : CLs I L n fo en) (hn : n ≤ 60) (e : ∀ a, 5 ≤ a → a < 132 → I2 a = I a ∧ L2 a = L a) : CLs I2 L2 n fo en := by
  unfold CLs
  rw [(e 5 (by omega) (by omega)).1, (e 7 (by omega) (by omega)).1, (e 8 (by omega) (by omega)).1, (e 9 (by omega) (by omega)).1, (e 10 (by omega) (by omega)).1, (e 11 (by omega) (by omega)).2]
  refine ⟨h.1, fun i hi => ?_⟩
  obtain ⟨h1, h2⟩ := h.2 i hi
  exact ⟨CFm_of h1 (e (12 + 2 * i) (by omega) (by omega)).1 (e (12 + 2 * i + 1) (by omega) (by omega)).1, h2⟩
theorem CP_of {m m2 : qM} {s : ST} (h : CP m s) (hn : sN s ≤ 60) (f : Gm m m2) : CP m2 s := by
  obtain ⟨h1, h2, h3, h4, h5, h6, h7⟩ := h
  have e : ∀ a, a < 433 → qI m2 a = qI m a := fun a ha => f.i (by omega)
  have el : ∀ a, a < 433 → qL m2 a = qL m a := fun a ha => f.l (by omega)
  refine ⟨f.X h1, CTx_of (e 1 (by omega)) (e 2 (by omega)) h2, h3, CTx_of (e 3 (by omega)) (e 4 (by omega)) h4, CLs_of h5 hn (fun a _ ha => ⟨e a (by omega), el a (by omega)⟩), CMx_of h6 (e 389 (by omega)) (e 390 (by omega)), CRs_of h7 (fun a _ ha => e a (by omega))⟩
theorem MLs_of {I I2 : Nat → Nat → Int32} {n : Nat} {fo : Nat → Tm} {en : Nat → Option (Nat × Nat)} (h : MLs I n fo en) (e : ∀ a, 434 ≤ a → a ≤ 437 → I2 a = I a) (e5 : I2 433 5 = I 433 5) : MLs I2 n fo en := by
  unfold MLs SlT Cd
  rw [e 434 (by omega) (by omega), e 435 (by omega) (by omega), e 436 (by omega) (by omega), e 437 (by omega) (by omega), e5]
  exact h
theorem MTx_of {I I2 : Nat → Nat → Int32} {ls : List Nat} (h : MTx I ls) (e1 : I2 433 7 = I 433 7) (e2 : I2 439 = I 439) : MTx I2 ls := by
  unfold MTx; rw [e1, e2]; exact h
theorem MOu_of {I I2 : Nat → Nat → Int32} {ls : List Nat} (h : MOu I ls) (e1 : I2 433 11 = I 433 11) (e2 : I2 440 = I 440) : MOu I2 ls := by
  unfold MOu; rw [e1, e2]; exact h
theorem MMx_of {I I2 : Nat → Nat → Int32} {tb : Nat → Nat} {de : Nat} (h : MMx I tb de) (e1 : I2 433 13 = I 433 13) (e2 : I2 441 = I 441) : MMx I2 tb de := by
  unfold MMx; rw [e1, e2]; exact h
theorem MP_of {m m2 : qM} {s : ST} (h : MP m s) (f : Gc m m2) : MP m2 s := by
  obtain ⟨h1, h2, h3, h4, h5, h6, h7⟩ := h
  have e : ∀ a, 433 ≤ a → qI m2 a = qI m a := fun a ha => f.i (by omega)
  refine ⟨f.M h1, by rw [f.2.2.2.1]; exact h2, MTx_of h3 (by rw [e 433 (by omega)]) (e 439 (by omega)), MOu_of h4 (by rw [e 433 (by omega)]) (e 440 (by omega)), MLs_of h5 (fun a ha _ => e a (by omega)) (by rw [e 433 (by omega)]), MMx_of h6 (by rw [e 433 (by omega)]) (e 441 (by omega)), MRs_of h7 (fun a ha _ => e a (by omega))⟩
/-- the reference's picture, where only other cells and fields changed -/
theorem MP_fx {D : Nat → Prop} {m m2 : qM} {s : ST} (h : MP m s) (f : Fx D m m2) (hD : ∀ a, D a → a = 433 ∨ (438 = a ∨ a = 442 ∨ 446 ≤ a)) (h5 : qI m2 433 5 = qI m 433 5) (h7 : qI m2 433 7 = qI m 433 7) (h11 : qI m2 433 11 = qI m 433 11) (h13 : qI m2 433 13 = qI m 433 13) : MP m2 s := by
  obtain ⟨q1, q2, q3, q4, q5, q6, q7⟩ := h
  have e : ∀ a, (433 < a ∧ a < 446 ∧ a ≠ 438 ∧ a ≠ 442) → qI m2 a = qI m a := fun a ha => f.i (fun z => by have := hD a z; omega)
  refine ⟨f.M q1, by rw [f.2.2.2.1]; exact q2, MTx_of q3 h7 (e 439 (by omega)), MOu_of q4 h11 (e 440 (by omega)), MLs_of q5 (fun a ha _ => e a (by omega)) h5, MMx_of q6 h13 (e 441 (by omega)), MRs_of q7 (fun a ha _ => e a (by omega))⟩
theorem CP_fx {D : Nat → Prop} {m m2 : qM} {s : ST} (h : CP m s) (hn : sN s ≤ 60) (f : Fx D m m2) (hD : ∀ a, D a → (132 ≤ a ∧ a ≤ 388) ∨ (391 ≤ a ∧ a ≤ 401) ∨ 408 ≤ a) : CP m2 s := by
  obtain ⟨h1, h2, h3, h4, h5, h6, h7⟩ := h
  have e : ∀ a, (a < 132 ∨ a = 389 ∨ a = 390 ∨ (402 ≤ a ∧ a < 408)) → qI m2 a = qI m a := fun a ha => f.i (fun z => by have := hD a z; omega)
  have el : ∀ a, a < 132 → qL m2 a = qL m a := fun a ha => f.l (fun z => by have := hD a z; omega)
  refine ⟨f.X h1, CTx_of (e 1 (by omega)) (e 2 (by omega)) h2, h3, CTx_of (e 3 (by omega)) (e 4 (by omega)) h4, CLs_of h5 hn (fun a _ ha => ⟨e a (by omega), el a (by omega)⟩), CMx_of h6 (e 389 (by omega)) (e 390 (by omega)), CRs_of h7 (fun a _ ha => e a (by omega))⟩
-- ===== an answer of a unification is a formula =====
theorem twoF {φ ψ : Tm} (h1 : tS φ ≤ 39) (h2 : tS ψ ≤ 39) : ∃ m, xU m ∧ FmS (qK m) (qN m) (qR m) 12 ∧ FmS (qK m) (qN m) (qR m) 14 ∧ FmS (qK m) (qN m) (qR m) 16 ∧ CFm (qI m) 12 φ ∧ CFm (qI m) 14 ψ := by
  obtain ⟨m0, hX⟩ : ∃ m0 : qM, XS (qK m0) (qN m0) (qR m0) := ⟨mS, XS_S⟩
  refine ⟨qsA (qsI (qsI (qsA (qsI (qsI m0 12 1 (nI (tS φ))) 12 2 (nI (nv φ))) 13 (fun i => cS ((pol φ).getD i 0))) 14 1 (nI (tS ψ))) 14 2 (nI (nv ψ))) 15 (fun i => cS ((pol ψ).getD i 0)), hX.un, (hX.lf (i := 0) (by omega)).1, (hX.lf (i := 1) (by omega)).1, (hX.lf (i := 2) (by omega)).1, ⟨by simp [qS], by simp [qS], h1, fun i _ => by simp [qS]⟩, ⟨by simp [qS], by simp [qS], h2, fun i _ => by simp [qS]⟩⟩
theorem dU_okF {φ ψ : Tm} (b1 : bel 12 φ) (b2 : bel 12 ψ) (h1 : tS φ ≤ 39) (h2 : tS ψ ≤ 39) (h : okU (dU φ ψ)) : okF (rt (dU φ ψ)) := by
  obtain ⟨m, q1, q2, q3, q4, q5, q6⟩ := twoF h1 h2
  obtain ⟨m2, -, -, e⟩ := c_detachInto (f3 := 16) q1 q2 q3 q4 (by omega) (by omega) (by omega) q5 q6 b1 b2
  exact (e h).2
theorem uU_okF {φ ψ : Tm} (b1 : bel 12 φ) (b2 : bel 12 ψ) (h1 : tS φ ≤ 39) (h2 : tS ψ ≤ 39) (h : okU (uU φ ψ)) : okF (rt (uU φ ψ)) := by
  obtain ⟨m, q1, q2, q3, q4, q5, q6⟩ := twoF h1 h2
  obtain ⟨m2, -, -, e⟩ := c_unifyInto (f3 := 16) q1 q2 q3 q4 (by omega) (by omega) (by omega) q5 q6 b1 b2
  exact (e h).2
theorem rc_ok {z : Option (Tm × Nat × Nat)} : rc z = 0 ↔ okU z := by
  cases z with
  | none =>
    constructor
    · intro h; exact absurd h (by decide)
    · rintro ⟨t, s, v, e, -⟩; cases e
  | some p =>
    obtain ⟨t, s, v⟩ := p
    by_cases h : s ≤ 39 ∧ v ≤ 12
    · exact ⟨fun _ => ⟨t, s, v, rfl, h⟩, fun _ => if_pos h⟩
    · constructor
      · intro q
        have : rc (some (t, s, v)) = -5 := if_neg h
        rw [this] at q
        exact absurd q (by decide)
      · rintro ⟨t', s', v', e, h'⟩
        injection e with e
        injection e with e1 e2
        injection e2 with e2 e3
        subst e2 e3
        exact absurd h' h
theorem rc_neg {z : Option (Tm × Nat × Nat)} (h : ¬ rc z = 0) : rc z < 0 := by
  cases z with
  | none => decide
  | some p =>
    obtain ⟨t, s, v⟩ := p
    by_cases h2 : s ≤ 39 ∧ v ≤ 12
    · exact absurd (if_pos h2) h
    · have : rc (some (t, s, v)) = -5 := if_neg h2
      rw [this]; decide
end
