section
-- ===== shortest: the pool =====
theorem ETl {α β γ : Type} {P : Option (β ⊕ γ)} {K : β → Option α} {w : γ → α} {b : β} {R : Option α} (h : P = some (.inl b)) (h2 : K b = R) : qTh P K w = R := by rw [h]; exact h2
theorem ETr {α β γ : Type} {P : Option (β ⊕ γ)} {K : β → Option α} {w : γ → α} {r : γ} {R : Option α} (h : P = some (.inr r)) (h2 : some (w r) = R) : qTh P K w = R := by rw [h]; exact h2
abbrev PL : Type := Nat × (Nat → Tm) × (Nat → Nat)
def known (P : PL) (t : Tm) : Bool := decide (fstF (fun i => sameT (P.2.1 i) t) P.1 0 < P.1)
def plAdd (k : Nat) (P : PL) (t : Tm) : PL := (P.1 + 1, setN P.2.1 P.1 t, setN P.2.2 P.1 k)
noncomputable def stp (k : Nat) (P : PL) (x y : Nat) : Option PL := if rc (dU (P.2.1 x) (P.2.1 y)) = 0 then (if known P (rt (dU (P.2.1 x) (P.2.1 y))) = true then some P else if P.1 = 120 then none else some (plAdd k P (rt (dU (P.2.1 x) (P.2.1 y))))) else some P
noncomputable def inG (k : Nat) (f : Nat → Nat → Bool) (x : Nat) : Nat → Nat → PL → Option PL
  | 0, _, P => some P
  | r + 1, y, P => if f x y = true then (stp k P x y).bind (inG k f x r (y + 1)) else inG k f x r (y + 1) P
noncomputable def ouG (k : Nat) (f : Nat → Nat → Bool) (was : Nat) : Nat → Nat → PL → Option PL
  | 0, _, P => some P
  | r + 1, x, P => (inG k f x was 0 P).bind (ouG k f was r (x + 1))
theorem inG_s {k : Nat} {f : Nat → Nat → Bool} {x r y : Nat} {P : PL} : inG k f x (r + 1) y P = if f x y = true then (stp k P x y).bind (inG k f x r (y + 1)) else inG k f x r (y + 1) P := rfl
theorem ouG_s {k : Nat} {f : Nat → Nat → Bool} {was r x : Nat} {P : PL} : ouG k f was (r + 1) x P = (inG k f x was 0 P).bind (ouG k f was r (x + 1)) := rfl
def okQ (P : PL) : Prop := P.1 ≤ 120 ∧ ∀ z, z < P.1 → okF (P.2.1 z)
def exP (k : Nat) (P P2 : PL) : Prop := P.1 ≤ P2.1 ∧ (∀ z, z < P.1 → P2.2.1 z = P.2.1 z ∧ P2.2.2 z = P.2.2 z) ∧ ∀ z, P.1 ≤ z → z < P2.1 → P2.2.2 z = k
theorem exP.rf {k : Nat} {P : PL} : exP k P P := ⟨Nat.le_refl _, fun z _ => ⟨rfl, rfl⟩, fun z h1 h2 => absurd h2 (by omega)⟩
theorem exP.tr {k : Nat} {P P2 P3 : PL} (h : exP k P P2) (h2 : exP k P2 P3) : exP k P P3 := by
  obtain ⟨a1, a2, a3⟩ := h
  obtain ⟨b1, b2, b3⟩ := h2
  refine ⟨Nat.le_trans a1 b1, fun z hz => ⟨(b2 z (by omega)).1.trans (a2 z hz).1, (b2 z (by omega)).2.trans (a2 z hz).2⟩, fun z h1 h2 => ?_⟩
  by_cases e : z < P2.1
  · exact (b2 z e).2.trans (a3 z h1 e)
  · exact b3 z (by omega) h2
theorem plAdd_ok {k : Nat} {P : PL} {t : Tm} (h : okQ P) (hl : P.1 < 120) (ht : okF t) : okQ (plAdd k P t) ∧ exP k P (plAdd k P t) := by
  refine ⟨⟨by show P.1 + 1 ≤ 120; omega, fun z hz => ?_⟩, by show P.1 ≤ P.1 + 1; omega, fun z hz => ⟨setN_ne (by omega), setN_ne (by omega)⟩, fun z h1 h2 => ?_⟩
  · have hz' : z < P.1 + 1 := hz
    show okF (setN P.2.1 P.1 t z)
    by_cases e : z = P.1
    · rw [e, setN_eq]; exact ht
    · rw [setN_ne e]; exact h.2 z (by omega)
  · have h2' : z < P.1 + 1 := h2
    have : z = P.1 := by omega
    rw [this]
    exact setN_eq
theorem rt_okP {P : PL} {x y : Nat} (h : okQ P) (hx : x < P.1) (hy : y < P.1) (e : rc (dU (P.2.1 x) (P.2.1 y)) = 0) : okF (rt (dU (P.2.1 x) (P.2.1 y))) := dU_okF (h.2 x hx).1 (h.2 y hy).1 (h.2 x hx).2.1 (h.2 y hy).2.1 (rc_ok.mp e)
theorem inG_skip {k : Nat} {f : Nat → Nat → Bool} {x : Nat} {P : PL} : ∀ (r y : Nat), (∀ z, y ≤ z → z < y + r → f x z = false) → inG k f x r y P = some P := by
  intro r
  induction r with
  | zero => intro y _; rfl
  | succ r ih =>
    intro y h
    rw [inG_s, if_neg (by rw [h y (Nat.le_refl _) (by omega)]; decide)]
    exact ih (y + 1) (fun z h1 h2 => h z (by omega) (by omega))
theorem inG_add {k : Nat} {f : Nat → Nat → Bool} {x b : Nat} : ∀ (a y : Nat) (P : PL), inG k f x (a + b) y P = (inG k f x a y P).bind (inG k f x b (y + a)) := by
  intro a
  induction a with
  | zero => intro y P; rw [Nat.zero_add]; rfl
  | succ a ih =>
    intro y P
    rw [show a + 1 + b = (a + b) + 1 by omega, inG_s, inG_s, show y + (a + 1) = y + 1 + a by omega]
    by_cases e : f x y = true
    · rw [if_pos e, if_pos e]
      cases hs : stp k P x y with
      | none => rfl
      | some P2 => exact ih (y + 1) P2
    · rw [if_neg e, if_neg e]
      exact ih (y + 1) P
theorem inG_congr {k : Nat} {f g : Nat → Nat → Bool} {x : Nat} : ∀ (r y : Nat) (P : PL), (∀ z, y ≤ z → z < y + r → f x z = g x z) → inG k f x r y P = inG k g x r y P := by
  intro r
  induction r with
  | zero => intro y P _; rfl
  | succ r ih =>
    intro y P h
    rw [inG_s, inG_s, h y (Nat.le_refl _) (by omega)]
    by_cases e : g x y = true
    · rw [if_pos e, if_pos e]
      cases hs : stp k P x y with
      | none => rfl
      | some P2 => exact ih (y + 1) P2 (fun z h1 h2 => h z (by omega) (by omega))
    · rw [if_neg e, if_neg e]
      exact ih (y + 1) P (fun z h1 h2 => h z (by omega) (by omega))
theorem ouG_add {k : Nat} {f : Nat → Nat → Bool} {was b : Nat} : ∀ (a x : Nat) (P : PL), ouG k f was (a + b) x P = (ouG k f was a x P).bind (ouG k f was b (x + a)) := by
  intro a
  induction a with
  | zero => intro x P; rw [Nat.zero_add]; rfl
  | succ a ih =>
    intro x P
    rw [show a + 1 + b = (a + b) + 1 by omega, ouG_s, ouG_s, show x + (a + 1) = x + 1 + a by omega]
    cases hs : inG k f x was 0 P with
    | none => rfl
    | some P2 => exact ih (x + 1) P2
def ttG (_ _ : Nat) : Bool := true
/-- only the stretch of the other premise's level counts -/
theorem inG_cut {k : Nat} {f : Nat → Nat → Bool} {x b w was : Nat} {P : PL} (hw : b + w ≤ was) (h : ∀ y, y < was → f x y = decide (b ≤ y ∧ y < b + w)) : inG k f x was 0 P = inG k ttG x w b P := by
  have e : was = b + (w + (was - (b + w))) := by omega
  rw [e, inG_add, inG_skip b 0 (fun z _ h2 => by rw [h z (by omega)]; exact decide_eq_false (by omega)), Option.bind_some, inG_add, Nat.zero_add]
  rw [inG_congr (g := ttG) w b P (fun z h1 h2 => by rw [h z (by omega), decide_eq_true ⟨h1, h2⟩]; rfl)]
  cases hs : inG k ttG x w b P with
  | none => rfl
  | some P2 => exact inG_skip _ _ (fun z h1 h2 => by rw [h z (by omega)]; exact decide_eq_false (by omega))
def fLv (k : Nat) (lv : Nat → Nat) (x y : Nat) : Bool := decide (lv x + lv y + 1 = k)
noncomputable def lvR (k : Nat) (P : PL) : Option PL := if k = 0 then some P else ouG k (fLv k P.2.2) P.1 P.1 0 P
def covK (P : PL) (k : Nat) (φ : Tm) : Bool := decide (fstF (fun x => decide (P.2.2 x = k) && isIn (P.2.1 x) φ) P.1 0 < P.1)
noncomputable def srch (φ : Tm) : Nat → Nat → PL → Int32
  | 0, _, _ => -4
  | r + 1, k, P => match lvR k P with
    | none => -5
    | some P2 => if covK P2 k φ = true then nI k else srch φ r (k + 1) P2
def axIn (en : Nat → Option (Nat × Nat)) (fo : Nat → Tm) : Nat → Nat → PL → PL
  | 0, _, P => P
  | r + 1, j, P => axIn en fo r (j + 1) (if en j = none then plAdd 0 P (fo j) else P)
def ax0 (s : ST) : PL := axIn (sEn s) (sFo s) (sN s) 0 (0, fun _ => .var 0, fun _ => 0)
noncomputable def aSh (s : ST) (v w : Int32) : Int32 := ansN (-1) (sN s) (fun j => if w < 0 then -2 else if w ≤ 4 then srch (sFo s j) (w.toNatClampNeg + 1) 0 (ax0 s) else -2) v
-- ===== the class's pool =====
theorem XS.pv {K N : Nat → Nat} {R : Nat → Nat → Option Nat} (h : XS K N R) : K 144 = 2 ∧ R 144 0 = some 132 ∧ R 144 1 = some 142 ∧ R 144 2 = some 145 ∧ R 144 3 = some 147 ∧ R 144 4 = some 148 ∧ K 147 = 15 ∧ N 147 = 120 ∧ K 148 = 12 ∧ N 148 = 6 ∧ FmS K N R 145 := by
  obtain ⟨a1, a2, a3, a4, a5, a6, a7, a8, a9, a10, b1, b2, b3, b4, -⟩ := h.2.2.2.2.1
  exact ⟨a1, a2, a3, a4, a5, a6, a7, a8, a9, a10, b1, b2, b3, b4⟩
theorem XS.pf {K N : Nat → Nat} {R : Nat → Nat → Option Nat} (h : XS K N R) {i : Nat} (hi : i < 120) : FmS K N R (149 + 2 * i) ∧ R 147 i = some (149 + 2 * i) := by
  obtain ⟨-, -, -, -, -, -, -, -, -, -, -, -, -, -, h2⟩ := h.2.2.2.2.1
  obtain ⟨a1, a2, a3, a4, a5⟩ := h2 i hi
  exact ⟨⟨a1, a2, a3, a4⟩, a5⟩
def CLv (m : qM) (s : ST) (P : PL) : Prop := CP m s ∧ qI m 144 5 = nI P.1 ∧ ∀ z, z < P.1 → CFm (qI m) (149 + 2 * z) (P.2.1 z)
def dPL (a : Nat) : Prop := 132 ≤ a ∧ a ≤ 388 ∧ a ≠ 148
theorem c_addNew {m : qM} {s : ST} {P : PL} {k g : Nat} {t : Tm} (hn : sN s ≤ 60) (h : CLv m s P) (hP : okQ P) (hl : P.1 < 120) (G : FmS (qK m) (qN m) (qR m) g) (hg : g + 1 < 149 ∨ 149 + 240 < g) (hg2 : g ≠ 144) (hg3 : g + 1 ≠ 144) (C : CFm (qI m) g t) : ∃ m2, fX2_addNew NF 144 g m = some (1, m2) ∧ CLv m2 s (plAdd k P t) ∧ Fx dPL m m2 := by
  obtain ⟨hC, h5, hf⟩ := h
  obtain ⟨k144, r0, r1, r2, r3, r4, k147, n147, k148, n148, F145⟩ := hC.1.pv
  obtain ⟨Fp, Rp⟩ := hC.1.pf hl
  obtain ⟨m1, p1, p2, p3⟩ := c_copy Fp G C (by omega)
  have e5 : qI m1 144 5 = nI P.1 := by rw [p2.i (by unfold dF; omega)]; exact h5
  have f2 : Fx dPL m (qsI m1 144 5 (nI (P.1 + 1))) := (p2.mono (fun a ha => by unfold dF at ha; unfold dPL; omega)).sI (show dPL 144 by unfold dPL; omega)
  refine ⟨qsI m1 144 5 (nI (P.1 + 1)), ?_, ⟨CP_fx hC hn f2 (fun a ha => by unfold dPL at ha; omega), by simp [qS, plAdd], fun z hz => ?_⟩, f2⟩
  · unfold fX2_addNew
    refine EgI k144 h5 ?_
    refine EIp ((nI_ltI (b := 120) (by omega) (by omega)).mpr hl) ?_
    refine EgR k144 r3 ?_
    refine EgI k144 h5 ?_
    refine EaR k147 rfl (show P.1 < qN m 147 by omega) (by omega) Rp ?_
    refine EC Fp.1 p1 ?_
    refine EgI (show qK m1 144 = 2 by rw [p2.1]; exact k144) e5 ?_
    refine EpI (show qK m1 144 = 2 by rw [p2.1]; exact k144) (nI_s _) ?_
    rfl
  · have hz' : z < P.1 + 1 := hz
    show CFm (qI (qsI m1 144 5 (nI (P.1 + 1)))) (149 + 2 * z) (setN P.2.1 P.1 t z)
    have q1 : qI (qsI m1 144 5 (nI (P.1 + 1))) (149 + 2 * z) = qI m1 (149 + 2 * z) := by funext j; simp only [qS]; rw [if_neg (by omega)]
    have q2 : qI (qsI m1 144 5 (nI (P.1 + 1))) (149 + 2 * z + 1) = qI m1 (149 + 2 * z + 1) := by funext j; simp only [qS]; rw [if_neg (by omega)]
    by_cases e : z = P.1
    · rw [e, setN_eq]
      rw [e] at q1 q2
      exact CFm_of p3 q1 q2
    · rw [setN_ne e]
      exact CFm_of (hf z (by omega)) (q1.trans (p2.i (by unfold dF; omega))) (q2.trans (p2.i (by unfold dF; omega)))
theorem c_isKnown {m : qM} {s : ST} {P : PL} {t : Tm} (h : CLv m s P) (hP : okQ P) (C : CFm (qI m) 145 t) (ht : bel 99 t) : fX2_isKnown NF 144 145 m = some (iB (known P t), m) := by
  obtain ⟨hC, h5, hf⟩ := h
  have h120 := hP.1
  obtain ⟨k144, r0, r1, r2, r3, r4, k147, n147, k148, n148, F145⟩ := hC.1.pv
  obtain ⟨b, e1, e2⟩ := walk (l := fun g (x : Int32) => lX2_isKnown_2 NF 144 145 g x m) (J := fun r x => ∃ k, k + r = P.1 ∧ x = nI k ∧ fstF (fun i => sameT (P.2.1 i) t) r k = fstF (fun i => sameT (P.2.1 i) t) P.1 0) (Q := fun b => b = (if fstF (fun i => sameT (P.2.1 i) t) P.1 0 < P.1 then .inr (1, m) else .inl m)) (fun g r x hj => by
    obtain ⟨k, hk, rfl, hp⟩ := hj
    obtain ⟨Fp, Rp⟩ := hC.1.pf (i := k) (by omega)
    have hsm := c_sameAs Fp F145 (hf k (by omega)) C (bel_mono (hP.2 k (by omega)).1 (by omega)) ht
    have hpre : ∀ R, (if (if sameT (P.2.1 k) t = true then (1 : Int32) else 0) = 0 then lX2_isKnown_2 NF 144 145 g (nI (k + 1)) m else some (.inr ((1 : Int32), m))) = R → lX2_isKnown_2 NF 144 145 (g + 1) (nI k) m = R := by
      intro R hR
      unfold lX2_isKnown_2
      refine EgI k144 h5 ?_
      refine EIn (fun z => by have := (nI_leI (by omega) (by omega)).mp z; omega) ?_
      refine EgR k144 r3 ?_
      refine EaR k147 rfl (show k < qN m 147 by omega) (by omega) Rp ?_
      refine EC Fp.1 hsm ?_
      rw [nI_s]
      exact hR
    rw [fstF_s] at hp
    by_cases e : sameT (P.2.1 k) t = true
    · rw [if_pos e] at hp
      refine Or.inr ⟨_, hpre _ (by rw [if_pos e]; exact if_neg i10), ?_⟩
      rw [← hp, if_pos (by omega)]
    · rw [if_neg e] at hp
      exact Or.inl ⟨nI (k + 1), ⟨k + 1, by omega, rfl, hp⟩, hpre _ (by rw [if_neg e]; exact if_pos rfl)⟩) (fun g x hj => by
    obtain ⟨k, hk, rfl, hp⟩ := hj
    obtain rfl : k = P.1 := by omega
    have hp2 : P.1 = fstF (fun i => sameT (P.2.1 i) t) P.1 0 := hp
    refine ⟨.inl m, ?_, by rw [if_neg (by omega)]⟩
    show lX2_isKnown_2 NF 144 145 (g + 1) (nI P.1) m = _
    unfold lX2_isKnown_2
    refine EgI k144 h5 ?_
    refine EIp ((nI_leI (by omega) (by omega)).mpr (Nat.le_refl _)) ?_
    rfl) P.1 NF (nI 0) (by unfold NF; omega) ⟨0, by omega, rfl, rfl⟩
  have e1' : lX2_isKnown_2 NF 144 145 NF 0 m = some b := e1
  unfold fX2_isKnown known
  rw [e1', e2]
  by_cases e : fstF (fun i => sameT (P.2.1 i) t) P.1 0 < P.1
  · rw [if_pos e, decide_eq_true e]; rfl
  · rw [if_neg e, decide_eq_false e]; rfl
def RsL (s : ST) (k : Nat) (P : PL) (m : qM) (T : Option PL) (r : qM ⊕ (Int32 × qM)) : Prop := (∃ P2 m2, T = some P2 ∧ r = .inl m2 ∧ CLv m2 s P2 ∧ okQ P2 ∧ exP k P P2 ∧ Fx dPL m m2) ∨ ∃ m2, T = none ∧ r = .inr (0, m2) ∧ CP m2 s ∧ Fx dPL m m2
theorem c_cmbIn {s : ST} {k i j x : Nat} (hn : sN s ≤ 60) (hj : j < 5) {m : qM} {P : PL} {b w : Nat} (h : CLv m s P) (hP : okQ P) (hx : x < P.1) (hb : b + w ≤ P.1) (h148 : qI m 148 (j + 1) = nI (b + w)) : ∃ r, lX2_combine_27 NF 144 (nI i) (nI j) (nI x) NF (nI b) m = some r ∧ RsL s k P m (inG k ttG x w b P) r := by
  have h120 := hP.1
  obtain ⟨r, e1, e2⟩ := walk (l := fun g (z : Int32 × qM) => lX2_combine_27 NF 144 (nI i) (nI j) (nI x) g z.1 z.2) (J := fun r z => ∃ y m' P', y + r = b + w ∧ z = (nI y, m') ∧ CLv m' s P' ∧ okQ P' ∧ exP k P P' ∧ Fx dPL m m' ∧ inG k ttG x r y P' = inG k ttG x w b P) (Q := fun r => RsL s k P m (inG k ttG x w b P) r) (fun g r z hj2 => by
    obtain ⟨y, m', P', hy, rfl, hL, hP', hE, hF, hT⟩ := hj2
    have hL' := hL
    obtain ⟨hC, h5, hf⟩ := hL
    have hX := hC.1
    have hPP := hE.1
    have h120' := hP'.1
    obtain ⟨k144, r0, r1, r2, r3, r4, k147, n147, k148, n148, F145⟩ := hX.pv
    obtain ⟨Fx1, Rx1⟩ := hX.pf (i := x) (by omega)
    obtain ⟨Fy1, Ry1⟩ := hX.pf (i := y) (by omega)
    have h148' : qI m' 148 (j + 1) = nI (b + w) := by rw [hF.i (by unfold dPL; omega)]; exact h148
    obtain ⟨m1, p1, p2, p3⟩ := c_detachInto (f3 := 145) hX.un Fx1 Fy1 F145 (by omega) (by omega) (by omega) (hf x (by omega)) (hf y (by omega)) (hP'.2 x (by omega)).1 (hP'.2 y (by omega)).1
    have f1 : Fx dPL m' m1 := p2.mono (fun a ha => by unfold dDi at ha; unfold dPL; omega)
    have hC1 : CP m1 s := CP_fx hC hn f1 (fun a ha => by unfold dPL at ha; omega)
    have hL1 : CLv m1 s P' := ⟨hC1, by rw [p2.i (by unfold dDi; omega)]; exact h5, fun z hz => CFm_of (hf z hz) (p2.i (by unfold dDi; omega)) (p2.i (by unfold dDi; omega))⟩
    obtain ⟨K144, R0, R1, R2, R3, R4, -⟩ := hC1.1.pv
    have hpre : ∀ R, (if rc (dU (P'.2.1 x) (P'.2.1 y)) = 0 then (qgR m1 144 2 2).bind fun x10 => (qChk m1 144 2 (fX2_isKnown NF 144 x10 m1)).bind fun b11 => if b11.1 = 0 then (qgR b11.2 144 2 2).bind fun x12 => (qChk b11.2 144 2 (fX2_addNew NF 144 x12 b11.2)).bind fun b13 => if b13.1 = 0 then some (.inr ((0 : Int32), b13.2)) else lX2_combine_27 NF 144 (nI i) (nI j) (nI x) g (nI (y + 1)) b13.2 else lX2_combine_27 NF 144 (nI i) (nI j) (nI x) g (nI (y + 1)) b11.2 else lX2_combine_27 NF 144 (nI i) (nI j) (nI x) g (nI (y + 1)) m1) = R → lX2_combine_27 NF 144 (nI i) (nI j) (nI x) (g + 1) (nI y) m' = R := by
      intro R hR
      conv => lhs; unfold lX2_combine_27 kX2_combine_95
      refine EgR k144 r4 ?_
      refine EaI k148 (nI_s _) (show j + 1 < qN m' 148 by omega) (by omega) h148' ?_
      refine EIn (fun z => by have := (nI_leI (by omega) (by omega)).mp z; omega) ?_
      refine EgR k144 r0 ?_
      refine EgR k144 r3 ?_
      refine EaR k147 rfl (show x < qN m' 147 by omega) (by omega) Rx1 ?_
      refine EgR k144 r3 ?_
      refine EaR k147 rfl (show y < qN m' 147 by omega) (by omega) Ry1 ?_
      refine EgR k144 r2 ?_
      refine EC hX.un.1 p1 ?_
      rw [nI_s]
      exact hR
    rw [inG_s, if_pos (show ttG x y = true from rfl)] at hT
    unfold stp at hT
    by_cases e : rc (dU (P'.2.1 x) (P'.2.1 y)) = 0
    · rw [if_pos e] at hT
      have hFt := rt_okP hP' (by omega) (by omega) e
      have hCt := (p3 (rc_ok.mp e)).1
      have hk := c_isKnown hL1 hP' hCt (bel_mono hFt.1 (by omega))
      by_cases e2 : known P' (rt (dU (P'.2.1 x) (P'.2.1 y))) = true
      · rw [if_pos e2, Option.bind_some] at hT
        refine Or.inl ⟨(nI (y + 1), m1), ⟨y + 1, m1, P', by omega, rfl, hL1, hP', hE, hF.tr f1, hT⟩, hpre _ ?_⟩
        refine EIp e ?_
        refine EgR K144 R2 ?_
        refine EC K144 hk ?_
        rw [e2]
        refine EIn i10 ?_
        rfl
      · have e2' : known P' (rt (dU (P'.2.1 x) (P'.2.1 y))) = false := by simpa using e2
        rw [if_neg e2] at hT
        by_cases e3 : P'.1 = 120
        · rw [if_pos e3, Option.bind_none] at hT
          refine Or.inr ⟨.inr (0, m1), hpre _ ?_, Or.inr ⟨m1, hT.symm, rfl, hC1, hF.tr f1⟩⟩
          have hadd : fX2_addNew NF 144 145 m1 = some (0, m1) := by
            unfold fX2_addNew
            refine EgI K144 hL1.2.1 ?_
            refine EIn (fun z => by have := (nI_ltI (b := 120) (by omega) (by omega)).mp z; omega) ?_
            rfl
          refine EIp e ?_
          refine EgR K144 R2 ?_
          refine EC K144 hk ?_
          rw [e2']
          refine EIp rfl ?_
          refine EgR K144 R2 ?_
          refine EC K144 hadd ?_
          refine EIp rfl ?_
          rfl
        · rw [if_neg e3, Option.bind_some] at hT
          obtain ⟨o1, o2⟩ := plAdd_ok (k := k) hP' (by omega) hFt
          obtain ⟨m2, q1, q2, q3⟩ := c_addNew (k := k) hn hL1 hP' (by omega) hC1.1.pv.2.2.2.2.2.2.2.2.2.2 (by omega) (by omega) (by omega) hCt
          refine Or.inl ⟨(nI (y + 1), m2), ⟨y + 1, m2, _, by omega, rfl, q2, o1, hE.tr o2, (hF.tr f1).tr q3, hT⟩, hpre _ ?_⟩
          refine EIp e ?_
          refine EgR K144 R2 ?_
          refine EC K144 hk ?_
          rw [e2']
          refine EIp rfl ?_
          refine EgR K144 R2 ?_
          refine EC K144 q1 ?_
          refine EIn i10 ?_
          rfl
    · rw [if_neg e, Option.bind_some] at hT
      exact Or.inl ⟨(nI (y + 1), m1), ⟨y + 1, m1, P', by omega, rfl, hL1, hP', hE, hF.tr f1, hT⟩, hpre _ (if_neg e)⟩) (fun g z hj2 => by
    obtain ⟨y, m', P', hy, rfl, hL, hP', hE, hF, hT⟩ := hj2
    obtain rfl : y = b + w := by omega
    obtain ⟨k144, r0, r1, r2, r3, r4, k147, n147, k148, n148, F145⟩ := hL.1.1.pv
    refine ⟨.inl m', ?_, Or.inl ⟨P', m', hT.symm, rfl, hL, hP', hE, hF⟩⟩
    show lX2_combine_27 NF 144 (nI i) (nI j) (nI x) (g + 1) (nI (b + w)) m' = _
    unfold lX2_combine_27
    refine EgR k144 r4 ?_
    refine EaI k148 (nI_s _) (show j + 1 < qN m' 148 by omega) (by omega) (show qI m' 148 (j + 1) = nI (b + w) by rw [hF.i (by unfold dPL; omega)]; exact h148) ?_
    refine EIp ((nI_leI (by omega) (by omega)).mpr (Nat.le_refl _)) ?_
    rfl) w NF (nI b, m) (by unfold NF; omega) ⟨b, m, P, by omega, rfl, h, hP, exP.rf, Fx.rf, rfl⟩
  exact ⟨r, e1, e2⟩
end
