section
-- ===== reduction in the class: the two rows of signs change places =====
theorem xs0_sw {K N K2 N2 : Nat → Nat} {R R2 : Nat → Nat → Option Nat} (h : xs0 K N R) (e : ∀ a, a < 459 ∧ a ≠ 393 → K2 a = K a ∧ N2 a = N a ∧ R2 a = R a) : xs0 K2 N2 R2 := by
  obtain ⟨h0, h1, h2, h3, h4, h5, h6, h7, h8, h9, h10, h11, h12, h13⟩ := h
  exact ⟨(e 0 (by decide)).1.trans h0, (congrFun (e 0 (by decide)).2.2 0).trans h1, (congrFun (e 0 (by decide)).2.2 1).trans h2, (congrFun (e 0 (by decide)).2.2 2).trans h3, (congrFun (e 0 (by decide)).2.2 3).trans h4, (congrFun (e 0 (by decide)).2.2 4).trans h5, (congrFun (e 0 (by decide)).2.2 5).trans h6, (congrFun (e 0 (by decide)).2.2 6).trans h7, (congrFun (e 0 (by decide)).2.2 7).trans h8, (congrFun (e 0 (by decide)).2.2 8).trans h9, (congrFun (e 0 (by decide)).2.2 9).trans h10, (congrFun (e 0 (by decide)).2.2 10).trans h11, (congrFun (e 0 (by decide)).2.2 11).trans h12, (congrFun (e 0 (by decide)).2.2 12).trans h13⟩
theorem xsT_sw {K N K2 N2 : Nat → Nat} {R R2 : Nat → Nat → Option Nat} (h : xsT K N R) (e : ∀ a, a < 459 ∧ a ≠ 393 → K2 a = K a ∧ N2 a = N a ∧ R2 a = R a) : xsT K2 N2 R2 := by
  obtain ⟨h0, h1, h2, h3, h4, h5, h6, h7⟩ := h
  exact ⟨(e 1 (by decide)).1.trans h0, (congrFun (e 1 (by decide)).2.2 0).trans h1, (e 2 (by decide)).1.trans h2, (e 2 (by decide)).2.1.trans h3, (e 3 (by decide)).1.trans h4, (congrFun (e 3 (by decide)).2.2 0).trans h5, (e 4 (by decide)).1.trans h6, (e 4 (by decide)).2.1.trans h7⟩
theorem xsL_sw {K N K2 N2 : Nat → Nat} {R R2 : Nat → Nat → Option Nat} (h : xsL K N R) (e : ∀ a, a < 459 ∧ a ≠ 393 → K2 a = K a ∧ N2 a = N a ∧ R2 a = R a) : xsL K2 N2 R2 := by
  obtain ⟨h0, h1, h2, h3, h4, h5, h6, h7, h8, h9, h10, h11, h12, h13, h14, h15, h16, h17, h18, h19⟩ := h
  exact ⟨(e 5 (by decide)).1.trans h0, (congrFun (e 5 (by decide)).2.2 0).trans h1, (congrFun (e 5 (by decide)).2.2 1).trans h2, (congrFun (e 5 (by decide)).2.2 2).trans h3, (congrFun (e 5 (by decide)).2.2 3).trans h4, (congrFun (e 5 (by decide)).2.2 4).trans h5, (congrFun (e 5 (by decide)).2.2 5).trans h6, (e 6 (by decide)).1.trans h7, (e 6 (by decide)).2.1.trans h8, (e 7 (by decide)).1.trans h9, (e 7 (by decide)).2.1.trans h10, (e 8 (by decide)).1.trans h11, (e 8 (by decide)).2.1.trans h12, (e 9 (by decide)).1.trans h13, (e 9 (by decide)).2.1.trans h14, (e 10 (by decide)).1.trans h15, (e 10 (by decide)).2.1.trans h16, (e 11 (by decide)).1.trans h17, (e 11 (by decide)).2.1.trans h18, fun i hi => by
    obtain ⟨a0, a1, a2, a3, a4⟩ := h19 i hi
    exact ⟨(e (12 + 2 * i) (by omega)).1.trans a0, (congrFun (e (12 + 2 * i) (by omega)).2.2 0).trans a1, (e (12 + 2 * i + 1) (by omega)).1.trans a2, (e (12 + 2 * i + 1) (by omega)).2.1.trans a3, (congrFun (e 6 (by omega)).2.2 i).trans a4⟩⟩
theorem xsU_sw {K N K2 N2 : Nat → Nat} {R R2 : Nat → Nat → Option Nat} (h : xsU K N R) (e : ∀ a, a < 459 ∧ a ≠ 393 → K2 a = K a ∧ N2 a = N a ∧ R2 a = R a) : xsU K2 N2 R2 := by
  obtain ⟨h0, h1, h2, h3, h4, h5, h6, h7, h8, h9, h10, h11, h12, h13, h14, h15, h16, h17, h18, h19, h20, h21, h22, h23, h24, h25, h26, h27, h28, h29, h30, h31⟩ := h
  exact ⟨(e 132 (by decide)).1.trans h0, (congrFun (e 132 (by decide)).2.2 0).trans h1, (congrFun (e 132 (by decide)).2.2 1).trans h2, (congrFun (e 132 (by decide)).2.2 2).trans h3, (congrFun (e 132 (by decide)).2.2 3).trans h4, (congrFun (e 132 (by decide)).2.2 4).trans h5, (congrFun (e 132 (by decide)).2.2 5).trans h6, (congrFun (e 132 (by decide)).2.2 6).trans h7, (congrFun (e 132 (by decide)).2.2 7).trans h8, (congrFun (e 132 (by decide)).2.2 8).trans h9, (e 133 (by decide)).1.trans h10, (e 133 (by decide)).2.1.trans h11, (e 134 (by decide)).1.trans h12, (e 134 (by decide)).2.1.trans h13, (e 135 (by decide)).1.trans h14, (e 135 (by decide)).2.1.trans h15, (e 136 (by decide)).1.trans h16, (e 136 (by decide)).2.1.trans h17, (e 137 (by decide)).1.trans h18, (e 137 (by decide)).2.1.trans h19, (e 138 (by decide)).1.trans h20, (e 138 (by decide)).2.1.trans h21, (e 139 (by decide)).1.trans h22, (e 139 (by decide)).2.1.trans h23, (e 140 (by decide)).1.trans h24, (e 140 (by decide)).2.1.trans h25, (e 141 (by decide)).1.trans h26, (e 141 (by decide)).2.1.trans h27, (e 142 (by decide)).1.trans h28, (congrFun (e 142 (by decide)).2.2 0).trans h29, (e 143 (by decide)).1.trans h30, (e 143 (by decide)).2.1.trans h31⟩
theorem xsV_sw {K N K2 N2 : Nat → Nat} {R R2 : Nat → Nat → Option Nat} (h : xsV K N R) (e : ∀ a, a < 459 ∧ a ≠ 393 → K2 a = K a ∧ N2 a = N a ∧ R2 a = R a) : xsV K2 N2 R2 := by
  obtain ⟨h0, h1, h2, h3, h4, h5, h6, h7, h8, h9, h10, h11, h12, h13, h14⟩ := h
  exact ⟨(e 144 (by decide)).1.trans h0, (congrFun (e 144 (by decide)).2.2 0).trans h1, (congrFun (e 144 (by decide)).2.2 1).trans h2, (congrFun (e 144 (by decide)).2.2 2).trans h3, (congrFun (e 144 (by decide)).2.2 3).trans h4, (congrFun (e 144 (by decide)).2.2 4).trans h5, (e 147 (by decide)).1.trans h6, (e 147 (by decide)).2.1.trans h7, (e 148 (by decide)).1.trans h8, (e 148 (by decide)).2.1.trans h9, (e 145 (by decide)).1.trans h10, (congrFun (e 145 (by decide)).2.2 0).trans h11, (e 146 (by decide)).1.trans h12, (e 146 (by decide)).2.1.trans h13, fun i hi => by
    obtain ⟨a0, a1, a2, a3, a4⟩ := h14 i hi
    exact ⟨(e (149 + 2 * i) (by omega)).1.trans a0, (congrFun (e (149 + 2 * i) (by omega)).2.2 0).trans a1, (e (149 + 2 * i + 1) (by omega)).1.trans a2, (e (149 + 2 * i + 1) (by omega)).2.1.trans a3, (congrFun (e 147 (by omega)).2.2 i).trans a4⟩⟩
theorem xsM_sw {K N K2 N2 : Nat → Nat} {R R2 : Nat → Nat → Option Nat} (h : xsM K N R) (e : ∀ a, a < 459 ∧ a ≠ 393 → K2 a = K a ∧ N2 a = N a ∧ R2 a = R a) : xsM K2 N2 R2 := by
  obtain ⟨h0, h1, h2, h3, h4, h5, h6, h7, h8, h9⟩ := h
  exact ⟨(e 389 (by decide)).1.trans h0, (congrFun (e 389 (by decide)).2.2 0).trans h1, (congrFun (e 389 (by decide)).2.2 1).trans h2, (congrFun (e 389 (by decide)).2.2 2).trans h3, (e 390 (by decide)).1.trans h4, (e 390 (by decide)).2.1.trans h5, (e 391 (by decide)).1.trans h6, (e 391 (by decide)).2.1.trans h7, (e 392 (by decide)).1.trans h8, (e 392 (by decide)).2.1.trans h9⟩
theorem xsR_sw {K N K2 N2 : Nat → Nat} {R R2 : Nat → Nat → Option Nat} (h : xsR K N R) (e : ∀ a, a < 459 ∧ a ≠ 393 → K2 a = K a ∧ N2 a = N a ∧ R2 a = R a) : xsR K2 N2 R2 := by
  obtain ⟨h0, h1, h2⟩ := h
  exact ⟨(e 401 (by decide)).1.trans h0, (e 401 (by decide)).2.1.trans h1, fun i hi => by
    obtain ⟨a0, a1, a2, a3, a4⟩ := h2 i hi
    exact ⟨(e (402 + 2 * i) (by omega)).1.trans a0, (congrFun (e (402 + 2 * i) (by omega)).2.2 0).trans a1, (e (402 + 2 * i + 1) (by omega)).1.trans a2, (e (402 + 2 * i + 1) (by omega)).2.1.trans a3, (congrFun (e 401 (by omega)).2.2 i).trans a4⟩⟩
theorem xsY_sw {K N K2 N2 : Nat → Nat} {R R2 : Nat → Nat → Option Nat} (h : xsY K N R) (e : ∀ a, a < 459 ∧ a ≠ 393 → K2 a = K a ∧ N2 a = N a ∧ R2 a = R a) : xsY K2 N2 R2 := by
  obtain ⟨h0, h1, h2, h3, h4, h5, h6, h7, h8, h9, h10⟩ := h
  exact ⟨(e 408 (by decide)).1.trans h0, (e 408 (by decide)).2.1.trans h1, fun i hi => by
    obtain ⟨a0, a1, a2, a3, a4⟩ := h2 i hi
    exact ⟨(e (409 + 2 * i) (by omega)).1.trans a0, (congrFun (e (409 + 2 * i) (by omega)).2.2 0).trans a1, (e (409 + 2 * i + 1) (by omega)).1.trans a2, (e (409 + 2 * i + 1) (by omega)).2.1.trans a3, (congrFun (e 408 (by omega)).2.2 i).trans a4⟩, (e 429 (by decide)).1.trans h3, (congrFun (e 429 (by decide)).2.2 0).trans h4, (e 430 (by decide)).1.trans h5, (e 430 (by decide)).2.1.trans h6, (e 431 (by decide)).1.trans h7, (e 431 (by decide)).2.1.trans h8, (e 432 (by decide)).1.trans h9, (e 432 (by decide)).2.1.trans h10⟩
theorem XS_sw {K N K2 N2 : Nat → Nat} {R R2 : Nat → Nat → Option Nat} (h : XS K N R) (e : ∀ a, a < 459 ∧ a ≠ 393 → K2 a = K a ∧ N2 a = N a ∧ R2 a = R a) (hk : xsK K2 N2 R2) : XS K2 N2 R2 := by
  obtain ⟨h0, h1, h2, h3, h4, h5, h6, h7, h8⟩ := h
  exact ⟨xs0_sw h0 e, xsT_sw h1 e, xsL_sw h2 e, xsU_sw h3 e, xsV_sw h4 e, xsM_sw h5 e, hk, xsR_sw h7 e, xsY_sw h8 e⟩
theorem xsK_T {m : qM} {S : Nat} (hT : TmC m S) : xsK (qK m) (qN m) (qR m) := by
  obtain ⟨hS, k, r0, r1, r2, r3, r4, r5, r6, k394, n394, k395, n395, k396, n396, k397, n397, k398, n398, kS, nS, kP, nP⟩ := id hT
  rcases hS with rfl | rfl
  · exact ⟨k, r0, r1, r2, r3, r4, k394, n394, k395, n395, k396, n396, k397, n397, k398, n398, kS, nS, kP, nP, Or.inl ⟨r5, r6⟩⟩
  · exact ⟨k, r0, r1, r2, r3, r4, k394, n394, k395, n395, k396, n396, k397, n397, k398, n398, kP, nP, kS, nS, Or.inr ⟨r5, r6⟩⟩
theorem Fy.X {D : Nat → Prop} {m m2 : qM} {S : Nat} (f : Fy D m m2) (h : XS (qK m) (qN m) (qR m)) (hT : TmC m2 S) : XS (qK m2) (qN m2) (qR m2) :=
  XS_sw h (fun a ha => ⟨by rw [f.1], by rw [f.2.1], f.2.2.1 a ha.2⟩) (xsK_T hT)
theorem MP_fy {m m2 : qM} {s : ST} (h : MP m s) (f : Fy (fun a => a < 433) m m2) : MP m2 s := by
  obtain ⟨h1, h2, h3, h4, h5, h6, h7⟩ := h
  have e : ∀ a, 433 ≤ a → qI m2 a = qI m a := fun a ha => f.i (by omega)
  have hM : MS (qK m2) (qN m2) (qR m2) := by
    obtain ⟨⟨g0, g1, g2, g3, g4, g5, g6, g7, g8, g9, g10, g11, g12, g13, g14, g15, g16, g17, g18, g19, g20, g21, g22, g23, g24, g25⟩, gk, gn⟩ := h1
    have r : qR m2 433 = qR m 433 := f.2.2.1 433 (by decide)
    refine ⟨?_, by rw [f.1]; exact gk, by rw [f.2.1]; exact gn⟩
    unfold msR
    rw [r, f.1]
    exact ⟨g0, g1, g2, g3, g4, g5, g6, g7, g8, g9, g10, g11, g12, g13, g14, g15, g16, g17, g18, g19, g20, g21, g22, g23, g24, g25⟩
  exact ⟨hM, by rw [f.2.2.2.1]; exact h2, MTx_of h3 (by rw [e 433 (by omega)]) (e 439 (by omega)), MOu_of h4 (by rw [e 433 (by omega)]) (e 440 (by omega)), MLs_of h5 (fun a ha _ => e a (by omega)) (by rw [e 433 (by omega)]), MMx_of h6 (by rw [e 433 (by omega)]) (e 441 (by omega)), MRs_of h7 (fun a ha _ => e a (by omega))⟩
theorem CP_fy {m m2 : qM} {s : ST} {S : Nat} (h : CP m s) (hn : sN s ≤ 60) (f : Fy dTr m m2) (hT : TmC m2 S) : CP m2 s := by
  obtain ⟨h1, h2, h3, h4, h5, h6, h7⟩ := h
  have e : ∀ a, a < 393 ∨ 400 < a → qI m2 a = qI m a := fun a ha => f.i (by unfold dTr; omega)
  have el : ∀ a, a < 393 ∨ 400 < a → qL m2 a = qL m a := fun a ha => f.l (by unfold dTr; omega)
  exact ⟨f.X h1 hT, CTx_of (e 1 (by omega)) (e 2 (by omega)) h2, h3, CTx_of (e 3 (by omega)) (e 4 (by omega)) h4, CLs_of h5 hn (fun a _ ha => ⟨e a (by omega), el a (by omega)⟩), CMx_of h6 (e 389 (by omega)) (e 390 (by omega)), CRs_of h7 (fun a _ ha => e a (by omega))⟩
-- ===== a term is written =====
def yOb : Tm → Bool → List Bool
  | .var _, b => [b]
  | .op f x, b => yOb f b ++ (yOb x (yIs x) ++ [false])
theorem yOb_len (t : Tm) : ∀ b, (yOb t b).length = (yPf t).length := by
  induction t with
  | var c => intro b; rfl
  | op f x ihf ihx =>
    intro b
    show (yOb f b ++ (yOb x (yIs x) ++ [false])).length = (yPf f ++ (yPf x ++ [64])).length
    simp only [List.length_append, ihf, ihx, List.length_cons, List.length_nil]
theorem yPf_pos (t : Tm) : 1 ≤ (yPf t).length := by
  have := yPf_len t
  have := yLv_pos t
  omega
theorem getD_app1 {l r : List Bool} {j : Nat} (h : j < l.length) : (l ++ r).getD j false = l.getD j false := by
  rw [List.getD_eq_getElem?_getD, List.getElem?_append_left h, ← List.getD_eq_getElem?_getD]
theorem getD_app2 {l r : List Bool} {j : Nat} : (l ++ r).getD (l.length + j) false = r.getD j false := by
  rw [List.getD_eq_getElem?_getD, List.getElem?_append_right (by omega), Nat.add_sub_cancel_left, ← List.getD_eq_getElem?_getD]
theorem yOb_0 (t : Tm) : ∀ (b : Bool) (j : Nat), (yOb t b).getD j false = if j = 0 then b else (yOb t false).getD j false := by
  induction t with
  | var c =>
    intro b j
    cases j with
    | zero => rfl
    | succ j => rw [if_neg (by omega)]; rfl
  | op f x ihf ihx =>
    intro b j
    show (yOb f b ++ (yOb x (yIs x) ++ [false])).getD j false = if j = 0 then b else (yOb f false ++ (yOb x (yIs x) ++ [false])).getD j false
    by_cases h : j < (yPf f).length
    · rw [getD_app1 (by rw [yOb_len]; exact h), getD_app1 (by rw [yOb_len]; exact h)]
      exact ihf b j
    · obtain ⟨i, rfl⟩ : ∃ i, j = (yPf f).length + i := ⟨j - (yPf f).length, by omega⟩
      have hp := yPf_pos f
      rw [if_neg (by omega)]
      rw [← yOb_len f b, getD_app2, yOb_len f b, ← yOb_len f false, getD_app2]
theorem getD_dr {L X rest : List Nat} {p j : Nat} (h : L.drop p = X ++ rest) (hj : j < X.length) : L.getD (p + j) 0 = X.getD j 0 := by
  rw [List.getD_eq_getElem?_getD, ← List.getElem?_drop, h, List.getElem?_append_left hj, ← List.getD_eq_getElem?_getD]
theorem yPf_last {t : Tm} (ho : yOk t) : (yPf t).getD ((yPf t).length - 1) 0 = 64 ↔ yIs t = true := by
  cases t with
  | var c =>
    show c = 64 ↔ false = true
    have := (ixL_c ho).2
    simp [this]
  | op f x =>
    show (yPf f ++ (yPf x ++ [64])).getD ((yPf f ++ (yPf x ++ [64])).length - 1) 0 = 64 ↔ true = true
    have e : (yPf f ++ yPf x ++ [64]).length - 1 = (yPf f ++ yPf x).length := by rw [List.length_append]; rfl
    rw [← List.append_assoc, e, getD_snoc, if_pos rfl]
    simp
theorem drop_more {L X rest : List Nat} {p : Nat} (h : L.drop p = X ++ rest) : L.drop (p + X.length) = rest := by
  rw [← List.drop_drop, h, List.drop_left]
theorem drop_len {L X rest : List Nat} {p : Nat} (h : L.drop p = X ++ rest) (hX : 1 ≤ X.length) : p + X.length ≤ L.length := by
  have := congrArg List.length h
  rw [List.length_drop, List.length_append] at this
  omega
def dMk (a : Nat) : Prop := a = 395 ∨ a = 396
theorem c_mark {L : List Nat} (hL : L.length ≤ 160) {S : Nat} : ∀ (t : Tm) (p d g : Nat) (rest : List Nat) (m : qM), yOk t → TmC m S → Sg (qI m) S L → L.drop p = yPf t ++ rest → d ≤ p → ∃ m2, lX6_markOpenings_4 NF 393 (g + (yPf t).length) (nI d) (nI p) m = lX6_markOpenings_4 NF 393 g (nI (d + 1)) (nI (p + (yPf t).length)) m2 ∧ Fx dMk m m2 ∧ (∀ j, j < d → qI m2 396 j = qI m 396 j) ∧ qI m2 396 d = nI p ∧ (∀ j, j < p → qI m2 395 j = qI m 395 j) ∧ ∀ j, j < (yPf t).length → qI m2 395 (p + j) = bI ((yOb t false).getD j false) := by
  intro t
  induction t with
  | var c =>
    intro p d g rest m ho hT hg hd hdp
    obtain ⟨hpL, hcc, -⟩ := drop_c (show L.drop p = c :: rest from hd)
    obtain ⟨hS, k, r0, r1, r2, r3, r4, r5, r6, k394, n394, k395, n395, k396, n396, k397, n397, k398, n398, kS, nS, kP, nP⟩ := id hT
    have hc64 := (ixL_c ho).2
    have hc87 := (ixL_c ho).1
    let m1 : qM := qsI m 395 p (bI false)
    have hat : qI m1 S p = nI c := by
      simp only [m1, qS]
      rw [if_neg (by omega), ← hcc]
      exact hg.2 p hpL
    refine ⟨qsI m1 396 d (nI p), ?_, (Fx.rf.sI (Or.inl rfl)).sI (Or.inr rfl), fun j hj => ?_, by simp [qS], fun j hj => ?_, fun j hj => ?_⟩
    · show lX6_markOpenings_4 NF 393 (g + 1) (nI d) (nI p) m = lX6_markOpenings_4 NF 393 g (nI (d + 1)) (nI (p + 1)) _
      conv => lhs; unfold lX6_markOpenings_4 kX6_markOpenings_76
      refine EgI k hg.1 ?_
      refine EIn (fun z => by have := (nI_leI (by omega) (by omega)).mp z; omega) ?_
      refine EgR k r1 ?_
      refine EwI k395 rfl (show p < qN m 395 by omega) (by omega) (show (0 : Int32) &&& 1 = bI false by decide) ?_
      refine EgR (show qK m1 393 = 6 from k) (show qR m1 393 5 = some S from r5) ?_
      refine EaI (show qK m1 S = 11 from kS) rfl (show p < qN m1 S from by show p < qN m S; omega) (by omega) hat ?_
      refine EIn (fun z => hc64 ((nI_eq (b := 64) (by omega) (by omega)).mp z)) ?_
      refine EgR (show qK m1 393 = 6 from k) (show qR m1 393 2 = some 396 from r2) ?_
      refine EwI (show qK m1 396 = 12 from k396) rfl (show d < qN m1 396 from by show d < qN m 396; omega) (by omega) rfl ?_
      rw [nI_s, nI_s]
    · have : ¬ j = d := by omega
      simp [m1, qS, this]
    · have : ¬ j = p := by omega
      simp [m1, qS, this]
    · have : j = 0 := by have : j < 1 := hj; omega
      subst this
      simp [m1, qS]
      rfl
  | op f x ihf ihx =>
    intro p d g rest m ho hT hg hd hdp
    have el : (yPf (.op f x)).length = (yPf f).length + ((yPf x).length + 1) := by
      show (yPf f ++ (yPf x ++ [64])).length = _
      rw [List.length_append, List.length_append]; rfl
    have hd1 : L.drop p = yPf f ++ (yPf x ++ (64 :: rest)) := by
      rw [hd]
      show (yPf f ++ (yPf x ++ [64])) ++ rest = _
      rw [List.append_assoc, List.append_assoc]; rfl
    have hd2 := drop_more hd1
    have hd3 := drop_more hd2
    obtain ⟨hqL, hq64, -⟩ := drop_c hd3
    have hpf := yPf_pos f
    have hpx := yPf_pos x
    obtain ⟨m1, a1, a2, a3, a4, a5, a6⟩ := ihf p d (g + 1 + (yPf x).length) (yPf x ++ (64 :: rest)) m ho.1 hT hg hd1 hdp
    have hg1 := Sg_fx a2 (by unfold dMk; omega) (by unfold dMk; have := hT.1; omega) hg
    obtain ⟨m2, b1, b2, b3, b4, b5, b6⟩ := ihx (p + (yPf f).length) (d + 1) (g + 1) (64 :: rest) m1 ho.2 (TmC_fx a2 hT) hg1 hd2 (by omega)
    have f2 := a2.tr b2
    have hg2 := Sg_fx b2 (by unfold dMk; omega) (by unfold dMk; have := hT.1; omega) hg1
    have hT2 := TmC_fx f2 hT
    obtain ⟨hS, k, r0, r1, r2, r3, r4, r5, r6, k394, n394, k395, n395, k396, n396, k397, n397, k398, n398, kS, nS, kP, nP⟩ := id hT2
    generalize hq : p + (yPf f).length + (yPf x).length = q at *
    let m3 : qM := qsI m2 395 q (bI false)
    have f3 : Fx dMk m m3 := f2.sI (Or.inl rfl)
    have hat : qI m3 S q = nI 64 := by
      simp only [m3, qS]
      rw [if_neg (by omega), hg2.2 q hqL, hq64]
    have hprev : qI m3 S (q - 1) = nI ((yPf x).getD ((yPf x).length - 1) 0) := by
      simp only [m3, qS]
      rw [if_neg (by omega), hg2.2 (q - 1) (by omega), ← getD_dr hd2 (j := (yPf x).length - 1) (by omega)]
      congr 2
      omega
    have hst : qI m3 396 (d + 1) = nI (p + (yPf f).length) := by
      simp only [m3, qS]
      rw [if_neg (by omega)]
      exact b4
    have hstp : ∀ R, (if nI ((yPf x).getD ((yPf x).length - 1) 0) = (64 : Int32) then (qgR m3 393 6 1).bind fun x8 => (qgR m3 393 6 2).bind fun x9 => (qaI m3 x9 12 (nI (d + 1))).bind fun x10 => (qwI m3 x8 14 x10 ((1 : Int32) &&& 1)).bind fun m11 => lX6_markOpenings_4 NF 393 g (nI (d + 1)) (nI (q + 1)) m11 else lX6_markOpenings_4 NF 393 g (nI (d + 1)) (nI (q + 1)) m3) = R → lX6_markOpenings_4 NF 393 (g + (yPf (.op f x)).length) (nI d) (nI p) m = R := by
      intro R hR
      rw [el, show g + ((yPf f).length + ((yPf x).length + 1)) = g + 1 + (yPf x).length + (yPf f).length by omega, a1, b1]
      conv => lhs; unfold lX6_markOpenings_4 kX6_markOpenings_76
      refine EgI k hg2.1 ?_
      refine EIn (fun z => by have := (nI_leI (by omega) (by omega)).mp z; omega) ?_
      refine EgR k r1 ?_
      refine EwI k395 rfl (show q < qN m2 395 by omega) (by omega) (show (0 : Int32) &&& 1 = bI false by decide) ?_
      refine EgR (show qK m3 393 = 6 from k) (show qR m3 393 5 = some S from r5) ?_
      refine EaI (show qK m3 S = 11 from kS) rfl (show q < qN m3 S from by show q < qN m2 S; omega) (by omega) hat ?_
      refine EIp rfl ?_
      refine EIn (fun z => by have := (nI_ltI (b := 2) (by omega) (by omega)).mp z; omega) ?_
      refine EgR (show qK m3 393 = 6 from k) (show qR m3 393 5 = some S from r5) ?_
      refine EaI (show qK m3 S = 11 from kS) (show nI q - (1 : Int32) = nI (q - 1) from nI_m1 (by omega)) (show q - 1 < qN m3 S from by show q - 1 < qN m2 S; omega) (by omega) hprev ?_
      rw [show nI (d + 1 + 1) + (-1 : Int32) = nI (d + 1) from nI_p (by omega), nI_s]
      exact hR
    have hl := yPf_last ho.2
    have hlast : (yPf x).getD ((yPf x).length - 1) 0 < 128 := yPf_lt ho.2 _ (mem_getD (by omega))
    /- which flags stand at the end -/
    have fin : ∀ m4 : qM, Fx dMk m m4 → qI m4 396 = qI m3 396 → (∀ j, qI m4 395 j = if yIs x = true ∧ j = p + (yPf f).length then bI true else qI m3 395 j) → Fx dMk m m4 ∧ (∀ j, j < d → qI m4 396 j = qI m 396 j) ∧ qI m4 396 d = nI p ∧ (∀ j, j < p → qI m4 395 j = qI m 395 j) ∧ ∀ j, j < (yPf (.op f x)).length → qI m4 395 (p + j) = bI ((yOb (.op f x) false).getD j false) := by
      intro m4 f4 e396 e395
      have e3 : ∀ j, qI m3 396 j = qI m2 396 j := fun j => by simp only [m3, qS]; rw [if_neg (by omega)]
      have e5 : ∀ j, qI m3 395 j = if j = q then bI false else qI m2 395 j := fun j => by simp only [m3, qS]; rw [if_pos trivial]
      refine ⟨f4, fun j hj => ?_, ?_, fun j hj => ?_, fun j hj => ?_⟩
      · rw [e396, e3, b3 j (by omega), a3 j hj]
      · rw [e396, e3, b3 d (by omega), a4]
      · rw [e395, if_neg (by omega), e5, if_neg (by omega), b5 j (by omega), a5 j hj]
      · show _ = bI ((yOb f false ++ (yOb x (yIs x) ++ [false])).getD j false)
        rw [el] at hj
        rw [e395, e5]
        by_cases h1 : j < (yPf f).length
        · rw [if_neg (by omega), if_neg (by omega), b5 _ (by omega), a6 j h1, getD_app1 (by rw [yOb_len]; exact h1)]
        · obtain ⟨i, rfl⟩ : ∃ i, j = (yPf f).length + i := ⟨j - (yPf f).length, by omega⟩
          rw [← yOb_len f false, getD_app2, yOb_len f false]
          by_cases h2 : i < (yPf x).length
          · rw [getD_app1 (by rw [yOb_len]; exact h2), yOb_0, ← Nat.add_assoc, if_neg (show ¬ p + (yPf f).length + i = q by omega), b6 i h2]
            by_cases h3 : i = 0
            · subst h3
              rw [if_pos rfl, Nat.add_zero]
              cases hx : yIs x with
              | true => rw [if_pos ⟨rfl, rfl⟩]
              | false =>
                rw [if_neg (fun z => by cases z.1), yOb_0]
                rfl
            · rw [if_neg h3, if_neg (fun z => h3 (by omega))]
          · have h3 : i = (yPf x).length := by omega
            subst h3
            rw [← Nat.add_assoc, if_neg (by omega), if_pos hq]
            have := getD_app2 (l := yOb x (yIs x)) (r := [false]) (j := 0)
            rw [Nat.add_zero, yOb_len] at this
            rw [this]; rfl
    rw [show p + (yPf (.op f x)).length = q + 1 by rw [el]; omega]
    cases hx : yIs x with
    | true =>
      have h64 := hl.mpr hx
      let m4 : qM := qsI m3 395 (p + (yPf f).length) (bI true)
      refine ⟨m4, hstp _ ?_, fin m4 (f3.sI (Or.inl rfl)) ?_ (fun j => ?_)⟩
      · refine EIp (by rw [h64]; rfl) ?_
        refine EgR (show qK m3 393 = 6 from k) (show qR m3 393 1 = some 395 from r1) ?_
        refine EgR (show qK m3 393 = 6 from k) (show qR m3 393 2 = some 396 from r2) ?_
        refine EaI (show qK m3 396 = 12 from k396) rfl (show d + 1 < qN m3 396 from by show d + 1 < qN m2 396; omega) (by omega) hst ?_
        refine EwI (show qK m3 395 = 14 from k395) rfl (show p + (yPf f).length < qN m3 395 from by show p + (yPf f).length < qN m2 395; omega) (by omega) (show (1 : Int32) &&& 1 = bI true by decide) ?_
        rfl
      · funext j; simp only [m4, qS]; rw [if_neg (by omega)]
      · simp only [m4, qS]
        rw [if_pos trivial, hx]
        simp
    | false =>
      have h64 : ¬ (yPf x).getD ((yPf x).length - 1) 0 = 64 := fun z => by have := hl.mp z; rw [hx] at this; cases this
      refine ⟨m3, hstp _ ?_, fin m3 f3 rfl (fun j => ?_)⟩
      · exact if_neg (fun z => h64 ((nI_eq (b := 64) (by omega) (by omega)).mp z))
      · rw [hx, if_neg (fun z => by cases z.1)]
def yWw (t : Tm) (b : Bool) : List Nat := if b = true then 40 :: yTl t false else yTl t false
theorem yWw_op (f x : Tm) (b : Bool) : yWw (.op f x) b = yWw f b ++ (yWw x (yIs x) ++ (if yIs x = true then [41] else [])) := by
  have e1 : yTl (.op f x) false = yTl f false ++ yTl x true := rfl
  have e2 : yWw x (yIs x) ++ (if yIs x = true then [41] else []) = yTl x true := by
    cases x with
    | var c => rfl
    | op g y =>
      show (40 :: (yTl g false ++ yTl y true)) ++ [41] = 40 :: (yTl g false ++ (yTl y true ++ [41]))
      rw [← List.append_assoc]; rfl
  rw [e2]
  unfold yWw
  cases b with
  | true => rw [if_pos rfl, if_pos rfl, e1]; rfl
  | false => rw [if_neg (by decide), if_neg (by decide), e1]
def dOu (a : Nat) : Prop := a = 3 ∨ a = 4
theorem c_wadd {m : qM} {ou : List Nat} {c : Nat} (hX : TxS (qK m) (qN m) (qR m) 3) (h : CTx (qI m) 3 ou) (hl : ou.length < 120) (hc : c < 128) : ∃ m2, fX7_add NF 3 (nI c) m = some m2 ∧ CTx (qI m2) 3 (ou ++ [c]) ∧ Fx dOu m m2 :=
  ⟨_, fX7_add_eq hX h hl (by omega), CTx_add h hl (by omega), (Fx.rf.sI (Or.inr rfl)).sI (Or.inl rfl)⟩
theorem TxS_fx {D : Nat → Prop} {m m2 : qM} {t : Nat} (f : Fx D m m2) (h : TxS (qK m) (qN m) (qR m) t) : TxS (qK m2) (qN m2) (qR m2) t := by
  rw [f.1, f.2.1, f.2.2.1]; exact h
theorem Sg_ou {m m2 : qM} {S : Nat} {L : List Nat} (hT : TmC m S) (f : Fx dOu m m2) (h : Sg (qI m) S L) : Sg (qI m2) S L :=
  Sg_fx f (by unfold dOu; omega) (by unfold dOu; have := hT.1; omega) h
theorem c_wr {L : List Nat} (hL : L.length ≤ 160) {S : Nat} : ∀ (t : Tm) (b : Bool) (p g : Nat) (rest ou : List Nat) (m : qM), yOk t → TmC m S → TxS (qK m) (qN m) (qR m) 3 → Sg (qI m) S L → L.drop p = yPf t ++ rest → (∀ j, j < (yPf t).length → qI m 395 (p + j) = bI ((yOb t b).getD j false)) → CTx (qI m) 3 ou → ou.length + (yWw t b).length ≤ 120 → ∃ m2, lX6_writeTo_6 NF 393 3 (g + (yPf t).length) (nI p) m = lX6_writeTo_6 NF 393 3 g (nI (p + (yPf t).length)) m2 ∧ Fx dOu m m2 ∧ CTx (qI m2) 3 (ou ++ yWw t b) := by
  intro t
  induction t with
  | var c =>
    intro b p g rest ou m ho hT hX hg hd hfl hou hl
    obtain ⟨hpL, hcc, -⟩ := drop_c (show L.drop p = c :: rest from hd)
    obtain ⟨hS, k, r0, r1, r2, r3, r4, r5, r6, k394, n394, k395, n395, k396, n396, k397, n397, k398, n398, kS, nS, kP, nP⟩ := id hT
    have hc64 := (ixL_c ho).2
    have hc87 := (ixL_c ho).1
    have h395 : qI m 395 p = bI b := hfl 0 (by show 0 < 1; omega)
    have go : ∀ (m' : qM) (ou' : List Nat), TmC m' S → TxS (qK m') (qN m') (qR m') 3 → Sg (qI m') S L → CTx (qI m') 3 ou' → ou'.length < 120 → ∃ m2, kX6_writeTo_29 NF (lX6_writeTo_6 NF 393 3 g) 393 3 (nI p) m' = lX6_writeTo_6 NF 393 3 g (nI (p + 1)) m2 ∧ Fx dOu m' m2 ∧ CTx (qI m2) 3 (ou' ++ [c]) := by
      intro m' ou' hT' hX' hg' hou' hl'
      obtain ⟨-, K, -, -, -, -, -, R5, -, -, -, -, -, -, -, -, -, -, -, KS, NS, -⟩ := id hT'
      have hat : qI m' S p = nI c := by rw [← hcc]; exact hg'.2 p hpL
      obtain ⟨m2, q1, q2, q3⟩ := c_wadd hX' hou' hl' (show c < 128 by omega)
      refine ⟨m2, ?_, q3, q2⟩
      unfold kX6_writeTo_29 kX6_writeTo_76
      refine EgR K R5 ?_
      refine EaI KS rfl (show p < qN m' S by omega) (by omega) hat ?_
      refine EIn (fun z => hc64 ((nI_eq (b := 64) (by omega) (by omega)).mp z)) ?_
      refine EgR K R5 ?_
      refine EaI KS rfl (show p < qN m' S by omega) (by omega) hat ?_
      refine EC hX'.1 q1 ?_
      rw [nI_s]
    have hpre : ∀ R, (if bI b = 0 then kX6_writeTo_29 NF (lX6_writeTo_6 NF 393 3 g) 393 3 (nI p) m else (qChk m 3 7 (fX7_add NF 3 (40 : Int32) m)).bind fun b4 => kX6_writeTo_29 NF (lX6_writeTo_6 NF 393 3 g) 393 3 (nI p) b4) = R → lX6_writeTo_6 NF 393 3 (g + 1) (nI p) m = R := by
      intro R hR
      conv => lhs; unfold lX6_writeTo_6
      refine EgI k hg.1 ?_
      refine EIn (fun z => by have := (nI_leI (by omega) (by omega)).mp z; omega) ?_
      refine EgR k r1 ?_
      refine EaI k395 rfl (show p < qN m 395 by omega) (by omega) h395 ?_
      exact hR
    show ∃ m2, lX6_writeTo_6 NF 393 3 (g + 1) (nI p) m = lX6_writeTo_6 NF 393 3 g (nI (p + 1)) m2 ∧ _
    cases b with
    | false =>
      have hl2 : ou.length + 1 ≤ 120 := hl
      obtain ⟨m2, q1, q2, q3⟩ := go m ou hT hX hg hou (by omega)
      exact ⟨m2, hpre _ (EIp rfl q1), q2, q3⟩
    | true =>
      have hl2 : ou.length + 2 ≤ 120 := hl
      obtain ⟨m1, w1, w2, w3⟩ := c_wadd hX hou (show ou.length < 120 by omega) (show 40 < 128 by omega)
      obtain ⟨m2, q1, q2, q3⟩ := go m1 (ou ++ [40]) (TmC_fx w3 hT) (TxS_fx w3 hX) (Sg_ou hT w3 hg) w2 (by simp; omega)
      refine ⟨m2, hpre _ (EIn i10 (EC hX.1 w1 q1)), w3.tr q2, ?_⟩
      rw [List.append_assoc] at q3
      exact q3
  | op f x ihf ihx =>
    intro b p g rest ou m ho hT hX hg hd hfl hou hl
    have el : (yPf (.op f x)).length = (yPf f).length + ((yPf x).length + 1) := by
      show (yPf f ++ (yPf x ++ [64])).length = _
      rw [List.length_append, List.length_append]; rfl
    have hd1 : L.drop p = yPf f ++ (yPf x ++ (64 :: rest)) := by
      rw [hd]
      show (yPf f ++ (yPf x ++ [64])) ++ rest = _
      rw [List.append_assoc, List.append_assoc]; rfl
    have hd2 := drop_more hd1
    have hd3 := drop_more hd2
    obtain ⟨hqL, hq64, -⟩ := drop_c hd3
    have hpf := yPf_pos f
    have hpx := yPf_pos x
    rw [yWw_op] at hl ⊢
    have hl2 : ou.length + ((yWw f b).length + ((yWw x (yIs x)).length + (if yIs x = true then [41] else []).length)) ≤ 120 := by
      rw [List.length_append, List.length_append] at hl; exact hl
    have hfl' : ∀ j, j < (yPf (.op f x)).length → qI m 395 (p + j) = bI ((yOb f b ++ (yOb x (yIs x) ++ [false])).getD j false) := hfl
    rw [el] at hfl'
    obtain ⟨m1, a1, a2, a3⟩ := ihf b p (g + 1 + (yPf x).length) (yPf x ++ (64 :: rest)) ou m ho.1 hT hX hg hd1 (fun j hj => by
      rw [hfl' j (by omega), getD_app1 (by rw [yOb_len]; exact hj)]) hou (by omega)
    have hg1 := Sg_ou hT a2 hg
    have hT1 := TmC_fx a2 hT
    have n395 : ¬ dOu 395 := by unfold dOu; omega
    obtain ⟨m2, b1, b2, b3⟩ := ihx (yIs x) (p + (yPf f).length) (g + 1) (64 :: rest) (ou ++ yWw f b) m1 ho.2 hT1 (TxS_fx a2 hX) hg1 hd2 (fun j hj => by
      have e := hfl' ((yPf f).length + j) (by omega)
      rw [← yOb_len f b, getD_app2, yOb_len f b, getD_app1 (by rw [yOb_len]; exact hj)] at e
      rw [a2.i n395, Nat.add_assoc]
      exact e) a3 (by rw [List.length_append]; omega)
    have f2 := a2.tr b2
    have hT2 := TmC_fx f2 hT
    have hX2 := TxS_fx f2 hX
    have hg2 := Sg_ou hT f2 hg
    obtain ⟨hS, k, r0, r1, r2, r3, r4, r5, r6, k394, n394, k395, n395', k396, n396, k397, n397, k398, n398, kS, nS, kP, nP⟩ := id hT2
    have h395 : qI m2 395 (p + (yPf f).length + (yPf x).length) = bI false := by
      have e := hfl' ((yPf f).length + (yPf x).length) (by omega)
      rw [← yOb_len f b, getD_app2, yOb_len f b] at e
      have e2 := getD_app2 (l := yOb x (yIs x)) (r := [false]) (j := 0)
      rw [Nat.add_zero, yOb_len] at e2
      rw [e2] at e
      rw [f2.i n395, Nat.add_assoc]
      exact e
    generalize hq : p + (yPf f).length + (yPf x).length = q at *
    have hat : qI m2 S q = nI 64 := by rw [hg2.2 q hqL, hq64]
    have hprev : qI m2 S (q - 1) = nI ((yPf x).getD ((yPf x).length - 1) 0) := by
      rw [hg2.2 (q - 1) (by omega), ← getD_dr hd2 (j := (yPf x).length - 1) (by omega)]
      congr 2
      omega
    have hlast : (yPf x).getD ((yPf x).length - 1) 0 < 128 := yPf_lt ho.2 _ (mem_getD (by omega))
    have hpre : ∀ R, (if nI ((yPf x).getD ((yPf x).length - 1) 0) = (64 : Int32) then (qChk m2 3 7 (fX7_add NF 3 (41 : Int32) m2)).bind fun b5 => lX6_writeTo_6 NF 393 3 g (nI (q + 1)) b5 else lX6_writeTo_6 NF 393 3 g (nI (q + 1)) m2) = R → lX6_writeTo_6 NF 393 3 (g + (yPf (.op f x)).length) (nI p) m = R := by
      intro R hR
      rw [el, show g + ((yPf f).length + ((yPf x).length + 1)) = g + 1 + (yPf x).length + (yPf f).length by omega, a1, b1]
      conv => lhs; unfold lX6_writeTo_6 kX6_writeTo_29 kX6_writeTo_76
      refine EgI k hg2.1 ?_
      refine EIn (fun z => by have := (nI_leI (by omega) (by omega)).mp z; omega) ?_
      refine EgR k r1 ?_
      refine EaI k395 rfl (show q < qN m2 395 by omega) (by omega) h395 ?_
      refine EIp rfl ?_
      refine EgR k r5 ?_
      refine EaI kS rfl (show q < qN m2 S by omega) (by omega) hat ?_
      refine EIp rfl ?_
      refine EIn (fun z => by have := (nI_leI (b := 0) (by omega) (by omega)).mp z; omega) ?_
      refine EgR k r5 ?_
      refine EaI kS (show nI q - (1 : Int32) = nI (q - 1) from nI_m1 (by omega)) (show q - 1 < qN m2 S by omega) (by omega) hprev ?_
      rw [nI_s]
      exact hR
    rw [show p + (yPf (.op f x)).length = q + 1 by rw [el]; omega]
    have hl3 := yPf_last ho.2
    cases hx : yIs x with
    | true =>
      rw [hx] at b3 hl2
      have hl4 : ou.length + ((yWw f b).length + ((yWw x true).length + 1)) ≤ 120 := hl2
      obtain ⟨m3, w1, w2, w3⟩ := c_wadd hX2 b3 (by rw [List.length_append, List.length_append]; omega) (show 41 < 128 by omega)
      refine ⟨m3, hpre _ ?_, f2.tr w3, ?_⟩
      · refine EIp (by rw [hl3.mpr hx]; rfl) ?_
        exact EC hX2.1 w1 rfl
      · rw [List.append_assoc, List.append_assoc] at w2
        exact w2
    | false =>
      rw [hx] at b3
      refine ⟨m2, hpre _ ?_, f2, ?_⟩
      · refine if_neg (fun z => ?_)
        have := hl3.mp ((nI_eq (b := 64) (by omega) (by omega)).mp z)
        rw [hx] at this
        cases this
      · rw [if_neg (by decide), List.append_nil, ← List.append_assoc]
        exact b3
/-- the term in S is written into the output, which was emptied -/
theorem c_writeTo {m : qM} {S : Nat} {t : Tm} (ho : yOk t) (hl : yLv t ≤ 80) (hw : (yTl t false).length ≤ 120) (hT : TmC m S) (hX : TxS (qK m) (qN m) (qR m) 3) (hg : Sg (qI m) S (yPf t)) (hou : CTx (qI m) 3 []) : ∃ m2, fX6_writeTo NF 393 3 m = some m2 ∧ Fx (fun a => dTr a ∨ dOu a) m m2 ∧ CTx (qI m2) 3 (yTl t false) := by
  have hlen := yPf_len t
  have hpos := yPf_pos t
  have hd : (yPf t).drop 0 = yPf t ++ [] := by rw [List.append_nil]; rfl
  obtain ⟨m1, a1, a2, a3, a4, a5, a6⟩ := c_mark (L := yPf t) (by omega) t 0 0 (NF - (yPf t).length) [] m ho hT hg hd (by omega)
  have hT1 := TmC_fx a2 hT
  have hg1 := Sg_fx a2 (by unfold dMk; omega) (by unfold dMk; have := hT.1; omega) hg
  have hou1 : CTx (qI m1) 3 [] := CTx_of (a2.i (by unfold dMk; omega)) (a2.i (by unfold dMk; omega)) hou
  obtain ⟨m2, b1, b2, b3⟩ := c_wr (L := yPf t) (by omega) t false 0 (NF - (yPf t).length) [] [] m1 ho hT1 (TxS_fx a2 hX) hg1 hd a6 hou1 (by show 0 + (yTl t false).length ≤ 120; omega)
  have hg2 := Sg_ou hT1 b2 hg1
  obtain ⟨g, hgf⟩ : ∃ g, NF - (yPf t).length = g + 1 := ⟨NF - (yPf t).length - 1, by unfold NF; omega⟩
  rw [show NF - (yPf t).length + (yPf t).length = NF by unfold NF; omega, Nat.zero_add (yPf t).length, hgf] at a1 b1
  refine ⟨m2, ?_, (a2.mono (fun a ha => Or.inl (by unfold dMk at ha; unfold dTr; omega))).tr (b2.mono (fun a ha => Or.inr ha)), b3⟩
  have k := hT.2.1
  have k1 := hT1.2.1
  have k2 := (TmC_fx b2 hT1).2.1
  have e1 : lX6_markOpenings_4 NF 393 (g + 1) (nI (0 + 1)) (nI (yPf t).length) m1 = some m1 := by
    unfold lX6_markOpenings_4
    refine EgI k1 hg1.1 ?_
    exact if_pos ((nI_leI (by omega) (by omega)).mpr (Nat.le_refl _))
  have e2 : lX6_writeTo_6 NF 393 3 (g + 1) (nI (yPf t).length) m2 = some m2 := by
    unfold lX6_writeTo_6
    refine EgI k2 hg2.1 ?_
    exact if_pos ((nI_leI (by omega) (by omega)).mpr (Nat.le_refl _))
  unfold fX6_writeTo
  refine EC k (show fX6_markOpenings NF 393 m = some m1 by unfold fX6_markOpenings; exact EB (a1.trans e1) rfl) ?_
  exact EB (b1.trans e2) rfl
end
