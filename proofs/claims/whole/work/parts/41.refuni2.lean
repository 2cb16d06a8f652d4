
-- ===== the reference unifies =====
def UP (P : (Nat → Tm) → Prop) (T : Nat → Tm) (nd : Nat) (den : Nat → Tm) : Prop := ∀ τ, P τ → ∀ n, n < nd → sb τ (den n) = sb τ (T n)
def dUn (a : Nat) : Prop := a = 449 ∨ a = 458
theorem reset_loop {fr : Nat → Int32 → Int32 → qM → Option (Int32 × qM)} {nd : Nat} {v3 v4 : Int32} (hnd : nd ≤ 78) : ∀ (f k : Nat) (m : qM), MS (qK m) (qN m) (qR m) → qI m 433 21 = nI nd → k ≤ nd → nd - k < f → ∃ m2, lX10_unifies_85 NF fr 433 v3 v4 f (nI k) m = some m2 ∧ Fx (fun a => a = 449) m m2 ∧ ∀ j, j < nd → k ≤ j → qI m2 449 j = 0 := by
  intro f
  induction f with
  | zero => intro k m _ _ _ h0; omega
  | succ f ih =>
    intro k m hM hN hk hf
    have hM0 := hM
    obtain ⟨⟨k433, -, -, -, -, -, -, -, -, -, -, -, -, -, -, -, r22, -⟩, ⟨-, -, -, -, -, -, -, -, -, -, -, -, -, -, -, k449, -⟩, ⟨-, -, -, -, -, -, -, -, -, -, -, -, -, -, -, n449, -⟩⟩ := hM
    unfold lX10_unifies_85
    by_cases e : nd ≤ k
    · refine ⟨m, ?_, Fx.rf, fun j hj hkj => by omega⟩
      simp (disch := first | assumption | omega) only [qP, Option.bind_some, hN, nA, e, ↓reduceIte]
    · have hk2 : k < qN m 449 := by omega
      have h0 : ((0 : Int32) &&& 1) = nI 0 := rfl
      have hf1 : Fx (fun a => a = 449) m (qsI m 449 k (nI 0)) := Fx.rf.sI rfl
      obtain ⟨m2, p1, p2, p3⟩ := ih (k + 1) (qsI m 449 k (nI 0)) (hf1.M hM0) hN (by omega) (by omega)
      refine ⟨m2, ?_, hf1.tr p2, fun j hj hkj => ?_⟩
      · simp (disch := first | assumption | omega) only [qP, Option.bind_some, hN, nA, e, ↓reduceIte, r22, h0, nI_s]
        exact p1
      · by_cases ej : k + 1 ≤ j
        · exact p3 j hj ej
        · obtain rfl : j = k := by omega
          -- the cell is not written again
          have key : ∀ (f i : Nat) (m m2 : qM), MS (qK m) (qN m) (qR m) → qI m 433 21 = nI nd → j < i → i ≤ nd → lX10_unifies_85 NF fr 433 v3 v4 f (nI i) m = some m2 → qI m2 449 j = qI m 449 j := by
            intro f
            induction f with
            | zero => intro i m m2 _ _ _ _ h; unfold lX10_unifies_85 at h; cases h
            | succ f ih2 =>
              intro i m m2 hM hN hji hi h
              have hM0 := hM
              obtain ⟨⟨k433, -, -, -, -, -, -, -, -, -, -, -, -, -, -, -, r22, -⟩, ⟨-, -, -, -, -, -, -, -, -, -, -, -, -, -, -, k449, -⟩, ⟨-, -, -, -, -, -, -, -, -, -, -, -, -, -, -, n449, -⟩⟩ := hM
              unfold lX10_unifies_85 at h
              by_cases e : nd ≤ i
              · simp (disch := first | assumption | omega) only [qP, Option.bind_some, hN, nA, e, ↓reduceIte] at h
                rw [Option.some.inj h]
              · have hk2 : i < qN m 449 := by omega
                simp (disch := first | assumption | omega) only [qP, Option.bind_some, hN, nA, e, ↓reduceIte, r22, h0, nI_s] at h
                have hf1 : Fx (fun a => a = 449) m (qsI m 449 i (nI 0)) := Fx.rf.sI rfl
                have := ih2 (i + 1) (qsI m 449 i (nI 0)) m2 (hf1.M hM0) hN (by omega) (by omega) h
                rw [this]
                simp only [qS, ↓reduceIte]
                rw [if_neg (by omega)]
          have := key f (j + 1) _ m2 (hf1.M hM0) hN (by omega) (by omega) p1
          rw [this]
          simp only [qS, ↓reduceIte]
          rfl
theorem Bd_bind {T : Nat → Tm} {nd v y : Nat} {V : Nat → Int32} {den : Nat → Tm} (hG : GG T nd) (hB : Bd T nd V den) (hv : v < 78) (hvu : V v = -1) (hy : y < nd) (hyt : (∃ l r, T y = .op l r) ∨ ∃ w, T y = .var w ∧ V w = -1) (hno : ¬ ocs v (den y)) : Bd T nd (fun j => if j = v then nI y else V j) (fun n => sb (s1 v (den y)) (den n)) := by
  obtain ⟨h1, h2, h3, rk, h4, h5⟩ := hB
  have hnd := hG.1
  have hyn : ¬ nI y = -1 := nI_ng (by omega)
  refine ⟨fun n u hn ht => ?_, fun n l r hn ht => ?_, fun n hn w hw => ?_, fun u => if u = v then 0 else rk u + 1, fun u k w hu hk hT hw => ?_, fun u => ?_⟩
  · by_cases e : u = v
    · subst e
      right
      refine ⟨y, hy, by simp, ?_⟩
      rcases h1 n u hn ht with ⟨_, hd⟩ | ⟨k, hk, hvk, _⟩
      · show sb (s1 u (den y)) (den n) = sb (s1 u (den y)) (den y)
        rw [hd, s1_not hno]; simp [sb, s1]
      · rw [hvu] at hvk; exact absurd hvk.symm (nI_ng (by omega))
    · rcases h1 n u hn ht with ⟨hu, hd⟩ | ⟨k, hk, hvk, hd⟩
      · left; refine ⟨by simp [e, hu], ?_⟩
        show sb (s1 v (den y)) (den n) = _
        rw [hd]; simp [sb, s1, e]
      · right; refine ⟨k, hk, by simp [e, hvk], ?_⟩
        show sb (s1 v (den y)) (den n) = sb (s1 v (den y)) (den k)
        rw [hd]
  · show sb (s1 v (den y)) (den n) = _
    rw [h2 n l r hn ht]; rfl
  · rcases s1_ocs hw with q | q
    · exact h3 n hn w q
    · exact h3 y hy w q
  · by_cases e : u = v
    · subst e
      simp only [↓reduceIte] at hu
      have hky : y = k := (nI_eq (by omega) (by omega)).mp hu
      subst hky
      rcases hyt with ⟨l, r, q⟩ | ⟨w2, q, q2⟩
      · rw [q] at hT; cases hT
      · rw [q] at hT
        injection hT with hT
        subst hT
        by_cases e2 : w2 = u
        · subst e2
          exfalso
          rcases h1 y w2 hy q with ⟨_, hd⟩ | ⟨k, hk, hvk, _⟩
          · exact hno (by rw [hd]; rfl)
          · rw [q2] at hvk; exact nI_ng (by omega) hvk.symm
        · simp [e2, q2] at hw
    · simp only [e, ↓reduceIte] at hu ⊢
      by_cases e2 : w = v
      · simp [e2]
      · simp only [e2, ↓reduceIte] at hw ⊢
        have := h4 u k w hu hk hT hw
        omega
  · have hc : cnt (fun j => decide ((if j = v then nI y else V j) = -1)) 78 + 1 = cnt (fun j => decide (V j = -1)) 78 := by
      apply cnt_set (k := v) hv
      · simp [hvu]
      · simp [hyn]
      · intro j _ hj; simp [hj]
    have := h5 u
    show (if u = v then 0 else rk u + 1) + cnt (fun j => decide ((if j = v then nI y else V j) = -1)) 78 ≤ 78
    by_cases e : u = v
    · rw [if_pos e]; omega
    · rw [if_neg e]; omega
def UPost (P : (Nat → Tm) → Prop) (T : Nat → Tm) (nd : Nat) (den : Nat → Tm) (a b : Nat) (r : Int32) (m2 : qM) : Prop := (r = 0 ∧ ∀ τ, ¬ P τ) ∨ (r = 1 ∧ ∃ den2 ρ, RI m2 T nd den2 ∧ UP P T nd den2 ∧ (∀ n, n < nd → den2 n = sb ρ (den n)) ∧ den2 a = den2 b)
theorem uni_var {P : (Nat → Tm) → Prop} {T : Nat → Tm} {nd x y v : Nat} {den : Nat → Tm} {m : qM} {fr : Nat → Int32 → Int32 → qM → Option (Int32 × qM)} (hG : GG T nd) (hI : RI m T nd den) (hU : UP P T nd den) (hx : x < nd) (hy : y < nd) (hP : ∀ τ, P τ → sb τ (den x) = sb τ (den y)) (ht : T x = .var v) (hvu : qI m 458 v = -1) (hyt : (∃ l r, T y = .op l r) ∨ ∃ w, T y = .var w ∧ qI m 458 w = -1) (hne : ¬ T y = .var v) : ∃ m2 r, kX10_unifies_73 NF fr 433 (nI x) (nI y) m = some (r, m2) ∧ Fx dUn m m2 ∧ UPost P T nd den x y r m2 := by
  have hI0 := hI
  obtain ⟨hM, hR, hB, hN⟩ := hI
  have hM0 := hM
  obtain ⟨⟨k433, r0, r1, r2, r3, r4, r6, r10, r12, r14, r15, r16, r17, r18, r19, r20, r22, r23, r26, r28, r29, r30, r31, r33, r34, r37⟩, ⟨k434, k435, k436, k437, k438, k439, k440, k441, k442, k443, k444, k445, k446, k447, k448, k449, k450, k451, k452, k453, k454, k455, k456, k457, k458⟩, ⟨n434, n435, n436, n437, n438, n439, n440, n441, n442, n443, n444, n445, n446, n447, n448, n449, n450, n451, n452, n453, n454, n455, n456, n457, n458⟩⟩ := hM
  have hnd := hG.1
  have hx2 : x < qN m 446 := by omega
  have e1 := (hR x hx).1
  rw [ht] at e1
  have e2 : qI m 446 x = nI v := e1
  have hv78 : v < 78 := bel_var.mp (ht ▸ hG.2.1 x hx)
  have h0 : ¬ nI v < 0 := nI_pos (by omega)
  have hdx : den x = .var v := by
    rcases hB.1 x v hx ht with ⟨_, hd⟩ | ⟨j, hj, hvj, _⟩
    · exact hd
    · rw [hvu] at hvj; exact absurd hvj.symm (nI_ng (by omega))
  obtain ⟨m1, p1, p2, p3⟩ := reset_loop (fr := fr) (v3 := nI x) (v4 := nI y) hnd NF 0 m hM0 hN (by omega) (by unfold NF; omega)
  have hI1 := hI0.fx p2
  have hvu1 : qI m1 458 v = -1 := by rw [p2.i (by simp)]; exact hvu
  have k1 : qK m1 433 = 10 := hI1.1.1.1
  have r18' : qR m1 433 18 = some 446 := by rw [p2.2.2.1]; exact r18
  have K446' : qK m1 446 = 12 := by rw [p2.1]; exact k446
  have N446' : x < qN m1 446 := by rw [p2.2.1]; exact hx2
  have E2' : qI m1 446 x = nI v := by rw [p2.i (by simp)]; exact e2
  obtain ⟨m2, b, q1, q2, q3⟩ := m_occurs hG hv78 kR m1 y hI1 hvu1 hy (by have := cnt_le (unS m1) 78; unfold kR; omega) (fun k hk hks => absurd (p3 k hk (by omega)) hks)
  have hI2 := hI1.fx q2
  have f02 : Fx (fun a => a = 449) m m2 := p2.tr q2
  have p1' : lX10_unifies_85 NF fr 433 (nI x) (nI y) NF 0 m = some m1 := p1
  unfold kX10_unifies_73
  rcases q3 with ⟨qb, qo⟩ | ⟨qb, qo, _, _⟩
  · subst qb
    refine ⟨m2, 0, ?_, f02.mono (fun a ha => Or.inl ha), Or.inl ⟨rfl, fun τ hτ => ?_⟩⟩
    · simp (disch := first | assumption | omega) only [qP, qChk_, Option.bind_some, r18, e2, h0, p1', r18', E2', q1, ng1, ↓reduceIte]
    · have hq := hP τ hτ
      rw [hdx] at hq
      cases hdy : den y with
      | var w =>
        rcases hyt with ⟨l, r, q⟩ | ⟨w2, q, q4⟩
        · rw [hB.2.1 y l r hy q] at hdy; cases hdy
        · rcases hB.1 y w2 hy q with ⟨_, hd⟩ | ⟨j, hj, hvj, _⟩
          · rw [hd] at qo
            have : w2 = v := qo
            exact hne (this ▸ q)
          · rw [q4] at hvj; exact absurd hvj.symm (nI_ng (by omega))
      | op l r =>
        rw [hdy] at hq qo
        have h3 : tS (τ v) < tS (sb τ (.op l r)) := ocs_op qo
        have h4 : τ v = sb τ (.op l r) := hq
        rw [h4] at h3
        omega
  · subst qb
    have k2 : qK m2 433 = 10 := hI2.1.1.1
    have r18'' : qR m2 433 18 = some 446 := by rw [f02.2.2.1]; exact r18
    have r37'' : qR m2 433 37 = some 458 := by rw [f02.2.2.1]; exact r37
    have K446'' : qK m2 446 = 12 := by rw [f02.1]; exact k446
    have N446'' : x < qN m2 446 := by rw [f02.2.1]; exact hx2
    have E2'' : qI m2 446 x = nI v := by rw [f02.i (by simp)]; exact e2
    have K458'' : qK m2 458 = 12 := by rw [f02.1]; exact k458
    have N458'' : v < qN m2 458 := by rw [f02.2.1]; omega
    have hvu2 : qI m2 458 v = -1 := by rw [f02.i (by simp)]; exact hvu
    have hyt2 : (∃ l r, T y = .op l r) ∨ ∃ w, T y = .var w ∧ qI m2 458 w = -1 := by rw [f02.i (by simp)]; exact hyt
    have hb := Bd_bind hG hI2.2.2.1 hv78 hvu2 hy hyt2 qo
    refine ⟨qsI m2 458 v (nI y), 1, ?_, (f02.mono (fun a ha => Or.inl ha)).sI (Or.inr rfl), Or.inr ⟨rfl, fun n => sb (s1 v (den y)) (den n), s1 v (den y), ⟨?_, ?_, ?_, ?_⟩, ?_, fun n hn => rfl, ?_⟩⟩
    · simp (disch := first | assumption | omega) only [qP, qChk_, Option.bind_some, r18, e2, h0, p1', r18', E2', q1, r37'', r18'', E2'', ↓reduceIte]
    · exact hI2.1
    · exact hI2.2.1
    · have e : qI (qsI m2 458 v (nI y)) 458 = fun j => if j = v then nI y else qI m2 458 j := by
        funext j; simp only [qS, ↓reduceIte]
      rw [e]; exact hb
    · exact hI2.2.2.2
    · intro τ hτ n hn
      rw [← hU τ hτ n hn]
      apply s1_abs
      have hq := hP τ hτ
      rw [hdx] at hq
      exact hq
    · show sb (s1 v (den y)) (den x) = sb (s1 v (den y)) (den y)
      rw [hdx, s1_not qo]
      simp [sb, s1]
theorem m_unifies {P : (Nat → Tm) → Prop} {T : Nat → Tm} {nd : Nat} (hG : GG T nd) : ∀ (f : Nat) (m : qM) (den : Nat → Tm) (a b : Nat) (A : Nat → Bool), RI m T nd den → UP P T nd den → a < nd → b < nd → (∀ τ, P τ → sb τ (den a) = sb τ (den b)) → (∀ k, k < nd → A k = true → psb (den a) (den k)) → cnt (fun j => ! A j) 78 + 2 ≤ f → ∃ m2 r, fX10_unifies NF f 433 (nI a) (nI b) m = some (r, m2) ∧ Fx dUn m m2 ∧ UPost P T nd den a b r m2 := by
  intro f
  induction f with
  | zero => intro m den a b A _ _ _ _ _ _ h0; omega
  | succ f ih =>
    intro m den a b A hI hU ha hb hP hA hf
    obtain ⟨x, x1, x2, x3, x4⟩ := m_seek hI hG ha
    obtain ⟨y, y1, y2, y3, y4⟩ := m_seek hI hG hb
    have hI0 := hI
    obtain ⟨hM, hR, hB, hN⟩ := hI
    have hM0 := hM
    obtain ⟨⟨k433, -, -, -, -, -, -, -, -, -, -, -, -, r18, r19, r20, -⟩, ⟨-, -, -, -, -, -, -, -, -, -, -, -, k446, k447, k448, -⟩, ⟨-, -, -, -, -, -, -, -, -, -, -, -, n446, n447, n448, -⟩⟩ := hM
    have hnd := hG.1
    have hxn : x < qN m 446 := by omega
    have hyn : y < qN m 446 := by omega
    have hx78 : x < 78 := by omega
    have hy78 : y < 78 := by omega
    have hxyN : x ≠ y → ¬ nI x = nI y := fun h e => h ((nI_eq (by omega) (by omega)).mp e)
    have hPxy : ∀ τ, P τ → sb τ (den x) = sb τ (den y) := by rw [x3, y3]; exact hP
    have post : ∀ r m2, UPost P T nd den x y r m2 → UPost P T nd den a b r m2 := by
      intro r m2 h
      rcases h with h | ⟨h1, den2, ρ, h2, h3, h4, h5⟩
      · exact Or.inl h
      · refine Or.inr ⟨h1, den2, ρ, h2, h3, h4, ?_⟩
        rw [h4 a ha, h4 b hb, ← x3, ← y3, ← h4 x x2, ← h4 y y2, h5]
    have postS : ∀ r m2, UPost P T nd den y x r m2 → UPost P T nd den a b r m2 := by
      intro r m2 h
      apply post
      rcases h with h | ⟨h1, den2, ρ, h2, h3, h4, h5⟩
      · exact Or.inl h
      · exact Or.inr ⟨h1, den2, ρ, h2, h3, h4, h5.symm⟩
    unfold fX10_unifies
    by_cases exy : x = y
    · refine ⟨m, 1, ?_, Fx.rf, Or.inr ⟨rfl, den, .var, hI0, hU, fun n _ => (sb_var _).symm, ?_⟩⟩
      · simp (disch := first | assumption | omega) only [qP, qChk_, Option.bind_some, x1, y1, nA, exy, ↓reduceIte]
      · rw [← x3, ← y3, exy]
    have exyN := hxyN exy
    have ex1 := (hR x x2).1
    have ey1 := (hR y y2).1
    cases htx : T x with
    | var v =>
      have hvu : qI m 458 v = -1 := by
        rcases x4 with ⟨l, r, q⟩ | ⟨w, q, q2⟩
        · rw [htx] at q; cases q
        · rw [htx] at q; injection q with q; rw [q]; exact q2
      have hv78 : v < 78 := bel_var.mp (htx ▸ hG.2.1 x x2)
      rw [htx] at ex1
      have ex2 : qI m 446 x = nI v := ex1
      have h0 : ¬ nI v < 0 := nI_pos (by omega)
      have h00 : (0 : Int32) ≤ nI v := nI_g0 (by omega)
      by_cases hs : T y = .var v
      · rw [hs] at ey1
        have ey2 : qI m 446 y = nI v := ey1
        refine ⟨m, 1, ?_, Fx.rf, post _ _ (Or.inr ⟨rfl, den, .var, hI0, hU, fun n _ => (sb_var _).symm, ?_⟩)⟩
        · simp (disch := first | assumption | omega) only [qP, qChk_, Option.bind_some, x1, y1, nA, exy, r18, ex2, ey2, h0, ↓reduceIte]
        · have d1 : den x = .var v := by
            rcases hB.1 x v x2 htx with ⟨_, hd⟩ | ⟨j, hj, hvj, _⟩
            · exact hd
            · rw [hvu] at hvj; exact absurd hvj.symm (nI_ng (by omega))
          have d2 : den y = .var v := by
            rcases hB.1 y v y2 hs with ⟨_, hd⟩ | ⟨j, hj, hvj, _⟩
            · exact hd
            · rw [hvu] at hvj; exact absurd hvj.symm (nI_ng (by omega))
          rw [d1, d2]
      · obtain ⟨m2, r, p1, p2, p3⟩ := uni_var (fr := fX10_unifies NF f) hG hI0 hU x2 y2 hPxy htx hvu y4 hs
        refine ⟨m2, r, ?_, p2, post _ _ p3⟩
        have hcmp : ¬ nI v = qI m 446 y := by
          rw [ey1]
          cases hty : T y with
          | var w =>
            have hw78 : w < 78 := bel_var.mp (hty ▸ hG.2.1 y y2)
            intro e
            have e2 : nI v = nI w := e
            rw [nI_eq (by omega) (by omega)] at e2
            exact hs (by rw [hty, e2])
          | op l r => exact nI_ng (by omega)
        unfold kX10_unifies_46
        simp (disch := first | assumption | omega) only [qP, qChk_, Option.bind_some, x1, y1, nA, exy, r18, ex2, h0, h00, hcmp, ↓reduceIte]
        exact p1
    | op lx rx =>
      rw [htx] at ex1
      have ex2 : qI m 446 x = -1 := ex1
      cases hty : T y with
      | var v =>
        have hvu : qI m 458 v = -1 := by
          rcases y4 with ⟨l, r, q⟩ | ⟨w, q, q2⟩
          · rw [hty] at q; cases q
          · rw [hty] at q; injection q with q; rw [q]; exact q2
        have hv78 : v < 78 := bel_var.mp (hty ▸ hG.2.1 y y2)
        rw [hty] at ey1
        have ey2 : qI m 446 y = nI v := ey1
        have h0 : ¬ nI v < 0 := nI_pos (by omega)
        have h00 : (0 : Int32) ≤ nI v := nI_g0 (by omega)
        obtain ⟨g, rfl⟩ : ∃ g, f = g + 1 := ⟨f - 1, by omega⟩
        obtain ⟨m2, r, p1, p2, p3⟩ := uni_var (fr := fX10_unifies NF g) hG hI0 hU y2 x2 (fun τ hτ => (hPxy τ hτ).symm) hty hvu (Or.inl ⟨lx, rx, htx⟩) (by rw [htx]; intro h; cases h)
        have sx : fX10_seek NF 433 (nI x) m = some (nI x, m) := by
          unfold fX10_seek
          rw [show lX10_seek_2 NF 433 NF (nI x) m = some (nI x, m) from seek_term (f := 6999) hI0 hG x2 (Or.inl ⟨lx, rx, htx⟩)]; rfl
        have sy : fX10_seek NF 433 (nI y) m = some (nI y, m) := by
          unfold fX10_seek
          rw [show lX10_seek_2 NF 433 NF (nI y) m = some (nI y, m) from seek_term (f := 6999) hI0 hG y2 (Or.inr ⟨v, hty, hvu⟩)]; rfl
        have hr1 : r &&& 1 = r := by
          rcases p3 with ⟨q, _⟩ | ⟨q, _⟩
          · rw [q]; rfl
          · rw [q]; rfl
        refine ⟨m2, r, ?_, p2, postS _ _ p3⟩
        have hcmp : ¬ nI v = -1 := nI_ng (by omega)
        have eyx : ¬ y = x := fun e => exy e.symm
        have inner : fX10_unifies NF (g + 1) 433 (nI y) (nI x) m = some (r, m2) := by
          unfold fX10_unifies kX10_unifies_46
          simp (disch := first | assumption | omega) only [qP, qChk_, Option.bind_some, sx, sy, nA, eyx, r18, ex2, ey2, h0, h00, hcmp, ↓reduceIte]
          exact p1
        unfold kX10_unifies_46
        simp (disch := first | assumption | omega) only [qP, qChk_, Option.bind_some, x1, y1, nA, exy, r18, ex2, ey2, h0, ng1, ↓reduceIte, inner, hr1]
      | op ly ry =>
        rw [hty] at ey1
        have ey2 : qI m 446 y = -1 := ey1
        obtain ⟨gx1, gx2, gx3⟩ := hG.2.2 x lx rx x2 htx
        obtain ⟨gy1, gy2, gy3⟩ := hG.2.2 y ly ry y2 hty
        obtain ⟨lx1, lx2⟩ := (hR x x2).2 lx rx htx
        obtain ⟨ly1, ly2⟩ := (hR y y2).2 ly ry hty
        have dx : den x = .op (den (x + 1)) (den (x + 1 + tS lx)) := hB.2.1 x lx rx x2 htx
        have dy : den y = .op (den (y + 1)) (den (y + 1 + tS ly)) := hB.2.1 y ly ry y2 hty
        have hxn7 : x < qN m 447 := by omega
        have hyn7 : y < qN m 447 := by omega
        have hAx : A x = false := by
          cases q : A x with
          | false => rfl
          | true =>
            have := psb_sz (hA x x2 q)
            rw [x3] at this
            omega
        have hcnt : cnt (fun j => ! (if j = x then true else A j)) 78 + 1 = cnt (fun j => ! A j) 78 := by
          apply cnt_set (k := x) hx78
          · simp [hAx]
          · simp
          · intro j _ hj; simp [hj]
        have hP1 : ∀ τ, P τ → sb τ (den (x + 1)) = sb τ (den (y + 1)) := by
          intro τ hτ
          have := hPxy τ hτ
          rw [dx, dy] at this
          simp only [sb] at this
          injection this
        obtain ⟨m2, r, p1, p2, p3⟩ := ih m den (x + 1) (y + 1) (fun j => if j = x then true else A j) hI0 hU (by omega) (by omega) hP1 (by
          intro k hk hAk
          by_cases e : k = x
          · rw [e, dx]; exact Or.inl (Or.inl rfl)
          · have hAk2 : A k = true := by simpa [e] using hAk
            have := hA k hk hAk2
            rw [← x3, dx] at this
            exact psb_l this) (by omega)
        rcases p3 with ⟨pr, pn⟩ | ⟨pr, den2, ρ, q1, q2, q3, q4⟩
        · subst pr
          refine ⟨m2, 0, ?_, p2, Or.inl ⟨rfl, pn⟩⟩
          unfold kX10_unifies_46 kX10_unifies_73
          repeat (first | refine EgR (by first | assumption | (simp only [qS]; assumption)) (by first | assumption | (simp only [qS]; assumption)) ?_ | refine EgI (by first | assumption | (simp only [qS]; assumption)) (by first | assumption | (simp only [qS, ↓reduceIte]; assumption) | exact rfl) ?_ | refine EpI (by first | assumption | (simp only [qS]; assumption)) ?_ | refine EaI (by first | assumption | (simp only [qS]; assumption)) (by first | exact rfl | exact nI_s _ | exact nI_add _ _ | exact nI_p (by omega) | exact nI_m1 (by omega)) (by first | assumption | omega | (simp only [qS]; omega)) (by omega) (by first | assumption | (simp only [qS, ↓reduceIte]; assumption) | exact rfl) ?_ | refine EwI (by first | assumption | (simp only [qS]; assumption)) (by first | exact rfl | exact nI_s _ | exact nI_add _ _ | exact nI_p (by omega) | exact nI_m1 (by omega)) (by first | assumption | omega | (simp only [qS]; omega)) (by omega) ?_ | refine EaR (by first | assumption | (simp only [qS]; assumption)) (by first | exact rfl | exact nI_s _ | exact nI_add _ _ | exact nI_p (by omega) | exact nI_m1 (by omega)) (by first | assumption | omega | (simp only [qS]; omega)) (by omega) (by first | assumption | (simp only [qS]; assumption)) ?_ | refine EC (by first | assumption | (simp only [qS]; assumption)) (by assumption) ?_ | refine EB (by assumption) ?_ | refine EIp (by first | assumption | decide) ?_ | refine EIn (by first | assumption | decide) ?_)
          rfl
        · subst pr
          have q10 := q1
          obtain ⟨hM2, hR2, hB2, hN2⟩ := q1
          obtain ⟨⟨k433', -, -, -, -, -, -, -, -, -, -, -, -, r18', r19', r20', -⟩, ⟨-, -, -, -, -, -, -, -, -, -, -, -, k446', k447', k448', -⟩, ⟨-, -, -, -, -, -, -, -, -, -, -, -, n446', n447', n448', -⟩⟩ := hM2
          have hxn8 : x < qN m2 448 := by omega
          have hyn8 : y < qN m2 448 := by omega
          obtain ⟨-, lx2'⟩ := (hR2 x x2).2 lx rx htx
          obtain ⟨-, ly2'⟩ := (hR2 y y2).2 ly ry hty
          have d2x : den2 x = .op (den2 (x + 1)) (den2 (x + 1 + tS lx)) := hB2.2.1 x lx rx x2 htx
          have d2y : den2 y = .op (den2 (y + 1)) (den2 (y + 1 + tS ly)) := hB2.2.1 y ly ry y2 hty
          have hP2 : ∀ τ, P τ → sb τ (den2 (x + 1 + tS lx)) = sb τ (den2 (y + 1 + tS ly)) := by
            intro τ hτ
            have h1 := hPxy τ hτ
            rw [hU τ hτ x x2, hU τ hτ y y2, ← q2 τ hτ x x2, ← q2 τ hτ y y2, d2x, d2y] at h1
            simp only [sb] at h1
            injection h1
          obtain ⟨m3, r3, s1', s2', s3'⟩ := ih m2 den2 (x + 1 + tS lx) (y + 1 + tS ly) (fun j => if j = x then true else A j) q10 q2 (by omega) (by omega) hP2 (by
            intro k hk hAk
            by_cases e : k = x
            · rw [e, d2x]; exact Or.inr (Or.inl rfl)
            · have hAk2 : A k = true := by simpa [e] using hAk
              have := hA k hk hAk2
              rw [← x3, dx] at this
              have := psb_sb ρ (psb_r this)
              rw [← q3 k hk, ← q3 (x + 1 + tS lx) (by omega)] at this
              exact this) (by omega)
          rcases s3' with ⟨pr, pn⟩ | ⟨pr, den3, ρ3, t1, t2, t3, t4⟩
          · subst pr
            refine ⟨m3, 0, ?_, p2.tr s2', Or.inl ⟨rfl, pn⟩⟩
            unfold kX10_unifies_46 kX10_unifies_73
            repeat (first | refine EgR (by first | assumption | (simp only [qS]; assumption)) (by first | assumption | (simp only [qS]; assumption)) ?_ | refine EgI (by first | assumption | (simp only [qS]; assumption)) (by first | assumption | (simp only [qS, ↓reduceIte]; assumption) | exact rfl) ?_ | refine EpI (by first | assumption | (simp only [qS]; assumption)) ?_ | refine EaI (by first | assumption | (simp only [qS]; assumption)) (by first | exact rfl | exact nI_s _ | exact nI_add _ _ | exact nI_p (by omega) | exact nI_m1 (by omega)) (by first | assumption | omega | (simp only [qS]; omega)) (by omega) (by first | assumption | (simp only [qS, ↓reduceIte]; assumption) | exact rfl) ?_ | refine EwI (by first | assumption | (simp only [qS]; assumption)) (by first | exact rfl | exact nI_s _ | exact nI_add _ _ | exact nI_p (by omega) | exact nI_m1 (by omega)) (by first | assumption | omega | (simp only [qS]; omega)) (by omega) ?_ | refine EaR (by first | assumption | (simp only [qS]; assumption)) (by first | exact rfl | exact nI_s _ | exact nI_add _ _ | exact nI_p (by omega) | exact nI_m1 (by omega)) (by first | assumption | omega | (simp only [qS]; omega)) (by omega) (by first | assumption | (simp only [qS]; assumption)) ?_ | refine EC (by first | assumption | (simp only [qS]; assumption)) (by assumption) ?_ | refine EB (by assumption) ?_ | refine EIp (by first | assumption | decide) ?_ | refine EIn (by first | assumption | decide) ?_)
            rfl
          · subst pr
            refine ⟨m3, 1, ?_, p2.tr s2', post _ _ (Or.inr ⟨rfl, den3, fun v => sb ρ3 (ρ v), t1, t2, fun n hn => ?_, ?_⟩)⟩
            · unfold kX10_unifies_46 kX10_unifies_73
              repeat (first | refine EgR (by first | assumption | (simp only [qS]; assumption)) (by first | assumption | (simp only [qS]; assumption)) ?_ | refine EgI (by first | assumption | (simp only [qS]; assumption)) (by first | assumption | (simp only [qS, ↓reduceIte]; assumption) | exact rfl) ?_ | refine EpI (by first | assumption | (simp only [qS]; assumption)) ?_ | refine EaI (by first | assumption | (simp only [qS]; assumption)) (by first | exact rfl | exact nI_s _ | exact nI_add _ _ | exact nI_p (by omega) | exact nI_m1 (by omega)) (by first | assumption | omega | (simp only [qS]; omega)) (by omega) (by first | assumption | (simp only [qS, ↓reduceIte]; assumption) | exact rfl) ?_ | refine EwI (by first | assumption | (simp only [qS]; assumption)) (by first | exact rfl | exact nI_s _ | exact nI_add _ _ | exact nI_p (by omega) | exact nI_m1 (by omega)) (by first | assumption | omega | (simp only [qS]; omega)) (by omega) ?_ | refine EaR (by first | assumption | (simp only [qS]; assumption)) (by first | exact rfl | exact nI_s _ | exact nI_add _ _ | exact nI_p (by omega) | exact nI_m1 (by omega)) (by first | assumption | omega | (simp only [qS]; omega)) (by omega) (by first | assumption | (simp only [qS]; assumption)) ?_ | refine EC (by first | assumption | (simp only [qS]; assumption)) (by assumption) ?_ | refine EB (by assumption) ?_ | refine EIp (by first | assumption | decide) ?_ | refine EIn (by first | assumption | decide) ?_)
              rfl
            · rw [t3 n hn, q3 n hn, sb_sb]
            · rw [t1.2.2.1.2.1 x lx rx x2 htx, t1.2.2.1.2.1 y ly ry y2 hty, t4, t3 (x + 1) (by omega), t3 (y + 1) (by omega), q4]
