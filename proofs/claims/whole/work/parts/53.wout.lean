section
-- ===== the class writes a class of parts out =====
noncomputable def hvF (T : Nat → Tm) (nd : Nat) (hd : Nat → Nat) (v : Nat) : Nat := hd (Classical.epsilon (fun n => n < nd ∧ T n = .var v))
theorem hvF_eq {T : Nat → Tm} {nd n v : Nat} {hd : Nat → Nat} (hu : ∀ n k v, n < nd → k < nd → T n = .var v → T k = .var v → hd n = hd k) (hn : n < nd) (ht : T n = .var v) : hvF T nd hd v = hd n := by
  obtain ⟨w1, w2⟩ := Classical.epsilon_spec (p := fun n => n < nd ∧ T n = .var v) ⟨n, hn, ht⟩
  exact hu _ _ v w1 hn w2 ht
def rem (hd : Nat → Nat) (den : Nat → Tm) : List Nat → List Nat
  | [] => []
  | k :: st => pol (den (hd k)) ++ rem hd den st
def StR (I : Nat → Nat → Int32) : List Nat → Prop
  | [] => True
  | k :: st => I 137 st.length = nI k ∧ StR I st
theorem StR_of {I I2 : Nat → Nat → Int32} : ∀ {st : List Nat}, StR I st → (∀ j, j < st.length → I2 137 j = I 137 j) → StR I2 st
  | [], _, _ => trivial
  | k :: st, h, e => ⟨(e st.length (by simp)).trans h.1, StR_of h.2 (fun j hj => e j (by simp; omega))⟩
theorem rem_len {hd : Nat → Nat} {den : Nat → Tm} : ∀ {st : List Nat}, st.length ≤ (rem hd den st).length
  | [] => Nat.le_refl _
  | k :: st => by
    have h := rem_len (hd := hd) (den := den) (st := st)
    have h2 := tS_pos (den (hd k))
    simp only [rem, List.length_append, List.length_cons, pol_len]
    omega
def dWo (f a : Nat) : Prop := dFA f 141 a ∨ a = 137
theorem Sol_fx {f : Nat} {m m2 : qM} {T : Nat → Tm} {nd a b : Nat} {hd : Nat → Nat} {shp : Nat → Option Nat} {den : Nat → Tm} (hf : f + 1 < 132 ∨ 141 < f) (h : Sol m T nd a b hd shp den) (hx : Fx (dWo f) m m2) : Sol m2 T nd a b hd shp den := by
  obtain ⟨h1, h2, h3, h4⟩ := h
  refine ⟨xU_of h1 hx, fun n hn => ?_, fun n hn => ?_, h4⟩
  · rw [hx.i (show ¬ dWo f 134 by unfold dWo dFA dF; omega), hx.i (show ¬ dWo f 135 by unfold dWo dFA dF; omega), hx.i (show ¬ dWo f 133 by unfold dWo dFA dF; omega)]
    exact h2 n hn
  · rw [hx.i (show ¬ dWo f 136 by unfold dWo dFA dF; omega)]
    exact h3 n hn
def NsV (T : Nat → Tm) (nd : Nat) (hd : Nat → Nat) (ns : List Nat) : Prop := ∀ v, v ∈ ns → ∃ x, x < nd ∧ hd x = x ∧ T x = .var v
theorem c_wLoop {T : Nat → Tm} {nd a b f : Nat} {hd : Nat → Nat} {shp : Nat → Option Nat} {den : Nat → Tm} (hG : GG T nd) (hf : f + 1 < 132 ∨ 141 < f) : ∀ (n : Nat) (st cs ns : List Nat) (m : qM), Sol m T nd a b hd shp den → FmS (qK m) (qN m) (qR m) f → (∀ k, k ∈ st → k < nd) → StR (qI m) st → cs.length + (rem hd den st).length ≤ 39 → ns.length ≤ 12 → NsV T nd hd ns → CFb (qI m) f cs ns.length → NmR (qI m) 141 (hvF T nd hd) ns → (rem hd den st).length < n →
    ∃ m2, Fx (dWo f) m m2 ∧ (((nm ns (rem hd den st)).length ≤ 12 ∧ lX8_writeOut_35 NF 132 f n (nI st.length) (nI cs.length) m = some (.inl m2) ∧ CFb (qI m2) f (cs ++ cn ns (rem hd den st)) (nm ns (rem hd den st)).length) ∨ (12 < (nm ns (rem hd den st)).length ∧ lX8_writeOut_35 NF 132 f n (nI st.length) (nI cs.length) m = some (.inr (-5, m2)))) := by
  have hnd := hG.1
  intro n
  induction n with
  | zero => intro st cs ns m _ _ _ _ _ _ _ _ _ h; omega
  | succ n ih =>
    intro st cs ns m hS hF hst hR hlen hns hV hC hN hn
    have hS0 := hS
    obtain ⟨hU, hUV, hh1, hh2, hh3, hh4, -⟩ := hS
    obtain ⟨k132, r0, r1, r2, r3, r4, r5, r6, r7, r8, k133, n133, k134, n134, k135, n135, k136, n136, k137, n137, k138, n138, k139, n139, k140, n140, k141, n141, -⟩ := hU
    have hkf : qK m f = 0 := hF.1
    cases st with
    | nil =>
      refine ⟨m, Fx.rf, Or.inl ⟨hns, ?_, by simpa [rem, cn, nm] using hC⟩⟩
      conv => lhs; unfold lX8_writeOut_35
      by_cases e : 39 ≤ cs.length
      · refine EIp ((nI_leI (a := 39) (by omega) (by have := hC.2.2.1; omega)).mpr e) ?_
        rfl
      · refine EIn (fun z => e ((nI_leI (a := 39) (by omega) (by omega)).mp z)) ?_
        refine EIp (show nI 0 ≤ 0 by decide) ?_
        rfl
    | cons k st =>
      have hk : k < nd := hst k (by simp)
      have hst2 : ∀ j, j ∈ st → j < nd := fun j hj => hst j (by simp [hj])
      have hpk := tS_pos (den (hd k))
      have hrl := rem_len (hd := hd) (den := den) (st := st)
      simp only [rem, List.length_append, pol_len] at hlen hn
      obtain ⟨v1, v2, v3⟩ := hUV k hk
      obtain ⟨x1, x2, x3⟩ := hh1 k hk
      obtain ⟨w1, w2, w3⟩ := hUV (hd k) x1
      have c1 : ¬ (39 : Int32) ≤ nI cs.length := fun z => by have := (nI_leI (a := 39) (by omega) (by omega)).mp z; omega
      have c2 : ¬ nI (k :: st).length ≤ 0 := fun z => by have := (nI_leI (b := 0) (by simp; omega) (by omega)).mp z; simp at this
      have e1 : nI (k :: st).length + (-1 : Int32) = nI st.length := by rw [nI_p (by simp)]; simp
      have s137 : qI m 137 st.length = nI k := hR.1
      cases hs : shp (hd k) with
      | none =>
        obtain ⟨v, t1, t2⟩ := hh3 k hk hs
        rw [hs] at w2
        have w2' : qI m 135 (hd k) = -1 := w2
        have hv78 : v < 78 := hG.2.1 (hd k) x1 v (by rw [t1]; rfl)
        have hg : hvF T nd hd v = hd k := by rw [hvF_eq hh4 x1 t1, x2]
        have hgb : ∀ a, (a ∈ ns ∨ a = v) → hvF T nd hd a < 2 ^ 31 := by
          intro a ha
          rcases ha with ha | rfl
          · obtain ⟨x, y1, y2, y3⟩ := hV a ha
            rw [hvF_eq hh4 y1 y3, y2]; omega
          · rw [hg]; omega
        have hgi : ∀ a, a ∈ ns → hvF T nd hd a = hvF T nd hd v → a = v := by
          intro a ha e
          obtain ⟨x, y1, y2, y3⟩ := hV a ha
          rw [hg, hvF_eq hh4 y1 y3, y2] at e
          rw [e, t1] at y3
          injection y3 with y3
          exact y3.symm
        obtain ⟨m2, r, p1, p2, p3⟩ := c_addVar (A := 141) (g := hvF T nd hd) (v := v) hF (by omega) (by omega) k141 n141 hC hns hN hgb hgi (by omega)
        rw [hg] at p1
        have f2 : Fx (dWo f) m m2 := p2.mono (fun a h => Or.inl h)
        have erem : rem hd den (k :: st) = [v] ++ rem hd den st := by simp only [rem, t2, pol]
        have hpre : ∀ R, (if r = 0 then some (.inr ((-5 : Int32), m2)) else lX8_writeOut_35 NF 132 f n (nI st.length) (nI cs.length + (1 : Int32)) m2) = R → lX8_writeOut_35 NF 132 f (n + 1) (nI (k :: st).length) (nI cs.length) m = R := by
          intro R hR
          conv => lhs; unfold lX8_writeOut_35 kX8_writeOut_130
          refine EIn c1 ?_
          refine EIn c2 ?_
          refine EgR k132 r1 ?_
          refine EgR k132 r4 ?_
          refine EaI k137 e1 (by omega) (by omega) s137 ?_
          refine EaI k134 rfl (by omega) (by omega) v1 ?_
          refine EgR k132 r2 ?_
          refine EaI k135 rfl (by omega) (by omega) w2' ?_
          refine EIp rfl ?_
          refine EgR k132 r8 ?_
          refine EC hkf p1 ?_
          dsimp only
          rw [e1]
          exact hR
        rw [erem, cn_app, nm_app]
        rcases p3 with ⟨rfl, q1, q2, q3⟩ | ⟨rfl, q1⟩
        · have hcl : (cs ++ cn ns [v]).length = cs.length + 1 := by simp [cn_len]
          have hV2 : NsV T nd hd (nm ns [v]) := by
            intro u hu
            rcases (nm_mem _ _ _).mp hu with hu | ⟨hu, -⟩
            · exact hV u hu
            · rw [List.mem_singleton] at hu
              subst hu
              exact ⟨hd k, x1, x2, t1⟩
          have hR2 : StR (qI m2) st := StR_of hR.2 (fun j hj => by rw [p2.i (by unfold dFA dF; omega)])
          obtain ⟨m3, g1, g2⟩ := ih st (cs ++ cn ns [v]) (nm ns [v]) m2 (Sol_fx hf hS0 f2) (FmS_of hF f2) hst2 hR2 (by rw [hcl]; omega) q1.2 hV2 q2 q3 (by omega)
          rw [hcl] at g2
          have hpre2 := hpre _ (show _ = lX8_writeOut_35 NF 132 f n (nI st.length) (nI (cs.length + 1)) m2 from by rw [if_neg (by decide), nI_s])
          rw [hpre2]
          rw [List.append_assoc] at g2
          exact ⟨m3, f2.tr g1, g2⟩
        · refine ⟨m2, f2, Or.inr ⟨?_, hpre _ (by rw [if_pos rfl])⟩⟩
          have hno : ¬ (nm ns [v]).length ≤ 12 := fun z => q1 ⟨by omega, z⟩
          obtain ⟨zs, hz⟩ := nm_pre (rem hd den st) (nm ns [v])
          rw [hz, List.length_append]
          omega
      | some s =>
        obtain ⟨t1, l, r, t2, t3, t4⟩ := hh2 k s hk hs
        rw [hs] at w2
        have w2' : qI m 135 (hd k) = nI s := w2
        have w4 := (hUV s t1).2.2 l r t2
        have hp1 := tS_pos (den (hd (s + 1)))
        have hp2 := tS_pos (den (hd (s + 1 + tS l)))
        have hsz : tS (den (hd k)) = tS (den (hd (s + 1))) + tS (den (hd (s + 1 + tS l))) + 1 := by rw [t4]; rfl
        have hcl : cs.length < 39 := by omega
        obtain ⟨q1, m2, q2, q3, q4⟩ := (c_addSign hF hC (show (-1 : Int32) = cS 99 from rfl)).resolve_right (fun z => by omega)
        have f2 : Fx (dWo f) m m2 := q3.mono (fun a h => Or.inl (Or.inl h))
        let m3 : qM := qsI (qsI m2 137 st.length (nI (s + 1 + tS l))) 137 (st.length + 1) (nI (s + 1))
        have f3 : Fx (dWo f) m m3 := (f2.sI (Or.inr rfl)).sI (Or.inr rfl)
        have hU2 : xU m2 := xU_of hS0.1 f2
        obtain ⟨K132, R0, R1, R2, R3, R4, -, -, -, -, K133, N133, -, -, -, -, -, -, K137, N137, -⟩ := hU2
        have w4' : qI m2 133 s = nI (s + 1 + tS l) := by rw [f2.i (by unfold dWo dFA dF; omega)]; exact w4
        have hf1 : ¬ f = 137 := by omega
        have hf2 : ¬ f + 1 = 137 := by omega
        have hC3 : CFb (qI m3) f (cs ++ [99]) ns.length := by
          obtain ⟨z1, z2, z3, z4⟩ := q4
          refine ⟨?_, ?_, z3, fun i hi => ?_⟩
          · simp only [m3, qS, hf1, ↓reduceIte]; exact z1
          · simp only [m3, qS, hf1, ↓reduceIte]; exact z2
          · simp only [m3, qS, hf2, ↓reduceIte]; exact z4 i hi
        have hN3 : NmR (qI m3) 141 (hvF T nd hd) ns := by
          intro j hj
          simp only [m3, qS]
          rw [if_neg (by decide), if_neg (by decide), q3.i (by unfold dF; omega)]
          exact hN j hj
        have hR3 : StR (qI m3) ((s + 1) :: (s + 1 + tS l) :: st) := by
          refine ⟨by simp [m3, qS], ?_, StR_of hR.2 (fun j hj => ?_)⟩
          · have : ¬ st.length = st.length + 1 := by omega
            simp only [m3, qS, ↓reduceIte]
            simp [this]
          · have j1 : ¬ j = st.length := by omega
            have j2 : ¬ j = st.length + 1 := by omega
            simp only [m3, qS, ↓reduceIte, j1, j2]
            rw [q3.i (by unfold dF; omega)]
        have erem : rem hd den (k :: st) = [99] ++ rem hd den ((s + 1) :: (s + 1 + tS l) :: st) := by
          simp only [rem, t4, pol, List.cons_append, List.append_assoc, List.nil_append]
        have hlr : (rem hd den ((s + 1) :: (s + 1 + tS l) :: st)).length = tS (den (hd (s + 1))) + (tS (den (hd (s + 1 + tS l))) + (rem hd den st).length) := by
          simp only [rem, List.length_append, pol_len]
        have hcl2 : (cs ++ [99]).length = cs.length + 1 := by simp
        obtain ⟨m4, g1, g2⟩ := ih ((s + 1) :: (s + 1 + tS l) :: st) (cs ++ [99]) ns m3 (Sol_fx hf hS0 f3) (FmS_of hF f3) (by
          intro j hj
          rcases List.mem_cons.mp hj with rfl | hj
          · omega
          · rcases List.mem_cons.mp hj with rfl | hj
            · exact t3
            · exact hst2 j hj) hR3 (by rw [hcl2, hlr]; omega) hns hV hC3 hN3 (by rw [hlr]; omega)
        rw [hcl2] at g2
        have e2 : nI st.length + (1 : Int32) = nI (st.length + 1) := nI_s _
        have e3 : nI st.length + (2 : Int32) = nI (st.length + 2) := nI_s2 _
        have el : ((s + 1) :: (s + 1 + tS l) :: st).length = st.length + 2 := by simp
        rw [el] at g2
        have hpre : lX8_writeOut_35 NF 132 f (n + 1) (nI (k :: st).length) (nI cs.length) m = lX8_writeOut_35 NF 132 f n (nI (st.length + 2)) (nI (cs.length + 1)) m3 := by
          conv => lhs; unfold lX8_writeOut_35 kX8_writeOut_130
          refine EIn c1 ?_
          refine EIn c2 ?_
          refine EgR k132 r1 ?_
          refine EgR k132 r4 ?_
          refine EaI k137 e1 (by omega) (by omega) s137 ?_
          refine EaI k134 rfl (by omega) (by omega) v1 ?_
          refine EgR k132 r2 ?_
          refine EaI k135 rfl (by omega) (by omega) w2' ?_
          refine EIn (nI_ng (by omega)) ?_
          refine EC hkf q2 ?_
          dsimp only
          refine EgR K132 R4 ?_
          refine EgR K132 R0 ?_
          refine EaI K133 rfl (by omega) (by omega) w4' ?_
          refine EwI K137 e1 (by omega) (by omega) rfl ?_
          refine EgR K132 R4 ?_
          rw [e1, e2, e3, nI_s]
          refine EwI K137 rfl (by show st.length + 1 < qN m2 137; omega) (by omega) rfl ?_
          rw [nI_s]
        rw [hpre, erem, cn_app, nm_app]
        have ec : cn ns [99] = [99] := rfl
        have en : nm ns [99] = ns := rfl
        rw [ec, en, ← List.append_assoc]
        exact ⟨m4, f3.tr g1, g2⟩
theorem Sol_bel {m : qM} {T : Nat → Tm} {nd a b : Nat} {hd : Nat → Nat} {shp : Nat → Option Nat} {den : Nat → Tm} (hG : GG T nd) (h : Sol m T nd a b hd shp den) : ∀ (k n : Nat), n < nd → tS (den (hd n)) ≤ k → bel 78 (den (hd n)) := by
  obtain ⟨-, -, hh1, hh2, hh3, -⟩ := h
  intro k
  induction k with
  | zero => intro n _ hk; have := tS_pos (den (hd n)); omega
  | succ k ih =>
    intro n hn hk
    cases hs : shp (hd n) with
    | none =>
      obtain ⟨v, t1, t2⟩ := hh3 n hn hs
      rw [t2]
      exact bel_var.mpr (hG.2.1 (hd n) (hh1 n hn).1 v (by rw [t1]; rfl))
    | some s =>
      obtain ⟨t1, l, r, t2, t3, t4⟩ := hh2 n s hn hs
      rw [t4] at hk ⊢
      simp only [tS] at hk
      exact bel_op.mpr ⟨ih (s + 1) (by omega) (by omega), ih (s + 1 + tS l) t3 (by omega)⟩
theorem c_writeOut {m : qM} {T : Nat → Tm} {nd a b f s : Nat} {hd : Nat → Nat} {shp : Nat → Option Nat} {den : Nat → Tm} (hG : GG T nd) (hf : f + 1 < 132 ∨ 141 < f) (hS : Sol m T nd a b hd shp den) (hF : FmS (qK m) (qN m) (qR m) f) (hs : s < nd) :
    ∃ m2, fX8_writeOut NF 132 (nI s) f m = some (rc (some (cT (den (hd s)), tS (den (hd s)), nv (den (hd s)))), m2) ∧ Fx (dWo f) m m2 ∧ (tS (den (hd s)) ≤ 39 → nv (den (hd s)) ≤ 12 → CFm (qI m2) f (cT (den (hd s)))) := by
  have hnd := hG.1
  have hb := Sol_bel hG hS _ s hs (Nat.le_refl _)
  have hb99 : bel 99 (den (hd s)) := bel_mono hb (by omega)
  have hS0 := hS
  obtain ⟨hU, hUV, hh1, -⟩ := hS
  obtain ⟨k132, r0, r1, r2, r3, r4, r5, r6, r7, r8, k133, n133, k134, n134, k135, n135, k136, n136, k137, n137, k138, n138, k139, n139, k140, n140, k141, n141, -⟩ := hU
  obtain ⟨x1, x2, x3⟩ := hh1 s hs
  have v1 := (hUV s hs).1
  unfold fX8_writeOut
  by_cases h39 : tS (den (hd s)) ≤ 39
  · obtain ⟨m1, p1, p2, p3⟩ := c_empty hF
    have f1 : Fx (dWo f) m m1 := p2.mono (fun a h => Or.inl (Or.inl h))
    have hU1 : xU m1 := xU_of hS0.1 f1
    have K132 := hU1.1
    have R4 : qR m1 132 4 = some 137 := by rw [f1.2.2.1]; exact r4
    have K137 : qK m1 137 = 12 := by rw [f1.1]; exact k137
    have N137 : qN m1 137 = 78 := by rw [f1.2.1]; exact n137
    let m2 : qM := qsI m1 137 0 (nI s)
    have f2 : Fx (dWo f) m m2 := f1.sI (Or.inr rfl)
    have hC2 : CFb (qI m2) f [] ([] : List Nat).length := by
      obtain ⟨z1, z2, z3, z4⟩ := p3
      have hf1 : ¬ f = 137 := by omega
      refine ⟨?_, ?_, z3, fun i hi => by simp at hi⟩
      · simp only [m2, qS, hf1, ↓reduceIte]; exact z1
      · simp only [m2, qS, hf1, ↓reduceIte]; exact z2
    have erem : rem hd den [s] = pol (den (hd s)) := by simp [rem]
    obtain ⟨m3, q1, q2⟩ := c_wLoop hG hf NF [s] [] [] m2 (Sol_fx hf hS0 f2) (FmS_of hF f2) (by simpa using hs) ⟨by simp [m2, qS], trivial⟩ (by rw [erem, pol_len]; simpa using h39) (by simp) (fun v hv => by simp at hv) hC2 (fun j hj => by simp at hj) (by rw [erem, pol_len]; unfold NF; omega)
    rw [erem] at q2
    have hpre : ∀ R, (qTh (lX8_writeOut_35 NF 132 f NF (1 : Int32) (0 : Int32) m2) (fun o8 => some ((0 : Int32), o8)) (fun r => r)) = R → ((qgR m 132 8 3).bind fun x1 => (qgR m 132 8 1).bind fun x2 => (qaI m x2 12 (nI s)).bind fun x3 => (qaI m x1 12 x3).bind fun x4 => if x4 ≤ (39 : Int32) then (qChk m f 0 (fX0_makeEmpty NF f m)).bind fun b5 => (qgR b5 132 8 4).bind fun x6 => (qwI b5 x6 12 (0 : Int32) (nI s)).bind fun m7 => qTh (lX8_writeOut_35 NF 132 f NF (1 : Int32) (0 : Int32) m7) (fun o8 => some ((0 : Int32), o8)) (fun r => r) else some ((-5 : Int32), m)) = R := by
      intro R hR
      refine EgR k132 r3 ?_
      refine EgR k132 r1 ?_
      refine EaI k134 rfl (by omega) (by omega) v1 ?_
      refine EaI k136 rfl (by omega) (by omega) x3 ?_
      refine EIp ((nI_leI (b := 39) (by omega) (by omega)).mpr (by omega)) ?_
      refine EC hF.1 p1 ?_
      refine EgR K132 R4 ?_
      refine EwI K137 (show (0 : Int32) = nI 0 from rfl) (by omega) (by omega) rfl ?_
      exact hR
    rcases q2 with ⟨g1, g2, g3⟩ | ⟨g1, g2⟩
    · have hnv : nv (den (hd s)) ≤ 12 := g1
      refine ⟨m3, ?_, f2.tr q1, fun _ _ => ?_⟩
      · apply hpre
        rw [show lX8_writeOut_35 NF 132 f NF 1 0 m2 = some (.inl m3) from g2]
        simp [qTh, rc, h39, hnv]
      · obtain ⟨z1, z2, z3, z4⟩ := g3
        simp only [List.nil_append, cn_len, pol_len] at z1 z2 z3 z4
        refine ⟨by rw [tS_cT]; exact z1, ?_, by rw [tS_cT]; exact h39, fun i hi => ?_⟩
        · rw [nv_cT hb99 (by omega)]; exact z2
        · rw [pol_cT hb99]
          exact z4 i (by rw [tS_cT] at hi; exact hi)
    · have hnv : ¬ nv (den (hd s)) ≤ 12 := by unfold nv; omega
      refine ⟨m3, ?_, f2.tr q1, fun _ h => absurd h hnv⟩
      apply hpre
      rw [show lX8_writeOut_35 NF 132 f NF 1 0 m2 = some (.inr (-5, m3)) from g2]
      simp [qTh, rc, hnv]
  · refine ⟨m, ?_, Fx.rf, fun h => absurd h h39⟩
    refine EgR k132 r3 ?_
    refine EgR k132 r1 ?_
    refine EaI k134 rfl (by omega) (by omega) v1 ?_
    refine EaI k136 rfl (by omega) (by omega) x3 ?_
    refine EIn (fun z => by have := (nI_leI (b := 39) (by omega) (by omega)).mp z; omega) ?_
    simp [rc, h39]
end
