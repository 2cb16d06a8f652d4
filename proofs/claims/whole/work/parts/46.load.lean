
-- ===== a formula of the class: object f, its signs f + 1 =====
def cS (c : Nat) : Int32 := if c = 99 then -1 else nI c
def FmS (K N : Nat → Nat) (R : Nat → Nat → Option Nat) (f : Nat) : Prop := K f = 0 ∧ R f 0 = some (f + 1) ∧ K (f + 1) = 12 ∧ N (f + 1) = 39
def CFm (I : Nat → Nat → Int32) (f : Nat) (t : Tm) : Prop := I f 1 = nI (tS t) ∧ I f 2 = nI (nv t) ∧ tS t ≤ 39 ∧ ∀ i, i < tS t → I (f + 1) i = cS ((pol t).getD i 0)
theorem CFm_of {I I2 : Nat → Nat → Int32} {f : Nat} {t : Tm} (h : CFm I f t) (e1 : I2 f = I f) (e2 : I2 (f + 1) = I (f + 1)) : CFm I2 f t := by
  unfold CFm; rw [e1, e2]; exact h
theorem FmS_of {D : Nat → Prop} {m m2 : qM} {f : Nat} (h : FmS (qK m) (qN m) (qR m) f) (hf : Fx D m m2) : FmS (qK m2) (qN m2) (qR m2) f := by rw [hf.1, hf.2.1, hf.2.2.1]; exact h
theorem c_at {m : qM} {f i : Nat} {t : Tm} (hs : FmS (qK m) (qN m) (qR m) f) (hc : CFm (qI m) f t) (hi : i < tS t) : fX0_at NF f (nI i) m = some (cS ((pol t).getD i 0), m) := by
  obtain ⟨s1, s2, s3, s4⟩ := hs
  have h1 := hc.2.2.2 i hi
  have h2 := hc.2.2.1
  unfold fX0_at
  repeat (first | refine EgR (by first | with_reducible assumption | (simp only [qS]; with_reducible assumption)) (by first | with_reducible assumption | (simp only [qS]; with_reducible assumption)) ?_ | refine EgI (by first | with_reducible assumption | (simp only [qS]; with_reducible assumption)) (by first | with_reducible assumption | (simp only [qS, ↓reduceIte]; first | with_reducible assumption | assumption) | exact rfl) ?_ | refine EpI (by first | with_reducible assumption | (simp only [qS]; with_reducible assumption)) (by first | with_reducible exact nI_s _ | with_reducible exact nI_add _ _ | with_reducible exact nI_p (by omega) | with_reducible exact nI_m1 (by omega) | with_reducible exact nI_s2 _ | exact rfl) ?_ | refine EaI (by first | with_reducible assumption | (simp only [qS]; with_reducible assumption)) (by first | with_reducible exact nI_s _ | with_reducible exact nI_add _ _ | with_reducible exact nI_p (by omega) | with_reducible exact nI_m1 (by omega) | with_reducible exact nI_s2 _ | exact rfl) (by first | assumption | omega | (simp only [qS]; omega)) (by omega) (by first | with_reducible assumption | (simp only [qS, ↓reduceIte]; first | with_reducible assumption | assumption) | exact rfl) ?_ | refine EwI (by first | with_reducible assumption | (simp only [qS]; with_reducible assumption)) (by first | with_reducible exact nI_s _ | with_reducible exact nI_add _ _ | with_reducible exact nI_p (by omega) | with_reducible exact nI_m1 (by omega) | with_reducible exact nI_s2 _ | exact rfl) (by first | assumption | omega | (simp only [qS]; omega)) (by omega) (by first | with_reducible exact nI_s _ | with_reducible exact nI_add _ _ | with_reducible exact nI_p (by omega) | with_reducible exact nI_m1 (by omega) | with_reducible exact nI_s2 _ | exact rfl) ?_ | refine EaR (by first | with_reducible assumption | (simp only [qS]; with_reducible assumption)) (by first | with_reducible exact nI_s _ | with_reducible exact nI_add _ _ | with_reducible exact nI_p (by omega) | with_reducible exact nI_m1 (by omega) | with_reducible exact nI_s2 _ | exact rfl) (by first | assumption | omega | (simp only [qS]; omega)) (by omega) (by first | with_reducible assumption | (simp only [qS]; with_reducible assumption)) ?_ | (refine EC (by first | with_reducible assumption | (simp only [qS]; with_reducible assumption)) (by with_reducible assumption) ?_; try dsimp only) | (refine EB (by with_reducible assumption) ?_; try dsimp only) | refine EIp (by first | with_reducible assumption | decide) ?_ | refine EIn (by first | with_reducible assumption | decide) ?_)
  rfl
theorem c_size {m : qM} {f : Nat} {t : Tm} (hs : FmS (qK m) (qN m) (qR m) f) (hc : CFm (qI m) f t) : fX0_size NF f m = some (nI (tS t), m) := by
  have s1 := hs.1
  have h1 := hc.1
  unfold fX0_size
  repeat (first | refine EgR (by first | with_reducible assumption | (simp only [qS]; with_reducible assumption)) (by first | with_reducible assumption | (simp only [qS]; with_reducible assumption)) ?_ | refine EgI (by first | with_reducible assumption | (simp only [qS]; with_reducible assumption)) (by first | with_reducible assumption | (simp only [qS, ↓reduceIte]; first | with_reducible assumption | assumption) | exact rfl) ?_ | refine EpI (by first | with_reducible assumption | (simp only [qS]; with_reducible assumption)) (by first | with_reducible exact nI_s _ | with_reducible exact nI_add _ _ | with_reducible exact nI_p (by omega) | with_reducible exact nI_m1 (by omega) | with_reducible exact nI_s2 _ | exact rfl) ?_ | refine EaI (by first | with_reducible assumption | (simp only [qS]; with_reducible assumption)) (by first | with_reducible exact nI_s _ | with_reducible exact nI_add _ _ | with_reducible exact nI_p (by omega) | with_reducible exact nI_m1 (by omega) | with_reducible exact nI_s2 _ | exact rfl) (by first | assumption | omega | (simp only [qS]; omega)) (by omega) (by first | with_reducible assumption | (simp only [qS, ↓reduceIte]; first | with_reducible assumption | assumption) | exact rfl) ?_ | refine EwI (by first | with_reducible assumption | (simp only [qS]; with_reducible assumption)) (by first | with_reducible exact nI_s _ | with_reducible exact nI_add _ _ | with_reducible exact nI_p (by omega) | with_reducible exact nI_m1 (by omega) | with_reducible exact nI_s2 _ | exact rfl) (by first | assumption | omega | (simp only [qS]; omega)) (by omega) (by first | with_reducible exact nI_s _ | with_reducible exact nI_add _ _ | with_reducible exact nI_p (by omega) | with_reducible exact nI_m1 (by omega) | with_reducible exact nI_s2 _ | exact rfl) ?_ | refine EaR (by first | with_reducible assumption | (simp only [qS]; with_reducible assumption)) (by first | with_reducible exact nI_s _ | with_reducible exact nI_add _ _ | with_reducible exact nI_p (by omega) | with_reducible exact nI_m1 (by omega) | with_reducible exact nI_s2 _ | exact rfl) (by first | assumption | omega | (simp only [qS]; omega)) (by omega) (by first | with_reducible assumption | (simp only [qS]; with_reducible assumption)) ?_ | (refine EC (by first | with_reducible assumption | (simp only [qS]; with_reducible assumption)) (by with_reducible assumption) ?_; try dsimp only) | (refine EB (by with_reducible assumption) ?_; try dsimp only) | refine EIp (by first | with_reducible assumption | decide) ?_ | refine EIn (by first | with_reducible assumption | decide) ?_)
  rfl
theorem c_vars {m : qM} {f : Nat} {t : Tm} (hs : FmS (qK m) (qN m) (qR m) f) (hc : CFm (qI m) f t) : fX0_variables NF f m = some (nI (nv t), m) := by
  have s1 := hs.1
  have h1 := hc.2.1
  unfold fX0_variables
  repeat (first | refine EgR (by first | with_reducible assumption | (simp only [qS]; with_reducible assumption)) (by first | with_reducible assumption | (simp only [qS]; with_reducible assumption)) ?_ | refine EgI (by first | with_reducible assumption | (simp only [qS]; with_reducible assumption)) (by first | with_reducible assumption | (simp only [qS, ↓reduceIte]; first | with_reducible assumption | assumption) | exact rfl) ?_ | refine EpI (by first | with_reducible assumption | (simp only [qS]; with_reducible assumption)) (by first | with_reducible exact nI_s _ | with_reducible exact nI_add _ _ | with_reducible exact nI_p (by omega) | with_reducible exact nI_m1 (by omega) | with_reducible exact nI_s2 _ | exact rfl) ?_ | refine EaI (by first | with_reducible assumption | (simp only [qS]; with_reducible assumption)) (by first | with_reducible exact nI_s _ | with_reducible exact nI_add _ _ | with_reducible exact nI_p (by omega) | with_reducible exact nI_m1 (by omega) | with_reducible exact nI_s2 _ | exact rfl) (by first | assumption | omega | (simp only [qS]; omega)) (by omega) (by first | with_reducible assumption | (simp only [qS, ↓reduceIte]; first | with_reducible assumption | assumption) | exact rfl) ?_ | refine EwI (by first | with_reducible assumption | (simp only [qS]; with_reducible assumption)) (by first | with_reducible exact nI_s _ | with_reducible exact nI_add _ _ | with_reducible exact nI_p (by omega) | with_reducible exact nI_m1 (by omega) | with_reducible exact nI_s2 _ | exact rfl) (by first | assumption | omega | (simp only [qS]; omega)) (by omega) (by first | with_reducible exact nI_s _ | with_reducible exact nI_add _ _ | with_reducible exact nI_p (by omega) | with_reducible exact nI_m1 (by omega) | with_reducible exact nI_s2 _ | exact rfl) ?_ | refine EaR (by first | with_reducible assumption | (simp only [qS]; with_reducible assumption)) (by first | with_reducible exact nI_s _ | with_reducible exact nI_add _ _ | with_reducible exact nI_p (by omega) | with_reducible exact nI_m1 (by omega) | with_reducible exact nI_s2 _ | exact rfl) (by first | assumption | omega | (simp only [qS]; omega)) (by omega) (by first | with_reducible assumption | (simp only [qS]; with_reducible assumption)) ?_ | (refine EC (by first | with_reducible assumption | (simp only [qS]; with_reducible assumption)) (by with_reducible assumption) ?_; try dsimp only) | (refine EB (by with_reducible assumption) ?_; try dsimp only) | refine EIp (by first | with_reducible assumption | decide) ?_ | refine EIn (by first | with_reducible assumption | decide) ?_)
  rfl
-- ===== the class loads a formula =====
def dLd (a : Nat) : Prop := a = 133 ∨ a = 134 ∨ a = 135 ∨ a = 137 ∨ a = 140
theorem XS.un {K N : Nat → Nat} {R : Nat → Nat → Option Nat} (h : XS K N R) : xsU K N R := h.2.2.2.1
def LVp (I : Nat → Nat → Int32) (φ : Tm) (off lo : Nat) : Prop := ∀ v, v < 12 → I 140 v ≠ -1 → ∃ q, I 140 v = nI q ∧ off + lo ≤ q ∧ q < off + tS φ ∧ sa φ (q - off) = .var v ∧ I 134 q = nI q
def LdP (I : Nat → Nat → Int32) (t : Tm) (b : Nat) : Prop := ∀ i, i < tS t → (∀ l r, sa t i = .op l r → I 134 (b + i) = nI (b + i) ∧ I 135 (b + i) = nI (b + i) ∧ I 133 (b + i) = nI (b + i + 1 + tS l)) ∧ (∀ v, sa t i = .var v → I 135 (b + i) = -1 ∧ I 134 (b + i) = I 140 v ∧ I 140 v ≠ -1)
theorem c_ldT {φ : Tm} {f off : Nat} (hf : f + 1 < 132 ∨ 141 < f) (hoff : off + tS φ ≤ 78) (hb : bel 12 φ) : ∀ (t : Tm) (p d n : Nat) (m : qM), (∀ i, i < tS t → sa φ (p + i) = sa t i) → p + tS t ≤ tS φ → d + tS t ≤ 78 → xsU (qK m) (qN m) (qR m) → FmS (qK m) (qN m) (qR m) f → CFm (qI m) f φ → LVp (qI m) φ off (p + tS t) →
    ∃ m2, lX8_load_18 NF 132 f (nI off) (n + tS t) (nI d) (nI (p + tS t) + (-1)) m = lX8_load_18 NF 132 f (nI off) n (nI (d + 1)) (nI p + (-1)) m2 ∧ Fx dLd m m2 ∧ LdP (qI m2) t (off + p) ∧ (∀ v, qI m 140 v ≠ -1 → qI m2 140 v = qI m 140 v) ∧ (∀ k, (k < off + p ∨ off + p + tS t ≤ k) → qI m2 133 k = qI m 133 k ∧ qI m2 134 k = qI m 134 k ∧ qI m2 135 k = qI m 135 k) ∧ (∀ j, j < d → qI m2 137 j = qI m 137 j) ∧ qI m2 137 d = nI (off + p) ∧ LVp (qI m2) φ off p := by
  intro t
  induction t with
  | var v =>
    intro p d n m hsa hp hd hU hF hC hL
    simp only [tS] at hsa hp hd hL ⊢
    have hsa0 := hsa 0 (by omega)
    rw [Nat.add_zero] at hsa0
    have hv : v < 12 := hb v (by have := sa_ocs (t := φ) (i := p) (v := v); rw [hsa0] at this; exact this rfl)
    have hat := c_at hF hC (i := p) (by omega)
    have hcode : cS ((pol φ).getD p 0) = nI v := by
      rw [pol_sa (by omega), hsa0]
      exact if_neg (by show ¬ v = 99; omega)
    rw [hcode] at hat
    obtain ⟨k132, r0, r1, r2, r3, r4, r5, r6, r7, r8, k133, n133, k134, n134, k135, n135, k136, n136, k137, n137, k138, n138, k139, n139, k140, n140, k141, n141, -⟩ := hU
    have hpp : nI (p + 1) + (-1 : Int32) = nI p := nI_p (by omega)
    have hp0 : ¬ nI p < 0 := nI_pos (by omega)
    have hv1 : ¬ nI v = -1 := nI_ng (by omega)
    have kf : qK m f = 0 := hF.1
    rw [hpp]
    by_cases hl : qI m 140 v = -1
    · refine ⟨qsI (qsI (qsI (qsI (qsI m 134 (off + p) (nI (off + p))) 135 (off + p) (-1)) 140 v (nI (off + p))) 134 (off + p) (nI (off + p))) 137 d (nI (off + p)), ?_, ((((Fx.rf.sI (by simp [dLd])).sI (by simp [dLd])).sI (by simp [dLd])).sI (by simp [dLd])).sI (by simp [dLd]), ?_, fun w hw => ?_, fun k hk => ?_, fun j hj => ?_, by simp [qS], fun w hw hw1 => ?_⟩
      · conv => lhs; unfold lX8_load_18 kX8_load_80 kX8_load_150
        have e1 : nI off + nI p = nI (off + p) := nI_add _ _
        simp only [e1]
        have e140 : qI (qsI (qsI (qsI m 134 (off + p) (nI (off + p))) 135 (off + p) (-1)) 140 v (nI (off + p))) 140 v = nI (off + p) := by simp [qS]
        generalize hR : lX8_load_18 NF 132 f (nI off) n (nI (d + 1)) = R
        clear e1 hpp hcode
        repeat (first | refine EgR (by first | with_reducible assumption | (simp only [qS]; with_reducible assumption)) (by first | with_reducible assumption | (simp only [qS]; with_reducible assumption)) ?_ | refine EgI (by first | with_reducible assumption | (simp only [qS]; with_reducible assumption)) (by first | with_reducible assumption | (simp only [qS, ↓reduceIte]; first | with_reducible assumption | assumption) | exact rfl) ?_ | refine EpI (by first | with_reducible assumption | (simp only [qS]; with_reducible assumption)) (by first | with_reducible exact nI_s _ | with_reducible exact nI_add _ _ | with_reducible exact nI_p (by omega) | with_reducible exact nI_m1 (by omega) | with_reducible exact nI_s2 _ | exact rfl) ?_ | refine EaI (by first | with_reducible assumption | (simp only [qS]; with_reducible assumption)) (by first | with_reducible exact nI_s _ | with_reducible exact nI_add _ _ | with_reducible exact nI_p (by omega) | with_reducible exact nI_m1 (by omega) | with_reducible exact nI_s2 _ | exact rfl) (by first | assumption | omega | (simp only [qS]; omega)) (by omega) (by first | with_reducible assumption | (simp only [qS, ↓reduceIte]; first | with_reducible assumption | assumption) | exact rfl) ?_ | refine EwI (by first | with_reducible assumption | (simp only [qS]; with_reducible assumption)) (by first | with_reducible exact nI_s _ | with_reducible exact nI_add _ _ | with_reducible exact nI_p (by omega) | with_reducible exact nI_m1 (by omega) | with_reducible exact nI_s2 _ | exact rfl) (by first | assumption | omega | (simp only [qS]; omega)) (by omega) (by first | with_reducible exact nI_s _ | with_reducible exact nI_add _ _ | with_reducible exact nI_p (by omega) | with_reducible exact nI_m1 (by omega) | with_reducible exact nI_s2 _ | exact rfl) ?_ | refine EaR (by first | with_reducible assumption | (simp only [qS]; with_reducible assumption)) (by first | with_reducible exact nI_s _ | with_reducible exact nI_add _ _ | with_reducible exact nI_p (by omega) | with_reducible exact nI_m1 (by omega) | with_reducible exact nI_s2 _ | exact rfl) (by first | assumption | omega | (simp only [qS]; omega)) (by omega) (by first | with_reducible assumption | (simp only [qS]; with_reducible assumption)) ?_ | (refine EC (by first | with_reducible assumption | (simp only [qS]; with_reducible assumption)) (by with_reducible assumption) ?_; try dsimp only) | (refine EB (by with_reducible assumption) ?_; try dsimp only) | refine EIp (by first | with_reducible assumption | decide) ?_ | refine EIn (by first | with_reducible assumption | decide) ?_)
        rw [nI_s, hR]
      · intro i hi
        simp only [tS] at hi
        obtain rfl : i = 0 := by omega
        refine ⟨fun l r h => ?_, fun w h => ?_⟩
        · simp only [sa] at h; cases h
        · simp only [sa] at h
          injection h with h
          subst h
          refine ⟨by simp [qS], by simp [qS], ?_⟩
          simp only [qS, ↓reduceIte]
          exact nI_ng (by omega)
      · have : w ≠ v := fun e => hw (e ▸ hl)
        simp [qS, this]
      · have : ¬ k = off + p := by omega
        simp [qS, this]
      · have : ¬ j = d := by omega
        simp [qS, this]
      · by_cases e : w = v
        · subst e
          refine ⟨off + p, by simp [qS], by omega, by omega, ?_, by simp [qS]⟩
          rw [Nat.add_sub_cancel_left]; exact hsa0
        · have hw2 : qI m 140 w ≠ -1 := by simpa [qS, e] using hw1
          obtain ⟨q, q1, q2, q3, q4, q5⟩ := hL w hw hw2
          have hq : ¬ q = off + p := by omega
          exact ⟨q, by simpa [qS, e] using q1, by omega, q3, q4, by simpa [qS, hq] using q5⟩
    · obtain ⟨q0, q01, q02, q03, q04, q05⟩ := hL v hv hl
      have hq0 : ¬ q0 = off + p := by omega
      refine ⟨qsI (qsI (qsI (qsI m 134 (off + p) (nI (off + p))) 135 (off + p) (-1)) 134 (off + p) (nI q0)) 137 d (nI (off + p)), ?_, (((Fx.rf.sI (by simp [dLd])).sI (by simp [dLd])).sI (by simp [dLd])).sI (by simp [dLd]), ?_, fun w hw => by simp [qS], fun k hk => ?_, fun j hj => ?_, by simp [qS], fun w hw hw1 => ?_⟩
      · conv => lhs; unfold lX8_load_18 kX8_load_80 kX8_load_150
        have e1 : nI off + nI p = nI (off + p) := nI_add _ _
        simp only [e1]
        have hq1 : ¬ nI q0 = -1 := nI_ng (by omega)
        generalize hR : lX8_load_18 NF 132 f (nI off) n (nI (d + 1)) = R
        clear e1 hpp hcode
        repeat (first | refine EgR (by first | with_reducible assumption | (simp only [qS]; with_reducible assumption)) (by first | with_reducible assumption | (simp only [qS]; with_reducible assumption)) ?_ | refine EgI (by first | with_reducible assumption | (simp only [qS]; with_reducible assumption)) (by first | with_reducible assumption | (simp only [qS, ↓reduceIte]; first | with_reducible assumption | assumption) | exact rfl) ?_ | refine EpI (by first | with_reducible assumption | (simp only [qS]; with_reducible assumption)) (by first | with_reducible exact nI_s _ | with_reducible exact nI_add _ _ | with_reducible exact nI_p (by omega) | with_reducible exact nI_m1 (by omega) | with_reducible exact nI_s2 _ | exact rfl) ?_ | refine EaI (by first | with_reducible assumption | (simp only [qS]; with_reducible assumption)) (by first | with_reducible exact nI_s _ | with_reducible exact nI_add _ _ | with_reducible exact nI_p (by omega) | with_reducible exact nI_m1 (by omega) | with_reducible exact nI_s2 _ | exact rfl) (by first | assumption | omega | (simp only [qS]; omega)) (by omega) (by first | with_reducible assumption | (simp only [qS, ↓reduceIte]; first | with_reducible assumption | assumption) | exact rfl) ?_ | refine EwI (by first | with_reducible assumption | (simp only [qS]; with_reducible assumption)) (by first | with_reducible exact nI_s _ | with_reducible exact nI_add _ _ | with_reducible exact nI_p (by omega) | with_reducible exact nI_m1 (by omega) | with_reducible exact nI_s2 _ | exact rfl) (by first | assumption | omega | (simp only [qS]; omega)) (by omega) (by first | with_reducible exact nI_s _ | with_reducible exact nI_add _ _ | with_reducible exact nI_p (by omega) | with_reducible exact nI_m1 (by omega) | with_reducible exact nI_s2 _ | exact rfl) ?_ | refine EaR (by first | with_reducible assumption | (simp only [qS]; with_reducible assumption)) (by first | with_reducible exact nI_s _ | with_reducible exact nI_add _ _ | with_reducible exact nI_p (by omega) | with_reducible exact nI_m1 (by omega) | with_reducible exact nI_s2 _ | exact rfl) (by first | assumption | omega | (simp only [qS]; omega)) (by omega) (by first | with_reducible assumption | (simp only [qS]; with_reducible assumption)) ?_ | (refine EC (by first | with_reducible assumption | (simp only [qS]; with_reducible assumption)) (by with_reducible assumption) ?_; try dsimp only) | (refine EB (by with_reducible assumption) ?_; try dsimp only) | refine EIp (by first | with_reducible assumption | decide) ?_ | refine EIn (by first | with_reducible assumption | decide) ?_)
        rw [nI_s, hR]
      · intro i hi
        simp only [tS] at hi
        obtain rfl : i = 0 := by omega
        refine ⟨fun l r h => ?_, fun w h => ?_⟩
        · simp only [sa] at h; cases h
        · simp only [sa] at h
          injection h with h
          subst h
          refine ⟨by simp [qS], by simp [qS, q01], ?_⟩
          simp only [qS]
          exact hl
      · have : ¬ k = off + p := by omega
        simp [qS, this]
      · have : ¬ j = d := by omega
        simp [qS, this]
      · have hw2 : qI m 140 w ≠ -1 := by simpa [qS] using hw1
        obtain ⟨q, q1, q2, q3, q4, q5⟩ := hL w hw hw2
        have hq : ¬ q = off + p := by omega
        exact ⟨q, by simpa [qS] using q1, by omega, q3, q4, by simpa [qS, hq] using q5⟩
  | op a b iha ihb =>
    intro p d n m hsa hp hd hU hF hC hL
    have hpa := tS_pos a
    have hpb := tS_pos b
    simp only [tS] at hsa hp hd hL ⊢
    have hsa0 := hsa 0 (by omega)
    rw [Nat.add_zero, sa_zero] at hsa0
    have hU0 := hU
    have eD : ∀ c, dLd c → ¬ c = f ∧ ¬ c = f + 1 := fun c hc => by
      unfold dLd at hc; omega
    obtain ⟨m1, p1, p2, p3, p4, p5, p6, p7, p8⟩ := ihb (p + 1 + tS a) d (n + 1 + tS a) m (fun i hi => by
      have := hsa (i + 1 + tS a) (by omega)
      rw [sa_r] at this
      rw [← this]; congr 1; omega) (by omega) (by omega) hU hF hC (by rw [show p + 1 + tS a + tS b = p + (tS a + tS b + 1) by omega]; exact hL)
    have hC1 : CFm (qI m1) f φ := CFm_of hC (p2.i (fun h => (eD _ h).1 rfl)) (p2.i (fun h => (eD _ h).2 rfl))
    obtain ⟨m2, q1, q2, q3, q4, q5, q6, q7, q8⟩ := iha (p + 1) (d + 1) (n + 1) m1 (fun i hi => by
      have := hsa (i + 1) (by omega)
      rw [sa_l hi] at this
      rw [← this]; congr 1; omega) (by omega) (by omega) (by rw [p2.1, p2.2.1, p2.2.2.1]; exact hU) (FmS_of hF p2) hC1 p8
    have f2 : Fx dLd m m2 := p2.tr q2
    have hC2 : CFm (qI m2) f φ := CFm_of hC (f2.i (fun h => (eD _ h).1 rfl)) (f2.i (fun h => (eD _ h).2 rfl))
    have hat := c_at (FmS_of hF f2) hC2 (i := p) (by omega)
    have hcode : cS ((pol φ).getD p 0) = -1 := by
      rw [pol_sa (by omega), hsa0]
      simp only [hc, cS, ↓reduceIte]
    rw [hcode] at hat
    have hU2 : xsU (qK m2) (qN m2) (qR m2) := by rw [f2.1, f2.2.1, f2.2.2.1]; exact hU0
    obtain ⟨k132, r0, r1, r2, r3, r4, r5, r6, r7, r8, k133, n133, k134, n134, k135, n135, k136, n136, k137, n137, k138, n138, k139, n139, k140, n140, k141, n141, -⟩ := hU2
    have hpp : nI (p + 1) + (-1 : Int32) = nI p := nI_p (by omega)
    have hp0 : ¬ nI p < 0 := nI_pos (by omega)
    have kf : qK m2 f = 0 := (FmS_of hF f2).1
    have s137 : qI m2 137 d = nI (off + (p + 1 + tS a)) := by rw [q6 d (by omega)]; exact p7
    have hd2 : ¬ nI (d + 1 + 1) < (2 : Int32) := fun h => by
      have := (nI_ltI (b := 2) (by omega) (by omega)).mp h; omega
    let m3 : qM := qsI (qsI (qsI (qsI m2 134 (off + p) (nI (off + p))) 135 (off + p) (nI (off + p))) 133 (off + p) (nI (off + (p + 1 + tS a)))) 137 d (nI (off + p))
    have f3 : Fx dLd m m3 := (((f2.sI (by simp [dLd])).sI (by simp [dLd])).sI (by simp [dLd])).sI (by simp [dLd])
    have ea : n + (tS a + tS b + 1) = n + 1 + tS a + tS b := by omega
    have eb : p + (tS a + tS b + 1) = p + 1 + tS a + tS b := by omega
    refine ⟨m3, ?_, f3, ?_, fun w hw => ?_, fun k hk => ?_, fun j hj => ?_, by simp [m3, qS], fun w hw hw1 => ?_⟩
    · rw [ea, eb, p1]
      rw [q1, hpp]
      conv => lhs; unfold lX8_load_18 kX8_load_150
      have e1 : nI off + nI p = nI (off + p) := nI_add _ _
      have e2 : nI (d + 1 + 1) + (-1 : Int32) = nI (d + 1) := nI_p (by omega)
      have e3 : nI (d + 1) - (1 : Int32) = nI d := nI_m1 (by omega)
      simp only [e1, e2, e3]
      generalize hR : lX8_load_18 NF 132 f (nI off) n (nI (d + 1)) = R
      clear e1 e2 e3 hpp hcode
      repeat (first | refine EgR (by first | with_reducible assumption | (simp only [qS]; with_reducible assumption)) (by first | with_reducible assumption | (simp only [qS]; with_reducible assumption)) ?_ | refine EgI (by first | with_reducible assumption | (simp only [qS]; with_reducible assumption)) (by first | with_reducible assumption | (simp only [qS, ↓reduceIte]; first | with_reducible assumption | assumption) | exact rfl) ?_ | refine EpI (by first | with_reducible assumption | (simp only [qS]; with_reducible assumption)) (by first | with_reducible exact nI_s _ | with_reducible exact nI_add _ _ | with_reducible exact nI_p (by omega) | with_reducible exact nI_m1 (by omega) | with_reducible exact nI_s2 _ | exact rfl) ?_ | refine EaI (by first | with_reducible assumption | (simp only [qS]; with_reducible assumption)) (by first | with_reducible exact nI_s _ | with_reducible exact nI_add _ _ | with_reducible exact nI_p (by omega) | with_reducible exact nI_m1 (by omega) | with_reducible exact nI_s2 _ | exact rfl) (by first | assumption | omega | (simp only [qS]; omega)) (by omega) (by first | with_reducible assumption | (simp only [qS, ↓reduceIte]; first | with_reducible assumption | assumption) | exact rfl) ?_ | refine EwI (by first | with_reducible assumption | (simp only [qS]; with_reducible assumption)) (by first | with_reducible exact nI_s _ | with_reducible exact nI_add _ _ | with_reducible exact nI_p (by omega) | with_reducible exact nI_m1 (by omega) | with_reducible exact nI_s2 _ | exact rfl) (by first | assumption | omega | (simp only [qS]; omega)) (by omega) (by first | with_reducible exact nI_s _ | with_reducible exact nI_add _ _ | with_reducible exact nI_p (by omega) | with_reducible exact nI_m1 (by omega) | with_reducible exact nI_s2 _ | exact rfl) ?_ | refine EaR (by first | with_reducible assumption | (simp only [qS]; with_reducible assumption)) (by first | with_reducible exact nI_s _ | with_reducible exact nI_add _ _ | with_reducible exact nI_p (by omega) | with_reducible exact nI_m1 (by omega) | with_reducible exact nI_s2 _ | exact rfl) (by first | assumption | omega | (simp only [qS]; omega)) (by omega) (by first | with_reducible assumption | (simp only [qS]; with_reducible assumption)) ?_ | (refine EC (by first | with_reducible assumption | (simp only [qS]; with_reducible assumption)) (by with_reducible assumption) ?_; try dsimp only) | (refine EB (by with_reducible assumption) ?_; try dsimp only) | refine EIp (by first | with_reducible assumption | decide) ?_ | refine EIn (by first | with_reducible assumption | decide) ?_)
      rfl
    · intro i hi
      simp only [tS] at hi
      cases i with
      | zero =>
        refine ⟨fun l r h => ?_, fun w h => ?_⟩
        · rw [sa_zero] at h
          injection h with h1 h2
          subst h1 h2
          refine ⟨by simp [m3, qS], by simp [m3, qS], ?_⟩
          simp only [m3, qS, Nat.add_zero, ↓reduceIte]
          rw [if_neg (by decide)]
          congr 1; omega
        · rw [sa_zero] at h; cases h
      | succ i =>
        have hne : ¬ off + p + (i + 1) = off + p := by omega
        by_cases hia : i < tS a
        · rw [sa_l hia]
          obtain ⟨v1, v2⟩ := q3 i hia
          rw [show off + (p + 1) + i = off + p + (i + 1) by omega] at v1 v2
          refine ⟨fun l r h => ?_, fun w h => ?_⟩
          · obtain ⟨w1, w2, w3⟩ := v1 l r h
            exact ⟨by simpa [m3, qS, hne] using w1, by simpa [m3, qS, hne] using w2, by simpa [m3, qS, hne] using w3⟩
          · obtain ⟨w1, w2, w3⟩ := v2 w h
            exact ⟨by simpa [m3, qS, hne] using w1, by simpa [m3, qS, hne] using w2, by simpa [m3, qS, hne] using w3⟩
        · obtain ⟨j, rfl⟩ : ∃ j, i = j + tS a := ⟨i - tS a, by omega⟩
          rw [show j + tS a + 1 = j + 1 + tS a by omega, sa_r]
          obtain ⟨v1, v2⟩ := p3 j (by omega)
          obtain ⟨o1, o2, o3⟩ := q5 (off + (p + 1 + tS a) + j) (by omega)
          rw [show off + (p + 1 + tS a) + j = off + p + (j + 1 + tS a) by omega] at v1 v2 o1 o2 o3
          have hne2 : ¬ off + p + (j + 1 + tS a) = off + p := by omega
          refine ⟨fun l r h => ?_, fun w h => ?_⟩
          · obtain ⟨w1, w2, w3⟩ := v1 l r h
            rw [← o1] at w3
            rw [← o2] at w1
            rw [← o3] at w2
            exact ⟨by simpa [m3, qS, hne2] using w1, by simpa [m3, qS, hne2] using w2, by simpa [m3, qS, hne2] using w3⟩
          · obtain ⟨w1, w2, w3⟩ := v2 w h
            have w4 := q4 w w3
            rw [← o3] at w1
            rw [← o2, ← w4] at w2
            rw [← w4] at w3
            exact ⟨by simpa [m3, qS, hne2] using w1, by simpa [m3, qS, hne2] using w2, by simpa [m3, qS, hne2] using w3⟩
    · have h1 := p4 w hw
      have h2 := q4 w (by rw [h1]; exact hw)
      show qI m2 140 w = _
      rw [h2, h1]
    · have hne : ¬ k = off + p := by omega
      obtain ⟨o1, o2, o3⟩ := q5 k (by omega)
      obtain ⟨u1, u2, u3⟩ := p5 k (by omega)
      refine ⟨?_, ?_, ?_⟩
      · have : qI m3 133 k = qI m2 133 k := by simp [m3, qS, hne]
        rw [this, o1, u1]
      · have : qI m3 134 k = qI m2 134 k := by simp [m3, qS, hne]
        rw [this, o2, u2]
      · have : qI m3 135 k = qI m2 135 k := by simp [m3, qS, hne]
        rw [this, o3, u3]
    · have hne : ¬ j = d := by omega
      have : qI m3 137 j = qI m2 137 j := by simp [m3, qS, hne]
      rw [this, q6 j (by omega), p6 j hj]
    · obtain ⟨q, u1, u2, u3, u4, u5⟩ := q8 w hw hw1
      have hq : ¬ q = off + p := by omega
      exact ⟨q, u1, by omega, u3, u4, by simpa [m3, qS, hq] using u5⟩
theorem c_load {m : qM} {φ : Tm} {f off : Nat} (hf : f + 1 < 132 ∨ 141 < f) (hoff : off + tS φ ≤ 78) (hb : bel 12 φ) (hU : xsU (qK m) (qN m) (qR m)) (hF : FmS (qK m) (qN m) (qR m) f) (hC : CFm (qI m) f φ) : ∃ m2, fX8_load NF 132 f (nI off) m = some m2 ∧ Fx (fun a => a = 132 ∨ dLd a) m m2 ∧ LdP (qI m2) φ off ∧ (∀ k, (k < off ∨ off + tS φ ≤ k) → qI m2 133 k = qI m 133 k ∧ qI m2 134 k = qI m 134 k ∧ qI m2 135 k = qI m 135 k) ∧ LVp (qI m2) φ off 0 ∧ qI m2 132 9 = nI (off + tS φ) := by
  have hU0 := hU
  have hsz := hC.2.2.1
  obtain ⟨k132, r0, r1, r2, r3, r4, r5, r6, r7, r8, k133, n133, k134, n134, k135, n135, k136, n136, k137, n137, k138, n138, k139, n139, k140, n140, k141, n141, -⟩ := hU
  obtain ⟨m1, p1, p2, p3⟩ := fill_eq (a := 140) (L := 12) (v := -1) (m := m) (by omega) k140 n140
  have eD : ∀ c, (c = 132 ∨ dLd c) → ¬ c = f ∧ ¬ c = f + 1 := fun c hc => by
    unfold dLd at hc; omega
  have f1 : Fx (fun a => a = 132 ∨ dLd a) m m1 := p2.mono (fun a ha => by simp [dLd, ha])
  have hC1 : CFm (qI m1) f φ := CFm_of hC (f1.i (fun h => (eD _ h).1 rfl)) (f1.i (fun h => (eD _ h).2 rfl))
  have hsize1 := c_size (FmS_of hF f1) hC1
  have hpφ := tS_pos φ
  obtain ⟨m2, q1, q2, q3, q4, q5, q6, q7, q8⟩ := c_ldT hf hoff hb φ 0 0 (NF - tS φ) m1 (fun i _ => by rw [Nat.zero_add]) (by omega) (by omega) (by rw [f1.1, f1.2.1, f1.2.2.1]; exact hU0) (FmS_of hF f1) hC1 (fun v hv hv1 => absurd (by rw [p3 v, if_pos hv]) hv1)
  have f2 : Fx (fun a => a = 132 ∨ dLd a) m m2 := f1.tr (q2.mono (fun a ha => Or.inr ha))
  have hC2 : CFm (qI m2) f φ := CFm_of hC (f2.i (fun h => (eD _ h).1 rfl)) (f2.i (fun h => (eD _ h).2 rfl))
  have hsize2 := c_size (FmS_of hF f2) hC2
  have eK1 := f1.1
  have eK2 := f2.1
  have kf : qK m f = 0 := hF.1
  have hloop : lX8_load_18 NF 132 f (nI off) NF 0 (nI (tS φ) - 1) m1 = some m2 := by
    have e1 : nI (tS φ) - (1 : Int32) = nI (0 + tS φ) + (-1) := by
      rw [Nat.zero_add, nI_p hpφ, nI_m1 hpφ]
    have e2 : NF - tS φ + tS φ = NF := by unfold NF; omega
    rw [e1]
    rw [e2] at q1
    refine Eq.trans q1 ?_
    obtain ⟨g, hg⟩ : ∃ g, NF - tS φ = g + 1 := ⟨NF - tS φ - 1, by unfold NF; omega⟩
    rw [hg]
    unfold lX8_load_18
    have e3 : nI 0 + (-1 : Int32) < 0 := by decide
    rw [if_pos e3]
  refine ⟨qsI m2 132 9 (nI (off + tS φ)), ?_, f2.sI (Or.inl rfl), ?_, fun k hk => ?_, ?_, by simp [qS]⟩
  · unfold fX8_load
    repeat (first | refine EgR (by first | with_reducible assumption | (simp only [qS, eK1, eK2]; with_reducible assumption)) (by first | with_reducible assumption | (simp only [qS, eK1, eK2]; with_reducible assumption)) ?_ | refine EgI (by first | with_reducible assumption | (simp only [qS, eK1, eK2]; with_reducible assumption)) (by first | with_reducible assumption | (simp only [qS, ↓reduceIte, eK1, eK2]; first | with_reducible assumption | assumption) | exact rfl) ?_ | refine EpI (by first | with_reducible assumption | (simp only [qS, eK1, eK2]; with_reducible assumption)) (by first | with_reducible exact nI_s _ | with_reducible exact nI_add _ _ | with_reducible exact nI_p (by omega) | with_reducible exact nI_m1 (by omega) | with_reducible exact nI_s2 _ | exact rfl) ?_ | refine EaI (by first | with_reducible assumption | (simp only [qS, eK1, eK2]; with_reducible assumption)) (by first | with_reducible exact nI_s _ | with_reducible exact nI_add _ _ | with_reducible exact nI_p (by omega) | with_reducible exact nI_m1 (by omega) | with_reducible exact nI_s2 _ | exact rfl) (by first | assumption | omega | (simp only [qS, eK1, eK2]; omega)) (by omega) (by first | with_reducible assumption | (simp only [qS, ↓reduceIte, eK1, eK2]; first | with_reducible assumption | assumption) | exact rfl) ?_ | refine EwI (by first | with_reducible assumption | (simp only [qS, eK1, eK2]; with_reducible assumption)) (by first | with_reducible exact nI_s _ | with_reducible exact nI_add _ _ | with_reducible exact nI_p (by omega) | with_reducible exact nI_m1 (by omega) | with_reducible exact nI_s2 _ | exact rfl) (by first | assumption | omega | (simp only [qS, eK1, eK2]; omega)) (by omega) (by first | with_reducible exact nI_s _ | with_reducible exact nI_add _ _ | with_reducible exact nI_p (by omega) | with_reducible exact nI_m1 (by omega) | with_reducible exact nI_s2 _ | exact rfl) ?_ | refine EaR (by first | with_reducible assumption | (simp only [qS, eK1, eK2]; with_reducible assumption)) (by first | with_reducible exact nI_s _ | with_reducible exact nI_add _ _ | with_reducible exact nI_p (by omega) | with_reducible exact nI_m1 (by omega) | with_reducible exact nI_s2 _ | exact rfl) (by first | assumption | omega | (simp only [qS, eK1, eK2]; omega)) (by omega) (by first | with_reducible assumption | (simp only [qS, eK1, eK2]; with_reducible assumption)) ?_ | (refine EC (by first | with_reducible assumption | (simp only [qS, eK1, eK2]; with_reducible assumption)) (by with_reducible assumption) ?_; try dsimp only) | (refine EB (by with_reducible assumption) ?_; try dsimp only) | refine EIp (by first | with_reducible assumption | decide) ?_ | refine EIn (by first | with_reducible assumption | decide) ?_)
    rfl
  · rw [Nat.add_zero] at q3; exact q3
  · obtain ⟨o1, o2, o3⟩ := q5 k (by omega)
    have e3 : qI m1 133 = qI m 133 := p2.i (by simp)
    have e4 : qI m1 134 = qI m 134 := p2.i (by simp)
    have e5 : qI m1 135 = qI m 135 := p2.i (by simp)
    rw [e3] at o1
    rw [e4] at o2
    rw [e5] at o3
    exact ⟨o1, o2, o3⟩
  · exact q8
