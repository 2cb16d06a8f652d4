
-- ===== from the graph's end to the most general unifier =====
theorem sa_var {t : Tm} : ∀ {v : Nat}, ocs v t → ∃ i, i < tS t ∧ sa t i = .var v := by
  induction t with
  | var w => intro v h; exact ⟨0, by simp [tS], by rw [sa_zero]; rw [show w = v from h]⟩
  | op a b iha ihb =>
    intro v h
    rcases h with h | h
    · obtain ⟨i, h1, h2⟩ := iha h; exact ⟨i + 1, by simp only [tS]; omega, by rw [sa_l h1]; exact h2⟩
    · obtain ⟨i, h1, h2⟩ := ihb h; exact ⟨i + 1 + tS a, by simp only [tS]; omega, by rw [sa_r]; exact h2⟩
theorem tr_var {A B : Tm} {v : Nat} (h : ocs v A ∨ ocs v B) : ∃ n, n < tS A + tS B ∧ tr A B n = .var v := by
  rcases h with h | h
  · obtain ⟨i, h1, h2⟩ := sa_var h
    exact ⟨i, by omega, by unfold tr; rw [if_pos h1]; exact h2⟩
  · obtain ⟨i, h1, h2⟩ := sa_var h
    exact ⟨tS A + i, by omega, by unfold tr; rw [if_neg (by omega), Nat.add_sub_cancel_left]; exact h2⟩
theorem GG_tr {A B : Tm} (ha : bel 78 A) (hb : bel 78 B) (hs : tS A + tS B ≤ 78) : GG (tr A B) (tS A + tS B) := ⟨hs, fun n _ => tr_bel ha hb n, fun _ _ _ hn h => tr_op hn h⟩
theorem MG_of {A B a b : Tm} {den : Nat → Tm} {ρ : Nat → Tm} (hd : ∀ n, n < tS A + tS B → den n = sb ρ (tr A B n)) (hU : UP (fun τ => sb τ a = sb τ b) (tr A B) (tS A + tS B) den) (hu : sb ρ a = sb ρ b) (ha : ∀ v, ocs v a → ocs v A ∨ ocs v B) (hb : ∀ v, ocs v b → ocs v A ∨ ocs v B) : ∃ σ, MG σ a b ∧ ∀ t, (∀ v, ocs v t → ocs v A ∨ ocs v B) → sb σ t = sb ρ t := by
  let σ : Nat → Tm := fun v => @ite Tm (ocs v A ∨ ocs v B) (Classical.propDecidable _) (ρ v) (.var v)
  have e1 : ∀ v, (ocs v A ∨ ocs v B) → σ v = ρ v := fun v h => if_pos h
  have e2 : ∀ v, ¬ (ocs v A ∨ ocs v B) → σ v = .var v := fun v h => if_neg h
  have e3 : ∀ t, (∀ v, ocs v t → ocs v A ∨ ocs v B) → sb σ t = sb ρ t := fun t h => sb_congr (fun v hv => e1 v (h v hv))
  refine ⟨σ, ⟨?_, fun τ hτ v => ?_⟩, e3⟩
  · rw [e3 a ha, e3 b hb]; exact hu
  · by_cases h : ocs v A ∨ ocs v B
    · rw [e1 v h]
      obtain ⟨n, hn, ht⟩ := tr_var h
      have h1 := hU τ hτ n hn
      rw [hd n hn, ht] at h1
      exact h1
    · rw [e2 v h]; rfl
theorem Bd_start {T : Nat → Tm} {nd : Nat} {V : Nat → Int32} (hG : GG T nd) (hV : ∀ v, v < 78 → V v = -1) : Bd T nd V T := by
  refine ⟨fun n v hn ht => Or.inl ⟨hV v (bel_var.mp (ht ▸ hG.2.1 n hn)), ht⟩, fun n l r hn ht => ?_, hG.2.1, fun _ => 0, fun v k w hv hk hT hw => ?_, fun v => by
    show 0 + cnt (fun j => decide (V j = -1)) 78 ≤ 78
    have := cnt_le (fun j => decide (V j = -1)) 78
    omega⟩
  · obtain ⟨_, g2, g3⟩ := hG.2.2 n l r hn ht
    rw [ht, g2, g3]
  · exact absurd (hV w (bel_var.mp (hT ▸ hG.2.1 k hk))) hw
theorem RG_tr {I : Nat → Nat → Int32} {A B : Tm} (h1 : RGs I A 0) (h2 : RGs I B (tS A)) : RG I (tr A B) (tS A + tS B) := by
  intro n hn
  unfold tr
  by_cases h : n < tS A
  · rw [if_pos h]
    have := h1 n h
    rw [Nat.zero_add] at this
    exact this
  · rw [if_neg h]
    have := h2 (n - tS A) (by omega)
    rw [show tS A + (n - tS A) = n by omega] at this
    exact this
-- ===== both trees are built =====
def dDt (a : Nat) : Prop := a = 433 ∨ (446 ≤ a ∧ a ≤ 451) ∨ a = 458
def kp (j : Nat) : Prop := j ≠ 21 ∧ j ≠ 24 ∧ j ≠ 25 ∧ j ≠ 27
theorem m_start {m : qM} {A B w u : Nat} {φ ψ : Tm} (hM : MS (qK m) (qN m) (qR m)) (hA : A = 434 ∨ A = 456) (hB : B = 434 ∨ B = 456) (hw : w + tS φ ≤ qN m A) (hu : u + tS ψ ≤ qN m B) (hφ : bel 39 φ) (hψ : bel 39 ψ) (h1 : tS φ ≤ 39) (h2 : tS ψ ≤ 39) (c1 : Cd (qI m) A w φ) (c2 : Cd (qI m) B u ψ) :
    ∃ m1 m2 m3, fX10_begins NF 433 m = some m1 ∧ fX10_builds NF kR 433 A 0 (qsI m1 433 25 (nI w)) = some (nI 0, m2) ∧ fX10_builds NF kR 433 B 39 (qsI m2 433 25 (nI u)) = some (nI (tS φ), m3) ∧ Fx dDt m m1 ∧ Fx dDt m m2 ∧ Fx dDt m m3 ∧ (∀ j, kp j → qI m3 433 j = qI m 433 j) ∧ RI m3 (tr φ (shf 39 ψ)) (tS φ + tS (shf 39 ψ)) (tr φ (shf 39 ψ)) ∧ GG (tr φ (shf 39 ψ)) (tS φ + tS (shf 39 ψ)) ∧ (∀ j, j < 78 → qI m3 450 j = -1) := by
  have hN : qN m 434 = 7059 ∧ qN m 456 = 3900 := ⟨hM.2.2.1, hM.2.2.2.2.2.2.2.2.2.2.2.2.2.2.2.2.2.2.2.2.2.2.2.2.1⟩
  have hK : qK m 434 = 12 ∧ qK m 456 = 12 := ⟨hM.2.1.1, hM.2.1.2.2.2.2.2.2.2.2.2.2.2.2.2.2.2.2.2.2.2.2.2.2.1⟩
  obtain ⟨m1, p1, p2, p3, p4, p5⟩ := m_begins hM
  have f1 : Fx dDt m m1 := p2.mono (fun a ha => by rcases ha with h | h | h <;> simp [dDt, h])
  have g1 : Fx dDt m (qsI m1 433 25 (nI w)) := f1.sI (Or.inl rfl)
  have c1' : Cd (qI (qsI m1 433 25 (nI w))) A w φ := Cd_of c1 (fun i _ => by rw [g1.i (by rcases hA with h | h <;> simp [dDt, h])])
  have hKA : qK m A = 12 := hA.elim (fun h => by rw [h]; exact hK.1) (fun h => by rw [h]; exact hK.2)
  have hKB : qK m B = 12 := hB.elim (fun h => by rw [h]; exact hK.1) (fun h => by rw [h]; exact hK.2)
  have hNA : qN m A ≤ 10000 := by rcases hA with h | h <;> rw [h] <;> omega
  have hNB : qN m B ≤ 10000 := by rcases hB with h | h <;> rw [h] <;> omega
  obtain ⟨m2, q1, q2, q3, q4, q5, q6, q7⟩ := m_builds (A := A) (k := 0) (by omega) (by omega) (by omega) (by omega) (by omega) φ kR (qsI m1 433 25 (nI w)) 0 w (by unfold kR; omega) hφ (g1.M hM) (by rw [g1.1]; exact hKA) (by rw [g1.2.1]; exact hw) (by rw [g1.2.1]; exact hNA) (by omega) (by simp only [qS]; exact p3) (by simp [qS]) c1'
  have f2 : Fx dDt m m2 := g1.tr (q2.mono (fun a ha => by rcases ha with h | h | h | h <;> simp [dDt, h]))
  have g2 : Fx dDt m (qsI m2 433 25 (nI u)) := f2.sI (Or.inl rfl)
  have c2' : Cd (qI (qsI m2 433 25 (nI u))) B u ψ := Cd_of c2 (fun i _ => by rw [g2.i (by rcases hB with h | h <;> simp [dDt, h])])
  rw [Nat.zero_add] at q3 q7
  obtain ⟨m3, s1, s2, s3, s4, s5, s6, s7⟩ := m_builds (A := B) (k := 39) (by omega) (by omega) (by omega) (by omega) (by omega) ψ kR (qsI m2 433 25 (nI u)) (tS φ) u (by unfold kR; omega) hψ (g2.M hM) (by rw [g2.1]; exact hKB) (by rw [g2.2.1]; exact hu) (by rw [g2.2.1]; exact hNB) (by omega) (by simp only [qS]; exact q3) (by simp [qS]) c2'
  have f3 : Fx dDt m m3 := g2.tr (s2.mono (fun a ha => by rcases ha with h | h | h | h <;> simp [dDt, h]))
  have z0 : shf 0 φ = φ := by
    unfold shf
    have : (fun v => Lean.Data.AC.Expr.var (v + 0)) = Lean.Data.AC.Expr.var := rfl
    rw [this, sb_var]
  have hG : GG (tr φ (shf 39 ψ)) (tS φ + tS (shf 39 ψ)) := GG_tr (bel_mono hφ (by omega)) (fun v hv => by
    obtain ⟨w, hw, e⟩ := shf_ocs hv
    have := hψ w hw; omega) (by rw [shf_tS]; omega)
  have d450 : qI m3 450 = qI m1 450 := by
    rw [s2.i (by simp [dBu])]
    show qI m2 450 = _
    rw [q2.i (by simp [dBu])]
    rfl
  have d458 : qI m3 458 = qI m1 458 := by
    rw [s2.i (by simp [dBu])]
    show qI m2 458 = _
    rw [q2.i (by simp [dBu])]
    rfl
  refine ⟨m1, m2, m3, p1, q1, s1, f1, f2, f3, fun j hj => ?_, ⟨f3.M hM, ?_, ?_, ?_⟩, hG, fun j hj => by rw [d450]; exact (p5 j hj).1⟩
  · obtain ⟨h1, h2, h3, h4⟩ := hj
    rw [s5 j h1 h3]
    simp only [qS, h3, ↓reduceIte]
    rw [q5 j h1 h3]
    simp only [qS, h3, ↓reduceIte]
    exact p4 j h1
  · apply RG_tr
    · rw [z0] at q6
      apply RGs_of q6
      intro i hi
      have := s7 (0 + i) (by omega)
      exact this
    · exact s6
  · exact Bd_start hG (fun v hv => by rw [d458]; exact (p5 v hv).2)
  · rw [s3, shf_tS]
-- ===== D of two formulas =====
noncomputable def dU (φ ψ : Tm) : Option (Tm × Nat × Nat) := match φ with
  | .var _ => none
  | .op l r => uR l (shf 39 ψ) r
theorem m_detaches {m : qM} {A B w u : Nat} {φ ψ : Tm} (hM : MS (qK m) (qN m) (qR m)) (hA : A = 434 ∨ A = 456) (hB : B = 434 ∨ B = 456) (hw : w + tS φ ≤ qN m A) (hu : u + tS ψ ≤ qN m B) (hφ : bel 39 φ) (hψ : bel 39 ψ) (h1 : tS φ ≤ 39) (h2 : tS ψ ≤ 39) (c1 : Cd (qI m) A w φ) (c2 : Cd (qI m) B u ψ) :
    ∃ m2, fX10_detaches NF 433 A (nI w) B (nI u) m = some (rc (dU φ ψ), m2) ∧ Fx dDt m m2 ∧ (∀ j, kp j → qI m2 433 j = qI m 433 j) ∧ (okU (dU φ ψ) → One (qI m2) (rt (dU φ ψ))) := by
  obtain ⟨m1, m2, m3, p1, p2, p3, f1, f2, f3, hk, hI, hG, h450⟩ := m_start hM hA hB hw hu hφ hψ h1 h2 c1 c2
  have hM0 := hM
  obtain ⟨⟨k433, -, -, -, -, -, -, -, -, -, -, -, -, r18, r19, r20, -⟩, ⟨-, -, -, -, -, -, -, -, -, -, -, -, k446, k447, k448, -⟩, ⟨-, -, -, -, -, -, -, -, -, -, -, -, n446, n447, n448, -⟩⟩ := hM
  have eK1 := f1.1
  have eK2 := f2.1
  have eK3 := f3.1
  have eN3 := f3.2.1
  have eR3 := f3.2.2.1
  have hp1 := tS_pos φ
  have hp2 := tS_pos ψ
  have es : tS (shf 39 ψ) = tS ψ := shf_tS
  have hv0 := (hI.2.1 0 (by omega)).1
  unfold fX10_detaches
  cases hφc : φ with
  | var v =>
    subst hφc
    have hv39 : v < 39 := bel_var.mp hφ
    rw [tr_A] at hv0
    have e0 : qI m3 446 0 = nI v := hv0
    have h0 : (0 : Int32) ≤ nI v := nI_g0 (by omega)
    refine ⟨m3, ?_, f3, hk, fun h => ?_⟩
    · show _ = some (-4, m3)
      repeat (first | refine EgR (by first | assumption | (simp only [qS, eK1, eK2, eK3, eN3, eR3]; assumption)) (by first | assumption | (simp only [qS, eK1, eK2, eK3, eN3, eR3]; assumption)) ?_ | refine EgI (by first | assumption | (simp only [qS, eK1, eK2, eK3, eN3, eR3]; assumption)) (by first | assumption | (simp only [qS, ↓reduceIte, eK1, eK2, eK3, eN3, eR3]; assumption) | exact rfl) ?_ | refine EpI (by first | assumption | (simp only [qS, eK1, eK2, eK3, eN3, eR3]; assumption)) (by first | with_reducible exact nI_s _ | with_reducible exact nI_add _ _ | with_reducible exact nI_p (by omega) | with_reducible exact nI_m1 (by omega) | with_reducible exact nI_s2 _ | exact rfl) ?_ | refine EaI (by first | assumption | (simp only [qS, eK1, eK2, eK3, eN3, eR3]; assumption)) (by first | with_reducible exact nI_s _ | with_reducible exact nI_add _ _ | with_reducible exact nI_p (by omega) | with_reducible exact nI_m1 (by omega) | with_reducible exact nI_s2 _ | exact rfl) (by first | assumption | omega | (simp only [qS, eK1, eK2, eK3, eN3, eR3]; omega)) (by omega) (by first | assumption | (simp only [qS, ↓reduceIte, eK1, eK2, eK3, eN3, eR3]; assumption) | exact rfl) ?_ | refine EwI (by first | assumption | (simp only [qS, eK1, eK2, eK3, eN3, eR3]; assumption)) (by first | with_reducible exact nI_s _ | with_reducible exact nI_add _ _ | with_reducible exact nI_p (by omega) | with_reducible exact nI_m1 (by omega) | with_reducible exact nI_s2 _ | exact rfl) (by first | assumption | omega | (simp only [qS, eK1, eK2, eK3, eN3, eR3]; omega)) (by omega) (by first | with_reducible exact nI_s _ | with_reducible exact nI_add _ _ | with_reducible exact nI_p (by omega) | with_reducible exact nI_m1 (by omega) | with_reducible exact nI_s2 _ | exact rfl) ?_ | refine EaR (by first | assumption | (simp only [qS, eK1, eK2, eK3, eN3, eR3]; assumption)) (by first | with_reducible exact nI_s _ | with_reducible exact nI_add _ _ | with_reducible exact nI_p (by omega) | with_reducible exact nI_m1 (by omega) | with_reducible exact nI_s2 _ | exact rfl) (by first | assumption | omega | (simp only [qS, eK1, eK2, eK3, eN3, eR3]; omega)) (by omega) (by first | assumption | (simp only [qS, eK1, eK2, eK3, eN3, eR3]; assumption)) ?_ | refine EC (by first | assumption | (simp only [qS, eK1, eK2, eK3, eN3, eR3]; assumption)) (by assumption) ?_ | refine EB (by assumption) ?_ | refine EIp (by first | assumption | decide) ?_ | refine EIn (by first | assumption | decide) ?_)
      rfl
    · obtain ⟨t, s, v, e, _⟩ := h
      simp only [dU] at e; cases e
  | op l r =>
    subst hφc
    rw [tr_A] at hv0
    have e0 : qI m3 446 0 = -1 := hv0
    have hs1 : tS (.op l r) = tS l + tS r + 1 := rfl
    have hpl := tS_pos l
    have hpr := tS_pos r
    obtain ⟨g1, g2, g3⟩ := hG.2.2 0 l r (by omega) tr_A
    obtain ⟨l1, l2⟩ := (hI.2.1 0 (by omega)).2 l r tr_A
    rw [Nat.zero_add] at g2 l1
    rw [show 0 + 1 + tS l = 1 + tS l by omega] at g1 g3 l2
    obtain ⟨m4, b, q1, q2, q3⟩ := m_unifies (P := fun τ => sb τ l = sb τ (shf 39 ψ)) hG kU m3 (tr (.op l r) (shf 39 ψ)) 1 (tS (.op l r)) (fun _ => false) hI (fun τ _ n _ => rfl) (by omega) (by omega) (fun τ hτ => by rw [g2, tr_B]; exact hτ) (fun k _ h => by cases h) (by have := cnt_le (fun j => ! false) 78; unfold kU; omega)
    have f4 : Fx dDt m m4 := f3.tr (q2.mono (fun a ha => by rcases ha with h | h <;> simp [dDt, h]))
    have k4 : ∀ j, kp j → qI m4 433 j = qI m 433 j := fun j hj => by rw [q2.i (by simp [dUn])]; exact hk j hj
    have eK4 := f4.1
    have eN4 := f4.2.1
    have eR4 := f4.2.2.1
    rcases q3 with ⟨rfl, qn⟩ | ⟨rfl, den2, ρ, t1, t2, t3, t4⟩
    · have hz : dU (.op l r) ψ = none := uR_eq (Or.inl ⟨rfl, qn⟩)
      refine ⟨m4, ?_, f4, k4, fun h => ?_⟩
      · rw [hz]
        show _ = some (-4, m4)
        repeat (first | refine EgR (by first | assumption | (simp only [qS, eK1, eK2, eK3, eN3, eR3, eK4]; assumption)) (by first | assumption | (simp only [qS, eK1, eK2, eK3, eN3, eR3, eK4]; assumption)) ?_ | refine EgI (by first | assumption | (simp only [qS, eK1, eK2, eK3, eN3, eR3, eK4]; assumption)) (by first | assumption | (simp only [qS, ↓reduceIte, eK1, eK2, eK3, eN3, eR3, eK4]; assumption) | exact rfl) ?_ | refine EpI (by first | assumption | (simp only [qS, eK1, eK2, eK3, eN3, eR3, eK4]; assumption)) (by first | with_reducible exact nI_s _ | with_reducible exact nI_add _ _ | with_reducible exact nI_p (by omega) | with_reducible exact nI_m1 (by omega) | with_reducible exact nI_s2 _ | exact rfl) ?_ | refine EaI (by first | assumption | (simp only [qS, eK1, eK2, eK3, eN3, eR3, eK4]; assumption)) (by first | with_reducible exact nI_s _ | with_reducible exact nI_add _ _ | with_reducible exact nI_p (by omega) | with_reducible exact nI_m1 (by omega) | with_reducible exact nI_s2 _ | exact rfl) (by first | assumption | omega | (simp only [qS, eK1, eK2, eK3, eN3, eR3, eK4]; omega)) (by omega) (by first | assumption | (simp only [qS, ↓reduceIte, eK1, eK2, eK3, eN3, eR3, eK4]; assumption) | exact rfl) ?_ | refine EwI (by first | assumption | (simp only [qS, eK1, eK2, eK3, eN3, eR3, eK4]; assumption)) (by first | with_reducible exact nI_s _ | with_reducible exact nI_add _ _ | with_reducible exact nI_p (by omega) | with_reducible exact nI_m1 (by omega) | with_reducible exact nI_s2 _ | exact rfl) (by first | assumption | omega | (simp only [qS, eK1, eK2, eK3, eN3, eR3, eK4]; omega)) (by omega) (by first | with_reducible exact nI_s _ | with_reducible exact nI_add _ _ | with_reducible exact nI_p (by omega) | with_reducible exact nI_m1 (by omega) | with_reducible exact nI_s2 _ | exact rfl) ?_ | refine EaR (by first | assumption | (simp only [qS, eK1, eK2, eK3, eN3, eR3, eK4]; assumption)) (by first | with_reducible exact nI_s _ | with_reducible exact nI_add _ _ | with_reducible exact nI_p (by omega) | with_reducible exact nI_m1 (by omega) | with_reducible exact nI_s2 _ | exact rfl) (by first | assumption | omega | (simp only [qS, eK1, eK2, eK3, eN3, eR3, eK4]; omega)) (by omega) (by first | assumption | (simp only [qS, eK1, eK2, eK3, eN3, eR3, eK4]; assumption)) ?_ | refine EC (by first | assumption | (simp only [qS, eK1, eK2, eK3, eN3, eR3, eK4]; assumption)) (by assumption) ?_ | refine EB (by assumption) ?_ | refine EIp (by first | assumption | decide) ?_ | refine EIn (by first | assumption | decide) ?_)
        rfl
      · obtain ⟨t, s, v, e, _⟩ := h
        rw [hz] at e; cases e
    · have hu : sb ρ l = sb ρ (shf 39 ψ) := by
        rw [t3 1 (by omega), t3 (tS (.op l r)) (by omega), g2, tr_B] at t4
        exact t4
      obtain ⟨σ, s1, s2⟩ := MG_of t3 t2 hu (fun v hv => Or.inl (Or.inl hv)) (fun v hv => Or.inr hv)
      have hr : sb σ r = den2 (1 + tS l) := by
        rw [t3 (1 + tS l) g1, g3]
        exact s2 r (fun v hv => Or.inl (Or.inr hv))
      have hbel : bel 99 (den2 (1 + tS l)) := bel_mono (t1.2.2.1.2.2.1 _ g1) (by omega)
      have hz : dU (.op l r) ψ = some (cT (den2 (1 + tS l)), tS (den2 (1 + tS l)), nv (den2 (1 + tS l))) := uR_eq (Or.inr ⟨σ, s1, by rw [hr]; exact hbel, by rw [hr]⟩)
      obtain ⟨m5, u1, u2, u3, u4⟩ := m_written hG t1 g1 (fun j hj => by rw [q2.i (by simp [dUn])]; exact h450 j hj)
      have f5 : Fx dDt m m5 := f4.tr (u2.mono (fun a ha => by rcases ha with h | h | h <;> simp [dDt, h]))
      have l2' : qI m4 448 0 = nI (1 + tS l) := by rw [q2.i (by simp [dUn])]; exact l2
      rw [← hz] at u1
      refine ⟨m5, ?_, f5, fun j hj => (u3 j hj.2.1 hj.2.2.2).trans (k4 j hj), fun h => ?_⟩
      · have n10 : ¬ (1 : Int32) = 0 := by decide
        repeat (first | refine EgR (by first | assumption | (simp only [qS, eK1, eK2, eK3, eN3, eR3, eK4, eN4, eR4]; assumption)) (by first | assumption | (simp only [qS, eK1, eK2, eK3, eN3, eR3, eK4, eN4, eR4]; assumption)) ?_ | refine EgI (by first | assumption | (simp only [qS, eK1, eK2, eK3, eN3, eR3, eK4, eN4, eR4]; assumption)) (by first | assumption | (simp only [qS, ↓reduceIte, eK1, eK2, eK3, eN3, eR3, eK4, eN4, eR4]; assumption) | exact rfl) ?_ | refine EpI (by first | assumption | (simp only [qS, eK1, eK2, eK3, eN3, eR3, eK4, eN4, eR4]; assumption)) (by first | with_reducible exact nI_s _ | with_reducible exact nI_add _ _ | with_reducible exact nI_p (by omega) | with_reducible exact nI_m1 (by omega) | with_reducible exact nI_s2 _ | exact rfl) ?_ | refine EaI (by first | assumption | (simp only [qS, eK1, eK2, eK3, eN3, eR3, eK4, eN4, eR4]; assumption)) (by first | with_reducible exact nI_s _ | with_reducible exact nI_add _ _ | with_reducible exact nI_p (by omega) | with_reducible exact nI_m1 (by omega) | with_reducible exact nI_s2 _ | exact rfl) (by first | assumption | omega | (simp only [qS, eK1, eK2, eK3, eN3, eR3, eK4, eN4, eR4]; omega)) (by omega) (by first | assumption | (simp only [qS, ↓reduceIte, eK1, eK2, eK3, eN3, eR3, eK4, eN4, eR4]; assumption) | exact rfl) ?_ | refine EwI (by first | assumption | (simp only [qS, eK1, eK2, eK3, eN3, eR3, eK4, eN4, eR4]; assumption)) (by first | with_reducible exact nI_s _ | with_reducible exact nI_add _ _ | with_reducible exact nI_p (by omega) | with_reducible exact nI_m1 (by omega) | with_reducible exact nI_s2 _ | exact rfl) (by first | assumption | omega | (simp only [qS, eK1, eK2, eK3, eN3, eR3, eK4, eN4, eR4]; omega)) (by omega) (by first | with_reducible exact nI_s _ | with_reducible exact nI_add _ _ | with_reducible exact nI_p (by omega) | with_reducible exact nI_m1 (by omega) | with_reducible exact nI_s2 _ | exact rfl) ?_ | refine EaR (by first | assumption | (simp only [qS, eK1, eK2, eK3, eN3, eR3, eK4, eN4, eR4]; assumption)) (by first | with_reducible exact nI_s _ | with_reducible exact nI_add _ _ | with_reducible exact nI_p (by omega) | with_reducible exact nI_m1 (by omega) | with_reducible exact nI_s2 _ | exact rfl) (by first | assumption | omega | (simp only [qS, eK1, eK2, eK3, eN3, eR3, eK4, eN4, eR4]; omega)) (by omega) (by first | assumption | (simp only [qS, eK1, eK2, eK3, eN3, eR3, eK4, eN4, eR4]; assumption)) ?_ | refine EC (by first | assumption | (simp only [qS, eK1, eK2, eK3, eN3, eR3, eK4, eN4, eR4]; assumption)) (by assumption) ?_ | refine EB (by assumption) ?_ | refine EIp (by first | assumption | decide) ?_ | refine EIn (by first | assumption | decide) ?_)
        rfl
      · obtain ⟨t, s, v, e, h3, h4⟩ := h
        rw [hz] at e ⊢
        injection e with e
        injection e with e1 e2
        injection e2 with e2 e3
        exact u4 (by omega)
