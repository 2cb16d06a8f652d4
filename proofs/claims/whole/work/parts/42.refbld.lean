
-- ===== codes of a tree in a row =====
def Cd (I : Nat → Nat → Int32) (A w : Nat) (t : Tm) : Prop := ∀ i, i < tS t → I A (w + i) = nI ((pol t).getD i 0)
theorem Cd_op {I : Nat → Nat → Int32} {A w : Nat} {a b : Tm} (h : Cd I A w (.op a b)) : I A w = nI 99 ∧ Cd I A (w + 1) a ∧ Cd I A (w + 1 + tS a) b := by
  refine ⟨h 0 (by simp [tS]), fun i hi => ?_, fun i hi => ?_⟩
  · have := h (i + 1) (by simp only [tS]; omega)
    rw [show w + (i + 1) = w + 1 + i by omega] at this
    rw [this]
    show nI ((pol a ++ pol b).getD i 0) = _
    simp only [List.getD_eq_getElem?_getD]
    rw [List.getElem?_append_left (by rw [pol_len]; exact hi)]
  · have := h (i + 1 + tS a) (by simp only [tS]; omega)
    rw [show w + (i + 1 + tS a) = w + 1 + tS a + i by omega] at this
    rw [this]
    rw [show i + 1 + tS a = (i + tS a) + 1 by omega]
    show nI ((pol a ++ pol b).getD (i + tS a) 0) = _
    simp only [List.getD_eq_getElem?_getD]
    rw [List.getElem?_append_right (by rw [pol_len]; omega), pol_len, Nat.add_sub_cancel]
theorem Cd_var {I : Nat → Nat → Int32} {A w v : Nat} (h : Cd I A w (.var v)) : I A w = nI v := h 0 (by simp [tS])
theorem Cd_of {I I2 : Nat → Nat → Int32} {A w : Nat} {t : Tm} (h : Cd I A w t) (e : ∀ i, i < tS t → I2 A (w + i) = I A (w + i)) : Cd I2 A w t := fun i hi => (e i hi).trans (h i hi)
-- ===== the reference builds nodes =====
def RGs (I : Nat → Nat → Int32) (t : Tm) (n0 : Nat) : Prop := ∀ i, i < tS t → I 446 (n0 + i) = vc (sa t i) ∧ ∀ l r, sa t i = .op l r → I 447 (n0 + i) = nI (n0 + i + 1) ∧ I 448 (n0 + i) = nI (n0 + i + 1 + tS l)
theorem RGs_of {I I2 : Nat → Nat → Int32} {n0 : Nat} {t : Tm} (h : RGs I t n0) (e : ∀ i, i < tS t → I2 446 (n0 + i) = I 446 (n0 + i) ∧ I2 447 (n0 + i) = I 447 (n0 + i) ∧ I2 448 (n0 + i) = I 448 (n0 + i)) : RGs I2 t n0 := by
  intro i hi
  obtain ⟨e1, e2, e3⟩ := e i hi
  rw [e1, e2, e3]
  exact h i hi
def dBu (a : Nat) : Prop := a = 433 ∨ a = 446 ∨ a = 447 ∨ a = 448
theorem m_builds {A k : Nat} (hA3 : ¬ A = 433) (hA6 : ¬ A = 446) (hA7 : ¬ A = 447) (hA8 : ¬ A = 448) (hk : k ≤ 39) : ∀ (φ : Tm) (f : Nat) (m : qM) (n0 w : Nat), tS φ ≤ f → bel 39 φ → MS (qK m) (qN m) (qR m) → qK m A = 12 → w + tS φ ≤ qN m A → qN m A ≤ 10000 → n0 + tS φ ≤ 78 → qI m 433 21 = nI n0 → qI m 433 25 = nI w → Cd (qI m) A w φ →
    ∃ m2, fX10_builds NF f 433 A (nI k) m = some (nI n0, m2) ∧ Fx dBu m m2 ∧ qI m2 433 21 = nI (n0 + tS φ) ∧ qI m2 433 25 = nI (w + tS φ) ∧ (∀ j, j ≠ 21 → j ≠ 25 → qI m2 433 j = qI m 433 j) ∧ RGs (qI m2) (shf k φ) n0 ∧ (∀ n, (n < n0 ∨ n0 + tS φ ≤ n) → qI m2 446 n = qI m 446 n ∧ qI m2 447 n = qI m 447 n ∧ qI m2 448 n = qI m 448 n) := by
  intro φ
  induction φ with
  | var v =>
    intro f m n0 w hf hb hM hK hw hN hn h21 h25 hC
    simp only [tS] at hf hw hn ⊢
    obtain ⟨g, rfl⟩ : ∃ g, f = g + 1 := ⟨f - 1, by omega⟩
    obtain ⟨⟨k433, -, -, -, -, -, -, -, -, -, -, -, -, r18, r19, r20, -⟩, ⟨-, -, -, -, -, -, -, -, -, -, -, -, k446, k447, k448, -⟩, ⟨-, -, -, -, -, -, -, -, -, -, -, -, n446, n447, n448, -⟩⟩ := hM
    have hv : v < 39 := bel_var.mp hb
    have hc0 : qI m A w = nI v := Cd_var hC
    have hc1 : ¬ nI v = (99 : Int32) := fun e => by
      have e2 : nI v = nI 99 := e
      rw [nI_eq (by omega) (by omega)] at e2; omega
    refine ⟨qsI (qsI (qsI m 433 21 (nI (n0 + 1))) 433 25 (nI (w + 1))) 446 n0 (nI (v + k)), ?_, ((Fx.rf.sI (Or.inl rfl)).sI (Or.inl rfl)).sI (Or.inr (Or.inl rfl)), by simp [qS], by simp [qS], fun j h1 h2 => by simp [qS, h1, h2], ?_, fun n hnn => ?_⟩
    · unfold fX10_builds kX10_builds_47
      repeat (first | refine EgR (by first | assumption | (simp only [qS, hA3]; assumption)) (by first | assumption | (simp only [qS, hA3]; assumption)) ?_ | refine EgI (by first | assumption | (simp only [qS, hA3]; assumption)) (by first | assumption | (simp only [qS, ↓reduceIte, hA3]; assumption) | exact rfl) ?_ | refine EpI (by first | assumption | (simp only [qS, hA3]; assumption)) (by first | with_reducible exact nI_s _ | with_reducible exact nI_add _ _ | with_reducible exact nI_p (by omega) | with_reducible exact nI_m1 (by omega) | with_reducible exact nI_s2 _ | exact rfl) ?_ | refine EaI (by first | assumption | (simp only [qS, hA3]; assumption)) (by first | with_reducible exact nI_s _ | with_reducible exact nI_add _ _ | with_reducible exact nI_p (by omega) | with_reducible exact nI_m1 (by omega) | with_reducible exact nI_s2 _ | exact rfl) (by first | assumption | omega | (simp only [qS, hA3]; omega)) (by omega) (by first | assumption | (simp only [qS, ↓reduceIte, hA3]; assumption) | exact rfl) ?_ | refine EwI (by first | assumption | (simp only [qS, hA3]; assumption)) (by first | with_reducible exact nI_s _ | with_reducible exact nI_add _ _ | with_reducible exact nI_p (by omega) | with_reducible exact nI_m1 (by omega) | with_reducible exact nI_s2 _ | exact rfl) (by first | assumption | omega | (simp only [qS, hA3]; omega)) (by omega) (by first | with_reducible exact nI_s _ | with_reducible exact nI_add _ _ | with_reducible exact nI_p (by omega) | with_reducible exact nI_m1 (by omega) | with_reducible exact nI_s2 _ | exact rfl) ?_ | refine EaR (by first | assumption | (simp only [qS, hA3]; assumption)) (by first | with_reducible exact nI_s _ | with_reducible exact nI_add _ _ | with_reducible exact nI_p (by omega) | with_reducible exact nI_m1 (by omega) | with_reducible exact nI_s2 _ | exact rfl) (by first | assumption | omega | (simp only [qS, hA3]; omega)) (by omega) (by first | assumption | (simp only [qS, hA3]; assumption)) ?_ | refine EC (by first | assumption | (simp only [qS, hA3]; assumption)) (by assumption) ?_ | refine EB (by assumption) ?_ | refine EIp (by first | assumption | decide) ?_ | refine EIn (by first | assumption | decide) ?_)
      rfl
    · intro i hi
      have hi0 : i = 0 := by have := shf_tS (k := k) (t := .var v); simp only [tS] at this; omega
      subst hi0
      refine ⟨by simp [qS, shf, sb, sa, vc], fun l r h => ?_⟩
      simp only [shf, sb, sa] at h
      cases h
    · have : ¬ n = n0 := by omega
      simp [qS, this]
  | op a b iha ihb =>
    intro f m n0 w hf hb hM hK hw hN hn h21 h25 hC
    have hpa := tS_pos a
    have hpb := tS_pos b
    simp only [tS] at hf hw hn ⊢
    obtain ⟨g, rfl⟩ : ∃ g, f = g + 1 := ⟨f - 1, by omega⟩
    obtain ⟨hba, hbb⟩ := bel_op.mp hb
    obtain ⟨hc0, hca, hcb⟩ := Cd_op hC
    have hM0 := hM
    obtain ⟨⟨k433, -, -, -, -, -, -, -, -, -, -, -, -, r18, r19, r20, -⟩, ⟨-, -, -, -, -, -, -, -, -, -, -, -, k446, k447, k448, -⟩, ⟨-, -, -, -, -, -, -, -, -, -, -, -, n446, n447, n448, -⟩⟩ := hM
    let m5 : qM := qsI (qsI (qsI m 433 21 (nI (n0 + 1))) 433 25 (nI (w + 1))) 446 n0 (-1)
    have f5 : Fx dBu m m5 := ((Fx.rf.sI (Or.inl rfl)).sI (Or.inl rfl)).sI (Or.inr (Or.inl rfl))
    have i5 : ∀ c, c ≠ 433 → c ≠ 446 → qI m5 c = qI m c := fun c h1 h2 => by funext j; simp [m5, qS, h1, h2]
    obtain ⟨m6, p1, p2, p3, p4, p5, p6, p7⟩ := iha g m5 (n0 + 1) (w + 1) (by omega) hba (f5.M hM0) hK (by show w + 1 + tS a ≤ qN m A; omega) hN (by omega) (by simp [m5, qS]) (by simp [m5, qS]) (Cd_of hca (fun i _ => by rw [i5 A hA3 hA6]))
    have f6 : Fx dBu m m6 := f5.tr p2
    let m7 : qM := qsI m6 447 n0 (nI (n0 + 1))
    have f7 : Fx dBu m m7 := f6.sI (Or.inr (Or.inr (Or.inl rfl)))
    have iA : ∀ i, qI m7 A i = qI m A i := fun i => by
      rw [f7.i (fun h => by rcases h with h | h | h | h <;> contradiction)]
    obtain ⟨m8, q1, q2, q3, q4, q5, q6, q7⟩ := ihb g m7 (n0 + 1 + tS a) (w + 1 + tS a) (by omega) hbb (f7.M hM0) (by rw [f7.1]; exact hK) (by rw [f7.2.1]; omega) (by rw [f7.2.1]; exact hN) (by omega) (by simp only [m7, qS]; exact p3) (by simp only [m7, qS]; exact p4) (Cd_of hcb (fun i _ => iA _))
    have f8 : Fx dBu m m8 := f7.tr q2
    have eK6 := f6.1
    have eN6 := f6.2.1
    have eR6 := f6.2.2.1
    have eK8 := f8.1
    have eN8 := f8.2.1
    have eR8 := f8.2.2.1
    have hA9 : qI m A w = nI 99 := hc0
    refine ⟨qsI m8 448 n0 (nI (n0 + 1 + tS a)), ?_, f8.sI (Or.inr (Or.inr (Or.inr rfl))), ?_, ?_, fun j h1 h2 => ?_, fun i hi => ?_, fun n hnn => ?_⟩
    · unfold fX10_builds kX10_builds_47
      repeat (first | refine EgR (by first | assumption | (simp only [qS, hA3, eK6, eN6, eR6, eK8, eN8, eR8]; assumption)) (by first | assumption | (simp only [qS, hA3, eK6, eN6, eR6, eK8, eN8, eR8]; assumption)) ?_ | refine EgI (by first | assumption | (simp only [qS, hA3, eK6, eN6, eR6, eK8, eN8, eR8]; assumption)) (by first | assumption | (simp only [qS, ↓reduceIte, hA3, eK6, eN6, eR6, eK8, eN8, eR8]; assumption) | exact rfl) ?_ | refine EpI (by first | assumption | (simp only [qS, hA3, eK6, eN6, eR6, eK8, eN8, eR8]; assumption)) (by first | with_reducible exact nI_s _ | with_reducible exact nI_add _ _ | with_reducible exact nI_p (by omega) | with_reducible exact nI_m1 (by omega) | with_reducible exact nI_s2 _ | exact rfl) ?_ | refine EaI (by first | assumption | (simp only [qS, hA3, eK6, eN6, eR6, eK8, eN8, eR8]; assumption)) (by first | with_reducible exact nI_s _ | with_reducible exact nI_add _ _ | with_reducible exact nI_p (by omega) | with_reducible exact nI_m1 (by omega) | with_reducible exact nI_s2 _ | exact rfl) (by first | assumption | omega | (simp only [qS, hA3, eK6, eN6, eR6, eK8, eN8, eR8]; omega)) (by omega) (by first | assumption | (simp only [qS, ↓reduceIte, hA3, eK6, eN6, eR6, eK8, eN8, eR8]; assumption) | exact rfl) ?_ | refine EwI (by first | assumption | (simp only [qS, hA3, eK6, eN6, eR6, eK8, eN8, eR8]; assumption)) (by first | with_reducible exact nI_s _ | with_reducible exact nI_add _ _ | with_reducible exact nI_p (by omega) | with_reducible exact nI_m1 (by omega) | with_reducible exact nI_s2 _ | exact rfl) (by first | assumption | omega | (simp only [qS, hA3, eK6, eN6, eR6, eK8, eN8, eR8]; omega)) (by omega) (by first | with_reducible exact nI_s _ | with_reducible exact nI_add _ _ | with_reducible exact nI_p (by omega) | with_reducible exact nI_m1 (by omega) | with_reducible exact nI_s2 _ | exact rfl) ?_ | refine EaR (by first | assumption | (simp only [qS, hA3, eK6, eN6, eR6, eK8, eN8, eR8]; assumption)) (by first | with_reducible exact nI_s _ | with_reducible exact nI_add _ _ | with_reducible exact nI_p (by omega) | with_reducible exact nI_m1 (by omega) | with_reducible exact nI_s2 _ | exact rfl) (by first | assumption | omega | (simp only [qS, hA3, eK6, eN6, eR6, eK8, eN8, eR8]; omega)) (by omega) (by first | assumption | (simp only [qS, hA3, eK6, eN6, eR6, eK8, eN8, eR8]; assumption)) ?_ | refine EC (by first | assumption | (simp only [qS, hA3, eK6, eN6, eR6, eK8, eN8, eR8]; assumption)) (by assumption) ?_ | refine EB (by assumption) ?_ | refine EIp (by first | assumption | decide) ?_ | refine EIn (by first | assumption | decide) ?_)
      rfl
    · show qI m8 433 21 = _
      rw [q3]; congr 1; omega
    · show qI m8 433 25 = _
      rw [q4]; congr 1; omega
    · simp only [qS]
      rw [if_neg (by decide), q5 j h1 h2]
      show qI m6 433 j = _
      rw [p5 j h1 h2]
      simp [m5, qS, h1, h2]
    · rw [shf_tS] at hi
      simp only [tS] at hi
      have es : shf k (.op a b) = .op (shf k a) (shf k b) := rfl
      rw [es]
      cases i with
      | zero =>
        obtain ⟨o1, o2, o3⟩ := q7 n0 (by omega)
        obtain ⟨u1, u2, u3⟩ := p7 n0 (by omega)
        refine ⟨?_, fun l r h => ?_⟩
        · simp only [qS, sa_zero, vc, Nat.add_zero]
          rw [if_neg (by decide), o1]
          show qI m6 446 n0 = -1
          rw [u1]; simp [m5, qS]
        · rw [sa_zero] at h
          injection h with h1 h2
          subst h1 h2
          refine ⟨?_, ?_⟩
          · simp only [qS, Nat.add_zero]
            rw [if_neg (by decide), o2]
            simp [m7, qS]
          · simp only [qS, Nat.add_zero, ↓reduceIte, shf_tS]
      | succ i =>
        by_cases hia : i < tS a
        · rw [sa_l (by rw [shf_tS]; exact hia)]
          obtain ⟨o1, o2, o3⟩ := q7 (n0 + (i + 1)) (by omega)
          obtain ⟨v1, v2⟩ := p6 i (by rw [shf_tS]; exact hia)
          have en : n0 + 1 + i = n0 + (i + 1) := by omega
          rw [en] at v1 v2
          have en2 : ¬ n0 + (i + 1) = n0 := by omega
          refine ⟨?_, fun l r h => ?_⟩
          · simp only [qS]
            rw [if_neg (by decide), o1, ← v1]; simp [m7, qS]
          · obtain ⟨v3, v4⟩ := v2 l r h
            refine ⟨?_, ?_⟩
            · simp only [qS]
              rw [if_neg (by decide), o2, ← v3]; simp [m7, qS, en2]
            · simp only [qS, en2, ↓reduceIte]
              rw [o3, ← v4]; simp [m7, qS]
        · obtain ⟨j, rfl⟩ : ∃ j, i = j + tS a := ⟨i - tS a, by omega⟩
          have ej : j + tS a + 1 = j + 1 + tS (shf k a) := by rw [shf_tS]; omega
          rw [ej, sa_r]
          obtain ⟨v1, v2⟩ := q6 j (by rw [shf_tS]; omega)
          have en : n0 + 1 + tS a + j = n0 + (j + 1 + tS (shf k a)) := by rw [shf_tS]; omega
          rw [en] at v1 v2
          have en2 : ¬ n0 + (j + 1 + tS (shf k a)) = n0 := by omega
          refine ⟨?_, fun l r h => ?_⟩
          · simp only [qS]
            rw [if_neg (by decide), v1]
          · obtain ⟨v3, v4⟩ := v2 l r h
            refine ⟨?_, ?_⟩
            · simp only [qS]
              rw [if_neg (by decide), v3]
            · simp only [qS, en2, ↓reduceIte]
              rw [v4]
    · have en : ¬ n = n0 := by omega
      obtain ⟨o1, o2, o3⟩ := q7 n (by omega)
      obtain ⟨u1, u2, u3⟩ := p7 n (by omega)
      refine ⟨?_, ?_, ?_⟩
      · simp only [qS]; rw [if_neg (by decide), o1]; show qI m6 446 n = _; rw [u1]; simp [m5, qS, en]
      · simp only [qS]; rw [if_neg (by decide), o2]
        have : qI m7 447 n = qI m6 447 n := by simp [m7, qS, en]
        rw [this, u2]; simp [m5, qS]
      · simp only [qS, en, ↓reduceIte]; rw [o3]; show qI m6 448 n = _; rw [u3]; simp [m5, qS]
theorem begins_loop : ∀ (f k : Nat) (m : qM), MS (qK m) (qN m) (qR m) → k ≤ 78 → 78 - k < f → ∃ m2, lX10_begins_7 NF 433 f (nI k) m = some m2 ∧ Fx (fun a => a = 450 ∨ a = 458) m m2 ∧ ∀ j, (qI m2 450 j = if k ≤ j ∧ j < 78 then -1 else qI m 450 j) ∧ (qI m2 458 j = if k ≤ j ∧ j < 78 then -1 else qI m 458 j) := by
  intro f
  induction f with
  | zero => intro k m _ _ h0; omega
  | succ f ih =>
    intro k m hM hk hf
    have hM0 := hM
    obtain ⟨⟨k433, r0, r1, r2, r3, r4, r6, r10, r12, r14, r15, r16, r17, r18, r19, r20, r22, r23, r26, r28, r29, r30, r31, r33, r34, r37⟩, ⟨k434, k435, k436, k437, k438, k439, k440, k441, k442, k443, k444, k445, k446, k447, k448, k449, k450, k451, k452, k453, k454, k455, k456, k457, k458⟩, ⟨n434, n435, n436, n437, n438, n439, n440, n441, n442, n443, n444, n445, n446, n447, n448, n449, n450, n451, n452, n453, n454, n455, n456, n457, n458⟩⟩ := hM
    unfold lX10_begins_7
    by_cases e : 78 ≤ k
    · have e1 : (78 : Int32) ≤ nI k := (nI_leI (a := 78) (by omega) (by omega)).mpr e
      refine ⟨m, if_pos e1, Fx.rf, fun j => ?_⟩
      rw [if_neg (by omega), if_neg (by omega)]
      exact ⟨rfl, rfl⟩
    · have e1 : ¬ (78 : Int32) ≤ nI k := fun h => e ((nI_leI (a := 78) (by omega) (by omega)).mp h)
      let m1 : qM := qsI (qsI m 458 k (-1)) 450 k (-1)
      have f1 : Fx (fun a => a = 450 ∨ a = 458) m m1 := (Fx.rf.sI (Or.inr rfl)).sI (Or.inl rfl)
      obtain ⟨m2, p1, p2, p3⟩ := ih (k + 1) m1 (f1.M hM0) (by omega) (by omega)
      refine ⟨m2, ?_, f1.tr p2, fun j => ?_⟩
      · repeat (first | refine EgR (by first | assumption | (simp only [qS]; assumption)) (by first | assumption | (simp only [qS]; assumption)) ?_ | refine EgI (by first | assumption | (simp only [qS]; assumption)) (by first | assumption | (simp only [qS, ↓reduceIte]; assumption) | exact rfl) ?_ | refine EpI (by first | assumption | (simp only [qS]; assumption)) (by first | with_reducible exact nI_s _ | with_reducible exact nI_add _ _ | with_reducible exact nI_p (by omega) | with_reducible exact nI_m1 (by omega) | with_reducible exact nI_s2 _ | exact rfl) ?_ | refine EaI (by first | assumption | (simp only [qS]; assumption)) (by first | with_reducible exact nI_s _ | with_reducible exact nI_add _ _ | with_reducible exact nI_p (by omega) | with_reducible exact nI_m1 (by omega) | with_reducible exact nI_s2 _ | exact rfl) (by first | assumption | omega | (simp only [qS]; omega)) (by omega) (by first | assumption | (simp only [qS, ↓reduceIte]; assumption) | exact rfl) ?_ | refine EwI (by first | assumption | (simp only [qS]; assumption)) (by first | with_reducible exact nI_s _ | with_reducible exact nI_add _ _ | with_reducible exact nI_p (by omega) | with_reducible exact nI_m1 (by omega) | with_reducible exact nI_s2 _ | exact rfl) (by first | assumption | omega | (simp only [qS]; omega)) (by omega) (by first | with_reducible exact nI_s _ | with_reducible exact nI_add _ _ | with_reducible exact nI_p (by omega) | with_reducible exact nI_m1 (by omega) | with_reducible exact nI_s2 _ | exact rfl) ?_ | refine EaR (by first | assumption | (simp only [qS]; assumption)) (by first | with_reducible exact nI_s _ | with_reducible exact nI_add _ _ | with_reducible exact nI_p (by omega) | with_reducible exact nI_m1 (by omega) | with_reducible exact nI_s2 _ | exact rfl) (by first | assumption | omega | (simp only [qS]; omega)) (by omega) (by first | assumption | (simp only [qS]; assumption)) ?_ | refine EC (by first | assumption | (simp only [qS]; assumption)) (by assumption) ?_ | refine EB (by assumption) ?_ | refine EIp (by first | assumption | decide) ?_ | refine EIn (by first | assumption | decide) ?_)
        rw [nI_s]; exact p1
      · obtain ⟨q1, q2⟩ := p3 j
        rw [q1, q2]
        by_cases ej : j = k
        · subst ej
          rw [if_neg (by omega), if_pos (by omega), if_neg (by omega), if_pos (by omega)]
          simp [m1, qS]
        · by_cases ek : k ≤ j ∧ j < 78
          · rw [if_pos (by omega), if_pos ek, if_pos (by omega), if_pos ek]; exact ⟨rfl, rfl⟩
          · rw [if_neg (by omega), if_neg ek, if_neg (by omega), if_neg ek]
            simp [m1, qS, ej]
theorem m_begins {m : qM} (hM : MS (qK m) (qN m) (qR m)) : ∃ m2, fX10_begins NF 433 m = some m2 ∧ Fx (fun a => a = 433 ∨ a = 450 ∨ a = 458) m m2 ∧ qI m2 433 21 = nI 0 ∧ (∀ j, j ≠ 21 → qI m2 433 j = qI m 433 j) ∧ ∀ j, j < 78 → qI m2 450 j = -1 ∧ qI m2 458 j = -1 := by
  have f1 : Fx (fun a => a = 433 ∨ a = 450 ∨ a = 458) m (qsI m 433 21 (nI 0)) := Fx.rf.sI (Or.inl rfl)
  obtain ⟨m2, p1, p2, p3⟩ := begins_loop NF 0 (qsI m 433 21 (nI 0)) (f1.M hM) (by omega) (by unfold NF; omega)
  have k433 : qK m 433 = 10 := hM.1.1
  have e3 : qI m2 433 = qI (qsI m 433 21 (nI 0)) 433 := p2.i (by simp)
  refine ⟨m2, ?_, f1.tr (p2.mono (fun a ha => Or.inr ha)), by rw [e3]; simp [qS], fun j hj => by rw [e3]; simp [qS, hj], fun j hj => ?_⟩
  · unfold fX10_begins
    have p1' : lX10_begins_7 NF 433 NF 0 (qsI m 433 21 0) = some m2 := p1
    repeat (first | refine EgR (by first | assumption | (simp only [qS]; assumption)) (by first | assumption | (simp only [qS]; assumption)) ?_ | refine EgI (by first | assumption | (simp only [qS]; assumption)) (by first | assumption | (simp only [qS, ↓reduceIte]; assumption) | exact rfl) ?_ | refine EpI (by first | assumption | (simp only [qS]; assumption)) (by first | with_reducible exact nI_s _ | with_reducible exact nI_add _ _ | with_reducible exact nI_p (by omega) | with_reducible exact nI_m1 (by omega) | with_reducible exact nI_s2 _ | exact rfl) ?_ | refine EaI (by first | assumption | (simp only [qS]; assumption)) (by first | with_reducible exact nI_s _ | with_reducible exact nI_add _ _ | with_reducible exact nI_p (by omega) | with_reducible exact nI_m1 (by omega) | with_reducible exact nI_s2 _ | exact rfl) (by first | assumption | omega | (simp only [qS]; omega)) (by omega) (by first | assumption | (simp only [qS, ↓reduceIte]; assumption) | exact rfl) ?_ | refine EwI (by first | assumption | (simp only [qS]; assumption)) (by first | with_reducible exact nI_s _ | with_reducible exact nI_add _ _ | with_reducible exact nI_p (by omega) | with_reducible exact nI_m1 (by omega) | with_reducible exact nI_s2 _ | exact rfl) (by first | assumption | omega | (simp only [qS]; omega)) (by omega) (by first | with_reducible exact nI_s _ | with_reducible exact nI_add _ _ | with_reducible exact nI_p (by omega) | with_reducible exact nI_m1 (by omega) | with_reducible exact nI_s2 _ | exact rfl) ?_ | refine EaR (by first | assumption | (simp only [qS]; assumption)) (by first | with_reducible exact nI_s _ | with_reducible exact nI_add _ _ | with_reducible exact nI_p (by omega) | with_reducible exact nI_m1 (by omega) | with_reducible exact nI_s2 _ | exact rfl) (by first | assumption | omega | (simp only [qS]; omega)) (by omega) (by first | assumption | (simp only [qS]; assumption)) ?_ | refine EC (by first | assumption | (simp only [qS]; assumption)) (by assumption) ?_ | refine EB (by assumption) ?_ | refine EIp (by first | assumption | decide) ?_ | refine EIn (by first | assumption | decide) ?_)
    rfl
  · obtain ⟨q1, q2⟩ := p3 j
    rw [q1, q2, if_pos (by omega), if_pos (by omega)]
    exact ⟨rfl, rfl⟩
