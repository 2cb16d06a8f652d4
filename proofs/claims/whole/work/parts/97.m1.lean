section
-- ===== reduction in the reference: nodes =====
theorem MS.nd {K N : Nat → Nat} {R : Nat → Nat → Option Nat} (h : MS K N R) : K 433 = 10 ∧ R 433 29 = some 453 ∧ R 433 30 = some 454 ∧ R 433 31 = some 455 ∧ K 453 = 12 ∧ K 454 = 12 ∧ K 455 = 12 ∧ N 453 = 7000 ∧ N 454 = 7000 ∧ N 455 = 7000 ∧ R 433 6 = some 439 ∧ K 439 = 12 ∧ N 439 = 80 ∧ R 433 10 = some 440 ∧ K 440 = 12 ∧ N 440 = 400 := by
  obtain ⟨⟨k433, r0, r1, r2, r3, r4, r6, r10, r12, r14, r15, r16, r17, r18, r19, r20, r22, r23, r26, r28, r29, r30, r31, r33, r34, r37⟩, ⟨k434, k435, k436, k437, k438, k439, k440, k441, k442, k443, k444, k445, k446, k447, k448, k449, k450, k451, k452, k453, k454, k455, k456, k457, k458⟩, ⟨n434, n435, n436, n437, n438, n439, n440, n441, n442, n443, n444, n445, n446, n447, n448, n449, n450, n451, n452, n453, n454, n455, n456, n457, n458⟩⟩ := h
  exact ⟨k433, r29, r30, r31, k453, k454, k455, n453, n454, n455, r6, k439, n439, r10, k440, n440⟩
def NdT (I : Nat → Nat → Int32) (n : Nat) : Tm → Nat → Prop
  | .var c, i => i < n ∧ I 453 i = nI (ixL c) ∧ ixL c < 6
  | .op f x, i => i < n ∧ I 453 i = -1 ∧ ∃ a b, I 454 i = nI a ∧ I 455 i = nI b ∧ NdT I n f a ∧ NdT I n x b
theorem NdT_of {I I2 : Nat → Nat → Int32} {n n2 : Nat} (hn : n ≤ n2) (e : ∀ a j, 453 ≤ a → a ≤ 455 → j < n → I2 a j = I a j) {t : Tm} : ∀ {i : Nat}, NdT I n t i → NdT I2 n2 t i := by
  induction t with
  | var c =>
    rintro i ⟨h1, h2, h3⟩
    exact ⟨by omega, (e 453 i (by omega) (by omega) h1).trans h2, h3⟩
  | op f x ihf ihx =>
    rintro i ⟨h1, h2, a, b, h3, h4, h5, h6⟩
    exact ⟨by omega, (e 453 i (by omega) (by omega) h1).trans h2, a, b, (e 454 i (by omega) (by omega) h1).trans h3, (e 455 i (by omega) (by omega) h1).trans h4, ihf h5, ihx h6⟩
theorem NdT_lt {I : Nat → Nat → Int32} {n i : Nat} {t : Tm} (h : NdT I n t i) : i < n := by
  cases t with
  | var c => exact h.1
  | op f x => exact h.1
theorem NdT_ok {I : Nat → Nat → Int32} {n : Nat} {t : Tm} : ∀ {i : Nat}, NdT I n t i → yOk t := by
  induction t with
  | var c => rintro i ⟨-, -, h⟩; exact h
  | op f x ihf ihx =>
    rintro i ⟨-, -, a, b, -, -, h5, h6⟩
    exact ⟨ihf h5, ihx h6⟩
def dNd (a : Nat) : Prop := a = 433 ∨ (453 ≤ a ∧ a ≤ 455)
/-- nodes are added behind the first n -/
def Nf (m m2 : qM) (n n2 : Nat) : Prop := Fx dNd m m2 ∧ (∀ j, j ≠ 32 → j ≠ 25 → j ≠ 8 → qI m2 433 j = qI m 433 j) ∧ (∀ a j, 453 ≤ a → a ≤ 455 → j < n → qI m2 a j = qI m a j) ∧ n ≤ n2 ∧ qI m2 433 32 = nI n2
theorem Nf.tr {m1 m2 m3 : qM} {n1 n2 n3 : Nat} (h1 : Nf m1 m2 n1 n2) (h2 : Nf m2 m3 n2 n3) : Nf m1 m3 n1 n3 := by
  obtain ⟨a1, a2, a3, a4, a5⟩ := h1
  obtain ⟨b1, b2, b3, b4, b5⟩ := h2
  exact ⟨a1.tr b1, fun j x y z => (b2 j x y z).trans (a2 j x y z), fun a j x y z => (b3 a j x y (by omega)).trans (a3 a j x y z), by omega, b5⟩
theorem Nf.rf {m : qM} {n : Nat} (h : qI m 433 32 = nI n) : Nf m m n n := ⟨Fx.rf, fun _ _ _ _ => rfl, fun _ _ _ _ _ => rfl, Nat.le_refl _, h⟩
theorem Nf.nd {m m2 : qM} {n n2 i : Nat} {t : Tm} (h : Nf m m2 n n2) (ht : NdT (qI m) n t i) : NdT (qI m2) n2 t i := NdT_of h.2.2.2.1 h.2.2.1 ht
theorem Nf.M {m m2 : qM} {n n2 : Nat} (h : Nf m m2 n n2) (hM : MS (qK m) (qN m) (qR m)) : MS (qK m2) (qN m2) (qR m2) := h.1.M hM
theorem Nf.P {m m2 : qM} {n n2 : Nat} {s : ST} (h : Nf m m2 n n2) (hP : MP m s) : MP m2 s :=
  MP_kq hP h.1 (fun a ha => by unfold dNd at ha; omega) (fun j hj => h.2.1 j (by unfold kq at hj; omega) (by unfold kq at hj; omega) (by unfold kq at hj; omega))
theorem m_node {m : qM} {n : Nat} (hM : MS (qK m) (qN m) (qR m)) (h : qI m 433 32 = nI n) (hn : n < 7000) (l a b : Int32) : ∃ m2, fX10_node NF 433 l a b m = some (nI n, m2) ∧ Nf m m2 n (n + 1) ∧ qI m2 453 n = l ∧ qI m2 454 n = a ∧ qI m2 455 n = b ∧ (∀ j, j ≠ 32 → qI m2 433 j = qI m 433 j) := by
  obtain ⟨k, r29, r30, r31, k453, k454, k455, n453, n454, n455, -⟩ := hM.nd
  let m1 : qM := qsI m 453 n l
  let m2 : qM := qsI m1 454 n a
  let m3 : qM := qsI m2 455 n b
  let m4 : qM := qsI m3 433 32 (nI (n + 1))
  have f4 : Fx dNd m m4 := (((Fx.rf.sI (Or.inr (by omega))).sI (Or.inr (by omega))).sI (Or.inr (by omega))).sI (Or.inl rfl)
  have e1 : qI m1 433 32 = nI n := by simp only [m1, qS]; rw [if_neg (by omega)]; exact h
  have e2 : qI m2 433 32 = nI n := by simp only [m2, qS]; rw [if_neg (by omega)]; exact e1
  have e3 : qI m3 433 32 = nI n := by simp only [m3, qS]; rw [if_neg (by omega)]; exact e2
  have hj : ∀ j, j ≠ 32 → qI m4 433 j = qI m 433 j := fun j hj => by simp [m4, m3, m2, m1, qS, hj]
  refine ⟨m4, ?_, ⟨f4, fun j x _ _ => hj j x, fun c j h1 h2 h3 => ?_, by omega, by simp [m4, qS]⟩, by simp [m4, m3, m2, m1, qS], by simp [m4, m3, m2, m1, qS], by simp [m4, m3, m2, m1, qS], hj⟩
  · unfold fX10_node
    refine EgR k r29 ?_
    refine EgI k h ?_
    refine EwI k453 rfl (show n < qN m 453 by omega) (by omega) rfl ?_
    refine EgR (show qK m1 433 = 10 from k) (show qR m1 433 30 = some 454 from r30) ?_
    refine EgI (show qK m1 433 = 10 from k) e1 ?_
    refine EwI (show qK m1 454 = 12 from k454) rfl (show n < qN m1 454 from by show n < qN m 454; omega) (by omega) rfl ?_
    refine EgR (show qK m2 433 = 10 from k) (show qR m2 433 31 = some 455 from r31) ?_
    refine EgI (show qK m2 433 = 10 from k) e2 ?_
    refine EwI (show qK m2 455 = 12 from k455) rfl (show n < qN m2 455 from by show n < qN m 455; omega) (by omega) rfl ?_
    refine EgI (show qK m3 433 = 10 from k) e3 ?_
    refine EpI (show qK m3 433 = 10 from k) (nI_s _) ?_
    rfl
  · have h4 : ¬ c = 433 := by omega
    have h5 : ¬ j = n := by omega
    simp only [m4, m3, m2, m1, qS, h4, h5, ↓reduceIte]
    simp
theorem m_apply {m : qM} {n a b : Nat} {f x : Tm} (hM : MS (qK m) (qN m) (qR m)) (h : qI m 433 32 = nI n) (hn : n < 7000) (hf : NdT (qI m) n f a) (hx : NdT (qI m) n x b) : ∃ m2, fX10_apply NF 433 (nI a) (nI b) m = some (nI n, m2) ∧ Nf m m2 n (n + 1) ∧ NdT (qI m2) (n + 1) (.op f x) n ∧ (∀ j, j ≠ 32 → qI m2 433 j = qI m 433 j) := by
  obtain ⟨m2, q1, q2, q3, q4, q5, q6⟩ := m_node hM h hn (-1) (nI a) (nI b)
  refine ⟨m2, ?_, q2, ⟨by omega, q3, a, b, q4, q5, q2.nd hf, q2.nd hx⟩, q6⟩
  unfold fX10_apply
  exact EC hM.nd.1 q1 rfl
theorem m_sizeOf {m : qM} {n : Nat} (hM : MS (qK m) (qN m) (qR m)) (hn : n ≤ 7000) : ∀ (t : Tm) (k i : Nat), NdT (qI m) n t i → yDp t < k → fX10_sizeOf NF k 433 (nI i) m = some (nI (yLv t), m) := by
  obtain ⟨k433, r29, r30, r31, k453, k454, k455, n453, n454, n455, -⟩ := hM.nd
  intro t
  induction t with
  | var c =>
    intro k i h hk
    obtain ⟨k, rfl⟩ : ∃ z, k = z + 1 := ⟨k - 1, by omega⟩
    obtain ⟨h1, h2, h3⟩ := h
    unfold fX10_sizeOf
    refine EgR k433 r29 ?_
    refine EaI k453 rfl (show i < qN m 453 by omega) (by omega) h2 ?_
    exact if_neg (nI_pos (by omega))
  | op f x ihf ihx =>
    intro k i h hk
    obtain ⟨k, rfl⟩ : ∃ z, k = z + 1 := ⟨k - 1, by omega⟩
    obtain ⟨h1, h2, a, b, h3, h4, h5, h6⟩ := h
    have hd : max (yDp f) (yDp x) + 1 < k + 1 := hk
    have e1 := ihf k a h5 (by omega)
    have e2 := ihx k b h6 (by omega)
    conv => lhs; unfold fX10_sizeOf
    refine EgR k433 r29 ?_
    refine EaI k453 rfl (show i < qN m 453 by omega) (by omega) h2 ?_
    refine EIp (by decide) ?_
    refine EgR k433 r30 ?_
    refine EaI k454 rfl (show i < qN m 454 by omega) (by omega) h3 ?_
    refine EC k433 e1 ?_
    refine EgR k433 r31 ?_
    refine EaI k455 rfl (show i < qN m 455 by omega) (by omega) h4 ?_
    refine EC k433 e2 ?_
    show some (nI (yLv f) + nI (yLv x), m) = _
    rw [nI_add]
    rfl
theorem m_spineL {m : qM} {n : Nat} (hM : MS (qK m) (qN m) (qR m)) (hn : n ≤ 7000) : ∀ (t : Tm) (f i w : Nat), NdT (qI m) n t i → ySp t < f → ∃ h, lX10_spine_4 NF 433 f (nI i) (nI w) m = some (nI h, nI (w + ySp t), m) ∧ h < n ∧ qI m 453 h = nI (ixL (yHd t)) := by
  obtain ⟨k433, r29, r30, r31, k453, k454, k455, n453, n454, n455, -⟩ := hM.nd
  intro t
  induction t with
  | var c =>
    intro f i w h hf
    obtain ⟨f, rfl⟩ : ∃ z, f = z + 1 := ⟨f - 1, by omega⟩
    obtain ⟨h1, h2, h3⟩ := h
    refine ⟨i, ?_, h1, h2⟩
    unfold lX10_spine_4
    refine EgR k433 r29 ?_
    refine EaI k453 rfl (show i < qN m 453 by omega) (by omega) h2 ?_
    exact if_pos (nI_g0 (by omega))
  | op g x ihf ihx =>
    intro f i w h hf
    obtain ⟨f, rfl⟩ : ∃ z, f = z + 1 := ⟨f - 1, by omega⟩
    obtain ⟨h1, h2, a, b, h3, h4, h5, h6⟩ := h
    have hf2 : ySp g + 1 < f + 1 := hf
    obtain ⟨u, q1, q2, q3⟩ := ihf f a (w + 1) h5 (by omega)
    refine ⟨u, ?_, q2, q3⟩
    conv => lhs; unfold lX10_spine_4
    refine EgR k433 r29 ?_
    refine EaI k453 rfl (show i < qN m 453 by omega) (by omega) h2 ?_
    refine EIn (by decide) ?_
    refine EgR k433 r30 ?_
    refine EaI k454 rfl (show i < qN m 454 by omega) (by omega) h3 ?_
    rw [nI_s, q1]
    show some (nI u, nI (w + 1 + ySp g), m) = some (nI u, nI (w + (ySp g + 1)), m)
    rw [show w + 1 + ySp g = w + (ySp g + 1) by omega]
theorem ySp_dp (t : Tm) : ySp t ≤ yDp t := by
  induction t with
  | var c => exact Nat.le_refl 0
  | op f x ihf ihx => show ySp f + 1 ≤ max (yDp f) (yDp x) + 1; omega
theorem m_spine {m : qM} {n i : Nat} {t : Tm} (hM : MS (qK m) (qN m) (qR m)) (hn : n ≤ 7000) (h : NdT (qI m) n t i) (hd : yDp t < 200) : fX10_spine NF 433 (nI i) m = some (nI (ySp t), qsI m 433 25 (nI (ixL (yHd t)))) := by
  obtain ⟨k433, r29, r30, r31, k453, k454, k455, n453, n454, n455, -⟩ := hM.nd
  have := ySp_dp t
  obtain ⟨u, q1, q2, q3⟩ := m_spineL hM hn t NF i 0 h (by unfold NF; omega)
  unfold fX10_spine
  refine EB (show lX10_spine_4 NF 433 NF (nI i) 0 m = _ from q1) ?_
  refine EgR k433 r29 ?_
  refine EaI k453 rfl (show u < qN m 453 by omega) (by omega) q3 ?_
  refine EpI k433 rfl ?_
  rw [Nat.zero_add]
theorem ix_cd1 : ∀ c, c < 128 → ixL c < 6 → (c = 83 ∧ ixL c = 0) ∨ (c = 75 ∧ ixL c = 1) ∨ (c = 73 ∧ ixL c = 2) ∨ (c = 66 ∧ ixL c = 3) ∨ (c = 67 ∧ ixL c = 4) ∨ (c = 87 ∧ ixL c = 5) := by decide
theorem ix_codes (c : Nat) (hc : c < 128) (hi : ixL c < 6) : (c = 83 ∧ ixL c = 0 ∧ arN c = 3) ∨ (c = 75 ∧ ixL c = 1 ∧ arN c = 2) ∨ (c = 73 ∧ ixL c = 2 ∧ arN c = 1) ∨ (c = 66 ∧ ixL c = 3 ∧ arN c = 3) ∨ (c = 67 ∧ ixL c = 4 ∧ arN c = 3) ∨ (c = 87 ∧ ixL c = 5 ∧ arN c = 2) := by
  rcases ix_cd1 c hc hi with ⟨e, e1⟩ | ⟨e, e1⟩ | ⟨e, e1⟩ | ⟨e, e1⟩ | ⟨e, e1⟩ | ⟨e, e1⟩
  · exact Or.inl ⟨e, e1, by rw [e]; rfl⟩
  · exact Or.inr (Or.inl ⟨e, e1, by rw [e]; rfl⟩)
  · exact Or.inr (Or.inr (Or.inl ⟨e, e1, by rw [e]; rfl⟩))
  · exact Or.inr (Or.inr (Or.inr (Or.inl ⟨e, e1, by rw [e]; rfl⟩)))
  · exact Or.inr (Or.inr (Or.inr (Or.inr (Or.inl ⟨e, e1, by rw [e]; rfl⟩))))
  · exact Or.inr (Or.inr (Or.inr (Or.inr (Or.inr ⟨e, e1, by rw [e]; rfl⟩))))
theorem m_needs {c : Nat} {m : qM} (hc : c < 128) (hi : ixL c < 6) : fX10_needs NF (nI (ixL c)) m = some (nI (arN c), m) := by
  rcases ix_codes c hc hi with ⟨-, e1, e2⟩ | ⟨-, e1, e2⟩ | ⟨-, e1, e2⟩ | ⟨-, e1, e2⟩ | ⟨-, e1, e2⟩ | ⟨-, e1, e2⟩ <;> rw [e1, e2] <;> rfl
theorem m_contracts {m : qM} {n i : Nat} {t : Tm} (hM : MS (qK m) (qN m) (qR m)) (hn : n + 3 ≤ 7000) (h32 : qI m 433 32 = nI n) (h : NdT (qI m) n t i) (hs : ySp t = arN (yHd t)) (h25 : qI m 433 25 = nI (ixL (yHd t))) : ∃ m2 n2 j, fX10_contracts NF 433 (nI i) m = some (nI j, m2) ∧ Nf m m2 n n2 ∧ n2 ≤ n + 3 ∧ NdT (qI m2) n2 (yCt t) j := by
  obtain ⟨k433, r29, r30, r31, k453, k454, k455, n453, n454, n455, -⟩ := hM.nd
  have hok := yOk_hd (NdT_ok h)
  have hlt := (ixL_c hok).1
  rcases ix_codes _ (by omega) hok with ⟨e, e1, e2⟩ | ⟨e, e1, e2⟩ | ⟨e, e1, e2⟩ | ⟨e, e1, e2⟩ | ⟨e, e1, e2⟩ | ⟨e, e1, e2⟩
  · -- S
    rw [e2] at hs
    rw [e1] at h25
    obtain ⟨c, x, y, z, rfl⟩ := sp3 hs
    have hcc : c = 83 := e
    subst hcc
    obtain ⟨g1, -, a1, b1, g3, g4, ⟨g5, -, a2, b2, g7, g8, ⟨g9, -, a3, b3, -, g12, -, g13⟩, g11⟩, g14⟩ := h
    obtain ⟨m1, p1, p2, p3, p4⟩ := m_apply hM h32 (by omega) g13 g14
    obtain ⟨m2, q1, q2, q3, q4⟩ := m_apply (p2.M hM) p2.2.2.2.2 (by omega) (p2.nd g11) (p2.nd g14)
    obtain ⟨m3, s1, s2, s3, s4⟩ := m_apply (q2.M (p2.M hM)) q2.2.2.2.2 (by omega) (q2.nd p3) q3
    refine ⟨m3, n + 1 + 1 + 1, n + 1 + 1, ?_, (p2.tr q2).tr s2, by omega, s3⟩
    unfold fX10_contracts
    refine EgR k433 r31 ?_
    refine EaI k455 rfl (show i < qN m 455 by omega) (by omega) g4 ?_
    refine EgI k433 h25 ?_
    refine EIn (by decide) ?_
    refine EgR k433 r31 ?_
    refine EgR k433 r30 ?_
    refine EaI k454 rfl (show i < qN m 454 by omega) (by omega) g3 ?_
    refine EaI k455 rfl (show a1 < qN m 455 by omega) (by omega) g8 ?_
    refine EgI k433 h25 ?_
    refine EIn (by decide) ?_
    refine EgI k433 h25 ?_
    refine EIn (by decide) ?_
    refine EgR k433 r31 ?_
    refine EgR k433 r30 ?_
    refine EgR k433 r30 ?_
    refine EaI k454 rfl (show i < qN m 454 by omega) (by omega) g3 ?_
    refine EaI k454 rfl (show a1 < qN m 454 by omega) (by omega) g7 ?_
    refine EaI k455 rfl (show a2 < qN m 455 by omega) (by omega) g12 ?_
    refine EgI k433 h25 ?_
    refine EIp (by decide) ?_
    refine EC k433 p1 ?_
    refine EC (p2.M hM).nd.1 q1 ?_
    refine EC (q2.M (p2.M hM)).nd.1 s1 ?_
    rfl
  · -- K
    rw [e2] at hs
    rw [e1] at h25
    obtain ⟨c, x, y, rfl⟩ := sp2 hs
    have hcc : c = 75 := e
    subst hcc
    obtain ⟨g1, -, a1, b1, g3, g4, ⟨g5, -, a2, b2, g7, g8, -, g11⟩, g14⟩ := h
    refine ⟨m, n, b2, ?_, Nf.rf h32, by omega, g11⟩
    unfold fX10_contracts
    refine EgR k433 r31 ?_
    refine EaI k455 rfl (show i < qN m 455 by omega) (by omega) g4 ?_
    refine EgI k433 h25 ?_
    refine EIn (by decide) ?_
    refine EgR k433 r31 ?_
    refine EgR k433 r30 ?_
    refine EaI k454 rfl (show i < qN m 454 by omega) (by omega) g3 ?_
    refine EaI k455 rfl (show a1 < qN m 455 by omega) (by omega) g8 ?_
    refine EgI k433 h25 ?_
    exact if_pos (by decide)
  · -- I
    rw [e2] at hs
    rw [e1] at h25
    obtain ⟨c, x, rfl⟩ := sp1 hs
    have hcc : c = 73 := e
    subst hcc
    obtain ⟨g1, -, a1, b1, g3, g4, -, g14⟩ := h
    refine ⟨m, n, b1, ?_, Nf.rf h32, by omega, g14⟩
    unfold fX10_contracts
    refine EgR k433 r31 ?_
    refine EaI k455 rfl (show i < qN m 455 by omega) (by omega) g4 ?_
    refine EgI k433 h25 ?_
    exact if_pos (by decide)
  · -- B
    rw [e2] at hs
    rw [e1] at h25
    obtain ⟨c, x, y, z, rfl⟩ := sp3 hs
    have hcc : c = 66 := e
    subst hcc
    obtain ⟨g1, -, a1, b1, g3, g4, ⟨g5, -, a2, b2, g7, g8, ⟨g9, -, a3, b3, -, g12, -, g13⟩, g11⟩, g14⟩ := h
    obtain ⟨m1, p1, p2, p3, p4⟩ := m_apply hM h32 (by omega) g11 g14
    obtain ⟨m2, q1, q2, q3, q4⟩ := m_apply (p2.M hM) p2.2.2.2.2 (by omega) (p2.nd g13) p3
    refine ⟨m2, n + 1 + 1, n + 1, ?_, p2.tr q2, by omega, q3⟩
    unfold fX10_contracts
    refine EgR k433 r31 ?_
    refine EaI k455 rfl (show i < qN m 455 by omega) (by omega) g4 ?_
    refine EgI k433 h25 ?_
    refine EIn (by decide) ?_
    refine EgR k433 r31 ?_
    refine EgR k433 r30 ?_
    refine EaI k454 rfl (show i < qN m 454 by omega) (by omega) g3 ?_
    refine EaI k455 rfl (show a1 < qN m 455 by omega) (by omega) g8 ?_
    refine EgI k433 h25 ?_
    refine EIn (by decide) ?_
    refine EgI k433 h25 ?_
    refine EIn (by decide) ?_
    refine EgR k433 r31 ?_
    refine EgR k433 r30 ?_
    refine EgR k433 r30 ?_
    refine EaI k454 rfl (show i < qN m 454 by omega) (by omega) g3 ?_
    refine EaI k454 rfl (show a1 < qN m 454 by omega) (by omega) g7 ?_
    refine EaI k455 rfl (show a2 < qN m 455 by omega) (by omega) g12 ?_
    refine EgI k433 h25 ?_
    refine EIn (by decide) ?_
    refine EgI k433 h25 ?_
    refine EIp (by decide) ?_
    refine EC k433 p1 ?_
    refine EC (p2.M hM).nd.1 q1 ?_
    rfl
  · -- C
    rw [e2] at hs
    rw [e1] at h25
    obtain ⟨c, x, y, z, rfl⟩ := sp3 hs
    have hcc : c = 67 := e
    subst hcc
    obtain ⟨g1, -, a1, b1, g3, g4, ⟨g5, -, a2, b2, g7, g8, ⟨g9, -, a3, b3, -, g12, -, g13⟩, g11⟩, g14⟩ := h
    obtain ⟨m1, p1, p2, p3, p4⟩ := m_apply hM h32 (by omega) g13 g14
    obtain ⟨m2, q1, q2, q3, q4⟩ := m_apply (p2.M hM) p2.2.2.2.2 (by omega) p3 (p2.nd g11)
    refine ⟨m2, n + 1 + 1, n + 1, ?_, p2.tr q2, by omega, q3⟩
    unfold fX10_contracts
    refine EgR k433 r31 ?_
    refine EaI k455 rfl (show i < qN m 455 by omega) (by omega) g4 ?_
    refine EgI k433 h25 ?_
    refine EIn (by decide) ?_
    refine EgR k433 r31 ?_
    refine EgR k433 r30 ?_
    refine EaI k454 rfl (show i < qN m 454 by omega) (by omega) g3 ?_
    refine EaI k455 rfl (show a1 < qN m 455 by omega) (by omega) g8 ?_
    refine EgI k433 h25 ?_
    refine EIn (by decide) ?_
    refine EgI k433 h25 ?_
    refine EIn (by decide) ?_
    refine EgR k433 r31 ?_
    refine EgR k433 r30 ?_
    refine EgR k433 r30 ?_
    refine EaI k454 rfl (show i < qN m 454 by omega) (by omega) g3 ?_
    refine EaI k454 rfl (show a1 < qN m 454 by omega) (by omega) g7 ?_
    refine EaI k455 rfl (show a2 < qN m 455 by omega) (by omega) g12 ?_
    refine EgI k433 h25 ?_
    refine EIn (by decide) ?_
    refine EgI k433 h25 ?_
    refine EIn (by decide) ?_
    refine EC k433 p1 ?_
    refine EC (p2.M hM).nd.1 q1 ?_
    rfl
  · -- W
    rw [e2] at hs
    rw [e1] at h25
    obtain ⟨c, x, y, rfl⟩ := sp2 hs
    have hcc : c = 87 := e
    subst hcc
    obtain ⟨g1, -, a1, b1, g3, g4, ⟨g5, -, a2, b2, g7, g8, -, g11⟩, g14⟩ := h
    obtain ⟨m1, p1, p2, p3, p4⟩ := m_apply hM h32 (by omega) g11 g14
    obtain ⟨m2, q1, q2, q3, q4⟩ := m_apply (p2.M hM) p2.2.2.2.2 (by omega) p3 (p2.nd g14)
    refine ⟨m2, n + 1 + 1, n + 1, ?_, p2.tr q2, by omega, q3⟩
    unfold fX10_contracts
    refine EgR k433 r31 ?_
    refine EaI k455 rfl (show i < qN m 455 by omega) (by omega) g4 ?_
    refine EgI k433 h25 ?_
    refine EIn (by decide) ?_
    refine EgR k433 r31 ?_
    refine EgR k433 r30 ?_
    refine EaI k454 rfl (show i < qN m 454 by omega) (by omega) g3 ?_
    refine EaI k455 rfl (show a1 < qN m 455 by omega) (by omega) g8 ?_
    refine EgI k433 h25 ?_
    refine EIn (by decide) ?_
    refine EgI k433 h25 ?_
    refine EIp (by decide) ?_
    refine EC k433 p1 ?_
    refine EC (p2.M hM).nd.1 q1 ?_
    rfl
theorem m_reduces : ∀ (t : Tm) (k i n : Nat) (m : qM), MS (qK m) (qN m) (qR m) → qI m 433 32 = nI n → NdT (qI m) n t i → yDp t < k → yDp t < 150 → n + yDp t + 3 ≤ 7000 → ∃ m2 n2, Nf m m2 n n2 ∧ n2 ≤ n + yDp t + 3 ∧ ((yRd t = none ∧ n2 = n ∧ fX10_reduces NF k 433 (nI i) m = some (-1, m2)) ∨ ∃ u j, yRd t = some u ∧ fX10_reduces NF k 433 (nI i) m = some (nI j, m2) ∧ NdT (qI m2) n2 u j) := by
  intro t
  induction t with
  | var c =>
    intro k i n m hM h32 h hk hd hn
    obtain ⟨k, rfl⟩ : ∃ z, k = z + 1 := ⟨k - 1, by omega⟩
    obtain ⟨k433, r29, r30, r31, k453, k454, k455, n453, n454, n455, -⟩ := hM.nd
    obtain ⟨h1, h2, h3⟩ := h
    refine ⟨m, n, Nf.rf h32, by omega, Or.inl ⟨rfl, rfl, ?_⟩⟩
    unfold fX10_reduces
    refine EgR k433 r29 ?_
    refine EaI k453 rfl (show i < qN m 453 by omega) (by omega) h2 ?_
    exact if_neg (nI_pos (by omega))
  | op f x ihf ihx =>
    intro k i n m hM h32 h hk hd hn
    obtain ⟨k, rfl⟩ : ∃ z, k = z + 1 := ⟨k - 1, by omega⟩
    have hh := h
    have hok := NdT_ok h
    have hhd := yOk_hd hok
    have hlt := (ixL_c hhd).1
    have hdd : yDp (Lean.Data.AC.Expr.op f x) = max (yDp f) (yDp x) + 1 := rfl
    rw [hdd] at hk hd hn ⊢
    obtain ⟨k433, r29, r30, r31, k453, k454, k455, n453, n454, n455, -⟩ := hM.nd
    have hsp := m_spine hM (by omega) h (by rw [hdd]; omega)
    let m1 : qM := qsI m 433 25 (nI (ixL (yHd (.op f x))))
    have f1 : Fx dNd m m1 := Fx.rf.sI (Or.inl rfl)
    have g1 : Nf m m1 n n := by
      refine ⟨f1, fun j _ h2 _ => ?_, fun a j z1 z2 _ => ?_, Nat.le_refl _, ?_⟩
      · simp only [m1, qS]
        rw [if_pos trivial, if_neg h2]
      · simp only [m1, qS]
        rw [if_neg (by omega)]
      · simp only [m1, qS]
        rw [if_pos trivial, if_neg (by decide)]
        exact h32
    have hM1 := g1.M hM
    have h1 := g1.nd h
    have h25 : qI m1 433 25 = nI (ixL (yHd (.op f x))) := by simp [m1, qS]
    have hsl := ySp_dp f
    have har := arN_lt (yHd f)
    have hpre : ∀ R, (if nI (ySp f + 1) = nI (arN (yHd f)) then (qChk m1 433 10 (fX10_contracts NF 433 (nI i) m1)).bind fun b18 => some (b18.1, b18.2) else (qgR m1 433 10 30).bind fun x6 => (qaI m1 x6 12 (nI i)).bind fun x7 => (qChk m1 433 10 (fX10_reduces NF k 433 x7 m1)).bind fun b8 => if b8.1 < 0 then (qgR b8.2 433 10 31).bind fun x9 => (qaI b8.2 x9 12 (nI i)).bind fun x10 => (qChk b8.2 433 10 (fX10_reduces NF k 433 x10 b8.2)).bind fun b11 => if 0 ≤ b11.1 then (qgR b11.2 433 10 30).bind fun x12 => (qaI b11.2 x12 12 (nI i)).bind fun x13 => (qChk b11.2 433 10 (fX10_apply NF 433 x13 b11.1 b11.2)).bind fun b14 => some (b14.1, b14.2) else some ((-1 : Int32), b11.2) else (qgR b8.2 433 10 31).bind fun x15 => (qaI b8.2 x15 12 (nI i)).bind fun x16 => (qChk b8.2 433 10 (fX10_apply NF 433 b8.1 x16 b8.2)).bind fun b17 => some (b17.1, b17.2)) = R → fX10_reduces NF (k + 1) 433 (nI i) m = R := by
      intro R hR
      conv => lhs; unfold fX10_reduces
      refine EgR k433 r29 ?_
      refine EaI k453 rfl (show i < qN m 453 by have := hh.1; omega) (by have := hh.1; omega) hh.2.1 ?_
      refine EIp (by decide) ?_
      refine EC k433 hsp ?_
      refine EgI hM1.nd.1 h25 ?_
      refine EB (m_needs (c := yHd f) (by show yHd f < 128; have : yHd (.op f x) ≤ 87 := hlt; have e : yHd (.op f x) = yHd f := rfl; omega) hhd) ?_
      exact hR
    by_cases e : ySp f + 1 = arN (yHd f)
    · obtain ⟨m2, n2, j, q1, q2, q3, q4⟩ := m_contracts hM1 (by omega) g1.2.2.2.2 h1 e h25
      refine ⟨m2, n2, g1.tr q2, by omega, Or.inr ⟨yCt (.op f x), j, by rw [yRd_op, if_pos e], hpre _ ?_, q4⟩⟩
      refine EIp (by rw [e]) ?_
      exact EC hM1.nd.1 q1 rfl
    · have hne : ¬ nI (ySp f + 1) = nI (arN (yHd f)) := fun z => e ((nI_eq (by omega) (by omega)).mp z)
      obtain ⟨i1, i2, a, b, i3, i4, i5, i6⟩ := id h1
      obtain ⟨K433, R29, R30, R31, K453, K454, K455, N453, N454, N455, -⟩ := hM1.nd
      obtain ⟨m2, n2, p1, p2, p3⟩ := ihf k a n m1 hM1 g1.2.2.2.2 i5 (by omega) (by omega) (by omega)
      have g2 := g1.tr p1
      have hM2 := g2.M hM
      obtain ⟨L433, S29, S30, S31, L453, L454, L455, O453, O454, O455, -⟩ := hM2.nd
      obtain ⟨j1, j2, a', b', j3, j4, j5, j6⟩ := p1.nd h1
      have ea : a' = a := by
        have e5 : qI m2 454 i = qI m1 454 i := p1.2.2.1 454 i (by omega) (by omega) i1
        rw [e5, i3] at j3
        have := NdT_lt i5
        have := NdT_lt j5
        exact ((nI_eq (by omega) (by omega)).mp j3).symm
      rcases p3 with ⟨r1, r2, r3⟩ | ⟨u, j, r1, r2, r3⟩
      · subst r2
        obtain ⟨m3, n3, t1, t2, t3⟩ := ihx k b' n2 m2 hM2 p1.2.2.2.2 j6 (by omega) (by omega) (by omega)
        have g3 := g2.tr t1
        have hM3 := g3.M hM
        obtain ⟨P433, T29, T30, T31, P453, P454, P455, Q453, Q454, Q455, -⟩ := hM3.nd
        have hpre2 : ∀ R, (fX10_reduces NF k 433 (nI b') m2).bind (fun b11 => if 0 ≤ b11.1 then (qgR b11.2 433 10 30).bind fun x12 => (qaI b11.2 x12 12 (nI i)).bind fun x13 => (qChk b11.2 433 10 (fX10_apply NF 433 x13 b11.1 b11.2)).bind fun b14 => some (b14.1, b14.2) else some ((-1 : Int32), b11.2)) = R → fX10_reduces NF (k + 1) 433 (nI i) m = R := by
          intro R hR
          refine hpre _ ?_
          refine EIn hne ?_
          refine EgR K433 R30 ?_
          refine EaI K454 rfl (show i < qN m1 454 by omega) (by omega) i3 ?_
          refine EC K433 r3 ?_
          refine EIp (show (-1 : Int32) < 0 by decide) ?_
          refine EgR L433 S31 ?_
          refine EaI L455 rfl (show i < qN m2 455 by omega) (by omega) j4 ?_
          rw [qChk_ _ _ _ _ L433]
          exact hR
        rcases t3 with ⟨w1, w2, w3⟩ | ⟨y, j', w1, w2, w3⟩
        · refine ⟨m3, n3, g3, by omega, Or.inl ⟨by rw [yRd_op, if_neg e, r1, w1]; rfl, w2, hpre2 _ ?_⟩⟩
          refine EB w3 ?_
          exact if_neg (show ¬ (0 : Int32) ≤ -1 by decide)
        · obtain ⟨l1, l2, a3, b3, l3, l4, l5, l6⟩ := t1.nd (p1.nd h1)
          obtain ⟨m4, s1, s2, s3, s4⟩ := m_apply hM3 t1.2.2.2.2 (by omega) l5 w3
          have := NdT_lt w3
          refine ⟨m4, n3 + 1, g3.tr s2, by omega, Or.inr ⟨.op f y, n3, by rw [yRd_op, if_neg e, r1, w1]; rfl, hpre2 _ ?_, s3⟩⟩
          refine EB w2 ?_
          refine EIp (nI_g0 (by omega)) ?_
          refine EgR P433 T30 ?_
          refine EaI P454 rfl (show i < qN m3 454 by omega) (by omega) l3 ?_
          exact EC P433 s1 rfl
      · obtain ⟨m3, s1, s2, s3, s4⟩ := m_apply hM2 p1.2.2.2.2 (by omega) r3 j6
        have := NdT_lt r3
        refine ⟨m3, n2 + 1, g2.tr s2, by omega, Or.inr ⟨.op u x, n2, by rw [yRd_op, if_neg e, r1]; rfl, hpre _ ?_, s3⟩⟩
        refine EIn hne ?_
        refine EgR K433 R30 ?_
        refine EaI K454 rfl (show i < qN m1 454 by omega) (by omega) i3 ?_
        refine EC K433 r2 ?_
        refine EIn (nI_pos (by omega)) ?_
        refine EgR L433 S31 ?_
        refine EaI L455 rfl (show i < qN m2 455 by omega) (by omega) j4 ?_
        exact EC L433 s1 rfl
end
