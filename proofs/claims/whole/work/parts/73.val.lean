section
-- ===== valuations =====
def d3 : Nat → Nat → Nat
  | k, 0 => k % 3
  | k, j + 1 => d3 (k / 3) j
theorem d3_lt : ∀ (j k : Nat), d3 k j < 3 := by
  intro j
  induction j with
  | zero => intro k; exact Nat.mod_lt _ (by omega)
  | succ j ih => intro k; exact ih (k / 3)
theorem d3_0 : ∀ (j : Nat), d3 0 j = 0 := by
  intro j
  induction j with
  | zero => rfl
  | succ j ih => exact ih
theorem d3_inc2 {k : Nat} (h : k % 3 = 2) : d3 (k + 1) 0 = 0 ∧ ∀ j, d3 (k + 1) (j + 1) = d3 (k / 3 + 1) j := by
  refine ⟨by show (k + 1) % 3 = 0; omega, fun j => ?_⟩
  show d3 ((k + 1) / 3) j = _
  rw [show (k + 1) / 3 = k / 3 + 1 by omega]
theorem d3_inc1 {k : Nat} (h : k % 3 ≠ 2) : d3 (k + 1) 0 = d3 k 0 + 1 ∧ ∀ j, d3 (k + 1) (j + 1) = d3 k (j + 1) := by
  refine ⟨by show (k + 1) % 3 = k % 3 + 1; omega, fun j => ?_⟩
  show d3 ((k + 1) / 3) j = d3 (k / 3) j
  rw [show (k + 1) / 3 = k / 3 by omega]
def vl (many k : Nat) : Nat → Nat := fun v => d3 k (many - 1 - v)
def ev (tb f : Nat → Nat) : Tm → Nat
  | .var v => f v
  | .op a b => tb (3 * ev tb f a + ev tb f b)
theorem ev_lt {tb f : Nat → Nat} (ht : ∀ i, i < 9 → tb i < 3) : ∀ (t : Tm), (∀ v, ocs v t → f v < 3) → ev tb f t < 3 := by
  intro t
  induction t with
  | var v => intro h; exact h v rfl
  | op a b iha ihb =>
    intro h
    have h1 := iha (fun v hv => h v (Or.inl hv))
    have h2 := ihb (fun v hv => h v (Or.inr hv))
    exact ht _ (by omega)
theorem ev_congr {tb f g : Nat → Nat} : ∀ (t : Tm), (∀ v, ocs v t → f v = g v) → ev tb f t = ev tb g t := by
  intro t
  induction t with
  | var v => intro h; exact h v rfl
  | op a b iha ihb =>
    intro h
    simp only [ev]
    rw [iha (fun v hv => h v (Or.inl hv)), ihb (fun v hv => h v (Or.inr hv))]
def rfP (tb : Nat → Nat) (de : Nat) (t : Tm) : Nat → Bool := fun k => decide (dg de (nI (ev tb (vl (nv t) k) t)) = 0)
def rfK (tb : Nat → Nat) (de : Nat) (t : Tm) : Nat := fstF (rfP tb de t) (3 ^ nv t) 0
def cvP (tb : Nat → Nat) (t : Tm) (x : Nat) : Nat → Bool := fun k => decide (ev tb (vl (nv t) k) t = x)
theorem p3_le {n : Nat} (h : n ≤ 8) : 3 ^ n ≤ 6561 := by
  have := Nat.pow_le_pow_right (show 3 > 0 by omega) h
  omega
theorem p3_pos (n : Nat) : 0 < 3 ^ n := Nat.pow_pos (by omega)
theorem okF_oc {t : Tm} (h : okF t) : ∀ v, ocs v t → v < nv t := by
  intro v hv
  have hb : bel 99 t := bel_mono h.1 (by omega)
  have key : ocs v (cT t) := by rw [h.2.2]; exact hv
  exact cT_ocs key (Or.inr ⟨rfl, hb⟩)
-- ===== the class's valuations =====
theorem XS.mv {K N : Nat → Nat} {R : Nat → Nat → Option Nat} (h : XS K N R) : K 389 = 4 ∧ R 389 0 = some 390 ∧ R 389 1 = some 391 ∧ R 389 2 = some 392 ∧ K 390 = 12 ∧ N 390 = 9 ∧ K 391 = 12 ∧ N 391 = 8 ∧ K 392 = 12 ∧ N 392 = 39 := h.2.2.2.2.2.1
def VL (I : Nat → Nat → Int32) (many k : Nat) : Prop := ∀ v, v < many → I 391 v = nI (vl many k v)
theorem c_vT {φ : Tm} {f : Nat} {tb : Nat → Nat} {vv : Nat → Nat} (hf : f + 1 < 132 ∨ 392 < f) (hb : bel 8 φ) (htb : ∀ i, i < 9 → tb i < 3) (hvv : ∀ v, ocs v φ → vv v < 3) : ∀ (t : Tm) (p d n : Nat) (m : qM), (∀ v, ocs v t → ocs v φ) → At (pol φ) p t → d + tS t ≤ 39 → XS (qK m) (qN m) (qR m) → FmS (qK m) (qN m) (qR m) f → CFm (qI m) f φ → (∀ i, i < 9 → qI m 390 i = nI (tb i)) → (∀ v, ocs v φ → qI m 391 v = nI (vv v)) →
    ∃ m2, lX4_valueOf_9 NF 389 f (n + tS t) (nI d) (nI (p + tS t) + (-1)) m = lX4_valueOf_9 NF 389 f n (nI (d + 1)) (nI p + (-1)) m2 ∧ Fx (fun a => a = 392) m m2 ∧ qI m2 392 d = nI (ev tb vv t) ∧ ∀ j, j < d → qI m2 392 j = qI m 392 j := by
  intro t
  induction t with
  | var v =>
    intro p d n m hoc hA hd hX F C hT hV
    obtain ⟨k389, r0, r1, r2, k390, n390, k391, n391, k392, n392⟩ := hX.mv
    have hv := At_var hA
    rw [pol_len] at hv
    have h39 := C.2.2.1
    have ho : ocs v φ := hoc v rfl
    have hv8 := hb v ho
    have hat : fX0_at NF f (nI p) m = some (nI v, m) := by rw [c_at F C hv.1, hv.2, cS_n (by omega)]
    simp only [tS] at hd ⊢
    refine ⟨qsI m 392 d (nI (vv v)), ?_, Fx.rf.sI rfl, by simp [qS, ev], fun j hj => ?_⟩
    · rw [show nI (p + 1) + (-1 : Int32) = nI p from nI_p (by omega)]
      conv => lhs; unfold lX4_valueOf_9 kX4_valueOf_83
      refine EIn (nI_pos (by omega)) ?_
      refine EC F.1 hat ?_
      refine EIn (nI_ng (by omega)) ?_
      refine EgR k389 r2 ?_
      refine EgR k389 r1 ?_
      refine EaI k391 rfl (show v < qN m 391 by omega) (by omega) (hV v ho) ?_
      refine EwI k392 rfl (show d < qN m 392 by omega) (by omega) rfl ?_
      rw [nI_s]
    · have : ¬ j = d := by omega
      simp [qS, this]
  | op a b iha ihb =>
    intro p d n m hoc hA hd hX F C hT hV
    obtain ⟨h0, h1, h2, h3⟩ := At_op hA
    rw [pol_len] at h0
    have h39 := C.2.2.1
    have hpa := tS_pos a
    have hpb := tS_pos b
    simp only [tS] at hd ⊢
    obtain ⟨m1, p1, p2, p3, p4⟩ := ihb (p + 1 + tS a) d (n + 1 + tS a) m (fun v hv => hoc v (Or.inr hv)) h3 (by omega) hX F C hT hV
    have C1 : CFm (qI m1) f φ := CFm_of C (p2.i (by omega)) (p2.i (by omega))
    obtain ⟨m2, q1, q2, q3, q4⟩ := iha (p + 1) (d + 1) (n + 1) m1 (fun v hv => hoc v (Or.inl hv)) h2 (by omega) (p2.X hX) (FmS_of F p2) C1 (fun i hi => by rw [p2.i (by omega)]; exact hT i hi) (fun v hv => by rw [p2.i (by omega)]; exact hV v hv)
    have f2 : Fx (fun a => a = 392) m m2 := p2.tr q2
    have hX2 := f2.X hX
    have F2 := FmS_of F f2
    have C2 : CFm (qI m2) f φ := CFm_of C (f2.i (by omega)) (f2.i (by omega))
    obtain ⟨k389, r0, r1, r2, k390, n390, k391, n391, k392, n392⟩ := hX2.mv
    have hat : fX0_at NF f (nI p) m2 = some (-1, m2) := by rw [c_at F2 C2 h0, h1]; rfl
    have ea := ev_lt htb a (fun v hv => hvv v (hoc v (Or.inl hv)))
    have eb := ev_lt htb b (fun v hv => hvv v (hoc v (Or.inr hv)))
    have sb' : qI m2 392 d = nI (ev tb vv b) := by rw [q4 d (by omega)]; exact p3
    refine ⟨qsI m2 392 d (nI (ev tb vv (.op a b))), ?_, f2.sI rfl, by simp [qS], fun j hj => ?_⟩
    · rw [show n + (tS a + tS b + 1) = n + 1 + tS a + tS b by omega, show p + (tS a + tS b + 1) = p + 1 + tS a + tS b by omega, p1, q1, show nI (p + 1) + (-1 : Int32) = nI p from nI_p (by omega)]
      conv => lhs; unfold lX4_valueOf_9 kX4_valueOf_83
      have e2 : nI (d + 1 + 1) + (-1 : Int32) = nI (d + 1) := nI_p (by omega)
      have e3 : nI (d + 1) - (1 : Int32) = nI d := nI_m1 (by omega)
      rw [e2, e3]
      refine EIn (nI_pos (by omega)) ?_
      refine EC F2.1 hat ?_
      refine EIp rfl ?_
      refine EIn (fun z => by have := (nI_ltI (b := 2) (by omega) (by omega)).mp z; omega) ?_
      refine EgR k389 r2 ?_
      refine EgR k389 r0 ?_
      refine EgR k389 r2 ?_
      refine EaI k392 rfl (show d + 1 < qN m2 392 by omega) (by omega) q3 ?_
      refine EgR k389 r2 ?_
      refine EaI k392 rfl (show d < qN m2 392 by omega) (by omega) sb' ?_
      refine EaI k390 (show ((3 : Int32) * nI (ev tb vv a)) + nI (ev tb vv b) = nI (3 * ev tb vv a + ev tb vv b) by rw [show (3 : Int32) * nI (ev tb vv a) = nI (3 * ev tb vv a) from pk_mul 3 _, nI_add]) (show 3 * ev tb vv a + ev tb vv b < qN m2 390 by omega) (by omega) (show qI m2 390 (3 * ev tb vv a + ev tb vv b) = nI (ev tb vv (.op a b)) by rw [f2.i (by omega)]; exact hT _ (by omega)) ?_
      refine EwI k392 rfl (show d < qN m2 392 by omega) (by omega) rfl ?_
      rfl
    · have : ¬ j = d := by omega
      simp only [qS, ↓reduceIte, this]
      rw [q4 j (by omega), p4 j hj]
theorem c_valueOf {m : qM} {s : ST} {f : Nat} {φ : Tm} {vv : Nat → Nat} (h : CP m s) (hf : f + 1 < 132 ∨ 392 < f) (F : FmS (qK m) (qN m) (qR m) f) (C : CFm (qI m) f φ) (hb : bel 8 φ) (hvv : ∀ v, ocs v φ → vv v < 3) (hV : ∀ v, ocs v φ → qI m 391 v = nI (vv v)) : ∃ m2, fX4_valueOf NF 389 f m = some (nI (ev (sTb s) vv φ), m2) ∧ Fx (fun a => a = 392) m m2 := by
  have hX := h.1
  have h39 := C.2.2.1
  have hp := tS_pos φ
  have hcm := h.2.2.2.2.2.1
  obtain ⟨m2, p1, p2, p3, -⟩ := c_vT hf hb (fun i hi => (hcm.2.2 i hi).2) hvv φ 0 0 (NF - tS φ) m (fun v hv => hv) At_self (by omega) hX F C (fun i hi => (hcm.2.2 i hi).1) hV
  rw [show NF - tS φ + tS φ = NF by unfold NF; omega, Nat.zero_add] at p1
  obtain ⟨z, hz⟩ : ∃ z, NF - tS φ = z + 1 := ⟨NF - tS φ - 1, by unfold NF; omega⟩
  have p4 : lX4_valueOf_9 NF 389 f (NF - tS φ) (nI (0 + 1)) (nI 0 + (-1)) m2 = some m2 := by
    rw [hz]
    unfold lX4_valueOf_9
    rw [if_pos (by decide)]
  have hX2 := p2.X hX
  obtain ⟨k389, r0, r1, r2, k390, n390, k391, n391, k392, n392⟩ := hX2.mv
  refine ⟨m2, ?_, p2⟩
  unfold fX4_valueOf
  refine EC F.1 (c_size F C) ?_
  refine EB (show lX4_valueOf_9 NF 389 f NF 0 (nI (tS φ) - 1) m = some m2 by rw [show nI (tS φ) - (1 : Int32) = nI (tS φ) + (-1) by rw [nI_m1 hp, nI_p hp]]; exact p1.trans p4) ?_
  refine EgR k389 r2 ?_
  refine EaI k392 (show (0 : Int32) = nI 0 from rfl) (by omega) (by omega) p3 ?_
  rfl
theorem c_start {m : qM} {many : Nat} (hX : XS (qK m) (qN m) (qR m)) (hm : many ≤ 8) : ∃ m2, fX4_startValuations NF 389 (nI many) m = some (nI (3 ^ many), m2) ∧ Fx (fun a => a = 391) m m2 ∧ VL (qI m2) many 0 := by
  obtain ⟨k389, r0, r1, r2, k390, n390, k391, n391, k392, n392⟩ := hX.mv
  obtain ⟨m1, p1, p2, p3⟩ := fill_eq (a := 391) (L := 8) (v := 0) (m := m) (by omega) k391 n391
  obtain ⟨b, e1, e2⟩ := walk (l := fun g (x : Int32 × Int32) => lX4_startValuations_12 NF (nI many) g x.1 x.2 m1) (J := fun r x => ∃ k, k + r = many ∧ x = (nI (3 ^ k), nI k)) (Q := fun b => b = (nI (3 ^ many), m1)) (fun g r x hj => by
    obtain ⟨k, hk, rfl⟩ := hj
    refine Or.inl ⟨(nI (3 ^ (k + 1)), nI (k + 1)), ⟨k + 1, by omega, rfl⟩, ?_⟩
    show lX4_startValuations_12 NF (nI many) (g + 1) (nI (3 ^ k)) (nI k) m1 = lX4_startValuations_12 NF (nI many) g (nI (3 ^ (k + 1))) (nI (k + 1)) m1
    conv => lhs; unfold lX4_startValuations_12
    refine EIn (fun z => by have := (nI_leI (by omega) (by omega)).mp z; omega) ?_
    rw [show nI (3 ^ k) * (3 : Int32) = nI (3 ^ k * 3) from pk_mul _ 3, nI_s, Nat.pow_succ]) (fun g x hj => by
    obtain ⟨k, hk, rfl⟩ := hj
    obtain rfl : k = many := by omega
    refine ⟨_, ?_, rfl⟩
    show lX4_startValuations_12 NF (nI k) (g + 1) (nI (3 ^ k)) (nI k) m1 = _
    unfold lX4_startValuations_12
    refine EIp ((nI_leI (by omega) (by omega)).mpr (Nat.le_refl _)) ?_
    rfl) many NF (nI (3 ^ 0), nI 0) (by unfold NF; omega) ⟨0, by omega, rfl⟩
  refine ⟨m1, ?_, p2, fun v hv => ?_⟩
  · unfold fX4_startValuations
    refine EgR k389 r1 ?_
    refine EB p1 ?_
    refine EB (show lX4_startValuations_12 NF (nI many) NF 1 0 m1 = some (nI (3 ^ many), m1) by rw [← e2]; exact e1) ?_
    rfl
  · rw [p3 v, if_pos (by omega)]
    unfold vl
    rw [d3_0]; rfl
theorem c_next {many : Nat} (hm : many ≤ 8) : ∀ (r k n : Nat) (m : qM), XS (qK m) (qN m) (qR m) → r ≤ many → r < n → (∀ j, j < r → qI m 391 (r - 1 - j) = nI (d3 k j)) →
    ∃ m2, ((lX4_nextValuation_4 NF 389 n (nI r + (-1)) m).bind fun o1 => if o1.1 < 0 then some o1.2 else (qgR o1.2 389 4 1).bind fun x2 => (qaI o1.2 x2 12 o1.1).bind fun x3 => (qwI o1.2 x2 12 o1.1 (x3 + (1 : Int32))).bind fun m4 => some m4) = some m2 ∧ Fx (fun a => a = 391) m m2 ∧ (∀ j, j < r → qI m2 391 (r - 1 - j) = nI (d3 (k + 1) j)) ∧ ∀ v, r ≤ v → qI m2 391 v = qI m 391 v := by
  intro r
  induction r with
  | zero =>
    intro k n m hX hr hn hV
    obtain ⟨n, rfl⟩ : ∃ z, n = z + 1 := ⟨n - 1, by omega⟩
    refine ⟨m, ?_, Fx.rf, fun j hj => by omega, fun _ _ => rfl⟩
    have h1 : lX4_nextValuation_4 NF 389 (n + 1) (nI 0 + (-1)) m = some (nI 0 + (-1), m) := by
      unfold lX4_nextValuation_4
      rw [if_pos (by decide)]
    rw [h1]
    refine EB rfl ?_
    refine EIp (show nI 0 + (-1 : Int32) < 0 by decide) ?_
    rfl
  | succ r ih =>
    intro k n m hX hr hn hV
    obtain ⟨n, rfl⟩ : ∃ z, n = z + 1 := ⟨n - 1, by omega⟩
    have hX0 := hX
    obtain ⟨k389, r0, r1, r2, k390, n390, k391, n391, k392, n392⟩ := hX.mv
    have hv0 := hV 0 (by omega)
    rw [show r + 1 - 1 - 0 = r by omega] at hv0
    have hv0' : qI m 391 r = nI (k % 3) := hv0
    have er : nI (r + 1) + (-1 : Int32) = nI r := nI_p (by omega)
    rw [er]
    by_cases e : k % 3 = 2
    · obtain ⟨i1, i2⟩ := d3_inc2 e
      let m1 : qM := qsI m 391 r 0
      obtain ⟨m2, p1, p2, p3, p4⟩ := ih (k / 3) n m1 hX0 (by omega) (by omega) (fun j hj => by
        have := hV (j + 1) (by omega)
        rw [show r + 1 - 1 - (j + 1) = r - 1 - j by omega] at this
        have hne : ¬ r - 1 - j = r := by omega
        simp only [m1, qS, ↓reduceIte, hne]
        exact this)
      have hgo : lX4_nextValuation_4 NF 389 (n + 1) (nI r) m = lX4_nextValuation_4 NF 389 n (nI r + (-1)) m1 := by
        conv => lhs; unfold lX4_nextValuation_4
        refine EIn (nI_pos (by omega)) ?_
        refine EgR k389 r1 ?_
        refine EaI k391 rfl (show r < qN m 391 by omega) (by omega) hv0' ?_
        refine EIp (by rw [e]; rfl) ?_
        refine EgR k389 r1 ?_
        refine EwI k391 rfl (show r < qN m 391 by omega) (by omega) rfl ?_
        rfl
      rw [hgo]
      refine ⟨m2, p1, (Fx.sI (D := fun a => a = 391) Fx.rf rfl).tr p2, fun j hj => ?_, fun v hv => ?_⟩
      · cases j with
        | zero =>
          rw [show r + 1 - 1 - 0 = r by omega, p4 r (Nat.le_refl _), i1]
          simp [m1, qS]
          rfl
        | succ j =>
          rw [show r + 1 - 1 - (j + 1) = r - 1 - j by omega, i2 j]
          exact p3 j (by omega)
      · rw [p4 v (by omega)]
        have : ¬ v = r := by omega
        simp [m1, qS, this]
    · obtain ⟨i1, i2⟩ := d3_inc1 e
      have hlt : k % 3 < 3 := Nat.mod_lt _ (by omega)
      refine ⟨qsI m 391 r (nI (k % 3 + 1)), ?_, Fx.rf.sI rfl, fun j hj => ?_, fun v hv => ?_⟩
      · have hgo : lX4_nextValuation_4 NF 389 (n + 1) (nI r) m = some (nI r, m) := by
          conv => lhs; unfold lX4_nextValuation_4
          refine EIn (nI_pos (by omega)) ?_
          refine EgR k389 r1 ?_
          refine EaI k391 rfl (show r < qN m 391 by omega) (by omega) hv0' ?_
          refine EIn (fun z => e ((nI_eq (b := 2) (by omega) (by omega)).mp z)) ?_
          rfl
        rw [hgo]
        refine EB rfl ?_
        refine EIn (nI_pos (by omega)) ?_
        refine EgR k389 r1 ?_
        refine EaI k391 rfl (show r < qN m 391 by omega) (by omega) hv0' ?_
        refine EwI k391 rfl (show r < qN m 391 by omega) (by omega) (nI_s _) ?_
        rfl
      · cases j with
        | zero =>
          rw [show r + 1 - 1 - 0 = r by omega, i1]
          simp [qS]
          rfl
        | succ j =>
          have hne : ¬ r + 1 - 1 - (j + 1) = r := by omega
          simp only [qS, ↓reduceIte, hne]
          rw [i2 j]
          exact hV (j + 1) hj
      · have : ¬ v = r := by omega
        simp [qS, this]
theorem c_nextV {m : qM} {many k : Nat} (hX : XS (qK m) (qN m) (qR m)) (hm : many ≤ 8) (hV : VL (qI m) many k) : ∃ m2, fX4_nextValuation NF 389 (nI many) m = some m2 ∧ Fx (fun a => a = 391) m m2 ∧ VL (qI m2) many (k + 1) := by
  obtain ⟨m2, p1, p2, p3, -⟩ := c_next hm many k NF m hX (Nat.le_refl _) (by unfold NF; omega) (fun j hj => by
    have := hV (many - 1 - j) (by omega)
    unfold vl at this
    rw [show many - 1 - (many - 1 - j) = j by omega] at this
    exact this)
  refine ⟨m2, ?_, p2, fun v hv => ?_⟩
  · unfold fX4_nextValuation
    rw [show nI many - (1 : Int32) = nI many + (-1) by rw [Int32.sub_eq_add_neg]]
    exact p1
  · have := p3 (many - 1 - v) (by omega)
    rw [show many - 1 - (many - 1 - v) = v by omega] at this
    exact this
def dVa (a : Nat) : Prop := a = 391 ∨ a = 392
/-- one valuation's value -/
theorem c_valK {m : qM} {s : ST} {f k : Nat} {φ : Tm} (h : CP m s) (hf : f + 1 < 132 ∨ 392 < f) (F : FmS (qK m) (qN m) (qR m) f) (C : CFm (qI m) f φ) (hφ : okF φ) (h8 : nv φ ≤ 8) (hV : VL (qI m) (nv φ) k) : ∃ m2, fX4_valueOf NF 389 f m = some (nI (ev (sTb s) (vl (nv φ) k) φ), m2) ∧ Fx (fun a => a = 392) m m2 :=
  c_valueOf h hf F C (fun v hv => by have := okF_oc hφ v hv; omega) (fun v _ => d3_lt _ _) (fun v hv => hV v (okF_oc hφ v hv))
theorem c_refutes {m : qM} {s : ST} {f : Nat} {φ : Tm} (h : CP m s) (hn : sN s ≤ 60) (hf : f + 1 < 132 ∨ 392 < f) (F : FmS (qK m) (qN m) (qR m) f) (C : CFm (qI m) f φ) (hφ : okF φ) (h8 : nv φ ≤ 8) : ∃ m2, fX4_refutes NF 389 f m = some (if rfK (sTb s) (sDe s) φ < 3 ^ nv φ then 1 else 0, m2) ∧ Fx dVa m m2 ∧ (rfK (sTb s) (sDe s) φ < 3 ^ nv φ → VL (qI m2) (nv φ) (rfK (sTb s) (sDe s) φ)) := by
  have hX := h.1
  have hp3 := p3_le h8
  obtain ⟨m1, p1, p2, p3⟩ := c_start hX h8
  have f1 : Fx dVa m m1 := p2.mono (fun a ha => Or.inl ha)
  obtain ⟨b, e1, e2⟩ := walk (l := fun g (x : Int32 × qM) => lX4_refutes_11 NF 389 f (nI (3 ^ nv φ)) g x.1 x.2) (J := fun r x => ∃ k m', k + r = 3 ^ nv φ ∧ x = (nI k, m') ∧ Fx dVa m m' ∧ VL (qI m') (nv φ) k ∧ fstF (rfP (sTb s) (sDe s) φ) r k = rfK (sTb s) (sDe s) φ) (Q := fun b => ∃ m', Fx dVa m m' ∧ ((rfK (sTb s) (sDe s) φ < 3 ^ nv φ ∧ b = .inr (1, m') ∧ VL (qI m') (nv φ) (rfK (sTb s) (sDe s) φ)) ∨ (¬ rfK (sTb s) (sDe s) φ < 3 ^ nv φ ∧ b = .inl m'))) (fun g r x hj => by
    obtain ⟨k, m', hk, rfl, hF, hV, hp⟩ := hj
    have hP' : CP m' s := CP_fx h hn hF (fun a ha => by unfold dVa at ha; omega)
    have F' := FmS_of F hF
    have C' : CFm (qI m') f φ := CFm_of C (hF.i (by unfold dVa; omega)) (hF.i (by unfold dVa; omega))
    have k389 := hP'.1.mv.1
    obtain ⟨m2, q1, q2⟩ := c_valK hP' hf F' C' hφ h8 hV
    have hP2 : CP m2 s := CP_fx hP' hn q2 (fun a ha => by omega)
    have F2 := FmS_of F' q2
    have C2 : CFm (qI m2) f φ := CFm_of C' (q2.i (by omega)) (q2.i (by omega))
    have hV2 : VL (qI m2) (nv φ) k := fun v hv => by rw [q2.i (by omega)]; exact hV v hv
    have hdg := c_dg hP2.1 hP2.2.2.2.2.2.1 (nI (ev (sTb s) (vl (nv φ) k) φ))
    obtain ⟨m3, u1, u2, u3⟩ := c_nextV hP2.1 h8 hV2
    have hpre : ∀ R, (if dg (sDe s) (nI (ev (sTb s) (vl (nv φ) k) φ)) = 0 then some (.inr ((1 : Int32), m2)) else lX4_refutes_11 NF 389 f (nI (3 ^ nv φ)) g (nI (k + 1)) m3) = R → lX4_refutes_11 NF 389 f (nI (3 ^ nv φ)) (g + 1) (nI k) m' = R := by
      intro R hR
      unfold lX4_refutes_11
      refine EIn (fun z => by have := (nI_leI (by omega) (by omega)).mp z; omega) ?_
      refine EC k389 q1 ?_
      refine EC hP2.1.mv.1 hdg ?_
      by_cases e : dg (sDe s) (nI (ev (sTb s) (vl (nv φ) k) φ)) = 0
      · rw [if_pos e] at hR
        refine EIp e ?_
        exact hR
      · rw [if_neg e] at hR
        refine EIn e ?_
        refine EC F2.1 (c_vars F2 C2) ?_
        refine EC hP2.1.mv.1 u1 ?_
        rw [nI_s]
        exact hR
    rw [fstF_s] at hp
    by_cases e : dg (sDe s) (nI (ev (sTb s) (vl (nv φ) k) φ)) = 0
    · have er : rfP (sTb s) (sDe s) φ k = true := decide_eq_true e
      rw [if_pos er] at hp
      refine Or.inr ⟨_, hpre _ (if_pos e), m2, hF.tr (q2.mono (fun a ha => Or.inr ha)), Or.inl ⟨by omega, rfl, hp ▸ hV2⟩⟩
    · have er : ¬ rfP (sTb s) (sDe s) φ k = true := fun z => e (of_decide_eq_true z)
      rw [if_neg er] at hp
      exact Or.inl ⟨(nI (k + 1), m3), ⟨k + 1, m3, by omega, rfl, (hF.tr (q2.mono (fun a ha => Or.inr ha))).tr (u2.mono (fun a ha => Or.inl ha)), u3, hp⟩, hpre _ (if_neg e)⟩) (fun g x hj => by
    obtain ⟨k, m', hk, rfl, hF, hV, hp⟩ := hj
    obtain rfl : k = 3 ^ nv φ := by omega
    have hp2 : 3 ^ nv φ = rfK (sTb s) (sDe s) φ := hp
    refine ⟨.inl m', ?_, m', hF, Or.inr ⟨by omega, rfl⟩⟩
    show lX4_refutes_11 NF 389 f (nI (3 ^ nv φ)) (g + 1) (nI (3 ^ nv φ)) m' = _
    unfold lX4_refutes_11
    refine EIp ((nI_leI (by omega) (by omega)).mpr (Nat.le_refl _)) ?_
    rfl) (3 ^ nv φ) NF (nI 0, m1) (by unfold NF; omega) ⟨0, m1, by omega, rfl, f1, p3, rfl⟩
  have hpre : ∀ R, qTh (some b) (fun o3 => some ((0 : Int32), o3)) (fun r => r) = R → fX4_refutes NF 389 f m = R := by
    intro R hR
    unfold fX4_refutes
    refine EC F.1 (c_vars F C) ?_
    refine EC hX.mv.1 p1 ?_
    dsimp only
    rw [show lX4_refutes_11 NF 389 f (nI (3 ^ nv φ)) NF 0 m1 = some b from e1]
    exact hR
  obtain ⟨m', hF, h | h⟩ := e2
  · obtain ⟨h1, rfl, h2⟩ := h
    rw [if_pos h1]
    exact ⟨m', hpre _ rfl, hF, fun _ => h2⟩
  · obtain ⟨h1, rfl⟩ := h
    rw [if_neg h1]
    exact ⟨m', hpre _ rfl, hF, fun z => absurd z h1⟩
theorem c_countOf {m : qM} {s : ST} {f x : Nat} {φ : Tm} (h : CP m s) (hn : sN s ≤ 60) (hf : f + 1 < 132 ∨ 392 < f) (F : FmS (qK m) (qN m) (qR m) f) (C : CFm (qI m) f φ) (hφ : okF φ) (h8 : nv φ ≤ 8) (hx : x < 3) : ∃ m2, fX4_countOf NF 389 f (nI x) m = some (nI (cnt (cvP (sTb s) φ x) (3 ^ nv φ)), m2) ∧ Fx dVa m m2 := by
  have hX := h.1
  have hp3 := p3_le h8
  have htb : ∀ i, i < 9 → sTb s i < 3 := fun i hi => (h.2.2.2.2.2.1.2.2 i hi).2
  obtain ⟨m1, p1, p2, p3⟩ := c_start hX h8
  have f1 : Fx dVa m m1 := p2.mono (fun a ha => Or.inl ha)
  obtain ⟨b, e1, m', e2, e3⟩ := walk (l := fun g (y : Int32 × Int32 × qM) => lX4_countOf_15 NF 389 f (nI x) (nI (3 ^ nv φ)) g y.1 y.2.1 y.2.2) (J := fun r y => ∃ k m', k + r = 3 ^ nv φ ∧ y = (nI (cnt (cvP (sTb s) φ x) k), nI k, m') ∧ Fx dVa m m' ∧ VL (qI m') (nv φ) k) (Q := fun b => ∃ m', b = (nI (cnt (cvP (sTb s) φ x) (3 ^ nv φ)), m') ∧ Fx dVa m m') (fun g r y hj => by
    obtain ⟨k, m', hk, rfl, hF, hV⟩ := hj
    have hP' : CP m' s := CP_fx h hn hF (fun a ha => by unfold dVa at ha; omega)
    have F' := FmS_of F hF
    have C' : CFm (qI m') f φ := CFm_of C (hF.i (by unfold dVa; omega)) (hF.i (by unfold dVa; omega))
    have k389 := hP'.1.mv.1
    obtain ⟨m2, q1, q2⟩ := c_valK hP' hf F' C' hφ h8 hV
    have hP2 : CP m2 s := CP_fx hP' hn q2 (fun a ha => by omega)
    have F2 := FmS_of F' q2
    have C2 : CFm (qI m2) f φ := CFm_of C' (q2.i (by omega)) (q2.i (by omega))
    have hV2 : VL (qI m2) (nv φ) k := fun v hv => by rw [q2.i (by omega)]; exact hV v hv
    obtain ⟨m3, u1, u2, u3⟩ := c_nextV hP2.1 h8 hV2
    have hel : ev (sTb s) (vl (nv φ) k) φ < 3 := ev_lt htb φ (fun v _ => d3_lt _ _)
    refine Or.inl ⟨(nI (cnt (cvP (sTb s) φ x) (k + 1)), nI (k + 1), m3), ⟨k + 1, m3, by omega, rfl, (hF.tr (q2.mono (fun a ha => Or.inr ha))).tr (u2.mono (fun a ha => Or.inl ha)), u3⟩, ?_⟩
    show lX4_countOf_15 NF 389 f (nI x) (nI (3 ^ nv φ)) (g + 1) (nI (cnt (cvP (sTb s) φ x) k)) (nI k) m' = lX4_countOf_15 NF 389 f (nI x) (nI (3 ^ nv φ)) g (nI (cnt (cvP (sTb s) φ x) (k + 1))) (nI (k + 1)) m3
    have hc : cnt (cvP (sTb s) φ x) (k + 1) = cnt (cvP (sTb s) φ x) k + (if cvP (sTb s) φ x k = true then 1 else 0) := rfl
    conv => lhs; unfold lX4_countOf_15
    unfold kX4_countOf_33
    refine EIn (fun z => by have := (nI_leI (by omega) (by omega)).mp z; omega) ?_
    refine EC k389 q1 ?_
    by_cases e : ev (sTb s) (vl (nv φ) k) φ = x
    · have er : cvP (sTb s) φ x k = true := decide_eq_true e
      rw [hc, if_pos er]
      refine EIp (by rw [e]) ?_
      refine EC F2.1 (c_vars F2 C2) ?_
      refine EC hP2.1.mv.1 u1 ?_
      rw [nI_s, nI_s]
    · have er : ¬ cvP (sTb s) φ x k = true := fun z => e (of_decide_eq_true z)
      rw [hc, if_neg er]
      refine EIn (fun z => e ((nI_eq (by omega) (by omega)).mp z)) ?_
      refine EC F2.1 (c_vars F2 C2) ?_
      refine EC hP2.1.mv.1 u1 ?_
      rw [nI_s]
      rfl) (fun g y hj => by
    obtain ⟨k, m', hk, rfl, hF, hV⟩ := hj
    obtain rfl : k = 3 ^ nv φ := by omega
    refine ⟨_, ?_, m', rfl, hF⟩
    show lX4_countOf_15 NF 389 f (nI x) (nI (3 ^ nv φ)) (g + 1) (nI (cnt (cvP (sTb s) φ x) (3 ^ nv φ))) (nI (3 ^ nv φ)) m' = _
    unfold lX4_countOf_15
    refine EIp ((nI_leI (by omega) (by omega)).mpr (Nat.le_refl _)) ?_
    rfl) (3 ^ nv φ) NF (nI 0, nI 0, m1) (by unfold NF; omega) ⟨0, m1, by omega, rfl, f1, p3⟩
  refine ⟨m', ?_, e3⟩
  unfold fX4_countOf
  refine EC F.1 (c_vars F C) ?_
  refine EC hX.mv.1 p1 ?_
  refine EB (show lX4_countOf_15 NF 389 f (nI x) (nI (3 ^ nv φ)) NF 0 0 m1 = some (nI (cnt (cvP (sTb s) φ x) (3 ^ nv φ)), m') by rw [← e2]; exact e1) ?_
  rfl
end
