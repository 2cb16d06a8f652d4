-- ===== rows =====
theorem fill_loop {N a L : Nat} {v : Int32} (hL : L < 2 ^ 31) : ∀ (n k : Nat) (m : qM), qK m a = 12 → qN m a = L → k ≤ L → L - k < n → ∃ m2, lJ7_fill_53178_5 N a v (nI L) n (nI k) m = some m2 ∧ Fx (fun x => x = a) m m2 ∧ ∀ j, qI m2 a j = if k ≤ j ∧ j < L then v else qI m a j := by
  intro n
  induction n with
  | zero => intro k m _ _ _ h; omega
  | succ n ih =>
    intro k m hK hN hk hn
    unfold lJ7_fill_53178_5
    by_cases h : L ≤ k
    · refine ⟨m, ?_, Fx.rf, fun j => ?_⟩
      · simp (disch := omega) only [nA, h, ↓reduceIte]
      · rw [if_neg (by omega)]
    · have hb : k < qN m a := by omega
      obtain ⟨m2, e1, e2, e3⟩ := ih (k + 1) (qsI m a k v) hK hN (by omega) (by omega)
      refine ⟨m2, ?_, (Fx.sI (D := fun x => x = a) Fx.rf rfl).tr e2, fun j => ?_⟩
      · simp (disch := first | assumption | omega) only [nA, lits, qP, h, ↓reduceIte, Option.bind_some]
        exact e1
      · rw [e3 j]
        simp only [qS, ↓reduceIte]
        by_cases hj : j = k
        · subst hj; rw [if_neg (by omega), if_pos rfl, if_pos (by omega)]
        · rw [if_neg hj]
          by_cases hj2 : k + 1 ≤ j ∧ j < L
          · rw [if_pos hj2, if_pos (by omega)]
          · rw [if_neg hj2, if_neg (by omega)]
theorem fill_eq {a L : Nat} {v : Int32} {m : qM} (hL : L < 7000) (hK : qK m a = 12) (hN : qN m a = L) : ∃ m2, fJ7_fill_53178 NF a v m = some m2 ∧ Fx (fun x => x = a) m m2 ∧ ∀ j, qI m2 a j = if j < L then v else qI m a j := by
  obtain ⟨m2, e1, e2, e3⟩ := fill_loop (N := NF) (a := a) (L := L) (v := v) (by omega) NF 0 m hK hN (by omega) (by unfold NF; omega)
  refine ⟨m2, ?_, e2, fun j => ?_⟩
  · unfold fJ7_fill_53178
    have e4 : Int32.ofNat (qN m a) = nI L := by rw [hN]; rfl
    rw [if_pos hK]
    simp only [Option.bind_some, e4, lits]
    rw [e1]
    rfl
  · rw [e3 j]
    by_cases h : j < L
    · rw [if_pos h, if_pos (by omega)]
    · rw [if_neg h, if_neg (by omega)]
/-- a row: type, length, elements; none: missing -/
abbrev rowT : Type := Option (Nat × Nat × (Nat → Int32))
def CRw (I : Nat → Nat → Int32) (r : Nat) (x : rowT) : Prop := match x with
  | none => I (402 + 2 * r) 2 = -1
  | some (ty, len, el) => I (402 + 2 * r) 1 = nI ty ∧ ty < 3 ∧ I (402 + 2 * r) 2 = nI len ∧ len ≤ 80 ∧ ∀ i, i < 80 → I (402 + 2 * r + 1) i = el i
def MRw (I : Nat → Nat → Int32) (r : Nat) (x : rowT) : Prop := match x with
  | none => I 443 r = -1
  | some (ty, len, el) => I 443 r = nI ty ∧ ty < 3 ∧ I 444 r = nI len ∧ len ≤ 80 ∧ ∀ i, i < 80 → I 445 (80 * r + i) = el i
def stv (ty : Nat) (v : Int32) : Int32 := if ty = 0 then v.toInt8.toInt32 else if ty = 1 then (v.toUInt32 % 65536).toInt32 else v
theorem XS.rw {K N : Nat → Nat} {R : Nat → Nat → Option Nat} (h : XS K N R) {r : Nat} (hr : r < 3) : K (402 + 2 * r) = 5 ∧ R (402 + 2 * r) 0 = some (402 + 2 * r + 1) ∧ K (402 + 2 * r + 1) = 12 ∧ N (402 + 2 * r + 1) = 80 ∧ R 401 r = some (402 + 2 * r) := h.2.2.2.2.2.2.2.1.2.2 r hr
theorem XS.rwA {K N : Nat → Nat} {R : Nat → Nat → Option Nat} (h : XS K N R) : K 0 = 9 ∧ R 0 8 = some 401 ∧ K 401 = 16 ∧ N 401 = 3 := ⟨h.1.1, h.1.2.2.2.2.2.2.2.2.2.1, h.2.2.2.2.2.2.2.1.1, h.2.2.2.2.2.2.2.1.2.1⟩
theorem fX9_isRow_eq {N : Nat} {v : Int32} {m : qM} : fX9_isRow N v m = some (if v < 0 then 0 else if 3 ≤ v then 0 else 1, m) := by
  unfold fX9_isRow
  by_cases h1 : v < 0
  · simp only [h1, ↓reduceIte]
  · by_cases h2 : 3 ≤ v
    · simp only [h1, h2, ↓reduceIte]
    · simp only [h1, h2, ↓reduceIte]
theorem fX10_isRow_eq {N : Nat} {v : Int32} {m : qM} : fX10_isRow N v m = some (if v < 0 then 0 else if 2 < v then 0 else 1, m) := by
  unfold fX10_isRow
  rw [fX10_in_eq]
  by_cases h1 : v < 0
  · simp only [h1, ↓reduceIte, Option.bind_some, z0]
  · by_cases h2 : 2 < v
    · simp only [h1, h2, ↓reduceIte, Option.bind_some, z0]
    · simp only [h1, h2, ↓reduceIte, Option.bind_some, z1]
theorem i3 (v : Int32) : (v < 0 ∧ v < 0) ∨ (¬ v < 0 ∧ 3 ≤ v ∧ 2 < v) ∨ (¬ v < 0 ∧ ¬ 3 ≤ v ∧ ¬ 2 < v ∧ ∃ r : Nat, r < 3 ∧ v = nI r) := by
  rcases pk_ix v (n := 3) (by omega) with h | h | ⟨j, hj, rfl⟩
  · exact Or.inl ⟨h, h⟩
  · have h' : (3 : Int32) ≤ v := h
    exact Or.inr (Or.inl ⟨fun q => absurd (Int32.lt_of_lt_of_le q (by decide : (0 : Int32) ≤ 3)) (Int32.not_lt.mpr h'), h', Int32.lt_of_lt_of_le (by decide : (2 : Int32) < 3) h'⟩)
  · refine Or.inr (Or.inr ⟨nI_pos (by omega), ?_, ?_, j, hj, rfl⟩)
    · show ¬ nI 3 ≤ nI j; rw [nI_leI (by omega) (by omega)]; omega
    · show ¬ nI 2 < nI j; rw [nI_ltI (by omega) (by omega)]; omega
def aAll (r t l : Int32) : Int32 := if r < 0 then -1 else if 3 ≤ r then -1 else if t < 0 then -2 else if 2 < t then -2 else if l ≤ 80 then (if 0 ≤ l then l else -9) else -2
def okAll (r t l : Int32) : Prop := ¬ r < 0 ∧ ¬ 3 ≤ r ∧ ¬ t < 0 ∧ ¬ 2 < t ∧ l ≤ 80 ∧ 0 ≤ l
theorem c_allocate {m : qM} (hX : XS (qK m) (qN m) (qR m)) (r t l : Int32) : ∃ m2, fX9_allocate NF 0 r t l m = some (aAll r t l, m2) ∧ ((¬ okAll r t l ∧ m2 = m) ∨ (∃ j ty len : Nat, j < 3 ∧ r = nI j ∧ ty < 3 ∧ t = nI ty ∧ len ≤ 80 ∧ l = nI len ∧ CRw (qI m2) j (some (ty, len, fun _ => 0)) ∧ Fx (fun a => a = 402 + 2 * j ∨ a = 402 + 2 * j + 1) m m2)) := by
  unfold fX9_allocate aAll okAll
  rw [fX9_isRow_eq]
  simp only [Option.bind_some]
  rcases i3 r with ⟨h, -⟩ | ⟨h1, h2, -⟩ | ⟨h1, h2, -, j, hj, rfl⟩
  · exact ⟨m, by simp only [h, ↓reduceIte], Or.inl ⟨fun q => q.1 h, rfl⟩⟩
  · exact ⟨m, by simp only [h1, h2, ↓reduceIte], Or.inl ⟨fun q => q.2.1 h2, rfl⟩⟩
  have h10 : ¬ (1 : Int32) = 0 := by decide
  simp only [h1, h2, ↓reduceIte, h10]
  rcases i3 t with ⟨g, -⟩ | ⟨g1, -, g2⟩ | ⟨g1, -, g2, ty, hty, rfl⟩
  · exact ⟨m, by simp only [g, ↓reduceIte], Or.inl ⟨fun q => q.2.2.1 g, rfl⟩⟩
  · exact ⟨m, by simp only [g1, g2, ↓reduceIte], Or.inl ⟨fun q => q.2.2.2.1 g2, rfl⟩⟩
  simp only [g1, g2, ↓reduceIte]
  by_cases e1 : l ≤ 80
  · by_cases e2 : 0 ≤ l
    · obtain ⟨len, hlen, rfl⟩ : ∃ len : Nat, len ≤ 80 ∧ l = nI len := nI_of2 (M := 80) (n := 80) (by decide) (Int32.not_lt.mpr e2) e1
      simp only [e1, e2, ↓reduceIte]
      obtain ⟨k1, r1, k2, n2, ra⟩ := hX.rw hj
      obtain ⟨k0, r0, ka, na⟩ := hX.rwA
      have hb : j < qN m 401 := by omega
      obtain ⟨m2, f1, f2, f3⟩ := fill_eq (a := 402 + 2 * j + 1) (L := 80) (v := nI 0) (m := m) (by omega) k2 n2
      have k1' : qK m2 (402 + 2 * j) = 5 := by rw [f2.1]; exact k1
      refine ⟨qsI (qsI m2 (402 + 2 * j) 1 (nI ty)) (402 + 2 * j) 2 (nI len), ?_, Or.inr ⟨j, ty, len, hj, rfl, hty, rfl, hlen, rfl, ?_, Fx.sI (D := fun a => a = 402 + 2 * j ∨ a = 402 + 2 * j + 1) (Fx.sI (f2.mono (fun a h => Or.inr h)) (Or.inl rfl)) (Or.inl rfl)⟩⟩
      · unfold fX5_renew
        simp (disch := first | assumption | omega | (simp only [qS]; assumption)) only [qP, qS, qChk_, Option.bind_some, r0, ra, r1, lits, f1]
      · have e3 : ¬ 402 + 2 * j + 1 = 402 + 2 * j := by omega
        refine ⟨by simp [qS], hty, by simp [qS], hlen, fun i hi => ?_⟩
        simp only [qS, e3, ↓reduceIte]
        rw [f3 i, if_pos hi]; rfl
    · exact ⟨m, by simp only [e1, e2, ↓reduceIte], Or.inl ⟨fun q => e2 q.2.2.2.2.2, rfl⟩⟩
  · exact ⟨m, by simp only [e1, ↓reduceIte], Or.inl ⟨fun q => e1 q.2.2.2.2.1, rfl⟩⟩
def aLk (ro : Nat → rowT) (r : Int32) : Int32 := if r < 0 then -1 else if 3 ≤ r then -1 else match ro r.toNatClampNeg with
  | none => -6
  | some _ => 0
theorem c_fault {m : qM} {ro : Nat → rowT} (hX : XS (qK m) (qN m) (qR m)) (hr : ∀ j, j < 3 → CRw (qI m) j (ro j)) (r : Int32) : fX9_rowFault NF 0 r m = some (aLk ro r, m) := by
  unfold fX9_rowFault aLk
  rw [fX9_isRow_eq]
  simp only [Option.bind_some]
  rcases i3 r with ⟨h, -⟩ | ⟨h1, h2, -⟩ | ⟨h1, h2, -, j, hj, rfl⟩
  · simp only [h, ↓reduceIte]
  · simp only [h1, h2, ↓reduceIte]
  have h10 : ¬ (1 : Int32) = 0 := by decide
  simp only [h1, h2, ↓reduceIte, h10]
  obtain ⟨k1, r1, k2, n2, ra⟩ := hX.rw hj
  obtain ⟨k0, r0, ka, na⟩ := hX.rwA
  have hb : j < qN m 401 := by omega
  have hcl : (nI j).toNatClampNeg = j := nI_clamp (by omega)
  have hj2 := hr j hj
  rw [hcl]
  cases hx : ro j with
  | none =>
    rw [hx] at hj2
    have e : qI m (402 + 2 * j) 2 = -1 := hj2
    unfold fX5_isMissing
    simp (disch := first | assumption | omega) only [qP, qChk_, Option.bind_some, r0, ra, e, ↓reduceIte, h10]
  | some x =>
    obtain ⟨ty, len, el⟩ := x
    rw [hx] at hj2
    obtain ⟨w1, w2, w3, w4, w5⟩ := hj2
    have e : ¬ nI len = -1 := fun q => by
      have h5 : nI len < 0 := by rw [q]; decide
      exact nI_pos (by omega) h5
    unfold fX5_isMissing
    simp (disch := first | assumption | omega) only [qP, qChk_, Option.bind_some, r0, ra, w3, e, ↓reduceIte]
theorem MS.rw {K N : Nat → Nat} {R : Nat → Nat → Option Nat} (h : MS K N R) : K 433 = 10 ∧ R 433 15 = some 443 ∧ R 433 16 = some 444 ∧ R 433 17 = some 445 ∧ K 443 = 12 ∧ K 444 = 12 ∧ K 445 = 12 ∧ N 443 = 3 ∧ N 444 = 3 ∧ N 445 = 240 := ⟨h.1.1, h.1.2.2.2.2.2.2.2.2.2.2.1, h.1.2.2.2.2.2.2.2.2.2.2.2.1, h.1.2.2.2.2.2.2.2.2.2.2.2.2.1, h.2.1.2.2.2.2.2.2.2.2.2.1, h.2.1.2.2.2.2.2.2.2.2.2.2.1, h.2.1.2.2.2.2.2.2.2.2.2.2.2.1, h.2.2.2.2.2.2.2.2.2.2.2.1, h.2.2.2.2.2.2.2.2.2.2.2.2.1, h.2.2.2.2.2.2.2.2.2.2.2.2.2.1⟩
theorem m_lacks {m : qM} {ro : Nat → rowT} (hM : MS (qK m) (qN m) (qR m)) (hr : ∀ j, j < 3 → MRw (qI m) j (ro j)) (r : Int32) : fX10_lacks NF 433 r m = some (aLk ro r, m) := by
  unfold fX10_lacks aLk
  rw [fX10_isRow_eq]
  simp only [Option.bind_some]
  rcases i3 r with ⟨h, -⟩ | ⟨h1, h2, h3⟩ | ⟨h1, h2, h3, j, hj, rfl⟩
  · simp only [h, ↓reduceIte]
  · simp only [h1, h2, h3, ↓reduceIte]
  have h10 : ¬ (1 : Int32) = 0 := by decide
  simp only [h1, h2, h3, ↓reduceIte, h10]
  obtain ⟨k0, r15, r16, r17, k3, k4, k5, n3, n4, n5⟩ := hM.rw
  have hb : j < qN m 443 := by omega
  have hcl : (nI j).toNatClampNeg = j := nI_clamp (by omega)
  have hj2 := hr j hj
  rw [hcl]
  cases hx : ro j with
  | none =>
    rw [hx] at hj2
    have e : qI m 443 j = -1 := hj2
    have e2 : ¬ (0 : Int32) ≤ -1 := by decide
    simp (disch := first | assumption | omega) only [qP, qChk_, Option.bind_some, r15, e, e2, ↓reduceIte]
  | some x =>
    obtain ⟨ty, len, el⟩ := x
    rw [hx] at hj2
    obtain ⟨w1, w2, w3, w4, w5⟩ := hj2
    have e2 : (0 : Int32) ≤ nI ty := nI_pos' (by omega)
    simp (disch := first | assumption | omega) only [qP, qChk_, Option.bind_some, r15, w1, e2, ↓reduceIte]
