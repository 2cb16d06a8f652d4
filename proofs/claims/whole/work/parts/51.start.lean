section
-- ===== both formulas loaded: the first classes =====
def Ld0 (I : Nat → Nat → Int32) (φ : Tm) (off : Nat) : Prop := ∀ i, i < tS φ → (∀ l r, sa φ i = .op l r → I 134 (off + i) = nI (off + i) ∧ I 135 (off + i) = nI (off + i) ∧ I 133 (off + i) = nI (off + i + 1 + tS l)) ∧ (∀ v, sa φ i = .var v → I 135 (off + i) = -1 ∧ ∃ q, q < tS φ ∧ sa φ q = .var v ∧ I 134 (off + q) = nI (off + q) ∧ ∀ j, j < tS φ → sa φ j = .var v → I 134 (off + j) = nI (off + q))
theorem Ld0_ld {I : Nat → Nat → Int32} {φ : Tm} {off : Nat} (hb : bel 12 φ) (h1 : LdP I φ off) (h2 : LVp I φ off 0) : Ld0 I φ off := by
  intro i hi
  obtain ⟨a1, a2⟩ := h1 i hi
  refine ⟨a1, fun v hv => ?_⟩
  obtain ⟨b1, b2, b3⟩ := a2 v hv
  have hv12 : v < 12 := hb v (sa_ocs (i := i) (by rw [hv]; rfl))
  obtain ⟨q, c1, c2, c3, c4, c5⟩ := h2 v hv12 b3
  have e : off + (q - off) = q := by omega
  refine ⟨b1, q - off, by omega, c4, by rw [e]; exact c5, fun j hj hjv => ?_⟩
  rw [e, ← c1]
  exact ((h1 j hj).2 v hjv).2.1
theorem Ld0_of {I I2 : Nat → Nat → Int32} {φ : Tm} {off : Nat} (h : Ld0 I φ off) (e : ∀ k, off ≤ k → k < off + tS φ → I2 133 k = I 133 k ∧ I2 134 k = I 134 k ∧ I2 135 k = I 135 k) : Ld0 I2 φ off := by
  intro i hi
  obtain ⟨e1, e2, e3⟩ := e (off + i) (by omega) (by omega)
  obtain ⟨a1, a2⟩ := h i hi
  refine ⟨fun l r hl => ?_, fun v hv => ?_⟩
  · rw [e1, e2, e3]; exact a1 l r hl
  · obtain ⟨b1, q, b2, b3, b4, b5⟩ := a2 v hv
    refine ⟨by rw [e3]; exact b1, q, b2, b3, ?_, fun j hj hjv => ?_⟩
    · rw [(e (off + q) (by omega) (by omega)).2.1]; exact b4
    · rw [(e (off + j) (by omega) (by omega)).2.1]; exact b5 j hj hjv
theorem shf_op {k : Nat} {t l r : Tm} (h : shf k t = .op l r) : ∃ l' r', t = .op l' r' ∧ l = shf k l' ∧ r = shf k r' := by
  cases t with
  | var v => simp only [shf, sb] at h; cases h
  | op a b =>
    simp only [shf, sb] at h
    injection h with h1 h2
    exact ⟨a, b, rfl, h1.symm, h2.symm⟩
theorem shf_var {k v : Nat} {t : Tm} (h : shf k t = .var v) : ∃ w, t = .var w ∧ v = w + k := by
  cases t with
  | var w => simp only [shf, sb] at h; injection h with h; exact ⟨w, rfl, h.symm⟩
  | op a b => simp only [shf, sb] at h; cases h
theorem ld_F1 {I : Nat → Nat → Int32} {A B : Tm} {n : Nat} {l r : Tm} (h1 : Ld0 I A 0) (h2 : Ld0 I B (tS A)) (hn : n < tS A + tS B) (ht : tr A (shf 39 B) n = .op l r) : I 134 n = nI n ∧ I 135 n = nI n ∧ I 133 n = nI (n + 1 + tS l) := by
  unfold tr at ht
  by_cases e : n < tS A
  · rw [if_pos e] at ht
    have := (h1 n e).1 l r ht
    rwa [Nat.zero_add] at this
  · rw [if_neg e, sa_shf (by omega)] at ht
    obtain ⟨l', r', t1, t2, t3⟩ := shf_op ht
    have := (h2 (n - tS A) (by omega)).1 l' r' t1
    rw [show tS A + (n - tS A) = n by omega] at this
    rw [t2, shf_tS]
    exact this
theorem ld_F2 {I : Nat → Nat → Int32} {A B : Tm} {n v : Nat} (hA : bel 39 A) (h1 : Ld0 I A 0) (h2 : Ld0 I B (tS A)) (hn : n < tS A + tS B) (ht : tr A (shf 39 B) n = .var v) : I 135 n = -1 ∧ ∃ q, q < tS A + tS B ∧ tr A (shf 39 B) q = .var v ∧ I 134 q = nI q ∧ ∀ k, k < tS A + tS B → tr A (shf 39 B) k = .var v → I 134 k = nI q := by
  have ht0 := ht
  unfold tr at ht
  by_cases e : n < tS A
  · rw [if_pos e] at ht
    have hv : v < 39 := hA v (sa_ocs (i := n) (by rw [ht]; rfl))
    obtain ⟨b1, q, b2, b3, b4, b5⟩ := (h1 n e).2 v ht
    rw [Nat.zero_add] at b1 b4
    refine ⟨b1, q, by omega, by unfold tr; rw [if_pos b2]; exact b3, b4, fun k hk hkv => ?_⟩
    unfold tr at hkv
    by_cases ek : k < tS A
    · rw [if_pos ek] at hkv
      have := b5 k ek hkv
      rwa [Nat.zero_add, Nat.zero_add] at this
    · rw [if_neg ek, sa_shf (by omega)] at hkv
      obtain ⟨w, -, hw⟩ := shf_var hkv
      omega
  · rw [if_neg e, sa_shf (by omega)] at ht
    obtain ⟨w, t1, t2⟩ := shf_var ht
    obtain ⟨b1, q, b2, b3, b4, b5⟩ := (h2 (n - tS A) (by omega)).2 w t1
    rw [show tS A + (n - tS A) = n by omega] at b1
    refine ⟨b1, tS A + q, by omega, ?_, b4, fun k hk hkv => ?_⟩
    · unfold tr
      rw [if_neg (by omega), show tS A + q - tS A = q by omega, sa_shf b2, b3, t2]
      rfl
    · unfold tr at hkv
      by_cases ek : k < tS A
      · rw [if_pos ek] at hkv
        have hv : v < 39 := hA v (sa_ocs (i := k) (by rw [hkv]; rfl))
        omega
      · rw [if_neg ek, sa_shf (by omega)] at hkv
        obtain ⟨w', t3, t4⟩ := shf_var hkv
        have hw : w' = w := by omega
        rw [hw] at t3
        have := b5 (k - tS A) (by omega) t3
        rwa [show tS A + (k - tS A) = k by omega] at this
def shpT (T : Nat → Tm) : Nat → Option Nat := fun n => match T n with
  | .var _ => none
  | .op _ _ => some n
theorem ld_start {m : qM} {A B : Tm} (hA : bel 39 A) (hs : tS A + tS B ≤ 78) (h1 : Ld0 (qI m) A 0) (h2 : Ld0 (qI m) B (tS A)) : ∃ par h : Nat → Nat, UV m (tr A (shf 39 B)) (tS A + tS B) par (shpT (tr A (shf 39 B))) ∧ UF (tr A (shf 39 B)) (tS A + tS B) par par h (shpT (tr A (shf 39 B))) ∧ (∀ n, n < tS A + tS B → tr A (shf 39 B) n = tr A (shf 39 B) (par n)) ∧ (∀ n s l r, n < tS A + tS B → tr A (shf 39 B) n = .op l r → shpT (tr A (shf 39 B)) (par n) = some s → s = n) := by
  let T := tr A (shf 39 B)
  let nd := tS A + tS B
  have F1 : ∀ n l r, n < nd → T n = .op l r → qI m 134 n = nI n ∧ qI m 135 n = nI n ∧ qI m 133 n = nI (n + 1 + tS l) := fun n l r hn ht => ld_F1 h1 h2 hn ht
  have F2 : ∀ n v, n < nd → T n = .var v → qI m 135 n = -1 ∧ ∃ q, q < nd ∧ T q = .var v ∧ qI m 134 q = nI q ∧ ∀ k, k < nd → T k = .var v → qI m 134 k = nI q := fun n v hn ht => ld_F2 hA h1 h2 hn ht
  let par : Nat → Nat := fun n => (qI m 134 n).toNatClampNeg
  have P0 : ∀ n q, q < 78 → qI m 134 n = nI q → par n = q := fun n q hq e => by
    show (qI m 134 n).toNatClampNeg = q
    rw [e, nI_clamp (by omega)]
  have P1 : ∀ n l r, n < nd → T n = .op l r → par n = n := fun n l r hn ht => P0 n n (by omega) (F1 n l r hn ht).1
  have P2 : ∀ n v, n < nd → T n = .var v → ∃ q, q < nd ∧ T q = .var v ∧ par q = q ∧ ∀ k, k < nd → T k = .var v → par k = q := fun n v hn ht => by
    obtain ⟨_, q, a1, a2, a3, a4⟩ := F2 n v hn ht
    exact ⟨q, a1, a2, P0 q q (by omega) a3, fun k hk hkv => P0 k q (by omega) (a4 k hk hkv)⟩
  have P3 : ∀ n, n < nd → par n < nd ∧ par (par n) = par n ∧ T (par n) = T n := by
    intro n hn
    cases ht : T n with
    | op l r =>
      have := P1 n l r hn ht
      rw [this]
      exact ⟨hn, this, ht⟩
    | var v =>
      obtain ⟨q, a1, a2, a3, a4⟩ := P2 n v hn ht
      rw [a4 n hn ht]
      exact ⟨a1, a3, a2⟩
  let h : Nat → Nat := fun n => if par n = n then 0 else 1
  have S1 : ∀ n l r, T n = .op l r → shpT T n = some n := fun n l r ht => by show (match T n with | .var _ => none | .op _ _ => some n) = _; rw [ht]
  have S2 : ∀ n v, T n = .var v → shpT T n = none := fun n v ht => by show (match T n with | .var _ => none | .op _ _ => some n) = _; rw [ht]
  refine ⟨par, h, fun n hn => ⟨?_, ?_, fun l r ht => (F1 n l r hn ht).2.2⟩, ⟨fun n hn => ?_, fun n hn => ?_, fun n l r hn ht => ?_, fun x s hx hp hsx => ?_, fun n k v hn hk hn2 hk2 => ?_⟩, fun n hn => (P3 n hn).2.2.symm, fun n s l r hn ht hsn => ?_⟩
  · cases ht : T n with
    | op l r => rw [P1 n l r hn ht]; exact (F1 n l r hn ht).1
    | var v =>
      obtain ⟨_, q, a1, a2, a3, a4⟩ := F2 n v hn ht
      have e := a4 n hn ht
      rw [P0 n q (by omega) e]; exact e
  · show _ = shI (shpT T n)
    cases ht : T n with
    | op l r => rw [S1 n l r ht]; exact (F1 n l r hn ht).2.1
    | var v => rw [S2 n v ht]; exact (F2 n v hn ht).1
  · obtain ⟨a1, a2, a3⟩ := P3 n hn
    refine ⟨a1, a1, a2, a2, a2, fun e => ⟨e, if_pos e⟩, fun e => ?_⟩
    have e1 : h (par n) = 0 := if_pos a2
    have e2 : h n = 1 := if_neg e
    omega
  · show h n + hds par nd ≤ nd
    by_cases e : par n = n
    · have e1 : h n = 0 := if_pos e
      have := cnt_le (fun j => decide (par j = j)) nd
      have e3 : hds par nd ≤ nd := this
      omega
    · have e1 : h n = 1 := if_neg e
      have e2 := cnt_set (p := fun j => if j = n then true else decide (par j = j)) (q := fun j => decide (par j = j)) (n := nd) (k := n) hn (by simp) (by simp [e]) (fun j _ hj => by simp [hj])
      have := cnt_le (fun j => if j = n then true else decide (par j = j)) nd
      have e3 : hds par nd + 1 ≤ nd := by unfold hds; omega
      omega
  · have := P1 n l r hn ht
    exact ⟨n, by rw [this]; exact S1 n l r ht⟩
  · cases ht : T x with
    | var v => have := S2 x v ht; rw [show shpT T x = some s from hsx] at this; cases this
    | op l r =>
      have := S1 x l r ht
      rw [show shpT T x = some s from hsx] at this
      injection this with this
      subst this
      exact ⟨hx, hp, l, r, ht⟩
  · obtain ⟨q, a1, a2, a3, a4⟩ := P2 n v hn hn2
    rw [a4 n hn hn2, a4 k hk hk2]
  · have e := P1 n l r hn ht
    have e2 := S1 n l r ht
    rw [show shpT (tr A (shf 39 B)) (par n) = shpT T n from by rw [e], e2] at hsn
    injection hsn with hsn
    exact hsn.symm
end
