-- ===== counting =====
def cnt (p : Nat → Bool) : Nat → Nat
  | 0 => 0
  | n + 1 => cnt p n + (if p n = true then 1 else 0)
theorem cnt_le (p : Nat → Bool) (n : Nat) : cnt p n ≤ n := by
  induction n with
  | zero => exact Nat.le_refl _
  | succ n ih => unfold cnt; split <;> omega
theorem cnt_congr {p q : Nat → Bool} {n : Nat} (h : ∀ j, j < n → p j = q j) : cnt p n = cnt q n := by
  induction n with
  | zero => rfl
  | succ n ih => unfold cnt; rw [ih (fun j hj => h j (by omega)), h n (by omega)]
theorem cnt_mono {p q : Nat → Bool} {n : Nat} (h : ∀ j, j < n → p j = true → q j = true) : cnt p n ≤ cnt q n := by
  induction n with
  | zero => exact Nat.le_refl _
  | succ n ih =>
    unfold cnt
    have h1 := ih (fun j hj => h j (by omega))
    by_cases hp : p n = true
    · rw [if_pos hp, if_pos (h n (by omega) hp)]; omega
    · rw [if_neg hp]; omega
theorem cnt_set {p q : Nat → Bool} {n k : Nat} (hk : k < n) (hp : p k = true) (hq : q k = false) (ho : ∀ j, j < n → j ≠ k → q j = p j) : cnt q n + 1 = cnt p n := by
  induction n with
  | zero => omega
  | succ n ih =>
    unfold cnt
    by_cases e : k = n
    · subst e
      rw [cnt_congr (p := q) (q := p) (fun j hj => ho j (by omega) (by omega)), hp, hq]
      simp
    · rw [← ih (by omega) (fun j hj hne => ho j (by omega) hne), ho n (by omega) (fun h => e h.symm)]
      omega
theorem cnt_pos {p : Nat → Bool} {n k : Nat} (hk : k < n) (hp : p k = true) : 0 < cnt p n := by
  have h := cnt_set (p := p) (q := fun j => if j = k then false else p j) hk hp (by simp) (fun j _ hj => by simp [hj])
  omega
theorem cnt_zero {p : Nat → Bool} {n : Nat} (h : cnt p n = 0) (j : Nat) (hj : j < n) : p j = false := by
  cases hp : p j with
  | false => rfl
  | true => have := cnt_pos hj hp; omega
-- ===== the parts of a tree, by their places =====
def sa : Tm → Nat → Tm
  | .var v, _ => .var v
  | .op a b, i => if i = 0 then .op a b else if i ≤ tS a then sa a (i - 1) else sa b (i - 1 - tS a)
theorem sa_zero (t : Tm) : sa t 0 = t := by cases t <;> simp [sa]
theorem sa_l {a b : Tm} {i : Nat} (h : i < tS a) : sa (.op a b) (i + 1) = sa a i := by
  conv => lhs; unfold sa
  rw [if_neg (by omega), if_pos (by omega), Nat.add_sub_cancel]
theorem sa_r {a b : Tm} {i : Nat} : sa (.op a b) (i + 1 + tS a) = sa b i := by
  conv => lhs; unfold sa
  rw [if_neg (by omega), if_neg (by omega)]
  congr 1
  omega
theorem sa_op {t : Tm} : ∀ {i : Nat} {l r : Tm}, i < tS t → sa t i = .op l r → i + 1 + tS l < tS t ∧ sa t (i + 1) = l ∧ sa t (i + 1 + tS l) = r := by
  induction t with
  | var v => intro i l r hi h; unfold sa at h; cases h
  | op a b iha ihb =>
    intro i l r hi h
    have hb := tS_pos b
    have ha := tS_pos a
    simp only [tS] at hi ⊢
    cases i with
    | zero =>
      rw [sa_zero] at h
      injection h with h1 h2
      subst h1 h2
      refine ⟨by omega, ?_, ?_⟩
      · rw [sa_l ha, sa_zero]
      · rw [sa_r, sa_zero]
    | succ i =>
      by_cases hc : i < tS a
      · rw [sa_l hc] at h
        obtain ⟨h1, h2, h3⟩ := iha hc h
        refine ⟨by omega, ?_, ?_⟩
        · rw [sa_l (by omega)]; exact h2
        · rw [show i + 1 + 1 + tS l = (i + 1 + tS l) + 1 by omega, sa_l (by omega)]; exact h3
      · obtain ⟨j, rfl⟩ : ∃ j, i = j + tS a := ⟨i - tS a, by omega⟩
        rw [show j + tS a + 1 = j + 1 + tS a by omega, sa_r] at h
        obtain ⟨h1, h2, h3⟩ := ihb (by omega) h
        refine ⟨by omega, ?_, ?_⟩
        · rw [show j + tS a + 1 + 1 = (j + 1) + 1 + tS a by omega, sa_r]; exact h2
        · rw [show j + tS a + 1 + 1 + tS l = (j + 1 + tS l) + 1 + tS a by omega, sa_r]; exact h3
theorem sa_ocs {t : Tm} : ∀ {i v : Nat}, ocs v (sa t i) → ocs v t := by
  induction t with
  | var w => intro i v h; exact h
  | op a b iha ihb =>
    intro i v h
    unfold sa at h
    by_cases h1 : i = 0
    · rw [if_pos h1] at h; exact h
    · rw [if_neg h1] at h
      by_cases h2 : i ≤ tS a
      · rw [if_pos h2] at h; exact Or.inl (iha h)
      · rw [if_neg h2] at h; exact Or.inr (ihb h)
def hc : Tm → Nat
  | .var v => v
  | .op _ _ => 99
theorem pol_sa {t : Tm} : ∀ {i : Nat}, i < tS t → (pol t).getD i 0 = hc (sa t i) := by
  induction t with
  | var v => intro i h; simp only [tS] at h; obtain rfl : i = 0 := by omega
             rfl
  | op a b iha ihb =>
    intro i h
    simp only [tS] at h
    cases i with
    | zero => rfl
    | succ i =>
      show (pol a ++ pol b).getD i 0 = _
      by_cases hc' : i < tS a
      · rw [sa_l hc', ← iha hc']
        simp only [List.getD_eq_getElem?_getD]
        rw [List.getElem?_append_left (by rw [pol_len]; exact hc')]
      · obtain ⟨j, rfl⟩ : ∃ j, i = j + tS a := ⟨i - tS a, by omega⟩
        rw [show j + tS a + 1 = j + 1 + tS a by omega, sa_r, ← ihb (by omega)]
        simp only [List.getD_eq_getElem?_getD]
        rw [List.getElem?_append_right (by rw [pol_len]; omega), pol_len]
        simp
-- variables moved
def shf (k : Nat) (t : Tm) : Tm := sb (fun v => .var (v + k)) t
theorem shf_tS {k : Nat} {t : Tm} : tS (shf k t) = tS t := tS_ren
theorem shf_ocs {k : Nat} {t : Tm} : ∀ {v : Nat}, ocs v (shf k t) → ∃ w, ocs w t ∧ v = w + k := by
  induction t with
  | var u => intro v h; exact ⟨u, rfl, (h : u + k = v).symm⟩
  | op a b iha ihb =>
    intro v h
    rcases h with h | h
    · obtain ⟨w, hw, e⟩ := iha h; exact ⟨w, Or.inl hw, e⟩
    · obtain ⟨w, hw, e⟩ := ihb h; exact ⟨w, Or.inr hw, e⟩
theorem sa_shf {k : Nat} {t : Tm} : ∀ {i : Nat}, i < tS t → sa (shf k t) i = shf k (sa t i) := by
  induction t with
  | var u => intro i _; rfl
  | op a b iha ihb =>
    intro i h
    simp only [tS] at h
    cases i with
    | zero => rw [sa_zero, sa_zero]
    | succ i =>
      show sa (.op (shf k a) (shf k b)) (i + 1) = _
      by_cases hc' : i < tS a
      · rw [sa_l hc', sa_l (by rw [shf_tS]; exact hc'), iha hc']
      · obtain ⟨j, rfl⟩ : ∃ j, i = j + tS a := ⟨i - tS a, by omega⟩
        rw [show j + tS a + 1 = j + 1 + tS a by omega, sa_r, ← ihb (by omega)]
        have : j + 1 + tS a = j + 1 + tS (shf k a) := by rw [shf_tS]
        rw [this, sa_r]
-- ===== the graph of two trees =====
def tr (A B : Tm) (n : Nat) : Tm := if n < tS A then sa A n else sa B (n - tS A)
theorem tr_op {A B : Tm} {n : Nat} {l r : Tm} (hn : n < tS A + tS B) (h : tr A B n = .op l r) : n + 1 + tS l < tS A + tS B ∧ tr A B (n + 1) = l ∧ tr A B (n + 1 + tS l) = r := by
  unfold tr at h
  by_cases hc : n < tS A
  · rw [if_pos hc] at h
    obtain ⟨h1, h2, h3⟩ := sa_op hc h
    refine ⟨by omega, ?_, ?_⟩
    · unfold tr; rw [if_pos (by omega)]; exact h2
    · unfold tr; rw [if_pos (by omega)]; exact h3
  · rw [if_neg hc] at h
    obtain ⟨h1, h2, h3⟩ := sa_op (by omega) h
    refine ⟨by omega, ?_, ?_⟩
    · unfold tr; rw [if_neg (by omega), show n + 1 - tS A = n - tS A + 1 by omega]; exact h2
    · unfold tr; rw [if_neg (by omega), show n + 1 + tS l - tS A = n - tS A + 1 + tS l by omega]; exact h3
theorem tr_bel {A B : Tm} {k : Nat} (ha : bel k A) (hb : bel k B) (n : Nat) : bel k (tr A B n) := by
  intro v hv
  unfold tr at hv
  by_cases hc : n < tS A
  · rw [if_pos hc] at hv; exact ha v (sa_ocs hv)
  · rw [if_neg hc] at hv; exact hb v (sa_ocs hv)
theorem tr_A {A B : Tm} : tr A B 0 = A := by unfold tr; rw [if_pos (tS_pos A), sa_zero]
theorem tr_B {A B : Tm} : tr A B (tS A) = B := by unfold tr; rw [if_neg (by omega), Nat.sub_self, sa_zero]
