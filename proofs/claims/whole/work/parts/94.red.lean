section
-- ===== reduction: terms as trees, their postfix signs =====
def yPf : Tm → List Nat
  | .var c => [c]
  | .op f x => yPf f ++ (yPf x ++ [64])
def yHd : Tm → Nat
  | .var c => c
  | .op f _ => yHd f
def ySp : Tm → Nat
  | .var _ => 0
  | .op f _ => ySp f + 1
def yAg : Tm → Tm
  | .var c => .var c
  | .op _ x => x
def yFn : Tm → Tm
  | .var c => .var c
  | .op f _ => f
def yCt (t : Tm) : Tm :=
  if yHd t = 73 then yAg t
  else if yHd t = 75 then yAg (yFn t)
  else if yHd t = 87 then .op (.op (yAg (yFn t)) (yAg t)) (yAg t)
  else if yHd t = 83 then .op (.op (yAg (yFn (yFn t))) (yAg t)) (.op (yAg (yFn t)) (yAg t))
  else if yHd t = 66 then .op (yAg (yFn (yFn t))) (.op (yAg (yFn t)) (yAg t))
  else .op (.op (yAg (yFn (yFn t))) (yAg t)) (yAg (yFn t))
def yOr (f x : Tm) : Option Tm → Option Tm → Option Tm
  | some g, _ => some (.op g x)
  | none, some y => some (.op f y)
  | none, none => none
def yRd : Tm → Option Tm
  | .var _ => none
  | .op f x => if ySp f + 1 = arN (yHd f) then some (yCt (.op f x)) else yOr f x (yRd f) (yRd x)
theorem yRd_op {f x : Tm} : yRd (.op f x) = if ySp f + 1 = arN (yHd f) then some (yCt (.op f x)) else yOr f x (yRd f) (yRd x) := rfl
def yLv : Tm → Nat
  | .var _ => 1
  | .op f x => yLv f + yLv x
def yDp : Tm → Nat
  | .var _ => 0
  | .op f x => max (yDp f) (yDp x) + 1
def yTl : Tm → Bool → List Nat
  | .var c, _ => [c]
  | .op f x, b => if b = true then 40 :: (yTl f false ++ (yTl x true ++ [41])) else yTl f false ++ yTl x true
def yOk : Tm → Prop
  | .var c => ixL c < 6
  | .op f x => yOk f ∧ yOk x
theorem yLv_pos (t : Tm) : 1 ≤ yLv t := by
  induction t with
  | var c => exact Nat.le_refl 1
  | op f x ihf ihx => show 1 ≤ yLv f + yLv x; omega
theorem yPf_len (t : Tm) : (yPf t).length + 1 = 2 * yLv t := by
  induction t with
  | var c => rfl
  | op f x ihf ihx =>
    show (yPf f ++ (yPf x ++ [64])).length + 1 = 2 * (yLv f + yLv x)
    simp only [List.length_append, List.length_cons, List.length_nil]
    omega
theorem yDp_lv (t : Tm) : yDp t < yLv t := by
  induction t with
  | var c => exact Nat.zero_lt_one
  | op f x ihf ihx =>
    show max (yDp f) (yDp x) + 1 < yLv f + yLv x
    have := yLv_pos f
    have := yLv_pos x
    omega
theorem yAg_d (t : Tm) : yDp (yAg t) ≤ yDp t := by
  cases t with
  | var c => exact Nat.le_refl _
  | op f x => show yDp x ≤ max (yDp f) (yDp x) + 1; omega
theorem yFn_d (t : Tm) : yDp (yFn t) ≤ yDp t := by
  cases t with
  | var c => exact Nat.le_refl _
  | op f x => show yDp f ≤ max (yDp f) (yDp x) + 1; omega
theorem yCt_d (f x : Tm) : yDp (yCt (.op f x)) ≤ yDp (.op f x) + 1 := by
  have h0 : yDp (Lean.Data.AC.Expr.op f x) = max (yDp f) (yDp x) + 1 := rfl
  have e1 : yAg (.op f x) = x := rfl
  have e2 : yFn (.op f x) = f := rfl
  have h1 := yAg_d f
  have h2 := yAg_d (yFn f)
  have h3 := yFn_d f
  have o : ∀ a b : Tm, yDp (.op a b) = max (yDp a) (yDp b) + 1 := fun _ _ => rfl
  unfold yCt
  rw [e1, e2]
  repeat' split
  all_goals (try simp only [o]) <;> omega
theorem yRd_d {t u : Tm} (h : yRd t = some u) : yDp u ≤ yDp t + 1 := by
  induction t generalizing u with
  | var c => cases h
  | op f x ihf ihx =>
    have o : ∀ a b : Tm, yDp (.op a b) = max (yDp a) (yDp b) + 1 := fun _ _ => rfl
    rw [yRd_op] at h
    split at h
    · injection h with h
      subst h
      exact yCt_d f x
    · cases hf : yRd f with
      | some g =>
        rw [hf] at h
        injection h with h
        subst h
        have := ihf hf
        rw [o, o]; omega
      | none =>
        cases hx : yRd x with
        | some y =>
          rw [hf, hx] at h
          injection h with h
          subst h
          have := ihx hx
          rw [o, o]; omega
        | none => rw [hf, hx] at h; cases h
theorem yAg_l (t : Tm) : yLv (yAg t) ≤ yLv t := by
  cases t with
  | var c => exact Nat.le_refl _
  | op f x => show yLv x ≤ yLv f + yLv x; omega
theorem yFn_l (t : Tm) : yLv (yFn t) ≤ yLv t := by
  cases t with
  | var c => exact Nat.le_refl _
  | op f x => show yLv f ≤ yLv f + yLv x; omega
theorem yCt_l (t : Tm) : yLv (yCt t) ≤ 4 * yLv t := by
  have h1 := yAg_l t
  have h2 := yFn_l t
  have h3 := yAg_l (yFn t)
  have h4 := yFn_l (yFn t)
  have h5 := yAg_l (yFn (yFn t))
  have o : ∀ a b : Tm, yLv (.op a b) = yLv a + yLv b := fun _ _ => rfl
  unfold yCt
  repeat' split
  all_goals (try simp only [o]) <;> omega
theorem yRd_l {t u : Tm} (h : yRd t = some u) : yLv u ≤ 4 * yLv t := by
  induction t generalizing u with
  | var c => cases h
  | op f x ihf ihx =>
    have o : ∀ a b : Tm, yLv (.op a b) = yLv a + yLv b := fun _ _ => rfl
    rw [yRd_op] at h
    split at h
    · injection h with h
      subst h
      exact yCt_l _
    · cases hf : yRd f with
      | some g =>
        rw [hf] at h
        injection h with h
        subst h
        have := ihf hf
        rw [o, o]; omega
      | none =>
        cases hx : yRd x with
        | some y =>
          rw [hf, hx] at h
          injection h with h
          subst h
          have := ihx hx
          rw [o, o]; omega
        | none => rw [hf, hx] at h; cases h
theorem yOk_ag {t : Tm} (h : yOk t) : yOk (yAg t) := by
  cases t with
  | var c => exact h
  | op f x => exact h.2
theorem yOk_fn {t : Tm} (h : yOk t) : yOk (yFn t) := by
  cases t with
  | var c => exact h
  | op f x => exact h.1
theorem yOk_ct {t : Tm} (h : yOk t) : yOk (yCt t) := by
  have h1 := yOk_ag h
  have h2 := yOk_ag (yOk_fn h)
  have h3 := yOk_ag (yOk_fn (yOk_fn h))
  unfold yCt
  split
  · exact h1
  split
  · exact h2
  split
  · exact ⟨⟨h2, h1⟩, h1⟩
  split
  · exact ⟨⟨h3, h1⟩, h2, h1⟩
  split
  · exact ⟨h3, h2, h1⟩
  exact ⟨⟨h3, h1⟩, h2⟩
theorem yOk_rd {t u : Tm} (ho : yOk t) (h : yRd t = some u) : yOk u := by
  induction t generalizing u with
  | var c => cases h
  | op f x ihf ihx =>
    rw [yRd_op] at h
    split at h
    · injection h with h
      subst h
      exact yOk_ct ho
    · cases hf : yRd f with
      | some g =>
        rw [hf] at h
        injection h with h
        subst h
        exact ⟨ihf ho.1 hf, ho.2⟩
      | none =>
        cases hx : yRd x with
        | some y =>
          rw [hf, hx] at h
          injection h with h
          subst h
          exact ⟨ho.1, ihx ho.2 hx⟩
        | none => rw [hf, hx] at h; cases h
theorem yOk_hd {t : Tm} (h : yOk t) : ixL (yHd t) < 6 := by
  induction t with
  | var c => exact h
  | op f x ihf ihx => exact ihf h.1
theorem ar_pos {c : Nat} (h : ixL c < 6) : 1 ≤ arN c := by
  have h2 := (ixL_c h).1
  have := arN_ix c (by omega)
  omega
-- ===== what is found in a row of signs =====
def yFz : List Nat → Nat → Nat → Nat → Nat → Option (List (Nat × Nat))
  | [], a, _, _, _ => if a = 0 then some [] else none
  | c :: r, a, h, i, st => if a = 0 then some [] else if h = 0 then none else if c = 64 then (if h = 2 then (yFz r (a - 1) 1 (i + 1) (i + 1)).map (fun l => (st, i) :: l) else yFz r a (h - 1) (i + 1) st) else yFz r a (h + 1) (i + 1) st
theorem yFz_cons {c : Nat} {r : List Nat} {a h i st : Nat} : yFz (c :: r) a h i st = if a = 0 then some [] else if h = 0 then none else if c = 64 then (if h = 2 then (yFz r (a - 1) 1 (i + 1) (i + 1)).map (fun l => (st, i) :: l) else yFz r a (h - 1) (i + 1) st) else yFz r a (h + 1) (i + 1) st := rfl
theorem yFz_0 {r : List Nat} {h i st : Nat} : yFz r 0 h i st = some [] := by
  cases r <;> rfl
def yFr : List Nat → Nat → Option (Nat × List (Nat × Nat))
  | [], _ => none
  | c :: r, p => if c = 64 then yFr r (p + 1) else (yFz r (arN c) 1 (p + 1) (p + 1)).elim (yFr r (p + 1)) (fun l => some (p, l))
theorem yFr_cons {c p : Nat} {r : List Nat} : yFr (c :: r) p = if c = 64 then yFr r (p + 1) else (yFz r (arN c) 1 (p + 1) (p + 1)).elim (yFr r (p + 1)) (fun l => some (p, l)) := rfl
def ySe : List Tm → List Nat → List Nat
  | [], r => r
  | x :: xs, r => yPf x ++ (64 :: ySe xs r)
def yPos : Nat → List Tm → List (Nat × Nat)
  | _, [] => []
  | i, x :: xs => (i, i + (yPf x).length) :: yPos (i + (yPf x).length + 1) xs
def yArs : Tm → List Tm
  | .var _ => []
  | .op f x => yArs f ++ [x]
theorem ySe_app (as bs : List Tm) (r : List Nat) : ySe (as ++ bs) r = ySe as (ySe bs r) := by
  induction as with
  | nil => rfl
  | cons a as ih => show yPf a ++ (64 :: ySe (as ++ bs) r) = _; rw [ih]; rfl
theorem ySe_r (as : List Tm) (r q : List Nat) : ySe as r ++ q = ySe as (r ++ q) := by
  induction as with
  | nil => rfl
  | cons a as ih =>
    show (yPf a ++ (64 :: ySe as r)) ++ q = yPf a ++ (64 :: ySe as (r ++ q))
    rw [List.append_assoc, ← ih]; rfl
theorem yPf_head (t : Tm) (r : List Nat) : yPf t ++ r = yHd t :: ySe (yArs t) r := by
  induction t generalizing r with
  | var c => rfl
  | op f x ihf ihx =>
    show (yPf f ++ (yPf x ++ [64])) ++ r = yHd f :: ySe (yArs f ++ [x]) r
    rw [List.append_assoc, List.append_assoc, ihf, ySe_app]
    rfl
theorem yArs_len (t : Tm) : (yArs t).length = ySp t := by
  induction t with
  | var c => rfl
  | op f x ihf ihx =>
    show (yArs f ++ [x]).length = ySp f + 1
    rw [List.length_append, ihf]; rfl
theorem yArs_ok {t : Tm} (h : yOk t) : ∀ a, a ∈ yArs t → yOk a := by
  induction t with
  | var c => intro a ha; simp [yArs] at ha
  | op f x ihf ihx =>
    intro a ha
    have ha2 : a ∈ yArs f ++ [x] := ha
    rw [List.mem_append] at ha2
    rcases ha2 with ha2 | ha2
    · exact ihf h.1 a ha2
    · have : a = x := by simpa using ha2
      rw [this]; exact h.2
theorem yFz_sub (x : Tm) (ho : yOk x) : ∀ (r : List Nat) (a h i st : Nat), yFz (yPf x ++ r) (a + 1) (h + 1) i st = yFz r (a + 1) (h + 2) (i + (yPf x).length) st := by
  induction x with
  | var c =>
    intro r a h i st
    have hc := (ixL_c ho).2
    show yFz (c :: r) (a + 1) (h + 1) i st = _
    rw [yFz_cons, if_neg (by omega), if_neg (by omega), if_neg hc]
    rfl
  | op f y ihf ihy =>
    intro r a h i st
    have e : yPf (.op f y) ++ r = yPf f ++ (yPf y ++ (64 :: r)) := by
      show (yPf f ++ (yPf y ++ [64])) ++ r = _
      rw [List.append_assoc, List.append_assoc]; rfl
    have el : (yPf (.op f y)).length = (yPf f).length + ((yPf y).length + 1) := by
      show (yPf f ++ (yPf y ++ [64])).length = _
      rw [List.length_append, List.length_append]; rfl
    rw [e, ihf ho.1, ihy ho.2, yFz_cons, if_neg (by omega), if_neg (by omega), if_pos rfl, if_neg (by omega), el]
    congr 1
    omega
theorem yFz_arg {x : Tm} (ho : yOk x) {r : List Nat} {a i : Nat} : yFz (yPf x ++ (64 :: r)) (a + 1) 1 i i = (yFz r a 1 (i + (yPf x).length + 1) (i + (yPf x).length + 1)).map (fun l => (i, i + (yPf x).length) :: l) := by
  rw [show (1 : Nat) = 0 + 1 from rfl, yFz_sub x ho (64 :: r) a 0 i i, yFz_cons, if_neg (by omega), if_neg (by omega), if_pos rfl, if_pos rfl]
  rfl
theorem yFz_full : ∀ (xs : List Tm) (R : List Nat) (i : Nat), (∀ x, x ∈ xs → yOk x) → yFz (ySe xs R) xs.length 1 i i = some (yPos i xs) := by
  intro xs
  induction xs with
  | nil => intro R i _; exact yFz_0
  | cons x xs ih =>
    intro R i ho
    show yFz (yPf x ++ (64 :: ySe xs R)) (xs.length + 1) 1 i i = _
    rw [yFz_arg (ho x (by simp)), ih R _ (fun y hy => ho y (by simp [hy]))]
    rfl
def yCl (R : List Nat) : Prop := R = [] ∨ ∃ r, R = 64 :: r
theorem yFz_few : ∀ (xs : List Tm) (R : List Nat) (a i : Nat), (∀ x, x ∈ xs → yOk x) → yCl R → xs.length < a → yFz (ySe xs R) a 1 i i = none := by
  intro xs
  induction xs with
  | nil =>
    intro R a i _ hR ha
    have ha : 0 < a := ha
    rcases hR with rfl | ⟨r, rfl⟩
    · show (if a = 0 then some [] else none) = none
      rw [if_neg (by omega)]
    · show yFz (64 :: r) a 1 i i = none
      rw [yFz_cons, if_neg (by omega), if_neg (by omega), if_pos rfl, if_neg (by omega)]
      cases r with
      | nil => show (if a = 0 then some [] else none) = none; rw [if_neg (by omega)]
      | cons c r => rw [yFz_cons, if_neg (by omega), if_pos rfl]
  | cons x xs ih =>
    intro R a i ho hR ha
    obtain ⟨b, rfl⟩ : ∃ b, a = b + 1 := ⟨a - 1, by omega⟩
    have ha2 : xs.length + 1 < b + 1 := ha
    show yFz (yPf x ++ (64 :: ySe xs R)) (b + 1) 1 i i = none
    rw [yFz_arg (ho x (by simp)), ih R b _ (fun y hy => ho y (by simp [hy])) hR (by omega)]
    rfl
-- ===== a contractum, its signs =====
def yCo (c : Nat) : List Nat := if c = 66 then [48, 49, 50, 64, 64] else if c = 67 then [48, 50, 64, 49, 64] else if c = 83 then [48, 50, 64, 49, 50, 64, 64] else if c = 87 then [48, 49, 64, 49, 64] else [48]
def yDg (as : List Tm) (d : Nat) : List Nat := if 48 ≤ d ∧ d < 51 then yPf (as.getD (d - 48) (.var 0)) else [64]
def yBu (as : List Tm) : List Nat → List Nat
  | [] => []
  | d :: ds => yDg as d ++ yBu as ds
theorem sp1 {t : Tm} (h : ySp t = 1) : ∃ c x, t = .op (.var c) x := by
  rcases t with c | ⟨f, x⟩
  · cases h
  · rcases f with c | ⟨g, y⟩
    · exact ⟨c, x, rfl⟩
    · have h2 : ySp g + 1 + 1 = 1 := h
      omega
theorem sp2 {t : Tm} (h : ySp t = 2) : ∃ c x y, t = .op (.op (.var c) x) y := by
  rcases t with c | ⟨f, y⟩
  · cases h
  · have h2 : ySp f + 1 = 2 := h
    obtain ⟨c, x, rfl⟩ := sp1 (t := f) (by omega)
    exact ⟨c, x, y, rfl⟩
theorem sp3 {t : Tm} (h : ySp t = 3) : ∃ c x y z, t = .op (.op (.op (.var c) x) y) z := by
  rcases t with c | ⟨f, z⟩
  · cases h
  · have h2 : ySp f + 1 = 3 := h
    obtain ⟨c, x, y, rfl⟩ := sp2 (t := f) (by omega)
    exact ⟨c, x, y, z, rfl⟩
theorem ix_letters : ∀ c, c < 128 → ixL c < 6 → (c = 73 ∧ arN c = 1) ∨ (c = 75 ∧ arN c = 2) ∨ (c = 87 ∧ arN c = 2) ∨ (c = 83 ∧ arN c = 3) ∨ (c = 66 ∧ arN c = 3) ∨ (c = 67 ∧ arN c = 3) := by decide
theorem yCt_pf {t : Tm} (h : ySp t = arN (yHd t)) (hc : ixL (yHd t) < 6) : yPf (yCt t) = yBu (yArs t) (yCo (yHd t)) := by
  rcases ix_letters _ (by have := (ixL_c hc).1; omega) hc with ⟨e, e2⟩ | ⟨e, e2⟩ | ⟨e, e2⟩ | ⟨e, e2⟩ | ⟨e, e2⟩ | ⟨e, e2⟩
  · rw [e2] at h
    obtain ⟨c, x, rfl⟩ := sp1 h
    have hcc : c = 73 := e
    subst hcc
    show yPf x = yPf x ++ []
    rw [List.append_nil]
  · rw [e2] at h
    obtain ⟨c, x, y, rfl⟩ := sp2 h
    have hcc : c = 75 := e
    subst hcc
    show yPf x = yPf x ++ []
    rw [List.append_nil]
  · rw [e2] at h
    obtain ⟨c, x, y, rfl⟩ := sp2 h
    have hcc : c = 87 := e
    subst hcc
    show (yPf x ++ (yPf y ++ [64])) ++ (yPf y ++ [64]) = yPf x ++ (yPf y ++ ([64] ++ (yPf y ++ ([64] ++ []))))
    simp only [List.append_assoc, List.append_nil]
  · rw [e2] at h
    obtain ⟨c, x, y, z, rfl⟩ := sp3 h
    have hcc : c = 83 := e
    subst hcc
    show (yPf x ++ (yPf z ++ [64])) ++ ((yPf y ++ (yPf z ++ [64])) ++ [64]) = yPf x ++ (yPf z ++ ([64] ++ (yPf y ++ (yPf z ++ ([64] ++ ([64] ++ []))))))
    simp only [List.append_assoc, List.append_nil]
  · rw [e2] at h
    obtain ⟨c, x, y, z, rfl⟩ := sp3 h
    have hcc : c = 66 := e
    subst hcc
    show yPf x ++ ((yPf y ++ (yPf z ++ [64])) ++ [64]) = yPf x ++ (yPf y ++ (yPf z ++ ([64] ++ ([64] ++ []))))
    simp only [List.append_assoc, List.append_nil]
  · rw [e2] at h
    obtain ⟨c, x, y, z, rfl⟩ := sp3 h
    have hcc : c = 67 := e
    subst hcc
    show (yPf x ++ (yPf z ++ [64])) ++ (yPf y ++ [64]) = yPf x ++ (yPf z ++ ([64] ++ (yPf y ++ ([64] ++ []))))
    simp only [List.append_assoc, List.append_nil]
-- ===== the first letter with enough arguments =====
def yDry (A B : List Nat) : Prop := ∀ p, yFr (A ++ B) p = yFr B (p + A.length)
theorem yDry_app {A B C : List Nat} (h1 : yDry A (B ++ C)) (h2 : yDry B C) : yDry (A ++ B) C := by
  intro p
  rw [List.append_assoc, h1, h2, List.length_append, Nat.add_assoc]
theorem yDry_64 {C : List Nat} : yDry [64] C := fun p => by
  show yFr (64 :: C) p = _
  rw [yFr_cons, if_pos rfl]; rfl
theorem yDry_nil {C : List Nat} : yDry [] C := fun _ => rfl
theorem yRd_sp {t : Tm} (ho : yOk t) (h : yRd t = none) : ySp t < arN (yHd t) := by
  induction t with
  | var c => exact ar_pos ho
  | op f x ihf ihx =>
    rw [yRd_op] at h
    show ySp f + 1 < arN (yHd f)
    split at h
    · cases h
    · rename_i hne
      cases hf : yRd f with
      | some g => rw [hf] at h; cases h
      | none => have := ihf ho.1 hf; omega
theorem yRd_no {f x : Tm} (h : yRd (.op f x) = none) : yRd f = none ∧ yRd x = none := by
  rw [yRd_op] at h
  split at h
  · cases h
  · cases hf : yRd f with
    | some g => rw [hf] at h; cases h
    | none =>
      cases hx : yRd x with
      | some y => rw [hf, hx] at h; cases h
      | none => exact ⟨rfl, rfl⟩
theorem yDry_T (t : Tm) (ho : yOk t) : ∀ (xs : List Tm) (R : List Nat), yRd t = none → ySp t + xs.length < arN (yHd t) → yCl R → (∀ x, x ∈ xs → yOk x) → yDry (yPf t) (ySe xs R) := by
  induction t with
  | var c =>
    intro xs R _ hl hR hx p
    have hc := (ixL_c ho).2
    have hl2 : xs.length < arN c := by
      have : 0 + xs.length < arN c := hl
      omega
    show yFr (c :: ySe xs R) p = _
    rw [yFr_cons, if_neg hc, yFz_few xs R _ _ hx hR hl2]
    rfl
  | op f x ihf ihx =>
    intro xs R h hl hR hx
    obtain ⟨hf, hxn⟩ := yRd_no h
    have hl2 : ySp f + 1 + xs.length < arN (yHd f) := hl
    have d1 := ihf ho.1 (x :: xs) R hf (by show ySp f + (xs.length + 1) < arN (yHd f); omega) hR (fun y hy => by
      rcases List.mem_cons.mp hy with rfl | hy
      · exact ho.2
      · exact hx y hy)
    have d2 := ihx ho.2 [] (64 :: ySe xs R) hxn (yRd_sp ho.2 hxn) (Or.inr ⟨_, rfl⟩) (fun y hy => by simp at hy)
    have d3 : yDry (yPf x ++ [64]) (ySe xs R) := yDry_app d2 yDry_64
    refine yDry_app ?_ d3
    rw [List.append_assoc]
    exact d1
theorem yRd_S (t : Tm) (ho : yOk t) : ∀ (xs : List Tm) (R : List Nat) (u : Tm), yRd t = some u → (arN (yHd t) ≤ ySp t ∨ ySp t + xs.length < arN (yHd t)) → yCl R → (∀ x, x ∈ xs → yOk x) → ∃ (pre : List Nat) (c : Nat) (as : List Tm) (post : List Nat), yPf t = pre ++ (c :: ySe as post) ∧ as.length = arN c ∧ ixL c < 6 ∧ (∀ a, a ∈ as → yOk a) ∧ yDry pre (c :: ySe as (post ++ ySe xs R)) ∧ yPf u = pre ++ (yBu as (yCo c) ++ post) := by
  induction t with
  | var c => intro xs R u h; cases h
  | op f x ihf ihx =>
    intro xs R u h hsp hR hx
    rw [yRd_op] at h
    by_cases e : ySp f + 1 = arN (yHd f)
    · rw [if_pos e] at h
      injection h with h
      subst h
      have hc := yOk_hd ho
      refine ⟨[], yHd f, yArs (.op f x), [], ?_, ?_, hc, yArs_ok ho, yDry_nil, ?_⟩
      · have := yPf_head (.op f x) []
        rw [List.append_nil] at this
        exact this
      · rw [yArs_len]; exact e
      · have := yCt_pf (t := .op f x) e hc
        rw [this, List.append_nil]; rfl
    · rw [if_neg e] at h
      have hsp2 : arN (yHd f) ≤ ySp f + 1 ∨ ySp f + 1 + xs.length < arN (yHd f) := hsp
      have hx2 : ∀ y, y ∈ x :: xs → yOk y := fun y hy => by
        rcases List.mem_cons.mp hy with rfl | hy
        · exact ho.2
        · exact hx y hy
      cases hf : yRd f with
      | some g =>
        rw [hf] at h
        injection h with h
        subst h
        obtain ⟨pre, c, as, post, e1, e2, e3, e4, e5, e6⟩ := ihf ho.1 (x :: xs) R g hf (by show _ ∨ ySp f + (xs.length + 1) < _; omega) hR hx2
        refine ⟨pre, c, as, post ++ (yPf x ++ [64]), ?_, e2, e3, e4, ?_, ?_⟩
        · show yPf f ++ (yPf x ++ [64]) = _
          rw [e1, List.append_assoc, ← ySe_r]; rfl
        · have : post ++ (yPf x ++ [64]) ++ ySe xs R = post ++ ySe (x :: xs) R := by
            rw [List.append_assoc, List.append_assoc]; rfl
          rw [this]; exact e5
        · show yPf g ++ (yPf x ++ [64]) = _
          rw [e6, List.append_assoc, List.append_assoc]
      | none =>
        cases hxx : yRd x with
        | none => rw [hf, hxx] at h; cases h
        | some y =>
          rw [hf, hxx] at h
          injection h with h
          subst h
          have hlt := yRd_sp ho.1 hf
          have hsp3 : ySp f + (xs.length + 1) < arN (yHd f) := by omega
          obtain ⟨pre, c, as, post, e1, e2, e3, e4, e5, e6⟩ := ihx ho.2 [] (64 :: ySe xs R) y hxx (by show _ ∨ ySp x + 0 < _; omega) (Or.inr ⟨_, rfl⟩) (fun y hy => by simp at hy)
          have d1 := yDry_T f ho.1 (x :: xs) R hf hsp3 hR hx2
          refine ⟨yPf f ++ pre, c, as, post ++ [64], ?_, e2, e3, e4, ?_, ?_⟩
          · show yPf f ++ (yPf x ++ [64]) = _
            rw [e1, List.append_assoc, List.append_assoc, ← ySe_r]; rfl
          · have e7 : post ++ [64] ++ ySe xs R = post ++ ySe [] (64 :: ySe xs R) := by
              rw [List.append_assoc]; rfl
            rw [e7]
            refine yDry_app ?_ e5
            have e8 : pre ++ (c :: ySe as (post ++ ySe [] (64 :: ySe xs R))) = ySe (x :: xs) R := by
              show _ = yPf x ++ (64 :: ySe xs R)
              rw [e1, List.append_assoc, ← ySe_r]; rfl
            rw [e8]
            exact d1
          · show yPf f ++ (yPf y ++ [64]) = _
            rw [e6, List.append_assoc, List.append_assoc, List.append_assoc]
theorem yFr_no {t : Tm} (ho : yOk t) (h : yRd t = none) : yFr (yPf t) 0 = none := by
  have := yDry_T t ho [] [] h (yRd_sp ho h) (Or.inl rfl) (fun y hy => by simp at hy) 0
  have e : ySe [] [] = ([] : List Nat) := rfl
  rw [e, List.append_nil] at this
  rw [this]; rfl
theorem yFr_yes {t u : Tm} (ho : yOk t) (h : yRd t = some u) : ∃ (pre : List Nat) (c : Nat) (as : List Tm) (post : List Nat), yPf t = pre ++ (c :: ySe as post) ∧ as.length = arN c ∧ ixL c < 6 ∧ (∀ a, a ∈ as → yOk a) ∧ yPf u = pre ++ (yBu as (yCo c) ++ post) ∧ yFr (yPf t) 0 = some (pre.length, yPos (pre.length + 1) as) := by
  obtain ⟨pre, c, as, post, e1, e2, e3, e4, e5, e6⟩ := yRd_S t ho [] [] u h (by show _ ∨ ySp t + 0 < _; omega) (Or.inl rfl) (fun y hy => by simp at hy)
  refine ⟨pre, c, as, post, e1, e2, e3, e4, e6, ?_⟩
  have e7 : post ++ ySe [] [] = post := by show post ++ [] = post; rw [List.append_nil]
  rw [e7] at e5
  rw [e1, e5 0, yFr_cons, if_neg (ixL_c e3).2, ← e2, yFz_full as post _ e4, Nat.zero_add]
  rfl
theorem yPos_k : ∀ (as : List Tm) (i k : Nat) (L post : List Nat), L.drop i = ySe as post → k < as.length → ∃ rest, L.drop ((yPos i as).getD k (0, 0)).1 = yPf (as.getD k (.var 0)) ++ rest ∧ ((yPos i as).getD k (0, 0)).2 = ((yPos i as).getD k (0, 0)).1 + (yPf (as.getD k (.var 0))).length ∧ i ≤ ((yPos i as).getD k (0, 0)).1 := by
  intro as
  induction as with
  | nil => intro i k L post _ h; simp at h
  | cons a as ih =>
    intro i k L post hL hk
    have hL2 : L.drop i = yPf a ++ (64 :: ySe as post) := hL
    cases k with
    | zero => exact ⟨_, hL2, rfl, Nat.le_refl _⟩
    | succ k =>
      have hd : L.drop (i + (yPf a).length + 1) = ySe as post := by
        rw [show i + (yPf a).length + 1 = i + ((yPf a).length + 1) by omega, ← List.drop_drop, hL2]
        rw [← List.drop_drop, List.drop_left]
        rfl
      obtain ⟨rest, h1, h2, h3⟩ := ih (i + (yPf a).length + 1) k L post hd (by simp at hk; omega)
      exact ⟨rest, h1, h2, by show i ≤ ((yPos (i + (yPf a).length + 1) as).getD k (0, 0)).1; omega⟩
theorem yPos_e : ∀ (as : List Tm) (i : Nat), 1 ≤ as.length → ((yPos i as).getD (as.length - 1) (0, 0)).2 + 1 = i + (ySe as []).length := by
  intro as
  induction as with
  | nil => intro i h; simp at h
  | cons a as ih =>
    intro i _
    have el : (ySe (a :: as) []).length = (yPf a).length + ((ySe as []).length + 1) := by
      show (yPf a ++ (64 :: ySe as [])).length = _
      rw [List.length_append]; rfl
    rw [el]
    cases as with
    | nil => show i + (yPf a).length + 1 = i + ((yPf a).length + (0 + 1)); omega
    | cons b as =>
      have := ih (i + (yPf a).length + 1) (by simp)
      show ((yPos (i + (yPf a).length + 1) (b :: as)).getD ((b :: as).length - 1) (0, 0)).2 + 1 = _
      omega
theorem ySe_len (as : List Tm) (r : List Nat) : (ySe as r).length = (ySe as []).length + r.length := by
  have := ySe_r as [] r
  rw [List.nil_append] at this
  rw [← this, List.length_append]
theorem yPos_len (as : List Tm) : ∀ i, (yPos i as).length = as.length := by
  induction as with
  | nil => intro i; rfl
  | cons a as ih => intro i; show (yPos _ as).length + 1 = as.length + 1; rw [ih]
-- ===== how long a term is when written =====
theorem yTl_3 (t : Tm) : (yTl t false).length + 2 ≤ 3 * yLv t := by
  induction t with
  | var c => exact Nat.le_refl 3
  | op f x ihf ihx =>
    have hx : (yTl x true).length ≤ 3 * yLv x := by
      cases x with
      | var c => show 1 ≤ 3; omega
      | op g y =>
        have e : (yTl (.op g y) true).length = (yTl (.op g y) false).length + 2 := by
          show (40 :: (yTl g false ++ (yTl y true ++ [41]))).length = (yTl g false ++ yTl y true).length + 2
          simp only [List.length_append, List.length_cons, List.length_nil]; omega
        rw [e]; exact ihx
    show (yTl f false ++ yTl x true).length + 2 ≤ 3 * (yLv f + yLv x)
    rw [List.length_append]
    omega
theorem yLv_tl (t : Tm) : ∀ b, yLv t ≤ (yTl t b).length := by
  induction t with
  | var c => intro b; exact Nat.le_refl 1
  | op f x ihf ihx =>
    intro b
    have h1 := ihf false
    have h2 := ihx true
    show yLv f + yLv x ≤ (if b = true then 40 :: (yTl f false ++ (yTl x true ++ [41])) else yTl f false ++ yTl x true).length
    split <;> simp only [List.length_append, List.length_cons, List.length_nil] <;> omega
def yPr : List Nat → Bool → Nat
  | [], _ => 0
  | c :: r, p => if c = 64 then (if p = true then 2 else 0) + yPr r true else 1 + yPr r false
theorem yPr_64 {r : List Nat} {p : Bool} : yPr (64 :: r) p = (if p = true then 2 else 0) + yPr r true := rfl
theorem yPr_c {c : Nat} {r : List Nat} {p : Bool} (h : c ≠ 64) : yPr (c :: r) p = 1 + yPr r false := by
  show (if c = 64 then _ else _) = _
  rw [if_neg h]
def yIs : Tm → Bool
  | .var _ => false
  | .op _ _ => true
theorem yPr_pf (t : Tm) (ho : yOk t) : ∀ (r : List Nat) (p : Bool), yPr (yPf t ++ r) p = (yTl t false).length + yPr r (yIs t) := by
  induction t with
  | var c =>
    intro r p
    show yPr (c :: r) p = 1 + yPr r false
    exact yPr_c (ixL_c ho).2
  | op f x ihf ihx =>
    intro r p
    have e : yPf (.op f x) ++ r = yPf f ++ (yPf x ++ (64 :: r)) := by
      show (yPf f ++ (yPf x ++ [64])) ++ r = _
      rw [List.append_assoc, List.append_assoc]; rfl
    have el : (yTl (.op f x) false).length = (yTl f false).length + (yTl x true).length := by
      show (yTl f false ++ yTl x true).length = _
      rw [List.length_append]
    have e2 : (yTl x true).length = (yTl x false).length + (if yIs x = true then 2 else 0) := by
      cases x with
      | var c => rfl
      | op g y =>
        show (40 :: (yTl g false ++ (yTl y true ++ [41]))).length = (yTl g false ++ yTl y true).length + 2
        simp only [List.length_append, List.length_cons, List.length_nil]; omega
    rw [e, ihf ho.1, ihx ho.2, yPr_64, el, e2]
    show _ = _ + yPr r true
    omega
theorem yPr_ps : ∀ (cs : List Nat) (bs : List Bool) (p : Bool), (∀ c, c ∈ cs → c ≠ 64) → yPr (ps bs cs) p + 1 ≤ cs.length + bs.length + (if bs = [] then 1 else 0) := by
  intro cs
  induction cs with
  | nil => intro bs p _; rw [ps_nil]; cases bs <;> simp [yPr]
  | cons c cs ih =>
    intro bs p hc
    have hc1 : c ≠ 64 := hc c (by simp)
    have hc2 : ∀ c, c ∈ cs → c ≠ 64 := fun d hd => hc d (by simp [hd])
    cases bs with
    | nil => show 0 + 1 ≤ _; simp
    | cons b bs =>
      by_cases h1 : c = 40
      · subst h1
        rw [ps_open]
        have := ih (false :: b :: bs) p hc2
        simp at this ⊢; omega
      · by_cases h2 : c = 41
        · subst h2
          cases bs with
          | nil => show 0 + 1 ≤ _; simp
          | cons b2 bs2 =>
            rw [ps_close]
            split
            · rw [yPr_64]
              have := ih (true :: bs2) true hc2
              simp at this ⊢
              split <;> omega
            · have := ih (true :: bs2) p hc2
              simp at this ⊢; omega
        · rw [ps_let h1 h2, yPr_c hc1]
          split
          · rw [yPr_64]
            have := ih (true :: bs) true hc2
            simp at this ⊢; omega
          · have := ih (true :: bs) false hc2
            simp at this ⊢; omega
-- ===== the stream of signs as a term =====
def yEx : List Nat → List Tm → List Tm
  | [], st => st
  | c :: cs, st => if c = 64 then (match st with
    | a :: b :: r => yEx cs (.op b a :: r)
    | st => yEx cs st) else yEx cs (.var c :: st)
theorem yEx_app {cs : List Nat} {a b : Tm} {r : List Tm} : yEx (64 :: cs) (a :: b :: r) = yEx cs (.op b a :: r) := rfl
theorem yEx_let {cs : List Nat} {c : Nat} {st : List Tm} (h : c ≠ 64) : yEx (c :: cs) st = yEx cs (.var c :: st) := by
  show (if c = 64 then _ else _) = _
  rw [if_neg h]
def yFl : List Tm → List Nat
  | [] => []
  | t :: st => yFl st ++ yPf t
theorem yEx_ok : ∀ (cs : List Nat) (st : List Tm), hk st.length cs → (∀ t, t ∈ st → yOk t) → ∃ t, yEx cs st = [t] ∧ yOk t ∧ yFl st ++ cs = yPf t := by
  intro cs
  induction cs with
  | nil =>
    intro st h ho
    obtain ⟨t, rfl⟩ := one_getD (show st.length = 1 from h)
    exact ⟨t, rfl, ho t (by simp), by show ([] ++ yPf t) ++ [] = yPf t; simp⟩
  | cons c cs ih =>
    intro st h ho
    by_cases e : c = 64
    · subst e
      rw [hk_app] at h
      rcases st with _ | ⟨a, _ | ⟨b, r⟩⟩
      · have := h.1; simp at this
      · have := h.1; simp at this
      · rw [yEx_app]
        obtain ⟨t, h1, h2, h3⟩ := ih (.op b a :: r) (by have := h.2; simpa using this) (fun t ht => by
          rcases List.mem_cons.mp ht with rfl | ht
          · exact ⟨ho b (by simp), ho a (by simp)⟩
          · exact ho t (by simp [ht]))
        refine ⟨t, h1, h2, ?_⟩
        rw [← h3]
        show ((yFl r ++ yPf b) ++ yPf a) ++ (64 :: cs) = (yFl r ++ (yPf b ++ (yPf a ++ [64]))) ++ cs
        simp only [List.append_assoc]; rfl
    · rw [hk_let e] at h
      rw [yEx_let e]
      obtain ⟨t, h1, h2, h3⟩ := ih (.var c :: st) (by simpa using h.2.2) (fun t ht => by
        rcases List.mem_cons.mp ht with rfl | ht
        · exact h.2.1
        · exact ho t ht)
      refine ⟨t, h1, h2, ?_⟩
      rw [← h3]
      show yFl st ++ (c :: cs) = (yFl st ++ [c]) ++ cs
      rw [List.append_assoc]; rfl
end
