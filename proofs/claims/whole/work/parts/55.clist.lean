section
theorem i10 : ¬ (1 : Int32) = 0 := by decide
-- ===== loops: so many steps are left =====
theorem walk {S β : Type} {l : Nat → S → Option β} {J : Nat → S → Prop} {Q : β → Prop} (h : ∀ f r s, J (r + 1) s → (∃ s2, J r s2 ∧ l (f + 1) s = l f s2) ∨ ∃ b, l (f + 1) s = some b ∧ Q b) (h0 : ∀ f s, J 0 s → ∃ b, l (f + 1) s = some b ∧ Q b) : ∀ (r f : Nat) (s : S), r < f → J r s → ∃ b, l f s = some b ∧ Q b := by
  intro r
  induction r with
  | zero =>
    intro f s hf hj
    obtain ⟨f, rfl⟩ : ∃ g, f = g + 1 := ⟨f - 1, by omega⟩
    exact h0 f s hj
  | succ r ih =>
    intro f s hf hj
    obtain ⟨f, rfl⟩ : ∃ g, f = g + 1 := ⟨f - 1, by omega⟩
    rcases h f r s hj with ⟨s2, h1, h2⟩ | h1
    · rw [h2]; exact ih f s2 (by omega) h1
    · exact h1
def fstF (p : Nat → Bool) : Nat → Nat → Nat
  | 0, k => k
  | n + 1, k => if p k = true then k else fstF p n (k + 1)
theorem fstF_le (p : Nat → Bool) : ∀ (n k : Nat), k ≤ fstF p n k ∧ fstF p n k ≤ k + n := by
  intro n
  induction n with
  | zero => intro k; exact ⟨Nat.le_refl _, Nat.le_refl _⟩
  | succ n ih =>
    intro k
    unfold fstF
    have := ih (k + 1)
    split <;> omega
theorem fstF_congr {p q : Nat → Bool} : ∀ (n k : Nat), (∀ j, k ≤ j → j < k + n → p j = q j) → fstF p n k = fstF q n k := by
  intro n
  induction n with
  | zero => intro k _; rfl
  | succ n ih =>
    intro k h
    unfold fstF
    rw [h k (by omega) (by omega), ih (k + 1) (fun j h1 h2 => h j (by omega) (by omega))]
theorem fstF_hit {p : Nat → Bool} : ∀ (n k : Nat), fstF p n k < k + n → p (fstF p n k) = true := by
  intro n
  induction n with
  | zero => intro k h; have := (fstF_le p 0 k).1; omega
  | succ n ih =>
    intro k h
    unfold fstF at h ⊢
    by_cases e : p k = true
    · rw [if_pos e]; exact e
    · rw [if_neg e] at h ⊢
      exact ih (k + 1) (by omega)
theorem fstF_miss {p : Nat → Bool} : ∀ (n k j : Nat), k ≤ j → j < fstF p n k → p j = false := by
  intro n
  induction n with
  | zero => intro k j h1 h2; unfold fstF at h2; omega
  | succ n ih =>
    intro k j h1 h2
    unfold fstF at h2
    by_cases e : p k = true
    · rw [if_pos e] at h2; omega
    · rw [if_neg e] at h2
      by_cases ej : j = k
      · rw [ej]; simpa using e
      · exact ih (k + 1) j (by omega) h2
-- ===== proofs in the list =====
def rcF {β : Type} (ax : Nat → β) (op : β → β → β) (en : Nat → Option (Nat × Nat)) : Nat → Nat → β
  | 0, i => ax i
  | f + 1, i => match en i with
    | none => ax i
    | some p => op (rcF ax op en f p.1) (rcF ax op en f p.2)
def RC {β : Type} (ax : Nat → β) (op : β → β → β) (en : Nat → Option (Nat × Nat)) (i : Nat) : β := rcF ax op en (i + 1) i
def enOK (en : Nat → Option (Nat × Nat)) (n : Nat) : Prop := ∀ i a b, i < n → en i = some (a, b) → a < i ∧ b < i
theorem rcF_eq {β : Type} {ax : Nat → β} {op : β → β → β} {en en2 : Nat → Option (Nat × Nat)} {n : Nat} (h : enOK en n) (he : ∀ j, j < n → en2 j = en j) : ∀ (f g i : Nat), i < n → i < f → i < g → rcF ax op en f i = rcF ax op en2 g i := by
  intro f
  induction f with
  | zero => intro g i _ h1; omega
  | succ f ih =>
    intro g i h1 h2 h3
    obtain ⟨g, rfl⟩ : ∃ z, g = z + 1 := ⟨g - 1, by omega⟩
    unfold rcF
    rw [he i h1]
    cases hi : en i with
    | none => rfl
    | some p =>
      obtain ⟨a, b⟩ := p
      obtain ⟨q1, q2⟩ := h i a b h1 hi
      show op _ _ = op _ _
      rw [ih g a (by omega) (by omega) (by omega), ih g b (by omega) (by omega) (by omega)]
theorem RC_none {β : Type} {ax : Nat → β} {op : β → β → β} {en : Nat → Option (Nat × Nat)} {i : Nat} (h : en i = none) : RC ax op en i = ax i := by
  unfold RC rcF; rw [h]
theorem RC_some {β : Type} {ax : Nat → β} {op : β → β → β} {en : Nat → Option (Nat × Nat)} {n i a b : Nat} (h : enOK en n) (hi : i < n) (e : en i = some (a, b)) : RC ax op en i = op (RC ax op en a) (RC ax op en b) := by
  obtain ⟨q1, q2⟩ := h i a b hi e
  unfold RC
  conv => lhs; unfold rcF
  rw [e]
  show op _ _ = op _ _
  rw [rcF_eq h (fun _ _ => rfl) i (a + 1) a (by omega) (by omega) (by omega), rcF_eq h (fun _ _ => rfl) i (b + 1) b (by omega) (by omega) (by omega)]
theorem RC_congr {β : Type} {ax : Nat → β} {op : β → β → β} {en en2 : Nat → Option (Nat × Nat)} {n i : Nat} (h : enOK en n) (he : ∀ j, j < n → en2 j = en j) (hi : i < n) : RC ax op en2 i = RC ax op en i := (rcF_eq h he (i + 1) (i + 1) i hi (by omega) (by omega)).symm
def rDep (en : Nat → Option (Nat × Nat)) (i : Nat) : Nat := RC (fun _ => 0) (fun a b => 1 + max a b) en i
def rLast (en : Nat → Option (Nat × Nat)) (i : Nat) : Nat := RC (fun i => i) (fun a b => max a b) en i
def rSig (en : Nat → Option (Nat × Nat)) (i : Nat) : Nat := RC (fun _ => 0) (fun a b => 1 + a + b) en i
theorem RC_bnd {β : Type} {ax : Nat → β} {op : β → β → β} {en : Nat → Option (Nat × Nat)} {n : Nat} (B : Nat → β → Prop) (h : enOK en n) (h0 : ∀ i, i < n → B i (ax i)) (h1 : ∀ i a b x y, i < n → a < i → b < i → B a x → B b y → B i (op x y)) : ∀ (k i : Nat), i < k → i < n → B i (RC ax op en i) := by
  intro k
  induction k with
  | zero => intro i h; omega
  | succ k ih =>
    intro i hk hi
    cases he : en i with
    | none => rw [RC_none he]; exact h0 i hi
    | some p =>
      obtain ⟨a, b⟩ := p
      obtain ⟨q1, q2⟩ := h i a b hi he
      rw [RC_some h hi he]
      exact h1 i a b _ _ hi q1 q2 (ih a (by omega) (by omega)) (ih b (by omega) (by omega))
theorem rDep_le {en : Nat → Option (Nat × Nat)} {n i : Nat} (h : enOK en n) (hi : i < n) : rDep en i ≤ i := RC_bnd (fun i x => x ≤ i) h (fun _ _ => Nat.zero_le _) (fun i a b x y _ h1 h2 h3 h4 => by omega) (i + 1) i (by omega) hi
theorem rLast_le {en : Nat → Option (Nat × Nat)} {n i : Nat} (h : enOK en n) (hi : i < n) : rLast en i ≤ i := RC_bnd (fun i x => x ≤ i) h (fun _ _ => Nat.le_refl _) (fun i a b x y _ h1 h2 h3 h4 => by omega) (i + 1) i (by omega) hi
theorem rSig_lt {en : Nat → Option (Nat × Nat)} {n i : Nat} (h : enOK en n) (hi : i < n) : rSig en i + 1 ≤ 2 ^ i := RC_bnd (fun i x => x + 1 ≤ 2 ^ i) h (fun i _ => Nat.one_le_two_pow) (fun i a b x y _ h1 h2 h3 h4 => by
  have e1 : 2 ^ a ≤ 2 ^ (i - 1) := Nat.pow_le_pow_right (by omega) (by omega)
  have e2 : 2 ^ b ≤ 2 ^ (i - 1) := Nat.pow_le_pow_right (by omega) (by omega)
  have e3 : 2 ^ i = 2 ^ (i - 1) + 2 ^ (i - 1) := by
    obtain ⟨j, rfl⟩ : ∃ j, i = j + 1 := ⟨i - 1, by omega⟩
    rw [Nat.add_sub_cancel, Nat.pow_succ]; omega
  omega) (i + 1) i (by omega) hi
-- ===== what is entered =====
def okL (n : Nat) (fo : Nat → Tm) (en : Nat → Option (Nat × Nat)) : Prop := n ≤ 60 ∧ enOK en n ∧ ∀ i, i < n → okF (fo i)
def sameT (a b : Tm) : Bool := decide (pol a = pol b)
theorem sameT_iff {a b : Tm} (ha : bel 99 a) (hb : bel 99 b) : sameT a b = true ↔ a = b := by
  unfold sameT
  rw [decide_eq_true_eq]
  exact ⟨fun h => pol_inj0 ha hb h, fun h => by rw [h]⟩
def mjv (e : Option (Nat × Nat)) : Int32 := match e with
  | none => -4
  | some p => nI p.1
def mnv (e : Option (Nat × Nat)) : Int32 := match e with
  | none => -4
  | some p => nI p.2
def setN {α : Type} (f : Nat → α) (n : Nat) (v : α) : Nat → α := fun j => if j = n then v else f j
theorem setN_eq {α : Type} {f : Nat → α} {n : Nat} {v : α} : setN f n v n = v := if_pos rfl
theorem setN_ne {α : Type} {f : Nat → α} {n j : Nat} {v : α} (h : j ≠ n) : setN f n v j = f j := if_neg h
def plc (n : Nat) (fo : Nat → Tm) (t : Tm) : Nat := fstF (fun i => sameT (fo i) t) n 0
def entA (n : Nat) (fo : Nat → Tm) (t : Tm) : Int32 := if plc n fo t < n then nI (plc n fo t) else if n < 60 then nI n else -3
def entN (n : Nat) (fo : Nat → Tm) (t : Tm) : Nat := if plc n fo t < n then n else if n < 60 then n + 1 else n
theorem okL_ent {n : Nat} {fo : Nat → Tm} {en : Nat → Option (Nat × Nat)} {t : Tm} {e : Option (Nat × Nat)} (h : okL n fo en) (ht : okF t) (he : ∀ a b, e = some (a, b) → a < n ∧ b < n) : okL (entN n fo t) (setN fo n t) (setN en n e) := by
  obtain ⟨h1, h2, h3⟩ := h
  have hn : entN n fo t ≤ n + 1 ∧ entN n fo t ≤ 60 := by unfold entN; split <;> (try split) <;> omega
  refine ⟨hn.2, fun i a b hi hs => ?_, fun i hi => ?_⟩
  · by_cases e1 : i = n
    · subst e1; rw [setN_eq] at hs; exact he a b hs
    · rw [setN_ne e1] at hs; exact h2 i a b (by omega) hs
  · by_cases e1 : i = n
    · subst e1; rw [setN_eq]; exact ht
    · rw [setN_ne e1]; exact h3 i (by omega)
def CLs (I : Nat → Nat → Int32) (L : Nat → Nat → Int64) (n : Nat) (fo : Nat → Tm) (en : Nat → Option (Nat × Nat)) : Prop := I 5 6 = nI n ∧ ∀ i, i < n → CFm I (12 + 2 * i) (fo i) ∧ I 7 i = mjv (en i) ∧ I 8 i = mnv (en i) ∧ I 9 i = nI (rDep en i) ∧ I 10 i = nI (rLast en i) ∧ L 11 i = Int64.ofNat (rSig en i)
theorem XS.ls {K N : Nat → Nat} {R : Nat → Nat → Option Nat} (h : XS K N R) : xsL K N R := h.2.2.1
theorem XS.lf {K N : Nat → Nat} {R : Nat → Nat → Option Nat} (h : XS K N R) {i : Nat} (hi : i < 60) : FmS K N R (12 + 2 * i) ∧ R 6 i = some (12 + 2 * i) := by
  obtain ⟨-, -, -, -, -, -, -, -, -, -, -, -, -, -, -, -, -, -, -, h2⟩ := h.ls
  obtain ⟨a1, a2, a3, a4, a5⟩ := h2 i hi
  exact ⟨⟨a1, a2, a3, a4⟩, a5⟩
theorem cS_inj {a b : Nat} (ha : a < 2 ^ 20) (hb : b < 2 ^ 20) (h : cS a = cS b) : a = b := by
  by_cases h1 : a = 99
  · by_cases h2 : b = 99
    · omega
    · rw [h1, cS_n h2] at h
      exact absurd h.symm (nI_ng (by omega))
  · by_cases h2 : b = 99
    · rw [h2, cS_n h1] at h
      exact absurd h (nI_ng (by omega))
    · rw [cS_n h1, cS_n h2] at h
      exact (nI_eq (by omega) (by omega)).mp h
theorem pol_lt {t : Tm} (h : bel 99 t) (i : Nat) : (pol t).getD i 0 < 100 := by
  by_cases hi : i < (pol t).length
  · rcases pol_mem (mem_getD hi) with e | e
    · omega
    · have := h _ e; omega
  · rw [List.getD_eq_getElem?_getD, List.getElem?_eq_none (by omega)]
    decide
-- ===== two rows of signs =====
theorem c_sameSigns {m : qM} {f1 f2 s1 s2 c : Nat} (F1 : FmS (qK m) (qN m) (qR m) f1) (F2 : FmS (qK m) (qN m) (qR m) f2) (h1 : s1 + c ≤ 39) (h2 : s2 + c ≤ 39) : ((∀ i, i < c → qI m (f1 + 1) (s1 + i) = qI m (f2 + 1) (s2 + i)) → fX0_sameSigns NF f1 (nI s1) f2 (nI s2) (nI c) m = some (1, m)) ∧ ((∃ i, i < c ∧ ¬ qI m (f1 + 1) (s1 + i) = qI m (f2 + 1) (s2 + i)) → fX0_sameSigns NF f1 (nI s1) f2 (nI s2) (nI c) m = some (0, m)) := by
  obtain ⟨k0, r0, k1, n1⟩ := F1
  obtain ⟨k2, r2, k3, n3⟩ := F2
  have stop : ∀ f, lX0_sameSigns_3 NF f1 (nI s1) f2 (nI s2) (nI c) (f + 1) (nI c) m = some (.inl m) := by
    intro f
    unfold lX0_sameSigns_3
    refine EIp ((nI_leI (by omega) (by omega)).mpr (Nat.le_refl _)) ?_
    rfl
  have go : ∀ f k, k < c → lX0_sameSigns_3 NF f1 (nI s1) f2 (nI s2) (nI c) (f + 1) (nI k) m = if qI m (f1 + 1) (s1 + k) = qI m (f2 + 1) (s2 + k) then lX0_sameSigns_3 NF f1 (nI s1) f2 (nI s2) (nI c) f (nI (k + 1)) m else some (.inr (0, m)) := by
    intro f k hk
    conv => lhs; unfold lX0_sameSigns_3
    refine EIn (fun z => by have := (nI_leI (by omega) (by omega)).mp z; omega) ?_
    refine EgR k0 r0 ?_
    refine EaI k1 (nI_add _ _) (by omega) (by omega) rfl ?_
    refine EgR k2 r2 ?_
    refine EaI k3 (nI_add _ _) (by omega) (by omega) rfl ?_
    rw [nI_s]
  constructor
  · intro h
    obtain ⟨b, e1, e2⟩ := walk (l := fun f (k : Int32) => lX0_sameSigns_3 NF f1 (nI s1) f2 (nI s2) (nI c) f k m) (J := fun r s => ∃ k, k + r = c ∧ s = nI k) (Q := fun b => b = .inl m) (fun f r s hj => by
      obtain ⟨k, hk, rfl⟩ := hj
      refine Or.inl ⟨nI (k + 1), ⟨k + 1, by omega, rfl⟩, ?_⟩
      show lX0_sameSigns_3 NF f1 (nI s1) f2 (nI s2) (nI c) (f + 1) (nI k) m = _
      rw [go f k (by omega), if_pos (h k (by omega))]) (fun f s hj => by
      obtain ⟨k, hk, rfl⟩ := hj
      obtain rfl : k = c := by omega
      exact ⟨_, stop f, rfl⟩) c NF (nI 0) (by unfold NF; omega) ⟨0, by omega, rfl⟩
    subst e2
    unfold fX0_sameSigns
    rw [show lX0_sameSigns_3 NF f1 (nI s1) f2 (nI s2) (nI c) NF 0 m = some (.inl m) from e1]
    rfl
  · intro h
    obtain ⟨i0, hi0, hne⟩ := h
    obtain ⟨b, e1, e2⟩ := walk (l := fun f (k : Int32) => lX0_sameSigns_3 NF f1 (nI s1) f2 (nI s2) (nI c) f k m) (J := fun r s => ∃ k, k + r = i0 ∧ s = nI k) (Q := fun b => b = .inr (0, m)) (fun f r s hj => by
      obtain ⟨k, hk, rfl⟩ := hj
      have hg := go f k (by omega)
      by_cases e : qI m (f1 + 1) (s1 + k) = qI m (f2 + 1) (s2 + k)
      · rw [if_pos e] at hg
        exact Or.inl ⟨nI (k + 1), ⟨k + 1, by omega, rfl⟩, hg⟩
      · rw [if_neg e] at hg
        exact Or.inr ⟨_, hg, rfl⟩) (fun f s hj => by
      obtain ⟨k, hk, rfl⟩ := hj
      obtain rfl : k = i0 := by omega
      have hg := go f k hi0
      rw [if_neg hne] at hg
      exact ⟨_, hg, rfl⟩) i0 NF (nI 0) (by unfold NF; omega) ⟨0, by omega, rfl⟩
    subst e2
    unfold fX0_sameSigns
    rw [show lX0_sameSigns_3 NF f1 (nI s1) f2 (nI s2) (nI c) NF 0 m = some (.inr (0, m)) from e1]
    rfl
theorem list_ext_getD {a b : List Nat} (hl : a.length = b.length) (h : ∀ i, i < a.length → a.getD i 0 = b.getD i 0) : a = b := by
  apply List.ext_getElem hl
  intro i h1 h2
  have := h i h1
  rw [List.getD_eq_getElem?_getD, List.getD_eq_getElem?_getD, List.getElem?_eq_getElem h1, List.getElem?_eq_getElem h2] at this
  exact this
theorem c_sameAs {m : qM} {f1 f2 : Nat} {t1 t2 : Tm} (F1 : FmS (qK m) (qN m) (qR m) f1) (F2 : FmS (qK m) (qN m) (qR m) f2) (C1 : CFm (qI m) f1 t1) (C2 : CFm (qI m) f2 t2) (b1 : bel 99 t1) (b2 : bel 99 t2) : fX0_sameAs NF f1 f2 m = some (if sameT t1 t2 = true then 1 else 0, m) := by
  obtain ⟨c1, c2, c3, c4⟩ := C1
  obtain ⟨d1, d2, d3, d4⟩ := C2
  have k0 := F1.1
  have k2 := F2.1
  unfold fX0_sameAs
  by_cases hs : tS t1 = tS t2
  · obtain ⟨y1, y2⟩ := c_sameSigns (s1 := 0) (s2 := 0) (c := tS t1) F1 F2 (by omega) (by omega)
    by_cases e : sameT t1 t2 = true
    · have et := (sameT_iff b1 b2).mp e
      have hy := y1 (fun i hi => by rw [Nat.zero_add, c4 i hi, d4 i (by omega), et])
      rw [if_pos e]
      refine EgI k0 c1 ?_
      refine EgI k2 d1 ?_
      refine EIp (by rw [hs]) ?_
      refine EgI k0 c1 ?_
      refine EC k0 hy ?_
      refine EIn i10 ?_
      rfl
    · have hno : ∃ i, i < tS t1 ∧ ¬ qI m (f1 + 1) (0 + i) = qI m (f2 + 1) (0 + i) := by
        apply Classical.byContradiction
        intro hno
        apply e
        rw [sameT_iff b1 b2]
        apply pol_inj0 b1 b2
        apply list_ext_getD (by rw [pol_len, pol_len, hs])
        intro i hi
        rw [pol_len] at hi
        have : qI m (f1 + 1) (0 + i) = qI m (f2 + 1) (0 + i) := Classical.byContradiction (fun z => hno ⟨i, hi, z⟩)
        rw [Nat.zero_add, c4 i hi, d4 i (by omega)] at this
        have p1 := pol_lt b1 i
        have p2 := pol_lt b2 i
        exact cS_inj (by omega) (by omega) this
      have hy := y2 hno
      rw [if_neg e]
      refine EgI k0 c1 ?_
      refine EgI k2 d1 ?_
      refine EIp (by rw [hs]) ?_
      refine EgI k0 c1 ?_
      refine EC k0 hy ?_
      refine EIp rfl ?_
      rfl
  · have e : ¬ sameT t1 t2 = true := fun z => hs (by rw [(sameT_iff b1 b2).mp z])
    rw [if_neg e]
    refine EgI k0 c1 ?_
    refine EgI k2 d1 ?_
    refine EIn (fun z => hs ((nI_eq (by omega) (by omega)).mp z)) ?_
    rfl
theorem c_copy {m : qM} {f1 f2 : Nat} {t : Tm} (F1 : FmS (qK m) (qN m) (qR m) f1) (F2 : FmS (qK m) (qN m) (qR m) f2) (C2 : CFm (qI m) f2 t) (hne : f1 + 1 < f2 ∨ f2 + 1 < f1) : ∃ m2, fX0_copyFrom NF f1 f2 m = some m2 ∧ Fx (dF f1) m m2 ∧ CFm (qI m2) f1 t := by
  obtain ⟨k0, r0, k1, n1⟩ := F1
  obtain ⟨k2, r2, k3, n3⟩ := F2
  obtain ⟨d1, d2, d3, d4⟩ := C2
  have hcl : (nI (tS t)).toNatClampNeg = tS t := nI_clamp (by omega)
  have e0 : (0 : Int32).toNatClampNeg = 0 := rfl
  have hcp : qcpy m (f2 + 1) 0 (f1 + 1) 0 (nI (tS t)) = some (qsA m (f1 + 1) (va_cpy (qI m (f2 + 1)) (qI m (f1 + 1)) 0 0 (tS t))) := by
    unfold qcpy
    rw [hcl, e0, if_pos ⟨k3, k1, ⟨by decide, by decide, nI_pos (by omega)⟩, by omega, by omega⟩]
  let m1 := qsA m (f1 + 1) (va_cpy (qI m (f2 + 1)) (qI m (f1 + 1)) 0 0 (tS t))
  have g1 : qI m1 f2 1 = nI (tS t) := by simp only [m1, qS]; rw [if_neg (by omega)]; exact d1
  have g2 : qI (qsI m1 f1 1 (nI (tS t))) f2 2 = nI (nv t) := by simp only [m1, qS]; rw [if_neg (by omega), if_neg (by omega)]; exact d2
  refine ⟨qsI (qsI m1 f1 1 (nI (tS t))) f1 2 (nI (nv t)), ?_, ((Fx.rf.sA (Or.inr rfl)).sI (Or.inl rfl)).sI (Or.inl rfl), by simp [qS], by simp [qS], d3, fun i hi => ?_⟩
  · unfold fX0_copyFrom
    refine EgR k2 r2 ?_
    refine EgR k0 r0 ?_
    refine EgI k2 d1 ?_
    refine EB hcp ?_
    refine EgI (show qK m1 f2 = 0 from k2) g1 ?_
    refine EpI (show qK m1 f1 = 0 from k0) rfl ?_
    refine EgI (show qK (qsI m1 f1 1 (nI (tS t))) f2 = 0 from k2) g2 ?_
    refine EpI (show qK (qsI m1 f1 1 (nI (tS t))) f1 = 0 from k0) rfl ?_
    rfl
  · simp only [m1, qS]
    rw [if_neg (by omega), if_neg (by omega), if_pos trivial]
    unfold va_cpy
    rw [if_pos (by omega), Nat.zero_add, Nat.sub_zero]
    exact d4 i hi
end
