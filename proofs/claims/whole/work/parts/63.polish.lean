section
-- ===== texts in Polish notation =====
def pE (B lo hi : Nat) : Nat → Nat → List Nat → Option Nat
  | due, pos, [] => if due = 0 then none else some pos
  | due, pos, c :: cs => if due = 0 then some pos else if lo ≤ c ∧ c ≤ hi then pE B lo hi (due - 1) (pos + 1) cs else if c = B then pE B lo hi (due + 1) (pos + 1) cs else some pos
def cd (B lo : Nat) (c : Nat) : Nat := if c = B then 99 else c - lo
theorem pE_nil {B lo hi due pos : Nat} : pE B lo hi due pos [] = if due = 0 then none else some pos := rfl
theorem pE_cons {B lo hi due pos c : Nat} {cs : List Nat} : pE B lo hi due pos (c :: cs) = if due = 0 then some pos else if lo ≤ c ∧ c ≤ hi then pE B lo hi (due - 1) (pos + 1) cs else if c = B then pE B lo hi (due + 1) (pos + 1) cs else some pos := rfl
theorem pE_len {B lo hi : Nat} : ∀ (cs : List Nat) (due pos p : Nat), pE B lo hi due pos cs = some p → pos ≤ p ∧ p ≤ pos + cs.length := by
  intro cs
  induction cs with
  | nil =>
    intro due pos p h
    unfold pE at h
    by_cases e : due = 0
    · rw [if_pos e] at h; cases h
    · rw [if_neg e] at h; injection h with h; simp; omega
  | cons c cs ih =>
    intro due pos p h
    unfold pE at h
    by_cases e : due = 0
    · rw [if_pos e] at h; injection h with h; simp; omega
    · rw [if_neg e] at h
      by_cases e2 : lo ≤ c ∧ c ≤ hi
      · rw [if_pos e2] at h
        have := ih _ _ _ h
        simp; omega
      · rw [if_neg e2] at h
        by_cases e3 : c = B
        · rw [if_pos e3] at h
          have := ih _ _ _ h
          simp; omega
        · rw [if_neg e3] at h; injection h with h; simp; omega
theorem pE_tree {B lo hi : Nat} (hB : ¬ (lo ≤ B ∧ B ≤ hi)) : ∀ (cs : List Nat) (due pos : Nat), pE B lo hi due pos cs = none → ∃ ts : List Tm, ts.length = due ∧ cs.map (cd B lo) = (ts.map pol).flatten ∧ ∀ t, t ∈ ts → bel (hi + 1 - lo) t := by
  intro cs
  induction cs with
  | nil =>
    intro due pos h
    unfold pE at h
    by_cases e : due = 0
    · exact ⟨[], by simp [e], rfl, fun t ht => by simp at ht⟩
    · rw [if_neg e] at h; cases h
  | cons c cs ih =>
    intro due pos h
    unfold pE at h
    by_cases e : due = 0
    · rw [if_pos e] at h; cases h
    · rw [if_neg e] at h
      by_cases e2 : lo ≤ c ∧ c ≤ hi
      · rw [if_pos e2] at h
        obtain ⟨ts, h1, h2, h3⟩ := ih _ _ h
        refine ⟨.var (c - lo) :: ts, by simp; omega, ?_, fun t ht => ?_⟩
        · have hcB : ¬ c = B := fun z => hB (z ▸ e2)
          simp only [List.map_cons, List.flatten_cons, pol, h2, cd, hcB, ↓reduceIte]
          rfl
        · rcases List.mem_cons.mp ht with rfl | ht
          · exact bel_var.mpr (by omega)
          · exact h3 t ht
      · rw [if_neg e2] at h
        by_cases e3 : c = B
        · rw [if_pos e3] at h
          obtain ⟨ts, h1, h2, h3⟩ := ih _ _ h
          match ts, h1, h2, h3 with
          | [], h1, _, _ => simp at h1
          | [_], h1, _, _ => simp at h1; omega
          | a :: b :: ts, h1, h2, h3 =>
            refine ⟨.op a b :: ts, by simp at h1 ⊢; omega, ?_, fun t ht => ?_⟩
            · simp only [List.map_cons, List.flatten_cons, pol, h2, cd, e3, ↓reduceIte, List.cons_append, List.append_assoc]
            · rcases List.mem_cons.mp ht with rfl | ht
              · exact bel_op.mpr ⟨h3 a (by simp), h3 b (by simp)⟩
              · exact h3 t (by simp [ht])
        · rw [if_neg e3] at h; cases h
noncomputable def pT (B lo : Nat) (tx : List Nat) : Tm := Classical.epsilon (fun t => pol t = tx.map (cd B lo) ∧ bel 99 t)
theorem pT_pol {B lo hi : Nat} {tx : List Nat} (hB : ¬ (lo ≤ B ∧ B ≤ hi)) (h26 : hi + 1 - lo ≤ 99) (h : pE B lo hi 1 0 tx = none) : pol (pT B lo tx) = tx.map (cd B lo) ∧ bel (hi + 1 - lo) (pT B lo tx) := by
  obtain ⟨ts, h1, h2, h3⟩ := pE_tree hB tx 1 0 h
  match ts, h1, h2, h3 with
  | [t], _, h2, h3 =>
    have e : pol t = tx.map (cd B lo) := by rw [h2]; simp
    have hb : bel (hi + 1 - lo) t := h3 t (by simp)
    have hs := Classical.epsilon_spec (p := fun t => pol t = tx.map (cd B lo) ∧ bel 99 t) ⟨t, e, bel_mono hb h26⟩
    have : pT B lo tx = t := pol_inj0 hs.2 (bel_mono hb h26) (hs.1.trans e.symm)
    rw [this]
    exact ⟨e, hb⟩
def erI (z : Option Nat) : Int32 := match z with
  | none => -1
  | some p => nI p
theorem drop_cons {l : List Nat} {k : Nat} (h : k < l.length) : l.drop k = l.getD k 0 :: l.drop (k + 1) := by
  rw [List.drop_eq_getElem_cons h, List.getD_eq_getElem?_getD, List.getElem?_eq_getElem h]
  rfl
theorem c_polish {m : qM} {tx : List Nat} {B lo hi : Nat} (hX : XS (qK m) (qN m) (qR m)) (hT : CTx (qI m) 1 tx) (hl : tx.length ≤ 80) (hB : B < 1000) (hlo : lo < 1000) (hhi : hi < 1000) (hBl : ¬ (lo ≤ B ∧ B ≤ hi)) : fX9_polishError NF 0 (nI B) (nI lo) (nI hi) m = some (erI (pE B lo hi 1 0 tx), m) := by
  obtain ⟨k0, r00, r01, r02, -⟩ := hX.c0
  have k1 := hX.t1.1
  have hlen : fX7_length NF 1 m = some (nI tx.length, m) := by rw [fX7_length_eq k1, hT.1]
  have go : ∀ g d k, k < tx.length → d < 200 → lX9_polishError_6 NF 0 (nI B) (nI lo) (nI hi) (g + 1) (nI d) (nI k) m = if d = 0 then some (.inr (nI k, m)) else if lo ≤ tx.getD k 0 ∧ tx.getD k 0 ≤ hi then lX9_polishError_6 NF 0 (nI B) (nI lo) (nI hi) g (nI (d - 1)) (nI (k + 1)) m else if tx.getD k 0 = B then lX9_polishError_6 NF 0 (nI B) (nI lo) (nI hi) g (nI (d + 1)) (nI (k + 1)) m else some (.inr (nI k, m)) := by
    intro g d k hk hd
    have hat := fX7_at_eq (N := NF) hX.t1 hT hk
    have hc := (hT.2.2 k hk).2
    generalize tx.getD k 0 = c at hat hc
    conv => lhs; unfold lX9_polishError_6
    unfold kX9_polishError_45 kX9_polishError_46 kX9_polishError_67 kX9_polishError_79
    refine EgR k0 r00 ?_
    refine EC k1 hlen ?_
    refine EIn (fun z => by have := (nI_leI (by omega) (by omega)).mp z; omega) ?_
    refine EgR k0 r00 ?_
    refine EC k1 hat ?_
    have ed0 : (nI d = 0) ↔ d = 0 := nI_eq (b := 0) (by omega) (by omega)
    have ecB : (nI c = nI B) ↔ c = B := nI_eq (by omega) (by omega)
    by_cases e0 : d = 0
    · have q0 : nI d = 0 := ed0.mpr e0
      rw [if_pos e0]
      by_cases h1 : nI c < nI lo
      · refine EIp h1 ?_
        refine EIp q0 ?_
        rfl
      · refine EIn h1 ?_
        by_cases h2 : nI hi < nI c
        · refine EIp h2 ?_
          refine EIp q0 ?_
          rfl
        · refine EIn h2 ?_
          refine EIp q0 ?_
          rfl
    · have q0 : ¬ nI d = 0 := fun z => e0 (ed0.mp z)
      rw [if_neg e0]
      by_cases hlf : lo ≤ c ∧ c ≤ hi
      · rw [if_pos hlf]
        refine EIn (fun z => by have := (nI_ltI (by omega) (by omega)).mp z; omega) ?_
        refine EIn (fun z => by have := (nI_ltI (by omega) (by omega)).mp z; omega) ?_
        refine EIn q0 ?_
        refine EIn i10 ?_
        refine EIn i10 ?_
        rw [nI_p (by omega), nI_s]
      · rw [if_neg hlf]
        have hrest : (if nI d = 0 then some (.inr (nI k, m)) else if (0 : Int32) = 0 then if nI c = nI B then (if (0 : Int32) = 0 then lX9_polishError_6 NF 0 (nI B) (nI lo) (nI hi) g (nI d + 1) (nI k + 1) m else lX9_polishError_6 NF 0 (nI B) (nI lo) (nI hi) g (nI d + (-1)) (nI k + 1) m) else some (.inr (nI k, m)) else (if (0 : Int32) = 0 then lX9_polishError_6 NF 0 (nI B) (nI lo) (nI hi) g (nI d + 1) (nI k + 1) m else lX9_polishError_6 NF 0 (nI B) (nI lo) (nI hi) g (nI d + (-1)) (nI k + 1) m)) = (if c = B then lX9_polishError_6 NF 0 (nI B) (nI lo) (nI hi) g (nI (d + 1)) (nI (k + 1)) m else some (.inr (nI k, m))) := by
          rw [if_neg q0, if_pos rfl, if_pos rfl, nI_s, nI_s]
          by_cases eB : c = B
          · rw [if_pos eB, if_pos (ecB.mpr eB)]
          · rw [if_neg eB, if_neg (fun z => eB (ecB.mp z))]
        by_cases h1 : c < lo
        · refine EIp ((nI_ltI (by omega) (by omega)).mpr h1) ?_
          exact hrest
        · refine EIn (fun z => h1 ((nI_ltI (by omega) (by omega)).mp z)) ?_
          refine EIp ((nI_ltI (by omega) (by omega)).mpr (by omega)) ?_
          exact hrest
  obtain ⟨b, e1, e2⟩ := walk (l := fun g (s : Int32 × Int32) => lX9_polishError_6 NF 0 (nI B) (nI lo) (nI hi) g s.1 s.2 m) (J := fun r s => ∃ k d, k + r = tx.length ∧ s = (nI d, nI k) ∧ d ≤ k + 1 ∧ pE B lo hi d k (tx.drop k) = pE B lo hi 1 0 tx) (Q := fun b => (pE B lo hi 1 0 tx = none ∧ b = .inl (0, m)) ∨ (∃ d, d ≠ 0 ∧ d < 200 ∧ pE B lo hi 1 0 tx = some tx.length ∧ b = .inl (nI d, m)) ∨ ∃ p, pE B lo hi 1 0 tx = some p ∧ b = .inr (nI p, m)) (fun g r s hj => by
    obtain ⟨k, d, hk, rfl, hd, hp⟩ := hj
    have hg := go g d k (by omega) (by omega)
    rw [drop_cons (by omega), pE_cons] at hp
    by_cases e0 : d = 0
    · rw [if_pos e0] at hp hg
      exact Or.inr ⟨_, hg, Or.inr (Or.inr ⟨k, hp.symm, rfl⟩)⟩
    · rw [if_neg e0] at hp hg
      by_cases h1 : lo ≤ tx.getD k 0 ∧ tx.getD k 0 ≤ hi
      · rw [if_pos h1] at hp hg
        exact Or.inl ⟨(nI (d - 1), nI (k + 1)), ⟨k + 1, d - 1, by omega, rfl, by omega, hp⟩, hg⟩
      · rw [if_neg h1] at hp hg
        by_cases h2 : tx.getD k 0 = B
        · rw [if_pos h2] at hp hg
          exact Or.inl ⟨(nI (d + 1), nI (k + 1)), ⟨k + 1, d + 1, by omega, rfl, by omega, hp⟩, hg⟩
        · rw [if_neg h2] at hp hg
          exact Or.inr ⟨_, hg, Or.inr (Or.inr ⟨k, hp.symm, rfl⟩)⟩) (fun g s hj => by
    obtain ⟨k, d, hk, rfl, hd, hp⟩ := hj
    obtain rfl : k = tx.length := by omega
    rw [List.drop_of_length_le (Nat.le_refl _), pE_nil] at hp
    refine ⟨.inl (nI d, m), ?_, ?_⟩
    · show lX9_polishError_6 NF 0 (nI B) (nI lo) (nI hi) (g + 1) (nI d) (nI tx.length) m = _
      unfold lX9_polishError_6
      refine EgR k0 r00 ?_
      refine EC k1 hlen ?_
      refine EIp ((nI_leI (by omega) (by omega)).mpr (Nat.le_refl _)) ?_
      rfl
    · by_cases e0 : d = 0
      · rw [if_pos e0] at hp
        exact Or.inl ⟨hp.symm, by rw [e0]; rfl⟩
      · rw [if_neg e0] at hp
        exact Or.inr (Or.inl ⟨d, e0, by omega, hp.symm, rfl⟩)) tx.length NF (nI 1, nI 0) (by unfold NF; omega) ⟨0, 1, by omega, rfl, by omega, by rw [List.drop_zero]⟩
  unfold fX9_polishError
  rw [show lX9_polishError_6 NF 0 (nI B) (nI lo) (nI hi) NF 1 0 m = some b from e1]
  rcases e2 with ⟨h1, rfl⟩ | ⟨d, h1, h2, h3, rfl⟩ | ⟨p, h1, rfl⟩
  · rw [h1]; rfl
  · rw [h3]
    have q0 : ¬ nI d = 0 := fun z => h1 ((nI_eq (b := 0) (by omega) (by omega)).mp z)
    show (if nI d = 0 then some ((-1 : Int32), m) else (qgR m 0 9 0).bind fun x2 => (qChk m x2 7 (fX7_length NF x2 m)).bind fun b3 => some (b3.1, b3.2)) = _
    rw [if_neg q0]
    refine EgR k0 r00 ?_
    refine EC k1 hlen ?_
    rfl
  · rw [h1]; rfl
-- ===== a letter =====
theorem c_addLetter {m : qM} {f A c : Nat} {cs ns : List Nat} (hs : FmS (qK m) (qN m) (qR m) f) (hAf : ¬ A = f) (hAf1 : ¬ A = f + 1) (hkA : qK m A = 12) (hnA : qN m A = 12) (hc : CFb (qI m) f cs ns.length) (hl : ns.length ≤ 12) (hN : NmR (qI m) A (fun v => v + 97) ns) (hns : ∀ a, a ∈ ns → a < 1000) (hcc : c = 67 ∨ (97 ≤ c ∧ c ≤ 122)) :
    ∃ m2 r, fX0_addLetter NF f (nI c) A m = some (r, m2) ∧ Fx (dFA f A) m m2 ∧ ((r = 1 ∧ okW cs ns (cd 67 97 c) ∧ CFb (qI m2) f (cs ++ cn ns [cd 67 97 c]) (nm ns [cd 67 97 c]).length ∧ NmR (qI m2) A (fun v => v + 97) (nm ns [cd 67 97 c])) ∨ (r = 0 ∧ ¬ okW cs ns (cd 67 97 c))) := by
  have hk0 := hs.1
  unfold fX0_addLetter
  by_cases e : c = 67
  · subst e
    have ec : cd 67 97 67 = 99 := rfl
    have e1 : cn ns [99] = [99] := rfl
    have e2 : nm ns [99] = ns := rfl
    rw [ec, e1, e2]
    unfold okW
    rw [e2]
    rcases c_addSign hs hc (show (-1 : Int32) = cS 99 from rfl) with ⟨q1, m2, q2, q3, q4⟩ | ⟨q1, q2⟩
    · refine ⟨m2, 1, ?_, q3.mono (fun a h => Or.inl h), Or.inl ⟨rfl, ⟨q1, hl⟩, q4, fun j hj => ?_⟩⟩
      · refine EIp rfl ?_
        refine EC hk0 q2 ?_
        exact b1s _
      · rw [q3.i (by unfold dF; omega)]; exact hN j hj
    · refine ⟨m, 0, ?_, Fx.rf, Or.inr ⟨rfl, fun z => by have := z.1; omega⟩⟩
      refine EIp rfl ?_
      refine EC hk0 q2 ?_
      exact b0s _
  · have hr : 97 ≤ c ∧ c ≤ 122 := hcc.resolve_left e
    have ec : cd 67 97 c = c - 97 := if_neg e
    rw [ec]
    obtain ⟨m2, r, p1, p2, p3⟩ := c_addVar (A := A) (g := fun v => v + 97) (v := c - 97) hs hAf hAf1 hkA hnA hc hl hN (fun a ha => by
      rcases ha with ha | rfl
      · have := hns a ha; show a + 97 < _; omega
      · show c - 97 + 97 < _; omega) (fun a _ z => by have z : a + 97 = c - 97 + 97 := z; omega) (by omega)
    have hcc2 : nI (c - 97 + 97) = nI c := by congr 1; omega
    have p1' : fX0_addVariable NF f (nI c) A m = some (r, m2) := by rw [← hcc2]; exact p1
    have hrr : r = 1 ∨ r = 0 := p3.elim (fun z => Or.inl z.1) (fun z => Or.inr z.1)
    refine ⟨m2, r, ?_, p2, p3⟩
    refine EIn (fun z => by have := (nI_eq (b := 67) (by omega) (by omega)).mp z; omega) ?_
    refine EC hk0 p1' ?_
    rcases hrr with rfl | rfl
    · exact b1s _
    · exact b0s _
end
