-- ===== append, clearText: what they answer, what the text is then =====
def aApp (tx : List Nat) (v : Int32) : Int32 := if v < 33 then -2 else if v ≤ 126 then (if tx.length < 80 then nI (tx.length + 1) else -3) else -2
def sApp (tx : List Nat) (v : Int32) : List Nat := if v < 33 then tx else if v ≤ 126 then (if tx.length < 80 then tx ++ [v.toNatClampNeg] else tx) else tx
theorem XS.t1 {K N : Nat → Nat} {R : Nat → Nat → Option Nat} (h : XS K N R) : TxS K N R 1 := ⟨h.2.1.1, h.2.1.2.1, h.2.1.2.2.1, h.2.1.2.2.2.1⟩
theorem XS.t3 {K N : Nat → Nat} {R : Nat → Nat → Option Nat} (h : XS K N R) : TxS K N R 3 := ⟨h.2.1.2.2.2.2.1, h.2.1.2.2.2.2.2.1, h.2.1.2.2.2.2.2.2.1, h.2.1.2.2.2.2.2.2.2⟩
theorem c_append {m : qM} {tx : List Nat} (hX : XS (qK m) (qN m) (qR m)) (hT : CTx (qI m) 1 tx) (hl : tx.length ≤ 80) (v : Int32) : ∃ m2, fX9_append NF 0 v m = some (aApp tx v, m2) ∧ CTx (qI m2) 1 (sApp tx v) ∧ (sApp tx v).length ≤ 80 ∧ Fx (fun a => a = 1 ∨ a = 2) m m2 := by
  have k0 : qK m 0 = 9 := hX.1.1
  have r0 : qR m 0 0 = some 1 := hX.1.2.1
  obtain ⟨k1, r1, k2, n2⟩ := hX.t1
  unfold fX9_append aApp sApp
  by_cases h1 : v < 33
  · rw [if_pos h1, if_pos h1, if_pos h1]; exact ⟨m, rfl, hT, hl, Fx.rf⟩
  rw [if_neg h1, if_neg h1, if_neg h1]
  by_cases h2 : v ≤ 126
  · rw [if_pos h2, if_pos h2, if_pos h2]
    obtain ⟨c, hc1, hc2, rfl⟩ := i32_of h1 h2
    have hcl : (nI c).toNatClampNeg = c := nI_clamp (by omega)
    have hlen : qI m 1 1 = nI tx.length := hT.1
    by_cases h3 : tx.length < 80
    · have hadd := fX7_add_eq (N := NF) hX.t1 hT (by omega) (show c < 65536 by omega)
      refine ⟨qsI (qsI m 2 tx.length (nI c)) 1 1 (nI (tx.length + 1)), ?_, ?_, ?_, (Fx.rf.sI (Or.inr rfl)).sI (Or.inl rfl)⟩
      · simp (disch := first | assumption | omega | (simp only [qS]; assumption)) only [qP, qS, qChk_, fX7_length_eq, Option.bind_some, r0, hlen, lits, nA, h3, ↓reduceIte, ch_mod, hadd]
      · rw [if_pos h3, hcl]; exact CTx_add hT (by omega) (by omega)
      · rw [if_pos h3]; simp; omega
    · refine ⟨m, ?_, ?_, ?_, Fx.rf⟩
      · simp (disch := first | assumption | omega | (simp only [qS]; assumption)) only [qP, qS, qChk_, fX7_length_eq, Option.bind_some, r0, hlen, lits, nA, h3, ↓reduceIte]
      · rw [if_neg h3]; exact hT
      · rw [if_neg h3]; exact hl
  · rw [if_neg h2, if_neg h2, if_neg h2]; exact ⟨m, rfl, hT, hl, Fx.rf⟩
theorem c_clear {m : qM} {tx : List Nat} (hX : XS (qK m) (qN m) (qR m)) (hT : CTx (qI m) 1 tx) : ∃ m2, fX9_clearText NF 0 m = some (nI tx.length, m2) ∧ CTx (qI m2) 1 [] ∧ Fx (fun a => a = 1 ∨ a = 2) m m2 := by
  have k0 : qK m 0 = 9 := hX.1.1
  have r0 : qR m 0 0 = some 1 := hX.1.2.1
  obtain ⟨k1, r1, k2, n2⟩ := hX.t1
  have hlen : qI m 1 1 = nI tx.length := hT.1
  refine ⟨qsI m 1 1 0, ?_, CTx_clear, Fx.rf.sI (Or.inl rfl)⟩
  unfold fX9_clearText
  simp (disch := first | assumption | omega | (simp only [qS]; assumption)) only [qP, qS, qChk_, fX7_length_eq, fX7_makeEmpty_eq, Option.bind_some, r0, hlen]
-- the reference's text: length in field 7, chars in 439
def MTx (I : Nat → Nat → Int32) (ls : List Nat) : Prop := I 433 7 = nI ls.length ∧ ls.length ≤ 80 ∧ ∀ i, i < ls.length → I 439 i = nI (ls.getD i 0) ∧ ls.getD i 0 < 65536
theorem fX10_in_eq {N : Nat} {v a b : Int32} {m : qM} : fX10_in N v a b m = some (if v < a then 0 else if b < v then 0 else 1, m) := by
  unfold fX10_in
  by_cases h1 : v < a
  · simp only [h1, ↓reduceIte]
  · by_cases h2 : b < v
    · simp only [h1, h2, ↓reduceIte]
    · simp only [h1, h2, ↓reduceIte]
theorem m_append {m : qM} {tx : List Nat} (hM : MS (qK m) (qN m) (qR m)) (hT : MTx (qI m) tx) (v : Int32) : ∃ m2, fX10_append NF 433 v m = some (aApp tx v, m2) ∧ MTx (qI m2) (sApp tx v) ∧ Fx (fun a => a = 433 ∨ a = 439) m m2 := by
  have k0 : qK m 433 = 10 := hM.1.1
  have r6 : qR m 433 6 = some 439 := hM.1.2.2.2.2.2.2.1
  have k6 : qK m 439 = 12 := hM.2.1.2.2.2.2.2.1
  have n6 : qN m 439 = 80 := hM.2.2.2.2.2.2.2.1
  obtain ⟨t1, t2, t3⟩ := hT
  unfold fX10_append aApp sApp
  rw [fX10_in_eq]
  by_cases h1 : v < 33
  · refine ⟨m, ?_, ?_, Fx.rf⟩
    · simp only [h1, ↓reduceIte, Option.bind_some]
    · rw [if_pos h1]; exact ⟨t1, t2, t3⟩
  by_cases h2 : v ≤ 126
  · have h2' : ¬ 126 < v := Int32.not_lt.mpr h2
    obtain ⟨c, hc1, hc2, rfl⟩ := i32_of h1 h2
    have hcl : (nI c).toNatClampNeg = c := nI_clamp (by omega)
    have h10 : ¬ (1 : Int32) = 0 := by decide
    by_cases h3 : tx.length < 80
    · have hb : tx.length < qN m 439 := by omega
      have h80 : ¬ tx.length = 80 := by omega
      refine ⟨qsI (qsI m 433 7 (nI (tx.length + 1))) 439 tx.length (nI c), ?_, ?_, (Fx.rf.sI (Or.inl rfl)).sI (Or.inr rfl)⟩
      · simp only [h1, h2, h2', h3, ↓reduceIte, Option.bind_some, h10]
        simp (disch := first | assumption | omega | (simp only [qS]; assumption)) only [qP, qS, Option.bind_some, r6, t1, lits, nA, h80, ↓reduceIte]
        simp
      · rw [if_neg h1, if_pos h2, if_pos h3, hcl]
        refine ⟨by simp [qS], by simp; omega, fun i hi => ?_⟩
        have hi2 : i < tx.length + 1 := by simpa using hi
        by_cases he : i = tx.length
        · subst he
          simp [qS]; omega
        · have hi3 : i < tx.length := by omega
          have e : (tx ++ [c]).getD i 0 = tx.getD i 0 := by simp [List.getD_eq_getElem?_getD, List.getElem?_append_left hi3]
          rw [e]
          refine ⟨?_, (t3 i hi3).2⟩
          have e1 : ¬ (439 : Nat) = 433 := by decide
          simp only [qS, e1, he, ↓reduceIte]
          exact (t3 i hi3).1
    · have h80 : tx.length = 80 := by omega
      refine ⟨m, ?_, ?_, Fx.rf⟩
      · simp only [h1, h2, h2', h3, ↓reduceIte, Option.bind_some, h10]
        simp (disch := first | assumption | omega | (simp only [qS]; assumption)) only [qP, qS, Option.bind_some, r6, t1, lits, nA, h80, ↓reduceIte]
      · rw [if_neg h1, if_pos h2, if_neg h3]; exact ⟨t1, t2, t3⟩
  · have h2' : 126 < v := Int32.not_le.mp h2
    refine ⟨m, ?_, ?_, Fx.rf⟩
    · simp only [h1, h2, h2', ↓reduceIte, Option.bind_some]
    · rw [if_neg h1, if_neg h2]; exact ⟨t1, t2, t3⟩
theorem m_clear {m : qM} {tx : List Nat} (hM : MS (qK m) (qN m) (qR m)) (hT : MTx (qI m) tx) : ∃ m2, fX10_clearText NF 433 m = some (nI tx.length, m2) ∧ MTx (qI m2) [] ∧ Fx (fun a => a = 433 ∨ a = 439) m m2 := by
  have k0 : qK m 433 = 10 := hM.1.1
  obtain ⟨t1, t2, t3⟩ := hT
  refine ⟨qsI m 433 7 0, ?_, ⟨by simp [qS]; rfl, by simp, fun i hi => by simp at hi⟩, Fx.rf.sI (Or.inl rfl)⟩
  unfold fX10_clearText
  simp (disch := first | assumption | omega | (simp only [qS]; assumption)) only [qP, qS, Option.bind_some, t1]
