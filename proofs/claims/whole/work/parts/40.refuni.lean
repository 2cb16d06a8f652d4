
-- ===== the reference's graph =====
def vc : Tm → Int32
  | .var v => nI v
  | .op _ _ => -1
def GG (T : Nat → Tm) (nd : Nat) : Prop := nd ≤ 78 ∧ (∀ n, n < nd → bel 78 (T n)) ∧ ∀ n l r, n < nd → T n = .op l r → n + 1 + tS l < nd ∧ T (n + 1) = l ∧ T (n + 1 + tS l) = r
def RG (I : Nat → Nat → Int32) (T : Nat → Tm) (nd : Nat) : Prop := ∀ n, n < nd → I 446 n = vc (T n) ∧ ∀ l r, T n = .op l r → I 447 n = nI (n + 1) ∧ I 448 n = nI (n + 1 + tS l)
def Bd (T : Nat → Tm) (nd : Nat) (V : Nat → Int32) (den : Nat → Tm) : Prop :=
  (∀ n v, n < nd → T n = .var v → (V v = -1 ∧ den n = .var v) ∨ ∃ k, k < nd ∧ V v = nI k ∧ den n = den k) ∧
  (∀ n l r, n < nd → T n = .op l r → den n = .op (den (n + 1)) (den (n + 1 + tS l))) ∧
  (∀ n, n < nd → bel 78 (den n)) ∧
  ∃ rk : Nat → Nat, (∀ v k w, V v = nI k → k < nd → T k = .var w → V w ≠ -1 → rk w < rk v) ∧ ∀ v, rk v + cnt (fun j => decide (V j = -1)) 78 ≤ 78
def RI (m : qM) (T : Nat → Tm) (nd : Nat) (den : Nat → Tm) : Prop := MS (qK m) (qN m) (qR m) ∧ RG (qI m) T nd ∧ Bd T nd (qI m 458) den ∧ qI m 433 21 = nI nd
theorem ng1 : ((-1 : Int32) < 0) ∧ (¬ (0 : Int32) ≤ -1) ∧ (¬ (1 : Int32) = 0) ∧ (¬ (0 : Int32) = 1) := by decide
theorem nI_ng {i : Nat} (h : i < 2 ^ 31) : ¬ nI i = -1 := fun e => nI_pos h (e ▸ ng1.1)
theorem nI_g0 {i : Nat} (h : i < 2 ^ 31) : (0 : Int32) ≤ nI i := Int32.not_lt.mp (nI_pos h)
theorem RI.fx {m m2 : qM} {T : Nat → Tm} {nd : Nat} {den : Nat → Tm} (h : RI m T nd den) (hf : Fx (fun a => a = 449) m m2) : RI m2 T nd den := by
  obtain ⟨h1, h2, h3, h4⟩ := h
  have e6 : qI m2 446 = qI m 446 := hf.i (by simp)
  have e7 : qI m2 447 = qI m 447 := hf.i (by simp)
  have e8 : qI m2 448 = qI m 448 := hf.i (by simp)
  have e9 : qI m2 458 = qI m 458 := hf.i (by simp)
  have e3 : qI m2 433 = qI m 433 := hf.i (by simp)
  refine ⟨hf.M h1, ?_, ?_, ?_⟩
  · unfold RG; rw [e6, e7, e8]; exact h2
  · rw [e9]; exact h3
  · rw [e3]; exact h4
theorem seek_term {m : qM} {T : Nat → Tm} {nd n f : Nat} {den : Nat → Tm} (h : RI m T nd den) (hG : GG T nd) (hn : n < nd) (ht : (∃ l r, T n = .op l r) ∨ ∃ v, T n = .var v ∧ qI m 458 v = -1) : lX10_seek_2 NF 433 (f + 1) (nI n) m = some (nI n, m) := by
  obtain ⟨hM, hR, hB, hN⟩ := h
  obtain ⟨⟨k433, r0, r1, r2, r3, r4, r6, r10, r12, r14, r15, r16, r17, r18, r19, r20, r22, r23, r26, r28, r29, r30, r31, r33, r34, r37⟩, ⟨k434, k435, k436, k437, k438, k439, k440, k441, k442, k443, k444, k445, k446, k447, k448, k449, k450, k451, k452, k453, k454, k455, k456, k457, k458⟩, ⟨n434, n435, n436, n437, n438, n439, n440, n441, n442, n443, n444, n445, n446, n447, n448, n449, n450, n451, n452, n453, n454, n455, n456, n457, n458⟩⟩ := hM
  have hn78 : n < 78 := by have := hG.1; omega
  have hn2 : n < qN m 446 := by omega
  have e1 := (hR n hn).1
  unfold lX10_seek_2
  rcases ht with ⟨l, r, ht⟩ | ⟨v, ht, hv⟩
  · rw [ht] at e1
    have e2 : qI m 446 n = -1 := e1
    simp (disch := first | assumption | omega) only [qP, Option.bind_some, r18, e2, ng1, ↓reduceIte]
  · rw [ht] at e1
    have e2 : qI m 446 n = nI v := e1
    have hv78 : v < 78 := bel_var.mp (ht ▸ hG.2.1 n hn)
    have hv2 : v < qN m 458 := by omega
    have h0 : ¬ nI v < 0 := nI_pos (by omega)
    simp (disch := first | assumption | omega) only [qP, Option.bind_some, r18, r37, e2, h0, hv, ng1, ↓reduceIte]
theorem m_seek {m : qM} {T : Nat → Tm} {nd n : Nat} {den : Nat → Tm} (h : RI m T nd den) (hG : GG T nd) (hn : n < nd) : ∃ k, fX10_seek NF 433 (nI n) m = some (nI k, m) ∧ k < nd ∧ den k = den n ∧ ((∃ l r, T k = .op l r) ∨ ∃ v, T k = .var v ∧ qI m 458 v = -1) := by
  obtain ⟨rk, hk1, hk2⟩ := h.2.2.1.2.2.2
  have key : ∀ f n, n < nd → (∀ v, T n = .var v → qI m 458 v ≠ -1 → rk v + 1 < f) → 0 < f → ∃ k, lX10_seek_2 NF 433 f (nI n) m = some (nI k, m) ∧ k < nd ∧ den k = den n ∧ ((∃ l r, T k = .op l r) ∨ ∃ v, T k = .var v ∧ qI m 458 v = -1) := by
    intro f
    induction f with
    | zero => intro n _ _ h0; omega
    | succ f ih =>
      intro n hn hf _
      cases ht : T n with
      | op l r => exact ⟨n, seek_term h hG hn (Or.inl ⟨l, r, ht⟩), hn, rfl, Or.inl ⟨l, r, ht⟩⟩
      | var v =>
        rcases h.2.2.1.1 n v hn ht with ⟨hv, _⟩ | ⟨k, hk, hv, hd⟩
        · exact ⟨n, seek_term h hG hn (Or.inr ⟨v, ht, hv⟩), hn, rfl, Or.inr ⟨v, ht, hv⟩⟩
        · have hk78 : k < 78 := by have := hG.1; omega
          have hne : qI m 458 v ≠ -1 := by rw [hv]; exact nI_ng (by omega)
          have hrv := hf v ht hne
          obtain ⟨k2, h1, h2, h3, h4⟩ := ih k hk (fun w hw hwn => by have := hk1 v k w hv hk hw hwn; omega) (by omega)
          refine ⟨k2, ?_, h2, h3.trans hd.symm, h4⟩
          rw [← h1]
          obtain ⟨hM, hR, hB, hN⟩ := h
          obtain ⟨⟨k433, r0, r1, r2, r3, r4, r6, r10, r12, r14, r15, r16, r17, r18, r19, r20, r22, r23, r26, r28, r29, r30, r31, r33, r34, r37⟩, ⟨k434, k435, k436, k437, k438, k439, k440, k441, k442, k443, k444, k445, k446, k447, k448, k449, k450, k451, k452, k453, k454, k455, k456, k457, k458⟩, ⟨n434, n435, n436, n437, n438, n439, n440, n441, n442, n443, n444, n445, n446, n447, n448, n449, n450, n451, n452, n453, n454, n455, n456, n457, n458⟩⟩ := hM
          have hn78 : n < 78 := by have := hG.1; omega
          have hn2 : n < qN m 446 := by omega
          have e1 := (hR n hn).1
          rw [ht] at e1
          have e2 : qI m 446 n = nI v := e1
          have hv78 : v < 78 := bel_var.mp (ht ▸ hG.2.1 n hn)
          have hv2 : v < qN m 458 := by omega
          have h0 : ¬ nI v < 0 := nI_pos (by omega)
          have h02 : ¬ nI k < 0 := nI_pos (by omega)
          conv => lhs; unfold lX10_seek_2
          simp (disch := first | assumption | omega) only [qP, Option.bind_some, r18, r37, e2, h0, hv, h02, ↓reduceIte]
  obtain ⟨k, h1, h2⟩ := key NF n hn (fun v _ _ => by have := hk2 v; unfold NF; omega) (by unfold NF; omega)
  refine ⟨k, ?_, h2⟩
  unfold fX10_seek
  rw [h1]
  rfl
-- ===== does a variable occur =====
def unS (m : qM) : Nat → Bool := fun j => decide (qI m 449 j = 0)
theorem m_occurs {T : Nat → Tm} {nd v : Nat} {den : Nat → Tm} (hG : GG T nd) (hv : v < 78) : ∀ (f : Nat) (m : qM) (n : Nat), RI m T nd den → qI m 458 v = -1 → n < nd → cnt (unS m) 78 < f → (∀ k, k < nd → qI m 449 k ≠ 0 → ¬ ocs v (den k) ∨ tS (den n) < tS (den k)) →
    ∃ m2 b, fX10_occurs NF f 433 (nI v) (nI n) m = some (b, m2) ∧ Fx (fun a => a = 449) m m2 ∧ ((b = 1 ∧ ocs v (den n)) ∨ (b = 0 ∧ ¬ ocs v (den n) ∧ (∀ k, k < nd → qI m2 449 k ≠ 0 → qI m 449 k ≠ 0 ∨ ¬ ocs v (den k)) ∧ cnt (unS m2) 78 ≤ cnt (unS m) 78)) := by
  intro f
  induction f with
  | zero => intro m n _ _ _ h0; omega
  | succ f ih =>
    intro m n hI hvu hn hf hs
    obtain ⟨k, hk1, hk2, hk3, hk4⟩ := m_seek hI hG hn
    have hI0 := hI
    obtain ⟨hM, hR, hB, hN⟩ := hI
    have hM0 := hM
    obtain ⟨⟨k433, r0, r1, r2, r3, r4, r6, r10, r12, r14, r15, r16, r17, r18, r19, r20, r22, r23, r26, r28, r29, r30, r31, r33, r34, r37⟩, ⟨k434, k435, k436, k437, k438, k439, k440, k441, k442, k443, k444, k445, k446, k447, k448, k449, k450, k451, k452, k453, k454, k455, k456, k457, k458⟩, ⟨n434, n435, n436, n437, n438, n439, n440, n441, n442, n443, n444, n445, n446, n447, n448, n449, n450, n451, n452, n453, n454, n455, n456, n457, n458⟩⟩ := hM
    have hk78 : k < 78 := by have := hG.1; omega
    have hkn : k < qN m 446 := by omega
    have hkn7 : k < qN m 447 := by omega
    have hkn8 : k < qN m 448 := by omega
    have hkn9 : k < qN m 449 := by omega
    have e1 := (hR k hk2).1
    unfold fX10_occurs
    rcases hk4 with ⟨l, r, ht⟩ | ⟨w, ht, hw⟩
    · have hd : den k = .op (den (k + 1)) (den (k + 1 + tS l)) := hB.2.1 k l r hk2 ht
      obtain ⟨g1, g2, g3⟩ := hG.2.2 k l r hk2 ht
      obtain ⟨l1, l2⟩ := (hR k hk2).2 l r ht
      rw [ht] at e1
      have e2 : qI m 446 k = -1 := e1
      by_cases hsk : qI m 449 k = 0
      · have hbit : ((1 : Int32) &&& 1) = nI 1 := rfl
        have hf1 : Fx (fun a => a = 449) m (qsI m 449 k (nI 1)) := Fx.rf.sI rfl
        have hI1 := hI0.fx hf1
        have hc1 : cnt (unS (qsI m 449 k (nI 1))) 78 + 1 = cnt (unS m) 78 := by
          apply cnt_set (k := k) hk78
          · simp [unS, hsk]
          · simp only [unS, qS, ↓reduceIte]; rfl
          · intro j hj hne; simp only [unS, qS, hne, ↓reduceIte]
        have hsz : tS (den (k + 1)) < tS (den n) := by rw [← hk3, hd]; simp only [tS]; omega
        have hsz2 : tS (den (k + 1 + tS l)) < tS (den n) := by rw [← hk3, hd]; simp only [tS]; omega
        have hvu1 : qI (qsI m 449 k (nI 1)) 458 v = -1 := hvu
        obtain ⟨m2, b2, p1, p2, p3⟩ := ih (qsI m 449 k (nI 1)) (k + 1) hI1 hvu1 (by omega) (by omega) (by
          intro j hj hjs
          by_cases e : j = k
          · subst e; right; rw [hk3]; exact hsz
          · have hjs2 : qI m 449 j ≠ 0 := by simpa [qS, e] using hjs
            rcases hs j hj hjs2 with q | q
            · exact Or.inl q
            · right; omega)
        have hI2 := hI1.fx p2
        have hM2 := hI2.1
        have K2 : qK m2 433 = 10 := hM2.1.1
        have R20 : qR m2 433 20 = some 448 := by rw [p2.2.2.1]; exact r20
        have K448 : qK m2 448 = 12 := by rw [p2.1]; exact k448
        have N448 : k < qN m2 448 := by rw [p2.2.1]; exact hkn8
        have L2 : qI m2 448 k = nI (k + 1 + tS l) := by rw [p2.i (by simp)]; exact l2
        rcases p3 with ⟨pb, po⟩ | ⟨pb, po, pq, pc⟩
        · subst pb
          refine ⟨m2, 1, ?_, hf1.tr p2, Or.inl ⟨rfl, ?_⟩⟩
          · simp (disch := first | assumption | omega | (simp only [qS]; assumption)) only [qP, qS, qChk_, Option.bind_some, hk1, r18, r19, r22, e2, ng1, hsk, hbit, l1, p1, ↓reduceIte, show ¬ (447 : Nat) = 449 from by decide]
          · rw [← hk3, hd]; exact Or.inl po
        · subst pb
          have hvu2 : qI m2 458 v = -1 := by rw [p2.i (by simp)]; exact hvu1
          obtain ⟨m3, b3, q1, q2, q3⟩ := ih m2 (k + 1 + tS l) hI2 hvu2 (by omega) (by omega) (by
            intro j hj hjs
            rcases pq j hj hjs with q | q
            · by_cases e : j = k
              · subst e; right; rw [hk3]; exact hsz2
              · have hjs2 : qI m 449 j ≠ 0 := by simpa [qS, e] using q
                rcases hs j hj hjs2 with q | q
                · exact Or.inl q
                · right; omega
            · exact Or.inl q)
          rcases q3 with ⟨qb, qo⟩ | ⟨qb, qo, qq, qc⟩
          · subst qb
            refine ⟨m3, 1, ?_, (hf1.tr p2).tr q2, Or.inl ⟨rfl, ?_⟩⟩
            · simp (disch := first | assumption | omega | (simp only [qS]; assumption)) only [qP, qS, qChk_, Option.bind_some, hk1, r18, r19, r22, e2, ng1, hsk, hbit, l1, p1, ↓reduceIte, show ¬ (447 : Nat) = 449 from by decide, R20, L2, q1]
            · rw [← hk3, hd]; exact Or.inr qo
          · subst qb
            refine ⟨m3, 0, ?_, (hf1.tr p2).tr q2, Or.inr ⟨rfl, ?_, ?_, by omega⟩⟩
            · simp (disch := first | assumption | omega | (simp only [qS]; assumption)) only [qP, qS, qChk_, Option.bind_some, hk1, r18, r19, r22, e2, ng1, hsk, hbit, l1, p1, ↓reduceIte, show ¬ (447 : Nat) = 449 from by decide, R20, L2, q1]
            · rw [← hk3, hd]; exact fun z => z.elim po qo
            · intro j hj hjs
              rcases qq j hj hjs with q | q
              · rcases pq j hj q with q | q
                · by_cases e : j = k
                  · subst e; right; rw [hd]; exact fun z => z.elim po qo
                  · left; simpa [qS, e] using q
                · exact Or.inr q
              · exact Or.inr q
      · have hno : ¬ ocs v (den n) := by
          rcases hs k hk2 hsk with q | q
          · rw [← hk3]; exact q
          · rw [hk3] at q; omega
        refine ⟨m, 0, ?_, Fx.rf, Or.inr ⟨rfl, hno, fun j hj hjs => Or.inl hjs, Nat.le_refl _⟩⟩
        simp (disch := first | assumption | omega) only [qP, qChk_, Option.bind_some, hk1, r18, r22, e2, ng1, hsk, ↓reduceIte]
    · rw [ht] at e1
      have e2 : qI m 446 k = nI w := e1
      have hw78 : w < 78 := bel_var.mp (ht ▸ hG.2.1 k hk2)
      have h0 : ¬ nI w < 0 := nI_pos (by omega)
      have hdw : den n = .var w := by
        rw [← hk3]
        rcases hB.1 k w hk2 ht with ⟨_, hd⟩ | ⟨j, hj, hvj, _⟩
        · exact hd
        · rw [hw] at hvj; exact absurd hvj.symm (nI_ng (by have := hG.1; omega))
      by_cases hwv : w = v
      · refine ⟨m, 1, ?_, Fx.rf, Or.inl ⟨rfl, by rw [hdw]; exact hwv⟩⟩
        simp (disch := first | assumption | omega) only [qP, qChk_, Option.bind_some, hk1, r18, e2, h0, hwv, ↓reduceIte]
        rw [if_neg (nI_pos (by omega))]
      · refine ⟨m, 0, ?_, Fx.rf, Or.inr ⟨rfl, by rw [hdw]; exact hwv, fun j hj hjs => Or.inl hjs, Nat.le_refl _⟩⟩
        simp (disch := first | assumption | omega) only [qP, qChk_, Option.bind_some, hk1, r18, e2, h0, nA, hwv, ↓reduceIte]
