
-- ===== the reference writes a node out =====
def NmS (I : Nat → Nat → Int32) (ns : List Nat) : Prop := I 433 24 = nI ns.length ∧ ∀ v, v < 78 → I 450 v = if v ∈ ns then nI (ixo ns v) else -1
def OnS (I : Nat → Nat → Int32) (cs : List Nat) : Prop := I 433 27 = nI cs.length ∧ ∀ i, i < cs.length → I 451 i = nI (cs.getD i 0)
theorem nm_len (cs : List Nat) : ∀ ns, (nm ns cs).length ≤ ns.length + cs.length := by
  induction cs with
  | nil => intro ns; exact Nat.le_refl _
  | cons c cs ih =>
    intro ns
    simp only [nm, List.length_cons]
    by_cases h : c = 99
    · rw [if_pos h]; have := ih ns; omega
    · rw [if_neg h]
      by_cases h2 : c ∈ ns
      · rw [if_pos h2]; have := ih ns; omega
      · rw [if_neg h2]; have := ih (ns ++ [c]); simp only [List.length_append, List.length_cons, List.length_nil] at this; omega
theorem getD_snoc {cs : List Nat} {c i : Nat} : (cs ++ [c]).getD i 0 = if i = cs.length then c else cs.getD i 0 := by
  simp only [List.getD_eq_getElem?_getD, List.getElem?_append]
  by_cases h : i < cs.length
  · rw [if_pos h, if_neg (by omega)]
  · rw [if_neg h]
    by_cases h2 : i = cs.length
    · rw [if_pos h2, h2]; simp
    · rw [if_neg h2]
      have : cs[i]? = none := List.getElem?_eq_none (by omega)
      rw [this]
      have : [c][i - cs.length]? = none := List.getElem?_eq_none (by simp; omega)
      rw [this]
theorem OnS_snoc {m : qM} {cs : List Nat} {c : Nat} (h : OnS (qI m) cs) : OnS (qI (qsI (qsI m 433 27 (nI (cs.length + 1))) 451 cs.length (nI c))) (cs ++ [c]) := by
  refine ⟨by simp [qS], fun i hi => ?_⟩
  rw [getD_snoc]
  by_cases e : i = cs.length
  · subst e; simp [qS]
  · have hi2 : i < cs.length := by simp at hi; omega
    rw [if_neg e]
    simp only [qS, e, ↓reduceIte]
    exact h.2 i hi2
def dWr (a : Nat) : Prop := a = 433 ∨ a = 450 ∨ a = 451
theorem RI.fw {m m2 : qM} {T : Nat → Tm} {nd : Nat} {den : Nat → Tm} (h : RI m T nd den) (hf : Fx dWr m m2) (h21 : qI m2 433 21 = qI m 433 21) : RI m2 T nd den := by
  obtain ⟨h1, h2, h3, h4⟩ := h
  have e6 : qI m2 446 = qI m 446 := hf.i (by simp [dWr])
  have e7 : qI m2 447 = qI m 447 := hf.i (by simp [dWr])
  have e8 : qI m2 448 = qI m 448 := hf.i (by simp [dWr])
  have e9 : qI m2 458 = qI m 458 := hf.i (by simp [dWr])
  refine ⟨hf.M h1, ?_, ?_, ?_⟩
  · unfold RG; rw [e6, e7, e8]; exact h2
  · rw [e9]; exact h3
  · rw [h21]; exact h4
theorem m_writes {T : Nat → Tm} {nd : Nat} {den : Nat → Tm} (hG : GG T nd) : ∀ (f : Nat) (m : qM) (n : Nat) (cs ns : List Nat), RI m T nd den → n < nd → cs.length ≤ 39 → 40 ≤ f + cs.length → ns.length ≤ cs.length → NmS (qI m) ns → OnS (qI m) cs →
    ∃ m2 b, fX10_writes NF f 433 (nI n) m = some (b, m2) ∧ Fx dWr m m2 ∧ (∀ j, j ≠ 24 → j ≠ 27 → qI m2 433 j = qI m 433 j) ∧ ((b = 1 ∧ cs.length + tS (den n) ≤ 39 ∧ OnS (qI m2) (cs ++ cn ns (pol (den n))) ∧ NmS (qI m2) (nm ns (pol (den n)))) ∨ (b = 0 ∧ 39 < cs.length + tS (den n))) := by
  intro f
  induction f with
  | zero => intro m n cs ns _ _ h1 h2; omega
  | succ f ih =>
    intro m n cs ns hI hn hc hf hl hNm hOn
    obtain ⟨k, hk1, hk2, hk3, hk4⟩ := m_seek hI hG hn
    have hI0 := hI
    obtain ⟨hM, hR, hB, hN⟩ := hI
    have hM0 := hM
    obtain ⟨⟨k433, -, -, -, -, -, -, -, -, -, -, -, -, r18, r19, r20, -, r23, r26, -⟩, ⟨-, -, -, -, -, -, -, -, -, -, -, -, k446, k447, k448, -, k450, k451, -⟩, ⟨-, -, -, -, -, -, -, -, -, -, -, -, n446, n447, n448, -, n450, n451, -⟩⟩ := hM
    have hnd := hG.1
    have e27 := hOn.1
    have e24 := hNm.1
    have hp := tS_pos (den n)
    unfold fX10_writes
    by_cases h39 : cs.length = 39
    · refine ⟨m, 0, ?_, Fx.rf, fun j _ _ => rfl, Or.inr ⟨rfl, by omega⟩⟩
      have c1 : nI cs.length = (39 : Int32) := by rw [h39]; rfl
      repeat (first | refine EgR (by first | assumption | (simp only [qS]; assumption)) (by first | assumption | (simp only [qS]; assumption)) ?_ | refine EgI (by first | assumption | (simp only [qS]; assumption)) (by first | assumption | (simp only [qS, ↓reduceIte]; assumption) | exact rfl) ?_ | refine EpI (by first | assumption | (simp only [qS]; assumption)) (by first | with_reducible exact nI_s _ | with_reducible exact nI_add _ _ | with_reducible exact nI_p (by omega) | with_reducible exact nI_m1 (by omega) | with_reducible exact nI_s2 _ | exact rfl) ?_ | refine EaI (by first | assumption | (simp only [qS]; assumption)) (by first | with_reducible exact nI_s _ | with_reducible exact nI_add _ _ | with_reducible exact nI_p (by omega) | with_reducible exact nI_m1 (by omega) | with_reducible exact nI_s2 _ | exact rfl) (by first | assumption | omega | (simp only [qS]; omega)) (by omega) (by first | assumption | (simp only [qS, ↓reduceIte]; assumption) | exact rfl) ?_ | refine EwI (by first | assumption | (simp only [qS]; assumption)) (by first | with_reducible exact nI_s _ | with_reducible exact nI_add _ _ | with_reducible exact nI_p (by omega) | with_reducible exact nI_m1 (by omega) | with_reducible exact nI_s2 _ | exact rfl) (by first | assumption | omega | (simp only [qS]; omega)) (by omega) (by first | with_reducible exact nI_s _ | with_reducible exact nI_add _ _ | with_reducible exact nI_p (by omega) | with_reducible exact nI_m1 (by omega) | with_reducible exact nI_s2 _ | exact rfl) ?_ | refine EaR (by first | assumption | (simp only [qS]; assumption)) (by first | with_reducible exact nI_s _ | with_reducible exact nI_add _ _ | with_reducible exact nI_p (by omega) | with_reducible exact nI_m1 (by omega) | with_reducible exact nI_s2 _ | exact rfl) (by first | assumption | omega | (simp only [qS]; omega)) (by omega) (by first | assumption | (simp only [qS]; assumption)) ?_ | refine EC (by first | assumption | (simp only [qS]; assumption)) (by assumption) ?_ | refine EB (by assumption) ?_ | refine EIp (by first | assumption | decide) ?_ | refine EIn (by first | assumption | decide) ?_)
      rfl
    have c1 : ¬ nI cs.length = (39 : Int32) := fun e => h39 ((nI_eq (b := 39) (by omega) (by omega)).mp e)
    have e1 := (hR k hk2).1
    rcases hk4 with ⟨l, r, ht⟩ | ⟨v, ht, hv⟩
    · have hd : den k = .op (den (k + 1)) (den (k + 1 + tS l)) := hB.2.1 k l r hk2 ht
      obtain ⟨g1, g2, g3⟩ := hG.2.2 k l r hk2 ht
      obtain ⟨l1, l2⟩ := (hR k hk2).2 l r ht
      rw [ht] at e1
      have e2 : qI m 446 k = -1 := e1
      have hdn : den n = .op (den (k + 1)) (den (k + 1 + tS l)) := by rw [← hk3]; exact hd
      let m4 : qM := qsI (qsI m 433 27 (nI (cs.length + 1))) 451 cs.length 99
      have f4 : Fx dWr m m4 := (Fx.rf.sI (Or.inl rfl)).sI (Or.inr (Or.inr rfl))
      have s4 : ∀ j, j ≠ 24 → j ≠ 27 → qI m4 433 j = qI m 433 j := fun j h1 h2 => by simp [m4, qS, h2]
      have hI4 : RI m4 T nd den := hI0.fw f4 (s4 21 (by decide) (by decide))
      have hN4 : NmS (qI m4) ns := ⟨by simp only [m4, qS]; exact e24, fun v hv => by simp only [m4, qS]; exact hNm.2 v hv⟩
      have hO4 : OnS (qI m4) (cs ++ [99]) := OnS_snoc (c := 99) hOn
      obtain ⟨m5, b5, p1, p2, p3, p4⟩ := ih m4 (k + 1) (cs ++ [99]) ns hI4 (by omega) (by simp; omega) (by simp; omega) (by simp; omega) hN4 hO4
      have f5 : Fx dWr m m5 := f4.tr p2
      have s5 : ∀ j, j ≠ 24 → j ≠ 27 → qI m5 433 j = qI m 433 j := fun j h1 h2 => (p3 j h1 h2).trans (s4 j h1 h2)
      rcases p4 with ⟨rfl, q1, q2, q3⟩ | ⟨rfl, q1⟩
      · have hI5 : RI m5 T nd den := hI0.fw f5 (s5 21 (by decide) (by decide))
        have hlen : (cs ++ [99] ++ cn ns (pol (den (k + 1)))).length = cs.length + 1 + tS (den (k + 1)) := by simp [cn_len, pol_len]; omega
        have hnl := nm_len (pol (den (k + 1))) ns
        rw [pol_len] at hnl
        simp only [List.length_append, List.length_cons, List.length_nil] at q1
        obtain ⟨m6, b6, u1, u2, u3, u4⟩ := ih m5 (k + 1 + tS l) (cs ++ [99] ++ cn ns (pol (den (k + 1)))) (nm ns (pol (den (k + 1)))) hI5 (by omega) (by omega) (by omega) (by omega) q3 q2
        have f6 : Fx dWr m m6 := f5.tr u2
        have s6 : ∀ j, j ≠ 24 → j ≠ 27 → qI m6 433 j = qI m 433 j := fun j h1 h2 => (u3 j h1 h2).trans (s5 j h1 h2)
        have eK5 := f5.1
        have eN5 := f5.2.1
        have eR5 := f5.2.2.1
        have l2' : qI m5 448 k = nI (k + 1 + tS l) := by rw [f5.i (by simp [dWr])]; exact l2
        rcases u4 with ⟨rfl, w1, w2, w3⟩ | ⟨rfl, w1⟩
        · refine ⟨m6, 1, ?_, f6, s6, Or.inl ⟨rfl, ?_, ?_, ?_⟩⟩
          · repeat (first | refine EgR (by first | assumption | (simp only [qS, eK5, eN5, eR5]; assumption)) (by first | assumption | (simp only [qS, eK5, eN5, eR5]; assumption)) ?_ | refine EgI (by first | assumption | (simp only [qS, eK5, eN5, eR5]; assumption)) (by first | assumption | (simp only [qS, ↓reduceIte, eK5, eN5, eR5]; assumption) | exact rfl) ?_ | refine EpI (by first | assumption | (simp only [qS, eK5, eN5, eR5]; assumption)) (by first | with_reducible exact nI_s _ | with_reducible exact nI_add _ _ | with_reducible exact nI_p (by omega) | with_reducible exact nI_m1 (by omega) | with_reducible exact nI_s2 _ | exact rfl) ?_ | refine EaI (by first | assumption | (simp only [qS, eK5, eN5, eR5]; assumption)) (by first | with_reducible exact nI_s _ | with_reducible exact nI_add _ _ | with_reducible exact nI_p (by omega) | with_reducible exact nI_m1 (by omega) | with_reducible exact nI_s2 _ | exact rfl) (by first | assumption | omega | (simp only [qS, eK5, eN5, eR5]; omega)) (by omega) (by first | assumption | (simp only [qS, ↓reduceIte, eK5, eN5, eR5]; assumption) | exact rfl) ?_ | refine EwI (by first | assumption | (simp only [qS, eK5, eN5, eR5]; assumption)) (by first | with_reducible exact nI_s _ | with_reducible exact nI_add _ _ | with_reducible exact nI_p (by omega) | with_reducible exact nI_m1 (by omega) | with_reducible exact nI_s2 _ | exact rfl) (by first | assumption | omega | (simp only [qS, eK5, eN5, eR5]; omega)) (by omega) (by first | with_reducible exact nI_s _ | with_reducible exact nI_add _ _ | with_reducible exact nI_p (by omega) | with_reducible exact nI_m1 (by omega) | with_reducible exact nI_s2 _ | exact rfl) ?_ | refine EaR (by first | assumption | (simp only [qS, eK5, eN5, eR5]; assumption)) (by first | with_reducible exact nI_s _ | with_reducible exact nI_add _ _ | with_reducible exact nI_p (by omega) | with_reducible exact nI_m1 (by omega) | with_reducible exact nI_s2 _ | exact rfl) (by first | assumption | omega | (simp only [qS, eK5, eN5, eR5]; omega)) (by omega) (by first | assumption | (simp only [qS, eK5, eN5, eR5]; assumption)) ?_ | refine EC (by first | assumption | (simp only [qS, eK5, eN5, eR5]; assumption)) (by assumption) ?_ | refine EB (by assumption) ?_ | refine EIp (by first | assumption | decide) ?_ | refine EIn (by first | assumption | decide) ?_)
            rfl
          · rw [hlen] at w1; rw [hdn]; simp only [tS]; omega
          · rw [hdn]
            simp only [pol, cn, ↓reduceIte]
            rw [cn_app]
            simpa [List.append_assoc] using w2
          · rw [hdn]
            simp only [pol, nm, ↓reduceIte]
            rw [nm_app]
            exact w3
        · refine ⟨m6, 0, ?_, f6, s6, Or.inr ⟨rfl, ?_⟩⟩
          · repeat (first | refine EgR (by first | assumption | (simp only [qS, eK5, eN5, eR5]; assumption)) (by first | assumption | (simp only [qS, eK5, eN5, eR5]; assumption)) ?_ | refine EgI (by first | assumption | (simp only [qS, eK5, eN5, eR5]; assumption)) (by first | assumption | (simp only [qS, ↓reduceIte, eK5, eN5, eR5]; assumption) | exact rfl) ?_ | refine EpI (by first | assumption | (simp only [qS, eK5, eN5, eR5]; assumption)) (by first | with_reducible exact nI_s _ | with_reducible exact nI_add _ _ | with_reducible exact nI_p (by omega) | with_reducible exact nI_m1 (by omega) | with_reducible exact nI_s2 _ | exact rfl) ?_ | refine EaI (by first | assumption | (simp only [qS, eK5, eN5, eR5]; assumption)) (by first | with_reducible exact nI_s _ | with_reducible exact nI_add _ _ | with_reducible exact nI_p (by omega) | with_reducible exact nI_m1 (by omega) | with_reducible exact nI_s2 _ | exact rfl) (by first | assumption | omega | (simp only [qS, eK5, eN5, eR5]; omega)) (by omega) (by first | assumption | (simp only [qS, ↓reduceIte, eK5, eN5, eR5]; assumption) | exact rfl) ?_ | refine EwI (by first | assumption | (simp only [qS, eK5, eN5, eR5]; assumption)) (by first | with_reducible exact nI_s _ | with_reducible exact nI_add _ _ | with_reducible exact nI_p (by omega) | with_reducible exact nI_m1 (by omega) | with_reducible exact nI_s2 _ | exact rfl) (by first | assumption | omega | (simp only [qS, eK5, eN5, eR5]; omega)) (by omega) (by first | with_reducible exact nI_s _ | with_reducible exact nI_add _ _ | with_reducible exact nI_p (by omega) | with_reducible exact nI_m1 (by omega) | with_reducible exact nI_s2 _ | exact rfl) ?_ | refine EaR (by first | assumption | (simp only [qS, eK5, eN5, eR5]; assumption)) (by first | with_reducible exact nI_s _ | with_reducible exact nI_add _ _ | with_reducible exact nI_p (by omega) | with_reducible exact nI_m1 (by omega) | with_reducible exact nI_s2 _ | exact rfl) (by first | assumption | omega | (simp only [qS, eK5, eN5, eR5]; omega)) (by omega) (by first | assumption | (simp only [qS, eK5, eN5, eR5]; assumption)) ?_ | refine EC (by first | assumption | (simp only [qS, eK5, eN5, eR5]; assumption)) (by assumption) ?_ | refine EB (by assumption) ?_ | refine EIp (by first | assumption | decide) ?_ | refine EIn (by first | assumption | decide) ?_)
            rfl
          · rw [hlen] at w1; rw [hdn]; simp only [tS]; omega
      · refine ⟨m5, 0, ?_, f5, s5, Or.inr ⟨rfl, ?_⟩⟩
        · repeat (first | refine EgR (by first | assumption | (simp only [qS]; assumption)) (by first | assumption | (simp only [qS]; assumption)) ?_ | refine EgI (by first | assumption | (simp only [qS]; assumption)) (by first | assumption | (simp only [qS, ↓reduceIte]; assumption) | exact rfl) ?_ | refine EpI (by first | assumption | (simp only [qS]; assumption)) (by first | with_reducible exact nI_s _ | with_reducible exact nI_add _ _ | with_reducible exact nI_p (by omega) | with_reducible exact nI_m1 (by omega) | with_reducible exact nI_s2 _ | exact rfl) ?_ | refine EaI (by first | assumption | (simp only [qS]; assumption)) (by first | with_reducible exact nI_s _ | with_reducible exact nI_add _ _ | with_reducible exact nI_p (by omega) | with_reducible exact nI_m1 (by omega) | with_reducible exact nI_s2 _ | exact rfl) (by first | assumption | omega | (simp only [qS]; omega)) (by omega) (by first | assumption | (simp only [qS, ↓reduceIte]; assumption) | exact rfl) ?_ | refine EwI (by first | assumption | (simp only [qS]; assumption)) (by first | with_reducible exact nI_s _ | with_reducible exact nI_add _ _ | with_reducible exact nI_p (by omega) | with_reducible exact nI_m1 (by omega) | with_reducible exact nI_s2 _ | exact rfl) (by first | assumption | omega | (simp only [qS]; omega)) (by omega) (by first | with_reducible exact nI_s _ | with_reducible exact nI_add _ _ | with_reducible exact nI_p (by omega) | with_reducible exact nI_m1 (by omega) | with_reducible exact nI_s2 _ | exact rfl) ?_ | refine EaR (by first | assumption | (simp only [qS]; assumption)) (by first | with_reducible exact nI_s _ | with_reducible exact nI_add _ _ | with_reducible exact nI_p (by omega) | with_reducible exact nI_m1 (by omega) | with_reducible exact nI_s2 _ | exact rfl) (by first | assumption | omega | (simp only [qS]; omega)) (by omega) (by first | assumption | (simp only [qS]; assumption)) ?_ | refine EC (by first | assumption | (simp only [qS]; assumption)) (by assumption) ?_ | refine EB (by assumption) ?_ | refine EIp (by first | assumption | decide) ?_ | refine EIn (by first | assumption | decide) ?_)
          rfl
        · rw [hdn]; simp only [tS]; simp at q1; omega
    · rw [ht] at e1
      have e2 : qI m 446 k = nI v := e1
      have hv78 : v < 78 := bel_var.mp (ht ▸ hG.2.1 k hk2)
      have h00 : (0 : Int32) ≤ nI v := nI_g0 (by omega)
      have hdn : den n = .var v := by
        rw [← hk3]
        rcases hB.1 k v hk2 ht with ⟨_, hd⟩ | ⟨j, hj, hvj, _⟩
        · exact hd
        · rw [hv] at hvj; exact absurd hvj.symm (nI_ng (by omega))
      have hnv := hNm.2 v hv78
      have hv99 : ¬ v = 99 := by omega
      by_cases hin : v ∈ ns
      · rw [if_pos hin] at hnv
        have hix : ixo ns v < ns.length := List.idxOf_lt_length_of_mem hin
        have h01 : (0 : Int32) ≤ nI (ixo ns v) := nI_g0 (by omega)
        refine ⟨qsI (qsI m 433 27 (nI (cs.length + 1))) 451 cs.length (nI (ixo ns v)), 1, ?_, (Fx.rf.sI (Or.inl rfl)).sI (Or.inr (Or.inr rfl)), fun j h1 h2 => by simp [qS, h2], Or.inl ⟨rfl, ?_, ?_, ?_⟩⟩
        · unfold kX10_writes_104
          repeat (first | refine EgR (by first | assumption | (simp only [qS]; assumption)) (by first | assumption | (simp only [qS]; assumption)) ?_ | refine EgI (by first | assumption | (simp only [qS]; assumption)) (by first | assumption | (simp only [qS, ↓reduceIte]; assumption) | exact rfl) ?_ | refine EpI (by first | assumption | (simp only [qS]; assumption)) (by first | with_reducible exact nI_s _ | with_reducible exact nI_add _ _ | with_reducible exact nI_p (by omega) | with_reducible exact nI_m1 (by omega) | with_reducible exact nI_s2 _ | exact rfl) ?_ | refine EaI (by first | assumption | (simp only [qS]; assumption)) (by first | with_reducible exact nI_s _ | with_reducible exact nI_add _ _ | with_reducible exact nI_p (by omega) | with_reducible exact nI_m1 (by omega) | with_reducible exact nI_s2 _ | exact rfl) (by first | assumption | omega | (simp only [qS]; omega)) (by omega) (by first | assumption | (simp only [qS, ↓reduceIte]; assumption) | exact rfl) ?_ | refine EwI (by first | assumption | (simp only [qS]; assumption)) (by first | with_reducible exact nI_s _ | with_reducible exact nI_add _ _ | with_reducible exact nI_p (by omega) | with_reducible exact nI_m1 (by omega) | with_reducible exact nI_s2 _ | exact rfl) (by first | assumption | omega | (simp only [qS]; omega)) (by omega) (by first | with_reducible exact nI_s _ | with_reducible exact nI_add _ _ | with_reducible exact nI_p (by omega) | with_reducible exact nI_m1 (by omega) | with_reducible exact nI_s2 _ | exact rfl) ?_ | refine EaR (by first | assumption | (simp only [qS]; assumption)) (by first | with_reducible exact nI_s _ | with_reducible exact nI_add _ _ | with_reducible exact nI_p (by omega) | with_reducible exact nI_m1 (by omega) | with_reducible exact nI_s2 _ | exact rfl) (by first | assumption | omega | (simp only [qS]; omega)) (by omega) (by first | assumption | (simp only [qS]; assumption)) ?_ | refine EC (by first | assumption | (simp only [qS]; assumption)) (by assumption) ?_ | refine EB (by assumption) ?_ | refine EIp (by first | assumption | decide) ?_ | refine EIn (by first | assumption | decide) ?_)
          rfl
        · rw [hdn]; simp only [tS]; omega
        · rw [hdn]
          simp only [pol, cn, hv99, hin, ↓reduceIte]
          exact OnS_snoc hOn
        · rw [hdn]
          simp only [pol, nm, hv99, hin, ↓reduceIte]
          exact ⟨by simp only [qS]; exact e24, fun w hw => by simp only [qS]; exact hNm.2 w hw⟩
      · rw [if_neg hin] at hnv
        have h01 : ¬ (0 : Int32) ≤ -1 := by decide
        let m1 : qM := qsI (qsI m 433 24 (nI (ns.length + 1))) 450 v (nI ns.length)
        have hO1 : OnS (qI m1) cs := ⟨by simp only [m1, qS]; exact e27, fun i hi => by simp only [m1, qS]; exact hOn.2 i hi⟩
        have e27' : qI m1 433 27 = nI cs.length := hO1.1
        have e450 : qI (qsI m1 433 27 (nI (cs.length + 1))) 450 v = nI ns.length := by simp [m1, qS]
        refine ⟨qsI (qsI m1 433 27 (nI (cs.length + 1))) 451 cs.length (nI ns.length), 1, ?_, ((((Fx.rf.sI (Or.inl rfl)).sI (Or.inr (Or.inl rfl))).sI (Or.inl rfl)).sI (Or.inr (Or.inr rfl))), fun j h1 h2 => by simp [m1, qS, h1, h2], Or.inl ⟨rfl, ?_, ?_, ?_⟩⟩
        · unfold kX10_writes_104
          repeat (first | refine EgR (by first | assumption | (simp only [qS]; assumption)) (by first | assumption | (simp only [qS]; assumption)) ?_ | refine EgI (by first | assumption | (simp only [qS]; assumption)) (by first | assumption | (simp only [qS, ↓reduceIte]; assumption) | exact rfl) ?_ | refine EpI (by first | assumption | (simp only [qS]; assumption)) (by first | with_reducible exact nI_s _ | with_reducible exact nI_add _ _ | with_reducible exact nI_p (by omega) | with_reducible exact nI_m1 (by omega) | with_reducible exact nI_s2 _ | exact rfl) ?_ | refine EaI (by first | assumption | (simp only [qS]; assumption)) (by first | with_reducible exact nI_s _ | with_reducible exact nI_add _ _ | with_reducible exact nI_p (by omega) | with_reducible exact nI_m1 (by omega) | with_reducible exact nI_s2 _ | exact rfl) (by first | assumption | omega | (simp only [qS]; omega)) (by omega) (by first | assumption | (simp only [qS, ↓reduceIte]; assumption) | exact rfl) ?_ | refine EwI (by first | assumption | (simp only [qS]; assumption)) (by first | with_reducible exact nI_s _ | with_reducible exact nI_add _ _ | with_reducible exact nI_p (by omega) | with_reducible exact nI_m1 (by omega) | with_reducible exact nI_s2 _ | exact rfl) (by first | assumption | omega | (simp only [qS]; omega)) (by omega) (by first | with_reducible exact nI_s _ | with_reducible exact nI_add _ _ | with_reducible exact nI_p (by omega) | with_reducible exact nI_m1 (by omega) | with_reducible exact nI_s2 _ | exact rfl) ?_ | refine EaR (by first | assumption | (simp only [qS]; assumption)) (by first | with_reducible exact nI_s _ | with_reducible exact nI_add _ _ | with_reducible exact nI_p (by omega) | with_reducible exact nI_m1 (by omega) | with_reducible exact nI_s2 _ | exact rfl) (by first | assumption | omega | (simp only [qS]; omega)) (by omega) (by first | assumption | (simp only [qS]; assumption)) ?_ | refine EC (by first | assumption | (simp only [qS]; assumption)) (by assumption) ?_ | refine EB (by assumption) ?_ | refine EIp (by first | assumption | decide) ?_ | refine EIn (by first | assumption | decide) ?_)
          rfl
        · rw [hdn]; simp only [tS]; omega
        · rw [hdn]
          simp only [pol, cn, hv99, hin, ↓reduceIte]
          exact OnS_snoc hO1
        · rw [hdn]
          simp only [pol, nm, hv99, hin, ↓reduceIte]
          refine ⟨by simp [m1, qS], fun w hw => ?_⟩
          by_cases ew : w = v
          · subst ew
            have : ixo (ns ++ [w]) w = ns.length := by have := idx_new (zs := []) hin; simpa using this
            rw [if_pos (by simp), this]
            simp [m1, qS]
          · have hq := hNm.2 w hw
            have e3 : qI (qsI (qsI m1 433 27 (nI (cs.length + 1))) 451 cs.length (nI ns.length)) 450 w = qI m 450 w := by simp [m1, qS, ew]
            rw [e3, hq]
            by_cases hin2 : w ∈ ns
            · rw [if_pos hin2, if_pos (by simp [hin2]), idx_app hin2]
            · rw [if_neg hin2, if_neg (by simp [hin2, ew])]
-- ===== what a unification answers =====
def One (I : Nat → Nat → Int32) (t : Tm) : Prop := I 433 27 = nI (tS t) ∧ Cd I 451 0 t
def okU (z : Option (Tm × Nat × Nat)) : Prop := ∃ t s v, z = some (t, s, v) ∧ s ≤ 39 ∧ v ≤ 12
def rc (z : Option (Tm × Nat × Nat)) : Int32 := match z with
  | none => -4
  | some (_, s, v) => if s ≤ 39 ∧ v ≤ 12 then 0 else -5
def rt (z : Option (Tm × Nat × Nat)) : Tm := match z with
  | none => .var 0
  | some (t, _, _) => t
theorem m_written {m : qM} {T : Nat → Tm} {nd n : Nat} {den : Nat → Tm} (hG : GG T nd) (hI : RI m T nd den) (hn : n < nd) (h450 : ∀ j, j < 78 → qI m 450 j = -1) : ∃ m2, fX10_written NF 433 (nI n) m = some (rc (some (cT (den n), tS (den n), nv (den n))), m2) ∧ Fx dWr m m2 ∧ (∀ j, j ≠ 24 → j ≠ 27 → qI m2 433 j = qI m 433 j) ∧ (tS (den n) ≤ 39 → One (qI m2) (cT (den n))) := by
  have hM := hI.1
  have k433 : qK m 433 = 10 := hM.1.1
  let m2 : qM := qsI (qsI m 433 27 0) 433 24 0
  have f2 : Fx dWr m m2 := (Fx.rf.sI (Or.inl rfl)).sI (Or.inl rfl)
  have s2 : ∀ j, j ≠ 24 → j ≠ 27 → qI m2 433 j = qI m 433 j := fun j h1 h2 => by simp [m2, qS, h1, h2]
  obtain ⟨m3, b, p1, p2, p3, p4⟩ := m_writes hG kR m2 n [] [] (hI.fw f2 (s2 21 (by decide) (by decide))) hn (by simp) (by unfold kR; simp) (by simp) ⟨by simp [m2, qS]; rfl, fun v hv => by simp only [m2, qS]; rw [if_neg (by simp)]; exact h450 v hv⟩ ⟨by simp [m2, qS]; rfl, fun i hi => by simp at hi⟩
  have f3 : Fx dWr m m3 := f2.tr p2
  have s3 : ∀ j, j ≠ 24 → j ≠ 27 → qI m3 433 j = qI m 433 j := fun j h1 h2 => (p3 j h1 h2).trans (s2 j h1 h2)
  have eK3 := f3.1
  have hbel : bel 99 (den n) := bel_mono (hI.2.2.1.2.2.1 n hn) (by omega)
  unfold fX10_written
  rcases p4 with ⟨rfl, q1, q2, q3⟩ | ⟨rfl, q1⟩
  · have hnl := nm_len (pol (den n)) []
    rw [pol_len] at hnl
    simp only [List.length_nil, List.nil_append, Nat.zero_add] at q1 q2 hnl
    have q24 := q3.1
    have hone : One (qI m3) (cT (den n)) := by
      refine ⟨?_, fun i hi => ?_⟩
      · rw [q2.1, cn_len, pol_len, tS_cT]
      · rw [Nat.zero_add, pol_cT hbel]
        exact q2.2 i (by rw [cn_len, pol_len, ← tS_cT]; exact hi)
    refine ⟨m3, ?_, f3, s3, fun _ => hone⟩
    by_cases h12 : nv (den n) ≤ 12
    · have c1 : ¬ (12 : Int32) < nI (nm [] (pol (den n))).length := fun e => by
        have := (nI_ltI (a := 12) (by omega) (by omega)).mp e
        unfold nv at h12; omega
      have e0 : rc (some (cT (den n), tS (den n), nv (den n))) = 0 := by simp [rc, q1, h12]
      rw [e0]
      repeat (first | refine EgR (by first | assumption | (simp only [qS, eK3]; assumption)) (by first | assumption | (simp only [qS, eK3]; assumption)) ?_ | refine EgI (by first | assumption | (simp only [qS, eK3]; assumption)) (by first | assumption | (simp only [qS, ↓reduceIte, eK3]; assumption) | exact rfl) ?_ | refine EpI (by first | assumption | (simp only [qS, eK3]; assumption)) (by first | with_reducible exact nI_s _ | with_reducible exact nI_add _ _ | with_reducible exact nI_p (by omega) | with_reducible exact nI_m1 (by omega) | with_reducible exact nI_s2 _ | exact rfl) ?_ | refine EaI (by first | assumption | (simp only [qS, eK3]; assumption)) (by first | with_reducible exact nI_s _ | with_reducible exact nI_add _ _ | with_reducible exact nI_p (by omega) | with_reducible exact nI_m1 (by omega) | with_reducible exact nI_s2 _ | exact rfl) (by first | assumption | omega | (simp only [qS, eK3]; omega)) (by omega) (by first | assumption | (simp only [qS, ↓reduceIte, eK3]; assumption) | exact rfl) ?_ | refine EwI (by first | assumption | (simp only [qS, eK3]; assumption)) (by first | with_reducible exact nI_s _ | with_reducible exact nI_add _ _ | with_reducible exact nI_p (by omega) | with_reducible exact nI_m1 (by omega) | with_reducible exact nI_s2 _ | exact rfl) (by first | assumption | omega | (simp only [qS, eK3]; omega)) (by omega) (by first | with_reducible exact nI_s _ | with_reducible exact nI_add _ _ | with_reducible exact nI_p (by omega) | with_reducible exact nI_m1 (by omega) | with_reducible exact nI_s2 _ | exact rfl) ?_ | refine EaR (by first | assumption | (simp only [qS, eK3]; assumption)) (by first | with_reducible exact nI_s _ | with_reducible exact nI_add _ _ | with_reducible exact nI_p (by omega) | with_reducible exact nI_m1 (by omega) | with_reducible exact nI_s2 _ | exact rfl) (by first | assumption | omega | (simp only [qS, eK3]; omega)) (by omega) (by first | assumption | (simp only [qS, eK3]; assumption)) ?_ | refine EC (by first | assumption | (simp only [qS, eK3]; assumption)) (by assumption) ?_ | refine EB (by assumption) ?_ | refine EIp (by first | assumption | decide) ?_ | refine EIn (by first | assumption | decide) ?_)
      rfl
    · have c1 : (12 : Int32) < nI (nm [] (pol (den n))).length := (nI_ltI (a := 12) (by omega) (by omega)).mpr (by unfold nv at h12; omega)
      have e0 : rc (some (cT (den n), tS (den n), nv (den n))) = -5 := by simp [rc, h12]
      rw [e0]
      repeat (first | refine EgR (by first | assumption | (simp only [qS, eK3]; assumption)) (by first | assumption | (simp only [qS, eK3]; assumption)) ?_ | refine EgI (by first | assumption | (simp only [qS, eK3]; assumption)) (by first | assumption | (simp only [qS, ↓reduceIte, eK3]; assumption) | exact rfl) ?_ | refine EpI (by first | assumption | (simp only [qS, eK3]; assumption)) (by first | with_reducible exact nI_s _ | with_reducible exact nI_add _ _ | with_reducible exact nI_p (by omega) | with_reducible exact nI_m1 (by omega) | with_reducible exact nI_s2 _ | exact rfl) ?_ | refine EaI (by first | assumption | (simp only [qS, eK3]; assumption)) (by first | with_reducible exact nI_s _ | with_reducible exact nI_add _ _ | with_reducible exact nI_p (by omega) | with_reducible exact nI_m1 (by omega) | with_reducible exact nI_s2 _ | exact rfl) (by first | assumption | omega | (simp only [qS, eK3]; omega)) (by omega) (by first | assumption | (simp only [qS, ↓reduceIte, eK3]; assumption) | exact rfl) ?_ | refine EwI (by first | assumption | (simp only [qS, eK3]; assumption)) (by first | with_reducible exact nI_s _ | with_reducible exact nI_add _ _ | with_reducible exact nI_p (by omega) | with_reducible exact nI_m1 (by omega) | with_reducible exact nI_s2 _ | exact rfl) (by first | assumption | omega | (simp only [qS, eK3]; omega)) (by omega) (by first | with_reducible exact nI_s _ | with_reducible exact nI_add _ _ | with_reducible exact nI_p (by omega) | with_reducible exact nI_m1 (by omega) | with_reducible exact nI_s2 _ | exact rfl) ?_ | refine EaR (by first | assumption | (simp only [qS, eK3]; assumption)) (by first | with_reducible exact nI_s _ | with_reducible exact nI_add _ _ | with_reducible exact nI_p (by omega) | with_reducible exact nI_m1 (by omega) | with_reducible exact nI_s2 _ | exact rfl) (by first | assumption | omega | (simp only [qS, eK3]; omega)) (by omega) (by first | assumption | (simp only [qS, eK3]; assumption)) ?_ | refine EC (by first | assumption | (simp only [qS, eK3]; assumption)) (by assumption) ?_ | refine EB (by assumption) ?_ | refine EIp (by first | assumption | decide) ?_ | refine EIn (by first | assumption | decide) ?_)
      rfl
  · simp only [List.length_nil, Nat.zero_add] at q1
    refine ⟨m3, ?_, f3, s3, fun h => by omega⟩
    have e0 : rc (some (cT (den n), tS (den n), nv (den n))) = -5 := by
      have : ¬ tS (den n) ≤ 39 := by omega
      simp [rc, this]
    rw [e0]
    repeat (first | refine EgR (by first | assumption | (simp only [qS, eK3]; assumption)) (by first | assumption | (simp only [qS, eK3]; assumption)) ?_ | refine EgI (by first | assumption | (simp only [qS, eK3]; assumption)) (by first | assumption | (simp only [qS, ↓reduceIte, eK3]; assumption) | exact rfl) ?_ | refine EpI (by first | assumption | (simp only [qS, eK3]; assumption)) (by first | with_reducible exact nI_s _ | with_reducible exact nI_add _ _ | with_reducible exact nI_p (by omega) | with_reducible exact nI_m1 (by omega) | with_reducible exact nI_s2 _ | exact rfl) ?_ | refine EaI (by first | assumption | (simp only [qS, eK3]; assumption)) (by first | with_reducible exact nI_s _ | with_reducible exact nI_add _ _ | with_reducible exact nI_p (by omega) | with_reducible exact nI_m1 (by omega) | with_reducible exact nI_s2 _ | exact rfl) (by first | assumption | omega | (simp only [qS, eK3]; omega)) (by omega) (by first | assumption | (simp only [qS, ↓reduceIte, eK3]; assumption) | exact rfl) ?_ | refine EwI (by first | assumption | (simp only [qS, eK3]; assumption)) (by first | with_reducible exact nI_s _ | with_reducible exact nI_add _ _ | with_reducible exact nI_p (by omega) | with_reducible exact nI_m1 (by omega) | with_reducible exact nI_s2 _ | exact rfl) (by first | assumption | omega | (simp only [qS, eK3]; omega)) (by omega) (by first | with_reducible exact nI_s _ | with_reducible exact nI_add _ _ | with_reducible exact nI_p (by omega) | with_reducible exact nI_m1 (by omega) | with_reducible exact nI_s2 _ | exact rfl) ?_ | refine EaR (by first | assumption | (simp only [qS, eK3]; assumption)) (by first | with_reducible exact nI_s _ | with_reducible exact nI_add _ _ | with_reducible exact nI_p (by omega) | with_reducible exact nI_m1 (by omega) | with_reducible exact nI_s2 _ | exact rfl) (by first | assumption | omega | (simp only [qS, eK3]; omega)) (by omega) (by first | assumption | (simp only [qS, eK3]; assumption)) ?_ | refine EC (by first | assumption | (simp only [qS, eK3]; assumption)) (by assumption) ?_ | refine EB (by assumption) ?_ | refine EIp (by first | assumption | decide) ?_ | refine EIn (by first | assumption | decide) ?_)
    rfl
