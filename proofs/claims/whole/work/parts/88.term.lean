section
-- ===== terms: where a text fails =====
def tE : Nat → Bool → Nat → List Nat → Option Nat
  | d, e, k, [] => if d = 0 ∧ e = false then none else some k
  | d, e, k, c :: cs => if c = 40 then (if d < 8 then tE (d + 1) true (k + 1) cs else some k) else if c = 41 then (if d = 0 then some k else if e = true then some k else tE (d - 1) false (k + 1) cs) else if ixL c < 6 then tE d false (k + 1) cs else some k
theorem tE_nil {d k : Nat} {e : Bool} : tE d e k [] = if d = 0 ∧ e = false then none else some k := rfl
theorem tE_cons {d k c : Nat} {e : Bool} {cs : List Nat} : tE d e k (c :: cs) = if c = 40 then (if d < 8 then tE (d + 1) true (k + 1) cs else some k) else if c = 41 then (if d = 0 then some k else if e = true then some k else tE (d - 1) false (k + 1) cs) else if ixL c < 6 then tE d false (k + 1) cs else some k := rfl
theorem tE_len : ∀ (cs : List Nat) (d : Nat) (e : Bool) (k p : Nat), tE d e k cs = some p → k ≤ p ∧ p ≤ k + cs.length := by
  intro cs
  induction cs with
  | nil =>
    intro d e k p h
    rw [tE_nil] at h
    split at h
    · cases h
    · injection h with h; simp; omega
  | cons c cs ih =>
    intro d e k p h
    rw [tE_cons] at h
    have hs : some k = some p → k ≤ p ∧ p ≤ k + (c :: cs).length := fun h => by injection h with h; simp; omega
    have hr : ∀ d e, tE d e (k + 1) cs = some p → k ≤ p ∧ p ≤ k + (c :: cs).length := fun d e h => by have := ih d e (k + 1) p h; simp; omega
    split at h
    · split at h
      · exact hr _ _ h
      · exact hs h
    · split at h
      · split at h
        · exact hs h
        · split at h
          · exact hs h
          · exact hr _ _ h
      · split at h
        · exact hr _ _ h
        · exact hs h
def arN (c : Nat) : Nat := if c = 66 then 3 else if c = 67 then 3 else if c = 73 then 1 else if c = 75 then 2 else if c = 83 then 3 else if c = 87 then 2 else 0
theorem arN_ix : ∀ c, c < 128 → (arN c = 0 ↔ ¬ ixL c < 6) := by decide
theorem arN_lt (c : Nat) : arN c ≤ 3 := by
  unfold arN
  repeat' split
  all_goals omega
theorem c_arity {N c : Nat} {m : qM} (hc : c < 128) : fX6_arityOf N (nI c) m = some (nI (arN c), m) := by
  have e : ∀ d, d < 128 → (nI c = nI d ↔ c = d) := fun d hd => nI_eq (by omega) (by omega)
  have e66 : (nI c = (66 : Int32)) ↔ c = 66 := e 66 (by omega)
  have e67 : (nI c = (67 : Int32)) ↔ c = 67 := e 67 (by omega)
  have e73 : (nI c = (73 : Int32)) ↔ c = 73 := e 73 (by omega)
  have e75 : (nI c = (75 : Int32)) ↔ c = 75 := e 75 (by omega)
  have e83 : (nI c = (83 : Int32)) ↔ c = 83 := e 83 (by omega)
  have e87 : (nI c = (87 : Int32)) ↔ c = 87 := e 87 (by omega)
  unfold fX6_arityOf arN
  simp only [e66, e67, e73, e75, e83, e87]
  by_cases h1 : c = 66
  · simp only [h1, ↓reduceIte]; rfl
  by_cases h2 : c = 67
  · simp only [h1, h2, ↓reduceIte]; rfl
  by_cases h3 : c = 73
  · simp only [h1, h2, h3, ↓reduceIte]; rfl
  by_cases h4 : c = 75
  · simp only [h1, h2, h3, h4, ↓reduceIte]; rfl
  by_cases h5 : c = 83
  · simp only [h1, h2, h3, h4, h5, ↓reduceIte]; rfl
  by_cases h6 : c = 87
  · simp only [h1, h2, h3, h4, h5, h6, ↓reduceIte]; rfl
  simp only [h1, h2, h3, h4, h5, h6, ↓reduceIte]; rfl
def bI (e : Bool) : Int32 := if e = true then 1 else 0
theorem c_termErr {m : qM} {s : ST} (h : CP m s) (hs : okS s) : fX9_termError NF 0 m = some (erI (tE 0 true 0 (sTx s)), m) := by
  obtain ⟨hX, hT, h80, -⟩ := h
  have hch := hs.2.1
  obtain ⟨k0, r00, -⟩ := hX.c0
  have k1 := hX.t1.1
  have hlen : fX7_length NF 1 m = some (nI (sTx s).length, m) := by rw [fX7_length_eq k1, hT.1]
  obtain ⟨b, e1, e2⟩ := walk (l := fun g (x : Int32 × Int32 × Int32) => lX9_termError_6 NF 0 g x.1 x.2.1 x.2.2 m) (J := fun r x => ∃ k d e, k + r = (sTx s).length ∧ d ≤ 8 ∧ x = (nI d, bI e, nI k) ∧ tE d e k ((sTx s).drop k) = tE 0 true 0 (sTx s)) (Q := fun b => (∃ d e, d ≤ 8 ∧ b = .inl (nI d, bI e, m) ∧ tE 0 true 0 (sTx s) = if d = 0 ∧ e = false then none else some (sTx s).length) ∨ ∃ p, b = .inr (nI p, m) ∧ tE 0 true 0 (sTx s) = some p) (fun g r x hj => by
    obtain ⟨k, d, e, hk, hd, rfl, hp⟩ := hj
    have hat := fX7_at_eq (N := NF) hX.t1 hT (show k < (sTx s).length by omega)
    have hc := hch _ (mem_getD (show k < (sTx s).length by omega))
    rw [drop_cons (by omega), tE_cons] at hp
    generalize hcc : (sTx s).getD k 0 = c at *
    have hpre : ∀ R, (if nI c = (40 : Int32) then (if nI d < (8 : Int32) then lX9_termError_6 NF 0 g (nI (d + 1)) (1 : Int32) (nI (k + 1)) m else some (.inr (nI k, m))) else (if nI c = (41 : Int32) then (if nI d = 0 then some (.inr (nI k, m)) else (if bI e = 0 then lX9_termError_6 NF 0 g (nI d + (-1 : Int32)) (bI e) (nI (k + 1)) m else some (.inr (nI k, m)))) else (if nI (arN c) ≤ 0 then some (.inr (nI k, m)) else lX9_termError_6 NF 0 g (nI d) (0 : Int32) (nI (k + 1)) m))) = R → lX9_termError_6 NF 0 (g + 1) (nI d) (bI e) (nI k) m = R := by
      intro R hR
      conv => lhs; unfold lX9_termError_6 kX9_termError_88
      refine EgR k0 r00 ?_
      refine EC k1 hlen ?_
      refine EIn (fun z => by have := (nI_leI (by omega) (by omega)).mp z; omega) ?_
      refine EgR k0 r00 ?_
      refine EC k1 hat ?_
      by_cases c1 : nI c = (40 : Int32)
      · rw [if_pos c1] at hR
        refine EIp c1 ?_
        rw [nI_s, nI_s]
        exact hR
      · rw [if_neg c1] at hR
        refine EIn c1 ?_
        by_cases c2 : nI c = (41 : Int32)
        · rw [if_pos c2] at hR
          refine EIp c2 ?_
          rw [nI_s]
          exact hR
        · rw [if_neg c2] at hR
          refine EIn c2 ?_
          refine EB (c_arity (by omega)) ?_
          rw [nI_s]
          exact hR
    have e40 : (nI c = (40 : Int32)) ↔ c = 40 := nI_eq (b := 40) (by omega) (by omega)
    have e41 : (nI c = (41 : Int32)) ↔ c = 41 := nI_eq (b := 41) (by omega) (by omega)
    have ed : (nI d = (0 : Int32)) ↔ d = 0 := nI_eq (b := 0) (by omega) (by omega)
    have ed8 : (nI d < (8 : Int32)) ↔ d < 8 := nI_ltI (b := 8) (by omega) (by omega)
    by_cases c1 : c = 40
    · rw [if_pos c1] at hp
      by_cases d8 : d < 8
      · rw [if_pos d8] at hp
        exact Or.inl ⟨(nI (d + 1), 1, nI (k + 1)), ⟨k + 1, d + 1, true, by omega, by omega, rfl, hp⟩, hpre _ (by rw [if_pos (e40.mpr c1), if_pos (ed8.mpr d8)])⟩
      · rw [if_neg d8] at hp
        exact Or.inr ⟨_, hpre _ (by rw [if_pos (e40.mpr c1), if_neg (fun z => d8 (ed8.mp z))]), Or.inr ⟨k, rfl, hp.symm⟩⟩
    · rw [if_neg c1] at hp
      have n40 := fun z => c1 (e40.mp z)
      by_cases c2 : c = 41
      · rw [if_pos c2] at hp
        by_cases d0 : d = 0
        · rw [if_pos d0] at hp
          exact Or.inr ⟨_, hpre _ (by rw [if_neg n40, if_pos (e41.mpr c2), if_pos (ed.mpr d0)]), Or.inr ⟨k, rfl, hp.symm⟩⟩
        · rw [if_neg d0] at hp
          by_cases e0 : e = true
          · rw [if_pos e0] at hp
            exact Or.inr ⟨_, hpre _ (by rw [if_neg n40, if_pos (e41.mpr c2), if_neg (fun z => d0 (ed.mp z)), e0]; exact if_neg i10), Or.inr ⟨k, rfl, hp.symm⟩⟩
          · have e0' : e = false := by simpa using e0
            rw [if_neg e0] at hp
            exact Or.inl ⟨(nI (d - 1), 0, nI (k + 1)), ⟨k + 1, d - 1, false, by omega, by omega, rfl, hp⟩, hpre _ (by rw [if_neg n40, if_pos (e41.mpr c2), if_neg (fun z => d0 (ed.mp z)), e0', nI_p (by omega)]; exact if_pos rfl)⟩
      · rw [if_neg c2] at hp
        have n41 := fun z => c2 (e41.mp z)
        have ha := arN_ix c (by omega)
        have hal := arN_lt c
        by_cases c3 : ixL c < 6
        · rw [if_pos c3] at hp
          exact Or.inl ⟨(nI d, 0, nI (k + 1)), ⟨k + 1, d, false, by omega, by omega, rfl, hp⟩, hpre _ (by rw [if_neg n40, if_neg n41]; exact if_neg (fun z => by have := (nI_leI (b := 0) (by omega) (by omega)).mp z; omega))⟩
        · rw [if_neg c3] at hp
          exact Or.inr ⟨_, hpre _ (by rw [if_neg n40, if_neg n41]; exact if_pos ((nI_leI (b := 0) (by omega) (by omega)).mpr (by omega))), Or.inr ⟨k, rfl, hp.symm⟩⟩) (fun g x hj => by
    obtain ⟨k, d, e, hk, hd, rfl, hp⟩ := hj
    obtain rfl : k = (sTx s).length := by omega
    rw [List.drop_length, tE_nil] at hp
    refine ⟨.inl (nI d, bI e, m), ?_, Or.inl ⟨d, e, hd, rfl, hp.symm⟩⟩
    show lX9_termError_6 NF 0 (g + 1) (nI d) (bI e) (nI (sTx s).length) m = _
    unfold lX9_termError_6
    refine EgR k0 r00 ?_
    refine EC k1 hlen ?_
    refine EIp ((nI_leI (by omega) (by omega)).mpr (Nat.le_refl _)) ?_
    rfl) (sTx s).length NF (nI 0, 1, nI 0) (by unfold NF; omega) ⟨0, 0, true, by omega, by omega, rfl, rfl⟩
  have hlast : kX9_termError_106 NF 0 m = some (nI (sTx s).length, m) := by
    unfold kX9_termError_106
    refine EgR k0 r00 ?_
    refine EC k1 hlen ?_
    rfl
  have e1' : lX9_termError_6 NF 0 NF 0 1 0 m = some b := e1
  unfold fX9_termError
  rcases e2 with ⟨d, e, hd, rfl, hp⟩ | ⟨p, rfl, hp⟩
  · refine ETl e1' ?_
    rw [hp]
    by_cases d0 : d = 0
    · subst d0
      refine EIp rfl ?_
      cases e with
      | false =>
        refine EIp rfl ?_
        rfl
      | true =>
        refine EIn i10 ?_
        exact hlast
    · have hne : ¬ (d = 0 ∧ e = false) := fun z => d0 z.1
      rw [if_neg hne]
      refine EIn (fun z => d0 ((nI_eq (b := 0) (by omega) (by omega)).mp z)) ?_
      exact hlast
  · refine ETr e1' ?_
    rw [hp]
    rfl
theorem m_isTerm {m : qM} {s : ST} (h : MP m s) (hs : okS s) : ∃ m2, Fx (fun a => a = 433) m m2 ∧ (∀ j, j ≠ 9 → qI m2 433 j = qI m 433 j) ∧ ((∃ p, tE 0 true 0 (sTx s) = some p ∧ fX10_isTerm NF 433 m = some (0, m2) ∧ qI m2 433 9 = nI p) ∨ (tE 0 true 0 (sTx s) = none ∧ fX10_isTerm NF 433 m = some (1, m2))) := by
  have hch := hs.2.1
  obtain ⟨hM, -, hT, -⟩ := h
  have h80 := hT.2.1
  obtain ⟨k433, r6, k439, n439, -⟩ := hM.t
  obtain ⟨b, e1, e2⟩ := walk (l := fun g (x : Int32 × Int32 × Int32 × qM) => lX10_isTerm_6 NF 433 g x.1 x.2.1 x.2.2.1 x.2.2.2) (J := fun r x => ∃ k d e m', k + r = (sTx s).length ∧ d ≤ 8 ∧ x = (nI d, bI (!e), nI k, m') ∧ Fx (fun a => a = 433) m m' ∧ (∀ j, j ≠ 9 → qI m' 433 j = qI m 433 j) ∧ tE d e k ((sTx s).drop k) = tE 0 true 0 (sTx s)) (Q := fun b => ∃ m', Fx (fun a => a = 433) m m' ∧ (∀ j, j ≠ 9 → qI m' 433 j = qI m 433 j) ∧ ((∃ d e, d ≤ 8 ∧ b = .inl (nI d, bI (!e), m') ∧ tE 0 true 0 (sTx s) = if d = 0 ∧ e = false then none else some (sTx s).length) ∨ ∃ p, b = .inr (0, m') ∧ qI m' 433 9 = nI p ∧ tE 0 true 0 (sTx s) = some p)) (fun g r x hj => by
    obtain ⟨k, d, e, m', hk, hd, rfl, hF, hj9, hp⟩ := hj
    obtain ⟨K433, R6, K439, N439, -⟩ := (hF.M hM).t
    have h7 : qI m' 433 7 = nI (sTx s).length := by rw [hj9 7 (by decide)]; exact hT.1
    have hat : qI m' 439 k = nI ((sTx s).getD k 0) := by rw [hF.i (by omega)]; exact (hT.2.2 k (by omega)).1
    have hc := hch _ (mem_getD (show k < (sTx s).length by omega))
    rw [drop_cons (by omega), tE_cons] at hp
    generalize hcc : (sTx s).getD k 0 = c at *
    let m4 : qM := qsI m' 433 9 (nI k)
    have f4 : Fx (fun a => a = 433) m m4 := hF.sI rfl
    have j4 : ∀ j, j ≠ 9 → qI m4 433 j = qI m 433 j := fun j hj => by simp only [m4, qS, hj, ↓reduceIte]; exact hj9 j hj
    have n4 : qI m4 433 9 = nI k := by simp [m4, qS]
    have hix := s_ix (c := c) (m := m4) (by omega)
    have hpre : ∀ R, (if nI c = (40 : Int32) then (if nI d = (8 : Int32) then some (.inr ((0 : Int32), m4)) else lX10_isTerm_6 NF 433 g (nI (d + 1)) (0 : Int32) (nI (k + 1)) m4) else (if nI c = (41 : Int32) then (if nI d = 0 then some (.inr ((0 : Int32), m4)) else (if bI (!e) = 0 then some (.inr ((0 : Int32), m4)) else lX10_isTerm_6 NF 433 g (nI d + (-1 : Int32)) (bI (!e)) (nI (k + 1)) m4)) else (if 0 ≤ (if ixL c < 6 then nI (ixL c) else -1) then lX10_isTerm_6 NF 433 g (nI d) (1 : Int32) (nI (k + 1)) m4 else some (.inr ((0 : Int32), m4))))) = R → lX10_isTerm_6 NF 433 (g + 1) (nI d) (bI (!e)) (nI k) m' = R := by
      intro R hR
      conv => lhs; unfold lX10_isTerm_6 kX10_isTerm_87
      refine EgI K433 h7 ?_
      refine EIn (fun z => by have := (nI_leI (by omega) (by omega)).mp z; omega) ?_
      refine EgR K433 R6 ?_
      refine EaI K439 rfl (by omega) (by omega) hat ?_
      refine EpI K433 rfl ?_
      by_cases c1 : nI c = (40 : Int32)
      · rw [if_pos c1] at hR
        refine EIp c1 ?_
        rw [nI_s, nI_s]
        exact hR
      · rw [if_neg c1] at hR
        refine EIn c1 ?_
        by_cases c2 : nI c = (41 : Int32)
        · rw [if_pos c2] at hR
          refine EIp c2 ?_
          rw [nI_s]
          exact hR
        · rw [if_neg c2] at hR
          refine EIn c2 ?_
          refine EB (show qChs 11 (fJ0_indexOf_0f7a4 NF 11 (nI c) m4) = some (if ixL c < 6 then nI (ixL c) else -1, m4) from hix) ?_
          rw [nI_s]
          exact hR
    have e40 : (nI c = (40 : Int32)) ↔ c = 40 := nI_eq (b := 40) (by omega) (by omega)
    have e41 : (nI c = (41 : Int32)) ↔ c = 41 := nI_eq (b := 41) (by omega) (by omega)
    have ed : (nI d = (0 : Int32)) ↔ d = 0 := nI_eq (b := 0) (by omega) (by omega)
    have ed8 : (nI d = (8 : Int32)) ↔ d = 8 := nI_eq (b := 8) (by omega) (by omega)
    by_cases c1 : c = 40
    · rw [if_pos c1] at hp
      by_cases d8 : d < 8
      · rw [if_pos d8] at hp
        exact Or.inl ⟨(nI (d + 1), 0, nI (k + 1), m4), ⟨k + 1, d + 1, true, m4, by omega, by omega, rfl, f4, j4, hp⟩, hpre _ (by rw [if_pos (e40.mpr c1), if_neg (fun z => by have := ed8.mp z; omega)])⟩
      · rw [if_neg d8] at hp
        exact Or.inr ⟨_, hpre _ (by rw [if_pos (e40.mpr c1), if_pos (ed8.mpr (by omega))]), m4, f4, j4, Or.inr ⟨k, rfl, n4, hp.symm⟩⟩
    · rw [if_neg c1] at hp
      have n40 := fun z => c1 (e40.mp z)
      by_cases c2 : c = 41
      · rw [if_pos c2] at hp
        by_cases d0 : d = 0
        · rw [if_pos d0] at hp
          exact Or.inr ⟨_, hpre _ (by rw [if_neg n40, if_pos (e41.mpr c2), if_pos (ed.mpr d0)]), m4, f4, j4, Or.inr ⟨k, rfl, n4, hp.symm⟩⟩
        · rw [if_neg d0] at hp
          by_cases e0 : e = true
          · rw [if_pos e0] at hp
            exact Or.inr ⟨_, hpre _ (by rw [if_neg n40, if_pos (e41.mpr c2), if_neg (fun z => d0 (ed.mp z)), e0]; exact if_pos rfl), m4, f4, j4, Or.inr ⟨k, rfl, n4, hp.symm⟩⟩
          · have e0' : e = false := by simpa using e0
            rw [if_neg e0] at hp
            exact Or.inl ⟨(nI (d - 1), 1, nI (k + 1), m4), ⟨k + 1, d - 1, false, m4, by omega, by omega, rfl, f4, j4, hp⟩, hpre _ (by rw [if_neg n40, if_pos (e41.mpr c2), if_neg (fun z => d0 (ed.mp z)), e0', nI_p (by omega)]; exact if_neg i10)⟩
      · rw [if_neg c2] at hp
        have n41 := fun z => c2 (e41.mp z)
        by_cases c3 : ixL c < 6
        · rw [if_pos c3] at hp
          exact Or.inl ⟨(nI d, 1, nI (k + 1), m4), ⟨k + 1, d, false, m4, by omega, by omega, rfl, f4, j4, hp⟩, hpre _ (by rw [if_neg n40, if_neg n41, if_pos c3]; exact if_pos (nI_g0 (by omega)))⟩
        · rw [if_neg c3] at hp
          exact Or.inr ⟨_, hpre _ (by rw [if_neg n40, if_neg n41, if_neg c3]; exact if_neg (by decide)), m4, f4, j4, Or.inr ⟨k, rfl, n4, hp.symm⟩⟩) (fun g x hj => by
    obtain ⟨k, d, e, m', hk, hd, rfl, hF, hj9, hp⟩ := hj
    obtain rfl : k = (sTx s).length := by omega
    obtain ⟨K433, R6, K439, N439, -⟩ := (hF.M hM).t
    have h7 : qI m' 433 7 = nI (sTx s).length := by rw [hj9 7 (by decide)]; exact hT.1
    rw [List.drop_length, tE_nil] at hp
    refine ⟨.inl (nI d, bI (!e), m'), ?_, m', hF, hj9, Or.inl ⟨d, e, hd, rfl, hp.symm⟩⟩
    show lX10_isTerm_6 NF 433 (g + 1) (nI d) (bI (!e)) (nI (sTx s).length) m' = _
    unfold lX10_isTerm_6
    refine EgI K433 h7 ?_
    refine EIp ((nI_leI (by omega) (by omega)).mpr (Nat.le_refl _)) ?_
    rfl) (sTx s).length NF (nI 0, 0, nI 0, m) (by unfold NF; omega) ⟨0, 0, true, m, by omega, by omega, rfl, Fx.rf, fun _ _ => rfl, rfl⟩
  have e1' : lX10_isTerm_6 NF 433 NF 0 0 0 m = some b := e1
  unfold fX10_isTerm
  obtain ⟨m', hF, hj9, e2⟩ := e2
  rcases e2 with ⟨d, e, hd, rfl, hp⟩ | ⟨p, rfl, hp9, hp⟩
  · have K433 := (hF.M hM).t.1
    have h7 : qI m' 433 7 = nI (sTx s).length := by rw [hj9 7 (by decide)]; exact hT.1
    let m4 : qM := qsI m' 433 9 (nI (sTx s).length)
    have f4 : Fx (fun a => a = 433) m m4 := hF.sI rfl
    have j4 : ∀ j, j ≠ 9 → qI m4 433 j = qI m 433 j := fun j hj => by simp only [m4, qS, hj, ↓reduceIte]; exact hj9 j hj
    have n4 : qI m4 433 9 = nI (sTx s).length := by simp [m4, qS]
    refine ⟨m4, f4, j4, ?_⟩
    have hpre : ∀ R, (if bI (!e) = 0 then some ((0 : Int32), m4) else if nI d = 0 then some ((1 : Int32), m4) else some ((0 : Int32), m4)) = R → (qTh (lX10_isTerm_6 NF 433 NF 0 0 0 m) (fun o1 => (qgI o1.2.2 433 10 7).bind fun x2 => (qpI o1.2.2 433 10 9 x2).bind fun m3 => if o1.2.1 = 0 then some ((0 : Int32), m3) else if o1.1 = 0 then some ((1 : Int32), m3) else some ((0 : Int32), m3)) (fun r => r)) = R := by
      intro R hR
      refine ETl e1' ?_
      refine EgI K433 h7 ?_
      refine EpI K433 rfl ?_
      exact hR
    cases e with
    | true =>
      left
      rw [if_neg (fun z => by cases z.2)] at hp
      exact ⟨_, hp, hpre _ (if_pos rfl), n4⟩
    | false =>
      by_cases d0 : d = 0
      · right
        rw [if_pos ⟨d0, rfl⟩] at hp
        exact ⟨hp, hpre _ (by rw [d0]; exact (if_neg i10).trans (if_pos rfl))⟩
      · left
        rw [if_neg (fun z => d0 z.1)] at hp
        exact ⟨_, hp, hpre _ ((if_neg i10).trans (if_neg (fun z => d0 ((nI_eq (b := 0) (by omega) (by omega)).mp z)))), n4⟩
  · refine ⟨m', hF, hj9, Or.inl ⟨p, hp, ?_, hp9⟩⟩
    refine ETr e1' ?_
    rfl
end
