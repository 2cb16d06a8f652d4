section
-- ===== the class writes a proof =====
def remP (en : Nat → Option (Nat × Nat)) : List Nat → List Nat
  | [] => []
  | k :: st => pfT en k ++ remP en st
theorem remP_len {en : Nat → Option (Nat × Nat)} {n : Nat} (h : enOK en n) : ∀ (st : List Nat), (∀ k, k ∈ st → k < n) → st.length ≤ (remP en st).length
  | [], _ => Nat.le_refl _
  | k :: st, hk => by
    have h1 := remP_len h st (fun j hj => hk j (by simp [hj]))
    have h2 := pf_len h (k + 1) k (by omega) (hk k (by simp))
    simp only [remP, List.length_append, List.length_cons]
    omega
theorem c_isAx {m : qM} {s : ST} {j : Nat} (h : CP m s) (hs : okS s) (hj : j < sN s) : fX1_isAxiom NF 5 (nI j) m = some (if sEn s j = none then 1 else 0, m) := by
  have hn := hs.1.1
  obtain ⟨k5, r50, r51, r52, r53, r54, r55, k6, n6, k7, n7, -⟩ := h.1.ls
  have hl := (h.2.2.2.2.1.2 j hj).2.1
  unfold fX1_isAxiom
  refine EgR k5 r51 ?_
  refine EaI k7 rfl (by omega) (by omega) hl ?_
  cases he : sEn s j with
  | none =>
    rw [if_pos rfl]
    refine EIp rfl ?_
    rfl
  | some p =>
    obtain ⟨a, b⟩ := p
    have o := hs.1.2.1 j a b hj he
    rw [if_neg (Option.some_ne_none (a, b))]
    refine EIn (show ¬ mjv (some (a, b)) = (-4 : Int32) from fun z => ?_) ?_
    · have : (0 : Int32) ≤ mjv (some (a, b)) := nI_g0 (i := a) (by omega)
      rw [z] at this
      exact absurd this (by decide)
    rfl
theorem c_pfLoop {s : ST} (hs : okS s) : ∀ (n : Nat) (st ls : List Nat) (m : qM), CP m (wOu s ls) → (∀ k, k ∈ st → k < sN s ∧ rLast (sEn s) k ≤ 8) → StP (qI m) (st.map some) → ls.length + (remP (sEn s) st).length ≤ 99 → (∀ c, c ∈ ls → c < 128) → (remP (sEn s) st).length < n →
    ∃ m2, lX9_outputProof_18 NF 0 n (nI st.length) (nI ls.length) m = some m2 ∧ CP m2 (wOu s (ls ++ remP (sEn s) st)) ∧ Gc m m2 := by
  have hn := hs.1.1
  intro n
  induction n with
  | zero => intro st ls m _ _ _ _ _ h; omega
  | succ n ih =>
    intro st ls m hP hst hR hlen hch hrn
    cases st with
    | nil =>
      refine ⟨m, ?_, by simpa [remP] using hP, Fx.rf⟩
      conv => lhs; unfold lX9_outputProof_18
      refine EIn (fun z => by have := (nI_leI (a := 120) (by omega) (by omega)).mp z; omega) ?_
      refine EIp (show nI 0 ≤ 0 by decide) ?_
      rfl
    | cons k st =>
      obtain ⟨hk, hk8⟩ := hst k (by simp)
      have hst2 : ∀ j, j ∈ st → j < sN s ∧ rLast (sEn s) j ≤ 8 := fun j hj => hst j (by simp [hj])
      have hpl := pf_len hs.1.2.1 (k + 1) k (by omega) hk
      have hrl := remP_len hs.1.2.1 st (fun j hj => (hst2 j hj).1)
      simp only [remP, List.length_append] at hlen hrn
      have hX := hP.1
      obtain ⟨k0, r00, r01, r02, r03, r04, r05, r06, r07, r08, r09, r010, r011, r012⟩ := hX.c0
      obtain ⟨-, -, k432, n432⟩ := hX.r31
      have k5 := hX.ls.1
      have hOu : CTx (qI m) 3 ls := hP.2.2.2.1
      have hsW : okS (wOu s ls) := ⟨hs.1, hs.2.1, by show ls.length ≤ 120; omega, hch⟩
      have hax := c_isAx (j := k) hP hsW hk
      have e1 : nI (k :: st).length + (-1 : Int32) = nI st.length := by rw [nI_p (by simp)]; simp
      have htop : qI m 432 st.length = nI k := by have := hR.1; simpa [enP] using this
      have hpre : ∀ R, (if (if sEn s k = none then (1 : Int32) else 0) = 0 then (qgR m 0 9 1).bind fun x5 => (qChk m x5 7 (fX7_add NF x5 (68 : Int32) m)).bind fun b6 => (qgR b6 0 9 12).bind fun x7 => (qgR b6 0 9 2).bind fun x8 => (qChk b6 x8 1 (fX1_minor NF x8 (nI k) b6)).bind fun b9 => (qwI b9.2 x7 12 (nI st.length) b9.1).bind fun m10 => (qgR m10 0 9 12).bind fun x11 => (qgR m10 0 9 2).bind fun x12 => (qChk m10 x12 1 (fX1_major NF x12 (nI k) m10)).bind fun b13 => (qwI b13.2 x11 12 (nI st.length + (1 : Int32)) b13.1).bind fun m14 => lX9_outputProof_18 NF 0 n (nI st.length + (2 : Int32)) (nI (ls.length + 1)) m14 else (qgR m 0 9 1).bind fun x15 => (qChk m x15 7 (fX7_add NF x15 ((((49 : Int32) + nI k).toUInt32 % 65536).toInt32) m)).bind fun b16 => lX9_outputProof_18 NF 0 n (nI st.length) (nI (ls.length + 1)) b16) = R → lX9_outputProof_18 NF 0 (n + 1) (nI (k :: st).length) (nI ls.length) m = R := by
        intro R hR2
        conv => lhs; unfold lX9_outputProof_18 kX9_outputProof_111
        refine EIn (fun z => by have := (nI_leI (a := 120) (by omega) (by omega)).mp z; omega) ?_
        refine EIn (fun z => by have := (nI_leI (b := 0) (by simp; omega) (by omega)).mp z; simp at this) ?_
        refine EgR k0 r012 ?_
        refine EaI k432 e1 (show st.length < qN m 432 by omega) (by omega) htop ?_
        refine EgR k0 r02 ?_
        refine EC k5 hax ?_
        rw [e1, nI_s ls.length]
        exact hR2
      cases he : sEn s k with
      | none =>
        obtain ⟨p1, p2, p3⟩ := pf_none he
        have hk8' : k ≤ 8 := by rw [p3] at hk8; exact hk8
        have hadd := fX7_add_eq (N := NF) (c := 49 + k) hX.t3 hOu (by omega) (by omega)
        let m1 : qM := qsI (qsI m (3 + 1) ls.length (nI (49 + k))) 3 1 (nI (ls.length + 1))
        have f1 : Fx (fun a => a = 3 ∨ a = 4) m m1 := (Fx.rf.sI (Or.inr rfl)).sI (Or.inl rfl)
        have hP1 : CP m1 (wOu s (ls ++ [49 + k])) := CP_out (s := wOu s ls) hP hn f1 (CTx_add hOu (by omega) (by omega))
        obtain ⟨m2, q1, q2, q3⟩ := ih st (ls ++ [49 + k]) m1 hP1 hst2 (StP_of hR.2 (fun j hj => by rw [f1.i (by omega)])) (by rw [List.length_append]; simp; omega) (fun c hc => by
          rcases List.mem_append.mp hc with hc | hc
          · exact hch c hc
          · rw [List.mem_singleton] at hc; omega) (by omega)
        refine ⟨m2, hpre _ ?_, ?_, (f1.mono (fun a ha => by omega)).tr q3⟩
        · rw [he, if_pos rfl]
          refine EIn i10 ?_
          refine EgR k0 r01 ?_
          rw [show (((49 : Int32) + nI k).toUInt32 % 65536).toInt32 = nI (49 + k) by rw [show (49 : Int32) + nI k = nI (49 + k) from nI_add 49 k]; exact ch_mod (by omega)]
          refine EC hX.t3.1 hadd ?_
          rw [List.length_append] at q1
          exact q1
        · simp only [remP, p1]
          rw [List.append_assoc] at q2
          exact q2
      | some p =>
        obtain ⟨a, b⟩ := p
        obtain ⟨o1, o2⟩ := hs.1.2.1 k a b hk he
        obtain ⟨p1, p2, p3⟩ := pf_some hs.1.2.1 hk he
        have hla := pf_len hs.1.2.1 (a + 1) a (by omega) (by omega)
        have hlb := pf_len hs.1.2.1 (b + 1) b (by omega) (by omega)
        have hadd := fX7_add_eq (N := NF) (c := 68) hX.t3 hOu (by omega) (by omega)
        let m1 : qM := qsI (qsI m (3 + 1) ls.length (nI 68)) 3 1 (nI (ls.length + 1))
        have f1 : Fx (fun a => a = 3 ∨ a = 4) m m1 := (Fx.rf.sI (Or.inr rfl)).sI (Or.inl rfl)
        have hP1 : CP m1 (wOu s (ls ++ [68])) := CP_out (s := wOu s ls) hP hn f1 (CTx_add hOu (by omega) (by omega))
        have hX1 := hP1.1
        obtain ⟨K0, R00, R01, R02, R03, R04, R05, R06, R07, R08, R09, R010, R011, R012⟩ := hX1.c0
        obtain ⟨-, -, K432, N432⟩ := hX1.r31
        have hmin := c_l_minor hX1 hP1.2.2.2.2.1 hn hk
        have hmin' : fX1_minor NF 5 (nI k) m1 = some (nI b, m1) := by
          have e : mnv (sEn s k) = nI b := by rw [he]; rfl
          rw [← e]; exact hmin
        let m2 : qM := qsI m1 432 st.length (nI b)
        have f2 : Fx (fun a => a = 432) m1 m2 := Fx.rf.sI rfl
        have hP2 : CP m2 (wOu s (ls ++ [68])) := CP_fx hP1 hn f2 (fun a ha => by omega)
        have hmaj := c_l_major hP2.1 hP2.2.2.2.2.1 hn hk
        have hmaj' : fX1_major NF 5 (nI k) m2 = some (nI a, m2) := by
          have e : mjv (sEn s k) = nI a := by rw [he]; rfl
          rw [← e]; exact hmaj
        let m3 : qM := qsI m2 432 (st.length + 1) (nI a)
        have f3 : Fx (fun a => a = 432) m2 m3 := Fx.rf.sI rfl
        have hP3 : CP m3 (wOu s (ls ++ [68])) := CP_fx hP2 hn f3 (fun a ha => by omega)
        have hR1 : StP (qI m1) (st.map some) := StP_of hR.2 (fun j hj => by rw [f1.i (by omega)])
        have hR2 : StP (qI m2) ((b :: st).map some) := by
          have := StP_push (x := some b) (v := nI b) hR1 rfl
          rw [List.length_map] at this
          exact this
        have hR3 : StP (qI m3) ((a :: b :: st).map some) := by
          have := StP_push (x := some a) (v := nI a) hR2 rfl
          rw [List.length_map] at this
          exact this
        have hrem : remP (sEn s) (a :: b :: st) = pfT (sEn s) a ++ (pfT (sEn s) b ++ remP (sEn s) st) := rfl
        obtain ⟨m4, q1, q2, q3⟩ := ih (a :: b :: st) (ls ++ [68]) m3 hP3 (fun j hj => by
          rcases List.mem_cons.mp hj with rfl | hj
          · exact ⟨by omega, by omega⟩
          · rcases List.mem_cons.mp hj with rfl | hj
            · exact ⟨by omega, by omega⟩
            · exact hst2 j hj) hR3 (by rw [hrem]; simp only [List.length_append, List.length_cons, List.length_nil]; omega) (fun c hc => by
          rcases List.mem_append.mp hc with hc | hc
          · exact hch c hc
          · rw [List.mem_singleton] at hc; omega) (by rw [hrem]; simp only [List.length_append]; omega)
        have g3 : Gc m m3 := (f1.mono (fun a ha => by omega)).tr ((f2.tr f3).mono (fun a ha => by omega))
        refine ⟨m4, hpre _ ?_, ?_, g3.tr q3⟩
        · rw [he, if_neg (Option.some_ne_none (a, b))]
          refine EIp rfl ?_
          refine EgR k0 r01 ?_
          refine EC hX.t3.1 (show fX7_add NF 3 (68 : Int32) m = some m1 from hadd) ?_
          refine EgR K0 R012 ?_
          refine EgR K0 R02 ?_
          refine EC hX1.ls.1 hmin' ?_
          refine EwI K432 rfl (show st.length < qN m1 432 by omega) (by omega) rfl ?_
          show (qgR m2 0 9 12).bind _ = _
          refine EgR (show qK m2 0 = 9 from K0) (show qR m2 0 12 = some 432 from R012) ?_
          refine EgR (show qK m2 0 = 9 from K0) (show qR m2 0 2 = some 5 from R02) ?_
          refine EC hP2.1.ls.1 hmaj' ?_
          refine EwI (show qK m2 432 = 12 from K432) (nI_s _) (show st.length + 1 < qN m1 432 by omega) (by omega) rfl ?_
          rw [nI_s2]
          have eL : (ls ++ [68] : List Nat).length = ls.length + 1 := by simp
          have eS : (a :: b :: st : List Nat).length = st.length + 2 := by simp
          rw [eL, eS] at q1
          exact q1
        · simp only [remP, p1]
          rw [hrem] at q2
          simpa [List.append_assoc] using q2
theorem c_writeProof {m : qM} {s : ST} (h : CP m s) (hs : okS s) (v : Int32) : ∃ m2, fX9_writeProof NF 0 v m = some (aWp s v, m2) ∧ CP m2 (sWp s v) ∧ Gc m m2 := by
  have hP := h
  obtain ⟨hX, -, -, hO, hL, -⟩ := h
  have hn := hs.1.1
  obtain ⟨k0, r00, r01, r02, r03, r04, r05, r06, r07, r08, r09, r010, r011, r012⟩ := hX.c0
  obtain ⟨-, -, k432, n432⟩ := hX.r31
  have k5 := hX.ls.1
  unfold fX9_writeProof aWp sWp
  rcases hasA_cases (n := sN s) (by omega) v with ⟨h1, -⟩ | ⟨j, hj, rfl, h1⟩
  · rw [ansN_miss h1, ansN_miss h1]
    refine ⟨m, ?_, hP, Fx.rf⟩
    refine EgR k0 r02 ?_
    refine EC k5 (c_has k5 hL.1 v) ?_
    refine EIp h1 ?_
    rfl
  · rw [ansN_hit (by omega) h1, ansN_hit (by omega) h1]
    have hsm := sig_small hs hj
    have hll := rLast_le hs.1.2.1 hj
    have hpre : ∀ R, (if 0 < lg_cmp (Int64.ofNat (rSig (sEn s) j)) (49 : Int64) then some ((-5 : Int32), m) else if nI (rLast (sEn s) j) ≤ (8 : Int32) then (qChk m 0 9 (fX9_outputProof NF 0 (nI j) m)).bind fun b7 => (qgR b7 0 9 1).bind fun x8 => (qChk b7 x8 7 (fX7_length NF x8 b7)).bind fun b9 => some (b9.1, b9.2) else some ((-5 : Int32), m)) = R → ((qgR m 0 9 2).bind fun x1 => (qChk m x1 1 (fX1_has NF x1 (nI j) m)).bind fun b2 => if b2.1 = 0 then some ((-1 : Int32), b2.2) else (qgR b2.2 0 9 2).bind fun x3 => (qChk b2.2 x3 1 (fX1_proofSigns NF x3 (nI j) b2.2)).bind fun b4 => if 0 < lg_cmp b4.1 (49 : Int64) then some ((-5 : Int32), b4.2) else (qgR b4.2 0 9 2).bind fun x5 => (qChk b4.2 x5 1 (fX1_lastAxiom NF x5 (nI j) b4.2)).bind fun b6 => if b6.1 ≤ (8 : Int32) then (qChk b6.2 0 9 (fX9_outputProof NF 0 (nI j) b6.2)).bind fun b7 => (qgR b7 0 9 1).bind fun x8 => (qChk b7 x8 7 (fX7_length NF x8 b7)).bind fun b9 => some (b9.1, b9.2) else some ((-5 : Int32), b6.2)) = R := by
      intro R hR
      refine EgR k0 r02 ?_
      refine EC k5 (c_has k5 hL.1 _) ?_
      refine EIn (show ¬ hasA (sN s) (nI j) = 0 by rw [h1]; exact i10) ?_
      refine EgR k0 r02 ?_
      refine EC k5 (c_l_sig hX hL hn hj) ?_
      by_cases e : 0 < lg_cmp (Int64.ofNat (rSig (sEn s) j)) (49 : Int64)
      · rw [if_pos e] at hR
        refine EIp e ?_
        exact hR
      · rw [if_neg e] at hR
        refine EIn e ?_
        refine EgR k0 r02 ?_
        refine EC k5 (c_l_lastAxiom hX hL hn hj) ?_
        exact hR
    unfold wpG wpH
    by_cases g : rSig (sEn s) j ≤ 49
    · by_cases g2 : rLast (sEn s) j ≤ 8
      · rw [if_pos ⟨g, g2⟩, if_pos ⟨g, g2⟩]
        have hlen := pf_len hs.1.2.1 (j + 1) j (by omega) hj
        let m1 : qM := qsI m 3 1 0
        have f1 : Fx (fun a => a = 3 ∨ a = 4) m m1 := Fx.rf.sI (Or.inl rfl)
        have hP1 : CP m1 (wOu s []) := CP_out hP hn f1 CTx_clear
        let m2 : qM := qsI m1 432 0 (nI j)
        have f2 : Fx (fun a => a = 432) m1 m2 := Fx.rf.sI rfl
        have hP2 : CP m2 (wOu s []) := CP_fx hP1 hn f2 (fun a ha => by omega)
        have hrem : remP (sEn s) [j] = pfT (sEn s) j := by simp [remP]
        obtain ⟨m3, q1, q2, q3⟩ := c_pfLoop hs NF [j] [] m2 hP2 (fun k hk => by rw [List.mem_singleton] at hk; subst hk; exact ⟨hj, g2⟩) ⟨by simp [m2, qS, enP], trivial⟩ (by rw [hrem]; simp; omega) (fun c hc => by simp at hc) (by rw [hrem]; unfold NF; omega)
        rw [hrem, List.nil_append] at q2
        have hX3 := q2.1
        refine ⟨m3, hpre _ ?_, q2, ((f1.mono (fun a ha => by omega)).tr (f2.mono (fun a ha => by omega))).tr q3⟩
        refine EIn (fun z => by have := (sig49 hsm).mp z; omega) ?_
        refine EIp ((nI_leI (b := 8) (by omega) (by omega)).mpr g2) ?_
        have hop : fX9_outputProof NF 0 (nI j) m = some m3 := by
          unfold fX9_outputProof
          refine EgR k0 r01 ?_
          refine EC hX.t3.1 (fX7_makeEmpty_eq hX.t3.1) ?_
          refine EgR (show qK m1 0 = 9 from k0) (show qR m1 0 12 = some 432 from r012) ?_
          refine EwI (show qK m1 432 = 12 from k432) (show (0 : Int32) = nI 0 from rfl) (show 0 < qN m 432 by omega) (by omega) rfl ?_
          refine EB (show lX9_outputProof_18 NF 0 NF 1 0 m2 = some m3 from q1) ?_
          rfl
        refine EC k0 hop ?_
        refine EgR hX3.c0.1 hX3.c0.2.2.1 ?_
        refine EC hX3.t3.1 (b := (nI (pfT (sEn s) j).length, m3)) (by rw [fX7_length_eq hX3.t3.1]; have := q2.2.2.2.1.1; rw [this]; rfl) ?_
        rw [hlen]
      · rw [if_neg (fun z => g2 z.2), if_neg (fun z => g2 z.2)]
        refine ⟨m, hpre _ ?_, hP, Fx.rf⟩
        refine EIn (fun z => by have := (sig49 hsm).mp z; omega) ?_
        refine EIn (fun z => g2 ((nI_leI (b := 8) (by omega) (by omega)).mp z)) ?_
        rfl
    · rw [if_neg (fun z => g z.1), if_neg (fun z => g z.1)]
      exact ⟨m, hpre _ (if_pos ((sig49 hsm).mpr (by omega))), hP, Fx.rf⟩
end
