section
-- ===== terms: the postfix signs =====
def ps : List Bool → List Nat → List Nat
  | _, [] => []
  | [], _ :: _ => []
  | b :: bs, c :: cs => if c = 40 then ps (false :: b :: bs) cs else if c = 41 then (match bs with
    | [] => []
    | b2 :: bs2 => if b2 = true then 64 :: ps (true :: bs2) cs else ps (true :: bs2) cs) else c :: (if b = true then 64 :: ps (true :: bs) cs else ps (true :: bs) cs)
theorem ps_nil {bs : List Bool} : ps bs [] = [] := by cases bs <;> rfl
theorem ps_open {b : Bool} {bs : List Bool} {cs : List Nat} : ps (b :: bs) (40 :: cs) = ps (false :: b :: bs) cs := rfl
theorem ps_close {b b2 : Bool} {bs2 : List Bool} {cs : List Nat} : ps (b :: b2 :: bs2) (41 :: cs) = if b2 = true then 64 :: ps (true :: bs2) cs else ps (true :: bs2) cs := rfl
theorem ps_let {b : Bool} {bs : List Bool} {c : Nat} {cs : List Nat} (h1 : c ≠ 40) (h2 : c ≠ 41) : ps (b :: bs) (c :: cs) = c :: (if b = true then 64 :: ps (true :: bs) cs else ps (true :: bs) cs) := by
  show (if c = 40 then _ else if c = 41 then _ else _) = _
  rw [if_neg h1, if_neg h2]
theorem ps_len : ∀ (cs : List Nat) (bs : List Bool), (ps bs cs).length ≤ 2 * cs.length := by
  intro cs
  induction cs with
  | nil => intro bs; rw [ps_nil]; simp
  | cons c cs ih =>
    intro bs
    cases bs with
    | nil => show ([] : List Nat).length ≤ _; simp
    | cons b bs =>
      by_cases h1 : c = 40
      · subst h1
        rw [ps_open]
        have := ih (false :: b :: bs)
        simp; omega
      · by_cases h2 : c = 41
        · subst h2
          cases bs with
          | nil => show ([] : List Nat).length ≤ _; simp
          | cons b2 bs2 =>
            rw [ps_close]
            have := ih (true :: bs2)
            split
            · simp; omega
            · simp; omega
        · rw [ps_let h1 h2]
          have := ih (true :: bs)
          split
          · simp; omega
          · simp; omega
def FlP (I : Nat → Nat → Int32) : List Bool → Prop
  | [] => True
  | b :: bs => I 394 bs.length = bI b ∧ FlP I bs
theorem FlP_of {I I2 : Nat → Nat → Int32} : ∀ {bs : List Bool}, FlP I bs → (∀ j, j < bs.length → I2 394 j = I 394 j) → FlP I2 bs
  | [], _, _ => trivial
  | b :: bs, h, e => ⟨(e bs.length (by simp)).trans h.1, FlP_of h.2 (fun j hj => e j (by simp; omega))⟩
theorem FlP_set {m : qM} {b : Bool} {bs : List Bool} (h : FlP (qI m) bs) : FlP (qI (qsI m 394 bs.length (bI b))) (b :: bs) :=
  ⟨by simp [qS], FlP_of h (fun j hj => by simp only [qS]; rw [if_pos trivial, if_neg (by omega)])⟩
theorem XS.tm {K N : Nat → Nat} {R : Nat → Nat → Option Nat} (h : XS K N R) : ∃ S, (S = 399 ∨ S = 400) ∧ K 393 = 6 ∧ R 393 0 = some 394 ∧ K 394 = 14 ∧ N 394 = 9 ∧ R 393 5 = some S ∧ K S = 11 ∧ N S = 160 := by
  obtain ⟨h0, h1, h2, h3, h4, h5, h6, h7, h8, h9, h10, h11, h12, h13, h14, h15, h16, h17, h18, h19, h20⟩ := h.2.2.2.2.2.2.1
  rcases h20 with ⟨e1, e2⟩ | ⟨e1, e2⟩
  · exact ⟨399, Or.inl rfl, h0, h1, h6, h7, e1, h16, h17⟩
  · exact ⟨400, Or.inr rfl, h0, h1, h6, h7, e1, h18, h19⟩
def Sg (I : Nat → Nat → Int32) (S : Nat) (out : List Nat) : Prop := I 393 7 = nI out.length ∧ ∀ i, i < out.length → I S i = nI (out.getD i 0)
theorem c16 : ∀ c, c < 128 → (nI c).toUInt32.toUInt16.toUInt32.toInt32 = nI c := by decide
theorem c_tadd {m : qM} {S c : Nat} {out : List Nat} (hS : S = 399 ∨ S = 400) (k : qK m 393 = 6) (r : qR m 393 5 = some S) (kS : qK m S = 11) (nS : qN m S = 160) (h : Sg (qI m) S out) (hl : out.length < 160) (hc : c < 128) : fX6_add NF 393 (nI c) m = some (qsI (qsI m S out.length (nI c)) 393 7 (nI (out.length + 1))) ∧ Sg (qI (qsI (qsI m S out.length (nI c)) 393 7 (nI (out.length + 1)))) S (out ++ [c]) := by
  have h7 : qI (qsI m S out.length (nI c)) 393 7 = nI out.length := by simp only [qS]; rw [if_neg (by omega)]; exact h.1
  refine ⟨?_, by simp [qS], fun i hi => ?_⟩
  · unfold fX6_add
    refine EgI k h.1 ?_
    refine EIn (fun z => by have := (nI_leI (a := 160) (by omega) (by omega)).mp z; omega) ?_
    refine EgR k r ?_
    refine EgI k h.1 ?_
    refine EwI kS rfl (show out.length < qN m S by omega) (by omega) (c16 c hc) ?_
    refine EgI (show qK (qsI m S out.length (nI c)) 393 = 6 from k) h7 ?_
    refine EpI (show qK (qsI m S out.length (nI c)) 393 = 6 from k) (nI_s _) ?_
    rfl
  · have hi' : i < out.length + 1 := by simpa using hi
    rw [getD_snoc]
    simp only [qS]
    rw [if_neg (show ¬ S = 393 by omega), if_pos trivial]
    by_cases e : i = out.length
    · rw [if_pos e, if_pos e]
    · rw [if_neg e, if_neg e]; exact h.2 i (by omega)
def dTm (a : Nat) : Prop := a = 393 ∨ a = 394 ∨ a = 399 ∨ a = 400
theorem c_read {m : qM} {s : ST} {S : Nat} (h : CP m s) (hs : okS s) (hp : tE 0 true 0 (sTx s) = none) (hS : S = 399 ∨ S = 400) (rS : qR m 393 5 = some S) : ∃ m2, fX6_read NF 393 1 m = some m2 ∧ Fx dTm m m2 ∧ Sg (qI m2) S (ps [false] (sTx s)) := by
  have hch := hs.2.1
  obtain ⟨hX, hT, h80, -⟩ := h
  have k1 := hX.t1.1
  obtain ⟨S', hS', k393, r394, k394, n394, rS', kS, nS⟩ := hX.tm
  obtain rfl : S' = S := by rw [rS] at rS'; injection rS' with e; exact e.symm
  have hT' : ∀ {m' : qM}, Fx dTm m m' → CTx (qI m') 1 (sTx s) := fun f => CTx_of (f.i (by unfold dTm; omega)) (f.i (by unfold dTm; omega)) hT
  let m1 : qM := qsI (qsI m 393 7 0) 394 0 0
  have f1 : Fx dTm m m1 := (Fx.rf.sI (Or.inl rfl)).sI (Or.inr (Or.inl rfl))
  obtain ⟨b, e1, e2, e3⟩ := walk (l := fun g (x : Int32 × Int32 × qM) => lX6_read_16 NF 393 1 g x.1 x.2.1 x.2.2) (J := fun r x => ∃ k b bs out m', k + r = (sTx s).length ∧ bs.length ≤ 8 ∧ x = (nI bs.length, nI k, m') ∧ Fx dTm m m' ∧ FlP (qI m') (b :: bs) ∧ Sg (qI m') S' out ∧ tE bs.length (!b) k ((sTx s).drop k) = none ∧ out ++ ps (b :: bs) ((sTx s).drop k) = ps [false] (sTx s) ∧ out.length ≤ 2 * k) (Q := fun b => Fx dTm m b ∧ Sg (qI b) S' (ps [false] (sTx s))) (fun g r x hj => by
    obtain ⟨k, b, bs, out, m', hk, hbs, rfl, hF, hfl, hsg, hte, hps, hol⟩ := hj
    have hT2 := hT' hF
    have K1 : qK m' 1 = 7 := by rw [hF.1]; exact k1
    have K393 : qK m' 393 = 6 := by rw [hF.1]; exact k393
    have K394 : qK m' 394 = 14 := by rw [hF.1]; exact k394
    have N394 : qN m' 394 = 9 := by rw [hF.2.1]; exact n394
    have R394 : qR m' 393 0 = some 394 := by rw [hF.2.2.1]; exact r394
    have RS : qR m' 393 5 = some S' := by rw [hF.2.2.1]; exact rS
    have KS : qK m' S' = 11 := by rw [hF.1]; exact kS
    have NS : qN m' S' = 160 := by rw [hF.2.1]; exact nS
    have hlen : fX7_length NF 1 m' = some (nI (sTx s).length, m') := by rw [fX7_length_eq K1, hT2.1]
    have hat := fX7_at_eq (N := NF) (hF.X hX).t1 hT2 (show k < (sTx s).length by omega)
    have hc := hch _ (mem_getD (show k < (sTx s).length by omega))
    rw [drop_cons (by omega), tE_cons] at hte
    rw [drop_cons (by omega)] at hps
    generalize hcc : (sTx s).getD k 0 = c at *
    have e40 : (nI c = (40 : Int32)) ↔ c = 40 := nI_eq (b := 40) (by omega) (by omega)
    have e41 : (nI c = (41 : Int32)) ↔ c = 41 := nI_eq (b := 41) (by omega) (by omega)
    /- an operand ends: the sign for applying, the flag -/
    have tail : ∀ (b0 : Bool) (bs0 : List Bool) (out0 : List Nat) (m0 : qM), bs0.length ≤ 8 → Fx dTm m m0 → FlP (qI m0) (b0 :: bs0) → Sg (qI m0) S' out0 → out0.length < 160 → ∃ m3, kX6_read_81 NF (lX6_read_16 NF 393 1 g) 393 1 (nI bs0.length) (nI k) m0 = lX6_read_16 NF 393 1 g (nI bs0.length) (nI (k + 1)) m3 ∧ Fx dTm m m3 ∧ FlP (qI m3) (true :: bs0) ∧ Sg (qI m3) S' (if b0 = true then out0 ++ [64] else out0) := by
      intro b0 bs0 out0 m0 h8 hF0 hfl0 hsg0 hl0
      have K393 : qK m0 393 = 6 := by rw [hF0.1]; exact k393
      have K394 : qK m0 394 = 14 := by rw [hF0.1]; exact k394
      have N394 : qN m0 394 = 9 := by rw [hF0.2.1]; exact n394
      have R394 : qR m0 393 0 = some 394 := by rw [hF0.2.2.1]; exact r394
      have RS : qR m0 393 5 = some S' := by rw [hF0.2.2.1]; exact rS
      have KS : qK m0 S' = 11 := by rw [hF0.1]; exact kS
      have NS : qN m0 S' = 160 := by rw [hF0.2.1]; exact nS
      have last : ∀ (m4 : qM) (o : List Nat), Fx dTm m m4 → FlP (qI m4) bs0 → Sg (qI m4) S' o → ∃ m3, kX6_read_96 NF (lX6_read_16 NF 393 1 g) 393 1 (nI bs0.length) (nI k) m4 = lX6_read_16 NF 393 1 g (nI bs0.length) (nI (k + 1)) m3 ∧ Fx dTm m m3 ∧ FlP (qI m3) (true :: bs0) ∧ Sg (qI m3) S' o := by
        intro m4 o hF4 hfl4 hsg4
        refine ⟨qsI m4 394 bs0.length (bI true), ?_, hF4.sI (Or.inr (Or.inl rfl)), FlP_set hfl4, by simp only [qS]; rw [if_neg (by omega)]; exact hsg4.1, fun i hi => by simp only [qS]; rw [if_neg (by omega)]; exact hsg4.2 i hi⟩
        unfold kX6_read_96 kX6_read_103
        refine EgR (by rw [hF4.1]; exact k393) (by rw [hF4.2.2.1]; exact r394) ?_
        refine EwI (by rw [hF4.1]; exact k394) rfl (show bs0.length < qN m4 394 by rw [hF4.2.1]; omega) (by omega) (show (1 : Int32) &&& 1 = bI true by decide) ?_
        rw [nI_s]
      cases b0 with
      | false =>
        obtain ⟨m3, q1, q2⟩ := last m0 out0 hF0 hfl0.2 hsg0
        refine ⟨m3, ?_, q2⟩
        unfold kX6_read_81
        refine EgR K393 R394 ?_
        refine EaI K394 rfl (show bs0.length < qN m0 394 by omega) (by omega) hfl0.1 ?_
        refine EIp rfl ?_
        exact q1
      | true =>
        obtain ⟨a1, a2⟩ := c_tadd (c := 64) hS' K393 RS KS NS hsg0 hl0 (by omega)
        have f4 : Fx dTm m (qsI (qsI m0 S' out0.length (nI 64)) 393 7 (nI (out0.length + 1))) := (hF0.sI (show dTm S' by unfold dTm; omega)).sI (Or.inl rfl)
        obtain ⟨m3, q1, q2⟩ := last _ _ f4 (FlP_of hfl0.2 (fun j hj => by simp only [qS]; rw [if_neg (by omega), if_neg (by omega)])) a2
        refine ⟨m3, ?_, q2⟩
        unfold kX6_read_81
        refine EgR K393 R394 ?_
        refine EaI K394 rfl (show bs0.length < qN m0 394 by omega) (by omega) hfl0.1 ?_
        refine EIn i10 ?_
        refine EC K393 (show fX6_add NF 393 (64 : Int32) m0 = _ from a1) ?_
        exact q1
    have hpre : ∀ R, (if nI c = (40 : Int32) then (qgR m' 393 6 0).bind fun x4 => (qwI m' x4 14 (if (8 : Int32) < nI bs.length + (1 : Int32) then (8 : Int32) else nI bs.length + (1 : Int32)) ((0 : Int32) &&& 1)).bind fun m5 => kX6_read_103 NF (lX6_read_16 NF 393 1 g) 393 1 (if (8 : Int32) < nI bs.length + (1 : Int32) then (8 : Int32) else nI bs.length + (1 : Int32)) (nI k) m5 else if nI c = (41 : Int32) then kX6_read_81 NF (lX6_read_16 NF 393 1 g) 393 1 (if nI bs.length - (1 : Int32) < (0 : Int32) then (0 : Int32) else nI bs.length - (1 : Int32)) (nI k) m' else (qChk m' 393 6 (fX6_add NF 393 (nI c) m')).bind fun b3 => kX6_read_81 NF (lX6_read_16 NF 393 1 g) 393 1 (nI bs.length) (nI k) b3) = R → lX6_read_16 NF 393 1 (g + 1) (nI bs.length) (nI k) m' = R := by
      intro R hR
      conv => lhs; unfold lX6_read_16
      refine EC K1 hlen ?_
      refine EIn (fun z => by have := (nI_leI (by omega) (by omega)).mp z; omega) ?_
      refine EC K1 hat ?_
      exact hR
    by_cases c1 : c = 40
    · rw [if_pos c1] at hte
      by_cases d8 : bs.length < 8
      · rw [if_pos d8] at hte
        subst c1
        rw [ps_open] at hps
        have e8 : (if (8 : Int32) < nI bs.length + (1 : Int32) then (8 : Int32) else nI bs.length + (1 : Int32)) = nI (bs.length + 1) := by
          rw [nI_s, if_neg (fun z => by have := (nI_ltI (a := 8) (by omega) (by omega)).mp z; omega)]
        refine Or.inl ⟨(nI (bs.length + 1), nI (k + 1), qsI m' 394 (b :: bs).length (bI false)), ⟨k + 1, false, b :: bs, out, _, by omega, by simp; omega, rfl, hF.sI (Or.inr (Or.inl rfl)), FlP_set hfl, ⟨by simp only [qS]; rw [if_neg (by omega)]; exact hsg.1, fun i hi => by simp only [qS]; rw [if_neg (by omega)]; exact hsg.2 i hi⟩, hte, hps, by omega⟩, hpre _ ?_⟩
        refine EIp rfl ?_
        refine EgR K393 R394 ?_
        rw [e8]
        refine EwI K394 rfl (show bs.length + 1 < qN m' 394 by omega) (by omega) (show (0 : Int32) &&& 1 = bI false by decide) ?_
        unfold kX6_read_103
        rw [nI_s]
        rfl
      · rw [if_neg d8] at hte; cases hte
    · rw [if_neg c1] at hte
      have n40 := fun z => c1 (e40.mp z)
      by_cases c2 : c = 41
      · rw [if_pos c2] at hte
        by_cases d0 : bs.length = 0
        · rw [if_pos d0] at hte; cases hte
        · rw [if_neg d0] at hte
          by_cases e0 : (!b) = true
          · rw [if_pos e0] at hte; cases hte
          · rw [if_neg e0] at hte
            subst c2
            cases bs with
            | nil => exact absurd rfl d0
            | cons b2 bs2 =>
              rw [ps_close] at hps
              have h8 : bs2.length ≤ 8 := by simp at hbs; omega
              obtain ⟨m3, q1, q2, q3, q4⟩ := tail b2 bs2 out m' h8 hF hfl.2 hsg (by omega)
              refine Or.inl ⟨(nI bs2.length, nI (k + 1), m3), ⟨k + 1, true, bs2, _, m3, by omega, h8, rfl, q2, q3, q4, hte, ?_, ?_⟩, hpre _ ?_⟩
              · rw [← hps]
                cases b2
                · rfl
                · show (out ++ [64]) ++ _ = out ++ (64 :: _); rw [List.append_assoc]; rfl
              · split
                · rw [List.length_append]; simp; omega
                · omega
              · refine EIn n40 ?_
                refine EIp rfl ?_
                rw [show nI (b2 :: bs2).length - (1 : Int32) = nI bs2.length from by rw [nI_m1 (by simp)]; simp, if_neg (nI_pos (by omega))]
                exact q1
      · rw [if_neg c2] at hte
        have n41 := fun z => c2 (e41.mp z)
        by_cases c3 : ixL c < 6
        · rw [if_pos c3] at hte
          rw [ps_let c1 c2] at hps
          obtain ⟨a1, a2⟩ := c_tadd (c := c) hS' K393 RS KS NS hsg (by omega) (by omega)
          have f4 : Fx dTm m (qsI (qsI m' S' out.length (nI c)) 393 7 (nI (out.length + 1))) := (hF.sI (show dTm S' by unfold dTm; omega)).sI (Or.inl rfl)
          obtain ⟨m3, q1, q2, q3, q4⟩ := tail b bs (out ++ [c]) _ hbs f4 (FlP_of hfl (fun j hj => by simp only [qS]; rw [if_neg (by omega), if_neg (by omega)])) a2 (by rw [List.length_append]; simp; omega)
          refine Or.inl ⟨(nI bs.length, nI (k + 1), m3), ⟨k + 1, true, bs, _, m3, by omega, hbs, rfl, q2, q3, q4, hte, ?_, ?_⟩, hpre _ ?_⟩
          · rw [← hps]
            cases b
            · show (out ++ [c]) ++ _ = out ++ (c :: _); rw [List.append_assoc]; rfl
            · show ((out ++ [c]) ++ [64]) ++ _ = out ++ (c :: (64 :: _)); rw [List.append_assoc, List.append_assoc]; rfl
          · split
            · rw [List.length_append, List.length_append]; simp; omega
            · rw [List.length_append]; simp; omega
          · refine EIn n40 ?_
            refine EIn n41 ?_
            refine EC K393 a1 ?_
            exact q1
        · rw [if_neg c3] at hte; cases hte) (fun g x hj => by
    obtain ⟨k, b, bs, out, m', hk, hbs, rfl, hF, hfl, hsg, hte, hps, hol⟩ := hj
    obtain rfl : k = (sTx s).length := by omega
    rw [List.drop_length, ps_nil, List.append_nil] at hps
    have K1 : qK m' 1 = 7 := by rw [hF.1]; exact k1
    have hT2 := hT' hF
    have hlen : fX7_length NF 1 m' = some (nI (sTx s).length, m') := by rw [fX7_length_eq K1, hT2.1]
    refine ⟨m', ?_, hF, hps ▸ hsg⟩
    show lX6_read_16 NF 393 1 (g + 1) (nI bs.length) (nI (sTx s).length) m' = _
    unfold lX6_read_16
    refine EC K1 hlen ?_
    refine EIp ((nI_leI (by omega) (by omega)).mpr (Nat.le_refl _)) ?_
    rfl) (sTx s).length NF (nI 0, nI 0, m1) (by unfold NF; omega) ⟨0, false, [], [], m1, by omega, by simp, rfl, f1, ⟨by simp [m1, qS]; rfl, trivial⟩, ⟨by simp [m1, qS]; rfl, fun i hi => by simp at hi⟩, hp, rfl, by simp⟩
  refine ⟨b, ?_, e2, e3⟩
  unfold fX6_read
  refine EpI k393 rfl ?_
  refine EgR (show qK (qsI m 393 7 0) 393 = 6 from k393) (show qR (qsI m 393 7 0) 393 0 = some 394 from r394) ?_
  refine EwI (show qK (qsI m 393 7 0) 394 = 14 from k394) (show (0 : Int32) = nI 0 from rfl) (show 0 < qN m 394 by omega) (by omega) (show (0 : Int32) &&& 1 = 0 by decide) ?_
  refine EB (show lX6_read_16 NF 393 1 NF 0 0 m1 = some b from e1) ?_
  rfl
end
