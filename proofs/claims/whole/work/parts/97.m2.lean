section
-- ===== reduction in the reference: a text is read =====
def AllP (I : Nat → Nat → Int32) (n : Nat) (st0 : List Tm) : Bool → Int32 → List Tm → Prop
  | false, v, st => v = -1 ∧ st = st0
  | true, v, st => ∃ u i, v = nI i ∧ NdT I n u i ∧ st = u :: st0
theorem AllP_nf {m m2 : qM} {n n2 : Nat} {st0 st : List Tm} {b : Bool} {v : Int32} (f : Nf m m2 n n2) (h : AllP (qI m) n st0 b v st) : AllP (qI m2) n2 st0 b v st := by
  cases b with
  | false => exact h
  | true =>
    obtain ⟨u, i, h1, h2, h3⟩ := h
    exact ⟨u, i, h1, f.nd h2, h3⟩
theorem m_all {m : qM} {n wi k : Nat} {st0 st : List Tm} {b : Bool} {v : Int32} {w : Tm} {rec : Int32 → qM → Option (Int32 × qM)} (hM : MS (qK m) (qN m) (qR m)) (h32 : qI m 433 32 = nI n) (hn : n < 7000) (ha : AllP (qI m) n st0 b v st) (hw : NdT (qI m) n w wi) (r : List Nat) : ∃ m2 n2 v2 st2, kX10_readsTerm_86 NF (fX10_readsTerm NF k) rec 433 v (nI wi) m = rec v2 m2 ∧ Nf m m2 n n2 ∧ n2 ≤ n + 1 ∧ AllP (qI m2) n2 st0 true v2 st2 ∧ yEx (if b = true then 64 :: r else r) (w :: st) = yEx r st2 ∧ qI m2 433 8 = qI m 433 8 := by
  cases b with
  | false =>
    obtain ⟨h1, h2⟩ := ha
    subst h1
    subst h2
    refine ⟨m, n, nI wi, w :: st, ?_, Nf.rf h32, by omega, ⟨w, wi, rfl, hw, rfl⟩, rfl, rfl⟩
    unfold kX10_readsTerm_86 kX10_readsTerm_100
    exact if_neg (by decide)
  | true =>
    obtain ⟨u, i, h1, h2, h3⟩ := ha
    subst h1
    subst h3
    have hi := NdT_lt h2
    obtain ⟨m2, q1, q2, q3, q4⟩ := m_apply hM h32 hn h2 hw
    refine ⟨m2, n + 1, nI n, .op u w :: st0, ?_, q2, by omega, ⟨.op u w, n, rfl, q3, rfl⟩, rfl, q4 8 (by decide)⟩
    unfold kX10_readsTerm_86 kX10_readsTerm_100
    refine EIp (nI_g0 (by omega)) ?_
    exact EC hM.nd.1 q1 rfl
def RdP (m : qM) (s : ST) (pos n : Nat) : Prop := MP m s ∧ qI m 433 8 = nI pos ∧ qI m 433 32 = nI n ∧ n ≤ 2 * pos
theorem Nf8 {m m2 : qM} {n n2 : Nat} {v : Int32} (h : Nf m m2 n n2) : Nf m (qsI m2 433 8 v) n n2 := by
  obtain ⟨h1, h2, h3, h4, h5⟩ := h
  refine ⟨h1.sI (Or.inl rfl), fun j x y z => ?_, fun a j x y z => ?_, h4, ?_⟩
  · simp only [qS]
    rw [if_pos trivial, if_neg z]
    exact h2 j x y z
  · simp only [qS]
    rw [if_neg (by omega)]
    exact h3 a j x y z
  · simp only [qS]
    rw [if_pos trivial, if_neg (by decide)]
    exact h5
theorem RdP8 {m : qM} {s : ST} {pos p2 n : Nat} (h : RdP m s pos n) (hp : pos ≤ p2) : RdP (qsI m 433 8 (nI p2)) s p2 n :=
  ⟨MP_set h.1 (by simp [kq]), by simp [qS], by simp only [qS]; rw [if_pos trivial, if_neg (by decide)]; exact h.2.2.1, by have := h.2.2.2; omega⟩
theorem m_readsT {s : ST} (hs : okS s) : ∀ (k : Nat) (bs : List Bool) (st0 T : List Tm) (m : qM) (n pos : Nat), bs.length ≤ 8 → 9 < bs.length + k → RdP m s pos n → pos ≤ (sTx s).length → tE bs.length true pos ((sTx s).drop pos) = none → yEx (ps (false :: bs) ((sTx s).drop pos)) st0 = T → ∃ m2 w i p2 n2, fX10_readsTerm NF k 433 m = some (nI i, m2) ∧ Nf m m2 n n2 ∧ RdP m2 s p2 n2 ∧ NdT (qI m2) n2 w i ∧ pos ≤ p2 ∧ p2 ≤ (sTx s).length ∧ (p2 = (sTx s).length ∨ (sTx s).getD p2 0 = 41) ∧ tE bs.length false p2 ((sTx s).drop p2) = none ∧ yEx (ps (true :: bs) ((sTx s).drop p2)) (w :: st0) = T := by
  have hch := hs.2.1
  intro k
  induction k with
  | zero => intro bs st0 T m n pos h1 h2; omega
  | succ k ih =>
    intro bs st0 T m n pos hb hk9 hR hpl hte0 hT0
    have h80 : (sTx s).length ≤ 80 := hR.1.2.2.1.2.1
    obtain ⟨z, e1, m2, w, i, p2, n2, rfl, e2⟩ := walk (l := fun g (x : Int32 × qM) => lX10_readsTerm_2 NF (fX10_readsTerm NF k) 433 g x.1 x.2) (J := fun r x => ∃ b m' n' pos' v st, x = (v, m') ∧ Nf m m' n n' ∧ RdP m' s pos' n' ∧ pos ≤ pos' ∧ pos' ≤ (sTx s).length ∧ (sTx s).length ≤ pos' + r ∧ AllP (qI m') n' st0 b v st ∧ tE bs.length (!b) pos' ((sTx s).drop pos') = none ∧ yEx (ps (b :: bs) ((sTx s).drop pos')) st = T) (Q := fun z => ∃ m2 w i p2 n2, z = (nI i, m2) ∧ Nf m m2 n n2 ∧ RdP m2 s p2 n2 ∧ NdT (qI m2) n2 w i ∧ pos ≤ p2 ∧ p2 ≤ (sTx s).length ∧ (p2 = (sTx s).length ∨ (sTx s).getD p2 0 = 41) ∧ tE bs.length false p2 ((sTx s).drop p2) = none ∧ yEx (ps (true :: bs) ((sTx s).drop p2)) (w :: st0) = T) (fun g r x hj => by
      obtain ⟨b, m', n', pos', v, st, rfl, hF, hR', hlo, hp, hr, hA, hte, hT⟩ := hj
      obtain ⟨K433, R6, K439, N439, -⟩ := hR'.1.1.t
      have h7 : qI m' 433 7 = nI (sTx s).length := hR'.1.2.2.1.1
      have h8 := hR'.2.1
      by_cases e : pos' = (sTx s).length
      · have hbt : b = true := by
          rw [e, List.drop_length, tE_nil] at hte
          by_cases e5 : bs.length = 0 ∧ (!b) = false
          · simpa using e5.2
          · rw [if_neg e5] at hte; cases hte
        subst hbt
        obtain ⟨u, i, rfl, a2, rfl⟩ := hA
        refine Or.inr ⟨(nI i, m'), ?_, m', u, i, pos', n', rfl, hF, hR', a2, hlo, hp, Or.inl e, hte, hT⟩
        show lX10_readsTerm_2 NF (fX10_readsTerm NF k) 433 (g + 1) (nI i) m' = _
        unfold lX10_readsTerm_2
        refine EgI K433 h8 ?_
        refine EgI K433 h7 ?_
        exact if_pos ((nI_leI (by omega) (by omega)).mpr (by omega))
      · have hlt : pos' < (sTx s).length := by omega
        have hc := hch _ (mem_getD hlt)
        have hat : qI m' 439 pos' = nI ((sTx s).getD pos' 0) := (hR'.1.2.2.1.2.2 pos' hlt).1
        have hdr := drop_cons hlt
        rw [hdr, tE_cons] at hte
        by_cases c2 : (sTx s).getD pos' 0 = 41
        · rw [if_neg (by omega), if_pos c2] at hte
          by_cases d0 : bs.length = 0
          · rw [if_pos d0] at hte; cases hte
          · rw [if_neg d0] at hte
            by_cases e0 : (!b) = true
            · rw [if_pos e0] at hte; cases hte
            · have hbt : b = true := by simpa using e0
              subst hbt
              obtain ⟨u, i, rfl, a2, rfl⟩ := hA
              refine Or.inr ⟨(nI i, m'), ?_, m', u, i, pos', n', rfl, hF, hR', a2, hlo, hp, Or.inr c2, ?_, hT⟩
              · show lX10_readsTerm_2 NF (fX10_readsTerm NF k) 433 (g + 1) (nI i) m' = _
                unfold lX10_readsTerm_2
                refine EgI K433 h8 ?_
                refine EgI K433 h7 ?_
                refine EIn (fun z => by have := (nI_leI (by omega) (by omega)).mp z; omega) ?_
                refine EgR K433 R6 ?_
                refine EgI K433 h8 ?_
                refine EaI K439 rfl (by omega) (by omega) hat ?_
                exact if_pos (by rw [c2]; rfl)
              · rw [hdr, tE_cons, if_neg (by omega), if_pos c2, if_neg d0, if_neg (by decide)]
                exact hte
        · let m9 : qM := qsI m' 433 8 (nI (pos' + 1))
          have f9 : Nf m m9 n n' := Nf8 hF
          have f99 : Nf m' m9 n' n' := Nf8 (Nf.rf hR'.2.2.1)
          have hR9 : RdP m9 s (pos' + 1) n' := RdP8 hR' (by omega)
          have hA9 : AllP (qI m9) n' st0 b v st := AllP_nf f99 hA
          have hpre : ∀ R, (if nI ((sTx s).getD pos' 0) = (40 : Int32) then (qChk m9 433 10 (fX10_readsTerm NF k 433 m9)).bind fun b12 => kX10_readsTerm_69 NF (fX10_readsTerm NF k) (lX10_readsTerm_2 NF (fX10_readsTerm NF k) 433 g) 433 v (nI ((sTx s).getD pos' 0)) b12.1 b12.2 else (qChs 11 (fJ0_indexOf_0f7a4 NF 11 (nI ((sTx s).getD pos' 0)) m9)).bind fun b10 => (qChk b10.2 433 10 (fX10_node NF 433 b10.1 (0 : Int32) (0 : Int32) b10.2)).bind fun b11 => kX10_readsTerm_69 NF (fX10_readsTerm NF k) (lX10_readsTerm_2 NF (fX10_readsTerm NF k) 433 g) 433 v (nI ((sTx s).getD pos' 0)) b11.1 b11.2) = R → lX10_readsTerm_2 NF (fX10_readsTerm NF k) 433 (g + 1) v m' = R := by
            intro R hR
            conv => lhs; unfold lX10_readsTerm_2
            refine EgI K433 h8 ?_
            refine EgI K433 h7 ?_
            refine EIn (fun z => by have := (nI_leI (by omega) (by omega)).mp z; omega) ?_
            refine EgR K433 R6 ?_
            refine EgI K433 h8 ?_
            refine EaI K439 rfl (by omega) (by omega) hat ?_
            refine EIn (fun z => c2 ((nI_eq (b := 41) (by omega) (by omega)).mp z)) ?_
            refine EgR K433 R6 ?_
            refine EgI K433 h8 ?_
            refine EpI K433 (nI_s _) ?_
            refine EaI (show qK m9 439 = 12 from K439) rfl (show pos' < qN m9 439 from by show pos' < qN m' 439; omega) (by omega) (show qI m9 439 pos' = nI ((sTx s).getD pos' 0) by simp only [m9, qS]; rw [if_neg (by decide)]; exact hat) ?_
            exact hR
          by_cases c1 : (sTx s).getD pos' 0 = 40
          · rw [if_pos c1] at hte
            by_cases d8 : bs.length < 8
            · rw [if_pos d8] at hte
              rw [hdr, c1, ps_open] at hT
              obtain ⟨m2, w, i, p2, n2, q1, q2, q3, q4, q5, q6, q7, q8, q9⟩ := ih (b :: bs) st T m9 n' (pos' + 1) (by simp; omega) (by simp; omega) hR9 (by omega) hte hT
              have hM2 := q3.1.1
              have K2 : qK m2 433 = 10 := hM2.nd.1
              have hp2l : p2 < (sTx s).length ∧ (sTx s).getD p2 0 = 41 := by
                rcases q7 with e5 | e5
                · rw [e5, List.drop_length, tE_nil, if_neg (by simp)] at q8
                  cases q8
                · refine ⟨?_, e5⟩
                  apply Classical.byContradiction
                  intro hge
                  rw [List.getD_eq_getElem?_getD, List.getElem?_eq_none (by omega)] at e5
                  cases e5
              obtain ⟨hp2l, e5⟩ := hp2l
              have hdr2 := drop_cons hp2l
              rw [hdr2, e5, tE_cons, if_neg (by decide), if_pos rfl, if_neg (by simp), if_neg (by decide)] at q8
              rw [hdr2, e5, ps_close] at q9
              let m3 : qM := qsI m2 433 8 (nI (p2 + 1))
              have f3 : Nf m2 m3 n2 n2 := Nf8 (Nf.rf q3.2.2.1)
              have hR3 : RdP m3 s (p2 + 1) n2 := RdP8 q3 (by omega)
              have hA3 : AllP (qI m3) n2 st0 b v st := AllP_nf (q2.tr f3) hA9
              have hq := q3.2.2.2
              obtain ⟨m4, n4, v4, st4, u1, u2, u3, u4, u5, u6⟩ := m_all (k := k) (rec := lX10_readsTerm_2 NF (fX10_readsTerm NF k) 433 g) hR3.1.1 hR3.2.2.1 (by omega) hA3 (f3.nd q4) (ps (true :: bs) ((sTx s).drop (p2 + 1)))
              have hR4 : RdP m4 s (p2 + 1) n4 := ⟨u2.P hR3.1, u6.trans hR3.2.1, u2.2.2.2.2, by omega⟩
              refine Or.inl ⟨(v4, m4), ⟨true, m4, n4, p2 + 1, v4, st4, rfl, ((f9.tr q2).tr f3).tr u2, hR4, by omega, by omega, by omega, u4, by simpa using q8, ?_⟩, hpre _ ?_⟩
              · rw [← u5]
                exact q9
              · refine EIp (by rw [c1]; rfl) ?_
                refine EC (show qK m9 433 = 10 from K433) q1 ?_
                unfold kX10_readsTerm_69
                refine EIp (by rw [c1]; rfl) ?_
                refine EgI K2 q3.2.1 ?_
                refine EpI K2 (nI_s _) ?_
                exact u1
            · rw [if_neg d8] at hte; cases hte
          · rw [if_neg c1, if_neg c2] at hte
            by_cases c3 : ixL ((sTx s).getD pos' 0) < 6
            · rw [if_pos c3] at hte
              rw [hdr, ps_let c1 c2, yEx_let (ixL_c c3).2] at hT
              have hq := hR'.2.2.2
              have hix := s_ix (c := (sTx s).getD pos' 0) (m := m9) (by omega)
              rw [if_pos c3] at hix
              obtain ⟨m2, q1, q2, q3, q4, q5, q6⟩ := m_node hR9.1.1 hR9.2.2.1 (by omega) (nI (ixL ((sTx s).getD pos' 0))) 0 0
              have hR2 : RdP m2 s (pos' + 1) (n' + 1) := ⟨q2.P hR9.1, (q6 8 (by decide)).trans hR9.2.1, q2.2.2.2.2, by omega⟩
              have hnd : NdT (qI m2) (n' + 1) (.var ((sTx s).getD pos' 0)) n' := ⟨by omega, q3, c3⟩
              obtain ⟨m4, n4, v4, st4, u1, u2, u3, u4, u5, u6⟩ := m_all (k := k) (rec := lX10_readsTerm_2 NF (fX10_readsTerm NF k) 433 g) hR2.1.1 hR2.2.2.1 (by omega) (AllP_nf q2 hA9) hnd (ps (true :: bs) ((sTx s).drop (pos' + 1)))
              have hR4 : RdP m4 s (pos' + 1) n4 := ⟨u2.P hR2.1, u6.trans hR2.2.1, u2.2.2.2.2, by omega⟩
              refine Or.inl ⟨(v4, m4), ⟨true, m4, n4, pos' + 1, v4, st4, rfl, (f9.tr q2).tr u2, hR4, by omega, by omega, by omega, u4, by simpa using hte, ?_⟩, hpre _ ?_⟩
              · rw [← u5]
                exact hT
              · refine EIn (fun z => c1 ((nI_eq (b := 40) (by omega) (by omega)).mp z)) ?_
                refine EB (show qChs 11 (fJ0_indexOf_0f7a4 NF 11 (nI ((sTx s).getD pos' 0)) m9) = _ from hix) ?_
                refine EC (show qK m9 433 = 10 from K433) q1 ?_
                unfold kX10_readsTerm_69
                refine EIn (fun z => c1 ((nI_eq (b := 40) (by omega) (by omega)).mp z)) ?_
                exact u1
            · rw [if_neg c3] at hte; cases hte) (fun g x hj => by
      obtain ⟨b, m', n', pos', v, st, rfl, hF, hR', hlo, hp, hr, hA, hte, hT⟩ := hj
      obtain ⟨K433, R6, K439, N439, -⟩ := hR'.1.1.t
      have h7 : qI m' 433 7 = nI (sTx s).length := hR'.1.2.2.1.1
      have h8 := hR'.2.1
      have e : pos' = (sTx s).length := by omega
      have hbt : b = true := by
        rw [e, List.drop_length, tE_nil] at hte
        by_cases e5 : bs.length = 0 ∧ (!b) = false
        · simpa using e5.2
        · rw [if_neg e5] at hte; cases hte
      subst hbt
      obtain ⟨u, i, rfl, a2, rfl⟩ := hA
      refine ⟨(nI i, m'), ?_, m', u, i, pos', n', rfl, hF, hR', a2, hlo, hp, Or.inl e, hte, hT⟩
      show lX10_readsTerm_2 NF (fX10_readsTerm NF k) 433 (g + 1) (nI i) m' = _
      unfold lX10_readsTerm_2
      refine EgI K433 h8 ?_
      refine EgI K433 h7 ?_
      exact if_pos ((nI_leI (by omega) (by omega)).mpr (by omega))) (sTx s).length NF (-1, m) (by unfold NF; omega) ⟨false, m, n, pos, -1, st0, rfl, Nf.rf hR.2.2.1, hR, Nat.le_refl _, hpl, by omega, ⟨rfl, rfl⟩, hte0, hT0⟩
    refine ⟨m2, w, i, p2, n2, ?_, e2⟩
    unfold fX10_readsTerm
    refine EB (show lX10_readsTerm_2 NF (fX10_readsTerm NF k) 433 NF (-1) m = some (nI i, m2) from e1) ?_
    rfl
end
