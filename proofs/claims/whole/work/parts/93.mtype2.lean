section
-- ===== addType of the reference: the recursion =====
theorem m_post {s : ST} {pos k : Nat} {b : Bool} {bs : List Bool} {rest : List Nat} {st : List Tm} {T : List Tm ⊕ Int32} {m : qM} {rec : Int32 → qM → Option qM} (h : ML m s pos st) (hh : hk st.length (if b = true then 64 :: ps (true :: bs) rest else ps (true :: bs) rest)) (hT : exS (if b = true then 64 :: ps (true :: bs) rest else ps (true :: bs) rest) st = T) : ∃ m2, kX10_typesTerm_146 NF (fX10_typesTerm NF k) rec 433 (bI (!b)) m = rec 0 m2 ∧ Gm m m2 ∧ ((∃ st2, ML m2 s pos st2 ∧ exS (ps (true :: bs) rest) st2 = T ∧ hk st2.length (ps (true :: bs) rest)) ∨ ∃ f, T = .inr f ∧ MF m2 s f) := by
  have K := h.1.1.ty.1
  cases b with
  | false =>
    refine ⟨m, ?_, Fx.rf, Or.inl ⟨st, h, hT, hh⟩⟩
    unfold kX10_typesTerm_146 kX10_typesTerm_154
    refine EIn i10 ?_
    rfl
  | true =>
    have hh' : hk st.length (64 :: ps (true :: bs) rest) := hh
    have hT' : exS (64 :: ps (true :: bs) rest) st = T := hT
    rw [hk_app] at hh'
    rcases st with _ | ⟨a, _ | ⟨b, rr⟩⟩
    · have := hh'.1; simp at this
    · have := hh'.1; simp at this
    · rw [ex_app] at hT'
      obtain ⟨m2, q1, q2, q3⟩ := m_appliesT h
      refine ⟨m2, ?_, q2, ?_⟩
      · unfold kX10_typesTerm_146 kX10_typesTerm_154
        refine EIp rfl ?_
        refine EC K q1 ?_
        rfl
      · rcases q3 with ⟨hr, q3⟩ | ⟨hr, q3⟩
        · rw [if_pos hr] at hT'
          exact Or.inl ⟨_, q3, hT', by have := hh'.2; simpa using this⟩
        · rw [if_neg hr] at hT'
          exact Or.inr ⟨_, hT'.symm, q3⟩
theorem MF_ne {m : qM} {s : ST} {f : Int32} (h : MF m s f) : ¬ qI m 433 36 = 0 := fun z => by
  have h1 := h.2.1
  have h2 := h.2.2
  rw [← h1, z] at h2
  exact absurd h2 (by decide)
theorem m_postF {s : ST} {k : Nat} {b : Bool} {f : Int32} {m : qM} {rec : Int32 → qM → Option qM} (h : MF m s f) : kX10_typesTerm_146 NF (fX10_typesTerm NF k) rec 433 (bI (!b)) m = rec 0 m := by
  have K := h.1.1.ty.1
  unfold kX10_typesTerm_146 kX10_typesTerm_154
  cases b with
  | false => exact if_neg i10
  | true =>
    refine EIp rfl ?_
    refine EC K (b := m) ?_ rfl
    unfold fX10_applies
    refine EgI K h.2.1 ?_
    refine EIn (Int32.not_le.mpr h.2.2) ?_
    rfl
theorem ML_8 {m : qM} {s : ST} {pos p2 : Nat} {st : List Tm} (h : ML m s pos st) : ML (qsI m 433 8 (nI p2)) s p2 st := by
  obtain ⟨hP, h8, h36, h35, hS, hok, hl⟩ := h
  exact ⟨MP_set hP (by simp [kq]), by simp [qS], by simpa [qS] using h36, by simpa [qS] using h35, StT_of hS (fun u hu => (hok u hu).2.1) (fun j _ => by simp [qS]) (fun j _ => by simp [qS]), hok, hl⟩
def LvP (s : ST) (lo : Nat) (bs : List Bool) (T : List Tm ⊕ Int32) (b : Bool) (m : qM) : Prop := (∃ pos st, lo ≤ pos ∧ pos ≤ (sTx s).length ∧ ML m s pos st ∧ tE bs.length (!b) pos ((sTx s).drop pos) = none ∧ exS (ps (b :: bs) ((sTx s).drop pos)) st = T ∧ hk st.length (ps (b :: bs) ((sTx s).drop pos))) ∨ ∃ f, T = .inr f ∧ MF m s f
theorem m_types {s : ST} (hs : okS s) : ∀ (k : Nat) (lo : Nat) (bs : List Bool) (T : List Tm ⊕ Int32) (m : qM), bs.length ≤ 8 → 9 < bs.length + k → LvP s lo bs T false m → ∃ m2, fX10_typesTerm NF k 433 m = some m2 ∧ Gm m m2 ∧ ((∃ pos st, lo ≤ pos ∧ pos ≤ (sTx s).length ∧ ML m2 s pos st ∧ (pos = (sTx s).length ∨ (sTx s).getD pos 0 = 41) ∧ tE bs.length false pos ((sTx s).drop pos) = none ∧ exS (ps (true :: bs) ((sTx s).drop pos)) st = T ∧ hk st.length (ps (true :: bs) ((sTx s).drop pos))) ∨ ∃ f, T = .inr f ∧ MF m2 s f) := by
  have hch := hs.2.1
  intro k
  induction k with
  | zero => intro lo bs T m h1 h2; omega
  | succ k ih =>
    intro lo bs T m hb hk9 hL
    have h80 : (sTx s).length ≤ 80 := by
      rcases hL with ⟨pos, st, -, -, hM, -⟩ | ⟨f, e, hM⟩
      · exact hM.1.2.2.1.2.1
      · exact hM.1.2.2.1.2.1
    obtain ⟨b2, e1, e2, e3⟩ := walk (l := fun g (x : Int32 × qM) => lX10_typesTerm_2 NF (fX10_typesTerm NF k) 433 g x.1 x.2) (J := fun r x => ∃ b m', x = (bI (!b), m') ∧ Gm m m' ∧ ((∃ pos st, lo ≤ pos ∧ pos ≤ (sTx s).length ∧ (sTx s).length ≤ pos + r ∧ ML m' s pos st ∧ tE bs.length (!b) pos ((sTx s).drop pos) = none ∧ exS (ps (b :: bs) ((sTx s).drop pos)) st = T ∧ hk st.length (ps (b :: bs) ((sTx s).drop pos))) ∨ ∃ f, T = .inr f ∧ MF m' s f)) (Q := fun m2 => Gm m m2 ∧ ((∃ pos st, lo ≤ pos ∧ pos ≤ (sTx s).length ∧ ML m2 s pos st ∧ (pos = (sTx s).length ∨ (sTx s).getD pos 0 = 41) ∧ tE bs.length false pos ((sTx s).drop pos) = none ∧ exS (ps (true :: bs) ((sTx s).drop pos)) st = T ∧ hk st.length (ps (true :: bs) ((sTx s).drop pos))) ∨ ∃ f, T = .inr f ∧ MF m2 s f)) (fun g r x hj => by
      obtain ⟨b, m', rfl, hF, hj⟩ := hj
      rcases hj with ⟨pos, st, hlo, hp, hr, hM, hte, hT, hh⟩ | ⟨f, hT, hM⟩
      · obtain ⟨K433, R6, K439, N439, -⟩ := hM.1.1.t
        have h7 : qI m' 433 7 = nI (sTx s).length := hM.1.2.2.1.1
        have hMM := hM
        obtain ⟨hM0, h8, h36, -⟩ := hMM
        by_cases e : pos = (sTx s).length
        · refine Or.inr ⟨m', ?_, hF, Or.inl ⟨pos, st, hlo, hp, hM, Or.inl e, ?_, ?_, ?_⟩⟩
          · show lX10_typesTerm_2 NF (fX10_typesTerm NF k) 433 (g + 1) (bI (!b)) m' = _
            unfold lX10_typesTerm_2
            refine EgI K433 h36 ?_
            refine EIp rfl ?_
            refine EgI K433 h8 ?_
            refine EgI K433 h7 ?_
            refine EIp ((nI_leI (by omega) (by omega)).mpr (by omega)) ?_
            rfl
          all_goals
            have hbt : b = true := by
              rw [e, List.drop_length, tE_nil] at hte
              by_cases e5 : bs.length = 0 ∧ (!b) = false
              · simpa using e5.2
              · rw [if_neg e5] at hte; cases hte
            subst hbt
            assumption
        · have hlt : pos < (sTx s).length := by omega
          have hc := hch _ (mem_getD hlt)
          have hat : qI m' 439 pos = nI ((sTx s).getD pos 0) := (hM0.2.2.1.2.2 pos hlt).1
          have hdr := drop_cons hlt
          rw [hdr, tE_cons] at hte
          by_cases c2 : (sTx s).getD pos 0 = 41
          · rw [if_neg (by omega), if_pos c2] at hte
            by_cases d0 : bs.length = 0
            · rw [if_pos d0] at hte; cases hte
            · rw [if_neg d0] at hte
              by_cases e0 : (!b) = true
              · rw [if_pos e0] at hte; cases hte
              · have hbt : b = true := by simpa using e0
                subst hbt
                refine Or.inr ⟨m', ?_, hF, Or.inl ⟨pos, st, hlo, hp, hM, Or.inr c2, ?_, hT, hh⟩⟩
                · show lX10_typesTerm_2 NF (fX10_typesTerm NF k) 433 (g + 1) (bI (!true)) m' = _
                  unfold lX10_typesTerm_2
                  refine EgI K433 h36 ?_
                  refine EIp rfl ?_
                  refine EgI K433 h8 ?_
                  refine EgI K433 h7 ?_
                  refine EIn (fun z => by have := (nI_leI (by omega) (by omega)).mp z; omega) ?_
                  refine EgR K433 R6 ?_
                  refine EgI K433 h8 ?_
                  refine EaI K439 rfl (by omega) (by omega) hat ?_
                  refine EIp (by rw [c2]; rfl) ?_
                  rfl
                · rw [hdr, tE_cons, if_neg (by omega), if_pos c2, if_neg d0, if_neg (by decide)]
                  exact hte
          · let m9 : qM := qsI m' 433 8 (nI (pos + 1))
            have hM9 : ML m9 s (pos + 1) st := ML_8 hM
            have g9 : Gm m m9 := hF.sI (by omega)
            have hpre : ∀ R, (if nI ((sTx s).getD pos 0) = (40 : Int32) then (qChk m9 433 10 (fX10_typesTerm NF k 433 m9)).bind fun b17 => (qgI b17 433 10 8).bind fun x18 => (qpI b17 433 10 8 (x18 + (1 : Int32))).bind fun m19 => kX10_typesTerm_146 NF (fX10_typesTerm NF k) (lX10_typesTerm_2 NF (fX10_typesTerm NF k) 433 g) 433 (bI (!b)) m19 else (qChs 11 (fJ0_indexOf_0f7a4 NF 11 (nI ((sTx s).getD pos 0)) m9)).bind fun b11 => (fX10_typeOf NF b11.1 b11.2).bind fun b12 => (qChs b12.1 (fJ0_length_8abf5 NF b12.1 b12.2)).bind fun b13 => (qpI b13.2 433 10 27 b13.1).bind fun m14 => (lX10_typesTerm_95 NF (fX10_typesTerm NF k) 433 (bI (!b)) b12.1 NF (0 : Int32) m14).bind fun o15 => (qChk o15 433 10 (fX10_keepsType NF 433 o15)).bind fun b16 => kX10_typesTerm_146 NF (fX10_typesTerm NF k) (lX10_typesTerm_2 NF (fX10_typesTerm NF k) 433 g) 433 (bI (!b)) b16) = R → lX10_typesTerm_2 NF (fX10_typesTerm NF k) 433 (g + 1) (bI (!b)) m' = R := by
              intro R hR
              conv => lhs; unfold lX10_typesTerm_2
              refine EgI K433 h36 ?_
              refine EIp rfl ?_
              refine EgI K433 h8 ?_
              refine EgI K433 h7 ?_
              refine EIn (fun z => by have := (nI_leI (by omega) (by omega)).mp z; omega) ?_
              refine EgR K433 R6 ?_
              refine EgI K433 h8 ?_
              refine EaI K439 rfl (by omega) (by omega) hat ?_
              refine EIn (fun z => c2 ((nI_eq (b := 41) (by omega) (by omega)).mp z)) ?_
              refine EgR K433 R6 ?_
              refine EgI K433 h8 ?_
              refine EpI K433 (nI_s _) ?_
              refine EaI (show qK m9 439 = 12 from K439) rfl (show pos < qN m' 439 by omega) (by omega) (show qI m9 439 pos = nI ((sTx s).getD pos 0) by simp only [m9, qS]; rw [if_neg (by decide)]; exact hat) ?_
              exact hR
            by_cases c1 : (sTx s).getD pos 0 = 40
            · rw [if_pos c1] at hte
              by_cases d8 : bs.length < 8
              · rw [if_pos d8] at hte
                rw [hdr, c1, ps_open] at hT hh
                obtain ⟨m2, q1, q2, q3⟩ := ih (pos + 1) (b :: bs) T m9 (by simp; omega) (by simp; omega) (Or.inl ⟨pos + 1, st, Nat.le_refl _, by omega, hM9, hte, hT, hh⟩)
                have K2 : qK m2 433 = 10 := by rw [q2.1]; exact K433
                rcases q3 with ⟨p2, st2, hge, hp2, hM2, hend, hte2, hT2, hh2⟩ | ⟨f, hTf, hMf⟩
                · have hp2l : p2 < (sTx s).length ∧ (sTx s).getD p2 0 = 41 := by
                    rcases hend with e5 | e5
                    · rw [e5, List.drop_length, tE_nil, if_neg (by simp)] at hte2
                      cases hte2
                    · refine ⟨?_, e5⟩
                      apply Classical.byContradiction
                      intro hge
                      rw [List.getD_eq_getElem?_getD, List.getElem?_eq_none (by omega)] at e5
                      cases e5
                  obtain ⟨hp2l, e5⟩ := hp2l
                  have hdr2 := drop_cons hp2l
                  rw [hdr2, e5, tE_cons, if_neg (by decide), if_pos rfl, if_neg (by simp), if_neg (by decide)] at hte2
                  rw [hdr2, e5, ps_close] at hT2 hh2
                  have hM3 : ML (qsI m2 433 8 (nI (p2 + 1))) s (p2 + 1) st2 := ML_8 hM2
                  obtain ⟨m4, u1, u2, u3⟩ := m_post (k := k) (rec := lX10_typesTerm_2 NF (fX10_typesTerm NF k) 433 g) hM3 hh2 hT2
                  have g4 : Gm m m4 := ((g9.tr q2).sI (by omega)).tr u2
                  refine Or.inl ⟨(bI (!true), m4), ⟨true, m4, rfl, g4, ?_⟩, hpre _ ?_⟩
                  · rcases u3 with ⟨st3, v1, v2, v3⟩ | v
                    · exact Or.inl ⟨p2 + 1, st3, by omega, by omega, by omega, v1, by simpa using hte2, v2, v3⟩
                    · exact Or.inr v
                  · refine EIp (by rw [c1]; rfl) ?_
                    refine EC (show qK m9 433 = 10 from K433) q1 ?_
                    refine EgI K2 hM2.2.1 ?_
                    refine EpI K2 (nI_s _) ?_
                    exact u1
                · have hM3 : MF (qsI m2 433 8 (qI m2 433 8 + 1)) s f := ⟨MP_set hMf.1 (by simp [kq]), by simpa [qS] using hMf.2.1, hMf.2.2⟩
                  refine Or.inl ⟨(bI (!true), qsI m2 433 8 (qI m2 433 8 + 1)), ⟨true, _, rfl, (g9.tr q2).sI (by omega), Or.inr ⟨f, hTf, hM3⟩⟩, hpre _ ?_⟩
                  refine EIp (by rw [c1]; rfl) ?_
                  refine EC (show qK m9 433 = 10 from K433) q1 ?_
                  refine EgI K2 rfl ?_
                  refine EpI K2 rfl ?_
                  exact m_postF hM3
              · rw [if_neg d8] at hte; cases hte
            · rw [if_neg c1, if_neg c2] at hte
              by_cases c3 : ixL ((sTx s).getD pos 0) < 6
              · rw [if_pos c3] at hte
                rw [hdr, ps_let c1 c2, ex_let (ixL_c c3).2] at hT
                rw [hdr, ps_let c1 c2, hk_let (ixL_c c3).2] at hh
                obtain ⟨m2, q2, q3, q4⟩ := m_letterT (α := qM) (fr := fX10_typesTerm NF k) (v1 := bI (!b)) hM9 c3 hh.1
                obtain ⟨m4, u1, u2, u3⟩ := m_post (k := k) (rec := lX10_typesTerm_2 NF (fX10_typesTerm NF k) 433 g) q3 (by simpa using hh.2.2) hT
                refine Or.inl ⟨(bI (!true), m4), ⟨true, m4, rfl, (g9.tr q2).tr u2, ?_⟩, hpre _ ?_⟩
                · rcases u3 with ⟨st3, v1, v2, v3⟩ | v
                  · exact Or.inl ⟨pos + 1, st3, by omega, by omega, by omega, v1, by simpa using hte, v2, v3⟩
                  · exact Or.inr v
                · refine EIn (fun z => c1 ((nI_eq (b := 40) (by omega) (by omega)).mp z)) ?_
                  exact (q4 _).trans u1
              · rw [if_neg c3] at hte; cases hte
      · refine Or.inr ⟨m', ?_, hF, Or.inr ⟨f, hT, hM⟩⟩
        show lX10_typesTerm_2 NF (fX10_typesTerm NF k) 433 (g + 1) (bI (!b)) m' = _
        unfold lX10_typesTerm_2
        refine EgI hM.1.1.ty.1 rfl ?_
        refine EIn (MF_ne hM) ?_
        rfl) (fun g x hj => by
      obtain ⟨b, m', rfl, hF, hj⟩ := hj
      rcases hj with ⟨pos, st, hlo, hp, hr, hM, hte, hT, hh⟩ | ⟨f, hT, hM⟩
      · have e : pos = (sTx s).length := by omega
        obtain ⟨K433, R6, K439, N439, -⟩ := hM.1.1.t
        have h7 : qI m' 433 7 = nI (sTx s).length := hM.1.2.2.1.1
        have hMM := hM
        obtain ⟨hM0, h8, h36, -⟩ := hMM
        refine ⟨m', ?_, hF, Or.inl ⟨pos, st, hlo, hp, hM, Or.inl e, ?_, ?_, ?_⟩⟩
        · show lX10_typesTerm_2 NF (fX10_typesTerm NF k) 433 (g + 1) (bI (!b)) m' = _
          unfold lX10_typesTerm_2
          refine EgI K433 h36 ?_
          refine EIp rfl ?_
          refine EgI K433 h8 ?_
          refine EgI K433 h7 ?_
          refine EIp ((nI_leI (by omega) (by omega)).mpr (by omega)) ?_
          rfl
        all_goals
          have hbt : b = true := by
            rw [e, List.drop_length, tE_nil] at hte
            by_cases e5 : bs.length = 0 ∧ (!b) = false
            · simpa using e5.2
            · rw [if_neg e5] at hte; cases hte
          subst hbt
          assumption
      · refine ⟨m', ?_, hF, Or.inr ⟨f, hT, hM⟩⟩
        show lX10_typesTerm_2 NF (fX10_typesTerm NF k) 433 (g + 1) (bI (!b)) m' = _
        unfold lX10_typesTerm_2
        refine EgI hM.1.1.ty.1 rfl ?_
        refine EIn (MF_ne hM) ?_
        rfl) (sTx s).length NF (bI (!false), m) (by unfold NF; omega) ⟨false, m, rfl, Fx.rf, by
      rcases hL with ⟨pos, st, hlo, hp, hM, h⟩ | h
      · exact Or.inl ⟨pos, st, hlo, hp, by omega, hM, h⟩
      · exact Or.inr h⟩
    refine ⟨b2, ?_, e2, e3⟩
    unfold fX10_typesTerm
    refine EB (show lX10_typesTerm_2 NF (fX10_typesTerm NF k) 433 NF 1 m = some b2 from e1) ?_
    rfl
theorem m_takeT {m : qM} {s : ST} {pos : Nat} {t : Tm} (h : ML m s pos [t]) : ∃ m2, lX10_addType_69 NF 433 NF 0 (qsI m 433 27 (nI (tS t))) = some m2 ∧ Fx (fun a => a = 433 ∨ a = 451) m m2 ∧ (∀ j, j ≠ 27 → qI m2 433 j = qI m 433 j) ∧ One (qI m2) t := by
  obtain ⟨hP, h8, h36, h35, hS, hok, -⟩ := h
  have h39 := (hok t (by simp)).2.1
  let m1 : qM := qsI m 433 27 (nI (tS t))
  obtain ⟨b, e1, e2, e3, e4⟩ := walk (l := fun g (x : Int32 × qM) => lX10_addType_69 NF 433 g x.1 x.2) (J := fun r x => ∃ k m', k + r = tS t ∧ x = (nI k, m') ∧ Fx (fun a => a = 433 ∨ a = 451) m m' ∧ qI m' 433 = qI m1 433 ∧ ∀ z, z < k → qI m' 451 z = nI ((pol t).getD z 0)) (Q := fun m' => Fx (fun a => a = 433 ∨ a = 451) m m' ∧ qI m' 433 = qI m1 433 ∧ ∀ z, z < tS t → qI m' 451 z = nI ((pol t).getD z 0)) (fun g r x hj => by
    obtain ⟨k, m', hk, rfl, hF, h433, hT⟩ := hj
    obtain ⟨K433, R26, K451, N451, R33, R34, K456, K457, N456, N457⟩ := (hF.M hP.1).ty
    have h27 : qI m' 433 27 = nI (tS t) := by rw [h433]; simp [m1, qS]
    have h456 : qI m' 456 k = nI ((pol t).getD k 0) := by
      rw [hF.i (by omega)]
      have := hS.1.2 k (by omega)
      rw [show 39 * ([] : List Tm).length + k = k by simp] at this
      exact this
    refine Or.inl ⟨(nI (k + 1), qsI m' 451 k (nI ((pol t).getD k 0))), ⟨k + 1, _, by omega, rfl, hF.sI (Or.inr rfl), by rw [← h433]; funext z; simp [qS], fun z hz => ?_⟩, ?_⟩
    · simp only [qS, ↓reduceIte]
      by_cases ez : z = k
      · rw [if_pos ez, ez]
      · rw [if_neg ez]; exact hT z (by omega)
    · show lX10_addType_69 NF 433 (g + 1) (nI k) m' = lX10_addType_69 NF 433 g (nI (k + 1)) _
      conv => lhs; unfold lX10_addType_69
      refine EgI K433 h27 ?_
      refine EIn (fun z => by have := (nI_leI (by omega) (by omega)).mp z; omega) ?_
      refine EgR K433 R26 ?_
      refine EgR K433 R33 ?_
      refine EaI K456 rfl (show k < qN m' 456 by omega) (by omega) h456 ?_
      refine EwI K451 rfl (show k < qN m' 451 by omega) (by omega) rfl ?_
      rw [nI_s]) (fun g x hj => by
    obtain ⟨k, m', hk, rfl, hF, h433, hT⟩ := hj
    obtain rfl : k = tS t := by omega
    have K433 := (hF.M hP.1).ty.1
    have h27 : qI m' 433 27 = nI (tS t) := by rw [h433]; simp [m1, qS]
    refine ⟨m', ?_, hF, h433, hT⟩
    show lX10_addType_69 NF 433 (g + 1) (nI (tS t)) m' = _
    unfold lX10_addType_69
    refine EgI K433 h27 ?_
    refine EIp ((nI_leI (by omega) (by omega)).mpr (Nat.le_refl _)) ?_
    rfl) (tS t) NF (nI 0, m1) (by unfold NF; omega) ⟨0, m1, by omega, rfl, Fx.rf.sI (Or.inl rfl), rfl, fun z hz => absurd hz (by omega)⟩
  refine ⟨b, e1, e2, fun j hj => by rw [e3]; simp [m1, qS, hj], by rw [e3]; simp [m1, qS], fun i hi => by rw [Nat.zero_add]; exact e4 i hi⟩
theorem m_addType {m : qM} {s : ST} (h : MP m s) (hs : okS s) : ∃ m2, fX10_addType NF 433 m = some (aTy s, m2) ∧ MP m2 (sTy s) ∧ Gm m m2 := by
  have k433 := h.1.a.1
  have h80 := h.2.2.1.2.1
  obtain ⟨m1, f1, j1, hr⟩ := m_isTerm h hs
  have hP1 : MP m1 s := MP_kq h f1 (fun a ha => Or.inl ha) (fun j hj => j1 j (by unfold kq at hj; omega))
  have K1 := hP1.1.a.1
  have g1 : Gm m m1 := f1.mono (fun a ha => by omega)
  unfold fX10_addType aTy sTy
  rcases hr with ⟨p, hp, e1, e2⟩ | ⟨hp, e1⟩
  · rw [hp]
    refine ⟨qsI m1 433 7 (nI 0), ?_, MP_tx0 hP1, g1.sI (by omega)⟩
    refine EC k433 e1 ?_
    refine EIp rfl ?_
    unfold kX10_addType_28
    refine EpI K1 (show (0 : Int32) = nI 0 from rfl) ?_
    refine EIp rfl ?_
    refine EgI (show qK (qsI m1 433 7 (nI 0)) 433 = 10 from K1) (show qI (qsI m1 433 7 (nI 0)) 433 9 = nI p by simp only [qS]; rw [if_pos trivial, if_neg (by decide)]; exact e2) ?_
    rfl
  · rw [hp]
    let m4 : qM := qsI (qsI (qsI m1 433 8 (nI 0)) 433 36 (nI 0)) 433 35 (nI 0)
    have hP4 : MP m4 s := MP_set (MP_set (MP_set hP1 (by simp [kq])) (by simp [kq])) (by simp [kq])
    have hM4 : ML m4 s 0 [] := ⟨hP4, by simp [m4, qS], by simp [m4, qS], by simp [m4, qS], trivial, fun t ht => by simp at ht, by simp⟩
    have g4 : Gm m m4 := ((g1.sI (by omega)).sI (by omega)).sI (by omega)
    have hh0 := ps_hk (sTx s) false [] 0 (by simp) hp
    obtain ⟨m5, q1, q2, q3⟩ := m_types hs kR 0 [] (exS (ps [false] (sTx s)) []) m4 (by simp) (by unfold kR; omega) (Or.inl ⟨0, [], Nat.le_refl _, by omega, hM4, hp, rfl, hh0⟩)
    have g5 := g4.tr q2
    show ∃ m2, _ = some (teA s, m2) ∧ MP m2 (wTx (teS s) []) ∧ Gm m m2
    unfold teA teS
    have hpre : ∀ R, kX10_addType_28 NF 433 1 m5 = R → ((qChk m 433 10 (fX10_isTerm NF 433 m)).bind fun b1 => if b1.1 = 0 then kX10_addType_28 NF 433 b1.1 b1.2 else (qpI b1.2 433 10 8 (0 : Int32)).bind fun m2 => (qpI m2 433 10 36 (0 : Int32)).bind fun m3 => (qpI m3 433 10 35 (0 : Int32)).bind fun m4 => (qChk m4 433 10 (fX10_typesTerm NF kR 433 m4)).bind fun b5 => kX10_addType_28 NF 433 b1.1 b5) = R := by
      intro R hR
      refine EC k433 e1 ?_
      refine EIn i10 ?_
      refine EpI K1 (show (0 : Int32) = nI 0 from rfl) ?_
      refine EpI (show qK (qsI m1 433 8 (nI 0)) 433 = 10 from K1) (show (0 : Int32) = nI 0 from rfl) ?_
      refine EpI (show qK (qsI (qsI m1 433 8 (nI 0)) 433 36 (nI 0)) 433 = 10 from K1) (show (0 : Int32) = nI 0 from rfl) ?_
      refine EC (show qK m4 433 = 10 from K1) q1 ?_
      exact hR
    rcases q3 with ⟨pos, st, -, hpl, hM5, hend, hte, hT, hh⟩ | ⟨f, hTf, hMf⟩
    · have hpe : pos = (sTx s).length := by
        rcases hend with e | e
        · exact e
        · apply Classical.byContradiction
          intro hne
          rw [drop_cons (show pos < (sTx s).length by omega), tE_cons, if_neg (by omega), if_pos e, if_pos (show ([] : List Bool).length = 0 from rfl)] at hte
          cases hte
      rw [hpe, List.drop_length, ps_nil] at hT hh
      have h1 : st.length = 1 := hh
      obtain ⟨t, rfl⟩ := one_getD h1
      have hT' : exS (ps [false] (sTx s)) [] = .inl [t] := hT.symm
      rw [hT']
      have K5 := hM5.1.1.a.1
      have ht := hM5.2.2.2.2.2.1 t (by simp)
      let m6 : qM := qsI m5 433 7 (nI 0)
      have hP6 : MP m6 (wTx s []) := MP_tx0 hM5.1
      have hM6 : ML m6 (wTx s []) pos [t] := ⟨hP6, by simpa [m6, qS] using hM5.2.1, by simpa [m6, qS] using hM5.2.2.1, by simpa [m6, qS] using hM5.2.2.2.1, StT_of hM5.2.2.2.2.1 (fun u hu => (hM5.2.2.2.2.2.1 u hu).2.1) (fun j _ => by simp [m6, qS]) (fun j _ => by simp [m6, qS]), hM5.2.2.2.2.2.1, hM5.2.2.2.2.2.2⟩
      obtain ⟨k6, r26, k451, n451, r33, r34, k456, k457, n456, n457⟩ := hP6.1.ty
      obtain ⟨m7, w1, w2, w3, w4⟩ := m_takeT hM6
      have hP7 : MP m7 (wTx s []) := MP_kq hP6 w2 (fun a ha => by omega) (fun j hj => w3 j (by unfold kq at hj; omega))
      obtain ⟨m8, u1, u2, u3, u4⟩ := m_enters (e := none) hP7.1 hP7.2.2.2.2.1 hs.1 w4 ht (fun a b z => by cases z)
      refine ⟨m8, hpre _ ?_, MP_ent hP7 u2 u3 u4, ((g5.sI (by omega)).tr (w2.mono (fun a ha => by omega))).tr (u2.mono (fun a ha => by unfold dEn at ha; omega))⟩
      unfold kX10_addType_28
      refine EpI K5 (show (0 : Int32) = nI 0 from rfl) ?_
      refine EIn i10 ?_
      refine EgI k6 hM6.2.2.1 ?_
      refine EIp (by decide) ?_
      refine EgR k6 r34 ?_
      refine EaI k457 (show (0 : Int32) = nI 0 from rfl) (show 0 < qN m6 457 by omega) (by omega) hM6.2.2.2.2.1.1.1 ?_
      refine EpI k6 rfl ?_
      refine EB w1 ?_
      refine EC hP7.1.a.1 u1 ?_
      rfl
    · rw [hTf]
      have K5 := hMf.1.1.a.1
      refine ⟨qsI m5 433 7 (nI 0), hpre _ ?_, MP_tx0 hMf.1, g5.sI (by omega)⟩
      have h36 : qI (qsI m5 433 7 (nI 0)) 433 36 = f := by simpa [qS] using hMf.2.1
      unfold kX10_addType_28
      refine EpI K5 (show (0 : Int32) = nI 0 from rfl) ?_
      refine EIn i10 ?_
      refine EgI (show qK (qsI m5 433 7 (nI 0)) 433 = 10 from K5) h36 ?_
      refine EIn (Int32.not_le.mpr hMf.2.2) ?_
      refine EgI (show qK (qsI m5 433 7 (nI 0)) 433 = 10 from K5) h36 ?_
      rfl
end
