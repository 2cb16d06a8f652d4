section
-- ===== addType of the reference: typed terms =====
theorem MS.ty {K N : Nat → Nat} {R : Nat → Nat → Option Nat} (h : MS K N R) : K 433 = 10 ∧ R 433 26 = some 451 ∧ K 451 = 12 ∧ N 451 = 80 ∧ R 433 33 = some 456 ∧ R 433 34 = some 457 ∧ K 456 = 12 ∧ K 457 = 12 ∧ N 456 = 3900 ∧ N 457 = 100 := by
  obtain ⟨⟨k433, r0, r1, r2, r3, r4, r6, r10, r12, r14, r15, r16, r17, r18, r19, r20, r22, r23, r26, r28, r29, r30, r31, r33, r34, r37⟩, ⟨k434, k435, k436, k437, k438, k439, k440, k441, k442, k443, k444, k445, k446, k447, k448, k449, k450, k451, k452, k453, k454, k455, k456, k457, k458⟩, ⟨n434, n435, n436, n437, n438, n439, n440, n441, n442, n443, n444, n445, n446, n447, n448, n449, n450, n451, n452, n453, n454, n455, n456, n457, n458⟩⟩ := h
  exact ⟨k433, r26, k451, n451, r33, r34, k456, k457, n456, n457⟩
def StT (I : Nat → Nat → Int32) : List Tm → Prop
  | [] => True
  | t :: st => (I 457 st.length = nI (tS t) ∧ Cd I 456 (39 * st.length) t) ∧ StT I st
theorem StT_of {I I2 : Nat → Nat → Int32} : ∀ {st : List Tm}, StT I st → (∀ t, t ∈ st → tS t ≤ 39) → (∀ j, j < st.length → I2 457 j = I 457 j) → (∀ j, j < 39 * st.length → I2 456 j = I 456 j) → StT I2 st
  | [], _, _, _, _ => trivial
  | t :: st, h, ht, e1, e2 => by
    have h39 := ht t (by simp)
    refine ⟨⟨(e1 st.length (by simp)).trans h.1.1, fun i hi => ?_⟩, StT_of h.2 (fun u hu => ht u (by simp [hu])) (fun j hj => e1 j (by simp; omega)) (fun j hj => e2 j (by simp; omega))⟩
    rw [e2 _ (by simp; omega)]
    exact h.1.2 i hi
def ML (m : qM) (s : ST) (pos : Nat) (st : List Tm) : Prop := MP m s ∧ qI m 433 8 = nI pos ∧ qI m 433 36 = nI 0 ∧ qI m 433 35 = nI st.length ∧ StT (qI m) st ∧ (∀ t, t ∈ st → okF t) ∧ st.length ≤ 10
def MF (m : qM) (s : ST) (f : Int32) : Prop := MP m s ∧ qI m 433 36 = f ∧ f < 0
def kq (j : Nat) : Prop := j = 5 ∨ j = 7 ∨ j = 11 ∨ j = 13
theorem MP_kq {D : Nat → Prop} {m m2 : qM} {s : ST} (h : MP m s) (f : Fx D m m2) (hD : ∀ a, D a → a = 433 ∨ 446 ≤ a) (hk : ∀ j, kq j → qI m2 433 j = qI m 433 j) : MP m2 s :=
  MP_fx h f (fun a ha => by have := hD a ha; omega) (hk 5 (by simp [kq])) (hk 7 (by simp [kq])) (hk 11 (by simp [kq])) (hk 13 (by simp [kq]))
theorem MP_set {m : qM} {s : ST} {j : Nat} {v : Int32} (h : MP m s) (hj : ¬ kq j) : MP (qsI m 433 j v) s := by
  have f : Fx (fun a => a = 433) m (qsI m 433 j v) := Fx.rf.sI rfl
  refine MP_kq h f (fun a ha => Or.inl ha) (fun i hi => ?_)
  have : ¬ i = j := fun z => hj (z ▸ hi)
  simp [qS, this]
theorem m_keepsT {m : qM} {s : ST} {pos : Nat} {st : List Tm} {t : Tm} (h : ML m s pos st) (ho : One (qI m) t) (ht : okF t) (hl : st.length ≤ 9) : ∃ m2, fX10_keepsType NF 433 m = some m2 ∧ ML m2 s pos (t :: st) ∧ Gm m m2 := by
  obtain ⟨hP, h8, h36, h35, hS, hok, -⟩ := h
  have h39 := ht.2.1
  obtain ⟨k433, r26, k451, n451, r33, r34, k456, k457, n456, n457⟩ := hP.1.ty
  let m1 : qM := qsI m 457 st.length (nI (tS t))
  have f1 : Fx (fun a => a = 456 ∨ a = 457) m m1 := Fx.rf.sI (Or.inr rfl)
  obtain ⟨b, e1, e2, e3, e4, e5⟩ := walk (l := fun g (x : Int32 × qM) => lX10_keepsType_15 NF 433 g x.1 x.2) (J := fun r x => ∃ k m', k + r = tS t ∧ x = (nI k, m') ∧ Fx (fun a => a = 456 ∨ a = 457) m m' ∧ qI m' 457 = qI m1 457 ∧ (∀ z, z < 39 * st.length → qI m' 456 z = qI m 456 z) ∧ ∀ z, z < k → qI m' 456 (39 * st.length + z) = nI ((pol t).getD z 0)) (Q := fun m' => Fx (fun a => a = 456 ∨ a = 457) m m' ∧ qI m' 457 = qI m1 457 ∧ (∀ z, z < 39 * st.length → qI m' 456 z = qI m 456 z) ∧ ∀ z, z < tS t → qI m' 456 (39 * st.length + z) = nI ((pol t).getD z 0)) (fun g r x hj => by
    obtain ⟨k, m', hk, rfl, hF, h457, hlo, hT⟩ := hj
    obtain ⟨K433, R26, K451, N451, R33, R34, K456, K457, N456, N457⟩ := (hF.M hP.1).ty
    have c433 : qI m' 433 = qI m 433 := hF.i (by omega)
    have c451 : qI m' 451 k = nI ((pol t).getD k 0) := by
      rw [hF.i (show ¬ (451 = 456 ∨ 451 = 457) by omega)]
      have := ho.2 k (by omega)
      rw [Nat.zero_add] at this
      exact this
    refine Or.inl ⟨(nI (k + 1), qsI m' 456 (39 * st.length + k) (nI ((pol t).getD k 0))), ⟨k + 1, _, by omega, rfl, hF.sI (Or.inl rfl), by rw [← h457]; funext z; simp [qS], fun z hz => ?_, fun z hz => ?_⟩, ?_⟩
    · simp only [qS]
      rw [if_pos trivial, if_neg (by omega)]
      exact hlo z hz
    · simp only [qS]
      rw [if_pos trivial]
      by_cases ez : z = k
      · rw [ez, if_pos rfl]
      · rw [if_neg (by omega)]; exact hT z (by omega)
    · show lX10_keepsType_15 NF 433 (g + 1) (nI k) m' = lX10_keepsType_15 NF 433 g (nI (k + 1)) _
      conv => lhs; unfold lX10_keepsType_15
      refine EgI K433 ((congrFun c433 27).trans ho.1) ?_
      refine EIn (fun z => by have := (nI_leI (by omega) (by omega)).mp z; omega) ?_
      refine EgR K433 R33 ?_
      refine EgI K433 ((congrFun c433 35).trans h35) ?_
      refine EgR K433 R26 ?_
      refine EaI K451 rfl (show k < qN m' 451 by omega) (by omega) c451 ?_
      refine EwI K456 (ix39 _ _) (show 39 * st.length + k < qN m' 456 by omega) (by omega) rfl ?_
      rw [nI_s]) (fun g x hj => by
    obtain ⟨k, m', hk, rfl, hF, h457, hlo, hT⟩ := hj
    obtain rfl : k = tS t := by omega
    have K433 := (hF.M hP.1).ty.1
    have c433 : qI m' 433 = qI m 433 := hF.i (by omega)
    refine ⟨m', ?_, hF, h457, hlo, hT⟩
    show lX10_keepsType_15 NF 433 (g + 1) (nI (tS t)) m' = _
    unfold lX10_keepsType_15
    refine EgI K433 ((congrFun c433 27).trans ho.1) ?_
    refine EIp ((nI_leI (by omega) (by omega)).mpr (Nat.le_refl _)) ?_
    rfl) (tS t) NF (nI 0, m1) (by unfold NF; omega) ⟨0, m1, by omega, rfl, f1, rfl, fun z hz => by simp [m1, qS], fun z hz => absurd hz (by omega)⟩
  have c433 : qI b 433 = qI m 433 := e2.i (by omega)
  have KB := (e2.M hP.1).ty.1
  let m3 : qM := qsI b 433 35 (nI (st.length + 1))
  have f3 : Fx (fun a => a = 433 ∨ a = 456 ∨ a = 457) m m3 := (e2.mono (fun a ha => by omega)).sI (Or.inl rfl)
  have hj : ∀ j, j ≠ 35 → qI m3 433 j = qI m 433 j := fun j hj => by simp only [m3, qS, hj, ↓reduceIte]; exact congrFun c433 j
  have o457 : ∀ j, qI m3 457 j = if j = st.length then nI (tS t) else qI m 457 j := fun j => by
    have : qI m3 457 j = qI b 457 j := by simp [m3, qS]
    rw [this, e3]; simp [m1, qS]
  have o456 : ∀ j, qI m3 456 j = qI b 456 j := fun j => by simp [m3, qS]
  refine ⟨m3, ?_, ⟨MP_kq hP f3 (fun a ha => by omega) (fun j hj2 => hj j (by unfold kq at hj2; omega)), (hj 8 (by decide)).trans h8, (hj 36 (by decide)).trans h36, by simp [m3, qS], ⟨⟨by rw [o457, if_pos rfl], fun i hi => by rw [o456]; exact e5 i hi⟩, StT_of hS (fun u hu => (hok u hu).2.1) (fun j hj => by rw [o457, if_neg (by omega)]) (fun j hj => by rw [o456]; exact e4 j hj)⟩, fun u hu => ?_, by simp; omega⟩, f3.mono (fun a ha => by omega)⟩
  · unfold fX10_keepsType
    refine EgR k433 r34 ?_
    refine EgI k433 h35 ?_
    refine EgI k433 ho.1 ?_
    refine EwI k457 rfl (show st.length < qN m 457 by omega) (by omega) rfl ?_
    refine EB (show lX10_keepsType_15 NF 433 NF 0 m1 = some b from e1) ?_
    refine EgI KB ((congrFun c433 35).trans h35) ?_
    refine EpI KB (nI_s _) ?_
    rfl
  · rcases List.mem_cons.mp hu with rfl | hu
    · exact ht
    · exact hok u hu
theorem m_appliesT {m : qM} {s : ST} {pos : Nat} {a b : Tm} {rr : List Tm} (h : ML m s pos (a :: b :: rr)) : ∃ m2, fX10_applies NF 433 m = some m2 ∧ Gm m m2 ∧ ((rc (dU b a) = 0 ∧ ML m2 s pos (rt (dU b a) :: rr)) ∨ (¬ rc (dU b a) = 0 ∧ MF m2 s (rc (dU b a)))) := by
  have h0 := h
  obtain ⟨hP, h8, h36, h35, hS, hok, hl⟩ := h
  have hll : (a :: b :: rr).length = rr.length + 2 := by simp
  rw [hll] at h35 hl
  have oa := hok a (by simp)
  have ob := hok b (by simp)
  obtain ⟨k433, r26, k451, n451, r33, r34, k456, k457, n456, n457⟩ := hP.1.ty
  have Ca : Cd (qI m) 456 (39 * (rr.length + 1)) a := hS.1.2
  have Cb : Cd (qI m) 456 (39 * rr.length) b := hS.2.1.2
  obtain ⟨m1, p1, p2, p3, p4⟩ := m_detaches (A := 456) (B := 456) (w := 39 * rr.length) (u := 39 * (rr.length + 1)) hP.1 (Or.inr rfl) (Or.inr rfl) (by have := ob.2.1; omega) (by have := oa.2.1; omega) (bel_mono ob.1 (by omega)) (bel_mono oa.1 (by omega)) ob.2.1 oa.2.1 Cb Ca
  let m3 : qM := qsI (qsI m1 433 36 (rc (dU b a))) 433 35 (nI rr.length)
  have K1 : qK m1 433 = 10 := by rw [p2.1]; exact k433
  have f3 : Fx dDt m m3 := (p2.sI (show dDt 433 by unfold dDt; omega)).sI (show dDt 433 by unfold dDt; omega)
  have hj : ∀ j, kp j → j ≠ 35 → j ≠ 36 → qI m3 433 j = qI m 433 j := fun j h1 h2 h3 => by simp only [m3, qS, h2, h3, ↓reduceIte]; exact p3 j h1
  have hP3 : MP m3 s := MP_kq hP f3 (fun a ha => by unfold dDt at ha; omega) (fun j hj2 => hj j (by unfold kq at hj2; unfold kp; omega) (by unfold kq at hj2; omega) (by unfold kq at hj2; omega))
  have h36' : qI m3 433 36 = rc (dU b a) := by simp [m3, qS]
  have g3 : Gm m m3 := f3.mono (fun a ha => by unfold dDt at ha; omega)
  have i2 : nI (rr.length + 2) - (2 : Int32) = nI rr.length := by
    show nI (rr.length + 2) - nI 2 = _
    rw [pk_sub (by omega)]; congr 1
  have hpre : ∀ R, (if rc (dU b a) = 0 then (qChk m3 433 10 (fX10_keepsType NF 433 m3)).bind fun b9 => some b9 else some m3) = R → fX10_applies NF 433 m = R := by
    intro R hR
    unfold fX10_applies
    refine EgI k433 h36 ?_
    refine EIp (by decide) ?_
    refine EgI k433 h35 ?_
    refine EgR k433 r33 ?_
    refine EgR k433 r33 ?_
    rw [i2, nI_s, ix39', ix39']
    refine EC k433 p1 ?_
    refine EpI K1 rfl ?_
    refine EpI (show qK (qsI m1 433 36 (rc (dU b a))) 433 = 10 from K1) rfl ?_
    refine EgI (show qK m3 433 = 10 from K1) h36' ?_
    exact hR
  by_cases hr : rc (dU b a) = 0
  · have hM3 : ML m3 s pos rr := ⟨hP3, (hj 8 (by simp [kp]) (by decide) (by decide)).trans h8, by rw [h36', hr]; rfl, by simp [m3, qS], StT_of hS.2.2 (fun u hu => (hok u (by simp [hu])).2.1) (fun j _ => by rw [f3.i (by unfold dDt; omega)]) (fun j _ => by rw [f3.i (by unfold dDt; omega)]), fun u hu => hok u (by simp [hu]), by omega⟩
    have ho : One (qI m3) (rt (dU b a)) := One_of (p4 (rc_ok.mp hr)) (by simp [m3, qS]) (by funext z; simp [m3, qS])
    obtain ⟨m4, q1, q2, q3⟩ := m_keepsT hM3 ho (dU_okF ob.1 oa.1 ob.2.1 oa.2.1 (rc_ok.mp hr)) (by omega)
    refine ⟨m4, hpre _ ?_, g3.tr q3, Or.inl ⟨hr, q2⟩⟩
    rw [if_pos hr]
    refine EC (show qK m3 433 = 10 from K1) q1 ?_
    rfl
  · exact ⟨m3, hpre _ (if_neg hr), g3, Or.inr ⟨hr, hP3, h36', rc_neg hr⟩⟩
theorem m_letterT {m : qM} {s : ST} {pos c : Nat} {st : List Tm} {α : Type} {fr : Nat → qM → Option qM} {v1 : Int32} (h : ML m s pos st) (hc : ixL c < 6) (hl : st.length ≤ 9) : ∃ m2, Gm m m2 ∧ ML m2 s pos (tyT (tyK c) :: st) ∧ ∀ (K : qM → Option α), ((qChs 11 (fJ0_indexOf_0f7a4 NF 11 (nI c) m)).bind fun b11 => (fX10_typeOf NF b11.1 b11.2).bind fun b12 => (qChs b12.1 (fJ0_length_8abf5 NF b12.1 b12.2)).bind fun b13 => (qpI b13.2 433 10 27 b13.1).bind fun m14 => (lX10_typesTerm_95 NF fr 433 v1 b12.1 NF (0 : Int32) m14).bind fun o15 => (qChk o15 433 10 (fX10_keepsType NF 433 o15)).bind fun b16 => K b16) = K m2 := by
  have h0 := h
  obtain ⟨hP, h8, h36, h35, hS, hok, -⟩ := h
  have hc87 := (ixL_c hc).1
  have hk := tyK_lt c
  obtain ⟨k433, r26, k451, n451, r33, r34, k456, k457, n456, n457⟩ := hP.1.ty
  have hF := ty_okF hk
  have hcod := ty_pol (tyK c) hk
  obtain ⟨hsz, hnv⟩ := ty_small (tyK c) hk
  have hlen : (tyC (tyK c)).length = tS (tyT (tyK c)) := by rw [← pol_len, ← hcod, List.length_map]
  have hq : qtl (tyK c) = (tyC (tyK c)).length := ty_len _ hk
  have hch := ty_c (tyK c) hk
  generalize htt : tyT (tyK c) = t at *
  let m1 : qM := qsI m 433 27 (nI (tS t))
  have f1 : Fx (fun a => a = 433 ∨ a = 451) m m1 := Fx.rf.sI (Or.inl rfl)
  obtain ⟨b, e1, e2, e3, e4⟩ := walk (l := fun g (x : Int32 × qM) => lX10_typesTerm_95 NF fr 433 v1 (tyK c) g x.1 x.2) (J := fun r x => ∃ k m', k + r = tS t ∧ x = (nI k, m') ∧ Fx (fun a => a = 433 ∨ a = 451) m m' ∧ qI m' 433 = qI m1 433 ∧ ∀ z, z < k → qI m' 451 z = nI ((pol t).getD z 0)) (Q := fun m' => Fx (fun a => a = 433 ∨ a = 451) m m' ∧ qI m' 433 = qI m1 433 ∧ ∀ z, z < tS t → qI m' 451 z = nI ((pol t).getD z 0)) (fun g r x hj => by
    obtain ⟨k, m', hkk, rfl, hFx, h433, hT⟩ := hj
    obtain ⟨K433, R26, K451, N451, -⟩ := (hFx.M hP.1).ty
    have h27 : qI m' 433 27 = nI (tS t) := by rw [h433]; simp [m1, qS]
    have hat : qChs (tyK c) (fJ0_charAt_5068e NF (tyK c) (nI k) m') = some (nI ((tyC (tyK c)).getD k 0), m') := by unfold qChs; rw [if_pos (by omega), s_at hk (by omega)]
    have hpk : (pol t).getD k 0 = cd 67 97 ((tyC (tyK c)).getD k 0) := by rw [← hcod, getD_map (by omega)]
    have hmem := hch _ (mem_getD (show k < (tyC (tyK c)).length by omega))
    generalize hd : (tyC (tyK c)).getD k 0 = d at *
    refine Or.inl ⟨(nI (k + 1), qsI m' 451 k (nI ((pol t).getD k 0))), ⟨k + 1, _, by omega, rfl, hFx.sI (Or.inr rfl), by rw [← h433]; funext z; simp [qS], fun z hz => ?_⟩, ?_⟩
    · simp only [qS, ↓reduceIte]
      by_cases ez : z = k
      · rw [if_pos ez, ez]
      · rw [if_neg ez]; exact hT z (by omega)
    · show lX10_typesTerm_95 NF fr 433 v1 (tyK c) (g + 1) (nI k) m' = lX10_typesTerm_95 NF fr 433 v1 (tyK c) g (nI (k + 1)) _
      conv => lhs; unfold lX10_typesTerm_95 kX10_typesTerm_135
      refine EgI K433 h27 ?_
      refine EIn (fun z => by have := (nI_leI (by omega) (by omega)).mp z; omega) ?_
      refine EgR K433 R26 ?_
      refine EB hat ?_
      by_cases e : d = 67
      · subst e
        refine EIp rfl ?_
        refine EwI K451 rfl (show k < qN m' 451 by omega) (by omega) (show (99 : Int32) = nI ((pol t).getD k 0) by rw [hpk]; rfl) ?_
        rw [nI_s]
      · have hd2 := hmem.resolve_left e
        refine EIn (fun z => e ((nI_eq (b := 67) (by omega) (by omega)).mp z)) ?_
        refine EB hat ?_
        refine EwI K451 rfl (show k < qN m' 451 by omega) (by omega) (show nI d - (97 : Int32) = nI ((pol t).getD k 0) by
          rw [hpk]
          unfold cd
          rw [if_neg e]
          exact pk_sub (b := 97) (by omega)) ?_
        rw [nI_s]) (fun g x hj => by
    obtain ⟨k, m', hkk, rfl, hFx, h433, hT⟩ := hj
    obtain rfl : k = tS t := by omega
    have K433 := (hFx.M hP.1).ty.1
    have h27 : qI m' 433 27 = nI (tS t) := by rw [h433]; simp [m1, qS]
    refine ⟨m', ?_, hFx, h433, hT⟩
    show lX10_typesTerm_95 NF fr 433 v1 (tyK c) (g + 1) (nI (tS t)) m' = _
    unfold lX10_typesTerm_95
    refine EgI K433 h27 ?_
    refine EIp ((nI_leI (by omega) (by omega)).mpr (Nat.le_refl _)) ?_
    rfl) (tS t) NF (nI 0, m1) (by unfold NF; omega) ⟨0, m1, by omega, rfl, f1, rfl, fun z hz => absurd hz (by omega)⟩
  have hj : ∀ j, j ≠ 27 → qI b 433 j = qI m 433 j := fun j hj => by rw [e3]; simp [m1, qS, hj]
  have hMb : ML b s pos st := ⟨MP_kq hP e2 (fun a ha => by omega) (fun j h => hj j (by unfold kq at h; omega)), (hj 8 (by decide)).trans h8, (hj 36 (by decide)).trans h36, (hj 35 (by decide)).trans h35, StT_of hS (fun u hu => (hok u hu).2.1) (fun j _ => by rw [e2.i (by omega)]) (fun j _ => by rw [e2.i (by omega)]), hok, by omega⟩
  have ho : One (qI b) t := ⟨by rw [e3]; simp [m1, qS], fun i hi => by rw [Nat.zero_add]; exact e4 i hi⟩
  obtain ⟨m2, q1, q2, q3⟩ := m_keepsT hMb ho hF hl
  refine ⟨m2, (e2.mono (fun a ha => by omega)).tr q3, q2, fun K => ?_⟩
  have hix := s_ix (c := c) (m := m) (by omega)
  rw [if_pos hc] at hix
  refine EB (show qChs 11 (fJ0_indexOf_0f7a4 NF 11 (nI c) m) = some (nI (ixL c), m) from hix) ?_
  refine EB (m_typeOf (by omega) hc) ?_
  refine EB (show qChs (tyK c) (fJ0_length_8abf5 NF (tyK c) m) = some (nI (tS t), m) by unfold qChs; rw [if_pos (by omega), s_len (by omega), hq, hlen]) ?_
  refine EpI k433 rfl ?_
  refine EB (show lX10_typesTerm_95 NF fr 433 v1 (tyK c) NF 0 m1 = some b from e1) ?_
  refine EC hMb.1.1.ty.1 q1 ?_
  rfl
end
