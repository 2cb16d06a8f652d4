section
-- ===== types of terms: the signs are carried out =====
noncomputable def exS : List Nat → List Tm → List Tm ⊕ Int32
  | [], st => .inl st
  | c :: cs, st => if c = 64 then (match st with
    | a :: b :: r => if rc (dU b a) = 0 then exS cs (rt (dU b a) :: r) else .inr (rc (dU b a))
    | st => exS cs st) else exS cs (tyT (tyK c) :: st)
theorem ex_app {cs : List Nat} {a b : Tm} {r : List Tm} : exS (64 :: cs) (a :: b :: r) = if rc (dU b a) = 0 then exS cs (rt (dU b a) :: r) else .inr (rc (dU b a)) := rfl
theorem ex_let {cs : List Nat} {c : Nat} {st : List Tm} (h : c ≠ 64) : exS (c :: cs) st = exS cs (tyT (tyK c) :: st) := by
  show (if c = 64 then _ else _) = _
  rw [if_neg h]
def hk : Nat → List Nat → Prop
  | h, [] => h = 1
  | h, c :: cs => if c = 64 then 2 ≤ h ∧ hk (h - 1) cs else h ≤ 9 ∧ ixL c < 6 ∧ hk (h + 1) cs
theorem hk_app {h : Nat} {cs : List Nat} : hk h (64 :: cs) = (2 ≤ h ∧ hk (h - 1) cs) := rfl
theorem hk_let {h c : Nat} {cs : List Nat} (e : c ≠ 64) : hk h (c :: cs) = (h ≤ 9 ∧ ixL c < 6 ∧ hk (h + 1) cs) := by
  show (if c = 64 then _ else _) = _
  rw [if_neg e]
theorem ixL_c {c : Nat} (h : ixL c < 6) : c ≤ 87 ∧ c ≠ 64 := by
  have h1 := fstF_hit (p := fun i => decide (lets.getD i 0 = c)) 6 0 (by show ixL c < 0 + 6; omega)
  have h2 : lets.getD (ixL c) 0 = c := of_decide_eq_true h1
  have h3 := (by decide : ∀ i, i < 6 → lets.getD i 0 ≤ 87 ∧ lets.getD i 0 ≠ 64) (ixL c) h
  rw [h2] at h3
  exact h3
def trues : List Bool → Nat
  | [] => 0
  | b :: bs => (if b = true then 1 else 0) + trues bs
theorem trues_le : ∀ bs : List Bool, trues bs ≤ bs.length
  | [] => Nat.le_refl _
  | b :: bs => by
    have := trues_le bs
    unfold trues
    split
    · simp; omega
    · simp; omega
theorem ps_hk : ∀ (cs : List Nat) (b : Bool) (bs : List Bool) (k : Nat), bs.length ≤ 8 → tE bs.length (!b) k cs = none → hk (trues (b :: bs)) (ps (b :: bs) cs) := by
  intro cs
  induction cs with
  | nil =>
    intro b bs k hb h
    rw [tE_nil] at h
    rw [ps_nil]
    show trues (b :: bs) = 1
    by_cases e : bs.length = 0 ∧ (!b) = false
    · have : bs = [] := List.eq_nil_of_length_eq_zero e.1
      subst this
      cases b
      · exact absurd e.2 (by decide)
      · rfl
    · rw [if_neg e] at h; cases h
  | cons c cs ih =>
    intro b bs k hb h
    rw [tE_cons] at h
    have hcl := trues_le bs
    by_cases c1 : c = 40
    · rw [if_pos c1] at h
      by_cases d8 : bs.length < 8
      · rw [if_pos d8] at h
        subst c1
        rw [ps_open]
        have := ih false (b :: bs) (k + 1) (by simp; omega) h
        have e : trues (false :: b :: bs) = trues (b :: bs) := by
          show 0 + trues (b :: bs) = _; omega
        rw [e] at this
        exact this
      · rw [if_neg d8] at h; cases h
    · rw [if_neg c1] at h
      by_cases c2 : c = 41
      · rw [if_pos c2] at h
        by_cases d0 : bs.length = 0
        · rw [if_pos d0] at h; cases h
        · rw [if_neg d0] at h
          by_cases e0 : (!b) = true
          · rw [if_pos e0] at h; cases h
          · rw [if_neg e0] at h
            have hbt : b = true := by simpa using e0
            subst hbt
            subst c2
            cases bs with
            | nil => exact absurd rfl d0
            | cons b2 bs2 =>
              rw [ps_close]
              have := ih true bs2 (k + 1) (by simp at hb; omega) h
              have e1 : trues (true :: bs2) = 1 + trues bs2 := rfl
              rw [e1] at this
              cases b2
              · show hk (1 + (0 + trues bs2)) (ps (true :: bs2) cs)
                rw [Nat.zero_add]; exact this
              · show hk (1 + (1 + trues bs2)) (64 :: ps (true :: bs2) cs)
                rw [hk_app]
                exact ⟨by omega, by rw [show 1 + (1 + trues bs2) - 1 = 1 + trues bs2 by omega]; exact this⟩
      · rw [if_neg c2] at h
        by_cases c3 : ixL c < 6
        · rw [if_pos c3] at h
          have := ih true bs (k + 1) hb h
          have e1 : trues (true :: bs) = 1 + trues bs := rfl
          rw [e1] at this
          rw [ps_let c1 c2, hk_let (ixL_c c3).2]
          cases b
          · refine ⟨by show 0 + trues bs ≤ 9; omega, c3, ?_⟩
            show hk (0 + trues bs + 1) (ps (true :: bs) cs)
            rw [show 0 + trues bs + 1 = 1 + trues bs by omega]; exact this
          · refine ⟨by show 1 + trues bs ≤ 9; omega, c3, ?_⟩
            show hk (1 + trues bs + 1) (64 :: ps (true :: bs) cs)
            rw [hk_app]
            exact ⟨by omega, this⟩
        · rw [if_neg c3] at h; cases h
noncomputable def teA (s : ST) : Int32 := match exS (ps [false] (sTx s)) [] with
  | .inr f => f
  | .inl st => entA (sN s) (sFo s) (st.getD 0 (.var 0))
noncomputable def teS (s : ST) : ST := match exS (ps [false] (sTx s)) [] with
  | .inr _ => s
  | .inl st => wLs s (entN (sN s) (sFo s) (st.getD 0 (.var 0))) (setN (sFo s) (sN s) (st.getD 0 (.var 0))) (setN (sEn s) (sN s) none)
noncomputable def aTy (s : ST) : Int32 := match tE 0 true 0 (sTx s) with
  | some p => -100 - nI p
  | none => teA s
noncomputable def sTy (s : ST) : ST := match tE 0 true 0 (sTx s) with
  | some _ => wTx s []
  | none => wTx (teS s) []
theorem ex_ok : ∀ (cs : List Nat) (st st2 : List Tm), hk st.length cs → (∀ t, t ∈ st → okF t) → exS cs st = .inl st2 → (∀ t, t ∈ st2 → okF t) ∧ st2.length = 1 := by
  intro cs
  induction cs with
  | nil =>
    intro st st2 h hs e
    have : st = st2 := by injection e
    subst this
    exact ⟨hs, h⟩
  | cons c cs ih =>
    intro st st2 h hs e
    by_cases c1 : c = 64
    · subst c1
      rw [hk_app] at h
      rcases st with _ | ⟨a, _ | ⟨b, r⟩⟩
      · simp at h
      · simp at h
      · rw [ex_app] at e
        by_cases hr : rc (dU b a) = 0
        · rw [if_pos hr] at e
          have ha := hs a (by simp)
          have hb := hs b (by simp)
          refine ih _ st2 ?_ (fun t ht => ?_) e
          · have := h.2; simpa using this
          · rcases List.mem_cons.mp ht with rfl | ht
            · exact dU_okF hb.1 ha.1 hb.2.1 ha.2.1 (rc_ok.mp hr)
            · exact hs t (by simp [ht])
        · rw [if_neg hr] at e; cases e
    · rw [hk_let c1] at h
      rw [ex_let c1] at e
      refine ih _ st2 (by simpa using h.2.2) (fun t ht => ?_) e
      rcases List.mem_cons.mp ht with rfl | ht
      · exact ty_okF (tyK_lt c)
      · exact hs t ht
theorem one_getD {st : List Tm} (h : st.length = 1) : ∃ t, st = [t] := by
  rcases st with _ | ⟨a, _ | ⟨b, r⟩⟩
  · simp at h
  · exact ⟨a, rfl⟩
  · simp at h
theorem te_ok {s : ST} (h : okS s) (hp : tE 0 true 0 (sTx s) = none) : okS (teS s) := by
  unfold teS
  cases he : exS (ps [false] (sTx s)) [] with
  | inr f => exact h
  | inl st =>
    have hh := ps_hk (sTx s) false [] 0 (by simp) hp
    obtain ⟨h1, h2⟩ := ex_ok (ps [false] (sTx s)) [] st hh (fun t ht => by simp at ht) he
    obtain ⟨t, rfl⟩ := one_getD h2
    exact ⟨okL_ent h.1 (h1 t (by simp)) (fun a b z => by cases z), h.2⟩
theorem ok_ty {s : ST} (h : okS s) : okS (sTy s) := by
  unfold sTy
  cases hp : tE 0 true 0 (sTx s) with
  | some p => exact ok_tx h
  | none => exact ok_tx (te_ok h hp)
-- ===== the class =====
theorem XS.yy {K N : Nat → Nat} {R : Nat → Nat → Option Nat} (h : XS K N R) {i : Nat} (hi : i < 10) : FmS K N R (409 + 2 * i) ∧ R 408 i = some (409 + 2 * i) ∧ K 408 = 15 ∧ N 408 = 10 := by
  obtain ⟨h0, h1, h2, -⟩ := h.2.2.2.2.2.2.2.2
  obtain ⟨a1, a2, a3, a4, a5⟩ := h2 i hi
  exact ⟨⟨a1, a2, a3, a4⟩, a5, h0, h1⟩
def dTy (i a : Nat) : Prop := a = 409 + 2 * i ∨ a = 409 + 2 * i + 1 ∨ a = 431
theorem c_readType {m : qM} {c i : Nat} (hX : XS (qK m) (qN m) (qR m)) (hi : i < 10) (hc : c < 128) : ∃ m2, fX9_readType NF 0 (nI c) (409 + 2 * i) m = some m2 ∧ Fx (dTy i) m m2 ∧ CFm (qI m2) (409 + 2 * i) (tyT (tyK c)) := by
  have hk := tyK_lt c
  obtain ⟨k0, r00, r01, r02, r03, r04, r05, r06, r07, r08, r09, r010, r011, r012⟩ := hX.c0
  have F0 := (hX.yy hi).1
  have hcod := ty_pol (tyK c) hk
  obtain ⟨hsz, hnv⟩ := ty_small (tyK c) hk
  have hcn := ty_cn (tyK c) hk
  have hlen : (tyC (tyK c)).length = tS (tyT (tyK c)) := by rw [← pol_len, ← hcod, List.length_map]
  have hq : qtl (tyK c) = (tyC (tyK c)).length := ty_len _ hk
  have hnvd : nv (tyT (tyK c)) = (nm [] (pol (tyT (tyK c)))).length := rfl
  obtain ⟨m1, p1, p2, p3⟩ := c_empty F0
  have f1 : Fx (dTy i) m m1 := p2.mono (fun a ha => by unfold dF at ha; unfold dTy; omega)
  generalize htx : tyC (tyK c) = tx at *
  generalize htt : tyT (tyK c) = t at *
  have hcl : (tx.map (cd 67 97)).length = tx.length := List.length_map ..
  have hch := ty_c (tyK c) hk
  rw [htx] at hch
  obtain ⟨b, e1, e2, e3⟩ := walk (l := fun g (x : Int32 × qM) => lX9_readType_12 NF 0 (409 + 2 * i) (tyK c) g x.1 x.2) (J := fun r x => ∃ k m', k + r = tx.length ∧ x = (nI k, m') ∧ Fx (dTy i) m m' ∧ CFb (qI m') (409 + 2 * i) (cn [] ((tx.map (cd 67 97)).take k)) (nm [] ((tx.map (cd 67 97)).take k)).length ∧ NmR (qI m') 431 (fun v => v + 97) (nm [] ((tx.map (cd 67 97)).take k))) (Q := fun m' => Fx (dTy i) m m' ∧ CFm (qI m') (409 + 2 * i) t) (fun g r x hj => by
    obtain ⟨k, m', hkk, rfl, hF, hC, hN⟩ := hj
    have hX' := hF.X hX
    have K0 : qK m' 0 = 9 := hX'.c0.1
    have R011 : qR m' 0 11 = some 431 := by rw [hF.2.2.1]; exact r011
    have F' := (hX'.yy hi).1
    have hmem : tx.getD k 0 ∈ tx := mem_getD (by omega)
    have htk : (tx.map (cd 67 97)).take (k + 1) = (tx.map (cd 67 97)).take k ++ [cd 67 97 (tx.getD k 0)] := by
      rw [take_snoc (by omega), getD_map (by omega)]
    have hcnl : (cn [] ((tx.map (cd 67 97)).take k)).length = k := by rw [cn_len, List.length_take]; omega
    have hnl : (nm [] ((tx.map (cd 67 97)).take k)).length ≤ 3 := by
      have := nm_le_full (cs := tx.map (cd 67 97)) (k := k)
      rw [hcod] at this ⊢
      omega
    have hnl2 : (nm [] ((tx.map (cd 67 97)).take (k + 1))).length ≤ 3 := by
      have := nm_le_full (cs := tx.map (cd 67 97)) (k := k + 1)
      rw [hcod] at this ⊢
      omega
    obtain ⟨m2, rr, q1, q2, q3⟩ := c_addLetter (A := 431) (c := tx.getD k 0) F' (by omega) (by omega) hX'.r31.1 hX'.r31.2.1 hC (by omega) hN (fun a ha => by have := nm_codes hch a ha; omega) (hch _ hmem)
    have f2 : Fx (dTy i) m m2 := hF.tr (q2.mono (fun a ha => by unfold dFA dF at ha; unfold dTy; omega))
    rcases q3 with ⟨rfl, w1, w2, w3⟩ | ⟨rfl, w1⟩
    · refine Or.inl ⟨(nI (k + 1), m2), ⟨k + 1, m2, by omega, rfl, f2, ?_⟩, ?_⟩
      · rw [htk, cn_app, nm_app]
        exact ⟨w2, w3⟩
      · show lX9_readType_12 NF 0 (409 + 2 * i) (tyK c) (g + 1) (nI k) m' = lX9_readType_12 NF 0 (409 + 2 * i) (tyK c) g (nI (k + 1)) m2
        conv => lhs; unfold lX9_readType_12
        refine EB (show qChs (tyK c) (fJ0_length_8abf5 NF (tyK c) m') = some (nI tx.length, m') by unfold qChs; rw [if_pos (by omega), s_len (by omega), hq]) ?_
        refine EIn (fun z => by have := (nI_leI (by omega) (by omega)).mp z; omega) ?_
        refine EB (show qChs (tyK c) (fJ0_charAt_5068e NF (tyK c) (nI k) m') = some (nI (tx.getD k 0), m') by unfold qChs; rw [if_pos (by omega), s_at hk (by rw [htx]; omega), htx]) ?_
        refine EgR K0 R011 ?_
        refine EC F'.1 q1 ?_
        rw [nI_s]
    · refine absurd ⟨?_, ?_⟩ w1
      · rw [hcnl]; omega
      · rw [← nm_app, ← htk]; omega) (fun g x hj => by
    obtain ⟨k, m', hkk, rfl, hF, hC, hN⟩ := hj
    obtain rfl : k = tx.length := by omega
    rw [List.take_of_length_le (by omega), hcod, hcn] at hC
    refine ⟨m', ?_, hF, ?_⟩
    · show lX9_readType_12 NF 0 (409 + 2 * i) (tyK c) (g + 1) (nI tx.length) m' = _
      unfold lX9_readType_12
      refine EB (show qChs (tyK c) (fJ0_length_8abf5 NF (tyK c) m') = some (nI tx.length, m') by unfold qChs; rw [if_pos (by omega), s_len (by omega), hq]) ?_
      refine EIp ((nI_leI (by omega) (by omega)).mpr (Nat.le_refl _)) ?_
      rfl
    · obtain ⟨z1, z2, z3, z4⟩ := hC
      rw [pol_len] at z1 z3 z4
      exact ⟨z1, z2, z3, z4⟩) tx.length NF (nI 0, m1) (by unfold NF; omega) ⟨0, m1, by omega, rfl, f1, by rw [List.take_zero]; exact p3, fun j hj => by simp [nm] at hj⟩
  refine ⟨b, ?_, e2, e3⟩
  unfold fX9_readType
  refine EB (c_typeOf hc) ?_
  refine EC F0.1 p1 ?_
  refine EB (show lX9_readType_12 NF 0 (409 + 2 * i) (tyK c) NF 0 m1 = some b from e1) ?_
  rfl
end
