section
theorem getD_app_l {a b : List Nat} {i : Nat} (h : i < a.length) : (a ++ b).getD i 0 = a.getD i 0 := by rw [List.getD_eq_getElem?_getD, List.getD_eq_getElem?_getD, List.getElem?_append_left h]
theorem getD_app_r {a b : List Nat} {i : Nat} : (a ++ b).getD (i + a.length) 0 = b.getD i 0 := by rw [List.getD_eq_getElem?_getD, List.getD_eq_getElem?_getD, List.getElem?_append_right (by omega), Nat.add_sub_cancel]
theorem pol_opA {a b : Tm} {i : Nat} (h : i < tS a) : (pol (.op a b)).getD (i + 1) 0 = (pol a).getD i 0 := by
  show (99 :: (pol a ++ pol b)).getD (i + 1) 0 = _
  rw [List.getD_cons_succ, getD_app_l (by rw [pol_len]; exact h)]
theorem pol_opB {a b : Tm} {i : Nat} : (pol (.op a b)).getD (i + 1 + tS a) 0 = (pol b).getD i 0 := by
  show (99 :: (pol a ++ pol b)).getD (i + 1 + tS a) 0 = _
  rw [show i + 1 + tS a = (i + (pol a).length) + 1 by rw [pol_len]; omega, List.getD_cons_succ, getD_app_r]
-- ===== proofs in D-notation =====
noncomputable def pvT : Tm → ST → Int32 × ST
  | .var v, s => (nI v, s)
  | .op a b, s => if (pvT a s).1 < 0 then pvT a s else if (pvT b (pvT a s).2).1 < 0 then pvT b (pvT a s).2 else (detA (pvT b (pvT a s).2).2 (pvT a s).1.toNatClampNeg (pvT b (pvT a s).2).1.toNatClampNeg, detS (pvT b (pvT a s).2).2 (pvT a s).1.toNatClampNeg (pvT b (pvT a s).2).1.toNatClampNeg)
def inL (s : ST) (v : Int32) : Prop := ∃ k, k < sN s ∧ v = nI k
theorem ent_ans {n : Nat} {fo : Nat → Tm} {t : Tm} (hn : n ≤ 60) : n ≤ entN n fo t ∧ (entA n fo t < 0 ∨ ∃ k, k < entN n fo t ∧ entA n fo t = nI k) := by
  unfold entN entA
  by_cases h1 : plc n fo t < n
  · rw [if_pos h1, if_pos h1]
    exact ⟨Nat.le_refl _, Or.inr ⟨_, h1, rfl⟩⟩
  · rw [if_neg h1, if_neg h1]
    by_cases h2 : n < 60
    · rw [if_pos h2, if_pos h2]
      exact ⟨by omega, Or.inr ⟨n, by omega, rfl⟩⟩
    · rw [if_neg h2, if_neg h2]
      exact ⟨Nat.le_refl _, Or.inl (by decide)⟩
theorem det_ans {s : ST} {i j : Nat} (hs : okS s) : sN s ≤ sN (detS s i j) ∧ sTx (detS s i j) = sTx s ∧ (detA s i j < 0 ∨ inL (detS s i j) (detA s i j)) := by
  unfold detS detA inL
  by_cases e : rc (dU (sFo s i) (sFo s j)) = 0
  · rw [if_pos e, if_pos e]
    obtain ⟨h1, h2⟩ := ent_ans (fo := sFo s) (t := rt (dU (sFo s i) (sFo s j))) hs.1.1
    exact ⟨h1, rfl, h2⟩
  · rw [if_neg e, if_neg e]
    exact ⟨Nat.le_refl _, rfl, Or.inl (rc_neg e)⟩
theorem nI_of_in {s : ST} {v : Int32} (h : inL s v) (hn : sN s ≤ 60) : ¬ v < 0 ∧ v.toNatClampNeg < sN s ∧ v = nI v.toNatClampNeg := by
  obtain ⟨k, hk, rfl⟩ := h
  rw [nI_clamp (by omega)]
  exact ⟨nI_pos (by omega), hk, rfl⟩
theorem pv_ok : ∀ (t : Tm) (s : ST), okS s → bel (sN s) t → okS (pvT t s).2 ∧ sN s ≤ sN (pvT t s).2 ∧ sTx (pvT t s).2 = sTx s ∧ ((pvT t s).1 < 0 ∨ inL (pvT t s).2 (pvT t s).1) := by
  intro t
  induction t with
  | var v =>
    intro s hs hb
    exact ⟨hs, Nat.le_refl _, rfl, Or.inr ⟨v, bel_var.mp hb, rfl⟩⟩
  | op a b iha ihb =>
    intro s hs hb
    obtain ⟨hb1, hb2⟩ := bel_op.mp hb
    obtain ⟨a1, a2, a3, a4⟩ := iha s hs hb1
    unfold pvT
    by_cases e1 : (pvT a s).1 < 0
    · rw [if_pos e1]; exact ⟨a1, a2, a3, a4⟩
    · rw [if_neg e1]
      obtain ⟨b1, b2, b3, b4⟩ := ihb (pvT a s).2 a1 (bel_mono hb2 a2)
      by_cases e2 : (pvT b (pvT a s).2).1 < 0
      · rw [if_pos e2]; exact ⟨b1, by omega, b3.trans a3, b4⟩
      · rw [if_neg e2]
        have ia := nI_of_in (a4.resolve_left e1) a1.1.1
        have ib := nI_of_in (b4.resolve_left e2) b1.1.1
        obtain ⟨d1, d2, d3⟩ := det_ans (i := (pvT a s).1.toNatClampNeg) (j := (pvT b (pvT a s).2).1.toNatClampNeg) b1
        exact ⟨ok_det b1 (by omega) ib.2.1, by show sN s ≤ sN (detS _ _ _); omega, d2.trans (b3.trans a3), d3⟩
def hiD (n : Nat) : Nat := 48 + min 9 n
noncomputable def pvR (s : ST) : Int32 × ST := pvT (pT 68 49 (sTx s)) s
noncomputable def aPv (s : ST) : Int32 := match pE 68 49 (hiD (sN s)) 1 0 (sTx s) with
  | some p => -100 - nI p
  | none => (pvR s).1
def bck (s r : ST) : ST := wLs r (sN s) (sFo r) (sEn r)
noncomputable def sPv (s : ST) : ST := match pE 68 49 (hiD (sN s)) 1 0 (sTx s) with
  | some _ => wTx s []
  | none => wTx (if (pvR s).1 < 0 then bck s (pvR s).2 else (pvR s).2) []
theorem pv_bel {s : ST} (hp : pE 68 49 (hiD (sN s)) 1 0 (sTx s) = none) : pol (pT 68 49 (sTx s)) = (sTx s).map (cd 68 49) ∧ bel (sN s) (pT 68 49 (sTx s)) := by
  have h := pT_pol (B := 68) (lo := 49) (hi := hiD (sN s)) (by unfold hiD; omega) (by unfold hiD; omega) hp
  exact ⟨h.1, bel_mono h.2 (by unfold hiD; omega)⟩
theorem ok_bck {s r : ST} (h : okS r) (hn : sN s ≤ sN r) : okS (bck s r) := ⟨okL_cut h.1 hn, h.2⟩
theorem pvR_ok {s : ST} (h : okS s) (hp : pE 68 49 (hiD (sN s)) 1 0 (sTx s) = none) : okS (if (pvR s).1 < 0 then bck s (pvR s).2 else (pvR s).2) := by
  obtain ⟨-, hb⟩ := pv_bel hp
  obtain ⟨a1, a2, a3, a4⟩ := pv_ok _ s h hb
  by_cases e : (pvR s).1 < 0
  · rw [if_pos e]; exact ok_bck a1 a2
  · rw [if_neg e]; exact a1
theorem ok_pv {s : ST} (h : okS s) : okS (sPv s) := by
  unfold sPv
  cases hp : pE 68 49 (hiD (sN s)) 1 0 (sTx s) with
  | some p => exact ok_tx h
  | none => exact ok_tx (pvR_ok h hp)
-- ===== the class proves =====
def enP : Option Nat → Int32
  | none => -1
  | some a => nI a
def StP (I : Nat → Nat → Int32) : List (Option Nat) → Prop
  | [] => True
  | x :: st => I 432 st.length = enP x ∧ StP I st
theorem StP_of {I I2 : Nat → Nat → Int32} : ∀ {st : List (Option Nat)}, StP I st → (∀ j, j < st.length → I2 432 j = I 432 j) → StP I2 st
  | [], _, _ => trivial
  | x :: st, h, e => ⟨(e st.length (by simp)).trans h.1, StP_of h.2 (fun j hj => e j (by simp; omega))⟩
theorem StP_push {m : qM} {st : List (Option Nat)} {x : Option Nat} {v : Int32} (h : StP (qI m) st) (hv : v = enP x) : StP (qI (qsI m 432 st.length v)) (x :: st) := by
  refine ⟨by simp [qS, hv], StP_of h (fun j hj => ?_)⟩
  have q : ¬ j = st.length := by omega
  simp [qS, q]
def okP (s : ST) (st : List (Option Nat)) : Prop := ∀ a, some a ∈ st → a < sN s
def dlvP (n q n0 : Nat) (op v : Int32) (pos : Nat) (m : qM) : Option ((Int32 × qM) ⊕ (Int32 × qM)) :=
  qTh (lX9_proveText_67 NF 0 (nI n0) (nI pos) q op v m) (fun o7 =>
  if o7.1 ≤ 0 then (
  kX9_proveText_125 NF (lX9_proveText_15 NF 0 (nI n0) n) 0 (nI n0) o7.1 o7.2.1 (nI pos) o7.2.2
  ) else (
  (qgR o7.2.2 0 9 12).bind fun x8 =>
  (qwI o7.2.2 x8 12 (o7.1 - (1 : Int32)) o7.2.1).bind fun m9 =>
  kX9_proveText_125 NF (lX9_proveText_15 NF 0 (nI n0) n) 0 (nI n0) o7.1 o7.2.1 (nI pos) m9
  )
  ) (fun r => .inr r)
theorem dlv0 {n q n0 pos : Nat} {v : Int32} {m : qM} : dlvP n (q + 1) n0 (nI 0) v pos m = kX9_proveText_125 NF (lX9_proveText_15 NF 0 (nI n0) n) 0 (nI n0) (nI 0) v (nI pos) m := by
  have e67 : lX9_proveText_67 NF 0 (nI n0) (nI pos) (q + 1) (nI 0) v m = some (.inl (nI 0, v, m)) := by
    unfold lX9_proveText_67
    refine EIp (by decide) ?_
    rfl
  unfold dlvP
  rw [e67]
  unfold qTh
  simp only [Option.bind_some]
  rw [if_pos (show nI 0 ≤ 0 by decide)]
theorem cut5 {m : qM} {s : ST} {n0 : Nat} (h : CP m s) (hn : n0 ≤ sN s) (h60 : sN s ≤ 60) : CP (qsI m 5 6 (nI n0)) (wLs s n0 (sFo s) (sEn s)) ∧ Gc m (qsI m 5 6 (nI n0)) := by
  obtain ⟨hX, h2, h3, h4, hL, h6, h7⟩ := h
  have f : Fx (fun a => a = 5) m (qsI m 5 6 (nI n0)) := Fx.rf.sI rfl
  exact ⟨⟨f.X hX, CTx_of (f.i (by omega)) (f.i (by omega)) h2, h3, CTx_of (f.i (by omega)) (f.i (by omega)) h4, CLs_cut hL hn, CMx_of h6 (f.i (by omega)) (f.i (by omega)), CRs_of h7 (fun a _ _ => f.i (by omega))⟩, f.mono (fun a ha => by omega)⟩
theorem c_pvT {n0 : Nat} {tx : List Nat} (h80 : tx.length ≤ 80) (hch : ∀ c, c ∈ tx → c = 68 ∨ (49 ≤ c ∧ c ≤ 57)) : ∀ (t : Tm) (n p : Nat) (st : List (Option Nat)) (v3 : Int32) (s : ST) (m : qM), CP m s → okS s → n0 ≤ sN s → bel (sN s) t → sTx s = tx → p + tS t ≤ tx.length → (∀ i, i < tS t → cd 68 49 (tx.getD (p + i) 0) = (pol t).getD i 0) → StP (qI m) st → okP s st → st.length ≤ p →
    ∃ m2, Gc m m2 ∧ (((pvT t s).1 < 0 ∧ lX9_proveText_15 NF 0 (nI n0) (n + tS t) (nI st.length) v3 (nI p) m = some (.inr ((pvT t s).1, m2)) ∧ CP m2 (wLs (pvT t s).2 n0 (sFo (pvT t s).2) (sEn (pvT t s).2))) ∨ (¬ (pvT t s).1 < 0 ∧ CP m2 (pvT t s).2 ∧ StP (qI m2) st ∧ ∃ q, NF ≤ q + tS t ∧ lX9_proveText_15 NF 0 (nI n0) (n + tS t) (nI st.length) v3 (nI p) m = dlvP n q n0 (nI st.length) (pvT t s).1 (p + tS t - 1) m2)) := by
  intro t
  induction t with
  | var v =>
    intro n p st v3 s m hP hs hn0 hb htx hpl hcd hst hop hsl
    simp only [tS] at hpl hcd ⊢
    have hc0 := hcd 0 (by omega)
    rw [Nat.add_zero] at hc0
    have hv : v < sN s := bel_var.mp hb
    have hn := hs.1.1
    have hP0 := hP
    obtain ⟨hX, hT, -⟩ := hP
    rw [htx] at hT
    obtain ⟨k0, r00, -⟩ := hX.c0
    have k1 := hX.t1.1
    have hlen : fX7_length NF 1 m = some (nI tx.length, m) := by rw [fX7_length_eq k1, hT.1]
    have hat := fX7_at_eq (N := NF) hX.t1 hT (show p < tx.length by omega)
    have hcc := hch _ (mem_getD (ns := tx) (j := p) (by omega))
    have hc0' : cd 68 49 (tx.getD p 0) = v := hc0
    generalize tx.getD p 0 = c at hat hcc hc0'
    have hc68 : ¬ c = 68 := fun z => by rw [z] at hc0'; have : (99 : Nat) = v := hc0'; omega
    have hcv : c - 49 = v := by rw [← hc0']; exact (if_neg hc68).symm
    have hr := hcc.resolve_left hc68
    refine ⟨m, Fx.rf, Or.inr ⟨nI_pos (by omega), hP0, hst, NF, by omega, ?_⟩⟩
    conv => lhs; unfold lX9_proveText_15
    refine EgR k0 r00 ?_
    refine EC k1 hlen ?_
    refine EIn (fun z => by have := (nI_leI (by omega) (by omega)).mp z; omega) ?_
    refine EgR k0 r00 ?_
    refine EC k1 hat ?_
    refine EIn (fun z => hc68 ((nI_eq (b := 68) (by omega) (by omega)).mp z)) ?_
    refine EgR k0 r00 ?_
    refine EC k1 hat ?_
    have ev : nI c - (49 : Int32) = nI v := by rw [← hcv]; exact pk_sub hr.1
    dsimp only
    rw [ev]
    rfl
  | op a b iha ihb =>
    intro n p st v3 s m hP hs hn0 hb htx hpl hcd hst hop hsl
    have hpa := tS_pos a
    have hpb := tS_pos b
    obtain ⟨hb1, hb2⟩ := bel_op.mp hb
    simp only [tS] at hpl hcd ⊢
    have hc0 := hcd 0 (by omega)
    rw [Nat.add_zero] at hc0
    have hn := hs.1.1
    have hP0 := hP
    obtain ⟨hX, hT, -⟩ := hP
    rw [htx] at hT
    obtain ⟨k0, r00, r01, r02, r03, r04, r05, r06, r07, r08, r09, r010, r011, r012⟩ := hX.c0
    have k1 := hX.t1.1
    obtain ⟨-, -, k432, n432⟩ := hX.r31
    have hlen : fX7_length NF 1 m = some (nI tx.length, m) := by rw [fX7_length_eq k1, hT.1]
    have hat := fX7_at_eq (N := NF) hX.t1 hT (show p < tx.length by omega)
    have hcc := hch _ (mem_getD (ns := tx) (j := p) (by omega))
    have hc0' : cd 68 49 (tx.getD p 0) = 99 := hc0
    have hc68 : tx.getD p 0 = 68 := by
      rcases hcc with e | e
      · exact e
      · unfold cd at hc0'
        by_cases e2 : tx.getD p 0 = 68
        · exact e2
        · rw [if_neg e2] at hc0'; omega
    rw [hc68] at hat
    -- the letter D
    let m1 : qM := qsI m 432 st.length (-1)
    have f1 : Fx (fun a => a = 432) m m1 := Fx.rf.sI rfl
    have hP1 : CP m1 s := CP_fx hP0 hn f1 (fun a ha => by omega)
    have hst1 : StP (qI m1) (none :: st) := StP_push hst rfl
    have hop1 : okP s (none :: st) := fun x hx => hop x (by simpa using hx)
    have hstep : lX9_proveText_15 NF 0 (nI n0) (n + (tS a + tS b + 1)) (nI st.length) v3 (nI p) m = lX9_proveText_15 NF 0 (nI n0) (n + tS b + tS a) (nI (none :: st).length) v3 (nI (p + 1)) m1 := by
      rw [show n + (tS a + tS b + 1) = (n + tS b + tS a) + 1 by omega]
      conv => lhs; unfold lX9_proveText_15
      refine EgR k0 r00 ?_
      refine EC k1 hlen ?_
      refine EIn (fun z => by have := (nI_leI (by omega) (by omega)).mp z; omega) ?_
      refine EgR k0 r00 ?_
      refine EC k1 hat ?_
      refine EIp rfl ?_
      refine EgR k0 r012 ?_
      refine EwI k432 rfl (show st.length < qN m 432 by omega) (by omega) rfl ?_
      unfold kX9_proveText_125
      rw [nI_s, nI_s]
      rfl
    rw [hstep]
    obtain ⟨m2, g2, ha⟩ := iha (n + tS b) (p + 1) (none :: st) v3 s m1 hP1 hs hn0 hb1 htx (by omega) (fun i hi => by
      have := hcd (i + 1) (by omega)
      rw [show p + (i + 1) = p + 1 + i by omega] at this
      rw [this, pol_opA hi]) hst1 hop1 (by simp; omega)
    obtain ⟨oa1, oa2, oa3, oa4⟩ := pv_ok a s hs hb1
    have g12 : Gc m m2 := (f1.mono (fun a ha => by omega)).tr g2
    have hun : pvT (.op a b) s = if (pvT a s).1 < 0 then pvT a s else if (pvT b (pvT a s).2).1 < 0 then pvT b (pvT a s).2 else (detA (pvT b (pvT a s).2).2 (pvT a s).1.toNatClampNeg (pvT b (pvT a s).2).1.toNatClampNeg, detS (pvT b (pvT a s).2).2 (pvT a s).1.toNatClampNeg (pvT b (pvT a s).2).1.toNatClampNeg) := rfl
    rw [hun]
    rcases ha with ⟨e1, e2, e3⟩ | ⟨e1, e2, e3, q, hq, e4⟩
    · rw [if_pos e1]
      exact ⟨m2, g12, Or.inl ⟨e1, e2, e3⟩⟩
    rw [if_neg e1, e4]
    generalize hra : pvT a s = ra at *
    obtain ⟨iv1, iv2, iv3⟩ := nI_of_in (oa4.resolve_left e1) oa1.1.1
    generalize hia : ra.1.toNatClampNeg = ia at *
    have hn2 := oa1.1.1
    have hX2 := e2.1
    obtain ⟨K0, R00, R01, R02, R03, R04, R05, R06, R07, R08, R09, R010, R011, R012⟩ := hX2.c0
    obtain ⟨-, -, K432, N432⟩ := hX2.r31
    have h2top : qI m2 432 st.length = -1 := e3.1
    -- the first part's number is kept
    let m3 : qM := qsI m2 432 st.length (nI ia)
    have f3 : Fx (fun a => a = 432) m2 m3 := Fx.rf.sI rfl
    have hP3 : CP m3 ra.2 := CP_fx e2 hn2 f3 (fun a ha => by omega)
    have hst3 : StP (qI m3) (some ia :: st) := StP_push e3.2 rfl
    have hop3 : okP ra.2 (some ia :: st) := fun x hx => by
      rcases List.mem_cons.mp hx with h | h
      · injection h with h; omega
      · have := hop x h; omega
    have hq1 : ∃ q', q = q' + 1 := ⟨q - 1, by unfold NF at hq; omega⟩
    obtain ⟨q', rfl⟩ := hq1
    have hdlv : dlvP (n + tS b) (q' + 1) n0 (nI (none :: st).length) ra.1 (p + 1 + tS a - 1) m2 = lX9_proveText_15 NF 0 (nI n0) (n + tS b) (nI (some ia :: st).length) (nI ia) (nI (p + 1 + tS a)) m3 := by
      have e67 : lX9_proveText_67 NF 0 (nI n0) (nI (p + 1 + tS a - 1)) (q' + 1) (nI (none :: st).length) ra.1 m2 = some (.inl (nI (none :: st).length, ra.1, m2)) := by
        unfold lX9_proveText_67
        refine EIn (fun z => by have := (nI_leI (b := 0) (by simp; omega) (by omega)).mp z; simp at this) ?_
        refine EgR K0 R012 ?_
        refine EaI K432 (show nI (none :: st).length - (1 : Int32) = nI st.length by rw [nI_m1 (by simp)]; simp) (by omega) (by omega) h2top ?_
        refine EIp rfl ?_
        rfl
      unfold dlvP
      rw [e67]
      show (if nI (none :: st).length ≤ 0 then _ else _) = _
      refine EIn (fun z => by have := (nI_leI (b := 0) (by simp; omega) (by omega)).mp z; simp at this) ?_
      refine EgR K0 R012 ?_
      refine EwI K432 (show nI (none :: st).length - (1 : Int32) = nI st.length by rw [nI_m1 (by simp)]; simp) (show st.length < qN m2 432 by omega) (by omega) iv3 ?_
      unfold kX9_proveText_125
      rw [nI_s, show p + 1 + tS a - 1 + 1 = p + 1 + tS a by omega, iv3]
      rfl
    rw [hdlv]
    obtain ⟨m4, g4, hbb⟩ := ihb n (p + 1 + tS a) (some ia :: st) (nI ia) ra.2 m3 hP3 oa1 (by omega) (bel_mono hb2 oa2) (oa3.trans htx) (by omega) (fun i hi => by
      have := hcd (i + 1 + tS a) (by omega)
      rw [show p + (i + 1 + tS a) = p + 1 + tS a + i by omega] at this
      rw [this, pol_opB]) hst3 hop3 (by simp; omega)
    obtain ⟨ob1, ob2, ob3, ob4⟩ := pv_ok b ra.2 oa1 (bel_mono hb2 oa2)
    have g14 : Gc m m4 := (g12.tr (f3.mono (fun a ha => by omega))).tr g4
    rcases hbb with ⟨w1, w2, w3⟩ | ⟨w1, w2, w3, q2, hq2, w4⟩
    · rw [if_pos w1]
      exact ⟨m4, g14, Or.inl ⟨w1, w2, w3⟩⟩
    rw [if_neg w1, w4]
    generalize hrb : pvT b ra.2 = rb at *
    obtain ⟨jv1, jv2, jv3⟩ := nI_of_in (ob4.resolve_left w1) ob1.1.1
    generalize hib : rb.1.toNatClampNeg = ib at *
    have hn4 := ob1.1.1
    have hX4 := w2.1
    obtain ⟨L0, S00, S01, S02, S03, S04, S05, S06, S07, S08, S09, S010, S011, S012⟩ := hX4.c0
    obtain ⟨-, -, L432, P432⟩ := hX4.r31
    have h4top : qI m4 432 st.length = nI ia := w3.1
    obtain ⟨m5, d1, d2, d3⟩ := c_derive w2 ob1 (i := ia) (j := ib) (by omega) jv2
    have g15 : Gc m m5 := g14.tr (d3.mono (fun a ha => by omega))
    obtain ⟨da1, da2, da3⟩ := det_ans (i := ia) (j := ib) ob1
    have okd := ok_det ob1 (i := ia) (j := ib) (by omega) jv2
    obtain ⟨q3, rfl⟩ : ∃ q3, q2 = q3 + 1 := ⟨q2 - 1, by unfold NF at hq2; omega⟩
    have hpos : p + 1 + tS a + tS b - 1 = p + (tS a + tS b + 1) - 1 := by omega
    have h67 : ∀ R, (if 0 ≤ detA rb.2 ia ib then lX9_proveText_67 NF 0 (nI n0) (nI (p + 1 + tS a + tS b - 1)) q3 (nI st.length) (detA rb.2 ia ib) m5 else (qgR m5 0 9 2).bind fun x6 => (qChk m5 x6 1 (fX1_shrinkTo NF x6 (nI n0) m5)).bind fun b7 => some (.inr (detA rb.2 ia ib, b7))) = R → lX9_proveText_67 NF 0 (nI n0) (nI (p + 1 + tS a + tS b - 1)) (q3 + 1) (nI (some ia :: st).length) rb.1 m4 = R := by
      intro R hR
      conv => lhs; unfold lX9_proveText_67
      refine EIn (fun z => by have := (nI_leI (b := 0) (by simp; omega) (by omega)).mp z; simp at this) ?_
      refine EgR L0 S012 ?_
      refine EaI L432 (show nI (some ia :: st).length - (1 : Int32) = nI st.length by rw [nI_m1 (by simp)]; simp) (by omega) (by omega) h4top ?_
      refine EIn (nI_ng (by omega)) ?_
      refine EgR L0 S012 ?_
      refine EaI L432 (show nI (some ia :: st).length + (-1 : Int32) = nI st.length by rw [nI_p (by simp)]; simp) (by omega) (by omega) h4top ?_
      rw [jv3]
      refine EC L0 d1 ?_
      rw [show nI (some ia :: st).length + (-1 : Int32) = nI st.length by rw [nI_p (by simp)]; simp]
      exact hR
    by_cases z : detA rb.2 ia ib < 0
    · obtain ⟨c1, c2⟩ := cut5 (n0 := n0) d2 (by omega) okd.1.1
      refine ⟨qsI m5 5 6 (nI n0), g15.tr c2, Or.inl ⟨z, ?_, c1⟩⟩
      have hX5 := d2.1
      unfold dlvP
      rw [h67 (some (.inr (detA rb.2 ia ib, qsI m5 5 6 (nI n0)))) (by
        refine EIn (Int32.not_le.mpr z) ?_
        refine EgR hX5.c0.1 hX5.c0.2.2.2.1 ?_
        have hsh : fX1_shrinkTo NF 5 (nI n0) m5 = some (qsI m5 5 6 (nI n0)) := by
          unfold fX1_shrinkTo
          refine EpI hX5.ls.1 rfl ?_
          rfl
        refine EC hX5.ls.1 hsh ?_
        rfl)]
      rfl
    · refine ⟨m5, g15, Or.inr ⟨z, d2, StP_of w3.2 (fun j hj => by rw [d3.i (by omega)]), q3, by omega, ?_⟩⟩
      have h67' := h67 _ (if_pos (Int32.not_lt.mp z))
      unfold dlvP
      rw [h67', hpos]
theorem c_proveText {m : qM} {s : ST} (h : CP m s) (hs : okS s) (hp : pE 68 49 (hiD (sN s)) 1 0 (sTx s) = none) : ∃ m2, fX9_proveText NF 0 m = some ((pvR s).1, m2) ∧ CP m2 (if (pvR s).1 < 0 then bck s (pvR s).2 else (pvR s).2) ∧ Gc m m2 := by
  obtain ⟨hpol, hb⟩ := pv_bel hp
  have hX := h.1
  have hn := hs.1.1
  obtain ⟨k0, r00, r01, r02, -⟩ := hX.c0
  have hch := pE_chars _ _ _ hp
  have hcl : ((sTx s).map (cd 68 49)).length = (sTx s).length := List.length_map ..
  have htS : tS (pT 68 49 (sTx s)) = (sTx s).length := by rw [← pol_len, hpol, hcl]
  have h80 := h.2.2.1
  have hpt := tS_pos (pT 68 49 (sTx s))
  obtain ⟨m2, g2, hr⟩ := c_pvT (n0 := sN s) (tx := sTx s) h80 (fun c hc => by
    rcases hch c hc with e | e
    · exact Or.inl e
    · unfold hiD at e; exact Or.inr (by omega)) (pT 68 49 (sTx s)) (NF - (sTx s).length) 0 [] (-1) s m h hs (Nat.le_refl _) hb rfl (by omega) (fun i hi => by rw [hpol, Nat.zero_add, getD_map (by omega)]) trivial (fun a ha => by simp at ha) (by simp)
  rw [show NF - (sTx s).length + tS (pT 68 49 (sTx s)) = NF by rw [htS]; unfold NF; omega] at hr
  have hc : fX1_count NF 5 m = some (nI (sN s), m) := by
    unfold fX1_count
    refine EgI hX.ls.1 h.2.2.2.2.1.1 ?_
    rfl
  have hpre : ∀ (b : (Int32 × qM) ⊕ (Int32 × qM)) R, lX9_proveText_15 NF 0 (nI (sN s)) NF 0 (-1) 0 m = some b → qTh (some b) (fun o3 => some (o3.1, o3.2)) (fun r => r) = R → fX9_proveText NF 0 m = R := by
    intro b R hb hR
    unfold fX9_proveText
    refine EgR k0 r02 ?_
    refine EC hX.ls.1 hc ?_
    dsimp only
    rw [hb]
    exact hR
  have er : pvT (pT 68 49 (sTx s)) s = pvR s := rfl
  rw [er] at hr
  rcases hr with ⟨e1, e2, e3⟩ | ⟨e1, e2, e3, q, hq, e4⟩
  · rw [if_pos e1]
    exact ⟨m2, hpre _ _ e2 rfl, e3, g2⟩
  · rw [if_neg e1]
    refine ⟨m2, hpre (.inl ((pvR s).1, m2)) _ (e4.trans ?_) rfl, e2, g2⟩
    obtain ⟨q, rfl⟩ : ∃ z, q = z + 1 := ⟨q - 1, by unfold NF at hq; omega⟩
    obtain ⟨z, hz⟩ : ∃ z, NF - (sTx s).length = z + 1 := ⟨NF - (sTx s).length - 1, by unfold NF; omega⟩
    refine dlv0.trans ?_
    unfold kX9_proveText_125
    rw [nI_s, hz]
    conv => lhs; unfold lX9_proveText_15
    have hX2 := e2.1
    have hT2 := e2.2.1
    obtain ⟨-, -, oa3, -⟩ := pv_ok _ s hs hb
    have htx2 : sTx (pvR s).2 = sTx s := oa3
    rw [htx2] at hT2
    refine EgR hX2.c0.1 hX2.c0.2.1 ?_
    refine EC hX2.t1.1 (b := (nI (sTx s).length, m2)) (by rw [fX7_length_eq hX2.t1.1, hT2.1]) ?_
    refine EIp ((nI_leI (by omega) (by omega)).mpr (by omega)) ?_
    rfl
theorem c_prove {m : qM} {s : ST} (h : CP m s) (hs : okS s) : ∃ m2, fX9_prove NF 0 m = some (aPv s, m2) ∧ CP m2 (sPv s) ∧ Gc m m2 := by
  have hX := h.1
  have hn := hs.1.1
  obtain ⟨k0, r00, r01, r02, -⟩ := hX.c0
  have h80 := h.2.2.1
  have hc : fX1_count NF 5 m = some (nI (sN s), m) := by
    unfold fX1_count
    refine EgI hX.ls.1 h.2.2.2.2.1.1 ?_
    rfl
  have hlast : (((48 : Int32) + (if nI (sN s) < (9 : Int32) then nI (sN s) else (9 : Int32))).toUInt32 % 65536).toInt32 = nI (hiD (sN s)) := by
    have e : (if nI (sN s) < (9 : Int32) then nI (sN s) else (9 : Int32)) = nI (min 9 (sN s)) := by
      by_cases e : sN s < 9
      · have q : nI (sN s) < (9 : Int32) := (nI_ltI (b := 9) (by omega) (by omega)).mpr e
        rw [if_pos q, Nat.min_eq_right (by omega)]
      · have q : ¬ nI (sN s) < (9 : Int32) := fun z => e ((nI_ltI (b := 9) (by omega) (by omega)).mp z)
        rw [if_neg q, Nat.min_eq_left (by omega)]; rfl
    rw [e, show (48 : Int32) + nI (min 9 (sN s)) = nI (48 + min 9 (sN s)) from nI_add 48 _]
    exact ch_mod (by omega)
  have hpo := c_polish (B := 68) (lo := 49) (hi := hiD (sN s)) hX h.2.1 h80 (by omega) (by omega) (by unfold hiD; omega) (by unfold hiD; omega)
  have hpo' : fX9_polishError NF 0 68 49 (nI (hiD (sN s))) m = some (erI (pE 68 49 (hiD (sN s)) 1 0 (sTx s)), m) := hpo
  have hpre : ∀ R, (if erI (pE 68 49 (hiD (sN s)) 1 0 (sTx s)) = -1 then (qChk m 0 9 (fX9_proveText NF 0 m)).bind fun b4 => kX9_prove_43 NF 0 b4.1 b4.2 else kX9_prove_43 NF 0 ((-100 : Int32) - erI (pE 68 49 (hiD (sN s)) 1 0 (sTx s))) m) = R → fX9_prove NF 0 m = R := by
    intro R hR
    unfold fX9_prove
    refine EgR k0 r02 ?_
    refine EC hX.ls.1 hc ?_
    dsimp only
    rw [hlast]
    refine EC k0 hpo' ?_
    exact hR
  unfold aPv sPv
  cases hp : pE 68 49 (hiD (sN s)) 1 0 (sTx s) with
  | some p =>
    rw [hp] at hpre
    obtain ⟨w1, w2⟩ := CP_tx h hn
    have hpl := (pE_len _ _ _ _ hp).2
    refine ⟨qsI m 1 1 0, hpre _ ?_, w1, w2.mono (fun a ha => by omega)⟩
    refine EIn (show ¬ nI p = -1 from nI_ng (by omega)) ?_
    unfold kX9_prove_43
    refine EgR k0 r00 ?_
    refine EC hX.t1.1 (fX7_makeEmpty_eq hX.t1.1) ?_
    rfl
  | none =>
    rw [hp] at hpre
    obtain ⟨m1, p1, p2, p3⟩ := c_proveText h hs hp
    obtain ⟨w1, w2⟩ := CP_tx p2 (pvR_ok hs hp).1.1
    have hX1 := p2.1
    refine ⟨qsI m1 1 1 0, hpre _ ?_, w1, p3.tr (w2.mono (fun a ha => by omega))⟩
    refine EIp rfl ?_
    refine EC k0 p1 ?_
    unfold kX9_prove_43
    refine EgR hX1.c0.1 hX1.c0.2.1 ?_
    refine EC hX1.t1.1 (fX7_makeEmpty_eq hX1.t1.1) ?_
    rfl
end
