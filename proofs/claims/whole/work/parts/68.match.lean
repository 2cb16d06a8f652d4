section
-- ===== matching =====
def At (cs : List Nat) (i : Nat) (t : Tm) : Prop := i + tS t ≤ cs.length ∧ ∀ j, j < tS t → cs.getD (i + j) 0 = (pol t).getD j 0
theorem At_self {t : Tm} : At (pol t) 0 t := ⟨by rw [pol_len]; omega, fun j _ => by rw [Nat.zero_add]⟩
theorem At_var {cs : List Nat} {i v : Nat} (h : At cs i (.var v)) : i < cs.length ∧ cs.getD i 0 = v := by
  have h1 := h.1
  have h2 := h.2 0 (by simp [tS])
  simp only [tS] at h1
  exact ⟨by omega, by rw [Nat.add_zero] at h2; exact h2⟩
theorem At_op {cs : List Nat} {i : Nat} {a b : Tm} (h : At cs i (.op a b)) : i < cs.length ∧ cs.getD i 0 = 99 ∧ At cs (i + 1) a ∧ At cs (i + 1 + tS a) b := by
  obtain ⟨h1, h2⟩ := h
  simp only [tS] at h1 h2
  refine ⟨by omega, ?_, ⟨by omega, fun j hj => ?_⟩, ⟨by omega, fun j hj => ?_⟩⟩
  · have := h2 0 (by omega)
    rw [Nat.add_zero] at this
    exact this
  · have := h2 (j + 1) (by omega)
    rw [show i + (j + 1) = i + 1 + j by omega] at this
    rw [this, pol_opA hj]
  · have := h2 (j + 1 + tS a) (by omega)
    rw [show i + (j + 1 + tS a) = i + 1 + tS a + j by omega] at this
    rw [this, pol_opB]
theorem At_drop {cs : List Nat} {i : Nat} {t : Tm} (h : At cs i t) : cs.drop i = pol t ++ cs.drop (i + tS t) := by
  obtain ⟨h1, h2⟩ := h
  have e : cs.drop i = (cs.drop i).take (tS t) ++ (cs.drop i).drop (tS t) := (List.take_append_drop _ _).symm
  rw [e, List.drop_drop]
  congr 1
  apply list_ext_getD
  · rw [List.length_take, List.length_drop, pol_len]; omega
  · intro j hj
    rw [List.length_take, List.length_drop] at hj
    rw [← h2 j (by omega)]
    simp only [List.getD_eq_getElem?_getD]
    rw [List.getElem?_take, if_pos (by omega), List.getElem?_drop]
theorem At_un {cs : List Nat} {i : Nat} {t u : Tm} (h1 : At cs i t) (h2 : At cs i u) (b1 : bel 99 t) (b2 : bel 99 u) : t = u := by
  have e1 := At_drop h1
  have e2 := At_drop h2
  rw [e1] at e2
  exact (pol_inj b1 b2 e2).1
def mt : Tm → Tm → List Tm → Option (List Tm)
  | .var v, u, bs => if v < bs.length then (if sameT (bs.getD v (.var 0)) u = true then some bs else none) else some (bs ++ [u])
  | .op _ _, .var _, _ => none
  | .op a b, .op l r, bs => (mt a l bs).bind (fun b1 => mt b r b1)
theorem mt_size {g : Tm} : ∀ {u : Tm} {bs bs2 : List Tm}, mt g u bs = some bs2 → tS g ≤ tS u := by
  induction g with
  | var v => intro u bs bs2 _; simp only [tS]; exact tS_pos u
  | op a b iha ihb =>
    intro u bs bs2 h
    cases u with
    | var w => simp only [mt] at h; cases h
    | op l r =>
      simp only [mt] at h
      cases ha : mt a l bs with
      | none => rw [ha] at h; cases h
      | some b1 =>
        rw [ha] at h
        have h1 := iha ha
        have h2 := ihb (show mt b r b1 = some bs2 from h)
        simp only [tS]; omega
-- numbered in the order of their first places
def nx : Nat → Tm → Nat
  | k, .var v => if v = k then k + 1 else k
  | k, .op a b => nx (nx k a) b
def orC : Nat → Tm → Prop
  | k, .var v => v ≤ k
  | k, .op a b => orC k a ∧ orC (nx k a) b
theorem ixo_le {ns : List Nat} {v : Nat} : ixo ns v ≤ ns.length := by
  by_cases h : v ∈ ns
  · have := ixo_in h; omega
  · rw [ixo_nin h]; exact Nat.le_refl _
theorem ord_cn : ∀ (s' s : Tm) (ns : List Nat), pol s = cn ns (pol s') → bel 99 s → bel 99 s' → ns.length + tS s' ≤ 99 → orC ns.length s ∧ nx ns.length s = (nm ns (pol s')).length := by
  intro s'
  induction s' with
  | var w =>
    intro s ns h hb hb' hl
    have hw : w ≠ 99 := by have := bel_var.mp hb'; omega
    have e : pol (.var w) = [w] := rfl
    rw [e, cn_one hw] at h
    cases s with
    | op a b =>
      simp only [pol] at h
      injection h with h1 h2
      have hpa := tS_pos a
      rw [← pol_len] at hpa
      have : (pol a ++ pol b).length = 0 := by rw [h2]; rfl
      rw [List.length_append] at this
      omega
    | var v =>
      simp only [pol] at h
      injection h with h1 h2
      subst h1
      refine ⟨ixo_le, ?_⟩
      rw [e, nm_one hw]
      by_cases hm : w ∈ ns
      · rw [if_pos hm]
        have := ixo_in hm
        simp only [nx]
        rw [if_neg (by omega)]
      · rw [if_neg hm, List.length_append]
        simp only [nx, ixo_nin hm, ↓reduceIte]
        rfl
  | op a' b' iha ihb =>
    intro s ns h hb hb' hl
    obtain ⟨ba', bb'⟩ := bel_op.mp hb'
    simp only [tS] at hl
    have e : pol (.op a' b') = [99] ++ (pol a' ++ pol b') := rfl
    have e1 : cn ns [99] = [99] := rfl
    have e2 : nm ns [99] = ns := rfl
    rw [e, cn_app, cn_app, e1, e2] at h
    have hna := nm_len (pol a') ns
    rw [pol_len] at hna
    have hnb := nm_len (pol b') (nm ns (pol a'))
    rw [pol_len] at hnb
    -- the parts as trees
    have ra : cn ns (pol a') = pol (sb (fun v => .var (ixo (nm ns (pol a')) v)) a') := by rw [pol_ren ba', cn_idx]; rfl
    have rb : cn (nm ns (pol a')) (pol b') = pol (sb (fun v => .var (ixo (nm (nm ns (pol a')) (pol b')) v)) b') := by rw [pol_ren bb', cn_idx]; rfl
    have blw : ∀ (t : Tm) (ms : List Nat), ms.length < 99 → bel 99 (sb (fun v => .var (ixo ms v)) t) := by
      intro t ms hms
      induction t with
      | var v => exact bel_var.mpr (by have := ixo_le (ns := ms) (v := v); omega)
      | op c d ihc ihd => exact bel_op.mpr ⟨ihc, ihd⟩
    have hpb := tS_pos b'
    have hbA := blw a' (nm ns (pol a')) (by omega)
    cases s with
    | var v =>
      exfalso
      simp only [pol] at h
      have := congrArg List.length h
      simp only [List.length_append, List.length_cons, List.length_nil, cn_len, pol_len] at this
      have := tS_pos a'
      omega
    | op a b =>
      obtain ⟨ba, bb⟩ := bel_op.mp hb
      simp only [pol, List.cons_append, List.nil_append] at h
      injection h with _ h
      rw [ra] at h
      obtain ⟨ea, h2⟩ := pol_inj ba hbA h
      have h3 : pol a = cn ns (pol a') := by rw [ra, ea]
      obtain ⟨x1, x2⟩ := iha a ns h3 ba ba' (by omega)
      obtain ⟨y1, y2⟩ := ihb b (nm ns (pol a')) h2 bb bb' (by omega)
      refine ⟨⟨x1, by rw [x2]; exact y1⟩, ?_⟩
      show nx (nx ns.length a) b = _
      rw [x2, y2, e, nm_app, nm_app, e2]
theorem okF_ord {t : Tm} (h : okF t) : orC 0 t := by
  have hb : bel 99 t := bel_mono h.1 (by omega)
  have e : pol t = cn [] (pol t) := by conv => lhs; rw [← h.2.2, pol_cT hb]
  exact (ord_cn t t [] e hb hb (by have := h.2.1; simp; omega)).1
theorem mt_nx : ∀ (g u : Tm) (bs bs2 : List Tm), orC bs.length g → mt g u bs = some bs2 → bs2.length = nx bs.length g := by
  intro g
  induction g with
  | var v =>
    intro u bs bs2 ho h
    have ho' : v ≤ bs.length := ho
    simp only [mt] at h
    simp only [nx]
    by_cases e : v < bs.length
    · rw [if_pos e] at h
      rw [if_neg (by omega)]
      by_cases e2 : sameT (bs.getD v (.var 0)) u = true
      · rw [if_pos e2] at h; injection h with h; rw [h]
      · rw [if_neg e2] at h; cases h
    · rw [if_neg e] at h
      injection h with h
      rw [← h, if_pos (by omega)]
      simp
  | op a b iha ihb =>
    intro u bs bs2 ho h
    cases u with
    | var w => simp only [mt] at h; cases h
    | op l r =>
      simp only [mt] at h
      cases ha : mt a l bs with
      | none => rw [ha] at h; cases h
      | some b1 =>
        rw [ha] at h
        have e1 := iha l bs b1 ho.1 ha
        have ho2 : orC (nx bs.length a) b := ho.2
        rw [← e1] at ho2
        have e2 := ihb r b1 bs2 ho2 h
        simp only [nx]
        rw [e2, e1]
def isIn (g u : Tm) : Bool := (mt g u []).isSome
def iB (b : Bool) : Int32 := if b = true then 1 else 0
-- ===== the class's matcher =====
theorem c_endT {m : qM} {f : Nat} {φ : Tm} (F : FmS (qK m) (qN m) (qR m) f) (C : CFm (qI m) f φ) (hb : bel 99 φ) : ∀ (t : Tm) (i d n : Nat), bel 99 t → At (pol φ) i t → d + tS t ≤ 1000 → lX0_endOf_4 NF f (n + tS t) (nI (d + 1)) (nI i) m = lX0_endOf_4 NF f n (nI d) (nI (i + tS t)) m := by
  obtain ⟨k0, r0, k1, n1⟩ := F
  obtain ⟨c1, c2, c3, c4⟩ := C
  have step : ∀ (i d n : Nat), i < tS φ → d < 2000 → lX0_endOf_4 NF f (n + 1) (nI (d + 1)) (nI i) m = if (pol φ).getD i 0 = 99 then lX0_endOf_4 NF f n (nI (d + 2)) (nI (i + 1)) m else lX0_endOf_4 NF f n (nI d) (nI (i + 1)) m := by
    intro i d n hi hd
    have hp := pol_lt hb i
    have c4i := c4 i hi
    conv => lhs; unfold lX0_endOf_4
    unfold kX0_endOf_32
    refine EgI k0 c1 ?_
    refine EIn (fun z => by have := (nI_leI (by omega) (by omega)).mp z; omega) ?_
    refine EIn (fun z => by have := (nI_leI (b := 0) (by omega) (by omega)).mp z; omega) ?_
    refine EgR k0 r0 ?_
    refine EaI k1 rfl (by omega) (by omega) c4i ?_
    by_cases e : (pol φ).getD i 0 = 99
    · rw [if_pos e]
      refine EIp (by rw [e]; rfl) ?_
      rw [nI_s, nI_s]
    · rw [if_neg e, cS_n e]
      refine EIn (nI_ng (by omega)) ?_
      rw [nI_s i, nI_p (by omega), Nat.add_sub_cancel]
  intro t
  induction t with
  | var v =>
    intro i d n hbt hA hd
    have hv := At_var hA
    rw [pol_len] at hv
    have hv99 := bel_var.mp hbt
    simp only [tS]
    rw [step i d n hv.1 (by omega), if_neg (by omega)]
  | op a b iha ihb =>
    intro i d n hbt hA hd
    obtain ⟨hb1, hb2⟩ := bel_op.mp hbt
    obtain ⟨h0, h1, h2, h3⟩ := At_op hA
    rw [pol_len] at h0
    simp only [tS] at hd ⊢
    rw [show n + (tS a + tS b + 1) = (n + tS b + tS a) + 1 by omega, step i d _ h0 (by omega), if_pos h1, iha (i + 1) (d + 1) (n + tS b) hb1 h2 (by omega), ihb (i + 1 + tS a) d n hb2 h3 (by omega)]
    congr 2
    omega
theorem c_endOf {m : qM} {f q : Nat} {φ u : Tm} (F : FmS (qK m) (qN m) (qR m) f) (C : CFm (qI m) f φ) (hb : bel 99 φ) (hu : bel 99 u) (hA : At (pol φ) q u) : fX0_endOf NF f (nI q) m = some (nI (q + tS u), m) := by
  have h39 := C.2.2.1
  have hl := hA.1
  rw [pol_len] at hl
  have h1 := c_endT F C hb u q 0 (NF - tS u) hu hA (by omega)
  rw [show NF - tS u + tS u = NF by unfold NF; omega] at h1
  obtain ⟨z, hz⟩ : ∃ z, NF - tS u = z + 1 := ⟨NF - tS u - 1, by unfold NF; omega⟩
  have h2 : lX0_endOf_4 NF f (NF - tS u) (nI 0) (nI (q + tS u)) m = some (nI (q + tS u), m) := by
    rw [hz]
    unfold lX0_endOf_4
    refine EgI F.1 C.1 ?_
    by_cases e : tS φ ≤ q + tS u
    · refine EIp ((nI_leI (by omega) (by omega)).mpr e) ?_
      rfl
    · refine EIn (fun z => e ((nI_leI (by omega) (by omega)).mp z)) ?_
      refine EIp (by decide) ?_
      rfl
  unfold fX0_endOf
  refine EB (show lX0_endOf_4 NF f NF 1 (nI q) m = some (nI (q + tS u), m) from h1.trans h2) ?_
  rfl
def SBd (I : Nat → Nat → Int32) (A : Nat) (cs : List Nat) (bs : List Tm) (q : Nat) : Prop := ∀ j, j < bs.length → ∃ b, I A j = nI b ∧ At cs b (bs.getD j (.var 0)) ∧ b + tS (bs.getD j (.var 0)) ≤ q ∧ bel 99 (bs.getD j (.var 0))
theorem SBd_mono {I : Nat → Nat → Int32} {A : Nat} {cs : List Nat} {bs : List Tm} {q q2 : Nat} (h : SBd I A cs bs q) (hq : q ≤ q2) : SBd I A cs bs q2 := fun j hj => by
  obtain ⟨b, h1, h2, h3, h4⟩ := h j hj
  exact ⟨b, h1, h2, by omega, h4⟩
theorem getDT_snoc {bs : List Tm} {u : Tm} {j : Nat} : (bs ++ [u]).getD j (.var 0) = if j = bs.length then u else bs.getD j (.var 0) := by
  by_cases e : j = bs.length
  · rw [if_pos e, e]; simp
  · rw [if_neg e]
    by_cases e2 : j < bs.length
    · simp only [List.getD_eq_getElem?_getD, List.getElem?_append_left e2]
    · simp only [List.getD_eq_getElem?_getD]
      rw [List.getElem?_eq_none (by simp; omega), List.getElem?_eq_none (by omega)]
theorem seg_same {cs : List Nat} {b q : Nat} {w u : Tm} (h1 : At cs b w) (h2 : At cs q u) (b1 : bel 99 w) (b2 : bel 99 u) (hl : b + tS u ≤ cs.length) : sameT w u = true ↔ ∀ i, i < tS u → cs.getD (q + i) 0 = cs.getD (b + i) 0 := by
  rw [sameT_iff b1 b2]
  constructor
  · intro e i hi
    subst e
    rw [h2.2 i hi, h1.2 i hi]
  · intro h
    have h3 : At cs b u := ⟨hl, fun i hi => by rw [← h i hi, h2.2 i hi]⟩
    exact At_un h1 h3 b1 b2
theorem At_bel {φ : Tm} {q : Nat} {u : Tm} (hb : bel 99 φ) (hA : At (pol φ) q u) : ∀ i, i < tS u → (pol φ).getD (q + i) 0 < 100 := fun i _ => pol_lt hb (q + i)
theorem c_mt {f g : Nat} {φ γ : Tm} (hf : f + 1 < 132 ∨ 143 < f) (hg : g + 1 < 132 ∨ 143 < g) (bφ : bel 99 φ) (bγ : bel 12 γ) : ∀ (t u : Tm) (i q n : Nat) (bs : List Tm) (m : qM), xU m → FmS (qK m) (qN m) (qR m) f → FmS (qK m) (qN m) (qR m) g → CFm (qI m) f φ → CFm (qI m) g γ → At (pol γ) i t → At (pol φ) q u → bel 12 t → bel 99 u → orC bs.length t → bs.length ≤ 12 → SBd (qI m) 143 (pol φ) bs q →
    ∃ m2, Fx (fun a => a = 143) m m2 ∧ ((mt t u bs = none ∧ lX3_matches_21 NF 142 f g (n + tS t) (nI bs.length) (nI q) (nI i) m = some (.inr (0, m2))) ∨ ∃ bs2, mt t u bs = some bs2 ∧ bs2.length ≤ 12 ∧ SBd (qI m2) 143 (pol φ) bs2 (q + tS u) ∧ lX3_matches_21 NF 142 f g (n + tS t) (nI bs.length) (nI q) (nI i) m = lX3_matches_21 NF 142 f g n (nI bs2.length) (nI (q + tS u)) (nI (i + tS t)) m2) := by
  intro t
  induction t with
  | var v =>
    intro u i q n bs m hU F G C D hA hB bt bu ho hl hS
    have hv := At_var hA
    rw [pol_len] at hv
    have hv12 := bel_var.mp bt
    have hvl : v ≤ bs.length := ho
    have hq := hB.1
    rw [pol_len] at hq
    have h39 := C.2.2.1
    have h39g := D.2.2.1
    have hpu := tS_pos u
    obtain ⟨-, -, -, -, -, -, -, -, -, -, -, -, -, -, -, -, -, -, -, -, -, -, -, -, -, -, -, -, k142, r142, k143, n143⟩ := hU
    have hatg : fX0_at NF g (nI i) m = some (nI v, m) := by
      rw [c_at G D hv.1, hv.2, cS_n (by omega)]
    have hend := c_endOf F C bφ bu hB
    have hpre : ∀ R, (if nI v = nI bs.length then (qgR m 142 3 0).bind fun x8 => (qwI m x8 12 (nI v) (nI q)).bind fun m9 => kX3_matches_126 NF (lX3_matches_21 NF 142 f g n) 142 f g (nI bs.length + (1 : Int32)) (nI i) (nI (q + tS u)) m9 else (qgR m 142 3 0).bind fun x5 => (qaI m x5 12 (nI v)).bind fun x6 => (qChk m f 0 (fX0_sameSigns NF f (nI q) f x6 (nI (q + tS u) - nI q) m)).bind fun b7 => if b7.1 = 0 then some (.inr ((0 : Int32), b7.2)) else kX3_matches_126 NF (lX3_matches_21 NF 142 f g n) 142 f g (nI bs.length) (nI i) (nI (q + tS u)) b7.2) = R → lX3_matches_21 NF 142 f g (n + 1) (nI bs.length) (nI q) (nI i) m = R := by
      intro R hR
      conv => lhs; unfold lX3_matches_21
      refine EC G.1 (c_size G D) ?_
      refine EIn (fun z => by have := (nI_leI (by omega) (by omega)).mp z; omega) ?_
      refine EC G.1 hatg ?_
      refine EC F.1 (c_size F C) ?_
      refine EIp ((nI_ltI (by omega) (by omega)).mpr (by omega)) ?_
      refine EIn (nI_ng (by omega)) ?_
      refine EC F.1 hend ?_
      exact hR
    simp only [tS, mt]
    by_cases e : v < bs.length
    · rw [if_pos e]
      obtain ⟨b, s1, s2, s3, s4⟩ := hS v e
      have hne : ¬ nI v = nI bs.length := fun z => by have := (nI_eq (by omega) (by omega)).mp z; omega
      have hpb := tS_pos (bs.getD v (.var 0))
      have hcnt : nI (q + tS u) - nI q = nI (tS u) := by rw [show nI (q + tS u) - nI q = nI (q + tS u - q) from pk_sub (by omega)]; congr 1; omega
      obtain ⟨y1, y2⟩ := c_sameSigns (m := m) (s1 := q) (s2 := b) (c := tS u) F F (by omega) (by omega)
      have hco : ∀ j, j < tS φ → qI m (f + 1) j = cS ((pol φ).getD j 0) := C.2.2.2
      have hsg := seg_same s2 hB s4 bu (by rw [pol_len]; omega)
      by_cases e2 : sameT (bs.getD v (.var 0)) u = true
      · rw [if_pos e2]
        refine ⟨m, Fx.rf, Or.inr ⟨bs, rfl, hl, SBd_mono hS (by omega), hpre _ ?_⟩⟩
        have hy := y1 (fun j hj => by rw [hco _ (by omega), hco _ (by omega), hsg.mp e2 j hj])
        rw [if_neg hne]
        refine EgR k142 r142 ?_
        refine EaI k143 rfl (by omega) (by omega) s1 ?_
        rw [hcnt]
        refine EC F.1 hy ?_
        refine EIn i10 ?_
        unfold kX3_matches_126 kX3_matches_130
        rw [nI_s]
      · rw [if_neg e2]
        refine ⟨m, Fx.rf, Or.inl ⟨rfl, hpre _ ?_⟩⟩
        have hy := y2 (by
          apply Classical.byContradiction
          intro hno
          apply e2
          rw [hsg]
          intro j hj
          have : qI m (f + 1) (q + j) = qI m (f + 1) (b + j) := Classical.byContradiction (fun z => hno ⟨j, hj, z⟩)
          rw [hco _ (by omega), hco _ (by omega)] at this
          have p1 := pol_lt bφ (q + j)
          have p2 := pol_lt bφ (b + j)
          exact cS_inj (by omega) (by omega) this)
        rw [if_neg hne]
        refine EgR k142 r142 ?_
        refine EaI k143 rfl (by omega) (by omega) s1 ?_
        rw [hcnt]
        refine EC F.1 hy ?_
        refine EIp rfl ?_
        rfl
    · rw [if_neg e]
      obtain rfl : v = bs.length := by omega
      refine ⟨qsI m 143 bs.length (nI q), Fx.rf.sI rfl, Or.inr ⟨bs ++ [u], rfl, by simp; omega, fun j hj => ?_, hpre _ ?_⟩⟩
      · rw [getDT_snoc]
        by_cases ej : j = bs.length
        · rw [if_pos ej]
          exact ⟨q, by simp [qS, ej], hB, Nat.le_refl _, bu⟩
        · rw [if_neg ej]
          obtain ⟨b, s1, s2, s3, s4⟩ := hS j (by simp at hj; omega)
          exact ⟨b, by simp [qS, ej, s1], s2, by omega, s4⟩
      · rw [if_pos rfl]
        refine EgR k142 r142 ?_
        refine EwI k143 rfl (by omega) (by omega) rfl ?_
        unfold kX3_matches_126 kX3_matches_130
        rw [nI_s, nI_s, List.length_append]
        rfl
  | op a b iha ihb =>
    intro u i q n bs m hU F G C D hA hB bt bu ho hl hS
    obtain ⟨h0, h1, h2, h3⟩ := At_op hA
    rw [pol_len] at h0
    obtain ⟨bt1, bt2⟩ := bel_op.mp bt
    have hq := hB.1
    rw [pol_len] at hq
    have h39 := C.2.2.1
    have h39g := D.2.2.1
    have hpu := tS_pos u
    have hatg : fX0_at NF g (nI i) m = some (-1, m) := by
      rw [c_at G D h0, h1]; rfl
    have hatf := c_at F C (show q < tS φ by omega)
    have hpre : ∀ R, (if cS ((pol φ).getD q 0) = (-1 : Int32) then lX3_matches_21 NF 142 f g (n + tS b + tS a) (nI bs.length) (nI (q + 1)) (nI (i + 1)) m else some (.inr ((0 : Int32), m))) = R → lX3_matches_21 NF 142 f g (n + (tS a + tS b + 1)) (nI bs.length) (nI q) (nI i) m = R := by
      intro R hR
      rw [show n + (tS a + tS b + 1) = (n + tS b + tS a) + 1 by omega]
      conv => lhs; unfold lX3_matches_21
      unfold kX3_matches_130
      refine EC G.1 (c_size G D) ?_
      refine EIn (fun z => by have := (nI_leI (by omega) (by omega)).mp z; omega) ?_
      refine EC G.1 hatg ?_
      refine EC F.1 (c_size F C) ?_
      refine EIp ((nI_ltI (by omega) (by omega)).mpr (by omega)) ?_
      refine EIp rfl ?_
      refine EC F.1 hatf ?_
      rw [nI_s, nI_s]
      exact hR
    cases u with
    | var w =>
      have hw := At_var hB
      have hw99 := bel_var.mp bu
      simp only [tS, mt]
      refine ⟨m, Fx.rf, Or.inl ⟨trivial, hpre _ ?_⟩⟩
      rw [hw.2, cS_n (by omega)]
      exact if_neg (nI_ng (by omega))
    | op l r =>
      obtain ⟨g0, g1, g2, g3⟩ := At_op hB
      obtain ⟨bl, br⟩ := bel_op.mp bu
      simp only [tS, mt]
      have hgo := hpre (lX3_matches_21 NF 142 f g (n + tS b + tS a) (nI bs.length) (nI (q + 1)) (nI (i + 1)) m) (by rw [g1]; exact if_pos rfl)
      obtain ⟨m2, f2, hr⟩ := iha l (i + 1) (q + 1) (n + tS b) bs m hU F G C D h2 g2 bt1 bl ho.1 hl (SBd_mono hS (by omega))
      rw [hgo]
      rcases hr with ⟨e1, e2⟩ | ⟨bs2, e1, e2, e3, e4⟩
      · rw [e1, e2]
        exact ⟨m2, f2, Or.inl ⟨rfl, rfl⟩⟩
      · rw [e1, e4]
        have C2 : CFm (qI m2) f φ := CFm_of C (f2.i (by omega)) (f2.i (by omega))
        have D2 : CFm (qI m2) g γ := CFm_of D (f2.i (by omega)) (f2.i (by omega))
        have hnx := mt_nx a l bs bs2 ho.1 e1
        obtain ⟨m3, f3, hr3⟩ := ihb r (i + 1 + tS a) (q + 1 + tS l) n bs2 m2 (xU_of hU f2) (FmS_of F f2) (FmS_of G f2) C2 D2 h3 g3 bt2 br (by rw [hnx]; exact ho.2) e2 e3
        refine ⟨m3, f2.tr f3, ?_⟩
        rw [show q + (tS l + tS r + 1) = q + 1 + tS l + tS r by omega, show i + (tS a + tS b + 1) = i + 1 + tS a + tS b by omega]
        exact hr3
theorem c_matches {m : qM} {f g : Nat} {φ γ : Tm} (hf : f + 1 < 132 ∨ 143 < f) (hg : g + 1 < 132 ∨ 143 < g) (hU : xU m) (F : FmS (qK m) (qN m) (qR m) f) (G : FmS (qK m) (qN m) (qR m) g) (C : CFm (qI m) f φ) (D : CFm (qI m) g γ) (bφ : bel 99 φ) (hγ : okF γ) : ∃ m2, fX3_matches NF 142 f g m = some (iB (isIn γ φ), m2) ∧ Fx (fun a => a = 143) m m2 := by
  have h39 := C.2.2.1
  have h39g := D.2.2.1
  unfold fX3_matches isIn
  by_cases e : tS γ ≤ tS φ
  · obtain ⟨m2, f2, hr⟩ := c_mt hf hg bφ hγ.1 γ φ 0 0 (NF - tS γ) [] m hU F G C D At_self At_self hγ.1 bφ (okF_ord hγ) (by simp) (fun j hj => by simp at hj)
    rw [show NF - tS γ + tS γ = NF by unfold NF; omega] at hr
    have hpre : ∀ (b : qM ⊕ (Int32 × qM)) R, lX3_matches_21 NF 142 f g NF 0 0 0 m = some b → qTh (some b) (fun o3 => some ((1 : Int32), o3)) (fun r => r) = R → ((qChk m g 0 (fX0_size NF g m)).bind fun b1 => (qChk b1.2 f 0 (fX0_size NF f b1.2)).bind fun b2 => if b1.1 ≤ b2.1 then qTh (lX3_matches_21 NF 142 f g NF (0 : Int32) (0 : Int32) (0 : Int32) b2.2) (fun o3 => some ((1 : Int32), o3)) (fun r => r) else some ((0 : Int32), b2.2)) = R := by
      intro b R hb hR
      refine EC G.1 (c_size G D) ?_
      refine EC F.1 (c_size F C) ?_
      refine EIp ((nI_leI (by omega) (by omega)).mpr e) ?_
      dsimp only
      rw [hb]; exact hR
    rcases hr with ⟨e1, e2⟩ | ⟨bs2, e1, e2, e3, e4⟩
    · rw [e1]
      exact ⟨m2, hpre _ _ e2 rfl, f2⟩
    · rw [e1]
      refine ⟨m2, hpre (.inl m2) _ (e4.trans ?_) rfl, f2⟩
      obtain ⟨z, hz⟩ : ∃ z, NF - tS γ = z + 1 := ⟨NF - tS γ - 1, by unfold NF; omega⟩
      rw [hz]
      unfold lX3_matches_21
      have G2 := FmS_of G f2
      have D2 : CFm (qI m2) g γ := CFm_of D (f2.i (by omega)) (f2.i (by omega))
      refine EC G2.1 (c_size G2 D2) ?_
      refine EIp ((nI_leI (by omega) (by omega)).mpr (by omega)) ?_
      rfl
  · have hno : mt γ φ [] = none := by
      cases h : mt γ φ [] with
      | none => rfl
      | some b => exact absurd (mt_size h) e
    rw [hno]
    refine ⟨m, ?_, Fx.rf⟩
    refine EC G.1 (c_size G D) ?_
    refine EC F.1 (c_size F C) ?_
    refine EIn (fun z => e ((nI_leI (by omega) (by omega)).mp z)) ?_
    rfl
end
