section
-- ===== reduction in the class: one step =====
theorem s_at3 {N k i : Nat} {m : qM} {ls : List Nat} (hk : k < 12) (hq : qtl k = ls.length) (hl : ls.length < 20) (hch : ∀ i, i < ls.length → ((((((qTx.getD k []).getD i 0) &&& (255 : Int32)).toUInt32 % 65536).toInt32).toUInt32.toUInt16.toUInt32.toInt32).toUInt32.toUInt16.toUInt32.toInt32 = nI (ls.getD i 0)) (hi : i < ls.length) : fJ0_charAt_5068e N k (nI i) m = some (nI (ls.getD i 0), m) := by
  obtain ⟨b, b1, b2⟩ := s_lat (N := N) (k := k) (m := m) (by omega)
  have hc : (nI i).toNatClampNeg = i := nI_clamp (by omega)
  have hba : qba k (nI i) = some ((qTx.getD k []).getD i 0) := by
    unfold qba
    rw [hc, if_pos ⟨hk, nI_pos (by omega), by omega⟩]
  have hci : fJ0_checkIndex_df160 N (nI i) (Int32.ofNat (qtl k)) m = some m := by
    unfold fJ0_checkIndex_df160 fJ3_checkIndex_8e157
    have hlt : nI i < Int32.ofNat (qtl k) := show nI i < nI (qtl k) from (nI_ltI (by omega) (by omega)).mpr (by omega)
    rw [if_neg (nI_pos (by omega)), if_pos hlt]
    rfl
  unfold fJ0_charAt_5068e fJ1_charAt_3b067 qChs qsv qbl
  simp only [hk, ↓reduceIte, b1, Option.bind_some, b2, hci, hba]
  rw [hch i hi]
def coC : Nat → List Nat
  | 6 => [48, 50, 64, 49, 50, 64, 64]
  | 7 => [48, 49, 50, 64, 64]
  | 8 => [48, 50, 64, 49, 64]
  | 9 => [48, 49, 64, 49, 64]
  | _ => [48]
theorem co_len : ∀ k, k < 11 → 6 ≤ k → qtl k = (coC k).length ∧ (coC k).length < 20 := by decide
theorem co_ch : ∀ k, k < 11 → 6 ≤ k → ∀ i, i < (coC k).length → ((((((qTx.getD k []).getD i 0) &&& (255 : Int32)).toUInt32 % 65536).toInt32).toUInt32.toUInt16.toUInt32.toInt32).toUInt32.toUInt16.toUInt32.toInt32 = nI ((coC k).getD i 0) := by decide
theorem s_atC {N k i : Nat} {m : qM} (hk : k < 11) (hk6 : 6 ≤ k) (hi : i < (coC k).length) : fJ0_charAt_5068e N k (nI i) m = some (nI ((coC k).getD i 0), m) := s_at3 (by omega) (co_len k hk hk6).1 (co_len k hk hk6).2 (co_ch k hk hk6) hi
theorem s_lenQ {N k : Nat} {m : qM} (hk : k < 12) : qChs k (fJ0_length_8abf5 N k m) = some (nI (qtl k), m) := by
  unfold qChs
  rw [if_pos hk, s_len hk]
theorem s_atCQ {N k i : Nat} {m : qM} (hk : k < 11) (hk6 : 6 ≤ k) (hi : i < (coC k).length) : qChs k (fJ0_charAt_5068e N k (nI i) m) = some (nI ((coC k).getD i 0), m) := by
  unfold qChs
  rw [if_pos (by omega), s_atC hk hk6 hi]
def coK (c : Nat) : Nat := if c = 66 then 7 else if c = 67 then 8 else if c = 83 then 6 else if c = 87 then 9 else 10
theorem coK_lt (c : Nat) : coK c < 11 ∧ 6 ≤ coK c := by
  unfold coK
  repeat' split
  all_goals omega
theorem coC_K (c : Nat) : coC (coK c) = yCo c := by
  unfold coK yCo
  by_cases h1 : c = 66
  · rw [if_pos h1, if_pos h1]; rfl
  rw [if_neg h1, if_neg h1]
  by_cases h2 : c = 67
  · rw [if_pos h2, if_pos h2]; rfl
  rw [if_neg h2, if_neg h2]
  by_cases h3 : c = 83
  · rw [if_pos h3, if_pos h3]; rfl
  rw [if_neg h3, if_neg h3]
  by_cases h4 : c = 87
  · rw [if_pos h4, if_pos h4]; rfl
  rw [if_neg h4, if_neg h4]
  rfl
theorem c_con {N c : Nat} {m : qM} (hc : c < 128) : fX6_contractumOf N (nI c) m = some (coK c, m) := by
  have e : ∀ d, d < 128 → (nI c = nI d ↔ c = d) := fun d hd => nI_eq (by omega) (by omega)
  have e66 : (nI c = (66 : Int32)) ↔ c = 66 := e 66 (by omega)
  have e67 : (nI c = (67 : Int32)) ↔ c = 67 := e 67 (by omega)
  have e83 : (nI c = (83 : Int32)) ↔ c = 83 := e 83 (by omega)
  have e87 : (nI c = (87 : Int32)) ↔ c = 87 := e 87 (by omega)
  unfold fX6_contractumOf coK
  simp only [e66, e67, e83, e87]
  by_cases h1 : c = 66
  · simp only [h1, ↓reduceIte]
  by_cases h2 : c = 67
  · simp only [h1, h2, ↓reduceIte]; rfl
  by_cases h3 : c = 83
  · simp only [h1, h2, h3, ↓reduceIte]; rfl
  by_cases h4 : c = 87
  · simp only [h1, h2, h3, h4, ↓reduceIte]; rfl
  simp only [h1, h2, h3, h4, ↓reduceIte]
theorem yCo_d : ∀ c, c < 128 → ixL c < 6 → ∀ d, d ∈ yCo c → d = 64 ∨ (48 ≤ d ∧ d < 51 ∧ d - 48 < arN c) := by decide
/-- what a redex is: its letter, its arguments, what stands before and behind -/
def RxC (m : qM) (pre : List Nat) (c : Nat) (as : List Tm) : Prop := as.length = arN c ∧ ixL c < 6 ∧ (∀ a, a ∈ as → yOk a) ∧ qI m 393 9 = nI pre.length ∧ ∀ k, k < arN c → qI m 397 k = nI ((yPos (pre.length + 1) as).getD k (0, 0)).1 ∧ qI m 398 k = nI ((yPos (pre.length + 1) as).getD k (0, 0)).2
theorem RxC_of {m m2 : qM} {pre : List Nat} {c : Nat} {as : List Tm} (h : RxC m pre c as) (h9 : qI m2 393 9 = qI m 393 9) (h1 : qI m2 397 = qI m 397) (h2 : qI m2 398 = qI m 398) : RxC m2 pre c as := by
  unfold RxC
  rw [h9, h1, h2]
  exact h
theorem rx_at {pre post : List Nat} {c : Nat} {as : List Tm} : (pre ++ (c :: ySe as post)).getD pre.length 0 = c := by
  rw [List.getD_eq_getElem?_getD, List.getElem?_append_right (Nat.le_refl _), Nat.sub_self]; rfl
theorem rx_len {pre post : List Nat} {c : Nat} {as : List Tm} : (pre ++ (c :: ySe as post)).length = pre.length + 1 + (ySe as []).length + post.length := by
  rw [List.length_append, List.length_cons, ySe_len]; omega
theorem rx_drop {pre post : List Nat} {c : Nat} {as : List Tm} : (pre ++ (c :: ySe as post)).drop (pre.length + 1) = ySe as post := by
  rw [← List.drop_drop, List.drop_left]; rfl
theorem c_rend {m : qM} {S c : Nat} {pre post : List Nat} {as : List Tm} (hT : TmC m S) (hg : Sg (qI m) S (pre ++ (c :: ySe as post))) (hl : (pre ++ (c :: ySe as post)).length ≤ 160) (hx : RxC m pre c as) : fX6_redexEnd NF 393 m = some (nI (pre.length + 1 + (ySe as []).length), m) := by
  obtain ⟨hS, k, r0, r1, r2, r3, r4, r5, r6, k394, n394, k395, n395, k396, n396, k397, n397, k398, n398, kS, nS, kP, nP⟩ := id hT
  obtain ⟨x1, x2, x3, x4, x5⟩ := hx
  rw [rx_len] at hl
  have hat : qI m S pre.length = nI c := by
    have := hg.2 pre.length (by rw [rx_len]; omega)
    rw [rx_at] at this
    exact this
  have h3 := arN_lt c
  have h1 := ar_pos x2
  have hlt := (ixL_c x2).1
  unfold fX6_redexEnd
  refine EgR k r5 ?_
  refine EgI k x4 ?_
  refine EaI kS rfl (show pre.length < qN m S by omega) (by omega) hat ?_
  refine EB (c_arity (by omega)) ?_
  refine EIn (fun z => by have := (nI_leI (b := 0) (by omega) (by omega)).mp z; omega) ?_
  refine EgR k r4 ?_
  refine EaI k398 (show nI (arN c) - (1 : Int32) = nI (arN c - 1) from nI_m1 h1) (show arN c - 1 < qN m 398 by omega) (by omega) (x5 (arN c - 1) (by omega)).2 ?_
  have := yPos_e as (pre.length + 1) (by omega)
  rw [x1] at this
  rw [nI_s, this]
theorem rx_k {pre post : List Nat} {c : Nat} {as : List Tm} {k : Nat} (hk : k < as.length) : ∃ s rest, ((yPos (pre.length + 1) as).getD k (0, 0)).1 = s ∧ ((yPos (pre.length + 1) as).getD k (0, 0)).2 = s + (yPf (as.getD k (.var 0))).length ∧ (pre ++ (c :: ySe as post)).drop s = yPf (as.getD k (.var 0)) ++ rest := by
  obtain ⟨rest, h1, h2, h3⟩ := yPos_k as (pre.length + 1) k (pre ++ (c :: ySe as post)) post rx_drop hk
  exact ⟨_, rest, rfl, h2, h1⟩
theorem yBu_len {as : List Tm} {d : Nat} {ds : List Nat} : (yBu as (d :: ds)).length = (yDg as d).length + (yBu as ds).length := by
  show (yDg as d ++ yBu as ds).length = _
  rw [List.length_append]
theorem yDg_64 {as : List Tm} : yDg as 64 = [64] := rfl
theorem yDg_d {as : List Tm} {d : Nat} (h1 : 48 ≤ d) (h2 : d < 51) : yDg as d = yPf (as.getD (d - 48) (.var 0)) := if_pos ⟨h1, h2⟩
theorem c_sizeL {m : qM} {S c : Nat} {pre : List Nat} {as : List Tm} (hT : TmC m S) (hx : RxC m pre c as) : ∀ (ds : List Nat) (j acc f : Nat), (yCo c).drop j = ds → j + ds.length = (yCo c).length → ds.length < f → lX6_sizeAfterStep_30 NF 393 (coK c) f (nI acc) (nI j) m = some (nI (acc + (yBu as ds).length), m) := by
  obtain ⟨hS, k, r0, r1, r2, r3, r4, r5, r6, k394, n394, k395, n395, k396, n396, k397, n397, k398, n398, kS, nS, kP, nP⟩ := id hT
  obtain ⟨x1, x2, x3, x4, x5⟩ := hx
  have h3 := arN_lt c
  have hlt := (ixL_c x2).1
  obtain ⟨ck1, ck2⟩ := coK_lt c
  have hcl := co_len (coK c) ck1 ck2
  rw [coC_K] at hcl
  have hlen : qChs (coK c) (fJ0_length_8abf5 NF (coK c) m) = some (nI (yCo c).length, m) := by
    rw [← hcl.1]; exact s_lenQ (by omega)
  intro ds
  induction ds with
  | nil =>
    intro j acc f hj hjl hf
    obtain ⟨f, rfl⟩ : ∃ g, f = g + 1 := ⟨f - 1, by simp at hf; omega⟩
    have hjl2 : j = (yCo c).length := hjl
    conv => lhs; unfold lX6_sizeAfterStep_30
    refine EB hlen ?_
    refine EIp ((nI_leI (by omega) (by omega)).mpr (by omega)) ?_
    rfl
  | cons d ds ih =>
    intro j acc f hj hjl hf
    obtain ⟨f, rfl⟩ : ∃ g, f = g + 1 := ⟨f - 1, by simp at hf; omega⟩
    have hf2 : ds.length < f := by simp at hf; omega
    have hjl2 : j + (ds.length + 1) = (yCo c).length := hjl
    obtain ⟨hjL, hcc, hr2⟩ := drop_c hj
    have hd := yCo_d c (by omega) x2 d (by rw [← hcc]; exact mem_getD hjL)
    have hat : qChs (coK c) (fJ0_charAt_5068e NF (coK c) (nI j) m) = some (nI d, m) := by
      have := s_atCQ (N := NF) (m := m) ck1 ck2 (i := j) (by rw [coC_K]; omega)
      rw [coC_K, hcc] at this
      exact this
    have hpre : ∀ R, (if (3 : Int32) ≤ nI (d - 48) then kX6_sizeAfterStep_63 NF (lX6_sizeAfterStep_30 NF 393 (coK c) f) 393 (coK c) (nI acc) (nI j) (nI (d - 48)) m else kX6_sizeAfterStep_64 NF (lX6_sizeAfterStep_30 NF 393 (coK c) f) 393 (coK c) (nI acc) (nI j) (nI (d - 48)) (1 : Int32) m) = R → lX6_sizeAfterStep_30 NF 393 (coK c) (f + 1) (nI acc) (nI j) m = R := by
      intro R hR
      conv => lhs; unfold lX6_sizeAfterStep_30
      refine EB hlen ?_
      refine EIn (fun z => by have := (nI_leI (by omega) (by omega)).mp z; omega) ?_
      refine EB hat ?_
      rw [show nI d - (48 : Int32) = nI (d - 48) from pk_sub (b := 48) (by omega)]
      refine EIn (nI_pos (by omega)) ?_
      exact hR
    rw [yBu_len]
    rcases hd with rfl | ⟨d1, d2, d3⟩
    · rw [yDg_64]
      refine hpre _ ?_
      refine EIp (by decide) ?_
      unfold kX6_sizeAfterStep_63 kX6_sizeAfterStep_64 kX6_sizeAfterStep_91
      refine EIp rfl ?_
      rw [nI_s, nI_s, ih (j + 1) (acc + 1) f hr2 (by omega) hf2]
      rw [show acc + 1 + (yBu as ds).length = acc + ([64].length + (yBu as ds).length) by show _ = acc + (1 + _); omega]
    · rw [yDg_d d1 d2]
      obtain ⟨s, rest, e1, e2, -⟩ := rx_k (pre := pre) (post := []) (c := c) (as := as) (k := d - 48) (by omega)
      have hcell := x5 (d - 48) d3
      rw [e1, e2] at hcell
      refine hpre _ ?_
      refine EIn (fun z => by have := (nI_leI (a := 3) (by omega) (by omega)).mp z; omega) ?_
      unfold kX6_sizeAfterStep_64 kX6_sizeAfterStep_91
      refine EIn i10 ?_
      refine EgR k r4 ?_
      refine EaI k398 rfl (show d - 48 < qN m 398 by omega) (by omega) hcell.2 ?_
      refine EgR k r3 ?_
      refine EaI k397 rfl (show d - 48 < qN m 397 by omega) (by omega) hcell.1 ?_
      rw [pk_sub (by omega), nI_add, nI_s, ih (j + 1) _ f hr2 (by omega) hf2]
      rw [show acc + (s + (yPf (as.getD (d - 48) (.var 0))).length - s) + (yBu as ds).length = acc + ((yPf (as.getD (d - 48) (.var 0))).length + (yBu as ds).length) by omega]
theorem c_sizeA {m : qM} {S c : Nat} {pre post : List Nat} {as : List Tm} {u : Tm} (hT : TmC m S) (hg : Sg (qI m) S (pre ++ (c :: ySe as post))) (hl : (pre ++ (c :: ySe as post)).length ≤ 160) (hx : RxC m pre c as) (hu : yPf u = pre ++ (yBu as (yCo c) ++ post)) (hlu : yLv u ≤ 1000) : fX6_sizeAfterStep NF 393 m = some (nI (yLv u), m) := by
  have hre := c_rend hT hg hl hx
  have hL := c_sizeL hT hx (yCo c) 0 (pre.length + post.length) NF rfl (by omega) (by
    have := (co_len (coK c) (coK_lt c).1 (coK_lt c).2).2
    rw [coC_K] at this
    unfold NF; omega)
  obtain ⟨hS, k, r0, r1, r2, r3, r4, r5, r6, k394, n394, k395, n395, k396, n396, k397, n397, k398, n398, kS, nS, kP, nP⟩ := id hT
  obtain ⟨x1, x2, x3, x4, x5⟩ := id hx
  have hlt := (ixL_c x2).1
  have hlu2 := yPf_len u
  rw [hu, List.length_append, List.length_append] at hlu2
  have hat : qI m S pre.length = nI c := by
    have := hg.2 pre.length (by rw [rx_len]; omega)
    rw [rx_at] at this
    exact this
  have h7 := hg.1
  rw [rx_len] at hl h7
  unfold fX6_sizeAfterStep
  refine EgR k r5 ?_
  refine EgI k x4 ?_
  refine EaI kS rfl (show pre.length < qN m S by omega) (by omega) hat ?_
  refine EB (c_con (by omega)) ?_
  refine EgI k h7 ?_
  refine EC k hre ?_
  refine EgI k x4 ?_
  have e1 : nI (pre.length + 1 + (ySe as []).length + post.length) - (nI (pre.length + 1 + (ySe as []).length) - nI pre.length) = nI (pre.length + post.length) := by
    rw [pk_sub (by omega), pk_sub (by omega)]
    congr 1
    omega
  refine EB (show lX6_sizeAfterStep_30 NF 393 (coK c) NF (nI (pre.length + 1 + (ySe as []).length + post.length) - (nI (pre.length + 1 + (ySe as []).length) - nI pre.length)) 0 m = _ by rw [e1]; exact hL) ?_
  have e2 : (nI (pre.length + post.length + (yBu as (yCo c)).length) + (1 : Int32)) / (2 : Int32) = nI (yLv u) := by
    rw [nI_s, show (2 : Int32) = nI 2 from rfl, pk_div (by omega) (by omega) (by omega)]
    congr 1
    omega
  show some (_, m) = _
  rw [e2]
-- ===== a step is made =====
def Sp (I : Nat → Nat → Int32) (P : Nat) (out : List Nat) : Prop := I 393 8 = nI out.length ∧ ∀ i, i < out.length → I P i = nI (out.getD i 0)
def dCp (S a : Nat) : Prop := a = 393 ∨ a = 799 - S
theorem c_cp {L : List Nat} (hc : ∀ c, c ∈ L → c < 128) (hLl : L.length ≤ 160) {S : Nat} : ∀ (X : List Nat) (a f : Nat) (out rest : List Nat) (m : qM), TmC m S → Sg (qI m) S L → Sp (qI m) (799 - S) out → L.drop a = X ++ rest → a ≤ 160 → out.length + X.length ≤ 160 → X.length < f → ∃ m2, lX6_copyToSpare_2 NF 393 (nI (a + X.length)) f (nI a) m = some m2 ∧ Fx (dCp S) m m2 ∧ Sp (qI m2) (799 - S) (out ++ X) ∧ ∀ j, j ≠ 8 → qI m2 393 j = qI m 393 j := by
  intro X
  induction X with
  | nil =>
    intro a f out rest m hT hg hs hd ha hl hf
    obtain ⟨f, rfl⟩ : ∃ g, f = g + 1 := ⟨f - 1, by simp at hf; omega⟩
    refine ⟨m, ?_, Fx.rf, by rw [List.append_nil]; exact hs, fun j _ => rfl⟩
    conv => lhs; unfold lX6_copyToSpare_2
    exact if_pos ((nI_leI (by simp; omega) (by omega)).mpr (by simp))
  | cons x X ih =>
    intro a f out rest m hT hg hs hd ha hl hf
    obtain ⟨f, rfl⟩ : ∃ g, f = g + 1 := ⟨f - 1, by simp at hf; omega⟩
    have hf2 : X.length < f := by simp at hf; omega
    have hl2 : out.length + (X.length + 1) ≤ 160 := hl
    obtain ⟨haL, hcc, hr2⟩ := drop_c (show L.drop a = x :: (X ++ rest) from hd)
    obtain ⟨hS, k, r0, r1, r2, r3, r4, r5, r6, k394, n394, k395, n395, k396, n396, k397, n397, k398, n398, kS, nS, kP, nP⟩ := id hT
    have hlt : x < 128 := by rw [← hcc]; exact hc _ (mem_getD haL)
    have hat : qI m S a = nI x := by rw [← hcc]; exact hg.2 a haL
    let m1 : qM := qsI m (799 - S) out.length (nI x)
    let m2 : qM := qsI m1 393 8 (nI (out.length + 1))
    have f2 : Fx (dCp S) m m2 := (Fx.rf.sI (Or.inr rfl)).sI (Or.inl rfl)
    have h8 : qI m1 393 8 = nI out.length := by simp only [m1, qS]; rw [if_neg (by omega)]; exact hs.1
    have hj8 : ∀ j, j ≠ 8 → qI m2 393 j = qI m 393 j := fun j hj => by simp only [m2, m1, qS]; rw [if_pos trivial, if_neg hj, if_neg (by omega)]
    have hg2 : Sg (qI m2) S L := ⟨by rw [hj8 7 (by decide)]; exact hg.1, by rw [f2.i (show ¬ dCp S S by unfold dCp; omega)]; exact hg.2⟩
    have hs2 : Sp (qI m2) (799 - S) (out ++ [x]) := by
      refine ⟨by simp [m2, qS], fun i hi => ?_⟩
      have hi2 : i < out.length + 1 := by simpa using hi
      rw [getD_snoc]
      simp only [m2, m1, qS]
      rw [if_neg (show ¬ 799 - S = 393 by omega), if_pos trivial]
      by_cases e : i = out.length
      · rw [if_pos e, if_pos e]
      · rw [if_neg e, if_neg e]; exact hs.2 i (by omega)
    obtain ⟨m3, q1, q2, q3, q4⟩ := ih (a + 1) f (out ++ [x]) rest m2 (TmC_fx f2 hT) hg2 hs2 hr2 (by omega) (by simp; omega) hf2
    refine ⟨m3, ?_, f2.tr q2, by rw [List.append_assoc] at q3; exact q3, fun j hj => (q4 j hj).trans (hj8 j hj)⟩
    rw [show a + 1 + X.length = a + (x :: X).length by simp; omega] at q1
    conv => lhs; unfold lX6_copyToSpare_2
    refine EIn (fun z => by have := (nI_leI (by simp; omega) (by omega)).mp z; rw [List.length_cons] at this; omega) ?_
    refine EgI k hs.1 ?_
    refine EIn (fun z => by have := (nI_leI (a := 160) (by omega) (by omega)).mp z; omega) ?_
    refine EgR k r6 ?_
    refine EgI k hs.1 ?_
    refine EgR k r5 ?_
    refine EaI kS rfl (show a < qN m S by omega) (by omega) hat ?_
    refine EwI kP rfl (show out.length < qN m (799 - S) by omega) (by omega) (c16 x hlt) ?_
    refine EgI (show qK m1 393 = 6 from k) h8 ?_
    refine EpI (show qK m1 393 = 6 from k) (nI_s _) ?_
    rw [nI_s]
    exact q1
theorem c_mkL {S c : Nat} {pre post : List Nat} {as : List Tm} (hc : ∀ d, d ∈ pre ++ (c :: ySe as post) → d < 128) (hLl : (pre ++ (c :: ySe as post)).length ≤ 160) : ∀ (ds : List Nat) (j f : Nat) (out : List Nat) (m : qM), TmC m S → Sg (qI m) S (pre ++ (c :: ySe as post)) → RxC m pre c as → Sp (qI m) (799 - S) out → (yCo c).drop j = ds → j + ds.length = (yCo c).length → out.length + (yBu as ds).length ≤ 160 → ds.length < f → ∃ m2, lX6_makeStep_29 NF 393 (coK c) f (nI j) m = some m2 ∧ Fx (dCp S) m m2 ∧ Sp (qI m2) (799 - S) (out ++ yBu as ds) ∧ ∀ j, j ≠ 8 → qI m2 393 j = qI m 393 j := by
  obtain ⟨ck1, ck2⟩ := coK_lt c
  have hcl := co_len (coK c) ck1 ck2
  rw [coC_K] at hcl
  intro ds
  induction ds with
  | nil =>
    intro j f out m hT hg hx hs hj hjl hl hf
    obtain ⟨f, rfl⟩ : ∃ g, f = g + 1 := ⟨f - 1, by simp at hf; omega⟩
    have hjl2 : j = (yCo c).length := hjl
    have hlen : qChs (coK c) (fJ0_length_8abf5 NF (coK c) m) = some (nI (yCo c).length, m) := by
      rw [← hcl.1]; exact s_lenQ (by omega)
    refine ⟨m, ?_, Fx.rf, by show Sp (qI m) (799 - S) (out ++ []); rw [List.append_nil]; exact hs, fun j _ => rfl⟩
    conv => lhs; unfold lX6_makeStep_29
    refine EB hlen ?_
    exact if_pos ((nI_leI (by omega) (by omega)).mpr (by omega))
  | cons d ds ih =>
    intro j f out m hT hg hx hs hj hjl hl hf
    obtain ⟨f, rfl⟩ : ∃ g, f = g + 1 := ⟨f - 1, by simp at hf; omega⟩
    have hf2 : ds.length < f := by simp at hf; omega
    have hjl2 : j + (ds.length + 1) = (yCo c).length := hjl
    obtain ⟨hS, k, r0, r1, r2, r3, r4, r5, r6, k394, n394, k395, n395, k396, n396, k397, n397, k398, n398, kS, nS, kP, nP⟩ := id hT
    obtain ⟨x1, x2, x3, x4, x5⟩ := id hx
    have h3 := arN_lt c
    have hlt := (ixL_c x2).1
    obtain ⟨hjL, hcc, hr2⟩ := drop_c hj
    have hd := yCo_d c (by omega) x2 d (by rw [← hcc]; exact mem_getD hjL)
    have hlen : qChs (coK c) (fJ0_length_8abf5 NF (coK c) m) = some (nI (yCo c).length, m) := by
      rw [← hcl.1]; exact s_lenQ (by omega)
    have hat : qChs (coK c) (fJ0_charAt_5068e NF (coK c) (nI j) m) = some (nI d, m) := by
      have := s_atCQ (N := NF) (m := m) ck1 ck2 (i := j) (by rw [coC_K]; omega)
      rw [coC_K, hcc] at this
      exact this
    have hpre : ∀ R, (if (3 : Int32) ≤ nI (d - 48) then kX6_makeStep_74 NF (lX6_makeStep_29 NF 393 (coK c) f) 393 (coK c) (nI j) m else (qgR m 393 6 3).bind fun x3 => (qaI m x3 12 (nI (d - 48))).bind fun x4 => (qgR m 393 6 4).bind fun x5 => (qaI m x5 12 (nI (d - 48))).bind fun x6 => (qChk m 393 6 (fX6_copyToSpare NF 393 x4 x6 m)).bind fun b7 => kX6_makeStep_105 NF (lX6_makeStep_29 NF 393 (coK c) f) 393 (coK c) (nI j) b7) = R → lX6_makeStep_29 NF 393 (coK c) (f + 1) (nI j) m = R := by
      intro R hR
      conv => lhs; unfold lX6_makeStep_29
      refine EB hlen ?_
      refine EIn (fun z => by have := (nI_leI (by omega) (by omega)).mp z; omega) ?_
      refine EB hat ?_
      rw [show nI d - (48 : Int32) = nI (d - 48) from pk_sub (b := 48) (by omega)]
      refine EIn (nI_pos (by omega)) ?_
      exact hR
    rw [yBu_len] at hl
    have go : ∀ (m1 : qM) (X : List Nat), X = yDg as d → Fx (dCp S) m m1 → Sp (qI m1) (799 - S) (out ++ X) → (∀ j, j ≠ 8 → qI m1 393 j = qI m 393 j) → ∃ m2, lX6_makeStep_29 NF 393 (coK c) f (nI (j + 1)) m1 = some m2 ∧ Fx (dCp S) m m2 ∧ Sp (qI m2) (799 - S) (out ++ yBu as (d :: ds)) ∧ ∀ j, j ≠ 8 → qI m2 393 j = qI m 393 j := by
      intro m1 X hX f1 hs1 hj1
      have hg1 : Sg (qI m1) S (pre ++ (c :: ySe as post)) := ⟨by rw [hj1 7 (by decide)]; exact hg.1, by rw [f1.i (show ¬ dCp S S by unfold dCp; omega)]; exact hg.2⟩
      have hx1 := RxC_of hx (hj1 9 (by decide)) (f1.i (show ¬ dCp S 397 by unfold dCp; omega)) (f1.i (show ¬ dCp S 398 by unfold dCp; omega))
      obtain ⟨m2, q1, q2, q3, q4⟩ := ih (j + 1) f (out ++ X) m1 (TmC_fx f1 hT) hg1 hx1 hs1 hr2 (by omega) (by rw [List.length_append, hX]; omega) hf2
      refine ⟨m2, q1, f1.tr q2, ?_, fun j hj => (q4 j hj).trans (hj1 j hj)⟩
      rw [List.append_assoc, hX] at q3
      exact q3
    rcases hd with rfl | ⟨d1, d2, d3⟩
    · rw [yDg_64] at hl
      have hl2 : out.length + (1 + (yBu as ds).length) ≤ 160 := hl
      let m1 : qM := qsI m (799 - S) out.length (nI 64)
      let m2 : qM := qsI m1 393 8 (nI (out.length + 1))
      have f2 : Fx (dCp S) m m2 := (Fx.rf.sI (Or.inr rfl)).sI (Or.inl rfl)
      have h8 : qI m1 393 8 = nI out.length := by simp only [m1, qS]; rw [if_neg (by omega)]; exact hs.1
      have hj8 : ∀ j, j ≠ 8 → qI m2 393 j = qI m 393 j := fun j hj => by simp only [m2, m1, qS]; rw [if_pos trivial, if_neg hj, if_neg (by omega)]
      have hs2 : Sp (qI m2) (799 - S) (out ++ [64]) := by
        refine ⟨by simp [m2, qS], fun i hi => ?_⟩
        have hi2 : i < out.length + 1 := by simpa using hi
        rw [getD_snoc]
        simp only [m2, m1, qS]
        rw [if_neg (show ¬ 799 - S = 393 by omega), if_pos trivial]
        by_cases e : i = out.length
        · rw [if_pos e, if_pos e]
        · rw [if_neg e, if_neg e]; exact hs.2 i (by omega)
      obtain ⟨m3, q1, q2⟩ := go m2 [64] rfl f2 hs2 hj8
      refine ⟨m3, hpre _ ?_, q2⟩
      refine EIp (by decide) ?_
      unfold kX6_makeStep_74 kX6_makeStep_105
      refine EgI k hs.1 ?_
      refine EIn (fun z => by have := (nI_leI (a := 160) (by omega) (by omega)).mp z; omega) ?_
      refine EgR k r6 ?_
      refine EgI k hs.1 ?_
      refine EwI kP rfl (show out.length < qN m (799 - S) by omega) (by omega) (c16 64 (by omega)) ?_
      refine EgI (show qK m1 393 = 6 from k) h8 ?_
      refine EpI (show qK m1 393 = 6 from k) (nI_s _) ?_
      rw [nI_s]
      exact q1
    · rw [yDg_d d1 d2] at hl
      obtain ⟨s, rest, e1, e2, e3⟩ := rx_k (pre := pre) (post := post) (c := c) (as := as) (k := d - 48) (by omega)
      have hcell := x5 (d - 48) d3
      rw [e1, e2] at hcell
      have hs160 : s ≤ 160 := by
        apply Classical.byContradiction
        intro z
        rw [List.drop_eq_nil_iff.mpr (by omega)] at e3
        have := congrArg List.length e3
        rw [List.length_append] at this
        have := yPf_len (as.getD (d - 48) (.var 0))
        have := yLv_pos (as.getD (d - 48) (.var 0))
        simp at *
        omega
      obtain ⟨m1, p1, p2, p3, p4⟩ := c_cp hc hLl (yPf (as.getD (d - 48) (.var 0))) s NF out rest m hT hg hs e3 hs160 (by omega) (by unfold NF; omega)
      obtain ⟨m3, q1, q2⟩ := go m1 _ (yDg_d d1 d2).symm p2 p3 p4
      refine ⟨m3, hpre _ ?_, q2⟩
      refine EIn (fun z => by have := (nI_leI (a := 3) (by omega) (by omega)).mp z; omega) ?_
      refine EgR k r3 ?_
      refine EaI k397 rfl (show d - 48 < qN m 397 by omega) (by omega) hcell.1 ?_
      refine EgR k r4 ?_
      refine EaI k398 rfl (show d - 48 < qN m 398 by omega) (by omega) hcell.2 ?_
      refine EC k (show fX6_copyToSpare NF 393 (nI s) (nI (s + (yPf (as.getD (d - 48) (.var 0))).length)) m = some m1 by unfold fX6_copyToSpare; exact EB p1 rfl) ?_
      unfold kX6_makeStep_105
      rw [nI_s]
      exact q1
/-- cells as with Fx, but the two rows of signs may change places -/
def Fy (D : Nat → Prop) (m m' : qM) : Prop := qK m' = qK m ∧ qN m' = qN m ∧ (∀ a, a ≠ 393 → qR m' a = qR m a) ∧ qT m' = qT m ∧ ∀ a, ¬ D a → qI m' a = qI m a ∧ qL m' a = qL m a
theorem Fy_of {D : Nat → Prop} {m m' : qM} (h : Fx D m m') : Fy D m m' := ⟨h.1, h.2.1, fun a _ => by rw [h.2.2.1], h.2.2.2.1, h.2.2.2.2⟩
theorem Fy.tr {D : Nat → Prop} {m1 m2 m3 : qM} (h1 : Fy D m1 m2) (h2 : Fy D m2 m3) : Fy D m1 m3 :=
  ⟨h2.1.trans h1.1, h2.2.1.trans h1.2.1, fun a ha => (h2.2.2.1 a ha).trans (h1.2.2.1 a ha), h2.2.2.2.1.trans h1.2.2.2.1, fun a ha => ⟨(h2.2.2.2.2 a ha).1.trans (h1.2.2.2.2 a ha).1, (h2.2.2.2.2 a ha).2.trans (h1.2.2.2.2 a ha).2⟩⟩
theorem Fy.mono {D D' : Nat → Prop} {m1 m2 : qM} (h : Fy D m1 m2) (hd : ∀ a, D a → D' a) : Fy D' m1 m2 := ⟨h.1, h.2.1, h.2.2.1, h.2.2.2.1, fun a ha => h.2.2.2.2 a (fun q => ha (hd a q))⟩
theorem Fy.i {D : Nat → Prop} {m1 m2 : qM} (h : Fy D m1 m2) {a : Nat} (ha : ¬ D a) : qI m2 a = qI m1 a := (h.2.2.2.2 a ha).1
theorem Fy.l {D : Nat → Prop} {m1 m2 : qM} (h : Fy D m1 m2) {a : Nat} (ha : ¬ D a) : qL m2 a = qL m1 a := (h.2.2.2.2 a ha).2
def dTr (a : Nat) : Prop := 393 ≤ a ∧ a ≤ 400
theorem c_makeStep {m : qM} {S c : Nat} {pre post : List Nat} {as : List Tm} {u : Tm} (hc : ∀ d, d ∈ pre ++ (c :: ySe as post) → d < 128) (hT : TmC m S) (hg : Sg (qI m) S (pre ++ (c :: ySe as post))) (hl : (pre ++ (c :: ySe as post)).length ≤ 160) (hx : RxC m pre c as) (hu : yPf u = pre ++ (yBu as (yCo c) ++ post)) (hlu : yLv u ≤ 40) : ∃ m2, fX6_makeStep NF 393 m = some m2 ∧ TmC m2 (799 - S) ∧ Sg (qI m2) (799 - S) (yPf u) ∧ Fy dTr m m2 := by
  obtain ⟨hS, k, r0, r1, r2, r3, r4, r5, r6, k394, n394, k395, n395, k396, n396, k397, n397, k398, n398, kS, nS, kP, nP⟩ := id hT
  obtain ⟨x1, x2, x3, x4, x5⟩ := id hx
  have hlt := (ixL_c x2).1
  have hlu2 := yPf_len u
  rw [hu, List.length_append, List.length_append] at hlu2
  have hl2 := hl
  rw [rx_len] at hl2
  have hat : qI m S pre.length = nI c := by
    have := hg.2 pre.length (by rw [rx_len]; omega)
    rw [rx_at] at this
    exact this
  let m5 : qM := qsI m 393 8 (nI 0)
  have f5 : Fx (dCp S) m m5 := Fx.rf.sI (Or.inl rfl)
  have hj5 : ∀ j, j ≠ 8 → qI m5 393 j = qI m 393 j := fun j hj => by simp only [m5, qS]; rw [if_pos trivial, if_neg hj]
  have nS1 : ¬ dCp S S := by unfold dCp; omega
  have n397 : ¬ dCp S 397 := by unfold dCp; omega
  have n398 : ¬ dCp S 398 := by unfold dCp; omega
  have mk : ∀ (m' : qM), Fx (dCp S) m m' → (∀ j, j ≠ 8 → qI m' 393 j = qI m 393 j) → TmC m' S ∧ Sg (qI m') S (pre ++ (c :: ySe as post)) ∧ RxC m' pre c as := fun m' f hj => ⟨TmC_fx f hT, ⟨by rw [hj 7 (by decide)]; exact hg.1, by rw [f.i nS1]; exact hg.2⟩, RxC_of hx (hj 9 (by decide)) (f.i n397) (f.i n398)⟩
  obtain ⟨hT5, hg5, hx5⟩ := mk m5 f5 hj5
  obtain ⟨m7, a1, a2, a3, a4⟩ := c_cp hc hl pre 0 NF [] (c :: ySe as post) m5 hT5 hg5 ⟨by simp [m5, qS], fun i hi => by simp at hi⟩ rfl (by omega) (by simp; omega) (by unfold NF; omega)
  have f7 := f5.tr a2
  have hj7 : ∀ j, j ≠ 8 → qI m7 393 j = qI m 393 j := fun j hj => (a4 j hj).trans (hj5 j hj)
  obtain ⟨hT7, hg7, hx7⟩ := mk m7 f7 hj7
  obtain ⟨m8, b1, b2, b3, b4⟩ := c_mkL hc hl (yCo c) 0 NF ([] ++ pre) m7 hT7 hg7 hx7 a3 rfl (by omega) (by simp; omega) (by
    have := (co_len (coK c) (coK_lt c).1 (coK_lt c).2).2
    rw [coC_K] at this
    unfold NF; omega)
  have f8 := f7.tr b2
  have hj8 : ∀ j, j ≠ 8 → qI m8 393 j = qI m 393 j := fun j hj => (b4 j hj).trans (hj7 j hj)
  obtain ⟨hT8, hg8, hx8⟩ := mk m8 f8 hj8
  have hre := c_rend hT8 hg8 hl hx8
  have hdr : (pre ++ (c :: ySe as post)).drop (pre.length + 1 + (ySe as []).length) = post ++ [] := by
    have e := ySe_r as [] post
    rw [List.nil_append] at e
    rw [← List.drop_drop, rx_drop, ← e, List.drop_left, List.append_nil]
  obtain ⟨m11, d1, d2, d3, d4⟩ := c_cp hc hl post (pre.length + 1 + (ySe as []).length) NF ([] ++ pre ++ yBu as (yCo c)) [] m8 hT8 hg8 b3 hdr (by omega) (by simp; omega) (by unfold NF; omega)
  have f11 := f8.tr d2
  have hj11 : ∀ j, j ≠ 8 → qI m11 393 j = qI m 393 j := fun j hj => (d4 j hj).trans (hj8 j hj)
  obtain ⟨hT11, hg11, -⟩ := mk m11 f11 hj11
  obtain ⟨-, K, R0, R1, R2, R3, R4, R5, R6, -⟩ := id hT11
  have k5 : qK m5 393 = 6 := k
  have k7 : qK m7 393 = 6 := hT7.2.1
  have k8 : qK m8 393 = 6 := hT8.2.1
  let m14 : qM := qsR m11 393 5 (some (799 - S))
  let m15 : qM := qsR m14 393 6 (some S)
  let m17 : qM := qsI m15 393 7 (nI (yPf u).length)
  have hout : [] ++ pre ++ yBu as (yCo c) ++ post = yPf u := by rw [hu, List.nil_append, List.append_assoc]
  rw [hout] at d3
  have h8 : qI m15 393 8 = nI (yPf u).length := d3.1
  refine ⟨m17, ?_, ?_, ?_, ?_⟩
  · unfold fX6_makeStep
    refine EgR k r5 ?_
    refine EgI k x4 ?_
    refine EaI kS rfl (show pre.length < qN m S by omega) (by omega) hat ?_
    refine EB (c_con (by omega)) ?_
    refine EpI k (show (0 : Int32) = nI 0 from rfl) ?_
    refine EgI k5 ((hj5 9 (by decide)).trans x4) ?_
    refine EC k5 (show fX6_copyToSpare NF 393 (0 : Int32) (nI pre.length) m5 = some m7 by unfold fX6_copyToSpare; rw [Nat.zero_add] at a1; exact EB a1 rfl) ?_
    refine EB b1 ?_
    refine EC k8 hre ?_
    refine EgI k8 ((hj8 7 (by decide)).trans (hg.1.trans (by rw [rx_len]))) ?_
    refine EC k8 (show fX6_copyToSpare NF 393 (nI (pre.length + 1 + (ySe as []).length)) (nI (pre.length + 1 + (ySe as []).length + post.length)) m8 = some m11 by unfold fX6_copyToSpare; exact EB d1 rfl) ?_
    refine EgR K R5 ?_
    refine EgR K R6 ?_
    refine EpR K ?_
    refine EpR (show qK m14 393 = 6 from K) ?_
    refine EgI (show qK m15 393 = 6 from K) h8 ?_
    refine EpI (show qK m15 393 = 6 from K) rfl ?_
    rfl
  · obtain ⟨-, -, -, -, -, -, -, -, -, y1, y2, y3, y4, y5, y6, y7, y8, y9, y10, y11, y12, y13, y14⟩ := hT11
    have e7 : 799 - (799 - S) = S := by omega
    unfold TmC
    rw [e7]
    refine ⟨by omega, K, ?_, ?_, ?_, ?_, ?_, ?_, ?_, y1, y2, y3, y4, y5, y6, y7, y8, y9, y10, y13, y14, y11, y12⟩
    · simp only [m17, m15, m14, qS, ↓reduceIte]; exact R0
    · simp only [m17, m15, m14, qS, ↓reduceIte]; exact R1
    · simp only [m17, m15, m14, qS, ↓reduceIte]; exact R2
    · simp only [m17, m15, m14, qS, ↓reduceIte]; exact R3
    · simp only [m17, m15, m14, qS, ↓reduceIte]; exact R4
    · simp [m17, m15, m14, qS]
    · simp [m17, m15, m14, qS]
  · refine ⟨by simp [m17, qS], fun i hi => ?_⟩
    have := d3.2 i hi
    simp only [m17, m15, m14, qS]
    rw [if_neg (by omega)]
    exact this
  · have g1 : Fy dTr m m11 := Fy_of (f11.mono (fun a ha => by unfold dCp at ha; unfold dTr; omega))
    refine g1.tr ⟨rfl, rfl, fun a ha => ?_, rfl, fun a ha => ⟨?_, rfl⟩⟩
    · funext j
      simp only [m17, m15, m14, qS]
      rw [if_neg ha, if_neg ha]
    · funext j
      simp only [m17, m15, m14, qS]
      rw [if_neg (fun z => ha (by unfold dTr; omega))]
end
