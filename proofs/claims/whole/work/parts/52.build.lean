section
-- ===== a formula that grows =====
def CFb (I : Nat → Nat → Int32) (f : Nat) (cs : List Nat) (n : Nat) : Prop := I f 1 = nI cs.length ∧ I f 2 = nI n ∧ cs.length ≤ 39 ∧ ∀ i, i < cs.length → I (f + 1) i = cS (cs.getD i 0)
def NmR (I : Nat → Nat → Int32) (A : Nat) (g : Nat → Nat) (ns : List Nat) : Prop := ∀ j, j < ns.length → I A j = nI (g (ns.getD j 0))
def dF (f a : Nat) : Prop := a = f ∨ a = f + 1
theorem c_empty {m : qM} {f : Nat} (hs : FmS (qK m) (qN m) (qR m) f) : ∃ m2, fX0_makeEmpty NF f m = some m2 ∧ Fx (dF f) m m2 ∧ CFb (qI m2) f [] 0 := by
  have k0 := hs.1
  refine ⟨qsI (qsI m f 1 0) f 2 0, ?_, (Fx.rf.sI (Or.inl rfl)).sI (Or.inl rfl), by simp [qS]; rfl, by simp [qS]; rfl, by simp, fun i hi => by simp at hi⟩
  unfold fX0_makeEmpty
  refine EpI k0 rfl ?_
  refine EpI k0 rfl ?_
  rfl
theorem c_addSign {m : qM} {f n c : Nat} {cs : List Nat} {v : Int32} (hs : FmS (qK m) (qN m) (qR m) f) (hc : CFb (qI m) f cs n) (hv : v = cS c) : (cs.length < 39 ∧ ∃ m2, fX0_addSign NF f v m = some (1, m2) ∧ Fx (dF f) m m2 ∧ CFb (qI m2) f (cs ++ [c]) n) ∨ (cs.length = 39 ∧ fX0_addSign NF f v m = some (0, m)) := by
  obtain ⟨k0, r0, k1, n1⟩ := hs
  obtain ⟨c1, c2, c3, c4⟩ := hc
  by_cases h : cs.length < 39
  · left
    refine ⟨h, qsI (qsI m (f + 1) cs.length v) f 1 (nI (cs.length + 1)), ?_, (Fx.rf.sI (Or.inr rfl)).sI (Or.inl rfl), by simp [qS], ?_, by simp; omega, fun i hi => ?_⟩
    · unfold fX0_addSign
      refine EgI k0 c1 ?_
      refine EIp ((nI_ltI (b := 39) (by omega) (by omega)).mpr h) ?_
      refine EgR k0 r0 ?_
      refine EgI k0 c1 ?_
      refine EwI k1 rfl (by omega) (by omega) rfl ?_
      refine EgI (v := nI cs.length) k0 ?_ ?_
      · simp only [qS]; rw [if_neg (by omega)]; exact c1
      refine EpI k0 (nI_s _) ?_
      rfl
    · have e : ¬ f = f + 1 := by omega
      simp [qS, e, c2]
    · have e : ¬ f + 1 = f := by omega
      simp only [qS, e, ↓reduceIte]
      rw [getD_snoc]
      by_cases e2 : i = cs.length
      · rw [if_pos e2, if_pos e2]; exact hv
      · rw [if_neg e2, if_neg e2]
        exact c4 i (by simp at hi; omega)
  · right
    refine ⟨by omega, ?_⟩
    unfold fX0_addSign
    refine EgI k0 c1 ?_
    refine EIn (fun z => h ((nI_ltI (b := 39) (by omega) (by omega)).mp z)) ?_
    rfl
theorem idx_first {v : Nat} : ∀ {ns : List Nat} {k : Nat}, k < ns.length → ns.getD k 0 = v → (∀ j, j < k → ns.getD j 0 ≠ v) → ixo ns v = k
  | [], k, h, _, _ => by simp at h
  | a :: ns, 0, _, h, _ => by
    have h : a = v := h
    unfold ixo
    rw [List.idxOf_cons, h]
    simp
  | a :: ns, k + 1, h1, h2, h3 => by
    have h0 : a ≠ v := h3 0 (by omega)
    have ih := idx_first (v := v) (ns := ns) (k := k) (by simpa using h1) (by simpa using h2) (fun j hj => by simpa using h3 (j + 1) (by omega))
    unfold ixo at ih ⊢
    rw [List.idxOf_cons, show (a == v) = false from by simp [h0], ih]
    rfl
theorem not_in {v : Nat} {ns : List Nat} (h : ∀ j, j < ns.length → ns.getD j 0 ≠ v) : ¬ v ∈ ns := by
  intro hm
  obtain ⟨j, hj, e⟩ := List.getElem_of_mem hm
  apply h j hj
  rw [List.getD_eq_getElem?_getD, List.getElem?_eq_getElem hj]
  exact e
theorem ixo_nin {v : Nat} {ns : List Nat} (h : ¬ v ∈ ns) : ixo ns v = ns.length := List.idxOf_eq_length h
theorem ixo_in {v : Nat} {ns : List Nat} (h : v ∈ ns) : ixo ns v < ns.length := List.idxOf_lt_length_of_mem h
theorem mem_getD {ns : List Nat} {j : Nat} (h : j < ns.length) : ns.getD j 0 ∈ ns := by
  rw [List.getD_eq_getElem?_getD, List.getElem?_eq_getElem h]
  exact List.getElem_mem h
theorem c_nameLoop {m : qM} {f A v : Nat} {g : Nat → Nat} {ns : List Nat} (hk0 : qK m f = 0) (h2 : qI m f 2 = nI ns.length) (hkA : qK m A = 12) (hnA : qN m A = 12) (hl : ns.length ≤ 12) (hN : NmR (qI m) A g ns) (hg : ∀ a, (a ∈ ns ∨ a = v) → g a < 2 ^ 31) (hi : ∀ a, a ∈ ns → g a = g v → a = v) : ∀ (n k : Nat), k ≤ ns.length → (∀ j, j < k → ns.getD j 0 ≠ v) → ns.length < n + k → lX0_addVariable_2 NF f (nI (g v)) A n (nI k) m = some (nI (ixo ns v), m) := by
  intro n
  induction n with
  | zero => intro k h1 _ h3; omega
  | succ n ih =>
    intro k h1 h3 h4
    conv => lhs; unfold lX0_addVariable_2
    refine EgI hk0 h2 ?_
    by_cases e : ns.length ≤ k
    · obtain rfl : k = ns.length := by omega
      refine EIp ((nI_leI (by omega) (by omega)).mpr e) ?_
      rw [ixo_nin (not_in h3)]
    · refine EIn (fun z => e ((nI_leI (by omega) (by omega)).mp z)) ?_
      refine EaI hkA rfl (by omega) (by omega) (hN k (by omega)) ?_
      have hm := mem_getD (ns := ns) (j := k) (by omega)
      by_cases e2 : ns.getD k 0 = v
      · refine EIp (by rw [e2]) ?_
        rw [idx_first (by omega) e2 h3]
      · refine EIn (fun z => e2 (hi _ hm ((nI_eq (hg _ (Or.inl hm)) (hg _ (Or.inr rfl))).mp z))) ?_
        rw [nI_s]
        exact ih (k + 1) (by omega) (fun j hj => by
          by_cases ej : j = k
          · rw [ej]; exact e2
          · exact h3 j (by omega)) (by omega)
def okW (cs ns : List Nat) (w : Nat) : Prop := cs.length < 39 ∧ (nm ns [w]).length ≤ 12
theorem cn_one {ns : List Nat} {v : Nat} (h : v ≠ 99) : cn ns [v] = [ixo ns v] := by
  by_cases h2 : v ∈ ns
  · simp [cn, h, h2]
  · simp [cn, h, h2, ixo_nin h2]
theorem nm_one {ns : List Nat} {v : Nat} (h : v ≠ 99) : nm ns [v] = if v ∈ ns then ns else ns ++ [v] := by
  by_cases h2 : v ∈ ns
  · simp [nm, h, h2]
  · simp [nm, h, h2]
def dFA (f A a : Nat) : Prop := dF f a ∨ a = A
theorem cS_n {c : Nat} (h : c ≠ 99) : cS c = nI c := if_neg h
theorem b1i : ((1 : Int32) &&& 1) = 1 ∧ ((0 : Int32) &&& 1) = 0 := by decide
theorem b1s (m : qM) : some ((1 : Int32) &&& 1, m) = some (1, m) := by rw [b1i.1]
theorem b0s (m : qM) : some ((0 : Int32) &&& 1, m) = some (0, m) := by rw [b1i.2]
theorem c_addVar {m : qM} {f A v : Nat} {g : Nat → Nat} {cs ns : List Nat} (hs : FmS (qK m) (qN m) (qR m) f) (hAf : ¬ A = f) (hAf1 : ¬ A = f + 1) (hkA : qK m A = 12) (hnA : qN m A = 12) (hc : CFb (qI m) f cs ns.length) (hl : ns.length ≤ 12) (hN : NmR (qI m) A g ns) (hg : ∀ a, (a ∈ ns ∨ a = v) → g a < 2 ^ 31) (hi : ∀ a, a ∈ ns → g a = g v → a = v) (hv : v ≠ 99) :
    ∃ m2 r, fX0_addVariable NF f (nI (g v)) A m = some (r, m2) ∧ Fx (dFA f A) m m2 ∧ ((r = 1 ∧ okW cs ns v ∧ CFb (qI m2) f (cs ++ cn ns [v]) (nm ns [v]).length ∧ NmR (qI m2) A g (nm ns [v])) ∨ (r = 0 ∧ ¬ okW cs ns v)) := by
  have hk0 := hs.1
  have hloop := c_nameLoop hk0 hc.2.1 hkA hnA hl hN hg hi NF 0 (by omega) (fun j hj => by omega) (by unfold NF; omega)
  have hf2 := hc.2.1
  unfold fX0_addVariable
  rw [show lX0_addVariable_2 NF f (nI (g v)) A NF 0 m = some (nI (ixo ns v), m) from hloop]
  simp only [Option.bind_some]
  unfold kX0_addVariable_56
  rw [cn_one hv]
  by_cases hm : v ∈ ns
  · have hix := ixo_in hm
    have hc1 : ¬ nI (ixo ns v) = nI ns.length := fun z => by have := (nI_eq (by omega) (by omega)).mp z; omega
    have e2 : nm ns [v] = ns := by rw [nm_one hv, if_pos hm]
    have hcs : nI (ixo ns v) = cS (ixo ns v) := (cS_n (by omega)).symm
    rcases c_addSign hs hc hcs with ⟨q1, m2, q2, q3, q4⟩ | ⟨q1, q2⟩
    · refine ⟨m2, 1, ?_, q3.mono (fun a h => Or.inl h), Or.inl ⟨rfl, ⟨q1, by rw [e2]; exact hl⟩, by rw [e2]; exact q4, ?_⟩⟩
      · refine EgI hk0 hf2 ?_
        refine EIn hc1 ?_
        refine EC hk0 q2 ?_
        first | exact b1s _ | exact b0s _
      · rw [e2]
        intro j hj
        rw [q3.i (by unfold dF; omega)]
        exact hN j hj
    · refine ⟨m, 0, ?_, Fx.rf, Or.inr ⟨rfl, fun z => by have := z.1; omega⟩⟩
      refine EgI hk0 hf2 ?_
      refine EIn hc1 ?_
      refine EC hk0 q2 ?_
      first | exact b1s _ | exact b0s _
  · have hix := ixo_nin hm
    have e2 : nm ns [v] = ns ++ [v] := by rw [nm_one hv, if_neg hm]
    have e3 : (nm ns [v]).length = ns.length + 1 := by rw [e2]; simp
    rw [hix]
    by_cases h12 : ns.length < 12
    · let m1 : qM := qsI (qsI m A ns.length (nI (g v))) f 2 (nI (ns.length + 1))
      have f1 : Fx (dFA f A) m m1 := (Fx.rf.sI (Or.inr rfl)).sI (Or.inl (Or.inl rfl))
      have hf1 : ¬ f + 1 = f := by omega
      have hcm : CFb (qI m1) f cs (ns.length + 1) := by
        obtain ⟨c1, c2, c3, c4⟩ := hc
        refine ⟨?_, by simp [m1, qS], c3, fun i hi => ?_⟩
        · have e : ¬ f = A := fun z => hAf z.symm
          simp [m1, qS, e, c1]
        · have e : ¬ f + 1 = A := fun z => hAf1 z.symm
          simp only [m1, qS, hf1, e, ↓reduceIte]; exact c4 i hi
      have hNm : NmR (qI m1) A g (ns ++ [v]) := by
        intro j hj
        simp only [m1, qS, hAf, ↓reduceIte]
        rw [getD_snoc]
        by_cases ej : j = ns.length
        · rw [if_pos ej, if_pos ej]
        · rw [if_neg ej, if_neg ej]
          exact hN j (by simp at hj; omega)
      have hcs : nI ns.length = cS ns.length := (cS_n (by omega)).symm
      have hs1 : FmS (qK m1) (qN m1) (qR m1) f := hs
      have hpre : ∀ R, ((qChk m1 f 0 (fX0_addSign NF f (nI ns.length) m1)).bind fun b1 => some (b1.1 &&& 1, b1.2)) = R → ((qgI m f 0 2).bind fun x2 => if nI ns.length = x2 then (qgI m f 0 2).bind fun x3 => if x3 < (12 : Int32) then (qwI m A 12 (nI ns.length) (nI (g v))).bind fun m4 => (qgI m4 f 0 2).bind fun x5 => (qpI m4 f 0 2 (x5 + (1 : Int32))).bind fun m6 => (qChk m6 f 0 (fX0_addSign NF f (nI ns.length) m6)).bind fun b1 => some (b1.1 &&& 1, b1.2) else some ((0 : Int32), m) else (qChk m f 0 (fX0_addSign NF f (nI ns.length) m)).bind fun b1 => some (b1.1 &&& 1, b1.2)) = R := by
        intro R hR
        refine EgI hk0 hf2 ?_
        refine EIp rfl ?_
        refine EgI hk0 hf2 ?_
        refine EIp ((nI_ltI (b := 12) (by omega) (by omega)).mpr h12) ?_
        refine EwI hkA rfl (by omega) (by omega) rfl ?_
        refine EgI (v := nI ns.length) hk0 ?_ ?_
        · have e : ¬ f = A := fun z => hAf z.symm
          simp only [qS, e, ↓reduceIte]; exact hf2
        refine EpI hk0 (nI_s _) ?_
        exact hR
      rcases c_addSign hs1 hcm hcs with ⟨q1, m2, q2, q3, q4⟩ | ⟨q1, q2⟩
      · refine ⟨m2, 1, ?_, f1.tr (q3.mono (fun a h => Or.inl h)), Or.inl ⟨rfl, ⟨q1, by omega⟩, by rw [e3]; exact q4, ?_⟩⟩
        · apply hpre
          refine EC hk0 q2 ?_
          first | exact b1s _ | exact b0s _
        · rw [e2]
          intro j hj
          rw [q3.i (by unfold dF; omega)]
          exact hNm j hj
      · refine ⟨m1, 0, ?_, f1, Or.inr ⟨rfl, fun z => by have := z.1; omega⟩⟩
        apply hpre
        refine EC hk0 q2 ?_
        first | exact b1s _ | exact b0s _
    · refine ⟨m, 0, ?_, Fx.rf, Or.inr ⟨rfl, fun z => by have := z.2; omega⟩⟩
      refine EgI hk0 hf2 ?_
      refine EIp rfl ?_
      refine EgI hk0 hf2 ?_
      refine EIn (fun z => h12 ((nI_ltI (b := 12) (by omega) (by omega)).mp z)) ?_
      rfl
theorem nv_cT {t : Tm} (h : bel 99 t) (hs : tS t ≤ 99) : nv (cT t) = nv t := by
  have e := pol_cT h
  unfold nv
  rw [e, cn_idx]
  have hl := nm_len (pol t) []
  rw [pol_len] at hl
  simp only [List.length_nil, Nat.zero_add] at hl
  have hinj : ∀ a b, (a ∈ ([] : List Nat) ∨ a ∈ pol t) → (b ∈ ([] : List Nat) ∨ b ∈ pol t) → a ≠ 99 → b ≠ 99 → ixo (nm [] (pol t)) a = ixo (nm [] (pol t)) b → a = b := by
    intro a b ha hb na nb e
    have ma : a ∈ nm [] (pol t) := (nm_mem _ _ _).mpr (Or.inr ⟨ha.resolve_left (by simp), na⟩)
    have mb : b ∈ nm [] (pol t) := (nm_mem _ _ _).mpr (Or.inr ⟨hb.resolve_left (by simp), nb⟩)
    have g1 : (nm [] (pol t)).getD (ixo (nm [] (pol t)) a) 0 = a := by
      rw [List.getD_eq_getElem?_getD, List.getElem?_eq_getElem (ixo_in ma)]
      exact List.getElem_idxOf (ixo_in ma)
    have g2 : (nm [] (pol t)).getD (ixo (nm [] (pol t)) b) 0 = b := by
      rw [List.getD_eq_getElem?_getD, List.getElem?_eq_getElem (ixo_in mb)]
      exact List.getElem_idxOf (ixo_in mb)
    rw [← g1, ← g2, e]
  have h2 := (cn_map (f := ixo (nm [] (pol t))) (pol t) [] hinj (fun a ha => by simp at ha) (fun a ha na => by
    have ma : a ∈ nm [] (pol t) := (nm_mem _ _ _).mpr (Or.inr ⟨ha, na⟩)
    have := ixo_in ma
    omega)).2
  have e3 : nm [] ((pol t).map (fun c => if c = 99 then 99 else ixo (nm [] (pol t)) c)) = (nm [] (pol t)).map (ixo (nm [] (pol t))) := h2
  rw [e3, List.length_map]
end
