section
-- ===== axioms are added =====
theorem pE_chars {B lo hi : Nat} : ∀ (cs : List Nat) (due pos : Nat), pE B lo hi due pos cs = none → ∀ c, c ∈ cs → c = B ∨ (lo ≤ c ∧ c ≤ hi) := by
  intro cs
  induction cs with
  | nil => intro due pos _ c hc; simp at hc
  | cons a cs ih =>
    intro due pos h c hc
    unfold pE at h
    by_cases e : due = 0
    · rw [if_pos e] at h; cases h
    · rw [if_neg e] at h
      by_cases e2 : lo ≤ a ∧ a ≤ hi
      · rw [if_pos e2] at h
        rcases List.mem_cons.mp hc with rfl | hc
        · exact Or.inr e2
        · exact ih _ _ h c hc
      · rw [if_neg e2] at h
        by_cases e3 : a = B
        · rw [if_pos e3] at h
          rcases List.mem_cons.mp hc with rfl | hc
          · exact Or.inl e3
          · exact ih _ _ h c hc
        · rw [if_neg e3] at h; cases h
noncomputable def axA (s : ST) : Int32 := if tS (pT 67 97 (sTx s)) ≤ 39 ∧ nv (pT 67 97 (sTx s)) ≤ 12 then entA (sN s) (sFo s) (cT (pT 67 97 (sTx s))) else -5
noncomputable def axS (s : ST) : ST := if tS (pT 67 97 (sTx s)) ≤ 39 ∧ nv (pT 67 97 (sTx s)) ≤ 12 then wLs s (entN (sN s) (sFo s) (cT (pT 67 97 (sTx s)))) (setN (sFo s) (sN s) (cT (pT 67 97 (sTx s)))) (setN (sEn s) (sN s) none) else s
noncomputable def aAx (s : ST) : Int32 := match pE 67 97 122 1 0 (sTx s) with
  | some p => -100 - nI p
  | none => axA s
noncomputable def sAx (s : ST) : ST := match pE 67 97 122 1 0 (sTx s) with
  | some _ => wTx s []
  | none => wTx (axS s) []
theorem ok_tx {s : ST} (h : okS s) : okS (wTx s []) := ⟨h.1, fun c hc => by simp [wTx, sTx] at hc, h.2.2⟩
theorem ax_ok {s : ST} (h : okS s) (hp : pE 67 97 122 1 0 (sTx s) = none) : okS (axS s) := by
  obtain ⟨hpol, hb⟩ := pT_pol (B := 67) (lo := 97) (hi := 122) (by omega) (by omega) hp
  unfold axS
  by_cases e : tS (pT 67 97 (sTx s)) ≤ 39 ∧ nv (pT 67 97 (sTx s)) ≤ 12
  · rw [if_pos e]
    exact ⟨okL_ent h.1 (okF_cT (bel_mono hb (by omega)) e.1 e.2) (fun a b z => by cases z), h.2⟩
  · rw [if_neg e]; exact h
theorem ok_ax {s : ST} (h : okS s) : okS (sAx s) := by
  unfold sAx
  cases hp : pE 67 97 122 1 0 (sTx s) with
  | some p => exact ok_tx h
  | none => exact ok_tx (ax_ok h hp)
theorem CP_tx {m : qM} {s : ST} (h : CP m s) (hn : sN s ≤ 60) : CP (qsI m 1 1 0) (wTx s []) ∧ Fx (fun a => a = 1) m (qsI m 1 1 0) := by
  obtain ⟨h1, h2, h3, h4, h5, h6, h7⟩ := h
  have f : Fx (fun a => a = 1) m (qsI m 1 1 0) := Fx.rf.sI rfl
  exact ⟨⟨f.X h1, CTx_clear, by simp [wTx, sTx], CTx_of (f.i (by omega)) (f.i (by omega)) h4, CLs_of h5 hn (fun a _ _ => ⟨f.i (by omega), f.l (by omega)⟩), CMx_of h6 (f.i (by omega)) (f.i (by omega)), CRs_of h7 (fun a _ _ => f.i (by omega))⟩, f⟩
def dTe (a : Nat) : Prop := a = 429 ∨ a = 430 ∨ a = 431
theorem nm_codes {tx : List Nat} {k : Nat} (hc : ∀ c, c ∈ tx → c = 67 ∨ (97 ≤ c ∧ c ≤ 122)) : ∀ a, a ∈ nm [] ((tx.map (cd 67 97)).take k) → a < 26 := by
  intro a ha
  rcases (nm_mem _ _ _).mp ha with q | ⟨q1, q2⟩
  · simp at q
  · obtain ⟨c, hc1, rfl⟩ := List.mem_map.mp (List.mem_of_mem_take q1)
    unfold cd at q2 ⊢
    by_cases e : c = 67
    · rw [if_pos e] at q2; exact absurd rfl q2
    · rw [if_neg e]
      have := (hc c hc1).resolve_left e
      omega
theorem nm_le_full {cs : List Nat} {k : Nat} : (nm [] (cs.take k)).length ≤ (nm [] cs).length := by
  have e : nm [] cs = nm (nm [] (cs.take k)) (cs.drop k) := by rw [← nm_app, List.take_append_drop]
  obtain ⟨zs, hz⟩ := nm_pre (cs.drop k) (nm [] (cs.take k))
  rw [e, hz, List.length_append]
  omega
theorem c_enterText {m : qM} {s : ST} (h : CP m s) (hs : okS s) (hp : pE 67 97 122 1 0 (sTx s) = none) : ∃ m2, fX9_enterText NF 0 m = some (axA s, m2) ∧ CP m2 (axS s) ∧ Gc m m2 := by
  have hP := h
  obtain ⟨hX, hT, hT80, -, -, -⟩ := h
  have hn := hs.1.1
  obtain ⟨k0, r00, r01, r02, r03, r04, r05, r06, r07, r08, r09, r010, r011, r012⟩ := hX.c0
  have k1 := hX.t1.1
  have hch := pE_chars _ _ _ hp
  obtain ⟨hpol, hbel⟩ := pT_pol (B := 67) (lo := 97) (hi := 122) (by omega) (by omega) hp
  obtain ⟨k431, n431, -⟩ := hX.r31
  generalize htx : sTx s = tx at *
  generalize ht : pT 67 97 tx = t at *
  have hcl : (tx.map (cd 67 97)).length = tx.length := List.length_map ..
  have htS : tS t = tx.length := by rw [← pol_len, hpol, hcl]
  have hnv : nv t = (nm [] (tx.map (cd 67 97))).length := by unfold nv; rw [hpol]
  obtain ⟨m1, p1, p2, p3⟩ := c_empty hX.f429
  have f1 : Fx dTe m m1 := p2.mono (fun a ha => by unfold dF at ha; unfold dTe; omega)
  obtain ⟨b, e1, e2⟩ := walk (l := fun g (x : Int32 × qM) => lX9_enterText_9 NF 0 g x.1 x.2) (J := fun r x => ∃ k m', k + r = tx.length ∧ x = (nI k, m') ∧ Fx dTe m m' ∧ CFb (qI m') 429 (cn [] ((tx.map (cd 67 97)).take k)) (nm [] ((tx.map (cd 67 97)).take k)).length ∧ (nm [] ((tx.map (cd 67 97)).take k)).length ≤ 12 ∧ NmR (qI m') 431 (fun v => v + 97) (nm [] ((tx.map (cd 67 97)).take k))) (Q := fun b => (tS t ≤ 39 ∧ nv t ≤ 12 ∧ ∃ m', b = .inl m' ∧ Fx dTe m m' ∧ CFb (qI m') 429 (cn [] (pol t)) (nv t)) ∨ (¬ (tS t ≤ 39 ∧ nv t ≤ 12) ∧ ∃ m', b = .inr (-5, m') ∧ Fx dTe m m')) (fun g r x hj => by
    obtain ⟨k, m', hk, rfl, hF, hC, h12, hN⟩ := hj
    have hX' := hF.X hX
    have K0 : qK m' 0 = 9 := hX'.c0.1
    have R00 : qR m' 0 0 = some 1 := by rw [hF.2.2.1]; exact r00
    have R010 : qR m' 0 10 = some 429 := by rw [hF.2.2.1]; exact r010
    have R011 : qR m' 0 11 = some 431 := by rw [hF.2.2.1]; exact r011
    have K1 : qK m' 1 = 7 := hX'.t1.1
    have K429 : qK m' 429 = 0 := hX'.f429.1
    have hT' : CTx (qI m') 1 tx := CTx_of (hF.i (by unfold dTe; omega)) (hF.i (by unfold dTe; omega)) hT
    have hlen : fX7_length NF 1 m' = some (nI tx.length, m') := by rw [fX7_length_eq K1, hT'.1]
    have hat := fX7_at_eq (N := NF) hX'.t1 hT' (show k < tx.length by omega)
    have hmem : tx.getD k 0 ∈ tx := mem_getD (by omega)
    have htk : (tx.map (cd 67 97)).take (k + 1) = (tx.map (cd 67 97)).take k ++ [cd 67 97 (tx.getD k 0)] := by
      rw [take_snoc (by omega), getD_map (by omega)]
    have hcnl : (cn [] ((tx.map (cd 67 97)).take k)).length = k := by rw [cn_len, List.length_take]; omega
    obtain ⟨m2, rr, q1, q2, q3⟩ := c_addLetter (A := 431) (c := tx.getD k 0) hX'.f429 (by omega) (by omega) hX'.r31.1 hX'.r31.2.1 hC h12 hN (fun a ha => by have := nm_codes hch a ha; omega) (hch _ hmem)
    have f2 : Fx dTe m m2 := hF.tr (q2.mono (fun a ha => by unfold dFA dF at ha; unfold dTe; omega))
    have hpre : ∀ R, (if rr = 0 then some (.inr ((-5 : Int32), m2)) else lX9_enterText_9 NF 0 g (nI (k + 1)) m2) = R → lX9_enterText_9 NF 0 (g + 1) (nI k) m' = R := by
      intro R hR
      unfold lX9_enterText_9
      refine EgR K0 R00 ?_
      refine EC K1 hlen ?_
      refine EIn (fun z => by have := (nI_leI (by omega) (by omega)).mp z; omega) ?_
      refine EgR K0 R010 ?_
      refine EgR K0 R00 ?_
      refine EC K1 hat ?_
      refine EgR K0 R011 ?_
      refine EC K429 q1 ?_
      rw [nI_s]
      exact hR
    rcases q3 with ⟨rfl, w1, w2, w3⟩ | ⟨rfl, w1⟩
    · left
      refine ⟨(nI (k + 1), m2), ⟨k + 1, m2, by omega, rfl, f2, ?_⟩, hpre _ (if_neg i10)⟩
      rw [htk, cn_app, nm_app]
      exact ⟨w2, w1.2, w3⟩
    · right
      refine ⟨.inr (-5, m2), hpre _ (if_pos rfl), Or.inr ⟨fun z => w1 ⟨?_, ?_⟩, m2, rfl, f2⟩⟩
      · rw [hcnl]; omega
      · rw [← nm_app, ← htk]
        have := nm_le_full (cs := tx.map (cd 67 97)) (k := k + 1)
        omega) (fun g x hj => by
    obtain ⟨k, m', hk, rfl, hF, hC, h12, hN⟩ := hj
    obtain rfl : k = tx.length := by omega
    have hX' := hF.X hX
    have K0 : qK m' 0 = 9 := hX'.c0.1
    have R00 : qR m' 0 0 = some 1 := by rw [hF.2.2.1]; exact r00
    have K1 : qK m' 1 = 7 := hX'.t1.1
    have hT' : CTx (qI m') 1 tx := CTx_of (hF.i (by unfold dTe; omega)) (hF.i (by unfold dTe; omega)) hT
    have hlen : fX7_length NF 1 m' = some (nI tx.length, m') := by rw [fX7_length_eq K1, hT'.1]
    rw [List.take_of_length_le (by omega)] at hC h12
    refine ⟨.inl m', ?_, Or.inl ⟨?_, by omega, m', rfl, hF, ?_⟩⟩
    · show lX9_enterText_9 NF 0 (g + 1) (nI tx.length) m' = _
      unfold lX9_enterText_9
      refine EgR K0 R00 ?_
      refine EC K1 hlen ?_
      refine EIp ((nI_leI (by omega) (by omega)).mpr (Nat.le_refl _)) ?_
      rfl
    · have := hC.2.2.1
      rw [cn_len] at this
      omega
    · rw [hpol, hnv]; exact hC) tx.length NF (nI 0, m1) (by unfold NF; omega) ⟨0, m1, by omega, rfl, f1, by rw [List.take_zero]; exact p3, by simp [nm], fun j hj => by simp [nm] at hj⟩
  have hpre : ∀ R, qTh (some b) (fun o3 => (qgR o3 0 9 2).bind fun x4 => (qgR o3 0 9 10).bind fun x5 => (qChk o3 x4 1 (fX1_enter NF x4 x5 (-4 : Int32) (-4 : Int32) o3)).bind fun b6 => some (b6.1, b6.2)) (fun r => r) = R → fX9_enterText NF 0 m = R := by
    intro R hR
    unfold fX9_enterText
    refine EgR k0 r010 ?_
    refine EC hX.f429.1 p1 ?_
    rw [show lX9_enterText_9 NF 0 NF 0 m1 = some b from e1]
    exact hR
  unfold axA axS
  rw [htx, ht]
  rcases e2 with ⟨h1, h2, m', rfl, hF, hC⟩ | ⟨h1, m', rfl, hF⟩
  · rw [if_pos ⟨h1, h2⟩, if_pos ⟨h1, h2⟩]
    have hP' : CP m' s := CP_fx hP hn hF (fun a ha => by unfold dTe at ha; omega)
    have hX' := hP'.1
    have hb99 : bel 99 t := bel_mono hbel (by omega)
    have hCm : CFm (qI m') 429 (cT t) := by
      obtain ⟨z1, z2, z3, z4⟩ := hC
      rw [cn_len, pol_len] at z1 z3 z4
      exact ⟨by rw [tS_cT]; exact z1, by rw [nv_cT hb99 (by omega)]; exact z2, by rw [tS_cT]; exact z3, fun i hi => by rw [pol_cT hb99]; exact z4 i (by rw [tS_cT] at hi; exact hi)⟩
    have hF2 := okF_cT hb99 h1 h2
    obtain ⟨m2, w1, w2, w3⟩ := c_enter (e := none) hX' hP'.2.2.2.2.1 hs.1 hX'.f429 (by omega) hCm (bel_mono hF2.1 (by omega)) (fun a b z => by cases z)
    refine ⟨m2, hpre _ ?_, CP_ent hP' w2 w3, (hF.mono (fun a ha => by unfold dTe at ha; omega)).tr (w2.mono (fun a ha => by unfold dLi at ha; omega))⟩
    show (qgR m' 0 9 2).bind _ = _
    refine EgR hX'.c0.1 (show qR m' 0 2 = some 5 by rw [hF.2.2.1]; exact r02) ?_
    refine EgR hX'.c0.1 (show qR m' 0 10 = some 429 by rw [hF.2.2.1]; exact r010) ?_
    refine EC hX'.ls.1 w1 ?_
    rfl
  · rw [if_neg h1, if_neg h1]
    exact ⟨m', hpre _ rfl, CP_fx hP hn hF (fun a ha => by unfold dTe at ha; omega), hF.mono (fun a ha => by unfold dTe at ha; omega)⟩
theorem c_addAxiom {m : qM} {s : ST} (h : CP m s) (hs : okS s) : ∃ m2, fX9_addAxiom NF 0 m = some (aAx s, m2) ∧ CP m2 (sAx s) ∧ Gc m m2 := by
  have hX := h.1
  have hn := hs.1.1
  obtain ⟨k0, r00, -⟩ := hX.c0
  have hpo := c_polish (B := 67) (lo := 97) (hi := 122) hX h.2.1 h.2.2.1 (by omega) (by omega) (by omega) (by omega)
  have hpo' : fX9_polishError NF 0 67 97 122 m = some (erI (pE 67 97 122 1 0 (sTx s)), m) := hpo
  unfold fX9_addAxiom aAx sAx
  cases hp : pE 67 97 122 1 0 (sTx s) with
  | some p =>
    rw [hp] at hpo'
    obtain ⟨w1, w2⟩ := CP_tx h hn
    have hpl := (pE_len _ _ _ _ hp).2
    have h80 := h.2.2.1
    refine ⟨qsI m 1 1 0, ?_, w1, w2.mono (fun a ha => by omega)⟩
    refine EC k0 hpo' ?_
    refine EIn (show ¬ nI p = -1 from nI_ng (by omega)) ?_
    unfold kX9_addAxiom_27
    refine EgR k0 r00 ?_
    refine EC hX.t1.1 (fX7_makeEmpty_eq hX.t1.1) ?_
    rfl
  | none =>
    rw [hp] at hpo'
    obtain ⟨m1, p1, p2, p3⟩ := c_enterText h hs hp
    obtain ⟨w1, w2⟩ := CP_tx p2 (ax_ok hs hp).1.1
    have hX1 := p2.1
    refine ⟨qsI m1 1 1 0, ?_, w1, p3.tr (w2.mono (fun a ha => by omega))⟩
    refine EC k0 hpo' ?_
    refine EIp rfl ?_
    refine EC k0 p1 ?_
    unfold kX9_addAxiom_27
    refine EgR hX1.c0.1 hX1.c0.2.1 ?_
    refine EC hX1.t1.1 (fX7_makeEmpty_eq hX1.t1.1) ?_
    rfl
end
