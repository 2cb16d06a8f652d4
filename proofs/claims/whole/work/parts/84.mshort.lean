section
-- ===== shortest of the reference =====
theorem MS.lv {K N : Nat → Nat} {R : Nat → Nat → Option Nat} (h : MS K N R) : K 433 = 10 ∧ R 433 4 = some 438 ∧ K 438 = 12 ∧ N 438 = 121 := by
  obtain ⟨⟨k433, r0, r1, r2, r3, r4, -⟩, ⟨k434, k435, k436, k437, k438, -⟩, ⟨n434, n435, n436, n437, n438, -⟩⟩ := h
  exact ⟨k433, r4, k438, n438⟩
def MLv (m : qM) (s : ST) (P : PL) : Prop := MP m s ∧ ∀ z, z < P.1 → SlT (qI m) (60 + z) (P.2.1 z) ∧ qI m 438 z = nI (P.2.2 z)
theorem MLv_fx {D : Nat → Prop} {m m2 : qM} {s : ST} {P : PL} (h : MLv m s P) (f : Fx D m m2) (hD : ∀ a, D a → a = 433 ∨ 446 ≤ a) (h5 : qI m2 433 5 = qI m 433 5) (h7 : qI m2 433 7 = qI m 433 7) (h11 : qI m2 433 11 = qI m 433 11) (h13 : qI m2 433 13 = qI m 433 13) : MLv m2 s P := by
  have e : ∀ a, 433 < a → a < 446 → qI m2 a = qI m a := fun a h1 h2 => f.i (fun z => by have := hD a z; omega)
  refine ⟨MP_fx h.1 f (fun a ha => by have := hD a ha; omega) h5 h7 h11 h13, fun z hz => ⟨SlT_of (h.2 z hz).1 (e 434 (by omega) (by omega)) (e 435 (by omega) (by omega)), ?_⟩⟩
  rw [e 438 (by omega) (by omega)]
  exact (h.2 z hz).2
theorem MLv_452 {m m2 : qM} {s : ST} {P : PL} (h : MLv m s P) (f : Fx (fun a => a = 452) m m2) : MLv m2 s P := MLv_fx h f (fun a ha => by omega) (by rw [f.i (by omega)]) (by rw [f.i (by omega)]) (by rw [f.i (by omega)]) (by rw [f.i (by omega)])
theorem n60 (x : Nat) : (60 : Int32) + nI x = nI (60 + x) := nI_add 60 x
theorem m_detP {m : qM} {s : ST} {P : PL} {x y : Nat} (h : MLv m s P) (hP : okQ P) (hx : x < P.1) (hy : y < P.1) : ∃ m1, fX10_detaches_ NF 433 ((60 : Int32) + nI x) ((60 : Int32) + nI y) m = some (rc (dU (P.2.1 x) (P.2.1 y)), m1) ∧ MLv m1 s P ∧ Gm m m1 ∧ (rc (dU (P.2.1 x) (P.2.1 y)) = 0 → One (qI m1) (rt (dU (P.2.1 x) (P.2.1 y)))) := by
  have h120 := hP.1
  obtain ⟨k433, r0, r1, r2, r3, k434, k435, k436, k437, n434, n435, n436, n437⟩ := h.1.1.a
  obtain ⟨b1, s1, -⟩ := hP.2 x hx
  obtain ⟨b2, s2, -⟩ := hP.2 y hy
  obtain ⟨m1, p1, p2, p3, p4⟩ := m_detaches (A := 434) (B := 434) (w := 39 * (60 + x)) (u := 39 * (60 + y)) h.1.1 (Or.inl rfl) (Or.inl rfl) (by omega) (by omega) (bel_mono b1 (by omega)) (bel_mono b2 (by omega)) s1 s2 (h.2 x hx).1.2 (h.2 y hy).1.2
  refine ⟨m1, ?_, MLv_fx h p2 (fun a ha => by unfold dDt at ha; omega) (p3 5 (by simp [kp])) (p3 7 (by simp [kp])) (p3 11 (by simp [kp])) (p3 13 (by simp [kp])), p2.mono (fun a ha => by unfold dDt at ha; omega), fun e => p4 (rc_ok.mp e)⟩
  unfold fX10_detaches_
  rw [n60, n60]
  refine EgR k433 r0 ?_
  refine EgR k433 r0 ?_
  rw [ix39', ix39']
  refine EC k433 p1 ?_
  rfl
theorem m_addP {m : qM} {s : ST} {P : PL} {k : Nat} {t : Tm} (h : MLv m s P) (hs : okS s) (hP : okQ P) (hl : P.1 < 120) (ho : One (qI m) t) (ht : okF t) : ∃ m1, fX10_puts NF 433 ((60 : Int32) + nI P.1) m = some m1 ∧ MLv (qsI m1 438 P.1 (nI k)) s (plAdd k P t) ∧ Gm m m1 ∧ qK m1 433 = 10 := by
  have hn := hs.1.1
  obtain ⟨m1, p1, p2, p3, p4, p5⟩ := m_puts (i := 60 + P.1) h.1.1 (by omega) ho ht.2.1
  have hP1 : MP m1 s := MP_puts h.1 hs p2 (by omega) p4 p5
  have f2 : Fx (fun a => a = 438) m1 (qsI m1 438 P.1 (nI k)) := Fx.rf.sI rfl
  have hP2 : MP (qsI m1 438 P.1 (nI k)) s := MP_fx hP1 f2 (fun a ha => by omega) (by rw [f2.i (by omega)]) (by rw [f2.i (by omega)]) (by rw [f2.i (by omega)]) (by rw [f2.i (by omega)])
  refine ⟨m1, by rw [n60]; exact p1, ⟨hP2, fun z hz => ?_⟩, p2.mono (fun a ha => by unfold dPu at ha; omega), by rw [p2.1]; exact h.1.1.a.1⟩
  have hz' : z < P.1 + 1 := hz
  show SlT (qI (qsI m1 438 P.1 (nI k))) (60 + z) (setN P.2.1 P.1 t z) ∧ qI (qsI m1 438 P.1 (nI k)) 438 z = nI (setN P.2.2 P.1 k z)
  by_cases e : z = P.1
  · subst e
    rw [setN_eq, setN_eq]
    exact ⟨SlT_of p3 (f2.i (by omega)) (f2.i (by omega)), by simp [qS]⟩
  · rw [setN_ne e, setN_ne e]
    obtain ⟨⟨s1, s2⟩, s3⟩ := h.2 z (by omega)
    have h39 := (hP.2 z (by omega)).2.1
    refine ⟨SlT_of (I := qI m1) ⟨by rw [p4 _ (by omega)]; exact s1, fun i hi => by rw [p5 _ (by omega)]; exact s2 i hi⟩ (f2.i (by omega)) (f2.i (by omega)), ?_⟩
    simp only [qS]
    rw [if_pos trivial, if_neg e, p2.i (by simp [dPu])]
    exact s3
theorem fstF_shift {p : Nat → Bool} {c : Nat} : ∀ (n k : Nat), fstF (fun i => p (i - c)) n (c + k) = c + fstF p n k := by
  intro n
  induction n with
  | zero => intro k; rfl
  | succ n ih =>
    intro k
    rw [fstF_s, fstF_s, show c + k - c = k by omega]
    by_cases e : p k = true
    · rw [if_pos e, if_pos e]
    · rw [if_neg e, if_neg e]; exact ih (k + 1)
theorem m_knownP {m : qM} {s : ST} {P : PL} {t : Tm} (h : MLv m s P) (hP : okQ P) (ho : One (qI m) t) (ht : okF t) : ∃ v, fX10_place NF 433 (60 : Int32) ((60 : Int32) + nI P.1) m = some (v, m) ∧ (known P t = true → ¬ v < 0) ∧ (known P t = false → v < 0) := by
  have h120 := hP.1
  have h39 := ht.2.1
  have e := m_place (lo := 60) (n := P.1) (g := fun i => P.2.1 (i - 60)) h.1.1 (by omega) (fun i h1 h2 => by
    have := h.2 (i - 60) (by omega)
    rw [show 60 + (i - 60) = i by omega] at this
    exact ⟨this.1, bel_mono (hP.2 (i - 60) (by omega)).1 (by omega), (hP.2 (i - 60) (by omega)).2.1⟩) ho (bel_mono ht.1 (by omega)) (by omega)
  have e2 := fstF_shift (p := fun i => sameT (P.2.1 i) t) (c := 60) P.1 0
  have e3 : fstF (fun i => sameT ((fun i => P.2.1 (i - 60)) i) t) P.1 60 = 60 + fstF (fun i => sameT (P.2.1 i) t) P.1 0 := e2
  rw [e3] at e
  refine ⟨_, by rw [n60]; exact e, fun hk => ?_, fun hk => ?_⟩
  · unfold known at hk
    have := of_decide_eq_true hk
    rw [if_pos (by omega)]
    exact nI_pos (by omega)
  · unfold known at hk
    have := of_decide_eq_false hk
    rw [if_neg (by omega)]
    decide
def RsM (s : ST) (k : Nat) (P : PL) (m : qM) (T : Option PL) (r : (Int32 × qM) ⊕ (Int32 × qM)) : Prop := (∃ P2 m2, T = some P2 ∧ r = .inl (nI P2.1, m2) ∧ MLv m2 s P2 ∧ okQ P2 ∧ exP k P P2 ∧ Gm m m2) ∨ ∃ m2, T = none ∧ r = .inr (-5, m2) ∧ MP m2 s ∧ Gm m m2
theorem m_shIn {s : ST} {v1 v2 : Int32} {k was x : Nat} {P0 : PL} (hs : okS s) (hk : 1 ≤ k) (hk4 : k ≤ 4) (hw : was ≤ P0.1) (hx : x < was) (hlv : ∀ z, z < P0.1 → P0.2.2 z < k) {m : qM} {P : PL} (h : MLv m s P) (hP : okQ P) (hE : exP k P0 P) : ∃ r, lX10_shortest_152 NF 433 v1 v2 (nI k) (nI was) (nI x) NF (nI P.1) 0 m = some r ∧ RsM s k P0 m (inG k (fLv k P0.2.2) x was 0 P) r := by
  obtain ⟨r, e1, e2⟩ := walk (l := fun g (z : Int32 × Int32 × qM) => lX10_shortest_152 NF 433 v1 v2 (nI k) (nI was) (nI x) g z.1 z.2.1 z.2.2) (J := fun r z => ∃ y m' P', y + r = was ∧ z = (nI P'.1, nI y, m') ∧ MLv m' s P' ∧ okQ P' ∧ exP k P0 P' ∧ Gm m m' ∧ inG k (fLv k P0.2.2) x r y P' = inG k (fLv k P0.2.2) x was 0 P) (Q := fun r => RsM s k P0 m (inG k (fLv k P0.2.2) x was 0 P) r) (fun g r z hj2 => by
    obtain ⟨y, m', P', hy, rfl, hL, hP', hE', hF, hT⟩ := hj2
    have h120 := hP'.1
    have hPP := hE'.1
    obtain ⟨K433, R4, K438, N438⟩ := hL.1.1.lv
    have lx : qI m' 438 x = nI (P0.2.2 x) := by rw [(hL.2 x (by omega)).2, (hE'.2.1 x (by omega)).2]
    have ly : qI m' 438 y = nI (P0.2.2 y) := by rw [(hL.2 y (by omega)).2, (hE'.2.1 y (by omega)).2]
    have bx := hlv x (by omega)
    have bY := hlv y (by omega)
    obtain ⟨m1, p1, p2, p3, p4⟩ := m_detP (x := x) (y := y) hL hP' (by omega) (by omega)
    obtain ⟨K1, R41, K4381, N4381⟩ := p2.1.1.lv
    have hcond : (nI (P0.2.2 x) + nI (P0.2.2 y) = nI k - (1 : Int32)) ↔ fLv k P0.2.2 x y = true := by
      rw [nI_add, nI_m1 hk, nI_eq (by omega) (by omega)]
      unfold fLv
      rw [decide_eq_true_iff]
      omega
    have hpre : ∀ R, (if nI (P0.2.2 x) + nI (P0.2.2 y) = nI k - (1 : Int32) then (if rc (dU (P'.2.1 x) (P'.2.1 y)) < 0 then lX10_shortest_152 NF 433 v1 v2 (nI k) (nI was) (nI x) g (nI P'.1) (nI (y + 1)) m1 else (qChk m1 433 10 (fX10_place NF 433 (60 : Int32) ((60 : Int32) + nI P'.1) m1)).bind fun b6 => if b6.1 < 0 then if nI P'.1 = (120 : Int32) then some (.inr ((-5 : Int32), b6.2)) else (qChk b6.2 433 10 (fX10_puts NF 433 ((60 : Int32) + nI P'.1) b6.2)).bind fun b7 => (qgR b7 433 10 4).bind fun x8 => (qwI b7 x8 12 (nI P'.1) (nI k)).bind fun m9 => lX10_shortest_152 NF 433 v1 v2 (nI k) (nI was) (nI x) g (nI (P'.1 + 1)) (nI (y + 1)) m9 else lX10_shortest_152 NF 433 v1 v2 (nI k) (nI was) (nI x) g (nI P'.1) (nI (y + 1)) b6.2) else lX10_shortest_152 NF 433 v1 v2 (nI k) (nI was) (nI x) g (nI P'.1) (nI (y + 1)) m') = R → lX10_shortest_152 NF 433 v1 v2 (nI k) (nI was) (nI x) (g + 1) (nI P'.1) (nI y) m' = R := by
      intro R hR
      conv => lhs; unfold lX10_shortest_152 kX10_shortest_242
      refine EIn (fun z => by have := (nI_leI (by omega) (by omega)).mp z; omega) ?_
      refine EgR K433 R4 ?_
      refine EaI K438 rfl (show x < qN m' 438 by omega) (by omega) lx ?_
      refine EgR K433 R4 ?_
      refine EaI K438 rfl (show y < qN m' 438 by omega) (by omega) ly ?_
      by_cases e : nI (P0.2.2 x) + nI (P0.2.2 y) = nI k - (1 : Int32)
      · rw [if_pos e] at hR
        refine EIp e ?_
        refine EC K433 p1 ?_
        rw [nI_s, nI_s]
        exact hR
      · rw [if_neg e] at hR
        refine EIn e ?_
        rw [nI_s]
        exact hR
    rw [inG_s] at hT
    by_cases e0 : fLv k P0.2.2 x y = true
    · rw [if_pos e0] at hT
      unfold stp at hT
      by_cases e : rc (dU (P'.2.1 x) (P'.2.1 y)) = 0
      · rw [if_pos e] at hT
        have hFt := rt_okP hP' (by omega) (by omega) e
        have hng : ¬ rc (dU (P'.2.1 x) (P'.2.1 y)) < 0 := by rw [e]; decide
        obtain ⟨v, w1, w2, w3⟩ := m_knownP p2 hP' (p4 e) hFt
        by_cases e2 : known P' (rt (dU (P'.2.1 x) (P'.2.1 y))) = true
        · rw [if_pos e2, Option.bind_some] at hT
          refine Or.inl ⟨(nI P'.1, nI (y + 1), m1), ⟨y + 1, m1, P', by omega, rfl, p2, hP', hE', hF.tr p3, hT⟩, hpre _ ?_⟩
          refine EIp (hcond.mpr e0) ?_
          refine EIn hng ?_
          refine EC K1 w1 ?_
          refine EIn (w2 e2) ?_
          rfl
        · have e2' : known P' (rt (dU (P'.2.1 x) (P'.2.1 y))) = false := by simpa using e2
          rw [if_neg e2] at hT
          by_cases e3 : P'.1 = 120
          · rw [if_pos e3, Option.bind_none] at hT
            refine Or.inr ⟨.inr (-5, m1), hpre _ ?_, Or.inr ⟨m1, hT.symm, rfl, p2.1, hF.tr p3⟩⟩
            refine EIp (hcond.mpr e0) ?_
            refine EIn hng ?_
            refine EC K1 w1 ?_
            refine EIp (w3 e2') ?_
            refine EIp (by rw [e3]; rfl) ?_
            rfl
          · rw [if_neg e3, Option.bind_some] at hT
            obtain ⟨o1, o2⟩ := plAdd_ok (k := k) hP' (by omega) hFt
            obtain ⟨m2, q1, q2, q3, q4⟩ := m_addP (k := k) p2 hs hP' (by omega) (p4 e) hFt
            have f9 : Gm m2 (qsI m2 438 P'.1 (nI k)) := Fx.rf.sI (show 433 ≤ 438 by omega)
            obtain ⟨K2, R42, K4382, N4382⟩ := q2.1.1.lv
            refine Or.inl ⟨(nI (P'.1 + 1), nI (y + 1), qsI m2 438 P'.1 (nI k)), ⟨y + 1, _, plAdd k P' _, by omega, rfl, q2, o1, hE'.tr o2, ((hF.tr p3).tr q3).tr f9, hT⟩, hpre _ ?_⟩
            refine EIp (hcond.mpr e0) ?_
            refine EIn hng ?_
            refine EC K1 w1 ?_
            refine EIp (w3 e2') ?_
            refine EIn (fun z => e3 ((nI_eq (b := 120) (by omega) (by omega)).mp z)) ?_
            refine EC K1 q1 ?_
            refine EgR K2 R42 ?_
            refine EwI K4382 rfl (show P'.1 < qN (qsI m2 438 P'.1 (nI k)) 438 by omega) (by omega) rfl ?_
            rfl
      · rw [if_neg e, Option.bind_some] at hT
        refine Or.inl ⟨(nI P'.1, nI (y + 1), m1), ⟨y + 1, m1, P', by omega, rfl, p2, hP', hE', hF.tr p3, hT⟩, hpre _ ?_⟩
        refine EIp (hcond.mpr e0) ?_
        refine EIp (rc_neg e) ?_
        rfl
    · rw [if_neg e0] at hT
      exact Or.inl ⟨(nI P'.1, nI (y + 1), m'), ⟨y + 1, m', P', by omega, rfl, hL, hP', hE', hF, hT⟩, hpre _ (if_neg (fun z => e0 (hcond.mp z)))⟩) (fun g z hj2 => by
    obtain ⟨y, m', P', hy, rfl, hL, hP', hE', hF, hT⟩ := hj2
    have h120 := hP'.1
    have hPP := hE'.1
    obtain rfl : y = was := by omega
    refine ⟨.inl (nI P'.1, m'), ?_, Or.inl ⟨P', m', hT.symm, rfl, hL, hP', hE', hF⟩⟩
    show lX10_shortest_152 NF 433 v1 v2 (nI k) (nI y) (nI x) (g + 1) (nI P'.1) (nI y) m' = _
    unfold lX10_shortest_152
    refine EIp ((nI_leI (by omega) (by omega)).mpr (Nat.le_refl _)) ?_
    rfl) was NF (nI P.1, nI 0, m) (by have := hP.1; have := hE.1; unfold NF; omega) ⟨0, m, P, by omega, rfl, h, hP, hE, Fx.rf, rfl⟩
  exact ⟨r, e1, e2⟩
theorem m_shOut {s : ST} {v1 v2 : Int32} {k : Nat} {P : PL} (hs : okS s) (hk4 : k ≤ 4) (hlv : k ≠ 0 → ∀ z, z < P.1 → P.2.2 z < k) {m : qM} (h : MLv m s P) (hP : okQ P) : ∃ r, lX10_shortest_137 NF 433 v1 v2 (nI k) (nI P.1) NF (nI P.1) 0 m = some r ∧ RsM s k P m (lvR k P) r := by
  have h120 := hP.1
  by_cases hk0 : k = 0
  · refine ⟨.inl (nI P.1, m), ?_, Or.inl ⟨P, m, by rw [hk0]; exact lvR0, rfl, h, hP, exP.rf, Fx.rf⟩⟩
    show lX10_shortest_137 NF 433 v1 v2 (nI k) (nI P.1) (6999 + 1) (nI P.1) 0 m = _
    unfold lX10_shortest_137
    by_cases e : nI P.1 ≤ 0
    · refine EIp e ?_
      rfl
    · refine EIn e ?_
      refine EIp (by rw [hk0]; decide) ?_
      rfl
  have hl : lvR k P = ouG k (fLv k P.2.2) P.1 P.1 0 P := if_neg hk0
  rw [hl]
  obtain ⟨r, e1, e2⟩ := walk (l := fun g (z : Int32 × Int32 × qM) => lX10_shortest_137 NF 433 v1 v2 (nI k) (nI P.1) g z.1 z.2.1 z.2.2) (J := fun r z => ∃ x m' P', x + r = P.1 ∧ z = (nI P'.1, nI x, m') ∧ MLv m' s P' ∧ okQ P' ∧ exP k P P' ∧ Gm m m' ∧ ouG k (fLv k P.2.2) P.1 r x P' = ouG k (fLv k P.2.2) P.1 P.1 0 P) (Q := fun r => RsM s k P m (ouG k (fLv k P.2.2) P.1 P.1 0 P) r) (fun g r z hj2 => by
    obtain ⟨x, m', P', hx, rfl, hL, hP', hE', hF, hT⟩ := hj2
    obtain ⟨q, q1, q2⟩ := m_shIn (v1 := v1) (v2 := v2) (k := k) (was := P.1) (x := x) (P0 := P) hs (by omega) hk4 (Nat.le_refl _) (by omega) (hlv hk0) hL hP' hE'
    have hpre : ∀ R, (qTh (some q) (fun o1 => lX10_shortest_137 NF 433 v1 v2 (nI k) (nI P.1) g o1.1 (nI (x + 1)) o1.2) (fun r => .inr r)) = R → lX10_shortest_137 NF 433 v1 v2 (nI k) (nI P.1) (g + 1) (nI P'.1) (nI x) m' = R := by
      intro R hR
      conv => lhs; unfold lX10_shortest_137
      refine EIn (fun z => by have := (nI_leI (by omega) (by omega)).mp z; omega) ?_
      refine EIn (fun z => by have := (nI_leI (b := 0) (by omega) (by omega)).mp z; omega) ?_
      rw [show lX10_shortest_152 NF 433 v1 v2 (nI k) (nI P.1) (nI x) NF (nI P'.1) (0 : Int32) m' = some q from q1, nI_s]
      exact hR
    rw [ouG_s] at hT
    rcases q2 with ⟨P2, m2, t1, rfl, t3, t4, t5, t6⟩ | ⟨m2, t1, rfl, t3, t4⟩
    · rw [t1, Option.bind_some] at hT
      exact Or.inl ⟨(nI P2.1, nI (x + 1), m2), ⟨x + 1, m2, P2, by omega, rfl, t3, t4, t5, hF.tr t6, hT⟩, hpre _ rfl⟩
    · rw [t1, Option.bind_none] at hT
      exact Or.inr ⟨.inr (-5, m2), hpre _ rfl, Or.inr ⟨m2, hT.symm, rfl, t3, hF.tr t4⟩⟩) (fun g z hj2 => by
    obtain ⟨x, m', P', hx, rfl, hL, hP', hE', hF, hT⟩ := hj2
    obtain rfl : x = P.1 := by omega
    refine ⟨.inl (nI P'.1, m'), ?_, Or.inl ⟨P', m', hT.symm, rfl, hL, hP', hE', hF⟩⟩
    show lX10_shortest_137 NF 433 v1 v2 (nI k) (nI P.1) (g + 1) (nI P'.1) (nI P.1) m' = _
    unfold lX10_shortest_137
    refine EIp ((nI_leI (by omega) (by omega)).mpr (Nat.le_refl _)) ?_
    rfl) P.1 NF (nI P.1, nI 0, m) (by unfold NF; omega) ⟨0, m, P, by omega, rfl, h, hP, exP.rf, Fx.rf, rfl⟩
  exact ⟨r, e1, e2⟩
theorem m_cov2 {s : ST} {v2 : Int32} {k j : Nat} (hs : okS s) (hj : j < sN s) (hk : k < 5) {m : qM} {P : PL} (h : MLv m s P) (hP : okQ P) (hl : ∀ z, z < P.1 → P.2.2 z < 5) : ∃ m2, lX10_shortest_257 NF 433 (nI j) v2 (nI P.1) (nI k) NF 0 m = some (if covK P k (sFo s j) = true then .inr (nI k, m2) else .inl m2) ∧ MLv m2 s P ∧ Gm m m2 := by
  have hn := hs.1.1
  have h120 := hP.1
  have hφ := hs.1.2.2 j hj
  obtain ⟨r, e1, m2, e2, e3, e4⟩ := walk (l := fun g (z : Int32 × qM) => lX10_shortest_257 NF 433 (nI j) v2 (nI P.1) (nI k) g z.1 z.2) (J := fun r z => ∃ y m', y + r = P.1 ∧ z = (nI y, m') ∧ MLv m' s P ∧ Fx (fun a => a = 452) m m' ∧ fstF (fun x => decide (P.2.2 x = k) && isIn (P.2.1 x) (sFo s j)) r y = fstF (fun x => decide (P.2.2 x = k) && isIn (P.2.1 x) (sFo s j)) P.1 0) (Q := fun r => ∃ m2, r = (if covK P k (sFo s j) = true then .inr (nI k, m2) else .inl m2) ∧ MLv m2 s P ∧ Fx (fun a => a = 452) m m2) (fun g r z hj2 => by
    obtain ⟨y, m', hy, rfl, hL, hF, hT⟩ := hj2
    obtain ⟨K433, R4, K438, N438⟩ := hL.1.1.lv
    have hly := hl y (by omega)
    obtain ⟨m2, q1, q2⟩ := m_isFrom (s := j) (z := 60 + y) hL.1.1 (by omega) (by omega) (hL.1.2.2.2.2.1.2 j hj).1 (hL.2 y (by omega)).1 hφ.2.1 (bel_mono hφ.1 (by omega)) (hP.2 y (by omega))
    rw [← n60] at q1
    have hpre : ∀ R, (if nI (P.2.2 y) = nI k then (if iB (isIn (P.2.1 y) (sFo s j)) = 0 then lX10_shortest_257 NF 433 (nI j) v2 (nI P.1) (nI k) g (nI (y + 1)) m2 else some (.inr (nI k, m2))) else lX10_shortest_257 NF 433 (nI j) v2 (nI P.1) (nI k) g (nI (y + 1)) m') = R → lX10_shortest_257 NF 433 (nI j) v2 (nI P.1) (nI k) (g + 1) (nI y) m' = R := by
      intro R hR
      conv => lhs; unfold lX10_shortest_257 kX10_shortest_291
      refine EIn (fun z => by have := (nI_leI (by omega) (by omega)).mp z; omega) ?_
      refine EgR K433 R4 ?_
      refine EaI K438 rfl (show y < qN m' 438 by omega) (by omega) (hL.2 y (by omega)).2 ?_
      by_cases e : nI (P.2.2 y) = nI k
      · rw [if_pos e] at hR
        refine EIp e ?_
        refine EC K433 q1 ?_
        rw [nI_s]
        exact hR
      · rw [if_neg e] at hR
        refine EIn e ?_
        rw [nI_s]
        exact hR
    rw [fstF_s] at hT
    by_cases e : P.2.2 y = k
    · by_cases e2 : isIn (P.2.1 y) (sFo s j) = true
      · rw [if_pos (by rw [decide_eq_true e, e2]; rfl)] at hT
        refine Or.inr ⟨.inr (nI k, m2), hpre _ ?_, m2, ?_, MLv_452 hL q2, hF.tr q2⟩
        · refine EIp (by rw [e]) ?_
          rw [e2]
          exact if_neg i10
        · unfold covK
          rw [← hT, if_pos (decide_eq_true (by omega))]
      · have e2' : isIn (P.2.1 y) (sFo s j) = false := by simpa using e2
        rw [if_neg (by rw [e2', Bool.and_false]; decide)] at hT
        refine Or.inl ⟨(nI (y + 1), m2), ⟨y + 1, m2, by omega, rfl, MLv_452 hL q2, hF.tr q2, hT⟩, hpre _ ?_⟩
        refine EIp (by rw [e]) ?_
        rw [e2']
        exact if_pos rfl
    · rw [if_neg (by rw [decide_eq_false e, Bool.false_and]; decide)] at hT
      exact Or.inl ⟨(nI (y + 1), m'), ⟨y + 1, m', by omega, rfl, hL, hF, hT⟩, hpre _ (if_neg (fun z => e ((nI_eq (by omega) (by omega)).mp z)))⟩) (fun g z hj2 => by
    obtain ⟨y, m', hy, rfl, hL, hF, hT⟩ := hj2
    obtain rfl : y = P.1 := by omega
    have hT' : P.1 = fstF (fun x => decide (P.2.2 x = k) && isIn (P.2.1 x) (sFo s j)) P.1 0 := hT
    refine ⟨.inl m', ?_, m', ?_, hL, hF⟩
    · show lX10_shortest_257 NF 433 (nI j) v2 (nI P.1) (nI k) (g + 1) (nI P.1) m' = _
      unfold lX10_shortest_257
      refine EIp ((nI_leI (by omega) (by omega)).mpr (Nat.le_refl _)) ?_
      rfl
    · unfold covK
      rw [← hT', if_neg (by rw [decide_eq_false (by omega)]; decide)]) P.1 NF (nI 0, m) (by unfold NF; omega) ⟨0, m, by omega, rfl, h, Fx.rf, rfl⟩
  exact ⟨m2, by rw [← e2]; exact e1, e3, e4.mono (fun a ha => by omega)⟩
end
