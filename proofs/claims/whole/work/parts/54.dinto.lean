section
-- ===== formulas that are held =====
def okF (t : Tm) : Prop := bel 12 t ∧ tS t ≤ 39 ∧ cT t = t
theorem cT_cT {t : Tm} (h : bel 99 t) (hv : nv t ≤ 99) : cT (cT t) = cT t := by
  have h1 : cT t = sb (fun v => .var (ixo (nm [] (pol t)) v)) t := rfl
  have hb : bel 99 (cT t) := fun w hw => by have := cT_ocs hw (Or.inr ⟨rfl, h⟩); omega
  have h2 : t = sb (fun i => .var ((nm [] (pol t)).getD i 0)) (cT t) := by
    rw [h1, sb_sb]
    have : sb (fun v => sb (fun i => Lean.Data.AC.Expr.var ((nm [] (pol t)).getD i 0)) (.var (ixo (nm [] (pol t)) v))) t = sb .var t := by
      apply sb_congr
      intro v hv
      have ma : v ∈ nm [] (pol t) := (nm_mem _ _ _).mpr (Or.inr ⟨mem_pol hv, by have := h v hv; omega⟩)
      show Lean.Data.AC.Expr.var ((nm [] (pol t)).getD (ixo (nm [] (pol t)) v) 0) = .var v
      congr 1
      rw [List.getD_eq_getElem?_getD, List.getElem?_eq_getElem (ixo_in ma)]
      exact List.getElem_idxOf (ixo_in ma)
    rw [this, sb_var]
  exact (var_unique hb h h1 h2).1
theorem okF_cT {t : Tm} (h : bel 99 t) (h1 : tS t ≤ 39) (h2 : nv t ≤ 12) : okF (cT t) := by
  refine ⟨fun w hw => ?_, by rw [tS_cT]; exact h1, cT_cT h (by omega)⟩
  have := cT_ocs hw (Or.inr ⟨rfl, h⟩)
  omega
-- ===== the class detaches and unifies =====
theorem c_isImp {m : qM} {f : Nat} {t : Tm} (hs : FmS (qK m) (qN m) (qR m) f) (hc : CFm (qI m) f t) (hb : bel 99 t) : fX0_isImplication NF f m = some ((match t with | .var _ => 0 | .op _ _ => 1), m) := by
  obtain ⟨s1, s2, s3, s4⟩ := hs
  obtain ⟨c1, c2, c3, c4⟩ := hc
  have hp := tS_pos t
  have c5 := c4 0 hp
  unfold fX0_isImplication
  refine EgI s1 c1 ?_
  refine EIn (fun z => by have := (nI_leI (b := 0) (by omega) (by omega)).mp z; omega) ?_
  refine EgR s1 s2 ?_
  refine EaI s3 (show (0 : Int32) = nI 0 from rfl) (by omega) (by omega) c5 ?_
  cases t with
  | var v =>
    have hv := bel_var.mp hb
    have e : cS ((pol (.var v)).getD 0 0) = nI v := cS_n (by simp [pol]; omega)
    rw [e]
    refine EIn (nI_ng (by omega)) ?_
    rfl
  | op a b =>
    refine EIp rfl ?_
    rfl
def dDi (f a : Nat) : Prop := (132 ≤ a ∧ a ≤ 141) ∨ a = f ∨ a = f + 1
theorem c_loads {m : qM} {f1 f2 : Nat} {φ ψ : Tm} (hU : xU m) (F1 : FmS (qK m) (qN m) (qR m) f1) (F2 : FmS (qK m) (qN m) (qR m) f2) (h1 : f1 + 1 < 132 ∨ 141 < f1) (h2 : f2 + 1 < 132 ∨ 141 < f2) (C1 : CFm (qI m) f1 φ) (C2 : CFm (qI m) f2 ψ) (b1 : bel 12 φ) (b2 : bel 12 ψ) :
    ∃ m1 m2, fX8_load NF 132 f1 0 m = some m1 ∧ fX8_load NF 132 f2 (nI (tS φ)) m1 = some m2 ∧ Fx (fun a => 132 ≤ a ∧ a ≤ 141) m m1 ∧ Fx (fun a => 132 ≤ a ∧ a ≤ 141) m m2 ∧ Ld0 (qI m2) φ 0 ∧ Ld0 (qI m2) ψ (tS φ) ∧ qI m2 132 9 = nI (tS φ + tS ψ) := by
  have z1 := C1.2.2.1
  have z2 := C2.2.2.1
  have hD : ∀ a, (a = 132 ∨ dLd a) → 132 ≤ a ∧ a ≤ 141 := fun a ha => by unfold dLd at ha; omega
  obtain ⟨m1, p1, p2, p3, p4, p5, p6⟩ := c_load (off := 0) h1 (by omega) b1 hU F1 C1
  have g1 := p2.mono hD
  have C2' : CFm (qI m1) f2 ψ := CFm_of C2 (g1.i (by omega)) (g1.i (by omega))
  obtain ⟨m2, q1, q2, q3, q4, q5, q6⟩ := c_load (off := tS φ) h2 (by omega) b2 (xU_of hU g1) (FmS_of F2 g1) C2'
  refine ⟨m1, m2, p1, q1, g1, g1.tr (q2.mono hD), ?_, Ld0_ld b2 q3 q5, q6⟩
  exact Ld0_of (Ld0_ld b1 p3 p5) (fun k _ hk => q4 k (by omega))
/-- both loaded and solved -/
theorem c_solved {m : qM} {f1 f2 a b : Nat} {φ ψ : Tm} (hU : xU m) (F1 : FmS (qK m) (qN m) (qR m) f1) (F2 : FmS (qK m) (qN m) (qR m) f2) (h1 : f1 + 1 < 132 ∨ 141 < f1) (h2 : f2 + 1 < 132 ∨ 141 < f2) (C1 : CFm (qI m) f1 φ) (C2 : CFm (qI m) f2 ψ) (b1 : bel 12 φ) (b2 : bel 12 ψ) (ha : a < tS φ + tS ψ) (hb : b < tS φ + tS ψ) :
    ∃ m1 m2 m4 m3 r, fX8_load NF 132 f1 0 m = some m1 ∧ fX8_load NF 132 f2 (nI (tS φ)) m1 = some m2 ∧ fX8_mergeAll NF 132 (nI a) (nI b) m2 = some m4 ∧ qK m4 132 = 8 ∧ fX8_measure NF 132 m4 = some (r, m3) ∧ Fx (fun a => 132 ≤ a ∧ a ≤ 141) m m1 ∧ Fx (fun a => 132 ≤ a ∧ a ≤ 141) m m2 ∧ Fx (fun a => 132 ≤ a ∧ a ≤ 141) m m3 ∧ GG (tr φ (shf 39 ψ)) (tS φ + tS ψ) ∧
      ((r = 0 ∧ ∀ τ, ¬ sb τ (tr φ (shf 39 ψ) a) = sb τ (tr φ (shf 39 ψ) b)) ∨ (r = 1 ∧ ∃ hd shp den, Sol m3 (tr φ (shf 39 ψ)) (tS φ + tS ψ) a b hd shp den)) := by
  have z1 := C1.2.2.1
  have z2 := C2.2.2.1
  obtain ⟨m1, m2, p1, p2, p3, p4, p5, p6, p7⟩ := c_loads hU F1 F2 h1 h2 C1 C2 b1 b2
  have hG : GG (tr φ (shf 39 ψ)) (tS φ + tS ψ) := by
    have := GG_tr (A := φ) (B := shf 39 ψ) (bel_mono b1 (by omega)) (fun v hv => by
      obtain ⟨w, hw, e⟩ := shf_ocs hv
      have := b2 w hw
      omega) (by rw [shf_tS]; omega)
    rwa [shf_tS] at this
  obtain ⟨par, h, s1, s2, s3, s4⟩ := ld_start (m := m2) (bel_mono b1 (by omega)) (by omega) p5 p6
  obtain ⟨m4, m3, r, q1, k4, q0, q2, q3⟩ := c_solve hG (xU_of hU p4) p7 s1 s2 s3 s4 ha hb
  exact ⟨m1, m2, m4, m3, r, p1, p2, q1, k4, q0, p3, p4, p4.tr (q2.mono (fun a ha => by unfold dSv dSo at ha; omega)), hG, q3⟩
theorem c_MG {m : qM} {φ ψ : Tm} {a b : Nat} {hd : Nat → Nat} {shp : Nat → Option Nat} {den : Nat → Tm} (hS : Sol m (tr φ (shf 39 ψ)) (tS φ + tS ψ) a b hd shp den) (ha : a < tS φ + tS ψ) (hb : b < tS φ + tS ψ) : ∃ σ, MG σ (tr φ (shf 39 ψ) a) (tr φ (shf 39 ψ) b) ∧ ∀ n, n < tS φ + tS ψ → sb σ (tr φ (shf 39 ψ) n) = den (hd n) := by
  obtain ⟨-, -, -, -, -, -, h7, h8, ρ, h9⟩ := hS
  have es : tS φ + tS (shf 39 ψ) = tS φ + tS ψ := by rw [shf_tS]
  have hoc : ∀ n v, ocs v (tr φ (shf 39 ψ) n) → ocs v φ ∨ ocs v (shf 39 ψ) := by
    intro n v hv
    unfold tr at hv
    by_cases e : n < tS φ
    · rw [if_pos e] at hv; exact Or.inl (sa_ocs hv)
    · rw [if_neg e] at hv; exact Or.inr (sa_ocs hv)
  obtain ⟨σ, s1, s2⟩ := MG_of (A := φ) (B := shf 39 ψ) (a := tr φ (shf 39 ψ) a) (b := tr φ (shf 39 ψ) b) (den := fun n => den (hd n)) (ρ := ρ) (fun n hn => h9 n (by omega)) (fun τ hτ n hn => h8 τ hτ n (by omega)) (by rw [← h9 a ha, ← h9 b hb, h7]) (hoc a) (hoc b)
  exact ⟨σ, s1, fun n hn => by rw [s2 _ (hoc n), h9 n hn]⟩
theorem c_detachInto {m : qM} {f1 f2 f3 : Nat} {φ ψ : Tm} (hU : xU m) (F1 : FmS (qK m) (qN m) (qR m) f1) (F2 : FmS (qK m) (qN m) (qR m) f2) (F3 : FmS (qK m) (qN m) (qR m) f3) (h1 : f1 + 1 < 132 ∨ 141 < f1) (h2 : f2 + 1 < 132 ∨ 141 < f2) (h3 : f3 + 1 < 132 ∨ 141 < f3) (C1 : CFm (qI m) f1 φ) (C2 : CFm (qI m) f2 ψ) (b1 : bel 12 φ) (b2 : bel 12 ψ) :
    ∃ m2, fX8_detachInto NF 132 f1 f2 f3 m = some (rc (dU φ ψ), m2) ∧ Fx (dDi f3) m m2 ∧ (okU (dU φ ψ) → CFm (qI m2) f3 (rt (dU φ ψ)) ∧ okF (rt (dU φ ψ))) := by
  have himp := c_isImp F1 C1 (bel_mono b1 (by omega))
  have hsz := c_size F1 C1
  have k132 : qK m 132 = 8 := hU.1
  have kf1 := F1.1
  have hpψ := tS_pos ψ
  unfold fX8_detachInto
  cases hφ : φ with
  | var v =>
    subst hφ
    refine ⟨m, ?_, Fx.rf, fun h => ?_⟩
    · refine EC kf1 himp ?_
      refine EIp rfl ?_
      rfl
    · obtain ⟨t, s, v, e, _⟩ := h
      simp only [dU] at e; cases e
  | op l r =>
    subst hφ
    have hs1 : tS (.op l r) = tS l + tS r + 1 := rfl
    have hpl := tS_pos l
    have hpr := tS_pos r
    obtain ⟨m1, m2, m6, m3, rr, p1, p2, p3, K6, p5, g1, g2, g3, hG, p4⟩ := c_solved (a := 1) (b := tS (.op l r)) hU F1 F2 h1 h2 C1 C2 b1 b2 (by omega) (by omega)
    obtain ⟨d1, d2, d3⟩ := hG.2.2 0 l r (by omega) tr_A
    rw [Nat.zero_add] at d2
    rw [show 0 + 1 + tS l = 1 + tS l by omega] at d1 d3
    have hb0 : tr (.op l r) (shf 39 ψ) (tS (.op l r)) = shf 39 ψ := tr_B
    rw [d2, hb0] at p4
    have K1 : qK m1 132 = 8 := by rw [g1.1]; exact k132
    have K2 : qK m2 132 = 8 := by rw [g2.1]; exact k132
    have fx3 : Fx (dDi f3) m m3 := g3.mono (fun a h => Or.inl h)
    have hpre : ∀ R, (if rr = 0 then some ((-4 : Int32), m3) else (qgR m3 132 8 0).bind fun x6 => (qaI m3 x6 12 (0 : Int32)).bind fun x7 => (qChk m3 132 8 (fX8_writeOut NF 132 x7 f3 m3)).bind fun b8 => some (b8.1, b8.2)) = R → ((qChk m f1 0 (fX0_isImplication NF f1 m)).bind fun b1 => if b1.1 = 0 then some ((-4 : Int32), b1.2) else (qChk b1.2 f1 0 (fX0_size NF f1 b1.2)).bind fun b2 => (qChk b2.2 132 8 (fX8_load NF 132 f1 (0 : Int32) b2.2)).bind fun b3 => (qChk b3 132 8 (fX8_load NF 132 f2 b2.1 b3)).bind fun b4 => (qChk b4 132 8 (fX8_mergeAll NF 132 (1 : Int32) b2.1 b4)).bind fun b5 => (qChk b5 132 8 (fX8_measure NF 132 b5)).bind fun b6 => if b6.1 = 0 then some ((-4 : Int32), b6.2) else (qgR b6.2 132 8 0).bind fun x7 => (qaI b6.2 x7 12 (0 : Int32)).bind fun x8 => (qChk b6.2 132 8 (fX8_writeOut NF 132 x8 f3 b6.2)).bind fun b9 => some (b9.1, b9.2)) = R := by
      intro R hR
      refine EC kf1 himp ?_
      dsimp only
      refine EIn (by decide) ?_
      refine EC kf1 hsz ?_
      dsimp only
      refine EC k132 p1 ?_
      refine EC K1 p2 ?_
      refine EC K2 p3 ?_
      refine EC K6 p5 ?_
      exact hR
    rcases p4 with ⟨rfl, hno⟩ | ⟨rfl, hd, shp, den, hS⟩
    · have hz : dU (.op l r) ψ = none := uR_eq (Or.inl ⟨rfl, hno⟩)
      refine ⟨m3, ?_, fx3, fun h => ?_⟩
      · apply hpre
        rw [hz, if_pos rfl]; rfl
      · obtain ⟨t, s, v, e, _⟩ := h
        rw [hz] at e; cases e
    · obtain ⟨σ, s1, s2⟩ := c_MG hS (by omega) (by omega)
      rw [d2, hb0] at s1
      have s3 := s2 (1 + tS l) d1
      rw [d3] at s3
      have hbel : bel 99 (den (hd (1 + tS l))) := bel_mono (Sol_bel hG hS _ _ d1 (Nat.le_refl _)) (by omega)
      have hz : dU (.op l r) ψ = some (cT (den (hd (1 + tS l))), tS (den (hd (1 + tS l))), nv (den (hd (1 + tS l)))) := uR_eq (Or.inr ⟨σ, s1, by rw [s3]; exact hbel, by rw [s3]⟩)
      obtain ⟨m4, q1, q2, q3⟩ := c_writeOut (f := f3) hG h3 hS (FmS_of F3 g3) d1
      have w0 := (hS.2.1 0 (by omega)).2.2 l r tr_A
      rw [show 0 + 1 + tS l = 1 + tS l by omega] at w0
      have hU3 := hS.1
      obtain ⟨K3, R0, -, -, -, -, -, -, -, -, K133, N133, -⟩ := hU3
      refine ⟨m4, ?_, fx3.tr (q2.mono (fun a ha => by unfold dWo dFA dF at ha; unfold dDi; omega)), fun h => ?_⟩
      · apply hpre
        refine EIn (by decide) ?_
        refine EgR K3 R0 ?_
        refine EaI K133 (show (0 : Int32) = nI 0 from rfl) (by omega) (by omega) w0 ?_
        refine EC K3 q1 ?_
        rw [hz]
      · obtain ⟨t, s, v, e, h3', h4'⟩ := h
        rw [hz] at e ⊢
        injection e with e
        injection e with e1 e2
        injection e2 with e2 e3
        exact ⟨q3 (by omega) (by omega), okF_cT hbel (by omega) (by omega)⟩
noncomputable def uU (φ ψ : Tm) : Option (Tm × Nat × Nat) := uR φ (shf 39 ψ) φ
theorem c_unifyInto {m : qM} {f1 f2 f3 : Nat} {φ ψ : Tm} (hU : xU m) (F1 : FmS (qK m) (qN m) (qR m) f1) (F2 : FmS (qK m) (qN m) (qR m) f2) (F3 : FmS (qK m) (qN m) (qR m) f3) (h1 : f1 + 1 < 132 ∨ 141 < f1) (h2 : f2 + 1 < 132 ∨ 141 < f2) (h3 : f3 + 1 < 132 ∨ 141 < f3) (C1 : CFm (qI m) f1 φ) (C2 : CFm (qI m) f2 ψ) (b1 : bel 12 φ) (b2 : bel 12 ψ) :
    ∃ m2, fX8_unifyInto NF 132 f1 f2 f3 m = some (rc (uU φ ψ), m2) ∧ Fx (dDi f3) m m2 ∧ (okU (uU φ ψ) → CFm (qI m2) f3 (rt (uU φ ψ)) ∧ okF (rt (uU φ ψ))) := by
  have hsz := c_size F1 C1
  have k132 : qK m 132 = 8 := hU.1
  have kf1 := F1.1
  have hpφ := tS_pos φ
  have hpψ := tS_pos ψ
  obtain ⟨m1, m2, m6, m3, rr, p1, p2, p3, K6, p5, g1, g2, g3, hG, p4⟩ := c_solved (a := 0) (b := tS φ) hU F1 F2 h1 h2 C1 C2 b1 b2 (by omega) (by omega)
  have ha0 : tr φ (shf 39 ψ) 0 = φ := tr_A
  have hb0 : tr φ (shf 39 ψ) (tS φ) = shf 39 ψ := tr_B
  rw [ha0, hb0] at p4
  have K1 : qK m1 132 = 8 := by rw [g1.1]; exact k132
  have K2 : qK m2 132 = 8 := by rw [g2.1]; exact k132
  have f3' : Fx (dDi f3) m m3 := g3.mono (fun a h => Or.inl h)
  have hpre : ∀ R, (if rr = 0 then some ((-4 : Int32), m3) else (qChk m3 132 8 (fX8_writeOut NF 132 (0 : Int32) f3 m3)).bind fun b5 => some (b5.1, b5.2)) = R → fX8_unifyInto NF 132 f1 f2 f3 m = R := by
    intro R hR
    unfold fX8_unifyInto
    refine EC kf1 hsz ?_
    dsimp only
    refine EC k132 p1 ?_
    refine EC K1 p2 ?_
    refine EC K2 p3 ?_
    refine EC K6 p5 ?_
    exact hR
  rcases p4 with ⟨rfl, hno⟩ | ⟨rfl, hd, shp, den, hS⟩
  · have hz : uU φ ψ = none := uR_eq (Or.inl ⟨rfl, hno⟩)
    refine ⟨m3, ?_, f3', fun h => ?_⟩
    · apply hpre
      rw [hz, if_pos rfl]; rfl
    · obtain ⟨t, s, v, e, _⟩ := h
      rw [hz] at e; cases e
  · obtain ⟨σ, s1, s2⟩ := c_MG hS (by omega) (by omega)
    rw [ha0, hb0] at s1
    have s3 := s2 0 (by omega)
    rw [ha0] at s3
    have hbel : bel 99 (den (hd 0)) := bel_mono (Sol_bel hG hS _ 0 (by omega) (Nat.le_refl _)) (by omega)
    have hz : uU φ ψ = some (cT (den (hd 0)), tS (den (hd 0)), nv (den (hd 0))) := uR_eq (Or.inr ⟨σ, s1, by rw [s3]; exact hbel, by rw [s3]⟩)
    obtain ⟨m4, q1, q2, q3⟩ := c_writeOut (f := f3) (s := 0) hG h3 hS (FmS_of F3 g3) (by omega)
    have K3 := hS.1.1
    refine ⟨m4, ?_, f3'.tr (q2.mono (fun a ha => by unfold dWo dFA dF at ha; unfold dDi; omega)), fun h => ?_⟩
    · apply hpre
      refine EIn (by decide) ?_
      refine EC K3 q1 ?_
      rw [hz]
    · obtain ⟨t, s, v, e, h3', h4'⟩ := h
      rw [hz] at e ⊢
      injection e with e
      injection e with e1 e2
      injection e2 with e2 e3
      exact ⟨q3 (by omega) (by omega), okF_cT hbel (by omega) (by omega)⟩
end
