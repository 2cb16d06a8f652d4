section
-- ===== reduction in the class: where the term lies =====
def TmC (m : qM) (S : Nat) : Prop := (S = 399 ∨ S = 400) ∧ qK m 393 = 6 ∧ qR m 393 0 = some 394 ∧ qR m 393 1 = some 395 ∧ qR m 393 2 = some 396 ∧ qR m 393 3 = some 397 ∧ qR m 393 4 = some 398 ∧ qR m 393 5 = some S ∧ qR m 393 6 = some (799 - S) ∧ qK m 394 = 14 ∧ qN m 394 = 9 ∧ qK m 395 = 14 ∧ qN m 395 = 160 ∧ qK m 396 = 12 ∧ qN m 396 = 160 ∧ qK m 397 = 12 ∧ qN m 397 = 3 ∧ qK m 398 = 12 ∧ qN m 398 = 3 ∧ qK m S = 11 ∧ qN m S = 160 ∧ qK m (799 - S) = 11 ∧ qN m (799 - S) = 160
theorem TmC_X {m : qM} (h : XS (qK m) (qN m) (qR m)) : ∃ S, TmC m S := by
  obtain ⟨h0, h1, h2, h3, h4, h5, h6, h7, h8, h9, h10, h11, h12, h13, h14, h15, h16, h17, h18, h19, h20⟩ := h.2.2.2.2.2.2.1
  rcases h20 with ⟨e1, e2⟩ | ⟨e1, e2⟩
  · exact ⟨399, Or.inl rfl, h0, h1, h2, h3, h4, h5, e1, e2, h6, h7, h8, h9, h10, h11, h12, h13, h14, h15, h16, h17, h18, h19⟩
  · exact ⟨400, Or.inr rfl, h0, h1, h2, h3, h4, h5, e1, e2, h6, h7, h8, h9, h10, h11, h12, h13, h14, h15, h18, h19, h16, h17⟩
theorem TmC_fx {D : Nat → Prop} {m m2 : qM} {S : Nat} (f : Fx D m m2) (h : TmC m S) : TmC m2 S := by
  unfold TmC
  rw [f.1, f.2.1, f.2.2.1]
  exact h
theorem Sg_fx {D : Nat → Prop} {m m2 : qM} {S : Nat} {L : List Nat} (f : Fx D m m2) (h1 : ¬ D 393) (h2 : ¬ D S) (h : Sg (qI m) S L) : Sg (qI m2) S L := by
  unfold Sg
  rw [f.i h1, f.i h2]
  exact h
theorem drop_c {L r : List Nat} {i c : Nat} (h : L.drop i = c :: r) : i < L.length ∧ L.getD i 0 = c ∧ L.drop (i + 1) = r := by
  have hi : i < L.length := by
    apply Classical.byContradiction
    intro z
    rw [List.drop_eq_nil_iff.mpr (by omega)] at h
    cases h
  rw [drop_cons hi] at h
  injection h with h1 h2
  exact ⟨hi, h1, h2⟩
def dFa (a : Nat) : Prop := a = 397 ∨ a = 398
def dFb (a : Nat) : Prop := a = 393 ∨ a = 397 ∨ a = 398
theorem yPf_lt {t : Tm} (ho : yOk t) : ∀ c, c ∈ yPf t → c < 128 := by
  induction t with
  | var d =>
    intro c hc
    have : c = d := by simpa [yPf] using hc
    have := (ixL_c ho).1
    omega
  | op f x ihf ihx =>
    intro c hc
    have h2 : c ∈ yPf f ++ (yPf x ++ [64]) := hc
    rcases List.mem_append.mp h2 with h | h
    · exact ihf ho.1 c h
    rcases List.mem_append.mp h with h | h
    · exact ihx ho.2 c h
    · have : c = 64 := by simpa using h
      omega
theorem c_fz {L : List Nat} (hL : L.length ≤ 160) (hc : ∀ c, c ∈ L → c < 128) {S ar : Nat} (har : ar ≤ 3) : ∀ (r : List Nat) (a h i st n f : Nat) (m : qM), TmC m S → Sg (qI m) S L → L.drop i = r → r.length < f → n + a = ar → h ≤ i + 1 → st ≤ i → i ≤ L.length → ∃ v m2, lX6_findArguments_25 NF 393 (nI ar) f (nI h) (nI n) (nI st) (nI i) m = some (nI v, m2) ∧ v ≤ 3 ∧ Fx dFa m m2 ∧ (∀ k, k < n → qI m2 397 k = qI m 397 k ∧ qI m2 398 k = qI m 398 k) ∧ (yFz r a h i st = none → v ≠ ar) ∧ ∀ l, yFz r a h i st = some l → v = ar ∧ ∀ k, k < a → qI m2 397 (n + k) = nI (l.getD k (0, 0)).1 ∧ qI m2 398 (n + k) = nI (l.getD k (0, 0)).2 := by
  intro r
  induction r with
  | nil =>
    intro a h i st n f m hT hg hr hf hn hh hst hi
    obtain ⟨f, rfl⟩ : ∃ g, f = g + 1 := ⟨f - 1, by simp at hf; omega⟩
    have hiL : L.length ≤ i := List.drop_eq_nil_iff.mp hr
    obtain ⟨hS, k, -⟩ := id hT
    have hz : yFz [] a h i st = if a = 0 then some [] else none := rfl
    rw [hz]
    refine ⟨n, m, ?_, by omega, Fx.rf, fun k hk => ⟨rfl, rfl⟩, fun z => ?_, fun l z => ?_⟩
    · conv => lhs; unfold lX6_findArguments_25
      refine EgI k hg.1 ?_
      exact if_pos ((nI_leI (by omega) (by omega)).mpr hiL)
    · by_cases a0 : a = 0
      · rw [if_pos a0] at z; cases z
      · omega
    · by_cases a0 : a = 0
      · exact ⟨by omega, fun k hk => absurd hk (by omega)⟩
      · rw [if_neg a0] at z; cases z
  | cons c r ih =>
    intro a h i st n f m hT hg hr hf hn hh hst hi
    obtain ⟨f, rfl⟩ : ∃ g, f = g + 1 := ⟨f - 1, by simp at hf; omega⟩
    have hf2 : r.length < f := by simp at hf; omega
    obtain ⟨hiL, hcc, hr2⟩ := drop_c hr
    obtain ⟨hS, k, r0, r1, r2, r3, r4, r5, r6, k394, n394, k395, n395, k396, n396, k397, n397, k398, n398, kS, nS, kP, nP⟩ := id hT
    have hlt : c < 128 := by rw [← hcc]; exact hc _ (mem_getD hiL)
    have hat : qI m S i = nI c := by rw [← hcc]; exact hg.2 i hiL
    have hge : ¬ nI L.length ≤ nI i := fun z => by have := (nI_leI (by omega) (by omega)).mp z; omega
    rw [yFz_cons]
    by_cases a0 : a = 0
    · refine ⟨n, m, ?_, by omega, Fx.rf, fun k hk => ⟨rfl, rfl⟩, fun z => (by rw [if_pos a0] at z; cases z), fun l _ => ⟨by omega, fun k hk => absurd hk (by omega)⟩⟩
      conv => lhs; unfold lX6_findArguments_25
      refine EgI k hg.1 ?_
      refine EIn hge ?_
      by_cases h0 : nI h ≤ 0
      · exact if_pos h0
      · refine EIn h0 ?_
        exact if_pos ((nI_leI (by omega) (by omega)).mpr (by omega))
    rw [if_neg a0]
    by_cases h0 : h = 0
    · subst h0
      refine ⟨n, m, ?_, by omega, Fx.rf, fun k hk => ⟨rfl, rfl⟩, fun _ => by omega, fun l z => (by rw [if_pos rfl] at z; cases z)⟩
      conv => lhs; unfold lX6_findArguments_25
      refine EgI k hg.1 ?_
      refine EIn hge ?_
      exact if_pos (by decide)
    rw [if_neg h0]
    have hpre : ∀ R, (if nI c = (64 : Int32) then kX6_findArguments_62 NF (lX6_findArguments_25 NF 393 (nI ar) f) 393 (nI ar) (nI n) (nI st) (nI i) (nI h) (-1 : Int32) m else kX6_findArguments_62 NF (lX6_findArguments_25 NF 393 (nI ar) f) 393 (nI ar) (nI n) (nI st) (nI i) (nI h) (1 : Int32) m) = R → lX6_findArguments_25 NF 393 (nI ar) (f + 1) (nI h) (nI n) (nI st) (nI i) m = R := by
      intro R hR
      conv => lhs; unfold lX6_findArguments_25
      refine EgI k hg.1 ?_
      refine EIn hge ?_
      refine EIn (fun z => by have := (nI_leI (b := 0) (by omega) (by omega)).mp z; omega) ?_
      refine EIn (fun z => by have := (nI_leI (by omega) (by omega)).mp z; omega) ?_
      refine EgR k r5 ?_
      refine EaI kS rfl (show i < qN m S by omega) (by omega) hat ?_
      exact hR
    by_cases c64 : c = 64
    · rw [if_pos c64]
      by_cases h2 : h = 2
      · subst h2
        rw [if_pos rfl]
        let m1 : qM := qsI (qsI m 397 n (nI st)) 398 n (nI i)
        have f1 : Fx dFa m m1 := (Fx.rf.sI (Or.inl rfl)).sI (Or.inr rfl)
        obtain ⟨v, m2, q1, q2, q3, q4, q5, q6⟩ := ih (a - 1) 1 (i + 1) (i + 1) (n + 1) f m1 (TmC_fx f1 hT) (Sg_fx f1 (by unfold dFa; omega) (by unfold dFa; omega) hg) hr2 hf2 (by omega) (by omega) (by omega) (by omega)
        refine ⟨v, m2, hpre _ ?_, q2, f1.tr q3, fun k hk => ?_, fun z => ?_, fun l z => ?_⟩
        · refine EIp (by rw [c64]; rfl) ?_
          unfold kX6_findArguments_62 kX6_findArguments_96
          refine EIp (by decide) ?_
          refine EgR k r3 ?_
          refine EwI k397 rfl (show n < qN m 397 by omega) (by omega) rfl ?_
          refine EgR (show qK (qsI m 397 n (nI st)) 393 = 6 from k) (show qR (qsI m 397 n (nI st)) 393 4 = some 398 from r4) ?_
          refine EwI (show qK (qsI m 397 n (nI st)) 398 = 12 from k398) rfl (show n < qN m 398 by omega) (by omega) rfl ?_
          rw [nI_s, nI_s, show nI 2 + (-1 : Int32) = nI 1 from by decide]
          exact q1
        · obtain ⟨g1, g2⟩ := q4 k (by omega)
          rw [g1, g2]
          have : ¬ k = n := by omega
          simp [m1, qS, this]
        · cases hz : yFz r (a - 1) 1 (i + 1) (i + 1) with
          | none => exact q5 hz
          | some l => rw [hz] at z; cases z
        · cases hz : yFz r (a - 1) 1 (i + 1) (i + 1) with
          | none => rw [hz] at z; cases z
          | some l2 =>
            rw [hz] at z
            injection z with z
            subst z
            obtain ⟨e1, e2⟩ := q6 l2 hz
            refine ⟨e1, fun k hk => ?_⟩
            cases k with
            | zero =>
              obtain ⟨g1, g2⟩ := q4 n (by omega)
              rw [Nat.add_zero, g1, g2]
              exact ⟨by simp [m1, qS], by simp [m1, qS]⟩
            | succ k =>
              have := e2 k (by omega)
              rw [show n + 1 + k = n + (k + 1) by omega] at this
              exact this
      · rw [if_neg h2]
        obtain ⟨v, m2, q1, q2, q3, q4, q5, q6⟩ := ih a (h - 1) (i + 1) st n f m hT hg hr2 hf2 (by omega) (by omega) (by omega) (by omega)
        refine ⟨v, m2, hpre _ ?_, q2, q3, q4, q5, q6⟩
        refine EIp (by rw [c64]; rfl) ?_
        unfold kX6_findArguments_62 kX6_findArguments_96
        rw [show nI h + (-1 : Int32) = nI (h - 1) from nI_p (by omega)]
        refine EIn (fun z => by have := (nI_eq (b := 1) (by omega) (by omega)).mp z; omega) ?_
        rw [nI_s]
        exact q1
    · rw [if_neg c64]
      obtain ⟨v, m2, q1, q2, q3, q4, q5, q6⟩ := ih a (h + 1) (i + 1) st n f m hT hg hr2 hf2 (by omega) (by omega) (by omega) (by omega)
      refine ⟨v, m2, hpre _ ?_, q2, q3, q4, q5, q6⟩
      refine EIn (fun z => c64 ((nI_eq (b := 64) (by omega) (by omega)).mp z)) ?_
      unfold kX6_findArguments_62 kX6_findArguments_96
      rw [nI_s]
      refine EIn (fun z => by have := (nI_eq (b := 1) (by omega) (by omega)).mp z; omega) ?_
      rw [nI_s]
      exact q1
theorem c_findArgs {L : List Nat} (hL : L.length ≤ 160) (hc : ∀ c, c ∈ L → c < 128) {S p : Nat} {m : qM} (hT : TmC m S) (hg : Sg (qI m) S L) (hp : p < L.length) : ∃ b m2, fX6_findArguments NF 393 (nI p) m = some (b, m2) ∧ Fx dFa m m2 ∧ (yFz (L.drop (p + 1)) (arN (L.getD p 0)) 1 (p + 1) (p + 1) = none → b = 0) ∧ ∀ l, yFz (L.drop (p + 1)) (arN (L.getD p 0)) 1 (p + 1) (p + 1) = some l → b = 1 ∧ ∀ k, k < arN (L.getD p 0) → qI m2 397 k = nI (l.getD k (0, 0)).1 ∧ qI m2 398 k = nI (l.getD k (0, 0)).2 := by
  obtain ⟨hS, k, r0, r1, r2, r3, r4, r5, r6, k394, n394, k395, n395, k396, n396, k397, n397, k398, n398, kS, nS, kP, nP⟩ := id hT
  have hlt := hc _ (mem_getD hp)
  have hat := hg.2 p hp
  have h3 := arN_lt (L.getD p 0)
  obtain ⟨v, m2, q1, q2, q3, q4, q5, q6⟩ := c_fz hL hc h3 (L.drop (p + 1)) (arN (L.getD p 0)) 1 (p + 1) (p + 1) 0 NF m hT hg rfl (by rw [List.length_drop]; unfold NF; omega) (by omega) (by omega) (by omega) (by omega)
  have hpre : ∀ R, (if nI v = nI (arN (L.getD p 0)) then some ((1 : Int32), m2) else some ((0 : Int32), m2)) = R → fX6_findArguments NF 393 (nI p) m = R := by
    intro R hR
    unfold fX6_findArguments
    refine EgR k r5 ?_
    refine EaI kS rfl (show p < qN m S by omega) (by omega) hat ?_
    refine EB (c_arity hlt) ?_
    rw [nI_s]
    refine EB q1 ?_
    exact hR
  by_cases e : v = arN (L.getD p 0)
  · refine ⟨1, m2, hpre _ (if_pos (by rw [e])), q3, fun z => absurd e (q5 z), fun l z => ⟨rfl, fun k hk => ?_⟩⟩
    have := (q6 l z).2 k hk
    rw [Nat.zero_add] at this
    exact this
  · exact ⟨0, m2, hpre _ (if_neg (fun z => e ((nI_eq (by omega) (by omega)).mp z))), q3, fun _ => rfl, fun l z => absurd (q6 l z).1 e⟩
theorem c_fr {L : List Nat} (hL : L.length ≤ 160) (hc : ∀ c, c ∈ L → c < 128) {S : Nat} : ∀ (r : List Nat) (i f : Nat) (m : qM), TmC m S → Sg (qI m) S L → L.drop i = r → r.length < f → i ≤ L.length → ∃ m2, Fx dFb m m2 ∧ Sg (qI m2) S L ∧ ((yFr r i = none ∧ lX6_findRedex_2 NF 393 f (nI i) m = some (.inl m2)) ∨ ∃ p l, yFr r i = some (p, l) ∧ p < L.length ∧ lX6_findRedex_2 NF 393 f (nI i) m = some (.inr (1, m2)) ∧ qI m2 393 9 = nI p ∧ ∀ k, k < arN (L.getD p 0) → qI m2 397 k = nI (l.getD k (0, 0)).1 ∧ qI m2 398 k = nI (l.getD k (0, 0)).2) := by
  intro r
  induction r with
  | nil =>
    intro i f m hT hg hr hf hi
    obtain ⟨f, rfl⟩ : ∃ g, f = g + 1 := ⟨f - 1, by simp at hf; omega⟩
    have hiL : L.length ≤ i := List.drop_eq_nil_iff.mp hr
    obtain ⟨hS, k, -⟩ := id hT
    refine ⟨m, Fx.rf, hg, Or.inl ⟨rfl, ?_⟩⟩
    conv => lhs; unfold lX6_findRedex_2
    refine EgI k hg.1 ?_
    exact if_pos ((nI_leI (by omega) (by omega)).mpr hiL)
  | cons c r ih =>
    intro i f m hT hg hr hf hi
    obtain ⟨f, rfl⟩ : ∃ g, f = g + 1 := ⟨f - 1, by simp at hf; omega⟩
    have hf2 : r.length < f := by simp at hf; omega
    obtain ⟨hiL, hcc, hr2⟩ := drop_c hr
    obtain ⟨hS, k, r0, r1, r2, r3, r4, r5, r6, k394, n394, k395, n395, k396, n396, k397, n397, k398, n398, kS, nS, kP, nP⟩ := id hT
    have hlt : c < 128 := by rw [← hcc]; exact hc _ (mem_getD hiL)
    have hat : qI m S i = nI c := by rw [← hcc]; exact hg.2 i hiL
    have hge : ¬ nI L.length ≤ nI i := fun z => by have := (nI_leI (by omega) (by omega)).mp z; omega
    rw [yFr_cons]
    by_cases c64 : c = 64
    · rw [if_pos c64]
      obtain ⟨m2, q1, q2, q3⟩ := ih (i + 1) f m hT hg hr2 hf2 (by omega)
      have hpre : ∀ R, lX6_findRedex_2 NF 393 f (nI (i + 1)) m = R → lX6_findRedex_2 NF 393 (f + 1) (nI i) m = R := by
        intro R hR
        conv => lhs; unfold lX6_findRedex_2 kX6_findRedex_36
        refine EgI k hg.1 ?_
        refine EIn hge ?_
        refine EgR k r5 ?_
        refine EaI kS rfl (show i < qN m S by omega) (by omega) hat ?_
        refine EIp (by rw [c64]; rfl) ?_
        rw [nI_s]
        exact hR
      refine ⟨m2, q1, q2, ?_⟩
      rcases q3 with ⟨a1, a2⟩ | ⟨p, l, a1, a2, a3, a4⟩
      · exact Or.inl ⟨a1, hpre _ a2⟩
      · exact Or.inr ⟨p, l, a1, a2, hpre _ a3, a4⟩
    · rw [if_neg c64]
      obtain ⟨b, m1, p1, p2, p3, p4⟩ := c_findArgs hL hc hT hg hiL
      rw [hcc, hr2] at p3 p4
      have f1 : Fx dFb m m1 := p2.mono (fun a ha => Or.inr ha)
      have hT1 := TmC_fx p2 hT
      have hg1 := Sg_fx p2 (by unfold dFa; omega) (by unfold dFa; omega) hg
      have hpre : ∀ R, (if b = 0 then kX6_findRedex_36 NF (lX6_findRedex_2 NF 393 f) 393 (nI i) m1 else (qpI m1 393 6 9 (nI i)).bind fun m5 => some (.inr ((1 : Int32), m5))) = R → lX6_findRedex_2 NF 393 (f + 1) (nI i) m = R := by
        intro R hR
        conv => lhs; unfold lX6_findRedex_2
        refine EgI k hg.1 ?_
        refine EIn hge ?_
        refine EgR k r5 ?_
        refine EaI kS rfl (show i < qN m S by omega) (by omega) hat ?_
        refine EIn (fun z => c64 ((nI_eq (b := 64) (by omega) (by omega)).mp z)) ?_
        refine EC k p1 ?_
        exact hR
      cases hz : yFz r (arN c) 1 (i + 1) (i + 1) with
      | none =>
        have hb := p3 hz
        obtain ⟨m2, q1, q2, q3⟩ := ih (i + 1) f m1 hT1 hg1 hr2 hf2 (by omega)
        have hpre2 : ∀ R, lX6_findRedex_2 NF 393 f (nI (i + 1)) m1 = R → lX6_findRedex_2 NF 393 (f + 1) (nI i) m = R := by
          intro R hR
          refine hpre _ ?_
          refine EIp hb ?_
          unfold kX6_findRedex_36
          rw [nI_s]
          exact hR
        refine ⟨m2, f1.tr q1, q2, ?_⟩
        rcases q3 with ⟨a1, a2⟩ | ⟨p, l, a1, a2, a3, a4⟩
        · exact Or.inl ⟨a1, hpre2 _ a2⟩
        · exact Or.inr ⟨p, l, a1, a2, hpre2 _ a3, a4⟩
      | some l =>
        obtain ⟨hb, hcell⟩ := p4 l hz
        refine ⟨qsI m1 393 9 (nI i), f1.sI (Or.inl rfl), ⟨by simp only [qS]; rw [if_pos trivial, if_neg (by decide)]; exact hg1.1, fun j hj => by simp only [qS]; rw [if_neg (by omega)]; exact hg1.2 j hj⟩, Or.inr ⟨i, l, rfl, hiL, hpre _ ?_, by simp [qS], fun k hk => ?_⟩⟩
        · refine EIn (by rw [hb]; decide) ?_
          refine EpI (by rw [p2.1]; exact k) rfl ?_
          rfl
        · rw [hcc] at hk
          simp only [qS]
          rw [if_neg (by decide), if_neg (by decide)]
          exact hcell k hk
/-- the class finds what reduces -/
theorem c_findRedex {S : Nat} {t : Tm} {m : qM} (ho : yOk t) (hl : yLv t ≤ 80) (hT : TmC m S) (hg : Sg (qI m) S (yPf t)) : ∃ m2, Fx dFb m m2 ∧ Sg (qI m2) S (yPf t) ∧ ((yRd t = none ∧ fX6_findRedex NF 393 m = some (0, m2)) ∨ ∃ u pre c as post, yRd t = some u ∧ yPf t = pre ++ (c :: ySe as post) ∧ as.length = arN c ∧ ixL c < 6 ∧ (∀ a, a ∈ as → yOk a) ∧ yPf u = pre ++ (yBu as (yCo c) ++ post) ∧ fX6_findRedex NF 393 m = some (1, m2) ∧ qI m2 393 9 = nI pre.length ∧ ∀ k, k < arN c → qI m2 397 k = nI ((yPos (pre.length + 1) as).getD k (0, 0)).1 ∧ qI m2 398 k = nI ((yPos (pre.length + 1) as).getD k (0, 0)).2) := by
  have hlen := yPf_len t
  obtain ⟨m2, q1, q2, q3⟩ := c_fr (L := yPf t) (by omega) (yPf_lt ho) (yPf t) 0 NF m hT hg rfl (by unfold NF; omega) (by omega)
  refine ⟨m2, q1, q2, ?_⟩
  cases hr : yRd t with
  | none =>
    have hn := yFr_no ho hr
    rcases q3 with ⟨a1, a2⟩ | ⟨p, l, a1, -⟩
    · refine Or.inl ⟨rfl, ?_⟩
      unfold fX6_findRedex
      exact ETl a2 rfl
    · rw [hn] at a1; cases a1
  | some u =>
    obtain ⟨pre, c, as, post, e1, e2, e3, e4, e5, e6⟩ := yFr_yes ho hr
    rcases q3 with ⟨a1, -⟩ | ⟨p, l, a1, a2, a3, a4, a5⟩
    · rw [e6] at a1; cases a1
    · rw [e6] at a1
      injection a1 with a1
      injection a1 with a6 a7
      subst a6
      subst a7
      have hcc : (yPf t).getD pre.length 0 = c := by
        rw [e1, List.getD_eq_getElem?_getD, List.getElem?_append_right (Nat.le_refl _), Nat.sub_self]; rfl
      rw [hcc] at a5
      refine Or.inr ⟨u, pre, c, as, post, rfl, e1, e2, e3, e4, e5, ?_, a4, a5⟩
      unfold fX6_findRedex
      exact ETr a3 rfl
end
