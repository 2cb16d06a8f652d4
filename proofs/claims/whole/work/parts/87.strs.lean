section
-- ===== the texts of the types =====
theorem shr0 : ∀ k, k < 12 → Int32.ofNat (qtl k) >>> ((0 : Int32).toInt8.toInt32 &&& 31) = nI (qtl k) := by decide
theorem s_len {N k : Nat} {m : qM} (hk : k < 12) : fJ0_length_8abf5 N k m = some (nI (qtl k), m) := by
  unfold fJ0_length_8abf5 fJ0_coder_7d493 qsv qbl qChs qsc
  simp only [hk, ↓reduceIte, Option.bind_some, i10]
  rw [shr0 k hk]
def tyC : Nat → List Nat
  | 0 => [67, 97, 67, 98, 97]
  | 1 => [67, 67, 97, 67, 98, 99, 67, 67, 97, 98, 67, 97, 99]
  | 2 => [67, 67, 97, 98, 67, 67, 99, 97, 67, 99, 98]
  | 3 => [67, 67, 97, 67, 98, 99, 67, 98, 67, 97, 99]
  | 4 => [67, 67, 97, 67, 97, 98, 67, 97, 98]
  | _ => [67, 97, 97]
theorem ty_len : ∀ k, k < 6 → qtl k = (tyC k).length := by decide
theorem ty_ch : ∀ k, k < 6 → ∀ i, i < (tyC k).length → ((((((qTx.getD k []).getD i 0) &&& (255 : Int32)).toUInt32 % 65536).toInt32).toUInt32.toUInt16.toUInt32.toInt32).toUInt32.toUInt16.toUInt32.toInt32 = nI ((tyC k).getD i 0) := by decide
theorem s_lat {N k : Nat} {m : qM} (hk : k < 12) : ∃ b, fJ0_isLatin1_aae02 N k m = some (b, m) ∧ ¬ b = 0 := by
  unfold fJ0_isLatin1_aae02 qsc
  simp only [hk, ↓reduceIte, Option.bind_some]
  exact ⟨_, rfl, by decide⟩
theorem s_at {N k i : Nat} {m : qM} (hk : k < 6) (hi : i < (tyC k).length) : fJ0_charAt_5068e N k (nI i) m = some (nI ((tyC k).getD i 0), m) := by
  have hl : (tyC k).length < 20 := (by decide : ∀ k, k < 6 → (tyC k).length < 20) k hk
  obtain ⟨b, b1, b2⟩ := s_lat (N := N) (k := k) (m := m) (by omega)
  have hc : (nI i).toNatClampNeg = i := nI_clamp (by omega)
  have h12 : k < 12 := by omega
  have hq := ty_len k hk
  have hba : qba k (nI i) = some ((qTx.getD k []).getD i 0) := by
    unfold qba
    rw [hc, if_pos ⟨h12, nI_pos (by omega), by omega⟩]
  have hci : fJ0_checkIndex_df160 N (nI i) (Int32.ofNat (qtl k)) m = some m := by
    unfold fJ0_checkIndex_df160 fJ3_checkIndex_8e157
    have hlt : nI i < Int32.ofNat (qtl k) := show nI i < nI (qtl k) from (nI_ltI (by omega) (by omega)).mpr (by omega)
    rw [if_neg (nI_pos (by omega)), if_pos hlt]
    rfl
  unfold fJ0_charAt_5068e fJ1_charAt_3b067 qChs qsv qbl
  simp only [h12, ↓reduceIte, b1, Option.bind_some, b2, hci, hba]
  rw [ty_ch k hk i hi]
def lets : List Nat := [83, 75, 73, 66, 67, 87]
def ixL (c : Nat) : Nat := fstF (fun i => decide (lets.getD i 0 = c)) 6 0
theorem b11 : ∀ i, i < 6 → qba 11 (nI i) = some (nI (lets.getD i 0)) := by decide
theorem i8n : ∀ c, c < 128 → (nI c).toInt8.toInt32 = nI c := by decide
theorem s_ix {c : Nat} {m : qM} (hc : c < 128) : fJ0_indexOf_0f7a4 NF 11 (nI c) m = some (if ixL c < 6 then nI (ixL c) else -1, m) := by
  obtain ⟨b, b1, b2⟩ := s_lat (N := NF) (k := 11) (m := m) (by omega)
  obtain ⟨r, e1, e2⟩ := walk (l := fun g (x : Int32) => lJ1_indexOfChar_4cfef_7 NF 11 (nI 6) (nI c) g x m) (J := fun r x => ∃ k, k + r = 6 ∧ x = nI k ∧ fstF (fun i => decide (lets.getD i 0 = c)) r k = ixL c) (Q := fun b => b = (if ixL c < 6 then .inr (nI (ixL c), m) else .inl m)) (fun g r x hj => by
    obtain ⟨k, hk, rfl, hp⟩ := hj
    have hl : lets.getD k 0 < 128 := (by decide : ∀ k, k < 6 → lets.getD k 0 < 128) k (by omega)
    have hpre : ∀ R, (if nI (lets.getD k 0) = nI c then some (.inr (nI k, m)) else lJ1_indexOfChar_4cfef_7 NF 11 (nI 6) (nI c) g (nI (k + 1)) m) = R → lJ1_indexOfChar_4cfef_7 NF 11 (nI 6) (nI c) (g + 1) (nI k) m = R := by
      intro R hR
      unfold lJ1_indexOfChar_4cfef_7
      refine EIn (fun z => by have := (nI_leI (by omega) (by omega)).mp z; omega) ?_
      refine EB (b11 k (by omega)) ?_
      rw [nI_s]
      exact hR
    rw [fstF_s] at hp
    by_cases e : lets.getD k 0 = c
    · rw [if_pos (decide_eq_true e)] at hp
      refine Or.inr ⟨.inr (nI k, m), hpre _ (if_pos (by rw [e])), ?_⟩
      rw [← hp, if_pos (by omega)]
    · rw [if_neg (by rw [decide_eq_false e]; decide)] at hp
      exact Or.inl ⟨nI (k + 1), ⟨k + 1, by omega, rfl, hp⟩, hpre _ (if_neg (fun z => e ((nI_eq (by omega) (by omega)).mp z)))⟩) (fun g x hj => by
    obtain ⟨k, hk, rfl, hp⟩ := hj
    obtain rfl : k = 6 := by omega
    have hp2 : 6 = ixL c := hp
    refine ⟨.inl m, ?_, by rw [if_neg (by omega)]⟩
    show lJ1_indexOfChar_4cfef_7 NF 11 (nI 6) (nI c) (g + 1) (nI 6) m = _
    unfold lJ1_indexOfChar_4cfef_7
    refine EIp (by decide) ?_
    rfl) 6 NF (nI 0) (by unfold NF; omega) ⟨0, by omega, rfl, rfl⟩
  have hq : qtl 11 = 6 := by decide
  have e1' : lJ1_indexOfChar_4cfef_7 NF 11 (nI 6) (nI c) NF 0 m = some r := e1
  have hoc : fJ1_indexOfChar_4cfef NF 11 (nI c) 0 (nI 6) m = some (if ixL c < 6 then nI (ixL c) else -1, m) := by
    unfold fJ1_indexOfChar_4cfef
    rw [i8n c hc, e1', e2]
    by_cases e : ixL c < 6
    · rw [if_pos e, if_pos e]; rfl
    · rw [if_neg e, if_neg e]; rfl
  have hen : fJ1_canEncode_9a6ad NF (nI c) m = some (1, m) := by
    unfold fJ1_canEncode_9a6ad
    rw [if_neg (nI_pos (by omega)), if_neg (fun z => by have := (nI_ltI (a := 255) (by omega) (by omega)).mp z; omega)]
  have hio : fJ1_indexOf_4cfef NF 11 (nI c) 0 (nI 6) m = some (if ixL c < 6 then nI (ixL c) else -1, m) := by
    unfold fJ1_indexOf_4cfef
    refine EB hen ?_
    refine EIn i10 ?_
    refine EB (show qbl 11 = some (nI 6) by decide) ?_
    have c1 : (if (0 : Int32) < (0 : Int32) then (0 : Int32) else 0) = 0 := by decide
    have c2 : (if nI 6 < nI 6 then nI 6 else nI 6) = nI 6 := by decide
    rw [c1, c2]
    refine EIp (by decide) ?_
    refine EB hoc ?_
    rfl
  unfold fJ0_indexOf_0f7a4 fJ0_indexOf_7cf53 qChs qsv
  simp only [show (11 : Nat) < 12 from by decide, ↓reduceIte, b1, Option.bind_some, b2, s_len (N := NF) (m := m) (show (11 : Nat) < 12 by decide), hq, hio]
def tyT : Nat → Tm
  | 0 => .op (.var 0) (.op (.var 1) (.var 0))
  | 1 => .op (.op (.var 0) (.op (.var 1) (.var 2))) (.op (.op (.var 0) (.var 1)) (.op (.var 0) (.var 2)))
  | 2 => .op (.op (.var 0) (.var 1)) (.op (.op (.var 2) (.var 0)) (.op (.var 2) (.var 1)))
  | 3 => .op (.op (.var 0) (.op (.var 1) (.var 2))) (.op (.var 1) (.op (.var 0) (.var 2)))
  | 4 => .op (.op (.var 0) (.op (.var 0) (.var 1))) (.op (.var 0) (.var 1))
  | _ => .op (.var 0) (.var 0)
theorem ty_pol : ∀ k, k < 6 → (tyC k).map (cd 67 97) = pol (tyT k) := by decide
theorem ty_cn : ∀ k, k < 6 → cn [] (pol (tyT k)) = pol (tyT k) := by decide
theorem ty_small : ∀ k, k < 6 → tS (tyT k) ≤ 13 ∧ nv (tyT k) ≤ 3 := by decide
theorem ty_c : ∀ k, k < 6 → ∀ c, c ∈ tyC k → c = 67 ∨ (97 ≤ c ∧ c ≤ 122) := by decide
theorem ty_cT (k : Nat) (hk : k < 6) : cT (tyT k) = tyT k := by
  rcases k with _ | _ | _ | _ | _ | _ | k
  all_goals first
    | omega
    | rfl
theorem ty_okF {k : Nat} (hk : k < 6) : okF (tyT k) := by
  obtain ⟨h1, h2⟩ := ty_small k hk
  refine ⟨?_, by omega, ty_cT k hk⟩
  have : ∀ k, k < 6 → bel 12 (tyT k) := by
    intro k hk v hv
    have h := (by decide : ∀ k, k < 6 → ∀ c, c ∈ pol (tyT k) → c = 99 ∨ c < 12) k hk
    rcases k with _ | _ | _ | _ | _ | _ | k
    all_goals first
      | omega
      | (simp [tyT, ocs] at hv; omega)
  exact this k hk
def tyK (c : Nat) : Nat := if c = 66 then 2 else if c = 67 then 3 else if c = 75 then 0 else if c = 83 then 1 else if c = 87 then 4 else 5
theorem tyK_lt (c : Nat) : tyK c < 6 := by
  unfold tyK
  split
  · omega
  split
  · omega
  split
  · omega
  split
  · omega
  split
  · omega
  omega
theorem ixL_ty : ∀ c, c < 128 → ixL c < 6 → (ixL c = 0 ∧ tyK c = 1) ∨ (ixL c = 1 ∧ tyK c = 0) ∨ (ixL c = 2 ∧ tyK c = 5) ∨ (ixL c = 3 ∧ tyK c = 2) ∨ (ixL c = 4 ∧ tyK c = 3) ∨ (ixL c = 5 ∧ tyK c = 4) := by decide
theorem m_typeOf {c : Nat} {m : qM} (hc : c < 128) (hi : ixL c < 6) : fX10_typeOf NF (nI (ixL c)) m = some (tyK c, m) := by
  rcases ixL_ty c hc hi with ⟨e1, e2⟩ | ⟨e1, e2⟩ | ⟨e1, e2⟩ | ⟨e1, e2⟩ | ⟨e1, e2⟩ | ⟨e1, e2⟩ <;> rw [e1, e2] <;> rfl
theorem c_typeOf {c : Nat} {m : qM} (hc : c < 128) : fX6_typeOf NF (nI c) m = some (tyK c, m) := by
  have e : ∀ d, d < 128 → (nI c = nI d ↔ c = d) := fun d hd => nI_eq (by omega) (by omega)
  have e66 : (nI c = (66 : Int32)) ↔ c = 66 := e 66 (by omega)
  have e67 : (nI c = (67 : Int32)) ↔ c = 67 := e 67 (by omega)
  have e75 : (nI c = (75 : Int32)) ↔ c = 75 := e 75 (by omega)
  have e83 : (nI c = (83 : Int32)) ↔ c = 83 := e 83 (by omega)
  have e87 : (nI c = (87 : Int32)) ↔ c = 87 := e 87 (by omega)
  unfold fX6_typeOf tyK
  simp only [e66, e67, e75, e83, e87]
  by_cases h1 : c = 66
  · simp only [h1, ↓reduceIte]
  by_cases h2 : c = 67
  · simp only [h1, h2, ↓reduceIte]; rfl
  by_cases h3 : c = 75
  · simp only [h1, h2, h3, ↓reduceIte]; rfl
  by_cases h4 : c = 83
  · simp only [h1, h2, h3, h4, ↓reduceIte]; rfl
  by_cases h5 : c = 87
  · simp only [h1, h2, h3, h4, h5, ↓reduceIte]; rfl
  simp only [h1, h2, h3, h4, h5, ↓reduceIte]
end
