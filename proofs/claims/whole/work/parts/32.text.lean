theorem ch_mod {c : Nat} (h : c < 65536) : ((nI c).toUInt32 % 65536).toInt32 = nI c := by
  rw [pk_char, pk_tn (by omega), Nat.mod_eq_of_lt h]
theorem ch_nar {c : Nat} (h : c < 65536) : (nI c).toUInt32.toUInt16.toUInt32.toInt32 = nI c := by
  have h1 := (pk_charN h).1
  have h2 : narrow .char (.int (nI c)) = .int ((nI c).toUInt32.toUInt16.toUInt32.toInt32) := rfl
  rw [h2] at h1
  exact Value.int.inj h1
-- ===== a text of the class: object t, its row t + 1 =====
def CTx (I : Nat → Nat → Int32) (t : Nat) (ls : List Nat) : Prop := I t 1 = nI ls.length ∧ ls.length ≤ 120 ∧ ∀ i, i < ls.length → I (t + 1) i = nI (ls.getD i 0) ∧ ls.getD i 0 < 65536
def TxS (K N : Nat → Nat) (R : Nat → Nat → Option Nat) (t : Nat) : Prop := K t = 7 ∧ R t 0 = some (t + 1) ∧ K (t + 1) = 11 ∧ N (t + 1) = 120
theorem fX7_length_eq {N t : Nat} {m : qM} (h : qK m t = 7) : fX7_length N t m = some (qI m t 1, m) := by
  simp (disch := assumption) only [fX7_length, qP, Option.bind_some]
theorem fX7_makeEmpty_eq {N t : Nat} {m : qM} (h : qK m t = 7) : fX7_makeEmpty N t m = some (qsI m t 1 0) := by
  simp (disch := assumption) only [fX7_makeEmpty, qP, Option.bind_some]
theorem fX7_at_eq {N t i : Nat} {m : qM} {ls : List Nat} (hs : TxS (qK m) (qN m) (qR m) t) (ht : CTx (qI m) t ls) (hi : i < ls.length) : fX7_at N t (nI i) m = some (nI (ls.getD i 0), m) := by
  obtain ⟨s1, s2, s3, s4⟩ := hs
  obtain ⟨t1, t2, t3⟩ := ht
  obtain ⟨hc, hc2⟩ := t3 i hi
  have hb : i < qN m (t + 1) := by omega
  simp (disch := first | assumption | omega) only [fX7_at, qP, Option.bind_some, s2, hc, ch_nar]
theorem fX7_add_eq {N t c : Nat} {m : qM} {ls : List Nat} (hs : TxS (qK m) (qN m) (qR m) t) (ht : CTx (qI m) t ls) (hl : ls.length < 120) (hc : c < 65536) : fX7_add N t (nI c) m = some (qsI (qsI m (t + 1) ls.length (nI c)) t 1 (nI (ls.length + 1))) := by
  obtain ⟨s1, s2, s3, s4⟩ := hs
  obtain ⟨t1, t2, t3⟩ := ht
  have hb : ls.length < qN m (t + 1) := by omega
  have ht : ¬ t = t + 1 := by omega
  have h120 : ¬ 120 ≤ ls.length := by omega
  simp (disch := first | assumption | omega | (simp only [qS]; assumption)) only [fX7_add, qP, qS, Option.bind_some, s2, t1, lits, nA, ch_nar, h120, ht, ↓reduceIte]
theorem CTx_add {I : Nat → Nat → Int32} {t c : Nat} {ls : List Nat} (ht : CTx I t ls) (hl : ls.length < 120) (hc : c < 65536) : CTx (qu (qu I (t + 1) ls.length (nI c)) t 1 (nI (ls.length + 1))) t (ls ++ [c]) := by
  obtain ⟨t1, t2, t3⟩ := ht
  refine ⟨by simp [qu], by simp; omega, fun i hi => ?_⟩
  have hi2 : i < ls.length + 1 := by simpa using hi
  by_cases he : i = ls.length
  · subst he
    simp [qu, hc]
  · have hi3 : i < ls.length := by omega
    have h := t3 i hi3
    have e : (ls ++ [c]).getD i 0 = ls.getD i 0 := by simp [List.getD_eq_getElem?_getD, List.getElem?_append_left hi3]
    rw [e]
    refine ⟨?_, h.2⟩
    have e1 : ¬ t + 1 = t := by omega
    simp only [qu, e1, he, ↓reduceIte]
    exact h.1
theorem CTx_clear {I : Nat → Nat → Int32} {t : Nat} : CTx (qu I t 1 0) t [] := ⟨by simp [qu]; rfl, by simp, fun i hi => by simp at hi⟩
theorem CTx_of {I I2 : Nat → Nat → Int32} {t : Nat} {ls : List Nat} (h1 : I2 t = I t) (h2 : I2 (t + 1) = I (t + 1)) (ht : CTx I t ls) : CTx I2 t ls := by
  unfold CTx
  rw [h1, h2]
  exact ht
-- ===== which cells may have changed =====
def Fx (D : Nat → Prop) (m m' : qM) : Prop := qK m' = qK m ∧ qN m' = qN m ∧ qR m' = qR m ∧ qT m' = qT m ∧ ∀ a, ¬ D a → qI m' a = qI m a ∧ qL m' a = qL m a
theorem Fx.rf {D : Nat → Prop} {m : qM} : Fx D m m := ⟨rfl, rfl, rfl, rfl, fun _ _ => ⟨rfl, rfl⟩⟩
theorem Fx.tr {D : Nat → Prop} {m1 m2 m3 : qM} (h1 : Fx D m1 m2) (h2 : Fx D m2 m3) : Fx D m1 m3 :=
  ⟨h2.1.trans h1.1, h2.2.1.trans h1.2.1, h2.2.2.1.trans h1.2.2.1, h2.2.2.2.1.trans h1.2.2.2.1, fun a ha => ⟨(h2.2.2.2.2 a ha).1.trans (h1.2.2.2.2 a ha).1, (h2.2.2.2.2 a ha).2.trans (h1.2.2.2.2 a ha).2⟩⟩
theorem Fx.mono {D D' : Nat → Prop} {m1 m2 : qM} (h : Fx D m1 m2) (hd : ∀ a, D a → D' a) : Fx D' m1 m2 := ⟨h.1, h.2.1, h.2.2.1, h.2.2.2.1, fun a ha => h.2.2.2.2 a (fun q => ha (hd a q))⟩
theorem Fx.sI {D : Nat → Prop} {m1 m2 : qM} {a k : Nat} {v : Int32} (h : Fx D m1 m2) (hd : D a) : Fx D m1 (qsI m2 a k v) :=
  h.tr ⟨rfl, rfl, rfl, rfl, fun b hb => ⟨qu_ne (fun e => hb (by rw [e]; exact hd)), rfl⟩⟩
theorem Fx.sA {D : Nat → Prop} {m1 m2 : qM} {a : Nat} {g : Nat → Int32} (h : Fx D m1 m2) (hd : D a) : Fx D m1 (qsA m2 a g) :=
  h.tr ⟨rfl, rfl, rfl, rfl, fun b hb => ⟨qur_ne (fun e => hb (by rw [e]; exact hd)), rfl⟩⟩
theorem Fx.sL {D : Nat → Prop} {m1 m2 : qM} {a k : Nat} {v : Int64} (h : Fx D m1 m2) (hd : D a) : Fx D m1 (qsL m2 a k v) :=
  h.tr ⟨rfl, rfl, rfl, rfl, fun b hb => ⟨rfl, qu_ne (fun e => hb (by rw [e]; exact hd))⟩⟩
theorem Fx.X {D : Nat → Prop} {m1 m2 : qM} (h : Fx D m1 m2) (x : XS (qK m1) (qN m1) (qR m1)) : XS (qK m2) (qN m2) (qR m2) := by rw [h.1, h.2.1, h.2.2.1]; exact x
theorem Fx.M {D : Nat → Prop} {m1 m2 : qM} (h : Fx D m1 m2) (x : MS (qK m1) (qN m1) (qR m1)) : MS (qK m2) (qN m2) (qR m2) := by rw [h.1, h.2.1, h.2.2.1]; exact x
theorem Fx.i {D : Nat → Prop} {m1 m2 : qM} (h : Fx D m1 m2) {a : Nat} (ha : ¬ D a) : qI m2 a = qI m1 a := (h.2.2.2.2 a ha).1
theorem Fx.l {D : Nat → Prop} {m1 m2 : qM} (h : Fx D m1 m2) {a : Nat} (ha : ¬ D a) : qL m2 a = qL m1 a := (h.2.2.2.2 a ha).2
theorem i32_of {v : Int32} (h : ¬ v < 33) (h2 : v ≤ 126) : ∃ c : Nat, 33 ≤ c ∧ c ≤ 126 ∧ v = nI c := by
  obtain ⟨j, hj, rfl⟩ := nI_of (x := v) (fun h0 => h (Int32.lt_trans h0 (by decide)))
  have e1 : ¬ nI j < nI 33 := h
  have e2 : nI j ≤ nI 126 := h2
  rw [nI_ltI hj (by omega)] at e1
  rw [nI_leI hj (by omega)] at e2
  exact ⟨j, by omega, by omega, rfl⟩
