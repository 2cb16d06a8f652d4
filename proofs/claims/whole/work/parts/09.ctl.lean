-- ===== the receiver's kind; loops; switches; arraycopy =====
def qChk {α : Type} (m : qM) (a c : Nat) (P : Option α) : Option α := if qK m a = c then P else none
/-- a loop that may also return from the method -/
def qTh {α β γ : Type} (L : Option (β ⊕ γ)) (K : β → Option α) (w : γ → α) : Option α := L.bind (fun o => match o with
  | .inl b => K b
  | .inr r => some (w r))
def qcpy (m : qM) (a0 : Nat) (sp : Int32) (a : Nat) (dp n : Int32) : Option qM := if qK m a0 = 12 ∧ qK m a = 12 ∧ (¬ sp < 0 ∧ ¬ dp < 0 ∧ ¬ n < 0) ∧ sp.toNatClampNeg + n.toNatClampNeg ≤ qN m a0 ∧ dp.toNatClampNeg + n.toNatClampNeg ≤ qN m a then some (qsA m a (va_cpy (qI m a0) (qI m a) sp.toNatClampNeg dp.toNatClampNeg n.toNatClampNeg)) else none
section JCTL
variable {E : qE} {y : MethodName} {cc : ByteArray} {nL : Nat} {ret : Option FieldType} {Ex : State → Prop} {d bc bs pc : Nat} {lv : List (Nat × Value)} {st : List Value} {m : qM} {α : Type} {P : Option α} {G : α → qRR → Prop}
theorem j_callVc {β : Type} {np idx n cb cs ci a dd nL2 : Nat} {y2 : MethodName} {cc2 : ByteArray} {ret2 : Option FieldType} {As st2 : List Value} {r0 : vw_C} {F : Option β} {K : β → Option α} {val : β → Option Value} {mem : β → qM}
    (hcal : qCal y2 cc2 nL2 ret2 n) (hlk : Cond.methodLink y.cls idx y2 ∈ qTb) (him : Cond.instanceMethod y2 ∈ qTb) (hsel : Cond.selects y2.cls y2 y2 ∈ qTb) (hci : vwCl[ci]? = some r0) (hci2 : r0.1 = y2.cls) (hci3 : ci < 11)
    (hrun : ∀ b, F = some b → qRun E y2 cc2 nL2 ret2 dd cb cs (.ref (E.2.1 + a) :: As) m (val b, mem b)) (hd : dd + 1 ≤ d) (hAs : As.length = n) (hst : st2 = As.reverse ++ .ref (E.2.1 + a) :: st) (hw : (st.map fun v => v.category).sum ≤ 8) (hdg : decode cc pc = .ok (.invokevirtual idx, 3)) (hn : pc + 3 = np)
    (kk : ∀ b : β, qB E y cc nL ret Ex d bc bs np lv ((val b).toList ++ st) (mem b) (K b) G) : qB E y cc nL ret Ex d (bc + cb) (bs + cs) pc lv st2 m ((qChk m a ci F).bind K) G := by
  refine j_callV hcal hlk him hsel hci hci2 hci3 ?_ (fun b hb => hrun b ?_) hd hAs hst hw hdg hn kk
  · unfold qChk
    by_cases h : qK m a = ci
    · exact Or.inr h
    · exact Or.inl (if_neg h)
  · unfold qChk at hb
    by_cases h : qK m a = ci
    · rw [if_pos h] at hb; exact hb
    · rw [if_neg h] at hb; cases hb
theorem j_exit {w : α} (h : ∀ rr, G w rr → qJ E y cc nL ret Ex d bc bs pc lv st m rr) : qB E y cc nL ret Ex d bc bs pc lv st m (some w) G := fun a rr hP hG => by cases hP; exact h rr hG
theorem j_split {C : Prop} [Decidable C] {P1 P2 : Option α} (k1 : C → qB E y cc nL ret Ex d bc bs pc lv st m P1 G) (k2 : ¬ C → qB E y cc nL ret Ex d bc bs pc lv st m P2 G) : qB E y cc nL ret Ex d bc bs pc lv st m (if C then P1 else P2) G := by
  intro a rr hP
  by_cases h : C
  · rw [if_pos h] at hP; exact k1 h a rr hP
  · rw [if_neg h] at hP; exact k2 h a rr hP
theorem j_loop {β : Type} {b1 b2 xp : Nat} {L : Option β} {K : β → Option α} {lvX : β → List (Nat × Value)} {mX : β → qM} (hL : qB E y cc nL ret Ex d b1 b2 pc lv [] m L (fun o rr => qJ E y cc nL ret Ex d bc bs xp (lvX o) [] (mX o) rr)) (kk : ∀ o : β, qB E y cc nL ret Ex d bc bs xp (lvX o) [] (mX o) (K o) G) : qB E y cc nL ret Ex d b1 b2 pc lv [] m (L.bind K) G := by
  intro a rr hP hG
  cases hLo : L with
  | none => rw [hLo] at hP; cases hP
  | some o => rw [hLo] at hP; exact hL o rr hLo (kk o a rr hP hG)
theorem j_loopR {β γ : Type} {b1 b2 xp : Nat} {L : Option (β ⊕ γ)} {K : β → Option α} {w : γ → α} {fin : γ → qRR} {lvX : β → List (Nat × Value)} {mX : β → qM} (hL : qB E y cc nL ret Ex d b1 b2 pc lv [] m L (fun o rr => match o with
    | .inl b => qJ E y cc nL ret Ex d bc bs xp (lvX b) [] (mX b) rr
    | .inr r => rr = fin r)) (hw : ∀ r rr, G (w r) rr → rr = fin r) (kk : ∀ o : β, qB E y cc nL ret Ex d bc bs xp (lvX o) [] (mX o) (K o) G) : qB E y cc nL ret Ex d b1 b2 pc lv [] m (qTh L K w) G := by
  intro a rr hP hG
  unfold qTh at hP
  cases hLo : L with
  | none => rw [hLo] at hP; cases hP
  | some o =>
    rw [hLo] at hP
    cases o with
    | inl b => exact hL _ rr hLo (kk b a rr hP hG)
    | inr r =>
      have hP2 : w r = a := Option.some.inj hP
      subst hP2
      exact hL _ rr hLo (hw r rr hG)
theorem j_lookup {dflt : Int} {ps : Array (Int × Int)} {len : Nat} {x : Int32} {off : Int} {tgt : Nat} (hdg : decode cc pc = .ok (.lookupswitch dflt ps, len)) (hp : (ps.toList.zip (ps.toList.drop 1)).all (fun (a, next) => a.1 < next.1) = true) (ho : Op.lookupswitch.offset ps.toList dflt x.toInt = off) (ht : (pc : Int) + off = (tgt : Int)) (k : qB E y cc nL ret Ex d bc bs tgt lv st m P G) : qB E y cc nL ret Ex d bc bs pc lv (.int x :: st) m P G := by
  intro a rr hP hG p e R s mi args below meth c H locs cells slots mc ms ls Qf S hR hS hc hs hl
  exact lv_lookup S.1.1 S.1.2.1 hdg hp ho ht (k a rr hP hG p e R s mi args below meth c H locs cells slots mc ms ls Qf S hR hS hc hs hl)
theorem j_tableOut {dflt lo hi : Int} {offs : Array Int} {len : Nat} {x : Int32} {tgt : Nat} (hdg : decode cc pc = .ok (.tableswitch dflt lo hi offs, len)) (h : x.toInt < lo ∨ hi < x.toInt) (ht : (pc : Int) + dflt = (tgt : Int)) (k : qB E y cc nL ret Ex d bc bs tgt lv st m P G) : qB E y cc nL ret Ex d bc bs pc lv (.int x :: st) m P G := by
  intro a rr hP hG p e R s mi args below meth c H locs cells slots mc ms ls Qf S hR hS hc hs hl
  exact lv_tableOut S.1.1 S.1.2.1 hdg h ht (k a rr hP hG p e R s mi args below meth c H locs cells slots mc ms ls Qf S hR hS hc hs hl)
theorem j_tableIn {dflt lo hi : Int} {offs : Array Int} {len : Nat} {x : Int32} {off : Int} {tgt : Nat} (hdg : decode cc pc = .ok (.tableswitch dflt lo hi offs, len)) (h1 : ¬ x.toInt < lo) (h2 : ¬ hi < x.toInt) (ho : offs[(x.toInt - lo).toNat]? = some off) (ht : (pc : Int) + off = (tgt : Int)) (k : qB E y cc nL ret Ex d bc bs tgt lv st m P G) : qB E y cc nL ret Ex d bc bs pc lv (.int x :: st) m P G := by
  intro a rr hP hG p e R s mi args below meth c H locs cells slots mc ms ls Qf S hR hS hc hs hl
  exact lv_tableIn S.1.1 S.1.2.1 hdg h1 h2 ho ht (k a rr hP hG p e R s mi args below meth c H locs cells slots mc ms ls Qf S hR hS hc hs hl)
/-- the length of an array of ints -/
theorem j_len {np a : Nat} {K : Int32 → Option α} (hdg : decode cc pc = .ok (.arraylength, 1)) (hn : pc + 1 = np) (kk : ∀ v : Int32, qB E y cc nL ret Ex d bc bs np lv (.int v :: st) m (K v) G) : qB E y cc nL ret Ex d bc bs pc lv (.ref (E.2.1 + a) :: st) m ((if qK m a = 12 then some (Int32.ofNat (qN m a)) else none).bind K) G := by
  intro a1 rr hP hG p e R s mi args below meth c H locs cells slots mc ms ls Qf S hR hS hc hs hl
  subst hn
  by_cases hK : qK m a = 12
  · rw [if_pos hK] at hP
    exact va_alen S.1.1 S.1.2.1 S.1.2.2.2.2.2.1.1 hR.1 a 1 (qget_i hR hK (by omega)) rfl rfl hdg (kk _ a1 rr hP hG p e R s mi args below meth c H locs cells slots mc ms ls Qf S hR hS hc hs hl)
  · rw [if_neg hK] at hP; cases hP
theorem j_copy {np idx a0 a : Nat} {sp dp n : Int32} {K : qM → Option α} (hlk : Cond.methodLink y.cls idx arraycopyName ∈ qTb) (h1 : Cond.native arraycopyName ∈ qTb) (h2 : Cond.static arraycopyName ∈ qTb) (h3 : Cond.initialized "java/lang/System" ∈ qTb) (hd : 1 ≤ d) (hw : (st.map fun v => v.category).sum ≤ 8) (hdg : decode cc pc = .ok (.invokestatic idx, 3)) (hn : pc + 3 = np) (kk : ∀ m2 : qM, qB E y cc nL ret Ex d bc bs np lv st m2 (K m2) G) : qB E y cc nL ret Ex d bc bs pc lv (.int n :: .int dp :: .ref (E.2.1 + a) :: .int sp :: .ref (E.2.1 + a0) :: st) m ((qcpy m a0 sp a dp n).bind K) G := by
  intro a1 rr hP hG p e R s mi args below meth c H locs cells slots mc ms ls Qf S hR hS hc hs hl
  subst hn
  obtain ⟨⟨hx, hb, hml, hown, hts, hTb, hbase, hname, hEx⟩, ⟨r1, r2, r3, r4⟩, r5⟩ := id S
  unfold qcpy at hP
  by_cases hK : qK m a0 = 12 ∧ qK m a = 12 ∧ (¬ sp < 0 ∧ ¬ dp < 0 ∧ ¬ n < 0) ∧ sp.toNatClampNeg + n.toNatClampNeg ≤ qN m a0 ∧ dp.toNatClampNeg + n.toNatClampNeg ≤ qN m a
  · rw [if_pos hK] at hP
    obtain ⟨k0, k1, ⟨g1, g2, g3⟩, g4, g5⟩ := hK
    have nn : ∀ z : Int32, ¬ z < 0 → z.toInt = (z.toNatClampNeg : Int) := by
      intro z hz
      have hz0 : (0 : Int) ≤ z.toInt := by
        have := Int32.not_lt.mp hz
        simpa using Int32.le_iff_toInt_le.mp this
      show z.toInt = ((z.toInt.toNat : Nat) : Int)
      omega
    intro T hT X
    have hc0 : H[E.2.1 + a0]? = some (vp_cell (E.2.2.2.1 12) (qN m a0, .inl (qI m a0))) := hR.1 a0 _ (qget_i hR k0 (by omega))
    have hc1 : H[E.2.1 + a]? = some (vp_cell (E.2.2.2.1 12) (qN m a, .inl (qI m a))) := hR.1 a _ (qget_i hR k1 (by omega))
    obtain ⟨-, kA, hkA, cmA, hkkA⟩ := (hTb.1.2 1 (E.2.2.2.1 12, .int) rfl).1 0 (fun _ => .int 0)
    obtain ⟨vm', X', step⟩ := X.arraycopy hx hown (hts _ hlk) (hts _ h1) (hts _ h2) (hts _ h3) (src := E.2.1 + a0) (dst := E.2.1 + a) (cs := vp_cell (E.2.2.2.1 12) (qN m a0, .inl (qI m a0))) (cd := vp_cell (E.2.2.2.1 12) (qN m a, .inl (qI m a))) (srcPos := sp) (destPos := dp) (n := n) (by rw [hT]; exact hc0) (by rw [hT]; exact hc1)
      (fun _ h => by cases h) (fun _ h => by cases h) (fun h => by cases h) (fun h => by cases h) hkA hkA hkkA hkkA (by simp [refKind]) g1 g2 g3
      (by rw [nn sp g1, nn n g3]; show ¬ _ > ((arrV _ (qN m a0) (fun j => .int (qI m a0 j))).slots.size : Int); rw [arrV_size]; omega)
      (by rw [nn dp g2, nn n g3]; show ¬ _ > ((arrV _ (qN m a) (fun j => .int (qI m a j))).slots.size : Int); rw [arrV_size]; omega)
      (fun vm₁ _ i hi => by
        have e : (vp_cell (E.2.2.2.1 12) (qN m a0, .inl (qI m a0))).slots.getD (sp.toNatClampNeg + i) .null = .int (qI m a0 (sp.toNatClampNeg + i)) := by
          show (arrV _ (qN m a0) (fun j => .int (qI m a0 j))).slots.getD _ _ = _
          rw [Array.getD_eq_getD_getElem?, arrV_read _ _ (by omega)]
          rfl
        refine ⟨?_, ?_⟩
        · rw [e]
          rfl
        · rw [e]
          exact trivial)
      (g := F0 mi pc ls (.int n :: .int dp :: .ref (E.2.1 + a) :: .int sp :: .ref (E.2.1 + a0) :: st)) rfl (by rw [hml]; exact hl.1) (rest := st) rfl (by rw [hb]; exact hdg) (by omega) (by
        have e9 : nativeFrameWords "java/lang/System" "arraycopy" 5 = 7 := by decide
        show 2 * 0 + _ + _ ≤ _
        rw [e9]; omega)
    have e1 : copied (vp_cell (E.2.2.2.1 12) (qN m a0, .inl (qI m a0))) (vp_cell (E.2.2.2.1 12) (qN m a, .inl (qI m a))) sp dp n = vp_cell (E.2.2.2.1 12) (qN m a, .inl (va_cpy (qI m a0) (qI m a) sp.toNatClampNeg dp.toNatClampNeg n.toNatClampNeg)) := va_copied (fun z => .int z) _ _ (qI m a0) (qI m a) g4
    rw [e1] at X' step
    have hla : E.2.1 + a < H.size := (Array.getElem?_eq_some_iff.mp hc1).1
    have hK2 : qK (qsA m a (va_cpy (qI m a0) (qI m a) sp.toNatClampNeg dp.toNatClampNeg n.toNatClampNeg)) a = 12 := k1
    have hI2 : qI (qsA m a (va_cpy (qI m a0) (qI m a) sp.toNatClampNeg dp.toNatClampNeg n.toNatClampNeg)) a = va_cpy (qI m a0) (qI m a) sp.toNatClampNeg dp.toNatClampNeg n.toNatClampNeg := qur_eq
    have hheap : ((T.setVm vm').setCell (E.2.1 + a) (vp_cell (E.2.2.2.1 12) (qN m a, .inl (va_cpy (qI m a0) (qI m a) sp.toNatClampNeg dp.toNatClampNeg n.toNatClampNeg)))).heap = H.setIfInBounds (E.2.1 + a) (vp_cell (E.2.2.2.1 12) (qN m a, .inl (va_cpy (qI m a0) (qI m a) sp.toNatClampNeg dp.toNatClampNeg n.toNatClampNeg))) := by rw [← hT]; rfl
    have oq : ∀ q : Nat, q ≠ E.2.1 + a → (H.setIfInBounds (E.2.1 + a) (vp_cell (E.2.2.2.1 12) (qN m a, .inl (va_cpy (qI m a0) (qI m a) sp.toNatClampNeg dp.toNatClampNeg n.toNatClampNeg))))[q]? = H[q]? := fun q hq => by simp [Array.getElem?_setIfInBounds, Ne.symm hq]
    have hR2 : qRel E (qsA m a (va_cpy (qI m a0) (qI m a) sp.toNatClampNeg dp.toNatClampNeg n.toNatClampNeg)) (H.setIfInBounds (E.2.1 + a) (vp_cell (E.2.2.2.1 12) (qN m a, .inl (va_cpy (qI m a0) (qI m a) sp.toNatClampNeg dp.toNatClampNeg n.toNatClampNeg)))) := by
      refine qRel_set hR (qlt hR (by omega) k1) rfl rfl (qc_i hK2 (by omega)) (fun x hx => qc_sA_ne hx) ?_ (by simp) oq
      show (H.setIfInBounds (E.2.1 + a) _)[E.2.1 + a]? = some (vp_cell _ _)
      rw [hI2]
      simp [Array.getElem?_setIfInBounds, hla]
      rfl
    obtain ⟨t, z1, b1⟩ := kk _ a1 rr hP hG p e R s mi args below meth c _ _ cells slots mc ms ls Qf S hR2 ⟨by simp; exact hS.1, fun q w1 w2 => by
        rw [oq q (fun e => w2 (by rw [e]; exact Nat.le_add_right _ _))]
        exact hS.2.1 q w1 w2, fun q hq => by
        rcases List.mem_append.mp hq with h | h
        · exact hS.2.2 q h
        · obtain ⟨z, -, hz⟩ := List.mem_map.mp h
          rw [← hz]
          exact Nat.le_add_right _ _⟩ hc hs hl _ hheap X'
    exact ⟨t, step t z1, b1⟩
  · rw [if_neg hK] at hP; cases hP
end JCTL
