def NF : Nat := 7000
def qM0 : qM := (fun _ _ => 0, fun _ _ => 0, fun _ _ => none, fun _ => 99, fun _ => 0, 0)
-- ===== reading behind writing =====
theorem qS : (∀ m a k v, qK (qsI m a k v) = qK m) ∧ (∀ m a k v, qN (qsI m a k v) = qN m) ∧ (∀ m a k v, qT (qsI m a k v) = qT m) ∧ (∀ m a k v, qR (qsI m a k v) = qR m) ∧ (∀ m a k v, qL (qsI m a k v) = qL m)
  ∧ (∀ m a k v, qK (qsL m a k v) = qK m) ∧ (∀ m a k v, qN (qsL m a k v) = qN m) ∧ (∀ m a k v, qT (qsL m a k v) = qT m) ∧ (∀ m a k v, qR (qsL m a k v) = qR m) ∧ (∀ m a k v, qI (qsL m a k v) = qI m)
  ∧ (∀ m a k v, qK (qsR m a k v) = qK m) ∧ (∀ m a k v, qN (qsR m a k v) = qN m) ∧ (∀ m a k v, qT (qsR m a k v) = qT m) ∧ (∀ m a k v, qI (qsR m a k v) = qI m) ∧ (∀ m a k v, qL (qsR m a k v) = qL m)
  ∧ (∀ m a g, qK (qsA m a g) = qK m) ∧ (∀ m a g, qN (qsA m a g) = qN m) ∧ (∀ m a g, qT (qsA m a g) = qT m) ∧ (∀ m a g, qR (qsA m a g) = qR m) ∧ (∀ m a g, qL (qsA m a g) = qL m)
  ∧ (∀ m a k v b j, qI (qsI m a k v) b j = if b = a then (if j = k then v else qI m b j) else qI m b j)
  ∧ (∀ m a k v b j, qL (qsL m a k v) b j = if b = a then (if j = k then v else qL m b j) else qL m b j)
  ∧ (∀ m a k v b j, qR (qsR m a k v) b j = if b = a then (if j = k then v else qR m b j) else qR m b j)
  ∧ (∀ m a g b j, qI (qsA m a g) b j = if b = a then g j else qI m b j) :=
  ⟨fun _ _ _ _ => rfl, fun _ _ _ _ => rfl, fun _ _ _ _ => rfl, fun _ _ _ _ => rfl, fun _ _ _ _ => rfl, fun _ _ _ _ => rfl, fun _ _ _ _ => rfl, fun _ _ _ _ => rfl, fun _ _ _ _ => rfl, fun _ _ _ _ => rfl, fun _ _ _ _ => rfl, fun _ _ _ _ => rfl, fun _ _ _ _ => rfl, fun _ _ _ _ => rfl, fun _ _ _ _ => rfl, fun _ _ _ => rfl, fun _ _ _ => rfl, fun _ _ _ => rfl, fun _ _ _ => rfl, fun _ _ _ => rfl, fun _ _ _ _ _ _ => rfl, fun _ _ _ _ _ _ => rfl, fun _ _ _ _ _ _ => rfl, fun _ _ _ _ _ => rfl⟩
-- ===== numbers, primitives =====
theorem lits : ((0 : Int32) = nI 0) ∧ ((1 : Int32) = nI 1) ∧ ((2 : Int32) = nI 2) ∧ ((3 : Int32) = nI 3) ∧ ((4 : Int32) = nI 4) ∧ ((5 : Int32) = nI 5) ∧ ((6 : Int32) = nI 6) ∧ ((7 : Int32) = nI 7) ∧ ((8 : Int32) = nI 8) ∧ ((9 : Int32) = nI 9) ∧ ((10 : Int32) = nI 10) ∧ ((12 : Int32) = nI 12) ∧ ((16 : Int32) = nI 16) ∧ ((17 : Int32) = nI 17) ∧ ((26 : Int32) = nI 26) ∧ ((33 : Int32) = nI 33) ∧ ((39 : Int32) = nI 39) ∧ ((40 : Int32) = nI 40) ∧ ((41 : Int32) = nI 41) ∧ ((48 : Int32) = nI 48) ∧ ((49 : Int32) = nI 49) ∧ ((50 : Int32) = nI 50) ∧ ((57 : Int32) = nI 57) ∧ ((60 : Int32) = nI 60) ∧ ((63 : Int32) = nI 63) ∧ ((64 : Int32) = nI 64) ∧ ((67 : Int32) = nI 67) ∧ ((68 : Int32) = nI 68) ∧ ((78 : Int32) = nI 78) ∧ ((80 : Int32) = nI 80) ∧ ((97 : Int32) = nI 97) ∧ ((99 : Int32) = nI 99) ∧ ((100 : Int32) = nI 100) ∧ ((120 : Int32) = nI 120) ∧ ((121 : Int32) = nI 121) ∧ ((122 : Int32) = nI 122) ∧ ((126 : Int32) = nI 126) ∧ ((156 : Int32) = nI 156) ∧ ((160 : Int32) = nI 160) ∧ ((181 : Int32) = nI 181) ∧ ((240 : Int32) = nI 240) ∧ ((255 : Int32) = nI 255) ∧ ((400 : Int32) = nI 400) ∧ ((1023 : Int32) = nI 1023) ∧ ((3900 : Int32) = nI 3900) ∧ ((7000 : Int32) = nI 7000) ∧ ((7059 : Int32) = nI 7059) := ⟨rfl, rfl, rfl, rfl, rfl, rfl, rfl, rfl, rfl, rfl, rfl, rfl, rfl, rfl, rfl, rfl, rfl, rfl, rfl, rfl, rfl, rfl, rfl, rfl, rfl, rfl, rfl, rfl, rfl, rfl, rfl, rfl, rfl, rfl, rfl, rfl, rfl, rfl, rfl, rfl, rfl, rfl, rfl, rfl, rfl, rfl, rfl⟩
theorem nA : (∀ a b, nI a + nI b = nI (a + b)) ∧ (∀ a b, a < 2 ^ 31 → b < 2 ^ 31 → (nI a ≤ nI b) = (a ≤ b)) ∧ (∀ a b, a < 2 ^ 31 → b < 2 ^ 31 → (nI a < nI b) = (a < b)) ∧ (∀ a b, a < 2 ^ 31 → b < 2 ^ 31 → (nI a = nI b) = (a = b)) ∧ (∀ a, a < 2 ^ 31 → (nI a).toNatClampNeg = a) ∧ (∀ a b, b ≤ a → nI a - nI b = nI (a - b)) ∧ (∀ a b, nI a * nI b = nI (a * b)) :=
  ⟨nI_add, fun _ _ h1 h2 => propext (nI_leI h1 h2), fun _ _ h1 h2 => propext (nI_ltI h1 h2), fun _ _ h1 h2 => propext (nI_eq h1 h2), fun _ h => nI_clamp h, fun _ _ h => pk_sub h, pk_mul⟩
theorem qP : (∀ m a c k, qK m a = c → qgI m a c k = some (qI m a k)) ∧ (∀ m a c k, qK m a = c → qgR m a c k = qR m a k) ∧ (∀ m a c k v, qK m a = c → qpI m a c k v = some (qsI m a k v)) ∧ (∀ m a c k v, qK m a = c → qpR m a c k v = some (qsR m a k (some v)))
  ∧ (∀ m a c i, qK m a = c → i < qN m a → i < 2 ^ 31 → qaI m a c (nI i) = some (qI m a i)) ∧ (∀ m a i, qK m a = 13 → i < qN m a → i < 2 ^ 31 → qaL m a (nI i) = some (qL m a i)) ∧ (∀ m a c i, qK m a = c → i < qN m a → i < 2 ^ 31 → qaR m a c (nI i) = qR m a i)
  ∧ (∀ m a c i v, qK m a = c → i < qN m a → i < 2 ^ 31 → qwI m a c (nI i) v = some (qsI m a i v)) ∧ (∀ m a i v, qK m a = 13 → i < qN m a → i < 2 ^ 31 → qwL m a (nI i) v = some (qsL m a i v)) := by
  have cl : ∀ {i : Nat}, i < 2 ^ 31 → (nI i).toNatClampNeg = i := fun h => nI_clamp h
  refine ⟨fun m a c k h => if_pos h, fun m a c k h => if_pos h, fun m a c k v h => if_pos h, fun m a c k v h => if_pos h, ?_, ?_, ?_, ?_, ?_⟩
  · intro m a c i h1 h2 h3
    unfold qaI
    rw [cl h3, if_pos ⟨h1, nI_pos h3, h2⟩]
  · intro m a i h1 h2 h3
    unfold qaL
    rw [cl h3, if_pos ⟨h1, nI_pos h3, h2⟩]
  · intro m a c i h1 h2 h3
    unfold qaR
    rw [cl h3, if_pos ⟨h1, nI_pos h3, h2⟩]
  · intro m a c i v h1 h2 h3
    unfold qwI
    rw [cl h3, if_pos ⟨h1, nI_pos h3, h2⟩]
  · intro m a i v h1 h2 h3
    unfold qwL
    rw [cl h3, if_pos ⟨h1, nI_pos h3, h2⟩]
theorem qChk_ {α : Type} (m : qM) (a c : Nat) (P : Option α) (h : qK m a = c) : qChk m a c P = P := if_pos h
