-- ===== a program, a step at a time =====
theorem EgI {α : Type} {m : qM} {a c k : Nat} {v : Int32} {f : Int32 → Option α} {R : Option α} (h1 : qK m a = c) (h2 : qI m a k = v) (h : f v = R) : (qgI m a c k).bind f = R := by rw [qP.1 m a c k h1, Option.bind_some, h2, h]
theorem EgR {α : Type} {m : qM} {a c k v : Nat} {f : Nat → Option α} {R : Option α} (h1 : qK m a = c) (h2 : qR m a k = some v) (h : f v = R) : (qgR m a c k).bind f = R := by rw [qP.2.1 m a c k h1, h2, Option.bind_some, h]
theorem EpI {α : Type} {m : qM} {a c k : Nat} {v w : Int32} {f : qM → Option α} {R : Option α} (h1 : qK m a = c) (hv : v = w) (h : f (qsI m a k w) = R) : (qpI m a c k v).bind f = R := by rw [← hv] at h; rw [qP.2.2.1 m a c k v h1, Option.bind_some, h]
theorem EpR {α : Type} {m : qM} {a c k v : Nat} {f : qM → Option α} {R : Option α} (h1 : qK m a = c) (h : f (qsR m a k (some v)) = R) : (qpR m a c k v).bind f = R := by rw [qP.2.2.2.1 m a c k v h1, Option.bind_some, h]
theorem EaI {α : Type} {m : qM} {a c i : Nat} {x v : Int32} {f : Int32 → Option α} {R : Option α} (h1 : qK m a = c) (hx : x = nI i) (h2 : i < qN m a) (h3 : i < 2 ^ 31) (h4 : qI m a i = v) (h : f v = R) : (qaI m a c x).bind f = R := by rw [hx, qP.2.2.2.2.1 m a c i h1 h2 h3, Option.bind_some, h4, h]
theorem EaL {α : Type} {m : qM} {a i : Nat} {x : Int32} {v : Int64} {f : Int64 → Option α} {R : Option α} (h1 : qK m a = 13) (hx : x = nI i) (h2 : i < qN m a) (h3 : i < 2 ^ 31) (h4 : qL m a i = v) (h : f v = R) : (qaL m a x).bind f = R := by rw [hx, qP.2.2.2.2.2.1 m a i h1 h2 h3, Option.bind_some, h4, h]
theorem EaR {α : Type} {m : qM} {a c i v : Nat} {x : Int32} {f : Nat → Option α} {R : Option α} (h1 : qK m a = c) (hx : x = nI i) (h2 : i < qN m a) (h3 : i < 2 ^ 31) (h4 : qR m a i = some v) (h : f v = R) : (qaR m a c x).bind f = R := by rw [hx, qP.2.2.2.2.2.2.1 m a c i h1 h2 h3, h4, Option.bind_some, h]
theorem EwI {α : Type} {m : qM} {a c i : Nat} {x v w : Int32} {f : qM → Option α} {R : Option α} (h1 : qK m a = c) (hx : x = nI i) (h2 : i < qN m a) (h3 : i < 2 ^ 31) (hv : v = w) (h : f (qsI m a i w) = R) : (qwI m a c x v).bind f = R := by rw [← hv] at h; rw [hx, qP.2.2.2.2.2.2.2.1 m a c i v h1 h2 h3, Option.bind_some, h]
theorem EwL {α : Type} {m : qM} {a i : Nat} {x : Int32} {v : Int64} {f : qM → Option α} {R : Option α} (h1 : qK m a = 13) (hx : x = nI i) (h2 : i < qN m a) (h3 : i < 2 ^ 31) (h : f (qsL m a i v) = R) : (qwL m a x v).bind f = R := by rw [hx, qP.2.2.2.2.2.2.2.2 m a i v h1 h2 h3, Option.bind_some, h]
theorem EC {α β : Type} {m : qM} {a c : Nat} {P : Option β} {b : β} {f : β → Option α} {R : Option α} (h1 : qK m a = c) (h2 : P = some b) (h : f b = R) : (qChk m a c P).bind f = R := by rw [qChk_ m a c P h1, h2, Option.bind_some, h]
theorem EC0 {α : Type} {m : qM} {a c : Nat} {P R : Option α} (h1 : qK m a = c) (h : P = R) : qChk m a c P = R := by rw [qChk_ m a c P h1, h]
theorem EB {α β : Type} {P : Option β} {b : β} {f : β → Option α} {R : Option α} (h2 : P = some b) (h : f b = R) : P.bind f = R := by rw [h2, Option.bind_some, h]
theorem EIp {α : Type} {c : Prop} [Decidable c] {x y R : α} (h1 : c) (h : x = R) : (if c then x else y) = R := by rw [if_pos h1, h]
theorem EIn {α : Type} {c : Prop} [Decidable c] {x y R : α} (h1 : ¬ c) (h : y = R) : (if c then x else y) = R := by rw [if_neg h1, h]
theorem nI_s (a : Nat) : nI a + (1 : Int32) = nI (a + 1) := nI_add a 1
theorem nI_s2 (a : Nat) : nI a + (2 : Int32) = nI (a + 2) := nI_add a 2
theorem nI_p {a : Nat} (h : 1 ≤ a) : nI a + (-1 : Int32) = nI (a - 1) := by
  obtain ⟨b, rfl⟩ : ∃ b, a = b + 1 := ⟨a - 1, by omega⟩
  rw [← nI_s, Int32.add_assoc, show (1 : Int32) + -1 = 0 from by decide, Int32.add_zero]
  rfl
theorem nI_p0 : nI 0 + (-1 : Int32) = -1 := by decide
theorem nI_m1 {a : Nat} (h : 1 ≤ a) : nI a - (1 : Int32) = nI (a - 1) := pk_sub h
