section
-- ===== new cells: what lies below 459 stays =====
theorem xs0_tr {K N K2 N2 : Nat → Nat} {R R2 : Nat → Nat → Option Nat} (h : xs0 K N R) (e : ∀ a, a < 459 → K2 a = K a ∧ N2 a = N a ∧ R2 a = R a) : xs0 K2 N2 R2 := by
  obtain ⟨h0, h1, h2, h3, h4, h5, h6, h7, h8, h9, h10, h11, h12, h13⟩ := h
  exact ⟨(e 0 (by decide)).1.trans h0, (congrFun (e 0 (by decide)).2.2 0).trans h1, (congrFun (e 0 (by decide)).2.2 1).trans h2, (congrFun (e 0 (by decide)).2.2 2).trans h3, (congrFun (e 0 (by decide)).2.2 3).trans h4, (congrFun (e 0 (by decide)).2.2 4).trans h5, (congrFun (e 0 (by decide)).2.2 5).trans h6, (congrFun (e 0 (by decide)).2.2 6).trans h7, (congrFun (e 0 (by decide)).2.2 7).trans h8, (congrFun (e 0 (by decide)).2.2 8).trans h9, (congrFun (e 0 (by decide)).2.2 9).trans h10, (congrFun (e 0 (by decide)).2.2 10).trans h11, (congrFun (e 0 (by decide)).2.2 11).trans h12, (congrFun (e 0 (by decide)).2.2 12).trans h13⟩
theorem xsT_tr {K N K2 N2 : Nat → Nat} {R R2 : Nat → Nat → Option Nat} (h : xsT K N R) (e : ∀ a, a < 459 → K2 a = K a ∧ N2 a = N a ∧ R2 a = R a) : xsT K2 N2 R2 := by
  obtain ⟨h0, h1, h2, h3, h4, h5, h6, h7⟩ := h
  exact ⟨(e 1 (by decide)).1.trans h0, (congrFun (e 1 (by decide)).2.2 0).trans h1, (e 2 (by decide)).1.trans h2, (e 2 (by decide)).2.1.trans h3, (e 3 (by decide)).1.trans h4, (congrFun (e 3 (by decide)).2.2 0).trans h5, (e 4 (by decide)).1.trans h6, (e 4 (by decide)).2.1.trans h7⟩
theorem xsL_tr {K N K2 N2 : Nat → Nat} {R R2 : Nat → Nat → Option Nat} (h : xsL K N R) (e : ∀ a, a < 459 → K2 a = K a ∧ N2 a = N a ∧ R2 a = R a) : xsL K2 N2 R2 := by
  obtain ⟨h0, h1, h2, h3, h4, h5, h6, h7, h8, h9, h10, h11, h12, h13, h14, h15, h16, h17, h18, h19⟩ := h
  exact ⟨(e 5 (by decide)).1.trans h0, (congrFun (e 5 (by decide)).2.2 0).trans h1, (congrFun (e 5 (by decide)).2.2 1).trans h2, (congrFun (e 5 (by decide)).2.2 2).trans h3, (congrFun (e 5 (by decide)).2.2 3).trans h4, (congrFun (e 5 (by decide)).2.2 4).trans h5, (congrFun (e 5 (by decide)).2.2 5).trans h6, (e 6 (by decide)).1.trans h7, (e 6 (by decide)).2.1.trans h8, (e 7 (by decide)).1.trans h9, (e 7 (by decide)).2.1.trans h10, (e 8 (by decide)).1.trans h11, (e 8 (by decide)).2.1.trans h12, (e 9 (by decide)).1.trans h13, (e 9 (by decide)).2.1.trans h14, (e 10 (by decide)).1.trans h15, (e 10 (by decide)).2.1.trans h16, (e 11 (by decide)).1.trans h17, (e 11 (by decide)).2.1.trans h18, fun i hi => by
    obtain ⟨a0, a1, a2, a3, a4⟩ := h19 i hi
    exact ⟨(e (12 + 2 * i) (by omega)).1.trans a0, (congrFun (e (12 + 2 * i) (by omega)).2.2 0).trans a1, (e (12 + 2 * i + 1) (by omega)).1.trans a2, (e (12 + 2 * i + 1) (by omega)).2.1.trans a3, (congrFun (e 6 (by omega)).2.2 i).trans a4⟩⟩
theorem xsU_tr {K N K2 N2 : Nat → Nat} {R R2 : Nat → Nat → Option Nat} (h : xsU K N R) (e : ∀ a, a < 459 → K2 a = K a ∧ N2 a = N a ∧ R2 a = R a) : xsU K2 N2 R2 := by
  obtain ⟨h0, h1, h2, h3, h4, h5, h6, h7, h8, h9, h10, h11, h12, h13, h14, h15, h16, h17, h18, h19, h20, h21, h22, h23, h24, h25, h26, h27, h28, h29, h30, h31⟩ := h
  exact ⟨(e 132 (by decide)).1.trans h0, (congrFun (e 132 (by decide)).2.2 0).trans h1, (congrFun (e 132 (by decide)).2.2 1).trans h2, (congrFun (e 132 (by decide)).2.2 2).trans h3, (congrFun (e 132 (by decide)).2.2 3).trans h4, (congrFun (e 132 (by decide)).2.2 4).trans h5, (congrFun (e 132 (by decide)).2.2 5).trans h6, (congrFun (e 132 (by decide)).2.2 6).trans h7, (congrFun (e 132 (by decide)).2.2 7).trans h8, (congrFun (e 132 (by decide)).2.2 8).trans h9, (e 133 (by decide)).1.trans h10, (e 133 (by decide)).2.1.trans h11, (e 134 (by decide)).1.trans h12, (e 134 (by decide)).2.1.trans h13, (e 135 (by decide)).1.trans h14, (e 135 (by decide)).2.1.trans h15, (e 136 (by decide)).1.trans h16, (e 136 (by decide)).2.1.trans h17, (e 137 (by decide)).1.trans h18, (e 137 (by decide)).2.1.trans h19, (e 138 (by decide)).1.trans h20, (e 138 (by decide)).2.1.trans h21, (e 139 (by decide)).1.trans h22, (e 139 (by decide)).2.1.trans h23, (e 140 (by decide)).1.trans h24, (e 140 (by decide)).2.1.trans h25, (e 141 (by decide)).1.trans h26, (e 141 (by decide)).2.1.trans h27, (e 142 (by decide)).1.trans h28, (congrFun (e 142 (by decide)).2.2 0).trans h29, (e 143 (by decide)).1.trans h30, (e 143 (by decide)).2.1.trans h31⟩
theorem xsV_tr {K N K2 N2 : Nat → Nat} {R R2 : Nat → Nat → Option Nat} (h : xsV K N R) (e : ∀ a, a < 459 → K2 a = K a ∧ N2 a = N a ∧ R2 a = R a) : xsV K2 N2 R2 := by
  obtain ⟨h0, h1, h2, h3, h4, h5, h6, h7, h8, h9, h10, h11, h12, h13, h14⟩ := h
  exact ⟨(e 144 (by decide)).1.trans h0, (congrFun (e 144 (by decide)).2.2 0).trans h1, (congrFun (e 144 (by decide)).2.2 1).trans h2, (congrFun (e 144 (by decide)).2.2 2).trans h3, (congrFun (e 144 (by decide)).2.2 3).trans h4, (congrFun (e 144 (by decide)).2.2 4).trans h5, (e 147 (by decide)).1.trans h6, (e 147 (by decide)).2.1.trans h7, (e 148 (by decide)).1.trans h8, (e 148 (by decide)).2.1.trans h9, (e 145 (by decide)).1.trans h10, (congrFun (e 145 (by decide)).2.2 0).trans h11, (e 146 (by decide)).1.trans h12, (e 146 (by decide)).2.1.trans h13, fun i hi => by
    obtain ⟨a0, a1, a2, a3, a4⟩ := h14 i hi
    exact ⟨(e (149 + 2 * i) (by omega)).1.trans a0, (congrFun (e (149 + 2 * i) (by omega)).2.2 0).trans a1, (e (149 + 2 * i + 1) (by omega)).1.trans a2, (e (149 + 2 * i + 1) (by omega)).2.1.trans a3, (congrFun (e 147 (by omega)).2.2 i).trans a4⟩⟩
theorem xsM_tr {K N K2 N2 : Nat → Nat} {R R2 : Nat → Nat → Option Nat} (h : xsM K N R) (e : ∀ a, a < 459 → K2 a = K a ∧ N2 a = N a ∧ R2 a = R a) : xsM K2 N2 R2 := by
  obtain ⟨h0, h1, h2, h3, h4, h5, h6, h7, h8, h9⟩ := h
  exact ⟨(e 389 (by decide)).1.trans h0, (congrFun (e 389 (by decide)).2.2 0).trans h1, (congrFun (e 389 (by decide)).2.2 1).trans h2, (congrFun (e 389 (by decide)).2.2 2).trans h3, (e 390 (by decide)).1.trans h4, (e 390 (by decide)).2.1.trans h5, (e 391 (by decide)).1.trans h6, (e 391 (by decide)).2.1.trans h7, (e 392 (by decide)).1.trans h8, (e 392 (by decide)).2.1.trans h9⟩
theorem xsK_tr {K N K2 N2 : Nat → Nat} {R R2 : Nat → Nat → Option Nat} (h : xsK K N R) (e : ∀ a, a < 459 → K2 a = K a ∧ N2 a = N a ∧ R2 a = R a) : xsK K2 N2 R2 := by
  obtain ⟨h0, h1, h2, h3, h4, h5, h6, h7, h8, h9, h10, h11, h12, h13, h14, h15, h16, h17, h18, h19, h20⟩ := h
  exact ⟨(e 393 (by decide)).1.trans h0, (congrFun (e 393 (by decide)).2.2 0).trans h1, (congrFun (e 393 (by decide)).2.2 1).trans h2, (congrFun (e 393 (by decide)).2.2 2).trans h3, (congrFun (e 393 (by decide)).2.2 3).trans h4, (congrFun (e 393 (by decide)).2.2 4).trans h5, (e 394 (by decide)).1.trans h6, (e 394 (by decide)).2.1.trans h7, (e 395 (by decide)).1.trans h8, (e 395 (by decide)).2.1.trans h9, (e 396 (by decide)).1.trans h10, (e 396 (by decide)).2.1.trans h11, (e 397 (by decide)).1.trans h12, (e 397 (by decide)).2.1.trans h13, (e 398 (by decide)).1.trans h14, (e 398 (by decide)).2.1.trans h15, (e 399 (by decide)).1.trans h16, (e 399 (by decide)).2.1.trans h17, (e 400 (by decide)).1.trans h18, (e 400 (by decide)).2.1.trans h19, h20.imp (fun z => ⟨(congrFun (e 393 (by decide)).2.2 5).trans z.1, (congrFun (e 393 (by decide)).2.2 6).trans z.2⟩) (fun z => ⟨(congrFun (e 393 (by decide)).2.2 5).trans z.1, (congrFun (e 393 (by decide)).2.2 6).trans z.2⟩)⟩
theorem xsR_tr {K N K2 N2 : Nat → Nat} {R R2 : Nat → Nat → Option Nat} (h : xsR K N R) (e : ∀ a, a < 459 → K2 a = K a ∧ N2 a = N a ∧ R2 a = R a) : xsR K2 N2 R2 := by
  obtain ⟨h0, h1, h2⟩ := h
  exact ⟨(e 401 (by decide)).1.trans h0, (e 401 (by decide)).2.1.trans h1, fun i hi => by
    obtain ⟨a0, a1, a2, a3, a4⟩ := h2 i hi
    exact ⟨(e (402 + 2 * i) (by omega)).1.trans a0, (congrFun (e (402 + 2 * i) (by omega)).2.2 0).trans a1, (e (402 + 2 * i + 1) (by omega)).1.trans a2, (e (402 + 2 * i + 1) (by omega)).2.1.trans a3, (congrFun (e 401 (by omega)).2.2 i).trans a4⟩⟩
theorem xsY_tr {K N K2 N2 : Nat → Nat} {R R2 : Nat → Nat → Option Nat} (h : xsY K N R) (e : ∀ a, a < 459 → K2 a = K a ∧ N2 a = N a ∧ R2 a = R a) : xsY K2 N2 R2 := by
  obtain ⟨h0, h1, h2, h3, h4, h5, h6, h7, h8, h9, h10⟩ := h
  exact ⟨(e 408 (by decide)).1.trans h0, (e 408 (by decide)).2.1.trans h1, fun i hi => by
    obtain ⟨a0, a1, a2, a3, a4⟩ := h2 i hi
    exact ⟨(e (409 + 2 * i) (by omega)).1.trans a0, (congrFun (e (409 + 2 * i) (by omega)).2.2 0).trans a1, (e (409 + 2 * i + 1) (by omega)).1.trans a2, (e (409 + 2 * i + 1) (by omega)).2.1.trans a3, (congrFun (e 408 (by omega)).2.2 i).trans a4⟩, (e 429 (by decide)).1.trans h3, (congrFun (e 429 (by decide)).2.2 0).trans h4, (e 430 (by decide)).1.trans h5, (e 430 (by decide)).2.1.trans h6, (e 431 (by decide)).1.trans h7, (e 431 (by decide)).2.1.trans h8, (e 432 (by decide)).1.trans h9, (e 432 (by decide)).2.1.trans h10⟩
theorem msR_tr {K N K2 N2 : Nat → Nat} {R R2 : Nat → Nat → Option Nat} (h : msR K N R) (e : ∀ a, a < 459 → K2 a = K a ∧ N2 a = N a ∧ R2 a = R a) : msR K2 N2 R2 := by
  obtain ⟨h0, h1, h2, h3, h4, h5, h6, h7, h8, h9, h10, h11, h12, h13, h14, h15, h16, h17, h18, h19, h20, h21, h22, h23, h24, h25⟩ := h
  exact ⟨(e 433 (by decide)).1.trans h0, (congrFun (e 433 (by decide)).2.2 0).trans h1, (congrFun (e 433 (by decide)).2.2 1).trans h2, (congrFun (e 433 (by decide)).2.2 2).trans h3, (congrFun (e 433 (by decide)).2.2 3).trans h4, (congrFun (e 433 (by decide)).2.2 4).trans h5, (congrFun (e 433 (by decide)).2.2 6).trans h6, (congrFun (e 433 (by decide)).2.2 10).trans h7, (congrFun (e 433 (by decide)).2.2 12).trans h8, (congrFun (e 433 (by decide)).2.2 14).trans h9, (congrFun (e 433 (by decide)).2.2 15).trans h10, (congrFun (e 433 (by decide)).2.2 16).trans h11, (congrFun (e 433 (by decide)).2.2 17).trans h12, (congrFun (e 433 (by decide)).2.2 18).trans h13, (congrFun (e 433 (by decide)).2.2 19).trans h14, (congrFun (e 433 (by decide)).2.2 20).trans h15, (congrFun (e 433 (by decide)).2.2 22).trans h16, (congrFun (e 433 (by decide)).2.2 23).trans h17, (congrFun (e 433 (by decide)).2.2 26).trans h18, (congrFun (e 433 (by decide)).2.2 28).trans h19, (congrFun (e 433 (by decide)).2.2 29).trans h20, (congrFun (e 433 (by decide)).2.2 30).trans h21, (congrFun (e 433 (by decide)).2.2 31).trans h22, (congrFun (e 433 (by decide)).2.2 33).trans h23, (congrFun (e 433 (by decide)).2.2 34).trans h24, (congrFun (e 433 (by decide)).2.2 37).trans h25⟩
theorem msK_tr {K N K2 N2 : Nat → Nat} {R R2 : Nat → Nat → Option Nat} (h : msK K N R) (e : ∀ a, a < 459 → K2 a = K a ∧ N2 a = N a ∧ R2 a = R a) : msK K2 N2 R2 := by
  obtain ⟨h0, h1, h2, h3, h4, h5, h6, h7, h8, h9, h10, h11, h12, h13, h14, h15, h16, h17, h18, h19, h20, h21, h22, h23, h24⟩ := h
  exact ⟨(e 434 (by decide)).1.trans h0, (e 435 (by decide)).1.trans h1, (e 436 (by decide)).1.trans h2, (e 437 (by decide)).1.trans h3, (e 438 (by decide)).1.trans h4, (e 439 (by decide)).1.trans h5, (e 440 (by decide)).1.trans h6, (e 441 (by decide)).1.trans h7, (e 442 (by decide)).1.trans h8, (e 443 (by decide)).1.trans h9, (e 444 (by decide)).1.trans h10, (e 445 (by decide)).1.trans h11, (e 446 (by decide)).1.trans h12, (e 447 (by decide)).1.trans h13, (e 448 (by decide)).1.trans h14, (e 449 (by decide)).1.trans h15, (e 450 (by decide)).1.trans h16, (e 451 (by decide)).1.trans h17, (e 452 (by decide)).1.trans h18, (e 453 (by decide)).1.trans h19, (e 454 (by decide)).1.trans h20, (e 455 (by decide)).1.trans h21, (e 456 (by decide)).1.trans h22, (e 457 (by decide)).1.trans h23, (e 458 (by decide)).1.trans h24⟩
theorem msN_tr {K N K2 N2 : Nat → Nat} {R R2 : Nat → Nat → Option Nat} (h : msN K N R) (e : ∀ a, a < 459 → K2 a = K a ∧ N2 a = N a ∧ R2 a = R a) : msN K2 N2 R2 := by
  obtain ⟨h0, h1, h2, h3, h4, h5, h6, h7, h8, h9, h10, h11, h12, h13, h14, h15, h16, h17, h18, h19, h20, h21, h22, h23, h24⟩ := h
  exact ⟨(e 434 (by decide)).2.1.trans h0, (e 435 (by decide)).2.1.trans h1, (e 436 (by decide)).2.1.trans h2, (e 437 (by decide)).2.1.trans h3, (e 438 (by decide)).2.1.trans h4, (e 439 (by decide)).2.1.trans h5, (e 440 (by decide)).2.1.trans h6, (e 441 (by decide)).2.1.trans h7, (e 442 (by decide)).2.1.trans h8, (e 443 (by decide)).2.1.trans h9, (e 444 (by decide)).2.1.trans h10, (e 445 (by decide)).2.1.trans h11, (e 446 (by decide)).2.1.trans h12, (e 447 (by decide)).2.1.trans h13, (e 448 (by decide)).2.1.trans h14, (e 449 (by decide)).2.1.trans h15, (e 450 (by decide)).2.1.trans h16, (e 451 (by decide)).2.1.trans h17, (e 452 (by decide)).2.1.trans h18, (e 453 (by decide)).2.1.trans h19, (e 454 (by decide)).2.1.trans h20, (e 455 (by decide)).2.1.trans h21, (e 456 (by decide)).2.1.trans h22, (e 457 (by decide)).2.1.trans h23, (e 458 (by decide)).2.1.trans h24⟩
theorem XS_tr {K N K2 N2 : Nat → Nat} {R R2 : Nat → Nat → Option Nat} (h : XS K N R) (e : ∀ a, a < 459 → K2 a = K a ∧ N2 a = N a ∧ R2 a = R a) : XS K2 N2 R2 := by
  obtain ⟨h0, h1, h2, h3, h4, h5, h6, h7, h8⟩ := h
  exact ⟨xs0_tr h0 e, xsT_tr h1 e, xsL_tr h2 e, xsU_tr h3 e, xsV_tr h4 e, xsM_tr h5 e, xsK_tr h6 e, xsR_tr h7 e, xsY_tr h8 e⟩
theorem MS_tr {K N K2 N2 : Nat → Nat} {R R2 : Nat → Nat → Option Nat} (h : MS K N R) (e : ∀ a, a < 459 → K2 a = K a ∧ N2 a = N a ∧ R2 a = R a) : MS K2 N2 R2 := by
  obtain ⟨h0, h1, h2⟩ := h
  exact ⟨msR_tr h0 e, msK_tr h1 e, msN_tr h2 e⟩
def Fz (D : Nat → Prop) (m m2 : qM) : Prop := (∀ a, a < 459 → qK m2 a = qK m a ∧ qN m2 a = qN m a ∧ qR m2 a = qR m a) ∧ (∀ a, a < 459 → ¬ D a → qI m2 a = qI m a ∧ qL m2 a = qL m a) ∧ qT m ≤ qT m2
theorem Fz.of {D : Nat → Prop} {m m2 : qM} (f : Fx D m m2) : Fz D m m2 := ⟨fun a _ => ⟨by rw [f.1], by rw [f.2.1], by rw [f.2.2.1]⟩, fun a _ h => f.2.2.2.2 a h, by rw [f.2.2.2.1]; exact Nat.le_refl _⟩
theorem Fz.rf {D : Nat → Prop} {m : qM} : Fz D m m := Fz.of Fx.rf
theorem Fz.tr {D : Nat → Prop} {m1 m2 m3 : qM} (h1 : Fz D m1 m2) (h2 : Fz D m2 m3) : Fz D m1 m3 :=
  ⟨fun a ha => ⟨(h2.1 a ha).1.trans (h1.1 a ha).1, (h2.1 a ha).2.1.trans (h1.1 a ha).2.1, (h2.1 a ha).2.2.trans (h1.1 a ha).2.2⟩, fun a ha hd => ⟨(h2.2.1 a ha hd).1.trans (h1.2.1 a ha hd).1, (h2.2.1 a ha hd).2.trans (h1.2.1 a ha hd).2⟩, Nat.le_trans h1.2.2 h2.2.2⟩
theorem Fz.mono {D D' : Nat → Prop} {m1 m2 : qM} (h : Fz D m1 m2) (hd : ∀ a, a < 459 → D a → D' a) : Fz D' m1 m2 := ⟨h.1, fun a ha hn => h.2.1 a ha (fun z => hn (hd a ha z)), h.2.2⟩
theorem Fz.new {m : qM} {c n : Nat} (h : 459 ≤ qT m) : Fz (fun _ => False) m (qnw m c n) := by
  have e : ∀ a, a < 459 → ¬ a = qT m := fun a ha z => by omega
  refine ⟨fun a ha => ⟨?_, ?_, ?_⟩, fun a ha _ => ⟨?_, ?_⟩, by show qT m ≤ qT m + 1; omega⟩
  · show va_up (qK m) (qT m) c a = qK m a
    unfold va_up; simp [e a ha]
  · show va_up (qN m) (qT m) n a = qN m a
    unfold va_up; simp [e a ha]
  · show qur (qR m) (qT m) (fun _ => none) a = qR m a
    funext j; unfold qur; simp [e a ha]
  · show qur (qI m) (qT m) (fun _ => 0) a = qI m a
    funext j; unfold qur; simp [e a ha]
  · show qur (qL m) (qT m) (fun _ => 0) a = qL m a
    funext j; unfold qur; simp [e a ha]
theorem qnw_at {m : qM} {c n : Nat} : qK (qnw m c n) (qT m) = c ∧ qN (qnw m c n) (qT m) = n ∧ (∀ j, qI (qnw m c n) (qT m) j = 0) ∧ ∀ j, qL (qnw m c n) (qT m) j = 0 := by
  refine ⟨?_, ?_, fun j => ?_, fun j => ?_⟩
  · show va_up (qK m) (qT m) c (qT m) = c
    unfold va_up; simp
  · show va_up (qN m) (qT m) n (qT m) = n
    unfold va_up; simp
  · show qur (qI m) (qT m) (fun _ => 0) (qT m) j = 0
    unfold qur; simp
  · show qur (qL m) (qT m) (fun _ => 0) (qT m) j = 0
    unfold qur; simp
theorem Fz.X {D : Nat → Prop} {m m2 : qM} (f : Fz D m m2) (h : XS (qK m) (qN m) (qR m)) : XS (qK m2) (qN m2) (qR m2) := XS_tr h f.1
theorem Fz.M {D : Nat → Prop} {m m2 : qM} (f : Fz D m m2) (h : MS (qK m) (qN m) (qR m)) : MS (qK m2) (qN m2) (qR m2) := MS_tr h f.1
abbrev Gz : qM → qM → Prop := Fz (fun a => 433 ≤ a)
theorem Gz_of {m m2 : qM} (f : Gm m m2) : Gz m m2 := Fz.of f
theorem CP_z {m m2 : qM} {s : ST} (h : CP m s) (hn : sN s ≤ 60) (f : Gz m m2) : CP m2 s := by
  obtain ⟨h1, h2, h3, h4, h5, h6, h7⟩ := h
  have e : ∀ a, a < 433 → qI m2 a = qI m a := fun a ha => (f.2.1 a (by omega) (by omega)).1
  have el : ∀ a, a < 433 → qL m2 a = qL m a := fun a ha => (f.2.1 a (by omega) (by omega)).2
  refine ⟨f.X h1, CTx_of (e 1 (by omega)) (e 2 (by omega)) h2, h3, CTx_of (e 3 (by omega)) (e 4 (by omega)) h4, CLs_of h5 hn (fun a _ ha => ⟨e a (by omega), el a (by omega)⟩), CMx_of h6 (e 389 (by omega)) (e 390 (by omega)), CRs_of h7 (fun a _ ha => e a (by omega))⟩
theorem MP_z {m m2 : qM} {s : ST} (h : MP m s) (f : Fz (fun _ => False) m m2) : MP m2 s := by
  obtain ⟨q1, q2, q3, q4, q5, q6, q7⟩ := h
  have e : ∀ a, a < 459 → qI m2 a = qI m a := fun a ha => (f.2.1 a ha (fun z => z)).1
  refine ⟨f.M q1, Nat.le_trans q2 f.2.2, MTx_of q3 (by rw [e 433 (by omega)]) (e 439 (by omega)), MOu_of q4 (by rw [e 433 (by omega)]) (e 440 (by omega)), MLs_of q5 (fun a _ ha => e a (by omega)) (by rw [e 433 (by omega)]), MMx_of q6 (by rw [e 433 (by omega)]) (e 441 (by omega)), MRs_of q7 (fun a _ ha => e a (by omega))⟩
end
