-- ===== the shape: where each object lies, its kind, its rows' lengths =====
def mS : qM := ((fX9_init NF 0 (qnw qM0 9 0)).bind fun b => fX10_init NF 433 (qnw b 10 0)).getD qM0
set_option maxRecDepth 100000 in
theorem mS_some : ((fX9_init NF 0 (qnw qM0 9 0)).bind fun b => fX10_init NF 433 (qnw b 10 0)).isSome = true := by decide +kernel
theorem mS_eq : ((fX9_init NF 0 (qnw qM0 9 0)).bind fun b => fX10_init NF 433 (qnw b 10 0)) = some mS := by
  have h := mS_some
  unfold mS
  cases hz : ((fX9_init NF 0 (qnw qM0 9 0)).bind fun b => fX10_init NF 433 (qnw b 10 0)) with
  | none => rw [hz] at h; cases h
  | some b => rfl
set_option maxRecDepth 100000 in
theorem mS_T : qT mS = 459 := by decide +kernel
def xs0 (K N : Nat → Nat) (R : Nat → Nat → Option Nat) : Prop := K 0 = 9 ∧ R 0 0 = some 1 ∧ R 0 1 = some 3 ∧ R 0 2 = some 5 ∧ R 0 3 = some 132 ∧ R 0 4 = some 142 ∧ R 0 5 = some 144 ∧ R 0 6 = some 389 ∧ R 0 7 = some 393 ∧ R 0 8 = some 401 ∧ R 0 9 = some 408 ∧ R 0 10 = some 429 ∧ R 0 11 = some 431 ∧ R 0 12 = some 432
set_option maxRecDepth 100000 in
theorem xs0_S : xs0 (qK mS) (qN mS) (qR mS) := by unfold xs0; decide +kernel
def xsT (K N : Nat → Nat) (R : Nat → Nat → Option Nat) : Prop := K 1 = 7 ∧ R 1 0 = some 2 ∧ K 2 = 11 ∧ N 2 = 120 ∧ K 3 = 7 ∧ R 3 0 = some 4 ∧ K 4 = 11 ∧ N 4 = 120
set_option maxRecDepth 100000 in
theorem xsT_S : xsT (qK mS) (qN mS) (qR mS) := by unfold xsT; decide +kernel
def xsL (K N : Nat → Nat) (R : Nat → Nat → Option Nat) : Prop := K 5 = 1 ∧ R 5 0 = some 6 ∧ R 5 1 = some 7 ∧ R 5 2 = some 8 ∧ R 5 3 = some 9 ∧ R 5 4 = some 10 ∧ R 5 5 = some 11 ∧ K 6 = 15 ∧ N 6 = 60 ∧ K 7 = 12 ∧ N 7 = 60 ∧ K 8 = 12 ∧ N 8 = 60 ∧ K 9 = 12 ∧ N 9 = 60 ∧ K 10 = 12 ∧ N 10 = 60 ∧ K 11 = 13 ∧ N 11 = 60 ∧ (∀ i, i < 60 → K (12 + 2 * i) = 0 ∧ R (12 + 2 * i) 0 = some (12 + 2 * i + 1) ∧ K (12 + 2 * i + 1) = 12 ∧ N (12 + 2 * i + 1) = 39 ∧ R 6 i = some (12 + 2 * i))
set_option maxRecDepth 100000 in
theorem xsL_S : xsL (qK mS) (qN mS) (qR mS) := by unfold xsL; decide +kernel
def xsU (K N : Nat → Nat) (R : Nat → Nat → Option Nat) : Prop := K 132 = 8 ∧ R 132 0 = some 133 ∧ R 132 1 = some 134 ∧ R 132 2 = some 135 ∧ R 132 3 = some 136 ∧ R 132 4 = some 137 ∧ R 132 5 = some 138 ∧ R 132 6 = some 139 ∧ R 132 7 = some 140 ∧ R 132 8 = some 141 ∧ K 133 = 12 ∧ N 133 = 78 ∧ K 134 = 12 ∧ N 134 = 78 ∧ K 135 = 12 ∧ N 135 = 78 ∧ K 136 = 12 ∧ N 136 = 78 ∧ K 137 = 12 ∧ N 137 = 78 ∧ K 138 = 12 ∧ N 138 = 156 ∧ K 139 = 12 ∧ N 139 = 156 ∧ K 140 = 12 ∧ N 140 = 12 ∧ K 141 = 12 ∧ N 141 = 12 ∧ K 142 = 3 ∧ R 142 0 = some 143 ∧ K 143 = 12 ∧ N 143 = 12
set_option maxRecDepth 100000 in
theorem xsU_S : xsU (qK mS) (qN mS) (qR mS) := by unfold xsU; decide +kernel
def xsV (K N : Nat → Nat) (R : Nat → Nat → Option Nat) : Prop := K 144 = 2 ∧ R 144 0 = some 132 ∧ R 144 1 = some 142 ∧ R 144 2 = some 145 ∧ R 144 3 = some 147 ∧ R 144 4 = some 148 ∧ K 147 = 15 ∧ N 147 = 120 ∧ K 148 = 12 ∧ N 148 = 6 ∧ K 145 = 0 ∧ R 145 0 = some 146 ∧ K 146 = 12 ∧ N 146 = 39 ∧ (∀ i, i < 120 → K (149 + 2 * i) = 0 ∧ R (149 + 2 * i) 0 = some (149 + 2 * i + 1) ∧ K (149 + 2 * i + 1) = 12 ∧ N (149 + 2 * i + 1) = 39 ∧ R 147 i = some (149 + 2 * i))
set_option maxRecDepth 100000 in
theorem xsV_S : xsV (qK mS) (qN mS) (qR mS) := by unfold xsV; decide +kernel
def xsM (K N : Nat → Nat) (R : Nat → Nat → Option Nat) : Prop := K 389 = 4 ∧ R 389 0 = some 390 ∧ R 389 1 = some 391 ∧ R 389 2 = some 392 ∧ K 390 = 12 ∧ N 390 = 9 ∧ K 391 = 12 ∧ N 391 = 8 ∧ K 392 = 12 ∧ N 392 = 39
set_option maxRecDepth 100000 in
theorem xsM_S : xsM (qK mS) (qN mS) (qR mS) := by unfold xsM; decide +kernel
def xsK (K N : Nat → Nat) (R : Nat → Nat → Option Nat) : Prop := K 393 = 6 ∧ R 393 0 = some 394 ∧ R 393 1 = some 395 ∧ R 393 2 = some 396 ∧ R 393 3 = some 397 ∧ R 393 4 = some 398 ∧ K 394 = 14 ∧ N 394 = 9 ∧ K 395 = 14 ∧ N 395 = 160 ∧ K 396 = 12 ∧ N 396 = 160 ∧ K 397 = 12 ∧ N 397 = 3 ∧ K 398 = 12 ∧ N 398 = 3 ∧ K 399 = 11 ∧ N 399 = 160 ∧ K 400 = 11 ∧ N 400 = 160 ∧ ((R 393 5 = some 399 ∧ R 393 6 = some 400) ∨ (R 393 5 = some 400 ∧ R 393 6 = some 399))
set_option maxRecDepth 100000 in
theorem xsK_S : xsK (qK mS) (qN mS) (qR mS) := by unfold xsK; decide +kernel
def xsR (K N : Nat → Nat) (R : Nat → Nat → Option Nat) : Prop := K 401 = 16 ∧ N 401 = 3 ∧ (∀ i, i < 3 → K (402 + 2 * i) = 5 ∧ R (402 + 2 * i) 0 = some (402 + 2 * i + 1) ∧ K (402 + 2 * i + 1) = 12 ∧ N (402 + 2 * i + 1) = 80 ∧ R 401 i = some (402 + 2 * i))
set_option maxRecDepth 100000 in
theorem xsR_S : xsR (qK mS) (qN mS) (qR mS) := by unfold xsR; decide +kernel
def xsY (K N : Nat → Nat) (R : Nat → Nat → Option Nat) : Prop := K 408 = 15 ∧ N 408 = 10 ∧ (∀ i, i < 10 → K (409 + 2 * i) = 0 ∧ R (409 + 2 * i) 0 = some (409 + 2 * i + 1) ∧ K (409 + 2 * i + 1) = 12 ∧ N (409 + 2 * i + 1) = 39 ∧ R 408 i = some (409 + 2 * i)) ∧ K 429 = 0 ∧ R 429 0 = some 430 ∧ K 430 = 12 ∧ N 430 = 39 ∧ K 431 = 12 ∧ N 431 = 12 ∧ K 432 = 12 ∧ N 432 = 120
set_option maxRecDepth 100000 in
theorem xsY_S : xsY (qK mS) (qN mS) (qR mS) := by unfold xsY; decide +kernel
def msR (K N : Nat → Nat) (R : Nat → Nat → Option Nat) : Prop := K 433 = 10 ∧ R 433 0 = some 434 ∧ R 433 1 = some 435 ∧ R 433 2 = some 436 ∧ R 433 3 = some 437 ∧ R 433 4 = some 438 ∧ R 433 6 = some 439 ∧ R 433 10 = some 440 ∧ R 433 12 = some 441 ∧ R 433 14 = some 442 ∧ R 433 15 = some 443 ∧ R 433 16 = some 444 ∧ R 433 17 = some 445 ∧ R 433 18 = some 446 ∧ R 433 19 = some 447 ∧ R 433 20 = some 448 ∧ R 433 22 = some 449 ∧ R 433 23 = some 450 ∧ R 433 26 = some 451 ∧ R 433 28 = some 452 ∧ R 433 29 = some 453 ∧ R 433 30 = some 454 ∧ R 433 31 = some 455 ∧ R 433 33 = some 456 ∧ R 433 34 = some 457 ∧ R 433 37 = some 458
set_option maxRecDepth 100000 in
theorem msR_S : msR (qK mS) (qN mS) (qR mS) := by unfold msR; decide +kernel
def msK (K N : Nat → Nat) (R : Nat → Nat → Option Nat) : Prop := K 434 = 12 ∧ K 435 = 12 ∧ K 436 = 12 ∧ K 437 = 12 ∧ K 438 = 12 ∧ K 439 = 12 ∧ K 440 = 12 ∧ K 441 = 12 ∧ K 442 = 12 ∧ K 443 = 12 ∧ K 444 = 12 ∧ K 445 = 12 ∧ K 446 = 12 ∧ K 447 = 12 ∧ K 448 = 12 ∧ K 449 = 14 ∧ K 450 = 12 ∧ K 451 = 12 ∧ K 452 = 12 ∧ K 453 = 12 ∧ K 454 = 12 ∧ K 455 = 12 ∧ K 456 = 12 ∧ K 457 = 12 ∧ K 458 = 12
set_option maxRecDepth 100000 in
theorem msK_S : msK (qK mS) (qN mS) (qR mS) := by unfold msK; decide +kernel
def msN (K N : Nat → Nat) (R : Nat → Nat → Option Nat) : Prop := N 434 = 7059 ∧ N 435 = 181 ∧ N 436 = 60 ∧ N 437 = 60 ∧ N 438 = 121 ∧ N 439 = 80 ∧ N 440 = 400 ∧ N 441 = 9 ∧ N 442 = 8 ∧ N 443 = 3 ∧ N 444 = 3 ∧ N 445 = 240 ∧ N 446 = 78 ∧ N 447 = 78 ∧ N 448 = 78 ∧ N 449 = 78 ∧ N 450 = 78 ∧ N 451 = 80 ∧ N 452 = 26 ∧ N 453 = 7000 ∧ N 454 = 7000 ∧ N 455 = 7000 ∧ N 456 = 3900 ∧ N 457 = 100 ∧ N 458 = 78
set_option maxRecDepth 100000 in
theorem msN_S : msN (qK mS) (qN mS) (qR mS) := by unfold msN; decide +kernel
def MS (K N : Nat → Nat) (R : Nat → Nat → Option Nat) : Prop := msR K N R ∧ msK K N R ∧ msN K N R
theorem MS_S : MS (qK mS) (qN mS) (qR mS) := ⟨msR_S, msK_S, msN_S⟩
def XS (K N : Nat → Nat) (R : Nat → Nat → Option Nat) : Prop := xs0 K N R ∧ xsT K N R ∧ xsL K N R ∧ xsU K N R ∧ xsV K N R ∧ xsM K N R ∧ xsK K N R ∧ xsR K N R ∧ xsY K N R
theorem XS_S : XS (qK mS) (qN mS) (qR mS) := ⟨xs0_S, xsT_S, xsL_S, xsU_S, xsV_S, xsM_S, xsK_S, xsR_S, xsY_S⟩
