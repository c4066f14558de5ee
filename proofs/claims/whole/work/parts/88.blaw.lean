/-! ===== what is left: the loop of the law, as a function over the two memories, comes to its end ===== -/
theorem b_law {ad : Nat → Nat} {D : va_G} {cA : Nat → ClassId} {L : Nat} (hL : L ≤ 3072) (xs : Nat → Int32) : ∃ μ : x_M2, f_L_law_L18 (XC ad D cA) (XR ad D cA) L xs 4096 9 1 600 0 (x_U107, x_U108) = some ((), μ) := by
  sorry
