/-! ===== law: what is left ===== -/
theorem q_law {ad : Nat → Nat} {D : va_G} {cA : Nat → ClassId} {μ ν : x_M} (h : Rel μ ν) : SameR (f_X9_law (XC ad D cA) 1 μ) (f_X10_law (XR ad D cA) 600 ν) := by
  sorry
