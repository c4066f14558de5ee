/-! ===== law: the word that two letters choose ===== -/
def hwd (T : Nat → Nat) (Ln p : Nat) : Nat := if tx T Ln p = 102 then 3 else if tx T Ln p = 109 then 2 else if tx T Ln p = 114 then 4 else if tx T Ln (p + 1) = 112 then 0 else 1
theorem strs_l : strs (811 + 0) = [115, 112, 114, 105, 110, 103] ∧ strs (811 + 1) = [115, 117, 110] ∧ strs (811 + 2) = [109, 97, 114, 107] ∧ strs (811 + 3) = [102, 108, 111, 111, 114] ∧ strs (811 + 4) = [114, 97, 116, 101] := by decide +kernel
theorem mW_1 {T : Nat → Nat} {Ln p s b : Nat} {r : List Nat} (h : strs (811 + s) = b :: r) : mW T Ln p s = if tx T Ln p = b then mtc T Ln (p + 1) r + 1 else 0 := by
  unfold mW; rw [h]; rfl
theorem mtc_1 {T : Nat → Nat} {Ln p b : Nat} {r : List Nat} : mtc T Ln p (b :: r) = if tx T Ln p = b then mtc T Ln (p + 1) r + 1 else 0 := rfl
theorem hwd_s {T : Nat → Nat} {Ln p : Nat} : hwd T Ln p ≤ 4 ∧ wrdS T Ln p = if mW T Ln p (hwd T Ln p) = (strs (811 + hwd T Ln p)).length then (p + mW T Ln p (hwd T Ln p), some (hwd T Ln p)) else (p + mW T Ln p (hwd T Ln p), none) := by
  obtain ⟨a0, a1, a2, a3, a4⟩ := strs_l
  obtain ⟨n0, n1, n2, n3, n4⟩ := str_ln
  have m0 := mW_1 (T := T) (Ln := Ln) (p := p) a0
  have m1 := mW_1 (T := T) (Ln := Ln) (p := p) a1
  have m2 := mW_1 (T := T) (Ln := Ln) (p := p) a2
  have m3 := mW_1 (T := T) (Ln := Ln) (p := p) a3
  have m4 := mW_1 (T := T) (Ln := Ln) (p := p) a4
  have fin : ∀ w L, hwd T Ln p = w → (strs (811 + w)).length = L → w ≤ 4 → (wrdS T Ln p = if mW T Ln p w = L then (p + mW T Ln p w, some w) else (p + mW T Ln p w, none)) → hwd T Ln p ≤ 4 ∧ wrdS T Ln p = if mW T Ln p (hwd T Ln p) = (strs (811 + hwd T Ln p)).length then (p + mW T Ln p (hwd T Ln p), some (hwd T Ln p)) else (p + mW T Ln p (hwd T Ln p), none) := by
    intro w L e1 e2 e3 e4
    rw [e1, e2]; exact ⟨e3, e4⟩
  by_cases c1 : tx T Ln p = 102
  · rw [c1] at m0 m1 m2 m3 m4
    rw [if_neg (by decide)] at m0 m1 m2 m4
    refine fin 3 5 (if_pos c1) n3 (by omega) ?_
    unfold wrdS
    rw [m0, m1, m2, m4]
    by_cases q : mW T Ln p 3 = 5
    · simp [q]
    · simp [q]
  by_cases c2 : tx T Ln p = 109
  · rw [c2] at m0 m1 m2 m3 m4
    rw [if_neg (by decide)] at m0 m1 m3 m4
    refine fin 2 4 ((if_neg c1).trans (if_pos c2)) n2 (by omega) ?_
    unfold wrdS
    rw [m0, m1, m3, m4]
    by_cases q : mW T Ln p 2 = 4
    · simp [q]
    · simp [q]
  by_cases c3 : tx T Ln p = 114
  · rw [c3] at m0 m1 m2 m3 m4
    rw [if_neg (by decide)] at m0 m1 m2 m3
    refine fin 4 4 ((if_neg c1).trans ((if_neg c2).trans (if_pos c3))) n4 (by omega) ?_
    unfold wrdS
    rw [m0, m1, m2, m3]
    by_cases q : mW T Ln p 4 = 4
    · simp [q]
    · simp [q]
  rw [if_neg c2] at m2
  rw [if_neg c1] at m3
  rw [if_neg c3] at m4
  have b0 : mW T Ln p 0 = 0 ∨ mW T Ln p 0 = mtc T Ln (p + 1) [112, 114, 105, 110, 103] + 1 := by
    rw [m0]
    by_cases z : tx T Ln p = 115
    · rw [if_pos z]; exact Or.inr rfl
    · rw [if_neg z]; exact Or.inl rfl
  by_cases c4 : tx T Ln (p + 1) = 112
  · refine fin 0 6 ((if_neg c1).trans ((if_neg c2).trans ((if_neg c3).trans (if_pos c4)))) n0 (by omega) ?_
    have k1 : mtc T Ln (p + 1) [117, 110] = 0 := by rw [mtc_1, if_neg (by omega)]
    rw [k1] at m1
    have l1 : mW T Ln p 1 ≤ 1 ∧ mW T Ln p 1 ≤ mW T Ln p 0 := by
      by_cases z : tx T Ln p = 115
      · rw [if_pos z] at m0 m1; omega
      · rw [if_neg z] at m0 m1; omega
    unfold wrdS
    by_cases q : mW T Ln p 0 = 6
    · rw [if_pos q, if_pos q, q]
    · rw [if_neg q, if_neg (by omega), if_neg (by omega), if_neg (by omega), if_neg (by omega), if_neg q]
      rw [show max (mW T Ln p 4) (max (mW T Ln p 3) (max (mW T Ln p 2) (max (mW T Ln p 1) (mW T Ln p 0)))) = mW T Ln p 0 by omega]
  · refine fin 1 3 ((if_neg c1).trans ((if_neg c2).trans ((if_neg c3).trans (if_neg c4)))) n1 (by omega) ?_
    have k0 : mtc T Ln (p + 1) [112, 114, 105, 110, 103] = 0 := by rw [mtc_1, if_neg c4]
    rw [k0] at m0
    have l1 : mW T Ln p 0 ≤ 1 ∧ mW T Ln p 0 ≤ mW T Ln p 1 := by
      by_cases z : tx T Ln p = 115
      · rw [if_pos z] at m0 m1; omega
      · rw [if_neg z] at m0 m1; omega
    unfold wrdS
    by_cases q : mW T Ln p 1 = 3
    · rw [if_neg (by omega), if_pos q, if_pos q, q]
    · rw [if_neg (by omega), if_neg q, if_neg (by omega), if_neg (by omega), if_neg (by omega), if_neg q]
      rw [show max (mW T Ln p 4) (max (mW T Ln p 3) (max (mW T Ln p 2) (max (mW T Ln p 1) (mW T Ln p 0)))) = mW T Ln p 1 by omega]
