/-! ===== what the letters of a test stand for ===== -/
def St.fact (S : St) (lv : Nat) (who : Option Nat) (f : Nat) : Int :=
  if f = 0 then ((S.day % 10 : Nat) : Int) else if f = 1 then ((min (S.day / 10) 99 : Nat) : Int) else if f = 2 then (lv : Int)
  else match who with
    | none => 9
    | some i => if f = 3 then (i : Int) else if f = 4 then (S.kd i : Int) else (S.bk i).tdiv 10
theorem St.fact_b {S : St} {lv : Nat} {who : Option Nat} (h : StOk S) (hl : lv ≤ 60) (hi : ∀ i, who = some i → i < S.n) (f : Nat) : -20000 ≤ S.fact lv who f ∧ S.fact lv who f ≤ 20000 := by
  unfold St.fact
  by_cases q0 : f = 0
  · rw [if_pos q0]; omega
  · rw [if_neg q0]
    by_cases q1 : f = 1
    · rw [if_pos q1]; omega
    · rw [if_neg q1]
      by_cases q2 : f = 2
      · rw [if_pos q2]; omega
      · rw [if_neg q2]
        cases who with
        | none =>
          show (-20000 : Int) ≤ 9 ∧ (9 : Int) ≤ 20000
          omega
        | some i =>
          have hi := hi i rfl
          have hn := h.1.1
          obtain ⟨a1, a2, -⟩ := h.2.1 i hi
          show -20000 ≤ (if f = 3 then (i : Int) else if f = 4 then (S.kd i : Int) else (S.bk i).tdiv 10) ∧ (if f = 3 then (i : Int) else if f = 4 then (S.kd i : Int) else (S.bk i).tdiv 10) ≤ 20000
          by_cases q3 : f = 3
          · rw [if_pos q3]; omega
          · rw [if_neg q3]
            by_cases q4 : f = 4
            · rw [if_pos q4]; omega
            · rw [if_neg q4]
              have t1 := Int.natAbs_tdiv_le_natAbs (S.bk i) 10
              omega
