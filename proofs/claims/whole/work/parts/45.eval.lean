/-! ===== a clause's tests, evaluated: a pile of truths; the same as bits of a long ===== -/
abbrev Tok : Type := Nat × Nat × Nat × Nat
def relB (s : Nat) (is n : Int) : Bool := if s = 0 then decide (is < n) else if s = 1 then decide (is = n) else decide (n < is)
/-- one step over the pile (its top first) -/
def tokStep (fa : Nat → Int) (t : Tok) (st : List Bool) : List Bool :=
  if t.1 = 0 then relB t.2.2.1 (fa t.2.1) t.2.2.2 :: st
  else if t.1 = 1 then (match st with | b :: r => (!b) :: r | [] => [])
  else if t.1 = 2 then (match st with | b :: a :: r => (a && b) :: r | _ => [])
  else (match st with | b :: a :: r => (a || b) :: r | _ => [])
def evalT (fa : Nat → Int) (ts : List Tok) (st : List Bool) : List Bool := ts.foldl (fun st t => tokStep fa t st) st
/-- the pile's height behind a step; none where it would be too low -/
def tokH (t : Tok) (h : Nat) : Option Nat :=
  if t.1 = 0 then some (h + 1) else if t.1 = 1 then (if 1 ≤ h then some h else none) else (if 2 ≤ h then some (h - 1) else none)
/-- tests that stand well: each one a token, the pile never too low nor above 50, at the end 1 -/
def wfT : List Tok → Nat → Prop
  | [], h => h = 1
  | t :: r, h => (t.1 ≤ 3 ∧ t.2.1 ≤ 5 ∧ t.2.2.1 ≤ 2 ∧ t.2.2.2 ≤ 99) ∧ ∃ h', tokH t h = some h' ∧ h' ≤ 50 ∧ wfT r h'
theorem tokStep_len {fa : Nat → Int} {t : Tok} {st : List Bool} {h' : Nat} (h : tokH t st.length = some h') : (tokStep fa t st).length = h' := by
  unfold tokH at h
  unfold tokStep
  by_cases q0 : t.1 = 0
  · rw [if_pos q0] at h ⊢
    exact Option.some.inj h
  · rw [if_neg q0] at h ⊢
    by_cases q1 : t.1 = 1
    · rw [if_pos q1] at h ⊢
      match st, h with
      | [], h => simp at h
      | b :: r, h => simp at h; simp [h]
    · rw [if_neg q1] at h ⊢
      match st, h with
      | [], h => simp at h
      | [_], h => simp at h
      | b :: a :: r, h =>
        simp at h
        by_cases q2 : t.1 = 2
        · rw [if_pos q2]; simp [h]
        · rw [if_neg q2]; simp [h]
/-- the pile as a number: the top is bit 0 -/
def pileN : List Bool → Nat
  | [] => 0
  | b :: r => 2 * pileN r + b.toNat
theorem pileN_lt : ∀ st : List Bool, pileN st < 2 ^ st.length
  | [] => by decide
  | b :: r => by
    have h := pileN_lt r
    have hb : b.toNat ≤ 1 := by cases b <;> decide
    show 2 * pileN r + b.toNat < 2 ^ (r.length + 1)
    rw [Nat.pow_succ]; omega
theorem pileN_bit {b : Bool} {r : List Bool} (i : Nat) : (pileN (b :: r)).testBit i = if i = 0 then b else (pileN r).testBit (i - 1) := by
  show (2 * pileN r + b.toNat).testBit i = _
  cases i with
  | zero =>
    rw [if_pos rfl, Nat.testBit_zero]
    cases b <;> simp [Bool.toNat] <;> omega
  | succ i =>
    rw [if_neg (by omega), Nat.testBit_succ]
    congr 1
    cases b <;> simp [Bool.toNat] <;> omega
theorem pileN_bits {st : List Bool} (i : Nat) : (pileN st).testBit i = (st[i]?).getD false := by
  induction st generalizing i with
  | nil => simp [pileN]
  | cons b r ih =>
    rw [pileN_bit]
    cases i with
    | zero => simp
    | succ i => rw [if_neg (by omega)]; simp [ih]
