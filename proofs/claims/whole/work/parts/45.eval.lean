/-! ===== a clause's tests, evaluated: a pile of truths; the same as bits of a long ===== -/
abbrev Tok : Type := Nat × Nat × Nat × Nat
def relB (s : Nat) (is n : Int) : Bool := if s = 0 then decide (is < n) else if s = 1 then decide (is = n) else decide (n < is)
/-- one step over the pile (its top first) -/
def tokStep (fa : Nat → Int) (t : Tok) (st : List Bool) : List Bool :=
  if t.1 = 0 then relB t.2.2.1 (fa t.2.1) t.2.2.2 :: st
  else if t.1 = 1 then (match st with | b :: r => (!b) :: r | [] => [])
  else if t.1 = 2 then (match st with | b :: a :: r => (a && b) :: r | _ => [])
  else (match st with | b :: a :: r => (a || b) :: r | _ => [])
def evalT (fa : Nat → Int) (ts : List Tok) (st : List Bool) : List Bool := ts.foldl (fun st t => tokStep fa t st) st
/-- the pile's height behind a step; none where it would be too low -/
def tokH (t : Tok) (h : Nat) : Option Nat :=
  if t.1 = 0 then some (h + 1) else if t.1 = 1 then (if 1 ≤ h then some h else none) else (if 2 ≤ h then some (h - 1) else none)
/-- tests that stand well: each one a token, the pile never too low nor above 50, at the end 1 -/
def wfT : List Tok → Nat → Prop
  | [], h => h = 1
  | t :: r, h => (t.1 ≤ 3 ∧ t.2.1 ≤ 5 ∧ t.2.2.1 ≤ 2 ∧ t.2.2.2 ≤ 99) ∧ ∃ h', tokH t h = some h' ∧ h' ≤ 50 ∧ wfT r h'
theorem tokStep_len {fa : Nat → Int} {t : Tok} {st : List Bool} {h' : Nat} (h : tokH t st.length = some h') : (tokStep fa t st).length = h' := by
  unfold tokH at h
  unfold tokStep
  by_cases q0 : t.1 = 0
  · rw [if_pos q0] at h ⊢
    exact Option.some.inj h
  · rw [if_neg q0] at h ⊢
    by_cases q1 : t.1 = 1
    · rw [if_pos q1] at h ⊢
      match st, h with
      | [], h => simp at h
      | b :: r, h => simp at h; simp [h]
    · rw [if_neg q1] at h ⊢
      match st, h with
      | [], h => simp at h
      | [_], h => simp at h
      | b :: a :: r, h =>
        simp at h
        by_cases q2 : t.1 = 2
        · rw [if_pos q2]; simp [h]
        · rw [if_neg q2]; simp [h]
/-- the pile as a number: the top is bit 0 -/
def pileN : List Bool → Nat
  | [] => 0
  | b :: r => 2 * pileN r + b.toNat
theorem pileN_lt : ∀ st : List Bool, pileN st < 2 ^ st.length
  | [] => by decide
  | b :: r => by
    have h := pileN_lt r
    have hb : b.toNat ≤ 1 := by cases b <;> decide
    show 2 * pileN r + b.toNat < 2 ^ (r.length + 1)
    rw [Nat.pow_succ]; omega
theorem pileN_bit {b : Bool} {r : List Bool} (i : Nat) : (pileN (b :: r)).testBit i = if i = 0 then b else (pileN r).testBit (i - 1) := by
  show (2 * pileN r + b.toNat).testBit i = _
  cases i with
  | zero =>
    rw [if_pos rfl, Nat.testBit_zero]
    cases b <;> simp [Bool.toNat] <;> omega
  | succ i =>
    rw [if_neg (by omega), Nat.testBit_succ]
    congr 1
    cases b <;> simp [Bool.toNat] <;> omega
theorem pileN_bits {st : List Bool} (i : Nat) : (pileN st).testBit i = (st[i]?).getD false := by
  induction st generalizing i with
  | nil => simp [pileN]
  | cons b r ih =>
    rw [pileN_bit]
    cases i with
    | zero => simp
    | succ i => rw [if_neg (by omega)]; simp [ih]
def iP (st : List Bool) : Int64 := Int64.ofNat (pileN st)
theorem iP_bv {st : List Bool} : (iP st).toBitVec = BitVec.ofNat 64 (pileN st) := by
  unfold iP; exact Int64.toBitVec_ofNat'
theorem iP_bit {st : List Bool} {i : Nat} (hi : i < 64) : (iP st).toBitVec.getLsbD i = (st[i]?).getD false := by
  rw [iP_bv, BitVec.getLsbD_ofNat, pileN_bits]; simp [hi]
theorem iP_ext {x : Int64} {st : List Bool} (h : ∀ i, i < 64 → x.toBitVec.getLsbD i = (st[i]?).getD false) : x = iP st := by
  apply Int64.toBitVec_inj.mp
  apply BitVec.eq_of_getLsbD_eq
  intro i hi
  rw [h i hi, iP_bit hi]
theorem one_bit {i : Nat} : (1 : Int64).toBitVec.getLsbD i = decide (i = 0) := by
  show (1#64).getLsbD i = _
  rw [BitVec.getLsbD_one]
  simp
theorem iP_not {b : Bool} {r : List Bool} : iP (b :: r) ^^^ 1 = iP ((!b) :: r) := by
  apply iP_ext
  intro i hi
  rw [Int64.toBitVec_xor, BitVec.getLsbD_xor, iP_bit hi, one_bit]
  cases i with
  | zero => simp
  | succ i => simp
theorem m2_bit {i : Nat} (hi : i < 64) : (-2 : Int64).toBitVec.getLsbD i = !decide (i = 0) := by
  have h : (-2 : Int64).toBitVec = ~~~ (1#64) := by decide
  rw [h, BitVec.getLsbD_not, BitVec.getLsbD_one]
  simp [hi]
theorem shr_bit {x : Int64} {i : Nat} (_ : i < 64) : ((x.toUInt64 >>> (((1 : Int32)).toInt64.toUInt64 &&& Int64.toUInt64 63)).toInt64).toBitVec.getLsbD i = x.toBitVec.getLsbD (i + 1) := by
  have h : (((1 : Int32)).toInt64.toUInt64 &&& Int64.toUInt64 63) = (1 : UInt64) := by decide
  rw [h]
  show (x.toUInt64 >>> (1 : UInt64)).toBitVec.getLsbD i = _
  rw [UInt64.toBitVec_shiftRight]
  have h2 : ((1 : UInt64).toBitVec % 64#64) = 1#64 := by decide
  simp [Nat.add_comm]

theorem iP_and {a b : Bool} {r : List Bool} : ((iP (b :: a :: r)).toUInt64 >>> (((1 : Int32)).toInt64.toUInt64 &&& Int64.toUInt64 63)).toInt64 &&& (iP (b :: a :: r) ||| (-2 : Int64)) = iP ((a && b) :: r) ∨ 60 < r.length := by
  by_cases q : 60 < r.length
  · exact Or.inr q
  · left
    apply iP_ext
    intro i hi
    rw [Int64.toBitVec_and, BitVec.getLsbD_and, shr_bit hi, Int64.toBitVec_or, BitVec.getLsbD_or, m2_bit hi, iP_bit hi]
    by_cases h63 : i + 1 < 64
    · rw [iP_bit h63]
      cases i with
      | zero => simp
      | succ i => simp
    · have e : (iP (b :: a :: r)).toBitVec.getLsbD (i + 1) = false := BitVec.getLsbD_of_ge _ _ (by omega)
      rw [e]
      have : i = 63 := by omega
      subst this
      have e2 : r[62]? = none := List.getElem?_eq_none (by omega)
      simp [e2]
theorem iP_or {a b : Bool} {r : List Bool} : ((iP (b :: a :: r)).toUInt64 >>> (((1 : Int32)).toInt64.toUInt64 &&& Int64.toUInt64 63)).toInt64 ||| (iP (b :: a :: r) &&& (1 : Int64)) = iP ((a || b) :: r) ∨ 60 < r.length := by
  by_cases q : 60 < r.length
  · exact Or.inr q
  · left
    apply iP_ext
    intro i hi
    rw [Int64.toBitVec_or, BitVec.getLsbD_or, shr_bit hi, Int64.toBitVec_and, BitVec.getLsbD_and, one_bit, iP_bit hi]
    by_cases h63 : i + 1 < 64
    · rw [iP_bit h63]
      cases i with
      | zero => simp
      | succ i => simp
    · have e : (iP (b :: a :: r)).toBitVec.getLsbD (i + 1) = false := BitVec.getLsbD_of_ge _ _ (by omega)
      rw [e]
      have : i = 63 := by omega
      subst this
      have e2 : r[62]? = none := List.getElem?_eq_none (by omega)
      simp [e2]
theorem shl_bit {x : Int64} {i : Nat} (hi : i < 64) : (x <<< (((1 : Int32)).toInt64 &&& 63)).toBitVec.getLsbD i = (!decide (i = 0) && x.toBitVec.getLsbD (i - 1)) := by
  have h : (((1 : Int32)).toInt64 &&& 63) = (1 : Int64) := by decide
  rw [h, Int64.toBitVec_shiftLeft]
  have h2 : (1 : Int64).toBitVec.smod 64 = 1#64 := by decide
  rw [h2, show x.toBitVec.getLsbD (i - 1) = x.toBitVec[i - 1]'(by omega) from BitVec.getLsbD_eq_getElem (by omega)]
  simp [hi]
theorem iP_push {b : Bool} {r : List Bool} : (iP r <<< (((1 : Int32)).toInt64 &&& 63)) ||| (((if b then 1 else 0 : Int32)).toInt64) = iP (b :: r) := by
  apply iP_ext
  intro i hi
  rw [Int64.toBitVec_or, BitVec.getLsbD_or, shl_bit hi]
  have hb : ((if b then 1 else 0 : Int32).toInt64).toBitVec.getLsbD i = (decide (i = 0) && b) := by
    cases b
    · have : ((if false = true then 1 else 0 : Int32).toInt64).toBitVec = 0#64 := by decide
      rw [this]; simp
    · have : ((if true = true then 1 else 0 : Int32).toInt64).toBitVec = 1#64 := by decide
      rw [this, BitVec.getLsbD_one]; simp
  rw [hb]
  cases i with
  | zero => simp
  | succ i => rw [show i + 1 - 1 = i by omega, iP_bit (by omega)]; simp
theorem iP_top {b : Bool} {r : List Bool} : (lg_cmp (iP (b :: r) &&& (1 : Int64)) (1 : Int64) = 0) ↔ b = true := by
  have h : iP (b :: r) &&& (1 : Int64) = iP [b] := by
    apply iP_ext
    intro i hi
    rw [Int64.toBitVec_and, BitVec.getLsbD_and, one_bit, iP_bit hi]
    cases i with
    | zero => simp
    | succ i => simp
  rw [h]
  cases b <;> decide
theorem iP_nil : iP [] = 0 := by decide
