/-! ===== a law in the class's memory; its tests hold as they evaluate ===== -/
theorem iI_int {a : Int} (h : -2147483648 ≤ a) (h2 : a < 2147483648) : (Int32.ofInt a).toInt = a := Int32.toInt_ofInt_of_le h h2
theorem iI_lt {a b : Int} (h : -2147483648 ≤ a ∧ a < 2147483648) (g : -2147483648 ≤ b ∧ b < 2147483648) : Int32.ofInt a < Int32.ofInt b ↔ a < b := by
  rw [Int32.lt_iff_toInt_lt, iI_int h.1 h.2, iI_int g.1 g.2]
theorem iI_le {a b : Int} (h : -2147483648 ≤ a ∧ a < 2147483648) (g : -2147483648 ≤ b ∧ b < 2147483648) : Int32.ofInt a ≤ Int32.ofInt b ↔ a ≤ b := by
  rw [Int32.le_iff_toInt_le, iI_int h.1 h.2, iI_int g.1 g.2]
theorem iI_inj {a b : Int} (h : -2147483648 ≤ a ∧ a < 2147483648) (g : -2147483648 ≤ b ∧ b < 2147483648) : Int32.ofInt a = Int32.ofInt b ↔ a = b := by
  constructor
  · intro e
    have := congrArg Int32.toInt e
    rwa [iI_int h.1 h.2, iI_int g.1 g.2] at this
  · intro e; rw [e]
theorem iN_I {n : Nat} : Int32.ofNat n = Int32.ofInt (n : Int) := (Int32.ofInt_eq_ofNat).symm
/-- a token in the class's code, in the reference's signs -/
def encC (t : Tok) : Int32 := if t.1 = 0 then Int32.ofNat ((t.2.1 * 3 + t.2.2.1) * 100 + t.2.2.2) else if t.1 = 1 then -1 else if t.1 = 2 then -2 else -3
def encR (t : Tok) : Int32 := if t.1 = 0 then Int32.ofNat (1000 * t.2.1 + 100 * t.2.2.1 + t.2.2.2) else if t.1 = 1 then -33 else if t.1 = 2 then -38 else -124
def SegI (f : Nat → Int32) (enc : Tok → Int32) : Nat → List Tok → Prop
  | _, [] => True
  | o, t :: r => f o = enc t ∧ SegI f enc (o + 1) r
def lawIds : List Nat := [125, 225, 325, 400, 410, 420, 430, 440, 450]
theorem lawK : ∀ l ∈ lawIds, x_kdC l = 4 + 1 ∧ (x_kdC (l + 1) = 20 ∧ x_lnA (l + 1) = 10) ∧ (x_kdC (l + 2) = 20 ∧ x_lnA (l + 2) = 10) ∧ (x_kdC (l + 3) = 20 ∧ x_lnA (l + 3) = 10) ∧ (x_kdC (l + 4) = 20 ∧ x_lnA (l + 4) = 100) ∧ (x_kdC (l + 5) = 20 ∧ x_lnA (l + 5) = 6) := by decide +kernel
theorem lawP : ∀ l ∈ lawIds, rf107 l 0 = l + 1 ∧ rf107 l 1 = l + 2 ∧ rf107 l 2 = l + 3 ∧ rf107 l 3 = l + 4 ∧ rf107 l 4 = l + 5 := by decide +kernel
theorem lawNe : ∀ l ∈ lawIds, ¬ (l = 100 ∨ l = 200 ∨ l = 300) := by decide
section LAWC
variable {ad : Nat → Nat} {D : va_G} {cA : Nat → ClassId} {μ : x_M}
theorem pt_L {l : Nat} (hl : l ∈ lawIds) (h : Pt μ) : μ.2.1 l 0 = l + 1 ∧ μ.2.1 l 1 = l + 2 ∧ μ.2.1 l 2 = l + 3 ∧ μ.2.1 l 3 = l + 4 ∧ μ.2.1 l 4 = l + 5 := by
  have r := lawP l hl
  have n := lawNe l hl
  rw [h l 0 (fun z => n z.1), h l 1 (fun z => n z.1), h l 2 (fun z => n z.1), h l 3 (fun z => n z.1), h l 4 (fun z => n z.1)]
  exact r
theorem c_at {o i : Nat} (hk : x_kdC o = 20) (hi : i < x_lnA o) (hl : x_lnA o < 2 ^ 31) : f_X9_at (XC ad D cA) o (Int32.ofNat i) μ = some (μ.1 o i, μ) := by
  unfold f_X9_at
  rw [if_neg (iN_neg (by omega)), ck_t (by rw [kC, hk]; exact Or.inl rfl), lC, if_neg (by rw [show nI (x_lnA o) = Int32.ofNat (x_lnA o) from rfl, iN_le (by omega) (by omega)]; omega), ck_t (by rw [kC, hk]; exact ⟨Or.inl rfl, iN_ix (by omega) hi⟩), iN_cl (by omega)]
/-- what the letters stand for -/
def ValC (μ : x_M) (l : Nat) (fa : Nat → Int) : Prop := ∀ f, f < 6 → μ.1 (l + 5) f = Int32.ofInt (fa f) ∧ -20000 ≤ fa f ∧ fa f ≤ 20000
/-- the class's pushing of a truth -/
theorem c_push {k9 : Nat → Int32 → Int64 → Int32 → x_M → Option (Int32 × x_M)} {l : Nat} {to i : Int32} {st : List Bool} (b : Bool) : f_X4_holds_J166 (XC ad D cA) k9 l to (iP st) i (if b then 1 else 0) μ = k9 l to (iP (b :: st)) (i + 1) μ := by
  unfold f_X4_holds_J166
  have h := iP_push (b := b) (r := st)
  cases b
  · rw [if_pos (by decide), lt_v, ← h]; rfl
  · rw [if_neg (by decide), lt_v, ← h]; rfl
end LAWC
