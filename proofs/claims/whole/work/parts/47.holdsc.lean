/-! ===== the class's holds ===== -/
section HOLDC
variable {ad : Nat → Nat} {D : va_G} {cA : Nat → ClassId} {μ : x_M}
theorem iN_ne {n : Nat} {v : Int32} (h : n < 2 ^ 31) (hv : v < 0) : ¬ Int32.ofNat n = v := fun z => iN_neg h (by rw [z]; exact hv)
theorem iN_rem {a b : Nat} (ha : a < 2 ^ 31) (hb : b < 2 ^ 31) : Int32.ofNat a - Int32.ofNat a / Int32.ofNat b * Int32.ofNat b = Int32.ofNat (a % b) := by
  have h1 := Nat.div_mul_le_self a b
  rw [iN_div ha hb, iN_mul, iN_sub h1]
  congr 1
  have := Nat.div_add_mod a b
  rw [Nat.mul_comm] at this
  omega
theorem c_holdsL {l : Nat} {fa : Nat → Int} {k : Int64 → x_M → Option (Int32 × x_M)} (hl : l ∈ lawIds) (hP : Pt μ) (hV : ValC μ l fa) : ∀ (ts : List Tok) (st : List Bool) (o F e : Nat) (i : Int32), ts.length < F → SegI (μ.1 (l + 4)) encC o ts → wfT ts st.length → st.length ≤ 50 → e = o + ts.length → e ≤ 100 → i = Int32.ofNat o → f_X4_holds_L9 (XC ad D cA) k F l (Int32.ofNat e) (iP st) i μ = k (iP (evalT fa ts st)) μ := by
  obtain ⟨k0, -, -, -, ⟨k4, l4⟩, k5, l5⟩ := lawK l hl
  obtain ⟨-, -, -, p3, p4⟩ := pt_L hl hP
  intro ts
  induction ts with
  | nil =>
    intro st o F e i hF _ _ _ he h100 hi
    obtain ⟨f, rfl⟩ : ∃ n, F = n + 1 := ⟨F - 1, by omega⟩
    unfold f_X4_holds_L9
    rw [hi, if_pos ((iN_le (by omega) (by omega)).mpr (by simp at he; omega))]
    rfl
  | cons t r ih =>
    intro st o F e i hF hS hw hst he h100 hi
    rw [List.length_cons] at he hF
    obtain ⟨f, rfl⟩ : ∃ n, F = n + 1 := ⟨F - 1, by omega⟩
    obtain ⟨hc, hS⟩ := hS
    obtain ⟨⟨t1, t2, t3, t4⟩, h', hh, h50, hw⟩ := hw
    have hlen := tokStep_len (fa := fa) hh
    have nx : ∀ x, x = iP (tokStep fa t st) → f_X4_holds_L9 (XC ad D cA) k f l (Int32.ofNat e) x (i + 1) μ = k (iP (evalT fa (t :: r) st)) μ := by
      intro x hx
      rw [hx]
      exact ih (tokStep fa t st) (o + 1) f e _ (by omega) hS (by rw [hlen]; exact hw) (by rw [hlen]; exact h50) (by omega) h100 (by rw [hi]; exact iN_s)
    unfold f_X4_holds_L9
    rw [hi, if_neg (fun z => by have := (iN_le (by omega) (by omega)).mp z; omega), show (100 : Int32) = Int32.ofNat 100 from rfl, if_neg (fun z => by have := (iN_le (by omega) (by omega)).mp z; omega), ← hi, ck_t (by rw [kC]; exact k0), lt_v, p3, ck_t (by rw [kC, k4, lC, l4, hi]; exact ⟨Or.inl rfl, iN_ix (by omega) (by omega)⟩), lt_v]
    have hcell : μ.1 (l + 4) i.toNatClampNeg = encC t := by rw [hi, iN_cl (by omega)]; exact hc
    rw [hcell]
    by_cases q0 : t.1 = 0
    · have e0 : encC t = Int32.ofNat ((t.2.1 * 3 + t.2.2.1) * 100 + t.2.2.2) := by unfold encC; rw [if_pos q0]
      have N1 : ((t.2.1 * 3 + t.2.2.1) * 100 + t.2.2.2) / 300 = t.2.1 := by omega
      have N2 : ((t.2.1 * 3 + t.2.2.1) * 100 + t.2.2.2) % 100 = t.2.2.2 := by omega
      have N3 : ((t.2.1 * 3 + t.2.2.1) * 100 + t.2.2.2) / 100 % 3 = t.2.2.1 := by omega
      have N4 : ((t.2.1 * 3 + t.2.2.1) * 100 + t.2.2.2) < 2000 := by omega
      rw [e0]
      generalize (t.2.1 * 3 + t.2.2.1) * 100 + t.2.2.2 = N at N1 N2 N3 N4
      obtain ⟨v1, v2, v3⟩ := hV t.2.1 (by omega)
      have st0 : tokStep fa t st = relB t.2.2.1 (fa t.2.1) t.2.2.2 :: st := by unfold tokStep; rw [if_pos q0]
      rw [if_neg (iN_ne (by omega) (by decide)), if_neg (iN_ne (by omega) (by decide)), if_neg (iN_ne (by omega) (by decide)), ck_t (by rw [kC]; exact k0), lt_v, p4, ck_t (by decide), show (300 : Int32) = Int32.ofNat 300 from rfl, iN_div (by omega) (by omega), N1, c_at k5 (by rw [l5]; omega) (by rw [l5]; omega), bd_s, ck_t (by decide), lt_v, ck_t (by decide), lt_v, ck_t (by decide), lt_v]
      rw [iN_rem (by omega) (by omega), N2, show (3 : Int32) = Int32.ofNat 3 from rfl, iN_div (by omega) (by omega), iN_rem (by omega) (by omega), N3, v1]
      have nI4 : Int32.ofNat t.2.2.2 = Int32.ofInt ((t.2.2.2 : Nat) : Int) := iN_I
      rw [nI4]
      have fin : ∀ (b : Bool) (w : Int32), w = (if b then 1 else 0) → b = relB t.2.2.1 (fa t.2.1) t.2.2.2 → f_X4_holds_J166 (XC ad D cA) (f_X4_holds_L9 (XC ad D cA) k f) l (Int32.ofNat e) (iP st) i w μ = k (iP (evalT fa (t :: r) st)) μ := by
        intro b w hw hb
        rw [hw, c_push]
        exact nx _ (by rw [st0, hb])
      by_cases s0 : t.2.2.1 = 0
      · rw [s0, if_pos (show Int32.ofNat 0 = 0 from rfl)]
        by_cases g : ((t.2.2.2 : Nat) : Int) ≤ fa t.2.1
        · rw [if_pos ((iI_le (by omega) (by omega)).mpr g)]
          exact fin false _ rfl (by unfold relB; rw [if_pos s0]; exact (decide_eq_false (by omega)).symm)
        · rw [if_neg (fun z => g ((iI_le (by omega) (by omega)).mp z))]
          exact fin true _ rfl (by unfold relB; rw [if_pos s0]; exact (decide_eq_true (by omega)).symm)
      · have z0 : ¬ Int32.ofNat t.2.2.1 = 0 := fun z => s0 ((iN_inj (b := 0) (by omega) (by omega)).mp z)
        rw [if_neg z0]
        by_cases s1 : t.2.2.1 = 1
        · rw [s1, if_pos (show Int32.ofNat 1 = 1 from rfl)]
          by_cases g : fa t.2.1 = ((t.2.2.2 : Nat) : Int)
          · rw [if_pos (by rw [g])]
            exact fin true _ rfl (by unfold relB; rw [if_neg s0, if_pos s1]; exact (decide_eq_true g).symm)
          · rw [if_neg (fun z => g ((iI_inj (by omega) (by omega)).mp z))]
            exact fin false _ rfl (by unfold relB; rw [if_neg s0, if_pos s1]; exact (decide_eq_false g).symm)
        · have z1 : ¬ Int32.ofNat t.2.2.1 = 1 := fun z => s1 ((iN_inj (b := 1) (by omega) (by omega)).mp z)
          rw [if_neg z1]
          by_cases g : fa t.2.1 ≤ ((t.2.2.2 : Nat) : Int)
          · rw [if_pos ((iI_le (by omega) (by omega)).mpr g)]
            exact fin false _ rfl (by unfold relB; rw [if_neg s0, if_neg s1]; exact (decide_eq_false (by omega)).symm)
          · rw [if_neg (fun z => g ((iI_le (by omega) (by omega)).mp z))]
            exact fin true _ rfl (by unfold relB; rw [if_neg s0, if_neg s1]; exact (decide_eq_true (by omega)).symm)
    · by_cases q1 : t.1 = 1
      · have e0 : encC t = -1 := by unfold encC; rw [if_neg q0, if_pos q1]
        rw [e0, if_pos rfl, lt_v]
        refine nx _ ?_
        unfold tokH at hh
        rw [if_neg q0, if_pos q1] at hh
        match st, hh with
        | [], hh => simp at hh
        | b :: st, _ =>
          have : tokStep fa t (b :: st) = (!b) :: st := by unfold tokStep; rw [if_neg q0, if_pos q1]
          rw [this]; exact iP_not
      · unfold tokH at hh
        rw [if_neg q0, if_neg q1] at hh
        match st, hh, hst with
        | [], hh, _ => simp at hh
        | [_], hh, _ => simp at hh
        | b :: a :: st, _, hst =>
          rw [List.length_cons, List.length_cons] at hst
          by_cases q2 : t.1 = 2
          · have e0 : encC t = -2 := by unfold encC; rw [if_neg q0, if_neg q1, if_pos q2]
            rw [e0, if_neg (by decide), if_pos rfl, lt_v]
            refine nx _ ?_
            have : tokStep fa t (b :: a :: st) = (a && b) :: st := by unfold tokStep; rw [if_neg q0, if_neg q1, if_pos q2]
            rw [this]
            rcases iP_and (a := a) (b := b) (r := st) with h | h
            · exact h
            · omega
          · have e0 : encC t = -3 := by unfold encC; rw [if_neg q0, if_neg q1, if_neg q2]
            rw [e0, if_neg (by decide), if_neg (by decide), if_pos rfl, lt_v]
            refine nx _ ?_
            have : tokStep fa t (b :: a :: st) = (a || b) :: st := by unfold tokStep; rw [if_neg q0, if_neg q1, if_neg q2]
            rw [this]
            rcases iP_or (a := a) (b := b) (r := st) with h | h
            · exact h
            · omega
end HOLDC
