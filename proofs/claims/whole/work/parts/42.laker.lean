/-! ===== the reference: its arrays, marks and what they hold ===== -/
def rf108 (o k : Nat) : Nat := x_U108.2.1 o k
/-- field k is an int array of so many ints -/
def mA (k N : Nat) : Prop := rf108 600 k = 601 + k ∧ x_kdR (601 + k) = 20 ∧ x_lnA (601 + k) = N
theorem mA_4 : mA 4 6 := by unfold mA; decide +kernel
theorem mA_5 : mA 5 6 := by unfold mA; decide +kernel
theorem mA_6 : mA 6 6 := by unfold mA; decide +kernel
theorem mA_7 : mA 7 6 := by unfold mA; decide +kernel
theorem mA_8 : mA 8 6 := by unfold mA; decide +kernel
theorem mA_9 : mA 9 6 := by unfold mA; decide +kernel
theorem mA_10 : mA 10 24 := by unfold mA; decide +kernel
theorem mA_16 : mA 16 100 := by unfold mA; decide +kernel
theorem mA_17 : mA 17 6 := by unfold mA; decide +kernel
theorem mA_18 : mA 18 60 := by unfold mA; decide +kernel
theorem mA_19 : mA 19 60 := by unfold mA; decide +kernel
theorem mA_20 : mA 20 60 := by unfold mA; decide +kernel
theorem mA_21 : mA 21 60 := by unfold mA; decide +kernel
theorem mA_22 : mA 22 600 := by unfold mA; decide +kernel
theorem mA_23 : mA 23 101 := by unfold mA; decide +kernel
theorem mA_27 : mA 27 22 := by unfold mA; decide +kernel
theorem mA_33 : mA 33 6 := by unfold mA; decide +kernel
theorem mA_34 : mA 34 6 := by unfold mA; decide +kernel
theorem mA_38 : mA 38 6 := by unfold mA; decide +kernel
theorem mA_39 : mA 39 6 := by unfold mA; decide +kernel
theorem mA_41 : mA 41 4 := by unfold mA; decide +kernel
theorem mA_42 : mA 42 4 := by unfold mA; decide +kernel
theorem mA_45 : mA 45 8 := by unfold mA; decide +kernel
theorem mA_46 : mA 46 8 := by unfold mA; decide +kernel
theorem mA_47 : mA 47 8 := by unfold mA; decide +kernel
theorem mA_48 : mA 48 8 := by unfold mA; decide +kernel
theorem mA_72 : mA 72 20 := by unfold mA; decide +kernel
theorem mA_73 : mA 73 6 := by unfold mA; decide +kernel
theorem mA_74 : mA 74 6 := by unfold mA; decide +kernel
theorem k600 : x_kdR 600 = 10 + 1 := by decide +kernel
/-- the reference's own references never change -/
def Pr (μ : x_M) : Prop := ∀ o k, μ.2.1 o k = rf108 o k
section LAKER
variable {ad : Nat → Nat} {D : va_G} {cA : Nat → ClassId} {μ : x_M}
def ArR (μ : x_M) (ar : Nat → Nat) : Prop := ∀ s, s < 6 → μ.1 605 s = Int32.ofNat (ar s) ∧ 1 ≤ ar s ∧ ar s ≤ 20
theorem mA.rd {k N : Nat} (h : mA k N) {i : Int32} {j : Nat} (hi : i = Int32.ofNat j) (hj : j < N) (hN : N < 2 ^ 31) : (x_kd (XR ad D cA) (601 + k) = 20 ∨ x_kd (XR ad D cA) (601 + k) = 40) ∧ x_ix i (x_ln (XR ad D cA) (601 + k)) := by
  rw [kR, lR, h.2.1, h.2.2, hi]
  exact ⟨Or.inl rfl, iN_ix (by omega) hj⟩
theorem mA.wr {k N : Nat} (h : mA k N) {i : Int32} {j : Nat} (hi : i = Int32.ofNat j) (hj : j < N) (hN : N < 2 ^ 31) : x_kd (XR ad D cA) (601 + k) = 20 ∧ x_ix i (x_ln (XR ad D cA) (601 + k)) := by
  rw [kR, lR, h.2.1, h.2.2, hi]
  exact ⟨rfl, iN_ix (by omega) hj⟩
theorem mA.at {k N : Nat} (h : mA k N) (hP : Pr μ) : μ.2.1 600 k = 601 + k := (hP 600 k).trans h.1
theorem r_volL {ar : Nat → Nat} (hP : Pr μ) (hA : ArR μ ar) (m : Nat) (hm : m ≤ 60) : ∀ (k j F : Nat) (x i : Int32), j + k = m → k < F → x = Int32.ofNat (cum ar j) → i = Int32.ofNat j → f_X10_volumeOf_L4 (XR ad D cA) F 600 (Int32.ofNat m) x i μ = some (Int32.ofNat (cum ar m), μ) := by
  intro k
  induction k with
  | zero =>
    intro j F x i h hF hx hi
    obtain ⟨f, rfl⟩ : ∃ n, F = n + 1 := ⟨F - 1, by omega⟩
    unfold f_X10_volumeOf_L4
    rw [hi, hx, if_pos ((iN_le (by omega) (by omega)).mpr (by omega)), show j = m by omega]
  | succ k ih =>
    intro j F x i h hF hx hi
    obtain ⟨f, rfl⟩ : ∃ n, F = n + 1 := ⟨F - 1, by omega⟩
    unfold f_X10_volumeOf_L4
    obtain ⟨ea, e1, e2⟩ := hA (j / 10) (by omega)
    have hd : i / (10 : Int32) = Int32.ofNat (j / 10) := by rw [hi, show (10 : Int32) = Int32.ofNat 10 from rfl, iN_div (by omega) (by omega)]
    rw [if_neg (by rw [hi, iN_le (by omega) (by omega)]; omega), ck_t (by rw [kR]; exact k600), lt_v, mA_4.at hP, ck_t (by decide), lt_v, hd, ck_t (mA_4.rd rfl (by omega) (by omega)), lt_v]
    exact ih (j + 1) f _ _ (by omega) (by omega) (by rw [hx, iN_cl (by omega), ea, iN_add]; rfl) (by rw [hi]; exact iN_s)
theorem r_vol {ar : Nat → Nat} (hP : Pr μ) (hA : ArR μ ar) {m : Nat} (hm : m ≤ 60) : f_X10_volumeOf (XR ad D cA) 600 (Int32.ofNat m) μ = some (Int32.ofNat (cum ar m), μ) := by
  unfold f_X10_volumeOf
  exact r_volL hP hA m hm m 0 _ _ _ (by omega) (by omega) rfl rfl
theorem r_levL {ar : Nat → Nat} (hP : Pr μ) (hA : ArR μ ar) (n : Nat) (hn : n < 2 ^ 31) : ∀ (k j F : Nat) (x i : Int32), j + k = 60 → k < F → cum ar j ≤ n → x = Int32.ofNat (cum ar j) → i = Int32.ofNat j → f_X10_levelOf_L4 (XR ad D cA) F 600 (Int32.ofNat n) i x μ = some (Int32.ofNat (lvl ar n), μ) := by
  intro k
  induction k with
  | zero =>
    intro j F x i h hF hc hx hi
    obtain ⟨f, rfl⟩ : ∃ n, F = n + 1 := ⟨F - 1, by omega⟩
    unfold f_X10_levelOf_L4
    rw [hi, show (60 : Int32) = Int32.ofNat 60 from rfl, if_pos ((iN_le (by omega) (by omega)).mpr (by omega))]
    have : IsLvl ar n j := ⟨by omega, hc, Or.inl (by omega)⟩
    rw [lvl_is.uniq this]
  | succ k ih =>
    intro j F x i h hF hc hx hi
    obtain ⟨f, rfl⟩ : ∃ n, F = n + 1 := ⟨F - 1, by omega⟩
    unfold f_X10_levelOf_L4
    obtain ⟨ea, e1, e2⟩ := hA (j / 10) (by omega)
    have hb := cum_le (ar := ar) (fun s hs => (hA s hs).2.2) j (by omega)
    have hd : i / (10 : Int32) = Int32.ofNat (j / 10) := by rw [hi, show (10 : Int32) = Int32.ofNat 10 from rfl, iN_div (by omega) (by omega)]
    have e3 : x + μ.1 605 (Int32.ofNat (j / 10)).toNatClampNeg = Int32.ofNat (cum ar (j + 1)) := by rw [hx, iN_cl (by omega), ea, iN_add]; rfl
    have e4 : cum ar (j + 1) = cum ar j + ar (j / 10) := rfl
    rw [show (60 : Int32) = Int32.ofNat 60 from rfl, if_neg (by rw [hi, iN_le (by omega) (by omega)]; omega), ck_t (by rw [kR]; exact k600), lt_v, mA_4.at hP, ck_t (by decide), lt_v, hd, ck_t (mA_4.rd rfl (by omega) (by omega))]
    show (if Int32.ofNat n < x + μ.1 605 (Int32.ofNat (j / 10)).toNatClampNeg then _ else _) = _
    rw [e3]
    by_cases q : n < cum ar (j + 1)
    · rw [if_pos ((iN_lt (by omega) (by omega)).mpr q), hi]
      have : IsLvl ar n j := ⟨by omega, hc, Or.inr q⟩
      rw [lvl_is.uniq this]
    · rw [if_neg (fun z => q ((iN_lt (by omega) (by omega)).mp z)), ck_t (by rw [kR]; exact k600), lt_v, ck_t (by decide), lt_v, ck_t (mA_4.rd rfl (by omega) (by omega)), lt_v]
      exact ih (j + 1) f _ _ (by omega) (by omega) (by omega) e3 (by rw [hi]; exact iN_s)
theorem r_lev {ar : Nat → Nat} (hP : Pr μ) (hA : ArR μ ar) {n : Nat} (hn : n < 2 ^ 31) : f_X10_levelOf (XR ad D cA) 600 (Int32.ofNat n) μ = some (Int32.ofNat (lvl ar n), μ) := by
  unfold f_X10_levelOf
  exact r_levL hP hA n hn 60 0 _ _ _ (by omega) (by omega) (Nat.zero_le _) rfl rfl
end LAKER
