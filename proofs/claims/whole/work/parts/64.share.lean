/-! ===== fractions; the mean level, the shares of the sun ===== -/
theorem jN_int {j : Nat} (h : j < 2 ^ 63) : (Int64.ofNat j).toInt = j := Int64.toInt_ofNat_of_lt h
theorem jN_inj {a b : Nat} (ha : a < 2 ^ 63) (hb : b < 2 ^ 63) : Int64.ofNat a = Int64.ofNat b ↔ a = b := by
  constructor
  · intro h
    have := congrArg Int64.toInt h
    rw [jN_int ha, jN_int hb] at this
    omega
  · intro h; rw [h]
theorem jN_lt {a b : Nat} (ha : a < 2 ^ 63) (hb : b < 2 ^ 63) : Int64.ofNat a < Int64.ofNat b ↔ a < b := by
  rw [Int64.lt_iff_toInt_lt, jN_int ha, jN_int hb]; omega
theorem jN_le {a b : Nat} (ha : a < 2 ^ 63) (hb : b < 2 ^ 63) : Int64.ofNat a ≤ Int64.ofNat b ↔ a ≤ b := by
  rw [Int64.le_iff_toInt_le, jN_int ha, jN_int hb]; omega
theorem jN_rem {a b : Nat} (ha : a < 2 ^ 63) (hb : b < 2 ^ 63) : Int64.ofNat a - Int64.ofNat a / Int64.ofNat b * Int64.ofNat b = Int64.ofNat (a % b) := by
  have h1 := Nat.div_mul_le_self a b
  rw [← Int64.ofNat_div ha hb, ← Int64.ofNat_mul, ← Int64.ofNat_sub _ _ h1]
  congr 1
  have := Nat.div_add_mod a b
  rw [Nat.mul_comm] at this
  omega
theorem cmp0 {a b : Nat} (ha : a < 2 ^ 63) (hb : b < 2 ^ 63) : lg_cmp (Int64.ofNat a) (Int64.ofNat b) = 0 ↔ a = b := by
  unfold lg_cmp
  by_cases q : b < a
  · rw [if_pos (show Int64.ofNat a > Int64.ofNat b from (jN_lt hb ha).mpr q)]
    exact ⟨fun z => absurd z (by decide), fun z => by omega⟩
  · rw [if_neg (fun z => q ((jN_lt hb ha).mp z))]
    by_cases e : a = b
    · rw [if_pos (by rw [e])]; exact ⟨fun _ => e, fun _ => rfl⟩
    · rw [if_neg (fun z => e ((jN_inj ha hb).mp z))]; exact ⟨fun z => absurd z (by decide), fun z => absurd z e⟩
theorem i2l {n : Nat} (h : n < 2 ^ 31) : (Int32.ofNat n).toInt64 = Int64.ofNat n := Int32.toInt64_ofNat (by omega)
section SHARE
variable {ad : Nat → Nat} {D : va_G} {cA : Nat → ClassId} {μ : x_M}
theorem gcd_step {a b : Nat} : Nat.gcd b (a % b) = Nat.gcd a b := by
  rw [Nat.gcd_comm, ← Nat.gcd_rec, Nat.gcd_comm]
theorem c_gcdL : ∀ (t a b k s F : Nat) (x : Int32), b < 2 ^ t → 2 * t ≤ s → k + s = 100 → s < F → a < 2 ^ 31 → b < 2 ^ 31 → x = Int32.ofNat k → f_X9_commonDivisor_L9 (XC ad D cA) F (Int64.ofNat a) (Int64.ofNat b) x μ = some (Int64.ofNat (Nat.gcd a b), μ) := by
  have stop : ∀ (a k F : Nat) (x : Int32), 0 < F → a < 2 ^ 31 → f_X9_commonDivisor_L9 (XC ad D cA) F (Int64.ofNat a) (Int64.ofNat 0) x μ = some (Int64.ofNat (Nat.gcd a 0), μ) := by
    intro a k F x hF ha
    obtain ⟨f, rfl⟩ : ∃ n, F = n + 1 := ⟨F - 1, by omega⟩
    unfold f_X9_commonDivisor_L9
    rw [Nat.gcd_zero_right, if_pos (show lg_cmp (Int64.ofNat 0) (0 : Int64) = 0 from (cmp0 (b := 0) (by decide) (by decide)).mpr rfl), ite_self]
  have one : ∀ (a b k s F : Nat) (x : Int32), b ≠ 0 → k + s = 100 → 0 < s → 0 < F → a < 2 ^ 31 → b < 2 ^ 31 → x = Int32.ofNat k → f_X9_commonDivisor_L9 (XC ad D cA) F (Int64.ofNat a) (Int64.ofNat b) x μ = f_X9_commonDivisor_L9 (XC ad D cA) (F - 1) (Int64.ofNat b) (Int64.ofNat (a % b)) (x + 1) μ := by
    intro a b k s F x hb hks hs hF ha hb31 hx
    obtain ⟨f, rfl⟩ : ∃ n, F = n + 1 := ⟨F - 1, by omega⟩
    have hc : ¬ (100 : Int32) ≤ x := fun z => by rw [hx] at z; have := (geN 100 100 rfl (by omega) (by omega)).mp z; omega
    have h0 : ¬ lg_cmp (Int64.ofNat b) (0 : Int64) = 0 := fun z => hb ((cmp0 (b := 0) (by omega) (by decide)).mp z)
    have h1 : ¬ Int64.ofNat b = 0 := fun z => hb ((jN_inj (b := 0) (by omega) (by decide)).mp z)
    rw [Nat.add_sub_cancel]
    conv => lhs; unfold f_X9_commonDivisor_L9
    rw [if_neg hc, if_neg h0, ck_t h1, lt_v, jN_rem (by omega) (by omega)]
  intro t
  induction t with
  | zero =>
    intro a b k s F x hb _ hks hF ha _ hx
    have e : b = 0 := by simp at hb; exact hb
    subst e
    exact stop a k F x (by omega) ha
  | succ t ih =>
    intro a b k s F x hb hs hks hF ha hb31 hx
    by_cases q : b = 0
    · subst q; exact stop a k F x (by omega) ha
    · rw [one a b k s F x q hks (by omega) (by omega) ha hb31 hx]
      have hr := Nat.mod_lt a (Nat.pos_of_ne_zero q)
      by_cases q2 : a % b = 0
      · rw [q2, stop b (k + 1) (F - 1) (x + 1) (by omega) hb31, ← q2, gcd_step]
      · rw [one b (a % b) (k + 1) (s - 1) (F - 1) (x + 1) q2 (by omega) (by omega) (by omega) hb31 (by omega) (by rw [hx]; exact iN_s)]
        have hr2 := Nat.mod_lt b (Nat.pos_of_ne_zero q2)
        have hd := Nat.div_add_mod b (a % b)
        have hd1 : 1 ≤ b / (a % b) := (Nat.le_div_iff_mul_le (Nat.pos_of_ne_zero q2)).mpr (by omega)
        have hm : a % b ≤ a % b * (b / (a % b)) := Nat.le_mul_of_pos_right _ hd1
        have hlt : b % (a % b) < 2 ^ t := by rw [Nat.pow_succ] at hb; omega
        rw [ih (a % b) (b % (a % b)) (k + 1 + 1) (s - 1 - 1) (F - 1 - 1) _ hlt (by omega) (by omega) (by omega) (by omega) (by omega) (by rw [hx, iN_s]; exact iN_s), gcd_step, gcd_step]
theorem r_gcdL : ∀ (t a b F : Nat), b < 2 ^ t → 2 * t < F → a < 2 ^ 31 → b < 2 ^ 31 → f_X10_divisor_L5 (XR ad D cA) F (Int32.ofNat a) (Int32.ofNat b) μ = some (Int32.ofNat (Nat.gcd a b), μ) := by
  have stop : ∀ (a F : Nat), 0 < F → f_X10_divisor_L5 (XR ad D cA) F (Int32.ofNat a) (Int32.ofNat 0) μ = some (Int32.ofNat (Nat.gcd a 0), μ) := by
    intro a F hF
    obtain ⟨f, rfl⟩ : ∃ n, F = n + 1 := ⟨F - 1, by omega⟩
    unfold f_X10_divisor_L5
    rw [Nat.gcd_zero_right, if_pos (show Int32.ofNat 0 = 0 from rfl)]
  have one : ∀ (a b F : Nat), b ≠ 0 → 0 < F → a < 2 ^ 31 → b < 2 ^ 31 → f_X10_divisor_L5 (XR ad D cA) F (Int32.ofNat a) (Int32.ofNat b) μ = f_X10_divisor_L5 (XR ad D cA) (F - 1) (Int32.ofNat b) (Int32.ofNat (a % b)) μ := by
    intro a b F hb hF ha hb31
    obtain ⟨f, rfl⟩ : ∃ n, F = n + 1 := ⟨F - 1, by omega⟩
    have h1 : ¬ Int32.ofNat b = 0 := fun z => hb ((iN_inj (b := 0) (by omega) (by decide)).mp z)
    rw [Nat.add_sub_cancel]
    conv => lhs; unfold f_X10_divisor_L5
    rw [if_neg h1, ck_t h1, lt_v, iN_rem (by omega) (by omega)]
  intro t
  induction t with
  | zero =>
    intro a b F hb hF ha _
    have e : b = 0 := by simp at hb; exact hb
    subst e
    exact stop a F (by omega)
  | succ t ih =>
    intro a b F hb hF ha hb31
    by_cases q : b = 0
    · subst q; exact stop a F (by omega)
    · rw [one a b F q (by omega) ha hb31]
      have hr := Nat.mod_lt a (Nat.pos_of_ne_zero q)
      by_cases q2 : a % b = 0
      · rw [q2, stop b (F - 1) (by omega), ← q2, gcd_step]
      · rw [one b (a % b) (F - 1) q2 (by omega) hb31 (by omega)]
        have hr2 := Nat.mod_lt b (Nat.pos_of_ne_zero q2)
        have hd := Nat.div_add_mod b (a % b)
        have hd1 : 1 ≤ b / (a % b) := (Nat.le_div_iff_mul_le (Nat.pos_of_ne_zero q2)).mpr (by omega)
        have hm : a % b ≤ a % b * (b / (a % b)) := Nat.le_mul_of_pos_right _ hd1
        have hlt : b % (a % b) < 2 ^ t := by rw [Nat.pow_succ] at hb; omega
        rw [ih (a % b) (b % (a % b)) (F - 1 - 1) hlt (by omega) (by omega) (by omega), gcd_step, gcd_step]
/-- a fraction in lowest terms, one part; none below 0 -/
def lowT (p above below : Nat) : Int64 := if below = 0 then (-9223372036854775808 : Int64) else Int64.ofNat ((if p = 0 then above else below) / Nat.gcd above below)
theorem c_low {a b p : Nat} (ha : a < 2 ^ 31) (hb : b < 2 ^ 31) (hp : p ≤ 1) : f_X9_lowestTerms (XC ad D cA) (Int64.ofNat a) (Int64.ofNat b) (Int32.ofNat p) μ = some (lowT p a b, μ) := by
  have e : f_X9_commonDivisor (XC ad D cA) (Int64.ofNat a) (Int64.ofNat b) μ = some (Int64.ofNat (Nat.gcd a b), μ) := c_gcdL 31 a b 0 100 4096 0 hb (by decide) rfl (by decide) ha hb rfl
  unfold f_X9_lowestTerms lowT
  simp only [e, bdE]
  by_cases q : b = 0
  · rw [if_pos q, if_pos ((lg_cmp_le _ _).mpr (by rw [q]; decide))]
  · have hg : 0 < Nat.gcd a b := Nat.gcd_pos_of_pos_right a (Nat.pos_of_ne_zero q)
    have hgb := Nat.gcd_le_right a (Nat.pos_of_ne_zero q)
    have h1 : ¬ Int64.ofNat (Nat.gcd a b) = 0 := fun z => by have := (jN_inj (b := 0) (by omega) (by decide)).mp z; omega
    rw [if_neg q, if_neg (fun z => q (by have := (jN_le (b := 0) (by omega) (by decide)).mp ((lg_cmp_le _ _).mp z); omega)), if_pos (show 0 < lg_cmp (Int64.ofNat (Nat.gcd a b)) (0 : Int64) from (lg_cmp_gt _ _).mpr ((jN_lt (a := 0) (by decide) (by omega)).mpr hg))]
    by_cases z : p = 0
    · rw [if_pos z, if_pos (by rw [z]; rfl), ck_t h1, ← Int64.ofNat_div (by omega) (by omega)]
    · rw [if_neg z, if_neg (fun w => z ((eqN 0 0 rfl (by omega) (by decide)).mp w)), ck_t h1, ← Int64.ofNat_div (by omega) (by omega)]
theorem r_low {a b p : Nat} (ha : a < 2 ^ 31) (hb : b < 2 ^ 31) (hb0 : b ≠ 0) (hp : p ≤ 1) : f_X10_lowestTerms (XR ad D cA) 600 (Int32.ofNat a) (Int32.ofNat b) (Int32.ofNat p) μ = some (lowT p a b, μ) := by
  have e : f_X10_divisor (XR ad D cA) 600 (Int32.ofNat a) (Int32.ofNat b) μ = some (Int32.ofNat (Nat.gcd a b), μ) := r_gcdL 31 a b 4096 hb (by decide) ha hb
  have hg : 0 < Nat.gcd a b := Nat.gcd_pos_of_pos_right a (Nat.pos_of_ne_zero hb0)
  have hgb := Nat.gcd_le_right a (Nat.pos_of_ne_zero hb0)
  have h1 : ¬ Int32.ofNat (Nat.gcd a b) = 0 := fun z => by have := (iN_inj (b := 0) (by omega) (by decide)).mp z; omega
  have d1 := Nat.div_le_self a (Nat.gcd a b)
  have d2 := Nat.div_le_self b (Nat.gcd a b)
  unfold f_X10_lowestTerms lowT
  simp only [↓ckE, ↓reduceIte, kR, RK, Nat.reduceAdd, e, bdE, h1, not_false_eq_true]
  rw [if_neg hb0]
  by_cases z : p = 0
  · rw [if_pos z, if_pos (by rw [z]; rfl), iN_div (by omega) (by omega), i2l (by omega)]
  · rw [if_neg z, if_neg (fun w => z ((eqN 0 0 rfl (by omega) (by decide)).mp w)), iN_div (by omega) (by omega), i2l (by omega)]
theorem jN_add {a b : Nat} : Int64.ofNat a + Int64.ofNat b = Int64.ofNat (a + b) := (Int64.ofNat_add a b).symm
theorem lvN_le : ∀ (m : Nat) (T : St), lvN m T ≤ 60 * m
  | 0, _ => Nat.le_refl _
  | m + 1, T => by
    have h1 := lvN_le m T.goDay
    have h2 : T.goDay.level ≤ 60 := lvl_le
    show T.goDay.level + lvN m T.goDay ≤ _
    omega
theorem c_meanL {n p : Nat} {R : Rw} (hn : 1 ≤ n ∧ n ≤ 40) (hp : p ≤ 1) : ∀ (m k F s : Nat) (x : Int32) (ν : x_M) (T : St), k + m = n → m < F → x = Int32.ofNat k → Later ν T R → T.day + m ≤ 20000 → s + 60 * m ≤ 10000 → ∃ ν', f_X2_meanLevel_L14 (XC ad D cA) F 2 (Int32.ofNat n) (Int32.ofNat p) (Int64.ofNat s) x ν = some (lowT p (s + lvN m T) n, ν') ∧ frA askC ν ν' := by
  intro m
  induction m with
  | zero =>
    intro k F s x ν T hk hF hx h hd hs
    obtain ⟨f, rfl⟩ : ∃ n, F = n + 1 := ⟨F - 1, by omega⟩
    have hc : Int32.ofNat n ≤ x := by rw [hx]; exact (iN_le (by omega) (by omega)).mpr (by omega)
    unfold f_X2_meanLevel_L14
    rw [if_pos hc, i2l (by omega), c_low (by omega) (by omega) hp]
    exact ⟨ν, rfl, frA.rf⟩
  | succ m ih =>
    intro k F s x ν T hk hF hx h hd hs
    obtain ⟨f, rfl⟩ : ∃ n, F = n + 1 := ⟨F - 1, by omega⟩
    have hc : ¬ Int32.ofNat n ≤ x := fun z => by rw [hx] at z; have := (iN_le (by omega) (by omega)).mp z; omega
    obtain ⟨ν1, e1, h1, -, f1⟩ := c_day (ad := ad) (D := D) (cA := cA) h (by omega)
    have el := h1.1.level (ad := ad) (D := D) (cA := cA) h1.2.2
    have hlv : T.goDay.level ≤ 60 := lvl_le
    unfold f_X2_meanLevel_L14
    simp only [↓ckE, ↓ltE, ↓reduceIte, kC, CK, CP h.1.1.2, CP h1.1.1.2, Nat.reduceAdd, hc, e1, el, bdE]
    rw [i2l (by omega), jN_add]
    obtain ⟨ν', r1, r3⟩ := ih (k + 1) f (s + T.goDay.level) (x + 1) ν1 T.goDay (by omega) (by omega) (by rw [hx]; exact iN_s) h1 (by rw [St.goDay_day]; omega) (by omega)
    refine ⟨ν', ?_, f1.tr r3⟩
    rw [r1, Nat.add_assoc]; rfl
theorem r_meanL {μ1 : x_M} {n : Nat} {y : Int32} {K : Nat → Int32 → Int32 → Int32 → x_M → Option (Int64 × x_M)} (hn : n ≤ 40) : ∀ (m k F s : Nat) (x : Int32) (ν : x_M) (T : St), k + m = n → m < F → x = Int32.ofNat k → RJ μ1 ν T → T.day + m ≤ 20000 → ∃ ν' T', f_X10_mean_L34 (XR ad D cA) K F 600 (Int32.ofNat n) y (Int32.ofNat s) x ν = K 600 (Int32.ofNat n) y (Int32.ofNat (s + lvN m T)) ν' ∧ RJ μ1 ν' T' := by
  intro m
  induction m with
  | zero =>
    intro k F s x ν T hk hF hx h hd
    obtain ⟨f, rfl⟩ : ∃ n, F = n + 1 := ⟨F - 1, by omega⟩
    have hc : Int32.ofNat n ≤ x := by rw [hx]; exact (iN_le (by omega) (by omega)).mpr (by omega)
    unfold f_X10_mean_L34
    rw [if_pos hc]
    exact ⟨ν, T, rfl, h⟩
  | succ m ih =>
    intro k F s x ν T hk hF hx h hd
    obtain ⟨f, rfl⟩ : ∃ n, F = n + 1 := ⟨F - 1, by omega⟩
    have hc : ¬ Int32.ofNat n ≤ x := fun z => by rw [hx] at z; have := (iN_le (by omega) (by omega)).mp z; omega
    obtain ⟨ν1, e1, h1⟩ := r_day (ad := ad) (D := D) (cA := cA) h (by omega)
    obtain ⟨e2, e3, b1, b2⟩ := r_lf (ad := ad) (D := D) (cA := cA) h1
    unfold f_X10_mean_L34
    simp only [↓ckE, ↓ltE, ↓reduceIte, kR, RK, Nat.reduceAdd, hc, e1, e2, bdE, iN_add]
    obtain ⟨ν', T', r1, r2⟩ := ih (k + 1) f (s + T.goDay.level) (x + 1) ν1 T.goDay (by omega) (by omega) (by rw [hx]; exact iN_s) h1 (by rw [St.goDay_day]; omega)
    refine ⟨ν', T', ?_, r2⟩
    rw [r1, Nat.add_assoc]; rfl
/-! shares -/
theorem sunS_le {T : St} (h : LawOk T.law) : ∀ k, sunS T k ≤ 990 * k
  | 0 => Nat.le_refl _
  | k + 1 => by
    have h1 := sunS_le h k
    have h2 := St.sun_le h k
    show sunS T k + T.sun k ≤ _
    omega
def sunSN (T : St) : Nat → Nat
  | 0 => 0
  | k + 1 => sunSN T k + sN T k
theorem sunSN_n {T : St} : ∀ k, k ≤ T.n → sunSN T k = sunS T k
  | 0, _ => rfl
  | k + 1, h => by
    show sunSN T k + sN T k = sunS T k + T.sun k
    rw [sunSN_n k (by omega)]
    unfold sN
    rw [if_pos (by omega)]
theorem sunSN_6 {T : St} : ∀ k, T.n ≤ k → sunSN T k = sunS T T.n
  | 0, h => by rw [show T.n = 0 by omega]; rfl
  | k + 1, h => by
    rcases Nat.lt_or_ge k T.n with q | q
    · rw [show T.n = k + 1 by omega]; exact sunSN_n (k + 1) (by omega)
    · show sunSN T k + sN T k = _
      rw [sunSN_6 k q]
      unfold sN
      rw [if_neg (by omega), Nat.add_zero]
theorem shN_le (a : Nat) : ∀ (m : Nat) (T : St), LawOk T.law → T.n ≤ 6 → (shN a m T).1 ≤ 990 * m ∧ (shN a m T).2 ≤ 5940 * m
  | 0, _, _, _ => ⟨Nat.le_refl _, Nat.le_refl _⟩
  | m + 1, T, h, h6 => by
    obtain ⟨i1, i2⟩ := shN_le a m T.goDay h h6
    have h1 := St.sun_le h a
    have h2 := sunS_le h T.n
    show T.sun a + (shN a m T.goDay).1 ≤ _ ∧ sunS T T.n + (shN a m T.goDay).2 ≤ _
    omega
theorem c_sod {ν : x_M} {T : St} (hP : Pt ν) (h9 : ∀ j, j < 6 → ν.1 (304 + j) 9 = Int32.ofNat (sN T j)) : ∀ (m k F : Nat) (x y : Int32), k + m = 6 → m < F → x = Int32.ofNat k → y = Int32.ofNat (sunSN T k) → f_X7_sunOfDay_L13 (XC ad D cA) F y 303 (nI 6) x ν = some (Int32.ofNat (sunSN T 6), ν) := by
  intro m
  induction m with
  | zero =>
    intro k F x y hk hF hx hy
    obtain ⟨f, rfl⟩ : ∃ n, F = n + 1 := ⟨F - 1, by omega⟩
    have hc : nI 6 ≤ x := by rw [hx]; exact (iN_le (by omega) (by omega)).mpr (by omega)
    unfold f_X7_sunOfDay_L13
    rw [if_pos hc, hy, show k = 6 by omega]
  | succ m ih =>
    intro k F x y hk hF hx hy
    obtain ⟨f, rfl⟩ : ∃ n, F = n + 1 := ⟨F - 1, by omega⟩
    have hc : ¬ nI 6 ≤ x := fun z => by rw [hx] at z; have := (iN_le (by omega) (by omega)).mp z; omega
    have hx6 : x_ix x 6 := by rw [hx]; exact iN_ix (by omega) (by omega)
    have hcl : x.toNatClampNeg = k := by rw [hx]; exact iN_cl (by omega)
    have hB : isB 300 := Or.inr (Or.inr rfl)
    have ka := (kBa hB (i := k) (by omega)).1
    have pa := (pt_a hB (i := k) (by omega) hP).1
    simp only [Nat.reduceAdd] at ka pa
    unfold f_X7_sunOfDay_L13
    simp only [↓ckE, ↓ltE, ↓reduceIte, kC, lC, CK, CN, ka, pa, Nat.reduceAdd, Nat.reduceEqDiff, hc, true_or, true_and, ↓ixT hx6, hcl, h9 k (by omega), hy, iN_add]
    exact ih (k + 1) f (x + 1) _ (by omega) (by omega) (by rw [hx]; exact iN_s) rfl
theorem c_shL {n a p : Nat} {R : Rw} (hn : n ≤ 40) (hp : p ≤ 1) : ∀ (m k F s1 s2 : Nat) (x : Int32) (ν : x_M) (T : St), k + m = n → m < F → x = Int32.ofNat k → Later ν T R → a < T.n → T.day + m ≤ 20000 → s1 + 990 * m ≤ 100000 → s2 + 5940 * m ≤ 1000000 → ∃ ν', f_X2_sunShare_L27 (XC ad D cA) F 2 (Int32.ofNat n) (Int32.ofNat p) (304 + a) (Int64.ofNat s1) (Int64.ofNat s2) x ν = some (lowT p (s1 + (shN a m T).1) (s2 + (shN a m T).2), ν') ∧ frA askC ν ν' := by
  intro m
  induction m with
  | zero =>
    intro k F s1 s2 x ν T hk hF hx h ha hd b1 b2
    obtain ⟨f, rfl⟩ : ∃ n, F = n + 1 := ⟨F - 1, by omega⟩
    have hc : Int32.ofNat n ≤ x := by rw [hx]; exact (iN_le (by omega) (by omega)).mpr (by omega)
    unfold f_X2_sunShare_L27
    rw [if_pos hc, c_low (by omega) (by omega) hp]
    exact ⟨ν, rfl, frA.rf⟩
  | succ m ih =>
    intro k F s1 s2 x ν T hk hF hx h ha hd b1 b2
    obtain ⟨f, rfl⟩ : ∃ n, F = n + 1 := ⟨F - 1, by omega⟩
    have hc : ¬ Int32.ofNat n ≤ x := fun z => by rw [hx] at z; have := (iN_le (by omega) (by omega)).mp z; omega
    obtain ⟨ν1, e1, h1, h9, f1⟩ := c_day (ad := ad) (D := D) (cA := cA) h (by omega)
    have h6 := h.2.2.1.1.1
    have hl := h.1.2.2.2.2.1.2.1
    have hs := St.sun_le hl a
    have hss := sunS_le hl T.n
    have hB : isB 300 := Or.inr (Or.inr rfl)
    have ka := (kBa hB (i := a) (by omega)).1
    simp only [Nat.reduceAdd] at ka
    have ea : ν1.1 (304 + a) 9 = Int32.ofNat (T.sun a) := by rw [h9 a (by omega)]; unfold sN; rw [if_pos ha]
    have es : f_X7_sunOfDay (XC ad D cA) 300 ν1 = some (Int32.ofNat (sunS T T.n), ν1) := by
      unfold f_X7_sunOfDay
      simp only [↓ckE, ↓ltE, ↓reduceIte, kC, lC, CK, CN, CP h1.1.1.2, Nat.reduceAdd, Nat.reduceEqDiff, true_or, or_true]
      rw [c_sod h1.1.1.2 h9 6 0 4096 0 0 (by omega) (by omega) rfl rfl, sunSN_6 6 h6]
    have hz : (304 + a = 0) = False := eq_false (by omega)
    unfold f_X2_sunShare_L27
    simp only [↓ckE, ↓ltE, ↓reduceIte, kC, CK, CP h.1.1.2, CP h1.1.1.2, Nat.reduceAdd, hc, e1, es, bdE, hz, ka, ea]
    rw [i2l (by omega), i2l (by omega), jN_add, jN_add]
    obtain ⟨ν', r1, r3⟩ := ih (k + 1) f (s1 + T.sun a) (s2 + sunS T T.n) (x + 1) ν1 T.goDay (by omega) (by omega) (by rw [hx]; exact iN_s) h1 ha (by rw [St.goDay_day]; omega) (by omega) (by omega)
    refine ⟨ν', ?_, f1.tr r3⟩
    rw [r1, Nat.add_assoc, Nat.add_assoc]; rfl
theorem r_sh65 {T : St} {K : Nat → Int32 → Int32 → Int32 → Int32 → Int32 → Int32 → x_M → Option (Int64 × x_M)} {w1 w2 w3 w4 w5 : Int32} {s : Nat} {μ1 : x_M} : ∀ (m k F : Nat) (x y : Int32) (ν : x_M), k + m = T.n → m < F → x = Int32.ofNat k → y = Int32.ofNat (s + sunS T k) → RJ μ1 ν T → ∃ ν', f_X10_share_L65 (XR ad D cA) K F 600 w1 w2 w3 w4 y w5 x ν = K 600 w1 w2 w3 w4 (Int32.ofNat (s + sunS T T.n)) w5 ν' ∧ RJ μ1 ν' T := by
  intro m
  induction m with
  | zero =>
    intro k F x y ν hk hF hx hy h
    obtain ⟨f, rfl⟩ : ∃ n, F = n + 1 := ⟨F - 1, by omega⟩
    have h6 := h.2.1.1.1.1
    have hc : Int32.ofNat T.n ≤ x := by rw [hx]; exact (iN_le (by omega) (by omega)).mpr (by omega)
    unfold f_X10_share_L65
    simp only [↓ckE, ↓reduceIte, kR, RK, Nat.reduceAdd, h.1.2.2.1.1, hc]
    exact ⟨ν, by rw [hy, show T.n = k by omega], h⟩
  | succ m ih =>
    intro k F x y ν hk hF hx hy h
    obtain ⟨f, rfl⟩ : ∃ n, F = n + 1 := ⟨F - 1, by omega⟩
    have h6 := h.2.1.1.1.1
    have hc : ¬ Int32.ofNat T.n ≤ x := fun z => by rw [hx] at z; have := (iN_le (by omega) (by omega)).mp z; omega
    obtain ⟨ν1, e1, f1⟩ := r_sun (ad := ad) (D := D) (cA := cA) h.1 h.2.1 (i := k) (by omega)
    rw [← hx] at e1
    have h1 : RJ μ1 ν1 T := ⟨h.1.fr h6 f1 scR_us, h.2.1, h.2.2.tr (f1.up (fun _ _ z => Or.inl (Or.inl z)))⟩
    unfold f_X10_share_L65
    simp only [↓ckE, ↓ltE, ↓reduceIte, kR, RK, Nat.reduceAdd, h.1.2.2.1.1, hc, e1, bdE, hy, iN_add]
    exact ih (k + 1) f (x + 1) _ ν1 (by omega) (by omega) (by rw [hx]; exact iN_s) (by rw [Nat.add_assoc]; rfl) h1
theorem r_shL {μ1 : x_M} {n a : Nat} {y : Int32} {K : Nat → Int32 → Int32 → Int32 → x_M → Option (Int64 × x_M)} (hn : n ≤ 40) : ∀ (m k F s1 s2 : Nat) (x : Int32) (ν : x_M) (T : St), k + m = n → m < F → x = Int32.ofNat k → RJ μ1 ν T → a < T.n → T.day + m ≤ 20000 → ∃ ν' T', f_X10_share_L46 (XR ad D cA) K F 600 (Int32.ofNat a) (Int32.ofNat n) y (Int32.ofNat s1) (Int32.ofNat s2) x ν = K 600 y (Int32.ofNat (s1 + (shN a m T).1)) (Int32.ofNat (s2 + (shN a m T).2)) ν' ∧ RJ μ1 ν' T' := by
  intro m
  induction m with
  | zero =>
    intro k F s1 s2 x ν T hk hF hx h ha hd
    obtain ⟨f, rfl⟩ : ∃ n, F = n + 1 := ⟨F - 1, by omega⟩
    have hc : Int32.ofNat n ≤ x := by rw [hx]; exact (iN_le (by omega) (by omega)).mpr (by omega)
    unfold f_X10_share_L46
    rw [if_pos hc]
    exact ⟨ν, T, rfl, h⟩
  | succ m ih =>
    intro k F s1 s2 x ν T hk hF hx h ha hd
    obtain ⟨f, rfl⟩ : ∃ n, F = n + 1 := ⟨F - 1, by omega⟩
    have h6 := h.2.1.1.1.1
    have hc : ¬ Int32.ofNat n ≤ x := fun z => by rw [hx] at z; have := (iN_le (by omega) (by omega)).mp z; omega
    obtain ⟨ν1, e1, f1⟩ := r_sun (ad := ad) (D := D) (cA := cA) h.1 h.2.1 ha
    have h1 : RJ μ1 ν1 T := ⟨h.1.fr h6 f1 scR_us, h.2.1, h.2.2.tr (f1.up (fun _ _ z => Or.inl (Or.inl z)))⟩
    unfold f_X10_share_L46
    simp only [↓ckE, ↓ltE, ↓reduceIte, kR, RK, Nat.reduceAdd, hc, e1, bdE, iN_add]
    obtain ⟨ν2, e2, h2⟩ := r_sh65 (ad := ad) (D := D) (cA := cA) (T := T) (s := s2) (K := fun (v35 : Nat) (v36 : Int32) (v37 : Int32) (v38 : Int32) (v39 : Int32) (v40 : Int32) (v41 : Int32) (μ42 : x_M) => _) (w1 := Int32.ofNat a) (w2 := Int32.ofNat n) (w3 := y) (w4 := Int32.ofNat (s1 + T.sun a)) (w5 := x) T.n 0 4096 0 (Int32.ofNat s2) ν1 (by omega) (by omega) rfl (by rfl) h1
    obtain ⟨ν3, e3, h3⟩ := r_day (ad := ad) (D := D) (cA := cA) h2 (by omega)
    rw [e2]
    simp only [↓ckE, ↓ltE, ↓reduceIte, kR, RK, Nat.reduceAdd, e3, bdE]
    obtain ⟨ν', T', r1, r2⟩ := ih (k + 1) f (s1 + T.sun a) (s2 + sunS T T.n) (x + 1) ν3 T.goDay (by omega) (by omega) (by rw [hx]; exact iN_s) h3 ha (by rw [St.goDay_day]; omega)
    refine ⟨ν', T', ?_, r2⟩
    rw [r1, Nat.add_assoc, Nat.add_assoc]; rfl
end SHARE
