/-! ===== numbers in ints; marks and what they hold ===== -/
theorem iN_add {a b : Nat} : Int32.ofNat a + Int32.ofNat b = Int32.ofNat (a + b) := (Int32.ofNat_add a b).symm
theorem iN_mul {a b : Nat} : Int32.ofNat a * Int32.ofNat b = Int32.ofNat (a * b) := (Int32.ofNat_mul a b).symm
theorem iN_sub {a b : Nat} (h : b ≤ a) : Int32.ofNat a - Int32.ofNat b = Int32.ofNat (a - b) := (Int32.ofNat_sub a b h).symm
theorem iN_div {a b : Nat} (ha : a < 2 ^ 31) (hb : b < 2 ^ 31) : Int32.ofNat a / Int32.ofNat b = Int32.ofNat (a / b) := (Int32.ofNat_div ha hb).symm
theorem iN_inj {a b : Nat} (ha : a < 2 ^ 31) (hb : b < 2 ^ 31) : Int32.ofNat a = Int32.ofNat b ↔ a = b := by
  constructor
  · intro h
    have := congrArg Int32.toInt h
    rw [iN_int ha, iN_int hb] at this
    omega
  · intro h; rw [h]
def cum (ar : Nat → Nat) : Nat → Nat
  | 0 => 0
  | m + 1 => cum ar m + ar (m / 10)
theorem cum_le {ar : Nat → Nat} (h : ∀ s, s < 6 → ar s ≤ 20) : ∀ m, m ≤ 60 → cum ar m ≤ 20 * m
  | 0, _ => Nat.le_refl _
  | m + 1, hm => by
    have h1 := cum_le h m (by omega)
    have h2 := h (m / 10) (by omega)
    show cum ar m + ar (m / 10) ≤ _
    omega
theorem cum_mono {ar : Nat → Nat} : ∀ {m k : Nat}, m ≤ k → cum ar m ≤ cum ar k
  | m, 0, h => by rw [Nat.le_zero.mp h]; exact Nat.le_refl _
  | m, k + 1, h => by
    rcases Nat.lt_or_ge m (k + 1) with q | q
    · exact Nat.le_trans (cum_mono (Nat.le_of_lt_succ q)) (Nat.le_add_right _ _)
    · rw [Nat.le_antisymm h q]; exact Nat.le_refl _
theorem cum_step {ar : Nat → Nat} (s : Nat) : ∀ t, t ≤ 10 → cum ar (10 * s + t) = cum ar (10 * s) + t * ar s
  | 0, _ => by simp
  | t + 1, h => by
    have h1 := cum_step (ar := ar) s t (by omega)
    show cum ar (10 * s + t) + ar ((10 * s + t) / 10) = _
    rw [h1, show (10 * s + t) / 10 = s by omega, Nat.add_mul, Nat.one_mul, Nat.add_assoc]
/-- the greatest mark that so much water reaches -/
def lvlGo (ar : Nat → Nat) (n : Nat) : Nat → Nat → Nat
  | 0, m => m
  | f + 1, m => if cum ar (m + 1) ≤ n then lvlGo ar n f (m + 1) else m
def lvl (ar : Nat → Nat) (n : Nat) : Nat := lvlGo ar n 60 0
def IsLvl (ar : Nat → Nat) (n m : Nat) : Prop := m ≤ 60 ∧ cum ar m ≤ n ∧ (m = 60 ∨ n < cum ar (m + 1))
theorem lvlGo_is {ar : Nat → Nat} {n : Nat} : ∀ f m, m + f = 60 → cum ar m ≤ n → IsLvl ar n (lvlGo ar n f m)
  | 0, m, h, hc => ⟨by show m ≤ 60; omega, hc, Or.inl (by show m = 60; omega)⟩
  | f + 1, m, h, hc => by
    unfold lvlGo
    by_cases q : cum ar (m + 1) ≤ n
    · rw [if_pos q]; exact lvlGo_is f (m + 1) (by omega) q
    · rw [if_neg q]; exact ⟨by omega, hc, Or.inr (by omega)⟩
theorem lvl_is {ar : Nat → Nat} {n : Nat} : IsLvl ar n (lvl ar n) := lvlGo_is 60 0 rfl (Nat.zero_le _)
theorem IsLvl.uniq {ar : Nat → Nat} {n m k : Nat} (h : IsLvl ar n m) (g : IsLvl ar n k) : m = k := by
  obtain ⟨h1, h2, h3⟩ := h
  obtain ⟨g1, g2, g3⟩ := g
  rcases Nat.lt_trichotomy m k with q | q | q
  · exfalso
    have := cum_mono (ar := ar) (m := m + 1) (k := k) q
    rcases h3 with h3 | h3 <;> omega
  · exact q
  · exfalso
    have := cum_mono (ar := ar) (m := k + 1) (k := m) q
    rcases g3 with g3 | g3 <;> omega
theorem lvl_le {ar : Nat → Nat} {n : Nat} : lvl ar n ≤ 60 := lvl_is.1
def isB (B : Nat) : Prop := B = 100 ∨ B = 200 ∨ B = 300
section LAKE
variable {ad : Nat → Nat} {D : va_G} {cA : Nat → ClassId} {μ : x_M}
theorem kC {o : Nat} : x_kd (XC ad D cA) o = x_kdC o := rfl
theorem lC {o : Nat} : x_ln (XC ad D cA) o = x_lnA o := rfl
theorem kR {o : Nat} : x_kd (XR ad D cA) o = x_kdR o := rfl
theorem lR {o : Nat} : x_ln (XR ad D cA) o = x_lnA o := rfl
theorem kB {B : Nat} (h : isB B) : x_kdC B = 8 ∧ x_kdC (B + 1) = 4 ∧ x_kdC (B + 2) = 20 ∧ x_kdC (B + 3) = 23 ∧ x_lnA (B + 2) = 6 ∧ x_lnA (B + 3) = 6 := by
  rcases h with rfl | rfl | rfl <;> decide +kernel
theorem kBa {B i : Nat} (h : isB B) (hi : i < 6) : x_kdC (B + 4 + i) = 1 ∧ x_kdC (B + 10 + i) = 20 ∧ x_lnA (B + 10 + i) = 4 := by
  rcases h with rfl | rfl | rfl
  · exact (by decide +kernel : ∀ i, i < 6 → x_kdC (100 + 4 + i) = 1 ∧ x_kdC (100 + 10 + i) = 20 ∧ x_lnA (100 + 10 + i) = 4) i hi
  · exact (by decide +kernel : ∀ i, i < 6 → x_kdC (200 + 4 + i) = 1 ∧ x_kdC (200 + 10 + i) = 20 ∧ x_lnA (200 + 10 + i) = 4) i hi
  · exact (by decide +kernel : ∀ i, i < 6 → x_kdC (300 + 4 + i) = 1 ∧ x_kdC (300 + 10 + i) = 20 ∧ x_lnA (300 + 10 + i) = 4) i hi
/-- the references never change, but for the laws of the three states -/
def rf107 (o k : Nat) : Nat := x_U107.2.1 o k
theorem rfS : ∀ B ∈ ([100, 200, 300] : List Nat), rf107 B 0 = B + 1 ∧ rf107 B 1 = B + 3 ∧ rf107 B 2 = B + 16 ∧ rf107 B 3 = B + 19 ∧ rf107 B 4 = B + 22 ∧ rf107 (B + 1) 0 = B + 2 := by decide +kernel
theorem rfA : ∀ B ∈ ([100, 200, 300] : List Nat), ∀ i, i < 6 → rf107 (B + 3) i = B + 4 + i ∧ rf107 (B + 4 + i) 1 = B + 10 + i := by decide +kernel
def Pt (μ : x_M) : Prop := ∀ o k, ¬ ((o = 100 ∨ o = 200 ∨ o = 300) ∧ k = 5) → μ.2.1 o k = rf107 o k
theorem isB.mem {B : Nat} (h : isB B) : B ∈ ([100, 200, 300] : List Nat) := by rcases h with rfl | rfl | rfl <;> decide
theorem isB.ge {B : Nat} (h : isB B) : 100 ≤ B ∧ B ≤ 300 ∧ B % 100 = 0 := by rcases h with rfl | rfl | rfl <;> decide
theorem pt_S {B : Nat} (hB : isB B) (h : Pt μ) : μ.2.1 B 0 = B + 1 ∧ μ.2.1 B 1 = B + 3 ∧ μ.2.1 B 2 = B + 16 ∧ μ.2.1 B 3 = B + 19 ∧ μ.2.1 B 4 = B + 22 ∧ μ.2.1 (B + 1) 0 = B + 2 := by
  have r := rfS B hB.mem
  rw [h B 0 (by omega), h B 1 (by omega), h B 2 (by omega), h B 3 (by omega), h B 4 (by omega), h (B + 1) 0 (by omega)]
  exact r
theorem pt_a {B i : Nat} (hB : isB B) (hi : i < 6) (h : Pt μ) : μ.2.1 (B + 3) i = B + 4 + i ∧ μ.2.1 (B + 4 + i) 1 = B + 10 + i := by
  have r := rfA B hB.mem i hi
  have g := hB.ge
  rw [h (B + 3) i (by omega), h (B + 4 + i) 1 (by omega)]
  exact r
/-- the areas at B -/
def ArC (μ : x_M) (B : Nat) (ar : Nat → Nat) : Prop := ∀ s, s < 6 → μ.1 (B + 2) s = Int32.ofNat (ar s) ∧ 1 ≤ ar s ∧ ar s ≤ 20
theorem c_volL {B : Nat} {ar : Nat → Nat} (hB : isB B) (hA : ArC μ B ar) (m : Nat) (hm : m ≤ 60) : ∀ (k s F : Nat) (x y i : Int32), s + k = 6 → k < F → x = Int32.ofNat (m - 10 * s) → y = Int32.ofNat (cum ar (min m (10 * s))) → i = Int32.ofNat s → f_X3_volumeOf_L18 (XC ad D cA) F x y (B + 2) (nI 6) i μ = some (Int32.ofNat (cum ar m), μ) := by
  intro k
  induction k with
  | zero =>
    intro s F x y i h hF hx hy hi
    have e : s = 6 := by omega
    subst e
    obtain ⟨n, rfl⟩ : ∃ n, F = n + 1 := ⟨F - 1, by omega⟩
    unfold f_X3_volumeOf_L18
    rw [hi, hy, if_pos (by decide), Nat.min_eq_left (by omega)]
  | succ k ih =>
    intro s F x y i h hF hx hy hi
    obtain ⟨n, rfl⟩ : ∃ n, F = n + 1 := ⟨F - 1, by omega⟩
    unfold f_X3_volumeOf_L18
    obtain ⟨-, -, k2, -, l2, -⟩ := kB hB
    obtain ⟨ea, e1, e2⟩ := hA s (by omega)
    rw [hi, if_neg (by rw [show nI 6 = Int32.ofNat 6 from rfl, iN_le (by omega) (by omega)]; omega), ck_t (by rw [kC, k2, lC, l2]; exact ⟨Or.inl rfl, iN_ix (by omega) (by omega)⟩)]
    simp only [lt_v]
    have t1 : (if (10 : Int32) < x then (10 : Int32) else x) = Int32.ofNat (min 10 (m - 10 * s)) := by
      rw [hx, show (10 : Int32) = Int32.ofNat 10 from rfl]
      by_cases q : 10 < m - 10 * s
      · rw [if_pos ((iN_lt (by omega) (by omega)).mpr q), Nat.min_eq_left (by omega)]
      · rw [if_neg (fun z => q ((iN_lt (by omega) (by omega)).mp z)), Nat.min_eq_right (by omega)]
    rw [t1]
    have t2 : (if (0 : Int32) < Int32.ofNat (min 10 (m - 10 * s)) then Int32.ofNat (min 10 (m - 10 * s)) else (0 : Int32)) = Int32.ofNat (min 10 (m - 10 * s)) := by
      rw [show (0 : Int32) = Int32.ofNat 0 from rfl]
      by_cases q : 0 < min 10 (m - 10 * s)
      · rw [if_pos ((iN_lt (by omega) (by omega)).mpr q)]
      · rw [if_neg (fun z => q ((iN_lt (by omega) (by omega)).mp z))]
        exact congrArg Int32.ofNat (by omega)
    rw [t2]
    have t3 : cum ar (min m (10 * s)) + min 10 (m - 10 * s) * ar s = cum ar (min m (10 * (s + 1))) := by
      rcases Nat.lt_or_ge m (10 * s) with q | q
      · rw [show min m (10 * s) = m by omega, show min m (10 * (s + 1)) = m by omega, show min 10 (m - 10 * s) = 0 by omega, Nat.zero_mul]; rfl
      · rw [Nat.min_eq_right q, ← cum_step s _ (Nat.min_le_left _ _)]
        exact congrArg (cum ar) (by omega)
    exact ih (s + 1) n _ _ _ (by omega) (by omega) (by rw [hx, iN_sub (Nat.min_le_right _ _)]; exact congrArg Int32.ofNat (by omega)) (by rw [hy, iN_cl (by omega), ea, iN_mul, iN_add, t3]) iN_s
theorem c_vol {B : Nat} {ar : Nat → Nat} (hB : isB B) (hP : Pt μ) (hA : ArC μ B ar) {m : Nat} (hm : m ≤ 60) : f_X3_volumeOf (XC ad D cA) (B + 1) (Int32.ofNat m) μ = some (Int32.ofNat (cum ar m), μ) := by
  obtain ⟨-, k1, k2, -, l2, -⟩ := kB hB
  unfold f_X3_volumeOf
  rw [ck_t (by rw [kC, k1]), lt_v, (pt_S hB hP).2.2.2.2.2, ck_t (by rw [kC, k2]; exact Or.inl rfl), lt_v, lC, l2]
  exact c_volL hB hA m hm 6 0 _ _ _ _ (by omega) (by omega) rfl (by rw [Nat.mul_zero, Nat.min_zero]; rfl) rfl
theorem c_levL {B : Nat} {ar : Nat → Nat} {k46 : Int32 → Int32 → Int32 → x_M → Option (Int32 × x_M)} (hk : k46 = fun (v13 : Int32) (v14 : Int32) (v15 : Int32) (μ16 : x_M) => (if v15 ≤ 0 then (some (v14, μ16)) else (ck (¬ v15 = 0) (some ((v14 + (v13 / v15)), μ16))))) (hB : isB B) (hA : ArC μ B ar) (n : Nat) (hn : n < 2 ^ 31) : ∀ (k s F : Nat) (x y i : Int32), s + k = 6 → k < F → cum ar (10 * s) ≤ n → x = Int32.ofNat (n - cum ar (10 * s)) → y = Int32.ofNat (10 * s) → i = Int32.ofNat s → f_X3_levelOf_L18 (XC ad D cA) k46 F x y (B + 2) (nI 6) i μ = some (Int32.ofNat (lvl ar n), μ) := by
  intro k
  induction k with
  | zero =>
    intro s F x y i h hF hc hx hy hi
    have e : s = 6 := by omega
    subst e
    obtain ⟨f, rfl⟩ : ∃ n, F = n + 1 := ⟨F - 1, by omega⟩
    unfold f_X3_levelOf_L18
    rw [hi, hy, if_pos (by decide)]
    have : IsLvl ar n 60 := ⟨Nat.le_refl _, hc, Or.inl rfl⟩
    rw [lvl_is.uniq this]
  | succ k ih =>
    intro s F x y i h hF hc hx hy hi
    obtain ⟨f, rfl⟩ : ∃ n, F = n + 1 := ⟨F - 1, by omega⟩
    unfold f_X3_levelOf_L18
    obtain ⟨-, -, k2, -, l2, -⟩ := kB hB
    obtain ⟨ea, e1, e2⟩ := hA s (by omega)
    have c10 := cum_step (ar := ar) s 10 (Nat.le_refl _)
    have hle : ¬ Int32.ofNat (ar s) ≤ 0 := fun z => by
      have := (iN_le (j := ar s) (k := 0) (by omega) (by omega)).mp z
      omega
    rw [hi, if_neg (by rw [show nI 6 = Int32.ofNat 6 from rfl, iN_le (by omega) (by omega)]; omega), ck_t (by rw [kC, k2, lC, l2]; exact ⟨Or.inl rfl, iN_ix (by omega) (by omega)⟩)]
    simp only [lt_v]
    rw [iN_cl (by omega), ea, if_neg hle, show (10 : Int32) = Int32.ofNat 10 from rfl, iN_mul, hx]
    by_cases q : ar s * 10 ≤ n - cum ar (10 * s)
    · rw [if_pos ((iN_le (by omega) (by omega)).mpr q)]
      have e3 : cum ar (10 * (s + 1)) = cum ar (10 * s) + 10 * ar s := by rw [show 10 * (s + 1) = 10 * s + 10 by omega]; exact c10
      exact ih (s + 1) f _ _ _ (by omega) (by omega) (by omega) (by rw [iN_sub q]; exact congrArg Int32.ofNat (by omega)) (by rw [hy, iN_add]; exact congrArg Int32.ofNat (by omega)) iN_s
    · rw [if_neg (fun z => q ((iN_le (by omega) (by omega)).mp z)), hk]
      have hz : ¬ Int32.ofNat (ar s) = 0 := fun z => hle (by rw [z]; decide)
      show (if Int32.ofNat (ar s) ≤ 0 then _ else ck (¬ Int32.ofNat (ar s) = 0) _) = _
      rw [if_neg hle, ck_t hz, hy, iN_div (by omega) (by omega), iN_add]
      have hd1 := Nat.div_mul_le_self (n - cum ar (10 * s)) (ar s)
      have hd2 := Nat.lt_div_mul_add (a := n - cum ar (10 * s)) (b := ar s) (by omega)
      have hd3 : (n - cum ar (10 * s)) / ar s < 10 := by
        apply Nat.div_lt_of_lt_mul
        omega
      have hI : IsLvl ar n (10 * s + (n - cum ar (10 * s)) / ar s) := by
        refine ⟨by omega, ?_, Or.inr ?_⟩
        · rw [cum_step s _ (by omega)]; omega
        · rw [show 10 * s + (n - cum ar (10 * s)) / ar s + 1 = 10 * s + ((n - cum ar (10 * s)) / ar s + 1) by omega, cum_step s _ (by omega), Nat.add_mul]; omega
      rw [lvl_is.uniq hI]
theorem c_lev {B : Nat} {ar : Nat → Nat} (hB : isB B) (hP : Pt μ) (hA : ArC μ B ar) {n : Nat} (hn : n < 2 ^ 31) : f_X3_levelOf (XC ad D cA) (B + 1) (Int32.ofNat n) μ = some (Int32.ofNat (lvl ar n), μ) := by
  obtain ⟨-, k1, k2, -, l2, -⟩ := kB hB
  unfold f_X3_levelOf
  rw [ck_t (by rw [kC, k1]), lt_v, (pt_S hB hP).2.2.2.2.2, ck_t (by rw [kC, k2]; exact Or.inl rfl), lt_v, lC, l2]
  exact c_levL rfl hB hA n hn 6 0 _ _ _ _ (by omega) (by omega) (Nat.zero_le _) rfl rfl rfl
end LAKE
