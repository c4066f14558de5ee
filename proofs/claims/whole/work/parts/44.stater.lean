/-! ===== the reference's memory and the state: lifts, level ===== -/
section STR
variable {ad : Nat → Nat} {D : va_G} {cA : Nat → ClassId} {μ : x_M}
def AccR (μ : x_M) (i : Nat) (S : St) : Prop := (μ.1 606 i = Int32.ofNat (S.kd i) ∧ μ.1 607 i = Int32.ofNat (S.v i) ∧ μ.1 610 i = Int32.ofNat (S.sn i)) ∧ (μ.1 608 i = Int32.ofInt (S.bk i) ∧ μ.1 609 i = Int32.ofInt (S.dl i)) ∧ ∀ d, d < 4 → μ.1 611 (4 * i + d) = Int32.ofNat (S.rw i d)
def GoneR (μ : x_M) (S : St) : Prop := ∀ i, i < 6 → (Int32.ofNat i = μ.1 600 30 ↔ i = S.gone)
theorem r_lifts {i : Nat} {S : St} (hP : Pr μ) (hO : StOk S) (hG : GoneR μ S) (hi : i < S.n) (hA : AccR μ i S) : f_X10_liftsOf (XR ad D cA) 600 (Int32.ofNat i) μ = some (Int32.ofNat (S.lifts i), μ) := by
  have k6 : x_kd (XR ad D cA) 600 = 10 + 1 := by rw [kR]; exact k600
  have i6 : i < 6 := by have := hO.1.1; omega
  have cl : (Int32.ofNat i).toNatClampNeg = i := iN_cl (by omega)
  obtain ⟨⟨a1, a2, a3⟩, -⟩ := hA
  have b1 : μ.1 (601 + 5) (Int32.ofNat i).toNatClampNeg = Int32.ofNat (S.kd i) := by rw [cl]; exact a1
  have b2 : μ.1 (601 + 6) (Int32.ofNat i).toNatClampNeg = Int32.ofNat (S.v i) := by rw [cl]; exact a2
  have b3 : μ.1 (601 + 9) (Int32.ofNat i).toNatClampNeg = Int32.ofNat (S.sn i) := by rw [cl]; exact a3
  have o := (hO.2.1 i hi).1
  unfold f_X10_liftsOf St.lifts
  rw [ck_t k6]
  by_cases q : i = S.gone
  · rw [if_pos ((hG i i6).mpr q), if_neg (fun z => z.2 q)]; rfl
  · rw [if_neg (fun z => q ((hG i i6).mp z)), if_pos ⟨hi, q⟩, ck_t k6, lt_v, mA_5.at hP, ck_t (mA_5.rd rfl i6 (by omega)), b1, show (4 : Int32) = Int32.ofNat 4 from rfl]
    by_cases q4 : S.kd i = 4
    · rw [if_pos (by rw [q4]), if_pos q4, ck_t k6, lt_v, mA_9.at hP, ck_t (mA_9.rd rfl i6 (by omega)), b3, show (5 : Int32) = Int32.ofNat 5 from rfl, iN_mul]
    · rw [if_neg (fun z => q4 ((iN_inj (by omega) (by omega)).mp z)), if_neg q4, ck_t k6, lt_v, ck_t (mA_5.rd rfl i6 (by omega)), b1, show (3 : Int32) = Int32.ofNat 3 from rfl]
      by_cases q3 : S.kd i = 3
      · rw [if_pos (by rw [q3]), if_pos (Or.inl q3), ck_t k6, lt_v, mA_6.at hP, ck_t (mA_6.rd rfl i6 (by omega)), b2]
      · rw [if_neg (fun z => q3 ((iN_inj (by omega) (by omega)).mp z)), ck_t k6, lt_v, ck_t (mA_5.rd rfl i6 (by omega)), b1, show (6 : Int32) = Int32.ofNat 6 from rfl]
        by_cases q6 : S.kd i = 6
        · rw [if_pos (by rw [q6]), if_pos (Or.inr q6), ck_t k6, lt_v, mA_6.at hP, ck_t (mA_6.rd rfl i6 (by omega)), b2]
        · rw [if_neg (fun z => q6 ((iN_inj (by omega) (by omega)).mp z)), if_neg (by omega)]; rfl
theorem r_levL2 {S : St} (hP : Pr μ) (hA : ArR μ S.ar) (hO : StOk S) (hn : μ.1 600 0 = Int32.ofNat S.n) (hG : GoneR μ S) (hC : ∀ i, i < S.n → AccR μ i S) : ∀ (k i F : Nat) (x j : Int32), i + k = S.n → k < F → x = Int32.ofNat (S.wet + S.sumL i) → j = Int32.ofNat i → f_X10_level_L7 (XR ad D cA) F 600 x j μ = some (Int32.ofNat S.level, μ) := by
  intro k
  have k6 : x_kd (XR ad D cA) 600 = 10 + 1 := by rw [kR]; exact k600
  have n6 := hO.1.1
  induction k with
  | zero =>
    intro i F x j h hF hx hj
    obtain ⟨f, rfl⟩ : ∃ n, F = n + 1 := ⟨F - 1, by omega⟩
    have h1 := St.sumL_le hO i
    have h2 := hO.2.2.1
    unfold f_X10_level_L7
    rw [ck_t k6, hn, hj, if_pos ((iN_le (by omega) (by omega)).mpr (by omega)), ck_t k6, hx, r_lev hP hA (by omega), bd_s, show i = S.n by omega, ← St.sumL_n (S := S) n6]
    rfl
  | succ k ih =>
    intro i F x j h hF hx hj
    obtain ⟨f, rfl⟩ : ∃ n, F = n + 1 := ⟨F - 1, by omega⟩
    unfold f_X10_level_L7
    rw [ck_t k6, hn, hj, if_neg (fun z => by have := (iN_le (by omega) (by omega)).mp z; omega), ck_t k6, r_lifts hP hO hG (by omega) (hC i (by omega)), bd_s, lt_v]
    exact ih (i + 1) f _ _ (by omega) (by omega) (by rw [hx, iN_add]; exact congrArg Int32.ofNat (Nat.add_assoc _ _ _)) iN_s
theorem r_level {S : St} (hP : Pr μ) (hA : ArR μ S.ar) (hO : StOk S) (hn : μ.1 600 0 = Int32.ofNat S.n) (hG : GoneR μ S) (hC : ∀ i, i < S.n → AccR μ i S) (hw : μ.1 600 2 = Int32.ofNat S.wet) : f_X10_level (XR ad D cA) 600 μ = some (Int32.ofNat S.level, μ) := by
  have n6 := hO.1.1
  unfold f_X10_level
  rw [ck_t (by rw [kR]; exact k600), lt_v]
  exact r_levL2 hP hA hO hn hG hC S.n 0 _ _ _ (by omega) (by omega) hw rfl
end STR
