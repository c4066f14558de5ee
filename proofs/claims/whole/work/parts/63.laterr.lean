/-! ===== the reference: what is asked goes on and is put back ===== -/
def RJ (μ1 ν : x_M) (T : St) : Prop := StR ν T ∧ Ok T ∧ frC gdR μ1 ν
/-- the putting back behind -/
def Bk (X : x_X) (μ μ1 : x_M) : Prop := ∀ ν, frC gdR μ1 ν → ∃ ν', f_X10_putBack X 600 ν = some ((), ν') ∧ frC askR μ ν'
section LATERR
variable {ad : Nat → Nat} {D : va_G} {cA : Nat → ClassId} {μ μ1 : x_M}
theorem r_day {ν : x_M} {T : St} (h : RJ μ1 ν T) (hd : T.day + 1 ≤ 20000) : ∃ ν', f_X10_goDay (XR ad D cA) 600 ν = some ((), ν') ∧ RJ μ1 ν' T.goDay := by
  obtain ⟨ν', e, h1, f⟩ := r_goDay (ad := ad) (D := D) (cA := cA) h.1 h.2.1
  exact ⟨ν', e, h1, St.goDay_ok h.2.1 hd, h.2.2.tr f⟩
/-- saving, and what is known from there -/
theorem r_begin {S : St} (h : StR μ S) (hO : Ok S) : ∃ μ1, f_X10_save (XR ad D cA) 600 μ = some ((), μ1) ∧ RJ μ1 μ1 S ∧ Bk (XR ad D cA) μ μ1 := by
  obtain ⟨μ1, e, f, k⟩ := r_save (ad := ad) (D := D) (cA := cA) h.1
  exact ⟨μ1, e, ⟨h.fr hO.1.1.1 f kpR_us, hO, frC.rf⟩, fun ν hν => r_back h.1 f k hν⟩
theorem r_in {x a b : Int32} : f_X10_in (XR ad D cA) 600 x a b μ = some (if a ≤ x ∧ x ≤ b then 1 else 0, μ) := by
  unfold f_X10_in
  simp only [↓ckE, ↓reduceIte, iE, true_or, or_true]
  by_cases q : x < a
  · rw [if_pos q, if_neg (fun z => absurd q (Int32.not_lt.mpr z.1))]
  · rw [if_neg q]
    by_cases q2 : b < x
    · rw [if_pos q2, if_neg (fun z => absurd q2 (Int32.not_lt.mpr z.2))]
    · rw [if_neg q2, if_pos ⟨Int32.not_lt.mp q, Int32.not_lt.mp q2⟩]
theorem r_isAcc {S : St} {x : Int32} (h : StR μ S) (h6 : S.n ≤ 6) : f_X10_isAccount (XR ad D cA) 600 x μ = some (if ∃ a, a < S.n ∧ x = Int32.ofNat a then 1 else 0, μ) := by
  have e : Int32.ofNat S.n - 1 = Int32.ofInt ((S.n : Int) - 1) := by rw [iN_I, show (1 : Int32) = Int32.ofInt 1 from rfl, ← Int32.ofInt_sub]
  have key : (0 ≤ x ∧ x ≤ Int32.ofInt ((S.n : Int) - 1)) ↔ ∃ a, a < S.n ∧ x = Int32.ofNat a := by
    constructor
    · intro z
      obtain ⟨j, hj, rfl⟩ := iN_of (Int32.not_lt.mpr z.1)
      have := z.2
      rw [iN_I, iI_le (by omega) (by omega)] at this
      exact ⟨j, by omega, rfl⟩
    · rintro ⟨a, ha, rfl⟩
      exact ⟨(geN 0 0 rfl (by decide) (by omega)).mpr (Nat.zero_le _), by rw [iN_I, iI_le (by omega) (by omega)]; omega⟩
  unfold f_X10_isAccount
  simp only [↓ckE, ↓reduceIte, kR, RK, Nat.reduceAdd, h.2.2.1.1, r_in, bdE, e]
  by_cases q : ∃ a, a < S.n ∧ x = Int32.ofNat a
  · rw [if_pos q, if_pos (key.mpr q), if_pos (Or.inr rfl)]
  · rw [if_neg q, if_neg (fun z => q (key.mp z)), if_pos (Or.inl rfl)]
theorem r_goL {n : Nat} (hn : n < 2 ^ 31) : ∀ (m k F : Nat) (x : Int32) (ν : x_M) (T : St), k + m = n → m < F → x = Int32.ofNat k → RJ μ1 ν T → T.day + m ≤ 20000 → ∃ ν', f_X10_goDays_L2 (XR ad D cA) F 600 (Int32.ofNat n) x ν = some ((), ν') ∧ RJ μ1 ν' (T.goN m) := by
  intro m
  induction m with
  | zero =>
    intro k F x ν T hk hF hx h hd
    obtain ⟨f, rfl⟩ : ∃ n, F = n + 1 := ⟨F - 1, by omega⟩
    have hc : Int32.ofNat n ≤ x := by rw [hx]; exact (iN_le (by omega) (by omega)).mpr (by omega)
    unfold f_X10_goDays_L2
    simp only [↓reduceIte, hc]
    exact ⟨ν, rfl, h⟩
  | succ m ih =>
    intro k F x ν T hk hF hx h hd
    obtain ⟨f, rfl⟩ : ∃ n, F = n + 1 := ⟨F - 1, by omega⟩
    have hc : ¬ Int32.ofNat n ≤ x := fun z => by rw [hx] at z; have := (iN_le (by omega) (by omega)).mp z; omega
    obtain ⟨ν1, e1, h1⟩ := r_day (ad := ad) (D := D) (cA := cA) h (by omega)
    unfold f_X10_goDays_L2
    simp only [↓ckE, ↓ltE, ↓reduceIte, kR, RK, Nat.reduceAdd, hc, e1, bdE]
    exact ih (k + 1) f (x + 1) ν1 T.goDay (by omega) (by omega) (by rw [hx]; exact iN_s) h1 (by rw [St.goDay_day]; omega)
theorem r_goDays {n : Nat} {ν : x_M} {T : St} (hn : n ≤ 40) (h : RJ μ1 ν T) (hd : T.day + n ≤ 20000) : ∃ ν', f_X10_goDays (XR ad D cA) 600 (Int32.ofNat n) ν = some ((), ν') ∧ RJ μ1 ν' (T.goN n) :=
  r_goL (by omega) n 0 4096 0 ν T (by omega) (by omega) rfl h hd
/-- level and floor -/
theorem r_lf {ν : x_M} {T : St} (h : RJ μ1 ν T) : f_X10_level (XR ad D cA) 600 ν = some (Int32.ofNat T.level, ν) ∧ f_X10_floor (XR ad D cA) 600 ν = some (Int32.ofNat T.floor, ν) ∧ T.level ≤ 60 ∧ T.floor ≤ 60 :=
  ⟨h.1.level h.2.1, r_floor h.1.1 h.1.2.2.2.2.2.1, lvl_le, by unfold St.floor; omega⟩
theorem r_aboveL {n : Nat} (hn : n < 2 ^ 31) (hB : Bk (XR ad D cA) μ μ1) : ∀ (m k F : Nat) (x : Int32) (ν : x_M) (T : St), k + m = n → m < F → x = Int32.ofNat k → RJ μ1 ν T → T.day + m ≤ 20000 → ∃ ν', f_X10_isAbove_L8 (XR ad D cA) F 600 (Int32.ofNat n) 1 x ν = some (if wetN m T then 1 else 0, ν') ∧ frC askR μ ν' := by
  have zz : ∀ (F : Nat) (x : Int32) (ν : x_M), 0 < F → frC gdR μ1 ν → ∃ ν', f_X10_isAbove_L8 (XR ad D cA) F 600 (Int32.ofNat n) 0 x ν = some (0, ν') ∧ frC askR μ ν' := by
    intro F x ν hF hf
    obtain ⟨f, rfl⟩ : ∃ n, F = n + 1 := ⟨F - 1, by omega⟩
    obtain ⟨ν', e, g⟩ := hB ν hf
    refine ⟨ν', ?_, g⟩
    unfold f_X10_isAbove_L8
    simp only [↓ckE, ↓reduceIte, kR, RK, Nat.reduceAdd, e, bdE, iE, true_or, ite_self]
  intro m
  induction m with
  | zero =>
    intro k F x ν T hk hF hx h hd
    obtain ⟨f, rfl⟩ : ∃ n, F = n + 1 := ⟨F - 1, by omega⟩
    have hc : Int32.ofNat n ≤ x := by rw [hx]; exact (iN_le (by omega) (by omega)).mpr (by omega)
    obtain ⟨ν', e, g⟩ := hB ν h.2.2
    refine ⟨ν', ?_, g⟩
    unfold f_X10_isAbove_L8
    simp only [↓ckE, ↓reduceIte, kR, RK, Nat.reduceAdd, e, bdE, iE, hc, or_true]
    rfl
  | succ m ih =>
    intro k F x ν T hk hF hx h hd
    obtain ⟨f, rfl⟩ : ∃ n, F = n + 1 := ⟨F - 1, by omega⟩
    have hc : ¬ Int32.ofNat n ≤ x := fun z => by rw [hx] at z; have := (iN_le (by omega) (by omega)).mp z; omega
    obtain ⟨ν1, e1, h1⟩ := r_day (ad := ad) (D := D) (cA := cA) h (by omega)
    obtain ⟨e2, e3, b1, b2⟩ := r_lf (ad := ad) (D := D) (cA := cA) h1
    unfold f_X10_isAbove_L8
    simp only [↓ckE, ↓reduceIte, kR, RK, Nat.reduceAdd, hc, e1, e2, e3, bdE, iE]
    show ∃ ν', _ = some (if (if T.goDay.level ≤ T.goDay.floor then false else wetN m T.goDay) = true then 1 else 0, ν') ∧ _
    by_cases q : T.goDay.level ≤ T.goDay.floor
    · rw [if_pos q, if_pos ((iN_le (by omega) (by omega)).mpr q)]
      simp only [Bool.false_eq_true, ↓reduceIte]
      exact zz f (x + 1) ν1 (by omega) h1.2.2
    · rw [if_neg q, if_neg (fun z => q ((iN_le (by omega) (by omega)).mp z))]
      exact ih (k + 1) f (x + 1) ν1 T.goDay (by omega) (by omega) (by rw [hx]; exact iN_s) h1 (by rw [St.goDay_day]; omega)
theorem r_isAbove {n : Nat} {S : St} (hn : n ≤ 40) (h : StR μ S) (hO : Ok S) (hd : S.day + n ≤ 20000) : ∃ ν', f_X10_isAbove (XR ad D cA) 600 (Int32.ofNat n) μ = some (if wetN n S then 1 else 0, ν') ∧ frC askR μ ν' := by
  obtain ⟨μ1, e, j, b⟩ := r_begin (ad := ad) (D := D) (cA := cA) h hO
  unfold f_X10_isAbove
  simp only [↓ckE, ↓reduceIte, kR, RK, Nat.reduceAdd, e, bdE]
  exact r_aboveL (by omega) b n 0 4096 0 μ1 S (by omega) (by omega) rfl j hd
theorem r_dryL {K : Nat → Int32 → x_M → Option (Int32 × x_M)} : ∀ (m k F : Nat) (x : Int32) (ν : x_M) (T : St), k + m = 61 → m < F → x = Int32.ofNat k → RJ μ1 ν T → T.day + m ≤ 20000 → ∃ ν' T', f_X10_dry_L6 (XR ad D cA) K F 600 x ν = K 600 (Int32.ofNat (dryN m k T)) ν' ∧ RJ μ1 ν' T' ∧ dryN m k T ≤ 61 := by
  intro m
  induction m with
  | zero =>
    intro k F x ν T hk hF hx h hd
    obtain ⟨f, rfl⟩ : ∃ n, F = n + 1 := ⟨F - 1, by omega⟩
    have hc : (61 : Int32) ≤ x := by rw [hx]; exact (geN 61 61 rfl (by omega) (by omega)).mpr (by omega)
    unfold f_X10_dry_L6
    simp only [↓reduceIte, hc]
    exact ⟨ν, T, by rw [hx]; rfl, h, by show k ≤ 61; omega⟩
  | succ m ih =>
    intro k F x ν T hk hF hx h hd
    obtain ⟨f, rfl⟩ : ∃ n, F = n + 1 := ⟨F - 1, by omega⟩
    have hc : ¬ (61 : Int32) ≤ x := fun z => by rw [hx] at z; have := (geN 61 61 rfl (by omega) (by omega)).mp z; omega
    obtain ⟨e2, e3, b1, b2⟩ := r_lf (ad := ad) (D := D) (cA := cA) h
    obtain ⟨ν1, e1, h1⟩ := r_day (ad := ad) (D := D) (cA := cA) h (by omega)
    unfold f_X10_dry_L6
    simp only [↓ckE, ↓reduceIte, kR, RK, Nat.reduceAdd, hc, e1, e2, e3, bdE]
    show ∃ ν' T', _ = K 600 (Int32.ofNat (if T.level ≤ T.floor then k else dryN m (k + 1) T.goDay)) ν' ∧ _ ∧ (if T.level ≤ T.floor then k else dryN m (k + 1) T.goDay) ≤ 61
    by_cases q : T.level ≤ T.floor
    · rw [if_pos q, if_pos ((iN_le (by omega) (by omega)).mpr q)]
      exact ⟨ν, T, by rw [hx], h, by omega⟩
    · rw [if_neg q, if_neg (fun z => q ((iN_le (by omega) (by omega)).mp z))]
      exact ih (k + 1) f (x + 1) ν1 T.goDay (by omega) (by omega) (by rw [hx]; exact iN_s) h1 (by rw [St.goDay_day]; omega)
theorem ansK_r {r : Nat} {μ : x_M} (h : r ≤ 61) : (if (61 : Int32) ≤ Int32.ofNat r then some ((-5 : Int32), μ) else some (Int32.ofNat r, μ)) = some (ansK r, μ) := by
  unfold ansK
  by_cases q : r ≤ 60
  · rw [if_pos q, if_neg (fun z => by have := (geN 61 61 rfl (by omega) (by omega)).mp z; omega)]
  · rw [if_neg q, if_pos ((geN 61 61 rfl (by omega) (by omega)).mpr (by omega))]
theorem r_dry {S : St} (h : StR μ S) (hO : Ok S) (hd : S.day + 61 ≤ 20000) : ∃ ν', f_X10_dry (XR ad D cA) 600 μ = some (ansK (dryN 61 0 S), ν') ∧ frC askR μ ν' := by
  obtain ⟨μ1, e, j, b⟩ := r_begin (ad := ad) (D := D) (cA := cA) h hO
  unfold f_X10_dry
  simp only [↓ckE, ↓reduceIte, kR, RK, Nat.reduceAdd, e, bdE]
  obtain ⟨ν, T, e1, j1, k1⟩ := r_dryL (ad := ad) (D := D) (cA := cA) (K := fun (v11 : Nat) (v12 : Int32) (μ13 : x_M) => _) 61 0 4096 0 μ1 S (by omega) (by omega) rfl j hd
  obtain ⟨ν', e2, g⟩ := b ν j1.2.2
  refine ⟨ν', ?_, g⟩
  rw [e1]
  simp only [↓ckE, ↓reduceIte, kR, RK, Nat.reduceAdd, e2, bdE]
  exact ansK_r k1
theorem r_lowL {n : Nat} (hn : n ≤ 40) (hB : Bk (XR ad D cA) μ μ1) : ∀ (m k F best least : Nat) (x y z : Int32) (ν : x_M) (T : St), k + m = n + 1 → m < F → x = Int32.ofNat k → y = Int32.ofNat best → z = Int32.ofNat least → least ≤ 60 → RJ μ1 ν T → T.day + m ≤ 20000 → ∃ ν', f_X10_lowest_L25 (XR ad D cA) F 600 (Int32.ofNat n) y z x ν = some (Int32.ofNat (lowN m k best least T), ν') ∧ frC askR μ ν' := by
  intro m
  induction m with
  | zero =>
    intro k F best least x y z ν T hk hF hx hy hz hl h hd
    obtain ⟨f, rfl⟩ : ∃ n, F = n + 1 := ⟨F - 1, by omega⟩
    have hc : Int32.ofNat n < x := by rw [hx]; exact (iN_lt (by omega) (by omega)).mpr (by omega)
    obtain ⟨ν', e, g⟩ := hB ν h.2.2
    unfold f_X10_lowest_L25
    simp only [↓ckE, ↓reduceIte, kR, RK, Nat.reduceAdd, hc, e, bdE, hy]
    exact ⟨ν', rfl, g⟩
  | succ m ih =>
    intro k F best least x y z ν T hk hF hx hy hz hl h hd
    obtain ⟨f, rfl⟩ : ∃ n, F = n + 1 := ⟨F - 1, by omega⟩
    have hc : ¬ Int32.ofNat n < x := fun z => by rw [hx] at z; have := (iN_lt (by omega) (by omega)).mp z; omega
    obtain ⟨ν1, e1, h1⟩ := r_day (ad := ad) (D := D) (cA := cA) h (by omega)
    obtain ⟨e2, e3, b1, b2⟩ := r_lf (ad := ad) (D := D) (cA := cA) h1
    unfold f_X10_lowest_L25
    simp only [↓ckE, ↓reduceIte, kR, RK, Nat.reduceAdd, hc, e1, e2, bdE, hz]
    show ∃ ν', _ = some (Int32.ofNat (if T.goDay.level < least then lowN m (k + 1) k T.goDay.level T.goDay else lowN m (k + 1) best least T.goDay), ν') ∧ _
    by_cases q : T.goDay.level < least
    · rw [if_pos q, if_pos ((iN_lt (by omega) (by omega)).mpr q)]
      exact ih (k + 1) f k T.goDay.level (x + 1) x _ ν1 T.goDay (by omega) (by omega) (by rw [hx]; exact iN_s) hx rfl b1 h1 (by rw [St.goDay_day]; omega)
    · rw [if_neg q, if_neg (fun w => q ((iN_lt (by omega) (by omega)).mp w))]
      exact ih (k + 1) f best least (x + 1) y _ ν1 T.goDay (by omega) (by omega) (by rw [hx]; exact iN_s) hy rfl hl h1 (by rw [St.goDay_day]; omega)
theorem r_fbL {S : St} {q : Int} (h : StR μ S) (hO : Ok S) (hq : -2147483648 < q ∧ q < 2147483648) : ∀ (m k F : Nat) (x : Int32), k + m = S.n → m < F → x = Int32.ofNat k → f_X10_below_L2 (XR ad D cA) F 600 (Int32.ofInt q) x μ = some (encO (fbN S (-q) m k), μ) := by
  intro m
  have h6 := hO.1.1.1
  induction m with
  | zero =>
    intro k F x hk hF hx
    obtain ⟨f, rfl⟩ : ∃ n, F = n + 1 := ⟨F - 1, by omega⟩
    have hc : Int32.ofNat S.n ≤ x := by rw [hx]; exact (iN_le (by omega) (by omega)).mpr (by omega)
    unfold f_X10_below_L2
    simp only [↓ckE, ↓reduceIte, kR, RK, Nat.reduceAdd, h.2.2.1.1, hc]
    rfl
  | succ m ih =>
    intro k F x hk hF hx
    obtain ⟨f, rfl⟩ : ∃ n, F = n + 1 := ⟨F - 1, by omega⟩
    have hc : ¬ Int32.ofNat S.n ≤ x := fun z => by rw [hx] at z; have := (iN_le (by omega) (by omega)).mp z; omega
    have hx6 : x_ix x 6 := by rw [hx]; exact iN_ix (by omega) (by omega)
    have hcl : x.toNatClampNeg = k := by rw [hx]; exact iN_cl (by omega)
    have hb := (hO.1.2.1 k (by omega)).2.1
    have e1 := (h.2.2.2.2.1 k (by omega)).2.1.1
    unfold f_X10_below_L2
    simp only [↓ckE, ↓ltE, ↓reduceIte, kR, lR, RK, RN, RP h.1, Nat.reduceAdd, h.2.2.1.1, hc, true_or, true_and, ↓ixT hx6, hcl, e1, ← Int32.ofInt_neg]
    show _ = some (encO (if S.bk k < -q then some k else fbN S (-q) m (k + 1)), μ)
    by_cases g : S.bk k < -q
    · rw [if_pos g, if_neg (fun w => by have := (iI_le (by omega) (by omega)).mp w; omega), hx]; rfl
    · rw [if_neg g, if_pos ((iI_le (by omega) (by omega)).mpr (by omega))]
      exact ih (k + 1) f (x + 1) (by omega) (by omega) (by rw [hx]; exact iN_s)
theorem ruN_1 {z : Int} {m : Nat} {T : St} : ruN z (m + 1) T = match T.below z with | some a => some a | none => ruN z m T.goDay := rfl
theorem r_ruL {q : Int} (hq : 0 ≤ q ∧ q ≤ 999) (hB : Bk (XR ad D cA) μ μ1) : ∀ (m k F : Nat) (x y : Int32) (ν : x_M) (T : St), k + m = 60 → m < F → x = Int32.ofNat k → y = encO (T.below (-q)) → RJ μ1 ν T → T.day + m ≤ 20000 → ∃ ν', f_X10_ruined_L27 (XR ad D cA) F 600 (Int32.ofInt q) y x ν = some (encO (ruN (-q) (m + 1) T), ν') ∧ frC askR μ ν' := by
  intro m
  induction m with
  | zero =>
    intro k F x y ν T hk hF hx hy h hd
    obtain ⟨f, rfl⟩ : ∃ n, F = n + 1 := ⟨F - 1, by omega⟩
    have hc : (60 : Int32) ≤ x := by rw [hx]; exact (geN 60 60 rfl (by omega) (by omega)).mpr (by omega)
    obtain ⟨ν', e, g⟩ := hB ν h.2.2
    unfold f_X10_ruined_L27
    simp only [↓ckE, ↓reduceIte, kR, RK, Nat.reduceAdd, hc, e, bdE, hy]
    refine ⟨ν', ?_, g⟩
    rw [ruN_1]
    cases T.below (-q) <;> rfl
  | succ m ih =>
    intro k F x y ν T hk hF hx hy h hd
    obtain ⟨f, rfl⟩ : ∃ n, F = n + 1 := ⟨F - 1, by omega⟩
    have hc : ¬ (60 : Int32) ≤ x := fun z => by rw [hx] at z; have := (geN 60 60 rfl (by omega) (by omega)).mp z; omega
    have h6 := h.2.1.1.1.1
    have hlt : ∀ a, T.below (-q) = some a → a < 7 := fun a ha => by have := fbN_lt _ _ ha; omega
    rw [ruN_1]
    unfold f_X10_ruined_L27
    cases hb : T.below (-q) with
    | some a =>
      have := hlt a hb
      obtain ⟨ν', e, g⟩ := hB ν h.2.2
      have h0 : (0 : Int32) ≤ y := by rw [hy, hb]; exact (geN 0 0 rfl (by decide) (by omega)).mpr (Nat.zero_le _)
      simp only [↓ckE, ↓reduceIte, kR, RK, Nat.reduceAdd, hc, h0, e, bdE]
      exact ⟨ν', by rw [hy, hb], g⟩
    | none =>
      have h0 : ¬ (0 : Int32) ≤ y := by rw [hy, hb]; decide
      obtain ⟨ν1, e1, h1⟩ := r_day (ad := ad) (D := D) (cA := cA) h (by omega)
      have eb : f_X10_below (XR ad D cA) 600 (Int32.ofInt q) ν1 = some (encO (T.goDay.below (-q)), ν1) := r_fbL h1.1 h1.2.1 (by omega) T.n 0 4096 0 (by show 0 + T.n = T.n; omega) (by omega) rfl
      simp only [↓ckE, ↓reduceIte, kR, RK, Nat.reduceAdd, hc, h0, e1, eb, bdE]
      exact ih (k + 1) f (x + 1) _ ν1 T.goDay (by omega) (by omega) (by rw [hx]; exact iN_s) rfl h1 (by rw [St.goDay_day]; omega)
theorem r_enL {a : Nat} {q : Int} {K : Nat → Int32 → x_M → Option (Int32 × x_M)} (hq : -2147483648 ≤ q ∧ q < 2147483648) : ∀ (m k F : Nat) (x : Int32) (ν : x_M) (T : St), k + m = 61 → m < F → x = Int32.ofNat k → RJ μ1 ν T → a < T.n → T.day + m ≤ 20000 → ∃ ν' T', f_X10_enough_L33 (XR ad D cA) K F 600 (Int32.ofNat a) (Int32.ofInt q) x ν = K 600 (Int32.ofNat (enN a q m k T)) ν' ∧ RJ μ1 ν' T' ∧ enN a q m k T ≤ 61 := by
  intro m
  induction m with
  | zero =>
    intro k F x ν T hk hF hx h ha hd
    obtain ⟨f, rfl⟩ : ∃ n, F = n + 1 := ⟨F - 1, by omega⟩
    have hc : (61 : Int32) ≤ x := by rw [hx]; exact (geN 61 61 rfl (by omega) (by omega)).mpr (by omega)
    unfold f_X10_enough_L33
    simp only [↓reduceIte, hc]
    exact ⟨ν, T, by rw [hx]; rfl, h, by show k ≤ 61; omega⟩
  | succ m ih =>
    intro k F x ν T hk hF hx h ha hd
    obtain ⟨f, rfl⟩ : ∃ n, F = n + 1 := ⟨F - 1, by omega⟩
    have hc : ¬ (61 : Int32) ≤ x := fun z => by rw [hx] at z; have := (geN 61 61 rfl (by omega) (by omega)).mp z; omega
    have h6 := h.2.1.1.1.1
    have hx6 : x_ix (Int32.ofNat a) 6 := iN_ix (by omega) (by omega)
    have hcl : (Int32.ofNat a).toNatClampNeg = a := iN_cl (by omega)
    have hb := (h.2.1.1.2.1 a ha).2.1
    have e2 := (h.1.2.2.2.2.1 a ha).2.1.1
    obtain ⟨ν1, e1, h1⟩ := r_day (ad := ad) (D := D) (cA := cA) h (by omega)
    unfold f_X10_enough_L33
    simp only [↓ckE, ↓ltE, ↓reduceIte, kR, lR, RK, RN, RP h.1.1, Nat.reduceAdd, hc, e1, bdE, true_or, true_and, ↓ixT hx6, hcl, e2]
    show ∃ ν' T', _ = K 600 (Int32.ofNat (if q ≤ T.bk a then k else enN a q m (k + 1) T.goDay)) ν' ∧ _ ∧ (if q ≤ T.bk a then k else enN a q m (k + 1) T.goDay) ≤ 61
    by_cases g : q ≤ T.bk a
    · rw [if_pos g, if_pos ((iI_le hq (by omega)).mpr g)]
      exact ⟨ν, T, by rw [hx], h, by omega⟩
    · rw [if_neg g, if_neg (fun z => g ((iI_le hq (by omega)).mp z))]
      exact ih (k + 1) f (x + 1) ν1 T.goDay (by omega) (by omega) (by rw [hx]; exact iN_s) h1 ha (by rw [St.goDay_day]; omega)
theorem r_ricL {S : St} {ν : x_M} (hB : Bk (XR ad D cA) μ μ1) (h : RJ μ1 ν S) : ∀ (m k F : Nat) (b : Option Nat) (x y : Int32), k + m = S.n → m < F → x = Int32.ofNat k → y = encO b → (∀ c, b = some c → c < S.n) → ∃ ν', f_X10_richest_L25 (XR ad D cA) F 600 y x ν = some (encO (ricN S m k b), ν') ∧ frC askR μ ν' := by
  intro m
  have h6 := h.2.1.1.1.1
  induction m with
  | zero =>
    intro k F b x y hk hF hx hy hb
    obtain ⟨f, rfl⟩ : ∃ n, F = n + 1 := ⟨F - 1, by omega⟩
    have hc : Int32.ofNat S.n ≤ x := by rw [hx]; exact (iN_le (by omega) (by omega)).mpr (by omega)
    obtain ⟨ν', e, g⟩ := hB ν h.2.2
    refine ⟨ν', ?_, g⟩
    unfold f_X10_richest_L25
    simp only [↓ckE, ↓reduceIte, kR, RK, Nat.reduceAdd, h.1.2.2.1.1, hc, e, bdE, hy]
    cases b <;> rfl
  | succ m ih =>
    intro k F b x y hk hF hx hy hb
    obtain ⟨f, rfl⟩ : ∃ n, F = n + 1 := ⟨F - 1, by omega⟩
    have hc : ¬ Int32.ofNat S.n ≤ x := fun z => by rw [hx] at z; have := (iN_le (by omega) (by omega)).mp z; omega
    have hx6 : x_ix x 6 := by rw [hx]; exact iN_ix (by omega) (by omega)
    have hcl : x.toNatClampNeg = k := by rw [hx]; exact iN_cl (by omega)
    have hbk := (h.2.1.1.2.1 k (by omega)).2.1
    have e1 := (h.1.2.2.2.2.1 k (by omega)).2.1.1
    unfold f_X10_richest_L25
    cases b with
    | none =>
      have hy5 : y < 0 := by rw [show y = -5 from hy]; decide
      simp only [↓ckE, ↓reduceIte, kR, RK, Nat.reduceAdd, h.1.2.2.1.1, hc, hy5]
      exact ih (k + 1) f (some k) (x + 1) x (by omega) (by omega) (by rw [hx]; exact iN_s) hx (fun c hc => by cases hc; omega)
    | some c =>
      have hcn := hb c rfl
      have hyc : y = Int32.ofNat c := hy
      have n5 : ¬ y < 0 := by rw [hyc]; exact iN_neg (by omega)
      have hy6 : x_ix y 6 := by rw [hyc]; exact iN_ix (by omega) (by omega)
      have hyl : y.toNatClampNeg = c := by rw [hyc]; exact iN_cl (by omega)
      have e2 := (h.1.2.2.2.2.1 c hcn).2.1.1
      have hbc := (h.2.1.1.2.1 c hcn).2.1
      simp only [↓ckE, ↓ltE, ↓reduceIte, kR, lR, RK, RN, RP h.1.1, Nat.reduceAdd, h.1.2.2.1.1, hc, n5, true_or, true_and, ↓ixT hx6, hcl, ↓ixT hy6, hyl, e1, e2]
      show ∃ ν', _ = some (encO (if S.bk c < S.bk k then ricN S m (k + 1) (some k) else ricN S m (k + 1) (some c)), ν') ∧ _
      by_cases q : S.bk c < S.bk k
      · rw [if_pos q, if_neg (fun w => by have := (iI_le (by omega) (by omega)).mp w; omega)]
        exact ih (k + 1) f (some k) (x + 1) x (by omega) (by omega) (by rw [hx]; exact iN_s) hx (fun c hc => by cases hc; omega)
      · rw [if_neg q, if_pos ((iI_le (by omega) (by omega)).mpr (by omega))]
        exact ih (k + 1) f (some c) (x + 1) y (by omega) (by omega) (by rw [hx]; exact iN_s) hy hb
end LATERR
