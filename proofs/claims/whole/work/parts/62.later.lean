/-! ===== the class: what is asked goes on in the copy at 300 ===== -/
theorem CK : x_kdC 1 = 10 ∧ x_kdC 2 = 3 ∧ x_kdC 3 = 6 ∧ x_kdC 4 = 20 ∧ x_kdC 5 = 24 ∧ x_kdC 6 = 25 ∧ x_kdC 7 = 2 ∧ x_kdC 8 = 20 ∧ x_kdC 100 = 8 ∧ x_kdC 200 = 8 ∧ x_kdC 300 = 8 ∧ x_kdC 316 = 7 ∧ x_kdC 116 = 7 ∧ x_kdC 119 = 7 ∧ x_kdC 122 = 7 ∧ x_kdC 101 = 4 ∧ x_kdC 301 = 4 ∧ x_kdC 103 = 23 ∧ x_kdC 303 = 23 ∧ x_kdC 102 = 20 ∧ x_kdC 801 = 40 ∧ x_kdC 802 = 40 := by decide +kernel
theorem CN : x_lnA 4 = 100 ∧ x_lnA 5 = 6 ∧ x_lnA 6 = 6 ∧ x_lnA 8 = 20 ∧ x_lnA 103 = 6 ∧ x_lnA 303 = 6 ∧ x_lnA 102 = 6 ∧ x_lnA 801 = 7 ∧ x_lnA 802 = 21 := by decide +kernel
theorem CP0 : rf107 1 0 = 100 ∧ rf107 1 1 = 200 ∧ rf107 1 2 = 2 ∧ rf107 1 3 = 3 ∧ rf107 1 4 = 5 ∧ rf107 1 5 = 6 ∧ rf107 1 6 = 7 ∧ rf107 2 0 = 300 ∧ rf107 3 0 = 4 ∧ rf107 7 0 = 8 ∧ rf107 100 0 = 101 ∧ rf107 100 1 = 103 ∧ rf107 100 2 = 116 ∧ rf107 100 3 = 119 ∧ rf107 100 4 = 122 ∧ rf107 300 1 = 303 ∧ rf107 300 2 = 316 := by decide +kernel
theorem CP {μ : x_M} (h : Pt μ) : μ.2.1 1 0 = 100 ∧ μ.2.1 1 1 = 200 ∧ μ.2.1 1 2 = 2 ∧ μ.2.1 1 3 = 3 ∧ μ.2.1 1 4 = 5 ∧ μ.2.1 1 5 = 6 ∧ μ.2.1 1 6 = 7 ∧ μ.2.1 2 0 = 300 ∧ μ.2.1 3 0 = 4 ∧ μ.2.1 7 0 = 8 ∧ μ.2.1 100 0 = 101 ∧ μ.2.1 100 1 = 103 ∧ μ.2.1 100 2 = 116 ∧ μ.2.1 100 3 = 119 ∧ μ.2.1 100 4 = 122 ∧ μ.2.1 300 1 = 303 ∧ μ.2.1 300 2 = 316 := by
  rw [h 1 0 (by omega), h 1 1 (by omega), h 1 2 (by omega), h 1 3 (by omega), h 1 4 (by omega), h 1 5 (by omega), h 1 6 (by omega), h 2 0 (by omega), h 3 0 (by omega), h 7 0 (by omega), h 100 0 (by omega), h 100 1 (by omega), h 100 2 (by omega), h 100 3 (by omega), h 100 4 (by omega), h 300 1 (by omega), h 300 2 (by omega)]
  exact CP0
def Later (ν : x_M) (T : St) (R : Rw) : Prop := StC ν 300 T ∧ RowC ν 316 R ∧ Ok T
theorem St.goDay_day {T : St} : T.goDay.day = T.day + 1 := rfl
def St.goN (T : St) : Nat → St
  | 0 => T
  | m + 1 => T.goDay.goN m
def ansK (r : Nat) : Int32 := if r ≤ 60 then Int32.ofNat r else -5
def dryN : Nat → Nat → St → Nat
  | 0, k, _ => k
  | m + 1, k, T => if T.level ≤ T.floor then k else dryN m (k + 1) T.goDay
def lowN : Nat → Nat → Nat → Nat → St → Nat
  | 0, _, best, _, _ => best
  | m + 1, k, best, least, T => if T.goDay.level < least then lowN m (k + 1) k T.goDay.level T.goDay else lowN m (k + 1) best least T.goDay
def fbN (T : St) (z : Int) : Nat → Nat → Option Nat
  | 0, _ => none
  | m + 1, k => if T.bk k < z then some k else fbN T z m (k + 1)
def St.below (T : St) (z : Int) : Option Nat := fbN T z T.n 0
def ruN (z : Int) : Nat → St → Option Nat
  | 0, _ => none
  | m + 1, T => match T.below z with
    | some a => some a
    | none => ruN z m T.goDay
def encO : Option Nat → Int32
  | none => -5
  | some a => Int32.ofNat a
def enN (a : Nat) (q : Int) : Nat → Nat → St → Nat
  | 0, k, _ => k
  | m + 1, k, T => if q ≤ T.bk a then k else enN a q m (k + 1) T.goDay
def wetN : Nat → St → Bool
  | 0, _ => true
  | m + 1, T => if T.goDay.level ≤ T.goDay.floor then false else wetN m T.goDay
def lvN : Nat → St → Nat
  | 0, _ => 0
  | m + 1, T => T.goDay.level + lvN m T.goDay
def sunS (T : St) : Nat → Nat
  | 0 => 0
  | k + 1 => sunS T k + T.sun k
/-- the sun of one and of all, over days -/
def shN (a : Nat) : Nat → St → Nat × Nat
  | 0, _ => (0, 0)
  | m + 1, T => (T.sun a + (shN a m T.goDay).1, sunS T T.n + (shN a m T.goDay).2)
def ricN (T : St) : Nat → Nat → Option Nat → Option Nat
  | 0, _, b => b
  | m + 1, k, none => ricN T m (k + 1) (some k)
  | m + 1, k, some b => if T.bk b < T.bk k then ricN T m (k + 1) (some k) else ricN T m (k + 1) (some b)
section LATER
variable {ad : Nat → Nat} {D : va_G} {cA : Nat → ClassId} {μ : x_M}
theorem c_day {ν : x_M} {T : St} {R : Rw} (h : Later ν T R) (hd : T.day + 1 ≤ 20000) : ∃ ν', f_X7_pass (XC ad D cA) 300 ν = some ((), ν') ∧ Later ν' T.goDay R ∧ (∀ j, j < 6 → ν'.1 (304 + j) 9 = Int32.ofNat (sN T j)) ∧ frA askC ν ν' := by
  obtain ⟨ν', e, h1, h2, f⟩ := c_pass (ad := ad) (D := D) (cA := cA) h.1 h.2.2
  refine ⟨ν', e, ⟨h1, ?_, St.goDay_ok h.2.2 hd⟩, h2, f.A gdC_ask⟩
  have g : ∀ o k, 316 ≤ o → o ≤ 318 → ν'.1 o k = ν.1 o k := fun o k p1 p2 => f.2 o k (by unfold gdC d2C scC dyC; omega)
  refine ⟨?_, fun j hj => ⟨?_, ?_⟩⟩
  · rw [g 316 3 (by omega) (by omega)]; exact h.2.1.1
  · rw [g 317 j (by omega) (by omega)]; exact (h.2.1.2 j hj).1
  · rw [g 318 j (by omega) (by omega)]; exact (h.2.1.2 j hj).2
theorem c_find {B a : Nat} {S : St} (h : StC μ B S) (hO : Ok S) (ha : a < S.n) : f_X7_find (XC ad D cA) B (Int32.ofNat a) μ = some (B + 4 + a, μ) := by
  have h6 := hO.1.1.1
  obtain ⟨k0, -, -, k3, -, l3⟩ := kB h.1.1
  have hx : x_ix (Int32.ofNat a) 6 := iN_ix (by omega) (by omega)
  have hc : (Int32.ofNat a).toNatClampNeg = a := iN_cl (by omega)
  have n1 : ¬ Int32.ofNat a < 0 := iN_neg (by omega)
  have n2 : ¬ Int32.ofNat S.n ≤ Int32.ofNat a := fun z => by have := (iN_le (by omega) (by omega)).mp z; omega
  have n3 : ¬ (6 : Int32) ≤ Int32.ofNat a := fun z => by have := (geN 6 6 rfl (by omega) (by omega)).mp z; omega
  have hn : μ.1 B 6 = Int32.ofNat S.n := h.2.2.2.2.2.1.1
  unfold f_X7_find
  simp only [↓ckE, ↓ltE, ↓reduceIte, kC, lC, k0, k3, l3, Nat.reduceAdd, Nat.reduceEqDiff, hn, n1, n2, n3, (pt_S h.1.1 h.1.2).2.1, true_or, true_and, ↓ixT hx, hc, (pt_a h.1.1 (i := a) (by omega) h.1.2).1]
theorem c_find0 {B : Nat} {S : St} {x : Int32} (h : StC μ B S) (hO : Ok S) (hx : ∀ a, a < S.n → x ≠ Int32.ofNat a) : f_X7_find (XC ad D cA) B x μ = some (0, μ) := by
  have h6 := hO.1.1.1
  obtain ⟨k0, -, -, k3, -, l3⟩ := kB h.1.1
  have hn : μ.1 B 6 = Int32.ofNat S.n := h.2.2.2.2.2.1.1
  unfold f_X7_find
  by_cases q : x < 0
  · rw [if_pos q]
  · obtain ⟨j, hj, rfl⟩ := iN_of q
    have hjn : S.n ≤ j := Nat.le_of_not_lt (fun z => hx j z rfl)
    have n2 : Int32.ofNat S.n ≤ Int32.ofNat j := (iN_le (by omega) (by omega)).mpr hjn
    simp only [↓ckE, ↓ltE, ↓reduceIte, kC, k0, Nat.reduceAdd, hn, q, n2]
theorem c_bk {B a : Nat} {S : St} (h : StC μ B S) (hO : Ok S) (ha : a < S.n) : f_X7_bucketsOf (XC ad D cA) B (Int32.ofNat a) μ = some (Int32.ofInt (S.bk a), μ) := by
  obtain ⟨k0, -, -, -, -, -⟩ := kB h.1.1
  have ka := (kBa h.1.1 (i := a) (by have := hO.1.1.1; omega)).1
  have hb : (B + 4 + a = 0) = False := eq_false (by omega)
  have e := (h.2.2.2.1 a ha).2.1.1
  unfold f_X7_bucketsOf
  simp only [↓ckE, ↓ltE, ↓reduceIte, kC, k0, ka, Nat.reduceAdd, c_find h hO ha, bdE, hb, e]
theorem c_isDry {B : Nat} {S : St} (h : StC μ B S) (hO : Ok S) : f_X7_isDry (XC ad D cA) B μ = some (if S.level ≤ S.floor then 1 else 0, μ) := by
  obtain ⟨k0, -, -, -, -, -⟩ := kB h.1.1
  have kl := (lawK _ h.2.2.2.2.1.1).1
  have hlv : S.level ≤ 60 := lvl_le
  have hfl : S.floor ≤ 60 := by unfold St.floor; omega
  have efl : μ.1 (μ.2.1 B 5) 8 = Int32.ofNat S.floor := h.2.2.2.2.1.2.2.1.2.2.1
  unfold f_X7_isDry
  simp only [↓ckE, ↓ltE, ↓reduceIte, kC, k0, kl, Nat.reduceAdd, h.level hO, bdE, efl, iE, true_or, or_true]
  by_cases q : S.level ≤ S.floor
  · rw [if_pos q, if_neg (fun z => by have := (iN_lt (by omega) (by omega)).mp z; omega)]
  · rw [if_neg q, if_pos ((iN_lt (by omega) (by omega)).mpr (by omega))]
theorem c_afterL {n : Nat} {R : Rw} (hn : n < 2 ^ 31) : ∀ (m k F : Nat) (x : Int32) (ν : x_M) (T : St), k + m = n → m < F → x = Int32.ofNat k → Later ν T R → T.day + m ≤ 20000 → ∃ ν', f_X2_after_L10 (XC ad D cA) F 2 (Int32.ofNat n) x ν = some (300, ν') ∧ Later ν' (T.goN m) R ∧ frA askC ν ν' := by
  intro m
  induction m with
  | zero =>
    intro k F x ν T hk hF hx h hd
    obtain ⟨f, rfl⟩ : ∃ n, F = n + 1 := ⟨F - 1, by omega⟩
    have hc : Int32.ofNat n ≤ x := by rw [hx]; exact (iN_le (by omega) (by omega)).mpr (by omega)
    unfold f_X2_after_L10
    simp only [↓ckE, ↓ltE, ↓reduceIte, kC, CK, CP h.1.1.2, Nat.reduceAdd, hc]
    exact ⟨ν, rfl, h, frA.rf⟩
  | succ m ih =>
    intro k F x ν T hk hF hx h hd
    obtain ⟨f, rfl⟩ : ∃ n, F = n + 1 := ⟨F - 1, by omega⟩
    have hc : ¬ Int32.ofNat n ≤ x := fun z => by rw [hx] at z; have := (iN_le (by omega) (by omega)).mp z; omega
    obtain ⟨ν1, e1, h1, -, f1⟩ := c_day (ad := ad) (D := D) (cA := cA) h (by omega)
    unfold f_X2_after_L10
    simp only [↓ckE, ↓ltE, ↓reduceIte, kC, CK, CP h.1.1.2, Nat.reduceAdd, hc, e1, bdE]
    obtain ⟨ν', r1, r2, r3⟩ := ih (k + 1) f (x + 1) ν1 T.goDay (by omega) (by omega) (by rw [hx]; exact iN_s) h1 (by rw [St.goDay_day]; omega)
    exact ⟨ν', r1, r2, f1.tr r3⟩
theorem c_wetL {n : Nat} {R : Rw} (hn : n < 2 ^ 31) : ∀ (m k F : Nat) (x : Int32) (ν : x_M) (T : St), k + m = n → m < F → x = Int32.ofNat k → Later ν T R → T.day + m ≤ 20000 → ∃ ν', f_X2_staysWet_L2 (XC ad D cA) F 2 (Int32.ofNat n) x ν = some (if wetN m T then 1 else 0, ν') ∧ frA askC ν ν' := by
  intro m
  induction m with
  | zero =>
    intro k F x ν T hk hF hx h hd
    obtain ⟨f, rfl⟩ : ∃ n, F = n + 1 := ⟨F - 1, by omega⟩
    have hc : Int32.ofNat n ≤ x := by rw [hx]; exact (iN_le (by omega) (by omega)).mpr (by omega)
    unfold f_X2_staysWet_L2
    simp only [↓ckE, ↓reduceIte, hc, or_true]
    exact ⟨ν, rfl, frA.rf⟩
  | succ m ih =>
    intro k F x ν T hk hF hx h hd
    obtain ⟨f, rfl⟩ : ∃ n, F = n + 1 := ⟨F - 1, by omega⟩
    have hc : ¬ Int32.ofNat n ≤ x := fun z => by rw [hx] at z; have := (iN_le (by omega) (by omega)).mp z; omega
    obtain ⟨ν1, e1, h1, -, f1⟩ := c_day (ad := ad) (D := D) (cA := cA) h (by omega)
    have ed := c_isDry (ad := ad) (D := D) (cA := cA) h1.1 h1.2.2
    unfold f_X2_staysWet_L2
    simp only [↓ckE, ↓ltE, ↓reduceIte, kC, CK, CP h.1.1.2, CP h1.1.1.2, Nat.reduceAdd, hc, e1, ed, bdE]
    show ∃ ν', _ = some (if (if T.goDay.level ≤ T.goDay.floor then false else wetN m T.goDay) = true then 1 else 0, ν') ∧ _
    by_cases q : T.goDay.level ≤ T.goDay.floor
    · rw [if_pos q, if_pos q]
      simp only [↓ckE, ↓reduceIte, iE, true_or, Bool.false_eq_true]
      exact ⟨ν1, rfl, f1⟩
    · rw [if_neg q, if_neg q]
      simp only [↓reduceIte]
      obtain ⟨ν', r1, r3⟩ := ih (k + 1) f (x + 1) ν1 T.goDay (by omega) (by omega) (by rw [hx]; exact iN_s) h1 (by rw [St.goDay_day]; omega)
      exact ⟨ν', r1, f1.tr r3⟩
theorem c_dryL {R : Rw} : ∀ (m k F : Nat) (x : Int32) (ν : x_M) (T : St), k + m = 61 → m < F → x = Int32.ofNat k → Later ν T R → T.day + m ≤ 20000 → ∃ ν', f_X2_daysTillDry_L10 (XC ad D cA) F 2 x ν = some (ansK (dryN m k T), ν') ∧ frA askC ν ν' := by
  intro m
  induction m with
  | zero =>
    intro k F x ν T hk hF hx h hd
    obtain ⟨f, rfl⟩ : ∃ n, F = n + 1 := ⟨F - 1, by omega⟩
    have hc : (60 : Int32) < x := by rw [hx]; exact (gtN 60 60 rfl (by omega) (by omega)).mpr (by omega)
    unfold f_X2_daysTillDry_L10
    simp only [↓reduceIte, hc]
    refine ⟨ν, ?_, frA.rf⟩
    show _ = some (ansK k, ν)
    unfold ansK
    rw [if_neg (by omega)]
  | succ m ih =>
    intro k F x ν T hk hF hx h hd
    obtain ⟨f, rfl⟩ : ∃ n, F = n + 1 := ⟨F - 1, by omega⟩
    have hc : ¬ (60 : Int32) < x := fun z => by rw [hx] at z; have := (gtN 60 60 rfl (by omega) (by omega)).mp z; omega
    have ed := c_isDry (ad := ad) (D := D) (cA := cA) h.1 h.2.2
    obtain ⟨ν1, e1, h1, -, f1⟩ := c_day (ad := ad) (D := D) (cA := cA) h (by omega)
    unfold f_X2_daysTillDry_L10
    simp only [↓ckE, ↓ltE, ↓reduceIte, kC, CK, CP h.1.1.2, Nat.reduceAdd, hc, e1, ed, bdE]
    show ∃ ν', _ = some (ansK (if T.level ≤ T.floor then k else dryN m (k + 1) T.goDay), ν') ∧ _
    by_cases q : T.level ≤ T.floor
    · rw [if_pos q, if_pos q]
      simp only [↓reduceIte, iE]
      refine ⟨ν, ?_, frA.rf⟩
      unfold ansK
      rw [if_pos (by omega), hx]
    · rw [if_neg q, if_neg q]
      simp only [↓reduceIte]
      obtain ⟨ν', r1, r3⟩ := ih (k + 1) f (x + 1) ν1 T.goDay (by omega) (by omega) (by rw [hx]; exact iN_s) h1 (by rw [St.goDay_day]; omega)
      exact ⟨ν', r1, f1.tr r3⟩
theorem c_lowL {n : Nat} {R : Rw} (hn : n ≤ 40) : ∀ (m k F best least : Nat) (x y z : Int32) (ν : x_M) (T : St), k + m = n + 1 → m < F → x = Int32.ofNat k → y = Int32.ofNat best → z = Int32.ofNat least → least ≤ 60 → Later ν T R → T.day + m ≤ 20000 → ∃ ν', f_X2_daysTillLowest_L22 (XC ad D cA) F 2 (Int32.ofNat n) y z x ν = some (Int32.ofNat (lowN m k best least T), ν') ∧ frA askC ν ν' := by
  intro m
  induction m with
  | zero =>
    intro k F best least x y z ν T hk hF hx hy hz hl h hd
    obtain ⟨f, rfl⟩ : ∃ n, F = n + 1 := ⟨F - 1, by omega⟩
    have hc : Int32.ofNat n < x := by rw [hx]; exact (iN_lt (by omega) (by omega)).mpr (by omega)
    unfold f_X2_daysTillLowest_L22
    simp only [↓reduceIte, hc, hy]
    exact ⟨ν, rfl, frA.rf⟩
  | succ m ih =>
    intro k F best least x y z ν T hk hF hx hy hz hl h hd
    obtain ⟨f, rfl⟩ : ∃ n, F = n + 1 := ⟨F - 1, by omega⟩
    have hc : ¬ Int32.ofNat n < x := fun z => by rw [hx] at z; have := (iN_lt (by omega) (by omega)).mp z; omega
    obtain ⟨ν1, e1, h1, -, f1⟩ := c_day (ad := ad) (D := D) (cA := cA) h (by omega)
    have el := h1.1.level (ad := ad) (D := D) (cA := cA) h1.2.2
    have hlv : T.goDay.level ≤ 60 := lvl_le
    unfold f_X2_daysTillLowest_L22
    simp only [↓ckE, ↓ltE, ↓reduceIte, kC, CK, CP h.1.1.2, CP h1.1.1.2, Nat.reduceAdd, hc, e1, el, bdE, hz]
    show ∃ ν', _ = some (Int32.ofNat (if T.goDay.level < least then lowN m (k + 1) k T.goDay.level T.goDay else lowN m (k + 1) best least T.goDay), ν') ∧ _
    by_cases q : T.goDay.level < least
    · rw [if_pos q, if_neg (fun w => by have := (iN_le (by omega) (by omega)).mp w; omega)]
      obtain ⟨ν', r1, r3⟩ := ih (k + 1) f k T.goDay.level (x + 1) x _ ν1 T.goDay (by omega) (by omega) (by rw [hx]; exact iN_s) hx rfl hlv h1 (by rw [St.goDay_day]; omega)
      exact ⟨ν', r1, f1.tr r3⟩
    · rw [if_neg q, if_pos ((iN_le (by omega) (by omega)).mpr (by omega))]
      obtain ⟨ν', r1, r3⟩ := ih (k + 1) f best least (x + 1) y _ ν1 T.goDay (by omega) (by omega) (by rw [hx]; exact iN_s) hy rfl hl h1 (by rw [St.goDay_day]; omega)
      exact ⟨ν', r1, f1.tr r3⟩
theorem c_fbL {B : Nat} {S : St} {z : Int} (h : StC μ B S) (hO : Ok S) (hz : -2147483648 ≤ z ∧ z < 2147483648) : ∀ (m k F : Nat) (x : Int32), k + m = S.n → m < F → x = Int32.ofNat k → f_X7_firstBelow_L2 (XC ad D cA) F B (Int32.ofInt z) x μ = some (encO (fbN S z m k), μ) := by
  intro m
  have h6 := hO.1.1.1
  obtain ⟨k0, -, -, -, -, -⟩ := kB h.1.1
  have hn : μ.1 B 6 = Int32.ofNat S.n := h.2.2.2.2.2.1.1
  induction m with
  | zero =>
    intro k F x hk hF hx
    obtain ⟨f, rfl⟩ : ∃ n, F = n + 1 := ⟨F - 1, by omega⟩
    have hc : Int32.ofNat S.n ≤ x := by rw [hx]; exact (iN_le (by omega) (by omega)).mpr (by omega)
    unfold f_X7_firstBelow_L2
    simp only [↓ckE, ↓reduceIte, kC, k0, Nat.reduceAdd, hn, hc]
    rfl
  | succ m ih =>
    intro k F x hk hF hx
    obtain ⟨f, rfl⟩ : ∃ n, F = n + 1 := ⟨F - 1, by omega⟩
    have hc : ¬ Int32.ofNat S.n ≤ x := fun z => by rw [hx] at z; have := (iN_le (by omega) (by omega)).mp z; omega
    have hb := (hO.1.2.1 k (by omega)).2.1
    have e1 := c_bk (ad := ad) (D := D) (cA := cA) h hO (a := k) (by omega)
    rw [← hx] at e1
    unfold f_X7_firstBelow_L2
    simp only [↓ckE, ↓reduceIte, kC, k0, Nat.reduceAdd, hn, hc, e1, bdE]
    show _ = some (encO (if S.bk k < z then some k else fbN S z m (k + 1)), μ)
    by_cases q : S.bk k < z
    · rw [if_pos q, if_neg (fun w => by have := (iI_le hz (by omega)).mp w; omega), hx]; rfl
    · rw [if_neg q, if_pos ((iI_le hz (by omega)).mpr (by omega))]
      exact ih (k + 1) f (x + 1) (by omega) (by omega) (by rw [hx]; exact iN_s)
theorem fbN_lt {S : St} {z : Int} {a : Nat} : ∀ (m k : Nat), fbN S z m k = some a → a < k + m
  | 0, k, h => by cases h
  | m + 1, k, h => by
    have h : (if S.bk k < z then some k else fbN S z m (k + 1)) = some a := h
    by_cases q : S.bk k < z
    · rw [if_pos q] at h; cases h; omega
    · rw [if_neg q] at h; have := fbN_lt m (k + 1) h; omega
theorem encO_5 {o : Option Nat} {N : Nat} (h : ∀ a, o = some a → a < N) (hN : N < 2 ^ 31) : encO o = -5 ↔ o = none := by
  cases o with
  | none => exact ⟨fun _ => rfl, fun _ => rfl⟩
  | some a =>
    have := h a rfl
    constructor
    · intro z; exact absurd z (iN_ne (by omega) (by decide))
    · intro z; cases z
theorem c_ruL {z : Int} {R : Rw} (hz : -2147483648 ≤ z ∧ z < 2147483648) : ∀ (m k F : Nat) (x : Int32) (ν : x_M) (T : St), k + m = 61 → m < F → x = Int32.ofNat k → Later ν T R → T.day + m ≤ 20000 → ∃ ν', f_X2_firstBelow_L10 (XC ad D cA) F 2 (Int32.ofInt z) x ν = some (encO (ruN z m T), ν') ∧ frA askC ν ν' := by
  intro m
  induction m with
  | zero =>
    intro k F x ν T hk hF hx h hd
    obtain ⟨f, rfl⟩ : ∃ n, F = n + 1 := ⟨F - 1, by omega⟩
    have hc : (60 : Int32) < x := by rw [hx]; exact (gtN 60 60 rfl (by omega) (by omega)).mpr (by omega)
    unfold f_X2_firstBelow_L10
    simp only [↓reduceIte, hc]
    exact ⟨ν, rfl, frA.rf⟩
  | succ m ih =>
    intro k F x ν T hk hF hx h hd
    obtain ⟨f, rfl⟩ : ∃ n, F = n + 1 := ⟨F - 1, by omega⟩
    have hc : ¬ (60 : Int32) < x := fun z => by rw [hx] at z; have := (gtN 60 60 rfl (by omega) (by omega)).mp z; omega
    have h6 := h.2.2.1.1.1
    have eb : f_X7_firstBelow (XC ad D cA) 300 (Int32.ofInt z) ν = some (encO (T.below z), ν) := c_fbL h.1 h.2.2 hz T.n 0 4096 0 (by omega) (by omega) rfl
    have hlt : ∀ a, T.below z = some a → a < 7 := fun a ha => by have := fbN_lt _ _ ha; omega
    obtain ⟨ν1, e1, h1, -, f1⟩ := c_day (ad := ad) (D := D) (cA := cA) h (by omega)
    unfold f_X2_firstBelow_L10
    simp only [↓ckE, ↓ltE, ↓reduceIte, kC, CK, CP h.1.1.2, Nat.reduceAdd, hc, e1, eb, bdE]
    show ∃ ν', _ = some (encO (match T.below z with | some a => some a | none => ruN z m T.goDay), ν') ∧ _
    cases hq : T.below z with
    | none =>
      rw [if_pos (show encO none = -5 from rfl)]
      obtain ⟨ν', r1, r3⟩ := ih (k + 1) f (x + 1) ν1 T.goDay (by omega) (by omega) (by rw [hx]; exact iN_s) h1 (by rw [St.goDay_day]; omega)
      exact ⟨ν', r1, f1.tr r3⟩
    | some a =>
      have := hlt a hq
      rw [if_neg (show ¬ encO (some a) = -5 from iN_ne (n := a) (by omega) (by decide))]
      exact ⟨ν, rfl, frA.rf⟩
theorem c_enL {a : Nat} {q : Int} {R : Rw} (hq : -2147483648 ≤ q ∧ q < 2147483648) : ∀ (m k F : Nat) (x : Int32) (ν : x_M) (T : St), k + m = 61 → m < F → x = Int32.ofNat k → Later ν T R → a < T.n → T.day + m ≤ 20000 → ∃ ν', f_X2_daysTillEnough_L11 (XC ad D cA) F 2 (Int32.ofNat a) (Int32.ofInt q) x ν = some (ansK (enN a q m k T), ν') ∧ frA askC ν ν' := by
  intro m
  induction m with
  | zero =>
    intro k F x ν T hk hF hx h ha hd
    obtain ⟨f, rfl⟩ : ∃ n, F = n + 1 := ⟨F - 1, by omega⟩
    have hc : (60 : Int32) < x := by rw [hx]; exact (gtN 60 60 rfl (by omega) (by omega)).mpr (by omega)
    unfold f_X2_daysTillEnough_L11
    simp only [↓reduceIte, hc]
    refine ⟨ν, ?_, frA.rf⟩
    show _ = some (ansK k, ν)
    unfold ansK
    rw [if_neg (by omega)]
  | succ m ih =>
    intro k F x ν T hk hF hx h ha hd
    obtain ⟨f, rfl⟩ : ∃ n, F = n + 1 := ⟨F - 1, by omega⟩
    have hc : ¬ (60 : Int32) < x := fun z => by rw [hx] at z; have := (gtN 60 60 rfl (by omega) (by omega)).mp z; omega
    have ed := c_bk (ad := ad) (D := D) (cA := cA) h.1 h.2.2 ha
    have hb := (h.2.2.1.2.1 a ha).2.1
    obtain ⟨ν1, e1, h1, -, f1⟩ := c_day (ad := ad) (D := D) (cA := cA) h (by omega)
    unfold f_X2_daysTillEnough_L11
    simp only [↓ckE, ↓ltE, ↓reduceIte, kC, CK, CP h.1.1.2, Nat.reduceAdd, hc, e1, ed, bdE]
    show ∃ ν', _ = some (ansK (if q ≤ T.bk a then k else enN a q m (k + 1) T.goDay), ν') ∧ _
    by_cases g : q ≤ T.bk a
    · rw [if_pos g, if_neg (fun w => by have := (iI_lt (by omega) hq).mp w; omega)]
      refine ⟨ν, ?_, frA.rf⟩
      unfold ansK
      rw [if_pos (by omega), hx]
    · rw [if_neg g, if_pos ((iI_lt (by omega) hq).mpr (by omega))]
      obtain ⟨ν', r1, r3⟩ := ih (k + 1) f (x + 1) ν1 T.goDay (by omega) (by omega) (by rw [hx]; exact iN_s) h1 ha (by rw [St.goDay_day]; omega)
      exact ⟨ν', r1, f1.tr r3⟩
theorem c_ricL {B : Nat} {S : St} (h : StC μ B S) (hO : Ok S) : ∀ (m k F : Nat) (b : Option Nat) (x y : Int32), k + m = S.n → m < F → x = Int32.ofNat k → y = encO b → (∀ c, b = some c → c < S.n) → f_X7_richestNow_L5 (XC ad D cA) F B y x μ = some (encO (ricN S m k b), μ) := by
  intro m
  have h6 := hO.1.1.1
  obtain ⟨k0, -, -, -, -, -⟩ := kB h.1.1
  have hn : μ.1 B 6 = Int32.ofNat S.n := h.2.2.2.2.2.1.1
  induction m with
  | zero =>
    intro k F b x y hk hF hx hy hb
    obtain ⟨f, rfl⟩ : ∃ n, F = n + 1 := ⟨F - 1, by omega⟩
    have hc : Int32.ofNat S.n ≤ x := by rw [hx]; exact (iN_le (by omega) (by omega)).mpr (by omega)
    unfold f_X7_richestNow_L5
    simp only [↓ckE, ↓reduceIte, kC, k0, Nat.reduceAdd, hn, hc, hy]
    cases b <;> rfl
  | succ m ih =>
    intro k F b x y hk hF hx hy hb
    obtain ⟨f, rfl⟩ : ∃ n, F = n + 1 := ⟨F - 1, by omega⟩
    have hc : ¬ Int32.ofNat S.n ≤ x := fun z => by rw [hx] at z; have := (iN_le (by omega) (by omega)).mp z; omega
    have hbk := (hO.1.2.1 k (by omega)).2.1
    have e1 := c_bk (ad := ad) (D := D) (cA := cA) h hO (a := k) (by omega)
    rw [← hx] at e1
    unfold f_X7_richestNow_L5
    cases b with
    | none =>
      have hy5 : y = -5 := hy
      simp only [↓ckE, ↓reduceIte, kC, k0, Nat.reduceAdd, hn, hc, hy5]
      exact ih (k + 1) f (some k) (x + 1) x (by omega) (by omega) (by rw [hx]; exact iN_s) hx (fun c hc => by cases hc; omega)
    | some c =>
      have hcn := hb c rfl
      have hyc : y = Int32.ofNat c := hy
      have n5 : ¬ y = -5 := by rw [hyc]; exact iN_ne (by omega) (by decide)
      have e2 := c_bk (ad := ad) (D := D) (cA := cA) h hO (a := c) hcn
      rw [← hyc] at e2
      have hbc := (hO.1.2.1 c hcn).2.1
      simp only [↓ckE, ↓reduceIte, kC, k0, Nat.reduceAdd, hn, hc, n5, e1, e2, bdE]
      show _ = some (encO (if S.bk c < S.bk k then ricN S m (k + 1) (some k) else ricN S m (k + 1) (some c)), μ)
      by_cases q : S.bk c < S.bk k
      · rw [if_pos q, if_neg (fun w => by have := (iI_le (by omega) (by omega)).mp w; omega)]
        exact ih (k + 1) f (some k) (x + 1) x (by omega) (by omega) (by rw [hx]; exact iN_s) hx (fun c hc => by cases hc; omega)
      · rw [if_neg q, if_pos ((iI_le (by omega) (by omega)).mpr (by omega))]
        exact ih (k + 1) f (some c) (x + 1) y (by omega) (by omega) (by rw [hx]; exact iN_s) hy hb
end LATER
