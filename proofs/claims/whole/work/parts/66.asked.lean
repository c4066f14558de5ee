/-! ===== calls that ask, in both ===== -/
def Pair (μ ν : x_M) (S : St) (R : Rw) : Prop := NowC μ S R ∧ StR ν S ∧ S.day ≤ 9999
def Same {α : Type} (o1 o2 : Option (α × x_M)) (μ ν : x_M) : Prop := ∃ r μ' ν', o1 = some (r, μ') ∧ o2 = some (r, ν') ∧ frA askC μ μ' ∧ frC askR ν ν'
theorem inN {x : Int32} (a b : Nat) (A B : Int32) (hA : A = Int32.ofNat a) (hB : B = Int32.ofNat b) (hb : b < 2 ^ 31) (hab : a ≤ b) (h : A ≤ x ∧ x ≤ B) : ∃ n, a ≤ n ∧ n ≤ b ∧ x = Int32.ofNat n := by
  subst hA hB
  have h0 : ¬ x < 0 := fun z => by
    have := (Int32.le_iff_toInt_le).mp h.1
    rw [iN_int (by omega)] at this
    have := (Int32.lt_iff_toInt_lt).mp z
    have e : (0 : Int32).toInt = 0 := rfl
    omega
  obtain ⟨j, hj, rfl⟩ := iN_of h0
  exact ⟨j, (iN_le (by omega) hj).mp h.1, (iN_le hj hb).mp h.2, rfl⟩
theorem inI {x : Int32} (a b : Int) (A B : Int32) (hA : A = Int32.ofInt a) (hB : B = Int32.ofInt b) (ha : -2147483648 ≤ a ∧ a < 2147483648) (hb : -2147483648 ≤ b ∧ b < 2147483648) (h : A ≤ x ∧ x ≤ B) : ∃ z, a ≤ z ∧ z ≤ b ∧ x = Int32.ofInt z := by
  subst hA hB
  obtain ⟨z, hz, rfl⟩ := iI_ex x
  exact ⟨z, (iI_le ha hz).mp h.1, (iI_le hz hb).mp h.2, rfl⟩
section ASKED
variable {ad : Nat → Nat} {D : va_G} {cA : Nat → ClassId} {μ ν : x_M} {S : St} {R : Rw}
theorem Pair.P (h : Pair μ ν S R) : Pt μ := h.1.1.1.2
theorem Pair.ok (h : Pair μ ν S R) : Ok S := h.1.2.2.2.1
theorem Pair.n6 (h : Pair μ ν S R) : S.n ≤ 6 := h.ok.1.1.1
theorem c_in {x a b : Int32} : f_X9_within (XC ad D cA) x a b μ = some (if a ≤ x ∧ x ≤ b then 1 else 0, μ) := by
  unfold f_X9_within
  simp only [↓ckE, ↓reduceIte, iE, true_or, or_true]
  by_cases q : x < a
  · rw [if_pos q, if_neg (fun z => absurd q (Int32.not_lt.mpr z.1))]
  · rw [if_neg q]
    by_cases q2 : b < x
    · rw [if_pos q2, if_neg (fun z => absurd q2 (Int32.not_lt.mpr z.2))]
    · rw [if_neg q2, if_pos ⟨Int32.not_lt.mp q, Int32.not_lt.mp q2⟩]
theorem c_part {x : Int32} : f_X9_isPart (XC ad D cA) x μ = some (if (0 : Int32) ≤ x ∧ x ≤ 1 then 1 else 0, μ) := by
  unfold f_X9_isPart
  simp only [↓ckE, ↓reduceIte, iE, true_or, or_true]
  by_cases q : x = 0
  · rw [if_pos q, q, if_pos (by decide)]
  · rw [if_neg q]
    by_cases q1 : x = 1
    · rw [if_pos q1, q1, if_pos (by decide)]
    · rw [if_neg q1, if_neg (fun z => by
        obtain ⟨n, h1, h2, rfl⟩ := inN 0 1 0 1 rfl rfl (by decide) (by decide) z
        have : n = 0 ∨ n = 1 := by omega
        rcases this with rfl | rfl
        · exact q rfl
        · exact q1 rfl)]
theorem Same.of {α : Type} {r : α} {o1 o2 : Option (α × x_M)} {μ' ν' : x_M} (h1 : o1 = some (r, μ')) (h2 : o2 = some (r, ν')) (f : frA askC μ μ') (g : frC askR ν ν') : Same o1 o2 μ ν := ⟨r, μ', ν', h1, h2, f, g⟩
theorem Same.now {α : Type} {r : α} {o1 o2 : Option (α × x_M)} (h1 : o1 = some (r, μ)) (h2 : o2 = some (r, ν)) : Same o1 o2 μ ν := ⟨r, μ, ν, h1, h2, frA.rf, frC.rf⟩
/-- an account's number, or none -/
theorem Pair.acc (h : Pair μ ν S R) (x : Int32) : (∃ a, a < S.n ∧ x = Int32.ofNat a ∧ f_X7_find (XC ad D cA) 100 x μ = some (104 + a, μ) ∧ f_X10_isAccount (XR ad D cA) 600 x ν = some (1, ν)) ∨ ((∀ a, a < S.n → x ≠ Int32.ofNat a) ∧ f_X7_find (XC ad D cA) 100 x μ = some (0, μ) ∧ f_X10_isAccount (XR ad D cA) 600 x ν = some (0, ν)) := by
  have e := r_isAcc (ad := ad) (D := D) (cA := cA) (x := x) h.2.1 h.n6
  by_cases q : ∃ a, a < S.n ∧ x = Int32.ofNat a
  · rw [if_pos q] at e
    obtain ⟨a, ha, rfl⟩ := q
    exact Or.inl ⟨a, ha, rfl, c_find h.1.1 h.ok ha, e⟩
  · rw [if_neg q] at e
    have q' : ∀ a, a < S.n → x ≠ Int32.ofNat a := fun a ha z => q ⟨a, ha, z⟩
    exact Or.inr ⟨q', c_find0 h.1.1 h.ok q', e⟩
theorem p_dry (h : Pair μ ν S R) : Same (f_X9_dry (XC ad D cA) 1 μ) (f_X10_dry (XR ad D cA) 600 ν) μ ν := by
  obtain ⟨μ1, e, l, f⟩ := h.1.begin (ad := ad) (D := D) (cA := cA)
  have hd := h.2.2
  obtain ⟨μ2, e2, f2⟩ := c_dryL (ad := ad) (D := D) (cA := cA) 61 0 4096 0 μ1 S (by omega) (by omega) rfl l (by omega)
  obtain ⟨ν', g1, g2⟩ := r_dry (ad := ad) (D := D) (cA := cA) h.2.1 h.ok (by omega)
  refine ⟨_, μ2, ν', ?_, g1, f.tr f2, g2⟩
  unfold f_X9_dry f_X2_daysTillDry
  simp only [↓ckE, ↓ltE, ↓reduceIte, kC, CK, CP h.P, Nat.reduceAdd, e, e2, bdE]
theorem p_lowest {x : Int32} (h : Pair μ ν S R) : Same (f_X9_lowest (XC ad D cA) 1 x μ) (f_X10_lowest (XR ad D cA) 600 x ν) μ ν := by
  have hd := h.2.2
  unfold f_X9_lowest f_X10_lowest f_X10_isDays
  by_cases q : (0 : Int32) ≤ x ∧ x ≤ 40
  · obtain ⟨n, -, hn, rfl⟩ := inN 0 40 0 40 rfl rfl (by decide) (by decide) q
    obtain ⟨μ1, e, l, f⟩ := h.1.begin (ad := ad) (D := D) (cA := cA)
    have el := l.1.level (ad := ad) (D := D) (cA := cA) l.2.2
    obtain ⟨μ2, e2, f2⟩ := c_lowL (ad := ad) (D := D) (cA := cA) hn n 1 4096 0 S.level 1 0 _ μ1 S (by omega) (by omega) rfl rfl rfl lvl_le l (by omega)
    obtain ⟨ν1, g1, j, b⟩ := r_begin (ad := ad) (D := D) (cA := cA) h.2.1 h.ok
    have gl := (r_lf (ad := ad) (D := D) (cA := cA) j).1
    obtain ⟨ν2, g2, g3⟩ := r_lowL (ad := ad) (D := D) (cA := cA) hn b n 1 4096 0 S.level 1 0 _ ν1 S (by omega) (by omega) rfl rfl rfl lvl_le j (by omega)
    refine Same.of (r := Int32.ofNat (lowN n 1 0 S.level S)) (μ' := μ2) (ν' := ν2) ?_ ?_ (f.tr f2) g3
    · unfold f_X2_daysTillLowest
      simp only [↓ckE, ↓ltE, ↓reduceIte, kC, CK, CP h.P, CP l.1.1.2, Nat.reduceAdd, c_in, q, and_self, iE, e, el, e2, bdE]
    · simp only [↓ckE, ↓ltE, ↓reduceIte, kR, RK, Nat.reduceAdd, r_in, q, and_self, iE, or_true, g1, gl, g2, bdE]
  · refine Same.now (r := -2) ?_ ?_
    · simp only [c_in, q, ↓reduceIte, bdE]
    · simp only [↓ckE, ↓reduceIte, kR, RK, Nat.reduceAdd, r_in, q, bdE, true_or]
theorem p_ruined {x : Int32} (h : Pair μ ν S R) : Same (f_X9_ruined (XC ad D cA) 1 x μ) (f_X10_ruined (XR ad D cA) 600 x ν) μ ν := by
  have hd := h.2.2
  unfold f_X9_ruined f_X10_ruined
  by_cases q : (0 : Int32) ≤ x ∧ x ≤ 999
  · obtain ⟨z, z1, z2, rfl⟩ := inI 0 999 0 999 rfl rfl (by decide) (by decide) q
    obtain ⟨μ1, e, l, f⟩ := h.1.begin (ad := ad) (D := D) (cA := cA)
    obtain ⟨μ2, e2, f2⟩ := c_ruL (ad := ad) (D := D) (cA := cA) (z := -z) (by omega) 61 0 4096 0 μ1 S (by omega) (by omega) rfl l (by omega)
    obtain ⟨ν1, g1, j, b⟩ := r_begin (ad := ad) (D := D) (cA := cA) h.2.1 h.ok
    have h6 := h.n6
    have eb : f_X10_below (XR ad D cA) 600 (Int32.ofInt z) ν1 = some (encO (S.below (-z)), ν1) := r_fbL j.1 j.2.1 (by omega) S.n 0 4096 0 (by omega) (by omega) rfl
    obtain ⟨ν2, g2, g3⟩ := r_ruL (ad := ad) (D := D) (cA := cA) (q := z) (by omega) b 60 0 4096 0 _ ν1 S (by omega) (by omega) rfl rfl j (by omega)
    refine Same.of (r := encO (ruN (-z) 61 S)) (μ' := μ2) (ν' := ν2) ?_ ?_ (f.tr f2) g3
    · unfold f_X2_firstBelow
      simp only [↓ckE, ↓ltE, ↓reduceIte, kC, CK, CP h.P, Nat.reduceAdd, c_in, q, and_self, iE, e, ← Int32.ofInt_neg, e2, bdE]
    · simp only [↓ckE, ↓ltE, ↓reduceIte, kR, RK, Nat.reduceAdd, r_in, q, and_self, iE, g1, eb, g2, bdE]
  · refine Same.now (r := -2) ?_ ?_
    · simp only [c_in, q, ↓reduceIte, bdE]
    · simp only [↓ckE, ↓reduceIte, kR, RK, Nat.reduceAdd, r_in, q, bdE]
theorem p_enough {x y : Int32} (h : Pair μ ν S R) : Same (f_X9_enough (XC ad D cA) 1 x y μ) (f_X10_enough (XR ad D cA) 600 x y ν) μ ν := by
  have hd := h.2.2
  have h6 := h.n6
  unfold f_X9_enough f_X10_enough
  rcases h.acc (ad := ad) (D := D) (cA := cA) x with ⟨a, ha, rfl, k1, k2⟩ | ⟨-, k1, k2⟩
  · have hz : (104 + a = 0) = False := eq_false (by omega)
    by_cases q : (-999 : Int32) ≤ y ∧ y ≤ 999
    · obtain ⟨z, z1, z2, rfl⟩ := inI (-999) 999 (-999) 999 rfl rfl (by decide) (by decide) q
      obtain ⟨μ1, e, l, f⟩ := h.1.begin (ad := ad) (D := D) (cA := cA)
      obtain ⟨μ2, e2, f2⟩ := c_enL (ad := ad) (D := D) (cA := cA) (a := a) (q := z) (by omega) 61 0 4096 0 μ1 S (by omega) (by omega) rfl l ha (by omega)
      obtain ⟨ν1, g1, j, b⟩ := r_begin (ad := ad) (D := D) (cA := cA) h.2.1 h.ok
      obtain ⟨ν2, T, g2, j2, b2⟩ := r_enL (ad := ad) (D := D) (cA := cA) (a := a) (q := z) (K := fun (v16 : Nat) (v17 : Int32) (μ18 : x_M) => (ck (x_kd (XR ad D cA) v16 = 10 + 1) (bd (f_X10_putBack (XR ad D cA) v16 μ18) (fun (_ : Unit) (μ19 : x_M) => (if (61 : Int32) ≤ v17 then (some ((-5 : Int32), μ19)) else (some (v17, μ19))))))) (by omega) 61 0 4096 0 ν1 S (by omega) (by omega) rfl j ha (by omega)
      obtain ⟨ν3, g3, g4⟩ := b ν2 j2.2.2
      refine Same.of (r := ansK (enN a z 61 0 S)) (μ' := μ2) (ν' := ν3) ?_ ?_ (f.tr f2) g4
      · unfold f_X2_daysTillEnough
        simp only [↓ckE, ↓ltE, ↓reduceIte, kC, CK, CP h.P, Nat.reduceAdd, k1, hz, c_in, q, and_self, iE, e, e2, bdE]
      · simp only [↓ckE, ↓ltE, ↓reduceIte, kR, RK, Nat.reduceAdd, k2, r_in, q, and_self, iE, g1, bdE]
        simp only [↓ckE, ↓ltE, ↓reduceIte, kR, RK, Nat.reduceAdd] at g2
        rw [g2]
        simp only [↓ckE, ↓reduceIte, g3, bdE]
        exact ansK_r b2
    · refine Same.now (r := -2) ?_ ?_
      · simp only [↓ckE, ↓ltE, ↓reduceIte, kC, CK, CP h.P, Nat.reduceAdd, k1, hz, c_in, q, bdE]
      · simp only [↓ckE, ↓reduceIte, kR, RK, Nat.reduceAdd, k2, iE, r_in, q, bdE]
  · refine Same.now (r := -1) ?_ ?_
    · simp only [↓ckE, ↓ltE, ↓reduceIte, kC, CK, CP h.P, Nat.reduceAdd, k1, bdE]
    · simp only [↓ckE, ↓reduceIte, kR, RK, Nat.reduceAdd, k2, bdE]
theorem p_richest {x : Int32} (h : Pair μ ν S R) : Same (f_X9_richest (XC ad D cA) 1 x μ) (f_X10_richest (XR ad D cA) 600 x ν) μ ν := by
  have hd := h.2.2
  unfold f_X9_richest f_X10_richest f_X10_isDays
  by_cases q : (0 : Int32) ≤ x ∧ x ≤ 40
  · obtain ⟨n, -, hn, rfl⟩ := inN 0 40 0 40 rfl rfl (by decide) (by decide) q
    obtain ⟨μ1, e, l, f⟩ := h.1.begin (ad := ad) (D := D) (cA := cA)
    obtain ⟨μ2, e2, l2, f2⟩ := c_afterL (ad := ad) (D := D) (cA := cA) (n := n) (by omega) n 0 4096 0 μ1 S (by omega) (by omega) rfl l (by omega)
    have h6 := l2.2.2.1.1.1
    have er : f_X7_richestNow (XC ad D cA) 300 μ2 = some (encO (ricN (S.goN n) (S.goN n).n 0 none), μ2) := c_ricL l2.1 l2.2.2 _ 0 4096 none 0 (-5) (by omega) (by omega) rfl rfl (fun c hc => by cases hc)
    obtain ⟨ν1, g1, j, b⟩ := r_begin (ad := ad) (D := D) (cA := cA) h.2.1 h.ok
    obtain ⟨ν2, g2, j2⟩ := r_goDays (ad := ad) (D := D) (cA := cA) hn j (by omega)
    obtain ⟨ν3, g3, g4⟩ := r_ricL (ad := ad) (D := D) (cA := cA) b j2 (S.goN n).n 0 4096 none 0 (-5) (by omega) (by omega) rfl rfl (fun c hc => by cases hc)
    refine Same.of (r := encO (ricN (S.goN n) (S.goN n).n 0 none)) (μ' := μ2) (ν' := ν3) ?_ ?_ (f.tr f2) g4
    · unfold f_X2_after
      simp only [↓ckE, ↓ltE, ↓reduceIte, kC, CK, CP h.P, Nat.reduceAdd, c_in, q, and_self, iE, e, e2, er, bdE]
    · simp only [↓ckE, ↓ltE, ↓reduceIte, kR, RK, Nat.reduceAdd, r_in, q, and_self, iE, or_true, g1, g2, g3, bdE]
  · refine Same.now (r := -2) ?_ ?_
    · simp only [c_in, q, ↓reduceIte, bdE]
    · simp only [↓ckE, ↓reduceIte, kR, RK, Nat.reduceAdd, r_in, q, bdE, true_or]
theorem p_mean {x y : Int32} (h : Pair μ ν S R) : Same (f_X9_mean (XC ad D cA) 1 x y μ) (f_X10_mean (XR ad D cA) 600 x y ν) μ ν := by
  have hd := h.2.2
  unfold f_X9_mean f_X10_mean
  by_cases q : (1 : Int32) ≤ x ∧ x ≤ 40
  · by_cases q2 : (0 : Int32) ≤ y ∧ y ≤ 1
    · obtain ⟨n, hn1, hn, rfl⟩ := inN 1 40 1 40 rfl rfl (by decide) (by decide) q
      obtain ⟨p, -, hp, rfl⟩ := inN 0 1 0 1 rfl rfl (by decide) (by decide) q2
      obtain ⟨μ1, e, l, f⟩ := h.1.begin (ad := ad) (D := D) (cA := cA)
      obtain ⟨μ2, e2, f2⟩ := c_meanL (ad := ad) (D := D) (cA := cA) (n := n) (p := p) ⟨hn1, hn⟩ hp n 0 4096 0 0 μ1 S (by omega) (by omega) rfl l (by omega) (by omega)
      obtain ⟨ν1, g1, j, b⟩ := r_begin (ad := ad) (D := D) (cA := cA) h.2.1 h.ok
      obtain ⟨ν2, T, g2, j2⟩ := r_meanL (ad := ad) (D := D) (cA := cA) (n := n) (y := Int32.ofNat p) (K := fun (v19 : Nat) (v20 : Int32) (v21 : Int32) (v22 : Int32) (μ23 : x_M) => (ck (x_kd (XR ad D cA) v19 = 10 + 1) (bd (f_X10_putBack (XR ad D cA) v19 μ23) (fun (_ : Unit) (μ24 : x_M) => (ck (x_kd (XR ad D cA) v19 = 10 + 1) (bd (f_X10_lowestTerms (XR ad D cA) v19 v22 v20 v21 μ24) (fun (v25 : Int64) (μ26 : x_M) => (some (v25, μ26))))))))) hn n 0 4096 0 0 ν1 S (by omega) (by omega) rfl j (by omega)
      obtain ⟨ν3, g3, g4⟩ := b ν2 j2.2.2
      have bl := lvN_le n S
      have eL := r_low (ad := ad) (D := D) (cA := cA) (μ := ν3) (a := 0 + lvN n S) (b := n) (p := p) (by omega) (by omega) (by omega) hp
      refine Same.of (r := lowT p (0 + lvN n S) n) (μ' := μ2) (ν' := ν3) ?_ ?_ (f.tr f2) g4
      · unfold f_X2_meanLevel
        simp only [↓ckE, ↓ltE, ↓reduceIte, kC, CK, CP h.P, Nat.reduceAdd, c_in, c_part, q, q2, and_self, iE, e, bdE]
        rw [show (0 : Int64) = Int64.ofNat 0 from rfl, show (0 : Int32) = Int32.ofNat 0 from rfl] at *
        rw [e2, bdE]
      · simp only [↓ckE, ↓ltE, ↓reduceIte, kR, RK, Nat.reduceAdd, r_in, q, q2, and_self, iE, g1, bdE]
        simp only [↓ckE, ↓ltE, ↓reduceIte, kR, RK, Nat.reduceAdd] at g2
        rw [show (0 : Int32) = Int32.ofNat 0 from rfl] at *
        rw [g2]
        simp only [↓ckE, ↓reduceIte, g3, eL, bdE]
    · refine Same.now (r := -9223372036854775808) ?_ ?_
      · simp only [↓reduceIte, c_in, c_part, q, q2, and_self, iE, bdE]
      · simp only [↓ckE, ↓reduceIte, kR, RK, Nat.reduceAdd, r_in, q, q2, and_self, iE, bdE]
  · refine Same.now (r := -9223372036854775808) ?_ ?_
    · simp only [c_in, q, ↓reduceIte, bdE]
    · simp only [↓ckE, ↓reduceIte, kR, RK, Nat.reduceAdd, r_in, q, bdE]
theorem p_share {x y w : Int32} (h : Pair μ ν S R) : Same (f_X9_share (XC ad D cA) 1 x y w μ) (f_X10_share (XR ad D cA) 600 x y w ν) μ ν := by
  have hd := h.2.2
  have h6 := h.n6
  unfold f_X9_share f_X10_share
  rcases h.acc (ad := ad) (D := D) (cA := cA) x with ⟨a, ha, rfl, k1, k2⟩ | ⟨-, k1, k2⟩
  · have hz : (104 + a = 0) = False := eq_false (by omega)
    by_cases q : (1 : Int32) ≤ y ∧ y ≤ 40
    · by_cases q2 : (0 : Int32) ≤ w ∧ w ≤ 1
      · obtain ⟨n, hn1, hn, rfl⟩ := inN 1 40 1 40 rfl rfl (by decide) (by decide) q
        obtain ⟨p, -, hp, rfl⟩ := inN 0 1 0 1 rfl rfl (by decide) (by decide) q2
        obtain ⟨μ1, e, l, f⟩ := h.1.begin (ad := ad) (D := D) (cA := cA)
        have ef := c_find (ad := ad) (D := D) (cA := cA) l.1 l.2.2 ha
        obtain ⟨μ2, e2, f2⟩ := c_shL (ad := ad) (D := D) (cA := cA) (n := n) (a := a) (p := p) hn hp n 0 4096 0 0 0 μ1 S (by omega) (by omega) rfl l ha (by omega) (by omega) (by omega)
        obtain ⟨ν1, g1, j, b⟩ := r_begin (ad := ad) (D := D) (cA := cA) h.2.1 h.ok
        obtain ⟨ν2, T, g2, j2⟩ := r_shL (ad := ad) (D := D) (cA := cA) (n := n) (a := a) (y := Int32.ofNat p) (K := fun (v44 : Nat) (v45 : Int32) (v46 : Int32) (v47 : Int32) (μ48 : x_M) => (ck (x_kd (XR ad D cA) v44 = 10 + 1) (bd (f_X10_putBack (XR ad D cA) v44 μ48) (fun (_ : Unit) (μ49 : x_M) => (if v47 = 0 then (some ((-9223372036854775808 : Int64), μ49)) else (ck (x_kd (XR ad D cA) v44 = 10 + 1) (bd (f_X10_lowestTerms (XR ad D cA) v44 v46 v47 v45 μ49) (fun (v50 : Int64) (μ51 : x_M) => (some (v50, μ51)))))))))) hn n 0 4096 0 0 0 ν1 S (by omega) (by omega) rfl j ha (by omega)
        obtain ⟨ν3, g3, g4⟩ := b ν2 j2.2.2
        have bl := shN_le a n S h.2.1.2.2.2.2.2.1.1 h6
        refine Same.of (r := lowT p (0 + (shN a n S).1) (0 + (shN a n S).2)) (μ' := μ2) (ν' := ν3) ?_ ?_ (f.tr f2) g4
        · unfold f_X2_sunShare
          simp only [↓ckE, ↓ltE, ↓reduceIte, kC, CK, CP h.P, CP l.1.1.2, Nat.reduceAdd, k1, hz, c_in, c_part, q, q2, and_self, iE, e, ef, bdE]
          rw [show (0 : Int64) = Int64.ofNat 0 from rfl, show (0 : Int32) = Int32.ofNat 0 from rfl] at *
          rw [e2, bdE]
        · simp only [↓ckE, ↓ltE, ↓reduceIte, kR, RK, Nat.reduceAdd, k2, r_in, q, q2, and_self, iE, g1, bdE]
          simp only [↓ckE, ↓ltE, ↓reduceIte, kR, RK, Nat.reduceAdd] at g2
          rw [show (0 : Int32) = Int32.ofNat 0 from rfl] at *
          rw [g2]
          simp only [↓ckE, ↓reduceIte, g3, bdE]
          by_cases z : 0 + (shN a n S).2 = 0
          · rw [if_pos (show Int32.ofNat (0 + (shN a n S).2) = Int32.ofNat 0 by rw [z])]
            unfold lowT
            rw [if_pos z]
          · rw [if_neg (fun w => z ((iN_inj (by omega) (by decide)).mp w)), r_low (by omega) (by omega) z hp, bdE]
      · refine Same.now (r := -9223372036854775808) ?_ ?_
        · simp only [↓ckE, ↓ltE, ↓reduceIte, kC, CK, CP h.P, Nat.reduceAdd, k1, hz, c_in, c_part, q, q2, and_self, iE, bdE]
        · simp only [↓ckE, ↓reduceIte, kR, RK, Nat.reduceAdd, k2, r_in, q, q2, and_self, iE, bdE]
    · refine Same.now (r := -9223372036854775808) ?_ ?_
      · simp only [↓ckE, ↓ltE, ↓reduceIte, kC, CK, CP h.P, Nat.reduceAdd, k1, hz, c_in, q, bdE]
      · simp only [↓ckE, ↓reduceIte, kR, RK, Nat.reduceAdd, k2, iE, r_in, q, bdE]
  · refine Same.now (r := -9223372036854775808) ?_ ?_
    · simp only [↓ckE, ↓ltE, ↓reduceIte, kC, CK, CP h.P, Nat.reduceAdd, k1, bdE]
    · simp only [↓ckE, ↓reduceIte, kR, RK, Nat.reduceAdd, k2, bdE]
end ASKED
