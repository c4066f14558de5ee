/-! ===== the loop of the law, as a function over the two memories, comes to its end ===== -/
theorem sw_k {x v : Int32} {vs : List Int32} {k d : Option (Unit × x_M2)} {ks : List (Option (Unit × x_M2))} (h1 : ∃ m, k = some ((), m)) (h2 : ∃ m, x_swo vs ks d x = some ((), m)) : ∃ m, x_swo (v :: vs) (k :: ks) d x = some ((), m) := by
  rw [swE]
  by_cases q : x = v
  · rw [if_pos q]; exact h1
  · rw [if_neg q]; exact h2
theorem sw_z {x : Int32} {d : Option (Unit × x_M2)} (h : ∃ m, d = some ((), m)) : ∃ m, x_swo [] [] d x = some ((), m) := by
  rw [sw_n]; exact h
theorem lgc (v : Int64) : lg_cmp v v = 0 := by
  unfold lg_cmp
  have h : ¬ v < v := by intro z; exact absurd (Int64.lt_iff_toInt_lt.mp z) (by omega)
  simp only [h, ↓reduceIte]
section BLAW
variable {ad : Nat → Nat} {D : va_G} {cA : Nat → ClassId} {μ ν : x_M} {L n : Nat} {xs : Nat → Int32} {x : Int32}
theorem q_dry (h : Rel μ ν) : SameR (f_X9_dry (XC ad D cA) 1 μ) (f_X10_dry (XR ad D cA) 600 ν) := by
  obtain ⟨S, R1, R2, R3, ⟨hp, -⟩, -, -, -⟩ := id h
  exact Same.R h (p_dry hp)
theorem q_lowest {x : Int32} (h : Rel μ ν) : SameR (f_X9_lowest (XC ad D cA) 1 x μ) (f_X10_lowest (XR ad D cA) 600 x ν) := by
  obtain ⟨S, R1, R2, R3, ⟨hp, -⟩, -, -, -⟩ := id h
  exact Same.R h (p_lowest hp)
theorem q_ruined {x : Int32} (h : Rel μ ν) : SameR (f_X9_ruined (XC ad D cA) 1 x μ) (f_X10_ruined (XR ad D cA) 600 x ν) := by
  obtain ⟨S, R1, R2, R3, ⟨hp, -⟩, -, -, -⟩ := id h
  exact Same.R h (p_ruined hp)
theorem q_enough {x y : Int32} (h : Rel μ ν) : SameR (f_X9_enough (XC ad D cA) 1 x y μ) (f_X10_enough (XR ad D cA) 600 x y ν) := by
  obtain ⟨S, R1, R2, R3, ⟨hp, -⟩, -, -, -⟩ := id h
  exact Same.R h (p_enough hp)
theorem q_richest {x : Int32} (h : Rel μ ν) : SameR (f_X9_richest (XC ad D cA) 1 x μ) (f_X10_richest (XR ad D cA) 600 x ν) := by
  obtain ⟨S, R1, R2, R3, ⟨hp, -⟩, -, -, -⟩ := id h
  exact Same.R h (p_richest hp)
theorem q_mean {x y : Int32} (h : Rel μ ν) : SameR (f_X9_mean (XC ad D cA) 1 x y μ) (f_X10_mean (XR ad D cA) 600 x y ν) := by
  obtain ⟨S, R1, R2, R3, ⟨hp, -⟩, -, -, -⟩ := id h
  exact Same.R h (p_mean hp)
theorem q_share {x y w : Int32} (h : Rel μ ν) : SameR (f_X9_share (XC ad D cA) 1 x y w μ) (f_X10_share (XR ad D cA) 600 x y w ν) := by
  obtain ⟨S, R1, R2, R3, ⟨hp, -⟩, -, -, -⟩ := id h
  exact Same.R h (p_share hp)
theorem q_on {x y : Int32} (h : Rel μ ν) : SameR (f_X9_on (XC ad D cA) 1 x y μ) (f_X10_on (XR ad D cA) 600 x y ν) := by
  obtain ⟨S, R1, R2, R3, ⟨hp, -⟩, -, -, -⟩ := id h
  exact Same.R h (p_on hp)
theorem q_wells {x : Int32} (h : Rel μ ν) : SameR (f_X9_wells (XC ad D cA) 1 x μ) (f_X10_wells (XR ad D cA) 600 x ν) := by
  obtain ⟨S, R1, R2, R3, ⟨hp, -⟩, -, -, -⟩ := id h
  exact Same.R h (p_wells hp)
theorem q_odds {x y : Int32} (h : Rel μ ν) : SameR (f_X9_odds (XC ad D cA) 1 x y μ) (f_X10_odds (XR ad D cA) 600 x y ν) := by
  obtain ⟨S, R1, R2, R3, ⟨hp, -⟩, -, -, -⟩ := id h
  exact Same.R h (p_odds hp)
theorem q_told {x : Int32} (h : Rel μ ν) : SameR (f_X9_told (XC ad D cA) 1 x μ) (f_X10_told (XR ad D cA) 600 x ν) := by
  obtain ⟨S, R1, R2, R3, ⟨hp, -⟩, -, -, -⟩ := id h
  exact Same.R h (p_told hp)
theorem q_of {x y : Int32} (h : Rel μ ν) : SameR (f_X9_of (XC ad D cA) 1 x y μ) (f_X10_of (XR ad D cA) 600 x y ν) := by
  obtain ⟨S, R1, R2, R3, ⟨hp, -⟩, -, -, -⟩ := id h
  exact Same.R h (p_of hp)
theorem q_volume {x : Int32} (h : Rel μ ν) : SameR (f_X9_volume (XC ad D cA) 1 x μ) (f_X10_volume (XR ad D cA) 600 x ν) := by
  obtain ⟨S, R1, R2, R3, ⟨hp, -⟩, -, -, -⟩ := id h
  exact Same.R h (p_volume hp)
theorem q_lifted (h : Rel μ ν) : SameR (f_X9_lifted (XC ad D cA) 1 μ) (f_X10_lifted (XR ad D cA) 600 ν) := by
  obtain ⟨S, R1, R2, R3, ⟨hp, -⟩, -, -, -⟩ := id h
  exact Same.R h (p_lifted hp)
theorem q_may {x y : Int32} (h : Rel μ ν) : SameR (f_X9_may (XC ad D cA) 1 x y μ) (f_X10_may (XR ad D cA) 600 x y ν) := by
  obtain ⟨S, R1, R2, R3, ⟨hp, -⟩, -, -, -⟩ := id h
  exact Same.R h (p_may hp)
theorem q_without {x y : Int32} (h : Rel μ ν) : SameR (f_X9_without (XC ad D cA) 1 x y μ) (f_X10_without (XR ad D cA) 600 x y ν) := by
  obtain ⟨S, R1, R2, R3, ⟨hp, h30⟩, -, -, -⟩ := id h
  exact Same.R h (p_without hp h30)
theorem q_hidden {x y : Int32} (h : Rel μ ν) : SameR (f_X9_hidden (XC ad D cA) 1 x y μ) (f_X10_hidden (XR ad D cA) 600 x y ν) := by
  obtain ⟨S, R1, R2, R3, ⟨hp, h30⟩, ⟨-, hR, -⟩, hg, -⟩ := id h
  exact Same.R h (p_hidden hp hg.2.2.2.1 hR)
theorem q_whose (h : Rel μ ν) : SameR (f_X9_whose (XC ad D cA) 1 μ) (f_X10_whose (XR ad D cA) 600 ν) := by
  obtain ⟨S, R1, R2, R3, ⟨hp, h30⟩, ⟨-, hR, -⟩, hg, -⟩ := id h
  exact Same.R h (p_whose hp h30 hg.2.2.2.1 hR)
theorem q_planned {x : Int32} (h : Rel μ ν) : SameR (f_X9_planned (XC ad D cA) 1 x μ) (f_X10_planned (XR ad D cA) 600 x ν) := by
  obtain ⟨S, R1, R2, R3, ⟨hp, h30⟩, ⟨⟨hC, -⟩, -, hR, -⟩, hg, -⟩ := id h
  exact Same.R h (p_planned hp hg.2.2.2.2.1 hC hR)
theorem law_st (hc : ¬ nI L - 6 < x) (i0 : x_ix x L) (i1 : x_ix (x + 1) L) (i2 : x_ix (x + 2) L) (i3 : x_ix (x + 3) L) (i4 : x_ix (x + 4) L) (i5 : x_ix (x + 5) L) (h : Rel μ ν) (ih : ∀ μ' ν', Rel μ' ν' → ∃ m : x_M2, f_L_law_L18 (XC ad D cA) (XR ad D cA) L xs n 9 1 600 (x + 6) (μ', ν') = some ((), m)) : ∃ m : x_M2, f_L_law_L18 (XC ad D cA) (XR ad D cA) L xs (n + 1) 9 1 600 x (μ, ν) = some ((), m) := by
  have k1 : x_kdC 1 = 9 + 1 := CK.1
  have k6 : x_kdR 600 = 10 + 1 := RK.1
  generalize hK : f_L_law_L18 (XC ad D cA) (XR ad D cA) L xs n 9 1 600 (x + 6) = K at ih
  unfold f_L_law_L18
  rw [ck_t rfl, if_neg hc, ck_t ⟨rfl, i0⟩, lt_v, hK]
  refine sw_k ?_ ?_
  · obtain ⟨r, μ', ν', e1, e2, h'⟩ := q_area (ad := ad) (D := D) (cA := cA) (x := xs (x + 1).toNatClampNeg) (y := xs (x + 2).toNatClampNeg) h
    simp only [↓ckE, ↓ltE, ↓reduceIte, true_and, ↓ixT i1, ↓ixT i2, ↓ixT i3, ↓ixT i4, ↓ixT i5, kC, kR, k1, k6, e1, bdE, e2, lgc]
    exact ih _ _ h'
  refine sw_k ?_ ?_
  · obtain ⟨r, μ', ν', e1, e2, h'⟩ := q_volume (ad := ad) (D := D) (cA := cA) (x := xs (x + 1).toNatClampNeg) h
    simp only [↓ckE, ↓ltE, ↓reduceIte, true_and, ↓ixT i1, ↓ixT i2, ↓ixT i3, ↓ixT i4, ↓ixT i5, kC, kR, k1, k6, e1, bdE, e2, lgc]
    exact ih _ _ h'
  refine sw_k ?_ ?_
  · obtain ⟨r, μ', ν', e1, e2, h'⟩ := q_account (ad := ad) (D := D) (cA := cA) (x := xs (x + 1).toNatClampNeg) (y := xs (x + 2).toNatClampNeg) (w := xs (x + 3).toNatClampNeg) h
    simp only [↓ckE, ↓ltE, ↓reduceIte, true_and, ↓ixT i1, ↓ixT i2, ↓ixT i3, ↓ixT i4, ↓ixT i5, kC, kR, k1, k6, e1, bdE, e2, lgc]
    exact ih _ _ h'
  refine sw_k ?_ ?_
  · obtain ⟨r, μ', ν', e1, e2, h'⟩ := q_of (ad := ad) (D := D) (cA := cA) (x := xs (x + 1).toNatClampNeg) (y := xs (x + 2).toNatClampNeg) h
    simp only [↓ckE, ↓ltE, ↓reduceIte, true_and, ↓ixT i1, ↓ixT i2, ↓ixT i3, ↓ixT i4, ↓ixT i5, kC, kR, k1, k6, e1, bdE, e2, lgc]
    exact ih _ _ h'
  refine sw_k ?_ ?_
  · obtain ⟨r, μ', ν', e1, e2, h'⟩ := q_set (ad := ad) (D := D) (cA := cA) (x := xs (x + 1).toNatClampNeg) (y := xs (x + 2).toNatClampNeg) (w := xs (x + 3).toNatClampNeg) h
    simp only [↓ckE, ↓ltE, ↓reduceIte, true_and, ↓ixT i1, ↓ixT i2, ↓ixT i3, ↓ixT i4, ↓ixT i5, kC, kR, k1, k6, e1, bdE, e2, lgc]
    exact ih _ _ h'
  refine sw_k ?_ ?_
  · obtain ⟨r, μ', ν', e1, e2, h'⟩ := q_row (ad := ad) (D := D) (cA := cA) (x := xs (x + 1).toNatClampNeg) (y := xs (x + 2).toNatClampNeg) (w := xs (x + 3).toNatClampNeg) h
    simp only [↓ckE, ↓ltE, ↓reduceIte, true_and, ↓ixT i1, ↓ixT i2, ↓ixT i3, ↓ixT i4, ↓ixT i5, kC, kR, k1, k6, e1, bdE, e2, lgc]
    exact ih _ _ h'
  refine sw_k ?_ ?_
  · obtain ⟨r, μ', ν', e1, e2, h'⟩ := q_water (ad := ad) (D := D) (cA := cA) (x := xs (x + 1).toNatClampNeg) h
    simp only [↓ckE, ↓ltE, ↓reduceIte, true_and, ↓ixT i1, ↓ixT i2, ↓ixT i3, ↓ixT i4, ↓ixT i5, kC, kR, k1, k6, e1, bdE, e2, lgc]
    exact ih _ _ h'
  refine sw_k ?_ ?_
  · obtain ⟨r, μ', ν', e1, e2, h'⟩ := q_feed (ad := ad) (D := D) (cA := cA) (x := xs (x + 1).toNatClampNeg) h
    simp only [↓ckE, ↓ltE, ↓reduceIte, true_and, ↓ixT i1, ↓ixT i2, ↓ixT i3, ↓ixT i4, ↓ixT i5, kC, kR, k1, k6, e1, bdE, e2, lgc]
    exact ih _ _ h'
  refine sw_k ?_ ?_
  · obtain ⟨r, μ', ν', e1, e2, h'⟩ := q_law (ad := ad) (D := D) (cA := cA) h
    simp only [↓ckE, ↓ltE, ↓reduceIte, true_and, ↓ixT i1, ↓ixT i2, ↓ixT i3, ↓ixT i4, ↓ixT i5, kC, kR, k1, k6, e1, bdE, e2, lgc]
    exact ih _ _ h'
  refine sw_k ?_ ?_
  · obtain ⟨r, μ', ν', e1, e2, h'⟩ := q_told (ad := ad) (D := D) (cA := cA) (x := xs (x + 1).toNatClampNeg) h
    simp only [↓ckE, ↓ltE, ↓reduceIte, true_and, ↓ixT i1, ↓ixT i2, ↓ixT i3, ↓ixT i4, ↓ixT i5, kC, kR, k1, k6, e1, bdE, e2, lgc]
    exact ih _ _ h'
  refine sw_k ?_ ?_
  · obtain ⟨r, μ', ν', e1, e2, h'⟩ := q_day (ad := ad) (D := D) (cA := cA) h
    simp only [↓ckE, ↓ltE, ↓reduceIte, true_and, ↓ixT i1, ↓ixT i2, ↓ixT i3, ↓ixT i4, ↓ixT i5, kC, kR, k1, k6, e1, bdE, e2, lgc]
    exact ih _ _ h'
  refine sw_k ?_ ?_
  · obtain ⟨r, μ', ν', e1, e2, h'⟩ := q_on (ad := ad) (D := D) (cA := cA) (x := xs (x + 1).toNatClampNeg) (y := xs (x + 2).toNatClampNeg) h
    simp only [↓ckE, ↓ltE, ↓reduceIte, true_and, ↓ixT i1, ↓ixT i2, ↓ixT i3, ↓ixT i4, ↓ixT i5, kC, kR, k1, k6, e1, bdE, e2, lgc]
    exact ih _ _ h'
  refine sw_k ?_ ?_
  · obtain ⟨r, μ', ν', e1, e2, h'⟩ := q_dry (ad := ad) (D := D) (cA := cA) h
    simp only [↓ckE, ↓ltE, ↓reduceIte, true_and, ↓ixT i1, ↓ixT i2, ↓ixT i3, ↓ixT i4, ↓ixT i5, kC, kR, k1, k6, e1, bdE, e2, lgc]
    exact ih _ _ h'
  refine sw_k ?_ ?_
  · obtain ⟨r, μ', ν', e1, e2, h'⟩ := q_lowest (ad := ad) (D := D) (cA := cA) (x := xs (x + 1).toNatClampNeg) h
    simp only [↓ckE, ↓ltE, ↓reduceIte, true_and, ↓ixT i1, ↓ixT i2, ↓ixT i3, ↓ixT i4, ↓ixT i5, kC, kR, k1, k6, e1, bdE, e2, lgc]
    exact ih _ _ h'
  refine sw_k ?_ ?_
  · obtain ⟨r, μ', ν', e1, e2, h'⟩ := q_ruined (ad := ad) (D := D) (cA := cA) (x := xs (x + 1).toNatClampNeg) h
    simp only [↓ckE, ↓ltE, ↓reduceIte, true_and, ↓ixT i1, ↓ixT i2, ↓ixT i3, ↓ixT i4, ↓ixT i5, kC, kR, k1, k6, e1, bdE, e2, lgc]
    exact ih _ _ h'
  refine sw_k ?_ ?_
  · obtain ⟨r, μ', ν', e1, e2, h'⟩ := q_may (ad := ad) (D := D) (cA := cA) (x := xs (x + 1).toNatClampNeg) (y := xs (x + 2).toNatClampNeg) h
    simp only [↓ckE, ↓ltE, ↓reduceIte, true_and, ↓ixT i1, ↓ixT i2, ↓ixT i3, ↓ixT i4, ↓ixT i5, kC, kR, k1, k6, e1, bdE, e2, lgc]
    exact ih _ _ h'
  refine sw_k ?_ ?_
  · obtain ⟨r, μ', ν', e1, e2, h'⟩ := q_enough (ad := ad) (D := D) (cA := cA) (x := xs (x + 1).toNatClampNeg) (y := xs (x + 2).toNatClampNeg) h
    simp only [↓ckE, ↓ltE, ↓reduceIte, true_and, ↓ixT i1, ↓ixT i2, ↓ixT i3, ↓ixT i4, ↓ixT i5, kC, kR, k1, k6, e1, bdE, e2, lgc]
    exact ih _ _ h'
  refine sw_k ?_ ?_
  · obtain ⟨r, μ', ν', e1, e2, h'⟩ := q_lifted (ad := ad) (D := D) (cA := cA) h
    simp only [↓ckE, ↓ltE, ↓reduceIte, true_and, ↓ixT i1, ↓ixT i2, ↓ixT i3, ↓ixT i4, ↓ixT i5, kC, kR, k1, k6, e1, bdE, e2, lgc]
    exact ih _ _ h'
  refine sw_k ?_ ?_
  · obtain ⟨r, μ', ν', e1, e2, h'⟩ := q_without (ad := ad) (D := D) (cA := cA) (x := xs (x + 1).toNatClampNeg) (y := xs (x + 2).toNatClampNeg) h
    simp only [↓ckE, ↓ltE, ↓reduceIte, true_and, ↓ixT i1, ↓ixT i2, ↓ixT i3, ↓ixT i4, ↓ixT i5, kC, kR, k1, k6, e1, bdE, e2, lgc]
    exact ih _ _ h'
  refine sw_k ?_ ?_
  · obtain ⟨r, μ', ν', e1, e2, h'⟩ := q_wells (ad := ad) (D := D) (cA := cA) (x := xs (x + 1).toNatClampNeg) h
    simp only [↓ckE, ↓ltE, ↓reduceIte, true_and, ↓ixT i1, ↓ixT i2, ↓ixT i3, ↓ixT i4, ↓ixT i5, kC, kR, k1, k6, e1, bdE, e2, lgc]
    exact ih _ _ h'
  refine sw_k ?_ ?_
  · obtain ⟨r, μ', ν', e1, e2, h'⟩ := q_share (ad := ad) (D := D) (cA := cA) (x := xs (x + 1).toNatClampNeg) (y := xs (x + 2).toNatClampNeg) (w := xs (x + 3).toNatClampNeg) h
    simp only [↓ckE, ↓ltE, ↓reduceIte, true_and, ↓ixT i1, ↓ixT i2, ↓ixT i3, ↓ixT i4, ↓ixT i5, kC, kR, k1, k6, e1, bdE, e2, lgc]
    exact ih _ _ h'
  refine sw_k ?_ ?_
  · obtain ⟨r, μ', ν', e1, e2, h'⟩ := q_richest (ad := ad) (D := D) (cA := cA) (x := xs (x + 1).toNatClampNeg) h
    simp only [↓ckE, ↓ltE, ↓reduceIte, true_and, ↓ixT i1, ↓ixT i2, ↓ixT i3, ↓ixT i4, ↓ixT i5, kC, kR, k1, k6, e1, bdE, e2, lgc]
    exact ih _ _ h'
  refine sw_k ?_ ?_
  · obtain ⟨r, μ', ν', e1, e2, h'⟩ := q_see (ad := ad) (D := D) (cA := cA) (x := xs (x + 1).toNatClampNeg) (y := xs (x + 2).toNatClampNeg) h
    simp only [↓ckE, ↓ltE, ↓reduceIte, true_and, ↓ixT i1, ↓ixT i2, ↓ixT i3, ↓ixT i4, ↓ixT i5, kC, kR, k1, k6, e1, bdE, e2, lgc]
    exact ih _ _ h'
  refine sw_k ?_ ?_
  · obtain ⟨r, μ', ν', e1, e2, h'⟩ := q_hidden (ad := ad) (D := D) (cA := cA) (x := xs (x + 1).toNatClampNeg) (y := xs (x + 2).toNatClampNeg) h
    simp only [↓ckE, ↓ltE, ↓reduceIte, true_and, ↓ixT i1, ↓ixT i2, ↓ixT i3, ↓ixT i4, ↓ixT i5, kC, kR, k1, k6, e1, bdE, e2, lgc]
    exact ih _ _ h'
  refine sw_k ?_ ?_
  · obtain ⟨r, μ', ν', e1, e2, h'⟩ := q_whose (ad := ad) (D := D) (cA := cA) h
    simp only [↓ckE, ↓ltE, ↓reduceIte, true_and, ↓ixT i1, ↓ixT i2, ↓ixT i3, ↓ixT i4, ↓ixT i5, kC, kR, k1, k6, e1, bdE, e2, lgc]
    exact ih _ _ h'
  refine sw_k ?_ ?_
  · obtain ⟨r, μ', ν', e1, e2, h'⟩ := q_odds (ad := ad) (D := D) (cA := cA) (x := xs (x + 1).toNatClampNeg) (y := xs (x + 2).toNatClampNeg) h
    simp only [↓ckE, ↓ltE, ↓reduceIte, true_and, ↓ixT i1, ↓ixT i2, ↓ixT i3, ↓ixT i4, ↓ixT i5, kC, kR, k1, k6, e1, bdE, e2, lgc]
    exact ih _ _ h'
  refine sw_k ?_ ?_
  · obtain ⟨r, μ', ν', e1, e2, h'⟩ := q_mean (ad := ad) (D := D) (cA := cA) (x := xs (x + 1).toNatClampNeg) (y := xs (x + 2).toNatClampNeg) h
    simp only [↓ckE, ↓ltE, ↓reduceIte, true_and, ↓ixT i1, ↓ixT i2, ↓ixT i3, ↓ixT i4, ↓ixT i5, kC, kR, k1, k6, e1, bdE, e2, lgc]
    exact ih _ _ h'
  refine sw_k ?_ ?_
  · obtain ⟨r, μ', ν', e1, e2, h'⟩ := q_plan (ad := ad) (D := D) (cA := cA) (x := xs (x + 1).toNatClampNeg) (y := xs (x + 2).toNatClampNeg) h
    simp only [↓ckE, ↓ltE, ↓reduceIte, true_and, ↓ixT i1, ↓ixT i2, ↓ixT i3, ↓ixT i4, ↓ixT i5, kC, kR, k1, k6, e1, bdE, e2, lgc]
    exact ih _ _ h'
  refine sw_k ?_ ?_
  · obtain ⟨r, μ', ν', e1, e2, h'⟩ := q_planned (ad := ad) (D := D) (cA := cA) (x := xs (x + 1).toNatClampNeg) h
    simp only [↓ckE, ↓ltE, ↓reduceIte, true_and, ↓ixT i1, ↓ixT i2, ↓ixT i3, ↓ixT i4, ↓ixT i5, kC, kR, k1, k6, e1, bdE, e2, lgc]
    exact ih _ _ h'
  refine sw_k ?_ ?_
  · obtain ⟨r, μ', ν', e1, e2, h'⟩ := q_book (ad := ad) (D := D) (cA := cA) (x := xs (x + 1).toNatClampNeg) (y := xs (x + 2).toNatClampNeg) h
    simp only [↓ckE, ↓ltE, ↓reduceIte, true_and, ↓ixT i1, ↓ixT i2, ↓ixT i3, ↓ixT i4, ↓ixT i5, kC, kR, k1, k6, e1, bdE, e2, lgc]
    exact ih _ _ h'
  refine sw_k ?_ ?_
  · obtain ⟨r, μ', ν', e1, e2, h'⟩ := q_looked (ad := ad) (D := D) (cA := cA) h
    simp only [↓ckE, ↓ltE, ↓reduceIte, true_and, ↓ixT i1, ↓ixT i2, ↓ixT i3, ↓ixT i4, ↓ixT i5, kC, kR, k1, k6, e1, bdE, e2, lgc]
    exact ih _ _ h'
  refine sw_k ?_ ?_
  · obtain ⟨r, μ', ν', e1, e2, h'⟩ := q_judge (ad := ad) (D := D) (cA := cA) (x := xs (x + 1).toNatClampNeg) (y := xs (x + 2).toNatClampNeg) h
    simp only [↓ckE, ↓ltE, ↓reduceIte, true_and, ↓ixT i1, ↓ixT i2, ↓ixT i3, ↓ixT i4, ↓ixT i5, kC, kR, k1, k6, e1, bdE, e2, lgc]
    exact ih _ _ h'
  refine sw_k ?_ ?_
  · obtain ⟨r, μ', ν', e1, e2, h'⟩ := q_image (ad := ad) (D := D) (cA := cA) h
    simp only [↓ckE, ↓ltE, ↓reduceIte, true_and, ↓ixT i1, ↓ixT i2, ↓ixT i3, ↓ixT i4, ↓ixT i5, kC, kR, k1, k6, e1, bdE, e2, lgc]
    exact ih _ _ h'
  refine sw_k ?_ ?_
  · obtain ⟨r, μ', ν', e1, e2, h'⟩ := q_undo (ad := ad) (D := D) (cA := cA) h
    simp only [↓ckE, ↓ltE, ↓reduceIte, true_and, ↓ixT i1, ↓ixT i2, ↓ixT i3, ↓ixT i4, ↓ixT i5, kC, kR, k1, k6, e1, bdE, e2, lgc]
    exact ih _ _ h'
  refine sw_k ?_ ?_
  · obtain ⟨r, μ', ν', e1, e2, h'⟩ := q_act (ad := ad) (D := D) (cA := cA) (x := xs (x + 1).toNatClampNeg) (y := xs (x + 2).toNatClampNeg) (w := xs (x + 3).toNatClampNeg) h
    simp only [↓ckE, ↓ltE, ↓reduceIte, true_and, ↓ixT i1, ↓ixT i2, ↓ixT i3, ↓ixT i4, ↓ixT i5, kC, kR, k1, k6, e1, bdE, e2, lgc]
    exact ih _ _ h'
  refine sw_k ?_ ?_
  · obtain ⟨r, μ', ν', e1, e2, h'⟩ := q_trace (ad := ad) (D := D) (cA := cA) (x := xs (x + 1).toNatClampNeg) h
    simp only [↓ckE, ↓ltE, ↓reduceIte, true_and, ↓ixT i1, ↓ixT i2, ↓ixT i3, ↓ixT i4, ↓ixT i5, kC, kR, k1, k6, e1, bdE, e2, lgc]
    exact ih _ _ h'
  refine sw_k ?_ ?_
  · obtain ⟨r, μ', ν', e1, e2, h'⟩ := q_taken (ad := ad) (D := D) (cA := cA) (x := xs (x + 1).toNatClampNeg) (y := xs (x + 2).toNatClampNeg) h
    simp only [↓ckE, ↓ltE, ↓reduceIte, true_and, ↓ixT i1, ↓ixT i2, ↓ixT i3, ↓ixT i4, ↓ixT i5, kC, kR, k1, k6, e1, bdE, e2, lgc]
    exact ih _ _ h'
  refine sw_k ?_ ?_
  · obtain ⟨r, μ', ν', e1, e2, h'⟩ := q_count (ad := ad) (D := D) (cA := cA) (x := xs (x + 1).toNatClampNeg) h
    simp only [↓ckE, ↓ltE, ↓reduceIte, true_and, ↓ixT i1, ↓ixT i2, ↓ixT i3, ↓ixT i4, ↓ixT i5, kC, kR, k1, k6, e1, bdE, e2, lgc]
    exact ih _ _ h'
  refine sw_k ?_ ?_
  · obtain ⟨r, μ', ν', e1, e2, h'⟩ := q_tape (ad := ad) (D := D) (cA := cA) (x := xs (x + 1).toNatClampNeg) (y := xs (x + 2).toNatClampNeg) (w := xs (x + 3).toNatClampNeg) h
    simp only [↓ckE, ↓ltE, ↓reduceIte, true_and, ↓ixT i1, ↓ixT i2, ↓ixT i3, ↓ixT i4, ↓ixT i5, kC, kR, k1, k6, e1, bdE, e2, lgc]
    exact ih _ _ h'
  refine sw_k ?_ ?_
  · obtain ⟨r, μ', ν', e1, e2, h'⟩ := q_item (ad := ad) (D := D) (cA := cA) (x := xs (x + 1).toNatClampNeg) (y := xs (x + 2).toNatClampNeg) (v := ((xs (x + 3).toNatClampNeg).toInt64 <<< ((32 : Int32).toInt64 &&& 63)) ||| ((xs (x + 4).toNatClampNeg).toInt64 &&& (4294967295 : Int64))) h
    simp only [↓ckE, ↓ltE, ↓reduceIte, true_and, ↓ixT i1, ↓ixT i2, ↓ixT i3, ↓ixT i4, ↓ixT i5, kC, kR, k1, k6, e1, bdE, e2, lgc]
    exact ih _ _ h'
  refine sw_k ?_ ?_
  · obtain ⟨r, μ', ν', e1, e2, h'⟩ := q_read (ad := ad) (D := D) (cA := cA) (x := xs (x + 1).toNatClampNeg) (y := xs (x + 2).toNatClampNeg) h
    simp only [↓ckE, ↓ltE, ↓reduceIte, true_and, ↓ixT i1, ↓ixT i2, ↓ixT i3, ↓ixT i4, ↓ixT i5, kC, kR, k1, k6, e1, bdE, e2, lgc]
    exact ih _ _ h'
  refine sw_k ?_ ?_
  · obtain ⟨r, μ', ν', e1, e2, h'⟩ := q_shift (ad := ad) (D := D) (cA := cA) (x := xs (x + 1).toNatClampNeg) (y := xs (x + 2).toNatClampNeg) (z := xs (x + 3).toNatClampNeg) (w := xs (x + 4).toNatClampNeg) (v := xs (x + 5).toNatClampNeg) h
    simp only [↓ckE, ↓ltE, ↓reduceIte, true_and, ↓ixT i1, ↓ixT i2, ↓ixT i3, ↓ixT i4, ↓ixT i5, kC, kR, k1, k6, e1, bdE, e2, lgc]
    exact ih _ _ h'
  exact sw_z (ih _ _ h)
theorem law_run : ∀ (n v : Nat) (μ ν : x_M), L ≤ 3072 → v ≤ L → L + 6 ≤ v + 6 * n → Rel μ ν → ∃ m : x_M2, f_L_law_L18 (XC ad D cA) (XR ad D cA) L xs n 9 1 600 (Int32.ofNat v) (μ, ν) = some ((), m) := by
  intro n
  induction n with
  | zero => intro v μ ν hL hv hn h; omega
  | succ n ih =>
    intro v μ ν hL hv hn h
    have eL : nI L - 6 = Int32.ofInt ((L : Int) - 6) := by
      rw [show nI L = Int32.ofNat L from rfl, iN_I, show (6 : Int32) = Int32.ofInt 6 from rfl, ← Int32.ofInt_sub]
    by_cases hc : nI L - 6 < Int32.ofNat v
    · refine ⟨(μ, ν), ?_⟩
      unfold f_L_law_L18
      rw [ck_t rfl, if_pos hc]
    · have hv6 : v + 6 ≤ L := by
        have : ¬ ((L : Int) - 6 < (v : Int)) := fun z => hc (by rw [eL, iN_I]; exact (iI_lt (by omega) (by omega)).mpr z)
        omega
      have ix : ∀ k, k < 6 → x_ix (Int32.ofNat (v + k)) L := fun k hk => iN_ix (by omega) (by omega)
      have ea : ∀ k, Int32.ofNat v + Int32.ofNat k = Int32.ofNat (v + k) := fun k => iN_add
      refine law_st hc (ix 0 (by omega)) ?_ ?_ ?_ ?_ ?_ h (fun μ' ν' h' => ?_)
      · rw [show (1 : Int32) = Int32.ofNat 1 from rfl, ea]; exact ix 1 (by omega)
      · rw [show (2 : Int32) = Int32.ofNat 2 from rfl, ea]; exact ix 2 (by omega)
      · rw [show (3 : Int32) = Int32.ofNat 3 from rfl, ea]; exact ix 3 (by omega)
      · rw [show (4 : Int32) = Int32.ofNat 4 from rfl, ea]; exact ix 4 (by omega)
      · rw [show (5 : Int32) = Int32.ofNat 5 from rfl, ea]; exact ix 5 (by omega)
      · rw [show (6 : Int32) = Int32.ofNat 6 from rfl, ea]
        exact ih (v + 6) μ' ν' hL hv6 (by omega) h'
end BLAW
theorem b_law {ad : Nat → Nat} {D : va_G} {cA : Nat → ClassId} {L : Nat} (hL : L ≤ 3072) (xs : Nat → Int32) : ∃ μ : x_M2, f_L_law_L18 (XC ad D cA) (XR ad D cA) L xs 4096 9 1 600 0 (x_U107, x_U108) = some ((), μ) := by
  exact law_run 4096 0 x_U107 x_U108 hL (by omega) (by omega) i_rel
