/-! ===== read, item, shift, judge: in both ===== -/
section TAPES2
variable {ad : Nat → Nat} {D : va_G} {cA : Nat → ClassId} {μ ν : x_M}
theorem gP.at {t : Nat} (h : gP μ ν) (ht : t < 6) : ∃ s : Int, ∃ n, (-1 ≤ s ∧ s ≤ 4) ∧ n ≤ 60 ∧ (s < 0 → n = 0) ∧ (μ.1 (500 + 2 * t) 1 = Int32.ofInt s ∧ ν.1 674 t = Int32.ofInt s ∧ μ.1 (500 + 2 * t) 2 = Int32.ofNat n ∧ ν.1 675 t = Int32.ofNat n) ∧ ∀ j, j < 60 → μ.2.2 (501 + 2 * t) j = ν.2.2 676 (60 * t + j) := by
  obtain ⟨⟨s, n, q1, q2, q3, q4, q5, q6, q7⟩, q8⟩ := h t ht
  exact ⟨s, n, q1, q2, q3, ⟨q4, q5, q6, q7⟩, q8⟩
/-- an index in a tape, or none -/
theorem c_get {t n : Nat} {x : Int32} (hP : Pt μ) (ht : t < 6) (hn : n ≤ 60) (e : μ.1 (500 + 2 * t) 2 = Int32.ofNat n) : (∃ i, i < n ∧ x = Int32.ofNat i ∧ f_X8_get (XC ad D cA) (500 + 2 * t) x μ = some (μ.2.2 (501 + 2 * t) i, μ)) ∨ ((∀ i, i < n → x ≠ Int32.ofNat i) ∧ f_X8_get (XC ad D cA) (500 + 2 * t) x μ = some (-9223372036854775808, μ)) := by
  obtain ⟨k1, k2, l2, -, -⟩ := kT t ht
  have p := pT hP ht
  by_cases q : ∃ i, i < n ∧ x = Int32.ofNat i
  · obtain ⟨i, hi, rfl⟩ := q
    have n1 : ¬ Int32.ofNat i < 0 := iN_neg (by omega)
    have n2 : ¬ Int32.ofNat n ≤ Int32.ofNat i := fun z => by have := (iN_le (by omega) (by omega)).mp z; omega
    have n3 : ¬ (60 : Int32) ≤ Int32.ofNat i := fun z => by have := (geN 60 60 rfl (by omega) (by omega)).mp z; omega
    have hx : x_ix (Int32.ofNat i) 60 := iN_ix (by omega) (by omega)
    have hc : (Int32.ofNat i).toNatClampNeg = i := iN_cl (by omega)
    refine Or.inl ⟨i, hi, rfl, ?_⟩
    unfold f_X8_get
    simp only [↓ckE, ↓ltE, ↓reduceIte, kC, lC, k1, k2, l2, p, Nat.reduceAdd, e, n1, n2, n3, true_and, ↓ixT hx, hc]
  · have q' : ∀ i, i < n → x ≠ Int32.ofNat i := fun i hi z => q ⟨i, hi, z⟩
    refine Or.inr ⟨q', ?_⟩
    unfold f_X8_get
    by_cases n1 : x < 0
    · rw [if_pos n1]
    · obtain ⟨j, hj, rfl⟩ := iN_of n1
      have n2 : Int32.ofNat n ≤ Int32.ofNat j := (iN_le (by omega) hj).mpr (Nat.le_of_not_lt (fun z => q' j z rfl))
      simp only [↓ckE, ↓ltE, ↓reduceIte, kC, k1, Nat.reduceAdd, e, n1, n2]
theorem r_inn {n : Nat} {x : Int32} (hn : n ≤ 60) : ((0 : Int32) ≤ x ∧ x ≤ Int32.ofNat n - 1) ↔ ∃ i, i < n ∧ x = Int32.ofNat i := by
  have e : Int32.ofNat n - 1 = Int32.ofInt ((n : Int) - 1) := by rw [iN_I, show (1 : Int32) = Int32.ofInt 1 from rfl, ← Int32.ofInt_sub]
  rw [e]
  constructor
  · intro z
    obtain ⟨j, hj, rfl⟩ := iN_of (Int32.not_lt.mpr z.1)
    have := z.2
    rw [iN_I, iI_le (by omega) (by omega)] at this
    exact ⟨j, by omega, rfl⟩
  · rintro ⟨a, ha, rfl⟩
    exact ⟨(geN 0 0 rfl (by decide) (by omega)).mpr (Nat.zero_le _), by rw [iN_I, iI_le (by omega) (by omega)]; omega⟩
theorem q_read {x y : Int32} (h : Rel μ ν) : SameR (f_X9_read (XC ad D cA) 1 x y μ) (f_X10_read (XR ad D cA) 600 x y ν) := by
  have h0 := h
  obtain ⟨S, R1, R2, R3, ⟨hp, h30⟩, -, hg, ho⟩ := h
  unfold f_X9_read f_X10_read
  rcases c_findT (ad := ad) (D := D) (cA := cA) (ν := ν) (x := x) hp.P with ⟨t, ht, rfl, e1, e2⟩ | ⟨e1, e2⟩
  · have hz : (500 + 2 * t = 0) = False := eq_false (by omega)
    obtain ⟨k1, k2, l2, -, -⟩ := kT t ht
    have hx6 : x_ix (Int32.ofNat t) 6 := iN_ix (by omega) (by omega)
    have hcl : (Int32.ofNat t).toNatClampNeg = t := iN_cl (by omega)
    obtain ⟨s, n, hs, hn, hsn, ⟨q4, q5, q6, q7⟩, q8⟩ := ho.2.2.2.2.1.at ht
    have ri := r_inn (n := n) (x := y) hn
    rcases c_get (ad := ad) (D := D) (cA := cA) (x := y) hp.P ht hn q6 with ⟨i, hi, rfl, eg⟩ | ⟨nn, eg⟩
    · have c := ri.mpr ⟨i, hi, rfl⟩
      have s0 : ¬ Int32.ofInt s < 0 := fun z => by have := (ltI 0 0 rfl (by omega) (by decide)).mp z; have := hsn this; omega
      have e6 : (60 : Int32) * Int32.ofNat t + Int32.ofNat i = Int32.ofNat (60 * t + i) := by rw [show (60 : Int32) = Int32.ofNat 60 from rfl, iN_mul, iN_add]
      have hx : x_ix (Int32.ofNat (60 * t + i)) 360 := iN_ix (by omega) (by omega)
      have hc : (Int32.ofNat (60 * t + i)).toNatClampNeg = 60 * t + i := iN_cl (by omega)
      refine SameR.now (r := ν.2.2 676 (60 * t + i)) h0 ?_ ?_
      · simp only [↓ckE, ↓ltE, ↓reduceIte, kC, CK, Nat.reduceAdd, e1, hz, bdE, k1, eg, q8 i (by omega)]
      · simp only [↓ckE, ↓ltE, ↓reduceIte, kR, lR, RK, RN, RP hp.2.1.1, Nat.reduceAdd, e2, bdE, iE, true_or, true_and, ↓ixT hx6, hcl, q5, s0, q7, r_in, c, and_self, e6, ↓ixT hx, hc]
    · refine SameR.now (r := -9223372036854775808) h0 ?_ ?_
      · simp only [↓ckE, ↓ltE, ↓reduceIte, kC, CK, Nat.reduceAdd, e1, hz, bdE, k1, eg]
      · by_cases s0 : Int32.ofInt s < 0
        · simp only [↓ckE, ↓ltE, ↓reduceIte, kR, lR, RK, RN, RP hp.2.1.1, Nat.reduceAdd, e2, bdE, iE, true_or, true_and, ↓ixT hx6, hcl, q5, s0]
        · have c : ¬ ((0 : Int32) ≤ y ∧ y ≤ Int32.ofNat n - 1) := fun z => by
            obtain ⟨i, hi, e⟩ := ri.mp z
            exact nn i hi e
          simp only [↓ckE, ↓ltE, ↓reduceIte, kR, lR, RK, RN, RP hp.2.1.1, Nat.reduceAdd, e2, bdE, iE, true_or, true_and, ↓ixT hx6, hcl, q5, s0, q7, r_in, c]
  · refine SameR.now (r := -9223372036854775808) h0 ?_ ?_
    · simp only [↓ckE, ↓ltE, ↓reduceIte, kC, CK, Nat.reduceAdd, e1, bdE]
    · simp only [↓ckE, ↓ltE, ↓reduceIte, kR, RK, Nat.reduceAdd, e2, bdE]
theorem c_empty {t : Nat} {s : Int} (ht : t < 6) (hs : -1 ≤ s ∧ s ≤ 4) (e : μ.1 (500 + 2 * t) 1 = Int32.ofInt s) : f_X8_isEmpty (XC ad D cA) (500 + 2 * t) μ = some (if s < 0 then 1 else 0, μ) := by
  have k1 := (kT t ht).1
  unfold f_X8_isEmpty
  simp only [↓ckE, ↓reduceIte, kC, k1, Nat.reduceAdd, e, iE, true_or, or_true]
  by_cases q : s < 0
  · rw [if_pos q, if_pos (by rw [show s = -1 by omega]; rfl)]
  · rw [if_neg q, if_neg (fun z => q (by have := (iI_inj (b := -1) (by omega) (by decide)).mp z; omega))]
/-- the value that a sort keeps -/
def cutV (s : Int) (v : Int64) : Int64 := if s = 0 then ((v.toInt32).toInt8.toInt32).toInt64 else if s = 1 then ((v.toInt32).toInt16.toInt32).toInt64 else if s = 2 then (v.toInt32).toInt64 else if s = 3 then v else if lg_cmp v 0 = 0 then 0 else 1
theorem c_cut {t : Nat} {s : Int} {v : Int64} (ht : t < 6) (hs : 0 ≤ s ∧ s ≤ 4) (e : μ.1 (500 + 2 * t) 1 = Int32.ofInt s) : f_X8_cut (XC ad D cA) (500 + 2 * t) v μ = some (cutV s v, μ) := by
  have k1 := (kT t ht).1
  have e' : s = 0 ∨ s = 1 ∨ s = 2 ∨ s = 3 ∨ s = 4 := by omega
  unfold f_X8_cut cutV
  rcases e' with rfl | rfl | rfl | rfl | rfl
  · simp only [↓ckE, ↓ltE, ↓swE, sw_n, ↓reduceIte, kC, k1, Nat.reduceAdd, e, Int32.reduceOfInt, iE]
  · simp only [↓ckE, ↓ltE, ↓swE, sw_n, ↓reduceIte, kC, k1, Nat.reduceAdd, e, Int32.reduceOfInt, iE, Int.reduceEq]
  · simp only [↓ckE, ↓ltE, ↓swE, sw_n, ↓reduceIte, kC, k1, Nat.reduceAdd, e, Int32.reduceOfInt, iE, Int.reduceEq]
  · simp only [↓ckE, ↓ltE, ↓swE, sw_n, ↓reduceIte, kC, k1, Nat.reduceAdd, e, Int32.reduceOfInt, iE, Int.reduceEq]
  · simp only [↓ckE, ↓ltE, ↓swE, sw_n, ↓reduceIte, kC, k1, Nat.reduceAdd, e, Int32.reduceOfInt, iE, Int.reduceEq]
    by_cases z : lg_cmp v 0 = 0
    · rw [if_pos z, if_pos z]
    · rw [if_neg z, if_neg z]
theorem r_cut {s : Int} {v : Int64} (hs : 0 ≤ s ∧ s ≤ 4) : f_X10_narrow (XR ad D cA) 600 (Int32.ofInt s) v ν = some (cutV s v, ν) := by
  have e' : s = 0 ∨ s = 1 ∨ s = 2 ∨ s = 3 ∨ s = 4 := by omega
  unfold f_X10_narrow cutV
  rcases e' with rfl | rfl | rfl | rfl | rfl
  · simp only [↓reduceIte, Int32.reduceOfInt, iE]
  · simp only [↓reduceIte, Int32.reduceOfInt, iE, Int.reduceEq]
  · simp only [↓reduceIte, Int32.reduceOfInt, iE, Int.reduceEq]
  · simp only [↓reduceIte, Int32.reduceOfInt, iE, Int.reduceEq]
  · simp only [↓reduceIte, Int32.reduceOfInt, iE, Int.reduceEq]
    by_cases z : lg_cmp v 0 = 0
    · rw [if_pos z, if_pos z]
    · rw [if_neg z, if_neg z]
theorem Rel.long {o1 k1 o2 k2 : Nat} {v : Int64} (h : Rel μ ν) {t i : Nat} (ht : t < 6) (hi : i < 60) (e1 : o1 = 501 + 2 * t) (e2 : k1 = i) (e3 : o2 = 676) (e4 : k2 = 60 * t + i) : Rel (x_sJ μ o1 k1 v) (x_sJ ν o2 k2 v) := by
  have h0 := h
  obtain ⟨S, R1, R2, R3, ⟨hp, h30⟩, -, hg, ho⟩ := h
  refine h0.tp ⟨rfl, fun _ _ _ => rfl⟩ ⟨rfl, fun _ _ _ => rfl⟩ (fun u hu => ⟨(ho.2.2.2.2.1 u hu).1, fun j hj => ?_⟩)
  rw [sJ_rd, sJ_rd]
  by_cases q : u = t ∧ j = i
  · rw [if_pos (by omega), if_pos (by omega), if_pos (by omega), if_pos (by omega)]
  · have := (ho.2.2.2.2.1 u hu).2 j hj
    by_cases q1 : 501 + 2 * u = o1
    · rw [if_pos q1, if_neg (by omega), if_pos e3.symm, if_neg (by omega)]; exact this
    · rw [if_neg q1, if_pos e3.symm, if_neg (by omega)]; exact this
theorem q_item {x y : Int32} {v : Int64} (h : Rel μ ν) : SameR (f_X9_item (XC ad D cA) 1 x y v μ) (f_X10_item (XR ad D cA) 600 x y v ν) := by
  have h0 := h
  obtain ⟨S, R1, R2, R3, ⟨hp, h30⟩, -, hg, ho⟩ := h
  unfold f_X9_item f_X10_item
  rcases c_findT (ad := ad) (D := D) (cA := cA) (ν := ν) (x := x) hp.P with ⟨t, ht, rfl, e1, e2⟩ | ⟨e1, e2⟩
  · have hz : (500 + 2 * t = 0) = False := eq_false (by omega)
    obtain ⟨k1, k2, l2, -, -⟩ := kT t ht
    have p := pT hp.P ht
    have hx6 : x_ix (Int32.ofNat t) 6 := iN_ix (by omega) (by omega)
    have hcl : (Int32.ofNat t).toNatClampNeg = t := iN_cl (by omega)
    obtain ⟨s, n, hs, hn, hsn, ⟨q4, q5, q6, q7⟩, q8⟩ := ho.2.2.2.2.1.at ht
    have ri := r_inn (n := n) (x := y) hn
    have ee := c_empty (ad := ad) (D := D) (cA := cA) ht hs q4
    by_cases s0 : s < 0
    · have s1 : ¬ (0 : Int32) ≤ Int32.ofInt s := fun z => by have := (geI 0 0 rfl (by decide) (by omega)).mp z; omega
      rw [if_pos s0] at ee
      refine SameR.now (r := -11) h0 ?_ ?_
      · simp only [↓ckE, ↓ltE, ↓reduceIte, kC, CK, Nat.reduceAdd, e1, hz, bdE, k1, ee, iE]
      · simp only [↓ckE, ↓ltE, ↓reduceIte, kR, lR, RK, RN, RP hp.2.1.1, Nat.reduceAdd, e2, bdE, iE, true_or, true_and, ↓ixT hx6, hcl, q5, s1]
    · have s1 : (0 : Int32) ≤ Int32.ofInt s := (geI 0 0 rfl (by decide) (by omega)).mpr (by omega)
      rw [if_neg s0] at ee
      by_cases c : (0 : Int32) ≤ y ∧ y ≤ Int32.ofNat n - 1
      · obtain ⟨i, hi, rfl⟩ := ri.mp c
        have n1 : ¬ Int32.ofNat i < 0 := iN_neg (by omega)
        have n2 : ¬ Int32.ofNat n ≤ Int32.ofNat i := fun z => by have := (iN_le (by omega) (by omega)).mp z; omega
        have n3 : Int32.ofNat i < 60 := (ltN 60 60 rfl (by omega) (by omega)).mpr (by omega)
        have hxi : x_ix (Int32.ofNat i) 60 := iN_ix (by omega) (by omega)
        have hci : (Int32.ofNat i).toNatClampNeg = i := iN_cl (by omega)
        have e6 : (60 : Int32) * Int32.ofNat t + Int32.ofNat i = Int32.ofNat (60 * t + i) := by rw [show (60 : Int32) = Int32.ofNat 60 from rfl, iN_mul, iN_add]
        have hx : x_ix (Int32.ofNat (60 * t + i)) 360 := iN_ix (by omega) (by omega)
        have hc : (Int32.ofNat (60 * t + i)).toNatClampNeg = 60 * t + i := iN_cl (by omega)
        have ec := c_cut (ad := ad) (D := D) (cA := cA) (v := v) ht (by omega) q4
        have er := r_cut (ad := ad) (D := D) (cA := cA) (ν := ν) (v := v) (s := s) (by omega)
        refine ⟨1, x_sJ μ (501 + 2 * t) i (cutV s v), x_sJ ν 676 (60 * t + i) (cutV s v), ?_, ?_, h0.long ht (by omega) rfl rfl rfl rfl⟩
        · unfold f_X8_put
          simp only [↓ckE, ↓ltE, ↓reduceIte, kC, lC, CK, Nat.reduceAdd, e1, hz, bdE, k1, k2, l2, p, ee, iE, q6, n1, n2, n3, ec, true_and, or_true, ↓ixT hxi, hci]
        · simp only [↓ckE, ↓ltE, ↓reduceIte, kR, lR, RK, RN, RP hp.2.1.1, Nat.reduceAdd, e2, bdE, iE, true_or, true_and, ↓ixT hx6, hcl, q5, s1, q7, r_in, c, and_self, er, e6, ↓ixT hx, hc]
      · refine SameR.now (r := -13) h0 ?_ ?_
        · have ep : f_X8_put (XC ad D cA) (500 + 2 * t) y v μ = some (0, μ) := by
            unfold f_X8_put
            by_cases n1 : y < 0
            · simp only [↓ckE, ↓reduceIte, n1, true_or]
            · obtain ⟨j, hj, rfl⟩ := iN_of n1
              have n2 : Int32.ofNat n ≤ Int32.ofNat j := (iN_le (by omega) hj).mpr (Nat.le_of_not_lt (fun z => c (ri.mpr ⟨j, z, rfl⟩)))
              simp only [↓ckE, ↓reduceIte, kC, k1, Nat.reduceAdd, q6, n1, n2, true_or]
          simp only [↓ckE, ↓ltE, ↓reduceIte, kC, CK, Nat.reduceAdd, e1, hz, bdE, k1, ee, iE, ep]
        · simp only [↓ckE, ↓ltE, ↓reduceIte, kR, lR, RK, RN, RP hp.2.1.1, Nat.reduceAdd, e2, bdE, iE, true_or, true_and, ↓ixT hx6, hcl, q5, s1, q7, r_in, c]
  · refine SameR.now (r := -1) h0 ?_ ?_
    · simp only [↓ckE, ↓ltE, ↓reduceIte, kC, CK, Nat.reduceAdd, e1, bdE]
    · simp only [↓ckE, ↓ltE, ↓reduceIte, kR, RK, Nat.reduceAdd, e2, bdE]
end TAPES2
