/-! ===== taken, feed: in both ===== -/
def kA (a : Nat) : Int32 := ([(-1), 0, 0, 0, 1, 2, 3] : List Int32).getD a 0
def bdA (k : Nat) : Int32 := ([10, 11, 12, 0, 20, 0, 30, 0, 0, 0, 0, 40, 50, 51, 0, 0, 0, 60, 71, 70, 0] : List Int32).getD k 0
theorem cU801 : ∀ k, k < 7 → cU 801 k = kA k := by decide +kernel
theorem cU802 : ∀ k, k < 21 → cU 802 k = bdA k := by decide +kernel
def under (a b : Nat) : Bool := a == b || (b == 0 || ((a == 4 && b == 1) || ((a == 5 && b == 2) || (a == 6 && b == 3))))
section TAKEN
variable {ad : Nat → Nat} {D : va_G} {cA : Nat → ClassId} {μ ν : x_M}
theorem c_kA {a : Nat} (h : ∀ o k, 801 ≤ o → μ.1 o k = cU o k) (ha : a ≤ 6) : f_X9_kindAbove (XC ad D cA) (Int32.ofNat a) μ = some (kA a, μ) := by
  have h1 : ¬ Int32.ofNat a < 0 := iN_neg (by omega)
  have h2 : ¬ nI 7 ≤ Int32.ofNat a := fun z => by rw [show nI 7 = Int32.ofNat 7 from rfl] at z; have := (iN_le (by omega) (by omega)).mp z; omega
  have hx : x_ix (Int32.ofNat a) 7 := iN_ix (by omega) (by omega)
  have hcl : (Int32.ofNat a).toNatClampNeg = a := iN_cl (by omega)
  have hv : μ.1 801 a = kA a := by rw [h 801 a (by omega), cU801 a (by omega)]
  unfold f_X9_kindAbove
  simp only [↓ckE, ↓ltE, ↓reduceIte, kC, lC, CK, CN, h1, h2, true_or, or_true, true_and, ↓ixT hx, hcl, hv]
theorem c_uS {a b t F : Nat} (h : ∀ o k, 801 ≤ o → μ.1 o k = cU o k) (ha : a ≤ 6) (hb : b ≤ 6) (ht : t < 7) : f_X9_isOrUnder_L4 (XC ad D cA) (F + 1) (Int32.ofNat b) (Int32.ofNat a) (Int32.ofNat t) μ = if a = b then some (1, μ) else f_X9_isOrUnder_L4 (XC ad D cA) F (Int32.ofNat b) (kA a) (Int32.ofNat (t + 1)) μ := by
  have h1 : ¬ Int32.ofNat a < 0 := iN_neg (by omega)
  have h2 : ¬ nI 7 ≤ Int32.ofNat t := fun z => by rw [show nI 7 = Int32.ofNat 7 from rfl] at z; have := (iN_le (by omega) (by omega)).mp z; omega
  have e := c_kA (ad := ad) (D := D) (cA := cA) h ha
  have es : Int32.ofNat t + 1 = Int32.ofNat (t + 1) := iN_s
  generalize hR : f_X9_isOrUnder_L4 (XC ad D cA) F (Int32.ofNat b) (kA a) (Int32.ofNat (t + 1)) μ = R
  unfold f_X9_isOrUnder_L4
  simp only [↓ckE, ↓ltE, ↓reduceIte, kC, lC, CK, CN, h1, h2, true_or, or_true, e, bdE, es, hR]
  by_cases q : a = b
  · rw [if_pos (by rw [q]), if_pos q]
  · rw [if_neg (fun z => q ((iN_inj (by omega) (by omega)).mp z)), if_neg q]
theorem c_uE {b t F : Nat} (ht : t < 7) : f_X9_isOrUnder_L4 (XC ad D cA) (F + 1) (Int32.ofNat b) (-1) (Int32.ofNat t) μ = some (0, μ) := by
  have h2 : ¬ nI 7 ≤ Int32.ofNat t := fun z => by rw [show nI 7 = Int32.ofNat 7 from rfl] at z; have := (iN_le (by omega) (by omega)).mp z; omega
  unfold f_X9_isOrUnder_L4
  simp only [↓ckE, ↓ltE, ↓reduceIte, kC, lC, CK, CN, h2, show (-1 : Int32) < 0 from by decide, true_or, or_true]
theorem c_under {a b : Nat} (h : ∀ o k, 801 ≤ o → μ.1 o k = cU o k) (ha : a ≤ 6) (hb : b ≤ 6) : f_X9_isOrUnder (XC ad D cA) (Int32.ofNat a) (Int32.ofNat b) μ = some (if under a b then 1 else 0, μ) := by
  unfold f_X9_isOrUnder
  have k0 : kA 0 = -1 := rfl
  have k1 : kA 1 = Int32.ofNat 0 := rfl
  have k2 : kA 2 = Int32.ofNat 0 := rfl
  have k3 : kA 3 = Int32.ofNat 0 := rfl
  have k4 : kA 4 = Int32.ofNat 1 := rfl
  have k5 : kA 5 = Int32.ofNat 2 := rfl
  have k6 : kA 6 = Int32.ofNat 3 := rfl
  have s1 : ∀ F, F + 4 = 4096 → f_X9_isOrUnder_L4 (XC ad D cA) 4096 (Int32.ofNat b) (Int32.ofNat a) 0 μ = f_X9_isOrUnder_L4 (XC ad D cA) (F + 3 + 1) (Int32.ofNat b) (Int32.ofNat a) (Int32.ofNat 0) μ := fun F e => by rw [← e]; rfl
  rw [s1 4092 rfl]
  generalize 4092 = F
  have ha' : a = 0 ∨ a = 1 ∨ a = 2 ∨ a = 3 ∨ a = 4 ∨ a = 5 ∨ a = 6 := by omega
  have c0 : ∀ G t, t < 6 → f_X9_isOrUnder_L4 (XC ad D cA) (G + 1 + 1) (Int32.ofNat b) (Int32.ofNat 0) (Int32.ofNat t) μ = some (if 0 = b then 1 else 0, μ) := fun G t ht => by
    rw [c_uS h (by omega) hb (by omega), k0, c_uE (by omega)]
    by_cases q : 0 = b
    · rw [if_pos q, if_pos q]
    · rw [if_neg q, if_neg q]
  have c1 : ∀ G t, t < 5 → f_X9_isOrUnder_L4 (XC ad D cA) (G + 1 + 1) (Int32.ofNat b) (Int32.ofNat 0) (Int32.ofNat t) μ = some (if 0 = b then 1 else 0, μ) := fun G t ht => c0 G t (by omega)
  have cc : ∀ G t a, t < 5 → 1 ≤ a → a ≤ 3 → f_X9_isOrUnder_L4 (XC ad D cA) (G + 1 + 1 + 1) (Int32.ofNat b) (Int32.ofNat a) (Int32.ofNat t) μ = some (if a = b ∨ 0 = b then 1 else 0, μ) := fun G t a ht g1 g2 => by
    have ka : kA a = Int32.ofNat 0 := by
      have : a = 1 ∨ a = 2 ∨ a = 3 := by omega
      rcases this with rfl | rfl | rfl <;> rfl
    rw [c_uS h (by omega) hb (by omega), ka, c0 G (t + 1) (by omega)]
    by_cases q : a = b
    · rw [if_pos q, if_pos (Or.inl q)]
    · rw [if_neg q]
      by_cases q2 : 0 = b
      · rw [if_pos q2, if_pos (Or.inr q2)]
      · rw [if_neg q2, if_neg (by omega)]
  have hb' : b = 0 ∨ b = 1 ∨ b = 2 ∨ b = 3 ∨ b = 4 ∨ b = 5 ∨ b = 6 := by omega
  rcases ha' with rfl | rfl | rfl | rfl | rfl | rfl | rfl
  · rw [c0 (F + 2) 0 (by omega)]
    rcases hb' with rfl | rfl | rfl | rfl | rfl | rfl | rfl <;> rfl
  · rw [cc (F + 1) 0 1 (by omega) (by omega) (by omega)]
    rcases hb' with rfl | rfl | rfl | rfl | rfl | rfl | rfl <;> rfl
  · rw [cc (F + 1) 0 2 (by omega) (by omega) (by omega)]
    rcases hb' with rfl | rfl | rfl | rfl | rfl | rfl | rfl <;> rfl
  · rw [cc (F + 1) 0 3 (by omega) (by omega) (by omega)]
    rcases hb' with rfl | rfl | rfl | rfl | rfl | rfl | rfl <;> rfl
  · rw [c_uS h (by omega) hb (by omega), k4, cc F 1 1 (by omega) (by omega) (by omega)]
    rcases hb' with rfl | rfl | rfl | rfl | rfl | rfl | rfl <;> rfl
  · rw [c_uS h (by omega) hb (by omega), k5, cc F 1 2 (by omega) (by omega) (by omega)]
    rcases hb' with rfl | rfl | rfl | rfl | rfl | rfl | rfl <;> rfl
  · rw [c_uS h (by omega) hb (by omega), k6, cc F 1 3 (by omega) (by omega) (by omega)]
    rcases hb' with rfl | rfl | rfl | rfl | rfl | rfl | rfl <;> rfl
theorem q_taken {x y : Int32} (h : Rel μ ν) : SameR (f_X9_taken (XC ad D cA) 1 x y μ) (f_X10_taken (XR ad D cA) 600 x y ν) := by
  have h0 := h
  obtain ⟨S, R1, R2, R3, ⟨hp, h30⟩, ⟨hC, hR⟩, hg, ho⟩ := h
  have h6 := hp.n6
  unfold f_X9_taken f_X10_taken
  by_cases q : (0 : Int32) ≤ y ∧ y ≤ 6
  · obtain ⟨b, -, hb, rfl⟩ := inN 0 6 0 6 rfl rfl (by decide) (by decide) q
    rcases hp.acc (ad := ad) (D := D) (cA := cA) x with ⟨a, ha, rfl, k1, k2⟩ | ⟨-, k1, k2⟩
    · have hz : (104 + a = 0) = False := eq_false (by omega)
      have hB : isB 100 := Or.inl rfl
      have ka := (kBa hB (i := a) (by omega)).1
      have hx6 : x_ix (Int32.ofNat a) 6 := iN_ix (by omega) (by omega)
      have hcl : (Int32.ofNat a).toNatClampNeg = a := iN_cl (by omega)
      obtain ⟨⟨c1, c2, c3⟩, ⟨c4, c5⟩, -⟩ := hp.1.1.2.2.2.1 a ha
      obtain ⟨⟨d1, d2, d3⟩, ⟨d4, d5⟩, -⟩ := hp.2.1.2.2.2.2.1 a ha
      have okd := (hp.ok.1.2.1 a ha).1.1
      simp only [Nat.reduceAdd] at ka c1
      have eu := c_under (ad := ad) (D := D) (cA := cA) (a := S.kd a) (b := b) ho.1.1 okd hb
      refine SameR.now (r := if under (S.kd a) b then Int32.ofNat (S.kd a) else -12) h0 ?_ ?_
      · simp only [↓ckE, ↓ltE, ↓reduceIte, kC, CK, CP hp.P, Nat.reduceAdd, c_in, q, and_self, iE, bdE, k1, hz, ka, c1, eu]
        cases under (S.kd a) b <;> rfl
      · have hk : S.kd a = 0 ∨ S.kd a = 1 ∨ S.kd a = 2 ∨ S.kd a = 3 ∨ S.kd a = 4 ∨ S.kd a = 5 ∨ S.kd a = 6 := by omega
        have hb' : b = 0 ∨ b = 1 ∨ b = 2 ∨ b = 3 ∨ b = 4 ∨ b = 5 ∨ b = 6 := by omega
        unfold f_X10_taken_J51
        simp only [↓ckE, ↓ltE, ↓reduceIte, kR, lR, RK, RN, RP hp.2.1.1, Nat.reduceAdd, r_in, q, and_self, iE, bdE, k2, true_or, true_and, ↓ixT hx6, hcl, d1]
        rcases hk with e | e | e | e | e | e | e <;> rw [e] <;> rcases hb' with rfl | rfl | rfl | rfl | rfl | rfl | rfl <;> rfl
    · refine SameR.now (r := -11) h0 ?_ ?_
      · simp only [↓ckE, ↓ltE, ↓reduceIte, kC, CK, CP hp.P, Nat.reduceAdd, c_in, q, and_self, iE, bdE, k1]
      · simp only [↓ckE, ↓ltE, ↓reduceIte, kR, RK, Nat.reduceAdd, r_in, q, and_self, iE, bdE, k2]
  · refine SameR.now (r := -2) h0 ?_ ?_
    · simp only [↓ckE, ↓ltE, ↓reduceIte, kC, CK, CP hp.P, Nat.reduceAdd, c_in, q, iE, bdE]
    · simp only [↓ckE, ↓ltE, ↓reduceIte, kR, RK, Nat.reduceAdd, r_in, q, iE, bdE]
end TAKEN
