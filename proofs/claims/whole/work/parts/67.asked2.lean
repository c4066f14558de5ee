/-! ===== on, may, wells, odds, without: in both ===== -/
theorem goN_day : ∀ (m : Nat) (T : St), (T.goN m).day = T.day + m
  | 0, _ => rfl
  | m + 1, T => by
    show (T.goDay.goN m).day = _
    rw [goN_day m T.goDay, St.goDay_day]; omega
theorem goN_n : ∀ (m : Nat) (T : St), (T.goN m).n = T.n
  | 0, _ => rfl
  | m + 1, T => by
    show (T.goDay.goN m).n = _
    rw [goN_n m T.goDay]; rfl
def mayN (S : St) (a n : Nat) : Nat → Int → Int
  | 0, _ => -5000
  | m + 1, d => if wetN n (S.wDl a d) then d else mayN S a n m (d + 1)
def welN (S : St) (n : Nat) : Nat → Nat → Option Nat
  | 0, _ => none
  | m + 1, k => if wetN n (S.wW k) then some k else welN S n m (k + 1)
def oddN (S : St) (n : Nat) : Nat → Nat → Nat
  | 0, _ => 0
  | m + 1, k => (if wetN n (S.wD ((S.day : Int) + k)) then 0 else 1) + oddN S n m (k + 1)
theorem oddN_le {S : St} {n : Nat} : ∀ m k, oddN S n m k ≤ m
  | 0, _ => Nat.le_refl _
  | m + 1, k => by
    have := oddN_le (S := S) (n := n) m (k + 1)
    show (if wetN n (S.wD ((S.day : Int) + k)) then 0 else 1) + oddN S n m (k + 1) ≤ m + 1
    by_cases q : wetN n (S.wD ((S.day : Int) + k)) = true
    · rw [if_pos q]; omega
    · rw [if_neg q]; omega
section ASKED2
variable {ad : Nat → Nat} {D : va_G} {cA : Nat → ClassId} {μ ν : x_M} {S : St} {R : Rw}
theorem p_on43 {x y : Int32} (h : Pair μ ν S R) (hy : (∃ a, a < S.n ∧ y = Int32.ofNat (a + 10)) ∨ ∃ k, k ≤ 2 ∧ y = Int32.ofNat k) : Same (f_X9_on_J43 (XC ad D cA) 1 x y μ) (f_X10_on_J31 (XR ad D cA) 600 x y ν) μ ν := by
  have hd := h.2.2
  have h6 := h.n6
  unfold f_X9_on_J43 f_X10_on_J31 f_X10_isDays
  by_cases q : (0 : Int32) ≤ x ∧ x ≤ 40
  · obtain ⟨n, -, hn, rfl⟩ := inN 0 40 0 40 rfl rfl (by decide) (by decide) q
    obtain ⟨μ1, e, l, f⟩ := h.1.begin (ad := ad) (D := D) (cA := cA)
    obtain ⟨μ2, e2, l2, f2⟩ := c_afterL (ad := ad) (D := D) (cA := cA) (n := n) (by omega) n 0 4096 0 μ1 S (by omega) (by omega) rfl l (by omega)
    obtain ⟨ν1, g1, j, b⟩ := r_begin (ad := ad) (D := D) (cA := cA) h.2.1 h.ok
    obtain ⟨ν2, g2, j2⟩ := r_goDays (ad := ad) (D := D) (cA := cA) hn j (by omega)
    obtain ⟨ν3, g3, g4⟩ := b ν2 j2.2.2
    have hw1 : μ2.1 300 7 = Int32.ofNat (S.goN n).wet := l2.1.2.2.2.2.2.1.2.1
    have hw2 : ν2.1 600 2 = Int32.ofNat (S.goN n).wet := j2.1.2.2.1.2.2.1
    have ht1 : μ2.1 300 8 = Int32.ofNat (S.goN n).town := l2.1.2.2.2.2.2.1.2.2.1
    have ht2 : ν2.1 600 3 = Int32.ofNat (S.goN n).town := j2.1.2.2.1.2.2.2
    have el := l2.1.level (ad := ad) (D := D) (cA := cA) l2.2.2
    have gl := (r_lf (ad := ad) (D := D) (cA := cA) j2).1
    have C : f_X2_after (XC ad D cA) 2 100 (Int32.ofNat n) μ = some (300, μ2) := by
      unfold f_X2_after
      simp only [↓ckE, ↓ltE, ↓reduceIte, kC, CK, CP h.P, Nat.reduceAdd, e, e2, bdE]
    rcases hy with ⟨a, ha, rfl⟩ | ⟨k, hk, rfl⟩
    · have n0 : ¬ Int32.ofNat (a + 10) = 0 := fun z => by have := (eqN 0 0 rfl (by omega) (by decide)).mp z; omega
      have n1 : ¬ Int32.ofNat (a + 10) = 1 := fun z => by have := (eqN 1 1 rfl (by omega) (by decide)).mp z; omega
      have n2 : ¬ Int32.ofNat (a + 10) = 2 := fun z => by have := (eqN 2 2 rfl (by omega) (by decide)).mp z; omega
      have s10 : Int32.ofNat (a + 10) - 10 = Int32.ofNat a := by rw [show (10 : Int32) = Int32.ofNat 10 from rfl, iN_sub (by omega), Nat.add_sub_cancel]
      have hx : x_ix (Int32.ofNat a) 6 := iN_ix (by omega) (by omega)
      have hc : (Int32.ofNat a).toNatClampNeg = a := iN_cl (by omega)
      have ha' : a < (S.goN n).n := by rw [goN_n]; exact ha
      have eb := c_bk (ad := ad) (D := D) (cA := cA) l2.1 l2.2.2 ha'
      have gb := (j2.1.2.2.2.2.1 a ha').2.1.1
      refine Same.of (r := Int32.ofInt ((S.goN n).bk a)) (μ' := μ2) (ν' := ν3) ?_ ?_ (f.tr f2) g4
      · simp only [↓ckE, ↓ltE, ↓swE, sw_n, ↓reduceIte, kC, CK, CP h.P, Nat.reduceAdd, c_in, q, and_self, iE, C, n0, n1, n2, s10, eb, bdE]
      · simp only [↓ckE, ↓ltE, ↓reduceIte, kR, lR, RK, RN, RP j2.1.1, Nat.reduceAdd, r_in, q, and_self, iE, or_true, true_or, true_and, g1, g2, g3, n0, n1, n2, s10, ↓ixT hx, hc, gb, bdE]
    · have hk' : k = 0 ∨ k = 1 ∨ k = 2 := by omega
      rcases hk' with rfl | rfl | rfl
      · refine Same.of (r := Int32.ofNat (S.goN n).wet) (μ' := μ2) (ν' := ν3) ?_ ?_ (f.tr f2) g4
        · simp only [Int32.reduceOfNat, ↓ckE, ↓ltE, ↓swE, sw_n, ↓reduceIte, kC, CK, CP h.P, Nat.reduceAdd, c_in, q, and_self, iE, C, hw1, bdE]
        · simp only [Int32.reduceOfNat, ↓ckE, ↓ltE, ↓reduceIte, kR, RK, Nat.reduceAdd, r_in, q, and_self, iE, or_true, g1, g2, g3, hw2, bdE]
      · refine Same.of (r := Int32.ofNat (S.goN n).level) (μ' := μ2) (ν' := ν3) ?_ ?_ (f.tr f2) g4
        · simp only [Int32.reduceOfNat, ↓ckE, ↓ltE, ↓swE, sw_n, ↓reduceIte, kC, CK, CP h.P, Nat.reduceAdd, c_in, q, and_self, iE, C, el, bdE]
        · simp only [Int32.reduceOfNat, ↓ckE, ↓ltE, ↓reduceIte, kR, RK, Nat.reduceAdd, r_in, q, and_self, iE, or_true, g1, g2, g3, gl, bdE]
      · refine Same.of (r := Int32.ofNat (S.goN n).town) (μ' := μ2) (ν' := ν3) ?_ ?_ (f.tr f2) g4
        · simp only [Int32.reduceOfNat, ↓ckE, ↓ltE, ↓swE, sw_n, ↓reduceIte, kC, CK, CP h.P, Nat.reduceAdd, c_in, q, and_self, iE, C, ht1, bdE]
        · simp only [Int32.reduceOfNat, ↓ckE, ↓ltE, ↓reduceIte, kR, RK, Nat.reduceAdd, r_in, q, and_self, iE, or_true, g1, g2, g3, ht2, bdE]
  · refine Same.now (r := -10002) ?_ ?_
    · simp only [c_in, q, ↓reduceIte, bdE]
    · simp only [↓ckE, ↓reduceIte, kR, RK, Nat.reduceAdd, r_in, q, bdE, true_or]
theorem p_on {x y : Int32} (h : Pair μ ν S R) : Same (f_X9_on (XC ad D cA) 1 x y μ) (f_X10_on (XR ad D cA) 600 x y ν) μ ν := by
  have h6 := h.n6
  have hn : ν.1 600 0 = Int32.ofNat S.n := h.2.1.2.2.1.1
  have e9 : (9 : Int32) + Int32.ofNat S.n = Int32.ofNat (9 + S.n) := iN_add (a := 9)
  unfold f_X9_on f_X10_on f_X9_on_J24 f_X9_on_J25
  by_cases q : (0 : Int32) ≤ y ∧ y ≤ 2
  · obtain ⟨k, -, hk, rfl⟩ := inN 0 2 0 2 rfl rfl (by decide) (by decide) q
    have hc : Int32.ofNat k < 10 := (ltN 10 10 rfl (by omega) (by decide)).mpr (by omega)
    simp only [↓ckE, ↓ltE, ↓reduceIte, kR, RK, Nat.reduceAdd, hc, c_in, r_in, q, and_self, iE, bdE]
    exact p_on43 h (Or.inr ⟨k, hk, rfl⟩)
  · by_cases q2 : (10 : Int32) ≤ y ∧ y ≤ Int32.ofNat (9 + S.n)
    · obtain ⟨k, hk1, hk2, rfl⟩ : ∃ k, 10 ≤ k ∧ k ≤ 9 + S.n ∧ y = Int32.ofNat k := by
        have hg : ¬ y < 0 := fun z => by
          have := (Int32.le_iff_toInt_le).mp q2.1
          have := (Int32.lt_iff_toInt_lt).mp z
          have e : (0 : Int32).toInt = 0 := rfl
          have e : (10 : Int32).toInt = 10 := rfl
          omega
        obtain ⟨j, hj, rfl⟩ := iN_of hg
        exact ⟨j, (geN 10 10 rfl (by decide) hj).mp q2.1, (iN_le hj (by omega)).mp q2.2, rfl⟩
      have hc : ¬ Int32.ofNat k < 10 := fun z => by have := (ltN 10 10 rfl (by omega) (by decide)).mp z; omega
      obtain ⟨a, rfl⟩ : ∃ a, k = a + 10 := ⟨k - 10, by omega⟩
      have s10 : Int32.ofNat (a + 10) - 10 = Int32.ofNat a := by rw [show (10 : Int32) = Int32.ofNat 10 from rfl, iN_sub (by omega), Nat.add_sub_cancel]
      have ef := c_find (ad := ad) (D := D) (cA := cA) h.1.1 h.ok (a := a) (by omega)
      have hz : (100 + 4 + a = 0) = False := eq_false (by omega)
      simp only [↓ckE, ↓ltE, ↓reduceIte, kC, CK, CP h.P, kR, RK, Nat.reduceAdd, hc, s10, ef, hn, e9, r_in, q, q2, and_self, iE, bdE]
      rw [if_neg (by omega)]
      exact p_on43 h (Or.inl ⟨a, by omega, rfl⟩)
    · have fin : ∀ {o : Option (Int32 × x_M)}, o = some (-10001, μ) → Same o (some (-10001, ν)) μ ν := fun z => Same.now z rfl
      simp only [↓ckE, ↓ltE, ↓reduceIte, kC, CK, CP h.P, kR, RK, Nat.reduceAdd, hn, e9, r_in, q, q2, bdE, c_in]
      apply fin
      by_cases hc : y < 10
      · rw [if_pos hc]
      · rw [if_neg hc]
        have hy0 : ¬ y < 0 := fun z => hc (Int32.lt_trans z (by decide))
        obtain ⟨j, hj, rfl⟩ := iN_of hy0
        have hj10 : 10 ≤ j := Nat.le_of_not_lt (fun z => hc ((ltN 10 10 rfl hj (by decide)).mpr z))
        have ef := c_find0 (ad := ad) (D := D) (cA := cA) (x := Int32.ofNat j - 10) h.1.1 h.ok (fun a ha z => by
          rw [show (10 : Int32) = Int32.ofNat 10 from rfl, iN_sub hj10, iN_inj (by omega) (by omega)] at z
          exact q2 ⟨(geN 10 10 rfl (by decide) hj).mpr hj10, (iN_le hj (by omega)).mpr (by omega)⟩)
        rw [ef, bdE, if_pos rfl]
theorem c_wet {R : Rw} {ν : x_M} {T : St} {n : Nat} (hn : n ≤ 40) (h : Later ν T R) (hd : T.day + n ≤ 20000) : ∃ ν', f_X2_staysWet (XC ad D cA) 2 (Int32.ofNat n) ν = some (if wetN n T then 1 else 0, ν') ∧ frA askC ν ν' :=
  c_wetL (by omega) n 0 4096 0 ν T (by omega) (by omega) rfl h hd
theorem iI_s {z : Int} : Int32.ofInt z + 1 = Int32.ofInt (z + 1) := by rw [Int32.ofInt_add]; rfl
theorem c_mayL {a n : Nat} (hn : n ≤ 40) (ha : a < S.n) : ∀ (m F : Nat) (d : Int) (x : Int32) (μ : x_M), d + m = 31 → -30 ≤ d → m < F → x = Int32.ofInt d → NowC μ S R → S.day ≤ 9999 → ∃ μ', f_X2_leastDaily_L4 (XC ad D cA) F 2 100 (Int32.ofNat a) (Int32.ofNat n) x μ = some (Int32.ofInt (mayN S a n m d), μ') ∧ frA askC μ μ' := by
  intro m
  induction m with
  | zero =>
    intro F d x μ hk hd0 hF hx h hd
    obtain ⟨f, rfl⟩ : ∃ n, F = n + 1 := ⟨F - 1, by omega⟩
    have hc : (30 : Int32) < x := by rw [hx]; exact (gtI 30 30 rfl (by decide) (by omega)).mpr (by omega)
    unfold f_X2_leastDaily_L4
    simp only [↓reduceIte, hc]
    exact ⟨μ, rfl, frA.rf⟩
  | succ m ih =>
    intro F d x μ hk hd0 hF hx h hd
    obtain ⟨f, rfl⟩ : ∃ n, F = n + 1 := ⟨F - 1, by omega⟩
    have hc : ¬ (30 : Int32) < Int32.ofInt d := fun z => by have := (gtI 30 30 rfl (by decide) (by omega)).mp z; omega
    have h6 := h.2.2.2.1.1.1.1
    obtain ⟨μ1, e, l, f1⟩ := h.begin (ad := ad) (D := D) (cA := cA)
    have ef := c_find (ad := ad) (D := D) (cA := cA) l.1 l.2.2 ha
    have hz : (304 + a = 0) = False := eq_false (by omega)
    have hB : isB 300 := Or.inr (Or.inr rfl)
    have ka := (kBa hB (i := a) (by omega)).1
    have l2 : Later (x_sI μ1 (304 + a) 6 (Int32.ofInt d)) (S.wDl a d) R := l.w (l.1.wDl h6 (by omega)) (l.2.2.wDl (by omega)) (by omega)
    have f2 : frA askC μ1 (x_sI μ1 (304 + a) 6 (Int32.ofInt d)) := (frC.sI (P := askC) (by unfold askC; omega)).A (fun _ _ z => z)
    simp only [Nat.reduceAdd] at ka ef
    unfold f_X2_leastDaily_L4
    simp only [↓ckE, ↓ltE, ↓reduceIte, kC, CK, CP h.1.1.2, CP l.1.1.2, Nat.reduceAdd, hc, e, ef, hz, ka, bdE, hx]
    generalize x_sI μ1 (304 + a) 6 (Int32.ofInt d) = μ2 at l2 f2 ⊢
    obtain ⟨μ3, e3, f3⟩ := c_wet (ad := ad) (D := D) (cA := cA) hn l2 (by show S.day + n ≤ 20000; omega)
    simp only [e3, bdE]
    have F3 := (f1.tr f2).tr f3
    show ∃ μ', _ = some (Int32.ofInt (if wetN n (S.wDl a d) then d else mayN S a n m (d + 1)), μ') ∧ _
    by_cases q : wetN n (S.wDl a d) = true
    · rw [if_pos q, if_pos q, if_neg (by decide)]
      exact ⟨μ3, rfl, F3⟩
    · rw [if_neg q, if_neg q, if_pos rfl]
      obtain ⟨μ', r1, r2⟩ := ih f (d + 1) (Int32.ofInt d + 1) μ3 (by omega) (by omega) (by omega) iI_s (h.ask F3) hd
      exact ⟨μ', r1, F3.tr r2⟩
theorem r_mayL {a n : Nat} {w : Int32} {K : Nat → Int32 → Int32 → Int32 → x_M → Option (Int32 × x_M)} {ν0 : x_M} (hO : Ok S) (hn : n ≤ 40) (ha : a < S.n) (hd : S.day ≤ 9999) : ∀ (m F : Nat) (d d0 : Int) (x : Int32) (ν : x_M), d + m = 31 → -30 ≤ d → m < F → x = Int32.ofInt d → StR ν (S.wDl a d0) → frC (plR 609 a) ν0 ν → ∃ ν' d', f_X10_may_L43 (XR ad D cA) K F 600 (Int32.ofNat a) (Int32.ofNat n) w (-5000) x ν = K 600 (Int32.ofNat a) w (Int32.ofInt (mayN S a n m d)) ν' ∧ StR ν' (S.wDl a d') ∧ frC (plR 609 a) ν0 ν' := by
  have h6 := hO.1.1.1
  have hx6 : x_ix (Int32.ofNat a) 6 := iN_ix (by omega) (by omega)
  have hcl : (Int32.ofNat a).toNatClampNeg = a := iN_cl (by omega)
  intro m
  induction m with
  | zero =>
    intro F d d0 x ν hk hd0 hF hx h hf
    obtain ⟨f, rfl⟩ : ∃ n, F = n + 1 := ⟨F - 1, by omega⟩
    have hc : (31 : Int32) ≤ x := by rw [hx]; exact (geI 31 31 rfl (by decide) (by omega)).mpr (by omega)
    unfold f_X10_may_L43
    simp only [↓reduceIte, hc]
    exact ⟨ν, d0, rfl, h, hf⟩
  | succ m ih =>
    intro F d d0 x ν hk hd0 hF hx h hf
    obtain ⟨f, rfl⟩ : ∃ n, F = n + 1 := ⟨F - 1, by omega⟩
    have hc : ¬ (31 : Int32) ≤ Int32.ofInt d := fun z => by have := (geI 31 31 rfl (by decide) (by omega)).mp z; omega
    have h1 : StR (x_sI ν 609 a (Int32.ofInt d)) (S.wDl a d) := by
      have := h.wDl (i := a) (z := d) h6
      have e : (S.wDl a d0).wDl a d = S.wDl a d := by
        show S.upd S.bk (updI (updI S.dl a d0) a d) S.wet S.town S.day = _
        rw [updI_2]; rfl
      rw [e] at this
      exact this
    have f1 : frC (plR 609 a) ν (x_sI ν 609 a (Int32.ofInt d)) := frC.sI (Or.inr ⟨rfl, rfl⟩)
    unfold f_X10_may_L43
    simp only [↓ckE, ↓ltE, ↓reduceIte, kR, lR, RK, RN, RP h.1, Nat.reduceAdd, hc, true_and, ↓ixT hx6, hcl, hx]
    generalize x_sI ν 609 a (Int32.ofInt d) = ν1 at h1 f1 ⊢
    obtain ⟨ν2, e2, g2⟩ := r_isAbove (ad := ad) (D := D) (cA := cA) hn h1 (hO.wDl (by omega)) (by show S.day + n ≤ 20000; omega)
    have h2 : StR ν2 (S.wDl a d) := h1.ask h6 g2
    have F2 := (hf.tr f1).tr g2.pl
    simp only [e2, bdE]
    show ∃ ν' d', _ = K 600 (Int32.ofNat a) w (Int32.ofInt (if wetN n (S.wDl a d) then d else mayN S a n m (d + 1))) ν' ∧ _
    by_cases q : wetN n (S.wDl a d) = true
    · rw [if_pos q, if_pos q, if_neg (by decide)]
      obtain ⟨f', rfl⟩ : ∃ n, f = n + 1 := ⟨f - 1, by omega⟩
      have h5 : ¬ Int32.ofInt d = (-5000 : Int32) := fun z => by
        have := (iI_inj (b := -5000) (by omega) (by decide)).mp z; omega
      refine ⟨ν2, d, ?_, h2, F2⟩
      unfold f_X10_may_L43
      rw [if_neg h5, ite_self]
    · rw [if_neg q, if_neg q, if_pos rfl]
      exact ih f (d + 1) d (Int32.ofInt d + 1) ν2 (by omega) (by omega) (by omega) iI_s h2 F2
theorem p_may {x y : Int32} (h : Pair μ ν S R) : Same (f_X9_may (XC ad D cA) 1 x y μ) (f_X10_may (XR ad D cA) 600 x y ν) μ ν := by
  have hd := h.2.2
  have h6 := h.n6
  unfold f_X9_may f_X10_may
  rcases h.acc (ad := ad) (D := D) (cA := cA) x with ⟨a, ha, rfl, k1, k2⟩ | ⟨-, k1, k2⟩
  · have hz : (104 + a = 0) = False := eq_false (by omega)
    by_cases q : (1 : Int32) ≤ y ∧ y ≤ 12
    · obtain ⟨n, hn1, hn, rfl⟩ := inN 1 12 1 12 rfl rfl (by decide) (by decide) q
      have hx6 : x_ix (Int32.ofNat a) 6 := iN_ix (by omega) (by omega)
      have hcl : (Int32.ofNat a).toNatClampNeg = a := iN_cl (by omega)
      obtain ⟨μ2, e2, f2⟩ := c_mayL (ad := ad) (D := D) (cA := cA) (n := n) (by omega) ha 61 4096 (-30) (-30) μ (by omega) (by omega) (by omega) rfl h.1 hd
      obtain ⟨ν2, d', g2, j2, F2⟩ := r_mayL (ad := ad) (D := D) (cA := cA) (a := a) (n := n) (w := ν.1 609 a) (K := fun (v21 : Nat) (v22 : Int32) (v23 : Int32) (v24 : Int32) (μ25 : x_M) => (ck (x_kd (XR ad D cA) v21 = 10 + 1) (lt (μ25.2.1 v21 8) (fun (v26 : Nat) => (ck (x_kd (XR ad D cA) v26 = 20 ∧ x_ix v22 (x_ln (XR ad D cA) v26)) (lt (x_sI μ25 v26 (v22).toNatClampNeg v23) (fun (μ27 : x_M) => (some (v24, μ27))))))))) (ν0 := ν) h.ok (by omega) ha hd 61 4096 (-30) (S.dl a) (-30) ν (by omega) (by omega) (by omega) rfl (by
        have e : S.wDl a (S.dl a) = S := by
          show S.upd S.bk (updI S.dl a (S.dl a)) S.wet S.town S.day = S
          rw [updI_s]; rfl
        rw [e]; exact h.2.1) frC.rf
      refine Same.of (r := Int32.ofInt (mayN S a n 61 (-30))) (μ' := μ2) (ν' := x_sI ν2 609 a (ν.1 609 a)) ?_ ?_ f2 F2.back
      · unfold f_X2_leastDaily
        simp only [↓ckE, ↓ltE, ↓reduceIte, kC, CK, CP h.P, Nat.reduceAdd, k1, hz, c_in, q, and_self, iE, e2, bdE]
      · simp only [↓ckE, ↓ltE, ↓reduceIte, kR, lR, RK, RN, RP h.2.1.1, Nat.reduceAdd, k2, r_in, q, and_self, iE, bdE, true_or, true_and, ↓ixT hx6, hcl]
        simp only [↓ckE, ↓ltE, ↓reduceIte, kR, lR, RK, RN, RP j2.1, Nat.reduceAdd, true_and, ↓ixT hx6, hcl] at g2
        rw [g2]
    · refine Same.now (r := -10002) ?_ ?_
      · simp only [↓ckE, ↓ltE, ↓reduceIte, kC, CK, CP h.P, Nat.reduceAdd, k1, hz, c_in, q, bdE]
      · simp only [↓ckE, ↓reduceIte, kR, RK, Nat.reduceAdd, k2, iE, r_in, q, bdE]
  · refine Same.now (r := -10001) ?_ ?_
    · simp only [↓ckE, ↓ltE, ↓reduceIte, kC, CK, CP h.P, Nat.reduceAdd, k1, bdE]
    · simp only [↓ckE, ↓reduceIte, kR, RK, Nat.reduceAdd, k2, bdE]
end ASKED2
