/-! ===== wells, odds, without: in both ===== -/
section ASKED3
variable {ad : Nat → Nat} {D : va_G} {cA : Nat → ClassId} {μ ν : x_M} {S : St} {R : Rw}
theorem c_welL {n : Nat} (hn : n ≤ 40) : ∀ (m k F : Nat) (x : Int32) (μ : x_M), k + m = 100 → m < F → x = Int32.ofNat k → NowC μ S R → S.day ≤ 9999 → ∃ μ', f_X2_leastWell_L2 (XC ad D cA) F 2 100 (Int32.ofNat n) x μ = some (encO (welN S n m k), μ') ∧ frA askC μ μ' := by
  intro m
  induction m with
  | zero =>
    intro k F x μ hk hF hx h hd
    obtain ⟨f, rfl⟩ : ∃ n, F = n + 1 := ⟨F - 1, by omega⟩
    have hc : (99 : Int32) < x := by rw [hx]; exact (gtN 99 99 rfl (by decide) (by omega)).mpr (by omega)
    unfold f_X2_leastWell_L2
    simp only [↓reduceIte, hc]
    exact ⟨μ, rfl, frA.rf⟩
  | succ m ih =>
    intro k F x μ hk hF hx h hd
    obtain ⟨f, rfl⟩ : ∃ n, F = n + 1 := ⟨F - 1, by omega⟩
    have hc : ¬ (99 : Int32) < Int32.ofNat k := fun z => by have := (gtN 99 99 rfl (by decide) (by omega)).mp z; omega
    have h6 := h.2.2.2.1.1.1.1
    obtain ⟨μ1, e, l, f1⟩ := h.begin (ad := ad) (D := D) (cA := cA)
    have l2 : Later (x_sI μ1 300 10 (Int32.ofNat k)) (S.wW k) R := l.w (l.1.wW h6) (l.2.2.wW (by omega)) (by omega)
    have f2 : frA askC μ1 (x_sI μ1 300 10 (Int32.ofNat k)) := (frC.sI (P := askC) (by unfold askC; omega)).A (fun _ _ z => z)
    unfold f_X2_leastWell_L2
    simp only [↓ckE, ↓ltE, ↓reduceIte, kC, CK, CP h.1.1.2, CP l.1.1.2, Nat.reduceAdd, hc, e, bdE, hx]
    generalize x_sI μ1 300 10 (Int32.ofNat k) = μ2 at l2 f2 ⊢
    obtain ⟨μ3, e3, f3⟩ := c_wet (ad := ad) (D := D) (cA := cA) hn l2 (by show S.day + n ≤ 20000; omega)
    simp only [e3, bdE]
    have F3 := (f1.tr f2).tr f3
    show ∃ μ', _ = some (encO (if wetN n (S.wW k) then some k else welN S n m (k + 1)), μ') ∧ _
    by_cases q : wetN n (S.wW k) = true
    · rw [if_pos q, if_pos q, if_neg (by decide)]
      exact ⟨μ3, rfl, F3⟩
    · rw [if_neg q, if_neg q, if_pos rfl]
      obtain ⟨μ', r1, r2⟩ := ih (k + 1) f (Int32.ofNat k + 1) μ3 (by omega) (by omega) iN_s (h.ask F3) hd
      exact ⟨μ', r1, F3.tr r2⟩
theorem r_welL {n : Nat} {ν0 : x_M} (hO : Ok S) (hn : n ≤ 40) (hd : S.day ≤ 9999) (h31 : ν0.1 600 31 = 0) : ∀ (m k w0 F : Nat) (x : Int32) (ν : x_M), k + m = 100 → m < F → x = Int32.ofNat k → StR ν (S.wW w0) → frC (plR 600 31) ν0 ν → ∃ ν', f_X10_wells_L19 (XR ad D cA) F 600 (Int32.ofNat n) (-5) x ν = some (encO (welN S n m k), ν') ∧ frC askR ν0 ν' := by
  have h6 := hO.1.1.1
  have back : ∀ ν, frC (plR 600 31) ν0 ν → frC askR ν0 (x_sI ν 600 31 0) := fun ν hf => by
    have := hf.back
    rw [h31] at this
    exact this
  intro m
  induction m with
  | zero =>
    intro k w0 F x ν hk hF hx h hf
    obtain ⟨f, rfl⟩ : ∃ n, F = n + 1 := ⟨F - 1, by omega⟩
    have hc : (100 : Int32) ≤ x := by rw [hx]; exact (geN 100 100 rfl (by decide) (by omega)).mpr (by omega)
    unfold f_X10_wells_L19
    simp only [↓ckE, ↓ltE, ↓reduceIte, kR, RK, Nat.reduceAdd, hc]
    exact ⟨_, rfl, back ν hf⟩
  | succ m ih =>
    intro k w0 F x ν hk hF hx h hf
    obtain ⟨f, rfl⟩ : ∃ n, F = n + 1 := ⟨F - 1, by omega⟩
    have hc : ¬ (100 : Int32) ≤ Int32.ofNat k := fun z => by have := (geN 100 100 rfl (by decide) (by omega)).mp z; omega
    have h05 : ¬ (0 : Int32) ≤ -5 := by decide
    have h1 : StR (x_sI ν 600 31 (Int32.ofNat k)) (S.wW k) := h.wW (w := k) h6
    have f1 : frC (plR 600 31) ν (x_sI ν 600 31 (Int32.ofNat k)) := frC.sI (Or.inr ⟨rfl, rfl⟩)
    unfold f_X10_wells_L19
    simp only [↓ckE, ↓ltE, ↓reduceIte, kR, RK, Nat.reduceAdd, hx, hc, h05]
    generalize x_sI ν 600 31 (Int32.ofNat k) = ν1 at h1 f1 ⊢
    obtain ⟨ν2, e2, g2⟩ := r_isAbove (ad := ad) (D := D) (cA := cA) hn h1 (hO.wW (by omega)) (by show S.day + n ≤ 20000; omega)
    have h2 : StR ν2 (S.wW k) := h1.ask h6 g2
    have F2 := (hf.tr f1).tr g2.pl
    simp only [e2, bdE]
    show ∃ ν', _ = some (encO (if wetN n (S.wW k) then some k else welN S n m (k + 1)), ν') ∧ _
    by_cases q : wetN n (S.wW k) = true
    · rw [if_pos q, if_pos q, if_neg (by decide)]
      obtain ⟨f', rfl⟩ : ∃ n, f = n + 1 := ⟨f - 1, by omega⟩
      have h0 : (0 : Int32) ≤ Int32.ofNat k := (geN 0 0 rfl (by decide) (by omega)).mpr (Nat.zero_le _)
      refine ⟨_, ?_, back ν2 F2⟩
      unfold f_X10_wells_L19
      simp only [↓ckE, ↓ltE, ↓reduceIte, kR, RK, Nat.reduceAdd, h0, ite_self]
      rfl
    · rw [if_neg q, if_neg q, if_pos rfl]
      exact ih (k + 1) k f (Int32.ofNat k + 1) ν2 (by omega) (by omega) iN_s h2 F2
theorem p_wells {x : Int32} (h : Pair μ ν S R) : Same (f_X9_wells (XC ad D cA) 1 x μ) (f_X10_wells (XR ad D cA) 600 x ν) μ ν := by
  have hd := h.2.2
  unfold f_X9_wells f_X10_wells
  by_cases q : (1 : Int32) ≤ x ∧ x ≤ 10
  · obtain ⟨n, hn1, hn, rfl⟩ := inN 1 10 1 10 rfl rfl (by decide) (by decide) q
    obtain ⟨μ2, e2, f2⟩ := c_welL (ad := ad) (D := D) (cA := cA) (n := n) (by omega) 100 0 4096 0 μ (by omega) (by omega) rfl h.1 hd
    have h31 : ν.1 600 31 = 0 := by rw [h.2.1.2.2.2.2.2.2.1, h.1.2.1.2.1]; rfl
    obtain ⟨ν2, g2, F2⟩ := r_welL (ad := ad) (D := D) (cA := cA) (n := n) (ν0 := ν) h.ok (by omega) hd h31 100 0 S.wells 4096 0 ν (by omega) (by omega) rfl h.2.1 frC.rf
    refine Same.of (r := encO (welN S n 100 0)) (μ' := μ2) (ν' := ν2) ?_ ?_ f2 F2
    · unfold f_X2_leastWell
      simp only [↓ckE, ↓ltE, ↓reduceIte, kC, CK, CP h.P, Nat.reduceAdd, c_in, q, and_self, iE, e2, bdE]
    · simp only [↓ckE, ↓ltE, ↓reduceIte, kR, RK, Nat.reduceAdd, r_in, q, and_self, iE, bdE]
      exact g2
  · refine Same.now (r := -2) ?_ ?_
    · simp only [c_in, q, ↓reduceIte, bdE]
    · simp only [↓ckE, ↓reduceIte, kR, RK, Nat.reduceAdd, r_in, q, bdE]
theorem c_oddL {n : Nat} {y : Int32} {K : Int32 → Int32 → Int32 → x_M → Option (Int64 × x_M)} (hn : n ≤ 20) : ∀ (m k F s : Nat) (x : Int32) (μ : x_M), k + m = n → m < F → x = Int32.ofNat k → NowC μ S R → S.day ≤ 9999 → ∃ μ', f_X2_springlessOdds_L6 (XC ad D cA) K F 2 100 (Int32.ofNat n) y (Int32.ofNat s) x μ = K (Int32.ofNat n) y (Int32.ofNat (s + oddN S n m k)) μ' ∧ frA askC μ μ' := by
  intro m
  induction m with
  | zero =>
    intro k F s x μ hk hF hx h hd
    obtain ⟨f, rfl⟩ : ∃ n, F = n + 1 := ⟨F - 1, by omega⟩
    have hc : Int32.ofNat n ≤ x := by rw [hx]; exact (iN_le (by omega) (by omega)).mpr (by omega)
    unfold f_X2_springlessOdds_L6
    rw [if_pos hc]
    exact ⟨μ, rfl, frA.rf⟩
  | succ m ih =>
    intro k F s x μ hk hF hx h hd
    obtain ⟨f, rfl⟩ : ∃ n, F = n + 1 := ⟨F - 1, by omega⟩
    have hc : ¬ Int32.ofNat n ≤ Int32.ofNat k := fun z => by have := (iN_le (by omega) (by omega)).mp z; omega
    have h6 := h.2.2.2.1.1.1.1
    obtain ⟨μ1, e, l, f1⟩ := h.begin (ad := ad) (D := D) (cA := cA)
    have h' := h.ask f1
    have hday : μ1.1 100 9 = Int32.ofNat S.day := h'.1.2.2.2.2.2.1.2.2.2
    have ed : Int32.ofNat S.day + Int32.ofNat k = Int32.ofInt ((S.day : Int) + k) := by rw [iN_I, iN_I, ← Int32.ofInt_add]
    have l2 : Later (x_sI μ1 300 11 (Int32.ofInt ((S.day : Int) + k))) (S.wD ((S.day : Int) + k)) R := l.w (l.1.wD h6) (l.2.2.wD (by omega)) (by omega)
    have f2 : frA askC μ1 (x_sI μ1 300 11 (Int32.ofInt ((S.day : Int) + k))) := (frC.sI (P := askC) (by unfold askC; omega)).A (fun _ _ z => z)
    unfold f_X2_springlessOdds_L6
    simp only [↓ckE, ↓ltE, ↓reduceIte, kC, CK, CP h.1.1.2, CP l.1.1.2, Nat.reduceAdd, hx, hc, e, bdE, hday, ed]
    generalize x_sI μ1 300 11 (Int32.ofInt ((S.day : Int) + k)) = μ2 at l2 f2 ⊢
    obtain ⟨μ3, e3, f3⟩ := c_wet (ad := ad) (D := D) (cA := cA) (n := n) (by omega) l2 (by show S.day + n ≤ 20000; omega)
    simp only [e3, bdE]
    have F3 := (f1.tr f2).tr f3
    show ∃ μ', _ = K (Int32.ofNat n) y (Int32.ofNat (s + ((if wetN n (S.wD ((S.day : Int) + k)) then 0 else 1) + oddN S n m (k + 1)))) μ' ∧ _
    by_cases q : wetN n (S.wD ((S.day : Int) + k)) = true
    · rw [if_pos q, if_pos q, if_neg (by decide)]
      obtain ⟨μ', r1, r2⟩ := ih (k + 1) f s (Int32.ofNat k + 1) μ3 (by omega) (by omega) iN_s (h.ask F3) hd
      exact ⟨μ', by rw [r1, Nat.zero_add], F3.tr r2⟩
    · rw [if_neg q, if_neg q, if_pos rfl, iN_s]
      obtain ⟨μ', r1, r2⟩ := ih (k + 1) f (s + 1) (Int32.ofNat k + 1) μ3 (by omega) (by omega) iN_s (h.ask F3) hd
      exact ⟨μ', by rw [r1, Nat.add_assoc], F3.tr r2⟩
theorem r_oddL {n : Nat} {y : Int32} {K : Nat → Int32 → Int32 → Int32 → x_M → Option (Int64 × x_M)} {ν0 : x_M} (hO : Ok S) (hn : n ≤ 20) (hd : S.day ≤ 9999) : ∀ (m k F s : Nat) (d0 : Int) (x : Int32) (ν : x_M), k + m = n → m < F → x = Int32.ofNat k → StR ν (S.wD d0) → frC (plR 600 32) ν0 ν → ∃ ν', f_X10_odds_L30 (XR ad D cA) K F 600 (Int32.ofNat n) y (Int32.ofNat s) x ν = K 600 (Int32.ofNat n) y (Int32.ofNat (s + oddN S n m k)) ν' ∧ frC (plR 600 32) ν0 ν' := by
  have h6 := hO.1.1.1
  intro m
  induction m with
  | zero =>
    intro k F s d0 x ν hk hF hx h hf
    obtain ⟨f, rfl⟩ : ∃ n, F = n + 1 := ⟨F - 1, by omega⟩
    have hc : Int32.ofNat n ≤ x := by rw [hx]; exact (iN_le (by omega) (by omega)).mpr (by omega)
    unfold f_X10_odds_L30
    rw [if_pos hc]
    exact ⟨ν, rfl, hf⟩
  | succ m ih =>
    intro k F s d0 x ν hk hF hx h hf
    obtain ⟨f, rfl⟩ : ∃ n, F = n + 1 := ⟨F - 1, by omega⟩
    have hc : ¬ Int32.ofNat n ≤ Int32.ofNat k := fun z => by have := (iN_le (by omega) (by omega)).mp z; omega
    have hday : ν.1 600 1 = Int32.ofNat S.day := h.2.2.1.2.1
    have ed : Int32.ofNat S.day + Int32.ofNat k = Int32.ofInt ((S.day : Int) + k) := by rw [iN_I, iN_I, ← Int32.ofInt_add]
    have h1 : StR (x_sI ν 600 32 (Int32.ofInt ((S.day : Int) + k))) (S.wD ((S.day : Int) + k)) := h.wD h6
    have f1 : frC (plR 600 32) ν (x_sI ν 600 32 (Int32.ofInt ((S.day : Int) + k))) := frC.sI (Or.inr ⟨rfl, rfl⟩)
    unfold f_X10_odds_L30
    simp only [↓ckE, ↓ltE, ↓reduceIte, kR, RK, Nat.reduceAdd, hx, hc, hday, ed]
    generalize x_sI ν 600 32 (Int32.ofInt ((S.day : Int) + k)) = ν1 at h1 f1 ⊢
    obtain ⟨ν2, e2, g2⟩ := r_isAbove (ad := ad) (D := D) (cA := cA) (n := n) (by omega) h1 (hO.wD (by omega)) (by show S.day + n ≤ 20000; omega)
    have h2 : StR ν2 (S.wD ((S.day : Int) + k)) := h1.ask h6 g2
    have F2 := (hf.tr f1).tr g2.pl
    simp only [e2, bdE]
    show ∃ ν', _ = K 600 (Int32.ofNat n) y (Int32.ofNat (s + ((if wetN n (S.wD ((S.day : Int) + k)) then 0 else 1) + oddN S n m (k + 1)))) ν' ∧ _
    by_cases q : wetN n (S.wD ((S.day : Int) + k)) = true
    · rw [if_pos q, if_pos q, if_neg (by decide), show Int32.ofNat s + 0 = Int32.ofNat s from iN_add (b := 0)]
      obtain ⟨ν', r1, r2⟩ := ih (k + 1) f s _ (Int32.ofNat k + 1) ν2 (by omega) (by omega) iN_s h2 F2
      exact ⟨ν', by rw [r1, Nat.zero_add], r2⟩
    · rw [if_neg q, if_neg q, if_pos rfl, iN_s]
      obtain ⟨ν', r1, r2⟩ := ih (k + 1) f (s + 1) _ (Int32.ofNat k + 1) ν2 (by omega) (by omega) iN_s h2 F2
      exact ⟨ν', by rw [r1, Nat.add_assoc], r2⟩
theorem p_odds {x y : Int32} (h : Pair μ ν S R) : Same (f_X9_odds (XC ad D cA) 1 x y μ) (f_X10_odds (XR ad D cA) 600 x y ν) μ ν := by
  have hd := h.2.2
  unfold f_X9_odds f_X10_odds
  by_cases q : (1 : Int32) ≤ x ∧ x ≤ 20
  · by_cases q2 : (0 : Int32) ≤ y ∧ y ≤ 1
    · obtain ⟨n, hn1, hn, rfl⟩ := inN 1 20 1 20 rfl rfl (by decide) (by decide) q
      obtain ⟨p, -, hp, rfl⟩ := inN 0 1 0 1 rfl rfl (by decide) (by decide) q2
      have b := oddN_le (S := S) (n := n) n 0
      obtain ⟨μ2, e2, f2⟩ := c_oddL (ad := ad) (D := D) (cA := cA) (n := n) (y := Int32.ofNat p) (K := fun (v18 : Int32) (v19 : Int32) (v20 : Int32) (μ21 : x_M) => (bd (f_X9_lowestTerms (XC ad D cA) ((v20).toInt64) ((v18).toInt64) v19 μ21) (fun (v22 : Int64) (μ23 : x_M) => (some (v22, μ23))))) hn n 0 4096 0 0 μ (by omega) (by omega) rfl h.1 hd
      have h32 : ν.1 600 32 = -1 := by rw [h.2.1.2.2.2.2.2.2.2, h.1.2.1.2.2]; rfl
      obtain ⟨ν2, g2, F2⟩ := r_oddL (ad := ad) (D := D) (cA := cA) (n := n) (y := Int32.ofNat p) (ν0 := ν) (K := fun (v19 : Nat) (v20 : Int32) (v21 : Int32) (v22 : Int32) (μ23 : x_M) => (ck (x_kd (XR ad D cA) v19 = 10 + 1) (lt (x_sI μ23 v19 32 (-1 : Int32)) (fun (μ24 : x_M) => (ck (x_kd (XR ad D cA) v19 = 10 + 1) (bd (f_X10_lowestTerms (XR ad D cA) v19 v22 v20 v21 μ24) (fun (v25 : Int64) (μ26 : x_M) => (some (v25, μ26))))))))) h.ok hn hd n 0 4096 0 S.dry 0 ν (by omega) (by omega) rfl h.2.1 frC.rf
      have F3 := F2.back
      rw [h32] at F3
      have eL := r_low (ad := ad) (D := D) (cA := cA) (μ := x_sI ν2 600 32 (-1)) (a := 0 + oddN S n n 0) (b := n) (p := p) (by omega) (by omega) (by omega) hp
      refine Same.of (r := lowT p (0 + oddN S n n 0) n) (μ' := μ2) (ν' := x_sI ν2 600 32 (-1)) ?_ ?_ f2 F3
      · unfold f_X2_springlessOdds
        simp only [↓ckE, ↓ltE, ↓reduceIte, kC, CK, CP h.P, Nat.reduceAdd, c_in, c_part, q, q2, and_self, iE, bdE]
        rw [show (0 : Int32) = Int32.ofNat 0 from rfl] at *
        rw [e2, i2l (by omega), i2l (by omega), c_low (by omega) (by omega) hp, bdE, bdE]
      · simp only [↓ckE, ↓ltE, ↓reduceIte, kR, RK, Nat.reduceAdd, r_in, q, q2, and_self, iE, bdE]
        simp only [↓ckE, ↓ltE, ↓reduceIte, kR, RK, Nat.reduceAdd] at g2
        rw [show (0 : Int32) = Int32.ofNat 0 from rfl] at *
        rw [g2, eL, bdE]
    · refine Same.now (r := -9223372036854775808) ?_ ?_
      · simp only [↓reduceIte, c_in, c_part, q, q2, and_self, iE, bdE]
      · simp only [↓ckE, ↓reduceIte, kR, RK, Nat.reduceAdd, r_in, q, q2, and_self, iE, bdE]
  · refine Same.now (r := -9223372036854775808) ?_ ?_
    · simp only [c_in, q, ↓reduceIte, bdE]
    · simp only [↓ckE, ↓reduceIte, kR, RK, Nat.reduceAdd, r_in, q, bdE]
theorem r_waterB {n : Nat} (hn : n ≤ 40) {T : St} (h : StR ν T) (hO : Ok T) (hd : T.day + n ≤ 20000) : ∃ ν', f_X10_waterBehind (XR ad D cA) 600 (Int32.ofNat n) ν = some (Int32.ofNat (T.goN n).wet, ν') ∧ frC askR ν ν' := by
  obtain ⟨ν1, g1, j, b⟩ := r_begin (ad := ad) (D := D) (cA := cA) h hO
  obtain ⟨ν2, g2, j2⟩ := r_goDays (ad := ad) (D := D) (cA := cA) hn j hd
  obtain ⟨ν3, g3, g4⟩ := b ν2 j2.2.2
  have hw2 : ν2.1 600 2 = Int32.ofNat (T.goN n).wet := j2.1.2.2.1.2.2.1
  refine ⟨ν3, ?_, g4⟩
  unfold f_X10_waterBehind
  simp only [↓ckE, ↓ltE, ↓reduceIte, kR, RK, Nat.reduceAdd, g1, g2, g3, hw2, bdE]
theorem c_w20 {n : Nat} {v : Int32} (hn : n < 2 ^ 31) : ∀ (m k F : Nat) (x : Int32) (ν : x_M) (T : St), k + m = n → m < F → x = Int32.ofNat k → Later ν T R → T.day + m ≤ 20000 → ∃ ν', f_X2_waterBy_L20 (XC ad D cA) F 2 (Int32.ofNat n) v x ν = some (v - Int32.ofNat (T.goN m).wet, ν') ∧ frA askC ν ν' := by
  intro m
  induction m with
  | zero =>
    intro k F x ν T hk hF hx h hd
    obtain ⟨f, rfl⟩ : ∃ n, F = n + 1 := ⟨F - 1, by omega⟩
    have hc : Int32.ofNat n ≤ x := by rw [hx]; exact (iN_le (by omega) (by omega)).mpr (by omega)
    have hw : ν.1 300 7 = Int32.ofNat T.wet := h.1.2.2.2.2.2.1.2.1
    unfold f_X2_waterBy_L20
    simp only [↓ckE, ↓ltE, ↓reduceIte, kC, CK, CP h.1.1.2, Nat.reduceAdd, hc, hw]
    exact ⟨ν, rfl, frA.rf⟩
  | succ m ih =>
    intro k F x ν T hk hF hx h hd
    obtain ⟨f, rfl⟩ : ∃ n, F = n + 1 := ⟨F - 1, by omega⟩
    have hc : ¬ Int32.ofNat n ≤ x := fun z => by rw [hx] at z; have := (iN_le (by omega) (by omega)).mp z; omega
    obtain ⟨ν1, e1, h1, -, f1⟩ := c_day (ad := ad) (D := D) (cA := cA) h (by omega)
    unfold f_X2_waterBy_L20
    simp only [↓ckE, ↓ltE, ↓reduceIte, kC, CK, CP h.1.1.2, Nat.reduceAdd, hc, e1, bdE]
    obtain ⟨ν', r1, r3⟩ := ih (k + 1) f (x + 1) ν1 T.goDay (by omega) (by omega) (by rw [hx]; exact iN_s) h1 (by rw [St.goDay_day]; omega)
    exact ⟨ν', r1, f1.tr r3⟩
/-- the copy without somebody -/
theorem c_beginW {a : Nat} (h : NowC μ S R) (ha : a < S.n) : ∃ ν, f_X2_beginWithout (XC ad D cA) 2 100 (Int32.ofNat a) μ = some ((), ν) ∧ Later ν (S.wG a) R ∧ frA askC μ ν := by
  have h6 := h.2.2.2.1.1.1.1
  obtain ⟨μ1, e, l, f⟩ := h.begin (ad := ad) (D := D) (cA := cA)
  have ef := c_find (ad := ad) (D := D) (cA := cA) l.1 l.2.2 ha
  have hz : (304 + a = 0) = False := eq_false (by omega)
  have hB : isB 300 := Or.inr (Or.inr rfl)
  have ka := (kBa hB (i := a) (by omega)).1
  simp only [Nat.reduceAdd] at ka ef
  refine ⟨x_sI μ1 (304 + a) 2 0, ?_, l.w (l.1.wG h6 h.2.1.1 ha) l.2.2.wG (by omega), f.tr ((frC.sI (P := askC) (by unfold askC; omega)).A (fun _ _ z => z))⟩
  unfold f_X2_beginWithout
  simp only [↓ckE, ↓ltE, ↓reduceIte, kC, CK, CP h.1.1.2, CP l.1.1.2, Nat.reduceAdd, e, ef, hz, ka, true_or, true_and, bdE]
theorem p_without {x y : Int32} (h : Pair μ ν S R) (h30 : ν.1 600 30 = -1) : Same (f_X9_without (XC ad D cA) 1 x y μ) (f_X10_without (XR ad D cA) 600 x y ν) μ ν := by
  have hd := h.2.2
  have h6 := h.n6
  unfold f_X9_without f_X10_without
  rcases h.acc (ad := ad) (D := D) (cA := cA) x with ⟨a, ha, rfl, k1, k2⟩ | ⟨-, k1, k2⟩
  · have hz : (104 + a = 0) = False := eq_false (by omega)
    by_cases q : (1 : Int32) ≤ y ∧ y ≤ 40
    · obtain ⟨n, hn1, hn, rfl⟩ := inN 1 40 1 40 rfl rfl (by decide) (by decide) q
      obtain ⟨μ1, e, l, f⟩ := h.1.begin (ad := ad) (D := D) (cA := cA)
      obtain ⟨μ2, e2, l2, f2⟩ := c_afterL (ad := ad) (D := D) (cA := cA) (n := n) (by omega) n 0 4096 0 μ1 S (by omega) (by omega) rfl l (by omega)
      have hw : μ2.1 300 7 = Int32.ofNat (S.goN n).wet := l2.1.2.2.2.2.2.1.2.1
      obtain ⟨μ3, e3, l3, f3⟩ := c_beginW (ad := ad) (D := D) (cA := cA) (h.1.ask (f.tr f2)) ha
      obtain ⟨μ4, e4, f4⟩ := c_w20 (ad := ad) (D := D) (cA := cA) (n := n) (v := Int32.ofNat (S.goN n).wet) (by omega) n 0 4096 0 μ3 (S.wG a) (by omega) (by omega) rfl l3 (by show S.day + n ≤ 20000; omega)
      obtain ⟨ν1, g1, G1⟩ := r_waterB (ad := ad) (D := D) (cA := cA) hn h.2.1 h.ok (by omega)
      have s1 := h.2.1.ask h6 G1
      have s2 : StR (x_sI ν1 600 30 (Int32.ofNat a)) (S.wG a) := s1.wG h6 (fun i hi => iN_inj (by omega) (by omega))
      have G2 : frC (plR 600 30) ν1 (x_sI ν1 600 30 (Int32.ofNat a)) := frC.sI (Or.inr ⟨rfl, rfl⟩)
      obtain ⟨ν3, g3, G3⟩ := r_waterB (ad := ad) (D := D) (cA := cA) hn s2 h.ok.wG (by show S.day + n ≤ 20000; omega)
      have F2 : frC askR ν (x_sI ν3 600 30 (ν.1 600 30)) := ((G1.pl.tr G2).tr G3.pl).back
      rw [h30] at F2
      refine Same.of (r := Int32.ofNat (S.goN n).wet - Int32.ofNat ((S.wG a).goN n).wet) (μ' := μ4) (ν' := x_sI ν3 600 30 (-1)) ?_ ?_ (((f.tr f2).tr f3).tr f4) F2
      · unfold f_X2_waterBy f_X2_after
        simp only [↓ckE, ↓ltE, ↓reduceIte, kC, CK, CP h.P, Nat.reduceAdd, k1, hz, c_in, q, and_self, iE, e, e2, hw, e3, e4, bdE]
      · simp only [↓ckE, ↓ltE, ↓reduceIte, kR, RK, Nat.reduceAdd, k2, r_in, q, and_self, iE, g1, g3, bdE]
    · refine Same.now (r := -100002) ?_ ?_
      · simp only [↓ckE, ↓ltE, ↓reduceIte, kC, CK, CP h.P, Nat.reduceAdd, k1, hz, c_in, q, bdE]
      · simp only [↓ckE, ↓reduceIte, kR, RK, Nat.reduceAdd, k2, iE, r_in, q, bdE]
  · refine Same.now (r := -100001) ?_ ?_
    · simp only [↓ckE, ↓ltE, ↓reduceIte, kC, CK, CP h.P, Nat.reduceAdd, k1, bdE]
    · simp only [↓ckE, ↓reduceIte, kR, RK, Nat.reduceAdd, k2, bdE]
end ASKED3
