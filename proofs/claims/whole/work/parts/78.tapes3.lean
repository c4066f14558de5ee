/-! ===== shift, judge: in both ===== -/
section TAPES3
variable {ad : Nat → Nat} {D : va_G} {cA : Nat → ClassId} {μ ν : x_M}
theorem r_sh1 {t i n : Nat} {w1 w2 : Int32} {K : Nat → Int32 → Int32 → Int32 → x_M → Option (Int32 × x_M)} (hP : Pr ν) (ht : t < 6) (hin : i + n ≤ 60) : ∀ (m k F : Nat) (x : Int32) (ν1 : x_M), k + m = n → m < F → x = Int32.ofNat k → (ν1.1 = ν.1 ∧ ν1.2.1 = ν.2.1) → (∀ o, o ≠ 677 → ν1.2.2 o = ν.2.2 o) → (∀ j, j < k → ν1.2.2 677 j = ν.2.2 676 (60 * t + i + j)) → ∃ ν', f_X10_shift_L104 (XR ad D cA) K F 600 (Int32.ofNat t) (Int32.ofNat i) w1 w2 (Int32.ofNat n) x ν1 = K 600 w1 w2 (Int32.ofNat n) ν' ∧ (ν'.1 = ν.1 ∧ ν'.2.1 = ν.2.1) ∧ (∀ o, o ≠ 677 → ν'.2.2 o = ν.2.2 o) ∧ ∀ j, j < n → ν'.2.2 677 j = ν.2.2 676 (60 * t + i + j) := by
  intro m
  induction m with
  | zero =>
    intro k F x ν1 hk hF hx hf h1 h2
    obtain ⟨f, rfl⟩ : ∃ n, F = n + 1 := ⟨F - 1, by omega⟩
    have hc : Int32.ofNat n ≤ x := by rw [hx]; exact (iN_le (by omega) (by omega)).mpr (by omega)
    unfold f_X10_shift_L104
    simp only [↓reduceIte, hc]
    exact ⟨ν1, rfl, hf, h1, fun j hj => h2 j (by omega)⟩
  | succ m ih =>
    intro k F x ν1 hk hF hx hf h1 h2
    obtain ⟨f, rfl⟩ : ∃ n, F = n + 1 := ⟨F - 1, by omega⟩
    have hc : ¬ Int32.ofNat n ≤ x := fun z => by rw [hx] at z; have := (iN_le (by omega) (by omega)).mp z; omega
    have hP1 : Pr ν1 := fun o k => by rw [hf.2]; exact hP o k
    have e6 : (60 : Int32) * Int32.ofNat t + Int32.ofNat i + x = Int32.ofNat (60 * t + i + k) := by rw [hx, show (60 : Int32) = Int32.ofNat 60 from rfl, iN_mul, iN_add, iN_add]
    have hx6 : x_ix (Int32.ofNat (60 * t + i + k)) 360 := iN_ix (by omega) (by omega)
    have hcl : (Int32.ofNat (60 * t + i + k)).toNatClampNeg = 60 * t + i + k := iN_cl (by omega)
    have hxk : x_ix x 60 := by rw [hx]; exact iN_ix (by omega) (by omega)
    have hck : x.toNatClampNeg = k := by rw [hx]; exact iN_cl (by omega)
    unfold f_X10_shift_L104
    simp only [↓ckE, ↓ltE, ↓reduceIte, kR, lR, RK, RN, RP hP1, Nat.reduceAdd, hc, e6, true_and, ↓ixT hx6, hcl, ↓ixT hxk, hck]
    refine ih (k + 1) f (x + 1) _ (by omega) (by omega) (by rw [hx]; exact iN_s) ⟨hf.1, hf.2⟩ (fun o ho => ?_) (fun j hj => ?_)
    · funext p
      rw [sJ_rd, if_neg ho, h1 o ho]
    · rw [sJ_rd, if_pos rfl]
      by_cases q : j = k
      · rw [if_pos q, q, h1 676 (by omega)]
      · rw [if_neg q]; exact h2 j (by omega)
theorem r_sh2 {u j0 n : Nat} {g : Nat → Int64} (hP : Pr ν) (hu : u < 6) (hjn : j0 + n ≤ 60) (hg : ∀ j, j < n → ν.2.2 677 j = g j) : ∀ (m k F : Nat) (x : Int32) (ν1 : x_M), k + m = n → m < F → x = Int32.ofNat k → (ν1.1 = ν.1 ∧ ν1.2.1 = ν.2.1) → (∀ o, o ≠ 676 → ν1.2.2 o = ν.2.2 o) → (∀ p, ν1.2.2 676 p = if 60 * u + j0 ≤ p ∧ p < 60 * u + j0 + k then g (p - (60 * u + j0)) else ν.2.2 676 p) → ∃ ν', f_X10_shift_L141 (XR ad D cA) F 600 (Int32.ofNat u) (Int32.ofNat j0) (Int32.ofNat n) x ν1 = some (Int32.ofNat n, ν') ∧ (ν'.1 = ν.1 ∧ ν'.2.1 = ν.2.1) ∧ (∀ o, o ≠ 676 → ν'.2.2 o = ν.2.2 o) ∧ ∀ p, ν'.2.2 676 p = if 60 * u + j0 ≤ p ∧ p < 60 * u + j0 + n then g (p - (60 * u + j0)) else ν.2.2 676 p := by
  intro m
  induction m with
  | zero =>
    intro k F x ν1 hk hF hx hf h1 h2
    obtain ⟨f, rfl⟩ : ∃ n, F = n + 1 := ⟨F - 1, by omega⟩
    have hc : Int32.ofNat n ≤ x := by rw [hx]; exact (iN_le (by omega) (by omega)).mpr (by omega)
    unfold f_X10_shift_L141
    simp only [↓reduceIte, hc]
    exact ⟨ν1, rfl, hf, h1, by rw [show k = n by omega] at h2; exact h2⟩
  | succ m ih =>
    intro k F x ν1 hk hF hx hf h1 h2
    obtain ⟨f, rfl⟩ : ∃ n, F = n + 1 := ⟨F - 1, by omega⟩
    have hc : ¬ Int32.ofNat n ≤ x := fun z => by rw [hx] at z; have := (iN_le (by omega) (by omega)).mp z; omega
    have hP1 : Pr ν1 := fun o k => by rw [hf.2]; exact hP o k
    have e6 : (60 : Int32) * Int32.ofNat u + Int32.ofNat j0 + x = Int32.ofNat (60 * u + j0 + k) := by rw [hx, show (60 : Int32) = Int32.ofNat 60 from rfl, iN_mul, iN_add, iN_add]
    have hx6 : x_ix (Int32.ofNat (60 * u + j0 + k)) 360 := iN_ix (by omega) (by omega)
    have hcl : (Int32.ofNat (60 * u + j0 + k)).toNatClampNeg = 60 * u + j0 + k := iN_cl (by omega)
    have hxk : x_ix x 60 := by rw [hx]; exact iN_ix (by omega) (by omega)
    have hck : x.toNatClampNeg = k := by rw [hx]; exact iN_cl (by omega)
    unfold f_X10_shift_L141
    simp only [↓ckE, ↓ltE, ↓reduceIte, kR, lR, RK, RN, RP hP1, Nat.reduceAdd, hc, e6, true_and, ↓ixT hx6, hcl, ↓ixT hxk, hck]
    refine ih (k + 1) f (x + 1) _ (by omega) (by omega) (by rw [hx]; exact iN_s) ⟨hf.1, hf.2⟩ (fun o ho => ?_) (fun p => ?_)
    · funext p
      rw [sJ_rd, if_neg ho, h1 o ho]
    · rw [sJ_rd, if_pos rfl]
      by_cases q : p = 60 * u + j0 + k
      · rw [if_pos q, if_pos ⟨by omega, by omega⟩, h1 677 (by omega), hg k (by omega), q, Nat.add_sub_cancel_left]
      · rw [if_neg q, h2]
        by_cases q2 : 60 * u + j0 ≤ p ∧ p < 60 * u + j0 + k
        · rw [if_pos q2, if_pos ⟨q2.1, by omega⟩]
        · rw [if_neg q2, if_neg (fun z => q2 ⟨z.1, by omega⟩)]
theorem q_shift {x y z w v : Int32} (h : Rel μ ν) : SameR (f_X9_shift (XC ad D cA) 1 x y z w v μ) (f_X10_shift (XR ad D cA) 600 x y z w v ν) := by
  have h0 := h
  obtain ⟨S, R1, R2, R3, ⟨hp, h30⟩, -, hg, ho⟩ := h
  unfold f_X9_shift f_X10_shift
  rcases c_findT (ad := ad) (D := D) (cA := cA) (ν := ν) (x := x) hp.P with ⟨t, ht, rfl, e1, e2⟩ | ⟨e1, e2⟩
  · rcases c_findT (ad := ad) (D := D) (cA := cA) (ν := ν) (x := z) hp.P with ⟨u, hu, rfl, e3, e4⟩ | ⟨e3, e4⟩
    · have hz : (500 + 2 * t = 0) = False := eq_false (by omega)
      have hz' : (500 + 2 * u = 0) = False := eq_false (by omega)
      obtain ⟨k1, k2, l2, -, -⟩ := kT t ht
      obtain ⟨k1', k2', l2', -, -⟩ := kT u hu
      have p := pT hp.P ht
      have p' := pT hp.P hu
      have hx6 : x_ix (Int32.ofNat t) 6 := iN_ix (by omega) (by omega)
      have hcl : (Int32.ofNat t).toNatClampNeg = t := iN_cl (by omega)
      have hx6' : x_ix (Int32.ofNat u) 6 := iN_ix (by omega) (by omega)
      have hcl' : (Int32.ofNat u).toNatClampNeg = u := iN_cl (by omega)
      obtain ⟨s, n, hs, hn, hsn, ⟨q4, q5, q6, q7⟩, q8⟩ := ho.2.2.2.2.1.at ht
      obtain ⟨s', n', hs', hn', hsn', ⟨r4, r5, r6, r7⟩, r8⟩ := ho.2.2.2.2.1.at hu
      have ee := c_empty (ad := ad) (D := D) (cA := cA) ht hs q4
      have ee' := c_empty (ad := ad) (D := D) (cA := cA) hu hs' r4
      by_cases s0 : s < 0
      · have s1 : Int32.ofInt s < 0 := (ltI 0 0 rfl (by omega) (by decide)).mpr s0
        rw [if_pos s0] at ee
        refine SameR.now (r := -11) h0 ?_ ?_
        · simp only [↓ckE, ↓ltE, ↓reduceIte, kC, CK, Nat.reduceAdd, e1, e3, hz, hz', bdE, k1, ee, iE]
        · simp only [↓ckE, ↓ltE, ↓reduceIte, kR, lR, RK, RN, RP hp.2.1.1, Nat.reduceAdd, e2, e4, bdE, iE, true_or, true_and, ↓ixT hx6, hcl, q5, s1]
      · have s1 : ¬ Int32.ofInt s < 0 := fun g => s0 ((ltI 0 0 rfl (by omega) (by decide)).mp g)
        rw [if_neg s0] at ee
        by_cases s0' : s' < 0
        · have s1' : ¬ (0 : Int32) ≤ Int32.ofInt s' := fun g => by have := (geI 0 0 rfl (by decide) (by omega)).mp g; omega
          rw [if_pos s0'] at ee'
          refine SameR.now (r := -11) h0 ?_ ?_
          · simp only [↓ckE, ↓ltE, ↓reduceIte, kC, CK, Nat.reduceAdd, e1, e3, hz, hz', bdE, k1, k1', ee, ee', iE]
          · simp only [↓ckE, ↓ltE, ↓reduceIte, kR, lR, RK, RN, RP hp.2.1.1, Nat.reduceAdd, e2, e4, bdE, iE, true_or, true_and, ↓ixT hx6, hcl, ↓ixT hx6', hcl', q5, r5, s1, s1']
        · have s1' : (0 : Int32) ≤ Int32.ofInt s' := (geI 0 0 rfl (by decide) (by omega)).mpr (by omega)
          rw [if_neg s0'] at ee'
          by_cases es : Int32.ofInt s = Int32.ofInt s'
          · by_cases b1 : v < 0
            · refine SameR.now (r := -13) h0 ?_ ?_
              · unfold f_X8_takeFrom
                simp only [↓ckE, ↓ltE, ↓reduceIte, kC, CK, Nat.reduceAdd, e1, e3, hz, hz', bdE, k1, k1', ee, ee', iE, q4, r4, es, b1, true_or]
              · simp only [↓ckE, ↓ltE, ↓reduceIte, kR, lR, RK, RN, RP hp.2.1.1, Nat.reduceAdd, e2, e4, bdE, iE, true_or, true_and, ↓ixT hx6, hcl, ↓ixT hx6', hcl', q5, r5, s1, s1', es, b1, show ¬ Int32.ofInt s' < 0 from fun g => s1 (by rw [es]; exact g)]
            · by_cases b2 : y < 0
              · refine SameR.now (r := -13) h0 ?_ ?_
                · unfold f_X8_takeFrom
                  simp only [↓ckE, ↓ltE, ↓reduceIte, kC, CK, Nat.reduceAdd, e1, e3, hz, hz', bdE, k1, k1', ee, ee', iE, q4, r4, es, b1, b2, true_or]
                · simp only [↓ckE, ↓ltE, ↓reduceIte, kR, lR, RK, RN, RP hp.2.1.1, Nat.reduceAdd, e2, e4, bdE, iE, true_or, true_and, ↓ixT hx6, hcl, ↓ixT hx6', hcl', q5, r5, s1, s1', es, b1, b2, show ¬ Int32.ofInt s' < 0 from fun g => s1 (by rw [es]; exact g)]
              · by_cases b3 : w < 0
                · refine SameR.now (r := -13) h0 ?_ ?_
                  · unfold f_X8_takeFrom
                    simp only [↓ckE, ↓ltE, ↓reduceIte, kC, CK, Nat.reduceAdd, e1, e3, hz, hz', bdE, k1, k1', ee, ee', iE, q4, r4, es, b1, b2, b3, true_or]
                  · simp only [↓ckE, ↓ltE, ↓reduceIte, kR, lR, RK, RN, RP hp.2.1.1, Nat.reduceAdd, e2, e4, bdE, iE, true_or, true_and, ↓ixT hx6, hcl, ↓ixT hx6', hcl', q5, r5, s1, s1', es, b1, b2, b3, show ¬ Int32.ofInt s' < 0 from fun g => s1 (by rw [es]; exact g)]
                · obtain ⟨c, hc, rfl⟩ := iN_of b1
                  obtain ⟨i, hi, rfl⟩ := iN_of b2
                  obtain ⟨j, hj, rfl⟩ := iN_of b3
                  have sub : ∀ a b : Nat, Int32.ofNat a - Int32.ofNat b = Int32.ofInt ((a : Int) - b) := fun a b => by rw [iN_I, iN_I, ← Int32.ofInt_sub]
                  by_cases g1 : i + c ≤ n
                  · have c1 : ¬ Int32.ofNat n - Int32.ofNat i < Int32.ofNat c := fun g => by rw [sub, iN_I, iI_lt (by omega) (by omega)] at g; omega
                    have c2 : ¬ Int32.ofNat n - Int32.ofNat c < Int32.ofNat i := fun g => by rw [sub, iN_I, iI_lt (by omega) (by omega)] at g; omega
                    by_cases g2 : j + c ≤ n'
                    · have c3 : Int32.ofNat c ≤ Int32.ofNat n' - Int32.ofNat j := by rw [sub, iN_I, iI_le (by omega) (by omega)]; omega
                      have c4 : Int32.ofNat j ≤ Int32.ofNat n' - Int32.ofNat c := by rw [sub, iN_I, iI_le (by omega) (by omega)]; omega
                      have ok : x_cpok (XC ad D cA) (501 + 2 * t) (Int32.ofNat i) (501 + 2 * u) (Int32.ofNat j) (Int32.ofNat c) := ⟨k2, k2', b2, b3, b1, by rw [iN_cl (by omega), iN_cl (by omega), lC, l2]; omega, by rw [iN_cl (by omega), iN_cl (by omega), lC, l2']; omega⟩
                      obtain ⟨ν1, f1, ⟨f2, f3⟩, f4, f5⟩ := r_sh1 (ad := ad) (D := D) (cA := cA) (ν := ν) (t := t) (i := i) (n := c) (w1 := Int32.ofNat u) (w2 := Int32.ofNat j) (K := fun (v29 : Nat) (v30 : Int32) (v31 : Int32) (v32 : Int32) (μ33 : x_M) => (f_X10_shift_L141 (XR ad D cA) 4096 v29 v30 v31 v32 (0 : Int32) μ33)) hp.2.1.1 ht (by omega) c 0 4096 0 ν (by omega) (by omega) rfl ⟨rfl, rfl⟩ (fun _ _ => rfl) (fun j hj => by omega)
                      have hP1 : Pr ν1 := fun o k => by rw [f3]; exact hp.2.1.1 o k
                      obtain ⟨ν2, g3, ⟨g4, g5⟩, g6, g7⟩ := r_sh2 (ad := ad) (D := D) (cA := cA) (ν := ν1) (u := u) (j0 := j) (n := c) (g := fun k => ν.2.2 676 (60 * t + i + k)) hP1 hu (by omega) f5 c 0 4096 0 ν1 (by omega) (by omega) rfl ⟨rfl, rfl⟩ (fun _ _ => rfl) (fun p => by rw [if_neg (by omega)])
                      refine ⟨Int32.ofNat c, x_cp μ (501 + 2 * t) (Int32.ofNat i) (501 + 2 * u) (Int32.ofNat j) (Int32.ofNat c), ν2, ?_, ?_, ?_⟩
                      · unfold f_X8_takeFrom
                        rw [kC] at *
                        simp only [↓ckE, ↓ltE, ↓reduceIte, kC, CK, Nat.reduceAdd, e1, e3, hz, hz', bdE, k1, k1', ee, ee', iE, q4, r4, es, b1, b2, b3, q6, r6, c1, c3, p, p', or_true]
                        rw [if_pos ok]
                        rfl
                      · simp only [↓ckE, ↓ltE, ↓reduceIte, kR, lR, RK, RN, RP hp.2.1.1, Nat.reduceAdd, e2, e4, bdE, iE, true_or, true_and, ↓ixT hx6, hcl, ↓ixT hx6', hcl', q5, r5, s1, s1', es, b1, b2, b3, q7, r7, c2, c4, show ¬ Int32.ofInt s' < 0 from fun g => s1 (by rw [es]; exact g)]
                        exact Eq.trans f1 g3
                      · refine h0.tp ⟨rfl, fun _ _ _ => rfl⟩ ⟨by rw [g5, f3], fun o k _ => by rw [g4, f2]⟩ (fun a ha => ?_)
                        obtain ⟨⟨sa, na, a1, a2, a3, a4, a5, a6, a7⟩, a8⟩ := ho.2.2.2.2.1 a ha
                        refine ⟨⟨sa, na, a1, a2, a3, a4, by rw [g4, f2]; exact a5, a6, by rw [g4, f2]; exact a7⟩, fun m hm => ?_⟩
                        rw [g7, f4 676 (by omega)]
                        show (if 501 + 2 * a = 501 + 2 * u then va_cpy (μ.2.2 (501 + 2 * t)) (μ.2.2 (501 + 2 * u)) (Int32.ofNat i).toNatClampNeg (Int32.ofNat j).toNatClampNeg (Int32.ofNat c).toNatClampNeg else μ.2.2 (501 + 2 * a)) m = _
                        rw [iN_cl (by omega), iN_cl (by omega), iN_cl (by omega)]
                        by_cases e : a = u
                        · subst e
                          rw [if_pos rfl]
                          unfold va_cpy
                          by_cases r : j ≤ m ∧ m < j + c
                          · rw [if_pos r, if_pos ⟨by omega, by omega⟩, q8 (i + (m - j)) (by omega)]
                            exact congrArg (ν.2.2 676) (by omega)
                          · rw [if_neg r, if_neg (fun w => r ⟨by omega, by omega⟩)]
                            exact a8 m hm
                        · rw [if_neg (by omega), if_neg (fun w => by omega)]
                          exact a8 m hm
                    · have c3 : ¬ Int32.ofNat c ≤ Int32.ofNat n' - Int32.ofNat j := fun g => by rw [sub, iN_I, iI_le (by omega) (by omega)] at g; omega
                      have c4 : ¬ Int32.ofNat j ≤ Int32.ofNat n' - Int32.ofNat c := fun g => by rw [sub, iN_I, iI_le (by omega) (by omega)] at g; omega
                      refine SameR.now (r := -13) h0 ?_ ?_
                      · unfold f_X8_takeFrom
                        simp only [↓ckE, ↓ltE, ↓reduceIte, kC, CK, Nat.reduceAdd, e1, e3, hz, hz', bdE, k1, k1', ee, ee', iE, q4, r4, es, b1, b2, b3, q6, r6, c1, c3, true_or]
                      · simp only [↓ckE, ↓ltE, ↓reduceIte, kR, lR, RK, RN, RP hp.2.1.1, Nat.reduceAdd, e2, e4, bdE, iE, true_or, true_and, ↓ixT hx6, hcl, ↓ixT hx6', hcl', q5, r5, s1, s1', es, b1, b2, b3, q7, r7, c2, c4, show ¬ Int32.ofInt s' < 0 from fun g => s1 (by rw [es]; exact g)]
                  · have c1 : Int32.ofNat n - Int32.ofNat i < Int32.ofNat c := by rw [sub, iN_I, iI_lt (by omega) (by omega)]; omega
                    have c2 : Int32.ofNat n - Int32.ofNat c < Int32.ofNat i := by rw [sub, iN_I, iI_lt (by omega) (by omega)]; omega
                    refine SameR.now (r := -13) h0 ?_ ?_
                    · unfold f_X8_takeFrom
                      simp only [↓ckE, ↓ltE, ↓reduceIte, kC, CK, Nat.reduceAdd, e1, e3, hz, hz', bdE, k1, k1', ee, ee', iE, q4, r4, es, b1, b2, b3, q6, r6, c1, true_or]
                    · simp only [↓ckE, ↓ltE, ↓reduceIte, kR, lR, RK, RN, RP hp.2.1.1, Nat.reduceAdd, e2, e4, bdE, iE, true_or, true_and, ↓ixT hx6, hcl, ↓ixT hx6', hcl', q5, r5, s1, s1', es, b1, b2, b3, q7, r7, c2, show ¬ Int32.ofInt s' < 0 from fun g => s1 (by rw [es]; exact g)]
          · refine SameR.now (r := -12) h0 ?_ ?_
            · simp only [↓ckE, ↓ltE, ↓reduceIte, kC, CK, Nat.reduceAdd, e1, e3, hz, hz', bdE, k1, k1', ee, ee', iE, q4, r4, es]
            · simp only [↓ckE, ↓ltE, ↓reduceIte, kR, lR, RK, RN, RP hp.2.1.1, Nat.reduceAdd, e2, e4, bdE, iE, true_or, true_and, ↓ixT hx6, hcl, ↓ixT hx6', hcl', q5, r5, s1, s1', es]
    · have hz : (500 + 2 * t = 0) = False := eq_false (by omega)
      refine SameR.now (r := -1) h0 ?_ ?_
      · simp only [↓ckE, ↓ltE, ↓reduceIte, kC, CK, Nat.reduceAdd, e1, e3, hz, bdE]
      · simp only [↓ckE, ↓ltE, ↓reduceIte, kR, RK, Nat.reduceAdd, e2, e4, bdE, iE]
  · refine SameR.now (r := -1) h0 ?_ ?_
    · rcases c_findT (ad := ad) (D := D) (cA := cA) (ν := ν) (x := z) hp.P with ⟨u, hu, rfl, e3, e4⟩ | ⟨e3, e4⟩
      · simp only [↓ckE, ↓ltE, ↓reduceIte, kC, CK, Nat.reduceAdd, e1, e3, bdE]
      · simp only [↓ckE, ↓ltE, ↓reduceIte, kC, CK, Nat.reduceAdd, e1, e3, bdE]
    · simp only [↓ckE, ↓ltE, ↓reduceIte, kR, RK, Nat.reduceAdd, e2, bdE]
theorem x_judge {t : Nat} {y : Int32} (h : Rel μ ν) (ht : t < 6) : ∃ r, f_X9_judge_L33 (XC ad D cA) 4096 1 y (500 + 2 * t) 0 μ = some (r, μ) ∧ f_X10_judge_L34 (XR ad D cA) 4096 600 (Int32.ofNat t) y 0 ν = some (r, ν) := by
  obtain ⟨S, R1, R2, R3, ⟨hp, h30⟩, -, hg, ho⟩ := h
  have h6 := hp.n6
  obtain ⟨k1, k2, l2, -, -⟩ := kT t ht
  have hx6 : x_ix (Int32.ofNat t) 6 := iN_ix (by omega) (by omega)
  have hcl : (Int32.ofNat t).toNatClampNeg = t := iN_cl (by omega)
  obtain ⟨s, n, hs, hn, hsn, ⟨q4, q5, q6, q7⟩, q8⟩ := ho.2.2.2.2.1.at ht
  have hn1 : μ.1 100 6 = Int32.ofNat S.n := hp.1.1.2.2.2.2.2.1.1
  have hn2 : ν.1 600 0 = Int32.ofNat S.n := hp.2.1.2.2.1.1
  have A : ∀ (m k F : Nat) (x : Int32), k + m = S.n → m < F → x = Int32.ofNat k → ∃ r, f_X9_judge_L33 (XC ad D cA) F 1 y (500 + 2 * t) x μ = some (r, μ) ∧ f_X10_judge_L34 (XR ad D cA) F 600 (Int32.ofNat t) y x ν = some (r, ν) := by
    intro m
    induction m with
    | zero =>
      intro k F x hk hF hx
      obtain ⟨f, rfl⟩ : ∃ n, F = n + 1 := ⟨F - 1, by omega⟩
      have hc : Int32.ofNat S.n ≤ x := by rw [hx]; exact (iN_le (by omega) (by omega)).mpr (by omega)
      refine ⟨-5, ?_, ?_⟩
      · unfold f_X9_judge_L33
        simp only [↓ckE, ↓ltE, ↓reduceIte, kC, CK, CP hp.P, Nat.reduceAdd, hn1, hc]
      · unfold f_X10_judge_L34
        simp only [↓ckE, ↓ltE, ↓reduceIte, kR, RK, Nat.reduceAdd, hn2, hc]
    | succ m ih =>
      intro k F x hk hF hx
      obtain ⟨f, rfl⟩ : ∃ n, F = n + 1 := ⟨F - 1, by omega⟩
      have hc : ¬ Int32.ofNat S.n ≤ x := fun z => by rw [hx] at z; have := (iN_le (by omega) (by omega)).mp z; omega
      unfold f_X9_judge_L33 f_X10_judge_L34
      by_cases b : y < 0
      · refine ⟨100 + x, ?_, ?_⟩
        · simp only [↓ckE, ↓ltE, ↓reduceIte, kC, CK, CP hp.P, Nat.reduceAdd, hn1, hc, b]
        · simp only [↓ckE, ↓ltE, ↓reduceIte, kR, lR, RK, RN, RP hp.2.1.1, Nat.reduceAdd, hn2, hc, b, true_or, true_and, ↓ixT hx6, ite_self]
      · obtain ⟨i, hi, rfl⟩ := iN_of b
        have sub : Int32.ofNat n - x = Int32.ofInt ((n : Int) - k) := by rw [hx, iN_I, iN_I, ← Int32.ofInt_sub]
        have sub1 : Int32.ofInt ((n : Int) - k) - 1 = Int32.ofInt ((n : Int) - k - 1) := by rw [show (1 : Int32) = Int32.ofInt 1 from rfl, ← Int32.ofInt_sub]
        by_cases g : i + k < n
        · have c1 : Int32.ofNat i < Int32.ofInt ((n : Int) - k) := by rw [iN_I, iI_lt (by omega) (by omega)]; omega
          have c2 : Int32.ofNat i ≤ Int32.ofInt ((n : Int) - k - 1) := by rw [iN_I, iI_le (by omega) (by omega)]; omega
          have s0 : ¬ Int32.ofInt s < 0 := fun z => by have := (ltI 0 0 rfl (by omega) (by decide)).mp z; have := hsn this; omega
          have eik : Int32.ofNat i + x = Int32.ofNat (i + k) := by rw [hx, iN_add]
          have eg : f_X8_get (XC ad D cA) (500 + 2 * t) (Int32.ofNat (i + k)) μ = some (μ.2.2 (501 + 2 * t) (i + k), μ) := by
            rcases c_get (ad := ad) (D := D) (cA := cA) (x := Int32.ofNat (i + k)) hp.P ht hn q6 with ⟨i', hi', e', eg⟩ | ⟨nn, -⟩
            · have := (iN_inj (by omega) (by omega)).mp e'
              rw [eg, this]
            · exact absurd rfl (nn (i + k) g)
          have eb := c_bk (ad := ad) (D := D) (cA := cA) hp.1.1 hp.ok (a := k) (by omega)
          rw [← hx] at eb
          have e6 : (60 : Int32) * Int32.ofNat t + Int32.ofNat i + x = Int32.ofNat (60 * t + i + k) := by rw [hx, show (60 : Int32) = Int32.ofNat 60 from rfl, iN_mul, iN_add, iN_add]
          have hxi : x_ix (Int32.ofNat (60 * t + i + k)) 360 := iN_ix (by omega) (by omega)
          have hci : (Int32.ofNat (60 * t + i + k)).toNatClampNeg = 60 * t + i + k := iN_cl (by omega)
          have hxk : x_ix x 6 := by rw [hx]; exact iN_ix (by omega) (by omega)
          have hck : x.toNatClampNeg = k := by rw [hx]; exact iN_cl (by omega)
          have d4 := (hp.2.1.2.2.2.2.1 k (by omega)).2.1.1
          have ev : μ.2.2 (501 + 2 * t) (i + k) = ν.2.2 676 (60 * t + i + k) := by rw [q8 (i + k) (by omega), Nat.add_assoc]
          obtain ⟨r, n1, n2⟩ := ih (k + 1) f (x + 1) (by omega) (by omega) (by rw [hx]; exact iN_s)
          by_cases e : lg_cmp (ν.2.2 676 (60 * t + i + k)) (Int32.ofInt (S.bk k)).toInt64 = 0
          · refine ⟨r, ?_, ?_⟩
            · simp only [↓ckE, ↓ltE, ↓reduceIte, kC, CK, CP hp.P, Nat.reduceAdd, hn1, hc, b, k1, q6, sub, c1, eik, eg, eb, bdE, ev, e]
              exact n1
            · simp only [↓ckE, ↓ltE, ↓reduceIte, kR, lR, RK, RN, RP hp.2.1.1, Nat.reduceAdd, hn2, hc, b, true_or, true_and, ↓ixT hx6, hcl, q5, s0, q7, sub, sub1, c2, e6, ↓ixT hxi, hci, ↓ixT hxk, hck, d4, e]
              exact n2
          · refine ⟨x, ?_, ?_⟩
            · simp only [↓ckE, ↓ltE, ↓reduceIte, kC, CK, CP hp.P, Nat.reduceAdd, hn1, hc, b, k1, q6, sub, c1, eik, eg, eb, bdE, ev, e]
            · simp only [↓ckE, ↓ltE, ↓reduceIte, kR, lR, RK, RN, RP hp.2.1.1, Nat.reduceAdd, hn2, hc, b, true_or, true_and, ↓ixT hx6, hcl, q5, s0, q7, sub, sub1, c2, e6, ↓ixT hxi, hci, ↓ixT hxk, hck, d4, e]
        · have c1 : ¬ Int32.ofNat i < Int32.ofInt ((n : Int) - k) := fun z => by rw [iN_I, iI_lt (by omega) (by omega)] at z; omega
          have c2 : ¬ Int32.ofNat i ≤ Int32.ofInt ((n : Int) - k - 1) := fun z => by rw [iN_I, iI_le (by omega) (by omega)] at z; omega
          refine ⟨100 + x, ?_, ?_⟩
          · simp only [↓ckE, ↓ltE, ↓reduceIte, kC, CK, CP hp.P, Nat.reduceAdd, hn1, hc, b, k1, q6, sub, c1]
          · simp only [↓ckE, ↓ltE, ↓reduceIte, kR, lR, RK, RN, RP hp.2.1.1, Nat.reduceAdd, hn2, hc, b, true_or, true_and, ↓ixT hx6, hcl, q5, q7, sub, sub1, c2, ite_self]
  exact A S.n 0 4096 0 (by omega) (by omega) rfl
theorem q_judge {x y : Int32} (h : Rel μ ν) : SameR (f_X9_judge (XC ad D cA) 1 x y μ) (f_X10_judge (XR ad D cA) 600 x y ν) := by
  have h0 := h
  obtain ⟨S, R1, R2, R3, ⟨hp, h30⟩, -, hg, ho⟩ := h
  unfold f_X9_judge f_X10_judge
  rcases c_findT (ad := ad) (D := D) (cA := cA) (ν := ν) (x := x) hp.P with ⟨t, ht, rfl, e1, e2⟩ | ⟨e1, e2⟩
  · have hz : (500 + 2 * t = 0) = False := eq_false (by omega)
    obtain ⟨k1, k2, l2, -, -⟩ := kT t ht
    have hx6 : x_ix (Int32.ofNat t) 6 := iN_ix (by omega) (by omega)
    have hcl : (Int32.ofNat t).toNatClampNeg = t := iN_cl (by omega)
    obtain ⟨s, n, hs, hn, hsn, ⟨q4, q5, q6, q7⟩, q8⟩ := ho.2.2.2.2.1.at ht
    have ee := c_empty (ad := ad) (D := D) (cA := cA) ht hs q4
    obtain ⟨r, j1, j2⟩ := x_judge (ad := ad) (D := D) (cA := cA) (y := y) h0 ht
    unfold f_X9_judge_J30 f_X10_judge_J32
    by_cases s0 : s < 0
    · have s1 : Int32.ofInt s < 0 := (ltI 0 0 rfl (by omega) (by decide)).mpr s0
      rw [if_pos s0] at ee
      refine SameR.now (r := r) h0 ?_ ?_
      · simp only [↓ckE, ↓ltE, ↓reduceIte, kC, CK, Nat.reduceAdd, e1, hz, bdE, k1, ee, iE, j1]
      · simp only [↓ckE, ↓ltE, ↓reduceIte, kR, lR, RK, RN, RP hp.2.1.1, Nat.reduceAdd, e2, bdE, iE, true_or, true_and, ↓ixT hx6, hcl, q5, s1, j2]
    · have s1 : ¬ Int32.ofInt s < 0 := fun g => s0 ((ltI 0 0 rfl (by omega) (by decide)).mp g)
      rw [if_neg s0] at ee
      by_cases g : Int32.ofInt s = 2
      · refine SameR.now (r := r) h0 ?_ ?_
        · simp only [↓ckE, ↓ltE, ↓reduceIte, kC, CK, Nat.reduceAdd, e1, hz, bdE, k1, ee, iE, q4, g, j1]
        · simp only [↓ckE, ↓ltE, ↓reduceIte, kR, lR, RK, RN, RP hp.2.1.1, Nat.reduceAdd, e2, bdE, iE, true_or, true_and, ↓ixT hx6, hcl, q5, s1]
          rw [if_pos g]; exact j2
      · refine SameR.now (r := -12) h0 ?_ ?_
        · simp only [↓ckE, ↓ltE, ↓reduceIte, kC, CK, Nat.reduceAdd, e1, hz, bdE, k1, ee, iE, q4, g]
        · simp only [↓ckE, ↓ltE, ↓reduceIte, kR, lR, RK, RN, RP hp.2.1.1, Nat.reduceAdd, e2, bdE, iE, true_or, true_and, ↓ixT hx6, hcl, q5, s1]
          rw [if_neg g]
  · refine SameR.now (r := -1) h0 ?_ ?_
    · simp only [↓ckE, ↓ltE, ↓reduceIte, kC, CK, Nat.reduceAdd, e1, bdE]
    · simp only [↓ckE, ↓ltE, ↓reduceIte, kR, RK, Nat.reduceAdd, e2, bdE]
end TAPES3
