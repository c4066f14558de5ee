/-! ===== account: in both ===== -/
def St.wAcc (S : St) (k v : Nat) (d : Int) : St := (S.1, S.n + 1, (updN S.kd S.n k, updN S.v S.n v, updN S.sn S.n 0, fun i j => if i = S.n then 0 else S.rw i j), (updI S.bk S.n 0, updI S.dl S.n d), S.2.2.2.2)
theorem updN_ne {f : Nat → Nat} {i j z : Nat} (h : j ≠ i) : updN f i z j = f j := if_neg h
theorem updN_eq {f : Nat → Nat} {i z : Nat} : updN f i z i = z := if_pos rfl
theorem updI_ne {f : Nat → Int} {i j : Nat} {z : Int} (h : j ≠ i) : updI f i z j = f j := if_neg h
theorem updI_eq {f : Nat → Int} {i : Nat} {z : Int} : updI f i z i = z := if_pos rfl
section OPEN
variable {ad : Nat → Nat} {D : va_G} {cA : Nat → ClassId} {μ ν : x_M}
theorem c_openL {i : Nat} (hP : Pt μ) (hi : i < 6) : ∀ (m k F : Nat) (x : Int32) (ν : x_M), k + m = 4 → m < F → x = Int32.ofNat k → frC (fun o _ => o = 110 + i) μ ν → (∀ d, d < k → ν.1 (110 + i) d = 0) → ∃ ν', f_X0_open_L33 (XC ad D cA) F (104 + i) x ν = some ((), ν') ∧ frC (fun o _ => o = 110 + i) μ ν' ∧ ∀ d, d < 4 → ν'.1 (110 + i) d = 0 := by
  have hB : isB 100 := Or.inl rfl
  have ka := kBa hB hi
  simp only [Nat.reduceAdd] at ka
  intro m
  induction m with
  | zero =>
    intro k F x ν hk hF hx hf h
    obtain ⟨f, rfl⟩ : ∃ n, F = n + 1 := ⟨F - 1, by omega⟩
    have hc : (4 : Int32) ≤ x := by rw [hx]; exact (geN 4 4 rfl (by omega) (by omega)).mpr (by omega)
    unfold f_X0_open_L33
    simp only [↓reduceIte, hc]
    exact ⟨ν, rfl, hf, fun d hd => h d (by omega)⟩
  | succ m ih =>
    intro k F x ν hk hF hx hf h
    obtain ⟨f, rfl⟩ : ∃ n, F = n + 1 := ⟨F - 1, by omega⟩
    have hc : ¬ (4 : Int32) ≤ x := fun z => by rw [hx] at z; have := (geN 4 4 rfl (by omega) (by omega)).mp z; omega
    have hx4 : x_ix x 4 := by rw [hx]; exact iN_ix (by omega) (by omega)
    have hcl : x.toNatClampNeg = k := by rw [hx]; exact iN_cl (by omega)
    have pa := (pt_a hB hi (hf.Pt hP)).2
    simp only [Nat.reduceAdd] at pa
    unfold f_X0_open_L33
    simp only [↓ckE, ↓ltE, ↓reduceIte, kC, lC, ka, Nat.reduceAdd, hc, pa, true_and, ↓ixT hx4, hcl]
    refine ih (k + 1) f (x + 1) _ (by omega) (by omega) (by rw [hx]; exact iN_s) (hf.tr (frC.sI rfl)) (fun d hd => ?_)
    by_cases q : d = k
    · rw [q]; exact sI_get
    · rw [sI_ne q]; exact h d (by omega)
theorem r_openL {n : Nat} {K : Nat → x_M → Option (Int32 × x_M)} (hP : Pr μ) (hn : n < 6) (hc0 : μ.1 600 0 = Int32.ofNat n) : ∀ (m k F : Nat) (x : Int32) (ν : x_M), k + m = 4 → m < F → x = Int32.ofNat k → frC (fun o j => o = 611 ∧ 4 * n ≤ j ∧ j < 4 * n + 4) μ ν → (∀ d, d < k → ν.1 611 (4 * n + d) = 0) → ∃ ν', f_X10_account_L100 (XR ad D cA) K F 600 x ν = K 600 ν' ∧ frC (fun o j => o = 611 ∧ 4 * n ≤ j ∧ j < 4 * n + 4) μ ν' ∧ ∀ d, d < 4 → ν'.1 611 (4 * n + d) = 0 := by
  intro m
  induction m with
  | zero =>
    intro k F x ν hk hF hx hf h
    obtain ⟨f, rfl⟩ : ∃ n, F = n + 1 := ⟨F - 1, by omega⟩
    have hc : (4 : Int32) ≤ x := by rw [hx]; exact (geN 4 4 rfl (by omega) (by omega)).mpr (by omega)
    unfold f_X10_account_L100
    simp only [↓reduceIte, hc]
    exact ⟨ν, rfl, hf, fun d hd => h d (by omega)⟩
  | succ m ih =>
    intro k F x ν hk hF hx hf h
    obtain ⟨f, rfl⟩ : ∃ n, F = n + 1 := ⟨F - 1, by omega⟩
    have hc : ¬ (4 : Int32) ≤ x := fun z => by rw [hx] at z; have := (geN 4 4 rfl (by omega) (by omega)).mp z; omega
    have hc1 : ν.1 600 0 = Int32.ofNat n := by rw [hf.2 600 0 (by omega)]; exact hc0
    have e4 : (4 : Int32) * Int32.ofNat n + x = Int32.ofNat (4 * n + k) := by rw [hx, show (4 : Int32) = Int32.ofNat 4 from rfl, iN_mul, iN_add]
    have hx24 : x_ix (Int32.ofNat (4 * n + k)) 24 := iN_ix (by omega) (by omega)
    have hc24 : (Int32.ofNat (4 * n + k)).toNatClampNeg = 4 * n + k := iN_cl (by omega)
    unfold f_X10_account_L100
    simp only [↓ckE, ↓ltE, ↓reduceIte, kR, lR, RK, RN, RP (hf.Pr hP), Nat.reduceAdd, hc, hc1, e4, true_and, ↓ixT hx24, hc24]
    refine ih (k + 1) f (x + 1) _ (by omega) (by omega) (by rw [hx]; exact iN_s) (hf.tr (frC.sI ⟨rfl, by omega, by omega⟩)) (fun d hd => ?_)
    by_cases q : d = k
    · rw [q]; exact sI_get
    · rw [sI_ne (by omega)]; exact h d (by omega)
theorem q_account {x y w : Int32} (h : Rel μ ν) : SameR (f_X9_account (XC ad D cA) 1 x y w μ) (f_X10_account (XR ad D cA) 600 x y w ν) := by
  have h0 := h
  obtain ⟨S, R1, R2, R3, ⟨hp, h30⟩, ⟨hC, hR⟩, hg, ho⟩ := h
  have h6 := hp.n6
  have hn1 : μ.1 100 6 = Int32.ofNat S.n := hp.1.1.2.2.2.2.2.1.1
  have hn2 : ν.1 600 0 = Int32.ofNat S.n := hp.2.1.2.2.1.1
  unfold f_X9_account f_X10_account f_X9_isDaily f_X10_isDaily
  by_cases q : (0 : Int32) ≤ x ∧ x ≤ 6
  · by_cases q2 : (0 : Int32) ≤ y ∧ y ≤ 9
    · by_cases q3 : (-30 : Int32) ≤ w ∧ w ≤ 30
      · obtain ⟨k, -, hk, rfl⟩ := inN 0 6 0 6 rfl rfl (by decide) (by decide) q
        obtain ⟨v, -, hv, rfl⟩ := inN 0 9 0 9 rfl rfl (by decide) (by decide) q2
        obtain ⟨d, hd1, hd2, rfl⟩ := inI (-30) 30 (-30) 30 rfl rfl (by decide) (by decide) q3
        by_cases q6 : S.n = 6
        · have g1 : ¬ ((0 : Int32) ≤ Int32.ofNat S.n ∧ Int32.ofNat S.n ≤ 5) := fun z => by have := (leN 5 5 rfl (by omega) (by decide)).mp z.2; omega
          have g2 : Int32.ofNat S.n = 6 := (eqN 6 6 rfl (by omega) (by decide)).mpr q6
          refine SameR.now (r := -4) h0 ?_ ?_
          · unfold f_X7_open
            simp only [↓ckE, ↓ltE, ↓reduceIte, kC, CK, CP hp.P, Nat.reduceAdd, c_in, q, q2, q3, and_self, iE, or_true, bdE, hn1, g1]
          · simp only [↓ckE, ↓ltE, ↓reduceIte, kR, RK, Nat.reduceAdd, r_in, q, q2, q3, and_self, iE, or_true, bdE, hn2, g2]
        · have g1 : (0 : Int32) ≤ Int32.ofNat S.n ∧ Int32.ofNat S.n ≤ 5 := ⟨(geN 0 0 rfl (by decide) (by omega)).mpr (Nat.zero_le _), (leN 5 5 rfl (by omega) (by decide)).mpr (by omega)⟩
          have g2 : ¬ Int32.ofNat S.n = 6 := fun z => q6 ((eqN 6 6 rfl (by omega) (by decide)).mp z)
          have hx6 : x_ix (Int32.ofNat S.n) 6 := iN_ix (by omega) (by omega)
          have hcl : (Int32.ofNat S.n).toNatClampNeg = S.n := iN_cl (by omega)
          have hB : isB 100 := Or.inl rfl
          have ka := (kBa hB (i := S.n) (by omega)).1
          have pa := (pt_a hB (i := S.n) (by omega) hp.P).1
          simp only [Nat.reduceAdd] at ka pa
          -- the class's writes
          have A : ∃ μ1, f_X0_open (XC ad D cA) (104 + S.n) (Int32.ofNat k) (Int32.ofNat v) (Int32.ofInt d) μ = some ((), μ1) ∧ frC (fun o j => (o = 104 + S.n ∧ 2 ≤ j ∧ j ≤ 7) ∨ o = 110 + S.n) μ μ1 ∧ (μ1.1 (104 + S.n) 2 = 1 ∧ μ1.1 (104 + S.n) 3 = Int32.ofNat k ∧ μ1.1 (104 + S.n) 4 = Int32.ofNat v ∧ μ1.1 (104 + S.n) 5 = 0 ∧ μ1.1 (104 + S.n) 6 = Int32.ofInt d ∧ μ1.1 (104 + S.n) 7 = 0) ∧ ∀ j, j < 4 → μ1.1 (110 + S.n) j = 0 := by
            unfold f_X0_open
            simp only [↓ckE, ↓ltE, ↓reduceIte, kC, ka, Nat.reduceAdd, iE, or_true, and_self]
            have st : ∀ (a : x_M) (j : Nat) (z : Int32), 2 ≤ j → j ≤ 7 → frC (fun o j => (o = 104 + S.n ∧ 2 ≤ j ∧ j ≤ 7) ∨ o = 110 + S.n) a (x_sI a (104 + S.n) j z) := fun a j z p1 p2 => frC.sI (Or.inl ⟨rfl, p1, p2⟩)
            have f0 := (((((st μ 2 1 (by omega) (by omega)).tr (st _ 3 (Int32.ofNat k) (by omega) (by omega))).tr (st _ 4 (Int32.ofNat v) (by omega) (by omega))).tr (st _ 6 (Int32.ofInt d) (by omega) (by omega))).tr (st _ 5 0 (by omega) (by omega))).tr (st _ 7 0 (by omega) (by omega))
            have c0 : ∀ j, (x_sI (x_sI (x_sI (x_sI (x_sI (x_sI μ (104 + S.n) 2 1) (104 + S.n) 3 (Int32.ofNat k)) (104 + S.n) 4 (Int32.ofNat v)) (104 + S.n) 6 (Int32.ofInt d)) (104 + S.n) 5 0) (104 + S.n) 7 0).1 (104 + S.n) j = if j = 7 then 0 else if j = 5 then 0 else if j = 6 then Int32.ofInt d else if j = 4 then Int32.ofNat v else if j = 3 then Int32.ofNat k else if j = 2 then 1 else μ.1 (104 + S.n) j := fun j => by
              simp only [sI_rd, ↓reduceIte]
            generalize x_sI (x_sI (x_sI (x_sI (x_sI (x_sI μ (104 + S.n) 2 1) (104 + S.n) 3 (Int32.ofNat k)) (104 + S.n) 4 (Int32.ofNat v)) (104 + S.n) 6 (Int32.ofInt d)) (104 + S.n) 5 0) (104 + S.n) 7 0 = μ0 at f0 c0 ⊢
            obtain ⟨μ1, e1, f1, z1⟩ := c_openL (ad := ad) (D := D) (cA := cA) (i := S.n) (f0.Pt hp.P) (by omega) 4 0 4096 0 μ0 (by omega) (by omega) rfl frC.rf (fun d hd => by omega)
            have e : ∀ j, μ1.1 (104 + S.n) j = μ0.1 (104 + S.n) j := fun j => f1.2 _ j (by omega)
            refine ⟨μ1, e1, f0.tr (f1.up (fun o j z => Or.inr z)), ⟨?_, ?_, ?_, ?_, ?_, ?_⟩, z1⟩
            · rw [e, c0]; rfl
            · rw [e, c0]; rfl
            · rw [e, c0]; rfl
            · rw [e, c0]; rfl
            · rw [e, c0]; rfl
            · rw [e, c0]; rfl
          obtain ⟨μ1, e1, f1, ⟨a2, a3, a4, a5, a6, a7⟩, z1⟩ := A
          have n1 : μ1.1 100 6 = Int32.ofNat S.n := by rw [f1.2 100 6 (by omega)]; exact hn1
          have eo : f_X7_open (XC ad D cA) 100 (Int32.ofNat k) (Int32.ofNat v) (Int32.ofInt d) μ = some (Int32.ofNat S.n, x_sI μ1 100 6 (Int32.ofNat (S.n + 1))) := by
            unfold f_X7_open
            simp only [↓ckE, ↓ltE, ↓reduceIte, kC, lC, CK, CN, CP hp.P, Nat.reduceAdd, Nat.reduceEqDiff, c_in, hn1, g1, and_self, iE, bdE, true_or, true_and, ↓ixT hx6, hcl, pa, ka, e1, n1, iN_s, sI_get, iN_pred (Nat.le_add_left 1 S.n), Nat.add_sub_cancel]
          -- the reference's writes
          have st2 : ∀ (a : x_M) (o j : Nat) (z : Int32), 606 ≤ o → o ≤ 610 → j = S.n → frC (fun o j => (606 ≤ o ∧ o ≤ 610 ∧ j = S.n) ∨ (o = 611 ∧ 4 * S.n ≤ j ∧ j < 4 * S.n + 4)) a (x_sI a o j z) := fun a o j z p1 p2 p3 => frC.sI (Or.inl ⟨p1, p2, p3⟩)
          have F0 := ((((st2 ν 606 S.n (Int32.ofNat k) (by omega) (by omega) rfl).tr (st2 _ 607 S.n (Int32.ofNat v) (by omega) (by omega) rfl)).tr (st2 _ 608 S.n 0 (by omega) (by omega) rfl)).tr (st2 _ 609 S.n (Int32.ofInt d) (by omega) (by omega) rfl)).tr (st2 _ 610 S.n 0 (by omega) (by omega) rfl)
          have C0 : ∀ o, (x_sI (x_sI (x_sI (x_sI (x_sI ν 606 S.n (Int32.ofNat k)) 607 S.n (Int32.ofNat v)) 608 S.n 0) 609 S.n (Int32.ofInt d)) 610 S.n 0).1 o S.n = if o = 610 then 0 else if o = 609 then Int32.ofInt d else if o = 608 then 0 else if o = 607 then Int32.ofNat v else if o = 606 then Int32.ofNat k else ν.1 o S.n := fun o => by
            simp only [sI_rd, ↓reduceIte]
          have E10 : ∀ K, (x_sI (x_sI (x_sI (x_sI (x_sI ν 606 S.n (Int32.ofNat k)) 607 S.n (Int32.ofNat v)) 608 S.n 0) 609 S.n (Int32.ofInt d)) 610 S.n 0).1 600 0 = Int32.ofNat S.n ∧ K = (K : Nat) := fun K => ⟨by rw [F0.2 600 0 (by omega)]; exact hn2, rfl⟩
          have E10 := (E10 0).1
          have rd0 : ∀ {a : x_M} {o j : Nat} {z : Int32}, o ≠ 600 → (x_sI a o j z).1 600 0 = a.1 600 0 := fun ho => by rw [sI_no (fun w => ho w.symm)]
          have R0 : ∃ ν2, f_X10_account (XR ad D cA) 600 (Int32.ofNat k) (Int32.ofNat v) (Int32.ofInt d) ν = some (Int32.ofNat S.n, x_sI ν2 600 0 (Int32.ofNat (S.n + 1))) ∧ frC (fun o j => (606 ≤ o ∧ o ≤ 610 ∧ j = S.n) ∨ (o = 611 ∧ 4 * S.n ≤ j ∧ j < 4 * S.n + 4)) ν ν2 ∧ (ν2.1 606 S.n = Int32.ofNat k ∧ ν2.1 607 S.n = Int32.ofNat v ∧ ν2.1 608 S.n = 0 ∧ ν2.1 609 S.n = Int32.ofInt d ∧ ν2.1 610 S.n = 0) ∧ ∀ j, j < 4 → ν2.1 611 (4 * S.n + j) = 0 := by
            unfold f_X10_account f_X10_isDaily
            simp only [↓ckE, ↓ltE, ↓reduceIte, kR, lR, RK, RN, RP hp.2.1.1, sI_2, Nat.reduceAdd, r_in, q, q2, q3, and_self, iE, or_true, bdE, hn2, g2, true_and, ↓ixT hx6, hcl, sI_rd, Nat.reduceEqDiff]
            generalize x_sI (x_sI (x_sI (x_sI (x_sI ν 606 S.n (Int32.ofNat k)) 607 S.n (Int32.ofNat v)) 608 S.n 0) 609 S.n (Int32.ofInt d)) 610 S.n 0 = ν1 at F0 C0 E10 ⊢
            obtain ⟨ν2, e2, f2, z2⟩ := r_openL (ad := ad) (D := D) (cA := cA) (n := S.n) (K := fun (v32 : Nat) (μ33 : x_M) => (ck (x_kd (XR ad D cA) v32 = 10 + 1) (ck (x_kd (XR ad D cA) v32 = 10 + 1) (lt (x_sI μ33 v32 0 ((μ33.1 v32 0) + (1 : Int32))) (fun (μ34 : x_M) => (ck (x_kd (XR ad D cA) v32 = 10 + 1) (some (((μ34.1 v32 0) - (1 : Int32)), μ34)))))))) (F0.Pr hp.2.1.1) (by omega) E10 4 0 4096 0 ν1 (by omega) (by omega) rfl frC.rf (fun d hd => by omega)
            have e : ∀ o, o ≠ 611 → ∀ j, ν2.1 o j = ν1.1 o j := fun o hne j => f2.2 o j (by omega)
            simp only [↓ckE, ↓ltE, ↓reduceIte, kR, RK, Nat.reduceAdd, sI_rd] at e2
            refine ⟨ν2, ?_, F0.tr (f2.up (fun o j z => Or.inr z)), ⟨?_, ?_, ?_, ?_, ?_⟩, z2⟩
            · refine Eq.trans e2 ?_
              rw [e 600 (by omega), E10, iN_s, iN_pred (Nat.le_add_left 1 S.n), Nat.add_sub_cancel]
            · rw [e 606 (by omega), C0]; rfl
            · rw [e 607 (by omega), C0]; rfl
            · rw [e 608 (by omega), C0]; rfl
            · rw [e 609 (by omega), C0]; rfl
            · rw [e 610 (by omega), C0]; rfl
          obtain ⟨ν2, E2, F2, ⟨b1, b2, b3, b4, b5⟩, z2⟩ := R0
          have r2 := E2
          unfold f_X10_account f_X10_isDaily at r2
          refine ⟨Int32.ofNat S.n, x_sI μ1 100 6 (Int32.ofNat (S.n + 1)), x_sI ν2 600 0 (Int32.ofNat (S.n + 1)), ?_, r2, ?_⟩
          · simp only [↓ckE, ↓ltE, ↓reduceIte, kC, CK, CP hp.P, Nat.reduceAdd, c_in, q, q2, q3, and_self, iE, or_true, bdE, eo]
          · have fc : ∀ o j, ¬ ((o = 104 + S.n ∧ 2 ≤ j ∧ j ≤ 7) ∨ o = 110 + S.n) → ¬ (o = 100 ∧ j = 6) → (x_sI μ1 100 6 (Int32.ofNat (S.n + 1))).1 o j = μ.1 o j := fun o j p1 p2 => by rw [sI_off p2]; exact f1.2 o j p1
            have fa : ∀ o j, o = 104 + S.n ∨ o = 110 + S.n → (x_sI μ1 100 6 (Int32.ofNat (S.n + 1))).1 o j = μ1.1 o j := fun o j p1 => sI_off (by omega)
            have gc : ∀ o j, ¬ ((606 ≤ o ∧ o ≤ 610 ∧ j = S.n) ∨ (o = 611 ∧ 4 * S.n ≤ j ∧ j < 4 * S.n + 4)) → ¬ (o = 600 ∧ j = 0) → (x_sI ν2 600 0 (Int32.ofNat (S.n + 1))).1 o j = ν.1 o j := fun o j p1 p2 => by rw [sI_off p2]; exact F2.2 o j p1
            have ga : ∀ o j, 606 ≤ o → o ≤ 611 → (x_sI ν2 600 0 (Int32.ofNat (S.n + 1))).1 o j = ν2.1 o j := fun o j p1 p2 => sI_off (by omega)
            have hgone : S.gone = 6 := hg.1.1
            have s1 : StC (x_sI μ1 100 6 (Int32.ofNat (S.n + 1))) 100 (S.wAcc k v d) := by
              obtain ⟨⟨h1, h2⟩, h3, h4, h5, hl, ⟨t1, t2, t3, t4⟩, w1, w2⟩ := hp.1.1
              refine ⟨⟨h1, f1.Pt h2⟩, fun s hs => ?_, fun i hi => ⟨?_, ?_⟩, fun i hi => ?_, ?_, ⟨sI_get, ?_, ?_, ?_⟩, ?_, ?_⟩
              · rw [fc (100 + 2) s (by omega) (by omega)]; exact h3 s hs
              · rw [fc _ 0 (by omega) (by omega)]; exact (h4 i hi).1
              · by_cases e : i = S.n
                · rw [e, fa (100 + 4 + S.n) 2 (by omega)]
                  rw [if_pos (show (S.wAcc k v d).here S.n from ⟨Nat.lt_succ_self _, by show S.n ≠ S.gone; omega⟩)]
                  exact a2
                · rw [fc _ 2 (by omega) (by omega), (h4 i hi).2]
                  by_cases e2 : S.here i
                  · rw [if_pos e2, if_pos (show (S.wAcc k v d).here i from ⟨by have := e2.1; show i < S.n + 1; omega, e2.2⟩)]
                  · rw [if_neg e2, if_neg (fun z : (S.wAcc k v d).here i => e2 ⟨by have : i < S.n + 1 := z.1; omega, z.2⟩)]
              · have hi : i < S.n + 1 := hi
                by_cases e : i = S.n
                · subst e
                  show (_ = Int32.ofNat (updN S.kd S.n k S.n) ∧ _ = Int32.ofNat (updN S.v S.n v S.n) ∧ _ = Int32.ofNat (updN S.sn S.n 0 S.n)) ∧ (_ = Int32.ofInt (updI S.bk S.n 0 S.n) ∧ _ = Int32.ofInt (updI S.dl S.n d S.n)) ∧ ∀ j, j < 4 → _ = Int32.ofNat (if S.n = S.n then 0 else S.rw S.n j)
                  rw [updN_eq, updN_eq, updN_eq, updI_eq, updI_eq, fa (100 + 4 + S.n) 3 (by omega), fa (100 + 4 + S.n) 4 (by omega), fa (100 + 4 + S.n) 5 (by omega), fa (100 + 4 + S.n) 6 (by omega), fa (100 + 4 + S.n) 7 (by omega)]
                  exact ⟨⟨a3, a4, a7⟩, ⟨a5, a6⟩, fun j hj => by rw [if_pos rfl, fa (100 + 10 + S.n) j (by omega)]; exact z1 j hj⟩
                · obtain ⟨⟨q1, q2, q3⟩, ⟨q4, q5⟩, q6⟩ := h5 i (by omega)
                  show (_ = Int32.ofNat (updN S.kd S.n k i) ∧ _ = Int32.ofNat (updN S.v S.n v i) ∧ _ = Int32.ofNat (updN S.sn S.n 0 i)) ∧ (_ = Int32.ofInt (updI S.bk S.n 0 i) ∧ _ = Int32.ofInt (updI S.dl S.n d i)) ∧ ∀ j, j < 4 → _ = Int32.ofNat (if i = S.n then 0 else S.rw i j)
                  rw [updN_ne e, updN_ne e, updN_ne e, updI_ne e, updI_ne e, fc (100 + 4 + i) 3 (by omega) (by omega), fc (100 + 4 + i) 4 (by omega) (by omega), fc (100 + 4 + i) 5 (by omega) (by omega), fc (100 + 4 + i) 6 (by omega) (by omega), fc (100 + 4 + i) 7 (by omega) (by omega)]
                  exact ⟨⟨q1, q2, q3⟩, ⟨q4, q5⟩, fun j hj => by rw [if_neg e, fc (100 + 10 + i) j (by omega) (by omega)]; exact q6 j hj⟩
              · have : (x_sI μ1 100 6 (Int32.ofNat (S.n + 1))).2.1 100 5 = μ.2.1 100 5 := by show μ1.2.1 100 5 = _; rw [f1.1]
                rw [this]
                exact hl.us (fun o j z => fc o j (by unfold lwC at z; omega) (by unfold lwC at z; omega))
              · rw [fc 100 7 (by omega) (by omega)]; exact t2
              · rw [fc 100 8 (by omega) (by omega)]; exact t3
              · rw [fc 100 9 (by omega) (by omega)]; exact t4
              · rw [fc 100 10 (by omega) (by omega)]; exact w1
              · rw [fc 100 11 (by omega) (by omega)]; exact w2
            have s2 : StR (x_sI ν2 600 0 (Int32.ofNat (S.n + 1))) (S.wAcc k v d) := by
              obtain ⟨h1, h2, ⟨t1, t2, t3, t4⟩, h4, h5, hl, w1, w2⟩ := hp.2.1
              refine ⟨F2.Pr h1, fun s hs => ?_, ⟨sI_get, ?_, ?_, ?_⟩, fun i hi => ?_, fun i hi => ?_, hl.eq (gc 600 12 (by omega) (by omega)) (fun o p1 p2 => funext (fun j => gc o j (by omega) (by omega))), ?_, ?_⟩
              · rw [gc 605 s (by omega) (by omega)]; exact h2 s hs
              · rw [gc 600 1 (by omega) (by omega)]; exact t2
              · rw [gc 600 2 (by omega) (by omega)]; exact t3
              · rw [gc 600 3 (by omega) (by omega)]; exact t4
              · rw [gc 600 30 (by omega) (by omega)]; exact h4 i hi
              · have hi : i < S.n + 1 := hi
                by_cases e : i = S.n
                · subst e
                  show (_ = Int32.ofNat (updN S.kd S.n k S.n) ∧ _ = Int32.ofNat (updN S.v S.n v S.n) ∧ _ = Int32.ofNat (updN S.sn S.n 0 S.n)) ∧ (_ = Int32.ofInt (updI S.bk S.n 0 S.n) ∧ _ = Int32.ofInt (updI S.dl S.n d S.n)) ∧ ∀ j, j < 4 → _ = Int32.ofNat (if S.n = S.n then 0 else S.rw S.n j)
                  rw [updN_eq, updN_eq, updN_eq, updI_eq, updI_eq, ga 606 _ (by omega) (by omega), ga 607 _ (by omega) (by omega), ga 608 _ (by omega) (by omega), ga 609 _ (by omega) (by omega), ga 610 _ (by omega) (by omega)]
                  exact ⟨⟨b1, b2, b5⟩, ⟨b3, b4⟩, fun j hj => by rw [if_pos rfl, ga 611 _ (by omega) (by omega)]; exact z2 j hj⟩
                · obtain ⟨⟨q1, q2, q3⟩, ⟨q4, q5⟩, q6⟩ := h5 i (by omega)
                  show (_ = Int32.ofNat (updN S.kd S.n k i) ∧ _ = Int32.ofNat (updN S.v S.n v i) ∧ _ = Int32.ofNat (updN S.sn S.n 0 i)) ∧ (_ = Int32.ofInt (updI S.bk S.n 0 i) ∧ _ = Int32.ofInt (updI S.dl S.n d i)) ∧ ∀ j, j < 4 → _ = Int32.ofNat (if i = S.n then 0 else S.rw i j)
                  rw [updN_ne e, updN_ne e, updN_ne e, updI_ne e, updI_ne e, gc 606 i (by omega) (by omega), gc 607 i (by omega) (by omega), gc 608 i (by omega) (by omega), gc 609 i (by omega) (by omega), gc 610 i (by omega) (by omega)]
                  exact ⟨⟨q1, q2, q3⟩, ⟨q4, q5⟩, fun j hj => by rw [if_neg e, gc 611 (4 * i + j) (by omega) (by omega)]; exact q6 j hj⟩
              · rw [gc 600 31 (by omega) (by omega)]; exact w1
              · rw [gc 600 32 (by omega) (by omega)]; exact w2
            have hO : Ok (S.wAcc k v d) := by
              refine ⟨⟨⟨by show S.n + 1 ≤ 6; omega, hp.ok.1.1.2⟩, fun i hi => ?_, hp.ok.1.2.2⟩, hp.ok.2⟩
              have hi : i < S.n + 1 := hi
              show (updN S.kd S.n k i ≤ 6 ∧ updN S.v S.n v i ≤ 9 ∧ updN S.sn S.n 0 i ≤ 20) ∧ (-9999 ≤ updI S.bk S.n 0 i ∧ updI S.bk S.n 0 i ≤ 9999) ∧ (-30 ≤ updI S.dl S.n d i ∧ updI S.dl S.n d i ≤ 30) ∧ ∀ j, j < 4 → (if i = S.n then 0 else S.rw i j) ≤ 9
              by_cases e : i = S.n
              · subst e
                rw [updN_eq, updN_eq, updN_eq, updI_eq, updI_eq]
                exact ⟨⟨hk, hv, by omega⟩, ⟨by omega, by omega⟩, ⟨hd1, hd2⟩, fun j hj => by rw [if_pos rfl]; omega⟩
              · rw [updN_ne e, updN_ne e, updN_ne e, updI_ne e, updI_ne e]
                obtain ⟨q1, q2, q3, q4⟩ := hp.ok.1.2.1 i (by omega)
                exact ⟨q1, q2, q3, fun j hj => by rw [if_neg e]; exact q4 j hj⟩
            refine Rel.now (S' := S.wAcc k v d) hp h30 hC hR ho ⟨hg.1, hO, hg.2.2.1, hg.2.2.2.1, hg.2.2.2.2.1.n (Nat.le_succ _), hg.2.2.2.2.2.n (Nat.le_succ _)⟩ s1 s2 ⟨⟨by show μ1.2.2 = _; rw [f1.1], fun o j _ => by show μ1.2.1 o j = _; rw [f1.1]⟩, fun o j z => fc o j (fun w => z ?_) (fun w => z ?_)⟩ ⟨F2.1, fun o j z => gc o j (fun w => z ?_) (fun w => z ?_)⟩ (fun B hB i hi => fc _ 0 ?_ ?_) (fun o j p1 p2 => fc o j (by omega) (by omega)) (fun o j z => gc o j (by omega) (by omega))
            · unfold nwC usC lwC; omega
            · unfold nwC usC lwC; omega
            · unfold nwR; omega
            · unfold nwR; omega
            · have := hB.ge; omega
            · have := hB.ge; omega
      · refine SameR.now (r := -2) h0 ?_ ?_
        · simp only [↓ckE, ↓reduceIte, c_in, q, q2, q3, and_self, iE, bdE, true_or]
        · simp only [↓ckE, ↓reduceIte, kR, RK, Nat.reduceAdd, r_in, q, q2, q3, and_self, iE, bdE, true_or]
    · refine SameR.now (r := -2) h0 ?_ ?_
      · simp only [↓reduceIte, c_in, q, q2, and_self, iE, bdE]
      · simp only [↓ckE, ↓reduceIte, kR, RK, Nat.reduceAdd, r_in, q, q2, and_self, iE, bdE]
  · refine SameR.now (r := -1) h0 ?_ ?_
    · simp only [↓reduceIte, c_in, q, bdE]
    · simp only [↓ckE, ↓reduceIte, kR, RK, Nat.reduceAdd, r_in, q, bdE]
end OPEN
