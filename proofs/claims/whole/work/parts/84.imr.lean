/-! ===== image, undo: the reference's loops ===== -/
def cpR (a b : Nat) (s : Nat → Nat) (k : Nat) (ν ν' : x_M) : Prop := ν'.2 = ν.2 ∧ ∀ o j, ν'.1 o j = if (a ≤ o ∧ o ≤ b) ∧ j < k then ν.1 (s o) j else ν.1 o j
theorem cpR.rf {a b : Nat} {s : Nat → Nat} {ν : x_M} : cpR a b s 0 ν ν := ⟨rfl, fun o j => by rw [if_neg (by omega)]⟩
theorem cpR.st {a b k : Nat} {s : Nat → Nat} {ν ν1 ν2 : x_M} (h : cpR a b s k ν ν1) (h2 : ν2.2 = ν1.2) (h3 : ∀ o j, ν2.1 o j = if (a ≤ o ∧ o ≤ b) ∧ j = k then ν1.1 (s o) j else ν1.1 o j) (hs : ∀ o, a ≤ o → o ≤ b → ¬ (a ≤ s o ∧ s o ≤ b)) : cpR a b s (k + 1) ν ν2 := by
  obtain ⟨h0, h1⟩ := h
  refine ⟨h2.trans h0, fun o j => ?_⟩
  rw [h3]
  by_cases q : a ≤ o ∧ o ≤ b
  · by_cases e : j = k
    · rw [if_pos ⟨q, e⟩, if_pos ⟨q, by omega⟩, h1, if_neg (fun z => hs o q.1 q.2 z.1)]
    · rw [if_neg (fun z => e z.2), h1]
      by_cases e2 : j < k
      · rw [if_pos ⟨q, e2⟩, if_pos ⟨q, by omega⟩]
      · rw [if_neg (fun z => e2 z.2), if_neg (fun z => by omega)]
  · rw [if_neg (fun z => q z.1), h1, if_neg (fun z => q z.1), if_neg (fun z => q z.1)]
section IMR
variable {ad : Nat → Nat} {D : va_G} {cA : Nat → ClassId} {ν : x_M}
theorem r_image_L71 {K : Nat → x_M → Option (Int32 × x_M)} (hP : Pr ν) : ∀ (m k F : Nat) (x : Int32) (ν1 : x_M), k + m = 6 → m < F → x = Int32.ofNat k → cpR 659 664 (fun o => o - 54) k ν ν1 → ∃ ν', f_X10_image_L71 (XR ad D cA) K F 600 x ν1 = K 600 ν' ∧ cpR 659 664 (fun o => o - 54) 6 ν ν' := by
  intro m
  induction m with
  | zero =>
    intro k F x ν1 hk hF hx hc
    obtain ⟨f, rfl⟩ : ∃ n, F = n + 1 := ⟨F - 1, by omega⟩
    have hl : (6 : Int32) ≤ x := by rw [hx]; exact (geN 6 6 rfl (by decide) (by omega)).mpr (by omega)
    unfold f_X10_image_L71
    simp only [↓ckE, ↓reduceIte, kR, RK, Nat.reduceAdd, hl]
    exact ⟨ν1, rfl, by rw [show k = 6 by omega] at hc; exact hc⟩
  | succ m ih =>
    intro k F x ν1 hk hF hx hc
    obtain ⟨f, rfl⟩ : ∃ n, F = n + 1 := ⟨F - 1, by omega⟩
    have hl : ¬ (6 : Int32) ≤ x := fun z => by rw [hx] at z; have := (geN 6 6 rfl (by decide) (by omega)).mp z; omega
    have hP1 : Pr ν1 := fun o k => by rw [hc.1]; exact hP o k
    have hxk : x_ix x 6 := by rw [hx]; exact iN_ix (by omega) (by omega)
    have hck : x.toNatClampNeg = k := by rw [hx]; exact iN_cl (by omega)
    unfold f_X10_image_L71
    simp only [↓ckE, ↓ltE, ↓reduceIte, kR, lR, RK, RN, sI_2, RP hP1, Nat.reduceAdd, hl, true_or, true_and, ↓ixT hxk, hck]
    refine ih (k + 1) f (x + 1) _ (by omega) (by omega) (by rw [hx]; exact iN_s) (hc.st rfl (fun o j => ?_) (fun o p1 p2 => by omega))
    simp only [sI_rd, Nat.reduceEqDiff, ↓reduceIte]
    by_cases q : 659 ≤ o ∧ o ≤ 664
    · by_cases e : j = k
      · have ho : o = 659 ∨ o = 660 ∨ o = 661 ∨ o = 662 ∨ o = 663 ∨ o = 664 := by omega
        rcases ho with rfl | rfl | rfl | rfl | rfl | rfl <;> simp only [Nat.reduceEqDiff, Nat.reduceAdd, Nat.reduceSub, Nat.reduceLeDiff, and_self, ↓reduceIte, e]
      · simp only [e, and_false, ↓reduceIte, ite_self]
    · simp only [q, false_and, show (o = 659) = False from eq_false (by omega), show (o = 660) = False from eq_false (by omega), show (o = 661) = False from eq_false (by omega), show (o = 662) = False from eq_false (by omega), show (o = 663) = False from eq_false (by omega), show (o = 664) = False from eq_false (by omega), ↓reduceIte]
theorem r_image_L157 {K : Nat → x_M → Option (Int32 × x_M)} (hP : Pr ν) : ∀ (m k F : Nat) (x : Int32) (ν1 : x_M), k + m = 24 → m < F → x = Int32.ofNat k → cpR 665 665 (fun o => o - 54) k ν ν1 → ∃ ν', f_X10_image_L157 (XR ad D cA) K F 600 x ν1 = K 600 ν' ∧ cpR 665 665 (fun o => o - 54) 24 ν ν' := by
  intro m
  induction m with
  | zero =>
    intro k F x ν1 hk hF hx hc
    obtain ⟨f, rfl⟩ : ∃ n, F = n + 1 := ⟨F - 1, by omega⟩
    have hl : (24 : Int32) ≤ x := by rw [hx]; exact (geN 24 24 rfl (by decide) (by omega)).mpr (by omega)
    unfold f_X10_image_L157
    simp only [↓ckE, ↓reduceIte, kR, RK, Nat.reduceAdd, hl]
    exact ⟨ν1, rfl, by rw [show k = 24 by omega] at hc; exact hc⟩
  | succ m ih =>
    intro k F x ν1 hk hF hx hc
    obtain ⟨f, rfl⟩ : ∃ n, F = n + 1 := ⟨F - 1, by omega⟩
    have hl : ¬ (24 : Int32) ≤ x := fun z => by rw [hx] at z; have := (geN 24 24 rfl (by decide) (by omega)).mp z; omega
    have hP1 : Pr ν1 := fun o k => by rw [hc.1]; exact hP o k
    have hxk : x_ix x 24 := by rw [hx]; exact iN_ix (by omega) (by omega)
    have hck : x.toNatClampNeg = k := by rw [hx]; exact iN_cl (by omega)
    unfold f_X10_image_L157
    simp only [↓ckE, ↓ltE, ↓reduceIte, kR, lR, RK, RN, sI_2, RP hP1, Nat.reduceAdd, hl, true_or, true_and, ↓ixT hxk, hck]
    refine ih (k + 1) f (x + 1) _ (by omega) (by omega) (by rw [hx]; exact iN_s) (hc.st rfl (fun o j => ?_) (fun o p1 p2 => by omega))
    simp only [sI_rd, Nat.reduceEqDiff, ↓reduceIte]
    by_cases q : 665 ≤ o ∧ o ≤ 665
    · by_cases e : j = k
      · have ho : o = 665 := by omega
        subst ho <;> simp only [Nat.reduceEqDiff, Nat.reduceAdd, Nat.reduceSub, Nat.reduceLeDiff, and_self, ↓reduceIte, e]
      · simp only [e, and_false, ↓reduceIte, ite_self]
    · simp only [q, false_and, show (o = 665) = False from eq_false (by omega), ↓reduceIte]
theorem r_image_L183 {K : Nat → x_M → Option (Int32 × x_M)} (hP : Pr ν) : ∀ (m k F : Nat) (x : Int32) (ν1 : x_M), k + m = 4 → m < F → x = Int32.ofNat k → cpR 666 667 (fun o => o - 24) k ν ν1 → ∃ ν', f_X10_image_L183 (XR ad D cA) K F 600 x ν1 = K 600 ν' ∧ cpR 666 667 (fun o => o - 24) 4 ν ν' := by
  intro m
  induction m with
  | zero =>
    intro k F x ν1 hk hF hx hc
    obtain ⟨f, rfl⟩ : ∃ n, F = n + 1 := ⟨F - 1, by omega⟩
    have hl : (4 : Int32) ≤ x := by rw [hx]; exact (geN 4 4 rfl (by decide) (by omega)).mpr (by omega)
    unfold f_X10_image_L183
    simp only [↓ckE, ↓reduceIte, kR, RK, Nat.reduceAdd, hl]
    exact ⟨ν1, rfl, by rw [show k = 4 by omega] at hc; exact hc⟩
  | succ m ih =>
    intro k F x ν1 hk hF hx hc
    obtain ⟨f, rfl⟩ : ∃ n, F = n + 1 := ⟨F - 1, by omega⟩
    have hl : ¬ (4 : Int32) ≤ x := fun z => by rw [hx] at z; have := (geN 4 4 rfl (by decide) (by omega)).mp z; omega
    have hP1 : Pr ν1 := fun o k => by rw [hc.1]; exact hP o k
    have hxk : x_ix x 4 := by rw [hx]; exact iN_ix (by omega) (by omega)
    have hck : x.toNatClampNeg = k := by rw [hx]; exact iN_cl (by omega)
    unfold f_X10_image_L183
    simp only [↓ckE, ↓ltE, ↓reduceIte, kR, lR, RK, RN, sI_2, RP hP1, Nat.reduceAdd, hl, true_or, true_and, ↓ixT hxk, hck]
    refine ih (k + 1) f (x + 1) _ (by omega) (by omega) (by rw [hx]; exact iN_s) (hc.st rfl (fun o j => ?_) (fun o p1 p2 => by omega))
    simp only [sI_rd, Nat.reduceEqDiff, ↓reduceIte]
    by_cases q : 666 ≤ o ∧ o ≤ 667
    · by_cases e : j = k
      · have ho : o = 666 ∨ o = 667 := by omega
        rcases ho with rfl | rfl <;> simp only [Nat.reduceEqDiff, Nat.reduceAdd, Nat.reduceSub, Nat.reduceLeDiff, and_self, ↓reduceIte, e]
      · simp only [e, and_false, ↓reduceIte, ite_self]
    · simp only [q, false_and, show (o = 666) = False from eq_false (by omega), show (o = 667) = False from eq_false (by omega), ↓reduceIte]
theorem r_image_L220 (hP : Pr ν) : ∀ (m k F : Nat) (x : Int32) (ν1 : x_M), k + m = 8 → m < F → x = Int32.ofNat k → cpR 668 671 (fun o => o - 22) k ν ν1 → ∃ ν', f_X10_image_L220 (XR ad D cA) F 600 x ν1 = some (ν'.1 600 0, ν') ∧ cpR 668 671 (fun o => o - 22) 8 ν ν' := by
  intro m
  induction m with
  | zero =>
    intro k F x ν1 hk hF hx hc
    obtain ⟨f, rfl⟩ : ∃ n, F = n + 1 := ⟨F - 1, by omega⟩
    have hl : (8 : Int32) ≤ x := by rw [hx]; exact (geN 8 8 rfl (by decide) (by omega)).mpr (by omega)
    unfold f_X10_image_L220
    simp only [↓ckE, ↓reduceIte, kR, RK, Nat.reduceAdd, hl]
    exact ⟨ν1, rfl, by rw [show k = 8 by omega] at hc; exact hc⟩
  | succ m ih =>
    intro k F x ν1 hk hF hx hc
    obtain ⟨f, rfl⟩ : ∃ n, F = n + 1 := ⟨F - 1, by omega⟩
    have hl : ¬ (8 : Int32) ≤ x := fun z => by rw [hx] at z; have := (geN 8 8 rfl (by decide) (by omega)).mp z; omega
    have hP1 : Pr ν1 := fun o k => by rw [hc.1]; exact hP o k
    have hxk : x_ix x 8 := by rw [hx]; exact iN_ix (by omega) (by omega)
    have hck : x.toNatClampNeg = k := by rw [hx]; exact iN_cl (by omega)
    unfold f_X10_image_L220
    simp only [↓ckE, ↓ltE, ↓reduceIte, kR, lR, RK, RN, sI_2, RP hP1, Nat.reduceAdd, hl, true_or, true_and, ↓ixT hxk, hck]
    refine ih (k + 1) f (x + 1) _ (by omega) (by omega) (by rw [hx]; exact iN_s) (hc.st rfl (fun o j => ?_) (fun o p1 p2 => by omega))
    simp only [sI_rd, Nat.reduceEqDiff, ↓reduceIte]
    by_cases q : 668 ≤ o ∧ o ≤ 671
    · by_cases e : j = k
      · have ho : o = 668 ∨ o = 669 ∨ o = 670 ∨ o = 671 := by omega
        rcases ho with rfl | rfl | rfl | rfl <;> simp only [Nat.reduceEqDiff, Nat.reduceAdd, Nat.reduceSub, Nat.reduceLeDiff, and_self, ↓reduceIte, e]
      · simp only [e, and_false, ↓reduceIte, ite_self]
    · simp only [q, false_and, show (o = 668) = False from eq_false (by omega), show (o = 669) = False from eq_false (by omega), show (o = 670) = False from eq_false (by omega), show (o = 671) = False from eq_false (by omega), ↓reduceIte]
theorem r_undo_L76 {K : Nat → x_M → Option (Int32 × x_M)} (hP : Pr ν) : ∀ (m k F : Nat) (x : Int32) (ν1 : x_M), k + m = 6 → m < F → x = Int32.ofNat k → cpR 605 610 (fun o => o + 54) k ν ν1 → ∃ ν', f_X10_undo_L76 (XR ad D cA) K F 600 x ν1 = K 600 ν' ∧ cpR 605 610 (fun o => o + 54) 6 ν ν' := by
  intro m
  induction m with
  | zero =>
    intro k F x ν1 hk hF hx hc
    obtain ⟨f, rfl⟩ : ∃ n, F = n + 1 := ⟨F - 1, by omega⟩
    have hl : (6 : Int32) ≤ x := by rw [hx]; exact (geN 6 6 rfl (by decide) (by omega)).mpr (by omega)
    unfold f_X10_undo_L76
    simp only [↓ckE, ↓reduceIte, kR, RK, Nat.reduceAdd, hl]
    exact ⟨ν1, rfl, by rw [show k = 6 by omega] at hc; exact hc⟩
  | succ m ih =>
    intro k F x ν1 hk hF hx hc
    obtain ⟨f, rfl⟩ : ∃ n, F = n + 1 := ⟨F - 1, by omega⟩
    have hl : ¬ (6 : Int32) ≤ x := fun z => by rw [hx] at z; have := (geN 6 6 rfl (by decide) (by omega)).mp z; omega
    have hP1 : Pr ν1 := fun o k => by rw [hc.1]; exact hP o k
    have hxk : x_ix x 6 := by rw [hx]; exact iN_ix (by omega) (by omega)
    have hck : x.toNatClampNeg = k := by rw [hx]; exact iN_cl (by omega)
    unfold f_X10_undo_L76
    simp only [↓ckE, ↓ltE, ↓reduceIte, kR, lR, RK, RN, sI_2, RP hP1, Nat.reduceAdd, hl, true_or, true_and, ↓ixT hxk, hck]
    refine ih (k + 1) f (x + 1) _ (by omega) (by omega) (by rw [hx]; exact iN_s) (hc.st rfl (fun o j => ?_) (fun o p1 p2 => by omega))
    simp only [sI_rd, Nat.reduceEqDiff, ↓reduceIte]
    by_cases q : 605 ≤ o ∧ o ≤ 610
    · by_cases e : j = k
      · have ho : o = 605 ∨ o = 606 ∨ o = 607 ∨ o = 608 ∨ o = 609 ∨ o = 610 := by omega
        rcases ho with rfl | rfl | rfl | rfl | rfl | rfl <;> simp only [Nat.reduceEqDiff, Nat.reduceAdd, Nat.reduceSub, Nat.reduceLeDiff, and_self, ↓reduceIte, e]
      · simp only [e, and_false, ↓reduceIte, ite_self]
    · simp only [q, false_and, show (o = 605) = False from eq_false (by omega), show (o = 606) = False from eq_false (by omega), show (o = 607) = False from eq_false (by omega), show (o = 608) = False from eq_false (by omega), show (o = 609) = False from eq_false (by omega), show (o = 610) = False from eq_false (by omega), ↓reduceIte]
theorem r_undo_L162 {K : Nat → x_M → Option (Int32 × x_M)} (hP : Pr ν) : ∀ (m k F : Nat) (x : Int32) (ν1 : x_M), k + m = 24 → m < F → x = Int32.ofNat k → cpR 611 611 (fun o => o + 54) k ν ν1 → ∃ ν', f_X10_undo_L162 (XR ad D cA) K F 600 x ν1 = K 600 ν' ∧ cpR 611 611 (fun o => o + 54) 24 ν ν' := by
  intro m
  induction m with
  | zero =>
    intro k F x ν1 hk hF hx hc
    obtain ⟨f, rfl⟩ : ∃ n, F = n + 1 := ⟨F - 1, by omega⟩
    have hl : (24 : Int32) ≤ x := by rw [hx]; exact (geN 24 24 rfl (by decide) (by omega)).mpr (by omega)
    unfold f_X10_undo_L162
    simp only [↓ckE, ↓reduceIte, kR, RK, Nat.reduceAdd, hl]
    exact ⟨ν1, rfl, by rw [show k = 24 by omega] at hc; exact hc⟩
  | succ m ih =>
    intro k F x ν1 hk hF hx hc
    obtain ⟨f, rfl⟩ : ∃ n, F = n + 1 := ⟨F - 1, by omega⟩
    have hl : ¬ (24 : Int32) ≤ x := fun z => by rw [hx] at z; have := (geN 24 24 rfl (by decide) (by omega)).mp z; omega
    have hP1 : Pr ν1 := fun o k => by rw [hc.1]; exact hP o k
    have hxk : x_ix x 24 := by rw [hx]; exact iN_ix (by omega) (by omega)
    have hck : x.toNatClampNeg = k := by rw [hx]; exact iN_cl (by omega)
    unfold f_X10_undo_L162
    simp only [↓ckE, ↓ltE, ↓reduceIte, kR, lR, RK, RN, sI_2, RP hP1, Nat.reduceAdd, hl, true_or, true_and, ↓ixT hxk, hck]
    refine ih (k + 1) f (x + 1) _ (by omega) (by omega) (by rw [hx]; exact iN_s) (hc.st rfl (fun o j => ?_) (fun o p1 p2 => by omega))
    simp only [sI_rd, Nat.reduceEqDiff, ↓reduceIte]
    by_cases q : 611 ≤ o ∧ o ≤ 611
    · by_cases e : j = k
      · have ho : o = 611 := by omega
        subst ho <;> simp only [Nat.reduceEqDiff, Nat.reduceAdd, Nat.reduceSub, Nat.reduceLeDiff, and_self, ↓reduceIte, e]
      · simp only [e, and_false, ↓reduceIte, ite_self]
    · simp only [q, false_and, show (o = 611) = False from eq_false (by omega), ↓reduceIte]
theorem r_undo_L188 {K : Nat → x_M → Option (Int32 × x_M)} (hP : Pr ν) : ∀ (m k F : Nat) (x : Int32) (ν1 : x_M), k + m = 4 → m < F → x = Int32.ofNat k → cpR 642 643 (fun o => o + 24) k ν ν1 → ∃ ν', f_X10_undo_L188 (XR ad D cA) K F 600 x ν1 = K 600 ν' ∧ cpR 642 643 (fun o => o + 24) 4 ν ν' := by
  intro m
  induction m with
  | zero =>
    intro k F x ν1 hk hF hx hc
    obtain ⟨f, rfl⟩ : ∃ n, F = n + 1 := ⟨F - 1, by omega⟩
    have hl : (4 : Int32) ≤ x := by rw [hx]; exact (geN 4 4 rfl (by decide) (by omega)).mpr (by omega)
    unfold f_X10_undo_L188
    simp only [↓ckE, ↓reduceIte, kR, RK, Nat.reduceAdd, hl]
    exact ⟨ν1, rfl, by rw [show k = 4 by omega] at hc; exact hc⟩
  | succ m ih =>
    intro k F x ν1 hk hF hx hc
    obtain ⟨f, rfl⟩ : ∃ n, F = n + 1 := ⟨F - 1, by omega⟩
    have hl : ¬ (4 : Int32) ≤ x := fun z => by rw [hx] at z; have := (geN 4 4 rfl (by decide) (by omega)).mp z; omega
    have hP1 : Pr ν1 := fun o k => by rw [hc.1]; exact hP o k
    have hxk : x_ix x 4 := by rw [hx]; exact iN_ix (by omega) (by omega)
    have hck : x.toNatClampNeg = k := by rw [hx]; exact iN_cl (by omega)
    unfold f_X10_undo_L188
    simp only [↓ckE, ↓ltE, ↓reduceIte, kR, lR, RK, RN, sI_2, RP hP1, Nat.reduceAdd, hl, true_or, true_and, ↓ixT hxk, hck]
    refine ih (k + 1) f (x + 1) _ (by omega) (by omega) (by rw [hx]; exact iN_s) (hc.st rfl (fun o j => ?_) (fun o p1 p2 => by omega))
    simp only [sI_rd, Nat.reduceEqDiff, ↓reduceIte]
    by_cases q : 642 ≤ o ∧ o ≤ 643
    · by_cases e : j = k
      · have ho : o = 642 ∨ o = 643 := by omega
        rcases ho with rfl | rfl <;> simp only [Nat.reduceEqDiff, Nat.reduceAdd, Nat.reduceSub, Nat.reduceLeDiff, and_self, ↓reduceIte, e]
      · simp only [e, and_false, ↓reduceIte, ite_self]
    · simp only [q, false_and, show (o = 642) = False from eq_false (by omega), show (o = 643) = False from eq_false (by omega), ↓reduceIte]
theorem r_undo_L225 (hP : Pr ν) : ∀ (m k F : Nat) (x : Int32) (ν1 : x_M), k + m = 8 → m < F → x = Int32.ofNat k → cpR 646 649 (fun o => o + 22) k ν ν1 → ∃ ν', f_X10_undo_L225 (XR ad D cA) F 600 x ν1 = some (ν'.1 600 0, ν') ∧ cpR 646 649 (fun o => o + 22) 8 ν ν' := by
  intro m
  induction m with
  | zero =>
    intro k F x ν1 hk hF hx hc
    obtain ⟨f, rfl⟩ : ∃ n, F = n + 1 := ⟨F - 1, by omega⟩
    have hl : (8 : Int32) ≤ x := by rw [hx]; exact (geN 8 8 rfl (by decide) (by omega)).mpr (by omega)
    unfold f_X10_undo_L225
    simp only [↓ckE, ↓reduceIte, kR, RK, Nat.reduceAdd, hl]
    exact ⟨ν1, rfl, by rw [show k = 8 by omega] at hc; exact hc⟩
  | succ m ih =>
    intro k F x ν1 hk hF hx hc
    obtain ⟨f, rfl⟩ : ∃ n, F = n + 1 := ⟨F - 1, by omega⟩
    have hl : ¬ (8 : Int32) ≤ x := fun z => by rw [hx] at z; have := (geN 8 8 rfl (by decide) (by omega)).mp z; omega
    have hP1 : Pr ν1 := fun o k => by rw [hc.1]; exact hP o k
    have hxk : x_ix x 8 := by rw [hx]; exact iN_ix (by omega) (by omega)
    have hck : x.toNatClampNeg = k := by rw [hx]; exact iN_cl (by omega)
    unfold f_X10_undo_L225
    simp only [↓ckE, ↓ltE, ↓reduceIte, kR, lR, RK, RN, sI_2, RP hP1, Nat.reduceAdd, hl, true_or, true_and, ↓ixT hxk, hck]
    refine ih (k + 1) f (x + 1) _ (by omega) (by omega) (by rw [hx]; exact iN_s) (hc.st rfl (fun o j => ?_) (fun o p1 p2 => by omega))
    simp only [sI_rd, Nat.reduceEqDiff, ↓reduceIte]
    by_cases q : 646 ≤ o ∧ o ≤ 649
    · by_cases e : j = k
      · have ho : o = 646 ∨ o = 647 ∨ o = 648 ∨ o = 649 := by omega
        rcases ho with rfl | rfl | rfl | rfl <;> simp only [Nat.reduceEqDiff, Nat.reduceAdd, Nat.reduceSub, Nat.reduceLeDiff, and_self, ↓reduceIte, e]
      · simp only [e, and_false, ↓reduceIte, ite_self]
    · simp only [q, false_and, show (o = 646) = False from eq_false (by omega), show (o = 647) = False from eq_false (by omega), show (o = 648) = False from eq_false (by omega), show (o = 649) = False from eq_false (by omega), ↓reduceIte]
end IMR
