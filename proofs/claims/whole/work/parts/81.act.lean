/-! ===== act: in both ===== -/
def pA (a : Nat) : Nat := ([0, 0, 0, 0, 1, 2, 3] : List Nat).getD a 0
theorem kA_p : ∀ k, k ≤ 6 → k ≠ 0 → kA k = Int32.ofNat (pA k) := by decide +kernel
theorem pA_le : ∀ k, k ≤ 6 → pA k ≤ 6 := by decide +kernel
theorem bdA0 : ∀ k, k ≤ 6 → ∀ c, c ≤ 2 → (bdA (3 * k + c) = 0 → k ≠ 0) ∧ (bdA (3 * k + c) = 0 → bdA (3 * pA k + c) = 0 → bdA (3 * pA (pA k) + c) ≠ 0) := by decide +kernel
def up (k c : Nat) : Nat := if bdA (3 * k + c) = 0 then (if bdA (3 * pA k + c) = 0 then pA (pA k) else pA k) else k
def Ac (μ ν : x_M) (a k v : Nat) : Prop := (Pt μ ∧ Pr ν) ∧ (∀ o j, 801 ≤ o → μ.1 o j = cU o j) ∧ (a < 6 ∧ k ≤ 6) ∧ (μ.1 (104 + a) 0 = Int32.ofNat a ∧ μ.1 (104 + a) 3 = Int32.ofNat k ∧ μ.1 (104 + a) 4 = Int32.ofNat v) ∧ ν.1 606 a = Int32.ofNat k ∧ ν.1 607 a = Int32.ofNat v
def Jn (a k v : Nat) (μ0 ν0 μ ν : x_M) (N : Nat) : Prop := Ac μ ν a k v ∧ (frC cA' μ0 μ ∧ frC dA ν0 ν) ∧ ∃ n, n ≤ N ∧ μ.1 7 1 = Int32.ofNat n ∧ ν.1 600 71 = Int32.ofNat n ∧ ∀ j, j < n → j < 20 → μ.1 8 j = ν.1 673 j
section ACT
variable {ad : Nat → Nat} {D : va_G} {cA : Nat → ClassId} {μ ν μ0 ν0 : x_M} {a kd v N : Nat}
theorem Jn.up {M : Nat} (h : Jn a kd v μ0 ν0 μ ν N) (hM : N ≤ M) : Jn a kd v μ0 ν0 μ ν M := by
  obtain ⟨h1, h2, n, h3, h4⟩ := h
  exact ⟨h1, h2, n, by omega, h4⟩
theorem Ac.fr {μ' ν' : x_M} (h : Ac μ ν a kd v) (f : frC cA' μ μ') (g : frC dA ν ν') : Ac μ' ν' a kd v := by
  obtain ⟨⟨h1, h2⟩, h3, h4, ⟨h5, h6, h7⟩, h8, h9⟩ := h
  refine ⟨⟨f.Pt h1, g.Pr h2⟩, fun o j ho => ?_, h4, ⟨?_, ?_, ?_⟩, ?_, ?_⟩
  · rw [f.2 o j (by unfold cA'; omega)]; exact h3 o j ho
  · rw [f.2 _ _ (by unfold cA'; omega)]; exact h5
  · rw [f.2 _ _ (by unfold cA'; omega)]; exact h6
  · rw [f.2 _ _ (by unfold cA'; omega)]; exact h7
  · rw [g.2 _ _ (by unfold dA; omega)]; exact h8
  · rw [g.2 _ _ (by unfold dA; omega)]; exact h9
theorem note_j {b : Int32} (h : Jn a kd v μ0 ν0 μ ν N) (hN : N < 100) : ∃ μ' ν', f_X1_note (XC ad D cA) 7 b μ = some ((), μ') ∧ f_X10_body (XR ad D cA) 600 b ν = some ((), ν') ∧ Jn a kd v μ0 ν0 μ' ν' (N + 1) := by
  obtain ⟨h1, ⟨h2, h2'⟩, n, h3, h4, h5, h6⟩ := h
  have n1 : ¬ Int32.ofNat n < 0 := iN_neg (by omega)
  by_cases q : 20 ≤ n
  · have n2 : (20 : Int32) ≤ Int32.ofNat n := (geN 20 20 rfl (by decide) (by omega)).mpr q
    have fa : frC cA' μ (x_sI μ 7 1 (Int32.ofNat (n + 1))) := frC.sI (by unfold cA'; omega)
    have fb : frC dA ν (x_sI ν 600 71 (Int32.ofNat (n + 1))) := frC.sI (by unfold dA; omega)
    refine ⟨x_sI μ 7 1 (Int32.ofNat (n + 1)), x_sI ν 600 71 (Int32.ofNat (n + 1)), ?_, ?_, h1.fr fa fb, ⟨h2.tr fa, h2'.tr fb⟩, n + 1, by omega, sI_in, sI_in, fun j j1 j2 => ?_⟩
    · unfold f_X1_note
      simp only [↓ckE, ↓ltE, ↓reduceIte, kC, CK, Nat.reduceAdd, h4, n1, n2, iN_s]
    · unfold f_X10_body
      simp only [↓ckE, ↓ltE, ↓reduceIte, kR, RK, Nat.reduceAdd, h5, n2, iN_s]
    · rw [sI_of (by omega), sI_of (by omega)]
      exact h6 j (by omega) j2
  · have n2 : ¬ (20 : Int32) ≤ Int32.ofNat n := fun z => by have := (geN 20 20 rfl (by decide) (by omega)).mp z; omega
    have hx : x_ix (Int32.ofNat n) 20 := iN_ix (by omega) (by omega)
    have hcl : (Int32.ofNat n).toNatClampNeg = n := iN_cl (by omega)
    have fa : frC cA' μ (x_sI (x_sI μ 8 n b) 7 1 (Int32.ofNat (n + 1))) := (frC.sI (by unfold cA'; omega)).tr (frC.sI (by unfold cA'; omega))
    have fb : frC dA ν (x_sI (x_sI ν 673 n b) 600 71 (Int32.ofNat (n + 1))) := (frC.sI (by unfold dA; omega)).tr (frC.sI (by unfold dA; omega))
    have e1 : (x_sI μ 8 n b).1 7 1 = Int32.ofNat n := h4
    have e2 : (x_sI ν 673 n b).1 600 71 = Int32.ofNat n := h5
    refine ⟨_, _, ?_, ?_, h1.fr fa fb, ⟨h2.tr fa, h2'.tr fb⟩, n + 1, by omega, sI_in, sI_in, fun j j1 j2 => ?_⟩
    · unfold f_X1_note
      simp only [↓ckE, ↓ltE, ↓reduceIte, kC, lC, CK, CN, CP h1.1.1, Nat.reduceAdd, h4, n1, n2, true_and, ↓ixT hx, hcl, e1, iN_s]
    · unfold f_X10_body
      simp only [↓ckE, ↓ltE, ↓reduceIte, kR, lR, RK, RN, RP h1.1.2, Nat.reduceAdd, h5, n2, true_and, ↓ixT hx, hcl, e2, iN_s]
    · have ea : (x_sI (x_sI μ 8 n b) 7 1 (Int32.ofNat (n + 1))).1 8 j = (x_sI μ 8 n b).1 8 j := sI_of (by omega)
      have eb : (x_sI (x_sI ν 673 n b) 600 71 (Int32.ofNat (n + 1))).1 673 j = (x_sI ν 673 n b).1 673 j := sI_of (by omega)
      rw [ea, eb]
      by_cases e : j = n
      · rw [e, sI_in, sI_in]
      · rw [sI_of (by omega), sI_of (by omega)]
        exact h6 j (by omega) j2
theorem c_bodyOf {k c : Nat} (h : ∀ o j, 801 ≤ o → μ.1 o j = cU o j) (hk : k ≤ 6) (hc : c ≤ 2) : f_X1_bodyOf (XC ad D cA) (Int32.ofNat k) (Int32.ofNat c) μ = some (bdA (3 * k + c), μ) := by
  have g1 : (0 : Int32) ≤ Int32.ofNat k := (geN 0 0 rfl (by decide) (by omega)).mpr (by omega)
  have e1 : Int32.ofNat k * (3 : Int32) + Int32.ofNat c = Int32.ofNat (3 * k + c) := by rw [show (3 : Int32) = Int32.ofNat 3 from rfl, iN_mul, iN_add, Nat.mul_comm]
  have g2 : ¬ Int32.ofNat (3 * k + c) < 0 := iN_neg (by omega)
  have g3 : ¬ nI 21 ≤ Int32.ofNat (3 * k + c) := fun z => by rw [show nI 21 = Int32.ofNat 21 from rfl] at z; have := (iN_le (by omega) (by omega)).mp z; omega
  have hx : x_ix (Int32.ofNat (3 * k + c)) 21 := iN_ix (by omega) (by omega)
  have hcl : (Int32.ofNat (3 * k + c)).toNatClampNeg = 3 * k + c := iN_cl (by omega)
  have hv : μ.1 802 (3 * k + c) = bdA (3 * k + c) := by rw [h 802 _ (by omega), cU802 _ (by omega)]
  unfold f_X1_bodyOf f_X9_at
  simp only [↓ckE, ↓ltE, ↓reduceIte, kC, lC, CK, CN, g1, e1, g2, g3, true_or, or_true, true_and, ↓ixT hx, hcl, hv, bdE]
theorem bdI {o : Option (Int32 × x_M)} : bd o (fun (r : Int32) (m : x_M) => some (r, m)) = o := by
  cases o <;> rfl
theorem walkS {zc : Nat → Nat → Nat → Int32 → Int32 → Int32 → Int32 → x_M → Option (Int32 × x_M)} {K : Nat → Nat → Int32 → Int32 → Int32 → Int32 → x_M → Option (Int32 × x_M)} {p k c j F : Nat} {x t : Int32} (h : ∀ o j, 801 ≤ o → μ.1 o j = cU o j) (hk : k ≤ 6) (hc : c ≤ 2) (hj : j < 7) : f_X1_run_B_L6 (XC ad D cA) zc K (F + 1) 7 p (Int32.ofNat c) x t (Int32.ofNat k) (Int32.ofNat j) μ = if bdA (3 * k + c) = 0 then f_X1_run_B_L6 (XC ad D cA) zc K F 7 p (Int32.ofNat c) x t (Int32.ofNat (pA k)) (Int32.ofNat (j + 1)) μ else K 7 p (Int32.ofNat c) x t (Int32.ofNat k) μ := by
  have h2 : ¬ nI 7 ≤ Int32.ofNat j := fun z => by rw [show nI 7 = Int32.ofNat 7 from rfl] at z; have := (iN_le (by omega) (by omega)).mp z; omega
  have e := c_bodyOf (ad := ad) (D := D) (cA := cA) h hk hc
  have ek := c_kA (ad := ad) (D := D) (cA := cA) h hk
  have es : Int32.ofNat j + 1 = Int32.ofNat (j + 1) := iN_s
  generalize hR : f_X1_run_B_L6 (XC ad D cA) zc K F 7 p (Int32.ofNat c) x t (Int32.ofNat (pA k)) (Int32.ofNat (j + 1)) μ = R
  unfold f_X1_run_B_L6
  by_cases q : bdA (3 * k + c) = 0
  · rw [kA_p k hk ((bdA0 k hk c hc).1 q)] at ek
    simp only [↓ckE, ↓ltE, ↓reduceIte, kC, lC, CK, CN, h2, true_or, or_true, e, bdE, q, ek, es, hR]
  · simp only [↓ckE, ↓ltE, ↓reduceIte, kC, lC, CK, CN, h2, true_or, or_true, e, bdE, q]
theorem walk {zc : Nat → Nat → Nat → Int32 → Int32 → Int32 → Int32 → x_M → Option (Int32 × x_M)} {K : Nat → Nat → Int32 → Int32 → Int32 → Int32 → x_M → Option (Int32 × x_M)} {p k c F : Nat} {x t : Int32} (h : ∀ o j, 801 ≤ o → μ.1 o j = cU o j) (hk : k ≤ 6) (hc : c ≤ 2) : f_X1_run_B_L6 (XC ad D cA) zc K (F + 1 + 1 + 1) 7 p (Int32.ofNat c) x t (Int32.ofNat k) (Int32.ofNat 0) μ = K 7 p (Int32.ofNat c) x t (Int32.ofNat (up k c)) μ := by
  have p1 := pA_le k hk
  have p2 := pA_le _ p1
  unfold up
  rw [walkS h hk hc (by omega)]
  by_cases q : bdA (3 * k + c) = 0
  · rw [if_pos q, if_pos q, walkS h p1 hc (by omega)]
    by_cases q1 : bdA (3 * pA k + c) = 0
    · rw [if_pos q1, if_pos q1, walkS h p2 hc (by omega), if_neg ((bdA0 k hk c hc).2 q q1)]
    · rw [if_neg q1, if_neg q1]
  · rw [if_neg q, if_neg q]
theorem up_le : ∀ k, k ≤ 6 → ∀ c, c ≤ 2 → up k c ≤ 6 ∧ bdA (3 * up k c + c) ≠ 0 := by decide +kernel
theorem runS {μ' : x_M} {d p k c t : Nat} {x : Int32} (h : ∀ o j, 801 ≤ o → μ.1 o j = cU o j) (h' : ∀ o j, 801 ≤ o → μ'.1 o j = cU o j) (hk : k ≤ 6) (hc : c ≤ 2) (ht : t ≤ 40) (e : f_X1_note (XC ad D cA) 7 (bdA (3 * up k c + c)) μ = some ((), μ')) : z_X1_run (XC ad D cA) (d + 2) 0 7 p (Int32.ofNat k) (Int32.ofNat c) x (Int32.ofNat t) μ = f_X1_runBody_B (XC ad D cA) (z_X1_run (XC ad D cA) d) 7 p (bdA (3 * up k c + c)) (kA (up k c)) x (Int32.ofNat (t + 1)) μ' := by
  obtain ⟨u1, u2⟩ := up_le k hk c hc
  have s0 : z_X1_run (XC ad D cA) (d + 2) 0 7 p (Int32.ofNat k) (Int32.ofNat c) x (Int32.ofNat t) μ = f_X1_run_B (XC ad D cA) (z_X1_run (XC ad D cA) (d + 1)) 7 p (Int32.ofNat k) (Int32.ofNat c) x (Int32.ofNat t) μ := by
    conv => lhs; unfold z_X1_run
    exact if_pos rfl
  have s1 : ∀ b kk y m, z_X1_run (XC ad D cA) (d + 1) 1 7 p b kk x y m = f_X1_runBody_B (XC ad D cA) (z_X1_run (XC ad D cA) d) 7 p b kk x y m := fun b kk y m => by
    conv => lhs; unfold z_X1_run
    exact (if_neg (by decide)).trans (if_pos rfl)
  have s2 : ∀ F, F + 3 = 4096 → ∀ K, f_X1_run_B_L6 (XC ad D cA) (z_X1_run (XC ad D cA) (d + 1)) K 4096 7 p (Int32.ofNat c) x (Int32.ofNat t) (Int32.ofNat k) 0 μ = f_X1_run_B_L6 (XC ad D cA) (z_X1_run (XC ad D cA) (d + 1)) K (F + 1 + 1 + 1) 7 p (Int32.ofNat c) x (Int32.ofNat t) (Int32.ofNat k) (Int32.ofNat 0) μ := fun F e K => by rw [← e]; rfl
  have e1 := c_bodyOf (ad := ad) (D := D) (cA := cA) h u1 hc
  have e2 := c_kA (ad := ad) (D := D) (cA := cA) h' u1
  have l1 : Int32.ofNat t ≤ 40 := (leN 40 40 rfl (by omega) (by decide)).mpr ht
  have es : Int32.ofNat t + 1 = Int32.ofNat (t + 1) := iN_s
  rw [s0]
  unfold f_X1_run_B
  rw [s2 4093 rfl, walk h hk hc]
  unfold f_X1_run_B_J37
  simp only [↓ckE, ↓ltE, ↓reduceIte, kC, CK, e1, e2, e, bdE, u2, l1, es, s1, bdI]
end ACT
