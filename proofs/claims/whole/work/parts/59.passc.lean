/-! ===== the class's day ===== -/
def d2C (B o k : Nat) : Prop := scC o k ∨ (B + 4 ≤ o ∧ o ≤ B + 9 ∧ 8 ≤ k)
theorem d2C_us {B : Nat} (hB : isB B) : ∀ o k, d2C B o k → ¬ usC B o k := by
  intro o k h
  have := hB.ge
  unfold d2C scC at h
  unfold usC lwC
  omega
section PASSC
variable {ad : Nat → Nat} {D : va_G} {cA : Nat → ClassId} {μ : x_M}
def pN (S : St) (j : Nat) : Int := if j < S.n then S.pours j else 0
def sN (S : St) (j : Nat) : Nat := if j < S.n then S.sun j else 0
theorem c_p23 {B : Nat} {S : St} {K : Nat → Int32 → x_M → Option (Unit × x_M)} {y : Int32} (hO : Ok S) : ∀ (m k F : Nat) (x : Int32) (ν : x_M), k + m = 6 → m < F → x = Int32.ofNat k → StC ν B S → (∀ j, j < k → ν.1 (B + 4 + j) 8 = Int32.ofInt (pN S j) ∧ ν.1 (B + 4 + j) 9 = Int32.ofNat (sN S j)) → ∃ ν', f_X7_pass_L23 (XC ad D cA) K F B (Int32.ofNat S.level) y (B + 3) (nI 6) x ν = K B y ν' ∧ StC ν' B S ∧ (∀ j, j < 6 → ν'.1 (B + 4 + j) 8 = Int32.ofInt (pN S j) ∧ ν'.1 (B + 4 + j) 9 = Int32.ofNat (sN S j)) ∧ frC (d2C B) ν ν' := by
  intro m
  have h6 := hO.1.1.1
  induction m with
  | zero =>
    intro k F x ν hk hF hx h hj
    obtain ⟨f, rfl⟩ : ∃ n, F = n + 1 := ⟨F - 1, by omega⟩
    have hc : nI 6 ≤ x := by rw [hx]; exact (iN_le (by omega) (by omega)).mpr (by omega)
    unfold f_X7_pass_L23
    simp only [↓reduceIte, hc]
    exact ⟨ν, rfl, h, fun j hj' => hj j (by omega), frC.rf⟩
  | succ m ih =>
    intro k F x ν hk hF hx h hj
    obtain ⟨f, rfl⟩ : ∃ n, F = n + 1 := ⟨F - 1, by omega⟩
    have hc : ¬ nI 6 ≤ x := fun z => by rw [hx] at z; have := (iN_le (by omega) (by omega)).mp z; omega
    have hx6 : x_ix x 6 := by rw [hx]; exact iN_ix (by omega) (by omega)
    have hcl : x.toNatClampNeg = k := by rw [hx]; exact iN_cl (by omega)
    have hB := h.1.1
    have hg := hB.ge
    obtain ⟨k0, -, -, k3, -, l3⟩ := kB hB
    have ka := (kBa hB (i := k) (by omega)).1
    have pa := (pt_a hB (i := k) (by omega) h.1.2).1
    have kl := (lawK _ h.2.2.2.2.1.1).1
    have hrate : ν.1 (ν.2.1 B 5) 9 = Int32.ofNat S.rate := h.2.2.2.2.1.2.2.1.2.2.2
    have e1 := c_pours (ad := ad) (D := D) (cA := cA) h hO (i := k) (by omega)
    unfold f_X7_pass_L23
    simp only [↓ckE, ↓ltE, ↓reduceIte, kC, lC, k0, k3, l3, ka, kl, pa, Nat.reduceAdd, Nat.reduceEqDiff, hc, e1, bdE, sI_2, true_or, or_true, true_and, ↓ixT hx6, hcl, hrate, h.2.2.2.2.2.1.2.2.2]
    have f1 : frC (d2C B) ν (x_sI ν (B + 4 + k) 8 (Int32.ofInt (if k < S.n then S.pours k else 0))) := frC.sI (Or.inr ⟨by omega, by omega, by omega⟩)
    have h1 := h.fr h6 f1 (d2C_us hB)
    have c1 : ∀ j, j < k + 1 → (x_sI ν (B + 4 + k) 8 (Int32.ofInt (if k < S.n then S.pours k else 0))).1 (B + 4 + j) 8 = Int32.ofInt (pN S j) := by
      intro j hj'
      by_cases q : j = k
      · rw [q]; exact sI_get
      · rw [sI_no (by omega)]; exact (hj j (by omega)).1
    have c2 : ∀ j, j < k → (x_sI ν (B + 4 + k) 8 (Int32.ofInt (if k < S.n then S.pours k else 0))).1 (B + 4 + j) 9 = Int32.ofNat (sN S j) := fun j hj' => by rw [sI_no (by omega)]; exact (hj j hj').2
    generalize x_sI ν (B + 4 + k) 8 (Int32.ofInt (if k < S.n then S.pours k else 0)) = ν1 at f1 h1 c1 c2 ⊢
    obtain ⟨ν2, g1, g2⟩ := c_sun (ad := ad) (D := D) (cA := cA) h1 hO (i := k) (by omega)
    have h2 := h1.fr h6 g2 (scC_us hB)
    simp only [↓ckE, ↓ltE, ↓reduceIte, g1, bdE]
    have f3 : frC (d2C B) ν2 (x_sI ν2 (B + 4 + k) 9 (Int32.ofNat (if k < S.n then S.sun k else 0))) := frC.sI (Or.inr ⟨by omega, by omega, by omega⟩)
    have h3 := h2.fr h6 f3 (d2C_us hB)
    have g2' : frC (d2C B) ν1 ν2 := g2.up (fun _ _ z => Or.inl z)
    obtain ⟨ν', r1, r2, r3, r4⟩ := ih (k + 1) f (x + 1) _ (by omega) (by omega) (by rw [hx]; exact iN_s) h3 (fun j hj' => ⟨by
      have e : (x_sI ν2 (B + 4 + k) 9 (Int32.ofNat (if k < S.n then S.sun k else 0))).1 (B + 4 + j) 8 = ν2.1 (B + 4 + j) 8 := by
        rw [sI_rd]
        by_cases q : B + 4 + j = B + 4 + k
        · rw [if_pos q, if_neg (by omega)]
        · rw [if_neg q]
      rw [e, g2.2 (B + 4 + j) 8 (by unfold scC; omega)]; exact c1 j hj', by
      by_cases q : j = k
      · rw [q]; exact sI_get
      · rw [sI_no (by omega), g2.2 (B + 4 + j) 9 (by unfold scC; omega)]; exact c2 j (by omega)⟩)
    exact ⟨ν', r1, r2, r3, ((f1.tr g2').tr f3).tr r4⟩
theorem iI_max {a b : Int} (ha : -2147483648 ≤ a ∧ a < 2147483648) (hb : -2147483648 ≤ b ∧ b < 2147483648) : (if Int32.ofInt a < Int32.ofInt b then Int32.ofInt b else Int32.ofInt a) = Int32.ofInt (if a < b then b else a) := by
  by_cases q : a < b
  · rw [if_pos q, if_pos ((iI_lt ha hb).mpr q)]
  · rw [if_neg q, if_neg (fun z => q ((iI_lt ha hb).mp z))]
/-- what pouring writes -/
theorem c_pourW {B i : Nat} {p z : Int} {w fv : Nat} (hB : isB B) (hi : i < 6) (hw : w ≤ 200000) (hf : fv ≤ 2000) (hp : -50 ≤ p ∧ p ≤ 10000) (e7 : μ.1 B 7 = Int32.ofNat w) (e8 : μ.1 (B + 4 + i) 8 = Int32.ofInt p) (hz : z = pIs w fv p) : f_X7_pourBy (XC ad D cA) B (B + 4 + i) (Int32.ofNat fv) μ = some ((), x_sI (x_sI μ (B + 4 + i) 5 (μ.1 (B + 4 + i) 5 + Int32.ofInt z)) B 7 (Int32.ofNat ((w : Int) + z).toNat)) := by
  have k0 := (kB hB).1
  have ka := (kBa hB hi).1
  have hb := pIs_b (w := w) (fv := fv) hp
  rw [← hz] at hb
  have hne : (B = B + 4 + i) = False := eq_false (by omega)
  have s1 : Int32.ofNat w - Int32.ofNat fv = Int32.ofInt ((w : Int) - fv) := by rw [iN_I, iN_I, ← Int32.ofInt_sub]
  have s2 : (if (0 : Int32) < Int32.ofInt ((w : Int) - fv) then Int32.ofInt ((w : Int) - fv) else (0 : Int32)) = Int32.ofInt ((w - fv : Nat) : Int) := by
    by_cases q : (0 : Int) < (w : Int) - fv
    · rw [if_pos ((gtI 0 0 rfl (by decide) (by omega)).mpr q)]; congr 1; omega
    · rw [if_neg (fun z => q ((gtI 0 0 rfl (by decide) (by omega)).mp z))]
      rw [show ((w - fv : Nat) : Int) = 0 by omega]; rfl
  have s3 : (if Int32.ofInt p < Int32.ofInt (-((w - fv : Nat) : Int)) then Int32.ofInt (-((w - fv : Nat) : Int)) else Int32.ofInt p) = Int32.ofInt z := by
    rw [iI_max (by omega) (by omega), hz]; rfl
  unfold f_X7_pourBy
  simp only [↓ckE, ↓ltE, ↓reduceIte, kC, k0, ka, Nat.reduceAdd, e7, e8, s1, s2, ← Int32.ofInt_neg, s3, sI_rd, hne, iN_addI hb.2.2]
theorem c_p105 {B : Nat} {S : St} {K : Nat → Int32 → x_M → Option (Unit × x_M)} {y : Int32} {ν0 : x_M} (hO : Ok S) (hl : LawOk S.law) (h0 : ∀ j, j < 6 → ν0.1 (B + 4 + j) 8 = Int32.ofInt (pN S j)) : ∀ (m k F : Nat) (x : Int32) (ν : x_M), k + m = 6 → m < F → x = Int32.ofNat k → StC ν B (S.upd (pourTo S S.fvol (min k S.n)).1 S.dl (pourTo S S.fvol (min k S.n)).2 S.town S.day) → frC (dyC B) ν0 ν → ∃ ν', f_X7_pass_L105 (XC ad D cA) K F B y (Int32.ofNat S.fvol) (B + 3) (nI 6) x ν = K B y ν' ∧ StC ν' B (S.upd S.q1.1 S.dl S.q1.2 S.town S.day) ∧ frC (dyC B) ν0 ν' := by
  intro m
  have h6 := hO.1.1.1
  induction m with
  | zero =>
    intro k F x ν hk hF hx h hf
    obtain ⟨f, rfl⟩ : ∃ n, F = n + 1 := ⟨F - 1, by omega⟩
    have hc : nI 6 ≤ x := by rw [hx]; exact (iN_le (by omega) (by omega)).mpr (by omega)
    unfold f_X7_pass_L105
    simp only [↓reduceIte, hc]
    exact ⟨ν, rfl, by unfold St.q1; rw [show S.n = min k S.n by omega]; exact h, hf⟩
  | succ m ih =>
    intro k F x ν hk hF hx h hf
    obtain ⟨f, rfl⟩ : ∃ n, F = n + 1 := ⟨F - 1, by omega⟩
    have hc : ¬ nI 6 ≤ x := fun z => by rw [hx] at z; have := (iN_le (by omega) (by omega)).mp z; omega
    have hx6 : x_ix x 6 := by rw [hx]; exact iN_ix (by omega) (by omega)
    have hcl : x.toNatClampNeg = k := by rw [hx]; exact iN_cl (by omega)
    have hB := h.1.1
    have hg := hB.ge
    obtain ⟨k0, -, -, k3, -, l3⟩ := kB hB
    have pa := (pt_a hB (i := k) (by omega) h.1.2).1
    have b := pourTo_b hO hl (fv := S.fvol) (min k S.n) (by omega)
    have hfl : S.floor ≤ 60 := by unfold St.floor; omega
    have hfv := cum_le (ar := S.ar) (fun s hs => (h.2.1 s hs).2.2) S.floor hfl
    have hfv' : S.fvol = cum S.ar S.floor := rfl
    have hw : ν.1 B 7 = Int32.ofNat (pourTo S S.fvol (min k S.n)).2 := h.2.2.2.2.2.1.2.1
    have hp : ν.1 (B + 4 + k) 8 = Int32.ofInt (pN S k) := by rw [hf.2 _ 8 (by unfold dyC; omega)]; exact h0 k (by omega)
    have hpb : -50 ≤ pN S k ∧ pN S k ≤ 10000 := by
      unfold pN
      by_cases q : k < S.n
      · rw [if_pos q]; exact St.pours_b hl (hO.1.2.1 k q)
      · rw [if_neg q]; omega
    have e1 := c_pourW (ad := ad) (D := D) (cA := cA) (fv := S.fvol) (μ := ν) hB (i := k) (by omega) (by omega) (by omega) hpb hw hp rfl
    unfold f_X7_pass_L105
    simp only [↓ckE, ↓ltE, ↓reduceIte, kC, lC, k0, k3, l3, pa, Nat.reduceAdd, Nat.reduceEqDiff, hc, true_or, or_true, true_and, ↓ixT hx6, hcl, e1, bdE]
    have f1 : ∀ v v', frC (dyC B) ν (x_sI (x_sI ν (B + 4 + k) 5 v) B 7 v') := fun v v' => (frC.sI (Or.inr ⟨by omega, by omega, Or.inl rfl⟩)).tr (frC.sI (Or.inl ⟨rfl, by omega, by omega⟩))
    refine ih (k + 1) f (x + 1) _ (by omega) (by omega) (by rw [hx]; exact iN_s) ?_ (hf.tr (f1 _ _))
    by_cases q : k < S.n
    · have hbk : ν.1 (B + 4 + k) 5 = Int32.ofInt ((pourTo S S.fvol k).1 k) := by
        have := (h.2.2.2.1 k q).2.1.1
        rw [show min k S.n = k by omega] at this
        exact this
      rw [hbk, ← Int32.ofInt_add, show min (k + 1) S.n = k + 1 by omega]
      rw [show min k S.n = k by omega] at h ⊢
      have e : pN S k = S.pours k := if_pos q
      rw [e]
      exact (h.setI (i := k) h6 (by omega)).setW h6
    · rw [show min (k + 1) S.n = S.n by omega]
      rw [show min k S.n = S.n by omega] at h ⊢
      have e : pIs (pourTo S S.fvol S.n).2 S.fvol (pN S k) = 0 := by
        unfold pN pIs
        rw [if_neg q, if_neg (by omega)]
      rw [e, Int.add_zero, Int.toNat_natCast]
      exact (h.skip (i := k) h6 (by show S.n ≤ k; omega) (by omega)).setW h6
theorem c_p146 {B : Nat} {S : St} {K : Nat → Int32 → x_M → Option (Unit × x_M)} {y : Int32} {ν0 : x_M} (hO : Ok S) (hl : LawOk S.law) (h0 : ∀ j, j < 6 → ν0.1 (B + 4 + j) 9 = Int32.ofNat (sN S j)) : ∀ (m k F : Nat) (x : Int32) (ν : x_M), k + m = 6 → m < F → x = Int32.ofNat k → StC ν B (S.upd (sunTo S S.q1 (min k S.n)).1 S.dl (sunTo S S.q1 (min k S.n)).2 S.town S.day) → frC (dyC B) ν0 ν → ∃ ν', f_X7_pass_L146 (XC ad D cA) K F B y (B + 3) (nI 6) x ν = K B y ν' ∧ StC ν' B (S.upd S.q2.1 S.dl S.q2.2 S.town S.day) ∧ frC (dyC B) ν0 ν' := by
  intro m
  have h6 := hO.1.1.1
  have bq := pourTo_b hO hl (fv := S.fvol) S.n (Nat.le_refl _)
  induction m with
  | zero =>
    intro k F x ν hk hF hx h hf
    obtain ⟨f, rfl⟩ : ∃ n, F = n + 1 := ⟨F - 1, by omega⟩
    have hc : nI 6 ≤ x := by rw [hx]; exact (iN_le (by omega) (by omega)).mpr (by omega)
    unfold f_X7_pass_L146
    simp only [↓reduceIte, hc]
    exact ⟨ν, rfl, by unfold St.q2; rw [show S.n = min k S.n by omega]; exact h, hf⟩
  | succ m ih =>
    intro k F x ν hk hF hx h hf
    obtain ⟨f, rfl⟩ : ∃ n, F = n + 1 := ⟨F - 1, by omega⟩
    have hc : ¬ nI 6 ≤ x := fun z => by rw [hx] at z; have := (iN_le (by omega) (by omega)).mp z; omega
    have hx6 : x_ix x 6 := by rw [hx]; exact iN_ix (by omega) (by omega)
    have hcl : x.toNatClampNeg = k := by rw [hx]; exact iN_cl (by omega)
    have hB := h.1.1
    have hg := hB.ge
    obtain ⟨k0, -, -, k3, -, l3⟩ := kB hB
    have ka := (kBa hB (i := k) (by omega)).1
    have pa := (pt_a hB (i := k) (by omega) h.1.2).1
    have b := sunTo_b (q := S.q1) hl bq.2.1 (min k S.n) (by omega)
    have bw : S.q1.2 ≤ 9999 + 10000 * S.n := bq.1
    have hs : sN S k ≤ 990 := by
      unfold sN
      by_cases q : k < S.n
      · rw [if_pos q]; exact St.sun_le hl k
      · rw [if_neg q]; omega
    have hw : ν.1 B 7 = Int32.ofNat (sunTo S S.q1 (min k S.n)).2 := h.2.2.2.2.2.1.2.1
    have hp : ν.1 (B + 4 + k) 9 = Int32.ofNat (sN S k) := by rw [hf.2 _ 9 (by unfold dyC; omega)]; exact h0 k (by omega)
    have hne : (B = B + 4 + k) = False := eq_false (by omega)
    have s1 : (if (0 : Int32) < Int32.ofNat (sunTo S S.q1 (min k S.n)).2 - Int32.ofNat (sN S k) then Int32.ofNat (sunTo S S.q1 (min k S.n)).2 - Int32.ofNat (sN S k) else (0 : Int32)) = Int32.ofNat ((sunTo S S.q1 (min k S.n)).2 - sN S k) := by
      rw [show Int32.ofNat (sunTo S S.q1 (min k S.n)).2 - Int32.ofNat (sN S k) = Int32.ofInt (((sunTo S S.q1 (min k S.n)).2 : Int) - sN S k) by rw [iN_I, iN_I, ← Int32.ofInt_sub]]
      by_cases q : (0 : Int) < ((sunTo S S.q1 (min k S.n)).2 : Int) - sN S k
      · rw [if_pos ((gtI 0 0 rfl (by decide) (by omega)).mpr q), iN_I]; congr 1; omega
      · rw [if_neg (fun z => q ((gtI 0 0 rfl (by decide) (by omega)).mp z))]
        rw [show (sunTo S S.q1 (min k S.n)).2 - sN S k = 0 by omega]; rfl
    unfold f_X7_pass_L146
    simp only [↓ckE, ↓ltE, ↓reduceIte, kC, lC, k0, k3, l3, ka, pa, Nat.reduceAdd, Nat.reduceEqDiff, hc, true_or, or_true, true_and, ↓ixT hx6, hcl, sI_rd, hne, hw, hp, s1]
    have f1 : ∀ v v', frC (dyC B) ν (x_sI (x_sI ν (B + 4 + k) 5 v) B 7 v') := fun v v' => (frC.sI (Or.inr ⟨by omega, by omega, Or.inl rfl⟩)).tr (frC.sI (Or.inl ⟨rfl, by omega, by omega⟩))
    refine ih (k + 1) f (x + 1) _ (by omega) (by omega) (by rw [hx]; exact iN_s) ?_ (hf.tr (f1 _ _))
    by_cases q : k < S.n
    · have hbk : ν.1 (B + 4 + k) 5 = Int32.ofInt ((sunTo S S.q1 k).1 k) := by
        have := (h.2.2.2.1 k q).2.1.1
        rw [show min k S.n = k by omega] at this
        exact this
      have e : sN S k = S.sun k := if_pos q
      rw [hbk, e, show Int32.ofInt ((sunTo S S.q1 k).1 k) - Int32.ofNat (S.sun k) = Int32.ofInt ((sunTo S S.q1 k).1 k - S.sun k) by rw [iN_I, ← Int32.ofInt_sub], show min (k + 1) S.n = k + 1 by omega]
      rw [show min k S.n = k by omega] at h ⊢
      exact (h.setI (i := k) h6 (by omega)).setW h6
    · rw [show min (k + 1) S.n = S.n by omega]
      rw [show min k S.n = S.n by omega] at h ⊢
      have e : sN S k = 0 := if_neg q
      rw [e, Nat.sub_zero]
      exact (h.skip (i := k) h6 (by show S.n ≤ k; omega) (by omega)).setW h6
theorem c_hold {B i : Nat} {z : Int} (hB : isB B) (hi : i < 6) (hz : -2147483648 ≤ z ∧ z < 2147483648) (e5 : μ.1 (B + 4 + i) 5 = Int32.ofInt z) : f_X0_holdBuckets (XC ad D cA) (B + 4 + i) μ = some ((), x_sI μ (B + 4 + i) 5 (Int32.ofInt (clampI z))) := by
  have ka := (kBa hB hi).1
  have s1 : (if (9999 : Int32) < Int32.ofInt z then (9999 : Int32) else Int32.ofInt z) = Int32.ofInt (if 9999 < z then 9999 else z) := by
    by_cases q : 9999 < z
    · rw [if_pos q, if_pos ((gtI 9999 9999 rfl (by decide) hz).mpr q)]; rfl
    · rw [if_neg q, if_neg (fun w => q ((gtI 9999 9999 rfl (by decide) hz).mp w))]
  have s2 : (if (-9999 : Int32) < Int32.ofInt (if 9999 < z then 9999 else z) then Int32.ofInt (if 9999 < z then 9999 else z) else (-9999 : Int32)) = Int32.ofInt (clampI z) := by
    unfold clampI
    by_cases q : 9999 < z
    · rw [if_pos q, if_neg (show ¬ z < -9999 by omega)]
      exact if_pos (by decide)
    · rw [if_neg q]
      by_cases q2 : -9999 < z
      · rw [if_pos ((gtI (-9999) (-9999) rfl (by decide) hz).mpr q2), if_neg (show ¬ z < -9999 by omega)]
      · rw [if_neg (fun w => q2 ((gtI (-9999) (-9999) rfl (by decide) hz).mp w))]
        by_cases q3 : z < -9999
        · rw [if_pos q3]; rfl
        · rw [if_neg q3, show z = -9999 by omega]; rfl
  unfold f_X0_holdBuckets
  simp only [↓ckE, ↓ltE, ↓reduceIte, kC, ka, Nat.reduceAdd, e5, s1, s2]
theorem iI_ex (x : Int32) : ∃ z : Int, (-2147483648 ≤ z ∧ z < 2147483648) ∧ x = Int32.ofInt z :=
  ⟨x.toInt, ⟨x.le_toInt, x.toInt_lt⟩, (Int32.ofInt_toInt x).symm⟩
theorem c_p241 {B : Nat} {S : St} {K : Nat → x_M → Option (Unit × x_M)} {g : Nat → Int} {w t : Nat} {ν0 : x_M} (h6 : S.n ≤ 6) (hg : ∀ j, j < S.n → -12000 ≤ g j ∧ g j ≤ 20000) : ∀ (m k F : Nat) (x : Int32) (ν : x_M), k + m = 6 → m < F → x = Int32.ofNat k → StC ν B (S.upd (holdTo g (min k S.n)) S.dl w t S.day) → frC (dyC B) ν0 ν → ∃ ν', f_X7_pass_L241 (XC ad D cA) K F B (B + 3) (nI 6) x ν = K B ν' ∧ StC ν' B (S.upd (holdTo g S.n) S.dl w t S.day) ∧ frC (dyC B) ν0 ν' := by
  intro m
  induction m with
  | zero =>
    intro k F x ν hk hF hx h hf
    obtain ⟨f, rfl⟩ : ∃ n, F = n + 1 := ⟨F - 1, by omega⟩
    have hc : nI 6 ≤ x := by rw [hx]; exact (iN_le (by omega) (by omega)).mpr (by omega)
    unfold f_X7_pass_L241
    simp only [↓reduceIte, hc]
    exact ⟨ν, rfl, by rw [show S.n = min k S.n by omega]; exact h, hf⟩
  | succ m ih =>
    intro k F x ν hk hF hx h hf
    obtain ⟨f, rfl⟩ : ∃ n, F = n + 1 := ⟨F - 1, by omega⟩
    have hc : ¬ nI 6 ≤ x := fun z => by rw [hx] at z; have := (iN_le (by omega) (by omega)).mp z; omega
    have hx6 : x_ix x 6 := by rw [hx]; exact iN_ix (by omega) (by omega)
    have hcl : x.toNatClampNeg = k := by rw [hx]; exact iN_cl (by omega)
    have hB := h.1.1
    have hgB := hB.ge
    obtain ⟨k0, -, -, k3, -, l3⟩ := kB hB
    have ka := (kBa hB (i := k) (by omega)).1
    have pa := (pt_a hB (i := k) (by omega) h.1.2).1
    obtain ⟨z, hz, ez⟩ := iI_ex (ν.1 (B + 4 + k) 5)
    have e1 := c_hold (ad := ad) (D := D) (cA := cA) (μ := ν) hB (i := k) (by omega) hz ez
    unfold f_X7_pass_L241
    simp only [↓ckE, ↓ltE, ↓reduceIte, kC, lC, k3, l3, ka, pa, Nat.reduceAdd, Nat.reduceEqDiff, hc, true_or, or_true, true_and, ↓ixT hx6, hcl, e1, bdE]
    have f1 : ∀ v, frC (dyC B) ν (x_sI ν (B + 4 + k) 5 v) := fun v => frC.sI (Or.inr ⟨by omega, by omega, Or.inl rfl⟩)
    refine ih (k + 1) f (x + 1) _ (by omega) (by omega) (by rw [hx]; exact iN_s) ?_ (hf.tr (f1 _))
    by_cases q : k < S.n
    · rw [show min (k + 1) S.n = k + 1 by omega]
      rw [show min k S.n = k by omega] at h
      have hbk : ν.1 (B + 4 + k) 5 = Int32.ofInt (holdTo g k k) := (h.2.2.2.1 k q).2.1.1
      have hb := (holdTo_b (f := g) k).2 k (Nat.le_refl _)
      have hgk := hg k q
      have ezz : z = holdTo g k k := (iI_inj hz (by omega)).mp (by rw [← ez, hbk])
      rw [ezz]
      exact h.setI (i := k) h6 (by omega)
    · rw [show min (k + 1) S.n = S.n by omega]
      rw [show min k S.n = S.n by omega] at h
      exact h.skip (i := k) h6 (by show S.n ≤ k; omega) (by omega)
def gdC (B o k : Nat) : Prop := d2C B o k ∨ dyC B o k
theorem c_pass {B : Nat} {S : St} (h : StC μ B S) (hO : Ok S) : ∃ ν', f_X7_pass (XC ad D cA) B μ = some ((), ν') ∧ StC ν' B S.goDay ∧ (∀ j, j < 6 → ν'.1 (B + 4 + j) 9 = Int32.ofNat (sN S j)) ∧ frC (gdC B) μ ν' := by
  have h6 := hO.1.1.1
  have hB := h.1.1
  have hgB := hB.ge
  have hl := h.2.2.2.2.1.2.1
  obtain ⟨k0, k1, k2, k3, l2, l3⟩ := kB hB
  have U1 : ∀ o k, d2C B o k → gdC B o k := fun _ _ z => Or.inl z
  have U2 : ∀ o k, dyC B o k → gdC B o k := fun _ _ z => Or.inr z
  have U3 : ∀ o k, scC o k → gdC B o k := fun _ _ z => Or.inl (Or.inl z)
  have P1 : ∀ ν : x_M, Pt ν → ν.2.1 B 1 = B + 3 := fun ν hν => (pt_S hB hν).2.1
  have P0 : ∀ ν : x_M, Pt ν → ν.2.1 B 0 = B + 1 := fun ν hν => (pt_S hB hν).1
  have eL := h.level (ad := ad) (D := D) (cA := cA) hO
  obtain ⟨ν1, e1, f1⟩ := c_spring (ad := ad) (D := D) (cA := cA) h hO
  have h1 := h.fr h6 f1 (scC_us hB)
  unfold f_X7_pass
  simp only [↓ckE, ↓ltE, ↓reduceIte, kC, lC, k0, k3, l3, Nat.reduceAdd, Nat.reduceEqDiff, eL, e1, bdE, P1 ν1 h1.1.2, true_or, or_true]
  obtain ⟨ν2, e2, h2, c2, f2⟩ := c_p23 (ad := ad) (D := D) (cA := cA) (K := fun (v23 : Nat) (v24 : Int32) (μ25 : x_M) => _) (y := Int32.ofNat S.spring) hO 6 0 4096 0 ν1 (by omega) (by omega) rfl h1 (fun j hj => by omega)
  rw [e2]
  have kl2 := (lawK _ h2.2.2.2.2.1.1).1
  have efl : ν2.1 (ν2.2.1 B 5) 8 = Int32.ofNat S.floor := h2.2.2.2.2.1.2.2.1.2.2.1
  have ev : f_X3_volumeOf (XC ad D cA) (B + 1) (Int32.ofNat S.floor) ν2 = some (Int32.ofNat S.fvol, ν2) := c_vol hB h2.1.2 h2.2.1 (by unfold St.floor; omega)
  simp only [↓ckE, ↓ltE, ↓reduceIte, kC, lC, k0, k1, k3, l3, kl2, Nat.reduceAdd, Nat.reduceEqDiff, efl, ev, bdE, P0 ν2 h2.1.2, P1 ν2 h2.1.2, true_or, or_true]
  obtain ⟨ν3, e3, h3, f3⟩ := c_p105 (ad := ad) (D := D) (cA := cA) (K := fun (v23 : Nat) (v24 : Int32) (μ25 : x_M) => _) (y := Int32.ofNat S.spring) hO hl (fun j hj => (c2 j hj).1) 6 0 4096 0 ν2 (by omega) (by omega) rfl (by rw [Nat.zero_min]; exact h2) frC.rf
  rw [e3]
  simp only [↓ckE, ↓ltE, ↓reduceIte, kC, lC, k0, k3, l3, Nat.reduceAdd, Nat.reduceEqDiff, P1 ν3 h3.1.2, true_or, or_true]
  obtain ⟨ν4, e4, h4, f4⟩ := c_p146 (ad := ad) (D := D) (cA := cA) (K := fun (v23 : Nat) (v24 : Int32) (μ25 : x_M) => _) (y := Int32.ofNat S.spring) (ν0 := ν3) hO hl (fun j hj => by rw [f3.2 (B + 4 + j) 9 (by unfold dyC; omega)]; exact (c2 j hj).2) 6 0 4096 0 ν3 (by omega) (by omega) rfl (by rw [Nat.zero_min]; exact h3) frC.rf
  rw [e4]
  have bq := pourTo_b hO hl (fv := S.fvol) S.n (Nat.le_refl _)
  have bs := sunTo_b (q := S.q1) hl bq.2.1 S.n (Nat.le_refl _)
  have bw : S.q1.2 ≤ 9999 + 10000 * S.n := bq.1
  have hg : ∀ j, j < S.n → -12000 ≤ S.q2.1 j ∧ S.q2.1 j ≤ 20000 := bs.2.1
  have bw2 : S.q2.2 ≤ S.q1.2 := bs.1
  have bsp : S.spring ≤ 1200 := by
    unfold St.spring
    have := lsum_le (fa := S.fact S.level none) (w := 0) hl.2
    have := hl.1
    have := hO.2.2.1
    by_cases q : (S.day : Int) = S.dry
    · rw [if_pos q]; omega
    · rw [if_neg q]; omega
  have bm := St.mvol_le hO.1
  have bt := hO.1.2.2.2
  have hw4 : ν4.1 B 7 = Int32.ofNat S.q2.2 := h4.2.2.2.2.2.1.2.1
  simp only [↓ckE, ↓ltE, ↓reduceIte, kC, k0, Nat.reduceAdd, hw4, iN_add]
  have h5 : StC (x_sI ν4 B 7 (Int32.ofNat (S.q2.2 + S.spring))) B (S.upd S.q2.1 S.dl (S.q2.2 + S.spring) S.town S.day) := h4.setW h6
  have f5 : frC (dyC B) ν4 (x_sI ν4 B 7 (Int32.ofNat (S.q2.2 + S.spring))) := frC.sI (Or.inl ⟨rfl, by decide, by decide⟩)
  generalize x_sI ν4 B 7 (Int32.ofNat (S.q2.2 + S.spring)) = ν5 at h5 f5 ⊢
  have kl5 := (lawK _ h5.2.2.2.2.1.1).1
  have emk : ν5.1 (ν5.2.1 B 5) 7 = Int32.ofNat S.mark := h5.2.2.2.2.1.2.2.1.2.1
  have ev5 : f_X3_volumeOf (XC ad D cA) (B + 1) (Int32.ofNat S.mark) ν5 = some (Int32.ofNat S.mvol, ν5) := c_vol hB h5.1.2 (ar := S.ar) h5.2.1 (by unfold St.mark; omega)
  have hw5 : ν5.1 B 7 = Int32.ofNat (S.q2.2 + S.spring) := h5.2.2.2.2.2.1.2.1
  have ht5 : ν5.1 B 8 = Int32.ofNat S.town := h5.2.2.2.2.2.1.2.2.1
  simp only [↓ckE, ↓ltE, ↓reduceIte, kC, k0, k1, kl5, Nat.reduceAdd, emk, ev5, bdE, P0 ν5 h5.1.2]
  have S5 : ∃ ν6, f_X7_spillTo (XC ad D cA) B (Int32.ofNat S.mvol) ν5 = some ((), ν6) ∧ StC ν6 B (S.upd S.q2.1 S.dl (if S.q2.2 + S.spring ≤ S.mvol then S.q2.2 + S.spring else S.mvol) (if S.q2.2 + S.spring ≤ S.mvol then S.town else if S.town + (S.q2.2 + S.spring) - S.mvol ≤ 99999 then S.town + (S.q2.2 + S.spring) - S.mvol else 99999) S.day) ∧ frC (dyC B) ν5 ν6 := by
    unfold f_X7_spillTo
    simp only [↓ckE, ↓ltE, ↓reduceIte, kC, k0, Nat.reduceAdd, hw5, ht5, iN_add]
    by_cases q : S.q2.2 + S.spring ≤ S.mvol
    · rw [if_pos ((iN_le (by omega) (by omega)).mpr q), if_pos q, if_pos q]
      exact ⟨ν5, rfl, h5, frC.rf⟩
    · rw [if_neg (fun z => q ((iN_le (by omega) (by omega)).mp z)), if_neg q, if_neg q, iN_sub (by omega)]
      have et : (if Int32.ofNat (S.town + (S.q2.2 + S.spring) - S.mvol) < (99999 : Int32) then Int32.ofNat (S.town + (S.q2.2 + S.spring) - S.mvol) else (99999 : Int32)) = Int32.ofNat (if S.town + (S.q2.2 + S.spring) - S.mvol ≤ 99999 then S.town + (S.q2.2 + S.spring) - S.mvol else 99999) := by
        by_cases q2 : S.town + (S.q2.2 + S.spring) - S.mvol < 99999
        · rw [if_pos ((ltN 99999 99999 rfl (by omega) (by decide)).mpr q2), if_pos (by omega)]
        · rw [if_neg (fun z => q2 ((ltN 99999 99999 rfl (by omega) (by decide)).mp z))]
          by_cases q3 : S.town + (S.q2.2 + S.spring) - S.mvol ≤ 99999
          · rw [if_pos q3, show S.town + (S.q2.2 + S.spring) - S.mvol = 99999 by omega]; rfl
          · rw [if_neg q3]; rfl
      rw [et]
      exact ⟨_, rfl, (h5.setT h6).setW h6, (frC.sI (Or.inl ⟨rfl, by decide, by decide⟩)).tr (frC.sI (Or.inl ⟨rfl, by decide, by decide⟩))⟩
  obtain ⟨ν6, e6, h6', f6⟩ := S5
  simp only [↓ckE, ↓ltE, ↓reduceIte, kC, lC, k0, k3, l3, Nat.reduceAdd, Nat.reduceEqDiff, e6, bdE, P1 ν6 h6'.1.2, true_or, or_true]
  obtain ⟨ν7, e7, h7, f7⟩ := c_p241 (ad := ad) (D := D) (cA := cA) (K := fun (v74 : Nat) (μ75 : x_M) => _) (ν0 := ν6) h6 hg 6 0 4096 0 ν6 (by omega) (by omega) rfl (by rw [Nat.zero_min]; exact h6') frC.rf
  rw [e7]
  have hday : ν7.1 B 9 = Int32.ofNat S.day := h7.2.2.2.2.2.1.2.2.2
  simp only [↓ckE, ↓ltE, ↓reduceIte, kC, k0, Nat.reduceAdd, hday, iN_s]
  have f8 : frC (dyC B) ν7 (x_sI ν7 B 9 (Int32.ofNat (S.day + 1))) := frC.sI (Or.inl ⟨rfl, by decide, by decide⟩)
  have F : frC (dyC B) ν2 (x_sI ν7 B 9 (Int32.ofNat (S.day + 1))) := ((((f3.tr f4).tr f5).tr f6).tr f7).tr f8
  refine ⟨_, rfl, h7.setD (w := S.day + 1) h6, fun j hj => ?_, ((f1.up U3).tr (f2.up U1)).tr (F.up U2)⟩
  rw [F.2 (B + 4 + j) 9 (by unfold dyC; omega)]
  exact (c2 j hj).2
end PASSC
