/-! ===== tapes: in both ===== -/
theorem kT : ∀ t, t < 6 → x_kdC (500 + 2 * t) = 9 ∧ x_kdC (501 + 2 * t) = 21 ∧ x_lnA (501 + 2 * t) = 60 ∧ rf107 (500 + 2 * t) 0 = 501 + 2 * t ∧ rf107 6 t = 500 + 2 * t := by decide +kernel
def frT (P : Nat → Nat → Prop) (a b : x_M) : Prop := b.2.1 = a.2.1 ∧ ∀ o k, ¬ P o k → b.1 o k = a.1 o k
theorem sJ_rd {μ : x_M} {o k p j : Nat} {v : Int64} : (x_sJ μ o k v).2.2 p j = if p = o then (if j = k then v else μ.2.2 p j) else μ.2.2 p j := rfl
theorem StR.lg {a b : x_M} {S : St} (h : StR a S) (f : b.1 = a.1) (r : b.2.1 = a.2.1) : StR b S := by
  obtain ⟨h1, h2, t, h4, h5, hl, w⟩ := h
  refine ⟨fun o k => by rw [r]; exact h1 o k, fun s hs => by rw [f]; exact h2 s hs, by rw [f]; exact t, fun i hi => by rw [f]; exact h4 i hi, fun i hi => ?_, hl.eq (by rw [f]) (fun o _ _ => by rw [f]), by rw [f]; exact w⟩
  have := h5 i hi
  unfold AccR at this ⊢
  rw [f]; exact this
section TAPES
variable {ad : Nat → Nat} {D : va_G} {cA : Nat → ClassId} {μ ν : x_M}
theorem Rel.tp {μ' ν' : x_M} (h : Rel μ ν) (f : frT cP μ μ') (g : frT dP ν ν') (hp : gP μ' ν') : Rel μ' ν' := by
  obtain ⟨S, R1, R2, R3, ⟨h1, h2⟩, ⟨⟨c2, c3⟩, d1, d2, d3⟩, hg, ho⟩ := h
  have h6 := h1.n6
  have fC : frC cP μ (μ'.1, μ.2) := ⟨rfl, f.2⟩
  have gC : frC dP ν (ν'.1, ν.2) := ⟨rfl, g.2⟩
  have s1 : StC (μ'.1, μ.2) 100 S := h1.1.1.fr h6 fC (fun o k z => by unfold cP at z; unfold usC lwC; omega)
  have s2 : StR (ν'.1, ν.2) S := h1.2.1.fr h6 gC (fun o k z => by unfold dP at z; unfold usR; omega)
  have em : (μ'.1, μ.2.1, μ'.2.2) = μ' := by rw [← f.1]
  have en : (ν'.1, ν.2.1, ν'.2.2) = ν' := by rw [← g.1]
  have s1' : StC μ' 100 S := s1.eq h6 (by decide) (fun o k _ => rfl) (fun o k _ => by rw [f.1])
  have s2' : StR ν' S := s2.lg rfl g.1
  refine ⟨S, R1, R2, R3, ⟨⟨⟨s1', hg.1, fun B hB i hi => ?_, h1.ok, h1.1.2.2.2.2.1, h1.1.2.2.2.2.2.eqr (fun o k p1 p2 => f.2 o k (by unfold cP; omega))⟩, s2', h1.2.2⟩, ?_⟩, ⟨⟨c2.eqr (fun o k p1 p2 => f.2 o k (by unfold cP; omega)), c3.eqr (fun o k p1 p2 => f.2 o k (by unfold cP; omega))⟩, d1.eq (g.2 _ _ (by unfold dP; omega)) (fun k => g.2 _ _ (by unfold dP; omega)) (fun k => g.2 _ _ (by unfold dP; omega)), d2.eq (g.2 _ _ (by unfold dP; omega)) (fun k => g.2 _ _ (by unfold dP; omega)) (fun k => g.2 _ _ (by unfold dP; omega)), d3.eq (g.2 _ _ (by unfold dP; omega)) (fun k => g.2 _ _ (by unfold dP; omega)) (fun k => g.2 _ _ (by unfold dP; omega))⟩, hg, ?_⟩
  · rw [f.2 _ 0 (by have := hB.ge; unfold cP; omega)]; exact h1.1.2.2.1 B hB i hi
  · rw [g.2 600 30 (by unfold dP; omega)]; exact h2
  · obtain ⟨o1, o2, o3, o4, o5, o6⟩ := ho
    have er : eqR μ μ' := fun o k _ => by rw [f.1]
    exact ⟨o1.fr (fun o k z => f.2 o k (by unfold cK at z; unfold cP; omega)) (fun o k z => g.2 o k (by unfold dK at z; unfold dP; omega)),
      o2.fr (fun o k z => f.2 o k (by unfold cI usC lwC at z; unfold cP; omega)) er (fun o k z => g.2 o k (by unfold dI at z; unfold dP; omega)),
      o3.fr (fun o k z => f.2 o k (by unfold cL at z; unfold cP; omega)) er (fun o k z => g.2 o k (by unfold dL at z; unfold dP; omega)),
      o4.fr (fun o k z => f.2 o k (by unfold cT at z; unfold cP; omega)) (fun o k z => g.2 o k (by unfold dT at z; unfold dP; omega)), hp,
      o6.fr (fun o k z => f.2 o k (by unfold cA' at z; unfold cP; omega)) (fun o k z => g.2 o k (by unfold dA at z; unfold dP; omega))⟩
theorem c_findT {x : Int32} (hP : Pt μ) : (∃ t, t < 6 ∧ x = Int32.ofNat t ∧ f_X9_findTape (XC ad D cA) 1 x μ = some (500 + 2 * t, μ) ∧ f_X10_isTape (XR ad D cA) 600 x ν = some (1, ν)) ∨ (f_X9_findTape (XC ad D cA) 1 x μ = some (0, μ) ∧ f_X10_isTape (XR ad D cA) 600 x ν = some (0, ν)) := by
  unfold f_X9_findTape f_X10_isTape
  by_cases q : (0 : Int32) ≤ x ∧ x ≤ 5
  · obtain ⟨t, -, ht, rfl⟩ := inN 0 5 0 5 rfl rfl (by decide) (by decide) q
    have hx6 : x_ix (Int32.ofNat t) 6 := iN_ix (by omega) (by omega)
    have hcl : (Int32.ofNat t).toNatClampNeg = t := iN_cl (by omega)
    have p : μ.2.1 6 t = 500 + 2 * t := by rw [hP 6 t (by omega)]; exact (kT t (by omega)).2.2.2.2
    refine Or.inl ⟨t, by omega, rfl, ?_, ?_⟩
    · simp only [↓ckE, ↓ltE, ↓reduceIte, kC, lC, CK, CN, CP hP, Nat.reduceAdd, Nat.reduceEqDiff, c_in, q, and_self, iE, bdE, or_true, true_or, true_and, ↓ixT hx6, hcl, p]
    · simp only [↓ckE, ↓reduceIte, kR, RK, Nat.reduceAdd, r_in, q, and_self, iE, bdE, or_true]
  · refine Or.inr ⟨?_, ?_⟩
    · simp only [↓reduceIte, c_in, q, bdE]
    · simp only [↓ckE, ↓reduceIte, kR, RK, Nat.reduceAdd, r_in, q, bdE, true_or]
theorem pT {t : Nat} (hP : Pt μ) (ht : t < 6) : μ.2.1 (500 + 2 * t) 0 = 501 + 2 * t := by rw [hP _ 0 (by omega)]; exact (kT t ht).2.2.2.1
theorem c_becL {t : Nat} (hP : Pt μ) (ht : t < 6) : ∀ (m k F : Nat) (x : Int32) (ν : x_M), k + m = 60 → m < F → x = Int32.ofNat k → (ν.1 = μ.1 ∧ ν.2.1 = μ.2.1) → (∀ o j, ν.2.2 o j = if o = 501 + 2 * t ∧ j < k then 0 else μ.2.2 o j) → ∃ ν', f_X8_become_L21 (XC ad D cA) F (500 + 2 * t) x ν = some (1, ν') ∧ (ν'.1 = μ.1 ∧ ν'.2.1 = μ.2.1) ∧ ∀ o j, ν'.2.2 o j = if o = 501 + 2 * t ∧ j < 60 then 0 else μ.2.2 o j := by
  obtain ⟨k1, k2, l2, -, -⟩ := kT t ht
  intro m
  induction m with
  | zero =>
    intro k F x ν hk hF hx hf h
    obtain ⟨f, rfl⟩ : ∃ n, F = n + 1 := ⟨F - 1, by omega⟩
    have hc : (60 : Int32) ≤ x := by rw [hx]; exact (geN 60 60 rfl (by omega) (by omega)).mpr (by omega)
    unfold f_X8_become_L21
    simp only [↓reduceIte, hc]
    exact ⟨ν, rfl, hf, by rw [show k = 60 by omega] at h; exact h⟩
  | succ m ih =>
    intro k F x ν hk hF hx hf h
    obtain ⟨f, rfl⟩ : ∃ n, F = n + 1 := ⟨F - 1, by omega⟩
    have hc : ¬ (60 : Int32) ≤ x := fun z => by rw [hx] at z; have := (geN 60 60 rfl (by omega) (by omega)).mp z; omega
    have hx6 : x_ix x 60 := by rw [hx]; exact iN_ix (by omega) (by omega)
    have hcl : x.toNatClampNeg = k := by rw [hx]; exact iN_cl (by omega)
    have p : ν.2.1 (500 + 2 * t) 0 = 501 + 2 * t := by rw [hf.2]; exact pT hP ht
    unfold f_X8_become_L21
    simp only [↓ckE, ↓ltE, ↓reduceIte, kC, lC, k1, k2, l2, Nat.reduceAdd, hc, p, true_and, ↓ixT hx6, hcl]
    refine ih (k + 1) f (x + 1) _ (by omega) (by omega) (by rw [hx]; exact iN_s) ⟨hf.1, hf.2⟩ (fun o j => ?_)
    rw [sJ_rd]
    by_cases q : o = 501 + 2 * t
    · rw [if_pos q]
      by_cases q2 : j = k
      · rw [if_pos q2, if_pos ⟨q, by omega⟩]
      · rw [if_neg q2, h]
        by_cases q3 : j < k
        · rw [if_pos ⟨q, q3⟩, if_pos ⟨q, by omega⟩]
        · rw [if_neg (fun z => q3 z.2), if_neg (fun z => by omega)]
    · rw [if_neg q, h, if_neg (fun z => q z.1), if_neg (fun z => q z.1)]
theorem r_tapL {t : Nat} (hP : Pr ν) (ht : t < 6) : ∀ (m k F : Nat) (x : Int32) (ν1 : x_M), k + m = 60 → m < F → x = Int32.ofNat k → (ν1.1 = ν.1 ∧ ν1.2.1 = ν.2.1) → (∀ o j, ν1.2.2 o j = if o = 676 ∧ 60 * t ≤ j ∧ j < 60 * t + k then 0 else ν.2.2 o j) → ∃ ν', f_X10_tape_L69 (XR ad D cA) F 600 (Int32.ofNat t) x ν1 = some (1, ν') ∧ (ν'.1 = ν.1 ∧ ν'.2.1 = ν.2.1) ∧ ∀ o j, ν'.2.2 o j = if o = 676 ∧ 60 * t ≤ j ∧ j < 60 * t + 60 then 0 else ν.2.2 o j := by
  intro m
  induction m with
  | zero =>
    intro k F x ν1 hk hF hx hf h
    obtain ⟨f, rfl⟩ : ∃ n, F = n + 1 := ⟨F - 1, by omega⟩
    have hc : (60 : Int32) ≤ x := by rw [hx]; exact (geN 60 60 rfl (by omega) (by omega)).mpr (by omega)
    unfold f_X10_tape_L69
    simp only [↓reduceIte, hc]
    exact ⟨ν1, rfl, hf, by rw [show k = 60 by omega] at h; exact h⟩
  | succ m ih =>
    intro k F x ν1 hk hF hx hf h
    obtain ⟨f, rfl⟩ : ∃ n, F = n + 1 := ⟨F - 1, by omega⟩
    have hc : ¬ (60 : Int32) ≤ x := fun z => by rw [hx] at z; have := (geN 60 60 rfl (by omega) (by omega)).mp z; omega
    have hP1 : Pr ν1 := fun o k => by rw [hf.2]; exact hP o k
    have e6 : (60 : Int32) * Int32.ofNat t + x = Int32.ofNat (60 * t + k) := by rw [hx, show (60 : Int32) = Int32.ofNat 60 from rfl, iN_mul, iN_add]
    have hx6 : x_ix (Int32.ofNat (60 * t + k)) 360 := iN_ix (by omega) (by omega)
    have hcl : (Int32.ofNat (60 * t + k)).toNatClampNeg = 60 * t + k := iN_cl (by omega)
    unfold f_X10_tape_L69
    simp only [↓ckE, ↓ltE, ↓reduceIte, kR, lR, RK, RN, RP hP1, Nat.reduceAdd, hc, e6, true_and, ↓ixT hx6, hcl]
    refine ih (k + 1) f (x + 1) _ (by omega) (by omega) (by rw [hx]; exact iN_s) ⟨hf.1, hf.2⟩ (fun o j => ?_)
    rw [sJ_rd]
    by_cases q : o = 676
    · rw [if_pos q]
      by_cases q2 : j = 60 * t + k
      · rw [if_pos q2, if_pos ⟨q, by omega, by omega⟩]
      · rw [if_neg q2, h]
        by_cases q3 : 60 * t ≤ j ∧ j < 60 * t + k
        · rw [if_pos ⟨q, q3⟩, if_pos ⟨q, by omega, by omega⟩]
        · rw [if_neg (fun z => q3 z.2), if_neg (fun z => by omega)]
    · rw [if_neg q, h, if_neg (fun z => q z.1), if_neg (fun z => q z.1)]
theorem x_tape {t n : Nat} {s : Int} (h : Rel μ ν) (ht : t < 6) (hs : -1 ≤ s ∧ s ≤ 4) (hn : n ≤ 60) (hsn : s < 0 → n = 0) : SameR (f_X8_become (XC ad D cA) (500 + 2 * t) (Int32.ofInt s) (Int32.ofNat n) μ) (f_X10_tape_J65 (XR ad D cA) 600 (Int32.ofNat t) (Int32.ofNat n) (Int32.ofNat t) 675 (x_sI ν 674 t (Int32.ofInt s))) := by
  have h0 := h
  obtain ⟨S, R1, R2, R3, ⟨hp, h30⟩, -, hg, ho⟩ := h
  obtain ⟨k1, k2, l2, -, -⟩ := kT t ht
  have hx6 : x_ix (Int32.ofNat t) 6 := iN_ix (by omega) (by omega)
  have hcl : (Int32.ofNat t).toNatClampNeg = t := iN_cl (by omega)
  have m1 : (if (60 : Int32) < Int32.ofNat n then (60 : Int32) else Int32.ofNat n) = Int32.ofNat n := if_neg (fun z => by have := (gtN 60 60 rfl (by decide) (by omega)).mp z; omega)
  have m2 : (if (0 : Int32) < Int32.ofNat n then Int32.ofNat n else (0 : Int32)) = Int32.ofNat n := by
    by_cases q : 0 < n
    · exact if_pos ((gtN 0 0 rfl (by decide) (by omega)).mpr q)
    · rw [if_neg (fun z => q ((gtN 0 0 rfl (by decide) (by omega)).mp z)), show n = 0 by omega]; rfl
  have fC : frC (fun o k => o = 500 + 2 * t ∧ (k = 1 ∨ k = 2)) μ (x_sI (x_sI μ (500 + 2 * t) 1 (Int32.ofInt s)) (500 + 2 * t) 2 (Int32.ofNat n)) := (frC.sI ⟨rfl, Or.inl rfl⟩).tr (frC.sI ⟨rfl, Or.inr rfl⟩)
  have gC : frC (fun o k => (o = 674 ∨ o = 675) ∧ k = t) ν (x_sI (x_sI ν 674 t (Int32.ofInt s)) 675 t (Int32.ofNat n)) := (frC.sI ⟨Or.inl rfl, rfl⟩).tr (frC.sI ⟨Or.inr rfl, rfl⟩)
  have a1 : (x_sI (x_sI μ (500 + 2 * t) 1 (Int32.ofInt s)) (500 + 2 * t) 2 (Int32.ofNat n)).1 (500 + 2 * t) 1 = Int32.ofInt s := by rw [sI_ne (by omega)]; exact sI_get
  have a2 : (x_sI (x_sI μ (500 + 2 * t) 1 (Int32.ofInt s)) (500 + 2 * t) 2 (Int32.ofNat n)).1 (500 + 2 * t) 2 = Int32.ofNat n := sI_get
  have b1 : (x_sI (x_sI ν 674 t (Int32.ofInt s)) 675 t (Int32.ofNat n)).1 674 t = Int32.ofInt s := by rw [sI_off (by omega)]; exact sI_get
  have b2 : (x_sI (x_sI ν 674 t (Int32.ofInt s)) 675 t (Int32.ofNat n)).1 675 t = Int32.ofNat n := sI_get
  unfold f_X8_become f_X10_tape_J65
  simp only [↓ckE, ↓ltE, ↓reduceIte, kC, kR, lR, RK, RN, k1, Nat.reduceAdd, m1, m2, true_and, ↓ixT hx6, hcl]
  generalize x_sI (x_sI μ (500 + 2 * t) 1 (Int32.ofInt s)) (500 + 2 * t) 2 (Int32.ofNat n) = μ1 at fC a1 a2 ⊢
  generalize x_sI (x_sI ν 674 t (Int32.ofInt s)) 675 t (Int32.ofNat n) = ν1 at gC b1 b2 ⊢
  obtain ⟨μ2, e1, ⟨f1, f2⟩, f3⟩ := c_becL (ad := ad) (D := D) (cA := cA) (t := t) (fC.Pt hp.P) ht 60 0 4096 0 μ1 (by omega) (by omega) rfl ⟨rfl, rfl⟩ (fun o j => by rw [if_neg (by omega)])
  obtain ⟨ν2, e2, ⟨g1, g2⟩, g3⟩ := r_tapL (ad := ad) (D := D) (cA := cA) (t := t) (gC.Pr hp.2.1.1) ht 60 0 4096 0 ν1 (by omega) (by omega) rfl ⟨rfl, rfl⟩ (fun o j => by rw [if_neg (by omega)])
  refine ⟨1, μ2, ν2, e1, e2, h0.tp ⟨by rw [f2, fC.1], fun o k z => by rw [f1]; exact fC.2 o k (fun w => z (by unfold cP; omega))⟩ ⟨by rw [g2, gC.1], fun o k z => by rw [g1]; exact gC.2 o k (fun w => z (by unfold dP; omega))⟩ (fun u hu => ?_)⟩
  obtain ⟨⟨s0, n0, q1, q2, q3, q4, q5, q6, q7⟩, q8⟩ := ho.2.2.2.2.1 u hu
  have lm : μ1.2.2 = μ.2.2 := by rw [fC.1]
  have ln : ν1.2.2 = ν.2.2 := by rw [gC.1]
  by_cases e : u = t
  · subst e
    refine ⟨⟨s, n, hs, hn, hsn, by rw [f1]; exact a1, by rw [g1]; exact b1, by rw [f1]; exact a2, by rw [g1]; exact b2⟩, fun j hj => ?_⟩
    rw [f3, g3, if_pos ⟨rfl, hj⟩, if_pos ⟨rfl, by omega, by omega⟩]
  · refine ⟨⟨s0, n0, q1, q2, q3, ?_, ?_, ?_, ?_⟩, fun j hj => ?_⟩
    · rw [f1, fC.2 _ 1 (by omega)]; exact q4
    · rw [g1, gC.2 674 u (by omega)]; exact q5
    · rw [f1, fC.2 _ 2 (by omega)]; exact q6
    · rw [g1, gC.2 675 u (by omega)]; exact q7
    · rw [f3, g3, if_neg (by omega), if_neg (by omega), lm, ln]; exact q8 j hj
theorem q_tape {x y w : Int32} (h : Rel μ ν) : SameR (f_X9_tape (XC ad D cA) 1 x y w μ) (f_X10_tape (XR ad D cA) 600 x y w ν) := by
  have h0 := h
  obtain ⟨S, R1, R2, R3, ⟨hp, h30⟩, -, hg, ho⟩ := h
  unfold f_X9_tape f_X10_tape
  rcases c_findT (ad := ad) (D := D) (cA := cA) (ν := ν) (x := x) hp.P with ⟨t, ht, rfl, e1, e2⟩ | ⟨e1, e2⟩
  · have hz : (500 + 2 * t = 0) = False := eq_false (by omega)
    obtain ⟨k1, k2, l2, -, -⟩ := kT t ht
    have hx6 : x_ix (Int32.ofNat t) 6 := iN_ix (by omega) (by omega)
    have hcl : (Int32.ofNat t).toNatClampNeg = t := iN_cl (by omega)
    have up : ∀ (o : Option (Int32 × x_M)), SameR o (f_X10_tape_J44 (XR ad D cA) 600 (Int32.ofNat t) y w ν) → SameR (bd o (fun (v : Int32) (μ1 : x_M) => some (v, μ1))) (f_X10_tape_J44 (XR ad D cA) 600 (Int32.ofNat t) y w ν) := by
      intro o z
      obtain ⟨r, m, n, z1, z2, z3⟩ := z
      exact ⟨r, m, n, by rw [z1, bdE], z2, z3⟩
    by_cases q0 : y = -1
    · have q1 : (-1 : Int32) ≤ y ∧ y ≤ 4 := by rw [q0]; decide
      have q2 : y < 0 := by rw [q0]; decide
      have q3 : ¬ (0 : Int32) ≤ y := by rw [q0]; decide
      unfold f_X10_tape_J33
      simp only [↓ckE, ↓ltE, ↓reduceIte, kC, CK, kR, RK, Nat.reduceAdd, e1, e2, hz, bdE, k1, r_in, q1, q2, and_self, iE]
      rw [if_pos q0]
      refine up _ ?_
      unfold f_X10_tape_J44
      simp only [↓ckE, ↓ltE, ↓reduceIte, kR, lR, RK, RN, RP hp.2.1.1, sI_2, Nat.reduceAdd, true_and, ↓ixT hx6, hcl, q3]
      rw [q0, show (-1 : Int32) = Int32.ofInt (-1) from rfl, show (0 : Int32) = Int32.ofNat 0 from rfl]
      exact x_tape (s := -1) (n := 0) h0 ht (by omega) (by omega) (fun _ => rfl)
    · by_cases q : (0 : Int32) ≤ y ∧ y ≤ 4
      · obtain ⟨s, s1, s2, rfl⟩ := inI 0 4 0 4 rfl rfl (by decide) (by decide) q
        have q1 : (-1 : Int32) ≤ Int32.ofInt s ∧ Int32.ofInt s ≤ 4 := ⟨(geI (-1) (-1) rfl (by decide) (by omega)).mpr (by omega), q.2⟩
        have q2 : ¬ Int32.ofInt s < 0 := fun z => by have := (ltI 0 0 rfl (by omega) (by decide)).mp z; omega
        by_cases g : w ≤ 60
        · by_cases g2 : (0 : Int32) ≤ w
          · obtain ⟨n, -, hn, rfl⟩ := inN 0 60 0 60 rfl rfl (by decide) (by decide) ⟨g2, g⟩
            unfold f_X10_tape_J33
            simp only [↓ckE, ↓ltE, ↓reduceIte, kC, CK, kR, RK, Nat.reduceAdd, e1, e2, hz, bdE, k1, r_in, c_in, q0, q1, q2, q, g, g2, and_self, iE]
            refine up _ ?_
            unfold f_X10_tape_J44
            simp only [↓ckE, ↓ltE, ↓reduceIte, kR, lR, RK, RN, RP hp.2.1.1, sI_2, Nat.reduceAdd, true_and, ↓ixT hx6, hcl, q.1]
            exact x_tape h0 ht (by omega) hn (fun z => by omega)
          · refine SameR.now (r := -14) h0 ?_ ?_
            · simp only [↓ckE, ↓ltE, ↓reduceIte, kC, CK, Nat.reduceAdd, e1, hz, bdE, c_in, q0, q, g, g2, and_self, iE]
            · unfold f_X10_tape_J33
              simp only [↓ckE, ↓ltE, ↓reduceIte, kR, RK, Nat.reduceAdd, e2, bdE, r_in, q1, q2, g, g2, and_self, iE]
        · refine SameR.now (r := -2) h0 ?_ ?_
          · simp only [↓ckE, ↓ltE, ↓reduceIte, kC, CK, Nat.reduceAdd, e1, hz, bdE, c_in, q0, q, g, and_self, iE]
          · simp only [↓ckE, ↓ltE, ↓reduceIte, kR, RK, Nat.reduceAdd, e2, bdE, r_in, q1, q2, g, and_self, iE]
      · have q1 : ¬ ((-1 : Int32) ≤ y ∧ y ≤ 4) := fun z => by
          obtain ⟨s, s1, s2, rfl⟩ := inI (-1) 4 (-1) 4 rfl rfl (by decide) (by decide) z
          refine q ⟨(geI 0 0 rfl (by decide) (by omega)).mpr ?_, z.2⟩
          have : s ≠ -1 := fun w => q0 (by rw [w]; rfl)
          omega
        refine SameR.now (r := -2) h0 ?_ ?_
        · simp only [↓ckE, ↓ltE, ↓reduceIte, kC, CK, Nat.reduceAdd, e1, hz, bdE, c_in, q0, q, iE]
        · simp only [↓ckE, ↓ltE, ↓reduceIte, kR, RK, Nat.reduceAdd, e2, bdE, r_in, q1, iE]
  · refine SameR.now (r := -1) h0 ?_ ?_
    · simp only [↓ckE, ↓ltE, ↓reduceIte, kC, CK, Nat.reduceAdd, e1, bdE]
    · simp only [↓ckE, ↓ltE, ↓reduceIte, kR, RK, Nat.reduceAdd, e2, bdE]
end TAPES
