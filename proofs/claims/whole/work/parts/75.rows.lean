/-! ===== see, plan, book, looked, count, trace, taken: in both ===== -/
def rwC (o k : Nat) : Prop := 116 ≤ o ∧ o ≤ 124 ∧ ¬ ((o = 116 ∨ o = 119 ∨ o = 122) ∧ k = 2)
def rwR (o k : Nat) : Prop := (o = 600 ∧ (k = 40 ∨ k = 43 ∨ k = 44)) ∨ (642 ≤ o ∧ o ≤ 649)
def addQ (Q : Rw) (x : Nat) (z : Int) : Rw := (Q.1 + 1, updN Q.2.1 Q.1 x, updI Q.2.2 Q.1 z)
section ROWS
variable {ad : Nat → Nat} {D : va_G} {cA : Nat → ClassId} {μ ν : x_M}
theorem Rel.rows {μ' ν' : x_M} {S : St} {R1 R1' R2' R3' : Rw} (hp : Pair μ ν S R1) (h30 : ν.1 600 30 = -1) (ho : Oth μ ν) (hg : Good S R1' R2' R3') (c1 : RowC μ' 116 R1') (c2 : RowsC μ' R2' R3') (r : RowsR ν' R1' R2' R3') (f : frC rwC μ μ') (g : frC rwR ν ν') : Rel μ' ν' := by
  have h6 := hp.n6
  refine ⟨S, R1', R2', R3', ⟨⟨⟨hp.1.1.fr h6 f (fun o k z => by unfold rwC at z; unfold usC lwC; omega), hg.1, fun B hB i hi => ?_, hp.ok, hg.2.2.2.1.1, c1⟩, hp.2.1.fr h6 g (fun o k z => by unfold rwR at z; unfold usR; omega), hp.2.2⟩, ?_⟩, ⟨c2, r⟩, hg, ho.now (f.A (fun o k z => by unfold rwC at z; unfold nwC; omega)) (g.up (fun o k z => by unfold rwR at z; unfold nwR; omega))⟩
  · rw [f.2 _ 0 (by have := hB.ge; unfold rwC; omega)]; exact hp.1.2.2.1 B hB i hi
  · rw [g.2 600 30 (by unfold rwR; omega)]; exact h30
theorem RowC.eqr {a b : x_M} {r : Nat} {Q : Rw} (h : RowC a r Q) (f : ∀ o k, r ≤ o → o ≤ r + 2 → b.1 o k = a.1 o k) : RowC b r Q := h.eq (fun o k p1 p2 _ => f o k p1 p2)
theorem c_clear {r : Nat} (hr : rw3 r) : f_X6_clear (XC ad D cA) (100 + r) μ = some (0, x_sI μ (100 + r) 3 0) := by
  unfold f_X6_clear
  simp only [↓ckE, ↓ltE, ↓reduceIte, kC, (kRow (B := 100) (Or.inl rfl) hr).1, Nat.reduceAdd, sI_get]
theorem c_addF {r N : Nat} {Q : Rw} {x y : Int32} (hr : rw3 r) (h : RowC μ (100 + r) Q) (hm : μ.1 (100 + r) 2 = Int32.ofNat N) (hN : 1 ≤ N ∧ N ≤ 8) (hQ : Q.1 = N) : f_X6_add (XC ad D cA) (100 + r) x y μ = some (-4, μ) := by
  have g : ¬ ((0 : Int32) ≤ Int32.ofNat Q.1 ∧ Int32.ofNat Q.1 ≤ Int32.ofNat N - 1) := fun z => by
    rw [iN_pred hN.1] at z
    have := (iN_le (by omega) (by omega)).mp z.2; omega
  unfold f_X6_add
  simp only [↓ckE, ↓ltE, ↓reduceIte, kC, (kRow (B := 100) (Or.inl rfl) hr).1, Nat.reduceAdd, h.1, hm, c_in, g, bdE]
theorem c_addN {r N x : Nat} {z : Int} {Q : Rw} (hP : Pt μ) (hr : rw3 r) (h : RowC μ (100 + r) Q) (hm : μ.1 (100 + r) 2 = Int32.ofNat N) (hN : 1 ≤ N ∧ N ≤ 8) (hQ : Q.1 < N) : ∃ μ', f_X6_add (XC ad D cA) (100 + r) (Int32.ofNat x) (Int32.ofInt z) μ = some (Int32.ofNat (Q.1 + 1), μ') ∧ RowC μ' (100 + r) (addQ Q x z) ∧ frC (fun o k => 100 + r ≤ o ∧ o ≤ 100 + r + 2 ∧ (o = 100 + r → k = 3)) μ μ' := by
  have g : (0 : Int32) ≤ Int32.ofNat Q.1 ∧ Int32.ofNat Q.1 ≤ Int32.ofNat N - 1 := by
    rw [iN_pred hN.1]
    exact ⟨(geN 0 0 rfl (by decide) (by omega)).mpr (Nat.zero_le _), (iN_le (by omega) (by omega)).mpr (by omega)⟩
  obtain ⟨k1, k2, l2, k3, l3⟩ := kRow (B := 100) (Or.inl rfl) hr
  obtain ⟨p1, p2⟩ := pRow (B := 100) (Or.inl rfl) hr hP
  have hx : x_ix (Int32.ofNat Q.1) 8 := iN_ix (by omega) (by omega)
  have hc : (Int32.ofNat Q.1).toNatClampNeg = Q.1 := iN_cl (by omega)
  have n1 : (100 + r = 100 + (r + 1)) = False := eq_false (by omega)
  have n2 : (100 + r = 100 + (r + 2)) = False := eq_false (by omega)
  refine ⟨x_sI (x_sI (x_sI μ (100 + (r + 1)) Q.1 (Int32.ofNat x)) (100 + (r + 2)) Q.1 (Int32.ofInt z)) (100 + r) 3 (Int32.ofNat (Q.1 + 1)), ?_, ⟨sI_get, fun j hj => ?_⟩, ?_⟩
  · unfold f_X6_add
    simp only [↓ckE, ↓ltE, ↓reduceIte, kC, lC, k1, k2, l2, k3, l3, p1, p2, Nat.reduceAdd, h.1, hm, c_in, g, and_self, iE, bdE, true_and, ↓ixT hx, hc, sI_2, sI_rd, n1, n2, iN_s]
  · have hj : j < Q.1 + 1 := hj
    have g1 : ∀ o, o ≠ 100 + r → (x_sI (x_sI (x_sI μ (100 + (r + 1)) Q.1 (Int32.ofNat x)) (100 + (r + 2)) Q.1 (Int32.ofInt z)) (100 + r) 3 (Int32.ofNat (Q.1 + 1))).1 o j = (x_sI (x_sI μ (100 + (r + 1)) Q.1 (Int32.ofNat x)) (100 + (r + 2)) Q.1 (Int32.ofInt z)).1 o j := fun o ho => by rw [sI_no ho]
    show _ = Int32.ofNat (updN Q.2.1 Q.1 x j) ∧ _ = Int32.ofInt (updI Q.2.2 Q.1 z j)
    rw [g1 (100 + r + 1) (by omega), g1 (100 + r + 2) (by omega)]
    by_cases e : j = Q.1
    · rw [e, updN_eq, updI_eq]
      exact ⟨by rw [sI_off (by omega)]; exact sI_get, sI_get⟩
    · rw [updN_ne e, updI_ne e, sI_off (by omega), sI_off (by omega), sI_off (by omega), sI_off (by omega)]
      exact h.2 j (by omega)
  · exact ((frC.sI ⟨by omega, by omega, by omega⟩).tr (frC.sI ⟨by omega, by omega, by omega⟩)).tr (frC.sI ⟨by omega, by omega, fun _ => rfl⟩)
theorem RowC.zero {r : Nat} {Q : Rw} : RowC (x_sI μ r 3 0) r (0, Q.2) := ⟨sI_get, fun j hj => by omega⟩
theorem RowR.zero {kc w1 w2 : Nat} {Q : Rw} : RowR (x_sI ν 600 kc 0) kc w1 w2 (0, Q.2) := ⟨sI_get, fun j hj => by omega⟩
/-- the reference's adding of a row -/
theorem RowR.add {kc w1 w2 x : Nat} {z : Int} {Q : Rw} (h : RowR ν kc w1 w2 Q) (h1 : 600 < w1) (h2 : 600 < w2) (h3 : w1 ≠ w2) : RowR (x_sI (x_sI (x_sI ν w1 Q.1 (Int32.ofNat x)) w2 Q.1 (Int32.ofInt z)) 600 kc (Int32.ofNat (Q.1 + 1))) kc w1 w2 (addQ Q x z) := by
  refine ⟨sI_get, fun j hj => ?_⟩
  have hj : j < Q.1 + 1 := hj
  have g1 : ∀ o, o ≠ 600 → (x_sI (x_sI (x_sI ν w1 Q.1 (Int32.ofNat x)) w2 Q.1 (Int32.ofInt z)) 600 kc (Int32.ofNat (Q.1 + 1))).1 o j = (x_sI (x_sI ν w1 Q.1 (Int32.ofNat x)) w2 Q.1 (Int32.ofInt z)).1 o j := fun o ho => by rw [sI_no ho]
  show _ = Int32.ofNat (updN Q.2.1 Q.1 x j) ∧ _ = Int32.ofInt (updI Q.2.2 Q.1 z j)
  rw [g1 w1 (by omega), g1 w2 (by omega)]
  by_cases e : j = Q.1
  · rw [e, updN_eq, updI_eq]
    exact ⟨by rw [sI_off (by omega)]; exact sI_get, sI_get⟩
  · rw [updN_ne e, updI_ne e, sI_off (by omega), sI_off (by omega), sI_off (by omega), sI_off (by omega)]
    exact h.2 j (by omega)
theorem q_see {x y : Int32} (h : Rel μ ν) : SameR (f_X9_see (XC ad D cA) 1 x y μ) (f_X10_see (XR ad D cA) 600 x y ν) := by
  have h0 := h
  obtain ⟨S, R1, R2, R3, ⟨hp, h30⟩, ⟨⟨hC2, hC3⟩, hR1, hR2, hR3⟩, hg, ho⟩ := h
  have hm := ho.1.2.2.1
  have r16 : rw3 16 := Or.inl rfl
  have h4 := hg.2.2.2.1.1
  unfold f_X9_see f_X10_see
  by_cases q0 : x = -1
  · have ec := c_clear (ad := ad) (D := D) (cA := cA) (μ := μ) r16
    simp only [Nat.reduceAdd] at ec
    refine ⟨0, x_sI μ 116 3 0, x_sI ν 600 40 0, ?_, ?_, ?_⟩
    · simp only [↓ckE, ↓ltE, ↓reduceIte, kC, CK, CP hp.P, Nat.reduceAdd, q0, ec, bdE]
    · simp only [↓ckE, ↓ltE, ↓reduceIte, kR, RK, Nat.reduceAdd, q0]
    · refine Rel.rows (S := S) (R1 := R1) (R1' := (0, R1.2)) (R2' := R2) (R3' := R3) hp h30 ho ⟨hg.1, hg.2.1, hg.2.2.1, ⟨Nat.zero_le _, fun r hr => absurd hr (Nat.not_lt_zero _)⟩, hg.2.2.2.2⟩ RowC.zero ⟨hC2.eqr (fun o k p1 p2 => sI_off (by omega)), hC3.eqr (fun o k p1 p2 => sI_off (by omega))⟩ ⟨RowR.zero, hR2.eq (sI_off (by omega)) (fun k => sI_off (by omega)) (fun k => sI_off (by omega)), hR3.eq (sI_off (by omega)) (fun k => sI_off (by omega)) (fun k => sI_off (by omega))⟩ (frC.sI (by unfold rwC; omega)) (frC.sI (by unfold rwR; omega))
  · by_cases q : (0 : Int32) ≤ x ∧ x ≤ 20
    · by_cases q2 : (0 : Int32) ≤ y ∧ y ≤ 60
      · obtain ⟨n, -, hn, rfl⟩ := inN 0 20 0 20 rfl rfl (by decide) (by decide) q
        obtain ⟨z, z1, z2, rfl⟩ := inI 0 60 0 60 rfl rfl (by decide) (by decide) q2
        by_cases q4 : R1.1 = 4
        · have ea := c_addF (ad := ad) (D := D) (cA := cA) (N := 4) (x := Int32.ofNat n) (y := Int32.ofInt z) r16 hp.1.2.2.2.2.2 hm (by omega) q4
          have g2 : Int32.ofNat R1.1 = 4 := (eqN 4 4 rfl (by omega) (by decide)).mpr q4
          simp only [Nat.reduceAdd] at ea
          refine SameR.now (r := -4) h0 ?_ ?_
          · simp only [↓ckE, ↓ltE, ↓reduceIte, kC, CK, CP hp.P, Nat.reduceAdd, q0, c_in, q, q2, and_self, iE, ea, bdE]
          · simp only [↓ckE, ↓ltE, ↓reduceIte, kR, RK, Nat.reduceAdd, q0, r_in, q, q2, and_self, iE, bdE, hR1.1, g2]
        · obtain ⟨μ', ea, rc, fc⟩ := c_addN (ad := ad) (D := D) (cA := cA) (N := 4) (x := n) (z := z) hp.P r16 hp.1.2.2.2.2.2 hm (by omega) (by omega : R1.1 < 4)
          have g2 : ¬ Int32.ofNat R1.1 = 4 := fun w => q4 ((eqN 4 4 rfl (by omega) (by decide)).mp w)
          have hx : x_ix (Int32.ofNat R1.1) 4 := iN_ix (by omega) (by omega)
          have hc : (Int32.ofNat R1.1).toNatClampNeg = R1.1 := iN_cl (by omega)
          simp only [Nat.reduceAdd] at ea rc fc
          refine ⟨Int32.ofNat (R1.1 + 1), μ', x_sI (x_sI (x_sI ν 642 R1.1 (Int32.ofNat n)) 643 R1.1 (Int32.ofInt z)) 600 40 (Int32.ofNat (R1.1 + 1)), ?_, ?_, ?_⟩
          · simp only [↓ckE, ↓ltE, ↓reduceIte, kC, CK, CP hp.P, Nat.reduceAdd, q0, c_in, q, q2, and_self, iE, ea, bdE]
          · simp only [↓ckE, ↓ltE, ↓reduceIte, kR, lR, RK, RN, RP hp.2.1.1, Nat.reduceAdd, q0, r_in, q, q2, and_self, iE, bdE, hR1.1, g2, true_and, ↓ixT hx, hc, sI_2, sI_rd, Nat.reduceEqDiff, iN_s]
          · refine Rel.rows (S := S) (R1 := R1) (R1' := addQ R1 n z) (R2' := R2) (R3' := R3) hp h30 ho ⟨hg.1, hg.2.1, hg.2.2.1, ⟨by show R1.1 + 1 ≤ 4; omega, fun r hr => ?_⟩, hg.2.2.2.2⟩ rc ⟨hC2.eqr (fun o k p1 p2 => fc.2 o k (by omega)), hC3.eqr (fun o k p1 p2 => fc.2 o k (by omega))⟩ ⟨hR1.add (by omega) (by omega) (by omega), hR2.eq ?_ (fun k => ?_) (fun k => ?_), hR3.eq ?_ (fun k => ?_) (fun k => ?_)⟩ (fc.up (fun o k w => by unfold rwC; omega)) (((frC.sI (by unfold rwR; omega)).tr (frC.sI (by unfold rwR; omega))).tr (frC.sI (by unfold rwR; omega)))
            · have hr : r < R1.1 + 1 := hr
              show updN R1.2.1 R1.1 n r ≤ 20 ∧ 0 ≤ updI R1.2.2 R1.1 z r ∧ updI R1.2.2 R1.1 z r ≤ 60
              by_cases e : r = R1.1
              · rw [e, updN_eq, updI_eq]; exact ⟨hn, z1, z2⟩
              · rw [updN_ne e, updI_ne e]; exact hg.2.2.2.1.2 r (by omega)
            all_goals simp only [sI_rd, Nat.reduceEqDiff, ↓reduceIte]
      · refine SameR.now (r := -2) h0 ?_ ?_
        · simp only [↓reduceIte, q0, c_in, q, q2, and_self, iE, bdE]
        · simp only [↓ckE, ↓reduceIte, kR, RK, Nat.reduceAdd, q0, r_in, q, q2, and_self, iE, bdE]
    · refine SameR.now (r := -2) h0 ?_ ?_
      · simp only [↓reduceIte, q0, c_in, q, bdE]
      · simp only [↓ckE, ↓reduceIte, kR, RK, Nat.reduceAdd, q0, r_in, q, bdE]
theorem q_plan {x y : Int32} (h : Rel μ ν) : SameR (f_X9_plan (XC ad D cA) 1 x y μ) (f_X10_plan (XR ad D cA) 600 x y ν) := by
  have h0 := h
  obtain ⟨S, R1, R2, R3, ⟨hp, h30⟩, ⟨⟨hC2, hC3⟩, hR1, hR2, hR3⟩, hg, ho⟩ := h
  have hm := ho.1.2.2.2.1
  have r19 : rw3 19 := Or.inr (Or.inl rfl)
  have h8 := hg.2.2.2.2.1.1
  have h6 := hp.n6
  have hC1 := hp.1.2.2.2.2.2
  unfold f_X9_plan f_X10_plan f_X9_isDaily f_X10_isDaily
  by_cases q0 : x = -1
  · have ec := c_clear (ad := ad) (D := D) (cA := cA) (μ := μ) r19
    simp only [Nat.reduceAdd] at ec
    refine ⟨0, x_sI μ 119 3 0, x_sI ν 600 43 0, ?_, ?_, ?_⟩
    · simp only [↓ckE, ↓ltE, ↓reduceIte, kC, CK, CP hp.P, Nat.reduceAdd, q0, ec, bdE]
    · simp only [↓ckE, ↓ltE, ↓reduceIte, kR, RK, Nat.reduceAdd, q0]
    · refine Rel.rows (S := S) (R1 := R1) (R1' := R1) (R2' := (0, R2.2)) (R3' := R3) hp h30 ho ⟨hg.1, hg.2.1, hg.2.2.1, hg.2.2.2.1, ⟨Nat.zero_le _, fun r hr => absurd hr (Nat.not_lt_zero _)⟩, hg.2.2.2.2.2⟩ (hC1.eqr (fun o k p1 p2 => sI_off (by omega))) ⟨RowC.zero, hC3.eqr (fun o k p1 p2 => sI_off (by omega))⟩ ⟨hR1.eq (sI_off (by omega)) (fun k => sI_off (by omega)) (fun k => sI_off (by omega)), RowR.zero, hR3.eq (sI_off (by omega)) (fun k => sI_off (by omega)) (fun k => sI_off (by omega))⟩ (frC.sI (by unfold rwC; omega)) (frC.sI (by unfold rwR; omega))
  · rcases hp.acc (ad := ad) (D := D) (cA := cA) x with ⟨a, ha, rfl, k1, k2⟩ | ⟨-, k1, k2⟩
    · have hz : (104 + a = 0) = False := eq_false (by omega)
      by_cases q2 : (-30 : Int32) ≤ y ∧ y ≤ 30
      · obtain ⟨z, z1, z2, rfl⟩ := inI (-30) 30 (-30) 30 rfl rfl (by decide) (by decide) q2
        by_cases q4 : R2.1 = 8
        · have ea := c_addF (ad := ad) (D := D) (cA := cA) (N := 8) (x := Int32.ofNat a) (y := Int32.ofInt z) r19 hC2 hm (by omega) q4
          have g2 : Int32.ofNat R2.1 = 8 := (eqN 8 8 rfl (by omega) (by decide)).mpr q4
          simp only [Nat.reduceAdd] at ea
          refine SameR.now (r := -4) h0 ?_ ?_
          · simp only [↓ckE, ↓ltE, ↓reduceIte, kC, CK, CP hp.P, Nat.reduceAdd, q0, k1, hz, c_in, q2, and_self, iE, or_true, ea, bdE]
          · simp only [↓ckE, ↓ltE, ↓reduceIte, kR, RK, Nat.reduceAdd, q0, k2, r_in, q2, and_self, iE, or_true, bdE, hR2.1, g2]
        · obtain ⟨μ', ea, rc, fc⟩ := c_addN (ad := ad) (D := D) (cA := cA) (N := 8) (x := a) (z := z) hp.P r19 hC2 hm (by omega) (by omega : R2.1 < 8)
          have g2 : ¬ Int32.ofNat R2.1 = 8 := fun w => q4 ((eqN 8 8 rfl (by omega) (by decide)).mp w)
          have hx : x_ix (Int32.ofNat R2.1) 8 := iN_ix (by omega) (by omega)
          have hc : (Int32.ofNat R2.1).toNatClampNeg = R2.1 := iN_cl (by omega)
          simp only [Nat.reduceAdd] at ea rc fc
          refine ⟨Int32.ofNat (R2.1 + 1), μ', x_sI (x_sI (x_sI ν 646 R2.1 (Int32.ofNat a)) 647 R2.1 (Int32.ofInt z)) 600 43 (Int32.ofNat (R2.1 + 1)), ?_, ?_, ?_⟩
          · simp only [↓ckE, ↓ltE, ↓reduceIte, kC, CK, CP hp.P, Nat.reduceAdd, q0, k1, hz, c_in, q2, and_self, iE, or_true, ea, bdE]
          · simp only [↓ckE, ↓ltE, ↓reduceIte, kR, lR, RK, RN, RP hp.2.1.1, Nat.reduceAdd, q0, k2, r_in, q2, and_self, iE, or_true, bdE, hR2.1, g2, true_and, ↓ixT hx, hc, sI_2, sI_rd, Nat.reduceEqDiff, iN_s]
          · refine Rel.rows (S := S) (R1 := R1) (R1' := R1) (R2' := addQ R2 a z) (R3' := R3) hp h30 ho ⟨hg.1, hg.2.1, hg.2.2.1, hg.2.2.2.1, ⟨by show R2.1 + 1 ≤ 8; omega, fun r hr => ?_⟩, hg.2.2.2.2.2⟩ (hC1.eqr (fun o k p1 p2 => fc.2 o k (by omega))) ⟨rc, hC3.eqr (fun o k p1 p2 => fc.2 o k (by omega))⟩ ⟨hR1.eq ?_ (fun k => ?_) (fun k => ?_), hR2.add (by omega) (by omega) (by omega), hR3.eq ?_ (fun k => ?_) (fun k => ?_)⟩ (fc.up (fun o k w => by unfold rwC; omega)) (((frC.sI (by unfold rwR; omega)).tr (frC.sI (by unfold rwR; omega))).tr (frC.sI (by unfold rwR; omega)))
            · have hr : r < R2.1 + 1 := hr
              show updN R2.2.1 R2.1 a r < S.n ∧ -30 ≤ updI R2.2.2 R2.1 z r ∧ updI R2.2.2 R2.1 z r ≤ 30
              by_cases e : r = R2.1
              · rw [e, updN_eq, updI_eq]; exact ⟨ha, z1, z2⟩
              · rw [updN_ne e, updI_ne e]; exact hg.2.2.2.2.1.2 r (by omega)
            all_goals simp only [sI_rd, Nat.reduceEqDiff, ↓reduceIte]
      · refine SameR.now (r := -2) h0 ?_ ?_
        · simp only [↓ckE, ↓ltE, ↓reduceIte, kC, CK, CP hp.P, Nat.reduceAdd, q0, k1, hz, c_in, q2, bdE, true_or]
        · simp only [↓ckE, ↓reduceIte, kR, RK, Nat.reduceAdd, q0, k2, iE, r_in, q2, bdE, true_or]
    · refine SameR.now (r := -1) h0 ?_ ?_
      · simp only [↓ckE, ↓ltE, ↓reduceIte, kC, CK, CP hp.P, Nat.reduceAdd, q0, k1, bdE]
      · simp only [↓ckE, ↓reduceIte, kR, RK, Nat.reduceAdd, q0, k2, bdE]
theorem q_book {x y : Int32} (h : Rel μ ν) : SameR (f_X9_book (XC ad D cA) 1 x y μ) (f_X10_book (XR ad D cA) 600 x y ν) := by
  have h0 := h
  obtain ⟨S, R1, R2, R3, ⟨hp, h30⟩, ⟨⟨hC2, hC3⟩, hR1, hR2, hR3⟩, hg, ho⟩ := h
  have hm := ho.1.2.2.2.2
  have r22 : rw3 22 := Or.inr (Or.inr rfl)
  have h8 := hg.2.2.2.2.2.1
  have h6 := hp.n6
  have hC1 := hp.1.2.2.2.2.2
  unfold f_X9_book f_X10_book
  by_cases q0 : x = -1
  · have ec := c_clear (ad := ad) (D := D) (cA := cA) (μ := μ) r22
    simp only [Nat.reduceAdd] at ec
    refine ⟨0, x_sI μ 122 3 0, x_sI ν 600 44 0, ?_, ?_, ?_⟩
    · simp only [↓ckE, ↓ltE, ↓reduceIte, kC, CK, CP hp.P, Nat.reduceAdd, q0, ec, bdE]
    · simp only [↓ckE, ↓ltE, ↓reduceIte, kR, RK, Nat.reduceAdd, q0]
    · refine Rel.rows (S := S) (R1 := R1) (R1' := R1) (R2' := R2) (R3' := (0, R3.2)) hp h30 ho ⟨hg.1, hg.2.1, hg.2.2.1, hg.2.2.2.1, hg.2.2.2.2.1, ⟨Nat.zero_le _, fun r hr => absurd hr (Nat.not_lt_zero _)⟩⟩ (hC1.eqr (fun o k p1 p2 => sI_off (by omega))) ⟨hC2.eqr (fun o k p1 p2 => sI_off (by omega)), RowC.zero⟩ ⟨hR1.eq (sI_off (by omega)) (fun k => sI_off (by omega)) (fun k => sI_off (by omega)), hR2.eq (sI_off (by omega)) (fun k => sI_off (by omega)) (fun k => sI_off (by omega)), RowR.zero⟩ (frC.sI (by unfold rwC; omega)) (frC.sI (by unfold rwR; omega))
  · rcases hp.acc (ad := ad) (D := D) (cA := cA) x with ⟨a, ha, rfl, k1, k2⟩ | ⟨-, k1, k2⟩
    · have hz : (104 + a = 0) = False := eq_false (by omega)
      by_cases q2 : (-9999 : Int32) ≤ y ∧ y ≤ 9999
      · obtain ⟨z, z1, z2, rfl⟩ := inI (-9999) 9999 (-9999) 9999 rfl rfl (by decide) (by decide) q2
        by_cases q4 : R3.1 = 8
        · have ea := c_addF (ad := ad) (D := D) (cA := cA) (N := 8) (x := Int32.ofNat a) (y := Int32.ofInt z) r22 hC3 hm (by omega) q4
          have g2 : Int32.ofNat R3.1 = 8 := (eqN 8 8 rfl (by omega) (by decide)).mpr q4
          simp only [Nat.reduceAdd] at ea
          refine SameR.now (r := -4) h0 ?_ ?_
          · simp only [↓ckE, ↓ltE, ↓reduceIte, kC, CK, CP hp.P, Nat.reduceAdd, q0, k1, hz, c_in, q2, and_self, iE, ea, bdE]
          · simp only [↓ckE, ↓ltE, ↓reduceIte, kR, RK, Nat.reduceAdd, q0, k2, r_in, q2, and_self, iE, bdE, hR3.1, g2]
        · obtain ⟨μ', ea, rc, fc⟩ := c_addN (ad := ad) (D := D) (cA := cA) (N := 8) (x := a) (z := z) hp.P r22 hC3 hm (by omega) (by omega : R3.1 < 8)
          have g2 : ¬ Int32.ofNat R3.1 = 8 := fun w => q4 ((eqN 8 8 rfl (by omega) (by decide)).mp w)
          have hx : x_ix (Int32.ofNat R3.1) 8 := iN_ix (by omega) (by omega)
          have hc : (Int32.ofNat R3.1).toNatClampNeg = R3.1 := iN_cl (by omega)
          simp only [Nat.reduceAdd] at ea rc fc
          refine ⟨Int32.ofNat (R3.1 + 1), μ', x_sI (x_sI (x_sI ν 648 R3.1 (Int32.ofNat a)) 649 R3.1 (Int32.ofInt z)) 600 44 (Int32.ofNat (R3.1 + 1)), ?_, ?_, ?_⟩
          · simp only [↓ckE, ↓ltE, ↓reduceIte, kC, CK, CP hp.P, Nat.reduceAdd, q0, k1, hz, c_in, q2, and_self, iE, ea, bdE]
          · simp only [↓ckE, ↓ltE, ↓reduceIte, kR, lR, RK, RN, RP hp.2.1.1, Nat.reduceAdd, q0, k2, r_in, q2, and_self, iE, bdE, hR3.1, g2, true_and, ↓ixT hx, hc, sI_2, sI_rd, Nat.reduceEqDiff, iN_s]
          · refine Rel.rows (S := S) (R1 := R1) (R1' := R1) (R2' := R2) (R3' := addQ R3 a z) hp h30 ho ⟨hg.1, hg.2.1, hg.2.2.1, hg.2.2.2.1, hg.2.2.2.2.1, ⟨by show R3.1 + 1 ≤ 8; omega, fun r hr => ?_⟩⟩ (hC1.eqr (fun o k p1 p2 => fc.2 o k (by omega))) ⟨hC2.eqr (fun o k p1 p2 => fc.2 o k (by omega)), rc⟩ ⟨hR1.eq ?_ (fun k => ?_) (fun k => ?_), hR2.eq ?_ (fun k => ?_) (fun k => ?_), hR3.add (by omega) (by omega) (by omega)⟩ (fc.up (fun o k w => by unfold rwC; omega)) (((frC.sI (by unfold rwR; omega)).tr (frC.sI (by unfold rwR; omega))).tr (frC.sI (by unfold rwR; omega)))
            · have hr : r < R3.1 + 1 := hr
              show updN R3.2.1 R3.1 a r < S.n ∧ -9999 ≤ updI R3.2.2 R3.1 z r ∧ updI R3.2.2 R3.1 z r ≤ 9999
              by_cases e : r = R3.1
              · rw [e, updN_eq, updI_eq]; exact ⟨ha, z1, z2⟩
              · rw [updN_ne e, updI_ne e]; exact hg.2.2.2.2.2.2 r (by omega)
            all_goals simp only [sI_rd, Nat.reduceEqDiff, ↓reduceIte]
      · refine SameR.now (r := -2) h0 ?_ ?_
        · simp only [↓ckE, ↓ltE, ↓reduceIte, kC, CK, CP hp.P, Nat.reduceAdd, q0, k1, hz, c_in, q2, bdE]
        · simp only [↓ckE, ↓reduceIte, kR, RK, Nat.reduceAdd, q0, k2, iE, r_in, q2, bdE]
    · refine SameR.now (r := -1) h0 ?_ ?_
      · simp only [↓ckE, ↓ltE, ↓reduceIte, kC, CK, CP hp.P, Nat.reduceAdd, q0, k1, bdE]
      · simp only [↓ckE, ↓reduceIte, kR, RK, Nat.reduceAdd, q0, k2, bdE]
/-! looked -/
def lookF (S : St) (Q : Rw) : Nat → Nat → Option Nat
  | 0, _ => none
  | m + 1, k => if S.bk (Q.2.1 k) = Q.2.2 k then lookF S Q m (k + 1) else some k
theorem q_looked (h : Rel μ ν) : SameR (f_X9_looked (XC ad D cA) 1 μ) (f_X10_looked (XR ad D cA) 600 ν) := by
  have h0 := h
  obtain ⟨S, R1, R2, R3, ⟨hp, h30⟩, ⟨⟨hC2, hC3⟩, hR1, hR2, hR3⟩, hg, ho⟩ := h
  have h6 := hp.n6
  obtain ⟨h8, hb⟩ := hg.2.2.2.2.2
  have r22 : rw3 22 := Or.inr (Or.inr rfl)
  have es := n_size (ad := ad) (D := D) (cA := cA) (r := 22) r22 hC3
  simp only [Nat.reduceAdd] at es
  have A : ∀ (m k F : Nat) (x : Int32), k + m = R3.1 → m < F → x = Int32.ofNat k → f_X9_looked_L2 (XC ad D cA) F 1 x μ = some (encO (lookF S R3 m k), μ) ∧ f_X10_looked_L2 (XR ad D cA) F 600 x ν = some (encO (lookF S R3 m k), ν) := by
    intro m
    induction m with
    | zero =>
      intro k F x hk hF hx
      obtain ⟨f, rfl⟩ : ∃ n, F = n + 1 := ⟨F - 1, by omega⟩
      have hc : Int32.ofNat R3.1 ≤ x := by rw [hx]; exact (iN_le (by omega) (by omega)).mpr (by omega)
      constructor
      · unfold f_X9_looked_L2
        simp only [↓ckE, ↓ltE, ↓reduceIte, kC, CK, CP hp.P, Nat.reduceAdd, es, bdE, hc]
        rfl
      · unfold f_X10_looked_L2
        simp only [↓ckE, ↓ltE, ↓reduceIte, kR, RK, Nat.reduceAdd, hR3.1, hc]
        rfl
    | succ m ih =>
      intro k F x hk hF hx
      obtain ⟨f, rfl⟩ : ∃ n, F = n + 1 := ⟨F - 1, by omega⟩
      have hc : ¬ Int32.ofNat R3.1 ≤ x := fun z => by rw [hx] at z; have := (iN_le (by omega) (by omega)).mp z; omega
      obtain ⟨e1, e2⟩ := n_fs (ad := ad) (D := D) (cA := cA) (r := 22) (j := k) hp.P r22 hC3 h8 (by omega)
      simp only [Nat.reduceAdd] at e1 e2
      rw [← hx] at e1 e2
      obtain ⟨b1, b2, b3⟩ := hb k (by omega)
      have eb := c_bk (ad := ad) (D := D) (cA := cA) hp.1.1 hp.ok b1
      have bb := (hp.ok.1.2.1 _ b1).2.1
      have hx8 : x_ix x 8 := by rw [hx]; exact iN_ix (by omega) (by omega)
      have hcl : x.toNatClampNeg = k := by rw [hx]; exact iN_cl (by omega)
      have hy6 : x_ix (Int32.ofNat (R3.2.1 k)) 6 := iN_ix (by omega) (by omega)
      have hyl : (Int32.ofNat (R3.2.1 k)).toNatClampNeg = R3.2.1 k := iN_cl (by omega)
      obtain ⟨w1, w2⟩ := hR3.2 k (by omega)
      have d4 := (hp.2.1.2.2.2.2.1 _ b1).2.1.1
      obtain ⟨n1, n2⟩ := ih (k + 1) f (x + 1) (by omega) (by omega) (by rw [hx]; exact iN_s)
      show _ = some (encO (if S.bk (R3.2.1 k) = R3.2.2 k then lookF S R3 m (k + 1) else some k), μ) ∧ _ = some (encO (if S.bk (R3.2.1 k) = R3.2.2 k then lookF S R3 m (k + 1) else some k), ν)
      constructor
      · unfold f_X9_looked_L2
        simp only [↓ckE, ↓ltE, ↓reduceIte, kC, CK, CP hp.P, Nat.reduceAdd, es, bdE, hc, e1, e2, eb]
        by_cases g : S.bk (R3.2.1 k) = R3.2.2 k
        · rw [if_pos g, if_pos (by rw [g]), n1]
        · rw [if_neg g, if_neg (fun w => g ((iI_inj (by omega) (by omega)).mp w)), hx]; rfl
      · unfold f_X10_looked_L2
        simp only [↓ckE, ↓ltE, ↓reduceIte, kR, lR, RK, RN, RP hp.2.1.1, Nat.reduceAdd, hR3.1, hc, true_or, true_and, ↓ixT hx8, hcl, w1, w2, ↓ixT hy6, hyl, d4]
        by_cases g : S.bk (R3.2.1 k) = R3.2.2 k
        · rw [if_pos g, if_pos (by rw [g]), n2]
        · rw [if_neg g, if_neg (fun w => g ((iI_inj (by omega) (by omega)).mp w)), hx]; rfl
  obtain ⟨a1, a2⟩ := A R3.1 0 4096 0 (by omega) (by omega) rfl
  exact SameR.now (r := encO (lookF S R3 R3.1 0)) h0 a1 a2
theorem q_count {x : Int32} (h : Rel μ ν) : SameR (f_X9_count (XC ad D cA) 1 x μ) (f_X10_count (XR ad D cA) 600 x ν) := by
  have h0 := h
  obtain ⟨S, R1, R2, R3, ⟨hp, h30⟩, ⟨⟨hC2, hC3⟩, hR1, hR2, hR3⟩, hg, ho⟩ := h
  have s1 := n_size (ad := ad) (D := D) (cA := cA) (r := 16) (Or.inl rfl) hp.1.2.2.2.2.2
  have s2 := n_size (ad := ad) (D := D) (cA := cA) (r := 19) (Or.inr (Or.inl rfl)) hC2
  have s3 := n_size (ad := ad) (D := D) (cA := cA) (r := 22) (Or.inr (Or.inr rfl)) hC3
  simp only [Nat.reduceAdd] at s1 s2 s3
  obtain ⟨K, -, l1, l2, -⟩ := ho.2.2.1
  obtain ⟨L, -, t1, t2, -⟩ := ho.2.2.2.1
  obtain ⟨n, -, a1, a2, -⟩ := ho.2.2.2.2.2
  have c1 : μ.1 100 6 = Int32.ofNat S.n := hp.1.1.2.2.2.2.2.1.1
  have c2 : ν.1 600 0 = Int32.ofNat S.n := hp.2.1.2.2.1.1
  unfold f_X9_count f_X10_count f_X5_length f_X1_ran
  simp only [↓ckE, ↓ltE, ↓reduceIte, kC, CK, CP hp.P, kR, RK, Nat.reduceAdd, bdE, s1, s2, s3, l1, l2, t1, t2, a1, a2, c1, c2, hR1.1, hR2.1, hR3.1]
  simp only [↓swE, sw_n]
  by_cases q0 : x = 0
  · rw [if_pos q0, if_pos q0]; exact SameR.now h0 rfl rfl
  rw [if_neg q0, if_neg q0]
  by_cases q1 : x = 1
  · rw [if_pos q1, if_pos q1]; exact SameR.now h0 rfl rfl
  rw [if_neg q1, if_neg q1]
  by_cases q2 : x = 2
  · rw [if_pos q2, if_pos q2]; exact SameR.now h0 rfl rfl
  rw [if_neg q2, if_neg q2]
  by_cases q3 : x = 3
  · rw [if_pos q3, if_pos q3]; exact SameR.now h0 rfl rfl
  rw [if_neg q3, if_neg q3]
  by_cases q4 : x = 4
  · rw [if_pos q4, if_pos q4]; exact SameR.now h0 rfl rfl
  rw [if_neg q4, if_neg q4]
  by_cases q5 : x = 5
  · rw [if_pos q5, if_pos q5]; exact SameR.now h0 rfl rfl
  rw [if_neg q5, if_neg q5]
  by_cases q6 : x = 6
  · rw [if_pos q6, if_pos q6]; exact SameR.now h0 rfl rfl
  rw [if_neg q6, if_neg q6]
  exact SameR.now h0 rfl rfl
theorem q_trace {x : Int32} (h : Rel μ ν) : SameR (f_X9_trace (XC ad D cA) 1 x μ) (f_X10_trace (XR ad D cA) 600 x ν) := by
  have h0 := h
  obtain ⟨S, R1, R2, R3, ⟨hp, h30⟩, -, hg, ho⟩ := h
  obtain ⟨n, hn, a1, a2, a3⟩ := ho.2.2.2.2.2
  unfold f_X9_trace f_X10_trace f_X1_bodyAt
  by_cases q : (0 : Int32) ≤ x ∧ x ≤ 19
  · obtain ⟨k, -, hk, rfl⟩ := inN 0 19 0 19 rfl rfl (by decide) (by decide) q
    have n1 : ¬ Int32.ofNat k < 0 := iN_neg (by omega)
    have n2 : ¬ (20 : Int32) ≤ Int32.ofNat k := fun z => by have := (geN 20 20 rfl (by omega) (by omega)).mp z; omega
    have hx : x_ix (Int32.ofNat k) 20 := iN_ix (by omega) (by omega)
    have hc : (Int32.ofNat k).toNatClampNeg = k := iN_cl (by omega)
    by_cases g : n ≤ k
    · have g' : Int32.ofNat n ≤ Int32.ofNat k := (iN_le (by omega) (by omega)).mpr g
      refine SameR.now (r := -1) h0 ?_ ?_
      · simp only [↓ckE, ↓ltE, ↓reduceIte, kC, CK, CP hp.P, Nat.reduceAdd, n1, a1, g', bdE]
      · simp only [↓ckE, ↓ltE, ↓reduceIte, kR, RK, Nat.reduceAdd, r_in, q, and_self, iE, bdE, a2, g']
    · have g' : ¬ Int32.ofNat n ≤ Int32.ofNat k := fun z => g ((iN_le (by omega) (by omega)).mp z)
      refine SameR.now (r := ν.1 673 k) h0 ?_ ?_
      · simp only [↓ckE, ↓ltE, ↓reduceIte, kC, lC, CK, CN, CP hp.P, Nat.reduceAdd, n1, n2, a1, g', bdE, true_or, true_and, ↓ixT hx, hc, a3 k (by omega) (by omega)]
      · simp only [↓ckE, ↓ltE, ↓reduceIte, kR, lR, RK, RN, RP hp.2.1.1, Nat.reduceAdd, r_in, q, and_self, iE, bdE, a2, g', true_or, true_and, ↓ixT hx, hc]
  · refine SameR.now (r := -1) h0 ?_ ?_
    · by_cases n1 : x < 0
      · simp only [↓ckE, ↓ltE, ↓reduceIte, kC, CK, CP hp.P, Nat.reduceAdd, n1, bdE]
      · have n2 : (20 : Int32) ≤ x := by
          obtain ⟨j, hj, rfl⟩ := iN_of n1
          refine (geN 20 20 rfl (by omega) hj).mpr (Nat.le_of_not_lt (fun z => q ⟨Int32.not_lt.mp n1, (leN 19 19 rfl hj (by decide)).mpr (by omega)⟩))
        simp only [↓ckE, ↓ltE, ↓reduceIte, kC, CK, CP hp.P, Nat.reduceAdd, n1, n2, a1, ite_self, bdE]
    · simp only [↓ckE, ↓reduceIte, kR, RK, Nat.reduceAdd, r_in, q, bdE]
end ROWS
