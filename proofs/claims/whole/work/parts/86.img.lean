/-! ===== image, undo: in both ===== -/
section IMG
variable {ad : Nat → Nat} {D : va_G} {cA : Nat → ClassId} {μ ν : x_M}
theorem StC.eqB {a b : x_M} {B : Nat} {S : St} (h : StC a B S) (h6 : S.n ≤ 6) (f : eqO (usC B) a b) (r : ∀ o k, ¬ ((o = 100 ∨ o = 200 ∨ o = 300) ∧ k = 5) → b.2.1 o k = a.2.1 o k) (r5 : b.2.1 B 5 = a.2.1 B 5) : StC b B S := by
  have hc : StC (b.1, a.2.1, a.2.2) B S := h.fr (P := fun o k => ¬ usC B o k) h6 ⟨rfl, fun o k z => f o k (Classical.byContradiction z)⟩ (fun o k z => z)
  obtain ⟨⟨c1, -⟩, c3, c4, c5, c6, c7, c8⟩ := hc
  refine ⟨⟨c1, fun o k z => ?_⟩, c3, c4, c5, ?_, c7, c8⟩
  · rw [r o k z]; exact h.1.2 o k z
  · rw [r5]
    exact LawC.congr (a := (b.1, a.2.1, a.2.2)) (fun _ _ _ => rfl) c6
theorem here01 {B : Nat} {S : St} (h : StC μ B S) : ∀ i, i < 6 → μ.1 (B + 4 + i) 2 = 0 ∨ μ.1 (B + 4 + i) 2 = 1 := fun i hi => by
  rw [(h.2.2.1 i hi).2]
  by_cases q : S.here i
  · rw [if_pos q]; exact Or.inr rfl
  · rw [if_neg q]; exact Or.inl rfl
/-- what a copy of 100 and 200 leaves alone -/
theorem copy_off {μ' : x_M} {B b : Nat} (hBb : (B = 200 ∧ b = 100) ∨ (B = 100 ∧ b = 200)) (r1 : μ'.2.1 = x_u μ.2.1 B 5 (μ.2.1 b 5)) (c2 : ∀ o k, ¬ cpZ B o k → μ'.1 o k = μ.1 o k) : (∀ o k, ¬ ((o = 100 ∨ o = 200 ∨ o = 300) ∧ k = 5) → μ'.2.1 o k = μ.2.1 o k) ∧ μ'.2.1 b 5 = μ.2.1 b 5 ∧ μ'.2.1 B 5 = μ.2.1 b 5 ∧ (NumC μ → NumC μ') ∧ ∀ S : St, S.n ≤ 6 → StC μ b S → StC μ' b S := by
  have ra : ∀ o k, ¬ (o = B ∧ k = 5) → μ'.2.1 o k = μ.2.1 o k := fun o k z => by
    rw [r1]
    show (if o = B then (if k = 5 then μ.2.1 b 5 else μ.2.1 o k) else μ.2.1 o k) = _
    by_cases q : o = B
    · rw [if_pos q, if_neg (fun w => z ⟨q, w⟩)]
    · rw [if_neg q]
  have rb : μ'.2.1 B 5 = μ.2.1 b 5 := by
    rw [r1]
    show (if B = B then (if 5 = 5 then μ.2.1 b 5 else μ.2.1 B 5) else μ.2.1 B 5) = _
    rw [if_pos rfl, if_pos rfl]
  have r0 : ∀ o k, ¬ ((o = 100 ∨ o = 200 ∨ o = 300) ∧ k = 5) → μ'.2.1 o k = μ.2.1 o k := fun o k z => ra o k (by omega)
  have r5 : μ'.2.1 b 5 = μ.2.1 b 5 := ra b 5 (by omega)
  refine ⟨r0, r5, rb, fun hN B' hB' i hi => ?_, fun S h6 h => h.eqB h6 (fun o k z => c2 o k ?_) r0 r5⟩
  · rw [c2 _ 0 (by have := hB'.ge; unfold cpZ cpA cpS cpW rw3; omega)]; exact hN B' hB' i hi
  · unfold usC lwC at z
    unfold cpZ cpA cpS cpW rw3
    omega
theorem q_image (h : Rel μ ν) : SameR (f_X9_image (XC ad D cA) 1 μ) (f_X10_image (XR ad D cA) 600 ν) := by
  obtain ⟨S, R1, R2, R3, ⟨hp, h30⟩, ⟨⟨hC2, hC3⟩, hR1, hR2, hR3⟩, hg, ho⟩ := h
  have h6 := hp.n6
  obtain ⟨hPl, hO, hday, hS1, hS2, hS3⟩ := hg
  have hB : isB 200 := Or.inr (Or.inl rfl)
  have hf : farB 200 100 := by unfold farB; omega
  obtain ⟨μ1, e, ⟨r1, r2⟩, c1, ⟨z1, z2⟩, c2⟩ := c_copy (ad := ad) (D := D) (cA := cA) hB hp.1.1.1.1 hf hp.P (here01 hp.1.1)
  obtain ⟨ra, rb, rc, rn, rs⟩ := copy_off (Or.inl ⟨rfl, rfl⟩) r1 c2
  have s2 : StC μ1 200 S := hp.1.1.of_copy hB hf hPl hp.1.2.2.1 h6 r1 c1 z1 z2 c2
  have s1 : StC μ1 100 S := rs S h6 hp.1.1
  have fw : frC (fun o k => o = 1 ∧ k = 7) μ1 (x_sI μ1 1 7 1) := frC.sI ⟨rfl, rfl⟩
  have s2' : StC (x_sI μ1 1 7 1) 200 S := s2.fr h6 fw (fun o k z => by unfold usC lwC; omega)
  have s1' : StC (x_sI μ1 1 7 1) 100 S := s1.fr h6 fw (fun o k z => by unfold usC lwC; omega)
  have c2' : ∀ o k, ¬ cpZ 200 o k → ¬ (o = 1 ∧ k = 7) → (x_sI μ1 1 7 1).1 o k = μ.1 o k := fun o k y1 y2 => by rw [sI_of y2]; exact c2 o k y1
  have rw8 : ∀ (r : Nat) (R : Rw), rw3 r → R.1 ≤ 8 → RowC μ (100 + r) R → RowC (x_sI μ1 1 7 1) (200 + r) R := fun r R y1 y2 y3 => (y3.of_copy (B := 200) (b := 100) y1 y2 c1).eq (fun o k p1 p2 _ => sI_of (by omega))
  have rwn : ∀ (r : Nat) (R : Rw), r = 116 ∨ r = 119 ∨ r = 122 → RowC μ r R → RowC (x_sI μ1 1 7 1) r R := fun r R y1 y3 => y3.eq (fun o k p1 p2 _ => c2' o k (by unfold cpZ; omega) (by omega))
  obtain ⟨ν1, g0, g2, ⟨j49, j50, j51, j52, j53, j54, j55, j56, j57⟩, ⟨a1, a2, a3, a4⟩, go⟩ := r_image (ad := ad) (D := D) (cA := cA) hp.2.1.1
  have gr : frC (fun o k => (o = 600 ∧ (49 ≤ k ∧ k ≤ 57)) ∨ (659 ≤ o ∧ o ≤ 671)) ν ν1 := ⟨g2, fun o k z => go o k (by omega)⟩
  have s3 : StR ν1 S := hp.2.1.fr h6 gr (fun o k z => by unfold usR; omega)
  obtain ⟨q1, q2, ⟨t1, t2, t3, t4⟩, q4, q5, ⟨ql, q6⟩, q7⟩ := hp.2.1
  have n6 : S.n ≤ 6 := h6
  have hS1' : R1.1 ≤ 4 := hp.1.2.2.2.2.1
  have cell : (x_sI μ1 1 7 1).1 100 6 = Int32.ofNat S.n := s1'.2.2.2.2.2.1.1
  refine ⟨Int32.ofNat S.n, x_sI μ1 1 7 1, ν1, ?_, ?_, ⟨S, R1, R2, R3, ⟨⟨⟨s1', hPl, fun B hB' i hi => ?_, hO, hS1', rwn _ _ (by omega) hp.1.2.2.2.2.2⟩, s3, hday⟩, ?_⟩, ⟨⟨rwn _ _ (by omega) hC2, rwn _ _ (by omega) hC3⟩, hR1.eq (go _ _ (by omega)) (fun k => go _ _ (by omega)) (fun k => go _ _ (by omega)), hR2.eq (go _ _ (by omega)) (fun k => go _ _ (by omega)) (fun k => go _ _ (by omega)), hR3.eq (go _ _ (by omega)) (fun k => go _ _ (by omega)) (fun k => go _ _ (by omega))⟩, ⟨hPl, hO, hday, hS1, hS2, hS3⟩, ?_⟩⟩
  · unfold f_X9_image
    simp only [↓ckE, ↓ltE, ↓reduceIte, kC, CK, CP hp.P, Nat.reduceAdd, e, bdE, or_true, and_self, sI_2, CP s1.1.2, cell]
  · rw [g0, t1]
  · rw [sI_of (by have := hB'.ge; omega)]; exact rn hp.1.2.2.1 B hB' i hi
  · rw [go 600 30 (by omega)]; exact h30
  · obtain ⟨o1, o2, o3, o4, o5, o6⟩ := ho
    obtain ⟨K, k1, k2, k3, k4, -, k6⟩ := o3
    refine ⟨o1.fr (fun o k z => c2' o k (by unfold cK at z; unfold cpZ cpA cpS cpW rw3; omega) (by unfold cK at z; omega)) (fun o k z => go o k (by unfold dK at z; omega)), ⟨true, sI_in, j49, fun _ => ⟨S, R1, R2, R3, ⟨s2', rw8 16 _ (Or.inl rfl) (by omega) hp.1.2.2.2.2.2, rw8 19 _ (Or.inr (Or.inl rfl)) hS2.1 hC2, rw8 22 _ (Or.inr (Or.inr rfl)) hS3.1 hC3⟩, ⟨⟨ql, ?_⟩, ⟨by rw [j51]; exact t1, by rw [j52]; exact t2, by rw [j53]; exact t3, by rw [j54]; exact t4⟩, fun s hs => ?_, fun i hi => ?_, ?_, ?_, ?_⟩, ⟨hPl, hO, hday, hS1, hS2, hS3⟩⟩⟩, ⟨K, k1, ?_, ?_, ?_, ?_, fun k hk => ?_⟩, o4.fr (fun o k z => c2' o k (by unfold cT at z; unfold cpZ cpA cpS cpW rw3; omega) (by unfold cT at z; omega)) (fun o k z => go o k (by unfold dT at z; omega)), o5.fr (fun o k z => c2' o k (by unfold cP at z; unfold cpZ cpA cpS cpW rw3; omega) (by unfold cP at z; omega)) (fun o k z => go o k (by unfold dP at z; omega)) r2 (by rw [g2]), o6.fr (fun o k z => c2' o k (by unfold cA' at z; unfold cpZ cpA cpS cpW rw3; omega) (by unfold cA' at z; omega)) (fun o k z => go o k (by unfold dA at z; omega))⟩
    · rw [j50]
      rcases q6 with q | ⟨f, f1, f2, f3, f4⟩
      · exact Or.inl q
      · refine Or.inr ⟨f, f1, f2, ?_, f4.congr (fun o p1 p2 => funext (fun k => go o k (by omega)))⟩
        rw [go 618 _ (by omega)]; exact f3
    · rw [a1 659 s (by omega) (by omega) hs]; exact (q2 s hs).1
    · obtain ⟨⟨b1, b2, b3⟩, ⟨b4, b5⟩, b6⟩ := q5 i hi
      refine ⟨⟨?_, ?_, ?_⟩, ⟨?_, ?_⟩, fun d hd => ?_⟩
      · rw [a1 660 i (by omega) (by omega) (by omega)]; exact b1
      · rw [a1 661 i (by omega) (by omega) (by omega)]; exact b2
      · rw [a1 664 i (by omega) (by omega) (by omega)]; exact b3
      · rw [a1 662 i (by omega) (by omega) (by omega)]; exact b4
      · rw [a1 663 i (by omega) (by omega) (by omega)]; exact b5
      · rw [a2 665 _ (by omega) (by omega) (by omega)]; exact b6 d hd
    · refine ⟨by rw [j55]; exact hR1.1, fun j hj => ⟨?_, ?_⟩⟩
      · rw [a3 666 j (by omega) (by omega) (by omega)]; exact (hR1.2 j hj).1
      · rw [a3 667 j (by omega) (by omega) (by omega)]; exact (hR1.2 j hj).2
    · have := hS2.1
      refine ⟨by rw [j56]; exact hR2.1, fun j hj => ⟨?_, ?_⟩⟩
      · rw [a4 668 j (by omega) (by omega) (by omega)]; exact (hR2.2 j hj).1
      · rw [a4 669 j (by omega) (by omega) (by omega)]; exact (hR2.2 j hj).2
    · have := hS3.1
      refine ⟨by rw [j57]; exact hR3.1, fun j hj => ⟨?_, ?_⟩⟩
      · rw [a4 670 j (by omega) (by omega) (by omega)]; exact (hR3.2 j hj).1
      · rw [a4 671 j (by omega) (by omega) (by omega)]; exact (hR3.2 j hj).2
    · rw [c2' 1 8 (by unfold cpZ; omega) (by omega)]; exact k2
    · rw [go 600 11 (by omega)]; exact k3
    · refine ⟨?_, ?_⟩
      · rw [sI_2, rb]; exact k4.1
      · rw [go 600 12 (by omega)]; exact k4.2
    · refine ⟨?_, ?_⟩
      · rw [sI_2, rc]; exact k4.1
      · rw [j50]; exact k4.2
    · obtain ⟨n, n1, n2, n3⟩ := k6 k hk
      refine ⟨n, n1, by rw [go 618 _ (by omega)]; exact n2, fun c p1 p2 p3 => ?_⟩
      rw [go 619 _ (by omega)] at p3
      rw [go 621 _ (by omega), go 622 _ (by omega)]
      exact n3 c p1 p2 p3
end IMG
