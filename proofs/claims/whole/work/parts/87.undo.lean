/-! ===== undo: in both ===== -/
section UNDO
variable {ad : Nat → Nat} {D : va_G} {cA : Nat → ClassId} {μ ν : x_M}
theorem q_undo (h : Rel μ ν) : SameR (f_X9_undo (XC ad D cA) 1 μ) (f_X10_undo (XR ad D cA) 600 ν) := by
  have h0 := h
  obtain ⟨S0, Q1, Q2, Q3, ⟨hp, h30⟩, ⟨⟨hC2, hC3⟩, hR1, hR2, hR3⟩, hg, ho⟩ := h
  obtain ⟨o1, ⟨b, i1, i2, i3⟩, o3, o4, o5, o6⟩ := ho
  cases b with
  | false =>
    have i1' : μ.1 1 7 = 0 := i1
    have i2' : ν.1 600 49 = 0 := i2
    refine SameR.now (r := -3) h0 ?_ ?_
    · unfold f_X9_undo
      simp only [↓ckE, ↓ltE, ↓reduceIte, kC, CK, Nat.reduceAdd, i1']
    · unfold f_X10_undo
      simp only [↓ckE, ↓ltE, ↓reduceIte, kR, RK, Nat.reduceAdd, i2']
  | true =>
    have i1' : μ.1 1 7 = 1 := i1
    have i2' : ν.1 600 49 = 1 := i2
    obtain ⟨S, R1, R2, R3, ⟨m1, m2, m3, m4⟩, ⟨⟨n0, n1⟩, ⟨n2, n3, n4, n5⟩, n6, n7, n8, n9, n10⟩, hPl, hO, hday, hS1, hS2, hS3⟩ := i3 rfl
    have h6 : S.n ≤ 6 := hO.1.1.1
    have hB : isB 100 := Or.inl rfl
    have hf : farB 100 200 := by unfold farB; omega
    obtain ⟨μ1, e, ⟨r1, r2⟩, c1, ⟨z1, z2⟩, c2⟩ := c_copy (ad := ad) (D := D) (cA := cA) hB m1.1.1 hf hp.P (here01 m1)
    obtain ⟨ra, rb, rc, rn, rs⟩ := copy_off (Or.inr ⟨rfl, rfl⟩) r1 c2
    have s1 : StC μ1 100 S := m1.of_copy hB hf hPl hp.1.2.2.1 h6 r1 c1 z1 z2 c2
    have s2 : StC μ1 200 S := rs S h6 m1
    have rw8 : ∀ (r : Nat) (R : Rw), rw3 r → R.1 ≤ 8 → RowC μ (200 + r) R → RowC μ1 (100 + r) R := fun r R y1 y2 y3 => y3.of_copy (B := 100) (b := 200) y1 y2 c1
    have rwn : ∀ (r : Nat) (R : Rw), r = 216 ∨ r = 219 ∨ r = 222 → RowC μ r R → RowC μ1 r R := fun r R y1 y3 => y3.eq (fun o k p1 p2 _ => c2 o k (by unfold cpZ cpA cpS cpW rw3; omega))
    obtain ⟨ν1, g0, g2, ⟨j12, j0, j1, j2, j3, j40, j43, j44⟩, ⟨a1, a2, a3, a4⟩, go⟩ := r_undo (ad := ad) (D := D) (cA := cA) hp.2.1.1 (by rw [i2']; decide)
    have hPr : Pr ν1 := fun o k => by rw [g2]; exact hp.2.1.1 o k
    have hS1' : R1.1 ≤ 4 := hS1.1
    have cell : μ1.1 100 6 = Int32.ofNat S.n := s1.2.2.2.2.2.1.1
    have g31 : ν1.1 600 31 = ν.1 600 31 := go _ _ (by omega)
    have g32 : ν1.1 600 32 = ν.1 600 32 := go _ _ (by omega)
    obtain ⟨q1, q2, -, q4, -, -, q7, q8⟩ := hp.2.1
    have hPl0 := hp.1.2.1
    have s3 : StR ν1 S := by
      refine ⟨hPr, fun s hs => ⟨?_, (m1.2.1 s hs).2⟩, ⟨by rw [j0]; exact n2, by rw [j1]; exact n3, by rw [j2]; exact n4, by rw [j3]; exact n5⟩, fun i hi => ?_, fun i hi => ?_, ⟨n0, ?_⟩, ?_, ?_⟩
      · rw [a1 605 s (by omega) (by omega) hs]; exact n6 s hs
      · rw [go 600 30 (by omega), hPl.1, ← hPl0.1]; exact q4 i hi
      · obtain ⟨⟨b1, b2, b3⟩, ⟨b4, b5⟩, b6⟩ := n7 i hi
        refine ⟨⟨?_, ?_, ?_⟩, ⟨?_, ?_⟩, fun d hd => ?_⟩
        · rw [a1 606 i (by omega) (by omega) (by omega)]; exact b1
        · rw [a1 607 i (by omega) (by omega) (by omega)]; exact b2
        · rw [a1 610 i (by omega) (by omega) (by omega)]; exact b3
        · rw [a1 608 i (by omega) (by omega) (by omega)]; exact b4
        · rw [a1 609 i (by omega) (by omega) (by omega)]; exact b5
        · rw [a2 611 _ (by omega) (by omega) (by omega)]; exact b6 d hd
      · rw [j12]
        rcases n1 with q | ⟨f, f1, f2, f3, f4⟩
        · exact Or.inl q
        · refine Or.inr ⟨f, f1, f2, ?_, f4.congr (fun o p1 p2 => funext (fun k => go o k (by omega)))⟩
          rw [go 618 _ (by omega)]; exact f3
      · rw [g31, q7, hPl.2.1, hPl0.2.1]
      · rw [g32, q8, hPl.2.2, hPl0.2.2]
    have z600 : ∀ k, 49 ≤ k → ν1.1 600 k = ν.1 600 k := fun k hk => go 600 k (by omega)
    have zo : ∀ o k, 659 ≤ o → ν1.1 o k = ν.1 o k := fun o k hk => go o k (by omega)
    refine ⟨Int32.ofNat S.n, μ1, ν1, ?_, ?_, ⟨S, R1, R2, R3, ⟨⟨⟨s1, hPl, rn hp.1.2.2.1, hO, hS1', rw8 16 _ (Or.inl rfl) (by omega) m2⟩, s3, hday⟩, ?_⟩, ⟨⟨rw8 19 _ (Or.inr (Or.inl rfl)) hS2.1 m3, rw8 22 _ (Or.inr (Or.inr rfl)) hS3.1 m4⟩, ?_, ?_, ?_⟩, ⟨hPl, hO, hday, hS1, hS2, hS3⟩, ?_⟩⟩
    · unfold f_X9_undo
      simp only [↓ckE, ↓ltE, ↓reduceIte, kC, CK, CP hp.P, Nat.reduceAdd, i1', iE, e, bdE, CP s1.1.2, cell]
    · rw [g0, n2]
    · rw [go 600 30 (by omega)]; exact h30
    · refine ⟨by rw [j40]; exact n8.1, fun j hj => ⟨?_, ?_⟩⟩
      · rw [a3 642 j (by omega) (by omega) (by omega)]; exact (n8.2 j hj).1
      · rw [a3 643 j (by omega) (by omega) (by omega)]; exact (n8.2 j hj).2
    · have := hS2.1
      refine ⟨by rw [j43]; exact n9.1, fun j hj => ⟨?_, ?_⟩⟩
      · rw [a4 646 j (by omega) (by omega) (by omega)]; exact (n9.2 j hj).1
      · rw [a4 647 j (by omega) (by omega) (by omega)]; exact (n9.2 j hj).2
    · have := hS3.1
      refine ⟨by rw [j44]; exact n10.1, fun j hj => ⟨?_, ?_⟩⟩
      · rw [a4 648 j (by omega) (by omega) (by omega)]; exact (n10.2 j hj).1
      · rw [a4 649 j (by omega) (by omega) (by omega)]; exact (n10.2 j hj).2
    · obtain ⟨K, k1, k2, k3, -, k5, k6⟩ := o3
      refine ⟨o1.fr (fun o k z => c2 o k (by unfold cK at z; unfold cpZ cpA cpS cpW rw3; omega)) (fun o k z => go o k (by unfold dK at z; omega)), ⟨true, ?_, ?_, fun _ => ⟨S, R1, R2, R3, ⟨s2, rwn _ _ (by omega) m2, rwn _ _ (by omega) m3, rwn _ _ (by omega) m4⟩, ⟨⟨n0, ?_⟩, ⟨by rw [z600 _ (by omega)]; exact n2, by rw [z600 _ (by omega)]; exact n3, by rw [z600 _ (by omega)]; exact n4, by rw [z600 _ (by omega)]; exact n5⟩, fun s hs => by rw [zo _ _ (by omega)]; exact n6 s hs, fun i hi => ?_, n8.eq (z600 _ (by omega)) (fun k => zo _ _ (by omega)) (fun k => zo _ _ (by omega)), n9.eq (z600 _ (by omega)) (fun k => zo _ _ (by omega)) (fun k => zo _ _ (by omega)), n10.eq (z600 _ (by omega)) (fun k => zo _ _ (by omega)) (fun k => zo _ _ (by omega))⟩, ⟨hPl, hO, hday, hS1, hS2, hS3⟩⟩⟩, ⟨K, k1, ?_, ?_, ?_, ?_, fun k hk => ?_⟩, o4.fr (fun o k z => c2 o k (by unfold cT at z; unfold cpZ cpA cpS cpW rw3; omega)) (fun o k z => go o k (by unfold dT at z; omega)), o5.fr (fun o k z => c2 o k (by unfold cP at z; unfold cpZ cpA cpS cpW rw3; omega)) (fun o k z => go o k (by unfold dP at z; omega)) r2 (by rw [g2]), o6.fr (fun o k z => c2 o k (by unfold cA' at z; unfold cpZ cpA cpS cpW rw3; omega)) (fun o k z => go o k (by unfold dA at z; omega))⟩
      · rw [c2 1 7 (by unfold cpZ; omega)]; exact i1
      · rw [z600 49 (by omega)]; exact i2
      · rw [z600 50 (by omega)]
        rcases n1 with q | ⟨f, f1, f2, f3, f4⟩
        · exact Or.inl q
        · refine Or.inr ⟨f, f1, f2, ?_, f4.congr (fun o p1 p2 => funext (fun k => go o k (by omega)))⟩
          rw [go 618 _ (by omega)]; exact f3
      · obtain ⟨⟨b1, b2, b3⟩, ⟨b4, b5⟩, b6⟩ := n7 i hi
        refine ⟨⟨?_, ?_, ?_⟩, ⟨?_, ?_⟩, fun d hd => ?_⟩
        · rw [zo _ _ (by omega)]; exact b1
        · rw [zo _ _ (by omega)]; exact b2
        · rw [zo _ _ (by omega)]; exact b3
        · rw [zo _ _ (by omega)]; exact b4
        · rw [zo _ _ (by omega)]; exact b5
        · rw [zo _ _ (by omega)]; exact b6 d hd
      · rw [c2 1 8 (by unfold cpZ; omega)]; exact k2
      · rw [go 600 11 (by omega)]; exact k3
      · refine ⟨?_, ?_⟩
        · rw [rc]; exact k5.1
        · rw [j12]; exact k5.2
      · refine ⟨?_, ?_⟩
        · rw [rb]; exact k5.1
        · rw [z600 50 (by omega)]; exact k5.2
      · obtain ⟨n, y1, y2, y3⟩ := k6 k hk
        refine ⟨n, y1, by rw [go 618 _ (by omega)]; exact y2, fun c p1 p2 p3 => ?_⟩
        rw [go 619 _ (by omega)] at p3
        rw [go 621 _ (by omega), go 622 _ (by omega)]
        exact y3 c p1 p2 p3
end UNDO
