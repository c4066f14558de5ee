/-! ===== calls that change the state of now: day, water, area, set, row ===== -/
section STATE
variable {ad : Nat → Nat} {D : va_G} {cA : Nat → ClassId} {μ ν : x_M}
/-- the state of now changed, in both -/
theorem Rel.now {μ' ν' : x_M} {S S' : St} {R1 R2 R3 : Rw} (hp : Pair μ ν S R1) (h30 : ν.1 600 30 = -1) (hC : RowsC μ R2 R3) (hR : RowsR ν R1 R2 R3) (ho : Oth μ ν) (hg : Good S' R1 R2 R3) (s1 : StC μ' 100 S') (s2 : StR ν' S') (f : frA nwC μ μ') (g : frC nwR ν ν') (n0 : ∀ B, isB B → ∀ i, i < 6 → μ'.1 (B + 4 + i) 0 = μ.1 (B + 4 + i) 0) (rc : ∀ o k, 116 ≤ o → o ≤ 124 → μ'.1 o k = μ.1 o k) (rr : ∀ o k, (o = 600 ∧ (k = 30 ∨ k = 40 ∨ k = 43 ∨ k = 44)) ∨ (642 ≤ o ∧ o ≤ 649) → ν'.1 o k = ν.1 o k) : Rel μ' ν' := by
  obtain ⟨g1, g2, g3, g4, g5, g6⟩ := hg
  obtain ⟨⟨p1, p2, p3, p4, p5, p6⟩, p7, p8⟩ := hp
  refine ⟨S', R1, R2, R3, ⟨⟨⟨s1, g1, fun B hB i hi => by rw [n0 B hB i hi]; exact p3 B hB i hi, g2, p5, p6.eq (fun o k q1 q2 _ => rc o k (by omega) (by omega))⟩, s2, g3⟩, ?_⟩, ⟨⟨hC.1.eq (fun o k q1 q2 _ => rc o k (by omega) (by omega)), hC.2.eq (fun o k q1 q2 _ => rc o k (by omega) (by omega))⟩, ?_, ?_, ?_⟩, ⟨g1, g2, g3, g4, g5, g6⟩, ho.now f g⟩
  · rw [rr 600 30 (by omega)]; exact h30
  · exact hR.1.eq (rr 600 40 (by omega)) (fun k => rr 642 k (by omega)) (fun k => rr 643 k (by omega))
  · exact hR.2.1.eq (rr 600 43 (by omega)) (fun k => rr 646 k (by omega)) (fun k => rr 647 k (by omega))
  · exact hR.2.2.eq (rr 600 44 (by omega)) (fun k => rr 648 k (by omega)) (fun k => rr 649 k (by omega))
theorem SameR.now {α : Type} {r : α} {o1 o2 : Option (α × x_M)} (h : Rel μ ν) (e1 : o1 = some (r, μ)) (e2 : o2 = some (r, ν)) : SameR o1 o2 := ⟨r, μ, ν, e1, e2, h⟩
theorem frA.nw {a b : x_M} {P : Nat → Nat → Prop} (f : frC P a b) (h : ∀ o k, P o k → nwC o k) : frA nwC a b := f.A h
theorem q_day (h : Rel μ ν) : SameR (f_X9_day (XC ad D cA) 1 μ) (f_X10_day (XR ad D cA) 600 ν) := by
  obtain ⟨S, R1, R2, R3, ⟨hp, h30⟩, ⟨hC, hR⟩, hg, ho⟩ := h
  have hd := hp.2.2
  have hd1 : μ.1 100 9 = Int32.ofNat S.day := hp.1.1.2.2.2.2.2.1.2.2.2
  have hd2 : ν.1 600 1 = Int32.ofNat S.day := hp.2.1.2.2.1.2.1
  unfold f_X9_day f_X10_day
  by_cases q : S.day = 9999
  · refine SameR.now (r := -3) ⟨S, R1, R2, R3, ⟨hp, h30⟩, ⟨hC, hR⟩, hg, ho⟩ ?_ ?_
    · have : ¬ Int32.ofNat S.day < 9999 := fun z => by have := (ltN 9999 9999 rfl (by omega) (by decide)).mp z; omega
      simp only [↓ckE, ↓ltE, ↓reduceIte, kC, CK, CP hp.P, Nat.reduceAdd, hd1, this]
    · have : Int32.ofNat S.day = 9999 := (eqN 9999 9999 rfl (by omega) (by decide)).mpr q
      simp only [↓ckE, ↓ltE, ↓reduceIte, kR, RK, Nat.reduceAdd, hd2, this]
  · have l1 : Int32.ofNat S.day < 9999 := (ltN 9999 9999 rfl (by omega) (by decide)).mpr (by omega)
    have l2 : ¬ Int32.ofNat S.day = 9999 := fun z => q ((eqN 9999 9999 rfl (by omega) (by decide)).mp z)
    obtain ⟨μ1, e1, s1, -, f1⟩ := c_pass (ad := ad) (D := D) (cA := cA) hp.1.1 hp.ok
    obtain ⟨ν1, g1, s2, f2⟩ := r_goDay (ad := ad) (D := D) (cA := cA) hp.2.1 hp.ok
    have hO := St.goDay_ok hp.ok (by omega)
    have el := s1.level (ad := ad) (D := D) (cA := cA) hO
    have gl := s2.level (ad := ad) (D := D) (cA := cA) hO
    refine ⟨Int32.ofNat S.goDay.level, μ1, ν1, ?_, ?_, ?_⟩
    · simp only [↓ckE, ↓ltE, ↓reduceIte, kC, CK, CP hp.P, CP s1.1.2, Nat.reduceAdd, hd1, l1, e1, el, bdE]
    · simp only [↓ckE, ↓ltE, ↓reduceIte, kR, RK, Nat.reduceAdd, hd2, l2, g1, gl, bdE]
    · refine Rel.now (S' := S.goDay) hp h30 hC hR ho ⟨hg.1, hO, by rw [St.goDay_day]; omega, hg.2.2.2.1, hg.2.2.2.2.1, hg.2.2.2.2.2⟩ s1 s2 (f1.A (fun o k z => ?_)) (f2.up (fun o k z => ?_)) (fun B hB i hi => f1.2 _ 0 ?_) (fun o k p1 p2 => f1.2 o k ?_) (fun o k z => f2.2 o k ?_)
      · unfold gdC d2C dyC scC at z
        unfold nwC askC scC usC lwC
        omega
      · unfold gdR d2R scR dyR at z
        unfold nwR askR d2R scR
        omega
      · have := hB.ge
        unfold gdC d2C dyC scC; omega
      · unfold gdC d2C dyC scC; omega
      · unfold gdR d2R scR dyR; omega
theorem q_water {x : Int32} (h : Rel μ ν) : SameR (f_X9_water (XC ad D cA) 1 x μ) (f_X10_water (XR ad D cA) 600 x ν) := by
  have h0 := h
  obtain ⟨S, R1, R2, R3, ⟨hp, h30⟩, ⟨hC, hR⟩, hg, ho⟩ := h
  have h6 := hp.n6
  have w1 : μ.1 100 7 = Int32.ofNat S.wet := hp.1.1.2.2.2.2.2.1.2.1
  have w2 : ν.1 600 2 = Int32.ofNat S.wet := hp.2.1.2.2.1.2.2.1
  unfold f_X9_water f_X10_water
  by_cases q : (0 : Int32) ≤ x ∧ x ≤ 9999
  · obtain ⟨n, -, hn, rfl⟩ := inN 0 9999 0 9999 rfl rfl (by decide) (by decide) q
    refine ⟨Int32.ofNat S.wet, x_sI μ 100 7 (Int32.ofNat n), x_sI ν 600 2 (Int32.ofNat n), ?_, ?_, ?_⟩
    · simp only [↓ckE, ↓ltE, ↓reduceIte, kC, CK, CP hp.P, Nat.reduceAdd, c_in, q, and_self, iE, bdE, w1]
    · simp only [↓ckE, ↓ltE, ↓reduceIte, kR, RK, Nat.reduceAdd, r_in, q, and_self, iE, bdE, w2]
    · refine Rel.now (S' := S.upd S.bk S.dl n S.town S.day) hp h30 hC hR ho ⟨hg.1, ⟨⟨hp.ok.1.1, hp.ok.1.2.1, hn, hp.ok.1.2.2.2⟩, hp.ok.2⟩, hg.2.2.1, hg.2.2.2.1, hg.2.2.2.2.1, hg.2.2.2.2.2⟩ (hp.1.1.setW h6) (hp.2.1.wet h6) ((frC.sI (P := nwC) (by unfold nwC askC scC usC lwC; omega)).A (fun _ _ z => z)) (frC.sI (by unfold nwR; omega)) (fun B hB i hi => sI_off (by omega)) (fun o k p1 p2 => sI_off (by omega)) (fun o k z => sI_off (by omega))
  · refine SameR.now (r := -2) h0 ?_ ?_
    · simp only [c_in, q, ↓reduceIte, bdE]
    · simp only [↓ckE, ↓reduceIte, kR, RK, Nat.reduceAdd, r_in, q, bdE]
/-! the areas -/
def St.wAr (S : St) (s n : Nat) : St := (updN S.ar s n, S.2)
theorem StC.wAr {a : x_M} {S : St} {s n : Nat} (h : StC a 100 S) (hn : 1 ≤ n ∧ n ≤ 20) : StC (x_sI a 102 s (Int32.ofNat n)) 100 (S.wAr s n) := by
  obtain ⟨⟨hB, h1⟩, h2, h3, h4, hl, t, w⟩ := h
  have no : ∀ o, o ≠ 102 → (x_sI a 102 s (Int32.ofNat n)).1 o = a.1 o := fun o ho => sI_no ho
  refine ⟨⟨hB, h1⟩, fun j hj => ?_, fun i hi => ?_, fun i hi => ?_, hl.us (fun o k z => ?_), ?_, ?_⟩
  · obtain ⟨q1, q2⟩ := h2 j hj
    show (x_sI a 102 s (Int32.ofNat n)).1 102 j = Int32.ofNat (if j = s then n else S.ar j) ∧ 1 ≤ (if j = s then n else S.ar j) ∧ (if j = s then n else S.ar j) ≤ 20
    by_cases q : j = s
    · rw [if_pos q, q]; exact ⟨sI_get, hn⟩
    · rw [if_neg q, sI_ne q]; exact ⟨q1, q2⟩
  · rw [no _ (by omega)]; exact h3 i hi
  · have := h4 i hi
    unfold AccC
    rw [no _ (by omega), no (100 + 10 + i) (by omega)]
    exact this
  · rw [no o (by unfold lwC at z; omega)]
  · rw [no 100 (by omega)]; exact t
  · rw [no 100 (by omega)]; exact w
theorem LawR.eq {a b : x_M} {A : LawA} (h : LawR a A) (g1 : b.1 600 12 = a.1 600 12) (g2 : ∀ o, 618 ≤ o → o ≤ 623 → b.1 o = a.1 o) : LawR b A := by
  refine ⟨h.1, ?_⟩
  rw [g1]
  rcases h.2 with q | ⟨f, h1, h2, h3, h4⟩
  · exact Or.inl q
  · refine Or.inr ⟨f, h1, h2, ?_, h4.congr (fun o p1 p2 => g2 o (by omega) p2)⟩
    rw [g2 618 (by omega) (by omega)]; exact h3
theorem StR.wAr {a : x_M} {S : St} {s n : Nat} (h : StR a S) (hn : 1 ≤ n ∧ n ≤ 20) : StR (x_sI a 605 s (Int32.ofNat n)) (S.wAr s n) := by
  obtain ⟨h1, h2, t, h4, h5, hl, w⟩ := h
  have no : ∀ o, o ≠ 605 → (x_sI a 605 s (Int32.ofNat n)).1 o = a.1 o := fun o ho => sI_no ho
  refine ⟨h1, fun j hj => ?_, ?_, fun i hi => ?_, fun i hi => ?_, hl.eq (by rw [no 600 (by omega)]) (fun o p1 p2 => no o (by omega)), ?_⟩
  · obtain ⟨q1, q2⟩ := h2 j hj
    show (x_sI a 605 s (Int32.ofNat n)).1 605 j = Int32.ofNat (if j = s then n else S.ar j) ∧ 1 ≤ (if j = s then n else S.ar j) ∧ (if j = s then n else S.ar j) ≤ 20
    by_cases q : j = s
    · rw [if_pos q, q]; exact ⟨sI_get, hn⟩
    · rw [if_neg q, sI_ne q]; exact ⟨q1, q2⟩
  · rw [no 600 (by omega)]; exact t
  · rw [no 600 (by omega)]; exact h4 i hi
  · have := h5 i hi
    unfold AccR
    rw [no 606 (by omega), no 607 (by omega), no 608 (by omega), no 609 (by omega), no 610 (by omega), no 611 (by omega)]
    exact this
  · rw [no 600 (by omega)]; exact w
theorem q_area {x y : Int32} (h : Rel μ ν) : SameR (f_X9_area (XC ad D cA) 1 x y μ) (f_X10_area (XR ad D cA) 600 x y ν) := by
  have h0 := h
  obtain ⟨S, R1, R2, R3, ⟨hp, h30⟩, ⟨hC, hR⟩, hg, ho⟩ := h
  have h6 := hp.n6
  unfold f_X9_area f_X10_area
  by_cases q : (0 : Int32) ≤ x ∧ x ≤ 5
  · by_cases q2 : (1 : Int32) ≤ y ∧ y ≤ 20
    · obtain ⟨s, -, hs, rfl⟩ := inN 0 5 0 5 rfl rfl (by decide) (by decide) q
      obtain ⟨n, hn1, hn2, rfl⟩ := inN 1 20 1 20 rfl rfl (by decide) (by decide) q2
      have hx6 : x_ix (Int32.ofNat s) 6 := iN_ix (by omega) (by omega)
      have hcl : (Int32.ofNat s).toNatClampNeg = s := iN_cl (by omega)
      have nn : ¬ Int32.ofNat s < 0 := iN_neg (by omega)
      have nl : ¬ nI 6 ≤ Int32.ofNat s := fun z => by have := (iN_le (by omega) (by omega)).mp z; omega
      have a1 : μ.1 102 s = Int32.ofNat (S.ar s) := (hp.1.1.2.1 s (by omega)).1
      have a2 : ν.1 605 s = Int32.ofNat (S.ar s) := (hp.2.1.2.1 s (by omega)).1
      have ea := c_at (ad := ad) (D := D) (cA := cA) (μ := μ) (o := 102) (i := s) (by decide +kernel) (by rw [show x_lnA 102 = 6 from by decide +kernel]; omega) (by rw [show x_lnA 102 = 6 from by decide +kernel]; omega)
      have p := (pt_S (B := 100) (Or.inl rfl) hp.P).2.2.2.2.2
      simp only [Nat.reduceAdd] at p
      have ec : f_X3_change (XC ad D cA) 101 (Int32.ofNat s) (Int32.ofNat n) μ = some (Int32.ofNat (S.ar s), x_sI μ 102 s (Int32.ofNat n)) := by
        unfold f_X3_change
        simp only [↓ckE, ↓ltE, ↓reduceIte, kC, lC, CK, CN, Nat.reduceAdd, Nat.reduceEqDiff, p, ea, a1, bdE, nn, nl, true_or, true_and, ↓ixT hx6, hcl]
      refine ⟨Int32.ofNat (S.ar s), x_sI μ 102 s (Int32.ofNat n), x_sI ν 605 s (Int32.ofNat n), ?_, ?_, ?_⟩
      · simp only [↓ckE, ↓ltE, ↓reduceIte, kC, CK, CP hp.P, Nat.reduceAdd, c_in, q, q2, and_self, iE, bdE, ec]
      · simp only [↓ckE, ↓ltE, ↓reduceIte, kR, lR, RK, RN, RP hp.2.1.1, Nat.reduceAdd, r_in, q, q2, and_self, iE, bdE, a2, true_or, true_and, ↓ixT hx6, hcl]
      · refine Rel.now (S' := S.wAr s n) hp h30 hC hR ho ⟨hg.1, ⟨⟨⟨h6, fun j hj => ?_⟩, hp.ok.1.2⟩, hp.ok.2⟩, hg.2.2.1, hg.2.2.2.1, hg.2.2.2.2.1, hg.2.2.2.2.2⟩ (hp.1.1.wAr ⟨hn1, hn2⟩) (hp.2.1.wAr ⟨hn1, hn2⟩) ((frC.sI (P := nwC) (by unfold nwC askC scC usC lwC; omega)).A (fun _ _ z => z)) (frC.sI (by unfold nwR; omega)) (fun B hB i hi => sI_off (by have := hB.ge; omega)) (fun o k p1 p2 => sI_off (by omega)) (fun o k z => sI_off (by omega))
        show 1 ≤ (if j = s then n else S.ar j) ∧ (if j = s then n else S.ar j) ≤ 20
        by_cases z : j = s
        · rw [if_pos z]; exact ⟨hn1, hn2⟩
        · rw [if_neg z]; exact hp.ok.1.1.2 j hj
    · refine SameR.now (r := -2) h0 ?_ ?_
      · simp only [↓reduceIte, c_in, q, q2, and_self, iE, bdE]
      · simp only [↓ckE, ↓reduceIte, kR, RK, Nat.reduceAdd, r_in, q, q2, and_self, iE, bdE]
  · refine SameR.now (r := -1) h0 ?_ ?_
    · simp only [↓reduceIte, c_in, q, bdE]
    · simp only [↓ckE, ↓reduceIte, kR, RK, Nat.reduceAdd, r_in, q, bdE]
/-! set -/
theorem Rel.nowAcc {o1 k1 o2 k2 : Nat} {v1 v2 : Int32} {S S' : St} {R1 R2 R3 : Rw} (hp : Pair μ ν S R1) (h30 : ν.1 600 30 = -1) (hC : RowsC μ R2 R3) (hR : RowsR ν R1 R2 R3) (ho : Oth μ ν) (hg : Good S' R1 R2 R3) (s1 : StC (x_sI μ o1 k1 v1) 100 S') (s2 : StR (x_sI ν o2 k2 v2) S') (b1 : (104 ≤ o1 ∧ o1 ≤ 109 ∧ k1 ≠ 0) ∨ (110 ≤ o1 ∧ o1 ≤ 115)) (b2 : 606 ≤ o2 ∧ o2 ≤ 611) : Rel (x_sI μ o1 k1 v1) (x_sI ν o2 k2 v2) :=
  Rel.now hp h30 hC hR ho hg s1 s2 ((frC.sI (P := nwC) (by unfold nwC askC scC usC lwC; omega)).A (fun _ _ z => z)) (frC.sI (by unfold nwR; omega)) (fun B hB i hi => sI_off (by have := hB.ge; omega)) (fun o k p1 p2 => sI_off (by omega)) (fun o k z => sI_off (by omega))
theorem c_may {x y : Int32} (hx : (0 : Int32) ≤ x ∧ x ≤ 2) : f_X9_maySet (XC ad D cA) x y μ = some (if (x = 0 ∧ (-999 : Int32) ≤ y ∧ y ≤ 999) ∨ (x = 1 ∧ (-30 : Int32) ≤ y ∧ y ≤ 30) ∨ (x = 2 ∧ (0 : Int32) ≤ y ∧ y ≤ 20) then 1 else 0, μ) := by
  have one : ∀ (P : Prop) [Decidable P], (if P then (1 : Int32) else 0) = 0 ∨ (if P then (1 : Int32) else 0) = 1 := fun P _ => by
    by_cases p : P
    · rw [if_pos p]; exact Or.inr rfl
    · rw [if_neg p]; exact Or.inl rfl
  obtain ⟨k, -, hk, rfl⟩ := inN 0 2 0 2 rfl rfl (by decide) (by decide) hx
  unfold f_X9_maySet f_X9_isDaily
  have hk' : k = 0 ∨ k = 1 ∨ k = 2 := by omega
  rcases hk' with rfl | rfl | rfl
  · simp only [Int32.reduceOfNat, ↓swE, sw_n, ↓ckE, ↓reduceIte, c_in, bdE, one, iE, true_and, false_and, or_false, false_or]
  · simp only [Int32.reduceOfNat, ↓swE, sw_n, ↓ckE, ↓reduceIte, c_in, bdE, one, iE, true_and, false_and, or_false, false_or]
  · simp only [Int32.reduceOfNat, ↓swE, sw_n, ↓ckE, ↓reduceIte, c_in, bdE, one, iE, true_and, false_and, or_false, false_or]
end STATE
