/-! ===== set, row, account: in both ===== -/
def updR (f : Nat → Nat → Nat) (a d z : Nat) : Nat → Nat → Nat := fun i j => if i = a ∧ j = d then z else f i j
def St.wRw (S : St) (a d n : Nat) : St := (S.1, S.2.1, (S.kd, S.v, S.sn, updR S.rw a d n), S.2.2.2)
theorem PlanOk.n {S S' : St} {R : Rw} (h : PlanOk S R) (e : S.n ≤ S'.n) : PlanOk S' R := ⟨h.1, fun r hr => ⟨by have := (h.2 r hr).1; omega, (h.2 r hr).2⟩⟩
theorem BookOk.n {S S' : St} {R : Rw} (h : BookOk S R) (e : S.n ≤ S'.n) : BookOk S' R := ⟨h.1, fun r hr => ⟨by have := (h.2 r hr).1; omega, (h.2 r hr).2⟩⟩
section ACC
variable {ad : Nat → Nat} {D : va_G} {cA : Nat → ClassId} {μ ν : x_M}
theorem q_set {x y w : Int32} (h : Rel μ ν) : SameR (f_X9_set (XC ad D cA) 1 x y w μ) (f_X10_set (XR ad D cA) 600 x y w ν) := by
  have h0 := h
  obtain ⟨S, R1, R2, R3, ⟨hp, h30⟩, ⟨hC, hR⟩, hg, ho⟩ := h
  have h6 := hp.n6
  have one : ∀ (P : Prop) [Decidable P], (if P then (1 : Int32) else 0) = 0 ∨ (if P then (1 : Int32) else 0) = 1 := fun P _ => by
    by_cases p : P
    · rw [if_pos p]; exact Or.inr rfl
    · rw [if_neg p]; exact Or.inl rfl
  unfold f_X9_set f_X10_set
  rcases hp.acc (ad := ad) (D := D) (cA := cA) x with ⟨a, ha, rfl, k1, k2⟩ | ⟨-, k1, k2⟩
  · have hz : (104 + a = 0) = False := eq_false (by omega)
    have hB : isB 100 := Or.inl rfl
    have ka := (kBa hB (i := a) (by omega)).1
    have hx6 : x_ix (Int32.ofNat a) 6 := iN_ix (by omega) (by omega)
    have hcl : (Int32.ofNat a).toNatClampNeg = a := iN_cl (by omega)
    obtain ⟨⟨c1, c2, c3⟩, ⟨c4, c5⟩, -⟩ := hp.1.1.2.2.2.1 a ha
    obtain ⟨⟨d1, d2, d3⟩, ⟨d4, d5⟩, -⟩ := hp.2.1.2.2.2.2.1 a ha
    have okd := (hp.ok.1.2.1 a ha).1.1
    simp only [Nat.reduceAdd] at ka c1 c2 c3 c4 c5
    by_cases q : (0 : Int32) ≤ y ∧ y ≤ 2
    · have em := c_may (ad := ad) (D := D) (cA := cA) (μ := μ) (y := w) q
      obtain ⟨k, -, hk, rfl⟩ := inN 0 2 0 2 rfl rfl (by decide) (by decide) q
      have hk' : k = 0 ∨ k = 1 ∨ k = 2 := by omega
      rcases hk' with rfl | rfl | rfl
      · simp only [Int32.reduceOfNat, iE, true_and, false_and, or_false, false_or] at em
        by_cases g : (-999 : Int32) ≤ w ∧ w ≤ 999
        · obtain ⟨z, z1, z2, rfl⟩ := inI (-999) 999 (-999) 999 rfl rfl (by decide) (by decide) g
          refine ⟨Int32.ofInt (S.bk a), x_sI μ (104 + a) 5 (Int32.ofInt z), x_sI ν 608 a (Int32.ofInt z), ?_, ?_, ?_⟩
          · unfold f_X0_change f_X0_change_J27
            simp only [Int32.reduceOfNat, Int32.reduceLE, and_self, ↓ckE, ↓ltE, ↓reduceIte, kC, CK, CP hp.P, Nat.reduceAdd, k1, hz, c_in, em, g, iE, bdE, ka, c4]
          · unfold f_X10_set_J61 f_X10_set_J91 f_X10_set_J124 f_X10_set_J137
            simp only [Int32.reduceOfNat, Int32.reduceLE, and_self, ↓ckE, ↓ltE, ↓reduceIte, kR, lR, RK, RN, RP hp.2.1.1, Nat.reduceAdd, k2, r_in, g, iE, bdE, true_or, true_and, ↓ixT hx6, hcl, d4]
          · refine Rel.nowAcc (S' := S.upd (updI S.bk a z) S.dl S.wet S.town S.day) hp h30 hC hR ho ⟨hg.1, ⟨⟨hp.ok.1.1, fun i hi => ?_, hp.ok.1.2.2⟩, hp.ok.2⟩, hg.2.2.1, hg.2.2.2.1, hg.2.2.2.2.1, hg.2.2.2.2.2⟩ (hp.1.1.setI h6 (by omega)) (hp.2.1.bk h6) (by omega) (by omega)
            obtain ⟨b1, b2, b3, b4⟩ := hp.ok.1.2.1 i hi
            refine ⟨b1, ?_, b3, b4⟩
            show -9999 ≤ (if i = a then z else S.bk i) ∧ (if i = a then z else S.bk i) ≤ 9999
            by_cases e : i = a
            · rw [if_pos e]; omega
            · rw [if_neg e]; exact b2
        · refine SameR.now (r := -10002) h0 ?_ ?_
          · simp only [Int32.reduceOfNat, Int32.reduceLE, and_self, ↓ckE, ↓ltE, ↓reduceIte, kC, CK, CP hp.P, Nat.reduceAdd, k1, hz, c_in, em, g, iE, bdE]
          · unfold f_X10_set_J61
            simp only [Int32.reduceOfNat, Int32.reduceLE, and_self, ↓ckE, ↓ltE, ↓reduceIte, kR, RK, Nat.reduceAdd, k2, r_in, g, iE, bdE]
      · simp only [Int32.reduceOfNat, iE, true_and, false_and, or_false, false_or] at em
        by_cases g : (-30 : Int32) ≤ w ∧ w ≤ 30
        · obtain ⟨z, z1, z2, rfl⟩ := inI (-30) 30 (-30) 30 rfl rfl (by decide) (by decide) g
          refine ⟨Int32.ofInt (S.dl a), x_sI μ (104 + a) 6 (Int32.ofInt z), x_sI ν 609 a (Int32.ofInt z), ?_, ?_, ?_⟩
          · unfold f_X0_change f_X0_change_J27
            simp only [Int32.reduceOfNat, Int32.reduceLE, and_self, ↓ckE, ↓ltE, ↓reduceIte, kC, CK, CP hp.P, Nat.reduceAdd, k1, hz, c_in, em, g, iE, bdE, ka, c5]
          · unfold f_X10_isDaily f_X10_set_J61 f_X10_set_J91 f_X10_set_J124 f_X10_set_J137
            simp only [Int32.reduceOfNat, Int32.reduceLE, and_self, ↓ckE, ↓ltE, ↓reduceIte, kR, lR, RK, RN, RP hp.2.1.1, Nat.reduceAdd, k2, r_in, g, iE, bdE, true_or, or_true, true_and, ↓ixT hx6, hcl, d5]
          · exact Rel.nowAcc (S' := S.wDl a z) hp h30 hC hR ho ⟨hg.1, hp.ok.wDl (by omega), hg.2.2.1, hg.2.2.2.1, hg.2.2.2.2.1, hg.2.2.2.2.2⟩ (hp.1.1.wDl h6 (by omega)) (hp.2.1.wDl h6) (by omega) (by omega)
        · refine SameR.now (r := -10002) h0 ?_ ?_
          · simp only [Int32.reduceOfNat, Int32.reduceLE, and_self, ↓ckE, ↓ltE, ↓reduceIte, kC, CK, CP hp.P, Nat.reduceAdd, k1, hz, c_in, em, g, iE, bdE]
          · unfold f_X10_isDaily f_X10_set_J61
            simp only [Int32.reduceOfNat, Int32.reduceLE, and_self, ↓ckE, ↓ltE, ↓reduceIte, kR, RK, Nat.reduceAdd, k2, r_in, g, iE, bdE, true_or]
      · simp only [Int32.reduceOfNat, iE, true_and, false_and, or_false, false_or] at em
        by_cases g : (0 : Int32) ≤ w ∧ w ≤ 20
        · obtain ⟨z, -, z2, rfl⟩ := inN 0 20 0 20 rfl rfl (by decide) (by decide) g
          by_cases q4 : Int32.ofNat (S.kd a) = 4
          · refine ⟨Int32.ofNat (S.sn a), x_sI μ (104 + a) 7 (Int32.ofNat z), x_sI ν 610 a (Int32.ofNat z), ?_, ?_, ?_⟩
            · unfold f_X0_change f_X0_change_J27
              simp only [Int32.reduceOfNat, Int32.reduceLE, and_self, ↓ckE, ↓ltE, ↓reduceIte, kC, CK, CP hp.P, Nat.reduceAdd, k1, hz, c_in, em, g, iE, bdE, ka, c1, q4, c3]
            · unfold f_X10_set_J61 f_X10_set_J91 f_X10_set_J124 f_X10_set_J137
              simp only [Int32.reduceOfNat, Int32.reduceLE, and_self, ↓ckE, ↓ltE, ↓reduceIte, kR, lR, RK, RN, RP hp.2.1.1, Nat.reduceAdd, k2, r_in, g, iE, bdE, true_or, true_and, ↓ixT hx6, hcl, d1, q4, d3]
            · exact Rel.nowAcc (S' := S.wSn a z) hp h30 hC hR ho ⟨hg.1, hp.ok.wSn (by omega), hg.2.2.1, hg.2.2.2.1, hg.2.2.2.2.1, hg.2.2.2.2.2⟩ (hp.1.1.wSn h6 (by omega)) (hp.2.1.wSn h6) (by omega) (by omega)
          · refine SameR.now (r := -10003) h0 ?_ ?_
            · simp only [Int32.reduceOfNat, Int32.reduceLE, and_self, ↓ckE, ↓ltE, ↓reduceIte, kC, CK, CP hp.P, Nat.reduceAdd, k1, hz, c_in, em, g, iE, bdE, ka, c1, q4]
            · unfold f_X10_set_J61
              simp only [Int32.reduceOfNat, Int32.reduceLE, and_self, ↓ckE, ↓ltE, ↓reduceIte, kR, lR, RK, RN, RP hp.2.1.1, Nat.reduceAdd, k2, r_in, g, iE, bdE, true_or, true_and, ↓ixT hx6, hcl, d1, q4]
        · refine SameR.now (r := -10002) h0 ?_ ?_
          · simp only [Int32.reduceOfNat, Int32.reduceLE, and_self, ↓ckE, ↓ltE, ↓reduceIte, kC, CK, CP hp.P, Nat.reduceAdd, k1, hz, c_in, em, g, iE, bdE]
          · unfold f_X10_set_J61
            simp only [Int32.reduceOfNat, Int32.reduceLE, and_self, ↓ckE, ↓ltE, ↓reduceIte, kR, RK, Nat.reduceAdd, k2, r_in, g, iE, bdE]
    · refine SameR.now (r := -10001) h0 ?_ ?_
      · simp only [↓ckE, ↓ltE, ↓reduceIte, kC, CK, CP hp.P, Nat.reduceAdd, k1, hz, c_in, q, bdE]
      · simp only [↓ckE, ↓reduceIte, kR, RK, Nat.reduceAdd, k2, iE, r_in, q, bdE]
  · refine SameR.now (r := -10001) h0 ?_ ?_
    · simp only [↓ckE, ↓ltE, ↓reduceIte, kC, CK, CP hp.P, Nat.reduceAdd, k1, bdE]
    · simp only [↓ckE, ↓reduceIte, kR, RK, Nat.reduceAdd, k2, bdE]
theorem StC.wRw {a : x_M} {S : St} {i p n : Nat} (h : StC a 100 S) (h6 : S.n ≤ 6) (hi : i < 6) : StC (x_sI a (110 + i) p (Int32.ofNat n)) 100 (S.wRw i p n) := by
  obtain ⟨⟨hB, h1⟩, h2, h3, h4, hl, t, w⟩ := h
  have no : ∀ o, o ≠ 110 + i → (x_sI a (110 + i) p (Int32.ofNat n)).1 o = a.1 o := fun o ho => sI_no ho
  refine ⟨⟨hB, h1⟩, fun j hj => ?_, fun j hj => ?_, fun j hj => ?_, hl.us (fun o k z => ?_), ?_, ?_⟩
  · rw [no (100 + 2) (by omega)]; exact h2 j hj
  · rw [no _ (by omega)]; exact h3 j hj
  · have hj : j < S.n := hj
    obtain ⟨q1, q2, q3⟩ := h4 j hj
    unfold AccC
    rw [no (100 + 4 + j) (by omega)]
    refine ⟨q1, q2, fun d hd => ?_⟩
    show (x_sI a (110 + i) p (Int32.ofNat n)).1 (100 + 10 + j) d = Int32.ofNat (if j = i ∧ d = p then n else S.rw j d)
    by_cases q : j = i ∧ d = p
    · rw [if_pos q, q.1, q.2]; exact sI_get
    · rw [if_neg q, sI_off (fun z => q ⟨by omega, z.2⟩)]; exact q3 d hd
  · rw [no o (by unfold lwC at z; omega)]
  · rw [no 100 (by omega)]; exact t
  · rw [no 100 (by omega)]; exact w
theorem StR.wRw {a : x_M} {S : St} {i p n : Nat} (h : StR a S) (hp : p < 4) : StR (x_sI a 611 (4 * i + p) (Int32.ofNat n)) (S.wRw i p n) := by
  obtain ⟨h1, h2, t, h4, h5, hl, w⟩ := h
  have no : ∀ o, o ≠ 611 → (x_sI a 611 (4 * i + p) (Int32.ofNat n)).1 o = a.1 o := fun o ho => sI_no ho
  refine ⟨h1, fun j hj => ?_, ?_, fun j hj => ?_, fun j hj => ?_, hl.eq (by rw [no 600 (by omega)]) (fun o p1 p2 => no o (by omega)), ?_⟩
  · rw [no 605 (by omega)]; exact h2 j hj
  · rw [no 600 (by omega)]; exact t
  · rw [no 600 (by omega)]; exact h4 j hj
  · obtain ⟨q1, q2, q3⟩ := h5 j hj
    unfold AccR
    rw [no 606 (by omega), no 607 (by omega), no 608 (by omega), no 609 (by omega), no 610 (by omega)]
    refine ⟨q1, q2, fun d hd => ?_⟩
    show (x_sI a 611 (4 * i + p) (Int32.ofNat n)).1 611 (4 * j + d) = Int32.ofNat (if j = i ∧ d = p then n else S.rw j d)
    by_cases q : j = i ∧ d = p
    · rw [if_pos q, q.1, q.2]; exact sI_get
    · rw [if_neg q, sI_off (fun z => q ⟨by omega, by omega⟩)]; exact q3 d hd
  · rw [no 600 (by omega)]; exact w
theorem q_row {x y w : Int32} (h : Rel μ ν) : SameR (f_X9_row (XC ad D cA) 1 x y w μ) (f_X10_row (XR ad D cA) 600 x y w ν) := by
  have h0 := h
  obtain ⟨S, R1, R2, R3, ⟨hp, h30⟩, ⟨hC, hR⟩, hg, ho⟩ := h
  have h6 := hp.n6
  unfold f_X9_row f_X10_row
  rcases hp.acc (ad := ad) (D := D) (cA := cA) x with ⟨a, ha, rfl, k1, k2⟩ | ⟨-, k1, k2⟩
  · have hz : (104 + a = 0) = False := eq_false (by omega)
    have hB : isB 100 := Or.inl rfl
    have ka := kBa hB (i := a) (by omega)
    have hx6 : x_ix (Int32.ofNat a) 6 := iN_ix (by omega) (by omega)
    have hcl : (Int32.ofNat a).toNatClampNeg = a := iN_cl (by omega)
    obtain ⟨⟨c1, -, -⟩, -, c6⟩ := hp.1.1.2.2.2.1 a ha
    obtain ⟨⟨d1, -, -⟩, -, d6⟩ := hp.2.1.2.2.2.2.1 a ha
    have okd := (hp.ok.1.2.1 a ha).1.1
    have pa := (pt_a hB (i := a) (by omega) hp.P).2
    simp only [Nat.reduceAdd] at ka c1 c6 pa
    by_cases q : (0 : Int32) ≤ y ∧ y ≤ 3
    · by_cases q2 : (0 : Int32) ≤ w ∧ w ≤ 9
      · obtain ⟨p, -, hp3, rfl⟩ := inN 0 3 0 3 rfl rfl (by decide) (by decide) q
        obtain ⟨n, -, hn, rfl⟩ := inN 0 9 0 9 rfl rfl (by decide) (by decide) q2
        by_cases q6 : Int32.ofNat (S.kd a) = 6
        · have hx4 : x_ix (Int32.ofNat p) 4 := iN_ix (by omega) (by omega)
          have hcl4 : (Int32.ofNat p).toNatClampNeg = p := iN_cl (by omega)
          have nn : ¬ Int32.ofNat p < 0 := iN_neg (by omega)
          have nl : ¬ nI 4 ≤ Int32.ofNat p := fun z => by have := (iN_le (by omega) (by omega)).mp z; omega
          have ea := c_at (ad := ad) (D := D) (cA := cA) (μ := μ) (o := 110 + a) (i := p) ka.2.1 (by rw [ka.2.2]; omega) (by rw [ka.2.2]; omega)
          have e4 : (4 : Int32) * Int32.ofNat a + Int32.ofNat p = Int32.ofNat (4 * a + p) := by rw [show (4 : Int32) = Int32.ofNat 4 from rfl, iN_mul, iN_add]
          have hx24 : x_ix (Int32.ofNat (4 * a + p)) 24 := iN_ix (by omega) (by omega)
          have hc24 : (Int32.ofNat (4 * a + p)).toNatClampNeg = 4 * a + p := iN_cl (by omega)
          refine ⟨Int32.ofNat (S.rw a p), x_sI μ (110 + a) p (Int32.ofNat n), x_sI ν 611 (4 * a + p) (Int32.ofNat n), ?_, ?_, ?_⟩
          · unfold f_X0_changeRow
            simp only [↓ckE, ↓ltE, ↓reduceIte, kC, lC, CK, CP hp.P, Nat.reduceAdd, Nat.reduceEqDiff, k1, hz, c_in, q, q2, and_self, iE, bdE, ka, c1, q6, pa, ea, c6 p (by omega), nn, nl, true_or, true_and, ↓ixT hx4, hcl4]
          · simp only [↓ckE, ↓ltE, ↓reduceIte, kR, lR, RK, RN, RP hp.2.1.1, Nat.reduceAdd, k2, r_in, q, q2, and_self, iE, bdE, true_or, true_and, ↓ixT hx6, hcl, d1, q6, e4, ↓ixT hx24, hc24, d6 p (by omega)]
          · refine Rel.nowAcc (S' := S.wRw a p n) hp h30 hC hR ho ⟨hg.1, ⟨⟨hp.ok.1.1, fun i hi => ?_, hp.ok.1.2.2⟩, hp.ok.2⟩, hg.2.2.1, hg.2.2.2.1, hg.2.2.2.2.1, hg.2.2.2.2.2⟩ (hp.1.1.wRw h6 (by omega)) (hp.2.1.wRw (by omega)) (by omega) (by omega)
            obtain ⟨b1, b2, b3, b4⟩ := hp.ok.1.2.1 i hi
            refine ⟨b1, b2, b3, fun d hd => ?_⟩
            show (if i = a ∧ d = p then n else S.rw i d) ≤ 9
            by_cases e : i = a ∧ d = p
            · rw [if_pos e]; exact hn
            · rw [if_neg e]; exact b4 d hd
        · refine SameR.now (r := -3) h0 ?_ ?_
          · simp only [↓ckE, ↓ltE, ↓reduceIte, kC, CK, CP hp.P, Nat.reduceAdd, k1, hz, c_in, q, q2, and_self, iE, bdE, ka, c1, q6]
          · simp only [↓ckE, ↓ltE, ↓reduceIte, kR, lR, RK, RN, RP hp.2.1.1, Nat.reduceAdd, k2, r_in, q, q2, and_self, iE, bdE, true_or, true_and, ↓ixT hx6, hcl, d1, q6]
      · refine SameR.now (r := -2) h0 ?_ ?_
        · simp only [↓ckE, ↓ltE, ↓reduceIte, kC, CK, CP hp.P, Nat.reduceAdd, k1, hz, c_in, q, q2, and_self, iE, bdE]
        · simp only [↓ckE, ↓reduceIte, kR, RK, Nat.reduceAdd, k2, iE, r_in, q, q2, and_self, bdE]
    · refine SameR.now (r := -1) h0 ?_ ?_
      · simp only [↓ckE, ↓ltE, ↓reduceIte, kC, CK, CP hp.P, Nat.reduceAdd, k1, hz, c_in, q, bdE]
      · simp only [↓ckE, ↓reduceIte, kR, RK, Nat.reduceAdd, k2, iE, r_in, q, bdE]
  · refine SameR.now (r := -1) h0 ?_ ?_
    · simp only [↓ckE, ↓ltE, ↓reduceIte, kC, CK, CP hp.P, Nat.reduceAdd, k1, bdE]
    · simp only [↓ckE, ↓reduceIte, kR, RK, Nat.reduceAdd, k2, bdE]
end ACC
