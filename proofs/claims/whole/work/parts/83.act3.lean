/-! ===== act: pours, tells, the call ===== -/
section ACT3
variable {ad : Nat → Nat} {D : va_G} {cA : Nat → ClassId} {μ ν μ0 ν0 : x_M} {a kd v N d t : Nat} {x : Int32}
theorem a_pour0 {k : Nat} (J : Jn a kd v μ0 ν0 μ ν N) (hN : N < 70) (ht : t ≤ 26) (hk : k ≤ 6) (hu : up k 1 = 0) : ActJ ad D cA a kd v μ0 ν0 μ ν N (N + 3) (z_X1_run (XC ad D cA) (d + 6) 0 7 (104 + a) (Int32.ofNat k) 1 x (Int32.ofNat t) μ) (f_X10_accountPours (XR ad D cA) 600 (Int32.ofNat a) x ν) := by
  have ka := (kBa (B := 100) (Or.inl rfl) (i := a) J.1.2.2.1.1).1
  simp only [Nat.reduceAdd] at ka
  have ha := J.1.2.2.1.1
  have hx6 : x_ix (Int32.ofNat a) 6 := iN_ix (by omega) (by omega)
  have hcl : (Int32.ofNat a).toNatClampNeg = a := iN_cl (by omega)
  obtain ⟨μ1, ν1, e1, e2, J1⟩ := note_j (ad := ad) (D := D) (cA := cA) (b := 11) J (by omega)
  have r := runS (ad := ad) (D := D) (cA := cA) (d := d + 4) (p := 104 + a) (k := k) (c := 1) (t := t) (x := x) J.1.2.1 J1.1.2.1 hk (by omega) (by omega) (by rw [hu]; exact e1)
  rw [hu, show bdA (3 * 0 + 1) = 11 from rfl] at r
  have k1 := J1.1.2.2.2.1.2.1
  obtain ⟨r1, μ2, ν2, e3, e4, J2⟩ := a_keeps (ad := ad) (D := D) (cA := cA) (d := d) (t := t + 1) (x := x) J1 (by omega) (by omega)
  have v1 := J2.1.2.2.2.1.2.2
  have v2 := J2.1.2.2.2.2.2
  refine ⟨r1 - Int32.ofNat v, μ2, ν2, ?_, ?_, J2.up (by omega)⟩
  · refine r.trans ?_
    unfold f_X1_runBody_B
    simp only [↓ckE, ↓ltE, ↓swE, ↓reduceIte, kC, CK, Nat.reduceAdd, ka, bE, k1, e3, bdE, v1]
  · unfold f_X10_accountPours
    simp only [↓ckE, ↓ltE, ↓reduceIte, kR, lR, RK, RN, RP J2.1.1.2, Nat.reduceAdd, true_or, true_and, ↓ixT hx6, hcl, e2, bdE, e4, v2]
theorem a_pourS {k : Nat} (J : Jn a kd v μ0 ν0 μ ν N) (hN : N < 60) (ht : t ≤ 24) (hk : k ≤ 6) (hu : up k 1 = 1) : ActJ ad D cA a kd v μ0 ν0 μ ν N (N + 4) (z_X1_run (XC ad D cA) (d + 8) 0 7 (104 + a) (Int32.ofNat k) 1 x (Int32.ofNat t) μ) (f_X10_savingPours (XR ad D cA) 600 (Int32.ofNat a) x ν) := by
  have ka := (kBa (B := 100) (Or.inl rfl) (i := a) J.1.2.2.1.1).1
  simp only [Nat.reduceAdd] at ka
  obtain ⟨μ1, ν1, e1, e2, J1⟩ := note_j (ad := ad) (D := D) (cA := cA) (b := 20) J (by omega)
  have r := runS (ad := ad) (D := D) (cA := cA) (d := d + 6) (p := 104 + a) (k := k) (c := 1) (t := t) (x := x) J.1.2.1 J1.1.2.1 hk (by omega) (by omega) (by rw [hu]; exact e1)
  rw [hu, show bdA (3 * 1 + 1) = 20 from rfl, show kA 1 = Int32.ofNat 0 from rfl] at r
  obtain ⟨r1, μ2, ν2, e3, e4, J2⟩ := a_pour0 (ad := ad) (D := D) (cA := cA) (d := d) (t := t + 1) (x := x) J1 (by omega) (by omega) (k := 0) (by omega) (by decide +kernel)
  refine ⟨r1 ^^^ 6, μ2, ν2, ?_, ?_, J2.up (by omega)⟩
  · refine r.trans ?_
    unfold f_X1_runBody_B
    simp only [↓ckE, ↓ltE, ↓swE, ↓reduceIte, kC, CK, Nat.reduceAdd, ka, bE, e3, bdE]
  · unfold f_X10_savingPours
    simp only [↓ckE, ↓ltE, ↓reduceIte, kR, RK, Nat.reduceAdd, e2, bdE, e4]
/-- pours, whole -/
theorem a_pours (J : Jn a kd v μ0 ν0 μ ν N) (hN : N < 50) (ht : t ≤ 20) : ActJ ad D cA a kd v μ0 ν0 μ ν N (N + 5) (z_X1_run (XC ad D cA) (d + 10) 0 7 (104 + a) (Int32.ofNat kd) 1 x (Int32.ofNat t) μ) (f_X10_poursAct (XR ad D cA) 600 (Int32.ofNat a) x ν) := by
  have ka := (kBa (B := 100) (Or.inl rfl) (i := a) J.1.2.2.1.1).1
  simp only [Nat.reduceAdd] at ka
  have ha := J.1.2.2.1.1
  have hx6 : x_ix (Int32.ofNat a) 6 := iN_ix (by omega) (by omega)
  have hcl : (Int32.ofNat a).toNatClampNeg = a := iN_cl (by omega)
  have d1 := J.1.2.2.2.2.1
  have hkk : kd = 0 ∨ kd = 1 ∨ kd = 3 ∨ kd = 2 ∨ kd = 5 ∨ kd = 4 ∨ kd = 6 := by have := J.1.2.2.1.2; omega
  unfold f_X10_poursAct
  by_cases q0 : kd = 0 ∨ kd = 2 ∨ kd = 3 ∨ kd = 5
  · obtain ⟨r, μ1, ν1, e1, e2, J1⟩ := a_pour0 (ad := ad) (D := D) (cA := cA) (d := d + 4) (t := t) (x := x) J (by omega) (by omega) (k := kd) (by omega) (by rcases q0 with e | e | e | e <;> rw [e] <;> decide +kernel)
    refine ⟨r, μ1, ν1, e1, ?_, J1.up (by omega)⟩
    simp only [↓ckE, ↓ltE, ↓reduceIte, kR, lR, RK, RN, RP J.1.1.2, Nat.reduceAdd, true_or, true_and, ↓ixT hx6, hcl, d1]
    rcases q0 with e | e | e | e <;> rw [e] <;> simp only [↓swE, sw_n, nAt, iE, ↓reduceIte, e2, bdE]
  · by_cases q1 : kd = 1
    · obtain ⟨r, μ1, ν1, e1, e2, J1⟩ := a_pourS (ad := ad) (D := D) (cA := cA) (d := d + 2) (t := t) (x := x) J (by omega) (by omega) (k := kd) (by omega) (by rw [q1]; decide +kernel)
      refine ⟨r, μ1, ν1, e1, ?_, J1.up (by omega)⟩
      simp only [↓ckE, ↓ltE, ↓reduceIte, kR, lR, RK, RN, RP J.1.1.2, Nat.reduceAdd, true_or, true_and, ↓ixT hx6, hcl, d1]
      rw [q1]
      simp only [↓swE, sw_n, nAt, iE, ↓reduceIte, e2, bdE]
    · by_cases q2 : kd = 4
      · have hu : up kd 1 = 4 := by rw [q2]; decide +kernel
        obtain ⟨μ1, ν1, e1, e2, J1⟩ := note_j (ad := ad) (D := D) (cA := cA) (b := 51) J (by omega)
        have r := runS (ad := ad) (D := D) (cA := cA) (d := d + 8) (p := 104 + a) (k := kd) (c := 1) (t := t) (x := x) J.1.2.1 J1.1.2.1 J.1.2.2.1.2 (by omega) (by omega) (by rw [hu]; exact e1)
        rw [hu, show bdA (3 * 4 + 1) = 51 from rfl, show kA 4 = Int32.ofNat 1 from rfl] at r
        obtain ⟨r1, μ2, ν2, e3, e4, J2⟩ := a_pourS (ad := ad) (D := D) (cA := cA) (d := d) (t := t + 1) (x := x + 1) J1 (by omega) (by omega) (k := 1) (by omega) (by decide +kernel)
        refine ⟨r1, μ2, ν2, ?_, ?_, J2.up (by omega)⟩
        · refine r.trans ?_
          unfold f_X1_runBody_B
          simp only [↓ckE, ↓ltE, ↓swE, ↓reduceIte, kC, CK, Nat.reduceAdd, ka, bE, e3, bdE]
        · simp only [↓ckE, ↓ltE, ↓reduceIte, kR, lR, RK, RN, RP J.1.1.2, Nat.reduceAdd, true_or, true_and, ↓ixT hx6, hcl, d1, e2, bdE, e4]
          rw [q2]
          simp only [↓swE, sw_n, nAt, iE, ↓reduceIte]
      · have q3 : kd = 6 := by omega
        have hu : up kd 1 = 6 := by rw [q3]; decide +kernel
        obtain ⟨μ1, ν1, e1, e2, J1⟩ := note_j (ad := ad) (D := D) (cA := cA) (b := 70) J (by omega)
        have r := runS (ad := ad) (D := D) (cA := cA) (d := d + 8) (p := 104 + a) (k := kd) (c := 1) (t := t) (x := x) J.1.2.1 J1.1.2.1 J.1.2.2.1.2 (by omega) (by omega) (by rw [hu]; exact e1)
        rw [hu, show bdA (3 * 6 + 1) = 70 from rfl, show kA 6 = Int32.ofNat 3 from rfl] at r
        obtain ⟨r1, μ2, ν2, e3, e4, J2⟩ := a_pour0 (ad := ad) (D := D) (cA := cA) (d := d + 2) (t := t + 1) (x := x) J1 (by omega) (by omega) (k := 3) (by omega) (by decide +kernel)
        obtain ⟨r2, μ3, ν3, e5, e6, J3⟩ := a_keep0 (ad := ad) (D := D) (cA := cA) (d := d + 6) (t := t + 1) (x := 2) J2 (by omega) (by omega) (k := 3) (by omega) (by decide +kernel)
        refine ⟨r1 + r2, μ3, ν3, ?_, ?_, J3.up (by omega)⟩
        · refine r.trans ?_
          unfold f_X1_runBody_B
          simp only [↓ckE, ↓ltE, ↓swE, ↓reduceIte, kC, CK, Nat.reduceAdd, ka, bE, e3, e5, bdE]
        · simp only [↓ckE, ↓ltE, ↓reduceIte, kR, lR, RK, RN, RP J.1.1.2, Nat.reduceAdd, true_or, true_and, ↓ixT hx6, hcl, d1, e2, bdE, e4, e6]
          rw [q3]
          simp only [↓swE, sw_n, nAt, iE, ↓reduceIte]
theorem a_tell0 {k : Nat} (J : Jn a kd v μ0 ν0 μ ν N) (hN : N < 40) (ht : t ≤ 18) (hk : k ≤ 6) (hu : up k 2 = 0) : ActJ ad D cA a kd v μ0 ν0 μ ν N (N + 6) (z_X1_run (XC ad D cA) (d + 12) 0 7 (104 + a) (Int32.ofNat k) 2 x (Int32.ofNat t) μ) (f_X10_accountTells (XR ad D cA) 600 (Int32.ofNat a) x ν) := by
  have ka := (kBa (B := 100) (Or.inl rfl) (i := a) J.1.2.2.1.1).1
  simp only [Nat.reduceAdd] at ka
  obtain ⟨μ1, ν1, e1, e2, J1⟩ := note_j (ad := ad) (D := D) (cA := cA) (b := 12) J (by omega)
  have r := runS (ad := ad) (D := D) (cA := cA) (d := d + 10) (p := 104 + a) (k := k) (c := 2) (t := t) (x := x) J.1.2.1 J1.1.2.1 hk (by omega) (by omega) (by rw [hu]; exact e1)
  rw [hu, show bdA (3 * 0 + 2) = 12 from rfl] at r
  have k1 := J1.1.2.2.2.1.2.1
  obtain ⟨r1, μ2, ν2, e3, e4, J2⟩ := a_pours (ad := ad) (D := D) (cA := cA) (d := d) (t := t + 1) (x := x) J1 (by omega) (by omega)
  refine ⟨r1 * 2, μ2, ν2, ?_, ?_, J2.up (by omega)⟩
  · refine r.trans ?_
    unfold f_X1_runBody_B
    simp only [↓ckE, ↓ltE, ↓swE, ↓reduceIte, kC, CK, Nat.reduceAdd, ka, bE, k1, e3, bdE]
  · unfold f_X10_accountTells
    simp only [↓ckE, ↓ltE, ↓reduceIte, kR, RK, Nat.reduceAdd, e2, bdE, e4]
/-- tells, whole -/
theorem a_tells (J : Jn a kd v μ0 ν0 μ ν N) (hN : N < 30) (ht : t ≤ 16) : ActJ ad D cA a kd v μ0 ν0 μ ν N (N + 12) (z_X1_run (XC ad D cA) (d + 14) 0 7 (104 + a) (Int32.ofNat kd) 2 x (Int32.ofNat t) μ) (f_X10_tellsAct (XR ad D cA) 600 (Int32.ofNat a) x ν) := by
  have ka := (kBa (B := 100) (Or.inl rfl) (i := a) J.1.2.2.1.1).1
  simp only [Nat.reduceAdd] at ka
  have ha := J.1.2.2.1.1
  have hx6 : x_ix (Int32.ofNat a) 6 := iN_ix (by omega) (by omega)
  have hcl : (Int32.ofNat a).toNatClampNeg = a := iN_cl (by omega)
  have d1 := J.1.2.2.2.2.1
  have hkk : kd = 0 ∨ kd = 1 ∨ kd = 3 ∨ kd = 2 ∨ kd = 5 ∨ kd = 4 ∨ kd = 6 := by have := J.1.2.2.1.2; omega
  unfold f_X10_tellsAct
  by_cases q0 : kd = 0 ∨ kd = 1 ∨ kd = 2 ∨ kd = 4
  · obtain ⟨r, μ1, ν1, e1, e2, J1⟩ := a_tell0 (ad := ad) (D := D) (cA := cA) (d := d + 2) (t := t) (x := x) J (by omega) (by omega) (k := kd) (by omega) (by rcases q0 with e | e | e | e <;> rw [e] <;> decide +kernel)
    refine ⟨r, μ1, ν1, e1, ?_, J1.up (by omega)⟩
    simp only [↓ckE, ↓ltE, ↓reduceIte, kR, lR, RK, RN, RP J.1.1.2, Nat.reduceAdd, true_or, true_and, ↓ixT hx6, hcl, d1]
    rcases q0 with e | e | e | e <;> rw [e] <;> simp only [↓swE, sw_n, nAt, iE, ↓reduceIte, e2, bdE]
  · by_cases q1 : kd = 5
    · have hu : up kd 2 = 5 := by rw [q1]; decide +kernel
      obtain ⟨μ1, ν1, e1, e2, J1⟩ := note_j (ad := ad) (D := D) (cA := cA) (b := 60) J (by omega)
      have r := runS (ad := ad) (D := D) (cA := cA) (d := d + 12) (p := 104 + a) (k := kd) (c := 2) (t := t) (x := x) J.1.2.1 J1.1.2.1 J.1.2.2.1.2 (by omega) (by omega) (by rw [hu]; exact e1)
      rw [hu, show bdA (3 * 5 + 2) = 60 from rfl, show kA 5 = Int32.ofNat 2 from rfl] at r
      have i1 := J1.1.2.2.2.1.1
      obtain ⟨r1, μ2, ν2, e3, e4, J2⟩ := a_tell0 (ad := ad) (D := D) (cA := cA) (d := d) (t := t + 1) (x := x - Int32.ofNat a) J1 (by omega) (by omega) (k := 2) (by omega) (by decide +kernel)
      refine ⟨r1, μ2, ν2, ?_, ?_, J2.up (by omega)⟩
      · refine r.trans ?_
        unfold f_X1_runBody_B
        simp only [↓ckE, ↓ltE, ↓swE, ↓reduceIte, kC, CK, Nat.reduceAdd, ka, bE, i1, e3, bdE]
      · simp only [↓ckE, ↓ltE, ↓reduceIte, kR, lR, RK, RN, RP J.1.1.2, Nat.reduceAdd, true_or, true_and, ↓ixT hx6, hcl, d1, e2, bdE, e4]
        rw [q1]
        simp only [↓swE, sw_n, nAt, iE, ↓reduceIte]
    · have q3 : kd = 3 ∨ kd = 6 := by omega
      have hu : up kd 2 = 3 := by rcases q3 with e | e <;> rw [e] <;> decide +kernel
      obtain ⟨μ1, ν1, e1, e2, J1⟩ := note_j (ad := ad) (D := D) (cA := cA) (b := 40) J (by omega)
      have r := runS (ad := ad) (D := D) (cA := cA) (d := d + 12) (p := 104 + a) (k := kd) (c := 2) (t := t) (x := x) J.1.2.1 J1.1.2.1 J.1.2.2.1.2 (by omega) (by omega) (by rw [hu]; exact e1)
      rw [hu, show bdA (3 * 3 + 2) = 40 from rfl, show kA 3 = Int32.ofNat 0 from rfl] at r
      have k1 := J1.1.2.2.2.1.2.1
      obtain ⟨r1, μ2, ν2, e3, e4, J2⟩ := a_tell0 (ad := ad) (D := D) (cA := cA) (d := d) (t := t + 1) (x := x) J1 (by omega) (by omega) (k := 0) (by omega) (by decide +kernel)
      obtain ⟨r2, μ3, ν3, e5, e6, J3⟩ := a_pours (ad := ad) (D := D) (cA := cA) (d := d + 2) (t := t + 1) (x := 1) J2 (by omega) (by omega)
      refine ⟨r1 + r2, μ3, ν3, ?_, ?_, J3.up (by omega)⟩
      · refine r.trans ?_
        unfold f_X1_runBody_B
        simp only [↓ckE, ↓ltE, ↓swE, ↓reduceIte, kC, CK, Nat.reduceAdd, ka, bE, k1, e3, e5, bdE]
      · unfold f_X10_tellsAct_J36
        simp only [↓ckE, ↓ltE, ↓reduceIte, kR, lR, RK, RN, RP J.1.1.2, Nat.reduceAdd, true_or, true_and, ↓ixT hx6, hcl, d1, e2, bdE, e4, e6]
        rcases q3 with e | e <;> rw [e] <;> simp only [↓swE, sw_n, nAt, iE, ↓reduceIte]
theorem q_act {x y w : Int32} (h : Rel μ ν) : SameR (f_X9_act (XC ad D cA) 1 x y w μ) (f_X10_act (XR ad D cA) 600 x y w ν) := by
  have h0 := h
  obtain ⟨S, R1, R2, R3, ⟨hp, h30⟩, ⟨hC, hR⟩, hg, ho⟩ := h
  have h6 := hp.n6
  have f1 : frC cA' μ (x_sI μ 7 1 0) := frC.sI (by unfold cA'; omega)
  have f2 : frC dA ν (x_sI ν 600 71 0) := frC.sI (by unfold dA; omega)
  have fin : ∀ μ' ν' : x_M, frC cA' μ μ' → frC dA ν ν' → gA μ' ν' → Rel μ' ν' := fun μ' ν' u1 u2 u3 => h0.ot (u1.up (fun o k z => by unfold cA' at z; unfold otC; omega)) (u2.up (fun o k z => by unfold dA at z; unfold otR; omega)) (ho.2.2.2.1.fr (fun o k z => u1.2 o k (by unfold cT at z; unfold cA'; omega)) (fun o k z => u2.2 o k (by unfold dT at z; unfold dA; omega))) u3
  have hr1 : Rel (x_sI μ 7 1 0) (x_sI ν 600 71 0) := fin _ _ f1 f2 ⟨0, by omega, sI_in, sI_in, fun j hj => by omega⟩
  obtain ⟨S', R1', R2', R3', ⟨hp', -⟩, -, -, ho'⟩ := hr1
  have hr1 : Rel (x_sI μ 7 1 0) (x_sI ν 600 71 0) := fin _ _ f1 f2 ⟨0, by omega, sI_in, sI_in, fun j hj => by omega⟩
  have h6' := hp'.n6
  unfold f_X9_act f_X10_act f_X1_perform f_X1_run
  rcases hp.acc (ad := ad) (D := D) (cA := cA) x with ⟨a, ha, rfl, k1, k2⟩ | ⟨hn, k1, k2⟩
  · have hz : (104 + a = 0) = False := eq_false (by omega)
    have k2' : f_X10_isAccount (XR ad D cA) 600 (Int32.ofNat a) (x_sI ν 600 71 0) = some (1, x_sI ν 600 71 0) := by
      have s2 : StR (x_sI ν 600 71 0) S := hp.2.1.fr h6 f2 (fun o k z => by unfold dA at z; unfold usR; omega)
      rw [r_isAcc s2 h6, if_pos ⟨a, ha, rfl⟩]
    by_cases q : (0 : Int32) ≤ y ∧ y ≤ 2
    · obtain ⟨c, -, hc, rfl⟩ := inN 0 2 0 2 rfl rfl (by decide) (by decide) q
      have hB : isB 100 := Or.inl rfl
      have ka := (kBa hB (i := a) (by omega)).1
      obtain ⟨⟨c1, c2, c3⟩, -, -⟩ := hp.1.1.2.2.2.1 a ha
      obtain ⟨⟨d1, d2, d3⟩, -, -⟩ := hp.2.1.2.2.2.2.1 a ha
      have okd := (hp.ok.1.2.1 a ha).1.1
      have ci := hp.1.2.2.1 100 hB a (by omega)
      simp only [Nat.reduceAdd] at ka c1 c2 ci
      have A : Ac μ ν a (S.kd a) (S.v a) := ⟨⟨hp.P, hp.2.1.1⟩, ho.1.1, ⟨by omega, okd⟩, ⟨ci, c1, c2⟩, d1, d2⟩
      have J : Jn a (S.kd a) (S.v a) μ ν (x_sI μ 7 1 0) (x_sI ν 600 71 0) 0 := ⟨A.fr f1 f2, ⟨f1, f2⟩, 0, by omega, sI_in, sI_in, fun j hj => by omega⟩
      have kk : (x_sI μ 7 1 0).1 (104 + a) 3 = Int32.ofNat (S.kd a) := J.1.2.2.2.1.2.1
      have done : ∀ (M : Nat) (o1 o2 : Option (Int32 × x_M)), M ≤ 100 → ActJ ad D cA a (S.kd a) (S.v a) μ ν (x_sI μ 7 1 0) (x_sI ν 600 71 0) 0 M o1 o2 → SameR o1 o2 := by
        intro M o1 o2 hM ⟨r, μ1, ν1, e1, e2, J1⟩
        obtain ⟨-, ⟨g1, g2⟩, n, n1, n2, n3, n4⟩ := J1
        exact ⟨r, μ1, ν1, e1, e2, fin _ _ g1 g2 ⟨n, by omega, n2, n3, n4⟩⟩
      simp only [↓ckE, ↓ltE, ↓reduceIte, kC, CK, CP hp.P, kR, RK, Nat.reduceAdd, k1, k2', hz, c_in, r_in, q, and_self, iE, bdE, bdI, ka, kk]
      have hc' : c = 0 ∨ c = 1 ∨ c = 2 := by omega
      rcases hc' with rfl | rfl | rfl
      · simp only [nAt, ↓reduceIte, bdI]
        exact done 2 _ _ (by omega) (a_keeps (d := 16) (t := 0) J (by omega) (by omega))
      · simp only [nAt, iE, ↓reduceIte, bdI]
        exact done 5 _ _ (by omega) (a_pours (d := 10) (t := 0) J (by omega) (by omega))
      · simp only [nAt, iE, ↓reduceIte, bdI]
        exact done 12 _ _ (by omega) (a_tells (d := 6) (t := 0) J (by omega) (by omega))
    · refine SameR.now (r := 0) hr1 ?_ ?_
      · simp only [↓ckE, ↓ltE, ↓reduceIte, kC, CK, CP hp.P, Nat.reduceAdd, k1, hz, c_in, q, iE, bdE]
      · simp only [↓ckE, ↓ltE, ↓reduceIte, kR, RK, Nat.reduceAdd, k2', r_in, q, iE, bdE]
  · have k2' : f_X10_isAccount (XR ad D cA) 600 x (x_sI ν 600 71 0) = some (0, x_sI ν 600 71 0) := by
      have s2 : StR (x_sI ν 600 71 0) S := hp.2.1.fr h6 f2 (fun o k z => by unfold dA at z; unfold usR; omega)
      rw [r_isAcc s2 h6, if_neg (fun ⟨a, ha, e⟩ => hn a ha e)]
    refine SameR.now (r := 0) hr1 ?_ ?_
    · simp only [↓ckE, ↓ltE, ↓reduceIte, kC, CK, CP hp.P, Nat.reduceAdd, k1, bdE]
    · simp only [↓ckE, ↓ltE, ↓reduceIte, kR, RK, Nat.reduceAdd, k2', bdE]
end ACT3
