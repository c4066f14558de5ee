/-! ===== act: the levels ===== -/
section ACT2
variable {ad : Nat → Nat} {D : va_G} {cA : Nat → ClassId} {μ ν μ0 ν0 : x_M} {a kd v N d t : Nat} {x : Int32}
theorem up_t : up 0 0 = 0 ∧ up 1 0 = 0 ∧ up 3 0 = 0 ∧ up 2 0 = 2 ∧ up 5 0 = 2 ∧ up 4 0 = 4 ∧ up 6 0 = 6 ∧ up 0 1 = 0 ∧ up 2 1 = 0 ∧ up 3 1 = 0 ∧ up 5 1 = 0 ∧ up 1 1 = 1 ∧ up 4 1 = 4 ∧ up 6 1 = 6 ∧ up 0 2 = 0 ∧ up 1 2 = 0 ∧ up 2 2 = 0 ∧ up 4 2 = 0 ∧ up 3 2 = 3 ∧ up 6 2 = 3 ∧ up 5 2 = 5 := by decide +kernel
theorem bd_t : bdA (3 * 0 + 0) = 10 ∧ bdA (3 * 0 + 1) = 11 ∧ bdA (3 * 0 + 2) = 12 ∧ bdA (3 * 1 + 1) = 20 ∧ bdA (3 * 2 + 0) = 30 ∧ bdA (3 * 3 + 2) = 40 ∧ bdA (3 * 4 + 0) = 50 ∧ bdA (3 * 4 + 1) = 51 ∧ bdA (3 * 5 + 2) = 60 ∧ bdA (3 * 6 + 0) = 71 ∧ bdA (3 * 6 + 1) = 70 := by decide +kernel
theorem kA_t : kA 1 = Int32.ofNat 0 ∧ kA 2 = Int32.ofNat 0 ∧ kA 3 = Int32.ofNat 0 ∧ kA 4 = Int32.ofNat 1 ∧ kA 5 = Int32.ofNat 2 ∧ kA 6 = Int32.ofNat 3 := by decide +kernel
theorem bE11 : ¬ (11 : Int32) = 10 := by decide +kernel
theorem bE12 : ¬ (12 : Int32) = 10 ∧ ¬ (12 : Int32) = 11 := by decide +kernel
theorem bE20 : ¬ (20 : Int32) = 10 ∧ ¬ (20 : Int32) = 11 ∧ ¬ (20 : Int32) = 12 := by decide +kernel
theorem bE30 : ¬ (30 : Int32) = 10 ∧ ¬ (30 : Int32) = 11 ∧ ¬ (30 : Int32) = 12 ∧ ¬ (30 : Int32) = 20 := by decide +kernel
theorem bE40 : ¬ (40 : Int32) = 10 ∧ ¬ (40 : Int32) = 11 ∧ ¬ (40 : Int32) = 12 ∧ ¬ (40 : Int32) = 20 ∧ ¬ (40 : Int32) = 30 := by decide +kernel
theorem bE50 : ¬ (50 : Int32) = 10 ∧ ¬ (50 : Int32) = 11 ∧ ¬ (50 : Int32) = 12 ∧ ¬ (50 : Int32) = 20 ∧ ¬ (50 : Int32) = 30 ∧ ¬ (50 : Int32) = 40 := by decide +kernel
theorem bE51 : ¬ (51 : Int32) = 10 ∧ ¬ (51 : Int32) = 11 ∧ ¬ (51 : Int32) = 12 ∧ ¬ (51 : Int32) = 20 ∧ ¬ (51 : Int32) = 30 ∧ ¬ (51 : Int32) = 40 ∧ ¬ (51 : Int32) = 50 := by decide +kernel
theorem bE60 : ¬ (60 : Int32) = 10 ∧ ¬ (60 : Int32) = 11 ∧ ¬ (60 : Int32) = 12 ∧ ¬ (60 : Int32) = 20 ∧ ¬ (60 : Int32) = 30 ∧ ¬ (60 : Int32) = 40 ∧ ¬ (60 : Int32) = 50 ∧ ¬ (60 : Int32) = 51 := by decide +kernel
theorem bE70 : ¬ (70 : Int32) = 10 ∧ ¬ (70 : Int32) = 11 ∧ ¬ (70 : Int32) = 12 ∧ ¬ (70 : Int32) = 20 ∧ ¬ (70 : Int32) = 30 ∧ ¬ (70 : Int32) = 40 ∧ ¬ (70 : Int32) = 50 ∧ ¬ (70 : Int32) = 51 ∧ ¬ (70 : Int32) = 60 := by decide +kernel
theorem bE71 : ¬ (71 : Int32) = 10 ∧ ¬ (71 : Int32) = 11 ∧ ¬ (71 : Int32) = 12 ∧ ¬ (71 : Int32) = 20 ∧ ¬ (71 : Int32) = 30 ∧ ¬ (71 : Int32) = 40 ∧ ¬ (71 : Int32) = 50 ∧ ¬ (71 : Int32) = 51 ∧ ¬ (71 : Int32) = 60 ∧ ¬ (71 : Int32) = 70 := by decide +kernel
theorem bE : (¬ (11 : Int32) = 10) ∧ (¬ (12 : Int32) = 10 ∧ ¬ (12 : Int32) = 11) ∧ (¬ (20 : Int32) = 10 ∧ ¬ (20 : Int32) = 11 ∧ ¬ (20 : Int32) = 12) ∧ (¬ (30 : Int32) = 10 ∧ ¬ (30 : Int32) = 11 ∧ ¬ (30 : Int32) = 12 ∧ ¬ (30 : Int32) = 20) ∧ (¬ (40 : Int32) = 10 ∧ ¬ (40 : Int32) = 11 ∧ ¬ (40 : Int32) = 12 ∧ ¬ (40 : Int32) = 20 ∧ ¬ (40 : Int32) = 30) ∧ (¬ (50 : Int32) = 10 ∧ ¬ (50 : Int32) = 11 ∧ ¬ (50 : Int32) = 12 ∧ ¬ (50 : Int32) = 20 ∧ ¬ (50 : Int32) = 30 ∧ ¬ (50 : Int32) = 40) ∧ (¬ (51 : Int32) = 10 ∧ ¬ (51 : Int32) = 11 ∧ ¬ (51 : Int32) = 12 ∧ ¬ (51 : Int32) = 20 ∧ ¬ (51 : Int32) = 30 ∧ ¬ (51 : Int32) = 40 ∧ ¬ (51 : Int32) = 50) ∧ (¬ (60 : Int32) = 10 ∧ ¬ (60 : Int32) = 11 ∧ ¬ (60 : Int32) = 12 ∧ ¬ (60 : Int32) = 20 ∧ ¬ (60 : Int32) = 30 ∧ ¬ (60 : Int32) = 40 ∧ ¬ (60 : Int32) = 50 ∧ ¬ (60 : Int32) = 51) ∧ (¬ (70 : Int32) = 10 ∧ ¬ (70 : Int32) = 11 ∧ ¬ (70 : Int32) = 12 ∧ ¬ (70 : Int32) = 20 ∧ ¬ (70 : Int32) = 30 ∧ ¬ (70 : Int32) = 40 ∧ ¬ (70 : Int32) = 50 ∧ ¬ (70 : Int32) = 51 ∧ ¬ (70 : Int32) = 60) ∧ (¬ (71 : Int32) = 10 ∧ ¬ (71 : Int32) = 11 ∧ ¬ (71 : Int32) = 12 ∧ ¬ (71 : Int32) = 20 ∧ ¬ (71 : Int32) = 30 ∧ ¬ (71 : Int32) = 40 ∧ ¬ (71 : Int32) = 50 ∧ ¬ (71 : Int32) = 51 ∧ ¬ (71 : Int32) = 60 ∧ ¬ (71 : Int32) = 70) := ⟨bE11, bE12, bE20, bE30, bE40, bE50, bE51, bE60, bE70, bE71⟩
theorem nAt : Int32.ofNat 0 = 0 ∧ Int32.ofNat 1 = 1 ∧ Int32.ofNat 2 = 2 ∧ Int32.ofNat 3 = 3 ∧ Int32.ofNat 4 = 4 ∧ Int32.ofNat 5 = 5 ∧ Int32.ofNat 6 = 6 := ⟨rfl, rfl, rfl, rfl, rfl, rfl, rfl⟩
/-- what a level of the acts says -/
def ActJ (ad : Nat → Nat) (D : va_G) (cA : Nat → ClassId) (a kd v : Nat) (μ0 ν0 μ ν : x_M) (N M : Nat) (o1 o2 : Option (Int32 × x_M)) : Prop := ∃ r μ' ν', o1 = some (r, μ') ∧ o2 = some (r, ν') ∧ Jn a kd v μ0 ν0 μ' ν' M
theorem a_keep0 {k : Nat} (J : Jn a kd v μ0 ν0 μ ν N) (hN : N < 90) (ht : t ≤ 30) (hk : k ≤ 6) (hu : up k 0 = 0) : ActJ ad D cA a kd v μ0 ν0 μ ν N (N + 1) (z_X1_run (XC ad D cA) (d + 2) 0 7 (104 + a) (Int32.ofNat k) 0 x (Int32.ofNat t) μ) (f_X10_accountKeeps (XR ad D cA) 600 (Int32.ofNat a) x ν) := by
  obtain ⟨μ1, ν1, e1, e2, J1⟩ := note_j (ad := ad) (D := D) (cA := cA) (b := 10) J (by omega)
  have ka := (kBa (B := 100) (Or.inl rfl) (i := a) J.1.2.2.1.1).1
  simp only [Nat.reduceAdd] at ka
  have r := runS (ad := ad) (D := D) (cA := cA) (d := d) (p := 104 + a) (k := k) (c := 0) (t := t) (x := x) J.1.2.1 J1.1.2.1 hk (by omega) (by omega) (by rw [hu, bd_t.1]; exact e1)
  rw [hu, bd_t.1] at r
  refine ⟨x + Int32.ofNat a, μ1, ν1, ?_, ?_, J1⟩
  · refine r.trans ?_
    unfold f_X1_runBody_B
    simp only [↓ckE, ↓ltE, ↓swE, ↓reduceIte, kC, CK, Nat.reduceAdd, ka, J1.1.2.2.2.1.1]
  · unfold f_X10_accountKeeps
    simp only [↓ckE, ↓ltE, ↓reduceIte, kR, RK, Nat.reduceAdd, e2, bdE]
/-- keeps, whole: the own kind -/
theorem a_keeps (J : Jn a kd v μ0 ν0 μ ν N) (hN : N < 80) (ht : t ≤ 28) : ActJ ad D cA a kd v μ0 ν0 μ ν N (N + 2) (z_X1_run (XC ad D cA) (d + 4) 0 7 (104 + a) (Int32.ofNat kd) 0 x (Int32.ofNat t) μ) (f_X10_keepsAct (XR ad D cA) 600 (Int32.ofNat a) x ν) := by
  have ka := (kBa (B := 100) (Or.inl rfl) (i := a) J.1.2.2.1.1).1
  simp only [Nat.reduceAdd] at ka
  have ha := J.1.2.2.1.1
  have hx6 : x_ix (Int32.ofNat a) 6 := iN_ix (by omega) (by omega)
  have hcl : (Int32.ofNat a).toNatClampNeg = a := iN_cl (by omega)
  have d1 := J.1.2.2.2.2.1
  have dd : d + 4 = d + 2 + 2 := rfl
  have hkk : kd = 0 ∨ kd = 1 ∨ kd = 3 ∨ kd = 2 ∨ kd = 5 ∨ kd = 4 ∨ kd = 6 := by have := J.1.2.2.1.2; omega
  unfold f_X10_keepsAct
  by_cases q0 : kd = 0 ∨ kd = 1 ∨ kd = 3
  · obtain ⟨r, μ1, ν1, e1, e2, J1⟩ := a_keep0 (ad := ad) (D := D) (cA := cA) (d := d + 2) (t := t) (x := x) J (by omega) (by omega) (k := kd) (by omega) (by rcases q0 with e | e | e <;> rw [e] <;> decide +kernel)
    refine ⟨r, μ1, ν1, e1, ?_, J1.up (by omega)⟩
    simp only [↓ckE, ↓ltE, ↓reduceIte, kR, lR, RK, RN, RP J.1.1.2, Nat.reduceAdd, true_or, true_and, ↓ixT hx6, hcl, d1]
    rcases q0 with e | e | e <;> rw [e] <;> simp only [↓swE, sw_n, nAt, iE, ↓reduceIte, e2, bdE]
  · by_cases q1 : kd = 2 ∨ kd = 5
    · have hu : up kd 0 = 2 := by rcases q1 with e | e <;> rw [e] <;> decide +kernel
      obtain ⟨μ1, ν1, e1, e2, J1⟩ := note_j (ad := ad) (D := D) (cA := cA) (b := 30) J (by omega)
      have r := runS (ad := ad) (D := D) (cA := cA) (d := d + 2) (p := 104 + a) (k := kd) (c := 0) (t := t) (x := x) J.1.2.1 J1.1.2.1 J.1.2.2.1.2 (by omega) (by omega) (by rw [hu]; exact e1)
      rw [hu, show bdA (3 * 2 + 0) = 30 from rfl, show kA 2 = Int32.ofNat 0 from rfl] at r
      obtain ⟨r1, μ2, ν2, e3, e4, J2⟩ := a_keep0 (ad := ad) (D := D) (cA := cA) (d := d) (t := t + 1) (x := x * 3) J1 (by omega) (by omega) (k := 0) (by omega) (by decide +kernel)
      refine ⟨r1, μ2, ν2, ?_, ?_, J2.up (by omega)⟩
      · refine r.trans ?_
        unfold f_X1_runBody_B
        simp only [↓ckE, ↓ltE, ↓swE, ↓reduceIte, kC, CK, Nat.reduceAdd, ka, bE, e3, bdE]
      · simp only [↓ckE, ↓ltE, ↓reduceIte, kR, lR, RK, RN, RP J.1.1.2, Nat.reduceAdd, true_or, true_and, ↓ixT hx6, hcl, d1, e2, bdE, e4]
        rcases q1 with e | e <;> rw [e] <;> simp only [↓swE, sw_n, nAt, iE, ↓reduceIte]
    · by_cases q2 : kd = 4
      · have hu : up kd 0 = 4 := by rw [q2]; decide +kernel
        obtain ⟨μ1, ν1, e1, e2, J1⟩ := note_j (ad := ad) (D := D) (cA := cA) (b := 50) J (by omega)
        have r := runS (ad := ad) (D := D) (cA := cA) (d := d + 2) (p := 104 + a) (k := kd) (c := 0) (t := t) (x := x) J.1.2.1 J1.1.2.1 J.1.2.2.1.2 (by omega) (by omega) (by rw [hu]; exact e1)
        rw [hu, show bdA (3 * 4 + 0) = 50 from rfl, show kA 4 = Int32.ofNat 1 from rfl] at r
        obtain ⟨r1, μ2, ν2, e3, e4, J2⟩ := a_keep0 (ad := ad) (D := D) (cA := cA) (d := d) (t := t + 1) (x := x) J1 (by omega) (by omega) (k := 1) (by omega) (by decide +kernel)
        refine ⟨-r1, μ2, ν2, ?_, ?_, J2.up (by omega)⟩
        · refine r.trans ?_
          unfold f_X1_runBody_B
          simp only [↓ckE, ↓ltE, ↓swE, ↓reduceIte, kC, CK, Nat.reduceAdd, ka, bE, e3, bdE]
        · simp only [↓ckE, ↓ltE, ↓reduceIte, kR, lR, RK, RN, RP J.1.1.2, Nat.reduceAdd, true_or, true_and, ↓ixT hx6, hcl, d1, e2, bdE, e4]
          rw [q2]
          simp only [↓swE, sw_n, nAt, iE, ↓reduceIte]
      · have q3 : kd = 6 := by omega
        have hu : up kd 0 = 6 := by rw [q3]; decide +kernel
        obtain ⟨μ1, ν1, e1, e2, J1⟩ := note_j (ad := ad) (D := D) (cA := cA) (b := 71) J (by omega)
        have r := runS (ad := ad) (D := D) (cA := cA) (d := d + 2) (p := 104 + a) (k := kd) (c := 0) (t := t) (x := x) J.1.2.1 J1.1.2.1 J.1.2.2.1.2 (by omega) (by omega) (by rw [hu]; exact e1)
        rw [hu, show bdA (3 * 6 + 0) = 71 from rfl, show kA 6 = Int32.ofNat 3 from rfl] at r
        obtain ⟨r1, μ2, ν2, e3, e4, J2⟩ := a_keep0 (ad := ad) (D := D) (cA := cA) (d := d) (t := t + 1) (x := x) J1 (by omega) (by omega) (k := 3) (by omega) (by decide +kernel)
        have v1 := J2.1.2.2.2.1.2.2
        have v2 := J2.1.2.2.2.2.2
        refine ⟨r1 ^^^ Int32.ofNat v, μ2, ν2, ?_, ?_, J2.up (by omega)⟩
        · refine r.trans ?_
          unfold f_X1_runBody_B
          simp only [↓ckE, ↓ltE, ↓swE, ↓reduceIte, kC, CK, Nat.reduceAdd, ka, bE, e3, bdE, v1]
        · simp only [↓ckE, ↓ltE, ↓reduceIte, kR, lR, RK, RN, RP J.1.1.2, RP J2.1.1.2, Nat.reduceAdd, true_or, true_and, ↓ixT hx6, hcl, d1, e2, bdE, e4, v2]
          rw [q3]
          simp only [↓swE, sw_n, nAt, iE, ↓reduceIte]
end ACT2
