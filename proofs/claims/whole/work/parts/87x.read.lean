/-! ===== law: in both ===== -/
section QLAW
variable {ad : Nat → Nat} {D : va_G} {cA : Nat → ClassId} {μ ν : x_M}
theorem sR_1 {m : x_M} {o k v : Nat} : (x_sR m o k v).1 = m.1 := by
  show m.1 = m.1
  exact of_eq_true (eq_self _)
/-- the class begins to read -/
def cl0 (μ : x_M) (l : Nat) : x_M := x_sI (x_sI (x_sI (x_sI (x_sI (x_sI μ 3 2 0) l 5 0) l 6 0) l 7 50) l 8 5) l 9 0
theorem c_begins {l F : Nat} (hl : l ∈ lawIds) (hF : F + 1 = 4096) : f_X5_parse (XC ad D cA) 3 l μ = f_X5_parse_J35 (XC ad D cA) (f_X5_parse_L11 (XC ad D cA) F) 3 l (Int32.ofNat 0) (cl0 μ l) := by
  obtain ⟨k0, -⟩ := lawK l hl
  have n1 : ¬ (10 : Int32) ≤ 0 := by decide
  have n2 : (0 : Int32) ≤ 0 := by decide
  have e : f_X5_parse_L11 (XC ad D cA) (F + 1) 3 l 0 (cl0 μ l) = f_X5_parse_J35 (XC ad D cA) (f_X5_parse_L11 (XC ad D cA) F) 3 l (Int32.ofNat 0) (cl0 μ l) := by
    conv => lhs; unfold f_X5_parse_L11
    rw [if_neg n1, if_pos n2]; rfl
  rw [← e]
  unfold f_X5_parse f_X4_clear
  rw [← hF]
  simp only [↓ckE, ↓ltE, ↓reduceIte, kC, CK, k0, Nat.reduceAdd, bdE]
  rfl
theorem c_cs {l L : Nat} {T : Nat → Nat} (hl : 400 ≤ l) : Cs T L l μ (cl0 μ l) 0 [] := by
  unfold cl0
  refine ⟨?_, ⟨frC.rf, ⟨?_, Nat.zero_le _⟩, ⟨?_, True.intro⟩, Nat.le_refl _⟩, ⟨?_, ?_, ?_, ?_⟩, True.intro, ⟨by decide, fun c hc => by cases hc⟩⟩
  · exact (((((frC.sI (by unfold pcL; omega)).tr (frC.sI (by unfold pcL; omega))).tr (frC.sI (by unfold pcL; omega))).tr (frC.sI (by unfold pcL; omega))).tr (frC.sI (by unfold pcL; omega))).tr (frC.sI (by unfold pcL; omega))
  · rw [sI_of (by omega), sI_of (by omega), sI_of (by omega), sI_of (by omega), sI_of (by omega), sI_in]; rfl
  · rw [sI_of (by omega), sI_of (by omega), sI_of (by omega), sI_in]; rfl
  · rw [sI_of (by omega), sI_of (by omega), sI_of (by omega), sI_of (by omega), sI_in]; rfl
  · rw [sI_of (by omega), sI_of (by omega), sI_in]; rfl
  · rw [sI_of (by omega), sI_in]; rfl
  · rw [sI_in]; rfl
theorem q_law (h : Rel μ ν) : SameR (f_X9_law (XC ad D cA) 1 μ) (f_X10_law (XR ad D cA) 600 ν) := by
  have h0 := h
  obtain ⟨S, R1, R2, R3, ⟨hp, h30⟩, -, hg, o1, -, o3, o4, -, -⟩ := h
  obtain ⟨K, k1, k2, k3, -, -, k8⟩ := o3
  obtain ⟨L, l0, l1, l2, l3⟩ := o4
  by_cases q : K = 6
  · have b1 : ¬ ((0 : Int32) ≤ Int32.ofNat K ∧ Int32.ofNat K ≤ 5) := fun z => by
      have := (leN 5 5 rfl (by omega) (by decide)).mp z.2
      omega
    have b2 : Int32.ofNat K = 6 := by rw [q]; rfl
    refine SameR.now (r := -4) h0 ?_ ?_
    · unfold f_X9_law
      simp only [↓ckE, ↓ltE, ↓reduceIte, kC, CK, Nat.reduceAdd, c_in, k2, b1, bdE]
    · unfold f_X10_law
      simp only [↓ckE, ↓ltE, ↓reduceIte, kR, RK, Nat.reduceAdd, k3, b2]
  · have hK : K < 6 := by omega
    obtain ⟨lr, hl⟩ := lawsR K hK
    have b1 : (0 : Int32) ≤ Int32.ofNat K ∧ Int32.ofNat K ≤ 5 := ⟨(geN 0 0 rfl (by decide) (by omega)).mpr (by omega), (leN 5 5 rfl (by omega) (by decide)).mpr (by omega)⟩
    have b2 : ¬ Int32.ofNat K = 6 := fun z => q ((eqN 6 6 rfl (by omega) (by decide)).mp z)
    have hx : x_ix (Int32.ofNat K) 6 := iN_ix (by omega) (by omega)
    have hcl : (Int32.ofNat K).toNatClampNeg = K := iN_cl (by omega)
    obtain ⟨l, hle⟩ : ∃ l, l = 400 + 10 * K := ⟨_, rfl⟩
    rw [← hle] at lr hl
    have pl : μ.2.1 5 K = l := (hp.P 5 K (by omega)).trans lr
    obtain ⟨k0, -⟩ := lawK l hl
    obtain ⟨T, hT⟩ : ∃ T : Nat → Nat, ∀ j, j < L → T j ≤ 127 ∧ μ.1 4 j = Int32.ofNat (T j) ∧ ν.1 617 j = Int32.ofNat (T j) := by
      refine ⟨fun j => (μ.1 4 j).toNatClampNeg, fun j hj => ?_⟩
      obtain ⟨c, c1, c2, c3⟩ := l3 j hj
      have e : (μ.1 4 j).toNatClampNeg = c := by rw [c2]; exact iN_cl (by omega)
      show (μ.1 4 j).toNatClampNeg ≤ 127 ∧ μ.1 4 j = Int32.ofNat (μ.1 4 j).toNatClampNeg ∧ ν.1 617 j = Int32.ofNat (μ.1 4 j).toNatClampNeg
      rw [e]; exact ⟨c1, c2, c3⟩
    obtain ⟨F, hF⟩ : ∃ F, F + 1 = 4096 := ⟨4095, rfl⟩
    have hBs : Bs μ l T L := ⟨⟨⟨hp.P, o1.1⟩, hl, by omega⟩, l0, l1, fun j hj => ⟨(hT j hj).1, (hT j hj).2.1⟩⟩
    have hBr : Br ν T L := ⟨hp.2.1.1, ⟨l0, l2, fun j hj => ⟨(hT j hj).1, (hT j hj).2.2⟩⟩, o1.2.1⟩
    have tc := c_text (ad := ad) (D := D) (cA := cA) hBs 9 0 F 0 [] (cl0 μ l) rfl (by omega) (by omega) (c_cs (by omega))
    have ep := c_begins (ad := ad) (D := D) (cA := cA) (μ := μ) hl hF
    rw [← ep] at tc
    -- the reference begins
    obtain ⟨ν4, hν4⟩ : ∃ m : x_M, m = x_sI (x_sI ν 600 14 0) 600 24 (Int32.ofNat (100 * K)) := ⟨_, rfl⟩
    have e100 : (100 : Int32) * Int32.ofNat K = Int32.ofNat (100 * K) := iN_mul (a := 100)
    have eg : f_X10_goesText (XR ad D cA) 600 (Int32.ofNat K) ν = f_X10_goesText_L15 (XR ad D cA) (F + 1) 600 (Int32.ofNat K) (Int32.ofNat 0) ν4 := by
      unfold f_X10_goesText
      rw [← hF]
      simp only [↓ckE, ↓ltE, ↓reduceIte, kR, RK, Nat.reduceAdd, e100, ← hν4]
      rfl
    have rs : Rs T L K ν ν4 0 [] := by
      rw [hν4]
      refine ⟨(frC.sI (by unfold pcG; omega)).tr (frC.sI (by unfold pcG; omega)), ⟨?_, Nat.zero_le _⟩, ⟨sI_in, True.intro, Nat.le_refl _⟩, True.intro⟩
      rw [sI_of (by omega), sI_in]; rfl
    have tr := r_text (ad := ad) (D := D) (cA := cA) hBr hK 9 0 (F + 1) 0 [] ν4 rfl (by omega) (by omega) rs
    rw [← eg] at tr
    -- frames
    have fC : ∀ {m : x_M}, frC (pcL l) μ m → frC (rdC K) μ (x_sI m 3 1 0) := fun {m} z => (z.up (fun o k w => by unfold pcL at w; unfold rdC; omega)).tr (frC.sI (by unfold rdC; omega))
    have fR : ∀ {m : x_M}, frC (pcG K) ν m → frC (rdR K) ν (x_sI m 600 13 0) := fun {m} z => (z.up (fun o k w => Or.inl w)).tr (frC.sI (Or.inr ⟨rfl, rfl⟩))
    have bk : ∀ {m : x_M}, frC (rdC K) μ m → m.2 = μ.2 := fun {m} z => z.1
    have e1K : Int32.ofNat (K + 1) - (1 : Int32) = Int32.ofNat K := by rw [show (1 : Int32) = Int32.ofNat 1 from rfl, iN_sub (by omega)]; rfl
    rcases tc with ⟨A, μ5, ea, e5, hcs⟩ | ⟨μ5, ea, e5, f5, hq⟩
    · rcases tr with ⟨A', ν5, ea', e6, hrs, e618⟩ | ⟨ν5, ea', -, -, -⟩
      · have eA : A' = A := Option.some.inj (ea'.symm.trans ea)
        rw [eA, List.nil_append] at hrs e618
        rw [List.nil_append] at hcs
        have f6 := fC hcs.1
        have g6 := fR hrs.1
        have h6 := h0.rd k2 hK f6 g6 sI_in sI_in
        have hl5 : LawC μ5 l A := ⟨hl, hcs.2.2.2.2, hcs.2.2.1, ClC_of hcs.2.2.2.1 hcs.2.1.2.2.1.2 (by have := hcs.2.1.2.2.2; have := hcs.2.1.2.1.2; omega)⟩
        have tl : (tkA A).length ≤ 100 := by
          have := hrs.2.2.1.2.2
          have := hrs.2.1.2
          omega
        have hr5 : LawAtR ν5 K A := ⟨e618, ClR_of hrs.2.2.2 hrs.2.2.1.2.1 (by omega)⟩
        have hs5 := RW_sg hrs.2.2.2 hl5.2.1.2
        obtain ⟨μ6, hμ6⟩ : ∃ m : x_M, m = x_sI μ5 3 1 0 := ⟨_, rfl⟩
        obtain ⟨ν6, hν6⟩ : ∃ m : x_M, m = x_sI ν5 600 13 0 := ⟨_, rfl⟩
        rw [← hμ6, ← hν6] at h6
        rw [← hμ6] at f6
        have r6 : μ6.2 = μ.2 := f6.1
        have c6 : μ6.1 1 8 = Int32.ofNat K := by rw [f6.2 1 8 (by unfold rdC; omega)]; exact k2
        have d6 : ν6.1 600 11 = Int32.ofNat K := by rw [hν6, sI_of (by omega), hrs.1.2 600 11 (by unfold pcG; omega)]; exact k3
        have hl6 : LawC μ6 l A := hl5.congr (fun o p1 p2 => funext (fun j => by rw [hμ6, sI_of (by omega)]))
        have di : ∀ o j, 618 ≤ o → ν6.1 o j = ν5.1 o j := fun o j p => by rw [hν6, sI_of (by omega)]
        have hr6 : LawAtR ν6 K A := ⟨by rw [di _ _ (by omega)]; exact e618, hr5.2.congr (fun o p1 p2 => funext (fun j => di o j (by omega)))⟩
        have hs6 : ∀ c, 10 * K ≤ c → c < 10 * K + A.length → (ν6.1 619 c = 0 ∨ ν6.1 619 c = 1) → ∃ o e, ν6.1 621 c = Int32.ofNat o ∧ ν6.1 622 c = Int32.ofNat e ∧ 100 * K ≤ o ∧ o ≤ e ∧ e ≤ 100 * K + 100 := fun c p1 p2 p3 => by
          rw [di 619 c (by omega)] at p3
          rw [di 621 c (by omega), di 622 c (by omega)]
          obtain ⟨o, e, q1, q2, q3, q4, q5⟩ := hs5 c p1 p2 p3
          exact ⟨o, e, q1, q2, q3, q4, by omega⟩
        have h7 := h6.nlaw c6 hK (by rw [← hle]; exact hl6) hr6 hs6
        rw [← hle] at h7
        have c7 : (x_sI (x_sR μ6 100 5 l) 1 8 (Int32.ofNat (K + 1))).1 1 8 = Int32.ofNat (K + 1) := sI_in
        have d7 : (x_sI ν6 600 12 (Int32.ofNat K)).1 600 11 = Int32.ofNat K := by rw [sI_of (by omega)]; exact d6
        have d8 : (x_sI (x_sI ν6 600 12 (Int32.ofNat K)) 600 11 (Int32.ofNat (K + 1))).1 600 12 = Int32.ofNat K := by rw [sI_of (by omega)]; exact sI_in
        refine ⟨Int32.ofNat K, _, _, ?_, ?_, h7⟩
        · have r5 : μ5.2 = μ.2 := hcs.1.1
          unfold f_X9_law f_X5_clear
          simp only [↓ckE, ↓ltE, ↓reduceIte, kC, lC, CK, CN, CP hp.P, k0, Nat.reduceAdd, c_in, k2, b1, and_self, bdE, iE, true_or, or_true, true_and, ↓ixT hx, hcl, pl, e5, r5, ← hμ6, r6, sR_1, c6, iN_s, c7, e1K]
        · unfold f_X10_law
          simp only [↓ckE, ↓ltE, ↓reduceIte, kR, RK, Nat.reduceAdd, k3, b2, e6, bdE, iE, ← hν6, d6, d7, iN_s, d8]
      · rw [ea] at ea'; cases ea'
    · rcases tr with ⟨A', ν5, ea', -, -, -⟩ | ⟨ν5, ea', e6, g5, e14⟩
      · rw [ea] at ea'; cases ea'
      · have h6 := h0.rd k2 hK (fC f5) (fR g5) sI_in sI_in
        have n5 : ¬ Int32.ofNat (lawS T L (9 + 1) 0).1 = -5 := fun z => by
          have n : ¬ Int32.ofNat (lawS T L (9 + 1) 0).1 < 0 := iN_neg (by omega)
          rw [z] at n
          exact absurd (by decide) n
        have e14' : (x_sI ν5 600 13 0).1 600 14 = Int32.ofNat (lawS T L (9 + 1) 0).1 := by rw [sI_of (by omega)]; exact e14
        refine ⟨(-10 : Int32) - Int32.ofNat (lawS T L (9 + 1) 0).1, _, _, ?_, ?_, h6⟩
        · have r5 : μ5.2 = μ.2 := f5.1
          unfold f_X9_law f_X5_clear
          simp only [↓ckE, ↓ltE, ↓reduceIte, kC, lC, CK, CN, CP hp.P, k0, Nat.reduceAdd, c_in, k2, b1, and_self, bdE, iE, true_or, or_true, true_and, ↓ixT hx, hcl, pl, e5, r5, n5]
        · unfold f_X10_law
          simp only [↓ckE, ↓ltE, ↓reduceIte, kR, RK, Nat.reduceAdd, k3, b2, e6, bdE, e14']
end QLAW
