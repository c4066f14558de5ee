/-! ===== law: the reference reads the text ===== -/
def GR (T : Nat → Nat) (Ln K : Nat) (ν0 : x_M) (A : LawA) (r : Nat × Option LawA) (o : Option (Int32 × x_M)) : Prop := (∃ A' ν', r.2 = some A' ∧ o = some (1, ν') ∧ Rs T Ln K ν0 ν' r.1 (A ++ A') ∧ ν'.1 618 K = Int32.ofNat (A ++ A').length) ∨ ∃ ν', r.2 = none ∧ o = some (0, ν') ∧ frC (pcG K) ν0 ν' ∧ ν'.1 600 14 = Int32.ofNat r.1
section TXR
variable {ad : Nat → Nat} {D : va_G} {cA : Nat → ClassId} {ν ν0 : x_M} {T : Nat → Nat} {Ln p K : Nat} {A : LawA}
theorem Rs.w618 {v : Int32} (h : Rs T Ln K ν0 ν p A) : Rs T Ln K ν0 (x_sI ν 618 K v) p A := by
  obtain ⟨f0, ⟨h14, hp⟩, ⟨h24, h623, htk⟩, hW⟩ := h
  refine ⟨f0.tr (frC.sI (by unfold pcG; omega)), ⟨?_, hp⟩, ⟨?_, SegI_cg (fun j _ _ => sI_of (by omega)) h623, htk⟩, RW_cg (fun i j p1 _ _ _ => sI_of (by omega)) hW⟩
  · rw [sI_of (by omega)]; exact h14
  · rw [sI_of (by omega)]; exact h24
theorem Rs.w14 {q : Nat} (h : Rs T Ln K ν0 ν p A) (hq : q ≤ Ln) (hpq : p ≤ q) : Rs T Ln K ν0 (x_sI ν 600 14 (Int32.ofNat q)) q A := by
  obtain ⟨f0, ⟨h14, hp⟩, ⟨h24, h623, htk⟩, hW⟩ := h
  refine ⟨f0.tr (frC.sI (by unfold pcG; omega)), ⟨sI_in, hq⟩, ⟨?_, SegI_cg (fun j _ _ => sI_of (by omega)) h623, by omega⟩, RW_cg (fun i j p1 _ _ _ => sI_of (by omega)) hW⟩
  rw [sI_of (by omega)]; exact h24
theorem r_text (hB : Br ν0 T Ln) (hK : K < 6) : ∀ (m i F p : Nat) (A : LawA) (ν : x_M), A.length = i → i + (m + 1) = 10 → m < F → Rs T Ln K ν0 ν p A → GR T Ln K ν0 A (lawS T Ln (m + 1) p) (f_X10_goesText_L15 (XR ad D cA) F 600 (Int32.ofNat K) (Int32.ofNat i) ν) := by
  intro m
  induction m with
  | zero =>
    intro i F p A ν hi him hF h
    obtain ⟨F, rfl⟩ : ∃ n, F = n + 1 := ⟨F - 1, by omega⟩
    have e0 : (10 : Int32) * Int32.ofNat K + Int32.ofNat i = Int32.ofNat (10 * K + A.length) := by rw [show (10 : Int32) = Int32.ofNat 10 from rfl, iN_mul, iN_add, hi]
    have hx : x_ix (Int32.ofNat K) 6 := iN_ix (by omega) (by omega)
    have hcl : (Int32.ofNat K).toNatClampNeg = K := iN_cl (by omega)
    have hL : Ln ≤ 100 := hB.2.1.1
    unfold lawS
    rcases r_clause (ad := ad) (D := D) (cA := cA) h hB hK (by omega) with ⟨c, ν1, ec, e1, h1⟩ | ⟨ν1, ec, e1, f1, e14⟩
    · rw [ec]
      simp only []
      have bP1 := (hB.g h1.1).1
      obtain ⟨ν2, hν2⟩ : ∃ ν2 : x_M, ν2 = x_sI ν1 618 K (Int32.ofNat (i + 1)) := ⟨_, rfl⟩
      have h2 : Rs T Ln K ν0 ν2 (clS T Ln p).1 (A ++ [c]) := by rw [hν2]; exact h1.w618
      have e13 := (hB.g h2.1).2.1.2.1
      have e14 := h2.2.1.1
      have lq := h2.2.1.2
      have n10 : Int32.ofNat (i + 1) = 10 := (eqN 10 10 rfl (by omega) (by decide)).mpr (by omega)
      by_cases q : (clS T Ln p).1 < Ln
      · rw [if_pos q]
        simp only [↓reduceIte]
        have nq : ¬ Int32.ofNat (clS T Ln p).1 = Int32.ofNat Ln := fun z => by have := (iN_inj (by omega) (by omega)).mp z; omega
        refine Or.inr ⟨ν2, rfl, ?_, h2.1, e14⟩
        conv => lhs; unfold f_X10_goesText_L15
        simp only [↓ckE, ↓ltE, ↓reduceIte, kR, lR, RK, RN, RP bP1, Nat.reduceAdd, e0, e1, bdE, iE, true_or, true_and, ↓ixT hx, hcl, iN_s, ← hν2, e13, e14, nq]
        rw [if_pos n10]
      · rw [if_neg q]
        have eq : Int32.ofNat (clS T Ln p).1 = Int32.ofNat Ln := congrArg Int32.ofNat (by omega)
        refine Or.inl ⟨[c], ν2, rfl, ?_, h2, ?_⟩
        · conv => lhs; unfold f_X10_goesText_L15
          simp only [↓ckE, ↓ltE, ↓reduceIte, kR, lR, RK, RN, RP bP1, Nat.reduceAdd, e0, e1, bdE, iE, true_or, true_and, ↓ixT hx, hcl, iN_s, ← hν2, e13, e14, eq, or_true]
        · rw [hν2, sI_in, List.length_append, hi]; rfl
    · rw [ec]
      simp only []
      refine Or.inr ⟨ν1, rfl, ?_, f1, e14⟩
      conv => lhs; unfold f_X10_goesText_L15
      simp only [↓ckE, ↓ltE, ↓reduceIte, kR, RK, Nat.reduceAdd, e0, e1, bdE, true_or]
  | succ m ih =>
    intro i F p A ν hi him hF h
    obtain ⟨F, rfl⟩ : ∃ n, F = n + 1 := ⟨F - 1, by omega⟩
    have e0 : (10 : Int32) * Int32.ofNat K + Int32.ofNat i = Int32.ofNat (10 * K + A.length) := by rw [show (10 : Int32) = Int32.ofNat 10 from rfl, iN_mul, iN_add, hi]
    have hx : x_ix (Int32.ofNat K) 6 := iN_ix (by omega) (by omega)
    have hcl : (Int32.ofNat K).toNatClampNeg = K := iN_cl (by omega)
    have hL : Ln ≤ 100 := hB.2.1.1
    unfold lawS
    rcases r_clause (ad := ad) (D := D) (cA := cA) h hB hK (by omega) with ⟨c, ν1, ec, e1, h1⟩ | ⟨ν1, ec, e1, f1, e14⟩
    · rw [ec]
      simp only []
      have bP1 := (hB.g h1.1).1
      obtain ⟨ν2, hν2⟩ : ∃ ν2 : x_M, ν2 = x_sI ν1 618 K (Int32.ofNat (i + 1)) := ⟨_, rfl⟩
      have h2 : Rs T Ln K ν0 ν2 (clS T Ln p).1 (A ++ [c]) := by rw [hν2]; exact h1.w618
      have hB2 := hB.g h2.1
      have e13 := hB2.2.1.2.1
      have e14 := h2.2.1.1
      have lq := h2.2.1.2
      have n10 : ¬ Int32.ofNat (i + 1) = 10 := fun z => by have := (eqN 10 10 rfl (by omega) (by decide)).mp z; omega
      have H2 : Hq T Ln ν2 ν2 (clS T Ln p).1 := ⟨frC.rf, h2.2.1, trivial⟩
      by_cases q : (clS T Ln p).1 < Ln
      · rw [if_pos q, if_neg (by omega)]
        have nq : ¬ Int32.ofNat (clS T Ln p).1 = Int32.ofNat Ln := fun z => by have := (iN_inj (by omega) (by omega)).mp z; omega
        by_cases q2 : tx T Ln (clS T Ln p).1 = 59
        · rw [if_pos q2]
          obtain ⟨e3, -⟩ := h_takes1 (ad := ad) (D := D) (cA := cA) H2 hB2 (by omega) q2
          have e3' : f_X10_takes (XR ad D cA) 600 59 ν2 = _ := e3
          have h3 := h2.w14 (q := (clS T Ln p).1 + 1) (by omega) (by omega)
          have e4 : f_X10_goesText_L15 (XR ad D cA) (F + 1) 600 (Int32.ofNat K) (Int32.ofNat i) ν = f_X10_goesText_L15 (XR ad D cA) F 600 (Int32.ofNat K) (Int32.ofNat (i + 1)) (x_sI ν2 600 14 (Int32.ofNat ((clS T Ln p).1 + 1))) := by
            conv => lhs; unfold f_X10_goesText_L15
            simp only [↓ckE, ↓ltE, ↓reduceIte, kR, lR, RK, RN, RP bP1, Nat.reduceAdd, e0, e1, bdE, iE, true_or, true_and, ↓ixT hx, hcl, iN_s, ← hν2, e13, e14, nq, n10, e3']
          rw [e4]
          rcases ih (i + 1) F _ _ _ (by rw [List.length_append, hi]; rfl) (by omega) (by omega) h3 with ⟨A', ν4, ea, e5, h5, e6⟩ | ⟨ν4, ea, e5, f5, e6⟩
          · rw [ea]
            simp only []
            have eA : A ++ c :: A' = A ++ [c] ++ A' := by simp
            exact Or.inl ⟨c :: A', ν4, rfl, e5, by rw [eA]; exact h5, by rw [eA]; exact e6⟩
          · rw [ea]
            simp only []
            exact Or.inr ⟨ν4, rfl, e5, f5, e6⟩
        · rw [if_neg q2]
          have e3' : f_X10_takes (XR ad D cA) 600 59 ν2 = _ := h_takes0 (ad := ad) (D := D) (cA := cA) H2 hB2 (c := 59) (by omega) q2
          refine Or.inr ⟨ν2, rfl, ?_, h2.1, e14⟩
          conv => lhs; unfold f_X10_goesText_L15
          simp only [↓ckE, ↓ltE, ↓reduceIte, kR, lR, RK, RN, RP bP1, Nat.reduceAdd, e0, e1, bdE, iE, true_or, true_and, ↓ixT hx, hcl, iN_s, ← hν2, e13, e14, nq, n10, e3']
      · rw [if_neg q]
        have eq : Int32.ofNat (clS T Ln p).1 = Int32.ofNat Ln := congrArg Int32.ofNat (by omega)
        refine Or.inl ⟨[c], ν2, rfl, ?_, h2, ?_⟩
        · conv => lhs; unfold f_X10_goesText_L15
          simp only [↓ckE, ↓ltE, ↓reduceIte, kR, lR, RK, RN, RP bP1, Nat.reduceAdd, e0, e1, bdE, iE, true_or, true_and, ↓ixT hx, hcl, iN_s, ← hν2, e13, e14, eq, or_true]
        · rw [hν2, sI_in, List.length_append, hi]; rfl
    · rw [ec]
      simp only []
      refine Or.inr ⟨ν1, rfl, ?_, f1, e14⟩
      conv => lhs; unfold f_X10_goesText_L15
      simp only [↓ckE, ↓ltE, ↓reduceIte, kR, RK, Nat.reduceAdd, e0, e1, bdE, true_or]
end TXR
