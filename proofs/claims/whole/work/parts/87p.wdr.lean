/-! ===== law: the reference reads words (no pile yet) ===== -/
def hcR (o k : Nat) : Prop := o = 600 ∧ (14 ≤ k ∧ k ≤ 15)
def Hq (T : Nat → Nat) (Ln : Nat) (ν0 ν : x_M) (p : Nat) : Prop := frC hcR ν0 ν ∧ (ν.1 600 14 = Int32.ofNat p ∧ p ≤ Ln) ∧ True
section HRD
variable {ad : Nat → Nat} {D : va_G} {cA : Nat → ClassId} {ν ν0 : x_M} {T : Nat → Nat} {Ln p : Nat}
theorem Hq.B (h : Hq T Ln ν0 ν p) (hB : Br ν0 T Ln) : Pr ν ∧ ν.1 600 13 = Int32.ofNat Ln ∧ (∀ j, j < Ln → T j ≤ 127 ∧ ν.1 617 j = Int32.ofNat (T j)) ∧ ∀ k, ν.1 628 k = cV 628 k := by
  obtain ⟨b1, ⟨b2, b3, b4⟩, b5⟩ := hB
  have f := h.1
  refine ⟨f.Pr b1, ?_, fun j hj => ⟨(b4 j hj).1, ?_⟩, fun k => ?_⟩
  · rw [f.2 _ _ (by unfold hcR; omega)]; exact b3
  · rw [f.2 _ _ (by unfold hcR; omega)]; exact (b4 j hj).2
  · rw [f.2 _ _ (by unfold hcR; omega)]; exact b5 k
theorem Hq.adv (h : Hq T Ln ν0 ν p) {q : Nat} (hq : q ≤ Ln) (_hpq : p ≤ q) : Hq T Ln ν0 (x_sI ν 600 14 (Int32.ofNat q)) q := ⟨h.1.tr (frC.sI ⟨rfl, by omega⟩), ⟨sI_in, hq⟩, trivial⟩
theorem Hq.n15 (h : Hq T Ln ν0 ν p) {v : Int32} : Hq T Ln ν0 (x_sI ν 600 15 v) p := ⟨h.1.tr (frC.sI ⟨rfl, by omega⟩), ⟨by rw [sI_of (by omega)]; exact h.2.1.1, h.2.1.2⟩, trivial⟩
theorem h_next (h : Hq T Ln ν0 ν p) (hB : Br ν0 T Ln) : f_X10_next (XR ad D cA) 600 ν = some (nx T Ln p, ν) := by
  obtain ⟨bP, b3, b4, b5⟩ := h.B hB
  have h14 := h.2.1.1
  have hp := h.2.1.2
  have hL : Ln ≤ 100 := hB.2.1.1
  unfold f_X10_next nx
  by_cases q : p < Ln
  · have n2 : ¬ Int32.ofNat Ln ≤ Int32.ofNat p := fun z => by have := (iN_le (by omega) (by omega)).mp z; omega
    have hx : x_ix (Int32.ofNat p) 100 := iN_ix (by omega) (by omega)
    have hcl : (Int32.ofNat p).toNatClampNeg = p := iN_cl (by omega)
    rw [if_pos q]
    simp only [↓ckE, ↓ltE, ↓reduceIte, kR, lR, RK, RN, RP bP, Nat.reduceAdd, b3, h14, n2, true_or, true_and, ↓ixT hx, hcl, (b4 p q).2]
  · have n2 : Int32.ofNat Ln ≤ Int32.ofNat p := (iN_le (by omega) (by omega)).mpr (by omega)
    rw [if_neg q]
    simp only [↓ckE, ↓reduceIte, kR, RK, Nat.reduceAdd, b3, h14, n2]
theorem h_takes1 {c : Nat} (h : Hq T Ln ν0 ν p) (hB : Br ν0 T Ln) (hc : c ≤ 127) (ht : tx T Ln p = c) : f_X10_takes (XR ad D cA) 600 (Int32.ofNat c) ν = some (1, x_sI ν 600 14 (Int32.ofNat (p + 1))) ∧ Hq T Ln ν0 (x_sI ν 600 14 (Int32.ofNat (p + 1))) (p + 1) := by
  have e := h_next (ad := ad) (D := D) (cA := cA) h hB
  rw [(nx_eq (fun j hj => (hB.2.1.2.2 j hj).1) hc).mpr ht] at e
  refine ⟨?_, h.adv (tx_le ht hc) (by omega)⟩
  unfold f_X10_takes
  simp only [↓ckE, ↓ltE, ↓reduceIte, kR, RK, Nat.reduceAdd, e, bdE, h.2.1.1, iN_s, or_true]
theorem h_takes0 {c : Nat} (h : Hq T Ln ν0 ν p) (hB : Br ν0 T Ln) (hc : c ≤ 127) (ht : ¬ tx T Ln p = c) : f_X10_takes (XR ad D cA) 600 (Int32.ofNat c) ν = some (0, ν) := by
  have e := h_next (ad := ad) (D := D) (cA := cA) h hB
  have n : ¬ nx T Ln p = Int32.ofNat c := fun z => ht ((nx_eq (p := p) (fun j hj => (hB.2.1.2.2 j hj).1) hc).mp z)
  unfold f_X10_takes
  simp only [↓ckE, ↓ltE, ↓reduceIte, kR, RK, Nat.reduceAdd, e, bdE, n, true_or]
theorem h_dig (h : Hq T Ln ν0 ν p) (hB : Br ν0 T Ln) : f_X10_isDigit (XR ad D cA) 600 ν = some (if dg T Ln p then 1 else 0, ν) := by
  have e := h_next (ad := ad) (D := D) (cA := cA) h hB
  have g := nx_rng (T := T) (Ln := Ln) (p := p) (a := 48) (b := 57) (fun j hj => (hB.2.1.2.2 j hj).1) (by omega)
  have g' : ((48 : Int32) ≤ nx T Ln p ∧ nx T Ln p ≤ 57) ↔ dg T Ln p := ⟨fun z => (g.mp ⟨z, by omega⟩).1, fun z => (g.mpr ⟨z, by omega⟩).1⟩
  unfold f_X10_isDigit
  simp only [↓ckE, ↓reduceIte, kR, RK, Nat.reduceAdd, e, bdE, r_in]
  by_cases z : dg T Ln p
  · rw [if_pos (g'.mpr z), if_pos z, if_pos (Or.inr rfl)]
  · rw [if_neg (fun y => z (g'.mp y)), if_neg z, if_pos (Or.inl rfl)]
theorem h_nst {F i : Nat} {w : Int} (h : Hq T Ln ν0 ν p) (hB : Br ν0 T Ln) (hi : i < 2) (hw : 0 ≤ w ∧ w ≤ 9) (e15 : ν.1 600 15 = Int32.ofInt w) : f_X10_takesNumber_L16 (XR ad D cA) (F + 1) 600 (Int32.ofNat i) ν = if dg T Ln p then f_X10_takesNumber_L16 (XR ad D cA) F 600 (Int32.ofNat (i + 1)) (x_sI (x_sI ν 600 15 (Int32.ofInt (w * 10 + ((tx T Ln p : Int) - 48)))) 600 14 (Int32.ofNat (p + 1))) else some (1, ν) := by
  have n1 : ¬ (2 : Int32) ≤ Int32.ofNat i := fun z => by have := (geN 2 2 rfl (by decide) (by omega)).mp z; omega
  have ed := h_dig (ad := ad) (D := D) (cA := cA) h hB
  have en := h_next (ad := ad) (D := D) (cA := cA) h hB
  have e14 : ∀ v, (x_sI ν 600 15 v).1 600 14 = Int32.ofNat p := fun v => by rw [sI_of (by omega)]; exact h.2.1.1
  generalize hR : f_X10_takesNumber_L16 (XR ad D cA) F 600 (Int32.ofNat (i + 1)) (x_sI (x_sI ν 600 15 (Int32.ofInt (w * 10 + ((tx T Ln p : Int) - 48)))) 600 14 (Int32.ofNat (p + 1))) = R
  unfold f_X10_takesNumber_L16
  by_cases z : dg T Ln p
  · have q := dg_lt z
    have ex : tx T Ln p = T p := by unfold tx; rw [if_pos q]
    have en' : nx T Ln p = Int32.ofNat (T p) := if_pos q
    rw [if_pos z] at ed ⊢
    have ev : (10 : Int32) * Int32.ofInt w + Int32.ofNat (T p) - (48 : Int32) = Int32.ofInt (w * 10 + ((tx T Ln p : Int) - 48)) := by
      rw [ex, iN_I, show (10 : Int32) = Int32.ofInt 10 from rfl, show (48 : Int32) = Int32.ofInt 48 from rfl, ← Int32.ofInt_mul, ← Int32.ofInt_add, ← Int32.ofInt_sub]
      exact congrArg Int32.ofInt (by omega)
    simp only [↓ckE, ↓ltE, ↓reduceIte, kR, RK, Nat.reduceAdd, n1, ed, bdE, iE, en, en', e15, ev, e14, iN_s, hR]
  · rw [if_neg z] at ed ⊢
    simp only [↓ckE, ↓ltE, ↓reduceIte, kR, RK, Nat.reduceAdd, n1, ed, bdE, or_true]
theorem h_num (h : Hq T Ln ν0 ν p) (hB : Br ν0 T Ln) : ((numS T Ln p).1 < 0 ∧ f_X10_takesNumber (XR ad D cA) 600 ν = some (0, ν)) ∨ (0 ≤ (numS T Ln p).1 ∧ ∃ ν', f_X10_takesNumber (XR ad D cA) 600 ν = some (1, ν') ∧ Hq T Ln ν0 ν' (numS T Ln p).2 ∧ ν'.1 600 15 = Int32.ofInt (numS T Ln p).1) := by
  have hb := numS_b (T := T) (Ln := Ln) (p := p) h.2.1.2
  have ed := h_dig (ad := ad) (D := D) (cA := cA) h hB
  have s1 : ∀ F, F + 3 = 4096 → ∀ m, f_X10_takesNumber_L16 (XR ad D cA) 4096 600 0 m = f_X10_takesNumber_L16 (XR ad D cA) (F + 1 + 1 + 1) 600 (Int32.ofNat 0) m := fun F e m => by rw [← e]; rfl
  unfold f_X10_takesNumber
  by_cases q : dg T Ln p
  · have hq := q
    have q1 := q.1
    have q2' := q.2
    have lp := dg_lt q
    have eS : numS T Ln p = (if dg T Ln (p + 1) then (((tx T Ln p : Int) - 48) * 10 + ((tx T Ln (p + 1) : Int) - 48), p + 2) else ((tx T Ln p : Int) - 48, p + 1)) := if_pos q
    rw [if_pos q] at ed
    have h1 : Hq T Ln ν0 (x_sI ν 600 15 0) p := h.n15
    have g0 : (x_sI ν 600 15 0).1 600 15 = Int32.ofInt 0 := sI_in
    have h2 : Hq T Ln ν0 (x_sI (x_sI (x_sI ν 600 15 0) 600 15 (Int32.ofInt (0 * 10 + ((tx T Ln p : Int) - 48)))) 600 14 (Int32.ofNat (p + 1))) (p + 1) := (h1.n15).adv (by omega) (by omega)
    have g2 : (x_sI (x_sI (x_sI ν 600 15 0) 600 15 (Int32.ofInt (0 * 10 + ((tx T Ln p : Int) - 48)))) 600 14 (Int32.ofNat (p + 1))).1 600 15 = Int32.ofInt (0 * 10 + ((tx T Ln p : Int) - 48)) := by rw [sI_of (by omega)]; exact sI_in
    refine Or.inr ?_
    simp only [↓ckE, ↓ltE, ↓reduceIte, kR, RK, Nat.reduceAdd, ed, bdE, iE]
    rw [s1 4093 rfl, h_nst h1 hB (by omega) (by omega) g0, if_pos q, h_nst h2 hB (by omega) (by omega) g2]
    generalize 4093 = F
    by_cases q3 : dg T Ln (p + 1)
    · have lp2 := dg_lt q3
      rw [if_pos q3] at eS
      rw [eS] at hb ⊢
      rw [if_pos q3]
      have q31 := q3.1
      have eL : ∀ m, f_X10_takesNumber_L16 (XR ad D cA) (F + 1) 600 (Int32.ofNat (0 + 1 + 1)) m = some (1, m) := fun m => by
        unfold f_X10_takesNumber_L16
        rw [if_pos (by decide), ck_t (Or.inr rfl)]
      rw [eL]
      refine ⟨by simp only []; omega, _, rfl, (h2.n15).adv (by omega) (by omega), ?_⟩
      rw [sI_of (by omega), sI_in]
      exact congrArg Int32.ofInt (by simp only []; omega)
    · rw [if_neg q3] at eS
      rw [eS, if_neg q3]
      refine ⟨by simp only []; omega, _, rfl, h2, ?_⟩
      rw [g2]
      exact congrArg Int32.ofInt (by simp only []; omega)
  · have eS : numS T Ln p = (-1, p) := if_neg q
    rw [if_neg q] at ed
    refine Or.inl ⟨by rw [eS]; show (-1 : Int) < 0; decide, ?_⟩
    simp only [↓ckE, ↓ltE, ↓reduceIte, kR, RK, Nat.reduceAdd, ed, bdE, true_or]
def off (s : Nat) : Nat := ([0, 6, 9, 13, 18] : List Nat).getD s 0
theorem cV628 : ∀ s, s < 5 → off s + (strs (811 + s)).length ≤ 22 ∧ ∀ j, j < (strs (811 + s)).length → cV 628 (off s + j) = Int32.ofNat ((strs (811 + s)).getD j 0) := by decide +kernel
theorem h_wordL {s : Nat} (hB : Br ν0 T Ln) (hs : s < 5) : ∀ (m j F : Nat) (ν : x_M), j + m = (strs (811 + s)).length → m < F → Hq T Ln ν0 ν (p + j) → ∃ ν', f_X10_takesWord_L2 (XR ad D cA) F 600 (Int32.ofNat (off s)) (Int32.ofNat (strs (811 + s)).length) (Int32.ofNat j) ν = some (if mtc T Ln (p + j) ((strs (811 + s)).drop j) = m ∧ tx T Ln (p + j + m) = 32 then 1 else 0, ν') ∧ Hq T Ln ν0 ν' (if mtc T Ln (p + j) ((strs (811 + s)).drop j) = m ∧ tx T Ln (p + j + m) = 32 then p + j + m + 1 else p + j + mtc T Ln (p + j) ((strs (811 + s)).drop j)) := by
  have k6 := (sK s (by omega)).2.2.2.1
  have kb := (sK s (by omega)).2.2.2.2.2
  obtain ⟨o1, o2⟩ := cV628 s hs
  intro m
  induction m with
  | zero =>
    intro j F ν hj hF h
    obtain ⟨f, rfl⟩ : ∃ n, F = n + 1 := ⟨F - 1, by omega⟩
    have n1 : Int32.ofNat (strs (811 + s)).length ≤ Int32.ofNat j := (iN_le (by omega) (by omega)).mpr (by omega)
    rw [List.drop_eq_nil_of_le (by omega)]
    by_cases q : tx T Ln (p + j) = 32
    · obtain ⟨e1, h1⟩ := h_takes1 (ad := ad) (D := D) (cA := cA) h hB (by omega) q
      have e1' : f_X10_takes (XR ad D cA) 600 32 ν = _ := e1
      have cq : mtc T Ln (p + j) [] = 0 ∧ tx T Ln (p + j + 0) = 32 := ⟨rfl, q⟩
      rw [if_pos cq, if_pos cq]
      refine ⟨_, ?_, h1⟩
      unfold f_X10_takesWord_L2
      simp only [↓ckE, ↓reduceIte, kR, RK, Nat.reduceAdd, n1, e1', bdE, or_true]
    · have e1' : f_X10_takes (XR ad D cA) 600 32 ν = _ := h_takes0 (ad := ad) (D := D) (cA := cA) h hB (c := 32) (by omega) q
      have cq : ¬ (mtc T Ln (p + j) [] = 0 ∧ tx T Ln (p + j + 0) = 32) := fun z => q z.2
      rw [if_neg cq, if_neg cq]
      refine ⟨_, ?_, h⟩
      unfold f_X10_takesWord_L2
      simp only [↓ckE, ↓reduceIte, kR, RK, Nat.reduceAdd, n1, e1', bdE, true_or]
  | succ m ih =>
    intro j F ν hj hF h
    obtain ⟨f, rfl⟩ : ∃ n, F = n + 1 := ⟨F - 1, by omega⟩
    obtain ⟨bP, -, -, b5⟩ := h.B hB
    have n1 : ¬ Int32.ofNat (strs (811 + s)).length ≤ Int32.ofNat j := fun z => by have := (iN_le (by omega) (by omega)).mp z; omega
    have ea : Int32.ofNat (off s) + Int32.ofNat j = Int32.ofNat (off s + j) := iN_add
    have hx : x_ix (Int32.ofNat (off s + j)) 22 := iN_ix (by omega) (by omega)
    have hcl : (Int32.ofNat (off s + j)).toNatClampNeg = off s + j := iN_cl (by omega)
    have hb := (kb j (by omega)).2
    have ed : (strs (811 + s)).drop j = (strs (811 + s)).getD j 0 :: (strs (811 + s)).drop (j + 1) := by
      rw [List.drop_eq_getElem_cons (by omega), List.getD_eq_getElem?_getD, List.getElem?_eq_getElem (by omega)]
      rfl
    have ev : ν.1 628 (off s + j) = Int32.ofNat ((strs (811 + s)).getD j 0) := by rw [b5, o2 j (by omega)]
    have em : mtc T Ln (p + j) ((strs (811 + s)).drop j) = if tx T Ln (p + j) = (strs (811 + s)).getD j 0 then mtc T Ln (p + j + 1) ((strs (811 + s)).drop (j + 1)) + 1 else 0 := by rw [ed]; rfl
    rw [em]
    by_cases q : tx T Ln (p + j) = (strs (811 + s)).getD j 0
    · obtain ⟨e1, h1⟩ := h_takes1 (ad := ad) (D := D) (cA := cA) h hB hb q
      obtain ⟨ν', e2, h2⟩ := ih (j + 1) f _ (by omega) (by omega) h1
      rw [if_pos q]
      refine ⟨ν', ?_, ?_⟩
      · unfold f_X10_takesWord_L2
        simp only [↓ckE, ↓ltE, ↓reduceIte, kR, lR, RK, RN, RP bP, Nat.reduceAdd, n1, ea, true_or, true_and, ↓ixT hx, hcl, ev, e1, bdE, iE, iN_s, e2]
        have c1 : (mtc T Ln (p + (j + 1)) (List.drop (j + 1) (strs (811 + s))) = m ∧ tx T Ln (p + (j + 1) + m) = 32) ↔ (mtc T Ln (p + j + 1) (List.drop (j + 1) (strs (811 + s))) + 1 = m + 1 ∧ tx T Ln (p + j + (m + 1)) = 32) := by
          rw [show p + (j + 1) = p + j + 1 by omega, show p + j + 1 + m = p + j + (m + 1) by omega]
          exact ⟨fun z => ⟨by omega, z.2⟩, fun z => ⟨by omega, z.2⟩⟩
        by_cases c2 : (mtc T Ln (p + (j + 1)) (List.drop (j + 1) (strs (811 + s))) = m ∧ tx T Ln (p + (j + 1) + m) = 32)
        · rw [if_pos c2, if_pos (c1.mp c2)]
        · rw [if_neg c2, if_neg (fun z => c2 (c1.mpr z))]
      · have c1 : (mtc T Ln (p + (j + 1)) (List.drop (j + 1) (strs (811 + s))) = m ∧ tx T Ln (p + (j + 1) + m) = 32) ↔ (mtc T Ln (p + j + 1) (List.drop (j + 1) (strs (811 + s))) + 1 = m + 1 ∧ tx T Ln (p + j + (m + 1)) = 32) := by
          rw [show p + (j + 1) = p + j + 1 by omega, show p + j + 1 + m = p + j + (m + 1) by omega]
          exact ⟨fun z => ⟨by omega, z.2⟩, fun z => ⟨by omega, z.2⟩⟩
        by_cases c2 : (mtc T Ln (p + (j + 1)) (List.drop (j + 1) (strs (811 + s))) = m ∧ tx T Ln (p + (j + 1) + m) = 32)
        · rw [if_pos c2] at h2
          rw [if_pos (c1.mp c2), show p + j + (m + 1) + 1 = p + (j + 1) + m + 1 by omega]
          exact h2
        · rw [if_neg c2] at h2
          rw [if_neg (fun z => c2 (c1.mpr z)), show p + j + (mtc T Ln (p + j + 1) (List.drop (j + 1) (strs (811 + s))) + 1) = p + (j + 1) + mtc T Ln (p + (j + 1)) (List.drop (j + 1) (strs (811 + s))) from by rw [show p + (j + 1) = p + j + 1 by omega]; omega]
          exact h2
    · have e1 := h_takes0 (ad := ad) (D := D) (cA := cA) h hB hb q
      have cq : ¬ ((0 : Nat) = m + 1 ∧ tx T Ln (p + j + (m + 1)) = 32) := fun z => by omega
      rw [if_neg q, if_neg cq, if_neg cq]
      refine ⟨ν, ?_, h⟩
      unfold f_X10_takesWord_L2
      simp only [↓ckE, ↓ltE, ↓reduceIte, kR, lR, RK, RN, RP bP, Nat.reduceAdd, n1, ea, true_or, true_and, ↓ixT hx, hcl, ev, e1, bdE]
end HRD
