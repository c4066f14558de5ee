/-! ===== law: the class's numbers and tests ===== -/
def numS (T : Nat → Nat) (Ln p : Nat) : Int × Nat := if dg T Ln p then (if dg T Ln (p + 1) then (((tx T Ln p : Int) - 48) * 10 + ((tx T Ln (p + 1) : Int) - 48), p + 2) else ((tx T Ln p : Int) - 48, p + 1)) else (-1, p)
theorem numS_b {T : Nat → Nat} {Ln p : Nat} (hp : p ≤ Ln) : (-1 ≤ (numS T Ln p).1 ∧ (numS T Ln p).1 ≤ 99) ∧ (p ≤ (numS T Ln p).2 ∧ (numS T Ln p).2 ≤ Ln) ∧ (0 ≤ (numS T Ln p).1 → p < (numS T Ln p).2) ∧ ((numS T Ln p).1 < 0 → (numS T Ln p).2 = p) := by
  unfold numS
  by_cases q : dg T Ln p
  · rw [if_pos q]
    have l1 : p < Ln := by
      have := q.2
      unfold tx at this
      by_cases z : p < Ln
      · exact z
      · rw [if_neg z] at this; omega
    by_cases q2 : dg T Ln (p + 1)
    · rw [if_pos q2]
      have l2 : p + 1 < Ln := by
        have := q2.2
        unfold tx at this
        by_cases z : p + 1 < Ln
        · exact z
        · rw [if_neg z] at this; omega
      have := q.1; have := q.2; have := q2.1; have := q2.2
      refine ⟨⟨?_, ?_⟩, ⟨?_, ?_⟩, fun _ => ?_, fun _ => ?_⟩ <;> simp only [] at * <;> omega
    · rw [if_neg q2]
      have := q.1; have := q.2
      refine ⟨⟨?_, ?_⟩, ⟨?_, ?_⟩, fun _ => ?_, fun _ => ?_⟩ <;> simp only [] at * <;> omega
  · rw [if_neg q]
    refine ⟨⟨?_, ?_⟩, ⟨?_, ?_⟩, fun _ => ?_, fun _ => ?_⟩ <;> simp only [] at * <;> omega
def tstS (T : Nat → Nat) (Ln p : Nat) : Nat × Option Tok :=
  if idx (tx T Ln p) (strs (811 + 5)) 0 < 0 then (p, none) else
  if idx (tx T Ln (p + 1)) (strs (811 + 6)) 0 < 0 then (p + 1, none) else
  if (numS T Ln (p + 2)).1 < 0 then ((numS T Ln (p + 2)).2, none) else
  ((numS T Ln (p + 2)).2, some (0, (idx (tx T Ln p) (strs (811 + 5)) 0).toNat, (idx (tx T Ln (p + 1)) (strs (811 + 6)) 0).toNat, (numS T Ln (p + 2)).1.toNat))
section TST
variable {ad : Nat → Nat} {D : va_G} {cA : Nat → ClassId} {μ μ0 : x_M} {T : Nat → Nat} {Ln p l : Nat} {tk : List Tok}
theorem c_nst {F i : Nat} {w : Int} (h : Ps T Ln l μ0 μ p tk) (hB : Bs μ0 l T Ln) (hi : i < 2) (hw : -1 ≤ w ∧ w ≤ 9) : f_X5_takeNumber_L4 (XC ad D cA) (F + 1) 3 (Int32.ofInt w) (Int32.ofNat i) μ = if dg T Ln p then f_X5_takeNumber_L4 (XC ad D cA) F 3 (Int32.ofInt ((if w < 0 then 0 else w) * 10 + ((tx T Ln p : Int) - 48))) (Int32.ofNat (i + 1)) (x_sI μ 3 2 (Int32.ofNat (p + 1))) else some (Int32.ofInt w, μ) := by
  obtain ⟨kS, t1, t2, t3⟩ := h.B hB
  obtain ⟨-, ⟨h2, h3⟩, -⟩ := id h
  have n1 : ¬ (2 : Int32) ≤ Int32.ofNat i := fun z => by have := (geN 2 2 rfl (by decide) (by omega)).mp z; omega
  have es : Int32.ofNat i + 1 = Int32.ofNat (i + 1) := iN_s
  generalize hR : f_X5_takeNumber_L4 (XC ad D cA) F 3 (Int32.ofInt ((if w < 0 then 0 else w) * 10 + ((tx T Ln p : Int) - 48))) (Int32.ofNat (i + 1)) (x_sI μ 3 2 (Int32.ofNat (p + 1))) = R
  unfold f_X5_takeNumber_L4
  by_cases q : p < Ln
  · have n2 : ¬ Int32.ofNat Ln ≤ Int32.ofNat p := fun z => by have := (iN_le (by omega) (by omega)).mp z; omega
    have e1 := t_at (ad := ad) (D := D) (cA := cA) (h.B hB).2 q
    have hTp := (t3 p q).1
    have ex : tx T Ln p = T p := by unfold tx; rw [if_pos q]
    have e2 : Int32.ofNat (T p) - (48 : Int32) = Int32.ofInt ((T p : Int) - 48) := by rw [iN_I, show (48 : Int32) = Int32.ofInt 48 from rfl, ← Int32.ofInt_sub]
    rw [ex] at hR
    simp only [↓ckE, ↓ltE, ↓reduceIte, kC, CK, CP kS.1, Nat.reduceAdd, n1, h2, t2, n2, e1, bdE, e2]
    have ed : dg T Ln p ↔ 48 ≤ T p ∧ T p ≤ 57 := by unfold dg; rw [ex]
    by_cases z : dg T Ln p
    · obtain ⟨z1, z2⟩ := ed.mp z
      have m1 : ¬ Int32.ofInt ((T p : Int) - 48) < 0 := fun g => by have := (ltI 0 0 rfl (by omega) (by decide)).mp g; omega
      have m2 : Int32.ofInt ((T p : Int) - 48) ≤ 9 := (leI 9 9 rfl (by omega) (by decide)).mpr (by omega)
      have e3 : (if Int32.ofInt w < (0 : Int32) then (0 : Int32) else Int32.ofInt w) * (10 : Int32) + Int32.ofInt ((T p : Int) - 48) = Int32.ofInt ((if w < 0 then 0 else w) * 10 + ((T p : Int) - 48)) := by
        by_cases g : w < 0
        · have g' : Int32.ofInt w < 0 := (ltI 0 0 rfl (by omega) (by decide)).mpr g
          rw [if_pos g', if_pos g, Int32.ofInt_add, Int32.ofInt_mul]; rfl
        · have g' : ¬ Int32.ofInt w < 0 := fun y => g ((ltI 0 0 rfl (by omega) (by decide)).mp y)
          rw [if_neg g', if_neg g, Int32.ofInt_add, Int32.ofInt_mul]; rfl
      rw [if_neg m1, if_pos m2, if_pos z]
      simp only [e3, iN_s, es, hR]
    · rw [if_neg z]
      by_cases m1 : Int32.ofInt ((T p : Int) - 48) < 0
      · rw [if_pos m1]
      · have : ¬ ((T p : Int) - 48 < 0) := fun g => m1 ((ltI 0 0 rfl (by omega) (by decide)).mpr g)
        have m2 : ¬ Int32.ofInt ((T p : Int) - 48) ≤ 9 := fun g => by
          have := (leI 9 9 rfl (by omega) (by decide)).mp g
          exact z (ed.mpr ⟨by omega, by omega⟩)
        rw [if_neg m1, if_neg m2]
  · have n2 : Int32.ofNat Ln ≤ Int32.ofNat p := (iN_le (by omega) (by omega)).mpr (by omega)
    have z : ¬ dg T Ln p := fun z => by
      have := z.2
      unfold tx at this
      rw [if_neg q] at this
      omega
    rw [if_neg z]
    simp only [↓ckE, ↓reduceIte, kC, CK, Nat.reduceAdd, n1, h2, t2, n2]
theorem c_nsz {F : Nat} {w : Int} : f_X5_takeNumber_L4 (XC ad D cA) (F + 1) 3 (Int32.ofInt w) (Int32.ofNat 2) μ = some (Int32.ofInt w, μ) := by
  unfold f_X5_takeNumber_L4
  rw [if_pos (by decide)]
theorem c_num (h : Ps T Ln l μ0 μ p tk) (hB : Bs μ0 l T Ln) : ∃ μ', f_X5_takeNumber (XC ad D cA) 3 μ = some (Int32.ofInt (numS T Ln p).1, μ') ∧ Ps T Ln l μ0 μ' (numS T Ln p).2 tk := by
  have hb := numS_b (T := T) (Ln := Ln) (p := p) h.2.1.2
  have s1 : ∀ F, F + 3 = 4096 → f_X5_takeNumber (XC ad D cA) 3 μ = f_X5_takeNumber_L4 (XC ad D cA) (F + 1 + 1 + 1) 3 (Int32.ofInt (-1)) (Int32.ofNat 0) μ := fun F e => by
    unfold f_X5_takeNumber
    rw [← e]; rfl
  rw [s1 4093 rfl, c_nst h hB (by omega) (by omega)]
  generalize 4093 = F
  by_cases q : dg T Ln p
  · have hq1 := q.1
    have hq2 := q.2
    have eS : numS T Ln p = (if dg T Ln (p + 1) then (((tx T Ln p : Int) - 48) * 10 + ((tx T Ln (p + 1) : Int) - 48), p + 2) else ((tx T Ln p : Int) - 48, p + 1)) := if_pos q
    have h1 : Ps T Ln l μ0 (x_sI μ 3 2 (Int32.ofNat (p + 1))) (p + 1) tk := h.adv hB (by
      have : p < Ln := by
        unfold tx at hq2
        by_cases z : p < Ln
        · exact z
        · rw [if_neg z] at hq2; omega
      omega) (by omega)
    rw [if_pos q, show (if (-1 : Int) < 0 then (0 : Int) else -1) * 10 + ((tx T Ln p : Int) - 48) = (tx T Ln p : Int) - 48 from by rw [if_pos (by decide)]; omega, c_nst h1 hB (by omega) (by omega)]
    by_cases q2 : dg T Ln (p + 1)
    · rw [if_pos q2] at eS
      rw [eS] at hb ⊢
      rw [if_pos q2, c_nsz, if_neg (by omega)]
      exact ⟨_, rfl, h1.adv hB hb.2.1.2 (by omega)⟩
    · rw [if_neg q2] at eS
      rw [eS, if_neg q2]
      exact ⟨_, rfl, h1⟩
  · have eS : numS T Ln p = (-1, p) := if_neg q
    rw [if_neg q, eS]
    exact ⟨μ, rfl, h⟩
theorem c_put {t : Tok} (h : Ps T Ln l μ0 μ p tk) (hB : Bs μ0 l T Ln) (hp : tk.length + 1 ≤ p) : ∃ μ', f_X4_put (XC ad D cA) l (encC t) μ = some ((), μ') ∧ Ps T Ln l μ0 μ' p (tk ++ [t]) := by
  obtain ⟨kS, t1, t2, t3⟩ := h.B hB
  have hl := hB.rg
  obtain ⟨f1, ⟨h2, h3⟩, ⟨h4, h5⟩, h6⟩ := id h
  obtain ⟨k0, -, -, -, ⟨k4, k5⟩, -⟩ := lawK l hB.1.2.1
  have pl := (pt_L hB.1.2.1 kS.1).2.2.2.1
  have w : ((0 : Int32) ≤ Int32.ofNat tk.length ∧ Int32.ofNat tk.length ≤ 99) := ⟨(geN 0 0 rfl (by decide) (by omega)).mpr (by omega), (leN 99 99 rfl (by omega) (by decide)).mpr (by omega)⟩
  have hx : x_ix (Int32.ofNat tk.length) 100 := iN_ix (by omega) (by omega)
  have hcl : (Int32.ofNat tk.length).toNatClampNeg = tk.length := iN_cl (by omega)
  have e6 : (x_sI μ (l + 4) tk.length (encC t)).1 l 6 = Int32.ofNat tk.length := by rw [sI_of (by omega)]; exact h4
  refine ⟨x_sI (x_sI μ (l + 4) tk.length (encC t)) l 6 (Int32.ofNat (tk.length + 1)), ?_, (f1.tr (frC.sI (by unfold pcC; omega))).tr (frC.sI (by unfold pcC; omega)), ⟨?_, h3⟩, ⟨?_, ?_⟩, ?_⟩
  · unfold f_X4_put
    simp only [↓ckE, ↓ltE, ↓reduceIte, kC, lC, k0, k4, k5, pl, h4, c_in, w, and_self, iE, bdE, true_and, ↓ixT hx, hcl, e6, iN_s]
  · rw [sI_of (by omega), sI_of (by omega)]; exact h2
  · rw [sI_in, List.length_append]; rfl
  · refine SegI_ap.mpr ⟨SegI_cg (fun j j1 j2 => ?_) h5, ?_, True.intro⟩
    · rw [sI_of (by omega), sI_of (by omega)]
    · rw [sI_of (by omega), Nat.zero_add]; exact sI_in
  · rw [List.length_append]; exact hp
theorem str_b : ∀ c, c ≤ 127 ∨ c = 999 → idx c (strs (811 + 5)) 0 ≤ 5 ∧ idx c (strs (811 + 6)) 0 ≤ 2 := by
  have h : ∀ c, c ≤ 999 → idx c (strs (811 + 5)) 0 ≤ 5 ∧ idx c (strs (811 + 6)) 0 ≤ 2 := by decide +kernel
  intro c hc
  exact h c (by omega)
theorem c_test (h : Ps T Ln l μ0 μ p tk) (hB : Bs μ0 l T Ln) : (∃ q t μ', tstS T Ln p = (q, some t) ∧ f_X5_takeTest (XC ad D cA) 3 l μ = some (1, μ') ∧ Ps T Ln l μ0 μ' q (tk ++ [t])) ∨ ∃ q μ', tstS T Ln p = (q, none) ∧ f_X5_takeTest (XC ad D cA) 3 l μ = some (0, μ') ∧ Ps T Ln l μ0 μ' q tk := by
  have hcx : ∀ p, p < Ln → tx T Ln p ≤ 127 ∨ tx T Ln p = 999 := fun p hp => by
    unfold tx
    rw [if_pos hp]
    exact Or.inl ((hB.2.2.2 p hp).1)
  obtain ⟨k0, -⟩ := lawK l hB.1.2.1
  have n5 : ¬ (0 : Int32) ≤ -1 := by decide
  have n6 : (-1 : Int32) < 0 := by decide
  obtain ⟨μ1, e1, h1, g1⟩ := c_one (ad := ad) (D := D) (cA := cA) (s := 5) h hB (by omega)
  have b5 := idx_ge (tx T Ln p) (strs (811 + 5)) 0
  have len5 := (sK 5 (by omega)).2.2.2.1
  unfold f_X5_takeTest tstS
  by_cases q1 : idx (tx T Ln p) (strs (811 + 5)) 0 < 0
  · rw [if_pos q1] at h1
    rw [if_pos q1]
    have m1 : Int32.ofInt (idx (tx T Ln p) (strs (811 + 5)) 0) < 0 := (ltI 0 0 rfl (by omega) (by decide)).mpr q1
    refine Or.inr ⟨p, μ1, rfl, ?_, h1⟩
    unfold f_X5_takeTest_J21 f_X5_takeTest_J34
    simp only [↓ckE, ↓reduceIte, kC, CK, Nat.reduceAdd, show f_X5_takeOneOf (XC ad D cA) 3 816 μ = _ from e1, bdE, m1, n5, n6, true_or]
  · rw [if_neg q1] at h1
    rw [if_neg q1]
    have m1 : ¬ Int32.ofInt (idx (tx T Ln p) (strs (811 + 5)) 0) < 0 := fun g => q1 ((ltI 0 0 rfl (by omega) (by decide)).mp g)
    obtain ⟨μ2, e2, h2, g2⟩ := c_one (ad := ad) (D := D) (cA := cA) (s := 6) h1 hB (by omega)
    have b6 := idx_ge (tx T Ln (p + 1)) (strs (811 + 6)) 0
    have len6 := (sK 6 (by omega)).2.2.2.1
    by_cases q2 : idx (tx T Ln (p + 1)) (strs (811 + 6)) 0 < 0
    · rw [if_pos q2] at h2
      rw [if_pos q2]
      have m2 : Int32.ofInt (idx (tx T Ln (p + 1)) (strs (811 + 6)) 0) < 0 := (ltI 0 0 rfl (by omega) (by decide)).mpr q2
      refine Or.inr ⟨p + 1, μ2, rfl, ?_, h2⟩
      unfold f_X5_takeTest_J21 f_X5_takeTest_J34
      simp only [↓ckE, ↓reduceIte, kC, CK, Nat.reduceAdd, show f_X5_takeOneOf (XC ad D cA) 3 816 μ = _ from e1, show f_X5_takeOneOf (XC ad D cA) 3 817 μ1 = _ from e2, bdE, m1, m2, n5, true_or]
    · rw [if_neg q2] at h2
      rw [if_neg q2]
      have m2 : ¬ Int32.ofInt (idx (tx T Ln (p + 1)) (strs (811 + 6)) 0) < 0 := fun g => q2 ((ltI 0 0 rfl (by omega) (by decide)).mp g)
      obtain ⟨μ3, e3, h3⟩ := c_num (ad := ad) (D := D) (cA := cA) h2 hB
      have nb := numS_b (T := T) (Ln := Ln) (p := p + 2) h2.2.1.2
      have h3 : Ps T Ln l μ0 μ3 (numS T Ln (p + 2)).2 tk := h3
      by_cases q3 : (numS T Ln (p + 2)).1 < 0
      · rw [if_pos q3]
        have m3 : ¬ (0 : Int32) ≤ Int32.ofInt (numS T Ln (p + 2)).1 := fun g => by have := (geI 0 0 rfl (by decide) (by omega)).mp g; omega
        refine Or.inr ⟨_, μ3, rfl, ?_, h3⟩
        unfold f_X5_takeTest_J21 f_X5_takeTest_J34
        simp only [↓ckE, ↓reduceIte, kC, CK, Nat.reduceAdd, show f_X5_takeOneOf (XC ad D cA) 3 816 μ = _ from e1, show f_X5_takeOneOf (XC ad D cA) 3 817 μ1 = _ from e2, bdE, m1, m2, show f_X5_takeNumber (XC ad D cA) 3 μ2 = _ from e3, m3, true_or]
      · rw [if_neg q3]
        have m3 : (0 : Int32) ≤ Int32.ofInt (numS T Ln (p + 2)).1 := (geI 0 0 rfl (by decide) (by omega)).mpr (by omega)
        have hlen := h.2.2.2
        have np := nb.2.2.1 (by omega)
        obtain ⟨μ4, e4, h4⟩ := c_put (ad := ad) (D := D) (cA := cA) (t := (0, (idx (tx T Ln p) (strs (811 + 5)) 0).toNat, (idx (tx T Ln (p + 1)) (strs (811 + 6)) 0).toNat, (numS T Ln (p + 2)).1.toNat)) h3 hB (by omega)
        have ee : (Int32.ofInt (idx (tx T Ln p) (strs (811 + 5)) 0) * (3 : Int32) + Int32.ofInt (idx (tx T Ln (p + 1)) (strs (811 + 6)) 0)) * (100 : Int32) + Int32.ofInt (numS T Ln (p + 2)).1 = encC (0, (idx (tx T Ln p) (strs (811 + 5)) 0).toNat, (idx (tx T Ln (p + 1)) (strs (811 + 6)) 0).toNat, (numS T Ln (p + 2)).1.toNat) := by
          unfold encC
          rw [if_pos rfl, iN_I, show (3 : Int32) = Int32.ofInt 3 from rfl, show (100 : Int32) = Int32.ofInt 100 from rfl, ← Int32.ofInt_mul, ← Int32.ofInt_add, ← Int32.ofInt_mul, ← Int32.ofInt_add]
          exact congrArg Int32.ofInt (by simp only []; omega)
        refine Or.inl ⟨_, _, μ4, rfl, ?_, h4⟩
        unfold f_X5_takeTest_J21 f_X5_takeTest_J34
        simp only [↓ckE, ↓reduceIte, kC, CK, Nat.reduceAdd, show f_X5_takeOneOf (XC ad D cA) 3 816 μ = _ from e1, show f_X5_takeOneOf (XC ad D cA) 3 817 μ1 = _ from e2, bdE, m1, m2, show f_X5_takeNumber (XC ad D cA) 3 μ2 = _ from e3, m3, k0, ee, e4, or_true]
end TST
