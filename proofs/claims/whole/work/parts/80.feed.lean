/-! ===== feed; what the text and the acts change ===== -/
def otC (o _ : Nat) : Prop := o = 3 ∨ o = 4 ∨ o = 7 ∨ o = 8
def otR (o k : Nat) : Prop := (o = 600 ∧ ((13 ≤ k ∧ k ≤ 28) ∨ k = 71)) ∨ o = 617 ∨ o = 624 ∨ o = 673
theorem sI_in {μ : x_M} {o k : Nat} {v : Int32} : (x_sI μ o k v).1 o k = v := by rw [sI_rd, if_pos rfl, if_pos rfl]
theorem sI_of {μ : x_M} {o k p j : Nat} {v : Int32} (h : ¬ (p = o ∧ j = k)) : (x_sI μ o k v).1 p j = μ.1 p j := by
  rw [sI_rd]
  by_cases e : p = o
  · rw [if_pos e, if_neg (fun z => h ⟨e, z⟩)]
  · rw [if_neg e]
section FEED
variable {ad : Nat → Nat} {D : va_G} {cA : Nat → ClassId} {μ ν : x_M}
theorem Rel.ot {μ' ν' : x_M} (h : Rel μ ν) (f : frC otC μ μ') (g : frC otR ν ν') (hT : gT μ' ν') (hA : gA μ' ν') : Rel μ' ν' := by
  obtain ⟨S, R1, R2, R3, ⟨h1, h2⟩, ⟨⟨c2, c3⟩, d1, d2, d3⟩, hg, ho⟩ := h
  have h6 := h1.n6
  have s1 : StC μ' 100 S := h1.1.1.fr h6 f (fun o k z => by unfold otC at z; unfold usC lwC; omega)
  have s2 : StR ν' S := h1.2.1.fr h6 g (fun o k z => by unfold otR at z; unfold usR; omega)
  refine ⟨S, R1, R2, R3, ⟨⟨⟨s1, hg.1, fun B hB i hi => ?_, h1.ok, h1.1.2.2.2.2.1, h1.1.2.2.2.2.2.eqr (fun o k p1 p2 => f.2 o k (by unfold otC; omega))⟩, s2, h1.2.2⟩, ?_⟩, ⟨⟨c2.eqr (fun o k p1 p2 => f.2 o k (by unfold otC; omega)), c3.eqr (fun o k p1 p2 => f.2 o k (by unfold otC; omega))⟩, d1.eq (g.2 _ _ (by unfold otR; omega)) (fun k => g.2 _ _ (by unfold otR; omega)) (fun k => g.2 _ _ (by unfold otR; omega)), d2.eq (g.2 _ _ (by unfold otR; omega)) (fun k => g.2 _ _ (by unfold otR; omega)) (fun k => g.2 _ _ (by unfold otR; omega)), d3.eq (g.2 _ _ (by unfold otR; omega)) (fun k => g.2 _ _ (by unfold otR; omega)) (fun k => g.2 _ _ (by unfold otR; omega))⟩, hg, ?_⟩
  · rw [f.2 _ 0 (by have := hB.ge; unfold otC; omega)]; exact h1.1.2.2.1 B hB i hi
  · rw [g.2 600 30 (by unfold otR; omega)]; exact h2
  · obtain ⟨o1, o2, o3, o4, o5, o6⟩ := ho
    have er : eqR μ μ' := fun o k _ => by rw [f.1]
    exact ⟨o1.fr (fun o k z => f.2 o k (by unfold cK at z; unfold otC; omega)) (fun o k z => g.2 o k (by unfold dK at z; unfold otR; omega)),
      o2.fr (fun o k z => f.2 o k (by unfold cI usC lwC at z; unfold otC; omega)) er (fun o k z => g.2 o k (by unfold dI at z; unfold otR; omega)),
      o3.fr (fun o k z => f.2 o k (by unfold cL at z; unfold otC; omega)) er (fun o k z => g.2 o k (by unfold dL at z; unfold otR; omega)), hT,
      o5.fr (fun o k z => f.2 o k (by unfold cP at z; unfold otC; omega)) (fun o k z => g.2 o k (by unfold dP at z; unfold otR; omega)) (by rw [f.1]) (by rw [g.1]), hA⟩
theorem q_feed {x : Int32} (h : Rel μ ν) : SameR (f_X9_feed (XC ad D cA) 1 x μ) (f_X10_feed (XR ad D cA) 600 x ν) := by
  have h0 := h
  obtain ⟨S, R1, R2, R3, ⟨hp, h30⟩, ⟨hC, hR⟩, hg, ho⟩ := h
  obtain ⟨L, hL, l1, l2, l3⟩ := ho.2.2.2.1
  unfold f_X9_feed f_X10_feed f_X5_add
  by_cases q : (0 : Int32) ≤ x ∧ x ≤ 127
  · obtain ⟨n, -, hn, rfl⟩ := inN 0 127 0 127 rfl rfl (by decide) (by decide) q
    by_cases q1 : L = 100
    · have b1 : ¬ ((0 : Int32) ≤ Int32.ofNat L ∧ Int32.ofNat L ≤ 99) := fun z => by
        have := (leN 99 99 rfl (by omega) (by decide)).mp z.2
        omega
      have b2 : Int32.ofNat L = 100 := by rw [q1]; rfl
      refine SameR.now (r := -4) h0 ?_ ?_
      · simp only [↓ckE, ↓ltE, ↓reduceIte, kC, CK, CP hp.P, Nat.reduceAdd, c_in, q, and_self, iE, bdE, l1, b1]
      · simp only [↓ckE, ↓ltE, ↓reduceIte, kR, RK, Nat.reduceAdd, r_in, q, and_self, iE, bdE, l2, b2]
    · have b1 : (0 : Int32) ≤ Int32.ofNat L ∧ Int32.ofNat L ≤ 99 := ⟨(geN 0 0 rfl (by decide) (by omega)).mpr (by omega), (leN 99 99 rfl (by omega) (by decide)).mpr (by omega)⟩
      have b2 : ¬ Int32.ofNat L = 100 := fun z => q1 ((eqN 100 100 rfl (by omega) (by decide)).mp z)
      have hx : x_ix (Int32.ofNat L) 100 := iN_ix (by omega) (by omega)
      have hcl : (Int32.ofNat L).toNatClampNeg = L := iN_cl (by omega)
      have e1 : (x_sI μ 4 L (Int32.ofNat n)).1 3 1 = Int32.ofNat L := l1
      have e2 : (x_sI ν 617 L (Int32.ofNat n)).1 600 13 = Int32.ofNat L := l2
      refine ⟨Int32.ofNat (L + 1), x_sI (x_sI μ 4 L (Int32.ofNat n)) 3 1 (Int32.ofNat (L + 1)), x_sI (x_sI ν 617 L (Int32.ofNat n)) 600 13 (Int32.ofNat (L + 1)), ?_, ?_, ?_⟩
      · simp only [↓ckE, ↓ltE, ↓reduceIte, kC, lC, CK, CN, CP hp.P, Nat.reduceAdd, c_in, q, and_self, iE, bdE, l1, b1, true_and, ↓ixT hx, hcl, e1, iN_s]
        rfl
      · simp only [↓ckE, ↓ltE, ↓reduceIte, kR, lR, RK, RN, RP hp.2.1.1, Nat.reduceAdd, r_in, q, and_self, iE, bdE, l2, b2, true_and, ↓ixT hx, hcl, e2, iN_s]
        rfl
      · refine h0.ot ((frC.sI (by unfold otC; omega)).tr (frC.sI (by unfold otC; omega))) ((frC.sI (by unfold otR; omega)).tr (frC.sI (by unfold otR; omega))) ⟨L + 1, by omega, sI_in, sI_in, fun j hj => ?_⟩ ?_
        · by_cases e : j = L
          · refine ⟨n, hn, ?_, ?_⟩
            · rw [sI_of (by omega), e]; exact sI_in
            · rw [sI_of (by omega), e]; exact sI_in
          · obtain ⟨c, c1, c2, c3⟩ := l3 j (by omega)
            refine ⟨c, c1, ?_, ?_⟩
            · rw [sI_of (by omega), sI_of (by omega)]; exact c2
            · rw [sI_of (by omega), sI_of (by omega)]; exact c3
        · refine ho.2.2.2.2.2.fr (fun o k z => ?_) (fun o k z => ?_)
          · unfold cA' at z
            rw [sI_of (by omega), sI_of (by omega)]
          · unfold dA at z
            rw [sI_of (by omega), sI_of (by omega)]
  · refine SameR.now (r := -2) h0 ?_ ?_
    · simp only [↓ckE, ↓ltE, ↓reduceIte, kC, CK, CP hp.P, Nat.reduceAdd, c_in, q, iE, bdE]
    · simp only [↓ckE, ↓ltE, ↓reduceIte, kR, RK, Nat.reduceAdd, r_in, q, iE, bdE]
end FEED
