/-! ===== law: the steps of the reference's reading of an expression ===== -/
def E0 (T : Nat → Nat) (Ln B0 ci : Nat) (ν0 ν : x_M) (p : Nat) (st : List Nat) (tk : List Tok) : Prop := ∃ ν1 : x_M, (ν1.2 = ν0.2 ∧ ∀ o k, ¬ (o = 622 ∧ k = ci) → ν1.1 o k = ν0.1 o k) ∧ Pq T Ln B0 ν1 ν p st tk
theorem Br.b {T : Nat → Nat} {Ln ci : Nat} {ν0 ν1 : x_M} (h : Br ν0 T Ln) (f : ν1.2 = ν0.2 ∧ ∀ o k, ¬ (o = 622 ∧ k = ci) → ν1.1 o k = ν0.1 o k) : Br ν1 T Ln := by
  obtain ⟨b1, ⟨b2, b3, b4⟩, b5⟩ := h
  refine ⟨fun o k => by rw [f.1]; exact b1 o k, ⟨b2, ?_, fun j hj => ⟨(b4 j hj).1, ?_⟩⟩, fun k => ?_⟩
  · rw [f.2 _ _ (by omega)]; exact b3
  · rw [f.2 _ _ (by omega)]; exact (b4 j hj).2
  · rw [f.2 _ _ (by omega)]; exact b5 k
section STP
variable {ad : Nat → Nat} {D : va_G} {cA : Nat → ClassId} {ν ν0 : x_M} {T : Nat → Nat} {Ln p B0 ci F : Nat} {st : List Nat} {tk : List Tok}
theorem Pq.push {c : Nat} (h : Pq T Ln B0 ν0 ν p st tk) (hc : c ≤ 127) (hp : p + 1 ≤ Ln) : Pq T Ln B0 ν0 (x_sI (x_sI (x_sI (x_sI ν 600 26 (Int32.ofNat (cnt (c :: st)))) 624 st.length (Int32.ofNat c)) 600 25 (Int32.ofNat (st.length + 1))) 600 14 (Int32.ofNat (p + 1))) (p + 1) (c :: st) tk := by
  obtain ⟨h1, ⟨h2, h3⟩, ⟨h4, h5, h6⟩, ⟨h7, h8, h9⟩, h10⟩ := h
  refine ⟨(((h1.tr (frC.sI (Or.inl ⟨rfl, by omega⟩))).tr (frC.sI (Or.inr (Or.inl rfl)))).tr (frC.sI (Or.inl ⟨rfl, by omega⟩))).tr (frC.sI (Or.inl ⟨rfl, by omega⟩)), ⟨sI_in, hp⟩, ⟨?_, SegI_cg (fun j _ _ => by rw [sI_of (by omega), sI_of (by omega), sI_of (by omega), sI_of (by omega)]) h5, fun j hj => ?_⟩, ⟨?_, ⟨⟨?_, hc⟩, PS_cg (fun j hj => by rw [sI_of (by omega), sI_of (by omega), sI_of (by omega), sI_of (by omega)]) h8⟩, ?_⟩, by show tk.length + (st.length + 1) ≤ p + 1; omega⟩
  · rw [sI_of (by omega), sI_of (by omega), sI_of (by omega), sI_of (by omega)]; exact h4
  · rw [sI_of (by omega), sI_of (by omega), sI_of (by omega), sI_of (by omega)]; exact h6 j hj
  · rw [sI_of (by omega)]; exact sI_in
  · rw [sI_of (by omega), sI_of (by omega)]; exact sI_in
  · rw [sI_of (by omega), sI_of (by omega), sI_of (by omega)]; exact sI_in
theorem m1_push {c : Nat} (h : E0 T Ln B0 ci ν0 ν p st tk) (hB : Br ν0 T Ln) (hcc : c = 33 ∨ c = 40) (ht : tx T Ln p = c) (hd : cnt st < 4) : ∃ ν', f_X10_takesE_L22 (XR ad D cA) (F + 1) 600 (Int32.ofNat ci) 1 ν = f_X10_takesE_L22 (XR ad D cA) F 600 (Int32.ofNat ci) 1 ν' ∧ E0 T Ln B0 ci ν0 ν' (p + 1) (c :: st) tk := by
  obtain ⟨ν1, f, h⟩ := h
  have hB1 := hB.b f
  have hL : Ln ≤ 100 := hB.2.1.1
  have hc : c ≤ 127 := by omega
  have l1 := tx_le ht hc
  have e := r_next (ad := ad) (D := D) (cA := cA) h hB1
  rw [(nx_eq (fun j hj => (hB.2.1.2.2 j hj).1) hc).mpr ht] at e
  obtain ⟨bP, -⟩ := h.B hB1
  have hh := h.2.2.2.2
  have h14 := h.2.1.1
  have h25 := h.2.2.2.1.1
  have h26 := h.2.2.2.1.2.2
  have n4 : ¬ Int32.ofNat (cnt st) = 4 := fun z => by have := (eqN 4 4 rfl (by omega) (by decide)).mp z; omega
  have hcn : cnt (c :: st) = cnt st + 1 := by show (if c = 40 ∨ c = 33 then 1 else 0) + cnt st = _; rw [if_pos (by omega)]; omega
  have hx : x_ix (Int32.ofNat st.length) 101 := iN_ix (by omega) (by omega)
  have hcl : (Int32.ofNat st.length).toNatClampNeg = st.length := iN_cl (by omega)
  have hn := h.push hc l1
  rw [hcn] at hn
  have a25 : (x_sI ν 600 26 (Int32.ofNat (cnt st + 1))).1 600 25 = Int32.ofNat st.length := by rw [sI_of (by omega)]; exact h25
  have b25 : (x_sI (x_sI ν 600 26 (Int32.ofNat (cnt st + 1))) 624 st.length (Int32.ofNat c)).1 600 25 = Int32.ofNat st.length := by rw [sI_of (by omega)]; exact a25
  have a14 : (x_sI (x_sI (x_sI ν 600 26 (Int32.ofNat (cnt st + 1))) 624 st.length (Int32.ofNat c)) 600 25 (Int32.ofNat (st.length + 1))).1 600 14 = Int32.ofNat p := by rw [sI_of (by omega), sI_of (by omega), sI_of (by omega)]; exact h14
  refine ⟨_, ?_, ν1, f, hn⟩
  have w01 : ∀ (X Y Z : Option (Int32 × x_M)), (if Int32.ofNat c = 33 then X else (if Int32.ofNat c = 40 then X else Y)) = X := fun X Y Z => by
    rcases hcc with rfl | rfl
    · exact if_pos rfl
    · exact (if_neg (by decide)).trans (if_pos rfl)
  conv => lhs; unfold f_X10_takesE_L22
  simp only [↓ckE, ↓reduceIte, kR, RK, Nat.reduceAdd, e, bdE, iE, w01 _ _ none]
  unfold f_X10_takesE_J43
  simp only [↓ckE, ↓ltE, ↓reduceIte, kR, lR, RK, RN, sI_2, RP bP, Nat.reduceAdd, h26, n4, iN_s, a25, true_and, ↓ixT hx, hcl, b25, a14]
theorem m1_full {c : Nat} (h : E0 T Ln B0 ci ν0 ν p st tk) (hB : Br ν0 T Ln) (hcc : c = 33 ∨ c = 40) (ht : tx T Ln p = c) (hd : cnt st = 4) : f_X10_takesE_L22 (XR ad D cA) (F + 1) 600 (Int32.ofNat ci) 1 ν = some (0, ν) := by
  obtain ⟨ν1, f, h⟩ := h
  have hB1 := hB.b f
  have hc : c ≤ 127 := by omega
  have e := r_next (ad := ad) (D := D) (cA := cA) h hB1
  rw [(nx_eq (fun j hj => (hB.2.1.2.2 j hj).1) hc).mpr ht] at e
  have h26 := h.2.2.2.1.2.2
  rw [hd] at h26
  have h26' : ν.1 600 26 = 4 := h26
  have w01 : ∀ (X Y Z : Option (Int32 × x_M)), (if Int32.ofNat c = 33 then X else (if Int32.ofNat c = 40 then X else Y)) = X := fun X Y Z => by
    rcases hcc with rfl | rfl
    · exact if_pos rfl
    · exact (if_neg (by decide)).trans (if_pos rfl)
  conv => lhs; unfold f_X10_takesE_L22
  simp only [↓ckE, ↓reduceIte, kR, RK, Nat.reduceAdd, e, bdE, iE, w01 _ _ none]
  unfold f_X10_takesE_J43
  simp only [↓ckE, ↓reduceIte, kR, RK, Nat.reduceAdd, h26', true_or]
theorem m1_test (h : E0 T Ln B0 ci ν0 ν p st tk) (hB : Br ν0 T Ln) (hb : B0 ≤ 500) (n33 : ¬ tx T Ln p = 33) (n40 : ¬ tx T Ln p = 40) : (∃ q t ν', tstS T Ln p = (q, some t) ∧ f_X10_takesE_L22 (XR ad D cA) (F + 1) 600 (Int32.ofNat ci) 1 ν = f_X10_takesE_L22 (XR ad D cA) F 600 (Int32.ofNat ci) 0 ν' ∧ E0 T Ln B0 ci ν0 ν' q (stp st) (tk ++ [t] ++ nts st)) ∨ ∃ q ν', tstS T Ln p = (q, none) ∧ f_X10_takesE_L22 (XR ad D cA) (F + 1) 600 (Int32.ofNat ci) 1 ν = some (0, ν') ∧ E0 T Ln B0 ci ν0 ν' q st tk := by
  obtain ⟨ν1, f, h⟩ := h
  have hB1 := hB.b f
  have hT : ∀ j, j < Ln → T j ≤ 127 := fun j hj => (hB.2.1.2.2 j hj).1
  have e := r_next (ad := ad) (D := D) (cA := cA) h hB1
  have m33 : ¬ nx T Ln p = 33 := fun z => n33 ((nx_eq hT (by omega)).mp z)
  have m40 : ¬ nx T Ln p = 40 := fun z => n40 ((nx_eq hT (by omega)).mp z)
  rcases r_test (ad := ad) (D := D) (cA := cA) h hB1 hb with ⟨q, t, ν', e1, e2, h1⟩ | ⟨q, ν', e1, e2, h1⟩
  · refine Or.inl ⟨q, t, ν', e1, ?_, ν1, f, h1⟩
    conv => lhs; unfold f_X10_takesE_L22
    simp only [↓ckE, ↓reduceIte, kR, RK, Nat.reduceAdd, e, bdE, iE, m33, m40, e2]
  · refine Or.inr ⟨q, ν', e1, ?_, ν1, f, h1⟩
    conv => lhs; unfold f_X10_takesE_L22
    simp only [↓ckE, ↓reduceIte, kR, RK, Nat.reduceAdd, e, bdE, iE, m33, m40, e2, true_or]
end STP
