/-! ===== law: a clause's head in the reference ===== -/
section HDR
variable {ad : Nat → Nat} {D : va_G} {cA : Nat → ClassId} {ν ν0 : x_M} {T : Nat → Nat} {Ln p ci : Nat}
def hOk (T : Nat → Nat) (Ln p w : Nat) : Prop := mW T Ln p w = (strs (811 + w)).length ∧ tx T Ln (p + (strs (811 + w)).length) = 32
theorem Br.w {o k : Nat} {v : Int32} (h : Br ν0 T Ln) (ho : o = 619 ∨ o = 620 ∨ o = 621 ∨ o = 618) : Br (x_sI ν0 o k v) T Ln := by
  obtain ⟨b1, ⟨b2, b3, b4⟩, b5⟩ := h
  refine ⟨b1, ⟨b2, ?_, fun j hj => ⟨(b4 j hj).1, ?_⟩⟩, fun j => ?_⟩
  · rw [sI_of (by omega)]; exact b3
  · rw [sI_of (by omega)]; exact (b4 j hj).2
  · rw [sI_of (by omega)]; exact b5 j
theorem Hq.w {o k : Nat} {v : Int32} (h : Hq T Ln ν0 ν p) (ho : o = 619 ∨ o = 620 ∨ o = 621 ∨ o = 618) : Hq T Ln (x_sI ν0 o k v) (x_sI ν o k v) p := by
  obtain ⟨⟨r1, h1⟩, ⟨h2, h3⟩, -⟩ := h
  refine ⟨⟨r1, fun q j z => ?_⟩, ⟨by rw [sI_of (by omega)]; exact h2, h3⟩, trivial⟩
  by_cases y : q = o ∧ j = k
  · rw [y.1, y.2, sI_in, sI_in]
  · rw [sI_of y, sI_of y]; exact h1 q j z
theorem h_word {w : Nat} (h : Hq T Ln ν0 ν p) (hB : Br ν0 T Ln) (hw : w < 5) : ∃ r ν', f_X10_takesWord (XR ad D cA) 600 (Int32.ofNat (off w)) (Int32.ofNat (strs (811 + w)).length) ν = some (r, ν') ∧ ((hOk T Ln p w ∧ r = 1 ∧ Hq T Ln ν0 ν' (p + (strs (811 + w)).length + 1)) ∨ (¬ hOk T Ln p w ∧ r = 0 ∧ Hq T Ln ν0 ν' (p + mW T Ln p w))) := by
  obtain ⟨ν', e, h1⟩ := h_wordL (ad := ad) (D := D) (cA := cA) (s := w) (p := p) hB hw (strs (811 + w)).length 0 4096 ν (by omega) (by have := (sK w (by omega)).2.2.2.1; omega) h
  rw [List.drop_zero] at e h1
  refine ⟨_, ν', e, ?_⟩
  by_cases q : hOk T Ln p w
  · have q' : mtc T Ln (p + 0) (strs (811 + w)) = (strs (811 + w)).length ∧ tx T Ln (p + 0 + (strs (811 + w)).length) = 32 := q
    rw [if_pos q'] at h1
    exact Or.inl ⟨q, if_pos q', h1⟩
  · have q' : ¬ (mtc T Ln (p + 0) (strs (811 + w)) = (strs (811 + w)).length ∧ tx T Ln (p + 0 + (strs (811 + w)).length) = 32) := q
    rw [if_neg q'] at h1
    exact Or.inr ⟨q, if_neg q', h1⟩
theorem h_second (h : Hq T Ln ν0 ν p) (hB : Br ν0 T Ln) : f_X10_second (XR ad D cA) 600 ν = some (nx T Ln (p + 1), ν) := by
  obtain ⟨bP, b3, b4, b5⟩ := h.B hB
  have h14 := h.2.1.1
  have hp := h.2.1.2
  have hL : Ln ≤ 100 := hB.2.1.1
  unfold f_X10_second nx
  by_cases q : p + 1 < Ln
  · have n2 : ¬ Int32.ofNat Ln ≤ Int32.ofNat (p + 1) := fun z => by have := (iN_le (by omega) (by omega)).mp z; omega
    have hx : x_ix (Int32.ofNat (p + 1)) 100 := iN_ix (by omega) (by omega)
    have hcl : (Int32.ofNat (p + 1)).toNatClampNeg = p + 1 := iN_cl (by omega)
    rw [if_pos q]
    simp only [↓ckE, ↓ltE, ↓reduceIte, kR, lR, RK, RN, RP bP, Nat.reduceAdd, b3, h14, iN_s, n2, true_or, true_and, ↓ixT hx, hcl, (b4 (p + 1) q).2]
  · have n2 : Int32.ofNat Ln ≤ Int32.ofNat (p + 1) := (iN_le (by omega) (by omega)).mpr (by omega)
    rw [if_neg q]
    simp only [↓ckE, ↓reduceIte, kR, RK, Nat.reduceAdd, b3, h14, iN_s, n2]
/-- the head: its word is written, and taken with the blank behind it -/
theorem h_head (h : Hq T Ln ν0 ν p) (hB : Br ν0 T Ln) (hci : ci < 60) : ∃ r ν', f_X10_takesHead (XR ad D cA) 600 (Int32.ofNat ci) ν = some (r, ν') ∧ ((hOk T Ln p (hwd T Ln p) ∧ r = 1 ∧ Hq T Ln (x_sI ν0 619 ci (Int32.ofNat (hwd T Ln p))) ν' (p + (strs (811 + hwd T Ln p)).length + 1)) ∨ (¬ hOk T Ln p (hwd T Ln p) ∧ r = 0 ∧ Hq T Ln (x_sI ν0 619 ci (Int32.ofNat (hwd T Ln p))) ν' (p + mW T Ln p (hwd T Ln p)))) := by
  obtain ⟨n0, n1, n2, n3, n4⟩ := str_ln
  have hT : ∀ j, j < Ln → T j ≤ 127 := fun j hj => (hB.2.1.2.2 j hj).1
  obtain ⟨bP, -⟩ := h.B hB
  have en := h_next (ad := ad) (D := D) (cA := cA) h hB
  have es := h_second (ad := ad) (D := D) (cA := cA) h hB
  have hx : x_ix (Int32.ofNat ci) 60 := iN_ix (by omega) (by omega)
  have hcl : (Int32.ofNat ci).toNatClampNeg = ci := iN_cl (by omega)
  have nc : ∀ c, c ≤ 127 → (nx T Ln p = Int32.ofNat c ↔ tx T Ln p = c) := fun c hc => nx_eq hT hc
  have step : ∀ w, w < 5 → hwd T Ln p = w → ∃ r ν', f_X10_takesWord (XR ad D cA) 600 (Int32.ofNat (off w)) (Int32.ofNat (strs (811 + w)).length) (x_sI ν 619 ci (Int32.ofNat w)) = some (r, ν') ∧ (r = 0 ∨ r = 1) ∧ ((hOk T Ln p (hwd T Ln p) ∧ r = 1 ∧ Hq T Ln (x_sI ν0 619 ci (Int32.ofNat (hwd T Ln p))) ν' (p + (strs (811 + hwd T Ln p)).length + 1)) ∨ (¬ hOk T Ln p (hwd T Ln p) ∧ r = 0 ∧ Hq T Ln (x_sI ν0 619 ci (Int32.ofNat (hwd T Ln p))) ν' (p + mW T Ln p (hwd T Ln p)))) := by
    intro w hw e
    obtain ⟨r, ν', e1, e2⟩ := h_word (ad := ad) (D := D) (cA := cA) (h.w (o := 619) (k := ci) (v := Int32.ofNat w) (Or.inl rfl)) (hB.w (Or.inl rfl)) hw
    rw [e]
    exact ⟨r, ν', e1, by rcases e2 with z | z <;> simp [z.2.1], e2⟩
  unfold f_X10_takesHead
  by_cases c1 : tx T Ln p = 102
  · obtain ⟨r, ν', e1, er, e2⟩ := step 3 (by omega) (if_pos c1)
    rw [n3] at e1
    have m1 : nx T Ln p = 102 := (nc 102 (by omega)).mpr c1
    have e1' : f_X10_takesWord (XR ad D cA) 600 13 5 (x_sI ν 619 ci 3) = some (r, ν') := e1
    refine ⟨r, ν', ?_, e2⟩
    simp only [↓ckE, ↓ltE, ↓swE, ↓reduceIte, kR, lR, RK, RN, RP bP, Nat.reduceAdd, en, bdE, m1, true_and, ↓ixT hx, hcl, e1', er]
  have m1 : ¬ nx T Ln p = 102 := fun z => c1 ((nc 102 (by omega)).mp z)
  by_cases c2 : tx T Ln p = 109
  · obtain ⟨r, ν', e1, er, e2⟩ := step 2 (by omega) ((if_neg c1).trans (if_pos c2))
    rw [n2] at e1
    have m2 : nx T Ln p = 109 := (nc 109 (by omega)).mpr c2
    have e1' : f_X10_takesWord (XR ad D cA) 600 9 4 (x_sI ν 619 ci 2) = some (r, ν') := e1
    refine ⟨r, ν', ?_, e2⟩
    simp only [↓ckE, ↓ltE, ↓swE, ↓reduceIte, kR, lR, RK, RN, RP bP, Nat.reduceAdd, en, bdE, m2, show ¬ (109 : Int32) = 102 from by decide, true_and, ↓ixT hx, hcl, e1', er]
  have m2 : ¬ nx T Ln p = 109 := fun z => c2 ((nc 109 (by omega)).mp z)
  by_cases c3 : tx T Ln p = 114
  · obtain ⟨r, ν', e1, er, e2⟩ := step 4 (by omega) ((if_neg c1).trans ((if_neg c2).trans (if_pos c3)))
    rw [n4] at e1
    have m3 : nx T Ln p = 114 := (nc 114 (by omega)).mpr c3
    have e1' : f_X10_takesWord (XR ad D cA) 600 18 4 (x_sI ν 619 ci 4) = some (r, ν') := e1
    refine ⟨r, ν', ?_, e2⟩
    simp only [↓ckE, ↓ltE, ↓swE, ↓reduceIte, kR, lR, RK, RN, RP bP, Nat.reduceAdd, en, bdE, m3, show ¬ (114 : Int32) = 102 from by decide, show ¬ (114 : Int32) = 109 from by decide, true_and, ↓ixT hx, hcl, e1', er]
  have m3 : ¬ nx T Ln p = 114 := fun z => c3 ((nc 114 (by omega)).mp z)
  by_cases c4 : tx T Ln (p + 1) = 112
  · obtain ⟨r, ν', e1, er, e2⟩ := step 0 (by omega) ((if_neg c1).trans ((if_neg c2).trans ((if_neg c3).trans (if_pos c4))))
    rw [n0] at e1
    have m4 : nx T Ln (p + 1) = 112 := (nx_eq (c := 112) hT (by omega)).mpr c4
    have e1' : f_X10_takesWord (XR ad D cA) 600 0 6 (x_sI ν 619 ci 0) = some (r, ν') := e1
    have e9 : (x_sI ν 619 ci 0).1 619 ci = 0 := sI_in
    refine ⟨r, ν', ?_, e2⟩
    unfold f_X10_takesHead_J104
    simp only [↓ckE, ↓ltE, ↓swE, sw_n, ↓reduceIte, kR, lR, RK, RN, sI_2, RP bP, Nat.reduceAdd, en, es, bdE, m1, m2, m3, m4, true_or, true_and, ↓ixT hx, hcl, e9, e1', er]
  · obtain ⟨r, ν', e1, er, e2⟩ := step 1 (by omega) ((if_neg c1).trans ((if_neg c2).trans ((if_neg c3).trans (if_neg c4))))
    rw [n1] at e1
    have m4 : ¬ nx T Ln (p + 1) = 112 := fun z => c4 ((nx_eq (c := 112) hT (by omega)).mp z)
    have e1' : f_X10_takesWord (XR ad D cA) 600 6 3 (x_sI ν 619 ci 1) = some (r, ν') := e1
    have e9 : (x_sI ν 619 ci 1).1 619 ci = 1 := sI_in
    refine ⟨r, ν', ?_, e2⟩
    unfold f_X10_takesHead_J104
    simp only [↓ckE, ↓ltE, ↓swE, sw_n, ↓reduceIte, kR, lR, RK, RN, sI_2, RP bP, Nat.reduceAdd, en, es, bdE, m1, m2, m3, m4, true_or, true_and, ↓ixT hx, hcl, e9, iE, e1', er]
end HDR
