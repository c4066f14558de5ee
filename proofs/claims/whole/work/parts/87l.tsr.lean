/-! ===== law: the reference settles, reads a test ===== -/
section TSR
variable {ad : Nat → Nat} {D : va_G} {cA : Nat → ClassId} {ν ν0 : x_M} {T : Nat → Nat} {Ln p B0 : Nat} {st : List Nat} {tk : List Tok}
theorem r_emitP {t : Tok} (h : Pq T Ln B0 ν0 ν p st tk) (hB : Br ν0 T Ln) (hb : B0 ≤ 500) (ht : tk.length + 1 + st.length ≤ p) : ∃ ν', f_X10_emits (XR ad D cA) 600 (encR t) ν = some ((), ν') ∧ Pq T Ln B0 ν0 ν' p st (tk ++ [t]) := by
  have hL : Ln ≤ 100 := hB.2.1.1
  have hp := h.2.1.2
  obtain ⟨ν1, e2, ⟨f1, f1'⟩, ⟨g1, g2, g3⟩, g4⟩ := r_emit (ad := ad) (D := D) (cA := cA) (t := t) (st' := st) (a := 0) (b := 0) (c := 0) h hB hb (by omega)
  obtain ⟨h1, ⟨h2, h3⟩, -, ⟨h7, h8, h9⟩, h10⟩ := h
  refine ⟨ν1, e2, h1.tr f1', ⟨?_, h3⟩, ⟨g1, g2, g3⟩, ⟨?_, PS_cg (fun j _ => g4 624 j (by omega) (by omega)) h8, ?_⟩, by rw [List.length_append]; exact ht⟩
  · rw [g4 600 14 (by omega) (by omega)]; exact h2
  · rw [g4 600 25 (by omega) (by omega)]; exact h7
  · rw [g4 600 26 (by omega) (by omega)]; exact h9
theorem r_setL (hB : Br ν0 T Ln) (hb : B0 ≤ 500) (c : Nat) (hc : c ≤ 127) : ∀ (st : List Nat) (F : Nat) (ν : x_M) (tk : List Tok), st.length < F → Pq T Ln B0 ν0 ν p st tk → ∃ ν', f_X10_settle_L0 (XR ad D cA) F 600 (Int32.ofNat c) ν = some ((), ν') ∧ Pq T Ln B0 ν0 ν' p (sps c st) (tk ++ sts c st) := by
  intro st
  have hL : Ln ≤ 100 := hB.2.1.1
  induction st with
  | nil =>
    intro F ν tk hF h
    obtain ⟨F, rfl⟩ : ∃ n, F = n + 1 := ⟨F - 1, by omega⟩
    have h25 : ν.1 600 25 = 0 := h.2.2.2.1.1
    refine ⟨ν, ?_, by show Pq T Ln B0 ν0 ν p [] (tk ++ []); rw [List.append_nil]; exact h⟩
    unfold f_X10_settle_L0
    simp only [↓ckE, ↓reduceIte, kR, RK, Nat.reduceAdd, h25, show (0 : Int32) ≤ 0 from by decide]
  | cons b r ih =>
    intro F ν tk hF h
    obtain ⟨F, rfl⟩ : ∃ n, F = n + 1 := ⟨F - 1, by omega⟩
    have hlen : (b :: r).length = r.length + 1 := rfl
    obtain ⟨bP, -⟩ := h.B hB
    obtain ⟨h1, ⟨h2, h3⟩, ⟨h4, h5, h6⟩, ⟨h7, ⟨⟨h8, h8'⟩, h8r⟩, h9⟩, h10⟩ := id h
    rw [hlen] at h7 h10 hF
    have n0 : ¬ Int32.ofNat (r.length + 1) ≤ 0 := fun z => by have := (leN 0 0 rfl (by omega) (by decide)).mp z; omega
    have e1 : Int32.ofNat (r.length + 1) - (1 : Int32) = Int32.ofNat r.length := by rw [show (1 : Int32) = Int32.ofNat 1 from rfl, iN_sub (by omega)]; rfl
    have hx : x_ix (Int32.ofNat r.length) 101 := iN_ix (by omega) (by omega)
    have hcl : (Int32.ofNat r.length).toNatClampNeg = r.length := iN_cl (by omega)
    -- an operation is popped and written
    have pop : ∀ (t : Tok), -(Int32.ofNat b) = encR t → ¬ (b = 40 ∨ b = 33) → ∃ ν', f_X10_settle_J45 (XR ad D cA) (f_X10_settle_L0 (XR ad D cA) F) 600 (Int32.ofNat c) ν = some ((), ν') ∧ Pq T Ln B0 ν0 ν' p (sps c r) (tk ++ [t] ++ sts c r) := by
      intro t et nb
      have hcn : cnt (b :: r) = cnt r := by show (if b = 40 ∨ b = 33 then 1 else 0) + cnt r = _; rw [if_neg nb]; omega
      rw [hcn] at h9
      have hn : Pq T Ln B0 ν0 (x_sI ν 600 25 (Int32.ofNat r.length)) p r tk := by
        refine ⟨h1.tr (frC.sI (Or.inl ⟨rfl, by omega⟩)), ⟨?_, h3⟩, ⟨?_, SegI_cg (fun j _ _ => sI_of (by omega)) h5, fun j hj => ?_⟩, ⟨sI_in, PS_cg (fun j _ => sI_of (by omega)) h8r, ?_⟩, by omega⟩
        · rw [sI_of (by omega)]; exact h2
        · rw [sI_of (by omega)]; exact h4
        · rw [sI_of (by omega)]; exact h6 j hj
        · rw [sI_of (by omega)]; exact h9
      obtain ⟨ν1, e2, hn1⟩ := r_emitP (ad := ad) (D := D) (cA := cA) (t := t) hn hB hb (by omega)
      obtain ⟨ν2, e3, hn2⟩ := ih F ν1 (tk ++ [t]) (by omega) hn1
      refine ⟨ν2, ?_, hn2⟩
      have k25 : (x_sI ν 600 25 (Int32.ofNat r.length)).1 600 25 = Int32.ofNat r.length := sI_in
      have k624 : (x_sI ν 600 25 (Int32.ofNat r.length)).1 624 r.length = Int32.ofNat b := by rw [sI_of (by omega)]; exact h8
      rw [← et] at e2
      unfold f_X10_settle_J45
      simp only [↓ckE, ↓ltE, ↓reduceIte, kR, lR, RK, RN, sI_2, RP bP, Nat.reduceAdd, h7, e1, true_or, true_and, ↓ixT hx, hcl, k25, k624, e2, bdE, e3]
    by_cases q : b = 38
    · subst q
      obtain ⟨ν2, e3, h11⟩ := pop (2, 0, 0, 0) (by decide) (by omega)
      refine ⟨ν2, ?_, ?_⟩
      · unfold f_X10_settle_L0
        simp only [↓ckE, ↓ltE, ↓reduceIte, kR, lR, RK, RN, RP bP, Nat.reduceAdd, h7, n0, e1, true_or, true_and, ↓ixT hx, hcl, h8, show Int32.ofNat 38 = (38 : Int32) from rfl, e3]
      · show Pq T Ln B0 ν0 ν2 p (if (38 : Nat) = 38 then sps c r else _) (tk ++ (if (38 : Nat) = 38 then (2, 0, 0, 0) :: sts c r else _))
        rw [if_pos rfl, if_pos rfl, show tk ++ (2, 0, 0, 0) :: sts c r = tk ++ [(2, 0, 0, 0)] ++ sts c r from by simp]
        exact h11
    · have nb : ¬ Int32.ofNat b = 38 := fun z => q ((eqN 38 38 rfl (by omega) (by decide)).mp z)
      have s1 : sps c (b :: r) = (if b = 124 then (if c = 38 then b :: r else sps c r) else b :: r) := if_neg q
      have s2 : sts c (b :: r) = (if b = 124 then (if c = 38 then [] else (3, 0, 0, 0) :: sts c r) else []) := if_neg q
      rw [s1, s2]
      by_cases q2 : b = 124
      · subst q2
        rw [if_pos rfl, if_pos rfl]
        by_cases q3 : c = 38
        · rw [if_pos q3, if_pos q3, List.append_nil]
          refine ⟨ν, ?_, h⟩
          unfold f_X10_settle_L0
          rw [q3]
          simp only [↓ckE, ↓ltE, ↓reduceIte, kR, lR, RK, RN, RP bP, Nat.reduceAdd, h7, n0, e1, true_or, true_and, ↓ixT hx, hcl, h8, show Int32.ofNat 124 = (124 : Int32) from rfl, show Int32.ofNat 38 = (38 : Int32) from rfl, show ¬ (124 : Int32) = 38 from by decide]
        · rw [if_neg q3, if_neg q3]
          obtain ⟨ν2, e3, h11⟩ := pop (3, 0, 0, 0) (by decide) (by omega)
          have nc : ¬ Int32.ofNat c = 38 := fun z => q3 ((eqN 38 38 rfl (by omega) (by decide)).mp z)
          refine ⟨ν2, ?_, by rw [show tk ++ (3, 0, 0, 0) :: sts c r = tk ++ [(3, 0, 0, 0)] ++ sts c r from by simp]; exact h11⟩
          unfold f_X10_settle_L0
          simp only [↓ckE, ↓ltE, ↓reduceIte, kR, lR, RK, RN, RP bP, Nat.reduceAdd, h7, n0, e1, true_or, true_and, ↓ixT hx, hcl, h8, show Int32.ofNat 124 = (124 : Int32) from rfl, show ¬ (124 : Int32) = 38 from by decide, nc, e3]
      · have nb2 : ¬ Int32.ofNat b = 124 := fun z => q2 ((eqN 124 124 rfl (by omega) (by decide)).mp z)
        rw [if_neg q2, if_neg q2, List.append_nil]
        refine ⟨ν, ?_, h⟩
        unfold f_X10_settle_L0
        simp only [↓ckE, ↓ltE, ↓reduceIte, kR, lR, RK, RN, RP bP, Nat.reduceAdd, h7, n0, e1, true_or, true_and, ↓ixT hx, hcl, h8, nb, nb2]
theorem r_test (h : Pq T Ln B0 ν0 ν p st tk) (hB : Br ν0 T Ln) (hb : B0 ≤ 500) : (∃ q t ν', tstS T Ln p = (q, some t) ∧ f_X10_takesTest (XR ad D cA) 600 ν = some (1, ν') ∧ Pq T Ln B0 ν0 ν' q (stp st) (tk ++ [t] ++ nts st)) ∨ ∃ q ν', tstS T Ln p = (q, none) ∧ f_X10_takesTest (XR ad D cA) 600 ν = some (0, ν') ∧ Pq T Ln B0 ν0 ν' q st tk := by
  have hT : ∀ j, j < Ln → T j ≤ 127 := fun j hj => (hB.2.1.2.2 j hj).1
  have hL : Ln ≤ 100 := hB.2.1.1
  have en := r_next (ad := ad) (D := D) (cA := cA) h hB
  have hh := h.2.2.2.2
  -- the letter
  have epl : plc (nx T Ln p) = Int32.ofInt (idx (tx T Ln p) (strs (811 + 5)) 0) := by
    unfold nx tx
    by_cases q : p < Ln
    · rw [if_pos q, if_pos q]; exact plc_v.1 _ (hT p q)
    · rw [if_neg q, if_neg q, idx999 5 (by omega)]; exact plc_v.2
  have b5 := idx_ge (tx T Ln p) (strs (811 + 5)) 0
  have len5 := (sK 5 (by omega)).2.2.2.1
  unfold f_X10_takesTest tstS
  by_cases q1 : idx (tx T Ln p) (strs (811 + 5)) 0 < 0
  · rw [if_pos q1]
    have m1 : ¬ (0 : Int32) ≤ Int32.ofInt (idx (tx T Ln p) (strs (811 + 5)) 0) := fun g => by have := (geI 0 0 rfl (by decide) (by omega)).mp g; omega
    refine Or.inr ⟨p, ν, rfl, ?_, h⟩
    simp only [↓ckE, ↓reduceIte, kR, RK, Nat.reduceAdd, en, bdE, r_place, epl, m1, true_or]
  · have l1 := idx_lt (by omega) q1
    rw [if_neg q1]
    have m1 : (0 : Int32) ≤ Int32.ofInt (idx (tx T Ln p) (strs (811 + 5)) 0) := (geI 0 0 rfl (by decide) (by omega)).mpr (by omega)
    have h1 := h.adv (q := p + 1) l1 (by omega)
    have en1 := r_next (ad := ad) (D := D) (cA := cA) h1 hB
    have g6 := nx_rng (T := T) (Ln := Ln) (p := p + 1) (a := 60) (b := 62) hT (by omega)
    have g6' : ((60 : Int32) ≤ nx T Ln (p + 1) ∧ nx T Ln (p + 1) ≤ 62) ↔ (60 ≤ tx T Ln (p + 1) ∧ tx T Ln (p + 1) ≤ 62) := ⟨fun z => (g6.mp ⟨z, by omega⟩).1, fun z => (g6.mpr ⟨z, by omega⟩).1⟩
    have hrel : idx (tx T Ln (p + 1)) (strs (811 + 6)) 0 = if 60 ≤ tx T Ln (p + 1) ∧ tx T Ln (p + 1) ≤ 62 then (tx T Ln (p + 1) : Int) - 60 else -1 := by
      by_cases q : p + 1 < Ln
      · exact rel_v _ (by unfold tx; rw [if_pos q]; exact hT _ q)
      · have e9 : tx T Ln (p + 1) = 999 := by unfold tx; rw [if_neg q]
        rw [e9, idx999 6 (by omega), if_neg (by omega)]
    have h14 := h.2.1.1
    by_cases q2 : 60 ≤ tx T Ln (p + 1) ∧ tx T Ln (p + 1) ≤ 62
    · rw [if_pos q2] at hrel
      have q2' : ¬ idx (tx T Ln (p + 1)) (strs (811 + 6)) 0 < 0 := by rw [hrel]; omega
      have l2 := idx_lt (by omega) q2'
      rw [if_neg q2']
      have h2 := h1.adv (q := p + 2) l2 (by omega)
      have i14 : (x_sI ν 600 14 (Int32.ofNat (p + 1))).1 600 14 = Int32.ofNat (p + 1) := sI_in
      have nb := numS_b (T := T) (Ln := Ln) (p := p + 2) h2.2.1.2
      rcases r_num (ad := ad) (D := D) (cA := cA) h2 hB with ⟨q3, e3⟩ | ⟨q3, ν3, e3, h3, h15⟩
      · rw [if_pos q3]
        have nb' := nb.2.2.2 q3
        rw [nb']
        refine Or.inr ⟨p + 2, _, rfl, ?_, h2⟩
        simp only [↓ckE, ↓ltE, ↓reduceIte, kR, RK, Nat.reduceAdd, en, bdE, r_place, epl, m1, h14, iN_s, en1, r_in, g6'.mpr q2, and_self, iE, i14, show p + 1 + 1 = p + 2 from rfl, e3, true_or]
      · rw [if_neg (by omega)]
        have np := nb.2.2.1 q3
        obtain ⟨ν4, e4, h4⟩ := r_emitP (ad := ad) (D := D) (cA := cA) (t := (0, (idx (tx T Ln p) (strs (811 + 5)) 0).toNat, (idx (tx T Ln (p + 1)) (strs (811 + 6)) 0).toNat, (numS T Ln (p + 2)).1.toNat)) h3 hB hb (by omega)
        obtain ⟨ν5, e5, h5⟩ := r_wholeL (ad := ad) (D := D) (cA := cA) hB hb st 4096 ν4 _ (by omega) h4
        have en1' : nx T Ln (p + 1) = Int32.ofNat (tx T Ln (p + 1)) := (nx_eq hT (by omega)).mpr rfl
        have ee : (1000 : Int32) * Int32.ofInt (idx (tx T Ln p) (strs (811 + 5)) 0) + (100 : Int32) * (Int32.ofNat (tx T Ln (p + 1)) - (60 : Int32)) + Int32.ofInt (numS T Ln (p + 2)).1 = encR (0, (idx (tx T Ln p) (strs (811 + 5)) 0).toNat, (idx (tx T Ln (p + 1)) (strs (811 + 6)) 0).toNat, (numS T Ln (p + 2)).1.toNat) := by
          unfold encR
          rw [if_pos rfl, iN_I, iN_I, show (1000 : Int32) = Int32.ofInt 1000 from rfl, show (100 : Int32) = Int32.ofInt 100 from rfl, show (60 : Int32) = Int32.ofInt 60 from rfl, ← Int32.ofInt_sub, ← Int32.ofInt_mul, ← Int32.ofInt_mul, ← Int32.ofInt_add, ← Int32.ofInt_add]
          exact congrArg Int32.ofInt (by simp only []; omega)
        have r60 := g6'.mpr q2
        rw [en1'] at r60 en1
        refine Or.inl ⟨_, _, ν5, rfl, ?_, h5⟩
        unfold f_X10_whole
        simp only [↓ckE, ↓ltE, ↓reduceIte, kR, RK, Nat.reduceAdd, en, bdE, r_place, epl, m1, h14, iN_s, en1, r_in, r60, and_self, iE, i14, show p + 1 + 1 = p + 2 from rfl, e3, h15, ee, e4, e5, or_true]
    · rw [if_neg q2] at hrel
      rw [if_pos (show idx (tx T Ln (p + 1)) (strs (811 + 6)) 0 < 0 from by rw [hrel]; decide)]
      have r60 : ¬ ((60 : Int32) ≤ nx T Ln (p + 1) ∧ nx T Ln (p + 1) ≤ 62) := fun z => q2 (g6'.mp z)
      refine Or.inr ⟨p + 1, _, rfl, ?_, h1⟩
      simp only [↓ckE, ↓ltE, ↓reduceIte, kR, RK, Nat.reduceAdd, en, bdE, r_place, epl, m1, h14, iN_s, en1, r_in, r60, true_or]
end TSR
