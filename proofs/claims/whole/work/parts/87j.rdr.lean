/-! ===== law: the reference's reader: signs, numbers, the pile ===== -/
def pcR (o k : Nat) : Prop := (o = 600 ∧ ((14 ≤ k ∧ k ≤ 15) ∨ (24 ≤ k ∧ k ≤ 26))) ∨ o = 624 ∨ o = 623
def Br (ν0 : x_M) (T : Nat → Nat) (Ln : Nat) : Prop := Pr ν0 ∧ (Ln ≤ 100 ∧ ν0.1 600 13 = Int32.ofNat Ln ∧ ∀ j, j < Ln → T j ≤ 127 ∧ ν0.1 617 j = Int32.ofNat (T j)) ∧ ∀ k, ν0.1 628 k = cV 628 k
def cnt : List Nat → Nat
  | [] => 0
  | b :: r => (if b = 40 ∨ b = 33 then 1 else 0) + cnt r
def PS (ν : x_M) : List Nat → Prop
  | [] => True
  | b :: r => (ν.1 624 r.length = Int32.ofNat b ∧ b ≤ 127) ∧ PS ν r
theorem PS_cg {a b : x_M} : ∀ {st : List Nat}, (∀ j, j < st.length → b.1 624 j = a.1 624 j) → PS a st → PS b st
  | [], _, _ => True.intro
  | c :: r, h, q => ⟨⟨by rw [h r.length (by show r.length < r.length + 1; omega)]; exact q.1.1, q.1.2⟩, PS_cg (fun j hj => h j (by show j < r.length + 1; omega)) q.2⟩
def Pq (T : Nat → Nat) (Ln B0 : Nat) (ν0 ν : x_M) (p : Nat) (st : List Nat) (tk : List Tok) : Prop := frC pcR ν0 ν ∧ (ν.1 600 14 = Int32.ofNat p ∧ p ≤ Ln) ∧ (ν.1 600 24 = Int32.ofNat (B0 + tk.length) ∧ SegI (ν.1 623) encR B0 tk ∧ ∀ j, (j < B0 ∨ B0 + 100 ≤ j) → ν.1 623 j = ν0.1 623 j) ∧ (ν.1 600 25 = Int32.ofNat st.length ∧ PS ν st ∧ ν.1 600 26 = Int32.ofNat (cnt st)) ∧ tk.length + st.length ≤ p
def nx (T : Nat → Nat) (Ln p : Nat) : Int32 := if p < Ln then Int32.ofNat (T p) else -1
section RDR
variable {ad : Nat → Nat} {D : va_G} {cA : Nat → ClassId} {ν ν0 : x_M} {T : Nat → Nat} {Ln p B0 : Nat} {st : List Nat} {tk : List Tok}
theorem nx_eq {c : Nat} (hT : ∀ j, j < Ln → T j ≤ 127) (hc : c ≤ 127) : nx T Ln p = Int32.ofNat c ↔ tx T Ln p = c := by
  unfold nx tx
  by_cases q : p < Ln
  · rw [if_pos q, if_pos q]
    have := hT p q
    exact iN_inj (by omega) (by omega)
  · rw [if_neg q, if_neg q]
    refine ⟨fun z => ?_, fun z => by omega⟩
    have n : ¬ Int32.ofNat c < 0 := iN_neg (by omega)
    rw [← z] at n
    exact absurd (by decide) n
theorem Pq.B (h : Pq T Ln B0 ν0 ν p st tk) (hB : Br ν0 T Ln) : Pr ν ∧ ν.1 600 13 = Int32.ofNat Ln ∧ (∀ j, j < Ln → T j ≤ 127 ∧ ν.1 617 j = Int32.ofNat (T j)) ∧ ∀ k, ν.1 628 k = cV 628 k := by
  obtain ⟨b1, ⟨b2, b3, b4⟩, b5⟩ := hB
  have f := h.1
  refine ⟨f.Pr b1, ?_, fun j hj => ⟨(b4 j hj).1, ?_⟩, fun k => ?_⟩
  · rw [f.2 _ _ (by unfold pcR; omega)]; exact b3
  · rw [f.2 _ _ (by unfold pcR; omega)]; exact (b4 j hj).2
  · rw [f.2 _ _ (by unfold pcR; omega)]; exact b5 k
theorem r_next (h : Pq T Ln B0 ν0 ν p st tk) (hB : Br ν0 T Ln) : f_X10_next (XR ad D cA) 600 ν = some (nx T Ln p, ν) := by
  obtain ⟨bP, b3, b4, b5⟩ := h.B hB
  have h14 := h.2.1.1
  have hp := h.2.1.2
  have hL : Ln ≤ 100 := hB.2.1.1
  unfold f_X10_next nx
  by_cases q : p < Ln
  · have n2 : ¬ Int32.ofNat Ln ≤ Int32.ofNat p := fun z => by have := (iN_le (by omega) (by omega)).mp z; omega
    have hx : x_ix (Int32.ofNat p) 100 := iN_ix (by omega) (by omega)
    have hcl : (Int32.ofNat p).toNatClampNeg = p := iN_cl (by omega)
    rw [if_pos q]
    simp only [↓ckE, ↓ltE, ↓reduceIte, kR, lR, RK, RN, RP bP, Nat.reduceAdd, b3, h14, n2, true_or, true_and, ↓ixT hx, hcl, (b4 p q).2]
  · have n2 : Int32.ofNat Ln ≤ Int32.ofNat p := (iN_le (by omega) (by omega)).mpr (by omega)
    rw [if_neg q]
    simp only [↓ckE, ↓reduceIte, kR, RK, Nat.reduceAdd, b3, h14, n2]
theorem Pq.adv (h : Pq T Ln B0 ν0 ν p st tk) {q : Nat} (hq : q ≤ Ln) (hpq : p ≤ q) : Pq T Ln B0 ν0 (x_sI ν 600 14 (Int32.ofNat q)) q st tk := by
  obtain ⟨h1, ⟨h2, h3⟩, ⟨h4, h5, h6⟩, ⟨h7, h8, h9⟩, h10⟩ := h
  refine ⟨h1.tr (frC.sI (Or.inl ⟨rfl, by omega⟩)), ⟨sI_in, hq⟩, ⟨?_, ?_, fun j hj => ?_⟩, ⟨?_, ?_, ?_⟩, by omega⟩
  · rw [sI_of (by omega)]; exact h4
  · exact SegI_cg (fun j _ _ => sI_of (by omega)) h5
  · rw [sI_of (by omega)]; exact h6 j hj
  · rw [sI_of (by omega)]; exact h7
  · exact PS_cg (fun j _ => sI_of (by omega)) h8
  · rw [sI_of (by omega)]; exact h9
theorem Pq.n15 (h : Pq T Ln B0 ν0 ν p st tk) {v : Int32} : Pq T Ln B0 ν0 (x_sI ν 600 15 v) p st tk := by
  obtain ⟨h1, ⟨h2, h3⟩, ⟨h4, h5, h6⟩, ⟨h7, h8, h9⟩, h10⟩ := h
  refine ⟨h1.tr (frC.sI (Or.inl ⟨rfl, by omega⟩)), ⟨?_, h3⟩, ⟨?_, ?_, fun j hj => ?_⟩, ⟨?_, ?_, ?_⟩, h10⟩
  · rw [sI_of (by omega)]; exact h2
  · rw [sI_of (by omega)]; exact h4
  · exact SegI_cg (fun j _ _ => sI_of (by omega)) h5
  · rw [sI_of (by omega)]; exact h6 j hj
  · rw [sI_of (by omega)]; exact h7
  · exact PS_cg (fun j _ => sI_of (by omega)) h8
  · rw [sI_of (by omega)]; exact h9
theorem r_takes1 {c : Nat} (h : Pq T Ln B0 ν0 ν p st tk) (hB : Br ν0 T Ln) (hc : c ≤ 127) (ht : tx T Ln p = c) : f_X10_takes (XR ad D cA) 600 (Int32.ofNat c) ν = some (1, x_sI ν 600 14 (Int32.ofNat (p + 1))) ∧ Pq T Ln B0 ν0 (x_sI ν 600 14 (Int32.ofNat (p + 1))) (p + 1) st tk := by
  have e := r_next (ad := ad) (D := D) (cA := cA) h hB
  rw [(nx_eq (fun j hj => (hB.2.1.2.2 j hj).1) hc).mpr ht] at e
  refine ⟨?_, h.adv (tx_le ht hc) (by omega)⟩
  unfold f_X10_takes
  simp only [↓ckE, ↓ltE, ↓reduceIte, kR, RK, Nat.reduceAdd, e, bdE, h.2.1.1, iN_s, or_true]
theorem r_takes0 {c : Nat} (h : Pq T Ln B0 ν0 ν p st tk) (hB : Br ν0 T Ln) (hc : c ≤ 127) (ht : ¬ tx T Ln p = c) : f_X10_takes (XR ad D cA) 600 (Int32.ofNat c) ν = some (0, ν) := by
  have e := r_next (ad := ad) (D := D) (cA := cA) h hB
  have n : ¬ nx T Ln p = Int32.ofNat c := fun z => ht ((nx_eq (p := p) (fun j hj => (hB.2.1.2.2 j hj).1) hc).mp z)
  unfold f_X10_takes
  simp only [↓ckE, ↓ltE, ↓reduceIte, kR, RK, Nat.reduceAdd, e, bdE, n, true_or]
theorem nx_rng {a b : Nat} (hT : ∀ j, j < Ln → T j ≤ 127) (hb : b ≤ 127) : (Int32.ofNat a ≤ nx T Ln p ∧ nx T Ln p ≤ Int32.ofNat b) ∧ a ≤ 127 ↔ (a ≤ tx T Ln p ∧ tx T Ln p ≤ b) ∧ a ≤ 127 := by
  unfold nx tx
  by_cases q : p < Ln
  · rw [if_pos q, if_pos q]
    have := hT p q
    constructor
    · intro ⟨⟨z1, z2⟩, z3⟩
      exact ⟨⟨(iN_le (by omega) (by omega)).mp z1, (iN_le (by omega) (by omega)).mp z2⟩, z3⟩
    · intro ⟨⟨z1, z2⟩, z3⟩
      exact ⟨⟨(iN_le (by omega) (by omega)).mpr z1, (iN_le (by omega) (by omega)).mpr z2⟩, z3⟩
  · rw [if_neg q, if_neg q]
    constructor
    · intro ⟨⟨z1, _⟩, z3⟩
      have n : ¬ Int32.ofNat a < 0 := iN_neg (by omega)
      exact absurd (Int32.lt_of_le_of_lt z1 (by decide)) n
    · intro ⟨⟨_, z2⟩, _⟩
      omega
theorem r_dig (h : Pq T Ln B0 ν0 ν p st tk) (hB : Br ν0 T Ln) : f_X10_isDigit (XR ad D cA) 600 ν = some (if dg T Ln p then 1 else 0, ν) := by
  have e := r_next (ad := ad) (D := D) (cA := cA) h hB
  have g := nx_rng (T := T) (Ln := Ln) (p := p) (a := 48) (b := 57) (fun j hj => (hB.2.1.2.2 j hj).1) (by omega)
  have g' : ((48 : Int32) ≤ nx T Ln p ∧ nx T Ln p ≤ 57) ↔ dg T Ln p := ⟨fun z => (g.mp ⟨z, by omega⟩).1, fun z => (g.mpr ⟨z, by omega⟩).1⟩
  unfold f_X10_isDigit
  simp only [↓ckE, ↓reduceIte, kR, RK, Nat.reduceAdd, e, bdE, r_in]
  by_cases z : dg T Ln p
  · rw [if_pos (g'.mpr z), if_pos z, if_pos (Or.inr rfl)]
  · rw [if_neg (fun y => z (g'.mp y)), if_neg z, if_pos (Or.inl rfl)]
theorem dg_lt (z : dg T Ln p) : p < Ln := by
  have := z.2
  unfold tx at this
  by_cases q : p < Ln
  · exact q
  · rw [if_neg q] at this; omega
theorem r_nst {F i : Nat} {w : Int} (h : Pq T Ln B0 ν0 ν p st tk) (hB : Br ν0 T Ln) (hi : i < 2) (hw : 0 ≤ w ∧ w ≤ 9) (e15 : ν.1 600 15 = Int32.ofInt w) : f_X10_takesNumber_L16 (XR ad D cA) (F + 1) 600 (Int32.ofNat i) ν = if dg T Ln p then f_X10_takesNumber_L16 (XR ad D cA) F 600 (Int32.ofNat (i + 1)) (x_sI (x_sI ν 600 15 (Int32.ofInt (w * 10 + ((tx T Ln p : Int) - 48)))) 600 14 (Int32.ofNat (p + 1))) else some (1, ν) := by
  have n1 : ¬ (2 : Int32) ≤ Int32.ofNat i := fun z => by have := (geN 2 2 rfl (by decide) (by omega)).mp z; omega
  have ed := r_dig (ad := ad) (D := D) (cA := cA) h hB
  have en := r_next (ad := ad) (D := D) (cA := cA) h hB
  have e14 : ∀ v, (x_sI ν 600 15 v).1 600 14 = Int32.ofNat p := fun v => by rw [sI_of (by omega)]; exact h.2.1.1
  generalize hR : f_X10_takesNumber_L16 (XR ad D cA) F 600 (Int32.ofNat (i + 1)) (x_sI (x_sI ν 600 15 (Int32.ofInt (w * 10 + ((tx T Ln p : Int) - 48)))) 600 14 (Int32.ofNat (p + 1))) = R
  unfold f_X10_takesNumber_L16
  by_cases z : dg T Ln p
  · have q := dg_lt z
    have ex : tx T Ln p = T p := by unfold tx; rw [if_pos q]
    have en' : nx T Ln p = Int32.ofNat (T p) := if_pos q
    rw [if_pos z] at ed ⊢
    have ev : (10 : Int32) * Int32.ofInt w + Int32.ofNat (T p) - (48 : Int32) = Int32.ofInt (w * 10 + ((tx T Ln p : Int) - 48)) := by
      rw [ex, iN_I, show (10 : Int32) = Int32.ofInt 10 from rfl, show (48 : Int32) = Int32.ofInt 48 from rfl, ← Int32.ofInt_mul, ← Int32.ofInt_add, ← Int32.ofInt_sub]
      exact congrArg Int32.ofInt (by omega)
    simp only [↓ckE, ↓ltE, ↓reduceIte, kR, RK, Nat.reduceAdd, n1, ed, bdE, iE, en, en', e15, ev, e14, iN_s, hR]
  · rw [if_neg z] at ed ⊢
    simp only [↓ckE, ↓ltE, ↓reduceIte, kR, RK, Nat.reduceAdd, n1, ed, bdE, or_true]
theorem r_num (h : Pq T Ln B0 ν0 ν p st tk) (hB : Br ν0 T Ln) : ((numS T Ln p).1 < 0 ∧ f_X10_takesNumber (XR ad D cA) 600 ν = some (0, ν)) ∨ (0 ≤ (numS T Ln p).1 ∧ ∃ ν', f_X10_takesNumber (XR ad D cA) 600 ν = some (1, ν') ∧ Pq T Ln B0 ν0 ν' (numS T Ln p).2 st tk ∧ ν'.1 600 15 = Int32.ofInt (numS T Ln p).1) := by
  have hb := numS_b (T := T) (Ln := Ln) (p := p) h.2.1.2
  have ed := r_dig (ad := ad) (D := D) (cA := cA) h hB
  have s1 : ∀ F, F + 3 = 4096 → ∀ m, f_X10_takesNumber_L16 (XR ad D cA) 4096 600 0 m = f_X10_takesNumber_L16 (XR ad D cA) (F + 1 + 1 + 1) 600 (Int32.ofNat 0) m := fun F e m => by rw [← e]; rfl
  unfold f_X10_takesNumber
  by_cases q : dg T Ln p
  · have hq := q
    have q1 := q.1
    have q2' := q.2
    have lp := dg_lt q
    have eS : numS T Ln p = (if dg T Ln (p + 1) then (((tx T Ln p : Int) - 48) * 10 + ((tx T Ln (p + 1) : Int) - 48), p + 2) else ((tx T Ln p : Int) - 48, p + 1)) := if_pos q
    rw [if_pos q] at ed
    have h1 : Pq T Ln B0 ν0 (x_sI ν 600 15 0) p st tk := h.n15
    have g0 : (x_sI ν 600 15 0).1 600 15 = Int32.ofInt 0 := sI_in
    have h2 : Pq T Ln B0 ν0 (x_sI (x_sI (x_sI ν 600 15 0) 600 15 (Int32.ofInt (0 * 10 + ((tx T Ln p : Int) - 48)))) 600 14 (Int32.ofNat (p + 1))) (p + 1) st tk := (h1.n15).adv (by omega) (by omega)
    have g2 : (x_sI (x_sI (x_sI ν 600 15 0) 600 15 (Int32.ofInt (0 * 10 + ((tx T Ln p : Int) - 48)))) 600 14 (Int32.ofNat (p + 1))).1 600 15 = Int32.ofInt (0 * 10 + ((tx T Ln p : Int) - 48)) := by rw [sI_of (by omega)]; exact sI_in
    refine Or.inr ?_
    simp only [↓ckE, ↓ltE, ↓reduceIte, kR, RK, Nat.reduceAdd, ed, bdE, iE]
    rw [s1 4093 rfl, r_nst h1 hB (by omega) (by omega) g0, if_pos q, r_nst h2 hB (by omega) (by omega) g2]
    generalize 4093 = F
    by_cases q3 : dg T Ln (p + 1)
    · have lp2 := dg_lt q3
      rw [if_pos q3] at eS
      rw [eS] at hb ⊢
      rw [if_pos q3]
      have q31 := q3.1
      have eL : ∀ m, f_X10_takesNumber_L16 (XR ad D cA) (F + 1) 600 (Int32.ofNat (0 + 1 + 1)) m = some (1, m) := fun m => by
        unfold f_X10_takesNumber_L16
        rw [if_pos (by decide), ck_t (Or.inr rfl)]
      rw [eL]
      refine ⟨by simp only []; omega, _, rfl, (h2.n15).adv (by omega) (by omega), ?_⟩
      rw [sI_of (by omega), sI_in]
      exact congrArg Int32.ofInt (by simp only []; omega)
    · rw [if_neg q3] at eS
      rw [eS, if_neg q3]
      refine ⟨by simp only []; omega, _, rfl, h2, ?_⟩
      rw [g2]
      exact congrArg Int32.ofInt (by simp only []; omega)
  · have eS : numS T Ln p = (-1, p) := if_neg q
    rw [if_neg q] at ed
    refine Or.inl ⟨by rw [eS]; show (-1 : Int) < 0; decide, ?_⟩
    simp only [↓ckE, ↓ltE, ↓reduceIte, kR, RK, Nat.reduceAdd, ed, bdE, true_or]
end RDR
