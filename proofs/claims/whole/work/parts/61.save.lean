/-! ===== the reference's saving and putting back; the class's asked copy ===== -/
def kpR (o k : Nat) : Prop := (o = 600 ∧ 35 ≤ k ∧ k ≤ 37) ∨ o = 639 ∨ o = 640
def askR (o k : Nat) : Prop := d2R o k ∨ kpR o k ∨ ((o = 608 ∨ o = 609) ∧ 6 ≤ k)
def Kept (μ ν : x_M) : Prop := (ν.1 600 35 = μ.1 600 1 ∧ ν.1 600 36 = μ.1 600 2 ∧ ν.1 600 37 = μ.1 600 3) ∧ ∀ i, i < 6 → ν.1 639 i = μ.1 608 i ∧ ν.1 640 i = μ.1 609 i
theorem kpR_us : ∀ o k, kpR o k → ¬ usR o k := by
  intro o k h
  unfold kpR at h
  unfold usR
  omega
theorem StR.ask {a b : x_M} {S : St} (h : StR a S) (h6 : S.n ≤ 6) (f : frC askR a b) : StR b S := by
  have nk : ∀ k, k ≤ 3 → ¬ askR 600 k := fun k hk => by unfold askR d2R scR kpR; omega
  have nb : ∀ o k, (o = 608 ∨ o = 609) → k < 6 → ¬ askR o k := fun o k ho hk => by unfold askR d2R scR kpR; omega
  have := h.mod (b := b) (bk := S.bk) (dl := S.dl) (wet := S.wet) (town := S.town) (day := S.day) h6 f.1 (fun o k hu hd => f.2 o k (by unfold usR at hu; unfold dyR at hd; unfold askR d2R scR kpR; omega))
    (by rw [f.2 600 1 (nk 1 (by omega))]; exact h.2.2.1.2.1) (by rw [f.2 600 2 (nk 2 (by omega))]; exact h.2.2.1.2.2.1) (by rw [f.2 600 3 (nk 3 (by omega))]; exact h.2.2.1.2.2.2)
    (fun i hi => by rw [f.2 608 i (nb _ _ (Or.inl rfl) (by omega))]; exact (h.2.2.2.2.1 i hi).2.1.1) (fun i hi => by rw [f.2 609 i (nb _ _ (Or.inr rfl) (by omega))]; exact (h.2.2.2.2.1 i hi).2.1.2)
  exact this
section SAVE
variable {ad : Nat → Nat} {D : va_G} {cA : Nat → ClassId} {μ : x_M}
theorem r_saveL {μ0 : x_M} (hP : Pr μ0) : ∀ (m k F : Nat) (x : Int32) (ν : x_M), k + m = 6 → m < F → x = Int32.ofNat k → frC kpR μ0 ν → (∀ i, i < k → ν.1 639 i = μ0.1 608 i ∧ ν.1 640 i = μ0.1 609 i) → (∀ j, 35 ≤ j → j ≤ 37 → ν.1 600 j = μ0.1 600 (j - 34)) → ∃ ν', f_X10_save_L26 (XR ad D cA) F 600 x ν = some ((), ν') ∧ frC kpR μ0 ν' ∧ Kept μ0 ν' := by
  intro m
  induction m with
  | zero =>
    intro k F x ν hk hF hx hf hj h35
    obtain ⟨f, rfl⟩ : ∃ n, F = n + 1 := ⟨F - 1, by omega⟩
    have hc : (6 : Int32) ≤ x := by rw [hx]; exact (geN 6 6 rfl (by omega) (by omega)).mpr (by omega)
    unfold f_X10_save_L26
    simp only [↓reduceIte, hc]
    exact ⟨ν, rfl, hf, ⟨h35 35 (by omega) (by omega), h35 36 (by omega) (by omega), h35 37 (by omega) (by omega)⟩, fun i hi => hj i (by omega)⟩
  | succ m ih =>
    intro k F x ν hk hF hx hf hj h35
    obtain ⟨f, rfl⟩ : ∃ n, F = n + 1 := ⟨F - 1, by omega⟩
    have hc : ¬ (6 : Int32) ≤ x := fun z => by rw [hx] at z; have := (geN 6 6 rfl (by omega) (by omega)).mp z; omega
    have hx6 : x_ix x 6 := by rw [hx]; exact iN_ix (by omega) (by omega)
    have hcl : x.toNatClampNeg = k := by rw [hx]; exact iN_cl (by omega)
    unfold f_X10_save_L26
    simp only [↓ckE, ↓ltE, ↓reduceIte, kR, lR, RK, RN, RP (hf.Pr hP), Nat.reduceAdd, Nat.reduceEqDiff, hc, true_or, true_and, ↓ixT hx6, hcl, sI_2, sI_rd]
    have f1 : frC kpR ν (x_sI (x_sI ν 639 k (ν.1 608 k)) 640 k (ν.1 609 k)) := (frC.sI (Or.inr (Or.inl rfl))).tr (frC.sI (Or.inr (Or.inr rfl)))
    refine ih (k + 1) f (x + 1) _ (by omega) (by omega) (by rw [hx]; exact iN_s) (hf.tr f1) (fun i hi => ?_) (fun j p1 p2 => ?_)
    · have g8 : ν.1 608 = μ0.1 608 := funext (fun q => hf.2 608 q (by unfold kpR; omega))
      have g9 : ν.1 609 = μ0.1 609 := funext (fun q => hf.2 609 q (by unfold kpR; omega))
      simp only [sI_rd, Nat.reduceEqDiff, ↓reduceIte, g8, g9]
      by_cases q : i = k
      · rw [if_pos q, if_pos q, q]; exact ⟨rfl, rfl⟩
      · rw [if_neg q, if_neg q]; exact hj i (by omega)
    · rw [sI_no (by decide), sI_no (by decide)]; exact h35 j p1 p2
theorem r_save (hP : Pr μ) : ∃ ν', f_X10_save (XR ad D cA) 600 μ = some ((), ν') ∧ frC kpR μ ν' ∧ Kept μ ν' := by
  unfold f_X10_save
  simp only [↓ckE, ↓ltE, ↓reduceIte, kR, RK, Nat.reduceAdd, sI_rd, Nat.reduceEqDiff]
  have f1 : frC kpR μ (x_sI (x_sI (x_sI μ 600 35 (μ.1 600 1)) 600 36 (μ.1 600 2)) 600 37 (μ.1 600 3)) := ((frC.sI (Or.inl ⟨rfl, by decide, by decide⟩)).tr (frC.sI (Or.inl ⟨rfl, by decide, by decide⟩))).tr (frC.sI (Or.inl ⟨rfl, by decide, by decide⟩))
  refine r_saveL hP 6 0 4096 0 _ (by omega) (by omega) rfl f1 (fun i hi => by omega) (fun j p1 p2 => ?_)
  have : j = 35 ∨ j = 36 ∨ j = 37 := by omega
  rcases this with rfl | rfl | rfl <;> simp only [sI_rd, Nat.reduceEqDiff, ↓reduceIte, Nat.reduceSub]
theorem r_backL {μ0 μ2 : x_M} (hP : Pr μ2) (hK : ∀ i, i < 6 → μ2.1 639 i = μ0.1 608 i ∧ μ2.1 640 i = μ0.1 609 i) : ∀ (m k F : Nat) (x : Int32) (ν : x_M), k + m = 6 → m < F → x = Int32.ofNat k → frC dyR μ2 ν → (∀ i, i < k → ν.1 608 i = μ0.1 608 i ∧ ν.1 609 i = μ0.1 609 i) → (∀ j, 1 ≤ j → j ≤ 3 → ν.1 600 j = μ0.1 600 j) → ∃ ν', f_X10_putBack_L26 (XR ad D cA) F 600 x ν = some ((), ν') ∧ frC dyR μ2 ν' ∧ (∀ i, i < 6 → ν'.1 608 i = μ0.1 608 i ∧ ν'.1 609 i = μ0.1 609 i) ∧ ∀ j, 1 ≤ j → j ≤ 3 → ν'.1 600 j = μ0.1 600 j := by
  intro m
  induction m with
  | zero =>
    intro k F x ν hk hF hx hf hj h35
    obtain ⟨f, rfl⟩ : ∃ n, F = n + 1 := ⟨F - 1, by omega⟩
    have hc : (6 : Int32) ≤ x := by rw [hx]; exact (geN 6 6 rfl (by omega) (by omega)).mpr (by omega)
    unfold f_X10_putBack_L26
    simp only [↓reduceIte, hc]
    exact ⟨ν, rfl, hf, fun i hi => hj i (by omega), h35⟩
  | succ m ih =>
    intro k F x ν hk hF hx hf hj h35
    obtain ⟨f, rfl⟩ : ∃ n, F = n + 1 := ⟨F - 1, by omega⟩
    have hc : ¬ (6 : Int32) ≤ x := fun z => by rw [hx] at z; have := (geN 6 6 rfl (by omega) (by omega)).mp z; omega
    have hx6 : x_ix x 6 := by rw [hx]; exact iN_ix (by omega) (by omega)
    have hcl : x.toNatClampNeg = k := by rw [hx]; exact iN_cl (by omega)
    have g8 : ν.1 639 k = μ0.1 608 k := by rw [hf.2 639 k (by unfold dyR; omega)]; exact (hK k (by omega)).1
    have g9 : ν.1 640 k = μ0.1 609 k := by rw [hf.2 640 k (by unfold dyR; omega)]; exact (hK k (by omega)).2
    unfold f_X10_putBack_L26
    simp only [↓ckE, ↓ltE, ↓reduceIte, kR, lR, RK, RN, RP (hf.Pr hP), Nat.reduceAdd, Nat.reduceEqDiff, hc, true_or, true_and, ↓ixT hx6, hcl, sI_2, sI_rd, g8, g9]
    have f1 : frC dyR ν (x_sI (x_sI ν 608 k (μ0.1 608 k)) 609 k (μ0.1 609 k)) := (frC.sI (Or.inr (Or.inl rfl))).tr (frC.sI (Or.inr (Or.inr rfl)))
    refine ih (k + 1) f (x + 1) _ (by omega) (by omega) (by rw [hx]; exact iN_s) (hf.tr f1) (fun i hi => ?_) (fun j p1 p2 => ?_)
    · simp only [sI_rd, Nat.reduceEqDiff, ↓reduceIte]
      by_cases q : i = k
      · rw [if_pos q, if_pos q, q]; exact ⟨rfl, rfl⟩
      · rw [if_neg q, if_neg q]; exact hj i (by omega)
    · rw [sI_no (by decide), sI_no (by decide)]; exact h35 j p1 p2
/-- after saving (μ1) and days (μ2), all is put back -/
theorem r_back {μ1 μ2 : x_M} (hP : Pr μ) (h1 : frC kpR μ μ1) (hK : Kept μ μ1) (h2 : frC gdR μ1 μ2) : ∃ ν', f_X10_putBack (XR ad D cA) 600 μ2 = some ((), ν') ∧ frC askR μ ν' := by
  have hP2 := h2.Pr (h1.Pr hP)
  have ng : ∀ k, 35 ≤ k → k ≤ 37 → ¬ gdR 600 k := fun k p1 p2 => by unfold gdR d2R scR dyR; omega
  have e1 : μ2.1 600 35 = μ.1 600 1 := by rw [h2.2 600 35 (ng 35 (by omega) (by omega))]; exact hK.1.1
  have e2 : μ2.1 600 36 = μ.1 600 2 := by rw [h2.2 600 36 (ng 36 (by omega) (by omega))]; exact hK.1.2.1
  have e3 : μ2.1 600 37 = μ.1 600 3 := by rw [h2.2 600 37 (ng 37 (by omega) (by omega))]; exact hK.1.2.2
  unfold f_X10_putBack
  simp only [↓ckE, ↓ltE, ↓reduceIte, kR, RK, Nat.reduceAdd, sI_rd, Nat.reduceEqDiff, e1, e2, e3]
  have f1 : frC dyR μ2 (x_sI (x_sI (x_sI μ2 600 1 (μ.1 600 1)) 600 2 (μ.1 600 2)) 600 3 (μ.1 600 3)) := ((frC.sI (Or.inl ⟨rfl, by decide, by decide⟩)).tr (frC.sI (Or.inl ⟨rfl, by decide, by decide⟩))).tr (frC.sI (Or.inl ⟨rfl, by decide, by decide⟩))
  obtain ⟨ν', r1, r2, r3, r4⟩ := r_backL (ad := ad) (D := D) (cA := cA) (μ0 := μ) hP2 (fun i hi => by
    rw [h2.2 639 i (by unfold gdR d2R scR dyR; omega), h2.2 640 i (by unfold gdR d2R scR dyR; omega)]; exact hK.2 i hi) 6 0 4096 0 _ (by omega) (by omega) rfl f1 (fun i hi => by omega) (fun j p1 p2 => by
      have : j = 1 ∨ j = 2 ∨ j = 3 := by omega
      rcases this with rfl | rfl | rfl <;> simp only [sI_rd, Nat.reduceEqDiff, ↓reduceIte])
  refine ⟨ν', r1, ⟨r2.1.trans (h2.1.trans h1.1), fun o k ho => ?_⟩⟩
  rcases Classical.em (dyR o k) with q | q
  · unfold dyR at q
    rcases q with ⟨rfl, p1, p2⟩ | rfl | rfl
    · exact r4 k p1 p2
    · exact (r3 k (by unfold askR at ho; omega)).1
    · exact (r3 k (by unfold askR at ho; omega)).2
  · rw [r2.2 o k q, h2.2 o k (fun z => by rcases z with z | z; exact ho (Or.inl z); exact q z), h1.2 o k (fun z => ho (Or.inr (Or.inl z)))]
end SAVE
/-! the class's copy that is asked -/
def Plain (S : St) : Prop := S.gone = 6 ∧ S.wells = 0 ∧ S.dry = -1
def askC (o k : Nat) : Prop := (300 ≤ o ∧ o ≤ 324 ∧ ¬ (304 ≤ o ∧ o ≤ 309 ∧ k = 0) ∧ ¬ ((o = 316 ∨ o = 319 ∨ o = 322) ∧ k = 2)) ∨ scC o k
def frA (P : Nat → Nat → Prop) (a b : x_M) : Prop := (b.2.2 = a.2.2 ∧ ∀ o k, ¬ (o = 300 ∧ k = 5) → b.2.1 o k = a.2.1 o k) ∧ ∀ o k, ¬ P o k → b.1 o k = a.1 o k
theorem frA.rf {P : Nat → Nat → Prop} {a : x_M} : frA P a a := ⟨⟨rfl, fun _ _ _ => rfl⟩, fun _ _ _ => rfl⟩
theorem frA.tr {P : Nat → Nat → Prop} {a b c : x_M} (h : frA P a b) (g : frA P b c) : frA P a c := ⟨⟨g.1.1.trans h.1.1, fun o k z => (g.1.2 o k z).trans (h.1.2 o k z)⟩, fun o k z => (g.2 o k z).trans (h.2 o k z)⟩
theorem frC.A {P Q : Nat → Nat → Prop} {a b : x_M} (h : frC P a b) (hPQ : ∀ o k, P o k → Q o k) : frA Q a b := ⟨⟨by rw [h.1], fun o k _ => by rw [h.1]⟩, fun o k z => h.2 o k (fun w => z (hPQ o k w))⟩
theorem frA.Pt {P : Nat → Nat → Prop} {a b : x_M} (h : frA P a b) (g : Pt a) : Pt b := fun o k z => by rw [h.1.2 o k (fun w => z (by omega))]; exact g o k z
theorem gdC_ask : ∀ o k, gdC 300 o k → askC o k := by
  intro o k h
  unfold gdC d2C dyC scC at h
  unfold askC scC
  omega
/-- what stands at 100 and 200 stays -/
theorem StC.ask {a b : x_M} {B : Nat} {S : St} (h : StC a B S) (h6 : S.n ≤ 6) (hB : B = 100 ∨ B = 200) (f : frA askC a b) : StC b B S := by
  have g : ∀ o k, usC B o k → b.1 o k = a.1 o k := fun o k hu => f.2 o k (fun z => by unfold usC lwC at hu; unfold askC scC at z; omega)
  have hc : StC (b.1, a.2.1, a.2.2) B S := h.fr (P := fun o k => ¬ usC B o k) h6 ⟨rfl, fun o k z => g o k (Classical.byContradiction z)⟩ (fun o k z => z)
  obtain ⟨⟨c1, -⟩, c3, c4, c5, c6, c7, c8⟩ := hc
  refine ⟨⟨c1, f.Pt h.1.2⟩, c3, c4, c5, ?_, c7, c8⟩
  rw [f.1.2 B 5 (by omega)]
  exact LawC.congr (a := (b.1, a.2.1, a.2.2)) (fun _ _ _ => rfl) c6
section BEGC
variable {ad : Nat → Nat} {D : va_G} {cA : Nat → ClassId} {μ : x_M}
def NumC (μ : x_M) : Prop := ∀ B, isB B → ∀ i, i < 6 → μ.1 (B + 4 + i) 0 = Int32.ofNat i
theorem StC.of_copy {ν : x_M} {B b : Nat} {S : St} (hB : isB B) (hf : farB B b) (h : StC μ b S) (hp : Plain S) (hN : NumC μ) (h6 : S.n ≤ 6) (r1 : ν.2.1 = x_u μ.2.1 B 5 (μ.2.1 b 5)) (c1 : ∀ d k, cpA d k → ν.1 (B + d) k = μ.1 (b + d) k) (z1 : ν.1 B 10 = 0) (z2 : ν.1 B 11 = -1) (c2 : ∀ o k, ¬ cpZ B o k → ν.1 o k = μ.1 o k) : StC ν B S := by
  obtain ⟨⟨hb, h1⟩, h2, h3, h4, hl, ⟨s1, s2, s3, s4⟩, w1, w2⟩ := h
  have hg := hB.ge
  have sc : ∀ k, 6 ≤ k → k ≤ 9 → ν.1 B k = μ.1 b k := fun k p1 p2 => c1 0 k (Or.inr (Or.inr ⟨rfl, p1, p2⟩))
  have ac : ∀ i k, i < 6 → 2 ≤ k → k ≤ 7 → ν.1 (B + 4 + i) k = μ.1 (b + 4 + i) k := fun i k p1 p2 p3 => by
    have := c1 (4 + i) k (Or.inl (Or.inr (Or.inl ⟨by omega, by omega, p2, p3⟩)))
    rwa [show B + (4 + i) = B + 4 + i by omega, show b + (4 + i) = b + 4 + i by omega] at this
  have rc : ∀ i k, i < 6 → k < 4 → ν.1 (B + 10 + i) k = μ.1 (b + 10 + i) k := fun i k p1 p2 => by
    have := c1 (10 + i) k (Or.inl (Or.inr (Or.inr ⟨by omega, by omega, p2⟩)))
    rwa [show B + (10 + i) = B + 10 + i by omega, show b + (10 + i) = b + 10 + i by omega] at this
  refine ⟨⟨hB, fun o k z => ?_⟩, fun s hs => ?_, fun i hi => ⟨?_, ?_⟩, fun i hi => ?_, ?_, ⟨?_, ?_, ?_, ?_⟩, ?_, ?_⟩
  · rw [r1]
    show (if o = B then (if k = 5 then μ.2.1 b 5 else μ.2.1 o k) else μ.2.1 o k) = _
    have : ¬ (o = B ∧ k = 5) := fun w => z ⟨by unfold isB at hB; omega, w.2⟩
    by_cases q : o = B
    · rw [if_pos q, if_neg (fun w => this ⟨q, w⟩)]; exact h1 o k z
    · rw [if_neg q]; exact h1 o k z
  · rw [c1 2 s (Or.inl (Or.inl ⟨rfl, hs⟩))]; exact h2 s hs
  · rw [c2 _ 0 (by unfold cpZ cpA cpS cpW rw3; omega)]; exact hN B hB i hi
  · rw [ac i 2 hi (by omega) (by omega)]; exact (h3 i hi).2
  · obtain ⟨⟨a1, a2, a3⟩, ⟨a4, a5⟩, a6⟩ := h4 i hi
    refine ⟨⟨?_, ?_, ?_⟩, ⟨?_, ?_⟩, fun d hd => ?_⟩
    · rw [ac i 3 (by omega) (by omega) (by omega)]; exact a1
    · rw [ac i 4 (by omega) (by omega) (by omega)]; exact a2
    · rw [ac i 7 (by omega) (by omega) (by omega)]; exact a3
    · rw [ac i 5 (by omega) (by omega) (by omega)]; exact a4
    · rw [ac i 6 (by omega) (by omega) (by omega)]; exact a5
    · rw [rc i d (by omega) hd]; exact a6 d hd
  · have e : ν.2.1 B 5 = μ.2.1 b 5 := by
      rw [r1]
      show (if B = B then (if 5 = 5 then μ.2.1 b 5 else _) else _) = _
      rw [if_pos rfl, if_pos rfl]
    rw [e]
    exact hl.us (fun o k z => c2 o k (by unfold lwC at z; unfold cpZ cpA cpS cpW rw3; unfold isB at hB; omega))
  · rw [sc 6 (by omega) (by omega)]; exact s1
  · rw [sc 7 (by omega) (by omega)]; exact s2
  · rw [sc 8 (by omega) (by omega)]; exact s3
  · rw [sc 9 (by omega) (by omega)]; exact s4
  · rw [z1, hp.2.1]; rfl
  · rw [z2, hp.2.2]; rfl
abbrev Rw : Type := Nat × (Nat → Nat) × (Nat → Int)
/-- rows of two numbers at r -/
def RowC (μ : x_M) (r : Nat) (R : Rw) : Prop := μ.1 r 3 = Int32.ofNat R.1 ∧ ∀ j, j < R.1 → μ.1 (r + 1) j = Int32.ofNat (R.2.1 j) ∧ μ.1 (r + 2) j = Int32.ofInt (R.2.2 j)
theorem RowC.of_copy {ν : x_M} {B b r : Nat} {R : Rw} (hr : rw3 r) (h8 : R.1 ≤ 8) (h : RowC μ (b + r) R) (c1 : ∀ d k, cpA d k → ν.1 (B + d) k = μ.1 (b + d) k) : RowC ν (B + r) R := by
  refine ⟨?_, fun j hj => ⟨?_, ?_⟩⟩
  · rw [c1 r 3 (Or.inr (Or.inl (Or.inl ⟨hr, rfl⟩)))]; exact h.1
  · have := c1 (r + 1) j (Or.inr (Or.inl (Or.inr ⟨by unfold rw3 at hr; omega, by omega⟩)))
    rw [show B + r + 1 = B + (r + 1) by omega, this]; exact (h.2 j hj).1
  · have := c1 (r + 2) j (Or.inr (Or.inl (Or.inr ⟨by unfold rw3 at hr; omega, by omega⟩)))
    rw [show B + r + 2 = B + (r + 2) by omega, this]; exact (h.2 j hj).2
/-- what is asked begins with a copy of what is now -/
theorem c_begin {S : St} {R : Rw} (h : StC μ 100 S) (hp : Plain S) (hN : NumC μ) (h6 : S.n ≤ 6) (h8 : R.1 ≤ 8) (hR : RowC μ 116 R) : ∃ ν, f_X7_copyFrom (XC ad D cA) 300 100 μ = some ((), ν) ∧ StC ν 300 S ∧ RowC ν 316 R ∧ frA askC μ ν := by
  have hB : isB 300 := Or.inr (Or.inr rfl)
  have hf : farB 300 100 := by unfold farB; omega
  obtain ⟨ν, e, ⟨r1, r2⟩, c1, ⟨z1, z2⟩, c2⟩ := c_copy (ad := ad) (D := D) (cA := cA) hB h.1.1 hf h.1.2 (fun i hi => by
    rw [(h.2.2.1 i hi).2]
    by_cases q : S.here i
    · rw [if_pos q]; exact Or.inr rfl
    · rw [if_neg q]; exact Or.inl rfl)
  refine ⟨ν, e, h.of_copy hB hf hp hN h6 r1 c1 z1 z2 c2, hR.of_copy (B := 300) (b := 100) (r := 16) (Or.inl rfl) h8 c1, ⟨r2, fun o k z => ?_⟩, fun o k z => c2 o k (fun w => z ?_)⟩
  · rw [r1]
    show (if o = 300 then (if k = 5 then μ.2.1 100 5 else μ.2.1 o k) else μ.2.1 o k) = _
    by_cases q : o = 300
    · rw [if_pos q, if_neg (fun w => z ⟨q, w⟩)]
    · rw [if_neg q]
  · unfold cpZ cpA cpS cpW rw3 at w
    unfold askC
    omega
end BEGC
