/-! ===== plans gone through; the day; lifted, told, of: in both ===== -/
def PlanOk (S : St) (R : Rw) : Prop := R.1 ≤ 8 ∧ ∀ r, r < R.1 → R.2.1 r < S.n ∧ -30 ≤ R.2.2 r ∧ R.2.2 r ≤ 30
def plN (R : Rw) : Nat → Nat → St → St
  | 0, _, T => T
  | m + 1, k, T => plN R m (k + 1) ((T.wDl (R.2.1 k) (R.2.2 k)).goDay)
section TOLD
variable {ad : Nat → Nat} {D : va_G} {cA : Nat → ClassId} {μ ν : x_M} {S : St} {R Q : Rw}
theorem RowC.ask {a b : x_M} {r : Nat} (h : RowC a r Q) (f : frA askC a b) (hr : (100 ≤ r ∧ r ≤ 122) ∨ (200 ≤ r ∧ r ≤ 222)) : RowC b r Q := by
  refine ⟨?_, fun j hj => ⟨?_, ?_⟩⟩
  · rw [f.2 r 3 (by unfold askC scC; omega)]; exact h.1
  · rw [f.2 (r + 1) j (by unfold askC scC; omega)]; exact (h.2 j hj).1
  · rw [f.2 (r + 2) j (by unfold askC scC; omega)]; exact (h.2 j hj).2
theorem n_size {r : Nat} (hr : rw3 r) (h : RowC μ (100 + r) Q) : f_X6_size (XC ad D cA) (100 + r) μ = some (Int32.ofNat Q.1, μ) := by
  unfold f_X6_size
  simp only [↓ckE, ↓reduceIte, kC, (kRow (B := 100) (Or.inl rfl) hr).1, Nat.reduceAdd, h.1]
theorem n_fs {r j : Nat} (hP : Pt μ) (hr : rw3 r) (h : RowC μ (100 + r) Q) (h8 : Q.1 ≤ 8) (hj : j < Q.1) : f_X6_first (XC ad D cA) (100 + r) (Int32.ofNat j) μ = some (Int32.ofNat (Q.2.1 j), μ) ∧ f_X6_second (XC ad D cA) (100 + r) (Int32.ofNat j) μ = some (Int32.ofInt (Q.2.2 j), μ) := by
  have := c_first (ad := ad) (D := D) (cA := cA) (r := r) (j := j) hP hr 100 (Or.inl rfl) (by omega)
  obtain ⟨q1, q2⟩ := h.2 j hj
  rw [q1, q2] at this
  exact this
theorem c_planL (hQ : Q.1 ≤ 8) : ∀ (m k F : Nat) (x : Int32) (μ : x_M) (T : St), k + m = Q.1 → m < F → x = Int32.ofNat k → Later μ T R → NowC μ S R → RowC μ 119 Q → (∀ r, r < Q.1 → Q.2.1 r < T.n ∧ -30 ≤ Q.2.2 r ∧ Q.2.2 r ≤ 30) → T.day + m ≤ 20000 → ∃ μ', f_X2_afterPlan_L10 (XC ad D cA) F 2 100 x μ = some (300, μ') ∧ Later μ' (plN Q m k T) R ∧ frA askC μ μ' := by
  intro m
  induction m with
  | zero =>
    intro k F x μ T hk hF hx h hN hR hq hd
    obtain ⟨f, rfl⟩ : ∃ n, F = n + 1 := ⟨F - 1, by omega⟩
    have hc : Int32.ofNat Q.1 ≤ x := by rw [hx]; exact (iN_le (by omega) (by omega)).mpr (by omega)
    have es := n_size (ad := ad) (D := D) (cA := cA) (r := 19) (Or.inr (Or.inl rfl)) hR
    simp only [Nat.reduceAdd] at es
    unfold f_X2_afterPlan_L10
    simp only [↓ckE, ↓ltE, ↓reduceIte, kC, CK, CP h.1.1.2, Nat.reduceAdd, es, bdE, hc]
    exact ⟨μ, rfl, h, frA.rf⟩
  | succ m ih =>
    intro k F x μ T hk hF hx h hN hR hq hd
    obtain ⟨f, rfl⟩ : ∃ n, F = n + 1 := ⟨F - 1, by omega⟩
    have hc : ¬ Int32.ofNat Q.1 ≤ x := fun z => by rw [hx] at z; have := (iN_le (by omega) (by omega)).mp z; omega
    have h6 := h.2.2.1.1.1
    have es := n_size (ad := ad) (D := D) (cA := cA) (r := 19) (Or.inr (Or.inl rfl)) hR
    obtain ⟨e1, e2⟩ := n_fs (ad := ad) (D := D) (cA := cA) (r := 19) (j := k) h.1.1.2 (Or.inr (Or.inl rfl)) hR hQ (by omega)
    simp only [Nat.reduceAdd] at es e1 e2
    rw [← hx] at e1 e2
    obtain ⟨q1, q2, q3⟩ := hq k (by omega)
    have ef := c_find (ad := ad) (D := D) (cA := cA) h.1 h.2.2 q1
    have hz : (304 + Q.2.1 k = 0) = False := eq_false (by omega)
    have hB : isB 300 := Or.inr (Or.inr rfl)
    have ka := (kBa hB (i := Q.2.1 k) (by omega)).1
    simp only [Nat.reduceAdd] at ka ef
    have l2 : Later (x_sI μ (304 + Q.2.1 k) 6 (Int32.ofInt (Q.2.2 k))) (T.wDl (Q.2.1 k) (Q.2.2 k)) R := h.w (h.1.wDl h6 (by omega)) (h.2.2.wDl ⟨q2, q3⟩) (by omega)
    have f2 : frA askC μ (x_sI μ (304 + Q.2.1 k) 6 (Int32.ofInt (Q.2.2 k))) := (frC.sI (P := askC) (by unfold askC; omega)).A (fun _ _ z => z)
    unfold f_X2_afterPlan_L10
    simp only [↓ckE, ↓ltE, ↓reduceIte, kC, CK, CP h.1.1.2, Nat.reduceAdd, es, bdE, hc, e1, e2, ef, hz, ka, sI_2]
    generalize x_sI μ (304 + Q.2.1 k) 6 (Int32.ofInt (Q.2.2 k)) = μ2 at l2 f2 ⊢
    obtain ⟨μ3, e3, l3, -, f3⟩ := c_day (ad := ad) (D := D) (cA := cA) l2 (by show T.day + 1 ≤ 20000; omega)
    simp only [e3, bdE]
    have F3 := f2.tr f3
    obtain ⟨μ', r1, r2, r3⟩ := ih (k + 1) f (x + 1) μ3 _ (by omega) (by omega) (by rw [hx]; exact iN_s) l3 (hN.ask F3) (hR.ask F3 (by omega)) hq (by show T.day + 1 + m ≤ 20000; omega)
    exact ⟨μ', r1, r2, F3.tr r3⟩
theorem r_planL {μ1 : x_M} {v : Int32} {K : Nat → Int32 → x_M → Option (Int32 × x_M)} (hQ : Q.1 ≤ 8) (hR1 : RowR μ1 43 646 647 Q) : ∀ (m k F : Nat) (x : Int32) (ν : x_M) (T : St), k + m = Q.1 → m < F → x = Int32.ofNat k → RJ μ1 ν T → (∀ r, r < Q.1 → Q.2.1 r < T.n ∧ -30 ≤ Q.2.2 r ∧ Q.2.2 r ≤ 30) → T.day + m ≤ 20000 → ∃ ν', f_X10_planned_L18 (XR ad D cA) K F 600 v x ν = K 600 v ν' ∧ RJ μ1 ν' (plN Q m k T) := by
  have hR : ∀ ν, frC gdR μ1 ν → RowR ν 43 646 647 Q := fun ν f => by
    refine ⟨?_, fun j hj => ⟨?_, ?_⟩⟩
    · rw [f.2 600 43 (by unfold gdR d2R scR dyR; omega)]; exact hR1.1
    · rw [f.2 646 j (by unfold gdR d2R scR dyR; omega)]; exact (hR1.2 j hj).1
    · rw [f.2 647 j (by unfold gdR d2R scR dyR; omega)]; exact (hR1.2 j hj).2
  intro m
  induction m with
  | zero =>
    intro k F x ν T hk hF hx h hq hd
    obtain ⟨f, rfl⟩ : ∃ n, F = n + 1 := ⟨F - 1, by omega⟩
    have hc : Int32.ofNat Q.1 ≤ x := by rw [hx]; exact (iN_le (by omega) (by omega)).mpr (by omega)
    unfold f_X10_planned_L18
    simp only [↓ckE, ↓reduceIte, kR, RK, Nat.reduceAdd, (hR ν h.2.2).1, hc]
    exact ⟨ν, rfl, h⟩
  | succ m ih =>
    intro k F x ν T hk hF hx h hq hd
    obtain ⟨f, rfl⟩ : ∃ n, F = n + 1 := ⟨F - 1, by omega⟩
    have hc : ¬ Int32.ofNat Q.1 ≤ x := fun z => by rw [hx] at z; have := (iN_le (by omega) (by omega)).mp z; omega
    have h6 := h.2.1.1.1.1
    have hx8 : x_ix x 8 := by rw [hx]; exact iN_ix (by omega) (by omega)
    have hcl : x.toNatClampNeg = k := by rw [hx]; exact iN_cl (by omega)
    obtain ⟨w1, w2⟩ := (hR ν h.2.2).2 k (by omega)
    obtain ⟨q1, q2, q3⟩ := hq k (by omega)
    have hy6 : x_ix (Int32.ofNat (Q.2.1 k)) 6 := iN_ix (by omega) (by omega)
    have hyl : (Int32.ofNat (Q.2.1 k)).toNatClampNeg = Q.2.1 k := iN_cl (by omega)
    have h1 : RJ μ1 (x_sI ν 609 (Q.2.1 k) (Int32.ofInt (Q.2.2 k))) (T.wDl (Q.2.1 k) (Q.2.2 k)) := ⟨h.1.wDl h6, h.2.1.wDl ⟨q2, q3⟩, h.2.2.tr (frC.sI (Or.inr (Or.inr (Or.inr rfl))))⟩
    unfold f_X10_planned_L18
    simp only [↓ckE, ↓ltE, ↓reduceIte, kR, lR, RK, RN, RP h.1.1, Nat.reduceAdd, (hR ν h.2.2).1, hc, true_or, true_and, ↓ixT hx8, hcl, w1, w2, ↓ixT hy6, hyl]
    generalize x_sI ν 609 (Q.2.1 k) (Int32.ofInt (Q.2.2 k)) = ν1 at h1 ⊢
    obtain ⟨ν2, e2, h2⟩ := r_day (ad := ad) (D := D) (cA := cA) h1 (by show T.day + 1 ≤ 20000; omega)
    simp only [e2, bdE]
    exact ih (k + 1) f (x + 1) ν2 _ (by omega) (by omega) (by rw [hx]; exact iN_s) h2 hq (by show T.day + 1 + m ≤ 20000; omega)
theorem p_planned {x : Int32} (h : Pair μ ν S R) (hq : PlanOk S Q) (hC : RowC μ 119 Q) (hR : RowR ν 43 646 647 Q) : Same (f_X9_planned (XC ad D cA) 1 x μ) (f_X10_planned (XR ad D cA) 600 x ν) μ ν := by
  have hd := h.2.2
  have hq8 := hq.1
  unfold f_X9_planned f_X10_planned
  by_cases q : (0 : Int32) ≤ x ∧ x ≤ 1
  · obtain ⟨p, -, hp, rfl⟩ := inN 0 1 0 1 rfl rfl (by decide) (by decide) q
    obtain ⟨μ1, e, l, f⟩ := h.1.begin (ad := ad) (D := D) (cA := cA)
    obtain ⟨μ2, e2, l2, f2⟩ := c_planL (ad := ad) (D := D) (cA := cA) hq8 Q.1 0 4096 0 μ1 S (by omega) (by omega) rfl l (h.1.ask f) (hC.ask f (by omega)) hq.2 (by omega)
    obtain ⟨ν1, g1, j, b⟩ := r_begin (ad := ad) (D := D) (cA := cA) h.2.1 h.ok
    have sv : ∀ o k, ¬ kpR o k → ν1.1 o k = ν.1 o k := by
      obtain ⟨ν1', e', f', -⟩ := r_save (ad := ad) (D := D) (cA := cA) h.2.1.1
      rw [g1] at e'
      cases e'
      exact f'.2
    have hR1 : RowR ν1 43 646 647 Q := by
      refine ⟨?_, fun j hj => ⟨?_, ?_⟩⟩
      · rw [sv 600 43 (by unfold kpR; omega)]; exact hR.1
      · rw [sv 646 j (by unfold kpR; omega)]; exact (hR.2 j hj).1
      · rw [sv 647 j (by unfold kpR; omega)]; exact (hR.2 j hj).2
    obtain ⟨ν2, g2, j2⟩ := r_planL (ad := ad) (D := D) (cA := cA) (Q := Q) (v := Int32.ofNat p) (K := fun (v16 : Nat) (v17 : Int32) (μ18 : x_M) => (if v17 = 0 then (ck (x_kd (XR ad D cA) v16 = 10 + 1) (lt (μ18.1 v16 2) (fun (v22 : Int32) => (ck (x_kd (XR ad D cA) v16 = 10 + 1) (bd (f_X10_putBack (XR ad D cA) v16 μ18) (fun (_ : Unit) (μ23 : x_M) => (some (v22, μ23)))))))) else (ck (x_kd (XR ad D cA) v16 = 10 + 1) (bd (f_X10_level (XR ad D cA) v16 μ18) (fun (v19 : Int32) (μ20 : x_M) => (ck (x_kd (XR ad D cA) v16 = 10 + 1) (bd (f_X10_putBack (XR ad D cA) v16 μ20) (fun (_ : Unit) (μ21 : x_M) => (some (v19, μ21)))))))))) hq8 hR1 Q.1 0 4096 0 ν1 S (by omega) (by omega) rfl j hq.2 (by omega)
    obtain ⟨ν3, g3, g4⟩ := b ν2 j2.2.2
    have hw1 : μ2.1 300 7 = Int32.ofNat (plN Q Q.1 0 S).wet := l2.1.2.2.2.2.2.1.2.1
    have hw2 : ν2.1 600 2 = Int32.ofNat (plN Q Q.1 0 S).wet := j2.1.2.2.1.2.2.1
    have el := l2.1.level (ad := ad) (D := D) (cA := cA) l2.2.2
    have gl := (r_lf (ad := ad) (D := D) (cA := cA) j2).1
    have C : f_X2_afterPlan (XC ad D cA) 2 100 μ = some (300, μ2) := by
      unfold f_X2_afterPlan
      simp only [↓ckE, ↓ltE, ↓reduceIte, kC, CK, CP h.P, Nat.reduceAdd, e, e2, bdE]
    simp only [↓ckE, ↓ltE, ↓reduceIte, kR, RK, Nat.reduceAdd] at g2
    refine Same.of (r := if Int32.ofNat p = 0 then Int32.ofNat (plN Q Q.1 0 S).wet else Int32.ofNat (plN Q Q.1 0 S).level) (μ' := μ2) (ν' := ν3) ?_ ?_ (f.tr f2) g4
    · simp only [↓ckE, ↓ltE, ↓reduceIte, kC, CK, CP h.P, Nat.reduceAdd, c_in, q, and_self, iE, C, bdE, hw1, el]
      by_cases z : Int32.ofNat p = 0
      · rw [if_pos z, if_pos z]
      · rw [if_neg z, if_neg z]
    · simp only [↓ckE, ↓ltE, ↓reduceIte, kR, RK, Nat.reduceAdd, r_in, q, and_self, iE, g1, bdE]
      rw [g2]
      simp only [hw2, gl, g3, bdE]
      by_cases z : Int32.ofNat p = 0
      · rw [if_pos z, if_pos z]
      · rw [if_neg z, if_neg z]
  · refine Same.now (r := -1) ?_ ?_
    · simp only [c_in, q, ↓reduceIte, bdE]
    · simp only [↓ckE, ↓reduceIte, kR, RK, Nat.reduceAdd, r_in, q, bdE]
theorem p_lifted (h : Pair μ ν S R) : Same (f_X9_lifted (XC ad D cA) 1 μ) (f_X10_lifted (XR ad D cA) 600 ν) μ ν := by
  have el := h.1.1.level (ad := ad) (D := D) (cA := cA) h.ok
  have gl := h.2.1.level (ad := ad) (D := D) (cA := cA) h.ok
  have hw := h.ok.1.2.2.1
  have h1 : μ.1 100 7 = Int32.ofNat S.wet := h.1.1.2.2.2.2.2.1.2.1
  have h2 : ν.1 600 2 = Int32.ofNat S.wet := h.2.1.2.2.1.2.2.1
  have e1 : f_X3_levelOf (XC ad D cA) 101 (Int32.ofNat S.wet) μ = some (Int32.ofNat (lvl S.ar S.wet), μ) := c_lev (B := 100) (Or.inl rfl) h.P h.1.1.2.1 (by omega)
  have e2 := r_lev (ad := ad) (D := D) (cA := cA) (n := S.wet) h.2.1.1 h.2.1.2.1 (by omega)
  refine Same.now (r := Int32.ofNat S.level - Int32.ofNat (lvl S.ar S.wet)) ?_ ?_
  · unfold f_X9_lifted
    simp only [↓ckE, ↓ltE, ↓reduceIte, kC, CK, CP h.P, Nat.reduceAdd, el, h1, e1, bdE]
  · unfold f_X10_lifted
    simp only [↓ckE, ↓ltE, ↓reduceIte, kR, RK, Nat.reduceAdd, gl, h2, e2, bdE]
theorem scC_ask {a b : x_M} (f : frC scC a b) : frA askC a b := f.A (fun _ _ z => Or.inr z)
theorem scR_ask {a b : x_M} (f : frC scR a b) : frC askR a b := f.up (fun _ _ z => Or.inl (Or.inl z))
/-- the switches' places -/
theorem sw8 {β : Type} {x : Int32} {k0 k1 k2 k3 k4 k5 k6 k7 d : β} (P : β → Prop) (h0 : x = 0 → P k0) (h1 : x = 1 → P k1) (h2 : x = 2 → P k2) (h3 : x = 3 → P k3) (h4 : x = 4 → P k4) (h5 : x = 5 → P k5) (h6 : x = 6 → P k6) (h7 : x = 7 → P k7) (hd : x ≠ 0 → x ≠ 1 → x ≠ 2 → x ≠ 3 → x ≠ 4 → x ≠ 5 → x ≠ 6 → x ≠ 7 → P d) : P (x_swo [(0 : Int32), (1 : Int32), (2 : Int32), (3 : Int32), (4 : Int32), (5 : Int32), (6 : Int32), (7 : Int32)] [k0, k1, k2, k3, k4, k5, k6, k7] d x) := by
  simp only [↓swE, sw_n]
  by_cases q0 : x = 0
  · rw [if_pos q0]; exact h0 q0
  rw [if_neg q0]
  by_cases q1 : x = 1
  · rw [if_pos q1]; exact h1 q1
  rw [if_neg q1]
  by_cases q2 : x = 2
  · rw [if_pos q2]; exact h2 q2
  rw [if_neg q2]
  by_cases q3 : x = 3
  · rw [if_pos q3]; exact h3 q3
  rw [if_neg q3]
  by_cases q4 : x = 4
  · rw [if_pos q4]; exact h4 q4
  rw [if_neg q4]
  by_cases q5 : x = 5
  · rw [if_pos q5]; exact h5 q5
  rw [if_neg q5]
  by_cases q6 : x = 6
  · rw [if_pos q6]; exact h6 q6
  rw [if_neg q6]
  by_cases q7 : x = 7
  · rw [if_pos q7]; exact h7 q7
  rw [if_neg q7]; exact hd q0 q1 q2 q3 q4 q5 q6 q7
theorem p_told {x : Int32} (h : Pair μ ν S R) : Same (f_X9_told (XC ad D cA) 1 x μ) (f_X10_told (XR ad D cA) 600 x ν) μ ν := by
  have el := h.1.1.level (ad := ad) (D := D) (cA := cA) h.ok
  have gl := h.2.1.level (ad := ad) (D := D) (cA := cA) h.ok
  have kl := (lawK _ h.1.1.2.2.2.2.1.1).1
  obtain ⟨t1, t2, t3, t4⟩ := h.1.1.2.2.2.2.2.1
  obtain ⟨u1, u2, u3, u4⟩ := h.2.1.2.2.1
  obtain ⟨-, lm, lf, lr⟩ := h.1.1.2.2.2.2.1.2.2.1
  have rm := r_mark (ad := ad) (D := D) (cA := cA) (S := S) h.2.1.1 h.2.1.2.2.2.2.2.1
  have rf := r_floor (ad := ad) (D := D) (cA := cA) (S := S) h.2.1.1 h.2.1.2.2.2.2.2.1
  have rr := r_last (ad := ad) (D := D) (cA := cA) (w := 4) (d := 0) (by decide) h.2.1.1 h.2.1.2.2.2.2.2.1
  simp only [Int32.reduceOfNat] at rr
  have lm' : μ.1 (μ.2.1 100 5) 7 = Int32.ofNat S.mark := lm
  have lf' : μ.1 (μ.2.1 100 5) 8 = Int32.ofNat S.floor := lf
  obtain ⟨μ1, es, fs⟩ := c_spring (ad := ad) (D := D) (cA := cA) h.1.1 h.ok
  obtain ⟨ν1, gs, ks⟩ := r_spring (ad := ad) (D := D) (cA := cA) h.2.1 h.ok
  unfold f_X9_told f_X10_told
  by_cases q : (10 : Int32) ≤ x ∧ x ≤ 15
  · obtain ⟨k, hk1, hk2, rfl⟩ := inN 10 15 10 15 rfl rfl (by decide) (by decide) q
    have ne : ∀ c : Nat, c ≤ 7 → ¬ Int32.ofNat k = Int32.ofNat c := fun c hc z => by have := (iN_inj (by omega) (by omega)).mp z; omega
    have s10 : Int32.ofNat k - 10 = Int32.ofNat (k - 10) := by rw [show (10 : Int32) = Int32.ofNat 10 from rfl, iN_sub hk1]
    have hx6 : x_ix (Int32.ofNat (k - 10)) 6 := iN_ix (by omega) (by omega)
    have hcl : (Int32.ofNat (k - 10)).toNatClampNeg = k - 10 := iN_cl (by omega)
    have a1 := (h.1.1.2.1 (k - 10) (by omega)).1
    have a2 := (h.2.1.2.1 (k - 10) (by omega)).1
    have ea := c_at (ad := ad) (D := D) (cA := cA) (μ := μ) (o := 102) (i := k - 10) (by decide +kernel) (by rw [show x_lnA 102 = 6 from by decide +kernel]; omega) (by rw [show x_lnA 102 = 6 from by decide +kernel]; omega)
    have ear : f_X3_areaOf (XC ad D cA) 101 (Int32.ofNat (k - 10)) μ = some (Int32.ofNat (S.ar (k - 10)), μ) := by
      have p := (pt_S (B := 100) (Or.inl rfl) h.P).2.2.2.2.2
      simp only [Nat.reduceAdd] at p a1
      unfold f_X3_areaOf
      simp only [↓ckE, ↓ltE, ↓reduceIte, kC, CK, Nat.reduceAdd, p, ea, a1, bdE]
    have n0 : ¬ Int32.ofNat k = 0 := ne 0 (by omega)
    have n1 : ¬ Int32.ofNat k = 1 := ne 1 (by omega)
    have n2 : ¬ Int32.ofNat k = 2 := ne 2 (by omega)
    have n3 : ¬ Int32.ofNat k = 3 := ne 3 (by omega)
    have n4 : ¬ Int32.ofNat k = 4 := ne 4 (by omega)
    have n5 : ¬ Int32.ofNat k = 5 := ne 5 (by omega)
    have n6 : ¬ Int32.ofNat k = 6 := ne 6 (by omega)
    have n7 : ¬ Int32.ofNat k = 7 := ne 7 (by omega)
    refine Same.now (r := Int32.ofNat (S.ar (k - 10))) ?_ ?_
    · simp only [↓swE, sw_n, n0, n1, n2, n3, n4, n5, n6, n7, ↓ckE, ↓ltE, ↓reduceIte, kC, CK, CP h.P, Nat.reduceAdd, c_in, q, and_self, iE, s10, ear, bdE]
    · simp only [↓ckE, ↓ltE, ↓reduceIte, kR, lR, RK, RN, RP h.2.1.1, Nat.reduceAdd, r_in, q, and_self, iE, s10, true_or, true_and, ↓ixT hx6, hcl, a2, bdE]
  · simp only [↓ckE, ↓ltE, ↓reduceIte, kC, CK, CP h.P, kR, RK, Nat.reduceAdd, c_in, r_in, q, bdE, t2, t3, t4, u2, u3, u4, el, gl, kl, lm', lf', lr, rm, rf, rr, es, gs]
    simp only [↓swE, sw_n]
    by_cases q0 : x = 0
    · rw [if_pos q0, if_pos q0]; exact Same.now rfl rfl
    rw [if_neg q0, if_neg q0]
    by_cases q1 : x = 1
    · rw [if_pos q1, if_pos q1]; exact Same.now rfl rfl
    rw [if_neg q1, if_neg q1]
    by_cases q2 : x = 2
    · rw [if_pos q2, if_pos q2]; exact Same.now rfl rfl
    rw [if_neg q2, if_neg q2]
    by_cases q3 : x = 3
    · rw [if_pos q3, if_pos q3]; exact Same.now rfl rfl
    rw [if_neg q3, if_neg q3]
    by_cases q4 : x = 4
    · rw [if_pos q4, if_pos q4]; exact Same.now rfl rfl
    rw [if_neg q4, if_neg q4]
    by_cases q5 : x = 5
    · rw [if_pos q5, if_pos q5]; exact Same.now rfl rfl
    rw [if_neg q5, if_neg q5]
    by_cases q6 : x = 6
    · rw [if_pos q6, if_pos q6]; exact Same.now rfl rfl
    rw [if_neg q6, if_neg q6]
    by_cases q7 : x = 7
    · rw [if_pos q7, if_pos q7]; exact Same.of rfl rfl (scC_ask fs) (scR_ask ks)
    rw [if_neg q7, if_neg q7]
    exact Same.now rfl rfl
theorem p_of {x y : Int32} (h : Pair μ ν S R) : Same (f_X9_of (XC ad D cA) 1 x y μ) (f_X10_of (XR ad D cA) 600 x y ν) μ ν := by
  have h6 := h.n6
  have el := h.1.1.level (ad := ad) (D := D) (cA := cA) h.ok
  have kl := (lawK _ h.1.1.2.2.2.2.1.1).1
  have hday : μ.1 100 9 = Int32.ofNat S.day := h.1.1.2.2.2.2.2.1.2.2.2
  have hrate : μ.1 (μ.2.1 100 5) 9 = Int32.ofNat S.rate := h.1.1.2.2.2.2.1.2.2.1.2.2.2
  unfold f_X9_of f_X10_of
  rcases h.acc (ad := ad) (D := D) (cA := cA) x with ⟨a, ha, rfl, k1, k2⟩ | ⟨-, k1, k2⟩
  · have hz : (104 + a = 0) = False := eq_false (by omega)
    have hB : isB 100 := Or.inl rfl
    have ka := (kBa hB (i := a) (by omega)).1
    have hx6 : x_ix (Int32.ofNat a) 6 := iN_ix (by omega) (by omega)
    have hcl : (Int32.ofNat a).toNatClampNeg = a := iN_cl (by omega)
    have ec := c_lifts (ad := ad) (D := D) (cA := cA) (i := a) hB (by omega) h.ok.1 h.1.1.2.2.1 h.1.1.2.2.2.1
    have er := r_lifts (ad := ad) (D := D) (cA := cA) (i := a) h.2.1.1 h.ok.1 h.2.1.2.2.2.1 ha (h.2.1.2.2.2.2.1 a ha)
    have pc := c_pours (ad := ad) (D := D) (cA := cA) h.1.1 h.ok (i := a) (by omega)
    have pr := r_pours (ad := ad) (D := D) (cA := cA) h.2.1 h.ok ha
    rw [if_pos ha] at pc
    obtain ⟨μ1, es, fs⟩ := c_sun (ad := ad) (D := D) (cA := cA) h.1.1 h.ok (i := a) (by omega)
    rw [if_pos ha] at es
    obtain ⟨ν1, gs, ks⟩ := r_sun (ad := ad) (D := D) (cA := cA) h.2.1 h.ok ha
    obtain ⟨⟨c1, c2, c3⟩, ⟨c4, c5⟩, -⟩ := h.1.1.2.2.2.1 a ha
    obtain ⟨⟨d1, d2, d3⟩, ⟨d4, d5⟩, -⟩ := h.2.1.2.2.2.2.1 a ha
    simp only [Nat.reduceAdd] at ka ec pc es c1 c2 c3 c4 c5
    simp only [↓ckE, ↓ltE, ↓reduceIte, kC, CK, CP h.P, kR, lR, RK, RN, RP h.2.1.1, Nat.reduceAdd, k1, k2, hz, iE, bdE, ka, c1, c2, c3, c4, c5, d1, d2, d3, d4, d5, ec, er, el, kl, hrate, hday, pc, pr, es, gs, true_or, true_and, ↓ixT hx6, hcl]
    simp only [↓swE, sw_n]
    by_cases q0 : y = 0
    · rw [if_pos q0, if_pos q0]; exact Same.now rfl rfl
    rw [if_neg q0, if_neg q0]
    by_cases q1 : y = 1
    · rw [if_pos q1, if_pos q1]; exact Same.now rfl rfl
    rw [if_neg q1, if_neg q1]
    by_cases q2 : y = 2
    · rw [if_pos q2, if_pos q2]; exact Same.now rfl rfl
    rw [if_neg q2, if_neg q2]
    by_cases q3 : y = 3
    · rw [if_pos q3, if_pos q3]; exact Same.now rfl rfl
    rw [if_neg q3, if_neg q3]
    by_cases q4 : y = 4
    · rw [if_pos q4, if_pos q4]; exact Same.now rfl rfl
    rw [if_neg q4, if_neg q4]
    by_cases q5 : y = 5
    · rw [if_pos q5, if_pos q5]; exact Same.now rfl rfl
    rw [if_neg q5, if_neg q5]
    by_cases q6 : y = 6
    · rw [if_pos q6, if_pos q6]; exact Same.now rfl rfl
    rw [if_neg q6, if_neg q6]
    by_cases q7 : y = 7
    · rw [if_pos q7, if_pos q7]; exact Same.of rfl rfl (scC_ask fs) (scR_ask ks)
    rw [if_neg q7, if_neg q7]
    exact Same.now rfl rfl
  · refine Same.now (r := -10001) ?_ ?_
    · simp only [↓ckE, ↓ltE, ↓reduceIte, kC, CK, CP h.P, Nat.reduceAdd, k1, bdE]
    · simp only [↓ckE, ↓reduceIte, kR, RK, Nat.reduceAdd, k2, bdE]
theorem p_volume {x : Int32} (h : Pair μ ν S R) : Same (f_X9_volume (XC ad D cA) 1 x μ) (f_X10_volume (XR ad D cA) 600 x ν) μ ν := by
  unfold f_X9_volume f_X10_volume
  by_cases q : (0 : Int32) ≤ x ∧ x ≤ 60
  · obtain ⟨n, -, hn, rfl⟩ := inN 0 60 0 60 rfl rfl (by decide) (by decide) q
    have e1 : f_X3_volumeOf (XC ad D cA) 101 (Int32.ofNat n) μ = some (Int32.ofNat (cum S.ar n), μ) := c_vol (B := 100) (Or.inl rfl) h.P h.1.1.2.1 hn
    have e2 := r_vol (ad := ad) (D := D) (cA := cA) (m := n) h.2.1.1 h.2.1.2.1 hn
    refine Same.now (r := Int32.ofNat (cum S.ar n)) ?_ ?_
    · simp only [↓ckE, ↓ltE, ↓reduceIte, kC, CK, CP h.P, Nat.reduceAdd, c_in, q, and_self, iE, e1, bdE]
    · simp only [↓ckE, ↓ltE, ↓reduceIte, kR, RK, Nat.reduceAdd, r_in, q, and_self, iE, e2, bdE]
  · refine Same.now (r := -2) ?_ ?_
    · simp only [c_in, q, ↓reduceIte, bdE]
    · simp only [↓ckE, ↓reduceIte, kR, RK, Nat.reduceAdd, r_in, q, bdE]
end TOLD
