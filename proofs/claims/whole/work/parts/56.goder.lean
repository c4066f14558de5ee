/-! ===== the reference's day ===== -/
def d2R (o k : Nat) : Prop := scR o k ∨ o = 634 ∨ o = 635
theorem d2R_us : ∀ o k, d2R o k → ¬ usR o k := by
  intro o k h
  unfold d2R scR at h
  unfold usR
  omega
theorem iN_addI {w : Nat} {z : Int} (h : 0 ≤ (w : Int) + z) : Int32.ofNat w + Int32.ofInt z = Int32.ofNat ((w : Int) + z).toNat := by
  rw [iN_I, iN_I, ← Int32.ofInt_add, Int.toNat_of_nonneg h]
section GODR
variable {ad : Nat → Nat} {D : va_G} {cA : Nat → ClassId} {μ : x_M}
theorem r_J49 {S : St} {i : Nat} {z : Int} (h : StR μ S) (h6 : S.n ≤ 6) (hi : i < S.n) (hz : 0 ≤ (S.wet : Int) + z) : ∃ μ', f_X10_pours_J49 (XR ad D cA) 600 (Int32.ofNat i) (Int32.ofInt z) μ = some ((), μ') ∧ StR μ' (S.upd (updI S.bk i (S.bk i + z)) S.dl ((S.wet : Int) + z).toNat S.town S.day) ∧ frC dyR μ μ' := by
  have hx : x_ix (Int32.ofNat i) 6 := iN_ix (by omega) (by omega)
  have hc : (Int32.ofNat i).toNatClampNeg = i := iN_cl (by omega)
  have e1 := iN_addI hz
  have e2 : Int32.ofInt (S.bk i) + Int32.ofInt z = Int32.ofInt (S.bk i + z) := (Int32.ofInt_add _ _).symm
  unfold f_X10_pours_J49
  simp only [↓ckE, ↓ltE, ↓reduceIte, kR, lR, RK, RN, RP h.1, sI_2, sI_rd, Nat.reduceAdd, Nat.reduceEqDiff, true_or, true_and, ↓ixT hx, hc, h.2.2.1.2.2.1, (h.2.2.2.2.1 i hi).2.1.1, e1, e2]
  refine ⟨_, rfl, (h.wet h6).bk h6, ?_⟩
  exact (frC.sI (Or.inl ⟨rfl, by decide, by decide⟩)).tr (frC.sI (Or.inr (Or.inl rfl)))
theorem r_pour {S : St} {i : Nat} {p : Int} (h : StR μ S) (h6 : S.n ≤ 6) (hi : i < S.n) (hw : S.wet ≤ 200000) (hp : -50 ≤ p ∧ p ≤ 10000) : ∃ μ', f_X10_pours (XR ad D cA) 600 (Int32.ofNat i) (Int32.ofInt p) μ = some ((), μ') ∧ StR μ' (S.upd (updI S.bk i (S.bk i + pIs S.wet S.fvol p)) S.dl ((S.wet : Int) + pIs S.wet S.fvol p).toNat S.town S.day) ∧ frC dyR μ μ' := by
  have hb := pIs_b (w := S.wet) (fv := S.fvol) hp
  have hfl : S.floor ≤ 60 := by unfold St.floor; omega
  have hfv := cum_le (ar := S.ar) (fun s hs => (h.2.1 s hs).2.2) S.floor hfl
  have hfv' : S.fvol = cum S.ar S.floor := rfl
  have e1 := r_floor (ad := ad) (D := D) (cA := cA) (S := S) h.1 h.2.2.2.2.2.1
  have e2 := r_vol (ad := ad) (D := D) (cA := cA) h.1 h.2.1 hfl
  unfold f_X10_pours
  by_cases q : 0 ≤ p
  · rw [if_pos ((geI (0) (0) rfl (by decide) (by omega)).mpr q)]
    have e : pIs S.wet S.fvol p = p := by unfold pIs; rw [if_neg (by omega)]
    rw [e]
    exact r_J49 h h6 hi (by omega)
  · rw [if_neg (fun z => q ((geI (0) (0) rfl (by decide) (by omega)).mp z))]
    have e3 : Int32.ofNat S.wet - Int32.ofNat (cum S.ar S.floor) = Int32.ofInt ((S.wet : Int) - (S.fvol : Int)) := by rw [hfv', iN_I, iN_I, ← Int32.ofInt_sub]
    simp only [↓ckE, ↓ltE, ↓reduceIte, kR, RK, Nat.reduceAdd, e1, e2, bdE, h.2.2.1.2.2.1, e3]
    have J : ∀ can : Nat, can = S.wet - S.fvol → ∃ μ', f_X10_pours_J32 (XR ad D cA) 600 (Int32.ofNat i) (Int32.ofInt p) (Int32.ofInt (can : Int)) μ = some ((), μ') ∧ StR μ' (S.upd (updI S.bk i (S.bk i + pIs S.wet S.fvol p)) S.dl ((S.wet : Int) + pIs S.wet S.fvol p).toNat S.town S.day) ∧ frC dyR μ μ' := by
      intro can hcan
      unfold f_X10_pours_J32 f_X10_pours_J48
      rw [← Int32.ofInt_neg, ← Int32.ofInt_neg]
      by_cases q2 : -p ≤ (can : Int)
      · rw [if_pos ((iI_le (by omega) (by omega)).mpr q2)]
        have e : pIs S.wet S.fvol p = p := by unfold pIs; rw [if_neg (by omega)]
        rw [e]
        rw [e] at hb
        exact r_J49 h h6 hi (by omega)
      · rw [if_neg (fun z => q2 ((iI_le (by omega) (by omega)).mp z))]
        have e : pIs S.wet S.fvol p = -(can : Int) := by unfold pIs; rw [if_pos (by omega), hcan]
        rw [e]
        rw [e] at hb
        exact r_J49 h h6 hi (by omega)
    by_cases q1 : 0 ≤ (S.wet : Int) - (S.fvol : Int)
    · rw [if_pos ((geI (0) (0) rfl (by decide) (by omega)).mpr q1), show (S.wet : Int) - (S.fvol : Int) = ((S.wet - S.fvol : Nat) : Int) by omega]
      exact J _ rfl
    · rw [if_neg (fun z => q1 ((geI (0) (0) rfl (by decide) (by omega)).mp z))]
      exact J 0 (by omega)
theorem r_g2 {S : St} {K : Nat → x_M → Option (Unit × x_M)} (hO : Ok S) : ∀ (m k F : Nat) (x : Int32) (ν : x_M), k + m = S.n → m < F → x = Int32.ofNat k → StR ν S → (∀ j, j < k → ν.1 634 j = Int32.ofInt (S.pours j) ∧ ν.1 635 j = Int32.ofNat (S.sun j)) → ∃ ν', f_X10_goDay_L2 (XR ad D cA) K F 600 x ν = K 600 ν' ∧ StR ν' S ∧ (∀ j, j < S.n → ν'.1 634 j = Int32.ofInt (S.pours j) ∧ ν'.1 635 j = Int32.ofNat (S.sun j)) ∧ frC d2R ν ν' := by
  intro m
  have h6 := hO.1.1.1
  induction m with
  | zero =>
    intro k F x ν hk hF hx h hj
    obtain ⟨f, rfl⟩ : ∃ n, F = n + 1 := ⟨F - 1, by omega⟩
    have hc : Int32.ofNat S.n ≤ x := by rw [hx]; exact (iN_le (by omega) (by omega)).mpr (by omega)
    unfold f_X10_goDay_L2
    simp only [↓ckE, ↓reduceIte, kR, RK, Nat.reduceAdd, h.2.2.1.1, hc]
    exact ⟨ν, rfl, h, fun j hj' => hj j (by omega), frC.rf⟩
  | succ m ih =>
    intro k F x ν hk hF hx h hj
    obtain ⟨f, rfl⟩ : ∃ n, F = n + 1 := ⟨F - 1, by omega⟩
    have hc : ¬ Int32.ofNat S.n ≤ x := fun z => by rw [hx] at z; have := (iN_le (by omega) (by omega)).mp z; omega
    have hx6 : x_ix x 6 := by rw [hx]; exact iN_ix (by omega) (by omega)
    have hcl : x.toNatClampNeg = k := by rw [hx]; exact iN_cl (by omega)
    have e1 := r_pours (ad := ad) (D := D) (cA := cA) h hO (i := k) (by omega)
    rw [← hx] at e1
    unfold f_X10_goDay_L2
    simp only [↓ckE, ↓ltE, ↓reduceIte, kR, lR, RK, RN, RP h.1, sI_2, Nat.reduceAdd, h.2.2.1.1, hc, e1, bdE, true_and, ↓ixT hx6, hcl]
    have f1 : frC d2R ν (x_sI ν 634 k (Int32.ofInt (S.pours k))) := frC.sI (Or.inr (Or.inl rfl))
    have h1 := h.fr h6 f1 d2R_us
    have c1 : ∀ j, j < k + 1 → (x_sI ν 634 k (Int32.ofInt (S.pours k))).1 634 j = Int32.ofInt (S.pours j) := by
      intro j hj'
      by_cases q : j = k
      · rw [q]; exact sI_get
      · rw [sI_ne q]; exact (hj j (by omega)).1
    have c2 : ∀ j, j < k → (x_sI ν 634 k (Int32.ofInt (S.pours k))).1 635 j = Int32.ofNat (S.sun j) := fun j hj' => by rw [sI_no (by decide)]; exact (hj j hj').2
    generalize x_sI ν 634 k (Int32.ofInt (S.pours k)) = ν1 at f1 h1 c1 c2 ⊢
    obtain ⟨ν2, g1, g2⟩ := r_sun (ad := ad) (D := D) (cA := cA) h1 hO (i := k) (by omega)
    rw [← hx] at g1
    have h2 := h1.fr h6 g2 scR_us
    simp only [↓ckE, ↓ltE, ↓reduceIte, g1, bdE]
    have f3 : frC d2R ν2 (x_sI ν2 635 k (Int32.ofNat (S.sun k))) := frC.sI (Or.inr (Or.inr rfl))
    have h3 := h2.fr h6 f3 d2R_us
    have g2' : frC d2R ν1 ν2 := g2.up (fun _ _ z => Or.inl z)
    obtain ⟨ν', r1, r2, r3, r4⟩ := ih (k + 1) f (x + 1) _ (by omega) (by omega) (by rw [hx]; exact iN_s) h3 (fun j hj' => ⟨by rw [sI_no (by decide), g2.2 634 j (by unfold scR; omega)]; exact c1 j hj', by
      by_cases q : j = k
      · rw [q]; exact sI_get
      · rw [sI_ne q, g2.2 635 j (by unfold scR; omega)]; exact c2 j (by omega)⟩)
    exact ⟨ν', r1, r2, r3, ((f1.tr g2').tr f3).tr r4⟩
theorem r_g45 {S : St} {K : Nat → Int32 → x_M → Option (Unit × x_M)} {y : Int32} {ν0 : x_M} (hO : Ok S) (hl : LawOk S.law) (h0 : ∀ j, j < S.n → ν0.1 634 j = Int32.ofInt (S.pours j)) : ∀ (m k F : Nat) (x : Int32) (ν : x_M), k + m = S.n → m < F → x = Int32.ofNat k → StR ν (S.upd (pourTo S S.fvol k).1 S.dl (pourTo S S.fvol k).2 S.town S.day) → frC dyR ν0 ν → ∃ ν', f_X10_goDay_L45 (XR ad D cA) K F 600 y x ν = K 600 y ν' ∧ StR ν' (S.upd S.q1.1 S.dl S.q1.2 S.town S.day) ∧ frC dyR ν0 ν' := by
  intro m
  have h6 := hO.1.1.1
  induction m with
  | zero =>
    intro k F x ν hk hF hx h hf
    obtain ⟨f, rfl⟩ : ∃ n, F = n + 1 := ⟨F - 1, by omega⟩
    have hc : Int32.ofNat S.n ≤ x := by rw [hx]; exact (iN_le (by omega) (by omega)).mpr (by omega)
    have hn : ν.1 600 0 = Int32.ofNat S.n := h.2.2.1.1
    unfold f_X10_goDay_L45
    simp only [↓ckE, ↓reduceIte, kR, RK, Nat.reduceAdd, hn, hc]
    exact ⟨ν, rfl, by unfold St.q1; rw [show S.n = k by omega]; exact h, hf⟩
  | succ m ih =>
    intro k F x ν hk hF hx h hf
    obtain ⟨f, rfl⟩ : ∃ n, F = n + 1 := ⟨F - 1, by omega⟩
    have hc : ¬ Int32.ofNat S.n ≤ x := fun z => by rw [hx] at z; have := (iN_le (by omega) (by omega)).mp z; omega
    have hx6 : x_ix x 6 := by rw [hx]; exact iN_ix (by omega) (by omega)
    have hcl : x.toNatClampNeg = k := by rw [hx]; exact iN_cl (by omega)
    have hn : ν.1 600 0 = Int32.ofNat S.n := h.2.2.1.1
    have hp : ν.1 634 k = Int32.ofInt (S.pours k) := by rw [hf.2 634 k (by unfold dyR; omega)]; exact h0 k (by omega)
    have b := pourTo_b hO hl (fv := S.fvol) k (by omega)
    obtain ⟨ν1, g1, g2, g3⟩ := r_pour (ad := ad) (D := D) (cA := cA) (i := k) (p := S.pours k) h h6 (by show k < S.n; omega) (by show (pourTo S S.fvol k).2 ≤ 200000; omega) (St.pours_b hl (hO.1.2.1 k (by omega)))
    unfold f_X10_goDay_L45
    rw [← hx] at g1
    simp only [↓ckE, ↓ltE, ↓reduceIte, kR, lR, RK, RN, RP h.1, Nat.reduceAdd, hn, hc, true_or, true_and, ↓ixT hx6, hcl, hp, g1, bdE]
    exact ih (k + 1) f (x + 1) ν1 (by omega) (by omega) (by rw [hx]; exact iN_s) g2 (hf.tr g3)
theorem r_g72 {S : St} {K : Nat → Int32 → x_M → Option (Unit × x_M)} {y : Int32} {ν0 : x_M} (hO : Ok S) (hl : LawOk S.law) (h0 : ∀ j, j < S.n → ν0.1 635 j = Int32.ofNat (S.sun j)) : ∀ (m k F : Nat) (x : Int32) (ν : x_M), k + m = S.n → m < F → x = Int32.ofNat k → StR ν (S.upd (sunTo S S.q1 k).1 S.dl (sunTo S S.q1 k).2 S.town S.day) → frC dyR ν0 ν → ∃ ν', f_X10_goDay_L72 (XR ad D cA) K F 600 y x ν = K 600 y ν' ∧ StR ν' (S.upd S.q2.1 S.dl S.q2.2 S.town S.day) ∧ frC dyR ν0 ν' := by
  intro m
  have h6 := hO.1.1.1
  have bq := pourTo_b hO hl (fv := S.fvol) S.n (Nat.le_refl _)
  induction m with
  | zero =>
    intro k F x ν hk hF hx h hf
    obtain ⟨f, rfl⟩ : ∃ n, F = n + 1 := ⟨F - 1, by omega⟩
    have hc : Int32.ofNat S.n ≤ x := by rw [hx]; exact (iN_le (by omega) (by omega)).mpr (by omega)
    have hn : ν.1 600 0 = Int32.ofNat S.n := h.2.2.1.1
    unfold f_X10_goDay_L72
    simp only [↓ckE, ↓reduceIte, kR, RK, Nat.reduceAdd, hn, hc]
    exact ⟨ν, rfl, by unfold St.q2; rw [show S.n = k by omega]; exact h, hf⟩
  | succ m ih =>
    intro k F x ν hk hF hx h hf
    obtain ⟨f, rfl⟩ : ∃ n, F = n + 1 := ⟨F - 1, by omega⟩
    have hc : ¬ Int32.ofNat S.n ≤ x := fun z => by rw [hx] at z; have := (iN_le (by omega) (by omega)).mp z; omega
    have hx6 : x_ix x 6 := by rw [hx]; exact iN_ix (by omega) (by omega)
    have hcl : x.toNatClampNeg = k := by rw [hx]; exact iN_cl (by omega)
    have hn : ν.1 600 0 = Int32.ofNat S.n := h.2.2.1.1
    have hw : ν.1 600 2 = Int32.ofNat (sunTo S S.q1 k).2 := h.2.2.1.2.2.1
    have hbk : ν.1 608 k = Int32.ofInt ((sunTo S S.q1 k).1 k) := (h.2.2.2.2.1 k (by show k < S.n; omega)).2.1.1
    have hp : ν.1 635 k = Int32.ofNat (S.sun k) := by rw [hf.2 635 k (by unfold dyR; omega)]; exact h0 k (by omega)
    have b := sunTo_b (q := S.q1) hl bq.2.1 k (by omega)
    have bw : S.q1.2 ≤ 9999 + 10000 * S.n := bq.1
    have hs := St.sun_le hl k
    have e1 : Int32.ofInt ((sunTo S S.q1 k).1 k) - Int32.ofNat (S.sun k) = Int32.ofInt ((sunTo S S.q1 k).1 k - S.sun k) := by rw [iN_I, ← Int32.ofInt_sub]
    unfold f_X10_goDay_L72
    simp only [↓ckE, ↓ltE, ↓reduceIte, kR, lR, RK, RN, RP h.1, sI_2, sI_rd, Nat.reduceAdd, Nat.reduceEqDiff, hn, hc, true_or, true_and, ↓ixT hx6, hcl, hp, hbk, e1, hw]
    have h1 := h.bk (i := k) (z := (sunTo S S.q1 k).1 k - S.sun k) h6
    have f1 : frC dyR ν (x_sI ν 608 k (Int32.ofInt ((sunTo S S.q1 k).1 k - S.sun k))) := frC.sI (Or.inr (Or.inl rfl))
    generalize x_sI ν 608 k (Int32.ofInt ((sunTo S S.q1 k).1 k - S.sun k)) = ν1 at h1 f1 ⊢
    have nx : ∀ w : Nat, w = (sunTo S S.q1 k).2 - S.sun k → ∃ ν', f_X10_goDay_L72 (XR ad D cA) K f 600 y (x + 1) (x_sI ν1 600 2 (Int32.ofNat w)) = K 600 y ν' ∧ StR ν' (S.upd S.q2.1 S.dl S.q2.2 S.town S.day) ∧ frC dyR ν0 ν' := by
      intro w hw
      have h2 := h1.wet (w := w) h6
      rw [hw] at h2 ⊢
      exact ih (k + 1) f (x + 1) _ (by omega) (by omega) (by rw [hx]; exact iN_s) h2 ((hf.tr f1).tr (frC.sI (Or.inl ⟨rfl, by decide, by decide⟩)))
    by_cases q : (sunTo S S.q1 k).2 ≤ S.sun k
    · rw [if_pos ((iN_le (by omega) (by omega)).mpr q)]
      exact nx 0 (by omega)
    · rw [if_neg (fun z => q ((iN_le (by omega) (by omega)).mp z)), iN_sub (by omega)]
      exact nx _ rfl
theorem r_held {z : Int} (hz : -2147483648 ≤ z ∧ z < 2147483648) : f_X10_held (XR ad D cA) 600 (Int32.ofInt z) μ = some (Int32.ofInt (clampI z), μ) := by
  unfold f_X10_held clampI
  by_cases q : z < -9999
  · rw [if_pos q, if_neg (fun w => by have := (geI (-9999) (-9999) rfl (by decide) hz).mp w; omega)]; rfl
  · rw [if_neg q, if_pos ((geI (-9999) (-9999) rfl (by decide) hz).mpr (by omega))]
    by_cases q2 : 9999 < z
    · rw [if_pos q2, if_neg (fun w => by have := (leI (9999) (9999) rfl hz (by decide)).mp w; omega)]; rfl
    · rw [if_neg q2, if_pos ((leI (9999) (9999) rfl hz (by decide)).mpr (by omega))]
theorem r_g205 {S : St} {K : Nat → x_M → Option (Unit × x_M)} {g : Nat → Int} {w t : Nat} {ν0 : x_M} (h6 : S.n ≤ 6) (hg : ∀ j, j < S.n → -12000 ≤ g j ∧ g j ≤ 20000) : ∀ (m k F : Nat) (x : Int32) (ν : x_M), k + m = S.n → m < F → x = Int32.ofNat k → StR ν (S.upd (holdTo g k) S.dl w t S.day) → frC dyR ν0 ν → ∃ ν', f_X10_goDay_L205 (XR ad D cA) K F 600 x ν = K 600 ν' ∧ StR ν' (S.upd (holdTo g S.n) S.dl w t S.day) ∧ frC dyR ν0 ν' := by
  intro m
  induction m with
  | zero =>
    intro k F x ν hk hF hx h hf
    obtain ⟨f, rfl⟩ : ∃ n, F = n + 1 := ⟨F - 1, by omega⟩
    have hc : Int32.ofNat S.n ≤ x := by rw [hx]; exact (iN_le (by omega) (by omega)).mpr (by omega)
    have hn : ν.1 600 0 = Int32.ofNat S.n := h.2.2.1.1
    unfold f_X10_goDay_L205
    simp only [↓ckE, ↓reduceIte, kR, RK, Nat.reduceAdd, hn, hc]
    exact ⟨ν, rfl, by rw [show S.n = k by omega]; exact h, hf⟩
  | succ m ih =>
    intro k F x ν hk hF hx h hf
    obtain ⟨f, rfl⟩ : ∃ n, F = n + 1 := ⟨F - 1, by omega⟩
    have hc : ¬ Int32.ofNat S.n ≤ x := fun z => by rw [hx] at z; have := (iN_le (by omega) (by omega)).mp z; omega
    have hx6 : x_ix x 6 := by rw [hx]; exact iN_ix (by omega) (by omega)
    have hcl : x.toNatClampNeg = k := by rw [hx]; exact iN_cl (by omega)
    have hn : ν.1 600 0 = Int32.ofNat S.n := h.2.2.1.1
    have hbk : ν.1 608 k = Int32.ofInt (holdTo g k k) := (h.2.2.2.2.1 k (by show k < S.n; omega)).2.1.1
    have hgk := hg k (by omega)
    have hb := (holdTo_b (f := g) k).2 k (Nat.le_refl _)
    have e1 := r_held (ad := ad) (D := D) (cA := cA) (μ := ν) (z := holdTo g k k) (by omega)
    unfold f_X10_goDay_L205
    simp only [↓ckE, ↓ltE, ↓reduceIte, kR, lR, RK, RN, RP h.1, sI_2, Nat.reduceAdd, hn, hc, true_or, true_and, ↓ixT hx6, hcl, hbk, e1, bdE]
    exact ih (k + 1) f (x + 1) _ (by omega) (by omega) (by rw [hx]; exact iN_s) (h.bk (i := k) h6) (hf.tr (frC.sI (Or.inr (Or.inl rfl))))
theorem r_J203 {S : St} {g : Nat → Int} {w t : Nat} (h6 : S.n ≤ 6) (hd : S.day ≤ 20000) (hg : ∀ j, j < S.n → -12000 ≤ g j ∧ g j ≤ 20000) (h : StR μ (S.upd g S.dl w t S.day)) : ∃ ν', f_X10_goDay_J203 (XR ad D cA) 600 μ = some ((), ν') ∧ StR ν' (S.upd (holdTo g S.n) S.dl w t (S.day + 1)) ∧ frC dyR μ ν' := by
  unfold f_X10_goDay_J203
  obtain ⟨ν, e1, h1, f1⟩ := r_g205 (ad := ad) (D := D) (cA := cA) (K := fun (v55 : Nat) (μ56 : x_M) => (ck (x_kd (XR ad D cA) v55 = 10 + 1) (ck (x_kd (XR ad D cA) v55 = 10 + 1) (lt (x_sI μ56 v55 1 ((μ56.1 v55 1) + (1 : Int32))) (fun (μ57 : x_M) => (some ((), μ57))))))) (ν0 := μ) h6 hg S.n 0 4096 0 μ (by omega) (by omega) rfl h frC.rf
  rw [e1]
  have hday : ν.1 600 1 = Int32.ofNat S.day := h1.2.2.1.2.1
  simp only [↓ckE, ↓ltE, ↓reduceIte, kR, RK, Nat.reduceAdd, hday, iN_s]
  exact ⟨_, rfl, h1.day (w := S.day + 1) h6, f1.tr (frC.sI (Or.inl ⟨rfl, by decide, by decide⟩))⟩
theorem r_J195 {S : St} {g : Nat → Int} {w0 t0 w t : Nat} (h6 : S.n ≤ 6) (hd : S.day ≤ 20000) (hg : ∀ j, j < S.n → -12000 ≤ g j ∧ g j ≤ 20000) (h : StR μ (S.upd g S.dl w0 t0 S.day)) : ∃ ν', f_X10_goDay_J195 (XR ad D cA) 600 (Int32.ofNat w) (Int32.ofNat t) 600 μ = some ((), ν') ∧ StR ν' (S.upd (holdTo g S.n) S.dl w t (S.day + 1)) ∧ frC dyR μ ν' := by
  unfold f_X10_goDay_J195
  simp only [↓ckE, ↓ltE, ↓reduceIte, kR, RK, Nat.reduceAdd]
  have f0 : frC dyR μ (x_sI μ 600 3 (Int32.ofNat t)) := frC.sI (Or.inl ⟨rfl, by decide, by decide⟩)
  have h0 : StR (x_sI μ 600 3 (Int32.ofNat t)) (S.upd g S.dl w0 t S.day) := h.town (w := t) h6
  generalize x_sI μ 600 3 (Int32.ofNat t) = ν0 at f0 h0 ⊢
  have f2 : frC dyR ν0 (x_sI ν0 600 2 (Int32.ofNat w)) := frC.sI (Or.inl ⟨rfl, by decide, by decide⟩)
  have h2 : StR (x_sI ν0 600 2 (Int32.ofNat w)) (S.upd g S.dl w t S.day) := h0.wet (w := w) h6
  generalize x_sI ν0 600 2 (Int32.ofNat w) = ν1 at f2 h2 ⊢
  obtain ⟨ν, e1, h1, f1⟩ := r_J203 (ad := ad) (D := D) (cA := cA) h6 hd hg h2
  exact ⟨ν, e1, h1, (f0.tr f2).tr f1⟩
def gdR (o k : Nat) : Prop := d2R o k ∨ dyR o k
theorem r_goDay {S : St} (h : StR μ S) (hO : Ok S) : ∃ ν', f_X10_goDay (XR ad D cA) 600 μ = some ((), ν') ∧ StR ν' S.goDay ∧ frC gdR μ ν' := by
  have h6 := hO.1.1.1
  have hl := h.2.2.2.2.2.1.1
  have U1 : ∀ o k, d2R o k → gdR o k := fun _ _ z => Or.inl z
  have U2 : ∀ o k, dyR o k → gdR o k := fun _ _ z => Or.inr z
  have U3 : ∀ o k, scR o k → gdR o k := fun _ _ z => Or.inl (Or.inl z)
  unfold f_X10_goDay
  obtain ⟨ν1, e1, h1, c1, f1⟩ := r_g2 (ad := ad) (D := D) (cA := cA) (K := fun (v13 : Nat) (μ14 : x_M) => _) hO S.n 0 4096 0 μ (by omega) (by omega) rfl h (fun j hj => by omega)
  rw [e1]
  obtain ⟨ν2, e2, f2⟩ := r_spring (ad := ad) (D := D) (cA := cA) h1 hO
  have h2 := h1.fr h6 f2 scR_us
  simp only [↓ckE, ↓reduceIte, kR, RK, Nat.reduceAdd, e2, bdE]
  have c2 : ∀ j, j < S.n → ν2.1 634 j = Int32.ofInt (S.pours j) ∧ ν2.1 635 j = Int32.ofNat (S.sun j) := fun j hj => by
    rw [f2.2 634 j (by unfold scR; omega), f2.2 635 j (by unfold scR; omega)]; exact c1 j hj
  obtain ⟨ν3, e3, h3, f3⟩ := r_g45 (ad := ad) (D := D) (cA := cA) (K := fun (v23 : Nat) (v24 : Int32) (μ25 : x_M) => _) (y := Int32.ofNat S.spring) hO hl (fun j hj => (c2 j hj).1) S.n 0 4096 0 ν2 (by omega) (by omega) rfl h2 frC.rf
  rw [e3]
  obtain ⟨ν4, e4, h4, f4⟩ := r_g72 (ad := ad) (D := D) (cA := cA) (K := fun (v37 : Nat) (v38 : Int32) (μ39 : x_M) => _) (y := Int32.ofNat S.spring) (ν0 := ν3) hO hl (fun j hj => by rw [f3.2 635 j (by unfold dyR; omega)]; exact (c2 j hj).2) S.n 0 4096 0 ν3 (by omega) (by omega) rfl h3 frC.rf
  rw [e4]
  have bq := pourTo_b hO hl (fv := S.fvol) S.n (Nat.le_refl _)
  have bs := sunTo_b (q := S.q1) hl bq.2.1 S.n (Nat.le_refl _)
  have bw : S.q1.2 ≤ 9999 + 10000 * S.n := bq.1
  have hg : ∀ j, j < S.n → -12000 ≤ S.q2.1 j ∧ S.q2.1 j ≤ 20000 := bs.2.1
  have bw2 : S.q2.2 ≤ S.q1.2 := bs.1
  have bsp : S.spring ≤ 1200 := by
    unfold St.spring
    have := lsum_le (fa := S.fact S.level none) (w := 0) hl.2
    have := hl.1
    have := hO.2.2.1
    by_cases q : (S.day : Int) = S.dry
    · rw [if_pos q]; omega
    · rw [if_neg q]; omega
  have bm := St.mvol_le hO.1
  have bt := hO.1.2.2.2
  have hw4 : ν4.1 600 2 = Int32.ofNat S.q2.2 := h4.2.2.1.2.2.1
  simp only [↓ckE, ↓ltE, ↓reduceIte, kR, RK, Nat.reduceAdd, hw4, iN_add]
  have h5 : StR (x_sI ν4 600 2 (Int32.ofNat (S.q2.2 + S.spring))) (S.upd S.q2.1 S.dl (S.q2.2 + S.spring) S.town S.day) := h4.wet h6
  have f5 : frC dyR ν4 (x_sI ν4 600 2 (Int32.ofNat (S.q2.2 + S.spring))) := frC.sI (Or.inl ⟨rfl, by decide, by decide⟩)
  generalize x_sI ν4 600 2 (Int32.ofNat (S.q2.2 + S.spring)) = ν5 at h5 f5 ⊢
  have em : f_X10_mark (XR ad D cA) 600 ν5 = some (Int32.ofNat S.mark, ν5) := r_mark (S := S) h5.1 h5.2.2.2.2.2.1
  have ev : f_X10_volumeOf (XR ad D cA) 600 (Int32.ofNat S.mark) ν5 = some (Int32.ofNat S.mvol, ν5) := r_vol h5.1 (ar := S.ar) h5.2.1 (by unfold St.mark; omega)
  have hw5 : ν5.1 600 2 = Int32.ofNat (S.q2.2 + S.spring) := h5.2.2.1.2.2.1
  have ht5 : ν5.1 600 3 = Int32.ofNat S.town := h5.2.2.1.2.2.2
  simp only [em, ev, bdE, hw5, ht5, ↓ckE, ↓reduceIte, kR, RK, Nat.reduceAdd, iN_add]
  have F : ∀ ν', frC dyR ν5 ν' → frC gdR μ ν' := fun ν' f6 => (((f1.up U1).tr (f2.up U3)).tr ((f3.tr f4).up U2)).tr ((f5.tr f6).up U2)
  unfold St.goDay
  by_cases q : S.q2.2 + S.spring ≤ S.mvol
  · rw [if_pos ((iN_le (by omega) (by omega)).mpr q), if_pos q, if_pos q]
    obtain ⟨ν6, e6, h6', f6⟩ := r_J203 (ad := ad) (D := D) (cA := cA) (S := S) h6 hO.2.1 hg h5
    exact ⟨ν6, e6, h6', F _ f6⟩
  · rw [if_neg (fun z => q ((iN_le (by omega) (by omega)).mp z)), if_neg q, if_neg q, iN_sub (by omega)]
    by_cases q2 : S.town + (S.q2.2 + S.spring) - S.mvol ≤ 99999
    · rw [if_pos ((leN 99999 99999 rfl (by omega) (by decide)).mpr q2), if_pos q2]
      obtain ⟨ν6, e6, h6', f6⟩ := r_J195 (ad := ad) (D := D) (cA := cA) (S := S) (w := S.mvol) (t := S.town + (S.q2.2 + S.spring) - S.mvol) h6 hO.2.1 hg h5
      exact ⟨ν6, e6, h6', F _ f6⟩
    · rw [if_neg (fun z => q2 ((leN 99999 99999 rfl (by omega) (by decide)).mp z)), if_neg q2]
      obtain ⟨ν6, e6, h6', f6⟩ := r_J195 (ad := ad) (D := D) (cA := cA) (S := S) (w := S.mvol) (t := 99999) h6 hO.2.1 hg h5
      exact ⟨ν6, e6, h6', F _ f6⟩
end GODR
