/-! ===== the class's copying of one state to another ===== -/
def cpy (P : Nat → Nat → Prop) (B b : Nat) (μ μ' : x_M) : Prop := μ'.2 = μ.2 ∧ (∀ d k, P d k → μ'.1 (B + d) k = μ.1 (b + d) k) ∧ ∀ o k, ¬ (B ≤ o ∧ P (o - B) k) → μ'.1 o k = μ.1 o k
def sm (P : Nat → Nat → Prop) : Prop := ∀ d k, P d k → d ≤ 24
def farB (B b : Nat) : Prop := B + 100 ≤ b ∨ b + 100 ≤ B
theorem cpy.tr {P Q R : Nat → Nat → Prop} {B b : Nat} {μ μ1 μ2 : x_M} (hf : farB B b) (hQs : sm Q) (hPs : sm P) (h : cpy P B b μ μ1) (g : cpy Q B b μ1 μ2) (hR : ∀ d k, R d k ↔ P d k ∨ Q d k) : cpy R B b μ μ2 := by
  obtain ⟨h1, h2, h3⟩ := h
  obtain ⟨g1, g2, g3⟩ := g
  have src : ∀ d k, d ≤ 24 → μ1.1 (b + d) k = μ.1 (b + d) k := fun d k hd => h3 _ k (fun z => by
    have := hPs _ _ z.2
    unfold farB at hf; omega)
  refine ⟨g1.trans h1, fun d k hd => ?_, fun o k ho => ?_⟩
  · rcases Classical.em (Q d k) with q | q
    · rw [g2 d k q, src d k (hQs d k q)]
    · have hp : P d k := ((hR d k).mp hd).resolve_right q
      rw [g3 (B + d) k (fun z => q (by have := z.2; rwa [Nat.add_sub_cancel_left] at this)), h2 d k hp]
  · rw [g3 o k (fun z => ho ⟨z.1, (hR _ _).mpr (Or.inr z.2)⟩), h3 o k (fun z => ho ⟨z.1, (hR _ _).mpr (Or.inl z.2)⟩)]
theorem sI_off {μ : x_M} {o k p j : Nat} {v : Int32} (h : ¬ (p = o ∧ j = k)) : (x_sI μ o k v).1 p j = μ.1 p j := by
  rw [sI_rd]
  by_cases q : p = o
  · rw [if_pos q, if_neg (fun z => h ⟨q, z⟩)]
  · rw [if_neg q]
theorem cpy.rf {P : Nat → Nat → Prop} {B b : Nat} {μ : x_M} (h : ∀ d k, ¬ P d k) : cpy P B b μ μ := ⟨rfl, fun d k z => absurd z (h d k), fun _ _ _ => rfl⟩
theorem cpy.sI {B b d k : Nat} {μ : x_M} : cpy (fun d' k' => d' = d ∧ k' = k) B b μ (x_sI μ (B + d) k (μ.1 (b + d) k)) := by
  refine ⟨rfl, fun d' k' h => ?_, fun o j h => ?_⟩
  · rw [h.1, h.2]; exact sI_get
  · rw [sI_rd]
    by_cases q : o = B + d
    · rw [if_pos q, if_neg (fun z => h ⟨by omega, by omega, z⟩)]
    · rw [if_neg q]
theorem cpy.cg {P Q : Nat → Nat → Prop} {B b : Nat} {μ μ' : x_M} (h : cpy P B b μ μ') (hPQ : ∀ d k, Q d k ↔ P d k) : cpy Q B b μ μ' :=
  ⟨h.1, fun d k z => h.2.1 d k ((hPQ d k).mp z), fun o k z => h.2.2 o k (fun w => z ⟨w.1, (hPQ _ _).mpr w.2⟩)⟩
theorem cpy.Pt {P : Nat → Nat → Prop} {B b : Nat} {a c : x_M} (h : cpy P B b a c) (g : Pt a) : Pt c := fun o k z => by rw [h.1]; exact g o k z
theorem kB2 : ∀ B ∈ ([100, 200, 300] : List Nat), x_kdC (B + 16) = 7 ∧ x_kdC (B + 19) = 7 ∧ x_kdC (B + 22) = 7 ∧ (x_kdC (B + 17) = 20 ∧ x_lnA (B + 17) = 8 ∧ x_kdC (B + 18) = 20 ∧ x_lnA (B + 18) = 8) ∧ (x_kdC (B + 20) = 20 ∧ x_lnA (B + 20) = 8 ∧ x_kdC (B + 21) = 20 ∧ x_lnA (B + 21) = 8) ∧ (x_kdC (B + 23) = 20 ∧ x_lnA (B + 23) = 8 ∧ x_kdC (B + 24) = 20 ∧ x_lnA (B + 24) = 8) := by decide +kernel
theorem rfS2 : ∀ B ∈ ([100, 200, 300] : List Nat), (rf107 (B + 16) 0 = B + 17 ∧ rf107 (B + 16) 1 = B + 18) ∧ (rf107 (B + 19) 0 = B + 20 ∧ rf107 (B + 19) 1 = B + 21) ∧ (rf107 (B + 22) 0 = B + 23 ∧ rf107 (B + 22) 1 = B + 24) := by decide +kernel
/-- r is one of the three rows' places: its kinds and references -/
def rw3 (r : Nat) : Prop := r = 16 ∨ r = 19 ∨ r = 22
theorem kRow {B r : Nat} (hB : isB B) (hr : rw3 r) : x_kdC (B + r) = 7 ∧ x_kdC (B + (r + 1)) = 20 ∧ x_lnA (B + (r + 1)) = 8 ∧ x_kdC (B + (r + 2)) = 20 ∧ x_lnA (B + (r + 2)) = 8 := by
  obtain ⟨a1, a2, a3, ⟨b1, b2, b3, b4⟩, ⟨c1, c2, c3, c4⟩, d1, d2, d3, d4⟩ := kB2 B hB.mem
  rcases hr with rfl | rfl | rfl
  · exact ⟨a1, b1, b2, b3, b4⟩
  · exact ⟨a2, c1, c2, c3, c4⟩
  · exact ⟨a3, d1, d2, d3, d4⟩
theorem pRow {μ : x_M} {B r : Nat} (hB : isB B) (hr : rw3 r) (hP : Pt μ) : μ.2.1 (B + r) 0 = B + (r + 1) ∧ μ.2.1 (B + r) 1 = B + (r + 2) := by
  obtain ⟨⟨a1, a2⟩, ⟨b1, b2⟩, c1, c2⟩ := rfS2 B hB.mem
  have hg := hB.ge
  have hr' := hr
  unfold rw3 at hr'
  rw [hP (B + r) 0 (by omega), hP (B + r) 1 (by omega)]
  rcases hr with rfl | rfl | rfl
  · exact ⟨a1, a2⟩
  · exact ⟨b1, b2⟩
  · exact ⟨c1, c2⟩
section COPYC
variable {ad : Nat → Nat} {D : va_G} {cA : Nat → ClassId} {μ : x_M}
theorem c_cp3 {B b : Nat} (hB : isB B) (hb : isB b) (hf : farB B b) (hP : Pt μ) : ∀ (m k F : Nat) (x : Int32) (ν : x_M), k + m = 6 → m < F → x = Int32.ofNat k → cpy (fun d' k' => d' = 2 ∧ k' < k) B b μ ν → ∃ ν', f_X3_copyFrom_L2 (XC ad D cA) F (B + 1) (b + 1) x ν = some ((), ν') ∧ cpy (fun d' k' => d' = 2 ∧ k' < 6) B b μ ν' := by
  intro m
  induction m with
  | zero =>
    intro k F x ν hk hF hx h
    obtain ⟨f, rfl⟩ : ∃ n, F = n + 1 := ⟨F - 1, by omega⟩
    have hc : (6 : Int32) ≤ x := by rw [hx]; exact (geN 6 6 rfl (by omega) (by omega)).mpr (by omega)
    unfold f_X3_copyFrom_L2
    simp only [↓reduceIte, hc]
    exact ⟨ν, rfl, h.cg (fun d j => by omega)⟩
  | succ m ih =>
    intro k F x ν hk hF hx h
    obtain ⟨f, rfl⟩ : ∃ n, F = n + 1 := ⟨F - 1, by omega⟩
    have hc : ¬ (6 : Int32) ≤ x := fun z => by rw [hx] at z; have := (geN 6 6 rfl (by omega) (by omega)).mp z; omega
    have hx6 : x_ix x 6 := by rw [hx]; exact iN_ix (by omega) (by omega)
    have hcl : x.toNatClampNeg = k := by rw [hx]; exact iN_cl (by omega)
    have hPν := h.Pt hP
    obtain ⟨-, k1, k2, -, l2, -⟩ := kB hB
    obtain ⟨-, k1', k2', -, l2', -⟩ := kB hb
    have e1 := c_at (ad := ad) (D := D) (cA := cA) (μ := ν) (o := b + 2) (i := k) k2' (by rw [l2']; omega) (by rw [l2']; omega)
    rw [← hx] at e1
    unfold f_X3_copyFrom_L2
    simp only [↓ckE, ↓ltE, ↓reduceIte, kC, lC, k1, k1', k2, l2, Nat.reduceAdd, hc, (pt_S hB hPν).2.2.2.2.2, (pt_S hb hPν).2.2.2.2.2, e1, bdE, true_and, ↓ixT hx6, hcl]
    exact ih (k + 1) f (x + 1) _ (by omega) (by omega) (by rw [hx]; exact iN_s) (h.tr hf (fun d j z => by omega) (fun d j z => by omega) cpy.sI (fun d j => by omega))
theorem c_cp6 {B b r : Nat} (hB : isB B) (hb : isB b) (hf : farB B b) (hr : rw3 r) (hP : Pt μ) : ∀ (m k F : Nat) (x : Int32) (ν : x_M), k + m = 8 → m < F → x = Int32.ofNat k → cpy (fun d' k' => (d' = r ∧ k' = 3) ∨ ((d' = r + 1 ∨ d' = r + 2) ∧ k' < k)) B b μ ν → ∃ ν', f_X6_copyFrom_L10 (XC ad D cA) F (B + r) (b + r) x ν = some ((), ν') ∧ cpy (fun d' k' => (d' = r ∧ k' = 3) ∨ ((d' = r + 1 ∨ d' = r + 2) ∧ k' < 8)) B b μ ν' := by
  intro m
  have hr' : r ≤ 22 := by unfold rw3 at hr; omega
  induction m with
  | zero =>
    intro k F x ν hk hF hx h
    obtain ⟨f, rfl⟩ : ∃ n, F = n + 1 := ⟨F - 1, by omega⟩
    have hc : (8 : Int32) ≤ x := by rw [hx]; exact (geN 8 8 rfl (by omega) (by omega)).mpr (by omega)
    unfold f_X6_copyFrom_L10
    simp only [↓reduceIte, hc]
    exact ⟨ν, rfl, h.cg (fun d j => by omega)⟩
  | succ m ih =>
    intro k F x ν hk hF hx h
    obtain ⟨f, rfl⟩ : ∃ n, F = n + 1 := ⟨F - 1, by omega⟩
    have hc : ¬ (8 : Int32) ≤ x := fun z => by rw [hx] at z; have := (geN 8 8 rfl (by omega) (by omega)).mp z; omega
    have hx6 : x_ix x 8 := by rw [hx]; exact iN_ix (by omega) (by omega)
    have hcl : x.toNatClampNeg = k := by rw [hx]; exact iN_cl (by omega)
    have hPν := h.Pt hP
    obtain ⟨k1, k2, l2, k3, l3⟩ := kRow hB hr
    obtain ⟨k1', k2', l2', k3', l3'⟩ := kRow hb hr
    have e1 := c_at (ad := ad) (D := D) (cA := cA) (μ := ν) (o := b + (r + 1)) (i := k) k2' (by rw [l2']; omega) (by rw [l2']; omega)
    rw [← hx] at e1
    have h1 : cpy _ B b μ (x_sI ν (B + (r + 1)) k (ν.1 (b + (r + 1)) k)) := h.tr (R := fun d' k' => ((d' = r ∧ k' = 3) ∨ ((d' = r + 1 ∨ d' = r + 2) ∧ k' < k)) ∨ (d' = r + 1 ∧ k' = k)) hf (fun d j z => by omega) (fun d j z => by omega) cpy.sI (fun d j => Iff.rfl)
    unfold f_X6_copyFrom_L10
    simp only [↓ckE, ↓ltE, ↓reduceIte, kC, lC, k1, k1', k2, l2, Nat.reduceAdd, hc, pRow hB hr hPν, pRow hb hr hPν, e1, bdE, true_and, ↓ixT hx6, hcl, sI_2]
    generalize x_sI ν (B + (r + 1)) k (ν.1 (b + (r + 1)) k) = ν1 at h1 ⊢
    have e2 := c_at (ad := ad) (D := D) (cA := cA) (μ := ν1) (o := b + (r + 2)) (i := k) k3' (by rw [l3']; omega) (by rw [l3']; omega)
    rw [← hx] at e2
    simp only [↓ckE, ↓ltE, ↓reduceIte, kC, lC, k3, l3, Nat.reduceAdd, e2, bdE, true_and, ↓ixT hx6, hcl]
    exact ih (k + 1) f (x + 1) _ (by omega) (by omega) (by rw [hx]; exact iN_s) (h1.tr hf (fun d j z => by omega) (fun d j z => by omega) cpy.sI (fun d j => by omega))
theorem c_cpRow {B b r : Nat} (hB : isB B) (hb : isB b) (hf : farB B b) (hr : rw3 r) (hP : Pt μ) : ∃ ν', f_X6_copyFrom (XC ad D cA) (B + r) (b + r) μ = some ((), ν') ∧ cpy (fun d' k' => (d' = r ∧ k' = 3) ∨ ((d' = r + 1 ∨ d' = r + 2) ∧ k' < 8)) B b μ ν' := by
  unfold f_X6_copyFrom
  simp only [↓ckE, ↓ltE, ↓reduceIte, kC, (kRow hB hr).1, (kRow hb hr).1, Nat.reduceAdd]
  have hr' : r ≤ 22 := by unfold rw3 at hr; omega
  exact c_cp6 hB hb hf hr hP 8 0 4096 0 _ (by omega) (by omega) rfl ((cpy.sI (B := B) (b := b) (d := r) (k := 3)).cg (fun d j => by omega))
theorem c_cp0L {B b i : Nat} (hB : isB B) (hb : isB b) (hf : farB B b) (hi : i < 6) (hP : Pt μ) : ∀ (m k F : Nat) (x : Int32) (ν : x_M), k + m = 4 → m < F → x = Int32.ofNat k → cpy (fun d' k' => (d' = 4 + i ∧ 2 ≤ k' ∧ k' ≤ 7) ∨ (d' = 10 + i ∧ k' < k)) B b μ ν → ∃ ν', f_X0_copyFrom_L50 (XC ad D cA) F (B + 4 + i) (b + 4 + i) x ν = some ((), ν') ∧ cpy (fun d' k' => (d' = 4 + i ∧ 2 ≤ k' ∧ k' ≤ 7) ∨ (d' = 10 + i ∧ k' < 4)) B b μ ν' := by
  intro m
  induction m with
  | zero =>
    intro k F x ν hk hF hx h
    obtain ⟨f, rfl⟩ : ∃ n, F = n + 1 := ⟨F - 1, by omega⟩
    have hc : (4 : Int32) ≤ x := by rw [hx]; exact (geN 4 4 rfl (by omega) (by omega)).mpr (by omega)
    unfold f_X0_copyFrom_L50
    simp only [↓reduceIte, hc]
    exact ⟨ν, rfl, h.cg (fun d j => by omega)⟩
  | succ m ih =>
    intro k F x ν hk hF hx h
    obtain ⟨f, rfl⟩ : ∃ n, F = n + 1 := ⟨F - 1, by omega⟩
    have hc : ¬ (4 : Int32) ≤ x := fun z => by rw [hx] at z; have := (geN 4 4 rfl (by omega) (by omega)).mp z; omega
    have hx6 : x_ix x 4 := by rw [hx]; exact iN_ix (by omega) (by omega)
    have hcl : x.toNatClampNeg = k := by rw [hx]; exact iN_cl (by omega)
    have hPν := h.Pt hP
    obtain ⟨k1, k2, l2⟩ := kBa hB hi
    obtain ⟨k1', k2', l2'⟩ := kBa hb hi
    have e1 := c_at (ad := ad) (D := D) (cA := cA) (μ := ν) (o := b + 10 + i) (i := k) k2' (by rw [l2']; omega) (by rw [l2']; omega)
    rw [← hx] at e1
    unfold f_X0_copyFrom_L50
    simp only [↓ckE, ↓ltE, ↓reduceIte, kC, lC, k1, k1', k2, l2, Nat.reduceAdd, hc, (pt_a hB hi hPν).2, (pt_a hb hi hPν).2, e1, bdE, true_and, ↓ixT hx6, hcl]
    have hs := cpy.sI (B := B) (b := b) (d := 10 + i) (k := k) (μ := ν)
    rw [show B + (10 + i) = B + 10 + i by omega, show b + (10 + i) = b + 10 + i by omega] at hs
    exact ih (k + 1) f (x + 1) _ (by omega) (by omega) (by rw [hx]; exact iN_s) (h.tr hf (fun d j z => by omega) (fun d j z => by omega) hs (fun d j => by omega))
theorem c_cp0 {B b i : Nat} (hB : isB B) (hb : isB b) (hf : farB B b) (hi : i < 6) (hP : Pt μ) (h01 : μ.1 (b + 4 + i) 2 = 0 ∨ μ.1 (b + 4 + i) 2 = 1) : ∃ ν', f_X0_copyFrom (XC ad D cA) (B + 4 + i) (b + 4 + i) μ = some ((), ν') ∧ cpy (fun d' k' => (d' = 4 + i ∧ 2 ≤ k' ∧ k' ≤ 7) ∨ (d' = 10 + i ∧ k' < 4)) B b μ ν' := by
  have k1 := (kBa hB hi).1
  have k1' := (kBa hb hi).1
  have st : ∀ (ν : x_M) (k : Nat), cpy (fun d' k' => d' = 4 + i ∧ k' = k) B b ν (x_sI ν (B + 4 + i) k (ν.1 (b + 4 + i) k)) := fun ν k => by
    have hs := cpy.sI (B := B) (b := b) (d := 4 + i) (k := k) (μ := ν)
    rw [show B + (4 + i) = B + 4 + i by omega, show b + (4 + i) = b + 4 + i by omega] at hs
    exact hs
  have nx : ∀ (ν : x_M) (k : Nat), cpy (fun d' k' => d' = 4 + i ∧ 2 ≤ k' ∧ k' ≤ k) B b μ ν → 1 ≤ k → cpy (fun d' k' => d' = 4 + i ∧ 2 ≤ k' ∧ k' ≤ k + 1) B b μ (x_sI ν (B + 4 + i) (k + 1) (ν.1 (b + 4 + i) (k + 1))) := fun ν k h hk =>
    h.tr hf (fun d j z => by omega) (fun d j z => by omega) (st ν (k + 1)) (fun d j => by omega)
  have h1 : cpy (fun d' k' => d' = 4 + i ∧ 2 ≤ k' ∧ k' ≤ 1) B b μ μ := cpy.rf (fun d k => by omega)
  unfold f_X0_copyFrom
  simp only [↓ckE, ↓ltE, ↓reduceIte, kC, k1, k1', Nat.reduceAdd, true_and]
  rw [if_pos h01]
  exact c_cp0L hB hb hf hi hP 4 0 4096 0 _ (by omega) (by omega) rfl ((nx _ 6 (nx _ 5 (nx _ 4 (nx _ 3 (nx _ 2 (nx _ 1 h1 (by omega)) (by omega)) (by omega)) (by omega)) (by omega)) (by omega)).cg (fun d j => by omega))
def cpS (d k : Nat) : Prop := (d = 2 ∧ k < 6) ∨ (4 ≤ d ∧ d ≤ 9 ∧ 2 ≤ k ∧ k ≤ 7) ∨ (10 ≤ d ∧ d ≤ 15 ∧ k < 4)
def cpW (d k : Nat) : Prop := (rw3 d ∧ k = 3) ∨ ((d = 17 ∨ d = 18 ∨ d = 20 ∨ d = 21 ∨ d = 23 ∨ d = 24) ∧ k < 8)
theorem c_cp7L {B b : Nat} {K : Nat → Nat → x_M → Option (Unit × x_M)} (hB : isB B) (hb : isB b) (hf : farB B b) (hP : Pt μ) (h01 : ∀ i, i < 6 → μ.1 (b + 4 + i) 2 = 0 ∨ μ.1 (b + 4 + i) 2 = 1) : ∀ (m k F : Nat) (x : Int32) (ν : x_M), k + m = 6 → m < F → x = Int32.ofNat k → cpy (fun d k' => (d = 2 ∧ k' < 6) ∨ (4 ≤ d ∧ d < 4 + k ∧ 2 ≤ k' ∧ k' ≤ 7) ∨ (10 ≤ d ∧ d < 10 + k ∧ k' < 4)) B b μ ν → ∃ ν', f_X7_copyFrom_L13 (XC ad D cA) K F B b x ν = K B b ν' ∧ cpy cpS B b μ ν' := by
  intro m
  induction m with
  | zero =>
    intro k F x ν hk hF hx h
    obtain ⟨f, rfl⟩ : ∃ n, F = n + 1 := ⟨F - 1, by omega⟩
    have hc : (6 : Int32) ≤ x := by rw [hx]; exact (geN 6 6 rfl (by omega) (by omega)).mpr (by omega)
    unfold f_X7_copyFrom_L13
    simp only [↓reduceIte, hc]
    exact ⟨ν, rfl, h.cg (fun d j => by unfold cpS; omega)⟩
  | succ m ih =>
    intro k F x ν hk hF hx h
    obtain ⟨f, rfl⟩ : ∃ n, F = n + 1 := ⟨F - 1, by omega⟩
    have hc : ¬ (6 : Int32) ≤ x := fun z => by rw [hx] at z; have := (geN 6 6 rfl (by omega) (by omega)).mp z; omega
    have hx6 : x_ix x 6 := by rw [hx]; exact iN_ix (by omega) (by omega)
    have hcl : x.toNatClampNeg = k := by rw [hx]; exact iN_cl (by omega)
    have hPν := h.Pt hP
    obtain ⟨k0, -, -, k3, -, l3⟩ := kB hB
    obtain ⟨k0', -, -, k3', -, l3'⟩ := kB hb
    have ka := (kBa hB (i := k) (by omega)).1
    have pa := (pt_a hB (i := k) (by omega) hPν).1
    have pa' := (pt_a hb (i := k) (by omega) hPν).1
    have hg := hB.ge
    have hg' := hb.ge
    obtain ⟨ν1, e1, c1⟩ := c_cp0 (ad := ad) (D := D) (cA := cA) (μ := ν) hB hb hf (i := k) (by omega) hPν (by
      rw [h.2.2 (b + 4 + k) 2 (fun z => by unfold farB at hf; omega)]; exact h01 k (by omega))
    unfold f_X7_copyFrom_L13
    simp only [↓ckE, ↓ltE, ↓reduceIte, kC, lC, k0, k0', k3, l3, k3', l3', ka, pa, pa', (pt_S hB hPν).2.1, (pt_S hb hPν).2.1, Nat.reduceAdd, Nat.reduceEqDiff, hc, true_or, or_true, true_and, ↓ixT hx6, hcl, e1, bdE]
    exact ih (k + 1) f (x + 1) _ (by omega) (by omega) (by rw [hx]; exact iN_s) (h.tr hf (fun d j z => by omega) (fun d j z => by omega) c1 (fun d j => by omega))
/-- all that is copied -/
def cpA (d k : Nat) : Prop := cpS d k ∨ cpW d k ∨ (d = 0 ∧ 6 ≤ k ∧ k ≤ 9)
theorem cpA_s : sm cpA := by
  intro d k h
  unfold cpA cpS cpW rw3 at h
  omega
def cpZ (B o k : Nat) : Prop := (B ≤ o ∧ cpA (o - B) k) ∨ (o = B ∧ (k = 10 ∨ k = 11))
theorem c_copy {B b : Nat} (hB : isB B) (hb : isB b) (hf : farB B b) (hP : Pt μ) (h01 : ∀ i, i < 6 → μ.1 (b + 4 + i) 2 = 0 ∨ μ.1 (b + 4 + i) 2 = 1) : ∃ ν', f_X7_copyFrom (XC ad D cA) B b μ = some ((), ν') ∧ (ν'.2.1 = x_u μ.2.1 B 5 (μ.2.1 b 5) ∧ ν'.2.2 = μ.2.2) ∧ (∀ d k, cpA d k → ν'.1 (B + d) k = μ.1 (b + d) k) ∧ (ν'.1 B 10 = 0 ∧ ν'.1 B 11 = -1) ∧ ∀ o k, ¬ cpZ B o k → ν'.1 o k = μ.1 o k := by
  obtain ⟨k0, k1, -, -, -, -⟩ := kB hB
  obtain ⟨k0', k1', -, -, -, -⟩ := kB hb
  have hg := hB.ge
  have hg' := hb.ge
  have r16 : rw3 16 := Or.inl rfl
  have r19 : rw3 19 := Or.inr (Or.inl rfl)
  have r22 : rw3 22 := Or.inr (Or.inr rfl)
  obtain ⟨ν1, e1, c1⟩ := c_cp3 (ad := ad) (D := D) (cA := cA) hB hb hf hP 6 0 4096 0 μ (by omega) (by omega) rfl (cpy.rf (fun d k => by omega))
  have e1 : f_X3_copyFrom (XC ad D cA) (B + 1) (b + 1) μ = some ((), ν1) := e1
  unfold f_X7_copyFrom
  simp only [↓ckE, ↓ltE, ↓reduceIte, kC, k0, k0', k1, Nat.reduceAdd, (pt_S hB hP).1, (pt_S hb hP).1, e1, bdE]
  obtain ⟨ν2, e2, c2⟩ := c_cp7L (ad := ad) (D := D) (cA := cA) (K := fun (v15 : Nat) (v16 : Nat) (μ17 : x_M) => _) hB hb hf hP h01 6 0 4096 0 ν1 (by omega) (by omega) rfl (c1.cg (fun d k => by omega))
  rw [e2]
  have hP2 := c2.Pt hP
  obtain ⟨ν3, e3, c3⟩ := c_cpRow (ad := ad) (D := D) (cA := cA) hB hb hf r16 hP2
  have hP3 := c3.Pt hP2
  obtain ⟨ν4, e4, c4⟩ := c_cpRow (ad := ad) (D := D) (cA := cA) hB hb hf r19 hP3
  have hP4 := c4.Pt hP3
  obtain ⟨ν5, e5, c5⟩ := c_cpRow (ad := ad) (D := D) (cA := cA) hB hb hf r22 hP4
  have hP5 := c5.Pt hP4
  simp only [↓ckE, ↓ltE, ↓reduceIte, kC, k0, k0', Nat.reduceAdd, (pt_S hB hP2).2.2.1, (pt_S hb hP2).2.2.1, (kRow hB r16).1, e3, bdE, (pt_S hB hP3).2.2.2.1, (pt_S hb hP3).2.2.2.1, (kRow hB r19).1, e4, (pt_S hB hP4).2.2.2.2.1, (pt_S hb hP4).2.2.2.2.1, (kRow hB r22).1, e5]
  have c25 : cpy (fun d k => cpS d k ∨ cpW d k) B b μ ν5 := by
    have d3 := c2.tr (R := fun d' k' => cpS d' k' ∨ ((d' = 16 ∧ k' = 3) ∨ ((d' = 16 + 1 ∨ d' = 16 + 2) ∧ k' < 8))) hf (fun d j z => by omega) (fun d j z => by unfold cpS at z; omega) c3 (fun d j => Iff.rfl)
    have d4 := d3.tr (R := fun d' k' => (cpS d' k' ∨ ((d' = 16 ∧ k' = 3) ∨ ((d' = 16 + 1 ∨ d' = 16 + 2) ∧ k' < 8))) ∨ ((d' = 19 ∧ k' = 3) ∨ ((d' = 19 + 1 ∨ d' = 19 + 2) ∧ k' < 8))) hf (fun d j z => by omega) (fun d j z => by unfold cpS at z; omega) c4 (fun d j => Iff.rfl)
    exact d4.tr hf (fun d j z => by omega) (fun d j z => by unfold cpS at z; omega) c5 (fun d j => by unfold cpS cpW rw3; omega)
  have eb5 : ν5.2.1 b 5 = μ.2.1 b 5 := by rw [c25.1]
  have s : ∀ (ν : x_M) (k : Nat), cpy (fun d' k' => d' = 0 ∧ k' = k) B b ν (x_sI ν B k (ν.1 b k)) := fun ν k => cpy.sI (d := 0)
  -- the reference first, the ints then
  have cR : ∀ o k, (x_sR ν5 B 5 (ν5.2.1 b 5)).1 o k = ν5.1 o k := fun _ _ => rfl
  have n4 := fun (ν : x_M) => (((s ν 6).tr (R := fun d' k' => d' = 0 ∧ 6 ≤ k' ∧ k' ≤ 7) hf (fun d j z => by omega) (fun d j z => by omega) (s _ 7) (fun d j => by omega)).tr (R := fun d' k' => d' = 0 ∧ 6 ≤ k' ∧ k' ≤ 8) hf (fun d j z => by omega) (fun d j z => by omega) (s _ 8) (fun d j => by omega)).tr (R := fun d' k' => d' = 0 ∧ 6 ≤ k' ∧ k' ≤ 9) hf (fun d j z => by omega) (fun d j z => by omega) (s _ 9) (fun d j => by omega)
  have n4 := n4 (x_sR ν5 B 5 (ν5.2.1 b 5))
  refine ⟨_, rfl, ⟨?_, ?_⟩, fun d k hd => ?_, ⟨?_, ?_⟩, fun o k ho => ?_⟩
  · show (x_sR ν5 B 5 (ν5.2.1 b 5)).2.1 = _
    show x_u ν5.2.1 B 5 (ν5.2.1 b 5) = _
    rw [eb5, c25.1]
  · show ν5.2.2 = _
    rw [c25.1]
  · rw [sI_off (by unfold cpA cpS cpW rw3 at hd; omega), sI_off (by unfold cpA cpS cpW rw3 at hd; omega)]
    rcases Classical.em (d = 0 ∧ 6 ≤ k ∧ k ≤ 9) with q | q
    · rw [n4.2.1 d k q, cR, c25.2.2 (b + d) k (fun z => by
        have z2 : cpS (b + d - B) k ∨ cpW (b + d - B) k := z.2
        have z1 := z.1
        unfold cpS cpW rw3 at z2
        unfold farB at hf
        omega)]
    · have hd' : cpS d k ∨ cpW d k := by unfold cpA at hd; rcases hd with z | z | z; exact Or.inl z; exact Or.inr z; exact absurd z q
      rw [n4.2.2 (B + d) k (fun z => q (by have := z.2; rwa [Nat.add_sub_cancel_left] at this)), cR, c25.2.1 d k hd']
  · rw [sI_off (by omega)]; exact sI_get
  · exact sI_get
  · have h1 : ¬ (o = B ∧ k = 11) := fun z => ho (Or.inr ⟨z.1, Or.inr z.2⟩)
    have h2 : ¬ (o = B ∧ k = 10) := fun z => ho (Or.inr ⟨z.1, Or.inl z.2⟩)
    rw [sI_off h1, sI_off h2, n4.2.2 o k (fun z => ho (Or.inl ⟨z.1, Or.inr (Or.inr z.2)⟩)), cR, c25.2.2 o k (fun z => ho (Or.inl ⟨z.1, by unfold cpA; rcases z.2 with w | w; exact Or.inl w; exact Or.inr (Or.inl w)⟩))]
end COPYC
