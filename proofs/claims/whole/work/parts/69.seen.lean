/-! ===== what was seen: hidden stones, whose absence ===== -/
def SeenOk (R : Rw) : Prop := R.1 ≤ 4 ∧ ∀ r, r < R.1 → R.2.1 r ≤ 20 ∧ 0 ≤ R.2.2 r ∧ R.2.2 r ≤ 60
def RowR (ν : x_M) (kc w1 w2 : Nat) (R : Rw) : Prop := ν.1 600 kc = Int32.ofNat R.1 ∧ ∀ j, j < R.1 → ν.1 w1 j = Int32.ofNat (R.2.1 j) ∧ ν.1 w2 j = Int32.ofInt (R.2.2 j)
def seenF (T : St) (R : Rw) : Nat → Nat → Bool
  | 0, _ => true
  | m + 1, k => if ((T.goN (R.2.1 k)).level : Int) = R.2.2 k then seenF T R m (k + 1) else false
theorem seenF_iff {T : St} {R : Rw} : ∀ m k, seenF T R m k = true ↔ ∀ r, k ≤ r → r < k + m → ((T.goN (R.2.1 r)).level : Int) = R.2.2 r
  | 0, k => ⟨fun _ r h1 h2 => by omega, fun _ => rfl⟩
  | m + 1, k => by
    have ih := seenF_iff (T := T) (R := R) m (k + 1)
    show (if ((T.goN (R.2.1 k)).level : Int) = R.2.2 k then seenF T R m (k + 1) else false) = true ↔ _
    by_cases q : ((T.goN (R.2.1 k)).level : Int) = R.2.2 k
    · rw [if_pos q, ih]
      constructor
      · intro z r h1 h2
        by_cases e : r = k
        · rw [e]; exact q
        · exact z r (by omega) (by omega)
      · intro z r h1 h2; exact z r (by omega) (by omega)
    · rw [if_neg q]
      exact ⟨fun z => (by cases z), fun z => absurd (z k (by omega) (by omega)) q⟩
def onF (T : St) (R : Rw) (d : Nat) : Nat → Nat → Bool
  | 0, _ => true
  | m + 1, k => if R.2.1 k = d then (if R.2.2 k = (T.level : Int) then onF T R d m (k + 1) else false) else onF T R d m (k + 1)
theorem onF_iff {T : St} {R : Rw} {d : Nat} : ∀ m k, onF T R d m k = true ↔ ∀ r, k ≤ r → r < k + m → R.2.1 r = d → R.2.2 r = (T.level : Int)
  | 0, k => ⟨fun _ r h1 h2 => by omega, fun _ => rfl⟩
  | m + 1, k => by
    have ih := onF_iff (T := T) (R := R) (d := d) m (k + 1)
    show (if R.2.1 k = d then (if R.2.2 k = (T.level : Int) then onF T R d m (k + 1) else false) else onF T R d m (k + 1)) = true ↔ _
    have up : (∀ r, k + 1 ≤ r → r < k + 1 + m → R.2.1 r = d → R.2.2 r = (T.level : Int)) → (R.2.1 k = d → R.2.2 k = (T.level : Int)) → ∀ r, k ≤ r → r < k + (m + 1) → R.2.1 r = d → R.2.2 r = (T.level : Int) := by
      intro z z0 r h1 h2
      by_cases e : r = k
      · rw [e]; exact z0
      · exact z r (by omega) (by omega)
    by_cases q : R.2.1 k = d
    · rw [if_pos q]
      by_cases q2 : R.2.2 k = (T.level : Int)
      · rw [if_pos q2, ih]
        exact ⟨fun z => up z (fun _ => q2), fun z r h1 h2 => z r (by omega) (by omega)⟩
      · rw [if_neg q2]
        exact ⟨fun z => (by cases z), fun z => absurd (z k (by omega) (by omega) q) q2⟩
    · rw [if_neg q, ih]
      exact ⟨fun z => up z (fun w => absurd w q), fun z r h1 h2 => z r (by omega) (by omega)⟩
def goF (R : Rw) : Nat → Nat → St → Bool
  | 0, _, _ => true
  | m + 1, d, T => if onF T R d R.1 0 then goF R m (d + 1) T.goDay else false
theorem goF_iff {R : Rw} : ∀ (m d : Nat) (T : St), goF R m d T = true ↔ ∀ e, d ≤ e → e < d + m → ∀ r, r < R.1 → R.2.1 r = e → R.2.2 r = ((T.goN (e - d)).level : Int)
  | 0, d, T => ⟨fun _ e h1 h2 => by omega, fun _ => rfl⟩
  | m + 1, d, T => by
    have ih := goF_iff (R := R) m (d + 1) T.goDay
    have io := onF_iff (T := T) (R := R) (d := d) R.1 0
    have st : ∀ e, d + 1 ≤ e → T.goDay.goN (e - (d + 1)) = T.goN (e - d) := fun e he => by
      rw [show e - d = (e - (d + 1)) + 1 by omega]; rfl
    show (if onF T R d R.1 0 = true then goF R m (d + 1) T.goDay else false) = true ↔ _
    by_cases q : onF T R d R.1 0 = true
    · rw [if_pos q, ih]
      have q := io.mp q
      constructor
      · intro z e h1 h2 r hr he
        by_cases g : e = d
        · rw [g, Nat.sub_self]; exact q r (Nat.zero_le _) (by omega) (by omega)
        · rw [← st e (by omega)]; exact z e (by omega) (by omega) r hr he
      · intro z e h1 h2 r hr he
        rw [st e h1]; exact z e (by omega) (by omega) r hr he
    · rw [if_neg q]
      refine ⟨fun z => (by cases z), fun z => absurd (io.mpr (fun r _ h2 he => ?_)) q⟩
      have := z d (Nat.le_refl _) (by omega) r (by omega) he
      rw [Nat.sub_self] at this
      exact this
/-- one more than the last day seen -/
def lastF (R : Rw) : Nat → Nat → Nat → Nat
  | 0, _, acc => acc
  | m + 1, k, acc => lastF R m (k + 1) (max acc (R.2.1 k + 1))
theorem lastF_b {R : Rw} : ∀ m k acc, acc ≤ lastF R m k acc ∧ (∀ r, k ≤ r → r < k + m → R.2.1 r + 1 ≤ lastF R m k acc) ∧ ((∀ r, k ≤ r → r < k + m → R.2.1 r ≤ 20) → acc ≤ 21 → lastF R m k acc ≤ 21)
  | 0, k, acc => ⟨Nat.le_refl _, fun r h1 h2 => by omega, fun _ h => h⟩
  | m + 1, k, acc => by
    obtain ⟨h1, h2, h3⟩ := lastF_b (R := R) m (k + 1) (max acc (R.2.1 k + 1))
    refine ⟨?_, fun r p1 p2 => ?_, fun p h => ?_⟩
    · show acc ≤ lastF R m (k + 1) (max acc (R.2.1 k + 1)); omega
    · show _ ≤ lastF R m (k + 1) (max acc (R.2.1 k + 1))
      by_cases e : r = k
      · rw [e]; omega
      · exact h2 r (by omega) (by omega)
    · show lastF R m (k + 1) (max acc (R.2.1 k + 1)) ≤ 21
      have := p k (by omega) (by omega)
      exact h3 (fun r p1 p2 => p r (by omega) (by omega)) (by omega)
def SeenL (R : Rw) : Nat := lastF R R.1 0 0
theorem goF_seen {R : Rw} {T : St} : goF R (SeenL R) 0 T = seenF T R R.1 0 := by
  have h1 := goF_iff (R := R) (SeenL R) 0 T
  have h2 := seenF_iff (T := T) (R := R) R.1 0
  have hb := (lastF_b (R := R) R.1 0 0).2.1
  have key : goF R (SeenL R) 0 T = true ↔ seenF T R R.1 0 = true := by
    rw [h1, h2]
    constructor
    · intro z r _ hr
      have := z (R.2.1 r) (Nat.zero_le _) (by have := hb r (Nat.zero_le _) hr; unfold SeenL; omega) r (by omega) rfl
      rw [Nat.sub_zero] at this
      exact this.symm
    · intro z e _ _ r hr he
      rw [Nat.sub_zero, ← he]
      exact (z r (Nat.zero_le _) (by omega)).symm
  cases hg : goF R (SeenL R) 0 T with
  | true => exact (key.mp hg).symm
  | false =>
    cases hs : seenF T R R.1 0 with
    | true => exact absurd (key.mpr hs) (by rw [hg]; decide)
    | false => rfl
section SEEN
variable {ad : Nat → Nat} {D : va_G} {cA : Nat → ClassId} {μ ν : x_M} {S : St} {R : Rw}
theorem c_first {r j : Nat} (hP : Pt ν) (hr : r = 16 ∨ r = 19 ∨ r = 22) (B : Nat) (hB : isB B) (hj : j < 8) : f_X6_first (XC ad D cA) (B + r) (Int32.ofNat j) ν = some (ν.1 (B + r + 1) j, ν) ∧ f_X6_second (XC ad D cA) (B + r) (Int32.ofNat j) ν = some (ν.1 (B + r + 2) j, ν) := by
  obtain ⟨k1, k2, l2, k3, l3⟩ := kRow hB hr
  obtain ⟨p1, p2⟩ := pRow hB hr hP
  have e1 := c_at (ad := ad) (D := D) (cA := cA) (μ := ν) (o := B + (r + 1)) (i := j) k2 (by rw [l2]; omega) (by rw [l2]; omega)
  have e2 := c_at (ad := ad) (D := D) (cA := cA) (μ := ν) (o := B + (r + 2)) (i := j) k3 (by rw [l3]; omega) (by rw [l3]; omega)
  constructor
  · unfold f_X6_first
    simp only [↓ckE, ↓ltE, ↓reduceIte, kC, k1, p1, e1, bdE, Nat.reduceAdd]
    rfl
  · unfold f_X6_second
    simp only [↓ckE, ↓ltE, ↓reduceIte, kC, k1, p2, e2, bdE, Nat.reduceAdd]
    rfl
theorem l_size (h : Later ν S R) : f_X6_size (XC ad D cA) 316 ν = some (Int32.ofNat R.1, ν) := by
  unfold f_X6_size
  simp only [↓ckE, ↓reduceIte, kC, CK, Nat.reduceAdd, h.2.1.1]
theorem l_fs {j : Nat} (h : Later ν S R) (h8 : R.1 ≤ 8) (hj : j < R.1) : f_X6_first (XC ad D cA) 316 (Int32.ofNat j) ν = some (Int32.ofNat (R.2.1 j), ν) ∧ f_X6_second (XC ad D cA) 316 (Int32.ofNat j) ν = some (Int32.ofInt (R.2.2 j), ν) := by
  have := c_first (ad := ad) (D := D) (cA := cA) (r := 16) (j := j) h.1.1.2 (Or.inl rfl) 300 (Or.inr (Or.inr rfl)) (by omega)
  simp only [Nat.reduceAdd] at this
  obtain ⟨q1, q2⟩ := h.2.1.2 j hj
  simp only [Nat.reduceAdd] at q1 q2
  rw [q1, q2] at this
  exact this
theorem c_lastL (h : Later ν S R) (hk : SeenOk R) : ∀ (m k F acc : Nat) (x y : Int32), k + m = R.1 → m < F → x = Int32.ofNat k → y = Int32.ofInt ((acc : Int) - 1) → acc ≤ 21 → f_X2_lastSeen_L4 (XC ad D cA) F 2 y x ν = some (Int32.ofInt ((lastF R m k acc : Int) - 1), ν) := by
  intro m
  have h4 := hk.1
  induction m with
  | zero =>
    intro k F acc x y hk' hF hx hy ha
    obtain ⟨f, rfl⟩ : ∃ n, F = n + 1 := ⟨F - 1, by omega⟩
    have hc : Int32.ofNat R.1 ≤ x := by rw [hx]; exact (iN_le (by omega) (by omega)).mpr (by omega)
    unfold f_X2_lastSeen_L4
    simp only [↓ckE, ↓ltE, ↓reduceIte, kC, CK, CP h.1.1.2, Nat.reduceAdd, l_size h, bdE, hc, hy]
    rfl
  | succ m ih =>
    intro k F acc x y hk' hF hx hy ha
    obtain ⟨f, rfl⟩ : ∃ n, F = n + 1 := ⟨F - 1, by omega⟩
    have hc : ¬ Int32.ofNat R.1 ≤ x := fun z => by rw [hx] at z; have := (iN_le (by omega) (by omega)).mp z; omega
    have e1 := (l_fs (ad := ad) (D := D) (cA := cA) (j := k) h (by omega) (by omega)).1
    rw [← hx] at e1
    have hr := (hk.2 k (by omega)).1
    have em : (if Int32.ofInt ((acc : Int) - 1) < Int32.ofNat (R.2.1 k) then Int32.ofNat (R.2.1 k) else Int32.ofInt ((acc : Int) - 1)) = Int32.ofInt (((max acc (R.2.1 k + 1) : Nat) : Int) - 1) := by
      rw [iN_I, iI_max (by omega) (by omega)]
      congr 1
      by_cases q : (acc : Int) - 1 < (R.2.1 k : Int)
      · rw [if_pos q]; omega
      · rw [if_neg q]; omega
    unfold f_X2_lastSeen_L4
    simp only [↓ckE, ↓ltE, ↓reduceIte, kC, CK, CP h.1.1.2, Nat.reduceAdd, l_size h, bdE, hc, e1, hy, em]
    exact ih (k + 1) f _ (x + 1) _ (by omega) (by omega) (by rw [hx]; exact iN_s) rfl (by omega)
theorem c_onL {d : Nat} (h : Later ν S R) (hk : SeenOk R) (hd : d ≤ 30) : ∀ (m k F : Nat) (x : Int32), k + m = R.1 → m < F → x = Int32.ofNat k → f_X2_isAsSeenOn_L2 (XC ad D cA) F 2 (Int32.ofNat d) x ν = some (if onF S R d m k then 1 else 0, ν) := by
  intro m
  have h4 := hk.1
  induction m with
  | zero =>
    intro k F x hk' hF hx
    obtain ⟨f, rfl⟩ : ∃ n, F = n + 1 := ⟨F - 1, by omega⟩
    have hc : Int32.ofNat R.1 ≤ x := by rw [hx]; exact (iN_le (by omega) (by omega)).mpr (by omega)
    unfold f_X2_isAsSeenOn_L2
    simp only [↓ckE, ↓ltE, ↓reduceIte, kC, CK, CP h.1.1.2, Nat.reduceAdd, l_size h, bdE, hc, or_true]
    rfl
  | succ m ih =>
    intro k F x hk' hF hx
    obtain ⟨f, rfl⟩ : ∃ n, F = n + 1 := ⟨F - 1, by omega⟩
    have hc : ¬ Int32.ofNat R.1 ≤ x := fun z => by rw [hx] at z; have := (iN_le (by omega) (by omega)).mp z; omega
    obtain ⟨e1, e2⟩ := l_fs (ad := ad) (D := D) (cA := cA) (j := k) h (by omega) (by omega)
    rw [← hx] at e1 e2
    obtain ⟨b1, b2, b3⟩ := hk.2 k (by omega)
    have el := h.1.level (ad := ad) (D := D) (cA := cA) h.2.2
    have hlv : S.level ≤ 60 := lvl_le
    unfold f_X2_isAsSeenOn_L2
    simp only [↓ckE, ↓ltE, ↓reduceIte, kC, CK, CP h.1.1.2, Nat.reduceAdd, l_size h, bdE, hc, e1, e2, el, iE, true_or]
    show _ = some (if (if R.2.1 k = d then (if R.2.2 k = (S.level : Int) then onF S R d m (k + 1) else false) else onF S R d m (k + 1)) = true then 1 else 0, ν)
    have nx := ih (k + 1) f (x + 1) (by omega) (by omega) (by rw [hx]; exact iN_s)
    by_cases q : R.2.1 k = d
    · rw [if_pos q, if_pos (by rw [q])]
      by_cases q2 : R.2.2 k = (S.level : Int)
      · rw [if_pos q2, if_pos (by rw [q2, iN_I]), nx]
      · rw [if_neg q2, if_neg (fun z => q2 (by rw [iN_I] at z; exact (iI_inj (by omega) (by omega)).mp z))]
        rfl
    · rw [if_neg q, if_neg (fun z => q ((iN_inj (by omega) (by omega)).mp z)), nx]
theorem c_goL {L : Nat} (hk : SeenOk R) (hL : L ≤ 21) : ∀ (m d F : Nat) (x : Int32) (ν : x_M) (T : St), d + m = L → m < F → x = Int32.ofNat d → Later ν T R → T.day + m ≤ 20000 → ∃ ν', f_X2_goesAsSeen_L7 (XC ad D cA) F 2 (Int32.ofInt ((L : Int) - 1)) x ν = some (if goF R m d T then 1 else 0, ν') ∧ frA askC ν ν' := by
  intro m
  induction m with
  | zero =>
    intro d F x ν T hk' hF hx h hd
    obtain ⟨f, rfl⟩ : ∃ n, F = n + 1 := ⟨F - 1, by omega⟩
    have hc : Int32.ofInt ((L : Int) - 1) < x := by rw [hx, iN_I]; exact (iI_lt (by omega) (by omega)).mpr (by omega)
    unfold f_X2_goesAsSeen_L7
    simp only [↓ckE, ↓reduceIte, hc, or_true]
    exact ⟨ν, rfl, frA.rf⟩
  | succ m ih =>
    intro d F x ν T hk' hF hx h hd
    obtain ⟨f, rfl⟩ : ∃ n, F = n + 1 := ⟨F - 1, by omega⟩
    have hc : ¬ Int32.ofInt ((L : Int) - 1) < x := fun z => by rw [hx, iN_I] at z; have := (iI_lt (by omega) (by omega)).mp z; omega
    have eo : f_X2_isAsSeenOn (XC ad D cA) 2 x ν = some (if onF T R d R.1 0 then 1 else 0, ν) := by
      rw [hx]
      exact c_onL h hk (by omega) R.1 0 4096 0 (by omega) (by have := hk.1; omega) rfl
    obtain ⟨ν1, e1, h1, -, f1⟩ := c_day (ad := ad) (D := D) (cA := cA) h (by omega)
    unfold f_X2_goesAsSeen_L7
    simp only [↓ckE, ↓ltE, ↓reduceIte, kC, CK, CP h.1.1.2, Nat.reduceAdd, hc, eo, e1, bdE, iE, true_or]
    show ∃ ν', _ = some (if (if onF T R d R.1 0 = true then goF R m (d + 1) T.goDay else false) = true then 1 else 0, ν') ∧ _
    by_cases q : onF T R d R.1 0 = true
    · rw [if_pos q, if_pos q, if_neg (by decide)]
      obtain ⟨ν', r1, r3⟩ := ih (d + 1) f (x + 1) ν1 T.goDay (by omega) (by omega) (by rw [hx]; exact iN_s) h1 (by rw [St.goDay_day]; omega)
      exact ⟨ν', r1, f1.tr r3⟩
    · rw [if_neg q, if_neg q, if_pos rfl]
      exact ⟨ν, rfl, frA.rf⟩
theorem c_goes (hk : SeenOk R) (h : Later ν S R) (hd : S.day + 21 ≤ 20000) : ∃ ν', f_X2_goesAsSeen (XC ad D cA) 2 ν = some (if seenF S R R.1 0 then 1 else 0, ν') ∧ frA askC ν ν' := by
  have h4 := hk.1
  have e : f_X2_lastSeen (XC ad D cA) 2 ν = some (Int32.ofInt ((SeenL R : Int) - 1), ν) := c_lastL h hk R.1 0 4096 0 0 (-1) (by omega) (by omega) rfl rfl (by omega)
  have hL : SeenL R ≤ 21 := (lastF_b (R := R) R.1 0 0).2.2 (fun r _ hr => (hk.2 r (by omega)).1) (by omega)
  obtain ⟨ν', r1, r2⟩ := c_goL (ad := ad) (D := D) (cA := cA) (L := SeenL R) hk hL (SeenL R) 0 4096 0 ν S (by omega) (by omega) rfl h (by omega)
  refine ⟨ν', ?_, r2⟩
  unfold f_X2_goesAsSeen
  simp only [↓ckE, ↓reduceIte, kC, CK, Nat.reduceAdd, e, bdE]
  rw [← goF_seen]
  exact r1
theorem RowR.ask {a b : x_M} {kc w1 w2 : Nat} (h : RowR a kc w1 w2 R) (f : frC askR a b) (hk : 40 ≤ kc) (h1 : 642 ≤ w1) (h2 : 642 ≤ w2) : RowR b kc w1 w2 R := by
  refine ⟨?_, fun j hj => ⟨?_, ?_⟩⟩
  · rw [f.2 600 kc (by unfold askR d2R scR kpR; omega)]; exact h.1
  · rw [f.2 w1 j (by unfold askR d2R scR kpR; omega)]; exact (h.2 j hj).1
  · rw [f.2 w2 j (by unfold askR d2R scR kpR; omega)]; exact (h.2 j hj).2
theorem r_seenL {ν0 : x_M} {T : St} (hO : Ok T) (hk : SeenOk R) (hd : T.day + 20 ≤ 20000) : ∀ (m k F : Nat) (x : Int32) (ν : x_M), k + m = R.1 → m < F → x = Int32.ofNat k → StR ν T → RowR ν 40 642 643 R → frC askR ν0 ν → ∃ ν', f_X10_isSeen_L4 (XR ad D cA) F 600 1 x ν = some (if seenF T R m k then 1 else 0, ν') ∧ frC askR ν0 ν' := by
  have h6 := hO.1.1.1
  have h4 := hk.1
  have zz : ∀ (F : Nat) (x : Int32) (ν : x_M), 0 < F → f_X10_isSeen_L4 (XR ad D cA) F 600 0 x ν = some (0, ν) := by
    intro F x ν hF
    obtain ⟨f, rfl⟩ : ∃ n, F = n + 1 := ⟨F - 1, by omega⟩
    unfold f_X10_isSeen_L4
    simp only [↓ckE, ↓reduceIte, kR, RK, Nat.reduceAdd, true_or, ite_self]
  intro m
  induction m with
  | zero =>
    intro k F x ν hk' hF hx h hR hf
    obtain ⟨f, rfl⟩ : ∃ n, F = n + 1 := ⟨F - 1, by omega⟩
    have hc : Int32.ofNat R.1 ≤ x := by rw [hx]; exact (iN_le (by omega) (by omega)).mpr (by omega)
    unfold f_X10_isSeen_L4
    simp only [↓ckE, ↓reduceIte, kR, RK, Nat.reduceAdd, hR.1, hc, or_true]
    exact ⟨ν, rfl, hf⟩
  | succ m ih =>
    intro k F x ν hk' hF hx h hR hf
    obtain ⟨f, rfl⟩ : ∃ n, F = n + 1 := ⟨F - 1, by omega⟩
    have hc : ¬ Int32.ofNat R.1 ≤ x := fun z => by rw [hx] at z; have := (iN_le (by omega) (by omega)).mp z; omega
    have hx6 : x_ix x 4 := by rw [hx]; exact iN_ix (by omega) (by omega)
    have hcl : x.toNatClampNeg = k := by rw [hx]; exact iN_cl (by omega)
    obtain ⟨b1, b2, b3⟩ := hk.2 k (by omega)
    obtain ⟨ν1, g1, j, b⟩ := r_begin (ad := ad) (D := D) (cA := cA) h hO
    have sv : ∀ o k, 642 ≤ o → ν1.1 o k = ν.1 o k := by
      obtain ⟨ν1', e', f', -⟩ := r_save (ad := ad) (D := D) (cA := cA) h.1
      rw [g1] at e'
      cases e'
      exact fun o k ho => f'.2 o k (by unfold kpR; omega)
    have w1 : ν1.1 642 k = Int32.ofNat (R.2.1 k) := by rw [sv 642 k (by omega)]; exact (hR.2 k (by omega)).1
    obtain ⟨ν2, g2, j2⟩ := r_goDays (ad := ad) (D := D) (cA := cA) (n := R.2.1 k) (by omega) j (by omega)
    have w2 : ν2.1 643 k = Int32.ofInt (R.2.2 k) := by
      rw [j2.2.2.2 643 k (by unfold gdR d2R scR dyR; omega), sv 643 k (by omega)]; exact (hR.2 k (by omega)).2
    obtain ⟨ν3, g3, g4⟩ := b ν2 j2.2.2
    obtain ⟨gl, -, hlv, -⟩ := r_lf (ad := ad) (D := D) (cA := cA) j2
    unfold f_X10_isSeen_L4
    simp only [↓ckE, ↓ltE, ↓reduceIte, kR, lR, RK, RN, RP j.1.1, RP j2.1.1, Nat.reduceAdd, hR.1, hc, iE, g1, true_or, true_and, ↓ixT hx6, hcl, w1, g2, gl, w2, g3, bdE]
    show ∃ ν', _ = some (if (if ((T.goN (R.2.1 k)).level : Int) = R.2.2 k then seenF T R m (k + 1) else false) = true then 1 else 0, ν') ∧ _
    by_cases q : ((T.goN (R.2.1 k)).level : Int) = R.2.2 k
    · rw [if_pos q, if_pos (by rw [← q, iN_I])]
      exact ih (k + 1) f (x + 1) ν3 (by omega) (by omega) (by rw [hx]; exact iN_s) (h.ask h6 g4) (hR.ask g4 (by omega) (by omega) (by omega)) (hf.tr g4)
    · rw [if_neg q, if_neg (fun z => q (by rw [iN_I] at z; exact (iI_inj (by omega) (by omega)).mp z)), zz f _ _ (by omega)]
      exact ⟨ν3, rfl, hf.tr g4⟩
theorem r_seen {T : St} (hO : Ok T) (hk : SeenOk R) (hd : T.day + 20 ≤ 20000) (h : StR ν T) (hR : RowR ν 40 642 643 R) : ∃ ν', f_X10_isSeen (XR ad D cA) 600 ν = some (if seenF T R R.1 0 then 1 else 0, ν') ∧ frC askR ν ν' :=
  r_seenL hO hk hd R.1 0 4096 0 ν (by omega) (by have := hk.1; omega) rfl h hR frC.rf
/-! hidden -/
def hidF (S : St) (a : Nat) (R : Rw) : Nat → Nat → Option Nat → Nat × Option Nat
  | 0, s, l => (s, l)
  | m + 1, s, l => if seenF (S.wSn a m) R R.1 0 then hidF S a R m (s + 1) (some m) else hidF S a R m s l
theorem c_hidL {a : Nat} {w : Int32} {K : Int32 → Int32 → Int32 → x_M → Option (Int32 × x_M)} (hk : SeenOk R) (ha : a < S.n) : ∀ (m F s : Nat) (l : Option Nat) (x : Int32) (μ : x_M), m ≤ 21 → m < F → x = Int32.ofInt ((m : Int) - 1) → NowC μ S R → S.day ≤ 9999 → ∃ μ', f_X9_hidden_L46 (XC ad D cA) K F 1 (Int32.ofNat a) w (Int32.ofNat s) (encO l) x μ = K w (Int32.ofNat (hidF S a R m s l).1) (encO (hidF S a R m s l).2) μ' ∧ frA askC μ μ' := by
  intro m
  induction m with
  | zero =>
    intro F s l x μ hm hF hx h hd
    obtain ⟨f, rfl⟩ : ∃ n, F = n + 1 := ⟨F - 1, by omega⟩
    have hc : x < 0 := by rw [hx]; decide
    unfold f_X9_hidden_L46
    rw [if_pos hc]
    exact ⟨μ, rfl, frA.rf⟩
  | succ m ih =>
    intro F s l x μ hm hF hx h hd
    obtain ⟨f, rfl⟩ : ∃ n, F = n + 1 := ⟨F - 1, by omega⟩
    have hxm : x = Int32.ofNat m := by rw [hx, iN_I]; congr 1; omega
    have hc : ¬ Int32.ofNat m < 0 := iN_neg (by omega)
    have h6 := h.2.2.2.1.1.1.1
    obtain ⟨μ1, e, l1, f1⟩ := h.begin (ad := ad) (D := D) (cA := cA)
    have ef := c_find (ad := ad) (D := D) (cA := cA) l1.1 l1.2.2 ha
    have hz : (304 + a = 0) = False := eq_false (by omega)
    have hB : isB 300 := Or.inr (Or.inr rfl)
    have ka := (kBa hB (i := a) (by omega)).1
    have l2 : Later (x_sI μ1 (304 + a) 7 (Int32.ofNat m)) (S.wSn a m) R := l1.w (l1.1.wSn h6 (by omega)) (l1.2.2.wSn (by omega)) (by omega)
    have f2 : frA askC μ1 (x_sI μ1 (304 + a) 7 (Int32.ofNat m)) := (frC.sI (P := askC) (by unfold askC; omega)).A (fun _ _ z => z)
    simp only [Nat.reduceAdd] at ka ef
    have E : ∃ μ3, f_X2_isAsSeenWith (XC ad D cA) 2 100 (Int32.ofNat a) (Int32.ofNat m) μ = some (if seenF (S.wSn a m) R R.1 0 then 1 else 0, μ3) ∧ frA askC μ μ3 := by
      unfold f_X2_isAsSeenWith
      simp only [↓ckE, ↓ltE, ↓reduceIte, kC, CK, CP h.1.1.2, CP l1.1.1.2, Nat.reduceAdd, e, ef, hz, ka, bdE]
      generalize x_sI μ1 (304 + a) 7 (Int32.ofNat m) = μ2 at l2 f2 ⊢
      obtain ⟨μ3, e3, f3⟩ := c_goes (ad := ad) (D := D) (cA := cA) hk l2 (by show S.day + 21 ≤ 20000; omega)
      refine ⟨μ3, ?_, (f1.tr f2).tr f3⟩
      rw [e3, bdE]
      by_cases q : seenF (S.wSn a m) R R.1 0 = true
      · rw [if_pos q, if_pos (Or.inr rfl)]
      · rw [if_neg q, if_pos (Or.inl rfl)]
    obtain ⟨μ3, e3, F3⟩ := E
    have em : Int32.ofNat m + (-1) = Int32.ofInt ((m : Int) - 1) := by rw [iN_I, show (-1 : Int32) = Int32.ofInt (-1) from rfl, ← Int32.ofInt_add]; rfl
    unfold f_X9_hidden_L46
    simp only [↓ckE, ↓ltE, ↓reduceIte, kC, CK, CP h.1.1.2, Nat.reduceAdd, hxm, hc, e3, bdE, em]
    show ∃ μ', _ = K w (Int32.ofNat (if seenF (S.wSn a m) R R.1 0 = true then hidF S a R m (s + 1) (some m) else hidF S a R m s l).1) (encO (if seenF (S.wSn a m) R R.1 0 = true then hidF S a R m (s + 1) (some m) else hidF S a R m s l).2) μ' ∧ _
    by_cases q : seenF (S.wSn a m) R R.1 0 = true
    · rw [if_pos q, if_pos q, if_neg (by decide), iN_s]
      obtain ⟨μ', r1, r2⟩ := ih f (s + 1) (some m) _ μ3 (by omega) (by omega) rfl (h.ask F3) hd
      exact ⟨μ', r1, F3.tr r2⟩
    · rw [if_neg q, if_neg q, if_pos rfl]
      obtain ⟨μ', r1, r2⟩ := ih f s l _ μ3 (by omega) (by omega) rfl (h.ask F3) hd
      exact ⟨μ', r1, F3.tr r2⟩
theorem RowR.pl {a b : x_M} {kc w1 w2 o0 k0 : Nat} (h : RowR a kc w1 w2 R) (f : frC (plR o0 k0) a b) (hk : 40 ≤ kc) (h1 : 642 ≤ w1) (h2 : 642 ≤ w2) (ho : o0 = 600 ∧ k0 < 40 ∨ (600 < o0 ∧ o0 < 642)) : RowR b kc w1 w2 R := by
  refine ⟨?_, fun j hj => ⟨?_, ?_⟩⟩
  · rw [f.2 600 kc (by unfold plR askR d2R scR kpR; omega)]; exact h.1
  · rw [f.2 w1 j (by unfold plR askR d2R scR kpR; omega)]; exact (h.2 j hj).1
  · rw [f.2 w2 j (by unfold plR askR d2R scR kpR; omega)]; exact (h.2 j hj).2
theorem r_hidL {a : Nat} {w v : Int32} {K : Nat → Int32 → Int32 → Int32 → Int32 → Int32 → x_M → Option (Int32 × x_M)} {ν0 : x_M} (hO : Ok S) (hk : SeenOk R) (ha : a < S.n) (hd : S.day ≤ 9999) (hR : RowR ν0 40 642 643 R) : ∀ (m F s k0 : Nat) (l : Option Nat) (x : Int32) (ν : x_M), m ≤ 21 → m < F → x = Int32.ofInt ((m : Int) - 1) → StR ν (S.wSn a k0) → frC (plR 610 a) ν0 ν → ∃ ν' k1, f_X10_hidden_L51 (XR ad D cA) K F 600 (Int32.ofNat a) w v (Int32.ofNat s) (encO l) x ν = K 600 (Int32.ofNat a) w v (Int32.ofNat (hidF S a R m s l).1) (encO (hidF S a R m s l).2) ν' ∧ StR ν' (S.wSn a k1) ∧ frC (plR 610 a) ν0 ν' := by
  have h6 := hO.1.1.1
  have hx6 : x_ix (Int32.ofNat a) 6 := iN_ix (by omega) (by omega)
  have hcl : (Int32.ofNat a).toNatClampNeg = a := iN_cl (by omega)
  intro m
  induction m with
  | zero =>
    intro F s k0 l x ν hm hF hx h hf
    obtain ⟨f, rfl⟩ : ∃ n, F = n + 1 := ⟨F - 1, by omega⟩
    have hc : x < 0 := by rw [hx]; decide
    unfold f_X10_hidden_L51
    rw [if_pos hc]
    exact ⟨ν, k0, rfl, h, hf⟩
  | succ m ih =>
    intro F s k0 l x ν hm hF hx h hf
    obtain ⟨f, rfl⟩ : ∃ n, F = n + 1 := ⟨F - 1, by omega⟩
    have hxm : x = Int32.ofNat m := by rw [hx, iN_I]; congr 1; omega
    have hc : ¬ Int32.ofNat m < 0 := iN_neg (by omega)
    have h1 : StR (x_sI ν 610 a (Int32.ofNat m)) (S.wSn a m) := by
      have := h.wSn (i := a) (k := m) h6
      have e : (S.wSn a k0).wSn a m = S.wSn a m := by
        show (S.1, S.2.1, (S.kd, S.v, updN (updN S.sn a k0) a m, S.rw), S.2.2.2) = _
        rw [updN_2]; rfl
      rw [e] at this
      exact this
    have f1 : frC (plR 610 a) ν (x_sI ν 610 a (Int32.ofNat m)) := frC.sI (Or.inr ⟨rfl, rfl⟩)
    have em : Int32.ofNat m + (-1) = Int32.ofInt ((m : Int) - 1) := by rw [iN_I, show (-1 : Int32) = Int32.ofInt (-1) from rfl, ← Int32.ofInt_add]; rfl
    unfold f_X10_hidden_L51
    simp only [↓ckE, ↓ltE, ↓reduceIte, kR, lR, RK, RN, RP h.1, Nat.reduceAdd, hxm, hc, true_and, ↓ixT hx6, hcl, em]
    generalize x_sI ν 610 a (Int32.ofNat m) = ν1 at h1 f1 ⊢
    obtain ⟨ν2, e2, g2⟩ := r_seen (ad := ad) (D := D) (cA := cA) (hO.wSn (by omega)) hk (by show S.day + 20 ≤ 20000; omega) h1 (hR.pl (hf.tr f1) (by omega) (by omega) (by omega) (by omega))
    have h2 : StR ν2 (S.wSn a m) := h1.ask h6 g2
    have F2 := (hf.tr f1).tr g2.pl
    simp only [e2, bdE]
    show ∃ ν' k1, _ = K 600 (Int32.ofNat a) w v (Int32.ofNat (if seenF (S.wSn a m) R R.1 0 = true then hidF S a R m (s + 1) (some m) else hidF S a R m s l).1) (encO (if seenF (S.wSn a m) R R.1 0 = true then hidF S a R m (s + 1) (some m) else hidF S a R m s l).2) ν' ∧ _
    by_cases q : seenF (S.wSn a m) R R.1 0 = true
    · rw [if_pos q, if_pos q, if_neg (by decide), iN_s]
      exact ih f (s + 1) m (some m) _ ν2 (by omega) (by omega) rfl h2 F2
    · rw [if_neg q, if_neg q, if_pos rfl]
      exact ih f s m l _ ν2 (by omega) (by omega) rfl h2 F2
theorem p_hidden {x y : Int32} (h : Pair μ ν S R) (hk : SeenOk R) (hR : RowR ν 40 642 643 R) : Same (f_X9_hidden (XC ad D cA) 1 x y μ) (f_X10_hidden (XR ad D cA) 600 x y ν) μ ν := by
  have hd := h.2.2
  have h6 := h.n6
  unfold f_X9_hidden f_X10_hidden
  rcases h.acc (ad := ad) (D := D) (cA := cA) x with ⟨a, ha, rfl, k1, k2⟩ | ⟨-, k1, k2⟩
  · have hz : (104 + a = 0) = False := eq_false (by omega)
    have hB : isB 100 := Or.inl rfl
    have ka := (kBa hB (i := a) (by omega)).1
    simp only [Nat.reduceAdd] at ka
    have hx6 : x_ix (Int32.ofNat a) 6 := iN_ix (by omega) (by omega)
    have hcl : (Int32.ofNat a).toNatClampNeg = a := iN_cl (by omega)
    have c1 : μ.1 (104 + a) 3 = Int32.ofNat (S.kd a) := (h.1.1.2.2.2.1 a ha).1.1
    have c2 : ν.1 606 a = Int32.ofNat (S.kd a) := (h.2.1.2.2.2.2.1 a ha).1.1
    have hkd := (h.ok.1.2.1 a ha).1.1
    by_cases q : (0 : Int32) ≤ y ∧ y ≤ 1
    · by_cases q4 : Int32.ofNat (S.kd a) = 4
      · obtain ⟨p, -, hp, rfl⟩ := inN 0 1 0 1 rfl rfl (by decide) (by decide) q
        obtain ⟨μ2, e2, f2⟩ := c_hidL (ad := ad) (D := D) (cA := cA) (a := a) (w := Int32.ofNat p) (K := fun (v20 : Int32) (v21 : Int32) (v22 : Int32) (μ23 : x_M) => (if v20 = 0 then (some (v21, μ23)) else (some (v22, μ23)))) hk ha 21 4096 0 none 20 μ (by omega) (by omega) rfl h.1 hd
        obtain ⟨ν2, k3, g2, j2, F2⟩ := r_hidL (ad := ad) (D := D) (cA := cA) (a := a) (w := Int32.ofNat p) (v := ν.1 610 a) (K := fun (v23 : Nat) (v24 : Int32) (v25 : Int32) (v26 : Int32) (v27 : Int32) (v28 : Int32) (μ29 : x_M) => (ck (x_kd (XR ad D cA) v23 = 10 + 1) (lt (μ29.2.1 v23 9) (fun (v30 : Nat) => (ck (x_kd (XR ad D cA) v30 = 20 ∧ x_ix v24 (x_ln (XR ad D cA) v30)) (lt (x_sI μ29 v30 (v24).toNatClampNeg v26) (fun (μ31 : x_M) => (if v25 = 0 then (some (v27, μ31)) else (some (v28, μ31)))))))))) (ν0 := ν) h.ok hk ha hd hR 21 4096 0 (S.sn a) none 20 ν (by omega) (by omega) rfl (by
          have e : S.wSn a (S.sn a) = S := by
            show (S.1, S.2.1, (S.kd, S.v, updN S.sn a (S.sn a), S.rw), S.2.2.2) = S
            rw [updN_s]
          rw [e]; exact h.2.1) frC.rf
        refine Same.of (r := if Int32.ofNat p = 0 then Int32.ofNat (hidF S a R 21 0 none).1 else encO (hidF S a R 21 0 none).2) (μ' := μ2) (ν' := x_sI ν2 610 a (ν.1 610 a)) ?_ ?_ f2 F2.back
        · have e2' : f_X9_hidden_L46 (XC ad D cA) (fun (v20 : Int32) (v21 : Int32) (v22 : Int32) (μ23 : x_M) => (if v20 = 0 then (some (v21, μ23)) else (some (v22, μ23)))) 4096 1 (Int32.ofNat a) (Int32.ofNat p) 0 (-5) 20 μ = _ := e2
          simp only [↓ckE, ↓ltE, ↓reduceIte, kC, CK, CP h.P, Nat.reduceAdd, k1, hz, c_in, q, and_self, iE, ka, c1, q4, e2', bdE]
          by_cases z : Int32.ofNat p = 0
          · rw [if_pos z, if_pos z]
          · rw [if_neg z, if_neg z]
        · simp only [↓ckE, ↓ltE, ↓reduceIte, kR, lR, RK, RN, RP j2.1, Nat.reduceAdd, true_and, ↓ixT hx6, hcl] at g2
          simp only [↓ckE, ↓ltE, ↓reduceIte, kR, lR, RK, RN, RP h.2.1.1, Nat.reduceAdd, k2, r_in, q, and_self, iE, bdE, true_or, true_and, ↓ixT hx6, hcl, c2, q4]
          refine Eq.trans g2 ?_
          by_cases z : Int32.ofNat p = 0
          · rw [if_pos z, if_pos z]
          · rw [if_neg z, if_neg z]
      · refine Same.now (r := -3) ?_ ?_
        · simp only [↓ckE, ↓ltE, ↓reduceIte, kC, CK, CP h.P, Nat.reduceAdd, k1, hz, c_in, q, and_self, iE, ka, c1, q4, bdE]
        · simp only [↓ckE, ↓ltE, ↓reduceIte, kR, lR, RK, RN, RP h.2.1.1, Nat.reduceAdd, k2, r_in, q, and_self, iE, bdE, true_or, true_and, ↓ixT hx6, hcl, c2, q4]
    · refine Same.now (r := -1) ?_ ?_
      · simp only [↓ckE, ↓ltE, ↓reduceIte, kC, CK, CP h.P, Nat.reduceAdd, k1, hz, c_in, q, bdE]
      · simp only [↓ckE, ↓reduceIte, kR, RK, Nat.reduceAdd, k2, iE, r_in, q, bdE]
  · refine Same.now (r := -1) ?_ ?_
    · simp only [↓ckE, ↓ltE, ↓reduceIte, kC, CK, CP h.P, Nat.reduceAdd, k1, bdE]
    · simp only [↓ckE, ↓reduceIte, kR, RK, Nat.reduceAdd, k2, bdE]
/-! whose absence -/
def whoF (S : St) (R : Rw) : Nat → Nat → Int32 → Int32
  | 0, _, b => b
  | m + 1, k, b => whoF S R m (k + 1) (if seenF (S.wG k) R R.1 0 then b ||| ((1 : Int32) <<< (Int32.ofNat k &&& 31)) else b)
theorem c_whoL (hk : SeenOk R) : ∀ (m k F : Nat) (b x : Int32) (μ : x_M), k + m = S.n → m < F → x = Int32.ofNat k → NowC μ S R → S.day ≤ 9999 → ∃ μ', f_X2_absencesAsSeen_L4 (XC ad D cA) F 2 100 b x μ = some (whoF S R m k b, μ') ∧ frA askC μ μ' := by
  intro m
  induction m with
  | zero =>
    intro k F b x μ hk' hF hx h hd
    obtain ⟨f, rfl⟩ : ∃ n, F = n + 1 := ⟨F - 1, by omega⟩
    have h6 := h.2.2.2.1.1.1.1
    have hn : μ.1 100 6 = Int32.ofNat S.n := h.1.2.2.2.2.2.1.1
    have hc : Int32.ofNat S.n ≤ x := by rw [hx]; exact (iN_le (by omega) (by omega)).mpr (by omega)
    unfold f_X2_absencesAsSeen_L4
    simp only [↓ckE, ↓reduceIte, kC, CK, Nat.reduceAdd, hn, hc]
    exact ⟨μ, rfl, frA.rf⟩
  | succ m ih =>
    intro k F b x μ hk' hF hx h hd
    obtain ⟨f, rfl⟩ : ∃ n, F = n + 1 := ⟨F - 1, by omega⟩
    have h6 := h.2.2.2.1.1.1.1
    have hn : μ.1 100 6 = Int32.ofNat S.n := h.1.2.2.2.2.2.1.1
    have hc : ¬ Int32.ofNat S.n ≤ Int32.ofNat k := fun z => by have := (iN_le (by omega) (by omega)).mp z; omega
    obtain ⟨μ1, e1, l1, f1⟩ := c_beginW (ad := ad) (D := D) (cA := cA) (a := k) h (by omega)
    obtain ⟨μ2, e2, f2⟩ := c_goes (ad := ad) (D := D) (cA := cA) hk l1 (by show S.day + 21 ≤ 20000; omega)
    unfold f_X2_absencesAsSeen_L4
    simp only [↓ckE, ↓ltE, ↓reduceIte, kC, CK, Nat.reduceAdd, hn, hx, hc, e1, e2, bdE]
    show ∃ μ', _ = some (whoF S R m (k + 1) (if seenF (S.wG k) R R.1 0 = true then b ||| ((1 : Int32) <<< (Int32.ofNat k &&& 31)) else b), μ') ∧ _
    have F2 := f1.tr f2
    by_cases q : seenF (S.wG k) R R.1 0 = true
    · rw [if_pos q, if_pos q, if_neg (by decide)]
      obtain ⟨μ', r1, r2⟩ := ih (k + 1) f _ (Int32.ofNat k + 1) μ2 (by omega) (by omega) iN_s (h.ask F2) hd
      exact ⟨μ', r1, F2.tr r2⟩
    · rw [if_neg q, if_neg q, if_pos rfl]
      obtain ⟨μ', r1, r2⟩ := ih (k + 1) f b (Int32.ofNat k + 1) μ2 (by omega) (by omega) iN_s (h.ask F2) hd
      exact ⟨μ', r1, F2.tr r2⟩
theorem or0 {x : Int32} : x ||| 0 = x := Int32.or_zero
theorem r_whoL {ν0 : x_M} (hO : Ok S) (hk : SeenOk R) (hd : S.day ≤ 9999) (hR : RowR ν0 40 642 643 R) : ∀ (m k F : Nat) (b : Int32) (ν : x_M), k + m = S.n → m < F → StR ν (S.wG k) → ν.1 600 30 = Int32.ofNat k → frC (plR 600 30) ν0 ν → ∃ ν', f_X10_whose_L7 (XR ad D cA) F 600 b ν = some (whoF S R m k b, x_sI ν' 600 30 (-1)) ∧ frC (plR 600 30) ν0 ν' := by
  have h6 := hO.1.1.1
  intro m
  induction m with
  | zero =>
    intro k F b ν hk' hF h h30 hf
    obtain ⟨f, rfl⟩ : ∃ n, F = n + 1 := ⟨F - 1, by omega⟩
    have hn : ν.1 600 0 = Int32.ofNat S.n := h.2.2.1.1
    have hc : Int32.ofNat S.n ≤ Int32.ofNat k := (iN_le (by omega) (by omega)).mpr (by omega)
    unfold f_X10_whose_L7
    simp only [↓ckE, ↓ltE, ↓reduceIte, kR, RK, Nat.reduceAdd, hn, h30, hc]
    exact ⟨ν, rfl, hf⟩
  | succ m ih =>
    intro k F b ν hk' hF h h30 hf
    obtain ⟨f, rfl⟩ : ∃ n, F = n + 1 := ⟨F - 1, by omega⟩
    have hn : ν.1 600 0 = Int32.ofNat S.n := h.2.2.1.1
    have hc : ¬ Int32.ofNat S.n ≤ Int32.ofNat k := fun z => by have := (iN_le (by omega) (by omega)).mp z; omega
    obtain ⟨ν2, e2, g2⟩ := r_seen (ad := ad) (D := D) (cA := cA) hO.wG hk (by show S.day + 20 ≤ 20000; omega) h (hR.pl hf (by omega) (by omega) (by omega) (by omega))
    have h2 : StR ν2 (S.wG k) := h.ask h6 g2
    have q30 : ν2.1 600 30 = Int32.ofNat k := by rw [g2.2 600 30 (by unfold askR d2R scR kpR; omega)]; exact h30
    have h3 : StR (x_sI ν2 600 30 (Int32.ofNat (k + 1))) (S.wG (k + 1)) := h2.wG (g := k + 1) h6 (fun i hi => iN_inj (by omega) (by omega))
    have f3 : frC (plR 600 30) ν2 (x_sI ν2 600 30 (Int32.ofNat (k + 1))) := frC.sI (Or.inr ⟨rfl, rfl⟩)
    have F3 := (hf.tr g2.pl).tr f3
    unfold f_X10_whose_L7
    simp only [↓ckE, ↓ltE, ↓reduceIte, kR, RK, Nat.reduceAdd, hn, h30, hc, e2, bdE, q30, iN_s, or0]
    show ∃ ν', _ = some (whoF S R m (k + 1) (if seenF (S.wG k) R R.1 0 = true then b ||| ((1 : Int32) <<< (Int32.ofNat k &&& 31)) else b), _) ∧ _
    by_cases q : seenF (S.wG k) R R.1 0 = true
    · rw [if_pos q, if_pos q, if_neg (by decide)]
      exact ih (k + 1) f _ _ (by omega) (by omega) h3 sI_get F3
    · rw [if_neg q, if_neg q, if_pos rfl]
      exact ih (k + 1) f b _ (by omega) (by omega) h3 sI_get F3
theorem p_whose (h : Pair μ ν S R) (h30 : ν.1 600 30 = -1) (hk : SeenOk R) (hR : RowR ν 40 642 643 R) : Same (f_X9_whose (XC ad D cA) 1 μ) (f_X10_whose (XR ad D cA) 600 ν) μ ν := by
  have hd := h.2.2
  have h6 := h.n6
  obtain ⟨μ2, e2, f2⟩ := c_whoL (ad := ad) (D := D) (cA := cA) hk S.n 0 4096 0 0 μ (by omega) (by omega) rfl h.1 hd
  have s0 : StR (x_sI ν 600 30 0) (S.wG 0) := h.2.1.wG h6 (fun i hi => eqN 0 0 rfl (by omega) (by decide))
  obtain ⟨ν2, g2, F2⟩ := r_whoL (ad := ad) (D := D) (cA := cA) (ν0 := ν) h.ok hk hd hR S.n 0 4096 0 (x_sI ν 600 30 0) (by omega) (by omega) s0 sI_get (frC.sI (Or.inr ⟨rfl, rfl⟩))
  have F3 := F2.back
  rw [h30] at F3
  refine Same.of (r := whoF S R S.n 0 0) (μ' := μ2) (ν' := x_sI ν2 600 30 (-1)) ?_ ?_ f2 F3
  · unfold f_X9_whose f_X2_absencesAsSeen
    simp only [↓ckE, ↓ltE, ↓reduceIte, kC, CK, CP h.P, Nat.reduceAdd, e2, bdE]
  · unfold f_X10_whose
    simp only [↓ckE, ↓ltE, ↓reduceIte, kR, RK, Nat.reduceAdd]
    exact g2
end SEEN
