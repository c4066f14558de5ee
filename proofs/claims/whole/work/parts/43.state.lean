/-! ===== a state by its numbers; the class's memory at B, the reference's memory ===== -/
/-- a law: its clauses: word, number, its tests (0: a test of letter, relation, number; 1 not, 2 and, 3 or) -/
abbrev LawA : Type := List (Nat × Nat × List (Nat × Nat × Nat × Nat))
abbrev St : Type := (Nat → Nat) × Nat × ((Nat → Nat) × (Nat → Nat) × (Nat → Nat) × (Nat → Nat → Nat)) × ((Nat → Int) × (Nat → Int)) × (Nat × Nat × Nat) × LawA × (Nat × Nat × Int)
abbrev St.ar (S : St) : Nat → Nat := S.1
abbrev St.n (S : St) : Nat := S.2.1
abbrev St.kd (S : St) : Nat → Nat := S.2.2.1.1
abbrev St.v (S : St) : Nat → Nat := S.2.2.1.2.1
abbrev St.sn (S : St) : Nat → Nat := S.2.2.1.2.2.1
abbrev St.rw (S : St) : Nat → Nat → Nat := S.2.2.1.2.2.2
abbrev St.bk (S : St) : Nat → Int := S.2.2.2.1.1
abbrev St.dl (S : St) : Nat → Int := S.2.2.2.1.2
abbrev St.wet (S : St) : Nat := S.2.2.2.2.1.1
abbrev St.town (S : St) : Nat := S.2.2.2.2.1.2.1
abbrev St.day (S : St) : Nat := S.2.2.2.2.1.2.2
abbrev St.law (S : St) : LawA := S.2.2.2.2.2.1
abbrev St.gone (S : St) : Nat := S.2.2.2.2.2.2.1
abbrev St.wells (S : St) : Nat := S.2.2.2.2.2.2.2.1
abbrev St.dry (S : St) : Int := S.2.2.2.2.2.2.2.2
/-- an account that takes part -/
abbrev St.here (S : St) (i : Nat) : Prop := i < S.n ∧ i ≠ S.gone
def St.lifts (S : St) (i : Nat) : Nat := if S.here i then (if S.kd i = 4 then 5 * S.sn i else if S.kd i = 3 ∨ S.kd i = 6 then S.v i else 0) else 0
def St.sumL (S : St) : Nat → Nat
  | 0 => 0
  | i + 1 => S.sumL i + S.lifts i
def St.level (S : St) : Nat := lvl S.ar (S.wet + S.sumL 6)
def AccOk (S : St) (i : Nat) : Prop := (S.kd i ≤ 6 ∧ S.v i ≤ 9 ∧ S.sn i ≤ 20) ∧ (-9999 ≤ S.bk i ∧ S.bk i ≤ 9999) ∧ (-30 ≤ S.dl i ∧ S.dl i ≤ 30) ∧ ∀ d, d < 4 → S.rw i d ≤ 9
def StOk (S : St) : Prop := (S.n ≤ 6 ∧ ∀ s, s < 6 → 1 ≤ S.ar s ∧ S.ar s ≤ 20) ∧ (∀ i, i < S.n → AccOk S i) ∧ S.wet ≤ 9999 ∧ S.town ≤ 99999
theorem St.lifts_le {S : St} (h : StOk S) (i : Nat) : S.lifts i ≤ 100 := by
  unfold St.lifts
  by_cases q : S.here i
  · rw [if_pos q]
    have a := (h.2.1 i q.1).1
    by_cases q1 : S.kd i = 4
    · rw [if_pos q1]; omega
    · rw [if_neg q1]
      by_cases q2 : S.kd i = 3 ∨ S.kd i = 6
      · rw [if_pos q2]; omega
      · rw [if_neg q2]; omega
  · rw [if_neg q]; omega
theorem St.sumL_le {S : St} (h : StOk S) : ∀ k, S.sumL k ≤ 100 * k
  | 0 => Nat.le_refl _
  | k + 1 => by
    have h1 := St.sumL_le h k
    have h2 := St.lifts_le h k
    show S.sumL k + S.lifts k ≤ _
    omega
theorem St.sumL_n {S : St} : ∀ {k : Nat}, S.n ≤ k → S.sumL k = S.sumL S.n
  | 0, h => by rw [Nat.le_zero.mp h]
  | k + 1, h => by
    rcases Nat.lt_or_ge k S.n with q | q
    · rw [show S.n = k + 1 by omega]
    · show S.sumL k + S.lifts k = _
      have e : S.lifts k = 0 := by unfold St.lifts; rw [if_neg (fun z => by have := z.1; omega)]
      rw [e, Nat.add_zero]; exact St.sumL_n q
section STC
variable {ad : Nat → Nat} {D : va_G} {cA : Nat → ClassId} {μ : x_M}
def AccC (μ : x_M) (B i : Nat) (S : St) : Prop := (μ.1 (B + 4 + i) 3 = Int32.ofNat (S.kd i) ∧ μ.1 (B + 4 + i) 4 = Int32.ofNat (S.v i) ∧ μ.1 (B + 4 + i) 7 = Int32.ofNat (S.sn i)) ∧ (μ.1 (B + 4 + i) 5 = Int32.ofInt (S.bk i) ∧ μ.1 (B + 4 + i) 6 = Int32.ofInt (S.dl i)) ∧ ∀ d, d < 4 → μ.1 (B + 10 + i) d = Int32.ofNat (S.rw i d)
/-- who is here, by number -/
def HereC (μ : x_M) (B : Nat) (S : St) : Prop := ∀ i, i < 6 → μ.1 (B + 4 + i) 0 = Int32.ofNat i ∧ μ.1 (B + 4 + i) 2 = if S.here i then 1 else 0
theorem sw_iN {β : Type} {x : Nat} {k d : β} {ks : List β} {vs : List Int32} (v : Nat) (hx : x < 2 ^ 31) (hv : v < 2 ^ 31) : x_swo (Int32.ofNat v :: vs) (k :: ks) d (Int32.ofNat x) = if x = v then k else x_swo vs ks d (Int32.ofNat x) := by
  rw [sw_c]
  by_cases q : x = v
  · rw [if_pos q, if_pos (by rw [q])]
  · rw [if_neg q, if_neg (fun z => q ((iN_inj hx hv).mp z))]
theorem c_lifts {B i : Nat} {S : St} (hB : isB B) (hi : i < 6) (hO : StOk S) (hH : HereC μ B S) (hA : ∀ i, i < S.n → AccC μ B i S) : f_X0_lifts (XC ad D cA) (B + 4 + i) μ = some (Int32.ofNat (S.lifts i), μ) := by
  have k0 := (kBa hB hi).1
  unfold f_X0_lifts St.lifts
  rw [ck_t (by rw [kC]; exact k0), (hH i hi).2]
  by_cases q : S.here i
  · obtain ⟨⟨a1, a2, a3⟩, -⟩ := hA i q.1
    have o := (hO.2.1 i q.1).1
    rw [if_pos q, if_pos q, if_neg (by decide), ck_t (by rw [kC]; exact k0), lt_v, a1]
    rw [show (3 : Int32) = Int32.ofNat 3 from rfl, show (4 : Int32) = Int32.ofNat 4 from rfl, show (5 : Int32) = Int32.ofNat 5 from rfl, show (6 : Int32) = Int32.ofNat 6 from rfl]
    rw [sw_iN 3 (by omega) (by omega), sw_iN 4 (by omega) (by omega), sw_iN 5 (by omega) (by omega), sw_iN 6 (by omega) (by omega), sw_n]
    by_cases q3 : S.kd i = 3
    · rw [if_pos q3, if_neg (by omega), if_pos (Or.inl q3), ck_t (by rw [kC]; exact k0), a2]
    · rw [if_neg q3]
      by_cases q4 : S.kd i = 4
      · rw [if_pos q4, if_pos q4, ck_t (by rw [kC]; exact k0), a3, iN_mul]
      · rw [if_neg q4, if_neg q4]
        by_cases q5 : S.kd i = 5
        · rw [if_pos q5, if_neg (by omega)]; rfl
        · rw [if_neg q5]
          by_cases q6 : S.kd i = 6
          · rw [if_pos q6, if_pos (Or.inr q6), ck_t (by rw [kC]; exact k0), a2]
          · rw [if_neg q6, if_neg (by omega)]; rfl
  · rw [if_neg q, if_neg q, if_pos rfl]; rfl
theorem c_levL2 {B : Nat} {S : St} (hB : isB B) (hP : Pt μ) (hA : ArC μ B S.ar) (hO : StOk S) (hH : HereC μ B S) (hC : ∀ i, i < S.n → AccC μ B i S) : ∀ (k i F : Nat) (x j : Int32), i + k = 6 → k < F → x = Int32.ofNat (S.wet + S.sumL i) → j = Int32.ofNat i → f_X7_level_L16 (XC ad D cA) F B x (B + 3) (nI 6) j μ = some (Int32.ofNat S.level, μ) := by
  intro k
  obtain ⟨k0, k1, k2, k3, l2, l3⟩ := kB hB
  induction k with
  | zero =>
    intro i F x j h hF hx hj
    obtain ⟨f, rfl⟩ : ∃ n, F = n + 1 := ⟨F - 1, by omega⟩
    have e : i = 6 := by omega
    subst e
    have h1 := St.sumL_le hO 6
    have h2 := hO.2.2.1
    unfold f_X7_level_L16
    rw [hj, if_pos (by decide), ck_t (by rw [kC]; exact k0), lt_v, (pt_S hB hP).1, ck_t (by rw [kC]; exact k1), hx, c_lev hB hP hA (by omega), bd_s]
    rfl
  | succ k ih =>
    intro i F x j h hF hx hj
    obtain ⟨f, rfl⟩ : ∃ n, F = n + 1 := ⟨F - 1, by omega⟩
    unfold f_X7_level_L16
    have hi : i < 6 := by omega
    rw [hj, if_neg (by rw [show nI 6 = Int32.ofNat 6 from rfl, iN_le (by omega) (by omega)]; omega), ck_t (by rw [kC, k3, lC, l3]; exact ⟨Or.inl rfl, iN_ix (by omega) hi⟩), lt_v, iN_cl (by omega), (pt_a hB hi hP).1, ck_t (by rw [kC]; exact (kBa hB hi).1), c_lifts hB hi hO hH hC, bd_s, lt_v]
    exact ih (i + 1) f _ _ (by omega) (by omega) (by rw [hx, iN_add]; exact congrArg Int32.ofNat (Nat.add_assoc _ _ _)) iN_s
theorem c_level {B : Nat} {S : St} (hB : isB B) (hP : Pt μ) (hA : ArC μ B S.ar) (hO : StOk S) (hH : HereC μ B S) (hC : ∀ i, i < S.n → AccC μ B i S) (hw : μ.1 B 7 = Int32.ofNat S.wet) : f_X7_level (XC ad D cA) B μ = some (Int32.ofNat S.level, μ) := by
  obtain ⟨k0, k1, k2, k3, l2, l3⟩ := kB hB
  unfold f_X7_level
  rw [ck_t (by rw [kC]; exact k0), lt_v, ck_t (by rw [kC]; exact k0), lt_v, (pt_S hB hP).2.1, ck_t (by rw [kC, k3]; exact Or.inr (Or.inl rfl)), lt_v, lC, l3]
  exact c_levL2 hB hP hA hO hH hC 6 0 _ _ _ (by omega) (by omega) hw rfl
end STC
