/-! ===== law: the text and the strings, in the class ===== -/
def strs (s : Nat) : List Nat := ([[115, 112, 114, 105, 110, 103], [115, 117, 110], [109, 97, 114, 107], [102, 108, 111, 111, 114], [114, 97, 116, 101], [100, 109, 108, 97, 107, 98], [60, 61, 62]] : List (List Nat)).getD (s - 811) []
theorem sK : ∀ s, s < 7 → (x_kdC (811 + s) = 50 ∧ x_kdC (811 + s + 20) = 41) ∧ (rf107 (811 + s) 1 = 811 + s + 20 ∧ x_lnA (811 + s + 20) = (strs (811 + s)).length) ∧ cU (811 + s) 0 = 0 ∧ (strs (811 + s)).length ≤ 6 ∧ 3 ≤ (strs (811 + s)).length ∧ ∀ i, i < (strs (811 + s)).length → cU (811 + s + 20) i = Int32.ofNat ((strs (811 + s)).getD i 0) ∧ (strs (811 + s)).getD i 0 ≤ 127 := by decide +kernel
theorem ch16 : ∀ c, c ≤ 127 → ((Int32.ofNat c).toUInt32 % 65536).toInt32 = Int32.ofNat c ∧ (Int32.ofNat c).toInt8.toInt32 = Int32.ofNat c ∧ ((Int32.ofNat c &&& (255 : Int32)).toUInt32 % 65536).toInt32 = Int32.ofNat c := by decide +kernel
theorem shr0 : ∀ n, n ≤ 6 → Int32.ofNat n >>> ((0 : Int32) &&& 31) = Int32.ofNat n := by decide +kernel
/-- where a sign stands in a string; -1 -/
def idx (c : Nat) : List Nat → Nat → Int
  | [], _ => -1
  | b :: r, j => if b = c then (j : Int) else idx c r (j + 1)
theorem idx_ge (c : Nat) : ∀ (r : List Nat) (j : Nat), -1 ≤ idx c r j ∧ idx c r j < j + r.length ∨ idx c r j = -1
  | [], j => Or.inr rfl
  | b :: r, j => by
    show -1 ≤ (if b = c then (j : Int) else idx c r (j + 1)) ∧ (if b = c then (j : Int) else idx c r (j + 1)) < j + (r.length + 1 : Nat) ∨ _
    by_cases q : b = c
    · rw [if_pos q]; left; omega
    · rw [if_neg q]
      rcases idx_ge c r (j + 1) with h | h
      · left; omega
      · right
        show (if b = c then (j : Int) else idx c r (j + 1)) = -1
        rw [if_neg q]; exact h
/-- the text: its letters, its length; 999 behind it -/
def tx (T : Nat → Nat) (Ln p : Nat) : Nat := if p < Ln then T p else 999
def Kst (μ : x_M) : Prop := Pt μ ∧ ∀ o k, 801 ≤ o → μ.1 o k = cU o k
def TxC (μ : x_M) (T : Nat → Nat) (Ln : Nat) : Prop := Ln ≤ 100 ∧ μ.1 3 1 = Int32.ofNat Ln ∧ ∀ j, j < Ln → T j ≤ 127 ∧ μ.1 4 j = Int32.ofNat (T j)
section STR
variable {ad : Nat → Nat} {D : va_G} {cA : Nat → ClassId} {μ : x_M} {T : Nat → Nat} {Ln p s : Nat}
theorem s_rf (h : Kst μ) (hs : s < 7) : μ.2.1 (811 + s) 1 = 811 + s + 20 := by
  rw [h.1 (811 + s) 1 (by omega)]; exact (sK s hs).2.1.1
theorem s_co (h : Kst μ) (hs : s < 7) : μ.1 (811 + s) 0 = 0 := by
  rw [h.2 (811 + s) 0 (by omega)]; exact (sK s hs).2.2.1
theorem s_by (h : Kst μ) (hs : s < 7) {i : Nat} (hi : i < (strs (811 + s)).length) : μ.1 (811 + s + 20) i = Int32.ofNat ((strs (811 + s)).getD i 0) := by
  rw [h.2 (811 + s + 20) i (by omega)]; exact ((sK s hs).2.2.2.2.2 i hi).1
theorem s_len (h : Kst μ) (hs : s < 7) : f_J0_length_8abf5 (XC ad D cA) (811 + s) μ = some (Int32.ofNat (strs (811 + s)).length, μ) := by
  obtain ⟨⟨k1, k2⟩, ⟨-, k4⟩, -, k6, -⟩ := sK s hs
  have r1 := s_rf h hs
  have r2 := s_co h hs
  have r3 := shr0 _ k6
  have n8 : (0 : Int32).toInt8.toInt32 = 0 := by decide
  unfold f_J0_length_8abf5 f_J0_coder_7d493
  simp only [↓ckE, ↓ltE, ↓reduceIte, kC, lC, k1, r1, k2, true_or, or_true, iE, r2, n8, bdE, k4, show nI (strs (811 + s)).length = Int32.ofNat (strs (811 + s)).length from rfl, r3]
theorem s_lat (h : Kst μ) (hs : s < 7) : f_J0_isLatin1_aae02 (XC ad D cA) (811 + s) μ = some (1, μ) := by
  obtain ⟨⟨k1, k2⟩, -⟩ := sK s hs
  have r2 := s_co h hs
  unfold f_J0_isLatin1_aae02
  simp only [↓ckE, ↓reduceIte, kC, k1, iE, r2, or_true]
theorem s_chr (h : Kst μ) (hs : s < 7) {i : Nat} (hi : i < (strs (811 + s)).length) : f_J0_charAt_5068e (XC ad D cA) (811 + s) (Int32.ofNat i) μ = some (Int32.ofNat ((strs (811 + s)).getD i 0), μ) := by
  obtain ⟨⟨k1, k2⟩, ⟨-, k4⟩, -, k6, -, kb⟩ := sK s hs
  have r1 := s_rf h hs
  have l1 := s_lat (ad := ad) (D := D) (cA := cA) h hs
  have r3 := s_by h hs hi
  obtain ⟨c1, c2, c3⟩ := ch16 _ (kb i hi).2
  have h1 : ¬ Int32.ofNat i < 0 := iN_neg (by omega)
  have h2 : Int32.ofNat i < Int32.ofNat (strs (811 + s)).length := (iN_lt (by omega) (by omega)).mpr hi
  have hx : x_ix (Int32.ofNat i) (strs (811 + s)).length := iN_ix (by omega) hi
  have hcl : (Int32.ofNat i).toNatClampNeg = i := iN_cl (by omega)
  unfold f_J0_charAt_5068e f_J1_charAt_3b067 f_J0_checkIndex_df160 f_J3_checkIndex_8e157
  simp only [↓ckE, ↓ltE, ↓reduceIte, kC, lC, k1, k2, k4, l1, bdE, iE, r1, or_true, true_or, show nI (strs (811 + s)).length = Int32.ofNat (strs (811 + s)).length from rfl, h1, h2, true_and, ↓ixT hx, hcl, r3, c3, c1]
theorem s_ixL {c : Nat} (h : Kst μ) (hs : s < 7) (hc : c ≤ 127) : ∀ (m j F : Nat), j + m = (strs (811 + s)).length → m < F → f_J1_indexOfChar_4cfef_L7 (XC ad D cA) F (811 + s + 20) (Int32.ofNat (strs (811 + s)).length) (Int32.ofNat c) (Int32.ofNat j) μ = some (Int32.ofInt (idx c ((strs (811 + s)).drop j) j), μ) := by
  obtain ⟨⟨k1, k2⟩, ⟨-, k4⟩, -, k6, -, kb⟩ := sK s hs
  intro m
  induction m with
  | zero =>
    intro j F hj hF
    obtain ⟨f, rfl⟩ : ∃ n, F = n + 1 := ⟨F - 1, by omega⟩
    have h1 : Int32.ofNat (strs (811 + s)).length ≤ Int32.ofNat j := (iN_le (by omega) (by omega)).mpr (by omega)
    unfold f_J1_indexOfChar_4cfef_L7
    rw [if_pos h1, List.drop_eq_nil_of_le (by omega)]
    rfl
  | succ m ih =>
    intro j F hj hF
    obtain ⟨f, rfl⟩ : ∃ n, F = n + 1 := ⟨F - 1, by omega⟩
    have h1 : ¬ Int32.ofNat (strs (811 + s)).length ≤ Int32.ofNat j := fun z => by have := (iN_le (by omega) (by omega)).mp z; omega
    have hx : x_ix (Int32.ofNat j) (strs (811 + s)).length := iN_ix (by omega) (by omega)
    have hcl : (Int32.ofNat j).toNatClampNeg = j := iN_cl (by omega)
    have r3 := s_by h hs (i := j) (by omega)
    have hb := (kb j (by omega)).2
    have ed : (strs (811 + s)).drop j = (strs (811 + s)).getD j 0 :: (strs (811 + s)).drop (j + 1) := by
      rw [List.drop_eq_getElem_cons (by omega), List.getD_eq_getElem?_getD, List.getElem?_eq_getElem (by omega)]
      rfl
    have i2 := ih (j + 1) f (by omega) (by omega)
    unfold f_J1_indexOfChar_4cfef_L7
    simp only [↓ckE, ↓reduceIte, kC, lC, k2, k4, h1, or_true, true_and, ↓ixT hx, hcl, r3, iN_s, i2]
    rw [ed]
    show _ = some (Int32.ofInt (if (strs (811 + s)).getD j 0 = c then (j : Int) else idx c ((strs (811 + s)).drop (j + 1)) (j + 1)), μ)
    by_cases q : (strs (811 + s)).getD j 0 = c
    · rw [if_pos (by rw [q]), if_pos q, iN_I]
    · rw [if_neg (fun z => q ((iN_inj (by omega) (by omega)).mp z)), if_neg q]
theorem s_idx {c : Nat} (h : Kst μ) (hs : s < 7) (hc : c ≤ 127) : f_J0_indexOf_0f7a4 (XC ad D cA) (811 + s) (Int32.ofNat c) μ = some (Int32.ofInt (idx c (strs (811 + s)) 0), μ) := by
  obtain ⟨⟨k1, k2⟩, ⟨-, k4⟩, -, k6, k7, kb⟩ := sK s hs
  have r1 := s_rf h hs
  have l1 := s_lat (ad := ad) (D := D) (cA := cA) h hs
  have l2 := s_len (ad := ad) (D := D) (cA := cA) h hs
  have c2 := (ch16 c hc).2.1
  have h1 : ¬ Int32.ofNat c < 0 := iN_neg (by omega)
  have h2 : ¬ (255 : Int32) < Int32.ofNat c := fun z => by have := (gtN 255 255 rfl (by decide) (by omega)).mp z; omega
  have h3 : (0 : Int32) < Int32.ofNat (strs (811 + s)).length := (gtN 0 0 rfl (by decide) (by omega)).mpr (by omega)
  have h4 : ¬ Int32.ofNat (strs (811 + s)).length < Int32.ofNat (strs (811 + s)).length := fun z => by have := (iN_lt (by omega) (by omega)).mp z; omega
  have h5 : ¬ (0 : Int32) < 0 := by decide
  have e := s_ixL (ad := ad) (D := D) (cA := cA) h hs hc (strs (811 + s)).length 0 4096 (by omega) (by omega)
  rw [List.drop_zero] at e
  have e' : f_J1_indexOfChar_4cfef_L7 (XC ad D cA) 4096 (811 + s + 20) (Int32.ofNat (strs (811 + s)).length) (Int32.ofNat c) 0 μ = some (Int32.ofInt (idx c (strs (811 + s)) 0), μ) := e
  unfold f_J0_indexOf_0f7a4 f_J0_indexOf_7cf53 f_J1_indexOf_4cfef f_J1_canEncode_9a6ad f_J1_indexOfChar_4cfef
  simp only [↓ckE, ↓ltE, ↓reduceIte, kC, lC, k1, k2, k4, l1, l2, bdE, iE, r1, or_true, true_or, h1, h2, h5, h3, h4, show nI (strs (811 + s)).length = Int32.ofNat (strs (811 + s)).length from rfl, c2, e']
theorem t_at (hT : TxC μ T Ln) (hp : p < Ln) : f_X9_at (XC ad D cA) 4 (Int32.ofNat p) μ = some (Int32.ofNat (T p), μ) := by
  rw [c_at CK.2.2.2.1 (by rw [CN.1]; have := hT.1; omega) (by rw [CN.1]; decide), (hT.2.2 p hp).2]
end STR
