/-! ===== the class's laws: what letters stand for, sums ===== -/
theorem lawIds_r : ∀ l ∈ lawIds, (l = 125 ∨ l = 225 ∨ l = 325) ∨ (400 ≤ l ∧ l ≤ 450 ∧ l % 10 = 0) := by decide
def ClC (μ : x_M) (l : Nat) : Nat → Nat → LawA → Prop
  | _, _, [] => True
  | c, o, k :: r => if k.1 ≤ 1 then (μ.1 (l + 1) c = Int32.ofNat k.1 ∧ μ.1 (l + 2) c = Int32.ofNat k.2.1 ∧ μ.1 (l + 3) c = Int32.ofNat (o + k.2.2.length)) ∧ (SegI (μ.1 (l + 4)) encC o k.2.2 ∧ o + k.2.2.length ≤ 100) ∧ ClC μ l (c + 1) (o + k.2.2.length) r else ClC μ l c o r
def nCl : LawA → Nat
  | [] => 0
  | k :: r => (if k.1 ≤ 1 then 1 else 0) + nCl r
theorem nCl_le : ∀ A : LawA, nCl A ≤ A.length
  | [] => Nat.le_refl _
  | k :: r => by
    have h := nCl_le r
    show (if k.1 ≤ 1 then 1 else 0) + nCl r ≤ r.length + 1
    by_cases q : k.1 ≤ 1
    · rw [if_pos q]; omega
    · rw [if_neg q]; omega
def LawC (μ : x_M) (l : Nat) (A : LawA) : Prop := l ∈ lawIds ∧ LawOk A ∧ (μ.1 l 5 = Int32.ofNat (nCl A) ∧ μ.1 l 7 = Int32.ofNat (min (lastW 2 A 50) 60) ∧ μ.1 l 8 = Int32.ofNat (min (lastW 3 A 5) 60) ∧ μ.1 l 9 = Int32.ofNat (lastW 4 A 0)) ∧ ClC μ l 0 0 A
theorem ClC.congr {a b : x_M} {l : Nat} (h : ∀ o, l + 1 ≤ o → o ≤ l + 4 → b.1 o = a.1 o) : ∀ {A : LawA} {c o : Nat}, ClC a l c o A → ClC b l c o A
  | [], _, _, _ => True.intro
  | k :: r, c, o, q => by
    unfold ClC at q ⊢
    rw [h (l + 1) (by omega) (by omega), h (l + 2) (by omega) (by omega), h (l + 3) (by omega) (by omega), h (l + 4) (by omega) (by omega)]
    by_cases z : k.1 ≤ 1
    · rw [if_pos z] at q ⊢
      exact ⟨q.1, q.2.1, ClC.congr h q.2.2⟩
    · rw [if_neg z] at q ⊢
      exact ClC.congr h q
theorem LawC.congr {a b : x_M} {l : Nat} {A : LawA} (h : ∀ o, l ≤ o → o ≤ l + 4 → b.1 o = a.1 o) (q : LawC a l A) : LawC b l A := by
  obtain ⟨q1, q2, q3, q4⟩ := q
  refine ⟨q1, q2, ?_, q4.congr (fun o p1 p2 => h o (by omega) p2)⟩
  rw [h l (by omega) (by omega)]; exact q3
section SUMC
variable {ad : Nat → Nat} {D : va_G} {cA : Nat → ClassId} {μ : x_M}
theorem c_tell {B l w lv : Nat} {S : St} {who : Option Nat} (hB : isB B) (hl : l ∈ lawIds) (hP : Pt μ) (hO : Ok S) (hlv : lv ≤ 60) (hH : HereC μ B S) (hC : ∀ i, i < S.n → AccC μ B i S) (hn : who = none → w = 0) (hs : ∀ i, who = some i → w = B + 4 + i ∧ i < S.n) : ∃ μ', f_X4_tellValues (XC ad D cA) l w (Int32.ofNat lv) (Int32.ofNat S.day) μ = some ((), μ') ∧ ValC μ' l (S.fact lv who) ∧ frI (· = l + 5) μ μ' := by
  obtain ⟨k0, -, -, -, -, k5, l5⟩ := lawK l hl
  obtain ⟨-, -, -, -, p4⟩ := pt_L hl hP
  have hr := lawIds_r l hl
  have hg := hB.ge
  have hd := hO.2.1
  have h6 := hO.1.1.1
  have m10 : Int32.ofNat S.day - Int32.ofNat S.day / (10 : Int32) * (10 : Int32) = Int32.ofInt (S.fact lv who 0) := (iN_rem (b := 10) (by omega) (by decide)).trans iN_I
  have d10 : (Int32.ofNat S.day) / (10 : Int32) = Int32.ofNat (S.day / 10) := iN_div (b := 10) (by omega) (by decide)
  rw [d10] at m10
  have e1 : (if (99 : Int32) < Int32.ofNat (S.day / 10) then (99 : Int32) else Int32.ofNat (S.day / 10)) = Int32.ofInt (S.fact lv who 1) := by
    show _ = Int32.ofInt ((min (S.day / 10) 99 : Nat) : Int)
    by_cases q : 99 < S.day / 10
    · rw [if_pos ((gtN 99 99 rfl (by decide) (by omega)).mpr q), Nat.min_eq_right (by omega)]; rfl
    · rw [if_neg (fun z => q ((gtN 99 99 rfl (by decide) (by omega)).mp z)), Nat.min_eq_left (by omega), iN_I]
  have e2 : Int32.ofNat lv = Int32.ofInt (S.fact lv who 2) := iN_I
  have fin : ∀ a3 a4 a5 : Int32, a3 = Int32.ofInt (S.fact lv who 3) → a4 = Int32.ofInt (S.fact lv who 4) → a5 = Int32.ofInt (S.fact lv who 5) → ∀ b0 b1 b2, b0 = Int32.ofInt (S.fact lv who 0) → b1 = Int32.ofInt (S.fact lv who 1) → b2 = Int32.ofInt (S.fact lv who 2) → ValC (x_sI (x_sI (x_sI (x_sI (x_sI (x_sI μ (l + 5) 0 b0) (l + 5) 1 b1) (l + 5) 2 b2) (l + 5) 3 a3) (l + 5) 4 a4) (l + 5) 5 a5) l (S.fact lv who) ∧ frI (· = l + 5) μ (x_sI (x_sI (x_sI (x_sI (x_sI (x_sI μ (l + 5) 0 b0) (l + 5) 1 b1) (l + 5) 2 b2) (l + 5) 3 a3) (l + 5) 4 a4) (l + 5) 5 a5) := by
    intro a3 a4 a5 h3 h4 h5 b0 b1 b2 h0 h1 h2
    refine ⟨fun f hf => ⟨?_, St.fact_b hO.1 hlv (fun i hi => (hs i hi).2) f⟩, ?_⟩
    · simp only [sI_rd, ↓reduceIte]
      match f, hf with
      | 0, _ => exact h0
      | 1, _ => exact h1
      | 2, _ => exact h2
      | 3, _ => exact h3
      | 4, _ => exact h4
      | 5, _ => exact h5
    · have st : ∀ (a : x_M) (k : Nat) (v : Int32), frI (· = l + 5) a (x_sI a (l + 5) k v) := fun a k v => frI.sI rfl
      exact (((((st _ _ _).tr (st _ _ _)).tr (st _ _ _)).tr (st _ _ _)).tr (st _ _ _)).tr (st _ _ _)
  unfold f_X4_tellValues f_X4_tellValues_J9 f_X4_tellValues_J62 f_X4_tellValues_J82
  cases who with
  | none =>
    have hw := hn rfl
    subst hw
    simp only [↓ckE, ↓ltE, ↓reduceIte, kC, lC, k0, k5, l5, p4, sI_2, Nat.reduceAdd, Nat.reduceLeDiff, iE, eq_self, Int32.reduceLT, Int32.reduceToNatClampNeg, or_self, not_false_eq_true, and_self, x_ix, m10, d10, e1]
    exact ⟨_, rfl, fin _ _ _ rfl rfl rfl _ _ _ rfl rfl e2⟩
  | some i =>
    obtain ⟨rfl, hi⟩ := hs i rfl
    have hw0 : (B + 4 + i = 0) = False := eq_false (by omega)
    have hwl : (B + 4 + i = l + 5) = False := eq_false (by omega)
    have ka := (kBa hB (i := i) (by omega)).1
    obtain ⟨⟨a1, a2, a3⟩, ⟨a4, a5⟩, -⟩ := hC i hi
    have hnum := (hH i (by omega)).1
    obtain ⟨⟨o1, o2, o3⟩, ⟨o4, o5⟩, -⟩ := hO.1.2.1 i hi
    have e5 : Int32.ofInt (S.bk i) / (10 : Int32) = Int32.ofInt ((S.bk i).tdiv 10) := (Int32.ofInt_tdiv (b := 10) (by show (-2147483648 : Int) ≤ _; omega) (by show _ ≤ (2147483647 : Int); omega) (by decide) (by decide)).symm
    simp only [↓ckE, ↓ltE, ↓reduceIte, kC, lC, k0, k5, l5, p4, ka, hw0, hwl, sI_2, sI_rd, hnum, a1, a4, e5, Nat.reduceAdd, Nat.reduceLeDiff, iE, eq_self, Int32.reduceLT, Int32.reduceToNatClampNeg, or_self, not_false_eq_true, and_self, x_ix, m10, d10, e1]
    exact ⟨_, rfl, fin _ _ _ iN_I iN_I rfl _ _ _ rfl rfl e2⟩
theorem c_togL {l w N : Nat} {fa : Nat → Int} (hl : l ∈ lawIds) (hP : Pt μ) (hV : ValC μ l fa) (hw : w ≤ 1) (hN : N ≤ 10) (h5 : μ.1 l 5 = Int32.ofNat N) : ∀ (A : LawA) (c o F d : Nat) (x fr i : Int32), (∀ k ∈ A, ClOk k) → c + nCl A = N → nCl A < F → ClC μ l c o A → x = Int32.ofNat d → fr = Int32.ofNat o → i = Int32.ofNat c → f_X4_together_L17 (XC ad D cA) F l (Int32.ofNat w) x fr i μ = some (Int32.ofNat (d + lsum fa w A), μ) := by
  obtain ⟨k0, ⟨k1, l1⟩, ⟨k2, l2⟩, ⟨k3, l3⟩, -, -, -⟩ := lawK l hl
  obtain ⟨p0, p1, p2, -, -⟩ := pt_L hl hP
  intro A
  induction A with
  | nil =>
    intro c o F d x fr i _ hk hF _ hx hfr hi
    obtain ⟨n, rfl⟩ : ∃ n, F = n + 1 := ⟨F - 1, by omega⟩
    have hk : c + 0 = N := hk
    have hc : Int32.ofNat N ≤ i := by rw [hi]; exact (iN_le (by omega) (by omega)).mpr (by omega)
    unfold f_X4_together_L17
    simp only [↓ckE, ↓ltE, ↓reduceIte, kC, k0, Nat.reduceAdd, h5, hc, hx]
    rfl
  | cons k r ih =>
    intro c o F d x fr i hO hk hF hC hx hfr hi
    have ok := hO k List.mem_cons_self
    have hO' : ∀ x ∈ r, ClOk x := fun x hx => hO x (List.mem_cons_of_mem _ hx)
    have hk : c + ((if k.1 ≤ 1 then 1 else 0) + nCl r) = N := hk
    have hF : (if k.1 ≤ 1 then 1 else 0) + nCl r < F := hF
    show _ = some (Int32.ofNat (d + ((if k.1 = w ∧ holdsB fa k.2.2 = true then k.2.1 else 0) + lsum fa w r)), μ)
    unfold ClC at hC
    by_cases q : k.1 ≤ 1
    · rw [if_pos q] at hk hF hC
      obtain ⟨⟨c1, c2, c3⟩, ⟨c4, c5⟩, hC⟩ := hC
      obtain ⟨n, rfl⟩ : ∃ n, F = n + 1 := ⟨F - 1, by omega⟩
      have t1 : ¬ Int32.ofNat N ≤ i := fun z => by rw [hi] at z; have := (iN_le (by omega) (by omega)).mp z; omega
      have t2 : ¬ (10 : Int32) ≤ i := fun z => by rw [hi] at z; have := (geN 10 10 rfl (by omega) (by omega)).mp z; omega
      have hx6 : x_ix i 10 := by rw [hi]; exact iN_ix (by omega) (by omega)
      have hcl : i.toNatClampNeg = c := by rw [hi]; exact iN_cl (by omega)
      have hs : i + 1 = Int32.ofNat (c + 1) := by rw [hi]; exact iN_s
      have hh := c_holds (ad := ad) (D := D) (cA := cA) hl hP hV c4 (ok.2.2 q).1 rfl c5
      rw [← hfr] at hh
      unfold f_X4_together_L17
      simp only [↓ckE, ↓ltE, ↓reduceIte, kC, lC, k0, k1, l1, k2, l2, k3, l3, p0, p1, p2, Nat.reduceAdd, h5, t1, t2, true_or, true_and, ↓ixT hx6, hcl, c1, c2, c3, hh, bdE]
      by_cases e : k.1 = w
      · rw [if_pos (by rw [e])]
        by_cases hb : holdsB fa k.2.2 = true
        · rw [if_pos (show k.1 = w ∧ holdsB fa k.2.2 = true from ⟨e, hb⟩)]
          simp only [hb, ↓reduceIte, iE, eq_self]
          rw [ih (c + 1) (o + k.2.2.length) n (d + k.2.1) (x + Int32.ofNat k.2.1) _ _ hO' (by omega) (by omega) hC (by rw [hx, iN_add]) rfl hs, Nat.add_assoc]
        · have hb' : holdsB fa k.2.2 = false := by cases h : holdsB fa k.2.2 with | true => exact absurd h hb | false => rfl
          rw [if_neg (show ¬ (k.1 = w ∧ holdsB fa k.2.2 = true) from fun z => hb z.2)]
          simp only [hb', ↓reduceIte, Bool.false_eq_true]
          rw [ih (c + 1) (o + k.2.2.length) n d _ _ _ hO' (by omega) (by omega) hC hx rfl hs, Nat.zero_add]
      · rw [if_neg (fun z => e ((iN_inj (by omega) (by omega)).mp z)), if_neg (show ¬ (k.1 = w ∧ holdsB fa k.2.2 = true) from fun z => e z.1)]
        rw [ih (c + 1) (o + k.2.2.length) n d _ _ _ hO' (by omega) (by omega) hC hx rfl hs, Nat.zero_add]
    · rw [if_neg q] at hk hF hC
      rw [if_neg (show ¬ (k.1 = w ∧ holdsB fa k.2.2 = true) from fun z => q (by have := z.1; omega)), Nat.zero_add]
      exact ih c o F d x fr i hO' (by omega) (by omega) hC hx hfr hi
theorem c_sum {B l w lv u : Nat} {S : St} {A : LawA} {who : Option Nat} (hB : isB B) (hL : LawC μ l A) (hw : w ≤ 1) (hP : Pt μ) (hO : Ok S) (hlv : lv ≤ 60) (hH : HereC μ B S) (hC : ∀ i, i < S.n → AccC μ B i S) (hn : who = none → u = 0) (hs : ∀ i, who = some i → u = B + 4 + i ∧ i < S.n) : ∃ μ', f_X4_together (XC ad D cA) l (Int32.ofNat w) u (Int32.ofNat lv) (Int32.ofNat S.day) μ = some (Int32.ofNat (lsum (S.fact lv who) w A), μ') ∧ frI (· = l + 5) μ μ' := by
  obtain ⟨μ1, e1, v1, f1⟩ := c_tell (ad := ad) (D := D) (cA := cA) hB hL.1 hP hO hlv hH hC hn hs
  have hL1 : LawC μ1 l A := hL.congr (fun o p1 p2 => f1.2 o (by omega))
  have hP1 : Pt μ1 := fun o k h => by rw [f1.1]; exact hP o k h
  unfold f_X4_together
  simp only [↓ckE, ↓reduceIte, kC, (lawK l hL.1).1, e1, bdE]
  have hb := nCl_le A
  have hb2 := hL.2.1.1
  refine ⟨μ1, ?_, f1⟩
  have := c_togL (ad := ad) (D := D) (cA := cA) (w := w) hL.1 hP1 v1 hw (N := nCl A) (by omega) hL1.2.2.1.1 A 0 0 4096 0 0 0 0 hL.2.1.2 (by omega) (by omega) hL1.2.2.2 rfl rfl rfl
  rw [Nat.zero_add] at this
  exact this
end SUMC
