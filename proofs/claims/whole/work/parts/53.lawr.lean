/-! ===== laws by their clauses; the reference's table of them ===== -/
abbrev Cls : Type := Nat × Nat × List (Nat × Nat × Nat × Nat)
/-- what a good text yields -/
def ClOk (c : Cls) : Prop := c.1 ≤ 4 ∧ c.2.1 ≤ 99 ∧ (c.1 ≤ 1 → wfT c.2.2 0 ∧ c.2.2.length ≤ 100)
def LawOk (A : LawA) : Prop := A.length ≤ 10 ∧ ∀ c ∈ A, ClOk c
/-- the last number of a word -/
def lastW (w : Nat) : LawA → Nat → Nat
  | [], d => d
  | c :: r, d => lastW w r (if c.1 = w then c.2.1 else d)
/-- the numbers of a word's clauses that hold -/
def lsum (fa : Nat → Int) (w : Nat) : LawA → Nat
  | [] => 0
  | c :: r => (if c.1 = w ∧ holdsB fa c.2.2 = true then c.2.1 else 0) + lsum fa w r
theorem lsum_le {fa : Nat → Int} {w : Nat} : ∀ {A : LawA}, (∀ c ∈ A, ClOk c) → lsum fa w A ≤ 99 * A.length
  | [], _ => Nat.le_refl _
  | c :: r, h => by
    have h1 := lsum_le (fa := fa) (w := w) (A := r) (fun x hx => h x (List.mem_cons_of_mem _ hx))
    have h2 := (h c List.mem_cons_self).2.1
    show (if c.1 = w ∧ holdsB fa c.2.2 = true then c.2.1 else 0) + lsum fa w r ≤ 99 * (r.length + 1)
    by_cases q : c.1 = w ∧ holdsB fa c.2.2 = true
    · rw [if_pos q]; omega
    · rw [if_neg q]; omega
theorem lastW_le {w : Nat} : ∀ {A : LawA} {d : Nat}, (∀ c ∈ A, ClOk c) → d ≤ 99 → lastW w A d ≤ 99
  | [], _, _, h => h
  | c :: r, d, h, hd => by
    show lastW w r (if c.1 = w then c.2.1 else d) ≤ 99
    refine lastW_le (A := r) (fun x hx => h x (List.mem_cons_of_mem _ hx)) ?_
    have h2 := (h c List.mem_cons_self).2.1
    by_cases q : c.1 = w
    · rw [if_pos q]; omega
    · rw [if_neg q]; omega
/-- clauses from a place of the reference's table on -/
def ClR (ν : x_M) : Nat → LawA → Prop
  | _, [] => True
  | k, c :: r => (ν.1 619 k = Int32.ofNat c.1 ∧ ν.1 620 k = Int32.ofNat c.2.1) ∧ (c.1 ≤ 1 → ∃ o e, ν.1 621 k = Int32.ofNat o ∧ ν.1 622 k = Int32.ofNat e ∧ e ≤ 600 ∧ SegI (ν.1 623) encR o c.2.2 ∧ e = o + c.2.2.length) ∧ ClR ν (k + 1) r
def LawAtR (ν : x_M) (f : Nat) (A : LawA) : Prop := ν.1 618 f = Int32.ofNat A.length ∧ ClR ν (10 * f) A
def LawR (ν : x_M) (A : LawA) : Prop := LawOk A ∧ ((ν.1 600 12 = -1 ∧ A = []) ∨ ∃ f, f < 6 ∧ ν.1 600 12 = Int32.ofNat f ∧ LawAtR ν f A)
section LAWR
variable {ad : Nat → Nat} {D : va_G} {cA : Nat → ClassId} {μ : x_M}
theorem ClR.congr {a b : x_M} (h : ∀ o, 619 ≤ o → o ≤ 623 → b.1 o = a.1 o) : ∀ {A : LawA} {k : Nat}, ClR a k A → ClR b k A
  | [], _, _ => True.intro
  | c :: r, k, ⟨⟨h1, h2⟩, h3, h4⟩ => by
    refine ⟨⟨?_, ?_⟩, fun z => ?_, ClR.congr h h4⟩
    · rw [h 619 (by decide) (by decide)]; exact h1
    · rw [h 620 (by decide) (by decide)]; exact h2
    · rw [h 621 (by decide) (by decide), h 622 (by decide) (by decide), h 623 (by decide) (by decide)]; exact h3 z
/-- where the law's clauses begin, how many -/
theorem r_be {A : LawA} (hP : Pr μ) (h : LawR μ A) : ∃ b, b + A.length ≤ 60 ∧ ClR μ b A ∧ f_X10_begin (XR ad D cA) 600 μ = some (Int32.ofNat b, μ) ∧ ∀ ν : x_M, Pr ν → ν.1 600 12 = μ.1 600 12 → ν.1 618 = μ.1 618 → f_X10_behind (XR ad D cA) 600 ν = some (Int32.ofNat (b + A.length), ν) := by
  obtain ⟨⟨hl, -⟩, ⟨h1, rfl⟩ | ⟨f, hf, h1, h2, h3⟩⟩ := h
  · refine ⟨0, by decide, True.intro, ?_, fun ν hPν e1 e2 => ?_⟩
    · unfold f_X10_begin
      simp only [↓ckE, ↓ltE, ↓reduceIte, kR, RK, Nat.reduceAdd, h1, Int32.reduceLE]
      rfl
    · unfold f_X10_behind
      simp only [↓ckE, ↓ltE, ↓reduceIte, kR, RK, Nat.reduceAdd, e1, h1, Int32.reduceLE]
      rfl
  · have h0 : (0 : Int32) ≤ Int32.ofNat f := (geN 0 0 rfl (by decide) (by omega)).mpr (Nat.zero_le _)
    have hx : x_ix (Int32.ofNat f) 6 := iN_ix (by omega) (by omega)
    have hc : (Int32.ofNat f).toNatClampNeg = f := iN_cl (by omega)
    have hm : (10 : Int32) * Int32.ofNat f = Int32.ofNat (10 * f) := iN_mul (a := 10)
    refine ⟨10 * f, by omega, h3, ?_, fun ν hPν e1 e2 => ?_⟩
    · unfold f_X10_begin
      simp only [↓ckE, ↓ltE, ↓reduceIte, kR, RK, Nat.reduceAdd, h1, h0, hm]
    · unfold f_X10_behind
      simp only [↓ckE, ↓ltE, ↓reduceIte, kR, lR, RK, RN, RP hPν, Nat.reduceAdd, e1, e2, h1, h0, hm, true_or, true_and, ↓ixT hx, hc, h2, iN_add]
theorem r_lastL {w : Nat} {e : Nat} {μ : x_M} (hw : w ≤ 4) (hP : Pr μ) (he : e ≤ 60) (hb : f_X10_behind (XR ad D cA) 600 μ = some (Int32.ofNat e, μ)) : ∀ (A : LawA) (k F d : Nat) (x i : Int32), (∀ c ∈ A, ClOk c) → k + A.length = e → A.length < F → ClR μ k A → x = Int32.ofNat d → i = Int32.ofNat k → f_X10_lastOf_L8 (XR ad D cA) F 600 (Int32.ofNat w) x i μ = some (Int32.ofNat (lastW w A d), μ) := by
  intro A
  induction A with
  | nil =>
    intro k F d x i _ hk hF _ hx hi
    obtain ⟨n, rfl⟩ : ∃ n, F = n + 1 := ⟨F - 1, by omega⟩
    unfold f_X10_lastOf_L8
    have : Int32.ofNat e ≤ i := by rw [hi]; exact (iN_le (by omega) (by omega)).mpr (by simp at hk; omega)
    simp only [↓ckE, ↓ltE, ↓reduceIte, kR, RK, Nat.reduceAdd, hb, bdE, this, hx]
    rfl
  | cons c r ih =>
    intro k F d x i hO hk hF hC hx hi
    obtain ⟨n, rfl⟩ : ∃ n, F = n + 1 := ⟨F - 1, by omega⟩
    rw [List.length_cons] at hk hF
    obtain ⟨⟨c1, c2⟩, -, hC⟩ := hC
    have o := hO c List.mem_cons_self
    have hO' : ∀ x ∈ r, ClOk x := fun x hx => hO x (List.mem_cons_of_mem _ hx)
    unfold f_X10_lastOf_L8
    have t1 : ¬ Int32.ofNat e ≤ i := fun z => by rw [hi] at z; have := (iN_le (by omega) (by omega)).mp z; omega
    have hx6 : x_ix i 60 := by rw [hi]; exact iN_ix (by omega) (by omega)
    have hcl : i.toNatClampNeg = k := by rw [hi]; exact iN_cl (by omega)
    have hs : i + 1 = Int32.ofNat (k + 1) := by rw [hi]; exact iN_s
    simp only [↓ckE, ↓ltE, ↓reduceIte, kR, lR, RK, RN, RP hP, Nat.reduceAdd, hb, bdE, t1, true_or, true_and, ↓ixT hx6, hcl, c1, c2]
    by_cases q : c.1 = w
    · rw [if_pos (by rw [q]), ih (k + 1) n c.2.1 _ _ hO' (by omega) (by omega) hC rfl hs]
      show _ = some (Int32.ofNat (lastW w r (if c.1 = w then c.2.1 else d)), μ)
      rw [if_pos q]
    · rw [if_neg (fun z => q ((iN_inj (by have := o.1; omega) (by omega)).mp z)), ih (k + 1) n d _ _ hO' (by omega) (by omega) hC hx hs]
      show _ = some (Int32.ofNat (lastW w r (if c.1 = w then c.2.1 else d)), μ)
      rw [if_neg q]
theorem r_last {A : LawA} {w d : Nat} (hw : w ≤ 4) (hP : Pr μ) (h : LawR μ A) : f_X10_lastOf (XR ad D cA) 600 (Int32.ofNat w) (Int32.ofNat d) μ = some (Int32.ofNat (lastW w A d), μ) := by
  obtain ⟨b, hb, hC, e1, e2⟩ := r_be (ad := ad) (D := D) (cA := cA) hP h
  have e2 := e2 μ hP rfl rfl
  have hl := h.1.1
  unfold f_X10_lastOf
  simp only [↓ckE, ↓reduceIte, kR, RK, Nat.reduceAdd, e1, bdE]
  exact r_lastL hw hP hb e2 A b 4096 d _ _ h.1.2 rfl (by omega) hC rfl rfl
def St.mark (S : St) : Nat := min (lastW 2 S.law 50) 60
def St.floor (S : St) : Nat := min (lastW 3 S.law 5) 60
def St.rate (S : St) : Nat := lastW 4 S.law 0
theorem r_m60 {n : Nat} {X : Int32 → x_M → Option (Int32 × x_M)} (h : n ≤ 99) : (if Int32.ofNat n ≤ (60 : Int32) then some (Int32.ofNat n, μ) else some ((60 : Int32), μ)) = some (Int32.ofNat (min n 60), μ) := by
  by_cases q : n ≤ 60
  · rw [if_pos ((leN 60 60 rfl (by omega) (by decide)).mpr q), Nat.min_eq_left q]
  · rw [if_neg (fun z => q ((leN 60 60 rfl (by omega) (by decide)).mp z)), Nat.min_eq_right (by omega)]; rfl
theorem r_mark {S : St} (hP : Pr μ) (h : LawR μ S.law) : f_X10_mark (XR ad D cA) 600 μ = some (Int32.ofNat S.mark, μ) := by
  have e := r_last (ad := ad) (D := D) (cA := cA) (w := 2) (d := 50) (by decide) hP h
  simp only [Int32.reduceOfNat] at e
  unfold f_X10_mark
  simp only [↓ckE, ↓reduceIte, kR, RK, Nat.reduceAdd, e, bdE]
  exact r_m60 (X := fun _ _ => none) (lastW_le h.1.2 (by decide))
theorem r_floor {S : St} (hP : Pr μ) (h : LawR μ S.law) : f_X10_floor (XR ad D cA) 600 μ = some (Int32.ofNat S.floor, μ) := by
  have e := r_last (ad := ad) (D := D) (cA := cA) (w := 3) (d := 5) (by decide) hP h
  simp only [Int32.reduceOfNat] at e
  unfold f_X10_floor
  simp only [↓ckE, ↓reduceIte, kR, RK, Nat.reduceAdd, e, bdE]
  exact r_m60 (X := fun _ _ => none) (lastW_le h.1.2 (by decide))
end LAWR
