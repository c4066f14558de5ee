/-! ===== the class's state at B; springs, the sun, pours ===== -/
def scC (o _ : Nat) : Prop := o = 130 ∨ o = 230 ∨ o = 330 ∨ (405 ≤ o ∧ o ≤ 455 ∧ o % 10 = 5)
def lwC (o : Nat) : Prop := (125 ≤ o ∧ o ≤ 129) ∨ (225 ≤ o ∧ o ≤ 229) ∨ (325 ≤ o ∧ o ≤ 329) ∨ (400 ≤ o ∧ o ≤ 454 ∧ o % 10 ≤ 4)
def usC (B o k : Nat) : Prop := (o = B ∧ 6 ≤ k ∧ k ≤ 11) ∨ o = B + 2 ∨ (B + 4 ≤ o ∧ o ≤ B + 9 ∧ k ≤ 7) ∨ (B + 10 ≤ o ∧ o ≤ B + 15) ∨ lwC o
def StC (μ : x_M) (B : Nat) (S : St) : Prop := (isB B ∧ Pt μ) ∧ ArC μ B S.ar ∧ HereC μ B S ∧ (∀ i, i < S.n → AccC μ B i S) ∧ LawC μ (μ.2.1 B 5) S.law ∧ (μ.1 B 6 = Int32.ofNat S.n ∧ μ.1 B 7 = Int32.ofNat S.wet ∧ μ.1 B 8 = Int32.ofNat S.town ∧ μ.1 B 9 = Int32.ofNat S.day) ∧ (μ.1 B 10 = Int32.ofNat S.wells ∧ μ.1 B 11 = Int32.ofInt S.dry)
theorem frC.Pt {P : Nat → Nat → Prop} {a b : x_M} (h : frC P a b) (g : Pt a) : Pt b := fun o k z => by rw [h.1]; exact g o k z
theorem LawC.us {a b : x_M} {l : Nat} {A : LawA} (g : ∀ o k, lwC o → b.1 o k = a.1 o k) (h : LawC a l A) : LawC b l A := by
  have hr := lawIds_r l h.1
  exact h.congr (fun o p1 p2 => funext (fun k => g o k (by unfold lwC; omega)))
theorem StC.fr {a b : x_M} {B : Nat} {S : St} {P : Nat → Nat → Prop} (h : StC a B S) (h6 : S.n ≤ 6) (f : frC P a b) (hP : ∀ o k, P o k → ¬ usC B o k) : StC b B S := by
  have g : ∀ o k, usC B o k → b.1 o k = a.1 o k := fun o k hu => f.2 o k (fun z => hP o k z hu)
  obtain ⟨⟨hB, h1⟩, h2, h3, h4, hl, ⟨s1, s2, s3, s4⟩, w1, w2⟩ := h
  have g0 : ∀ k, 6 ≤ k → k ≤ 11 → b.1 B k = a.1 B k := fun k p1 p2 => g B k (Or.inl ⟨rfl, p1, p2⟩)
  have ga : ∀ i k, i < 6 → k ≤ 7 → b.1 (B + 4 + i) k = a.1 (B + 4 + i) k := fun i k p1 p2 => g _ k (Or.inr (Or.inr (Or.inl ⟨by omega, by omega, p2⟩)))
  have gr : ∀ i k, i < 6 → b.1 (B + 10 + i) k = a.1 (B + 10 + i) k := fun i k p1 => g _ k (Or.inr (Or.inr (Or.inr (Or.inl ⟨by omega, by omega⟩))))
  refine ⟨⟨hB, f.Pt h1⟩, fun s hs => ?_, fun i hi => ?_, fun i hi => ?_, ?_, ⟨?_, ?_, ?_, ?_⟩, ?_, ?_⟩
  · rw [g (B + 2) s (Or.inr (Or.inl rfl))]; exact h2 s hs
  · rw [ga i 0 hi (by omega), ga i 2 hi (by omega)]; exact h3 i hi
  · obtain ⟨⟨a1, a2, a3⟩, ⟨a4, a5⟩, a6⟩ := h4 i hi
    refine ⟨⟨?_, ?_, ?_⟩, ⟨?_, ?_⟩, fun d hd => ?_⟩
    · rw [ga i 3 (by omega) (by omega)]; exact a1
    · rw [ga i 4 (by omega) (by omega)]; exact a2
    · rw [ga i 7 (by omega) (by omega)]; exact a3
    · rw [ga i 5 (by omega) (by omega)]; exact a4
    · rw [ga i 6 (by omega) (by omega)]; exact a5
    · rw [gr i d (by omega)]; exact a6 d hd
  · rw [f.1]; exact hl.us (fun o k z => g o k (Or.inr (Or.inr (Or.inr (Or.inr z)))))
  · rw [g0 6 (by omega) (by omega)]; exact s1
  · rw [g0 7 (by omega) (by omega)]; exact s2
  · rw [g0 8 (by omega) (by omega)]; exact s3
  · rw [g0 9 (by omega) (by omega)]; exact s4
  · rw [g0 10 (by omega) (by omega)]; exact w1
  · rw [g0 11 (by omega) (by omega)]; exact w2
theorem scC_us {B : Nat} (hB : isB B) : ∀ o k, scC o k → ¬ usC B o k := by
  intro o k h
  have := hB.ge
  unfold scC at h
  unfold usC lwC
  omega
/-- what a day may change -/
def dyC (B o k : Nat) : Prop := (o = B ∧ 7 ≤ k ∧ k ≤ 9) ∨ (B + 4 ≤ o ∧ o ≤ B + 9 ∧ (k = 5 ∨ k = 6))
theorem StC.mod {a b : x_M} {B : Nat} {S : St} {bk dl : Nat → Int} {wet town day : Nat} (h : StC a B S) (h6 : S.n ≤ 6) (h2 : b.2 = a.2) (g : ∀ o k, usC B o k → ¬ dyC B o k → b.1 o k = a.1 o k) (e1 : b.1 B 9 = Int32.ofNat day) (e2 : b.1 B 7 = Int32.ofNat wet) (e3 : b.1 B 8 = Int32.ofNat town) (e4 : ∀ i, i < S.n → b.1 (B + 4 + i) 5 = Int32.ofInt (bk i)) (e5 : ∀ i, i < S.n → b.1 (B + 4 + i) 6 = Int32.ofInt (dl i)) : StC b B (S.upd bk dl wet town day) := by
  obtain ⟨⟨hB, h1⟩, h2', h3, h4, hl, ⟨s1, s2, s3, s4⟩, w1, w2⟩ := h
  have hg := hB.ge
  have g0 : ∀ k, (k = 6 ∨ k = 10 ∨ k = 11) → b.1 B k = a.1 B k := fun k p => g B k (Or.inl ⟨rfl, by omega, by omega⟩) (by unfold dyC; omega)
  have ga : ∀ i k, i < 6 → k ≤ 7 → k ≠ 5 → k ≠ 6 → b.1 (B + 4 + i) k = a.1 (B + 4 + i) k := fun i k p1 p2 p3 p4 => g _ k (Or.inr (Or.inr (Or.inl ⟨by omega, by omega, p2⟩))) (by unfold dyC; omega)
  have gr : ∀ i k, i < 6 → b.1 (B + 10 + i) k = a.1 (B + 10 + i) k := fun i k p1 => g _ k (Or.inr (Or.inr (Or.inr (Or.inl ⟨by omega, by omega⟩)))) (by unfold dyC; omega)
  refine ⟨⟨hB, fun o k z => by rw [h2]; exact h1 o k z⟩, fun s hs => ?_, fun i hi => ?_, fun i hi => ?_, ?_, ⟨?_, e2, e3, e1⟩, ?_, ?_⟩
  · rw [g (B + 2) s (Or.inr (Or.inl rfl)) (by unfold dyC; omega)]; exact h2' s hs
  · rw [ga i 0 hi (by omega) (by omega) (by omega), ga i 2 hi (by omega) (by omega) (by omega)]; exact h3 i hi
  · obtain ⟨⟨a1, a2, a3⟩, ⟨a4, a5⟩, a6⟩ := h4 i hi
    have hi : i < S.n := hi
    refine ⟨⟨?_, ?_, ?_⟩, ⟨e4 i hi, e5 i hi⟩, fun d hd => ?_⟩
    · rw [ga i 3 (by omega) (by omega) (by omega) (by omega)]; exact a1
    · rw [ga i 4 (by omega) (by omega) (by omega) (by omega)]; exact a2
    · rw [ga i 7 (by omega) (by omega) (by omega) (by omega)]; exact a3
    · rw [gr i d (by omega)]; exact a6 d hd
  · rw [h2]; exact hl.us (fun o k z => g o k (Or.inr (Or.inr (Or.inr (Or.inr z)))) (by unfold lwC at z; unfold dyC; omega))
  · rw [g0 6 (by omega)]; exact s1
  · rw [g0 10 (by omega)]; exact w1
  · rw [g0 11 (by omega)]; exact w2
theorem StC.setI {a : x_M} {B i : Nat} {S : St} {z : Int} (h : StC a B S) (h6 : S.n ≤ 6) (hi : i < 6) : StC (x_sI a (B + 4 + i) 5 (Int32.ofInt z)) B (S.upd (updI S.bk i z) S.dl S.wet S.town S.day) := by
  have ne : ∀ k, (x_sI a (B + 4 + i) 5 (Int32.ofInt z)).1 B k = a.1 B k := fun k => by rw [sI_rd, if_neg (by omega)]
  refine h.mod h6 rfl (fun o k _ hd => ?_) ?_ ?_ ?_ (fun j hj => ?_) (fun j hj => ?_)
  · rw [sI_rd]
    unfold dyC at hd
    by_cases q : o = B + 4 + i
    · rw [if_pos q, if_neg (by omega)]
    · rw [if_neg q]
  · rw [ne]; exact h.2.2.2.2.2.1.2.2.2
  · rw [ne]; exact h.2.2.2.2.2.1.2.1
  · rw [ne]; exact h.2.2.2.2.2.1.2.2.1
  · rw [sI_rd]
    show _ = Int32.ofInt (if j = i then z else S.bk j)
    by_cases q : j = i
    · rw [if_pos (by omega), if_pos rfl, if_pos q]
    · rw [if_neg (by omega), if_neg q]; exact (h.2.2.2.1 j hj).2.1.1
  · rw [sI_rd]
    by_cases q : j = i
    · rw [if_pos (by omega), if_neg (by omega)]; exact (h.2.2.2.1 j hj).2.1.2
    · rw [if_neg (by omega)]; exact (h.2.2.2.1 j hj).2.1.2
/-- a write in a place that isn't of an account that counts -/
theorem StC.skip {a : x_M} {B i : Nat} {S : St} {v : Int32} (h : StC a B S) (h6 : S.n ≤ 6) (hi : S.n ≤ i) (hi6 : i < 6) : StC (x_sI a (B + 4 + i) 5 v) B S := by
  have ne : ∀ k, (x_sI a (B + 4 + i) 5 v).1 B k = a.1 B k := fun k => by rw [sI_rd, if_neg (by omega)]
  have := h.mod (b := x_sI a (B + 4 + i) 5 v) (bk := S.bk) (dl := S.dl) (wet := S.wet) (town := S.town) (day := S.day) h6 rfl (fun o k _ hd => by
    rw [sI_rd]
    unfold dyC at hd
    by_cases q : o = B + 4 + i
    · rw [if_pos q, if_neg (by omega)]
    · rw [if_neg q]) (by rw [ne]; exact h.2.2.2.2.2.1.2.2.2) (by rw [ne]; exact h.2.2.2.2.2.1.2.1) (by rw [ne]; exact h.2.2.2.2.2.1.2.2.1)
    (fun j hj => by rw [sI_rd, if_neg (by omega)]; exact (h.2.2.2.1 j hj).2.1.1) (fun j hj => by rw [sI_rd, if_neg (by omega)]; exact (h.2.2.2.1 j hj).2.1.2)
  exact this
theorem StC.scal {a : x_M} {B : Nat} {S : St} {k0 : Nat} {v : Int32} {wet town day : Nat} (h : StC a B S) (h6 : S.n ≤ 6) (hk : 7 ≤ k0 ∧ k0 ≤ 9) (e1 : (x_sI a B k0 v).1 B 9 = Int32.ofNat day) (e2 : (x_sI a B k0 v).1 B 7 = Int32.ofNat wet) (e3 : (x_sI a B k0 v).1 B 8 = Int32.ofNat town) : StC (x_sI a B k0 v) B (S.upd S.bk S.dl wet town day) := by
  refine h.mod h6 rfl (fun o k _ hd => ?_) e1 e2 e3 (fun j hj => ?_) (fun j hj => ?_)
  · rw [sI_rd]
    unfold dyC at hd
    by_cases q : o = B
    · rw [if_pos q, if_neg (by omega)]
    · rw [if_neg q]
  · rw [sI_rd, if_neg (by omega)]; exact (h.2.2.2.1 j hj).2.1.1
  · rw [sI_rd, if_neg (by omega)]; exact (h.2.2.2.1 j hj).2.1.2
theorem StC.setW {a : x_M} {B w : Nat} {S : St} (h : StC a B S) (h6 : S.n ≤ 6) : StC (x_sI a B 7 (Int32.ofNat w)) B (S.upd S.bk S.dl w S.town S.day) :=
  h.scal h6 (by omega) (by rw [sI_ne (by omega)]; exact h.2.2.2.2.2.1.2.2.2) sI_get (by rw [sI_ne (by omega)]; exact h.2.2.2.2.2.1.2.2.1)
theorem StC.setT {a : x_M} {B w : Nat} {S : St} (h : StC a B S) (h6 : S.n ≤ 6) : StC (x_sI a B 8 (Int32.ofNat w)) B (S.upd S.bk S.dl S.wet w S.day) :=
  h.scal h6 (by omega) (by rw [sI_ne (by omega)]; exact h.2.2.2.2.2.1.2.2.2) (by rw [sI_ne (by omega)]; exact h.2.2.2.2.2.1.2.1) sI_get
theorem StC.setD {a : x_M} {B w : Nat} {S : St} (h : StC a B S) (h6 : S.n ≤ 6) : StC (x_sI a B 9 (Int32.ofNat w)) B (S.upd S.bk S.dl S.wet S.town w) :=
  h.scal h6 (by omega) sI_get (by rw [sI_ne (by omega)]; exact h.2.2.2.2.2.1.2.1) (by rw [sI_ne (by omega)]; exact h.2.2.2.2.2.1.2.2.1)
section SUNC
variable {ad : Nat → Nat} {D : va_G} {cA : Nat → ClassId} {μ : x_M}
theorem StC.level {B : Nat} {S : St} (h : StC μ B S) (hO : Ok S) : f_X7_level (XC ad D cA) B μ = some (Int32.ofNat S.level, μ) :=
  c_level h.1.1 h.1.2 h.2.1 hO.1 h.2.2.1 h.2.2.2.1 h.2.2.2.2.2.1.2.1
theorem StC.sum {B w u : Nat} {S : St} {who : Option Nat} (h : StC μ B S) (hO : Ok S) (hw : w ≤ 1) (hn : who = none → u = 0) (hs : ∀ i, who = some i → u = B + 4 + i ∧ i < S.n) : ∃ μ', f_X4_together (XC ad D cA) (μ.2.1 B 5) (Int32.ofNat w) u (Int32.ofNat S.level) (Int32.ofNat S.day) μ = some (Int32.ofNat (lsum (S.fact S.level who) w S.law), μ') ∧ frC scC μ μ' := by
  have hr := lawIds_r _ h.2.2.2.2.1.1
  obtain ⟨μ', e, f⟩ := c_sum (ad := ad) (D := D) (cA := cA) (w := w) h.1.1 h.2.2.2.2.1 hw h.1.2 hO lvl_le h.2.2.1 h.2.2.2.1 hn hs
  exact ⟨μ', e, frC.ofI f (fun o k z => by unfold scC; omega)⟩
theorem c_spring {B : Nat} {S : St} (h : StC μ B S) (hO : Ok S) : ∃ μ', f_X7_spring (XC ad D cA) B (Int32.ofNat S.level) μ = some (Int32.ofNat S.spring, μ') ∧ frC scC μ μ' := by
  obtain ⟨k0, -, -, -, -, -⟩ := kB h.1.1
  have kl := (lawK _ h.2.2.2.2.1.1).1
  obtain ⟨μ1, e, f⟩ := h.sum (ad := ad) (D := D) (cA := cA) hO (w := 0) (u := 0) (who := none) (by decide) (fun _ => rfl) (fun i hi => by cases hi)
  simp only [Int32.reduceOfNat] at e
  unfold f_X7_spring St.spring
  simp only [↓ckE, ↓ltE, ↓reduceIte, kC, k0, kl, Nat.reduceAdd, h.2.2.2.2.2.1.2.2.2, h.2.2.2.2.2.2]
  by_cases q : (S.day : Int) = S.dry
  · rw [if_pos ((iI_N (by have := hO.2.1; omega) (by have := hO.2.2.2; omega)).mpr q), if_pos q]
    exact ⟨μ, rfl, frC.rf⟩
  · rw [if_neg (fun z => q ((iI_N (by have := hO.2.1; omega) (by have := hO.2.2.2; omega)).mp z)), if_neg q]
    refine ⟨μ1, ?_, f⟩
    simp only [e, bdE]
    rw [show (5 : Int32) = Int32.ofNat 5 from rfl, iN_add, iN_add]
theorem c_sun {B i : Nat} {S : St} (h : StC μ B S) (hO : Ok S) (hi : i < 6) : ∃ μ', f_X7_sunOf (XC ad D cA) B (B + 4 + i) (Int32.ofNat S.level) μ = some (Int32.ofNat (if i < S.n then S.sun i else 0), μ') ∧ frC scC μ μ' := by
  obtain ⟨k0, -, -, -, -, -⟩ := kB h.1.1
  have ka := (kBa h.1.1 hi).1
  have kl := (lawK _ h.2.2.2.2.1.1).1
  have hh := (h.2.2.1 i hi).2
  unfold f_X7_sunOf St.sun
  by_cases q : S.here i
  · obtain ⟨μ1, e, f⟩ := h.sum (ad := ad) (D := D) (cA := cA) hO (w := 1) (u := B + 4 + i) (who := some i) (by decide) (fun z => by cases z) (fun j hj => by cases hj; exact ⟨rfl, q.1⟩)
    simp only [Int32.reduceOfNat] at e
    rw [if_pos q] at hh
    refine ⟨μ1, ?_, f⟩
    rw [if_pos q.1, if_neg q.2]
    simp only [↓ckE, ↓ltE, ↓reduceIte, kC, k0, ka, kl, Nat.reduceAdd, hh, iE, h.2.2.2.2.2.1.2.2.2, e, bdE]
  · rw [if_neg q] at hh
    refine ⟨μ, ?_, frC.rf⟩
    simp only [↓ckE, ↓ltE, ↓reduceIte, kC, ka, Nat.reduceAdd, hh]
    by_cases q1 : i < S.n
    · rw [if_pos q1, if_pos (Decidable.byContradiction (fun z => q ⟨q1, z⟩))]; rfl
    · rw [if_neg q1]; rfl
theorem c_floorMod {d : Nat} (hd : d < 2 ^ 31) : f_J9_floorMod_7cf53 (XC ad D cA) (Int32.ofNat d) (4 : Int32) μ = some (Int32.ofNat (d % 4), μ) := by
  have m4 : Int32.ofNat d - Int32.ofNat d / (4 : Int32) * (4 : Int32) = Int32.ofNat (d % 4) := iN_rem (b := 4) hd (by decide)
  unfold f_J9_floorMod_7cf53
  simp only [↓ckE, ↓ltE, ↓reduceIte, m4]
  by_cases q : (0 : Int32) ≤ Int32.ofNat d ^^^ 4
  · rw [if_pos (by decide : ¬ (4 : Int32) = 0), if_pos q]
  · exfalso
    apply q
    have e : Int32.ofNat d ^^^ 4 = Int32.ofNat (d ^^^ 4) := by
      apply Int32.toBitVec_inj.mp
      apply BitVec.eq_of_toNat_eq
      rw [Int32.toBitVec_xor, BitVec.toNat_xor]
      show (BitVec.ofNat 32 d).toNat ^^^ (BitVec.ofNat 32 4).toNat = (BitVec.ofNat 32 (d ^^^ 4)).toNat
      have hx : d ^^^ 4 < 2 ^ 31 := Nat.xor_lt_two_pow hd (by decide)
      rw [BitVec.toNat_ofNat, BitVec.toNat_ofNat, BitVec.toNat_ofNat, Nat.mod_eq_of_lt (by omega), Nat.mod_eq_of_lt (by omega), Nat.mod_eq_of_lt (by omega)]
    rw [e]
    exact (geN 0 0 rfl (by decide) (Nat.xor_lt_two_pow hd (by decide))).mpr (Nat.zero_le _)
theorem c_pours {B i : Nat} {S : St} (h : StC μ B S) (hO : Ok S) (hi : i < 6) : f_X0_pours (XC ad D cA) (B + 4 + i) (Int32.ofNat S.level) (Int32.ofNat S.rate) (Int32.ofNat S.day) μ = some (Int32.ofInt (if i < S.n then S.pours i else 0), μ) := by
  have ka := (kBa h.1.1 hi)
  have hh := (h.2.2.1 i hi).2
  have hlv : S.level ≤ 60 := lvl_le
  have hrate : S.rate ≤ 99 := lastW_le h.2.2.2.2.1.2.1.2 (by decide)
  unfold f_X0_pours St.pours
  by_cases q : S.here i
  · have hi' := q.1
    rw [if_pos q] at hh
    rw [if_pos hi', if_neg q.2]
    obtain ⟨⟨a1, a2, a3⟩, ⟨a4, a5⟩, a6⟩ := h.2.2.2.1 i hi'
    obtain ⟨⟨o1, o2, o3⟩, ⟨o4, o5⟩, ⟨o6, o7⟩, o8⟩ := hO.1.2.1 i hi'
    have hd := hO.2.1
    have pr := (pt_a h.1.1 hi h.1.2).2
    have fm := c_floorMod (ad := ad) (D := D) (cA := cA) (μ := μ) (d := S.day) (by omega)
    have at' := c_at (ad := ad) (D := D) (cA := cA) (μ := μ) (o := B + 10 + i) (i := S.day % 4) ka.2.1 (by rw [ka.2.2]; omega) (by rw [ka.2.2]; omega)
    have a6 := a6 (S.day % 4) (by omega)
    have J : Int32.ofInt (S.dl i) + (if Int32.ofInt (S.bk i) < 0 then (0 : Int32) else Int32.ofInt (S.bk i)) * Int32.ofNat S.rate / (100 : Int32) = Int32.ofInt (if S.bk i ≤ 0 then S.dl i else S.dl i + ((S.rate : Int) * S.bk i).tdiv 100) := by
      by_cases q0 : S.bk i ≤ 0
      · rw [if_pos q0]
        have e0 : (if Int32.ofInt (S.bk i) < 0 then (0 : Int32) else Int32.ofInt (S.bk i)) = Int32.ofNat 0 := by
          by_cases q1 : S.bk i < 0
          · rw [if_pos ((ltI 0 0 rfl (by omega) (by decide)).mpr q1)]; rfl
          · rw [if_neg (fun z => q1 ((ltI 0 0 rfl (by omega) (by decide)).mp z)), show S.bk i = 0 by omega]; rfl
        rw [e0, iN_mul, Nat.zero_mul, show (Int32.ofNat 0 / (100 : Int32)) = Int32.ofInt 0 from by decide, ← Int32.ofInt_add, Int.add_zero]
      · rw [if_neg q0, if_neg (fun z => q0 (by have := (ltI 0 0 rfl (by omega) (by decide)).mp z; omega))]
        have p1 : 0 ≤ (S.rate : Int) * S.bk i := Int.mul_nonneg (by omega) (by omega)
        have p2 : (S.rate : Int) * S.bk i ≤ 99 * 9999 := Int.mul_le_mul (by omega) o5 (by omega) (by omega)
        rw [Int32.ofInt_add, Int32.ofInt_tdiv (by show (-2147483648 : Int) ≤ _; omega) (by show _ ≤ (2147483647 : Int); omega) (by decide) (by decide), Int32.ofInt_mul, ← iN_I, Int32.mul_comm]
        rfl
    simp only [↓ckE, ↓ltE, ↓reduceIte, kC, lC, ka, Nat.reduceAdd, hh, iE, not_false_eq_true, a1, a2, a4, a5, pr, fm, at', a6, bdE, J]
    rw [show (1 : Int32) = Int32.ofNat 1 from rfl, show (2 : Int32) = Int32.ofNat 2 from rfl, show (3 : Int32) = Int32.ofNat 3 from rfl, show (4 : Int32) = Int32.ofNat 4 from rfl, show (5 : Int32) = Int32.ofNat 5 from rfl, show (6 : Int32) = Int32.ofNat 6 from rfl]
    rw [sw_iN 1 (by omega) (by omega), sw_iN 2 (by omega) (by omega), sw_iN 3 (by omega) (by omega), sw_iN 4 (by omega) (by omega), sw_iN 5 (by omega) (by omega), sw_iN 6 (by omega) (by omega), sw_n]
    by_cases q1 : S.kd i = 1
    · rw [if_pos q1, if_pos (Or.inl q1)]
    · rw [if_neg q1]
      by_cases q2 : S.kd i = 2
      · rw [if_pos q2, if_neg (by omega), if_pos q2, iN_I, ← Int32.ofInt_sub]
      · rw [if_neg q2]
        by_cases q3 : S.kd i = 3
        · rw [if_pos q3, if_neg (by omega), if_neg q2, if_neg (by omega), if_neg (by omega)]
        · rw [if_neg q3]
          by_cases q4 : S.kd i = 4
          · rw [if_pos q4, if_pos (Or.inr q4)]
          · rw [if_neg q4, if_neg (by omega : ¬ (S.kd i = 1 ∨ S.kd i = 4)), if_neg q2]
            by_cases q5 : S.kd i = 5
            · rw [if_pos q5, if_pos q5]
              by_cases ql : S.level ≤ 30
              · rw [if_pos ql, if_pos ((leN 30 30 rfl (by omega) (by decide)).mpr ql), iN_I, ← Int32.ofInt_sub, show (0 : Int32) = Int32.ofInt 0 from rfl, ← Int32.ofInt_sub, Int.sub_zero]
              · rw [if_neg ql, if_neg (fun z => ql ((leN 30 30 rfl (by omega) (by decide)).mp z)), Int32.ofInt_sub, Int32.ofInt_sub, iN_I]; rfl
            · rw [if_neg q5, if_neg q5]
              by_cases q6 : S.kd i = 6
              · rw [if_pos q6, if_pos q6, iN_I, ← Int32.ofInt_add]
              · rw [if_neg q6, if_neg q6]
  · rw [if_neg q] at hh
    simp only [↓ckE, ↓ltE, ↓reduceIte, kC, ka, Nat.reduceAdd, hh]
    by_cases q1 : i < S.n
    · rw [if_pos q1, if_pos (Decidable.byContradiction (fun z => q ⟨q1, z⟩))]; rfl
    · rw [if_neg q1]; rfl
end SUNC
