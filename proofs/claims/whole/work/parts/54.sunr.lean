/-! ===== the reference holds a state; springs, the sun, pours ===== -/
def Ok (S : St) : Prop := StOk S ∧ S.day ≤ 20000 ∧ S.wells ≤ 99 ∧ (-1 ≤ S.dry ∧ S.dry ≤ 20000)
def scR (o k : Nat) : Prop := o = 629 ∨ (o = 600 ∧ k = 29)
def usR (o k : Nat) : Prop := (o = 600 ∧ (k ≤ 3 ∨ k = 12 ∨ (30 ≤ k ∧ k ≤ 32))) ∨ (605 ≤ o ∧ o ≤ 611) ∨ (618 ≤ o ∧ o ≤ 623)
def StR (μ : x_M) (S : St) : Prop := Pr μ ∧ ArR μ S.ar ∧ (μ.1 600 0 = Int32.ofNat S.n ∧ μ.1 600 1 = Int32.ofNat S.day ∧ μ.1 600 2 = Int32.ofNat S.wet ∧ μ.1 600 3 = Int32.ofNat S.town) ∧ GoneR μ S ∧ (∀ i, i < S.n → AccR μ i S) ∧ LawR μ S.law ∧ (μ.1 600 31 = Int32.ofNat S.wells ∧ μ.1 600 32 = Int32.ofInt S.dry)
theorem LawR.us {a b : x_M} {A : LawA} (g : ∀ o k, usR o k → b.1 o k = a.1 o k) (h : LawR a A) : LawR b A := by
  have f1 : ∀ o, 618 ≤ o → o ≤ 623 → b.1 o = a.1 o := fun o h1 h2 => funext (fun k => g o k (Or.inr (Or.inr ⟨h1, h2⟩)))
  refine ⟨h.1, ?_⟩
  rw [g 600 12 (Or.inl ⟨rfl, by omega⟩)]
  rcases h.2 with q | ⟨f, h1, h2, h3, h4⟩
  · exact Or.inl q
  · refine Or.inr ⟨f, h1, h2, ?_, h4.congr (fun o p1 p2 => f1 o (by omega) p2)⟩
    rw [f1 618 (by omega) (by omega)]; exact h3
theorem StR.fr {a b : x_M} {S : St} {P : Nat → Nat → Prop} (h : StR a S) (h6 : S.n ≤ 6) (f : frC P a b) (hP : ∀ o k, P o k → ¬ usR o k) : StR b S := by
  have g : ∀ o k, usR o k → b.1 o k = a.1 o k := fun o k hu => f.2 o k (fun z => hP o k z hu)
  obtain ⟨h1, h2, ⟨s1, s2, s3, s4⟩, h4, h5, hl, w1, w2⟩ := h
  have g0 : ∀ k, (k ≤ 3 ∨ k = 12 ∨ (30 ≤ k ∧ k ≤ 32)) → b.1 600 k = a.1 600 k := fun k hk => g 600 k (Or.inl ⟨rfl, hk⟩)
  have ga : ∀ o k, 605 ≤ o → o ≤ 611 → b.1 o k = a.1 o k := fun o k p1 p2 => g o k (Or.inr (Or.inl ⟨p1, p2⟩))
  refine ⟨f.Pr h1, fun s hs => ?_, ⟨?_, ?_, ?_, ?_⟩, fun i hi => ?_, fun i hi => ?_, hl.us g, ?_, ?_⟩
  · rw [ga 605 s (by omega) (by omega)]; exact h2 s hs
  · rw [g0 0 (by omega)]; exact s1
  · rw [g0 1 (by omega)]; exact s2
  · rw [g0 2 (by omega)]; exact s3
  · rw [g0 3 (by omega)]; exact s4
  · rw [g0 30 (by omega)]; exact h4 i hi
  · obtain ⟨⟨a1, a2, a3⟩, ⟨a4, a5⟩, a6⟩ := h5 i hi
    refine ⟨⟨?_, ?_, ?_⟩, ⟨?_, ?_⟩, fun d hd => ?_⟩
    · rw [ga 606 i (by omega) (by omega)]; exact a1
    · rw [ga 607 i (by omega) (by omega)]; exact a2
    · rw [ga 610 i (by omega) (by omega)]; exact a3
    · rw [ga 608 i (by omega) (by omega)]; exact a4
    · rw [ga 609 i (by omega) (by omega)]; exact a5
    · rw [ga 611 _ (by omega) (by omega)]; exact a6 d hd
  · rw [g0 31 (by omega)]; exact w1
  · rw [g0 32 (by omega)]; exact w2
theorem scR_us : ∀ o k, scR o k → ¬ usR o k := by
  intro o k h
  unfold scR at h
  unfold usR
  omega
section SUMR
variable {ad : Nat → Nat} {D : va_G} {cA : Nat → ClassId} {μ : x_M}
theorem StR.level {S : St} (h : StR μ S) (hO : Ok S) : f_X10_level (XR ad D cA) 600 μ = some (Int32.ofNat S.level, μ) :=
  r_level h.1 h.2.1 hO.1 h.2.2.1.1 h.2.2.2.1 h.2.2.2.2.1 h.2.2.1.2.2.1
theorem r_sumL {w e : Nat} {fa : Nat → Int} {av : Int32} {ν0 : x_M} (hw : w ≤ 1) (hP0 : Pr ν0) (he : e ≤ 60) (hbe : ∀ ν, frI (· = 629) ν0 ν → f_X10_behind (XR ad D cA) 600 ν = some (Int32.ofNat e, ν)) (hfa : ∀ ν, frI (· = 629) ν0 ν → ∀ f, f < 6 → f_X10_factOf (XR ad D cA) 600 (Int32.ofNat f) av ν = some (Int32.ofInt (fa f), ν) ∧ -20000 ≤ fa f ∧ fa f ≤ 20000) : ∀ (A : LawA) (k F d : Nat) (x i : Int32) (ν : x_M), (∀ c ∈ A, ClOk c) → k + A.length = e → A.length < F → ClR ν0 k A → frI (· = 629) ν0 ν → x = Int32.ofNat d → i = Int32.ofNat k → ∃ ν', f_X10_sumOf_L16 (XR ad D cA) F 600 (Int32.ofNat w) av x i ν = some (Int32.ofNat (d + lsum fa w A), ν') ∧ frI (· = 629) ν0 ν' := by
  intro A
  induction A with
  | nil =>
    intro k F d x i ν _ hk hF _ hfr hx hi
    obtain ⟨n, rfl⟩ : ∃ n, F = n + 1 := ⟨F - 1, by omega⟩
    unfold f_X10_sumOf_L16
    have : Int32.ofNat e ≤ i := by rw [hi]; exact (iN_le (by omega) (by omega)).mpr (by simp at hk; omega)
    simp only [↓ckE, ↓ltE, ↓reduceIte, kR, RK, Nat.reduceAdd, hbe ν hfr, bdE, this, hx]
    exact ⟨ν, rfl, hfr⟩
  | cons c r ih =>
    intro k F d x i ν hO hk hF hC hfr hx hi
    obtain ⟨n, rfl⟩ : ∃ n, F = n + 1 := ⟨F - 1, by omega⟩
    rw [List.length_cons] at hk hF
    obtain ⟨⟨c1, c2⟩, c3, hC⟩ := hC
    have o := hO c List.mem_cons_self
    have hO' : ∀ x ∈ r, ClOk x := fun x hx => hO x (List.mem_cons_of_mem _ hx)
    unfold f_X10_sumOf_L16
    have t1 : ¬ Int32.ofNat e ≤ i := fun z => by rw [hi] at z; have := (iN_le (by omega) (by omega)).mp z; omega
    have hx6 : x_ix i 60 := by rw [hi]; exact iN_ix (by omega) (by omega)
    have hcl : i.toNatClampNeg = k := by rw [hi]; exact iN_cl (by omega)
    have hs : i + 1 = Int32.ofNat (k + 1) := by rw [hi]; exact iN_s
    have d1 : ν.1 619 k = Int32.ofNat c.1 := by rw [hfr.2 619 (by decide)]; exact c1
    simp only [↓ckE, ↓ltE, ↓reduceIte, kR, lR, RK, RN, RP (hfr.Pr hP0), Nat.reduceAdd, hbe ν hfr, bdE, t1, true_or, true_and, ↓ixT hx6, hcl, d1]
    have e0 : x + 0 = Int32.ofNat d := by rw [hx]; exact iN_add (b := 0)
    by_cases q : c.1 = w
    · rw [if_pos (by rw [q])]
      obtain ⟨p, ee, f1, f2, f3, f4, f5⟩ := c3 (by omega)
      obtain ⟨ν1, g1, g2⟩ := r_holds (ad := ad) (D := D) (cA := cA) (fa := fa) (c := k) (o := p) (e := ee) (av := av) (ν := ν) (ts := c.2.2) (hfr.Pr hP0) (by omega) (by rw [hfr.2 621 (by decide)]; exact f1) (by rw [hfr.2 622 (by decide)]; exact f2) f3 (o.2.2 (by omega)).2 (fun ν' h' => hfa ν' (hfr.tr h')) (by rw [hfr.2 623 (by decide)]; exact f4) (o.2.2 (by omega)).1 f5
      have hfr1 := hfr.tr g2
      have d2 : ν1.1 620 k = Int32.ofNat c.2.1 := by rw [hfr1.2 620 (by decide)]; exact c2
      rw [hi, g1]
      simp only [↓ckE, ↓ltE, ↓reduceIte, kR, lR, RK, RN, RP (hfr1.Pr hP0), Nat.reduceAdd, bdE, true_or, true_and, ← hi, ↓ixT hx6, hcl, d2]
      by_cases hb : holdsB fa c.2.2 = true
      · rw [hb]
        simp only [↓reduceIte, iE, eq_self]
        obtain ⟨ν2, j1, j2⟩ := ih (k + 1) n (d + c.2.1) (x + Int32.ofNat c.2.1) _ ν1 hO' (by omega) (by omega) hC hfr1 (by rw [hx, iN_add]) hs
        refine ⟨ν2, ?_, j2⟩
        rw [j1]
        show _ = some (Int32.ofNat (d + ((if c.1 = w ∧ holdsB fa c.2.2 = true then c.2.1 else 0) + lsum fa w r)), ν2)
        rw [if_pos ⟨q, hb⟩, Nat.add_assoc]
      · have hb' : holdsB fa c.2.2 = false := by cases h : holdsB fa c.2.2 with | true => exact absurd h hb | false => rfl
        rw [hb']
        simp only [↓reduceIte, Bool.false_eq_true]
        obtain ⟨ν2, j1, j2⟩ := ih (k + 1) n d _ _ ν1 hO' (by omega) (by omega) hC hfr1 e0 hs
        refine ⟨ν2, ?_, j2⟩
        rw [j1]
        show _ = some (Int32.ofNat (d + ((if c.1 = w ∧ holdsB fa c.2.2 = true then c.2.1 else 0) + lsum fa w r)), ν2)
        rw [if_neg (fun z => hb z.2), Nat.zero_add]
    · rw [if_neg (fun z => q ((iN_inj (by have := o.1; omega) (by omega)).mp z))]
      obtain ⟨ν2, j1, j2⟩ := ih (k + 1) n d _ _ ν hO' (by omega) (by omega) hC hfr e0 hs
      refine ⟨ν2, ?_, j2⟩
      rw [j1]
      show _ = some (Int32.ofNat (d + ((if c.1 = w ∧ holdsB fa c.2.2 = true then c.2.1 else 0) + lsum fa w r)), ν2)
      rw [if_neg (fun z => q z.1), Nat.zero_add]
theorem r_sum {S : St} {w : Nat} {av : Int32} {who : Option Nat} (h : StR μ S) (hO : Ok S) (hw : w ≤ 1) (ha : ∀ i, who = some i → av = Int32.ofNat i ∧ i < S.n) (hn : who = none → av < 0) : ∃ ν', f_X10_sumOf (XR ad D cA) 600 (Int32.ofNat w) av μ = some (Int32.ofNat (lsum (S.fact S.level who) w S.law), ν') ∧ frC scR μ ν' := by
  have hn6 := hO.1.1.1
  have h1 : frC scR μ (x_sI μ 600 29 (Int32.ofNat S.level)) := frC.sI (Or.inr ⟨rfl, rfl⟩)
  have hS1 := h.fr hn6 h1 scR_us
  have h29 : (x_sI μ 600 29 (Int32.ofNat S.level)).1 600 29 = Int32.ofNat S.level := sI_get
  unfold f_X10_sumOf
  simp only [↓ckE, ↓ltE, ↓reduceIte, kR, RK, Nat.reduceAdd, h.level hO, bdE]
  generalize x_sI μ 600 29 (Int32.ofNat S.level) = μ1 at h1 hS1 h29 ⊢
  obtain ⟨b, hb, hC, e1, e2⟩ := r_be (ad := ad) (D := D) (cA := cA) hS1.1 hS1.2.2.2.2.2.1
  have hl := hS1.2.2.2.2.2.1.1.1
  obtain ⟨ν', j1, j2⟩ := r_sumL (ad := ad) (D := D) (cA := cA) (w := w) (e := b + S.law.length) (fa := S.fact S.level who) (av := av) (ν0 := μ1) hw hS1.1 hb
    (fun ν hf => e2 ν (hf.Pr hS1.1) (by rw [hf.2 600 (by decide)]) (hf.2 618 (by decide)))
    (fun ν hf f hf6 => by
      have hSν : StR ν S := hS1.fr hn6 (frC.ofI (Q := scR) hf (fun o k z => Or.inl z)) scR_us
      refine ⟨r_fact hSν.1 hSν.2.2.1.2.1 (by have := hO.2.1; omega) (by rw [hf.2 600 (by decide)]; exact h29) hn6 (fun i hi => ⟨(ha i hi).1, (ha i hi).2, hSν.2.2.2.2.1 i (ha i hi).2⟩) (fun i hi => (hO.1.2.1 i (ha i hi).2).2.1) hn hf6, ?_⟩
      exact St.fact_b hO.1 (by unfold St.level; exact lvl_le) (fun i hi => (ha i hi).2) f)
    S.law b 4096 0 0 _ μ1 hS1.2.2.2.2.2.1.1.2 rfl (by omega) hC frI.rf rfl rfl
  refine ⟨ν', ?_, h1.tr (frC.ofI j2 (fun o k z => Or.inl z))⟩
  rw [e1, bd_s]
  rw [Nat.zero_add] at j1
  exact j1
def St.spring (S : St) : Nat := if (S.day : Int) = S.dry then 0 else 5 + S.wells + lsum (S.fact S.level none) 0 S.law
def St.sun (S : St) (i : Nat) : Nat := if i = S.gone then 0 else lsum (S.fact S.level (some i)) 1 S.law
def St.pours (S : St) (i : Nat) : Int :=
  if i = S.gone then 0
  else if S.kd i = 1 ∨ S.kd i = 4 then (if S.bk i ≤ 0 then S.dl i else S.dl i + ((S.rate : Int) * S.bk i).tdiv 100)
  else if S.kd i = 2 then S.dl i - S.v i
  else if S.kd i = 5 then (if S.level ≤ 30 then S.dl i - S.v i else S.dl i - S.v i - 1)
  else if S.kd i = 6 then S.dl i + S.rw i (S.day % 4)
  else S.dl i
theorem iI_N {n : Nat} {z : Int} (hn : n < 2 ^ 31) (hz : -2147483648 ≤ z ∧ z < 2147483648) : Int32.ofNat n = Int32.ofInt z ↔ (n : Int) = z := by
  rw [iN_I]; exact iI_inj (by omega) hz
theorem r_spring {S : St} (h : StR μ S) (hO : Ok S) : ∃ ν', f_X10_spring (XR ad D cA) 600 μ = some (Int32.ofNat S.spring, ν') ∧ frC scR μ ν' := by
  have hn6 := hO.1.1.1
  obtain ⟨ν, g1, g2⟩ := r_sum (ad := ad) (D := D) (cA := cA) (w := 0) (av := -1) (who := none) h hO (by decide) (fun i hi => by cases hi) (fun _ => by decide)
  simp only [Int32.reduceOfNat] at g1
  have hS := h.fr hn6 g2 scR_us
  unfold f_X10_spring St.spring
  simp only [↓ckE, ↓ltE, ↓reduceIte, kR, RK, Nat.reduceAdd, h.2.2.1.2.1, h.2.2.2.2.2.2.2]
  by_cases q : (S.day : Int) = S.dry
  · rw [if_pos ((iI_N (by have := hO.2.1; omega) (by have := hO.2.2.2; omega)).mpr q), if_pos q]
    exact ⟨μ, rfl, frC.rf⟩
  · rw [if_neg (fun z => q ((iI_N (by have := hO.2.1; omega) (by have := hO.2.2.2; omega)).mp z)), if_neg q]
    refine ⟨ν, ?_, g2⟩
    simp only [↓ckE, ↓ltE, ↓reduceIte, kR, RK, Nat.reduceAdd, g1, bdE, hS.2.2.2.2.2.2.1]
    rw [show (5 : Int32) = Int32.ofNat 5 from rfl, iN_add, iN_add, Nat.add_right_comm]
theorem r_sun {S : St} {i : Nat} (h : StR μ S) (hO : Ok S) (hi : i < S.n) : ∃ ν', f_X10_sunOf (XR ad D cA) 600 (Int32.ofNat i) μ = some (Int32.ofNat (S.sun i), ν') ∧ frC scR μ ν' := by
  have hn6 := hO.1.1.1
  obtain ⟨ν, g1, g2⟩ := r_sum (ad := ad) (D := D) (cA := cA) (w := 1) (av := Int32.ofNat i) (who := some i) h hO (by decide) (fun j hj => by cases hj; exact ⟨rfl, hi⟩) (fun z => by cases z)
  simp only [Int32.reduceOfNat] at g1
  unfold f_X10_sunOf St.sun
  simp only [↓ckE, ↓ltE, ↓reduceIte, kR, RK, Nat.reduceAdd]
  by_cases q : i = S.gone
  · rw [if_pos ((h.2.2.2.1 i (by omega)).mpr q), if_pos q]
    exact ⟨μ, rfl, frC.rf⟩
  · rw [if_neg (fun z => q ((h.2.2.2.1 i (by omega)).mp z)), if_neg q]
    refine ⟨ν, ?_, g2⟩
    simp only [g1, bdE]
theorem r_pours {S : St} {i : Nat} (h : StR μ S) (hO : Ok S) (hi : i < S.n) : f_X10_poursOf (XR ad D cA) 600 (Int32.ofNat i) μ = some (Int32.ofInt (S.pours i), μ) := by
  have hn6 := hO.1.1.1
  have hlv : S.level ≤ 60 := lvl_le
  have hL := h.level (ad := ad) (D := D) (cA := cA) hO
  have hrate : lastW 4 S.law 0 ≤ 99 := lastW_le h.2.2.2.2.2.1.1.2 (by decide)
  have e := r_last (ad := ad) (D := D) (cA := cA) (w := 4) (d := 0) (by decide) h.1 h.2.2.2.2.2.1
  simp only [Int32.reduceOfNat] at e
  obtain ⟨⟨a1, a2, a3⟩, ⟨a4, a5⟩, a6⟩ := h.2.2.2.2.1 i hi
  obtain ⟨⟨o1, o2, o3⟩, ⟨o4, o5⟩, ⟨o6, o7⟩, o8⟩ := hO.1.2.1 i hi
  have hx : x_ix (Int32.ofNat i) 6 := iN_ix (by omega) (by omega)
  have hc : (Int32.ofNat i).toNatClampNeg = i := iN_cl (by omega)
  have hd := hO.2.1
  have hm4 : Int32.ofNat S.day - Int32.ofNat S.day / (4 : Int32) * (4 : Int32) = Int32.ofNat (S.day % 4) := iN_rem (b := 4) (by omega) (by decide)
  have h4i : (4 : Int32) * Int32.ofNat i = Int32.ofNat (4 * i) := iN_mul (a := 4)
  have hx24 : x_ix (Int32.ofNat (4 * i + S.day % 4)) 24 := iN_ix (by omega) (by omega)
  have hc24 : (Int32.ofNat (4 * i + S.day % 4)).toNatClampNeg = 4 * i + S.day % 4 := iN_cl (by omega)
  have a6 := a6 (S.day % 4) (by omega)
  have J : (S.kd i = 1 ∨ S.kd i = 4) → f_X10_poursOf_J60 (XR ad D cA) 600 (Int32.ofNat i) (Int32.ofInt (S.dl i)) μ = some (Int32.ofInt (if S.bk i ≤ 0 then S.dl i else S.dl i + ((S.rate : Int) * S.bk i).tdiv 100), μ) := by
    intro _
    unfold f_X10_poursOf_J60
    simp only [↓ckE, ↓ltE, ↓reduceIte, kR, lR, RK, RN, RP h.1, Nat.reduceAdd, true_or, true_and, ↓ixT hx, hc, a4, e, bdE, iE, eq_self, not_false_eq_true]
    by_cases q : S.bk i ≤ 0
    · rw [if_pos q, if_pos ((leI (0) (0) rfl (by omega) (by decide)).mpr q)]
    · rw [if_neg q, if_neg (fun z => q ((leI (0) (0) rfl (by omega) (by decide)).mp z))]
      have p1 : 0 ≤ (S.rate : Int) * S.bk i := Int.mul_nonneg (by omega) (by omega)
      have p2 : (S.rate : Int) * S.bk i ≤ 99 * 9999 := Int.mul_le_mul (by unfold St.rate; omega) o5 (by omega) (by omega)
      rw [Int32.ofInt_add, Int32.ofInt_tdiv (by show (-2147483648 : Int) ≤ _; omega) (by show _ ≤ (2147483647 : Int); omega) (by decide) (by decide), Int32.ofInt_mul, ← iN_I]
      rfl
  unfold f_X10_poursOf St.pours
  simp only [↓ckE, ↓reduceIte, kR, RK, Nat.reduceAdd]
  by_cases qg : i = S.gone
  · rw [if_pos ((h.2.2.2.1 i (by omega)).mpr qg), if_pos qg]; rfl
  · rw [if_neg (fun z => qg ((h.2.2.2.1 i (by omega)).mp z)), if_neg qg]
    simp only [↓ckE, ↓ltE, ↓reduceIte, kR, lR, RK, RN, RP h.1, Nat.reduceAdd, true_or, true_and, ↓ixT hx, hc, a1, a2, a5, h.2.2.1.2.1, hL, bdE, hm4, h4i, iN_add, ↓ixT hx24, hc24, a6, iE, eq_self, not_false_eq_true]
    rw [show (1 : Int32) = Int32.ofNat 1 from rfl, show (2 : Int32) = Int32.ofNat 2 from rfl, show (3 : Int32) = Int32.ofNat 3 from rfl, show (4 : Int32) = Int32.ofNat 4 from rfl, show (5 : Int32) = Int32.ofNat 5 from rfl, show (6 : Int32) = Int32.ofNat 6 from rfl]
    rw [sw_iN 1 (by omega) (by omega), sw_iN 2 (by omega) (by omega), sw_iN 3 (by omega) (by omega), sw_iN 4 (by omega) (by omega), sw_iN 5 (by omega) (by omega), sw_iN 6 (by omega) (by omega), sw_n]
    by_cases q1 : S.kd i = 1
    · rw [if_pos q1, if_pos (Or.inl q1), J (Or.inl q1)]
    · rw [if_neg q1]
      by_cases q2 : S.kd i = 2
      · rw [if_pos q2, if_neg (by omega), if_pos q2, iN_I, ← Int32.ofInt_sub]
      · rw [if_neg q2]
        by_cases q3 : S.kd i = 3
        · rw [if_pos q3, if_neg (by omega), if_neg q2, if_neg (by omega), if_neg (by omega)]
        · rw [if_neg q3]
          by_cases q4 : S.kd i = 4
          · rw [if_pos q4, if_pos (Or.inr q4), J (Or.inr q4)]
          · rw [if_neg q4, if_neg (by omega : ¬ (S.kd i = 1 ∨ S.kd i = 4)), if_neg q2]
            by_cases q5 : S.kd i = 5
            · rw [if_pos q5, if_pos q5]
              by_cases ql : S.level ≤ 30
              · rw [if_pos ql, if_pos ((leN 30 30 rfl (by omega) (by decide)).mpr ql), iN_I, ← Int32.ofInt_sub]
              · rw [if_neg ql, if_neg (fun z => ql ((leN 30 30 rfl (by omega) (by decide)).mp z)), Int32.ofInt_sub, Int32.ofInt_sub, iN_I]; rfl
            · rw [if_neg q5, if_neg q5]
              by_cases q6 : S.kd i = 6
              · rw [if_pos q6, if_pos q6, iN_I, ← Int32.ofInt_add]
              · rw [if_neg q6, if_neg q6]
end SUMR
