/-! ===== law: what a reading leaves alone; a new law ===== -/
abbrev St.wL (S : St) (A : LawA) : St := (S.1, S.2.1, S.2.2.1, S.2.2.2.1, S.2.2.2.2.1, A, S.2.2.2.2.2.2)
def rdC (K o k : Nat) : Prop := (o = 3 ∧ (k = 1 ∨ k = 2)) ∨ (400 + 10 * K ≤ o ∧ o ≤ 404 + 10 * K)
def rdR (K o k : Nat) : Prop := pcG K o k ∨ (o = 600 ∧ k = 13)
section FRM
variable {μ ν μ' ν' : x_M} {K : Nat} {A : LawA}
theorem StC.frL {a b : x_M} {B : Nat} {S : St} (h : StC a B S) (h6 : S.n ≤ 6) (hP : Pt b) (g : ∀ o k, usC B o k → ¬ lwC o → b.1 o k = a.1 o k) (hA : LawC b (b.2.1 B 5) A) : StC b B (S.wL A) := by
  obtain ⟨⟨hB, h1⟩, h2, h3, h4, hl, ⟨s1, s2, s3, s4⟩, w1, w2⟩ := h
  have hg := hB.ge
  have nl : ∀ o, B ≤ o → o ≤ B + 15 → ¬ lwC o := fun o p1 p2 => by unfold lwC; omega
  have g0 : ∀ k, 6 ≤ k → k ≤ 11 → b.1 B k = a.1 B k := fun k p1 p2 => g B k (Or.inl ⟨rfl, p1, p2⟩) (nl _ (by omega) (by omega))
  have ga : ∀ i k, i < 6 → k ≤ 7 → b.1 (B + 4 + i) k = a.1 (B + 4 + i) k := fun i k p1 p2 => g _ k (Or.inr (Or.inr (Or.inl ⟨by omega, by omega, p2⟩))) (nl _ (by omega) (by omega))
  have gr : ∀ i k, i < 6 → b.1 (B + 10 + i) k = a.1 (B + 10 + i) k := fun i k p1 => g _ k (Or.inr (Or.inr (Or.inr (Or.inl ⟨by omega, by omega⟩)))) (nl _ (by omega) (by omega))
  refine ⟨⟨hB, hP⟩, fun s hs => ?_, fun i hi => ?_, fun i hi => ?_, hA, ⟨?_, ?_, ?_, ?_⟩, ?_, ?_⟩
  · rw [g (B + 2) s (Or.inr (Or.inl rfl)) (nl _ (by omega) (by omega))]; exact h2 s hs
  · rw [ga i 0 hi (by omega), ga i 2 hi (by omega)]; exact h3 i hi
  · have hi' : i < S.n := hi
    obtain ⟨⟨a1, a2, a3⟩, ⟨a4, a5⟩, a6⟩ := h4 i hi
    refine ⟨⟨?_, ?_, ?_⟩, ⟨?_, ?_⟩, fun d hd => ?_⟩
    · rw [ga i 3 (by omega) (by omega)]; exact a1
    · rw [ga i 4 (by omega) (by omega)]; exact a2
    · rw [ga i 7 (by omega) (by omega)]; exact a3
    · rw [ga i 5 (by omega) (by omega)]; exact a4
    · rw [ga i 6 (by omega) (by omega)]; exact a5
    · rw [gr i d (by omega)]; exact a6 d hd
  · rw [g0 6 (by omega) (by omega)]; exact s1
  · rw [g0 7 (by omega) (by omega)]; exact s2
  · rw [g0 8 (by omega) (by omega)]; exact s3
  · rw [g0 9 (by omega) (by omega)]; exact s4
  · rw [g0 10 (by omega) (by omega)]; exact w1
  · rw [g0 11 (by omega) (by omega)]; exact w2
theorem StR.frL {a b : x_M} {S : St} (h : StR a S) (h6 : S.n ≤ 6) (hP : Pr b) (g : ∀ o k, usR o k → ¬ (o = 600 ∧ k = 12) → ¬ (618 ≤ o ∧ o ≤ 623) → b.1 o k = a.1 o k) (hA : LawR b A) : StR b (S.wL A) := by
  obtain ⟨h1, h2, ⟨s1, s2, s3, s4⟩, h4, h5, hl, w1, w2⟩ := h
  have g0 : ∀ k, (k ≤ 3 ∨ (30 ≤ k ∧ k ≤ 32)) → b.1 600 k = a.1 600 k := fun k hk => g 600 k (Or.inl ⟨rfl, by omega⟩) (by omega) (by omega)
  have ga : ∀ o k, 605 ≤ o → o ≤ 611 → b.1 o k = a.1 o k := fun o k p1 p2 => g o k (Or.inr (Or.inl ⟨p1, p2⟩)) (by omega) (by omega)
  refine ⟨hP, fun s hs => ?_, ⟨?_, ?_, ?_, ?_⟩, fun i hi => ?_, fun i hi => ?_, hA, ?_, ?_⟩
  · rw [ga 605 s (by omega) (by omega)]; exact h2 s hs
  · rw [g0 0 (by omega)]; exact s1
  · rw [g0 1 (by omega)]; exact s2
  · rw [g0 2 (by omega)]; exact s3
  · rw [g0 3 (by omega)]; exact s4
  · rw [g0 30 (by omega)]; exact h4 i hi
  · obtain ⟨⟨a1, a2, a3⟩, ⟨a4, a5⟩, a6⟩ := h5 i hi
    refine ⟨⟨?_, ?_, ?_⟩, ⟨?_, ?_⟩, fun d hd => ?_⟩
    · rw [ga 606 i (by omega) (by omega)]; exact a1
    · rw [ga 607 i (by omega) (by omega)]; exact a2
    · rw [ga 610 i (by omega) (by omega)]; exact a3
    · rw [ga 608 i (by omega) (by omega)]; exact a4
    · rw [ga 609 i (by omega) (by omega)]; exact a5
    · rw [ga 611 _ (by omega) (by omega)]; exact a6 d hd
  · rw [g0 31 (by omega)]; exact w1
  · rw [g0 32 (by omega)]; exact w2
theorem ClR.rd {a b : x_M} (hK : K ≤ 6) (f1 : ∀ o j, 619 ≤ o → o ≤ 622 → j < 10 * K → b.1 o j = a.1 o j) (f2 : ∀ j, j < 100 * K → b.1 623 j = a.1 623 j) : ∀ {A : LawA} {k : Nat}, k + A.length ≤ 10 * K → (∀ c, k ≤ c → c < k + A.length → (a.1 619 c = 0 ∨ a.1 619 c = 1) → ∃ o e, a.1 621 c = Int32.ofNat o ∧ a.1 622 c = Int32.ofNat e ∧ o ≤ e ∧ e ≤ 100 * K) → ClR a k A → ClR b k A
  | [], _, _, _, _ => True.intro
  | c :: r, k, hl, hs, ⟨⟨h1, h2⟩, h3, h4⟩ => by
    have el : (c :: r).length = r.length + 1 := rfl
    rw [el] at hl hs
    refine ⟨⟨?_, ?_⟩, fun z => ?_, ClR.rd hK f1 f2 (A := r) (k := k + 1) (by omega) (fun c' p1 p2 p3 => hs c' (by omega) (by omega) p3) h4⟩
    · rw [f1 619 k (by omega) (by omega) (by omega)]; exact h1
    · rw [f1 620 k (by omega) (by omega) (by omega)]; exact h2
    · obtain ⟨o, e, q1, q2, q3, q4, q5⟩ := h3 z
      have w01 : a.1 619 k = 0 ∨ a.1 619 k = 1 := by
        rw [h1]
        have : c.1 = 0 ∨ c.1 = 1 := by omega
        rcases this with y | y <;> rw [y]
        · exact Or.inl rfl
        · exact Or.inr rfl
      obtain ⟨o', e', p1, p2, p3, p4⟩ := hs k (by omega) (by omega) w01
      have ee : e = e' := (iN_inj (by omega) (by omega)).mp (q2.symm.trans p2)
      refine ⟨o, e, ?_, ?_, q3, SegI_cg (fun j j1 j2 => f2 j (by omega)) q4, q5⟩
      · rw [f1 621 k (by omega) (by omega) (by omega)]; exact q1
      · rw [f1 622 k (by omega) (by omega) (by omega)]; exact q2
/-- a law that was read before stays -/
theorem LawAtR.rd {a b : x_M} {f n : Nat} (h : LawAtR a f A) (hA : A.length ≤ 10) (hf : f < K) (hK : K ≤ 6) (f0 : b.1 618 f = a.1 618 f) (f1 : ∀ o j, 619 ≤ o → o ≤ 622 → j < 10 * K → b.1 o j = a.1 o j) (f2 : ∀ j, j < 100 * K → b.1 623 j = a.1 623 j) (hn : n ≤ 10) (n1 : a.1 618 f = Int32.ofNat n) (hs : ∀ c, 10 * f ≤ c → c < 10 * f + n → (a.1 619 c = 0 ∨ a.1 619 c = 1) → ∃ o e, a.1 621 c = Int32.ofNat o ∧ a.1 622 c = Int32.ofNat e ∧ 100 * f ≤ o ∧ o ≤ e ∧ e ≤ 100 * f + 100) : LawAtR b f A := by
  have en : n = A.length := (iN_inj (by omega) (by omega)).mp (n1.symm.trans h.1)
  refine ⟨by rw [f0]; exact h.1, ClR.rd hK f1 f2 (by omega) (fun c p1 p2 p3 => ?_) h.2⟩
  obtain ⟨o, e, q1, q2, q3, q4, q5⟩ := hs c p1 (by omega) p3
  exact ⟨o, e, q1, q2, q4, by omega⟩
theorem gI.frL (h : gI μ ν) (f : eqO (fun o k => cI o k ∧ ¬ lwC o) μ μ') (hS : ∀ S : St, S.n ≤ 6 → StC μ 200 S → StC μ' 200 S) (g : eqO (fun o k => dI o k ∧ ¬ (618 ≤ o ∧ o ≤ 623)) ν ν') (hL : ∀ f (A : LawA), LawOk A → f < 6 → ν.1 600 50 = Int32.ofNat f → LawAtR ν f A → LawAtR ν' f A) : gI μ' ν' := by
  obtain ⟨b, h1, h2, h3⟩ := h
  refine ⟨b, ?_, ?_, fun hb => ?_⟩
  · rw [f 1 7 ⟨Or.inl ⟨rfl, rfl⟩, by unfold lwC; omega⟩]; exact h1
  · rw [g 600 49 ⟨Or.inl ⟨rfl, by decide, by decide⟩, by omega⟩]; exact h2
  · obtain ⟨S, R1, R2, R3, ⟨c1, c2, c3, c4⟩, ⟨⟨i0, i1⟩, ⟨i2, i3, i4, i5⟩, i6, i7, i8, i9, i10⟩, hg⟩ := h3 hb
    have h6 := hg.2.1.1.1.1
    have gg : ∀ k, 49 ≤ k → k ≤ 57 → ν'.1 600 k = ν.1 600 k := fun k p1 p2 => g 600 k ⟨Or.inl ⟨rfl, p1, p2⟩, by omega⟩
    have ga : ∀ o, 659 ≤ o → o ≤ 671 → ∀ k, ν'.1 o k = ν.1 o k := fun o p1 p2 k => g o k ⟨Or.inr (Or.inr ⟨p1, p2⟩), by omega⟩
    have fr : ∀ o k, 216 ≤ o → o ≤ 224 → μ'.1 o k = μ.1 o k := fun o k p1 p2 => f o k ⟨Or.inr (Or.inr ⟨p1, p2⟩), by unfold lwC; omega⟩
    refine ⟨S, R1, R2, R3, ⟨hS S h6 c1, c2.eq (fun o k p1 p2 _ => fr o k (by omega) (by omega)), c3.eq (fun o k p1 p2 _ => fr o k (by omega) (by omega)), c4.eq (fun o k p1 p2 _ => fr o k (by omega) (by omega))⟩, ⟨⟨i0, ?_⟩, ⟨?_, ?_, ?_, ?_⟩, fun s hs => ?_, fun i hi => ?_, ?_, ?_, ?_⟩, hg⟩
    · rw [gg 50 (by omega) (by omega)]
      rcases i1 with q | ⟨f', q1, q2, q3⟩
      · exact Or.inl q
      · exact Or.inr ⟨f', q1, q2, hL f' S.law i0 q1 q2 q3⟩
    · rw [gg 51 (by omega) (by omega)]; exact i2
    · rw [gg 52 (by omega) (by omega)]; exact i3
    · rw [gg 53 (by omega) (by omega)]; exact i4
    · rw [gg 54 (by omega) (by omega)]; exact i5
    · rw [ga 659 (by omega) (by omega)]; exact i6 s hs
    · obtain ⟨⟨j1, j2, j3⟩, ⟨j4, j5⟩, j6⟩ := i7 i hi
      refine ⟨⟨?_, ?_, ?_⟩, ⟨?_, ?_⟩, fun d hd => ?_⟩
      · rw [ga 660 (by omega) (by omega)]; exact j1
      · rw [ga 661 (by omega) (by omega)]; exact j2
      · rw [ga 664 (by omega) (by omega)]; exact j3
      · rw [ga 662 (by omega) (by omega)]; exact j4
      · rw [ga 663 (by omega) (by omega)]; exact j5
      · rw [ga 665 (by omega) (by omega)]; exact j6 d hd
    · exact i8.eq (gg 55 (by omega) (by omega)) (ga 666 (by omega) (by omega)) (ga 667 (by omega) (by omega))
    · exact i9.eq (gg 56 (by omega) (by omega)) (ga 668 (by omega) (by omega)) (ga 669 (by omega) (by omega))
    · exact i10.eq (gg 57 (by omega) (by omega)) (ga 670 (by omega) (by omega)) (ga 671 (by omega) (by omega))
theorem no1 {f : Nat} (hf : f < 6) : ¬ Int32.ofNat f = -1 := fun z => by
  have n : ¬ Int32.ofNat f < 0 := iN_neg (by omega)
  rw [z] at n
  exact absurd (by decide) n
/-- what a reading changes, the relation bears -/
theorem Rel.rd (h : Rel μ ν) (hK : μ.1 1 8 = Int32.ofNat K) (hK6 : K < 6) (f : frC (rdC K) μ μ') (g : frC (rdR K) ν ν') (t1 : μ'.1 3 1 = Int32.ofNat 0) (t2 : ν'.1 600 13 = Int32.ofNat 0) : Rel μ' ν' := by
  obtain ⟨S, R1, R2, R3, ⟨hp, h30⟩, ⟨⟨hC2, hC3⟩, hR1, hR2, hR3⟩, hg, o1, o2, o3, o4, o5, o6⟩ := h
  have h6 := hp.n6
  obtain ⟨K', k1, k2, k3, ⟨k4, k5⟩, ⟨k6, k7⟩, k8⟩ := o3
  have eK : K' = K := (iN_inj (by omega) (by omega)).mp (k2.symm.trans hK)
  rw [eK] at k2 k3 k4 k5 k6 k7 k8
  have LC : ∀ l (A : LawA), (l = 125 ∨ l = 225 ∨ l = 325 ∨ ∃ k, k < K ∧ l = 400 + 10 * k) → LawC μ l A → LawC μ' l A := fun l A hl hA => hA.congr (fun o p1 p2 => funext (fun j => f.2 o j (by
    unfold rdC
    rcases hl with e | e | e | ⟨k, hk, e⟩ <;> omega)))
  have fK : ∀ fld f, (ν.1 600 fld = -1 ∨ ∃ k, k < K ∧ ν.1 600 fld = Int32.ofNat k) → f < 6 → ν.1 600 fld = Int32.ofNat f → f < K := fun fld f q1 q2 q3 => by
    rcases q1 with q1 | ⟨k, hk, q1⟩
    · exact absurd (q3.symm.trans q1) (no1 q2)
    · have := (iN_inj (by omega) (by omega)).mp (q3.symm.trans q1)
      omega
  have LA : ∀ f (A : LawA), LawOk A → f < K → LawAtR ν f A → LawAtR ν' f A := fun f A hA hf hl => by
    obtain ⟨n, n1, n2, n3⟩ := k8 f hf
    exact hl.rd hA.1 hf (by omega) (g.2 _ _ (by unfold rdR pcG; omega)) (fun o j p1 p2 p3 => g.2 _ _ (by unfold rdR pcG; omega)) (fun j p1 => g.2 _ _ (by unfold rdR pcG; omega)) n1 n2 n3
  have hC : ∀ B (S : St), (B = 100 ∨ B = 200) → S.n ≤ 6 → StC μ B S → StC μ' B S := fun B S hB h6 hs => by
    refine StC.frL (A := S.law) hs h6 (f.Pt hs.1.2) (fun o k z y => f.2 o k ?_) ?_
    · unfold usC at z
      unfold lwC at z y
      unfold rdC
      omega
    · rw [f.1]
      refine LC _ _ ?_ hs.2.2.2.2.1
      rcases hB with e | e
      · rw [e]; exact k4
      · rw [e]; exact k6
  have sr : StR ν' S := by
    refine StR.frL (A := S.law) hp.2.1 h6 (g.Pr hp.2.1.1) (fun o k z y1 y2 => g.2 o k ?_) ⟨hp.2.1.2.2.2.2.2.1.1, ?_⟩
    · unfold usR at z
      unfold rdR pcG
      omega
    · rw [g.2 600 12 (by unfold rdR pcG; omega)]
      rcases hp.2.1.2.2.2.2.2.1.2 with q | ⟨f', q1, q2, q3⟩
      · exact Or.inl q
      · exact Or.inr ⟨f', q1, q2, LA f' _ hp.2.1.2.2.2.2.2.1.1 (fK 12 f' k5 q1 q2) q3⟩
  have cO' : ∀ o k, 100 ≤ o → o ≤ 399 → μ'.1 o k = μ.1 o k := fun o k p1 p2 => f.2 o k (by unfold rdC; omega)
  have dO' : ∀ o k, 625 ≤ o → ν'.1 o k = ν.1 o k := fun o k p1 => g.2 o k (by unfold rdR pcG; omega)
  have d6' : ∀ k, 30 ≤ k → ν'.1 600 k = ν.1 600 k := fun k p1 => g.2 600 k (by unfold rdR pcG; omega)
  refine ⟨S, R1, R2, R3, ⟨⟨⟨hC 100 S (Or.inl rfl) h6 hp.1.1, hg.1, fun B hB i hi => ?_, hp.ok, hp.1.2.2.2.2.1, hp.1.2.2.2.2.2.eqr (fun o k p1 p2 => cO' o k (by omega) (by omega))⟩, sr, hp.2.2⟩, ?_⟩, ⟨⟨hC2.eqr (fun o k p1 p2 => cO' o k (by omega) (by omega)), hC3.eqr (fun o k p1 p2 => cO' o k (by omega) (by omega))⟩, hR1.eq (d6' _ (by omega)) (fun k => dO' _ _ (by omega)) (fun k => dO' _ _ (by omega)), hR2.eq (d6' _ (by omega)) (fun k => dO' _ _ (by omega)) (fun k => dO' _ _ (by omega)), hR3.eq (d6' _ (by omega)) (fun k => dO' _ _ (by omega)) (fun k => dO' _ _ (by omega))⟩, hg, ?_, ?_, ⟨K, by omega, ?_, ?_, ⟨?_, ?_⟩, ⟨?_, ?_⟩, fun k hk => ?_⟩, ⟨0, by omega, t1, t2, fun j hj => absurd hj (by omega)⟩, ?_, ?_⟩
  · rw [cO' _ _ (by have := hB.ge; omega) (by have := hB.ge; omega)]; exact hp.1.2.2.1 B hB i hi
  · rw [d6' _ (by omega)]; exact h30
  · exact o1.fr (fun o k z => f.2 o k (by unfold cK at z; unfold rdC; omega)) (fun o k z => g.2 o k (by unfold dK at z; unfold rdR pcG; omega))
  · refine o2.frL (fun o k z => f.2 o k ?_) (fun S h6 hs => hC 200 S (Or.inr rfl) h6 hs) (fun o k z => g.2 o k ?_) (fun f' A hA q1 q2 q3 => LA f' A hA (fK 50 f' k7 q1 q2) q3)
    · obtain ⟨z1, z2⟩ := z
      unfold cI usC at z1
      unfold lwC at z1 z2
      unfold rdC
      omega
    · obtain ⟨z1, z2⟩ := z
      unfold dI at z1
      unfold rdR pcG
      omega
  · rw [f.2 1 8 (by unfold rdC; omega)]; exact k2
  · rw [g.2 600 11 (by unfold rdR pcG; omega)]; exact k3
  · rw [f.1]; exact k4
  · rw [g.2 600 12 (by unfold rdR pcG; omega)]; exact k5
  · rw [f.1]; exact k6
  · rw [g.2 600 50 (by unfold rdR pcG; omega)]; exact k7
  · obtain ⟨n, n1, n2, n3⟩ := k8 k hk
    refine ⟨n, n1, by rw [g.2 618 k (by unfold rdR pcG; omega)]; exact n2, fun c p1 p2 p3 => ?_⟩
    rw [g.2 619 c (by unfold rdR pcG; omega)] at p3
    rw [g.2 621 c (by unfold rdR pcG; omega), g.2 622 c (by unfold rdR pcG; omega)]
    exact n3 c p1 p2 p3
  · exact o5.fr (fun o k z => f.2 o k (by unfold cP at z; unfold rdC; omega)) (fun o k z => g.2 o k (by unfold dP at z; unfold rdR pcG; omega)) (by rw [f.1]) (by rw [g.1])
  · exact o6.fr (fun o k z => f.2 o k (by unfold cA' at z; unfold rdC; omega)) (fun o k z => g.2 o k (by unfold dA at z; unfold rdR pcG; omega))
theorem lawsR : ∀ K, K < 6 → rf107 5 K = 400 + 10 * K ∧ 400 + 10 * K ∈ lawIds := by decide +kernel
/-- the law that was read is the law of now -/
theorem Rel.nlaw (h : Rel μ ν) (hK : μ.1 1 8 = Int32.ofNat K) (hK6 : K < 6) (hC : LawC μ (400 + 10 * K) A) (hR : LawAtR ν K A) (hs : ∀ c, 10 * K ≤ c → c < 10 * K + A.length → (ν.1 619 c = 0 ∨ ν.1 619 c = 1) → ∃ o e, ν.1 621 c = Int32.ofNat o ∧ ν.1 622 c = Int32.ofNat e ∧ 100 * K ≤ o ∧ o ≤ e ∧ e ≤ 100 * K + 100) : Rel (x_sI (x_sR μ 100 5 (400 + 10 * K)) 1 8 (Int32.ofNat (K + 1))) (x_sI (x_sI ν 600 12 (Int32.ofNat K)) 600 11 (Int32.ofNat (K + 1))) := by
  obtain ⟨S, R1, R2, R3, ⟨hp, h30⟩, ⟨⟨hC2, hC3⟩, hR1, hR2, hR3⟩, hg, o1, o2, o3, o4, o5, o6⟩ := h
  have h6 := hp.n6
  obtain ⟨K', k1, k2, k3, ⟨k4, k5⟩, ⟨k6, k7⟩, k8⟩ := o3
  have eK : K' = K := (iN_inj (by omega) (by omega)).mp (k2.symm.trans hK)
  rw [eK] at k2 k3 k4 k5 k6 k7 k8
  obtain ⟨μ', hμ⟩ : ∃ m : x_M, m = x_sI (x_sR μ 100 5 (400 + 10 * K)) 1 8 (Int32.ofNat (K + 1)) := ⟨_, rfl⟩
  obtain ⟨ν', hν⟩ : ∃ m : x_M, m = x_sI (x_sI ν 600 12 (Int32.ofNat K)) 600 11 (Int32.ofNat (K + 1)) := ⟨_, rfl⟩
  rw [← hμ, ← hν]
  have ci : ∀ o k, ¬ (o = 1 ∧ k = 8) → μ'.1 o k = μ.1 o k := fun o k z => by rw [hμ, sI_of z]; rfl
  have ra : ∀ o k, ¬ (o = 100 ∧ k = 5) → μ'.2.1 o k = μ.2.1 o k := fun o k z => by
    rw [hμ]
    show (if o = 100 then (if k = 5 then 400 + 10 * K else μ.2.1 o k) else μ.2.1 o k) = _
    by_cases q : o = 100
    · rw [if_pos q, if_neg (fun w => z ⟨q, w⟩)]
    · rw [if_neg q]
  have rb : μ'.2.1 100 5 = 400 + 10 * K := by
    rw [hμ]
    show (if 100 = 100 then (if 5 = 5 then 400 + 10 * K else μ.2.1 100 5) else μ.2.1 100 5) = _
    rw [if_pos rfl, if_pos rfl]
  have rl : μ'.2.2 = μ.2.2 := by rw [hμ]; rfl
  have di : ∀ o k, ¬ (o = 600 ∧ (k = 11 ∨ k = 12)) → ν'.1 o k = ν.1 o k := fun o k z => by rw [hν, sI_of (by omega), sI_of (by omega)]
  have d12 : ν'.1 600 12 = Int32.ofNat K := by rw [hν, sI_of (by omega)]; exact sI_in
  have d11 : ν'.1 600 11 = Int32.ofNat (K + 1) := by rw [hν]; exact sI_in
  have r2 : ν'.2 = ν.2 := by rw [hν]; rfl
  have c18 : μ'.1 1 8 = Int32.ofNat (K + 1) := by rw [hμ]; exact sI_in
  have hPt : Pt μ' := fun o k z => by rw [ra o k (by omega)]; exact hp.P o k z
  have s1 : StC μ' 100 (S.wL A) := by
    refine StC.frL hp.1.1 h6 hPt (fun o k z y => ci o k ?_) ?_
    · unfold usC lwC at z; omega
    · rw [rb]
      exact hC.congr (fun o p1 p2 => funext (fun j => ci o j (by omega)))
  have lA : ∀ f (A : LawA), LawAtR ν f A → LawAtR ν' f A := fun f A q => by
    refine ⟨by rw [di 618 _ (by omega)]; exact q.1, q.2.congr (fun o p1 p2 => funext (fun j => di o j (by omega)))⟩
  have s2 : StR ν' (S.wL A) := by
    refine StR.frL hp.2.1 h6 (fun o k => by rw [r2]; exact hp.2.1.1 o k) (fun o k z y1 y2 => di o k ?_) ⟨hC.2.1, Or.inr ⟨K, hK6, d12, lA K A hR⟩⟩
    unfold usR at z; omega
  refine ⟨S.wL A, R1, R2, R3, ⟨⟨⟨s1, hg.1, fun B hB i hi => ?_, hp.ok, hp.1.2.2.2.2.1, hp.1.2.2.2.2.2.eqr (fun o k p1 p2 => ci o k (by omega))⟩, s2, hp.2.2⟩, ?_⟩, ⟨⟨hC2.eqr (fun o k p1 p2 => ci o k (by omega)), hC3.eqr (fun o k p1 p2 => ci o k (by omega))⟩, hR1.eq (di _ _ (by omega)) (fun k => di _ _ (by omega)) (fun k => di _ _ (by omega)), hR2.eq (di _ _ (by omega)) (fun k => di _ _ (by omega)) (fun k => di _ _ (by omega)), hR3.eq (di _ _ (by omega)) (fun k => di _ _ (by omega)) (fun k => di _ _ (by omega))⟩, hg, ?_, ?_, ⟨K + 1, by omega, c18, d11, ⟨?_, ?_⟩, ⟨?_, ?_⟩, fun k hk => ?_⟩, ?_, ?_, ?_⟩
  · rw [ci _ _ (by have := hB.ge; omega)]; exact hp.1.2.2.1 B hB i hi
  · rw [di _ _ (by omega)]; exact h30
  · exact o1.fr (fun o k z => ci o k (by unfold cK at z; omega)) (fun o k z => di o k (by unfold dK at z; omega))
  · refine o2.frL (fun o k z => ci o k ?_) (fun S h6 hs' => hs'.eqB h6 (fun o k z => ci o k ?_) (fun o k z => ra o k (by omega)) (ra 200 5 (by omega))) (fun o k z => di o k ?_) (fun f' A _ _ _ q => lA f' A q)
    · have := z.1
      unfold cI usC lwC at this
      omega
    · unfold usC lwC at z
      omega
    · have := z.1
      unfold dI at this
      omega
  · rw [rb]; exact Or.inr (Or.inr (Or.inr ⟨K, by omega, rfl⟩))
  · rw [d12]; exact Or.inr ⟨K, by omega, rfl⟩
  · rw [ra 200 5 (by omega)]
    rcases k6 with q | q | q | ⟨k, hk, q⟩
    · exact Or.inl q
    · exact Or.inr (Or.inl q)
    · exact Or.inr (Or.inr (Or.inl q))
    · exact Or.inr (Or.inr (Or.inr ⟨k, by omega, q⟩))
  · rw [di 600 50 (by omega)]
    rcases k7 with q | ⟨k, hk, q⟩
    · exact Or.inl q
    · exact Or.inr ⟨k, by omega, q⟩
  · by_cases e : k = K
    · rw [e]
      refine ⟨A.length, hC.2.1.1, by rw [di 618 K (by omega)]; exact hR.1, fun c p1 p2 p3 => ?_⟩
      rw [di 619 c (by omega)] at p3
      rw [di 621 c (by omega), di 622 c (by omega)]
      exact hs c p1 p2 p3
    · obtain ⟨n, n1, n2, n3⟩ := k8 k (by omega)
      refine ⟨n, n1, by rw [di 618 k (by omega)]; exact n2, fun c p1 p2 p3 => ?_⟩
      rw [di 619 c (by omega)] at p3
      rw [di 621 c (by omega), di 622 c (by omega)]
      exact n3 c p1 p2 p3
  · exact o4.fr (fun o k z => ci o k (by unfold cT at z; omega)) (fun o k z => di o k (by unfold dT at z; omega))
  · exact o5.fr (fun o k z => ci o k (by unfold cP at z; omega)) (fun o k z => di o k (by unfold dP at z; omega)) rl (by rw [r2])
  · exact o6.fr (fun o k z => ci o k (by unfold cA' at z; omega)) (fun o k z => di o k (by unfold dA at z; omega))
end FRM
