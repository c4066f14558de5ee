/-! ===== the whole relation of the two memories ===== -/
def cU (o k : Nat) : Int32 := x_U107.1 o k
def cV (o k : Nat) : Int32 := x_U108.1 o k
def BookOk (S : St) (R : Rw) : Prop := R.1 ≤ 8 ∧ ∀ r, r < R.1 → R.2.1 r < S.n ∧ -9999 ≤ R.2.2 r ∧ R.2.2 r ≤ 9999
def Good (S : St) (R1 R2 R3 : Rw) : Prop := Plain S ∧ Ok S ∧ S.day ≤ 9999 ∧ SeenOk R1 ∧ PlanOk S R2 ∧ BookOk S R3
def RowsR (ν : x_M) (R1 R2 R3 : Rw) : Prop := RowR ν 40 642 643 R1 ∧ RowR ν 43 646 647 R2 ∧ RowR ν 44 648 649 R3
def RowsC (μ : x_M) (R2 R3 : Rw) : Prop := RowC μ 119 R2 ∧ RowC μ 122 R3
def gK (μ ν : x_M) : Prop := (∀ o k, 801 ≤ o → μ.1 o k = cU o k) ∧ (∀ k, ν.1 628 k = cV 628 k) ∧ μ.1 116 2 = 4 ∧ μ.1 119 2 = 8 ∧ μ.1 122 2 = 8
def ImgC (μ : x_M) (S : St) (R1 R2 R3 : Rw) : Prop := StC μ 200 S ∧ RowC μ 216 R1 ∧ RowC μ 219 R2 ∧ RowC μ 222 R3
def ImgR (ν : x_M) (S : St) (R1 R2 R3 : Rw) : Prop :=
  (LawOk S.law ∧ ((ν.1 600 50 = -1 ∧ S.law = []) ∨ ∃ f, f < 6 ∧ ν.1 600 50 = Int32.ofNat f ∧ LawAtR ν f S.law)) ∧
  (ν.1 600 51 = Int32.ofNat S.n ∧ ν.1 600 52 = Int32.ofNat S.day ∧ ν.1 600 53 = Int32.ofNat S.wet ∧ ν.1 600 54 = Int32.ofNat S.town) ∧
  (∀ s, s < 6 → ν.1 659 s = Int32.ofNat (S.ar s)) ∧
  (∀ i, i < S.n → (ν.1 660 i = Int32.ofNat (S.kd i) ∧ ν.1 661 i = Int32.ofNat (S.v i) ∧ ν.1 664 i = Int32.ofNat (S.sn i)) ∧ (ν.1 662 i = Int32.ofInt (S.bk i) ∧ ν.1 663 i = Int32.ofInt (S.dl i)) ∧ ∀ d, d < 4 → ν.1 665 (4 * i + d) = Int32.ofNat (S.rw i d)) ∧
  (RowR ν 55 666 667 R1 ∧ RowR ν 56 668 669 R2 ∧ RowR ν 57 670 671 R3)
def gI (μ ν : x_M) : Prop := ∃ b : Bool, μ.1 1 7 = (if b then 1 else 0) ∧ ν.1 600 49 = (if b then 1 else 0) ∧ (b = true → ∃ S R1 R2 R3, ImgC μ S R1 R2 R3 ∧ ImgR ν S R1 R2 R3 ∧ Good S R1 R2 R3)
/-- a law's place: its own first one, or one that was read -/
def lwx (μ : x_M) (ν : x_M) (K B fld : Nat) : Prop := (μ.2.1 B 5 = 125 ∨ μ.2.1 B 5 = 225 ∨ μ.2.1 B 5 = 325 ∨ ∃ k, k < K ∧ μ.2.1 B 5 = 400 + 10 * k) ∧ (ν.1 600 fld = -1 ∨ ∃ k, k < K ∧ ν.1 600 fld = Int32.ofNat k)
def gL (μ ν : x_M) : Prop := ∃ K, K ≤ 6 ∧ μ.1 1 8 = Int32.ofNat K ∧ ν.1 600 11 = Int32.ofNat K ∧ lwx μ ν K 100 12 ∧ lwx μ ν K 200 50 ∧ ∀ k, k < K → ∃ n, n ≤ 10 ∧ ν.1 618 k = Int32.ofNat n ∧ ∀ c, 10 * k ≤ c → c < 10 * k + n → (ν.1 619 c = 0 ∨ ν.1 619 c = 1) → ∃ o e, ν.1 621 c = Int32.ofNat o ∧ ν.1 622 c = Int32.ofNat e ∧ 100 * k ≤ o ∧ o ≤ e ∧ e ≤ 100 * k + 100
def gT (μ ν : x_M) : Prop := ∃ L, L ≤ 100 ∧ μ.1 3 1 = Int32.ofNat L ∧ ν.1 600 13 = Int32.ofNat L ∧ ∀ j, j < L → ∃ c, c ≤ 127 ∧ μ.1 4 j = Int32.ofNat c ∧ ν.1 617 j = Int32.ofNat c
def gP (μ ν : x_M) : Prop := ∀ t, t < 6 → (∃ s : Int, ∃ n, (-1 ≤ s ∧ s ≤ 4) ∧ n ≤ 60 ∧ (s < 0 → n = 0) ∧ μ.1 (500 + 2 * t) 1 = Int32.ofInt s ∧ ν.1 674 t = Int32.ofInt s ∧ μ.1 (500 + 2 * t) 2 = Int32.ofNat n ∧ ν.1 675 t = Int32.ofNat n) ∧ ∀ j, j < 60 → μ.2.2 (501 + 2 * t) j = ν.2.2 676 (60 * t + j)
def gA (μ ν : x_M) : Prop := ∃ n, n ≤ 1000 ∧ μ.1 7 1 = Int32.ofNat n ∧ ν.1 600 71 = Int32.ofNat n ∧ ∀ j, j < n → j < 20 → μ.1 8 j = ν.1 673 j
def cK (o k : Nat) : Prop := 801 ≤ o ∨ ((o = 116 ∨ o = 119 ∨ o = 122) ∧ k = 2)
def dK (o _ : Nat) : Prop := o = 628
def cI (o k : Nat) : Prop := (o = 1 ∧ k = 7) ∨ usC 200 o k ∨ (216 ≤ o ∧ o ≤ 224)
def dI (o k : Nat) : Prop := (o = 600 ∧ 49 ≤ k ∧ k ≤ 57) ∨ (618 ≤ o ∧ o ≤ 623) ∨ (659 ≤ o ∧ o ≤ 671)
def cL (o k : Nat) : Prop := o = 1 ∧ k = 8
def dL (o k : Nat) : Prop := (o = 600 ∧ (k = 11 ∨ k = 12 ∨ k = 50)) ∨ (618 ≤ o ∧ o ≤ 622)
def cT (o k : Nat) : Prop := (o = 3 ∧ k = 1) ∨ o = 4
def dT (o k : Nat) : Prop := (o = 600 ∧ k = 13) ∨ o = 617
def cP (o _ : Nat) : Prop := 500 ≤ o ∧ o ≤ 511
def dP (o _ : Nat) : Prop := o = 674 ∨ o = 675
def cA' (o k : Nat) : Prop := (o = 7 ∧ k = 1) ∨ o = 8
def dA (o k : Nat) : Prop := (o = 600 ∧ k = 71) ∨ o = 673
/-- the same cells -/
def eqO (P : Nat → Nat → Prop) (a b : x_M) : Prop := ∀ o k, P o k → b.1 o k = a.1 o k
/-- the references but those of 300; the law of now may change where m -/
def eqR (a b : x_M) : Prop := ∀ o k, ¬ (o = 300 ∧ k = 5) → b.2.1 o k = a.2.1 o k
section REL
variable {μ ν μ' ν' : x_M}
theorem gK.fr (h : gK μ ν) (f : eqO cK μ μ') (g : eqO dK ν ν') : gK μ' ν' := by
  obtain ⟨h1, h2, h3, h4, h5⟩ := h
  refine ⟨fun o k ho => ?_, fun k => ?_, ?_, ?_, ?_⟩
  · rw [f o k (Or.inl ho)]; exact h1 o k ho
  · rw [g 628 k rfl]; exact h2 k
  · rw [f 116 2 (Or.inr ⟨Or.inl rfl, rfl⟩)]; exact h3
  · rw [f 119 2 (Or.inr ⟨Or.inr (Or.inl rfl), rfl⟩)]; exact h4
  · rw [f 122 2 (Or.inr ⟨Or.inr (Or.inr rfl), rfl⟩)]; exact h5
theorem RowC.eq {a b : x_M} {r : Nat} {Q : Rw} (h : RowC a r Q) (f : ∀ o k, r ≤ o → o ≤ r + 2 → (o = r → k = 3) → b.1 o k = a.1 o k) : RowC b r Q := by
  refine ⟨?_, fun j hj => ⟨?_, ?_⟩⟩
  · rw [f r 3 (by omega) (by omega) (by omega)]; exact h.1
  · rw [f (r + 1) j (by omega) (by omega) (by omega)]; exact (h.2 j hj).1
  · rw [f (r + 2) j (by omega) (by omega) (by omega)]; exact (h.2 j hj).2
theorem RowR.eq {a b : x_M} {kc w1 w2 : Nat} {Q : Rw} (h : RowR a kc w1 w2 Q) (f0 : b.1 600 kc = a.1 600 kc) (f1 : ∀ k, b.1 w1 k = a.1 w1 k) (f2 : ∀ k, b.1 w2 k = a.1 w2 k) : RowR b kc w1 w2 Q := by
  refine ⟨?_, fun j hj => ⟨?_, ?_⟩⟩
  · rw [f0]; exact h.1
  · rw [f1 j]; exact (h.2 j hj).1
  · rw [f2 j]; exact (h.2 j hj).2
theorem StC.eq {a b : x_M} {B : Nat} {S : St} (h : StC a B S) (h6 : S.n ≤ 6) (hB : B ≠ 300) (f : eqO (usC B) a b) (r : eqR a b) : StC b B S := by
  have hc : StC (b.1, a.2.1, a.2.2) B S := h.fr (P := fun o k => ¬ usC B o k) h6 ⟨rfl, fun o k z => f o k (Classical.byContradiction z)⟩ (fun o k z => z)
  obtain ⟨⟨c1, -⟩, c3, c4, c5, c6, c7, c8⟩ := hc
  refine ⟨⟨c1, fun o k z => ?_⟩, c3, c4, c5, ?_, c7, c8⟩
  · rw [r o k (fun w => z (by omega))]; exact h.1.2 o k z
  · rw [r B 5 (by omega)]
    exact LawC.congr (a := (b.1, a.2.1, a.2.2)) (fun _ _ _ => rfl) c6
theorem gI.fr (h : gI μ ν) (f : eqO cI μ μ') (r : eqR μ μ') (g : eqO dI ν ν') : gI μ' ν' := by
  obtain ⟨b, h1, h2, h3⟩ := h
  refine ⟨b, ?_, ?_, fun hb => ?_⟩
  · rw [f 1 7 (Or.inl ⟨rfl, rfl⟩)]; exact h1
  · rw [g 600 49 (Or.inl ⟨rfl, by decide, by decide⟩)]; exact h2
  · obtain ⟨S, R1, R2, R3, ⟨c1, c2, c3, c4⟩, ⟨⟨i0, i1⟩, ⟨i2, i3, i4, i5⟩, i6, i7, i8, i9, i10⟩, hg⟩ := h3 hb
    have h6 := hg.2.1.1.1.1
    have gg : ∀ k, 49 ≤ k → k ≤ 57 → ν'.1 600 k = ν.1 600 k := fun k p1 p2 => g 600 k (Or.inl ⟨rfl, p1, p2⟩)
    have ga : ∀ o, 659 ≤ o → o ≤ 671 → ∀ k, ν'.1 o k = ν.1 o k := fun o p1 p2 k => g o k (Or.inr (Or.inr ⟨p1, p2⟩))
    have gl : ∀ o, 618 ≤ o → o ≤ 623 → ν'.1 o = ν.1 o := fun o p1 p2 => funext (fun k => g o k (Or.inr (Or.inl ⟨p1, p2⟩)))
    refine ⟨S, R1, R2, R3, ⟨c1.eq h6 (by decide) (fun o k z => f o k (Or.inr (Or.inl z))) r, c2.eq (fun o k p1 p2 _ => f o k (Or.inr (Or.inr ⟨by omega, by omega⟩))), c3.eq (fun o k p1 p2 _ => f o k (Or.inr (Or.inr ⟨by omega, by omega⟩))), c4.eq (fun o k p1 p2 _ => f o k (Or.inr (Or.inr ⟨by omega, by omega⟩)))⟩, ⟨⟨i0, ?_⟩, ⟨?_, ?_, ?_, ?_⟩, fun s hs => ?_, fun i hi => ?_, ?_, ?_, ?_⟩, hg⟩
    · rw [gg 50 (by omega) (by omega)]
      rcases i1 with q | ⟨f', q1, q2, q3, q4⟩
      · exact Or.inl q
      · refine Or.inr ⟨f', q1, q2, ?_, q4.congr (fun o p1 p2 => gl o (by omega) p2)⟩
        rw [gl 618 (by omega) (by omega)]; exact q3
    · rw [gg 51 (by omega) (by omega)]; exact i2
    · rw [gg 52 (by omega) (by omega)]; exact i3
    · rw [gg 53 (by omega) (by omega)]; exact i4
    · rw [gg 54 (by omega) (by omega)]; exact i5
    · rw [ga 659 (by omega) (by omega)]; exact i6 s hs
    · obtain ⟨⟨j1, j2, j3⟩, ⟨j4, j5⟩, j6⟩ := i7 i hi
      refine ⟨⟨?_, ?_, ?_⟩, ⟨?_, ?_⟩, fun d hd => ?_⟩
      · rw [ga 660 (by omega) (by omega)]; exact j1
      · rw [ga 661 (by omega) (by omega)]; exact j2
      · rw [ga 664 (by omega) (by omega)]; exact j3
      · rw [ga 662 (by omega) (by omega)]; exact j4
      · rw [ga 663 (by omega) (by omega)]; exact j5
      · rw [ga 665 (by omega) (by omega)]; exact j6 d hd
    · exact i8.eq (gg 55 (by omega) (by omega)) (ga 666 (by omega) (by omega)) (ga 667 (by omega) (by omega))
    · exact i9.eq (gg 56 (by omega) (by omega)) (ga 668 (by omega) (by omega)) (ga 669 (by omega) (by omega))
    · exact i10.eq (gg 57 (by omega) (by omega)) (ga 670 (by omega) (by omega)) (ga 671 (by omega) (by omega))
theorem gL.fr (h : gL μ ν) (f : eqO cL μ μ') (r : eqR μ μ') (g : eqO dL ν ν') : gL μ' ν' := by
  obtain ⟨K, h1, h2, h3, ⟨h4, h5⟩, ⟨h6, h7⟩, h8⟩ := h
  have gl : ∀ o, 618 ≤ o → o ≤ 622 → ∀ k, ν'.1 o k = ν.1 o k := fun o p1 p2 k => g o k (Or.inr ⟨p1, p2⟩)
  refine ⟨K, h1, ?_, ?_, ⟨?_, ?_⟩, ⟨?_, ?_⟩, fun k hk => ?_⟩
  · rw [f 1 8 ⟨rfl, rfl⟩]; exact h2
  · rw [g 600 11 (Or.inl ⟨rfl, by omega⟩)]; exact h3
  · rw [r 100 5 (by omega)]; exact h4
  · rw [g 600 12 (Or.inl ⟨rfl, by omega⟩)]; exact h5
  · rw [r 200 5 (by omega)]; exact h6
  · rw [g 600 50 (Or.inl ⟨rfl, by omega⟩)]; exact h7
  · obtain ⟨n, n1, n2, n3⟩ := h8 k hk
    refine ⟨n, n1, by rw [gl 618 (by omega) (by omega)]; exact n2, fun c c1 c2 c3 => ?_⟩
    rw [gl 619 (by omega) (by omega)] at c3
    rw [gl 621 (by omega) (by omega), gl 622 (by omega) (by omega)]
    exact n3 c c1 c2 c3
theorem gT.fr (h : gT μ ν) (f : eqO cT μ μ') (g : eqO dT ν ν') : gT μ' ν' := by
  obtain ⟨L, h1, h2, h3, h4⟩ := h
  refine ⟨L, h1, ?_, ?_, fun j hj => ?_⟩
  · rw [f 3 1 (Or.inl ⟨rfl, rfl⟩)]; exact h2
  · rw [g 600 13 (Or.inl ⟨rfl, rfl⟩)]; exact h3
  · obtain ⟨c, c1, c2, c3⟩ := h4 j hj
    exact ⟨c, c1, by rw [f 4 j (Or.inr rfl)]; exact c2, by rw [g 617 j (Or.inr rfl)]; exact c3⟩
theorem gP.fr (h : gP μ ν) (f : eqO cP μ μ') (g : eqO dP ν ν') (l1 : μ'.2.2 = μ.2.2) (l2 : ν'.2.2 = ν.2.2) : gP μ' ν' := by
  intro t ht
  obtain ⟨⟨s, n, q1, q2, q3, q4, q5, q6, q7⟩, q8⟩ := h t ht
  refine ⟨⟨s, n, q1, q2, q3, ?_, ?_, ?_, ?_⟩, fun j hj => ?_⟩
  · rw [f _ 1 (by unfold cP; omega)]; exact q4
  · rw [g 674 t (Or.inl rfl)]; exact q5
  · rw [f _ 2 (by unfold cP; omega)]; exact q6
  · rw [g 675 t (Or.inr rfl)]; exact q7
  · rw [l1, l2]; exact q8 j hj
theorem gA.fr (h : gA μ ν) (f : eqO cA' μ μ') (g : eqO dA ν ν') : gA μ' ν' := by
  obtain ⟨n, h1, h2, h3, h4⟩ := h
  refine ⟨n, h1, ?_, ?_, fun j j1 j2 => ?_⟩
  · rw [f 7 1 (Or.inl ⟨rfl, rfl⟩)]; exact h2
  · rw [g 600 71 (Or.inl ⟨rfl, rfl⟩)]; exact h3
  · rw [f 8 j (Or.inr rfl), g 673 j (Or.inr rfl)]; exact h4 j j1 j2
def Oth (μ ν : x_M) : Prop := gK μ ν ∧ gI μ ν ∧ gL μ ν ∧ gT μ ν ∧ gP μ ν ∧ gA μ ν
def Rel (μ ν : x_M) : Prop := ∃ S R1 R2 R3, (Pair μ ν S R1 ∧ ν.1 600 30 = -1) ∧ (RowsC μ R2 R3 ∧ RowsR ν R1 R2 R3) ∧ Good S R1 R2 R3 ∧ Oth μ ν
/-- other cells: what a change of the state of now doesn't touch -/
def cO (o k : Nat) : Prop := cK o k ∨ cI o k ∨ cL o k ∨ cT o k ∨ cP o k ∨ cA' o k
def dO (o k : Nat) : Prop := dK o k ∨ dI o k ∨ dL o k ∨ dT o k ∨ dP o k ∨ dA o k
theorem Oth.fr (h : Oth μ ν) (f : eqO cO μ μ') (r : eqR μ μ') (l1 : μ'.2.2 = μ.2.2) (g : eqO dO ν ν') (l2 : ν'.2.2 = ν.2.2) : Oth μ' ν' :=
  ⟨h.1.fr (fun o k z => f o k (Or.inl z)) (fun o k z => g o k (Or.inl z)),
   h.2.1.fr (fun o k z => f o k (Or.inr (Or.inl z))) r (fun o k z => g o k (Or.inr (Or.inl z))),
   h.2.2.1.fr (fun o k z => f o k (Or.inr (Or.inr (Or.inl z)))) r (fun o k z => g o k (Or.inr (Or.inr (Or.inl z)))),
   h.2.2.2.1.fr (fun o k z => f o k (Or.inr (Or.inr (Or.inr (Or.inl z))))) (fun o k z => g o k (Or.inr (Or.inr (Or.inr (Or.inl z))))),
   h.2.2.2.2.1.fr (fun o k z => f o k (Or.inr (Or.inr (Or.inr (Or.inr (Or.inl z)))))) (fun o k z => g o k (Or.inr (Or.inr (Or.inr (Or.inr (Or.inl z)))))) l1 l2,
   h.2.2.2.2.2.fr (fun o k z => f o k (Or.inr (Or.inr (Or.inr (Or.inr (Or.inr z)))))) (fun o k z => g o k (Or.inr (Or.inr (Or.inr (Or.inr (Or.inr z))))))⟩
theorem Pair.ask {S : St} {R : Rw} (h : Pair μ ν S R) (f : frA askC μ μ') (g : frC askR ν ν') : Pair μ' ν' S R := ⟨h.1.ask f, h.2.1.ask h.n6 g, h.2.2⟩
theorem Rel.ask (h : Rel μ ν) (f : frA askC μ μ') (g : frC askR ν ν') : Rel μ' ν' := by
  obtain ⟨S, R1, R2, R3, ⟨h1, h2⟩, ⟨⟨c2, c3⟩, d1, d2, d3⟩, hg, ho⟩ := h
  refine ⟨S, R1, R2, R3, ⟨h1.ask f g, ?_⟩, ⟨⟨c2.ask f (by omega), c3.ask f (by omega)⟩, d1.ask g (by omega) (by omega) (by omega), d2.ask g (by omega) (by omega) (by omega), d3.ask g (by omega) (by omega) (by omega)⟩, hg, ?_⟩
  · rw [g.2 600 30 (by unfold askR d2R scR kpR; omega)]; exact h2
  · refine ho.fr (fun o k z => f.2 o k (fun w => ?_)) f.1.2 f.1.1 (fun o k z => g.2 o k (fun w => ?_)) (by rw [g.1])
    · unfold cO cK cI cL cT cP cA' usC lwC at z
      unfold askC scC at w
      omega
    · unfold dO dK dI dL dT dP dA at z
      unfold askR d2R scR kpR at w
      omega
/-- both answer alike and stay in the relation -/
def SameR {α : Type} (o1 o2 : Option (α × x_M)) : Prop := ∃ r μ' ν', o1 = some (r, μ') ∧ o2 = some (r, ν') ∧ Rel μ' ν'
theorem Same.R {α : Type} {o1 o2 : Option (α × x_M)} (h : Rel μ ν) (s : Same o1 o2 μ ν) : SameR o1 o2 := by
  obtain ⟨r, μ', ν', e1, e2, f, g⟩ := s
  exact ⟨r, μ', ν', e1, e2, h.ask f g⟩
/-- a change of the state of now -/
def nwC (o k : Nat) : Prop := askC o k ∨ (usC 100 o k ∧ ¬ lwC o) ∨ (104 ≤ o ∧ o ≤ 109) ∨ ((116 ≤ o ∧ o ≤ 124) ∧ ¬ ((o = 116 ∨ o = 119 ∨ o = 122) ∧ k = 2))
def nwR (o k : Nat) : Prop := askR o k ∨ (605 ≤ o ∧ o ≤ 611) ∨ (o = 600 ∧ (k ≤ 3 ∨ (30 ≤ k ∧ k ≤ 32) ∨ k = 40 ∨ k = 43 ∨ k = 44)) ∨ (642 ≤ o ∧ o ≤ 649)
theorem Oth.now (h : Oth μ ν) (f : frA nwC μ μ') (g : frC nwR ν ν') : Oth μ' ν' := by
  refine h.fr (fun o k z => f.2 o k (fun w => ?_)) f.1.2 f.1.1 (fun o k z => g.2 o k (fun w => ?_)) (by rw [g.1])
  · unfold cO cK cI cL cT cP cA' usC lwC at z
    unfold nwC askC scC usC lwC at w
    omega
  · unfold dO dK dI dL dT dP dA at z
    unfold nwR askR d2R scR kpR at w
    omega
end REL
