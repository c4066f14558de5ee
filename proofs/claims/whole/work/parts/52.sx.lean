/-! ===== for simp: reading, frames, the ids of the reference ===== -/
theorem RK : x_kdR 600 = 11 ∧ x_kdR 605 = 20 ∧ x_kdR 606 = 20 ∧ x_kdR 607 = 20 ∧ x_kdR 608 = 20 ∧ x_kdR 609 = 20 ∧ x_kdR 610 = 20 ∧ x_kdR 611 = 20 ∧ x_kdR 617 = 20 ∧ x_kdR 618 = 20 ∧ x_kdR 619 = 20 ∧ x_kdR 620 = 20 ∧ x_kdR 621 = 20 ∧ x_kdR 622 = 20 ∧ x_kdR 623 = 20 ∧ x_kdR 624 = 20 ∧ x_kdR 628 = 20 ∧ x_kdR 629 = 22 ∧ x_kdR 634 = 20 ∧ x_kdR 635 = 20 ∧ x_kdR 639 = 20 ∧ x_kdR 640 = 20 ∧ x_kdR 642 = 20 ∧ x_kdR 643 = 20 ∧ x_kdR 646 = 20 ∧ x_kdR 647 = 20 ∧ x_kdR 648 = 20 ∧ x_kdR 649 = 20 ∧ x_kdR 659 = 20 ∧ x_kdR 660 = 20 ∧ x_kdR 661 = 20 ∧ x_kdR 662 = 20 ∧ x_kdR 663 = 20 ∧ x_kdR 664 = 20 ∧ x_kdR 665 = 20 ∧ x_kdR 666 = 20 ∧ x_kdR 667 = 20 ∧ x_kdR 668 = 20 ∧ x_kdR 669 = 20 ∧ x_kdR 670 = 20 ∧ x_kdR 671 = 20 ∧ x_kdR 673 = 20 ∧ x_kdR 674 = 20 ∧ x_kdR 675 = 20 ∧ x_kdR 676 = 21 ∧ x_kdR 677 = 21 := by decide +kernel
theorem RN : x_lnA 605 = 6 ∧ x_lnA 606 = 6 ∧ x_lnA 607 = 6 ∧ x_lnA 608 = 6 ∧ x_lnA 609 = 6 ∧ x_lnA 610 = 6 ∧ x_lnA 611 = 24 ∧ x_lnA 617 = 100 ∧ x_lnA 618 = 6 ∧ x_lnA 619 = 60 ∧ x_lnA 620 = 60 ∧ x_lnA 621 = 60 ∧ x_lnA 622 = 60 ∧ x_lnA 623 = 600 ∧ x_lnA 624 = 101 ∧ x_lnA 628 = 22 ∧ x_lnA 629 = 100 ∧ x_lnA 634 = 6 ∧ x_lnA 635 = 6 ∧ x_lnA 639 = 6 ∧ x_lnA 640 = 6 ∧ x_lnA 642 = 4 ∧ x_lnA 643 = 4 ∧ x_lnA 646 = 8 ∧ x_lnA 647 = 8 ∧ x_lnA 648 = 8 ∧ x_lnA 649 = 8 ∧ x_lnA 659 = 6 ∧ x_lnA 660 = 6 ∧ x_lnA 661 = 6 ∧ x_lnA 662 = 6 ∧ x_lnA 663 = 6 ∧ x_lnA 664 = 6 ∧ x_lnA 665 = 24 ∧ x_lnA 666 = 4 ∧ x_lnA 667 = 4 ∧ x_lnA 668 = 8 ∧ x_lnA 669 = 8 ∧ x_lnA 670 = 8 ∧ x_lnA 671 = 8 ∧ x_lnA 673 = 20 ∧ x_lnA 674 = 6 ∧ x_lnA 675 = 6 ∧ x_lnA 676 = 360 ∧ x_lnA 677 = 60 := by decide +kernel
theorem RP0 : rf108 600 4 = 605 ∧ rf108 600 5 = 606 ∧ rf108 600 6 = 607 ∧ rf108 600 7 = 608 ∧ rf108 600 8 = 609 ∧ rf108 600 9 = 610 ∧ rf108 600 10 = 611 ∧ rf108 600 16 = 617 ∧ rf108 600 17 = 618 ∧ rf108 600 18 = 619 ∧ rf108 600 19 = 620 ∧ rf108 600 20 = 621 ∧ rf108 600 21 = 622 ∧ rf108 600 22 = 623 ∧ rf108 600 23 = 624 ∧ rf108 600 27 = 628 ∧ rf108 600 28 = 629 ∧ rf108 600 33 = 634 ∧ rf108 600 34 = 635 ∧ rf108 600 38 = 639 ∧ rf108 600 39 = 640 ∧ rf108 600 41 = 642 ∧ rf108 600 42 = 643 ∧ rf108 600 45 = 646 ∧ rf108 600 46 = 647 ∧ rf108 600 47 = 648 ∧ rf108 600 48 = 649 ∧ rf108 600 58 = 659 ∧ rf108 600 59 = 660 ∧ rf108 600 60 = 661 ∧ rf108 600 61 = 662 ∧ rf108 600 62 = 663 ∧ rf108 600 63 = 664 ∧ rf108 600 64 = 665 ∧ rf108 600 65 = 666 ∧ rf108 600 66 = 667 ∧ rf108 600 67 = 668 ∧ rf108 600 68 = 669 ∧ rf108 600 69 = 670 ∧ rf108 600 70 = 671 ∧ rf108 600 72 = 673 ∧ rf108 600 73 = 674 ∧ rf108 600 74 = 675 ∧ rf108 600 75 = 676 ∧ rf108 600 76 = 677 := by decide +kernel
theorem RP {μ : x_M} (h : Pr μ) : μ.2.1 600 4 = 605 ∧ μ.2.1 600 5 = 606 ∧ μ.2.1 600 6 = 607 ∧ μ.2.1 600 7 = 608 ∧ μ.2.1 600 8 = 609 ∧ μ.2.1 600 9 = 610 ∧ μ.2.1 600 10 = 611 ∧ μ.2.1 600 16 = 617 ∧ μ.2.1 600 17 = 618 ∧ μ.2.1 600 18 = 619 ∧ μ.2.1 600 19 = 620 ∧ μ.2.1 600 20 = 621 ∧ μ.2.1 600 21 = 622 ∧ μ.2.1 600 22 = 623 ∧ μ.2.1 600 23 = 624 ∧ μ.2.1 600 27 = 628 ∧ μ.2.1 600 28 = 629 ∧ μ.2.1 600 33 = 634 ∧ μ.2.1 600 34 = 635 ∧ μ.2.1 600 38 = 639 ∧ μ.2.1 600 39 = 640 ∧ μ.2.1 600 41 = 642 ∧ μ.2.1 600 42 = 643 ∧ μ.2.1 600 45 = 646 ∧ μ.2.1 600 46 = 647 ∧ μ.2.1 600 47 = 648 ∧ μ.2.1 600 48 = 649 ∧ μ.2.1 600 58 = 659 ∧ μ.2.1 600 59 = 660 ∧ μ.2.1 600 60 = 661 ∧ μ.2.1 600 61 = 662 ∧ μ.2.1 600 62 = 663 ∧ μ.2.1 600 63 = 664 ∧ μ.2.1 600 64 = 665 ∧ μ.2.1 600 65 = 666 ∧ μ.2.1 600 66 = 667 ∧ μ.2.1 600 67 = 668 ∧ μ.2.1 600 68 = 669 ∧ μ.2.1 600 69 = 670 ∧ μ.2.1 600 70 = 671 ∧ μ.2.1 600 72 = 673 ∧ μ.2.1 600 73 = 674 ∧ μ.2.1 600 74 = 675 ∧ μ.2.1 600 75 = 676 ∧ μ.2.1 600 76 = 677 := by
  simp only [h 600, RP0, and_self]
theorem leN (c : Int32) (k : Nat) {j : Nat} (hc : c = Int32.ofNat k) (hj : j < 2 ^ 31) (hk : k < 2 ^ 31) : Int32.ofNat j ≤ c ↔ j ≤ k := by rw [hc]; exact iN_le hj hk
theorem geN (c : Int32) (k : Nat) {j : Nat} (hc : c = Int32.ofNat k) (hk : k < 2 ^ 31) (hj : j < 2 ^ 31) : c ≤ Int32.ofNat j ↔ k ≤ j := by rw [hc]; exact iN_le hk hj
theorem ltN (c : Int32) (k : Nat) {j : Nat} (hc : c = Int32.ofNat k) (hj : j < 2 ^ 31) (hk : k < 2 ^ 31) : Int32.ofNat j < c ↔ j < k := by rw [hc]; exact iN_lt hj hk
theorem gtN (c : Int32) (k : Nat) {j : Nat} (hc : c = Int32.ofNat k) (hk : k < 2 ^ 31) (hj : j < 2 ^ 31) : c < Int32.ofNat j ↔ k < j := by rw [hc]; exact iN_lt hk hj
theorem eqN (c : Int32) (k : Nat) {j : Nat} (hc : c = Int32.ofNat k) (hj : j < 2 ^ 31) (hk : k < 2 ^ 31) : Int32.ofNat j = c ↔ j = k := by rw [hc]; exact iN_inj hj hk
theorem leI (c : Int32) (k : Int) {j : Int} (hc : c = Int32.ofInt k) (hj : -2147483648 ≤ j ∧ j < 2147483648) (hk : -2147483648 ≤ k ∧ k < 2147483648) : Int32.ofInt j ≤ c ↔ j ≤ k := by rw [hc]; exact iI_le hj hk
theorem geI (c : Int32) (k : Int) {j : Int} (hc : c = Int32.ofInt k) (hk : -2147483648 ≤ k ∧ k < 2147483648) (hj : -2147483648 ≤ j ∧ j < 2147483648) : c ≤ Int32.ofInt j ↔ k ≤ j := by rw [hc]; exact iI_le hk hj
theorem ltI (c : Int32) (k : Int) {j : Int} (hc : c = Int32.ofInt k) (hj : -2147483648 ≤ j ∧ j < 2147483648) (hk : -2147483648 ≤ k ∧ k < 2147483648) : Int32.ofInt j < c ↔ j < k := by rw [hc]; exact iI_lt hj hk
theorem gtI (c : Int32) (k : Int) {j : Int} (hc : c = Int32.ofInt k) (hk : -2147483648 ≤ k ∧ k < 2147483648) (hj : -2147483648 ≤ j ∧ j < 2147483648) : c < Int32.ofInt j ↔ k < j := by rw [hc]; exact iI_lt hk hj
theorem iE0 : ¬ (-1 : Int32) = (0 : Int32) ∧ ¬ (-1 : Int32) = (1 : Int32) ∧ ¬ (-1 : Int32) = (2 : Int32) ∧ ¬ (-1 : Int32) = (3 : Int32) ∧ ¬ (-1 : Int32) = (4 : Int32) ∧ ¬ (-1 : Int32) = (5 : Int32) ∧ ¬ (-1 : Int32) = (6 : Int32) ∧ ¬ (0 : Int32) = (-1 : Int32) ∧ ¬ (0 : Int32) = (1 : Int32) ∧ ¬ (0 : Int32) = (2 : Int32) ∧ ¬ (0 : Int32) = (3 : Int32) ∧ ¬ (0 : Int32) = (4 : Int32) ∧ ¬ (0 : Int32) = (5 : Int32) ∧ ¬ (0 : Int32) = (6 : Int32) ∧ ¬ (1 : Int32) = (-1 : Int32) := by decide
theorem iE1 : ¬ (1 : Int32) = (0 : Int32) ∧ ¬ (1 : Int32) = (2 : Int32) ∧ ¬ (1 : Int32) = (3 : Int32) ∧ ¬ (1 : Int32) = (4 : Int32) ∧ ¬ (1 : Int32) = (5 : Int32) ∧ ¬ (1 : Int32) = (6 : Int32) ∧ ¬ (2 : Int32) = (-1 : Int32) ∧ ¬ (2 : Int32) = (0 : Int32) ∧ ¬ (2 : Int32) = (1 : Int32) ∧ ¬ (2 : Int32) = (3 : Int32) ∧ ¬ (2 : Int32) = (4 : Int32) ∧ ¬ (2 : Int32) = (5 : Int32) ∧ ¬ (2 : Int32) = (6 : Int32) ∧ ¬ (3 : Int32) = (-1 : Int32) ∧ ¬ (3 : Int32) = (0 : Int32) := by decide
theorem iE2 : ¬ (3 : Int32) = (1 : Int32) ∧ ¬ (3 : Int32) = (2 : Int32) ∧ ¬ (3 : Int32) = (4 : Int32) ∧ ¬ (3 : Int32) = (5 : Int32) ∧ ¬ (3 : Int32) = (6 : Int32) ∧ ¬ (4 : Int32) = (-1 : Int32) ∧ ¬ (4 : Int32) = (0 : Int32) ∧ ¬ (4 : Int32) = (1 : Int32) ∧ ¬ (4 : Int32) = (2 : Int32) ∧ ¬ (4 : Int32) = (3 : Int32) ∧ ¬ (4 : Int32) = (5 : Int32) ∧ ¬ (4 : Int32) = (6 : Int32) ∧ ¬ (5 : Int32) = (-1 : Int32) ∧ ¬ (5 : Int32) = (0 : Int32) ∧ ¬ (5 : Int32) = (1 : Int32) := by decide
theorem iE3 : ¬ (5 : Int32) = (2 : Int32) ∧ ¬ (5 : Int32) = (3 : Int32) ∧ ¬ (5 : Int32) = (4 : Int32) ∧ ¬ (5 : Int32) = (6 : Int32) ∧ ¬ (6 : Int32) = (-1 : Int32) ∧ ¬ (6 : Int32) = (0 : Int32) ∧ ¬ (6 : Int32) = (1 : Int32) ∧ ¬ (6 : Int32) = (2 : Int32) ∧ ¬ (6 : Int32) = (3 : Int32) ∧ ¬ (6 : Int32) = (4 : Int32) ∧ ¬ (6 : Int32) = (5 : Int32) ∧ ¬ (10 : Int32) = (0 : Int32) ∧ ¬ (100 : Int32) = (0 : Int32) ∧ ¬ (300 : Int32) = (0 : Int32) ∧ ¬ (1000 : Int32) = (0 : Int32) := by decide
theorem iE : (¬ (-1 : Int32) = (0 : Int32) ∧ ¬ (-1 : Int32) = (1 : Int32) ∧ ¬ (-1 : Int32) = (2 : Int32) ∧ ¬ (-1 : Int32) = (3 : Int32) ∧ ¬ (-1 : Int32) = (4 : Int32) ∧ ¬ (-1 : Int32) = (5 : Int32) ∧ ¬ (-1 : Int32) = (6 : Int32) ∧ ¬ (0 : Int32) = (-1 : Int32) ∧ ¬ (0 : Int32) = (1 : Int32) ∧ ¬ (0 : Int32) = (2 : Int32) ∧ ¬ (0 : Int32) = (3 : Int32) ∧ ¬ (0 : Int32) = (4 : Int32) ∧ ¬ (0 : Int32) = (5 : Int32) ∧ ¬ (0 : Int32) = (6 : Int32) ∧ ¬ (1 : Int32) = (-1 : Int32)) ∧ (¬ (1 : Int32) = (0 : Int32) ∧ ¬ (1 : Int32) = (2 : Int32) ∧ ¬ (1 : Int32) = (3 : Int32) ∧ ¬ (1 : Int32) = (4 : Int32) ∧ ¬ (1 : Int32) = (5 : Int32) ∧ ¬ (1 : Int32) = (6 : Int32) ∧ ¬ (2 : Int32) = (-1 : Int32) ∧ ¬ (2 : Int32) = (0 : Int32) ∧ ¬ (2 : Int32) = (1 : Int32) ∧ ¬ (2 : Int32) = (3 : Int32) ∧ ¬ (2 : Int32) = (4 : Int32) ∧ ¬ (2 : Int32) = (5 : Int32) ∧ ¬ (2 : Int32) = (6 : Int32) ∧ ¬ (3 : Int32) = (-1 : Int32) ∧ ¬ (3 : Int32) = (0 : Int32)) ∧ (¬ (3 : Int32) = (1 : Int32) ∧ ¬ (3 : Int32) = (2 : Int32) ∧ ¬ (3 : Int32) = (4 : Int32) ∧ ¬ (3 : Int32) = (5 : Int32) ∧ ¬ (3 : Int32) = (6 : Int32) ∧ ¬ (4 : Int32) = (-1 : Int32) ∧ ¬ (4 : Int32) = (0 : Int32) ∧ ¬ (4 : Int32) = (1 : Int32) ∧ ¬ (4 : Int32) = (2 : Int32) ∧ ¬ (4 : Int32) = (3 : Int32) ∧ ¬ (4 : Int32) = (5 : Int32) ∧ ¬ (4 : Int32) = (6 : Int32) ∧ ¬ (5 : Int32) = (-1 : Int32) ∧ ¬ (5 : Int32) = (0 : Int32) ∧ ¬ (5 : Int32) = (1 : Int32)) ∧ (¬ (5 : Int32) = (2 : Int32) ∧ ¬ (5 : Int32) = (3 : Int32) ∧ ¬ (5 : Int32) = (4 : Int32) ∧ ¬ (5 : Int32) = (6 : Int32) ∧ ¬ (6 : Int32) = (-1 : Int32) ∧ ¬ (6 : Int32) = (0 : Int32) ∧ ¬ (6 : Int32) = (1 : Int32) ∧ ¬ (6 : Int32) = (2 : Int32) ∧ ¬ (6 : Int32) = (3 : Int32) ∧ ¬ (6 : Int32) = (4 : Int32) ∧ ¬ (6 : Int32) = (5 : Int32) ∧ ¬ (10 : Int32) = (0 : Int32) ∧ ¬ (100 : Int32) = (0 : Int32) ∧ ¬ (300 : Int32) = (0 : Int32) ∧ ¬ (1000 : Int32) = (0 : Int32)) := ⟨iE0, iE1, iE2, iE3⟩
/-- the same as lt_v, bd_s .., but not as a matter of definition: a rewriting by definition makes the kernel unfold loops -/
theorem ltE {β γ : Type} {v : β} {k : β → γ} : lt v k = k v := by
  show k v = k v
  exact of_eq_true (eq_self _)
theorem bdE {β γ τ : Type} {a : β} {μ : τ} {k : β → τ → Option γ} : bd (some (a, μ)) k = k a μ := by
  show k a μ = k a μ
  exact of_eq_true (eq_self _)
theorem swE {β : Type} {v x : Int32} {vs : List Int32} {k d : β} {ks : List β} : x_swo (v :: vs) (k :: ks) d x = if x = v then k else x_swo vs ks d x := by
  show (if x = v then k else x_swo vs ks d x) = (if x = v then k else x_swo vs ks d x)
  exact of_eq_true (eq_self _)
theorem ckE {β : Type} {c : Prop} [Decidable c] {k : Option β} : ck c k = if c then k else none := by
  show (if c then k else none) = (if c then k else none)
  exact of_eq_true (eq_self _)
theorem ckT {β : Type} {i : Decidable True} {k : Option β} : @ck β True i k = k := if_pos trivial
theorem ck_ite {β : Type} {c : Prop} [Decidable c] {k : Option β} : ck c k = if c then k else none := rfl
theorem ixT {i : Int32} {N : Nat} (h : x_ix i N) : x_ix i N = True := eq_true h
theorem sI_rd {μ : x_M} {o k p j : Nat} {v : Int32} : (x_sI μ o k v).1 p j = if p = o then (if j = k then v else μ.1 p j) else μ.1 p j := rfl
theorem sI_2 {μ : x_M} {o k : Nat} {v : Int32} : (x_sI μ o k v).2 = μ.2 := rfl
/-- frames by cells -/
def frC (P : Nat → Nat → Prop) (a b : x_M) : Prop := b.2 = a.2 ∧ ∀ o k, ¬ P o k → b.1 o k = a.1 o k
theorem frC.rf {P : Nat → Nat → Prop} {a : x_M} : frC P a a := ⟨rfl, fun _ _ _ => rfl⟩
theorem frC.tr {P : Nat → Nat → Prop} {a b c : x_M} (h : frC P a b) (g : frC P b c) : frC P a c := ⟨g.1.trans h.1, fun o k ho => (g.2 o k ho).trans (h.2 o k ho)⟩
theorem frC.up {P Q : Nat → Nat → Prop} {a b : x_M} (h : frC P a b) (hPQ : ∀ o k, P o k → Q o k) : frC Q a b := ⟨h.1, fun o k ho => h.2 o k (fun z => ho (hPQ o k z))⟩
theorem frC.sI {P : Nat → Nat → Prop} {a : x_M} {o k : Nat} {v : Int32} (h : P o k) : frC P a (x_sI a o k v) := by
  refine ⟨rfl, fun p j hq => ?_⟩
  rw [sI_rd]
  by_cases e : p = o
  · rw [if_pos e]
    by_cases f : j = k
    · exact absurd (by rw [e, f]; exact h) hq
    · rw [if_neg f]
  · rw [if_neg e]
theorem frC.ofI {P : Nat → Prop} {Q : Nat → Nat → Prop} {a b : x_M} (h : frI P a b) (hPQ : ∀ o k, P o → Q o k) : frC Q a b := ⟨h.1, fun o k ho => congrFun (h.2 o (fun z => ho (hPQ o k z))) k⟩
theorem frC.Pr {P : Nat → Nat → Prop} {a b : x_M} (h : frC P a b) (g : Pr a) : Pr b := fun o k => by rw [h.1]; exact g o k
section FACTR
variable {ad : Nat → Nat} {D : va_G} {cA : Nat → ClassId} {μ : x_M}
theorem r_fact {S : St} {lv : Nat} {av : Int32} {who : Option Nat} (hP : Pr μ) (hd : μ.1 600 1 = Int32.ofNat S.day) (hdb : S.day < 2 ^ 31) (hlv : μ.1 600 29 = Int32.ofNat lv) (h6 : S.n ≤ 6) (ha : ∀ i, who = some i → av = Int32.ofNat i ∧ i < S.n ∧ AccR μ i S) (hb : ∀ i, who = some i → -9999 ≤ S.bk i ∧ S.bk i ≤ 9999) (hn : who = none → av < 0) {f : Nat} (hf : f < 6) : f_X10_factOf (XR ad D cA) 600 (Int32.ofNat f) av μ = some (Int32.ofInt (S.fact lv who f), μ) := by
  unfold f_X10_factOf
  have d10 : (Int32.ofNat S.day) / (10 : Int32) = Int32.ofNat (S.day / 10) := iN_div (b := 10) hdb (by decide)
  have m10 : Int32.ofNat S.day - Int32.ofNat S.day / (10 : Int32) * (10 : Int32) = Int32.ofNat (S.day % 10) := iN_rem (b := 10) hdb (by decide)
  match f, hf with
  | 0, _ =>
    simp only [↓ckE, ↓ltE, ↓swE, sw_n, ↓reduceIte, kR, RK, RP hP, Nat.reduceAdd, Int32.reduceOfNat, iE, eq_self, not_false_eq_true, hd, m10]
    rw [iN_I]; rfl
  | 1, _ =>
    simp only [↓ckE, ↓ltE, ↓swE, sw_n, ↓reduceIte, kR, RK, RP hP, Nat.reduceAdd, Int32.reduceOfNat, iE, eq_self, not_false_eq_true, hd, d10]
    by_cases q : S.day / 10 ≤ 99
    · rw [if_pos ((leN 99 99 rfl (by omega) (by decide)).mpr q), iN_I]
      show _ = some (Int32.ofInt ((min (S.day / 10) 99 : Nat) : Int), μ)
      rw [Nat.min_eq_left q]
    · rw [if_neg (fun z => q ((leN 99 99 rfl (by omega) (by decide)).mp z))]
      show _ = some (Int32.ofInt ((min (S.day / 10) 99 : Nat) : Int), μ)
      rw [Nat.min_eq_right (by omega)]; rfl
  | 2, _ =>
    simp only [↓ckE, ↓ltE, ↓swE, sw_n, ↓reduceIte, kR, RK, RP hP, Nat.reduceAdd, Int32.reduceOfNat, iE, eq_self, not_false_eq_true, hlv]
    rw [iN_I]; rfl
  | 3, _ =>
    simp only [↓ckE, ↓ltE, ↓swE, sw_n, ↓reduceIte, kR, RK, RP hP, Nat.reduceAdd, Int32.reduceOfNat, iE, eq_self, not_false_eq_true]
    cases who with
    | none => rw [if_neg (fun z => absurd (hn rfl) (by rw [Int32.not_lt]; exact z))]; rfl
    | some i =>
      obtain ⟨rfl, hi, -⟩ := ha i rfl
      rw [if_pos ((geN 0 0 rfl (by decide) (by omega)).mpr (Nat.zero_le _)), iN_I]; rfl
  | 4, _ =>
    cases who with
    | none =>
      have h0 : ¬ (0 : Int32) ≤ av := fun z => absurd (hn rfl) (by rw [Int32.not_lt]; exact z)
      simp only [↓ckE, ↓ltE, ↓swE, sw_n, ↓reduceIte, kR, RK, RP hP, Nat.reduceAdd, Int32.reduceOfNat, iE, eq_self, not_false_eq_true, h0]
      rfl
    | some i =>
      obtain ⟨rfl, hi, ⟨a1, a2, a3⟩, -⟩ := ha i rfl
      have h0 : (0 : Int32) ≤ Int32.ofNat i := (geN 0 0 rfl (by decide) (by omega)).mpr (Nat.zero_le _)
      have hx : x_ix (Int32.ofNat i) 6 := iN_ix (by omega) (by omega)
      have hc : (Int32.ofNat i).toNatClampNeg = i := iN_cl (by omega)
      simp only [↓ckE, ↓ltE, ↓swE, sw_n, ↓reduceIte, kR, lR, RK, RN, RP hP, Nat.reduceAdd, Int32.reduceOfNat, iE, eq_self, not_false_eq_true, h0, ↓ixT hx, true_or, true_and, hc, a1]
      rw [iN_I]; rfl
  | 5, _ =>
    cases who with
    | none =>
      have h0 : ¬ (0 : Int32) ≤ av := fun z => absurd (hn rfl) (by rw [Int32.not_lt]; exact z)
      simp only [↓ckE, ↓ltE, ↓swE, sw_n, ↓reduceIte, kR, RK, RP hP, Nat.reduceAdd, Int32.reduceOfNat, iE, eq_self, not_false_eq_true, h0]
      rfl
    | some i =>
      obtain ⟨rfl, hi, -, ⟨a4, a5⟩, -⟩ := ha i rfl
      have h0 : (0 : Int32) ≤ Int32.ofNat i := (geN 0 0 rfl (by decide) (by omega)).mpr (Nat.zero_le _)
      have hx : x_ix (Int32.ofNat i) 6 := iN_ix (by omega) (by omega)
      have hc : (Int32.ofNat i).toNatClampNeg = i := iN_cl (by omega)
      simp only [↓ckE, ↓ltE, ↓swE, sw_n, ↓reduceIte, kR, lR, RK, RN, RP hP, Nat.reduceAdd, Int32.reduceOfNat, iE, eq_self, not_false_eq_true, h0, ↓ixT hx, true_or, true_and, hc, a4]
      obtain ⟨b1, b2⟩ := hb i rfl
      rw [show (10 : Int32) = Int32.ofInt 10 from rfl, ← Int32.ofInt_tdiv (by show (-2147483648 : Int) ≤ _; omega) (by show _ ≤ (2147483647 : Int); omega) (by decide) (by decide)]
      rfl
end FACTR
