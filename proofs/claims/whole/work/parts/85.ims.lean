/-! ===== image, undo: the reference ===== -/
theorem thr {r : Int32} {c : x_M → Prop} {o : Option (Int32 × x_M)} {o' : x_M → Option (Int32 × x_M)} {Q : x_M → Prop} (h : ∃ ν', o = o' ν' ∧ c ν') (g : ∀ ν', c ν' → ∃ ν'', o' ν' = some (r, ν'') ∧ Q ν'') : ∃ ν'', o = some (r, ν'') ∧ Q ν'' := by
  obtain ⟨ν1, e1, c1⟩ := h
  obtain ⟨ν2, e2, c2⟩ := g ν1 c1
  exact ⟨ν2, e1.trans e2, c2⟩
section IMS
variable {ad : Nat → Nat} {D : va_G} {cA : Nat → ClassId} {ν : x_M}
theorem r_image (hP : Pr ν) : ∃ ν', f_X10_image (XR ad D cA) 600 ν = some (ν.1 600 0, ν') ∧ (ν'.2 = ν.2 ∧ (ν'.1 600 49 = 1 ∧ ν'.1 600 50 = ν.1 600 12 ∧ ν'.1 600 51 = ν.1 600 0 ∧ ν'.1 600 52 = ν.1 600 1 ∧ ν'.1 600 53 = ν.1 600 2 ∧ ν'.1 600 54 = ν.1 600 3 ∧ ν'.1 600 55 = ν.1 600 40 ∧ ν'.1 600 56 = ν.1 600 43 ∧ ν'.1 600 57 = ν.1 600 44) ∧ ((∀ o j, 659 ≤ o → o ≤ 664 → j < 6 → ν'.1 o j = ν.1 (o - 54) j) ∧ (∀ o j, 665 ≤ o → o ≤ 665 → j < 24 → ν'.1 o j = ν.1 (o - 54) j) ∧ (∀ o j, 666 ≤ o → o ≤ 667 → j < 4 → ν'.1 o j = ν.1 (o - 24) j) ∧ (∀ o j, 668 ≤ o → o ≤ 671 → j < 8 → ν'.1 o j = ν.1 (o - 22) j)) ∧ ∀ o k, ¬ ((o = 600 ∧ (49 ≤ k ∧ k ≤ 57)) ∨ (659 ≤ o ∧ o ≤ 664) ∨ (665 ≤ o ∧ o ≤ 665) ∨ (666 ≤ o ∧ o ≤ 667) ∨ (668 ≤ o ∧ o ≤ 671)) → ν'.1 o k = ν.1 o k) := by
  obtain ⟨w, hw⟩ : ∃ w : x_M, w = (x_sI (x_sI (x_sI (x_sI (x_sI (x_sI (x_sI (x_sI (x_sI ν 600 49 1) 600 50 (ν.1 600 12)) 600 51 (ν.1 600 0)) 600 52 (ν.1 600 1)) 600 53 (ν.1 600 2)) 600 54 (ν.1 600 3)) 600 55 (ν.1 600 40)) 600 56 (ν.1 600 43)) 600 57 (ν.1 600 44)) := ⟨_, rfl⟩
  have w20 : w.2 = ν.2 := by rw [hw]; rfl
  have hP1 : Pr w := fun o k => by rw [w20]; exact hP o k
  have wf : w.1 600 49 = 1 ∧ w.1 600 50 = ν.1 600 12 ∧ w.1 600 51 = ν.1 600 0 ∧ w.1 600 52 = ν.1 600 1 ∧ w.1 600 53 = ν.1 600 2 ∧ w.1 600 54 = ν.1 600 3 ∧ w.1 600 55 = ν.1 600 40 ∧ w.1 600 56 = ν.1 600 43 ∧ w.1 600 57 = ν.1 600 44 := by
    rw [hw]
    simp only [sI_rd, Nat.reduceEqDiff, ↓reduceIte, and_self]
  have wo : ∀ o k, ¬ (o = 600 ∧ (49 ≤ k ∧ k ≤ 57)) → w.1 o k = ν.1 o k := fun o k z => by
    rw [hw, sI_of (by omega), sI_of (by omega), sI_of (by omega), sI_of (by omega), sI_of (by omega), sI_of (by omega), sI_of (by omega), sI_of (by omega), sI_of (by omega)]
  unfold f_X10_image
  simp only [↓ckE, ↓ltE, ↓reduceIte, kR, RK, Nat.reduceAdd, or_true, and_self, sI_rd, Nat.reduceEqDiff]
  refine thr (r_image_L71 (ν := w) hP1 6 0 4096 0 _ (by omega) (by omega) rfl (by rw [← hw]; exact cpR.rf)) (fun w1 c1 => ?_)
  have hP2 : Pr w1 := fun o k => by rw [c1.1]; exact hP1 o k
  refine thr (r_image_L157 (ν := w1) hP2 24 0 4096 0 w1 (by omega) (by omega) rfl cpR.rf) (fun w2 c2 => ?_)
  have hP3 : Pr w2 := fun o k => by rw [c2.1]; exact hP2 o k
  refine thr (r_image_L183 (ν := w2) hP3 4 0 4096 0 w2 (by omega) (by omega) rfl cpR.rf) (fun w3 c3 => ?_)
  have hP4 : Pr w3 := fun o k => by rw [c3.1]; exact hP3 o k
  obtain ⟨w4, e4, c4⟩ := r_image_L220 (ad := ad) (D := D) (cA := cA) (ν := w3) hP4 8 0 4096 0 w3 (by omega) (by omega) rfl cpR.rf
  have f1 : ∀ o j, ¬ (659 ≤ o ∧ o ≤ 664) → w1.1 o j = w.1 o j := fun o j z => by rw [c1.2, if_neg (fun y => z y.1)]
  have g1 : ∀ o j, 659 ≤ o → o ≤ 664 → j < 6 → w1.1 o j = w.1 (o - 54) j := fun o j y1 y2 y3 => by rw [c1.2, if_pos ⟨⟨y1, y2⟩, y3⟩]
  have f2 : ∀ o j, ¬ (665 ≤ o ∧ o ≤ 665) → w2.1 o j = w1.1 o j := fun o j z => by rw [c2.2, if_neg (fun y => z y.1)]
  have g2 : ∀ o j, 665 ≤ o → o ≤ 665 → j < 24 → w2.1 o j = w1.1 (o - 54) j := fun o j y1 y2 y3 => by rw [c2.2, if_pos ⟨⟨y1, y2⟩, y3⟩]
  have f3 : ∀ o j, ¬ (666 ≤ o ∧ o ≤ 667) → w3.1 o j = w2.1 o j := fun o j z => by rw [c3.2, if_neg (fun y => z y.1)]
  have g3 : ∀ o j, 666 ≤ o → o ≤ 667 → j < 4 → w3.1 o j = w2.1 (o - 24) j := fun o j y1 y2 y3 => by rw [c3.2, if_pos ⟨⟨y1, y2⟩, y3⟩]
  have f4 : ∀ o j, ¬ (668 ≤ o ∧ o ≤ 671) → w4.1 o j = w3.1 o j := fun o j z => by rw [c4.2, if_neg (fun y => z y.1)]
  have g4 : ∀ o j, 668 ≤ o → o ≤ 671 → j < 8 → w4.1 o j = w3.1 (o - 22) j := fun o j y1 y2 y3 => by rw [c4.2, if_pos ⟨⟨y1, y2⟩, y3⟩]
  have hf : ∀ k, w4.1 600 k = w.1 600 k := fun k => by rw [f4 _ _ (by omega), f3 _ _ (by omega), f2 _ _ (by omega), f1 _ _ (by omega)]
  refine ⟨w4, ?_, c4.1.trans (c3.1.trans (c2.1.trans (c1.1.trans w20))), ?_, ⟨fun o j y1 y2 y3 => ?_, fun o j y1 y2 y3 => ?_, fun o j y1 y2 y3 => ?_, fun o j y1 y2 y3 => ?_⟩, fun o k z => ?_⟩
  · refine e4.trans ?_
    rw [hf]
    rw [wo 600 0 (by omega)]
  · rw [hf 49, hf 50, hf 51, hf 52, hf 53, hf 54, hf 55, hf 56, hf 57]
    exact wf
  · rw [f4 _ _ (by omega), f3 _ _ (by omega), f2 _ _ (by omega), g1 o j y1 y2 y3, wo _ _ (by omega)]
  · rw [f4 _ _ (by omega), f3 _ _ (by omega), g2 o j y1 y2 y3, f1 _ _ (by omega), wo _ _ (by omega)]
  · rw [f4 _ _ (by omega), g3 o j y1 y2 y3, f2 _ _ (by omega), f1 _ _ (by omega), wo _ _ (by omega)]
  · rw [g4 o j y1 y2 y3, f3 _ _ (by omega), f2 _ _ (by omega), f1 _ _ (by omega), wo _ _ (by omega)]
  · rw [f4 _ _ (by omega), f3 _ _ (by omega), f2 _ _ (by omega), f1 _ _ (by omega), wo _ _ (by omega)]
theorem r_undo (hP : Pr ν) (h49 : ¬ ν.1 600 49 = 0) : ∃ ν', f_X10_undo (XR ad D cA) 600 ν = some (ν.1 600 51, ν') ∧ (ν'.2 = ν.2 ∧ (ν'.1 600 12 = ν.1 600 50 ∧ ν'.1 600 0 = ν.1 600 51 ∧ ν'.1 600 1 = ν.1 600 52 ∧ ν'.1 600 2 = ν.1 600 53 ∧ ν'.1 600 3 = ν.1 600 54 ∧ ν'.1 600 40 = ν.1 600 55 ∧ ν'.1 600 43 = ν.1 600 56 ∧ ν'.1 600 44 = ν.1 600 57) ∧ ((∀ o j, 605 ≤ o → o ≤ 610 → j < 6 → ν'.1 o j = ν.1 (o + 54) j) ∧ (∀ o j, 611 ≤ o → o ≤ 611 → j < 24 → ν'.1 o j = ν.1 (o + 54) j) ∧ (∀ o j, 642 ≤ o → o ≤ 643 → j < 4 → ν'.1 o j = ν.1 (o + 24) j) ∧ (∀ o j, 646 ≤ o → o ≤ 649 → j < 8 → ν'.1 o j = ν.1 (o + 22) j)) ∧ ∀ o k, ¬ ((o = 600 ∧ (k ≤ 3 ∨ k = 12 ∨ k = 40 ∨ k = 43 ∨ k = 44)) ∨ (605 ≤ o ∧ o ≤ 610) ∨ (611 ≤ o ∧ o ≤ 611) ∨ (642 ≤ o ∧ o ≤ 643) ∨ (646 ≤ o ∧ o ≤ 649)) → ν'.1 o k = ν.1 o k) := by
  obtain ⟨w, hw⟩ : ∃ w : x_M, w = (x_sI (x_sI (x_sI (x_sI (x_sI (x_sI (x_sI (x_sI ν 600 12 (ν.1 600 50)) 600 0 (ν.1 600 51)) 600 1 (ν.1 600 52)) 600 2 (ν.1 600 53)) 600 3 (ν.1 600 54)) 600 40 (ν.1 600 55)) 600 43 (ν.1 600 56)) 600 44 (ν.1 600 57)) := ⟨_, rfl⟩
  have w20 : w.2 = ν.2 := by rw [hw]; rfl
  have hP1 : Pr w := fun o k => by rw [w20]; exact hP o k
  have wf : w.1 600 12 = ν.1 600 50 ∧ w.1 600 0 = ν.1 600 51 ∧ w.1 600 1 = ν.1 600 52 ∧ w.1 600 2 = ν.1 600 53 ∧ w.1 600 3 = ν.1 600 54 ∧ w.1 600 40 = ν.1 600 55 ∧ w.1 600 43 = ν.1 600 56 ∧ w.1 600 44 = ν.1 600 57 := by
    rw [hw]
    simp only [sI_rd, Nat.reduceEqDiff, ↓reduceIte, and_self]
  have wo : ∀ o k, ¬ (o = 600 ∧ (k ≤ 3 ∨ k = 12 ∨ k = 40 ∨ k = 43 ∨ k = 44)) → w.1 o k = ν.1 o k := fun o k z => by
    rw [hw, sI_of (by omega), sI_of (by omega), sI_of (by omega), sI_of (by omega), sI_of (by omega), sI_of (by omega), sI_of (by omega), sI_of (by omega)]
  unfold f_X10_undo
  simp only [↓ckE, ↓ltE, ↓reduceIte, kR, RK, Nat.reduceAdd, or_true, and_self, h49, sI_rd, Nat.reduceEqDiff]
  refine thr (r_undo_L76 (ν := w) hP1 6 0 4096 0 _ (by omega) (by omega) rfl (by rw [← hw]; exact cpR.rf)) (fun w1 c1 => ?_)
  have hP2 : Pr w1 := fun o k => by rw [c1.1]; exact hP1 o k
  refine thr (r_undo_L162 (ν := w1) hP2 24 0 4096 0 w1 (by omega) (by omega) rfl cpR.rf) (fun w2 c2 => ?_)
  have hP3 : Pr w2 := fun o k => by rw [c2.1]; exact hP2 o k
  refine thr (r_undo_L188 (ν := w2) hP3 4 0 4096 0 w2 (by omega) (by omega) rfl cpR.rf) (fun w3 c3 => ?_)
  have hP4 : Pr w3 := fun o k => by rw [c3.1]; exact hP3 o k
  obtain ⟨w4, e4, c4⟩ := r_undo_L225 (ad := ad) (D := D) (cA := cA) (ν := w3) hP4 8 0 4096 0 w3 (by omega) (by omega) rfl cpR.rf
  have f1 : ∀ o j, ¬ (605 ≤ o ∧ o ≤ 610) → w1.1 o j = w.1 o j := fun o j z => by rw [c1.2, if_neg (fun y => z y.1)]
  have g1 : ∀ o j, 605 ≤ o → o ≤ 610 → j < 6 → w1.1 o j = w.1 (o + 54) j := fun o j y1 y2 y3 => by rw [c1.2, if_pos ⟨⟨y1, y2⟩, y3⟩]
  have f2 : ∀ o j, ¬ (611 ≤ o ∧ o ≤ 611) → w2.1 o j = w1.1 o j := fun o j z => by rw [c2.2, if_neg (fun y => z y.1)]
  have g2 : ∀ o j, 611 ≤ o → o ≤ 611 → j < 24 → w2.1 o j = w1.1 (o + 54) j := fun o j y1 y2 y3 => by rw [c2.2, if_pos ⟨⟨y1, y2⟩, y3⟩]
  have f3 : ∀ o j, ¬ (642 ≤ o ∧ o ≤ 643) → w3.1 o j = w2.1 o j := fun o j z => by rw [c3.2, if_neg (fun y => z y.1)]
  have g3 : ∀ o j, 642 ≤ o → o ≤ 643 → j < 4 → w3.1 o j = w2.1 (o + 24) j := fun o j y1 y2 y3 => by rw [c3.2, if_pos ⟨⟨y1, y2⟩, y3⟩]
  have f4 : ∀ o j, ¬ (646 ≤ o ∧ o ≤ 649) → w4.1 o j = w3.1 o j := fun o j z => by rw [c4.2, if_neg (fun y => z y.1)]
  have g4 : ∀ o j, 646 ≤ o → o ≤ 649 → j < 8 → w4.1 o j = w3.1 (o + 22) j := fun o j y1 y2 y3 => by rw [c4.2, if_pos ⟨⟨y1, y2⟩, y3⟩]
  have hf : ∀ k, w4.1 600 k = w.1 600 k := fun k => by rw [f4 _ _ (by omega), f3 _ _ (by omega), f2 _ _ (by omega), f1 _ _ (by omega)]
  refine ⟨w4, ?_, c4.1.trans (c3.1.trans (c2.1.trans (c1.1.trans w20))), ?_, ⟨fun o j y1 y2 y3 => ?_, fun o j y1 y2 y3 => ?_, fun o j y1 y2 y3 => ?_, fun o j y1 y2 y3 => ?_⟩, fun o k z => ?_⟩
  · refine e4.trans ?_
    rw [hf]
    rw [wf.2.1]
  · rw [hf 12, hf 0, hf 1, hf 2, hf 3, hf 40, hf 43, hf 44]
    exact wf
  · rw [f4 _ _ (by omega), f3 _ _ (by omega), f2 _ _ (by omega), g1 o j y1 y2 y3, wo _ _ (by omega)]
  · rw [f4 _ _ (by omega), f3 _ _ (by omega), g2 o j y1 y2 y3, f1 _ _ (by omega), wo _ _ (by omega)]
  · rw [f4 _ _ (by omega), g3 o j y1 y2 y3, f2 _ _ (by omega), f1 _ _ (by omega), wo _ _ (by omega)]
  · rw [g4 o j y1 y2 y3, f3 _ _ (by omega), f2 _ _ (by omega), f1 _ _ (by omega), wo _ _ (by omega)]
  · rw [f4 _ _ (by omega), f3 _ _ (by omega), f2 _ _ (by omega), f1 _ _ (by omega), wo _ _ (by omega)]
end IMS
