/-! ===== law: what is read stands well ===== -/
theorem tst_w {T : Nat → Nat} {Ln p : Nat} {t : Tok} (hp : p ≤ Ln) (hT : ∀ j, j < Ln → T j ≤ 127) (h : (tstS T Ln p).2 = some t) : p + 3 ≤ (tstS T Ln p).1 ∧ t.1 = 0 ∧ t.2.1 ≤ 5 ∧ t.2.2.1 ≤ 2 ∧ t.2.2.2 ≤ 99 := by
  unfold tstS at h ⊢
  have bb : ∀ q, tx T Ln q ≤ 127 ∨ tx T Ln q = 999 := fun q => by
    unfold tx
    by_cases z : q < Ln
    · rw [if_pos z]; exact Or.inl (hT q z)
    · rw [if_neg z]; exact Or.inr rfl
  have b5 := (str_b _ (bb p)).1
  have b6 := (str_b _ (bb (p + 1))).2
  by_cases q1 : idx (tx T Ln p) (strs (811 + 5)) 0 < 0
  · rw [if_pos q1] at h; cases h
  · have l1 := idx_lt (by omega) q1
    rw [if_neg q1] at h ⊢
    by_cases q2 : idx (tx T Ln (p + 1)) (strs (811 + 6)) 0 < 0
    · rw [if_pos q2] at h; cases h
    · have l2 := idx_lt (by omega) q2
      rw [if_neg q2] at h ⊢
      have nb := numS_b (T := T) (Ln := Ln) (p := p + 2) (by omega)
      by_cases q3 : (numS T Ln (p + 2)).1 < 0
      · rw [if_pos q3] at h; cases h
      · rw [if_neg q3] at h ⊢
        cases h
        have n1 := nb.2.2.1 (by omega)
        refine ⟨by simp only []; omega, rfl, ?_, ?_, ?_⟩ <;> simp only [] <;> omega
/-- of a reading: the pile is one higher behind it -/
def WF (Ln p w : Nat) (r : Nat × Option (List Tok)) : Prop := ∀ a, r.2 = some a → (w ≤ 2 → p + 3 ≤ r.1 ∧ ∀ h x, 3 * h ≤ p → wfT x (h + 1) → wfT (a ++ x) h) ∧ (3 ≤ w → ∀ h x, 3 * (h + 1) ≤ p → wfT x (h + 1) → wfT (a ++ x) (h + 1))
theorem exS_w {T : Nat → Nat} {Ln : Nat} (hL : Ln ≤ 100) (hT : ∀ j, j < Ln → T j ≤ 127) : ∀ (n w d p : Nat), p ≤ Ln → WF Ln p w (exS T Ln n w d p)
  | 0, w, d, p, hp => fun a z => by cases z
  | n + 1, w, d, p, hp => by
    unfold exS
    by_cases w0 : w = 0
    · subst w0
      rw [if_pos rfl]
      have i1 := exS_b (T := T) n 1 d p hp
      cases ea : (exS T Ln n 1 d p).2 with
      | none => rw [bnd_n ea]; intro a z; cases z
      | some a =>
        rw [bnd_s ea]
        have j1 := exS_b (T := T) n 3 d (exS T Ln n 1 d p).1 i1.2.1
        cases eb : (exS T Ln n 3 d (exS T Ln n 1 d p).1).2 with
        | none => rw [bnd_n eb]; intro a z; cases z
        | some b =>
          rw [bnd_s eb]
          intro x z
          cases z
          obtain ⟨f1, f2⟩ := (exS_w hL hT n 1 d p hp a ea).1 (by omega)
          have g1 := (exS_w hL hT n 3 d _ i1.2.1 b eb).2 (by omega)
          refine ⟨fun _ => ⟨by have := j1.1; simp only []; omega, fun h x y1 y2 => ?_⟩, fun y => by omega⟩
          rw [List.append_assoc]
          exact f2 h _ y1 (g1 h x (by omega) y2)
    rw [if_neg w0]
    by_cases w1 : w = 1
    · subst w1
      rw [if_pos rfl]
      have i1 := exS_b (T := T) n 2 d p hp
      cases ea : (exS T Ln n 2 d p).2 with
      | none => rw [bnd_n ea]; intro a z; cases z
      | some a =>
        rw [bnd_s ea]
        have j1 := exS_b (T := T) n 4 d (exS T Ln n 2 d p).1 i1.2.1
        cases eb : (exS T Ln n 4 d (exS T Ln n 2 d p).1).2 with
        | none => rw [bnd_n eb]; intro a z; cases z
        | some b =>
          rw [bnd_s eb]
          intro x z
          cases z
          obtain ⟨f1, f2⟩ := (exS_w hL hT n 2 d p hp a ea).1 (by omega)
          have g1 := (exS_w hL hT n 4 d _ i1.2.1 b eb).2 (by omega)
          refine ⟨fun _ => ⟨by have := j1.1; simp only []; omega, fun h x y1 y2 => ?_⟩, fun y => by omega⟩
          rw [List.append_assoc]
          exact f2 h _ y1 (g1 h x (by omega) y2)
    rw [if_neg w1]
    by_cases w2 : w = 2
    · subst w2
      rw [if_pos rfl]
      by_cases q1 : d < 4 ∧ tx T Ln p = 40
      · have l1 := tx_le q1.2 (by omega)
        rw [if_pos q1]
        cases ea : (exS T Ln n 0 (d + 1) (p + 1)).2 with
        | none => rw [bnd_n ea]; intro a z; cases z
        | some a =>
          rw [bnd_s ea]
          by_cases q3 : tx T Ln (exS T Ln n 0 (d + 1) (p + 1)).1 = 41
          · rw [if_pos q3]
            intro x z
            cases z
            obtain ⟨f1, f2⟩ := (exS_w hL hT n 0 (d + 1) (p + 1) l1 a ea).1 (by omega)
            exact ⟨fun _ => ⟨by simp only []; omega, fun h x y1 y2 => f2 h x (by omega) y2⟩, fun y => by omega⟩
          · rw [if_neg q3]; intro a z; cases z
      · rw [if_neg q1]
        by_cases q2 : d < 4 ∧ tx T Ln p = 33
        · have l1 := tx_le q2.2 (by omega)
          rw [if_pos q2]
          have i1 := exS_b (T := T) n 2 (d + 1) (p + 1) l1
          cases ea : (exS T Ln n 2 (d + 1) (p + 1)).2 with
          | none => rw [bnd_n ea]; intro a z; cases z
          | some a =>
            rw [bnd_s ea]
            intro x z
            cases z
            obtain ⟨f1, f2⟩ := (exS_w hL hT n 2 (d + 1) (p + 1) l1 a ea).1 (by omega)
            have := i1.2.1
            refine ⟨fun _ => ⟨by simp only []; omega, fun h x y1 y2 => ?_⟩, fun y => by omega⟩
            rw [List.append_assoc]
            refine f2 h _ (by omega) ⟨⟨by decide, by decide, by decide, by decide⟩, h + 1, ?_, by omega, y2⟩
            unfold tokH
            rw [if_neg (by decide), if_pos rfl, if_pos (by omega)]
        · rw [if_neg q2]
          have tb := tst_b (T := T) hp
          intro x z
          cases et : (tstS T Ln p).2 with
          | none => rw [et] at z; cases z
          | some t =>
            rw [et] at z
            cases z
            obtain ⟨t1, t2, t3, t4, t5⟩ := tst_w hp hT et
            have := tb.2.1
            refine ⟨fun _ => ⟨t1, fun h x y1 y2 => ⟨⟨by omega, t3, t4, t5⟩, h + 1, ?_, by omega, y2⟩⟩, fun y => by omega⟩
            unfold tokH
            rw [if_pos t2]
    rw [if_neg w2]
    by_cases w3 : w = 3
    · subst w3
      rw [if_pos rfl]
      by_cases q : tx T Ln p = 124
      · have l1 := tx_le q (by omega)
        rw [if_pos q]
        have i1 := exS_b (T := T) n 1 d (p + 1) l1
        cases ea : (exS T Ln n 1 d (p + 1)).2 with
        | none => rw [bnd_n ea]; intro a z; cases z
        | some a =>
          rw [bnd_s ea]
          cases eb : (exS T Ln n 3 d (exS T Ln n 1 d (p + 1)).1).2 with
          | none => rw [bnd_n eb]; intro a z; cases z
          | some b =>
            rw [bnd_s eb]
            intro x z
            cases z
            obtain ⟨f1, f2⟩ := (exS_w hL hT n 1 d (p + 1) l1 a ea).1 (by omega)
            have g1 := (exS_w hL hT n 3 d _ i1.2.1 b eb).2 (by omega)
            have := i1.2.1
            refine ⟨fun y => by omega, fun _ h x y1 y2 => ?_⟩
            rw [List.append_assoc]
            refine f2 (h + 1) _ (by omega) ⟨⟨by decide, by decide, by decide, by decide⟩, h + 1, ?_, by omega, g1 h x (by omega) y2⟩
            unfold tokH
            rw [if_neg (by decide), if_neg (by decide), if_pos (by omega)]
            rfl
      · rw [if_neg q]
        intro x z
        cases z
        exact ⟨fun y => by omega, fun _ h x _ y2 => y2⟩
    · rw [if_neg w3]
      by_cases q : tx T Ln p = 38
      · have l1 := tx_le q (by omega)
        rw [if_pos q]
        have i1 := exS_b (T := T) n 2 d (p + 1) l1
        cases ea : (exS T Ln n 2 d (p + 1)).2 with
        | none => rw [bnd_n ea]; intro a z; cases z
        | some a =>
          rw [bnd_s ea]
          cases eb : (exS T Ln n 4 d (exS T Ln n 2 d (p + 1)).1).2 with
          | none => rw [bnd_n eb]; intro a z; cases z
          | some b =>
            rw [bnd_s eb]
            intro x z
            cases z
            obtain ⟨f1, f2⟩ := (exS_w hL hT n 2 d (p + 1) l1 a ea).1 (by omega)
            have g1 := (exS_w hL hT n 4 d _ i1.2.1 b eb).2 (by omega)
            have := i1.2.1
            refine ⟨fun y => by omega, fun _ h x y1 y2 => ?_⟩
            rw [List.append_assoc]
            refine f2 (h + 1) _ (by omega) ⟨⟨by decide, by decide, by decide, by decide⟩, h + 1, ?_, by omega, g1 h x (by omega) y2⟩
            unfold tokH
            rw [if_neg (by decide), if_neg (by decide), if_pos (by omega)]
            rfl
      · rw [if_neg q]
        intro x z
        cases z
        exact ⟨fun y => by omega, fun _ h x _ y2 => y2⟩
