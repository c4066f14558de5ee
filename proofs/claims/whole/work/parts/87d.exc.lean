/-! ===== law: an expression as it should be read; the class reads it so ===== -/
def bnd (r : Nat × Option (List Tok)) (k : Nat → List Tok → Nat × Option (List Tok)) : Nat × Option (List Tok) :=
  match r.2 with
  | none => (r.1, none)
  | some a => k r.1 a
def exS (T : Nat → Nat) (Ln : Nat) : Nat → Nat → Nat → Nat → Nat × Option (List Tok)
  | 0, _, _, p => (p, none)
  | n + 1, w, d, p =>
    if w = 0 then bnd (exS T Ln n 1 d p) (fun q a => bnd (exS T Ln n 3 d q) (fun q' b => (q', some (a ++ b))))
    else if w = 1 then bnd (exS T Ln n 2 d p) (fun q a => bnd (exS T Ln n 4 d q) (fun q' b => (q', some (a ++ b))))
    else if w = 2 then
      if d < 4 ∧ tx T Ln p = 40 then bnd (exS T Ln n 0 (d + 1) (p + 1)) (fun q a => if tx T Ln q = 41 then (q + 1, some a) else (q, none))
      else if d < 4 ∧ tx T Ln p = 33 then bnd (exS T Ln n 2 (d + 1) (p + 1)) (fun q a => (q, some (a ++ [(1, 0, 0, 0)])))
      else ((tstS T Ln p).1, (tstS T Ln p).2.map (fun t => [t]))
    else if w = 3 then
      if tx T Ln p = 124 then bnd (exS T Ln n 1 d (p + 1)) (fun q a => bnd (exS T Ln n 3 d q) (fun q' b => (q', some (a ++ (3, 0, 0, 0) :: b)))) else (p, some [])
    else
      if tx T Ln p = 38 then bnd (exS T Ln n 2 d (p + 1)) (fun q a => bnd (exS T Ln n 4 d q) (fun q' b => (q', some (a ++ (2, 0, 0, 0) :: b)))) else (p, some [])
def cw (w : Nat) : Nat := if w = 0 then 3 else if w = 1 then 2 else 1
/-- what a reading comes to: its end lies behind, the tests are no more than the signs -/
def okR (Ln p : Nat) (w : Nat) (r : Nat × Option (List Tok)) : Prop := p ≤ r.1 ∧ r.1 ≤ Ln ∧ ∀ a, r.2 = some a → a.length + p ≤ r.1 ∧ (w ≤ 2 → p < r.1)
theorem bnd_n {r : Nat × Option (List Tok)} {k : Nat → List Tok → Nat × Option (List Tok)} (h : r.2 = none) : bnd r k = (r.1, none) := by
  unfold bnd; rw [h]
theorem bnd_s {r : Nat × Option (List Tok)} {k : Nat → List Tok → Nat × Option (List Tok)} {a : List Tok} (h : r.2 = some a) : bnd r k = k r.1 a := by
  unfold bnd; rw [h]
theorem tx_le {T : Nat → Nat} {Ln p c : Nat} (h : tx T Ln p = c) (hc : c ≤ 127) : p + 1 ≤ Ln := (tx_lt h hc).1
theorem idx_lt {T : Nat → Nat} {Ln p s : Nat} (hs : s < 7) (h : ¬ idx (tx T Ln p) (strs (811 + s)) 0 < 0) : p + 1 ≤ Ln := by
  by_cases q : p < Ln
  · exact q
  · have e : tx T Ln p = 999 := by unfold tx; rw [if_neg q]
    rw [e, idx999 s hs] at h
    exact absurd (by decide) h
theorem tst_b {T : Nat → Nat} {Ln p : Nat} (hp : p ≤ Ln) : p ≤ (tstS T Ln p).1 ∧ (tstS T Ln p).1 ≤ Ln ∧ ∀ t, (tstS T Ln p).2 = some t → p + 1 ≤ (tstS T Ln p).1 := by
  unfold tstS
  by_cases q1 : idx (tx T Ln p) (strs (811 + 5)) 0 < 0
  · rw [if_pos q1]; exact ⟨Nat.le_refl _, hp, fun t z => by cases z⟩
  · have l1 := idx_lt (by omega) q1
    rw [if_neg q1]
    by_cases q2 : idx (tx T Ln (p + 1)) (strs (811 + 6)) 0 < 0
    · rw [if_pos q2]; exact ⟨Nat.le_succ _, l1, fun t z => by cases z⟩
    · have l2 := idx_lt (by omega) q2
      rw [if_neg q2]
      have nb := numS_b (T := T) (Ln := Ln) (p := p + 2) (by omega)
      have nb1 := nb.2.1
      by_cases q3 : (numS T Ln (p + 2)).1 < 0
      · rw [if_pos q3]; exact ⟨by simp only []; omega, nb1.2, fun t z => by cases z⟩
      · rw [if_neg q3]; exact ⟨by simp only []; omega, nb1.2, fun t _ => by simp only []; omega⟩
theorem exS_b {T : Nat → Nat} {Ln : Nat} : ∀ (n w d p : Nat), p ≤ Ln → okR Ln p w (exS T Ln n w d p)
  | 0, w, d, p, hp => ⟨Nat.le_refl _, hp, fun a z => by cases z⟩
  | n + 1, w, d, p, hp => by
    have two : ∀ (w1 w2 p1 : Nat) (g : List Tok → List Tok → List Tok) (c : Nat), p ≤ p1 → p1 ≤ Ln → w1 ≤ 2 → (∀ a b, (g a b).length ≤ a.length + b.length + c) → c + p ≤ p1 → okR Ln p w (bnd (exS T Ln n w1 d p1) (fun q a => bnd (exS T Ln n w2 d q) (fun q' b => (q', some (g a b))))) := by
      intro w1 w2 p1 g c h1 h2 h3 hg hc
      obtain ⟨i1, i2, i3⟩ := exS_b n w1 d p1 h2
      cases ea : (exS T Ln n w1 d p1).2 with
      | none => rw [bnd_n ea]; exact ⟨by simp only []; omega, i2, fun a z => by cases z⟩
      | some a =>
        rw [bnd_s ea]
        obtain ⟨j1, j2, j3⟩ := exS_b n w2 d (exS T Ln n w1 d p1).1 i2
        obtain ⟨a1, a2⟩ := i3 a ea
        have a2' := a2 h3
        cases eb : (exS T Ln n w2 d (exS T Ln n w1 d p1).1).2 with
        | none => rw [bnd_n eb]; exact ⟨by simp only []; omega, j2, fun a z => by cases z⟩
        | some b =>
          rw [bnd_s eb]
          obtain ⟨b1, b2⟩ := j3 b eb
          refine ⟨by simp only []; omega, j2, fun x z => ?_⟩
          cases z
          have := hg a b
          exact ⟨by simp only []; omega, fun _ => by simp only []; omega⟩
    unfold exS
    by_cases w0 : w = 0
    · rw [if_pos w0]; exact two 1 3 p (fun a b => a ++ b) 0 (Nat.le_refl _) hp (by omega) (fun a b => by rw [List.length_append]; omega) (by omega)
    rw [if_neg w0]
    by_cases w1 : w = 1
    · rw [if_pos w1]; exact two 2 4 p (fun a b => a ++ b) 0 (Nat.le_refl _) hp (by omega) (fun a b => by rw [List.length_append]; omega) (by omega)
    rw [if_neg w1]
    by_cases w2 : w = 2
    · rw [if_pos w2]
      by_cases q1 : d < 4 ∧ tx T Ln p = 40
      · have l1 := tx_le q1.2 (by omega)
        rw [if_pos q1]
        obtain ⟨i1, i2, i3⟩ := exS_b n 0 (d + 1) (p + 1) l1
        cases ea : (exS T Ln n 0 (d + 1) (p + 1)).2 with
        | none => rw [bnd_n ea]; exact ⟨by simp only []; omega, i2, fun a z => by cases z⟩
        | some a =>
          rw [bnd_s ea]
          obtain ⟨a1, a2⟩ := i3 a ea
          by_cases q3 : tx T Ln (exS T Ln n 0 (d + 1) (p + 1)).1 = 41
          · rw [if_pos q3]
            refine ⟨by simp only []; omega, tx_le q3 (by omega), fun x z => ?_⟩
            cases z
            exact ⟨by simp only []; omega, fun _ => by simp only []; omega⟩
          · rw [if_neg q3]; exact ⟨by simp only []; omega, i2, fun a z => by cases z⟩
      · rw [if_neg q1]
        by_cases q2 : d < 4 ∧ tx T Ln p = 33
        · have l1 := tx_le q2.2 (by omega)
          rw [if_pos q2]
          obtain ⟨i1, i2, i3⟩ := exS_b n 2 (d + 1) (p + 1) l1
          cases ea : (exS T Ln n 2 (d + 1) (p + 1)).2 with
          | none => rw [bnd_n ea]; exact ⟨by simp only []; omega, i2, fun a z => by cases z⟩
          | some a =>
            rw [bnd_s ea]
            obtain ⟨a1, a2⟩ := i3 a ea
            refine ⟨by simp only []; omega, i2, fun x z => ?_⟩
            cases z
            exact ⟨by rw [List.length_append]; simp only [List.length_cons, List.length_nil]; omega, fun _ => by simp only []; omega⟩
        · rw [if_neg q2]
          obtain ⟨t1, t2, t3⟩ := tst_b (T := T) hp
          refine ⟨t1, t2, fun x z => ?_⟩
          cases et : (tstS T Ln p).2 with
          | none => rw [et] at z; cases z
          | some t =>
            rw [et] at z
            cases z
            have := t3 t et
            exact ⟨by simp only [List.length_cons, List.length_nil]; omega, fun _ => by simp only []; omega⟩
    rw [if_neg w2]
    have ee : okR Ln p w (p, some []) := ⟨Nat.le_refl _, hp, fun x z => by cases z; exact ⟨by simp only [List.length_nil]; omega, fun y => by omega⟩⟩
    by_cases w3 : w = 3
    · rw [if_pos w3]
      by_cases q : tx T Ln p = 124
      · rw [if_pos q]; exact two 1 3 (p + 1) (fun a b => a ++ (3, 0, 0, 0) :: b) 1 (by omega) (tx_le q (by omega)) (by omega) (fun a b => by rw [List.length_append, List.length_cons]; omega) (by omega)
      · rw [if_neg q]; exact ee
    · rw [if_neg w3]
      by_cases q : tx T Ln p = 38
      · rw [if_pos q]; exact two 2 4 (p + 1) (fun a b => a ++ (2, 0, 0, 0) :: b) 1 (by omega) (tx_le q (by omega)) (by omega) (fun a b => by rw [List.length_append, List.length_cons]; omega) (by omega)
      · rw [if_neg q]
        refine ⟨Nat.le_refl _, hp, fun x z => ?_⟩
        cases z
        exact ⟨by simp only [List.length_nil]; omega, fun y => by omega⟩
