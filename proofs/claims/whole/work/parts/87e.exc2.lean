/-! ===== law: the class reads an expression as it should be read ===== -/
def CR (T : Nat → Nat) (Ln l : Nat) (μ0 : x_M) (tk : List Tok) (r : Nat × Option (List Tok)) (o : Option (Int32 × x_M)) : Prop := (∃ a μ', r.2 = some a ∧ o = some (1, μ') ∧ Ps T Ln l μ0 μ' r.1 (tk ++ a)) ∨ ∃ tk' μ', r.2 = none ∧ o = some (0, μ') ∧ Ps T Ln l μ0 μ' r.1 tk'
section EXC
variable {ad : Nat → Nat} {D : va_G} {cA : Nat → ClassId} {μ0 : x_M} {T : Nat → Nat} {Ln l : Nat}
theorem z_0 {zf v0 v1 : Nat} {v2 : Int32} {μ : x_M} : z_X5_takeEither (XC ad D cA) (zf + 1) 0 v0 v1 v2 μ = f_X5_takeEither_B (XC ad D cA) (z_X5_takeEither (XC ad D cA) zf) v0 v1 v2 μ := by
  conv => lhs; unfold z_X5_takeEither
  exact if_pos rfl
theorem z_1 {zf v0 v1 : Nat} {v2 : Int32} {μ : x_M} : z_X5_takeEither (XC ad D cA) (zf + 1) 1 v0 v1 v2 μ = f_X5_takeBoth_B (XC ad D cA) (z_X5_takeEither (XC ad D cA) zf) v0 v1 v2 μ := by
  conv => lhs; unfold z_X5_takeEither
  exact (if_neg (by decide)).trans (if_pos rfl)
theorem z_2 {zf v0 v1 : Nat} {v2 : Int32} {μ : x_M} : z_X5_takeEither (XC ad D cA) (zf + 1) 2 v0 v1 v2 μ = f_X5_takeFactor_B (XC ad D cA) (z_X5_takeEither (XC ad D cA) zf) v0 v1 v2 μ := by
  conv => lhs; unfold z_X5_takeEither
  exact (if_neg (by decide)).trans ((if_neg (by decide)).trans (if_pos rfl))
theorem len_ap {a b : List Tok} : (a ++ b).length = a.length + b.length := List.length_append
/-- all the five: what a fuel says -/
def CA (ad : Nat → Nat) (D : va_G) (cA : Nat → ClassId) (T : Nat → Nat) (Ln l : Nat) (μ0 : x_M) (n : Nat) : Prop :=
  ∀ (d p : Nat) (tk : List Tok) (μ : x_M), d ≤ 4 → Ps T Ln l μ0 μ p tk →
    (∀ w zf, w ≤ 2 → 5 * (Ln + 1 - p) + cw w ≤ n → 3 * (4 - d) + 3 ≤ zf + w → CR T Ln l μ0 tk (exS T Ln n w d p) (z_X5_takeEither (XC ad D cA) zf w 3 l (Int32.ofNat d) μ)) ∧
    (∀ zf i F, 5 * (Ln + 1 - p) + 1 ≤ n → 3 * (4 - d) + 2 ≤ zf → i ≤ p → Ln < p + F → CR T Ln l μ0 tk (exS T Ln n 3 d p) (f_X5_takeEither_B_L13 (XC ad D cA) (z_X5_takeEither (XC ad D cA) zf) F 3 l (Int32.ofNat d) (Int32.ofNat i) μ)) ∧
    (∀ zf i F, 5 * (Ln + 1 - p) + 1 ≤ n → 3 * (4 - d) + 1 ≤ zf → i ≤ p → Ln < p + F → CR T Ln l μ0 tk (exS T Ln n 4 d p) (f_X5_takeBoth_B_L13 (XC ad D cA) (z_X5_takeEither (XC ad D cA) zf) F 3 l (Int32.ofNat d) (Int32.ofNat i) μ))
theorem c_expr (hB : Bs μ0 l T Ln) : ∀ n, CA ad D cA T Ln l μ0 n := by
  obtain ⟨k0, -⟩ := lawK l hB.1.2.1
  have hL : Ln ≤ 100 := hB.2.1
  intro n
  induction n with
  | zero =>
    intro d p tk μ hd h
    refine ⟨fun w zf hw hn => ?_, fun zf i F hn => ?_, fun zf i F hn => ?_⟩
    · unfold cw at hn
      by_cases e : w = 0
      · rw [if_pos e] at hn; omega
      · rw [if_neg e] at hn
        by_cases e2 : w = 1
        · rw [if_pos e2] at hn; omega
        · rw [if_neg e2] at hn; omega
    · omega
    · omega
  | succ n ih =>
    intro d p tk μ hd h
    have hp := h.2.1.2
    have htk := h.2.2.2
    refine ⟨fun w zf hw hn hz => ?_, fun zf i F hn hz hi hF => ?_, fun zf i F hn hz hi hF => ?_⟩
    · obtain ⟨zf, rfl⟩ : ∃ m, zf = m + 1 := ⟨zf - 1, by omega⟩
      have hw' : w = 0 ∨ w = 1 ∨ w = 2 := by omega
      rcases hw' with rfl | rfl | rfl
      · have hn' : 5 * (Ln + 1 - p) + 3 ≤ n + 1 := hn
        have eS : exS T Ln (n + 1) 0 d p = bnd (exS T Ln n 1 d p) (fun q a => bnd (exS T Ln n 3 d q) (fun q' b => (q', some (a ++ b)))) := by
          conv => lhs; unfold exS
          exact if_pos rfl
        have ob := exS_b (T := T) n 1 d p hp
        rw [z_0, eS]
        unfold f_X5_takeEither_B
        rcases (ih d p tk μ hd h).1 1 zf (by omega) (by show 5 * (Ln + 1 - p) + 2 ≤ n; omega) (by omega) with ⟨a, μ1, ea, e1, h1⟩ | ⟨tk', μ1, ea, e1, h1⟩
        · obtain ⟨o1, o2⟩ := ob.2.2 a ea
          have o2' := o2 (by omega)
          rw [bnd_s ea]
          simp only [↓ckE, ↓reduceIte, kC, CK, Nat.reduceAdd, e1, bdE, iE]
          rcases (ih d _ _ μ1 hd h1).2.1 zf 0 4096 (by omega) (by omega) (by omega) (by omega) with ⟨b, μ2, eb, e2, h2⟩ | ⟨tk', μ2, eb, e2, h2⟩
          · rw [bnd_s eb]
            exact Or.inl ⟨a ++ b, μ2, rfl, e2, by rw [← List.append_assoc]; exact h2⟩
          · rw [bnd_n eb]
            exact Or.inr ⟨tk', μ2, rfl, e2, h2⟩
        · rw [bnd_n ea]
          refine Or.inr ⟨tk', μ1, rfl, ?_, h1⟩
          simp only [↓ckE, ↓reduceIte, kC, CK, Nat.reduceAdd, e1, bdE, true_or]
      · have hn' : 5 * (Ln + 1 - p) + 2 ≤ n + 1 := hn
        have eS : exS T Ln (n + 1) 1 d p = bnd (exS T Ln n 2 d p) (fun q a => bnd (exS T Ln n 4 d q) (fun q' b => (q', some (a ++ b)))) := by
          conv => lhs; unfold exS
          exact (if_neg (by decide)).trans (if_pos rfl)
        have ob := exS_b (T := T) n 2 d p hp
        rw [z_1, eS]
        unfold f_X5_takeBoth_B
        rcases (ih d p tk μ hd h).1 2 zf (by omega) (by show 5 * (Ln + 1 - p) + 1 ≤ n; omega) (by omega) with ⟨a, μ1, ea, e1, h1⟩ | ⟨tk', μ1, ea, e1, h1⟩
        · obtain ⟨o1, o2⟩ := ob.2.2 a ea
          have o2' := o2 (by omega)
          rw [bnd_s ea]
          simp only [↓ckE, ↓reduceIte, kC, CK, Nat.reduceAdd, e1, bdE, iE]
          rcases (ih d _ _ μ1 hd h1).2.2 zf 0 4096 (by omega) (by omega) (by omega) (by omega) with ⟨b, μ2, eb, e2, h2⟩ | ⟨tk', μ2, eb, e2, h2⟩
          · rw [bnd_s eb]
            exact Or.inl ⟨a ++ b, μ2, rfl, e2, by rw [← List.append_assoc]; exact h2⟩
          · rw [bnd_n eb]
            exact Or.inr ⟨tk', μ2, rfl, e2, h2⟩
        · rw [bnd_n ea]
          refine Or.inr ⟨tk', μ1, rfl, ?_, h1⟩
          simp only [↓ckE, ↓reduceIte, kC, CK, Nat.reduceAdd, e1, bdE, true_or]
      · have hn' : 5 * (Ln + 1 - p) + 1 ≤ n + 1 := hn
        rw [z_2]
        -- a test
        have tst : ∀ o, f_X5_takeTest (XC ad D cA) 3 l μ = o → exS T Ln (n + 1) 2 d p = ((tstS T Ln p).1, (tstS T Ln p).2.map (fun t => [t])) → CR T Ln l μ0 tk (exS T Ln (n + 1) 2 d p) o := by
          intro o eo eS
          rw [eS]
          rcases c_test (ad := ad) (D := D) (cA := cA) h hB with ⟨q, t, μ', e1, e2, h1⟩ | ⟨q, μ', e1, e2, h1⟩
          · rw [e1]; exact Or.inl ⟨[t], μ', rfl, eo.symm.trans e2, h1⟩
          · rw [e1]; exact Or.inr ⟨tk, μ', rfl, eo.symm.trans e2, h1⟩
        have bt : ∀ o, (∃ r μ', f_X5_takeTest (XC ad D cA) 3 l μ = some (r, μ') ∧ (r = 0 ∨ r = 1) ∧ o = some (r, μ')) → f_X5_takeTest (XC ad D cA) 3 l μ = o := by
          intro o ⟨r, μ', e1, _, e2⟩; rw [e1, e2]
        obtain ⟨r, μt, et, hr⟩ : ∃ r μ', f_X5_takeTest (XC ad D cA) 3 l μ = some (r, μ') ∧ (r = 0 ∨ r = 1) := by
          rcases c_test (ad := ad) (D := D) (cA := cA) h hB with ⟨q, t, μ', e1, e2, h1⟩ | ⟨q, μ', e1, e2, h1⟩
          · exact ⟨1, μ', e2, Or.inr rfl⟩
          · exact ⟨0, μ', e2, Or.inl rfl⟩
        unfold f_X5_takeFactor_B f_X5_takeFactor_B_J40
        by_cases d4 : d = 4
        · have m4 : (4 : Int32) ≤ Int32.ofNat d := (geN 4 4 rfl (by decide) (by omega)).mpr (by omega)
          have eS : exS T Ln (n + 1) 2 d p = ((tstS T Ln p).1, (tstS T Ln p).2.map (fun t => [t])) := by
            conv => lhs; unfold exS
            exact (if_neg (by decide)).trans ((if_neg (by decide)).trans ((if_pos rfl).trans ((if_neg (by omega)).trans (if_neg (by omega)))))
          refine tst _ ?_ eS
          simp only [↓ckE, ↓reduceIte, kC, CK, Nat.reduceAdd, m4, et, bdE, hr]
        · have m4 : ¬ (4 : Int32) ≤ Int32.ofNat d := fun z => by have := (geN 4 4 rfl (by decide) (by omega)).mp z; omega
          have es : Int32.ofNat d + 1 = Int32.ofNat (d + 1) := iN_s
          by_cases q1 : tx T Ln p = 40
          · have l1 := tx_le q1 (by omega)
            obtain ⟨f1, h1⟩ := c_take1 (ad := ad) (D := D) (cA := cA) h hB (by omega) q1
            have f1' : f_X5_take (XC ad D cA) 3 40 μ = _ := f1
            have eS : exS T Ln (n + 1) 2 d p = bnd (exS T Ln n 0 (d + 1) (p + 1)) (fun q a => if tx T Ln q = 41 then (q + 1, some a) else (q, none)) := by
              conv => lhs; unfold exS
              exact (if_neg (by decide)).trans ((if_neg (by decide)).trans ((if_pos rfl).trans (if_pos ⟨by omega, q1⟩)))
            rw [eS]
            rcases (ih (d + 1) _ _ _ (by omega) h1).1 0 zf (by omega) (by show 5 * (Ln + 1 - (p + 1)) + 3 ≤ n; omega) (by omega) with ⟨a, μ2, ea, e2, h2⟩ | ⟨tk', μ2, ea, e2, h2⟩
            · rw [bnd_s ea]
              by_cases q3 : tx T Ln (exS T Ln n 0 (d + 1) (p + 1)).1 = 41
              · rw [if_pos q3]
                obtain ⟨f3, h3⟩ := c_take1 (ad := ad) (D := D) (cA := cA) h2 hB (by omega) q3
                have f3' : f_X5_take (XC ad D cA) 3 41 μ2 = _ := f3
                refine Or.inl ⟨a, _, rfl, ?_, h3⟩
                simp only [↓ckE, ↓reduceIte, kC, CK, Nat.reduceAdd, m4, f1', bdE, iE, es, e2, f3', or_true]
              · rw [if_neg q3]
                have f3' : f_X5_take (XC ad D cA) 3 41 μ2 = _ := c_take0 (ad := ad) (D := D) (cA := cA) h2 hB (c := 41) (by omega) q3
                refine Or.inr ⟨_, _, rfl, ?_, h2⟩
                simp only [↓ckE, ↓reduceIte, kC, CK, Nat.reduceAdd, m4, f1', bdE, iE, es, e2, f3', true_or]
            · rw [bnd_n ea]
              refine Or.inr ⟨tk', μ2, rfl, ?_, h2⟩
              simp only [↓ckE, ↓reduceIte, kC, CK, Nat.reduceAdd, m4, f1', bdE, iE, es, e2, true_or]
          · have f1' : f_X5_take (XC ad D cA) 3 40 μ = _ := c_take0 (ad := ad) (D := D) (cA := cA) h hB (c := 40) (by omega) q1
            by_cases q2 : tx T Ln p = 33
            · have l1 := tx_le q2 (by omega)
              obtain ⟨f2, h1⟩ := c_take1 (ad := ad) (D := D) (cA := cA) h hB (by omega) q2
              have f2' : f_X5_take (XC ad D cA) 3 33 μ = _ := f2
              have eS : exS T Ln (n + 1) 2 d p = bnd (exS T Ln n 2 (d + 1) (p + 1)) (fun q a => (q, some (a ++ [(1, 0, 0, 0)]))) := by
                conv => lhs; unfold exS
                exact (if_neg (by decide)).trans ((if_neg (by decide)).trans ((if_pos rfl).trans ((if_neg (fun z => q1 z.2)).trans (if_pos ⟨by omega, q2⟩))))
              have ob := exS_b (T := T) n 2 (d + 1) (p + 1) l1
              rw [eS]
              rcases (ih (d + 1) _ _ _ (by omega) h1).1 2 zf (by omega) (by show 5 * (Ln + 1 - (p + 1)) + 1 ≤ n; omega) (by omega) with ⟨a, μ2, ea, e2, h2⟩ | ⟨tk', μ2, ea, e2, h2⟩
              · rw [bnd_s ea]
                obtain ⟨o1, o2⟩ := ob.2.2 a ea
                obtain ⟨μ3, e3, h3⟩ := c_put (ad := ad) (D := D) (cA := cA) (t := (1, 0, 0, 0)) h2 hB (by rw [len_ap]; omega)
                have e3' : f_X4_put (XC ad D cA) l (-1) μ2 = _ := e3
                refine Or.inl ⟨_, μ3, rfl, ?_, by rw [← List.append_assoc]; exact h3⟩
                simp only [↓ckE, ↓reduceIte, kC, CK, Nat.reduceAdd, m4, f1', f2', bdE, iE, es, e2, k0, e3', or_true]
              · rw [bnd_n ea]
                refine Or.inr ⟨tk', μ2, rfl, ?_, h2⟩
                simp only [↓ckE, ↓reduceIte, kC, CK, Nat.reduceAdd, m4, f1', f2', bdE, iE, es, e2, true_or]
            · have f2' : f_X5_take (XC ad D cA) 3 33 μ = _ := c_take0 (ad := ad) (D := D) (cA := cA) h hB (c := 33) (by omega) q2
              have eS : exS T Ln (n + 1) 2 d p = ((tstS T Ln p).1, (tstS T Ln p).2.map (fun t => [t])) := by
                conv => lhs; unfold exS
                exact (if_neg (by decide)).trans ((if_neg (by decide)).trans ((if_pos rfl).trans ((if_neg (fun z => q1 z.2)).trans (if_neg (fun z => q2 z.2)))))
              refine tst _ ?_ eS
              simp only [↓ckE, ↓reduceIte, kC, CK, Nat.reduceAdd, m4, f1', f2', bdE, et, hr]
    · obtain ⟨F, rfl⟩ : ∃ m, F = m + 1 := ⟨F - 1, by omega⟩
      have es : Int32.ofNat i + 1 = Int32.ofNat (i + 1) := iN_s
      unfold f_X5_takeEither_B_L13
      by_cases q : tx T Ln p = 124
      · have l1 := tx_le q (by omega)
        have m1 : ¬ (100 : Int32) ≤ Int32.ofNat i := fun z => by have := (geN 100 100 rfl (by decide) (by omega)).mp z; omega
        obtain ⟨f1, h1⟩ := c_take1 (ad := ad) (D := D) (cA := cA) h hB (by omega) q
        have f1' : f_X5_take (XC ad D cA) 3 124 μ = _ := f1
        have eS : exS T Ln (n + 1) 3 d p = bnd (exS T Ln n 1 d (p + 1)) (fun q a => bnd (exS T Ln n 3 d q) (fun q' b => (q', some (a ++ (3, 0, 0, 0) :: b)))) := by
          conv => lhs; unfold exS
          exact (if_neg (by decide)).trans ((if_neg (by decide)).trans ((if_neg (by decide)).trans ((if_pos rfl).trans (if_pos q))))
        have ob := exS_b (T := T) n 1 d (p + 1) l1
        rw [eS]
        rcases (ih d _ _ _ hd h1).1 1 zf (by omega) (by show 5 * (Ln + 1 - (p + 1)) + 2 ≤ n; omega) (by omega) with ⟨a, μ2, ea, e2, h2⟩ | ⟨tk', μ2, ea, e2, h2⟩
        · rw [bnd_s ea]
          obtain ⟨o1, o2⟩ := ob.2.2 a ea
          have o2' := o2 (by omega)
          obtain ⟨μ3, e3, h3⟩ := c_put (ad := ad) (D := D) (cA := cA) (t := (3, 0, 0, 0)) h2 hB (by rw [len_ap]; omega)
          have e3' : f_X4_put (XC ad D cA) l (-3) μ2 = _ := e3
          rcases (ih d _ _ μ3 hd h3).2.1 zf (i + 1) F (by omega) (by omega) (by omega) (by omega) with ⟨b, μ4, eb, e4, h4⟩ | ⟨tk', μ4, eb, e4, h4⟩
          · rw [bnd_s eb]
            refine Or.inl ⟨_, μ4, rfl, ?_, by rw [show tk ++ (a ++ (3, 0, 0, 0) :: b) = tk ++ a ++ [(3, 0, 0, 0)] ++ b from by simp]; exact h4⟩
            simp only [↓ckE, ↓reduceIte, kC, CK, Nat.reduceAdd, m1, f1', bdE, iE, e2, k0, e3', es, e4]
          · rw [bnd_n eb]
            refine Or.inr ⟨tk', μ4, rfl, ?_, h4⟩
            simp only [↓ckE, ↓reduceIte, kC, CK, Nat.reduceAdd, m1, f1', bdE, iE, e2, k0, e3', es, e4]
        · rw [bnd_n ea]
          refine Or.inr ⟨tk', μ2, rfl, ?_, h2⟩
          simp only [↓ckE, ↓reduceIte, kC, CK, Nat.reduceAdd, m1, f1', bdE, iE, e2, true_or]
      · have f1' : f_X5_take (XC ad D cA) 3 124 μ = _ := c_take0 (ad := ad) (D := D) (cA := cA) h hB (c := 124) (by omega) q
        have eS : exS T Ln (n + 1) 3 d p = (p, some []) := by
          conv => lhs; unfold exS
          exact (if_neg (by decide)).trans ((if_neg (by decide)).trans ((if_neg (by decide)).trans ((if_pos rfl).trans (if_neg q))))
        rw [eS]
        refine Or.inl ⟨[], μ, rfl, ?_, by rw [List.append_nil]; exact h⟩
        by_cases m1 : (100 : Int32) ≤ Int32.ofNat i
        · simp only [↓ckE, ↓reduceIte, m1, or_true]
        · simp only [↓ckE, ↓reduceIte, kC, CK, Nat.reduceAdd, m1, f1', bdE, or_true]
    · obtain ⟨F, rfl⟩ : ∃ m, F = m + 1 := ⟨F - 1, by omega⟩
      have es : Int32.ofNat i + 1 = Int32.ofNat (i + 1) := iN_s
      unfold f_X5_takeBoth_B_L13
      by_cases q : tx T Ln p = 38
      · have l1 := tx_le q (by omega)
        have m1 : ¬ (100 : Int32) ≤ Int32.ofNat i := fun z => by have := (geN 100 100 rfl (by decide) (by omega)).mp z; omega
        obtain ⟨f1, h1⟩ := c_take1 (ad := ad) (D := D) (cA := cA) h hB (by omega) q
        have f1' : f_X5_take (XC ad D cA) 3 38 μ = _ := f1
        have eS : exS T Ln (n + 1) 4 d p = bnd (exS T Ln n 2 d (p + 1)) (fun q a => bnd (exS T Ln n 4 d q) (fun q' b => (q', some (a ++ (2, 0, 0, 0) :: b)))) := by
          conv => lhs; unfold exS
          exact (if_neg (by decide)).trans ((if_neg (by decide)).trans ((if_neg (by decide)).trans ((if_neg (by decide)).trans (if_pos q))))
        have ob := exS_b (T := T) n 2 d (p + 1) l1
        rw [eS]
        rcases (ih d _ _ _ hd h1).1 2 zf (by omega) (by show 5 * (Ln + 1 - (p + 1)) + 1 ≤ n; omega) (by omega) with ⟨a, μ2, ea, e2, h2⟩ | ⟨tk', μ2, ea, e2, h2⟩
        · rw [bnd_s ea]
          obtain ⟨o1, o2⟩ := ob.2.2 a ea
          have o2' := o2 (by omega)
          obtain ⟨μ3, e3, h3⟩ := c_put (ad := ad) (D := D) (cA := cA) (t := (2, 0, 0, 0)) h2 hB (by rw [len_ap]; omega)
          have e3' : f_X4_put (XC ad D cA) l (-2) μ2 = _ := e3
          rcases (ih d _ _ μ3 hd h3).2.2 zf (i + 1) F (by omega) (by omega) (by omega) (by omega) with ⟨b, μ4, eb, e4, h4⟩ | ⟨tk', μ4, eb, e4, h4⟩
          · rw [bnd_s eb]
            refine Or.inl ⟨_, μ4, rfl, ?_, by rw [show tk ++ (a ++ (2, 0, 0, 0) :: b) = tk ++ a ++ [(2, 0, 0, 0)] ++ b from by simp]; exact h4⟩
            simp only [↓ckE, ↓reduceIte, kC, CK, Nat.reduceAdd, m1, f1', bdE, iE, e2, k0, e3', es, e4]
          · rw [bnd_n eb]
            refine Or.inr ⟨tk', μ4, rfl, ?_, h4⟩
            simp only [↓ckE, ↓reduceIte, kC, CK, Nat.reduceAdd, m1, f1', bdE, iE, e2, k0, e3', es, e4]
        · rw [bnd_n ea]
          refine Or.inr ⟨tk', μ2, rfl, ?_, h2⟩
          simp only [↓ckE, ↓reduceIte, kC, CK, Nat.reduceAdd, m1, f1', bdE, iE, e2, true_or]
      · have f1' : f_X5_take (XC ad D cA) 3 38 μ = _ := c_take0 (ad := ad) (D := D) (cA := cA) h hB (c := 38) (by omega) q
        have eS : exS T Ln (n + 1) 4 d p = (p, some []) := by
          conv => lhs; unfold exS
          exact (if_neg (by decide)).trans ((if_neg (by decide)).trans ((if_neg (by decide)).trans ((if_neg (by decide)).trans (if_neg q))))
        rw [eS]
        refine Or.inl ⟨[], μ, rfl, ?_, by rw [List.append_nil]; exact h⟩
        by_cases m1 : (100 : Int32) ≤ Int32.ofNat i
        · simp only [↓ckE, ↓reduceIte, m1, or_true]
        · simp only [↓ckE, ↓reduceIte, kC, CK, Nat.reduceAdd, m1, f1', bdE, or_true]
end EXC
