/-! ===== law: the reference reads an expression as it should be read ===== -/
def pnd (b e : Bool) (st : List Nat) : List Nat := (if b then [38] else []) ++ ((if e then [124] else []) ++ st)
def pna (b : Bool) : List Tok := if b then [(2, 0, 0, 0)] else []
def pno (e : Bool) : List Tok := if e then [(3, 0, 0, 0)] else []
def bas (st : List Nat) : Prop := st = [] ∨ ∃ r, st = 40 :: r
theorem pnd_c {b e : Bool} {st : List Nat} (hs : bas st) : cnt (pnd b e st) = cnt st ∧ stp (pnd b e st) = pnd b e st ∧ nts (pnd b e st) = [] ∧ sps 38 (pnd b e st) = pnd false e st ∧ sts 38 (pnd b e st) = pna b ∧ sps 124 (pnd b e st) = st ∧ sts 124 (pnd b e st) = pna b ++ pno e := by
  rcases hs with rfl | ⟨r, rfl⟩ <;> cases b <;> cases e <;> simp [pnd, pna, pno, cnt, stp, nts, sps, sts]
theorem tst_n {T : Nat → Nat} {Ln p : Nat} (h : tx T Ln p = 33 ∨ tx T Ln p = 40) : tstS T Ln p = (p, none) := by
  unfold tstS
  have e : idx 33 (strs (811 + 5)) 0 < 0 ∧ idx 40 (strs (811 + 5)) 0 < 0 := by decide +kernel
  rcases h with h | h
  · rw [h, if_pos e.1]
  · rw [h, if_pos e.2]
section EXR
variable {ad : Nat → Nat} {D : va_G} {cA : Nat → ClassId} {ν0 : x_M} {T : Nat → Nat} {Ln B0 ci : Nat}
theorem E0.le {ν : x_M} {p : Nat} {st : List Nat} {tk : List Tok} (h : E0 T Ln B0 ci ν0 ν p st tk) : p ≤ Ln := by
  obtain ⟨_, _, h⟩ := h; exact h.2.1.2
def FL (T : Nat → Nat) (Ln B0 ci : Nat) (ν0 : x_M) (r : Nat × Option (List Tok)) (o : Option (Int32 × x_M)) : Prop := r.2 = none ∧ ∃ ν' st' tk', o = some (0, ν') ∧ E0 T Ln B0 ci ν0 ν' r.1 st' tk'
def RA (ad : Nat → Nat) (D : va_G) (cA : Nat → ClassId) (T : Nat → Nat) (Ln B0 ci : Nat) (ν0 : x_M) (n : Nat) : Prop :=
  (∀ p st tk ν F, E0 T Ln B0 ci ν0 ν p st tk → cnt st ≤ 4 → Ln < p + F → 5 * (Ln + 1 - p) + 1 ≤ n → (∃ a ν' F', (exS T Ln n 2 (cnt st) p).2 = some a ∧ f_X10_takesE_L22 (XR ad D cA) F 600 (Int32.ofNat ci) 1 ν = f_X10_takesE_L22 (XR ad D cA) F' 600 (Int32.ofNat ci) 0 ν' ∧ Ln < (exS T Ln n 2 (cnt st) p).1 + F' ∧ E0 T Ln B0 ci ν0 ν' (exS T Ln n 2 (cnt st) p).1 (stp st) (tk ++ a ++ nts st)) ∨ FL T Ln B0 ci ν0 (exS T Ln n 2 (cnt st) p) (f_X10_takesE_L22 (XR ad D cA) F 600 (Int32.ofNat ci) 1 ν)) ∧
  (∀ p st tk ν F e, bas st → E0 T Ln B0 ci ν0 ν p (pnd false e st) tk → cnt st ≤ 4 → Ln < p + F → 5 * (Ln + 1 - p) + 2 ≤ n → (∃ a b tk' ν' F', (exS T Ln n 1 (cnt st) p).2 = some a ∧ f_X10_takesE_L22 (XR ad D cA) F 600 (Int32.ofNat ci) 1 ν = f_X10_takesE_L22 (XR ad D cA) F' 600 (Int32.ofNat ci) 0 ν' ∧ Ln < (exS T Ln n 1 (cnt st) p).1 + F' ∧ E0 T Ln B0 ci ν0 ν' (exS T Ln n 1 (cnt st) p).1 (pnd b e st) tk' ∧ tk' ++ pna b = tk ++ a ∧ ¬ tx T Ln (exS T Ln n 1 (cnt st) p).1 = 38) ∨ FL T Ln B0 ci ν0 (exS T Ln n 1 (cnt st) p) (f_X10_takesE_L22 (XR ad D cA) F 600 (Int32.ofNat ci) 1 ν)) ∧
  (∀ p st tk0 tk ν F b e, bas st → E0 T Ln B0 ci ν0 ν p (pnd b e st) tk0 → tk0 ++ pna b = tk → cnt st ≤ 4 → Ln < p + F → 5 * (Ln + 1 - p) + 1 ≤ n → (∃ a b' tk' ν' F', (exS T Ln n 4 (cnt st) p).2 = some a ∧ f_X10_takesE_L22 (XR ad D cA) F 600 (Int32.ofNat ci) 0 ν = f_X10_takesE_L22 (XR ad D cA) F' 600 (Int32.ofNat ci) 0 ν' ∧ Ln < (exS T Ln n 4 (cnt st) p).1 + F' ∧ E0 T Ln B0 ci ν0 ν' (exS T Ln n 4 (cnt st) p).1 (pnd b' e st) tk' ∧ tk' ++ pna b' = tk ++ a ∧ ¬ tx T Ln (exS T Ln n 4 (cnt st) p).1 = 38) ∨ FL T Ln B0 ci ν0 (exS T Ln n 4 (cnt st) p) (f_X10_takesE_L22 (XR ad D cA) F 600 (Int32.ofNat ci) 0 ν)) ∧
  (∀ p st tk ν F, bas st → E0 T Ln B0 ci ν0 ν p st tk → cnt st ≤ 4 → Ln < p + F → 5 * (Ln + 1 - p) + 3 ≤ n → (∃ a b e tk' ν' F', (exS T Ln n 0 (cnt st) p).2 = some a ∧ f_X10_takesE_L22 (XR ad D cA) F 600 (Int32.ofNat ci) 1 ν = f_X10_takesE_L22 (XR ad D cA) F' 600 (Int32.ofNat ci) 0 ν' ∧ Ln < (exS T Ln n 0 (cnt st) p).1 + F' ∧ E0 T Ln B0 ci ν0 ν' (exS T Ln n 0 (cnt st) p).1 (pnd b e st) tk' ∧ tk' ++ (pna b ++ pno e) = tk ++ a ∧ ¬ tx T Ln (exS T Ln n 0 (cnt st) p).1 = 38 ∧ ¬ tx T Ln (exS T Ln n 0 (cnt st) p).1 = 124) ∨ FL T Ln B0 ci ν0 (exS T Ln n 0 (cnt st) p) (f_X10_takesE_L22 (XR ad D cA) F 600 (Int32.ofNat ci) 1 ν)) ∧
  (∀ p st tk0 tk ν F b e, bas st → E0 T Ln B0 ci ν0 ν p (pnd b e st) tk0 → tk0 ++ (pna b ++ pno e) = tk → ¬ tx T Ln p = 38 → cnt st ≤ 4 → Ln < p + F → 5 * (Ln + 1 - p) + 1 ≤ n → (∃ a b' e' tk' ν' F', (exS T Ln n 3 (cnt st) p).2 = some a ∧ f_X10_takesE_L22 (XR ad D cA) F 600 (Int32.ofNat ci) 0 ν = f_X10_takesE_L22 (XR ad D cA) F' 600 (Int32.ofNat ci) 0 ν' ∧ Ln < (exS T Ln n 3 (cnt st) p).1 + F' ∧ E0 T Ln B0 ci ν0 ν' (exS T Ln n 3 (cnt st) p).1 (pnd b' e' st) tk' ∧ tk' ++ (pna b' ++ pno e') = tk ++ a ∧ ¬ tx T Ln (exS T Ln n 3 (cnt st) p).1 = 38 ∧ ¬ tx T Ln (exS T Ln n 3 (cnt st) p).1 = 124) ∨ FL T Ln B0 ci ν0 (exS T Ln n 3 (cnt st) p) (f_X10_takesE_L22 (XR ad D cA) F 600 (Int32.ofNat ci) 0 ν))
theorem r_expr (hB : Br ν0 T Ln) (hb : B0 ≤ 500) (hci : ci < 60) : ∀ n, RA ad D cA T Ln B0 ci ν0 n := by
  intro n
  induction n with
  | zero => exact ⟨fun p st tk ν F _ _ _ h => by omega, fun p st tk ν F e _ _ _ _ h => by omega, fun p st tk0 tk ν F b e _ _ _ _ _ h => by omega, fun p st tk ν F _ _ _ _ h => by omega, fun p st tk0 tk ν F b e _ _ _ _ _ _ h => by omega⟩
  | succ n ih =>
    obtain ⟨i1, i2, i3, i4, i5⟩ := ih
    refine ⟨fun p st tk ν F h hd hF hn => ?_, fun p st tk ν F e hs h hd hF hn => ?_, fun p st tk0 tk ν F b e hs h ht hd hF hn => ?_, fun p st tk ν F hs h hd hF hn => ?_, fun p st tk0 tk ν F b e hs h ht n38 hd hF hn => ?_⟩
    · have hp := h.le
      obtain ⟨F, rfl⟩ : ∃ m, F = m + 1 := ⟨F - 1, by omega⟩
      have tst : exS T Ln (n + 1) 2 (cnt st) p = ((tstS T Ln p).1, (tstS T Ln p).2.map (fun t => [t])) → ((tx T Ln p = 33 ∨ tx T Ln p = 40) → cnt st = 4) → (∃ a ν' F', (exS T Ln (n + 1) 2 (cnt st) p).2 = some a ∧ f_X10_takesE_L22 (XR ad D cA) (F + 1) 600 (Int32.ofNat ci) 1 ν = f_X10_takesE_L22 (XR ad D cA) F' 600 (Int32.ofNat ci) 0 ν' ∧ Ln < (exS T Ln (n + 1) 2 (cnt st) p).1 + F' ∧ E0 T Ln B0 ci ν0 ν' (exS T Ln (n + 1) 2 (cnt st) p).1 (stp st) (tk ++ a ++ nts st)) ∨ FL T Ln B0 ci ν0 (exS T Ln (n + 1) 2 (cnt st) p) (f_X10_takesE_L22 (XR ad D cA) (F + 1) 600 (Int32.ofNat ci) 1 ν) := by
        intro eS h4
        rw [eS]
        by_cases c : tx T Ln p = 33 ∨ tx T Ln p = 40
        · rw [tst_n c]
          refine Or.inr ⟨rfl, ν, st, tk, ?_, h⟩
          rcases c with c | c
          · exact m1_full h hB (Or.inl rfl) c (h4 (Or.inl c))
          · exact m1_full h hB (Or.inr rfl) c (h4 (Or.inr c))
        · rcases m1_test (ad := ad) (D := D) (cA := cA) (F := F) h hB hb (fun z => c (Or.inl z)) (fun z => c (Or.inr z)) with ⟨q, t, ν', e1, e2, h1⟩ | ⟨q, ν', e1, e2, h1⟩
          · have tb := tst_b (T := T) (Ln := Ln) hp
            rw [e1] at tb ⊢
            have := tb.2.2 t rfl
            exact Or.inl ⟨[t], ν', F, rfl, e2, by simp only [] at *; omega, h1⟩
          · rw [e1]
            exact Or.inr ⟨rfl, ν', st, tk, e2, h1⟩
      by_cases q1 : cnt st < 4 ∧ tx T Ln p = 40
      · have l1 := tx_le q1.2 (by omega)
        have eS : exS T Ln (n + 1) 2 (cnt st) p = bnd (exS T Ln n 0 (cnt st + 1) (p + 1)) (fun q a => if tx T Ln q = 41 then (q + 1, some a) else (q, none)) := by
          conv => lhs; unfold exS
          exact (if_neg (by decide)).trans ((if_neg (by decide)).trans ((if_pos rfl).trans (if_pos q1)))
        obtain ⟨ν1, e1, h1⟩ := m1_push (ad := ad) (D := D) (cA := cA) (F := F) h hB (Or.inr rfl) q1.2 q1.1
        have hcn : cnt (40 :: st) = cnt st + 1 := by show (if (40 : Nat) = 40 ∨ 40 = 33 then 1 else 0) + cnt st = _; rw [if_pos (Or.inl rfl)]; omega
        have r := i4 (p + 1) (40 :: st) tk ν1 F (Or.inr ⟨st, rfl⟩) h1 (by omega) (by omega) (by omega)
        rw [hcn] at r
        rw [eS, e1]
        rcases r with ⟨a, b, e, tk', ν2, F', ea, e2, f2, h2, t2, n38, n124⟩ | ⟨ea, ν2, st', tk', e2, h2⟩
        · rw [bnd_s ea, e2]
          have l2 := h2.le
          obtain ⟨F', rfl⟩ : ∃ m, F' = m + 1 := ⟨F' - 1, by omega⟩
          obtain ⟨-, -, -, -, -, p6, p7⟩ := pnd_c (b := b) (e := e) (st := 40 :: st) (Or.inr ⟨st, rfl⟩)
          obtain ⟨ν3, h3, -, -, g2, g3⟩ := m0_end (ad := ad) (D := D) (cA := cA) (F := F') h2 hB hb hci n38 n124
          rw [p6, p7] at h3
          rw [p6] at g2
          rw [p6, p7] at g3
          by_cases q3 : tx T Ln (exS T Ln n 0 (cnt st + 1) (p + 1)).1 = 41
          · rw [if_pos q3]
            obtain ⟨ν4, e4, h4⟩ := g3 st rfl q3
            rw [t2] at h4
            exact Or.inl ⟨a, ν4, F', rfl, e4, by simp only []; omega, h4⟩
          · rw [if_neg q3]
            exact Or.inr ⟨rfl, ν3, _, _, g2 (by simp) q3, h3⟩
        · rw [bnd_n ea, e2]
          exact Or.inr ⟨rfl, ν2, st', tk', rfl, h2⟩
      · by_cases q2 : cnt st < 4 ∧ tx T Ln p = 33
        · have l1 := tx_le q2.2 (by omega)
          have eS : exS T Ln (n + 1) 2 (cnt st) p = bnd (exS T Ln n 2 (cnt st + 1) (p + 1)) (fun q a => (q, some (a ++ [(1, 0, 0, 0)]))) := by
            conv => lhs; unfold exS
            exact (if_neg (by decide)).trans ((if_neg (by decide)).trans ((if_pos rfl).trans ((if_neg q1).trans (if_pos q2))))
          obtain ⟨ν1, e1, h1⟩ := m1_push (ad := ad) (D := D) (cA := cA) (F := F) h hB (Or.inl rfl) q2.2 q2.1
          have hcn : cnt (33 :: st) = cnt st + 1 := by show (if (33 : Nat) = 40 ∨ 33 = 33 then 1 else 0) + cnt st = _; rw [if_pos (Or.inr rfl)]; omega
          have r := i1 (p + 1) (33 :: st) tk ν1 F h1 (by omega) (by omega) (by omega)
          rw [hcn] at r
          rw [eS, e1]
          rcases r with ⟨a, ν2, F', ea, e2, f2, h2⟩ | ⟨ea, ν2, st', tk', e2, h2⟩
          · rw [bnd_s ea]
            refine Or.inl ⟨_, ν2, F', rfl, e2, f2, ?_⟩
            have p1 : stp (33 :: st) = stp st := if_pos rfl
            have p2 : nts (33 :: st) = (1, 0, 0, 0) :: nts st := if_pos rfl
            rw [p1, p2] at h2
            rw [show tk ++ (a ++ [(1, 0, 0, 0)]) ++ nts st = tk ++ a ++ (1, 0, 0, 0) :: nts st from by simp]
            exact h2
          · rw [bnd_n ea, e2]
            exact Or.inr ⟨rfl, ν2, st', tk', rfl, h2⟩
        · refine tst ?_ (fun c => ?_)
          · conv => lhs; unfold exS
            exact (if_neg (by decide)).trans ((if_neg (by decide)).trans ((if_pos rfl).trans ((if_neg q1).trans (if_neg q2))))
          · by_cases z : cnt st < 4
            · rcases c with c | c
              · exact absurd ⟨z, c⟩ q2
              · exact absurd ⟨z, c⟩ q1
            · omega
    · have hp := h.le
      obtain ⟨p1, p2, p3, -⟩ := pnd_c (b := false) (e := e) hs
      have eS : exS T Ln (n + 1) 1 (cnt st) p = bnd (exS T Ln n 2 (cnt st) p) (fun q a => bnd (exS T Ln n 4 (cnt st) q) (fun q' b => (q', some (a ++ b)))) := by
        conv => lhs; unfold exS
        exact (if_neg (by decide)).trans (if_pos rfl)
      have ob := exS_b (T := T) n 2 (cnt st) p hp
      have r := i1 p _ tk ν F h (by rw [p1]; exact hd) hF (by omega)
      rw [p1, p2, p3] at r
      rw [eS]
      rcases r with ⟨a, ν2, F', ea, e2, f2, h2⟩ | ⟨ea, ν2, st', tk', e2, h2⟩
      · rw [bnd_s ea, e2]
        rw [List.append_nil] at h2
        have o2 := (ob.2.2 a ea).2 (by omega)
        rcases i3 _ st _ (tk ++ a) ν2 F' false e hs h2 (by show tk ++ a ++ [] = _; rw [List.append_nil]) hd f2 (by omega) with ⟨a2, b', tk2, ν3, F2, ea2, e3, f3, h3, t3, n3⟩ | ⟨ea2, ν3, st', tk', e3, h3⟩
        · rw [bnd_s ea2]
          exact Or.inl ⟨_, b', tk2, ν3, F2, rfl, e3, f3, h3, by rw [t3, List.append_assoc], n3⟩
        · rw [bnd_n ea2]
          exact Or.inr ⟨rfl, ν3, st', tk', e3, h3⟩
      · rw [bnd_n ea, e2]
        exact Or.inr ⟨rfl, ν2, st', tk', rfl, h2⟩
    · have hp := h.le
      obtain ⟨F, rfl⟩ : ∃ m, F = m + 1 := ⟨F - 1, by omega⟩
      obtain ⟨p1, -, -, p4, p5, -, -⟩ := pnd_c (b := b) (e := e) hs
      by_cases q : tx T Ln p = 38
      · have l1 := tx_le q (by omega)
        have eS : exS T Ln (n + 1) 4 (cnt st) p = bnd (exS T Ln n 2 (cnt st) (p + 1)) (fun q a => bnd (exS T Ln n 4 (cnt st) q) (fun q' b => (q', some (a ++ (2, 0, 0, 0) :: b)))) := by
          conv => lhs; unfold exS
          exact (if_neg (by decide)).trans ((if_neg (by decide)).trans ((if_neg (by decide)).trans ((if_neg (by decide)).trans (if_pos q))))
        have ob := exS_b (T := T) n 2 (cnt st) (p + 1) l1
        obtain ⟨ν1, e1, h1⟩ := m0_op (ad := ad) (D := D) (cA := cA) (F := F) h hB hb (Or.inl rfl) q
        rw [p4, p5, ht] at h1
        have h1 : E0 T Ln B0 ci ν0 ν1 (p + 1) (pnd true e st) tk := h1
        obtain ⟨c1, c2, c3, -⟩ := pnd_c (b := true) (e := e) hs
        have r := i1 (p + 1) _ tk ν1 F h1 (by rw [c1]; exact hd) (by omega) (by omega)
        rw [c1, c2, c3] at r
        rw [eS, e1]
        rcases r with ⟨a, ν2, F', ea, e2, f2, h2⟩ | ⟨ea, ν2, st', tk', e2, h2⟩
        · rw [bnd_s ea, e2]
          rw [List.append_nil] at h2
          have o2 := (ob.2.2 a ea).2 (by omega)
          rcases i3 _ st _ (tk ++ a ++ [(2, 0, 0, 0)]) ν2 F' true e hs h2 rfl hd f2 (by omega) with ⟨a2, b', tk2, ν3, F2, ea2, e3, f3, h3, t3, n3⟩ | ⟨ea2, ν3, st', tk', e3, h3⟩
          · rw [bnd_s ea2]
            exact Or.inl ⟨_, b', tk2, ν3, F2, rfl, e3, f3, h3, by rw [t3]; simp, n3⟩
          · rw [bnd_n ea2]
            exact Or.inr ⟨rfl, ν3, st', tk', e3, h3⟩
        · rw [bnd_n ea, e2]
          exact Or.inr ⟨rfl, ν2, st', tk', rfl, h2⟩
      · have eS : exS T Ln (n + 1) 4 (cnt st) p = (p, some []) := by
          conv => lhs; unfold exS
          exact (if_neg (by decide)).trans ((if_neg (by decide)).trans ((if_neg (by decide)).trans ((if_neg (by decide)).trans (if_neg q))))
        rw [eS]
        exact Or.inl ⟨[], b, tk0, ν, F + 1, rfl, rfl, hF, h, by rw [ht, List.append_nil], q⟩
    · have hp := h.le
      have eS : exS T Ln (n + 1) 0 (cnt st) p = bnd (exS T Ln n 1 (cnt st) p) (fun q a => bnd (exS T Ln n 3 (cnt st) q) (fun q' b => (q', some (a ++ b)))) := by
        conv => lhs; unfold exS
        exact if_pos rfl
      have ob := exS_b (T := T) n 1 (cnt st) p hp
      rw [eS]
      rcases i2 p st tk ν F false hs h hd hF (by omega) with ⟨a, b, tk1, ν2, F', ea, e2, f2, h2, t2, n2⟩ | ⟨ea, ν2, st', tk', e2, h2⟩
      · rw [bnd_s ea, e2]
        have o2 := (ob.2.2 a ea).2 (by omega)
        rcases i5 _ st tk1 (tk ++ a) ν2 F' b false hs h2 (by show tk1 ++ (pna b ++ []) = _; rw [List.append_nil, t2]) n2 hd f2 (by omega) with ⟨a2, b', e', tk2, ν3, F2, ea2, e3, f3, h3, t3, n3⟩ | ⟨ea2, ν3, st', tk', e3, h3⟩
        · rw [bnd_s ea2]
          exact Or.inl ⟨_, b', e', tk2, ν3, F2, rfl, e3, f3, h3, by rw [t3, List.append_assoc], n3⟩
        · rw [bnd_n ea2]
          exact Or.inr ⟨rfl, ν3, st', tk', e3, h3⟩
      · rw [bnd_n ea, e2]
        exact Or.inr ⟨rfl, ν2, st', tk', rfl, h2⟩
    · have hp := h.le
      obtain ⟨F, rfl⟩ : ∃ m, F = m + 1 := ⟨F - 1, by omega⟩
      obtain ⟨p1, -, -, -, -, p6, p7⟩ := pnd_c (b := b) (e := e) hs
      by_cases q : tx T Ln p = 124
      · have l1 := tx_le q (by omega)
        have eS : exS T Ln (n + 1) 3 (cnt st) p = bnd (exS T Ln n 1 (cnt st) (p + 1)) (fun q a => bnd (exS T Ln n 3 (cnt st) q) (fun q' b => (q', some (a ++ (3, 0, 0, 0) :: b)))) := by
          conv => lhs; unfold exS
          exact (if_neg (by decide)).trans ((if_neg (by decide)).trans ((if_neg (by decide)).trans ((if_pos rfl).trans (if_pos q))))
        have ob := exS_b (T := T) n 1 (cnt st) (p + 1) l1
        obtain ⟨ν1, e1, h1⟩ := m0_op (ad := ad) (D := D) (cA := cA) (F := F) h hB hb (Or.inr rfl) q
        rw [p6, p7, ht] at h1
        have h1 : E0 T Ln B0 ci ν0 ν1 (p + 1) (pnd false true st) tk := h1
        rw [eS, e1]
        rcases i2 (p + 1) st tk ν1 F true hs h1 hd (by omega) (by omega) with ⟨a, b1, tk1, ν2, F', ea, e2, f2, h2, t2, n2⟩ | ⟨ea, ν2, st', tk', e2, h2⟩
        · rw [bnd_s ea, e2]
          have o2 := (ob.2.2 a ea).2 (by omega)
          rcases i5 _ st tk1 (tk ++ a ++ [(3, 0, 0, 0)]) ν2 F' b1 true hs h2 (by show tk1 ++ (pna b1 ++ [(3, 0, 0, 0)]) = _; rw [← List.append_assoc, t2]) n2 hd f2 (by omega) with ⟨a2, b', e', tk2, ν3, F2, ea2, e3, f3, h3, t3, n3⟩ | ⟨ea2, ν3, st', tk', e3, h3⟩
          · rw [bnd_s ea2]
            exact Or.inl ⟨_, b', e', tk2, ν3, F2, rfl, e3, f3, h3, by rw [t3]; simp, n3⟩
          · rw [bnd_n ea2]
            exact Or.inr ⟨rfl, ν3, st', tk', e3, h3⟩
        · rw [bnd_n ea, e2]
          exact Or.inr ⟨rfl, ν2, st', tk', rfl, h2⟩
      · have eS : exS T Ln (n + 1) 3 (cnt st) p = (p, some []) := by
          conv => lhs; unfold exS
          exact (if_neg (by decide)).trans ((if_neg (by decide)).trans ((if_neg (by decide)).trans ((if_pos rfl).trans (if_neg q))))
        rw [eS]
        exact Or.inl ⟨[], b, e, tk0, ν, F + 1, rfl, rfl, hF, h, by rw [ht, List.append_nil], n38, q⟩
end EXR
