/-! ===== law: the class reads the text ===== -/
def lawS (T : Nat → Nat) (Ln : Nat) : Nat → Nat → Nat × Option LawA
  | 0, p => (p, none)
  | m + 1, p =>
    match (clS T Ln p).2 with
    | none => ((clS T Ln p).1, none)
    | some c =>
      if (clS T Ln p).1 < Ln then
        if m = 0 then ((clS T Ln p).1, none)
        else if tx T Ln (clS T Ln p).1 = 59 then
          match (lawS T Ln m ((clS T Ln p).1 + 1)).2 with
          | none => ((lawS T Ln m ((clS T Ln p).1 + 1)).1, none)
          | some A => ((lawS T Ln m ((clS T Ln p).1 + 1)).1, some (c :: A))
        else ((clS T Ln p).1, none)
      else ((clS T Ln p).1, some [c])
def LR (T : Nat → Nat) (Ln l : Nat) (μ0 : x_M) (A : LawA) (r : Nat × Option LawA) (o : Option (Int32 × x_M)) : Prop := (∃ A' μ', r.2 = some A' ∧ o = some (-5, μ') ∧ Cs T Ln l μ0 μ' r.1 (A ++ A')) ∨ ∃ μ', r.2 = none ∧ o = some (Int32.ofNat r.1, μ') ∧ frC (pcL l) μ0 μ' ∧ r.1 ≤ Ln
section PRS
variable {ad : Nat → Nat} {D : va_G} {cA : Nat → ClassId} {μ0 : x_M} {T : Nat → Nat} {Ln l : Nat}
/-- one clause: to its end, or to its fault -/
theorem c_clause {μ : x_M} {p i : Nat} {A : LawA} {k : Nat → Nat → Int32 → x_M → Option (Int32 × x_M)} (h : Cs T Ln l μ0 μ p A) (hB : Bs μ0 l T Ln) (hA : A.length + 1 ≤ 10) : (∃ c μ', (clS T Ln p).2 = some c ∧ Cs T Ln l μ0 μ' (clS T Ln p).1 (A ++ [c]) ∧ f_X5_parse_J35 (XC ad D cA) k 3 l (Int32.ofNat i) μ = if (clS T Ln p).1 < Ln then k 3 l (Int32.ofNat (i + 1)) μ' else some (-5, μ')) ∨ ∃ μ', (clS T Ln p).2 = none ∧ f_X5_parse_J35 (XC ad D cA) k 3 l (Int32.ofNat i) μ = some (Int32.ofNat (clS T Ln p).1, μ') ∧ frC (pcL l) μ0 μ' ∧ (clS T Ln p).1 ≤ Ln := by
  have hBm := h.B hB
  have hL : Ln ≤ 100 := hB.2.1
  obtain ⟨k0, -⟩ := lawK l hB.1.2.1
  have n5 : ¬ (0 : Int32) ≤ -1 := by decide
  have n6 : (-1 : Int32) < 0 := by decide
  have h1 : Ps T Ln l μ μ p (tkA A) := h.2.1
  have bad : ∀ {q : Nat} {tk : List Tok} {μ' : x_M}, Ps T Ln l μ μ' q tk → frC (pcL l) μ0 μ' := fun z => h.1.tr (z.1.up (fun o k w => pcC_L w))
  have es : Int32.ofNat i + 1 = Int32.ofNat (i + 1) := iN_s
  -- the end of a clause
  have tl : ∀ {q : Nat} {B : LawA} {μ' : x_M}, Cs T Ln l μ0 μ' q B → (if μ'.1 3 2 < μ'.1 3 1 then k 3 l (Int32.ofNat (i + 1)) μ' else some (-5, μ')) = if q < Ln then k 3 l (Int32.ofNat (i + 1)) μ' else some (-5, μ') := by
    intro q B μ' hc
    have t1 := (hc.B hB).2.2.1
    have t2 := hc.2.1.2.1.1
    have t3 := hc.2.1.2.1.2
    rw [t1, t2]
    by_cases z : q < Ln
    · rw [if_pos ((iN_lt (by omega) (by omega)).mpr z), if_pos z]
    · rw [if_neg (fun y => z ((iN_lt (by omega) (by omega)).mp y)), if_neg z]
  obtain ⟨r, hr⟩ : ∃ r, clS T Ln p = r := ⟨_, rfl⟩
  rw [hr]
  unfold clS at hr
  unfold f_X5_parse_J35
  rcases c_word (ad := ad) (D := D) (cA := cA) h1 hBm with ⟨w, μ1, ew, hw, e1, h2⟩ | ⟨μ1, ew, e1, h2⟩
  · rw [show (wrdS T Ln p).2 = some w from by rw [ew]] at hr
    simp only [] at hr
    have nw : ¬ Int32.ofNat w < 0 := iN_neg (by omega)
    by_cases q1 : tx T Ln (wrdS T Ln p).1 = 32
    · rw [if_pos q1] at hr
      obtain ⟨f1, h3⟩ := c_take1 (ad := ad) (D := D) (cA := cA) h2 hBm (by omega) q1
      have f1' : f_X5_take (XC ad D cA) 3 32 μ1 = _ := f1
      obtain ⟨μ3, e3, h4⟩ := c_num (ad := ad) (D := D) (cA := cA) h3 hBm
      have nb := numS_b (T := T) (Ln := Ln) (p := (wrdS T Ln p).1 + 1) h3.2.1.2
      by_cases q2 : (numS T Ln ((wrdS T Ln p).1 + 1)).1 < 0
      · rw [if_pos q2] at hr
        have m1 : ¬ (0 : Int32) ≤ Int32.ofInt (numS T Ln ((wrdS T Ln p).1 + 1)).1 := fun g => by have := (geI 0 0 rfl (by decide) (by omega)).mp g; omega
        subst hr
        refine Or.inr ⟨μ3, rfl, ?_, bad h4, h4.2.1.2⟩
        unfold f_X5_parse_J61
        simp only [↓ckE, ↓reduceIte, kC, CK, Nat.reduceAdd, e1, bdE, nw, f1', iE, e3, m1, h4.2.1.1]
      · rw [if_neg q2] at hr
        have m1 : (0 : Int32) ≤ Int32.ofInt (numS T Ln ((wrdS T Ln p).1 + 1)).1 := (geI 0 0 rfl (by decide) (by omega)).mpr (by omega)
        have en : Int32.ofInt (numS T Ln ((wrdS T Ln p).1 + 1)).1 = Int32.ofNat (numS T Ln ((wrdS T Ln p).1 + 1)).1.toNat := by rw [iN_I]; exact congrArg Int32.ofInt (by omega)
        by_cases q3 : 2 ≤ w
        · rw [if_pos q3] at hr
          obtain ⟨μ4, e4, h5⟩ := c_tellW (ad := ad) (D := D) (cA := cA) (n := (numS T Ln ((wrdS T Ln p).1 + 1)).1.toNat) h hB h4 ⟨q3, hw⟩ (by omega) hA
          have w0 : ¬ Int32.ofNat w = 0 := fun z => by have := (eqN 0 0 rfl (by omega) (by decide)).mp z; omega
          have w1 : ¬ Int32.ofNat w = 1 := fun z => by have := (eqN 1 1 rfl (by omega) (by decide)).mp z; omega
          subst hr
          refine Or.inl ⟨_, μ4, rfl, h5, ?_⟩
          refine Eq.trans ?_ (tl h5)
          unfold f_X5_parse_J61
          rw [← en] at e4
          simp only [↓ckE, ↓reduceIte, kC, CK, k0, Nat.reduceAdd, e1, bdE, nw, f1', iE, e3, m1, e4, w0, w1, es]
        · rw [if_neg q3] at hr
          have tn : ∀ m' : x_M, f_X4_tell (XC ad D cA) l (Int32.ofNat w) (Int32.ofInt (numS T Ln ((wrdS T Ln p).1 + 1)).1) m' = some ((), m') := fun m' => by
            have : w = 0 ∨ w = 1 := by omega
            unfold f_X4_tell
            rcases this with rfl | rfl <;> simp only [nAt, ↓swE, sw_n, iE, ↓reduceIte]
          have w01 : ∀ (X Y : Option (Int32 × x_M)), (if Int32.ofNat w = 0 then X else (if Int32.ofNat w = 1 then X else Y)) = X := fun X Y => by
            have : w = 0 ∨ w = 1 := by omega
            rcases this with rfl | rfl
            · exact if_pos rfl
            · exact (if_neg (by decide)).trans (if_pos rfl)
          by_cases q4 : tx T Ln (numS T Ln ((wrdS T Ln p).1 + 1)).2 = 32
          · rw [if_pos q4] at hr
            obtain ⟨f4, h5⟩ := c_take1 (ad := ad) (D := D) (cA := cA) h4 hBm (by omega) q4
            have f4' : f_X5_take (XC ad D cA) 3 32 μ3 = _ := f4
            have lq := h5.2.1.2
            rcases (c_expr (ad := ad) (D := D) (cA := cA) hBm FU 0 _ _ _ (by omega) h5).1 0 20 (by omega) (by unfold FU cw; rw [if_pos rfl]; omega) (by omega) with ⟨a, μ5, ea, e5, h6⟩ | ⟨tk', μ5, ea, e5, h6⟩
            · have e5' : f_X5_takeEither (XC ad D cA) 3 l 0 (x_sI μ3 3 2 (Int32.ofNat ((numS T Ln ((wrdS T Ln p).1 + 1)).2 + 1))) = some (1, μ5) := e5
              have wf := ((exS_w hL (fun j hj => (hB.2.2.2 j hj).1) FU 0 0 _ lq a ea).1 (by omega)).2 0 [] (by omega) rfl
              rw [List.append_nil] at wf
              obtain ⟨μ6, e6, h7⟩ := c_close (ad := ad) (D := D) (cA := cA) (w := w) (n := (numS T Ln ((wrdS T Ln p).1 + 1)).1.toNat) h hB h6 (by omega) (by omega) hA wf
              rw [ea] at hr
              simp only [] at hr
              subst hr
              refine Or.inl ⟨_, μ6, rfl, h7, ?_⟩
              refine Eq.trans ?_ (tl h7)
              rw [← en] at e6
              unfold f_X5_parse_J61
              simp only [↓ckE, ↓reduceIte, kC, CK, k0, Nat.reduceAdd, e1, bdE, nw, f1', iE, e3, m1, tn, w01]
              unfold f_X5_parse_J89
              simp only [↓ckE, ↓reduceIte, kC, CK, k0, Nat.reduceAdd, bdE, f4', iE, e5', e6, es]
            · have e5' : f_X5_takeEither (XC ad D cA) 3 l 0 (x_sI μ3 3 2 (Int32.ofNat ((numS T Ln ((wrdS T Ln p).1 + 1)).2 + 1))) = some (0, μ5) := e5
              rw [ea] at hr
              simp only [] at hr
              subst hr
              refine Or.inr ⟨μ5, rfl, ?_, bad h6, h6.2.1.2⟩
              unfold f_X5_parse_J61
              simp only [↓ckE, ↓reduceIte, kC, CK, k0, Nat.reduceAdd, e1, bdE, nw, f1', iE, e3, m1, tn, w01]
              unfold f_X5_parse_J89
              simp only [↓ckE, ↓reduceIte, kC, CK, k0, Nat.reduceAdd, bdE, f4', iE, e5', h6.2.1.1]
          · rw [if_neg q4] at hr
            have f4' : f_X5_take (XC ad D cA) 3 32 μ3 = _ := c_take0 (ad := ad) (D := D) (cA := cA) h4 hBm (c := 32) (by omega) q4
            subst hr
            refine Or.inr ⟨μ3, rfl, ?_, bad h4, h4.2.1.2⟩
            unfold f_X5_parse_J61
            simp only [↓ckE, ↓reduceIte, kC, CK, k0, Nat.reduceAdd, e1, bdE, nw, f1', iE, e3, m1, tn, w01]
            unfold f_X5_parse_J89
            simp only [↓ckE, ↓reduceIte, kC, CK, Nat.reduceAdd, bdE, f4', h4.2.1.1]
    · rw [if_neg q1] at hr
      have f1' : f_X5_take (XC ad D cA) 3 32 μ1 = _ := c_take0 (ad := ad) (D := D) (cA := cA) h2 hBm (c := 32) (by omega) q1
      subst hr
      refine Or.inr ⟨μ1, rfl, ?_, bad h2, h2.2.1.2⟩
      unfold f_X5_parse_J60 f_X5_parse_J61
      simp only [↓ckE, ↓reduceIte, kC, CK, Nat.reduceAdd, e1, bdE, nw, f1', n5, h2.2.1.1]
  · rw [show (wrdS T Ln p).2 = none from by rw [ew]] at hr
    simp only [] at hr
    subst hr
    refine Or.inr ⟨μ1, rfl, ?_, bad h2, h2.2.1.2⟩
    unfold f_X5_parse_J60 f_X5_parse_J61
    simp only [↓ckE, ↓reduceIte, kC, CK, Nat.reduceAdd, e1, bdE, n6, n5, h2.2.1.1]
theorem c_text (hB : Bs μ0 l T Ln) : ∀ (m i F p : Nat) (A : LawA) (μ : x_M), A.length = i → i + (m + 1) = 10 → m < F → Cs T Ln l μ0 μ p A → LR T Ln l μ0 A (lawS T Ln (m + 1) p) (f_X5_parse_J35 (XC ad D cA) (f_X5_parse_L11 (XC ad D cA) F) 3 l (Int32.ofNat i) μ) := by
  intro m
  induction m with
  | zero =>
    intro i F p A μ hi him hF h
    obtain ⟨F, rfl⟩ : ∃ n, F = n + 1 := ⟨F - 1, by omega⟩
    unfold lawS
    rcases c_clause (ad := ad) (D := D) (cA := cA) (k := f_X5_parse_L11 (XC ad D cA) (F + 1)) (i := i) h hB (by omega) with ⟨c, μ', ec, h1, e1⟩ | ⟨μ', ec, e1, f1, l1⟩
    · rw [ec, e1]
      simp only []
      by_cases q : (clS T Ln p).1 < Ln
      · rw [if_pos q, if_pos q]
        simp only [↓reduceIte]
        refine Or.inr ⟨μ', rfl, ?_, h1.1, by simp only []; omega⟩
        have n1 : (10 : Int32) ≤ Int32.ofNat (i + 1) := (geN 10 10 rfl (by decide) (by omega)).mpr (by omega)
        unfold f_X5_parse_L11
        simp only [↓ckE, ↓reduceIte, kC, CK, Nat.reduceAdd, n1, h1.2.1.2.1.1]
      · rw [if_neg q, if_neg q]
        exact Or.inl ⟨[c], μ', rfl, rfl, h1⟩
    · rw [ec, e1]
      exact Or.inr ⟨μ', rfl, rfl, f1, l1⟩
  | succ m ih =>
    intro i F p A μ hi him hF h
    obtain ⟨F, rfl⟩ : ∃ n, F = n + 1 := ⟨F - 1, by omega⟩
    unfold lawS
    rcases c_clause (ad := ad) (D := D) (cA := cA) (k := f_X5_parse_L11 (XC ad D cA) (F + 1)) (i := i) h hB (by omega) with ⟨c, μ', ec, h1, e1⟩ | ⟨μ', ec, e1, f1, l1⟩
    · rw [ec, e1]
      simp only []
      by_cases q : (clS T Ln p).1 < Ln
      · rw [if_pos q, if_pos q, if_neg (by omega)]
        have n1 : ¬ (10 : Int32) ≤ Int32.ofNat (i + 1) := fun z => by have := (geN 10 10 rfl (by decide) (by omega)).mp z; omega
        have n2 : ¬ Int32.ofNat (i + 1) ≤ 0 := fun z => by have := (leN 0 0 rfl (by omega) (by decide)).mp z; omega
        have hBm := h1.B hB
        by_cases q2 : tx T Ln (clS T Ln p).1 = 59
        · rw [if_pos q2]
          obtain ⟨f1, h2⟩ := c_take1 (ad := ad) (D := D) (cA := cA) h1.2.1 hBm (by omega) q2
          have f1' : f_X5_take (XC ad D cA) 3 59 μ' = _ := f1
          have hl := hB.rg
          have fr : frC (pcL l) μ' (x_sI μ' 3 2 (Int32.ofNat ((clS T Ln p).1 + 1))) := frC.sI (Or.inl ⟨rfl, rfl⟩)
          obtain ⟨g0, g1, ⟨c5, c7, c8, c9⟩, gW, gO⟩ := h1
          have h3 : Cs T Ln l μ0 (x_sI μ' 3 2 (Int32.ofNat ((clS T Ln p).1 + 1))) ((clS T Ln p).1 + 1) (A ++ [c]) := ⟨g0.tr fr, ⟨frC.rf, h2.2⟩, ⟨by rw [sI_of (by omega)]; exact c5, by rw [sI_of (by omega)]; exact c7, by rw [sI_of (by omega)]; exact c8, by rw [sI_of (by omega)]; exact c9⟩, ClW_cg (fun i j p1 p2 _ => sI_of (by omega)) gW, gO⟩
          have e2 : f_X5_parse_L11 (XC ad D cA) (F + 1) 3 l (Int32.ofNat (i + 1)) μ' = f_X5_parse_J35 (XC ad D cA) (f_X5_parse_L11 (XC ad D cA) F) 3 l (Int32.ofNat (i + 1)) (x_sI μ' 3 2 (Int32.ofNat ((clS T Ln p).1 + 1))) := by
            conv => lhs; unfold f_X5_parse_L11
            simp only [↓ckE, ↓reduceIte, kC, CK, Nat.reduceAdd, n1, n2, f1', bdE, iE]
          rw [e2]
          rcases ih (i + 1) F _ _ _ (by rw [List.length_append, hi]; rfl) (by omega) (by omega) h3 with ⟨A', μ2, ea, e3, h4⟩ | ⟨μ2, ea, e3, f4, l4⟩
          · rw [ea]
            simp only []
            exact Or.inl ⟨c :: A', μ2, rfl, e3, by rw [show A ++ c :: A' = A ++ [c] ++ A' from by simp]; exact h4⟩
          · rw [ea]
            simp only []
            exact Or.inr ⟨μ2, rfl, e3, f4, l4⟩
        · rw [if_neg q2]
          have f1' : f_X5_take (XC ad D cA) 3 59 μ' = _ := c_take0 (ad := ad) (D := D) (cA := cA) h1.2.1 hBm (c := 59) (by omega) q2
          refine Or.inr ⟨μ', rfl, ?_, h1.1, by simp only []; omega⟩
          unfold f_X5_parse_L11
          simp only [↓ckE, ↓reduceIte, kC, CK, Nat.reduceAdd, n1, n2, f1', bdE, h1.2.1.2.1.1]
      · rw [if_neg q, if_neg q]
        exact Or.inl ⟨[c], μ', rfl, rfl, h1⟩
    · rw [ec, e1]
      exact Or.inr ⟨μ', rfl, rfl, f1, l1⟩
end PRS
