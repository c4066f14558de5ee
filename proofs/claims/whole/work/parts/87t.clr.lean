/-! ===== law: a clause in the reference ===== -/
def pcG (K o k : Nat) : Prop := (o = 600 ∧ ((14 ≤ k ∧ k ≤ 15) ∨ (24 ≤ k ∧ k ≤ 26))) ∨ o = 624 ∨ (o = 623 ∧ 100 * K ≤ k ∧ k < 100 * K + 100) ∨ ((619 ≤ o ∧ o ≤ 622) ∧ 10 * K ≤ k ∧ k < 10 * K + 10) ∨ (o = 618 ∧ k = K)
/-- the clauses' rows, their tests one behind another -/
def RW (ν : x_M) : Nat → Nat → LawA → Prop
  | _, _, [] => True
  | c, o, k :: r => (ν.1 619 c = Int32.ofNat k.1 ∧ ν.1 620 c = Int32.ofNat k.2.1) ∧ (k.1 ≤ 1 → ν.1 621 c = Int32.ofNat o ∧ ν.1 622 c = Int32.ofNat (o + k.2.2.length)) ∧ RW ν (c + 1) (o + (if k.1 ≤ 1 then k.2.2 else []).length) r
theorem RW_cg {a b : x_M} : ∀ {A : LawA} {c o : Nat}, (∀ i j, 619 ≤ i → i ≤ 622 → c ≤ j → j < c + A.length → b.1 i j = a.1 i j) → RW a c o A → RW b c o A
  | [], _, _, _, _ => True.intro
  | k :: r, c, o, h, q => by
    have hl : (k :: r).length = r.length + 1 := rfl
    rw [hl] at h
    obtain ⟨⟨q1, q2⟩, q3, q4⟩ := q
    refine ⟨⟨?_, ?_⟩, fun z => ⟨?_, ?_⟩, RW_cg (fun i j p1 p2 p3 p4 => h i j p1 p2 (by omega) (by omega)) q4⟩
    · rw [h 619 c (by omega) (by omega) (by omega) (by omega)]; exact q1
    · rw [h 620 c (by omega) (by omega) (by omega) (by omega)]; exact q2
    · rw [h 621 c (by omega) (by omega) (by omega) (by omega)]; exact (q3 z).1
    · rw [h 622 c (by omega) (by omega) (by omega) (by omega)]; exact (q3 z).2
theorem RW_ap {a : x_M} : ∀ {A : LawA} {c o : Nat} {k : Cls}, RW a c o A → RW a (c + A.length) (o + (tkA A).length) [k] → RW a c o (A ++ [k])
  | [], _, _, _, _, h => h
  | k :: r, c, o, k', q, h => by
    obtain ⟨q1, q3, q4⟩ := q
    refine ⟨q1, q3, RW_ap q4 ?_⟩
    have e1 : c + (k :: r).length = c + 1 + r.length := by show c + (r.length + 1) = _; omega
    have e2 : o + (tkA (k :: r)).length = o + (if k.1 ≤ 1 then k.2.2 else []).length + (tkA r).length := by
      show o + ((if k.1 ≤ 1 then k.2.2 else []) ++ tkA r).length = _
      rw [List.length_append]; omega
    rw [e1, e2] at h
    exact h
theorem ClR_of {ν : x_M} : ∀ {A : LawA} {c o : Nat}, RW ν c o A → SegI (ν.1 623) encR o (tkA A) → o + (tkA A).length ≤ 600 → ClR ν c A
  | [], _, _, _, _, _ => True.intro
  | k :: r, c, o, h, g, hl => by
    obtain ⟨q1, q3, q4⟩ := h
    have e : tkA (k :: r) = (if k.1 ≤ 1 then k.2.2 else []) ++ tkA r := rfl
    rw [e] at g hl
    rw [List.length_append] at hl
    obtain ⟨g1, g2⟩ := SegI_ap.mp g
    refine ⟨q1, fun z => ?_, ClR_of q4 g2 (by omega)⟩
    rw [if_pos z] at g1 hl
    exact ⟨o, o + k.2.2.length, (q3 z).1, (q3 z).2, by omega, g1, rfl⟩
theorem RW_sg {ν : x_M} : ∀ {A : LawA} {c o : Nat}, RW ν c o A → (∀ k ∈ A, ClOk k) → ∀ j, c ≤ j → j < c + A.length → (ν.1 619 j = 0 ∨ ν.1 619 j = 1) → ∃ x e, ν.1 621 j = Int32.ofNat x ∧ ν.1 622 j = Int32.ofNat e ∧ o ≤ x ∧ x ≤ e ∧ e ≤ o + (tkA A).length
  | [], c, o, _, _, j, h1, h2, _ => by
    have : j < c := h2
    omega
  | k :: r, c, o, h, hk, j, h1, h2, h3 => by
    obtain ⟨⟨q1, q2⟩, q3, q4⟩ := h
    have hl : (k :: r).length = r.length + 1 := rfl
    rw [hl] at h2
    have e2 : (tkA (k :: r)).length = (if k.1 ≤ 1 then k.2.2 else []).length + (tkA r).length := by
      show ((if k.1 ≤ 1 then k.2.2 else []) ++ tkA r).length = _
      rw [List.length_append]
    rw [e2]
    by_cases e : j = c
    · have k4 := (hk k List.mem_cons_self).1
      have z : k.1 ≤ 1 := by
        rw [e, q1] at h3
        rcases h3 with h3 | h3
        · have := (eqN 0 0 rfl (by omega) (by decide)).mp h3; omega
        · have := (eqN 1 1 rfl (by omega) (by decide)).mp h3; omega
      rw [if_pos z, e]
      exact ⟨o, o + k.2.2.length, (q3 z).1, (q3 z).2, by omega, by omega, by omega⟩
    · obtain ⟨x, e', y1, y2, y3, y4, y5⟩ := RW_sg q4 (fun k' hk' => hk k' (List.mem_cons_of_mem _ hk')) j (by omega) (by omega) h3
      exact ⟨x, e', y1, y2, by omega, y4, by omega⟩
def Rs (T : Nat → Nat) (Ln K : Nat) (ν0 ν : x_M) (p : Nat) (A : LawA) : Prop := frC (pcG K) ν0 ν ∧ (ν.1 600 14 = Int32.ofNat p ∧ p ≤ Ln) ∧ (ν.1 600 24 = Int32.ofNat (100 * K + (tkA A).length) ∧ SegI (ν.1 623) encR (100 * K) (tkA A) ∧ (tkA A).length ≤ p) ∧ RW ν (10 * K) (100 * K) A
section CLR
variable {ad : Nat → Nat} {D : va_G} {cA : Nat → ClassId} {ν ν0 : x_M} {T : Nat → Nat} {Ln p K : Nat} {A : LawA}
theorem Br.g {ν' : x_M} (h : Br ν T Ln) (f : frC (pcG K) ν ν') : Br ν' T Ln := by
  obtain ⟨b1, ⟨b2, b3, b4⟩, b5⟩ := h
  refine ⟨f.Pr b1, ⟨b2, ?_, fun j hj => ⟨(b4 j hj).1, ?_⟩⟩, fun j => ?_⟩
  · rw [f.2 _ _ (by unfold pcG; omega)]; exact b3
  · rw [f.2 _ _ (by unfold pcG; omega)]; exact (b4 j hj).2
  · rw [f.2 _ _ (by unfold pcG; omega)]; exact b5 j
theorem r_clause (h : Rs T Ln K ν0 ν p A) (hB0 : Br ν0 T Ln) (hK : K < 6) (hA : A.length < 10) : (∃ c ν', (clS T Ln p).2 = some c ∧ f_X10_takesClause (XR ad D cA) 600 (Int32.ofNat (10 * K + A.length)) ν = some (1, ν') ∧ Rs T Ln K ν0 ν' (clS T Ln p).1 (A ++ [c])) ∨ ∃ ν', (clS T Ln p).2 = none ∧ f_X10_takesClause (XR ad D cA) 600 (Int32.ofNat (10 * K + A.length)) ν = some (0, ν') ∧ frC (pcG K) ν0 ν' ∧ ν'.1 600 14 = Int32.ofNat (clS T Ln p).1 := by
  obtain ⟨f0, ⟨h14, hp⟩, ⟨h24, h623, htk⟩, hW⟩ := h
  have hB := hB0.g f0
  have bP := hB.1
  have H : Hq T Ln ν ν p := ⟨frC.rf, ⟨h14, hp⟩, trivial⟩
  obtain ⟨ci, hci⟩ : ∃ ci, ci = 10 * K + A.length := ⟨_, rfl⟩
  rw [← hci]
  have hc6 : ci < 60 := by omega
  have hx : x_ix (Int32.ofNat ci) 60 := iN_ix (by omega) (by omega)
  have hcl : (Int32.ofNat ci).toNatClampNeg = ci := iN_cl (by omega)
  obtain ⟨w, hw⟩ : ∃ w, hwd T Ln p = w := ⟨_, rfl⟩
  obtain ⟨hw4, hws⟩ := hwd_s (T := T) (Ln := Ln) (p := p)
  obtain ⟨r1, ν1, e1, hh⟩ := h_head (ad := ad) (D := D) (cA := cA) H hB hc6
  rw [hw] at hw4 hws hh
  obtain ⟨r, hr⟩ : ∃ r, clS T Ln p = r := ⟨_, rfl⟩
  rw [hr]
  unfold clS at hr
  have up : ∀ o k, hcR o k → pcG K o k := fun o k z => by unfold hcR at z; unfold pcG; omega
  have s619 : ∀ {m : x_M} {v : Int32}, frC (pcG K) m (x_sI m 619 ci v) := fun {m v} => frC.sI (by unfold pcG; omega)
  have s620 : ∀ {m : x_M} {v : Int32}, frC (pcG K) m (x_sI m 620 ci v) := fun {m v} => frC.sI (by unfold pcG; omega)
  rcases hh with ⟨ok, rfl, h1⟩ | ⟨nok, rfl, h1⟩
  · rw [if_pos ok.1, ok.1] at hws
    have ok2 := ok.2
    rw [hws] at hr
    simp only [] at hr
    rw [if_pos ok2] at hr
    obtain ⟨q, hq⟩ : ∃ q, q = p + (strs (811 + w)).length + 1 := ⟨_, rfl⟩
    rw [← hq] at hr h1
    have hB1 : Br (x_sI ν 619 ci (Int32.ofNat w)) T Ln := hB.w (Or.inl rfl)
    have f1 : frC (pcG K) ν0 ν1 := (f0.tr s619).tr (h1.1.up up)
    have nb := numS_b (T := T) (Ln := Ln) (p := q) h1.2.1.2
    rcases h_num (ad := ad) (D := D) (cA := cA) h1 hB1 with ⟨n0, e2⟩ | ⟨n0, ν2, e2, h2, e15⟩
    · rw [if_pos n0] at hr
      subst hr
      refine Or.inr ⟨ν1, rfl, ?_, f1, ?_⟩
      · unfold f_X10_takesClause
        simp only [↓ckE, ↓ltE, ↓reduceIte, kR, RK, Nat.reduceAdd, e1, bdE, iE, e2, true_or]
      · rw [nb.2.2.2 n0]; exact h1.2.1.1
    · rw [if_neg (by omega)] at hr
      obtain ⟨m, hm⟩ : ∃ m, (numS T Ln q).1.toNat = m := ⟨_, rfl⟩
      have em : Int32.ofInt (numS T Ln q).1 = Int32.ofNat m := by rw [iN_I]; exact congrArg Int32.ofInt (by omega)
      rw [em] at e15
      rw [hm] at hr
      have bP2 := (h2.B hB1).1
      have h3 := h2.w (o := 620) (k := ci) (v := Int32.ofNat m) (by omega)
      have hB3 : Br (x_sI (x_sI ν 619 ci (Int32.ofNat w)) 620 ci (Int32.ofNat m)) T Ln := hB1.w (by omega)
      obtain ⟨ν3, hν3⟩ : ∃ ν3 : x_M, ν3 = x_sI ν2 620 ci (Int32.ofNat m) := ⟨_, rfl⟩
      rw [← hν3] at h3
      have off3 : ∀ o k, ¬ hcR o k → ¬ (o = 619 ∧ k = ci) → ¬ (o = 620 ∧ k = ci) → ν3.1 o k = ν.1 o k := fun o k y1 y2 y3 => by
        rw [h3.1.2 o k y1, sI_of y3, sI_of y2]
      have e619 : ν3.1 619 ci = Int32.ofNat w := by
        rw [h3.1.2 619 ci (by unfold hcR; omega), sI_of (by omega)]; exact sI_in
      have e620 : ν3.1 620 ci = Int32.ofNat m := by
        rw [h3.1.2 620 ci (by unfold hcR; omega)]; exact sI_in
      have r3 : ν3.2 = ν.2 := h3.1.1
      have bP3 : Pr ν3 := (h3.B hB3).1
      have f3 : frC (pcG K) ν0 ν3 := (f0.tr (s619.tr s620)).tr (h3.1.up up)
      by_cases q3 : 2 ≤ w
      · rw [if_pos q3] at hr
        subst hr
        have w2 : (2 : Int32) ≤ Int32.ofNat w := (geN 2 2 rfl (by decide) (by omega)).mpr q3
        have eT : tkA (A ++ [(w, m, [])]) = tkA A := by rw [tkA_ap, if_neg (by simp only []; omega), List.append_nil]
        refine Or.inl ⟨_, ν3, rfl, ?_, f3, h3.2.1, ⟨?_, ?_, ?_⟩, ?_⟩
        · unfold f_X10_takesClause
          simp only [↓ckE, ↓ltE, ↓reduceIte, kR, lR, RK, RN, RP bP2, RP bP3, Nat.reduceAdd, e1, bdE, iE, e2, true_or, true_and, ↓ixT hx, hcl, e15, ← hν3, e619, w2, or_true]
        · rw [eT, off3 _ _ (by unfold hcR; omega) (by omega) (by omega)]; exact h24
        · rw [eT]; exact SegI_cg (fun j _ _ => off3 _ _ (by unfold hcR; omega) (by omega) (by omega)) h623
        · rw [eT]; simp only []; omega
        · refine RW_ap (RW_cg (fun i j p1 p2 p3 p4 => off3 _ _ (by unfold hcR; omega) (by omega) (by omega)) hW) ?_
          rw [← hci]
          exact ⟨⟨e619, e620⟩, fun z => by simp only [] at z; omega, True.intro⟩
      · rw [if_neg q3] at hr
        have w2 : ¬ (2 : Int32) ≤ Int32.ofNat w := fun z => q3 ((geN 2 2 rfl (by decide) (by omega)).mp z)
        by_cases q4 : tx T Ln (numS T Ln q).2 = 32
        · rw [if_pos q4] at hr
          obtain ⟨e4, h4⟩ := h_takes1 (ad := ad) (D := D) (cA := cA) h3 hB3 (by omega) q4
          obtain ⟨ν4, hν4⟩ : ∃ ν4 : x_M, ν4 = x_sI ν3 600 14 (Int32.ofNat ((numS T Ln q).2 + 1)) := ⟨_, rfl⟩
          rw [← hν4] at e4 h4
          have e4' : f_X10_takes (XR ad D cA) 600 32 ν3 = some (1, ν4) := e4
          have off4 : ∀ o k, ¬ hcR o k → ¬ (o = 619 ∧ k = ci) → ¬ (o = 620 ∧ k = ci) → ν4.1 o k = ν.1 o k := fun o k y1 y2 y3 => by
            rw [h4.1.2 o k y1, sI_of y3, sI_of y2]
          have g619 : ν4.1 619 ci = Int32.ofNat w := by rw [hν4, sI_of (by omega)]; exact e619
          have g620 : ν4.1 620 ci = Int32.ofNat m := by rw [hν4, sI_of (by omega)]; exact e620
          have r4 : ν4.2 = ν.2 := h4.1.1
          have f4 : frC (pcG K) ν0 ν4 := (f0.tr (s619.tr s620)).tr (h4.1.up up)
          -- what an expression changes
          have fE : ∀ {ν5 : x_M} {pp : Nat} {st : List Nat} {tk : List Tok}, E0 T Ln (100 * K) ci (exB ν4 ci (Int32.ofNat (100 * K + (tkA A).length))) ν5 pp st tk → (∀ o k, ¬ (o = 600 ∧ ((14 ≤ k ∧ k ≤ 15) ∨ (24 ≤ k ∧ k ≤ 26))) → ¬ o = 624 → ¬ (o = 623 ∧ 100 * K ≤ k ∧ k < 100 * K + 100) → ¬ ((o = 621 ∨ o = 622) ∧ k = ci) → ν5.1 o k = ν4.1 o k) ∧ ν5.1 621 ci = Int32.ofNat (100 * K + (tkA A).length) ∧ ν5.2 = ν.2 ∧ ν5.1 600 14 = Int32.ofNat pp ∧ pp ≤ Ln := by
            intro ν5 pp st tk hE
            obtain ⟨b1, ⟨bb1, bb2⟩, u1, u2, ⟨u4, u5, u6⟩, u7, u8⟩ := hE
            refine ⟨fun o k y1 y2 y3 y4 => ?_, ?_, ?_, u2⟩
            · have ex : (exB ν4 ci (Int32.ofNat (100 * K + (tkA A).length))).1 o k = ν4.1 o k := by
                unfold exB
                rw [sI_of (by omega), sI_of (by omega), sI_of (by omega)]
              by_cases z : o = 623
              · rw [z] at y3 ex ⊢
                rw [u6 k (by omega), bb2 623 k (by omega), ex]
              · rw [u1.2 o k (by unfold pcR; omega), bb2 o k (by omega), ex]
            · rw [u1.2 621 ci (by unfold pcR; omega), bb2 621 ci (by omega)]
              exact sI_in
            · rw [u1.1, bb1]; exact r4
          have fG : ∀ {ν5 : x_M} {pp : Nat} {st : List Nat} {tk : List Tok}, E0 T Ln (100 * K) ci (exB ν4 ci (Int32.ofNat (100 * K + (tkA A).length))) ν5 pp st tk → frC (pcG K) ν0 ν5 := fun {ν5 pp st tk} hE => by
            obtain ⟨g1, -, g3, -⟩ := fE hE
            refine f4.tr ⟨g3.trans r4.symm, fun o k z => g1 o k (fun y => z ?_) (fun y => z ?_) (fun y => z ?_) (fun y => z ?_)⟩ <;> unfold pcG <;> omega
          have l5 := h4.2.1.2
          have tl : (tkA A).length ≤ (numS T Ln q).2 + 1 := by omega
          rcases r_all (ad := ad) (D := D) (cA := cA) (B0 := 100 * K) (tk := tkA A) h4 hB3 (by omega) hc6 (by rw [off4 _ _ (by unfold hcR; omega) (by omega) (by omega)]; exact h24) (SegI_cg (fun j _ _ => off4 _ _ (by unfold hcR; omega) (by omega) (by omega)) h623) tl with ⟨a, ν5, ea, e5, hE, e622⟩ | ⟨ν5, st', tk', ea, e5, hE⟩
          · rw [ea] at hr
            simp only [] at hr
            subst hr
            obtain ⟨g1, g2, g3, g4⟩ := fE hE
            have eT : tkA (A ++ [(w, m, a)]) = tkA A ++ a := by rw [tkA_ap, if_pos (by simp only []; omega)]
            have fGG := fG hE
            obtain ⟨b1, -, u1, u2, ⟨u4, u5, u6⟩, u7, u8⟩ := hE
            refine Or.inl ⟨_, ν5, rfl, ?_, fGG, g4, ⟨?_, ?_, ?_⟩, ?_⟩
            · unfold f_X10_takesClause
              simp only [↓ckE, ↓ltE, ↓reduceIte, kR, lR, RK, RN, RP bP2, RP bP3, Nat.reduceAdd, e1, bdE, iE, e2, true_or, true_and, ↓ixT hx, hcl, e15, ← hν3, e619, w2, e4', e5, or_true]
            · rw [eT]; exact u4
            · rw [eT]; exact u5
            · rw [eT]
              simp only [List.length_nil, Nat.add_zero] at u8
              exact u8
            · refine RW_ap (RW_cg (fun i j p1 p2 p3 p4 => ?_) hW) ?_
              · rw [g1 i j (by omega) (by omega) (by omega) (by omega), off4 i j (by unfold hcR; omega) (by omega) (by omega)]
              · rw [← hci]
                refine ⟨⟨?_, ?_⟩, fun _ => ⟨g2, ?_⟩, True.intro⟩
                · rw [g1 619 ci (by omega) (by omega) (by omega) (by omega)]; exact g619
                · rw [g1 620 ci (by omega) (by omega) (by omega) (by omega)]; exact g620
                · rw [e622, List.length_append]
                  exact congrArg Int32.ofNat (by simp only []; omega)
          · rw [ea] at hr
            simp only [] at hr
            subst hr
            refine Or.inr ⟨ν5, rfl, ?_, fG hE, (fE hE).2.2.2.1⟩
            unfold f_X10_takesClause
            simp only [↓ckE, ↓ltE, ↓reduceIte, kR, lR, RK, RN, RP bP2, RP bP3, Nat.reduceAdd, e1, bdE, iE, e2, true_or, true_and, ↓ixT hx, hcl, e15, ← hν3, e619, w2, e4', e5]
        · rw [if_neg q4] at hr
          have e4' : f_X10_takes (XR ad D cA) 600 32 ν3 = _ := h_takes0 (ad := ad) (D := D) (cA := cA) h3 hB3 (c := 32) (by omega) q4
          subst hr
          refine Or.inr ⟨ν3, rfl, ?_, f3, h3.2.1.1⟩
          unfold f_X10_takesClause
          simp only [↓ckE, ↓ltE, ↓reduceIte, kR, lR, RK, RN, RP bP2, RP bP3, Nat.reduceAdd, e1, bdE, iE, e2, true_or, true_and, ↓ixT hx, hcl, e15, ← hν3, e619, w2, e4']
  · have hr' : r = (p + mW T Ln p w, none) := by
      rw [← hr]
      by_cases z : mW T Ln p w = (strs (811 + w)).length
      · rw [if_pos z] at hws
        rw [hws]
        simp only []
        rw [if_neg (fun y => nok ⟨z, by rw [← z]; exact y⟩)]
      · rw [if_neg z] at hws
        rw [hws]
    rw [hr']
    refine Or.inr ⟨ν1, rfl, ?_, (f0.tr s619).tr (h1.1.up up), h1.2.1.1⟩
    unfold f_X10_takesClause
    simp only [↓ckE, ↓ltE, ↓reduceIte, kR, RK, Nat.reduceAdd, e1, bdE, true_or]
end CLR
