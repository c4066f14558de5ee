/-! ===== the reference's holds, its loop ===== -/
section HOLDR2
variable {ad : Nat → Nat} {D : va_G} {cA : Nat → ClassId}
theorem r_pk {α : Type} {ν : x_M} {h : Nat} {b : Bool} {A B : Option (α × x_M)} (hh : h < 100) (hb : ν.1 629 h = if b then 1 else 0) : ck ((x_kd (XR ad D cA) 629 = 22 ∨ x_kd (XR ad D cA) 629 = 41) ∧ x_ix (Int32.ofNat h) (x_ln (XR ad D cA) 629)) (if ν.1 629 (Int32.ofNat h).toNatClampNeg = 0 then A else B) = if b then B else A := by
  have hc : ν.1 629 (Int32.ofNat h).toNatClampNeg = if b then 1 else 0 := by rw [iN_cl (by omega)]; exact hb
  rw [ck_t (by rw [kR, lR, mA_28.2.1, mA_28.2.2]; exact ⟨Or.inl rfl, iN_ix (by omega) hh⟩), hc]
  cases b <;> rfl
theorem iN_pred {n : Nat} (h : 1 ≤ n) : Int32.ofNat n - 1 = Int32.ofNat (n - 1) := by
  rw [show (1 : Int32) = Int32.ofNat 1 from rfl, iN_sub h]
theorem iN_m1 {n : Nat} (h : 1 ≤ n) : Int32.ofNat n + (-1) = Int32.ofNat (n - 1) := by
  rw [← iN_pred h, Int32.sub_eq_add_neg]
theorem r_holdsL {fa : Nat → Int} {c e : Nat} {av : Int32} {ν0 : x_M} (hP0 : Pr ν0) (hc : c < 60) (hto : ν0.1 622 c = Int32.ofNat e) (he6 : e ≤ 600) (hfa : ∀ ν, frI (· = 629) ν0 ν → ∀ f, f < 6 → f_X10_factOf (XR ad D cA) 600 (Int32.ofNat f) av ν = some (Int32.ofInt (fa f), ν) ∧ -20000 ≤ fa f ∧ fa f ≤ 20000) : ∀ (ts : List Tok) (st : List Bool) (o F : Nat) (n i : Int32) (ν : x_M), ts.length < F → frI (· = 629) ν0 ν → PileR ν st → SegI (ν0.1 623) encR o ts → wfT ts st.length → st.length ≤ 50 → e = o + ts.length → i = Int32.ofNat o → n = Int32.ofNat st.length → ∃ ν', f_X10_holds_L10 (XR ad D cA) F 600 (Int32.ofNat c) av n i ν = some (if (evalT fa ts st).headD false then 1 else 0, ν') ∧ frI (· = 629) ν0 ν' := by
  have k6 : x_kd (XR ad D cA) 600 = 10 + 1 := by rw [kR]; exact k600
  intro ts
  induction ts with
  | nil =>
    intro st o F n i ν hF hfr hp _ hw _ he hi hn
    obtain ⟨f, rfl⟩ : ∃ n, F = n + 1 := ⟨F - 1, by omega⟩
    have hP := hfr.Pr hP0
    have hto' : ν.1 (601 + 21) (Int32.ofNat c).toNatClampNeg = Int32.ofNat e := by rw [iN_cl (by omega), hfr.2 622 (by decide)]; exact hto
    have hw1 : st.length = 1 := hw
    simp only [List.length_nil] at he
    unfold f_X10_holds_L10
    rw [ck_t k6, lt_v, mA_21.at hP, ck_t (mA_21.rd rfl hc (by omega)), hto', hi, if_pos ((iN_le (by omega) (by omega)).mpr (by omega)), ck_t k6, lt_v, (hP 600 28).trans mA_28.1, ck_t (by rw [kR, lR, mA_28.2.1, mA_28.2.2]; exact ⟨Or.inl rfl, by decide⟩), lt_v]
    match st, hw1, hp with
    | [b], _, hp =>
      have h0 : ν.1 629 (0 : Int32).toNatClampNeg = if b then 1 else 0 := hp.1
      rw [h0, ck_t (by cases b <;> decide)]
      exact ⟨ν, rfl, hfr⟩
  | cons t r ih =>
    intro st o F n i ν hF hfr hp hS hw hst he hi hn
    rw [List.length_cons] at he hF
    obtain ⟨f, rfl⟩ : ∃ n, F = n + 1 := ⟨F - 1, by omega⟩
    obtain ⟨hcd, hS⟩ := hS
    obtain ⟨⟨t1, t2, t3, t4⟩, h', hh, h50, hw⟩ := hw
    have hlen := tokStep_len (fa := fa) hh
    have hP := hfr.Pr hP0
    have nx : ∀ (m : Int32) (st2 : List Bool) (ν1 : x_M), st2 = tokStep fa t st → frI (· = 629) ν0 ν1 → PileR ν1 st2 → m = Int32.ofNat st2.length → ∃ ν', f_X10_holds_L10 (XR ad D cA) f 600 (Int32.ofNat c) av m (i + 1) ν1 = some (if (evalT fa (t :: r) st).headD false then 1 else 0, ν') ∧ frI (· = 629) ν0 ν' := by
      intro m st2 ν1 e2 hfr1 hp1 hm
      subst e2
      exact ih (tokStep fa t st) (o + 1) f m _ ν1 (by omega) hfr1 hp1 hS (by rw [hlen]; exact hw) (by rw [hlen]; exact h50) (by omega) (by rw [hi]; exact iN_s) hm
    have hto' : ν.1 (601 + 21) (Int32.ofNat c).toNatClampNeg = Int32.ofNat e := by rw [iN_cl (by omega), hfr.2 622 (by decide)]; exact hto
    have hcell : ν.1 (601 + 22) (Int32.ofNat o).toNatClampNeg = encR t := by rw [iN_cl (by omega), hfr.2 623 (by decide)]; exact hcd
    have p28 : ν.2.1 600 28 = 629 := (hP 600 28).trans mA_28.1
    unfold f_X10_holds_L10
    rw [ck_t k6, lt_v, mA_21.at hP, ck_t (mA_21.rd rfl hc (by omega)), hto', hi, if_neg (fun z => by have := (iN_le (by omega) (by omega)).mp z; omega), ck_t k6, lt_v, mA_22.at hP, ck_t (mA_22.rd rfl (by omega) (by omega)), lt_v, hcell]
    rw [hi] at nx
    have up : ∀ {v : Int32} {k : Nat}, frI (· = 629) ν0 (x_sI ν 629 k v) := fun {v k} => hfr.tr (frI.sI rfl)
    by_cases q0 : t.1 = 0
    · have e0 : encR t = Int32.ofNat (1000 * t.2.1 + 100 * t.2.2.1 + t.2.2.2) := by unfold encR; rw [if_pos q0]
      have N1 : (1000 * t.2.1 + 100 * t.2.2.1 + t.2.2.2) / 1000 = t.2.1 := by omega
      have N2 : (1000 * t.2.1 + 100 * t.2.2.1 + t.2.2.2) % 100 = t.2.2.2 := by omega
      have N3 : (1000 * t.2.1 + 100 * t.2.2.1 + t.2.2.2) / 100 % 10 = t.2.2.1 := by omega
      have N4 : (1000 * t.2.1 + 100 * t.2.2.1 + t.2.2.2) < 6000 := by omega
      rw [e0]
      generalize 1000 * t.2.1 + 100 * t.2.2.1 + t.2.2.2 = N at N1 N2 N3 N4
      obtain ⟨f1, f2, f3⟩ := hfa ν hfr t.2.1 (by omega)
      have st0 : tokStep fa t st = relB t.2.2.1 (fa t.2.1) t.2.2.2 :: st := by unfold tokStep; rw [if_pos q0]
      have h0N : (0 : Int32) ≤ Int32.ofNat N := (iN_le (j := 0) (by omega) (by omega)).mpr (Nat.zero_le _)
      rw [if_neg (iN_ne (by omega) (by decide)), if_pos h0N, ck_t (by decide), ck_t k6, show (1000 : Int32) = Int32.ofNat 1000 from rfl, iN_div (by omega) (by omega), N1, f1, bd_s, ck_t (by decide), lt_v, ck_t (by decide), lt_v, ck_t k6, lt_v, p28]
      rw [show (100 : Int32) = Int32.ofNat 100 from rfl, show (10 : Int32) = Int32.ofNat 10 from rfl, iN_rem (by omega) (by omega), N2, iN_div (by omega) (by omega), iN_rem (by omega) (by omega), N3, hn]
      have nI4 : Int32.ofNat t.2.2.2 = Int32.ofInt ((t.2.2.2 : Nat) : Int) := iN_I
      rw [nI4, r_put (v := 0) (b := false) (by omega) rfl, r_put (v := 1) (b := true) (by omega) rfl]
      have fin : ∀ (b : Bool), b = relB t.2.2.1 (fa t.2.1) t.2.2.2 → ∃ ν', f_X10_holds_L10 (XR ad D cA) f 600 (Int32.ofNat c) av (Int32.ofNat st.length + 1) (Int32.ofNat o + 1) (x_sI ν 629 st.length (if b then 1 else 0)) = some (if (evalT fa (t :: r) st).headD false then 1 else 0, ν') ∧ frI (· = 629) ν0 ν' := by
        intro b hb
        exact nx _ (b :: st) _ (by rw [st0, hb]) up (PileR.top hp) iN_s
      by_cases s0 : t.2.2.1 = 0
      · rw [if_pos (show Int32.ofNat t.2.2.1 = 0 by rw [s0]; rfl), ck_t (show ¬ Int32.ofNat 100 = (0 : Int32) by decide)]
        by_cases g : ((t.2.2.2 : Nat) : Int) ≤ fa t.2.1
        · rw [if_pos ((iI_le (by omega) (by omega)).mpr g)]
          exact fin false (by unfold relB; rw [if_pos s0]; exact (decide_eq_false (by omega)).symm)
        · rw [if_neg (fun z => g ((iI_le (by omega) (by omega)).mp z))]
          exact fin true (by unfold relB; rw [if_pos s0]; exact (decide_eq_true (by omega)).symm)
      · have z0 : ¬ Int32.ofNat t.2.2.1 = 0 := fun z => s0 ((iN_inj (b := 0) (by omega) (by omega)).mp z)
        rw [if_neg z0]
        by_cases s1 : t.2.2.1 = 1
        · rw [if_pos (show Int32.ofNat t.2.2.1 = 1 by rw [s1]; rfl), ck_t (show ¬ Int32.ofNat 100 = (0 : Int32) by decide)]
          by_cases g : fa t.2.1 = ((t.2.2.2 : Nat) : Int)
          · rw [if_pos (by rw [g])]
            exact fin true (by unfold relB; rw [if_neg s0, if_pos s1]; exact (decide_eq_true g).symm)
          · rw [if_neg (fun z => g ((iI_inj (by omega) (by omega)).mp z))]
            exact fin false (by unfold relB; rw [if_neg s0, if_pos s1]; exact (decide_eq_false g).symm)
        · have z1 : ¬ Int32.ofNat t.2.2.1 = 1 := fun z => s1 ((iN_inj (b := 1) (by omega) (by omega)).mp z)
          rw [if_neg z1, ck_t (show ¬ Int32.ofNat 100 = (0 : Int32) by decide)]
          by_cases g : fa t.2.1 ≤ ((t.2.2.2 : Nat) : Int)
          · rw [if_pos ((iI_le (by omega) (by omega)).mpr g)]
            exact fin false (by unfold relB; rw [if_neg s0, if_neg s1]; exact (decide_eq_false (by omega)).symm)
          · rw [if_neg (fun z => g ((iI_le (by omega) (by omega)).mp z))]
            exact fin true (by unfold relB; rw [if_neg s0, if_neg s1]; exact (decide_eq_true (by omega)).symm)
    · by_cases q1 : t.1 = 1
      · have e0 : encR t = -33 := by unfold encR; rw [if_neg q0, if_pos q1]
        unfold tokH at hh
        rw [if_neg q0, if_pos q1] at hh
        rw [e0, if_pos rfl, ck_t k6, lt_v, p28, ck_t k6, lt_v, lt_v]
        match st, hh, hst, hp, nx, hn with
        | [], hh, _, _, _, _ => simp at hh
        | b :: st, _, hst, hp, nx, hn =>
          rw [List.length_cons] at hst hn
          have hb : tokStep fa t (b :: st) = (!b) :: st := by unfold tokStep; rw [if_neg q0, if_pos q1]
          rw [hn, iN_pred (by omega), Nat.add_sub_cancel, r_pk (by omega) hp.1]
          cases b
          · rw [if_neg (by decide), lt_v, r_put (v := 1) (b := true) (by omega) rfl]
            exact nx _ _ _ hb.symm up (PileR.top hp.2) rfl
          · rw [if_pos rfl, lt_v, r_put (v := 0) (b := false) (by omega) rfl]
            exact nx _ _ _ hb.symm up (PileR.top hp.2) rfl
      · unfold tokH at hh
        rw [if_neg q0, if_neg q1] at hh
        match st, hh, hst, hp, nx, hn with
        | [], hh, _, _, _, _ => simp at hh
        | [_], hh, _, _, _, _ => simp at hh
        | b :: a' :: st, _, hst, hp, nx, hn =>
          rw [List.length_cons, List.length_cons] at hst hn
          have ha := hp.2.1
          have hb0 : ν.1 629 (st.length + 1) = if b then 1 else 0 := hp.1
          have m1 : n + (-1 : Int32) = Int32.ofNat (st.length + 1) := by rw [hn, iN_m1 (by omega)]; rfl
          have m2 : Int32.ofNat (st.length + 1) - 1 = Int32.ofNat st.length := by rw [iN_pred (by omega)]; rfl
          by_cases q2 : t.1 = 2
          · have e0 : encR t = -38 := by unfold encR; rw [if_neg q0, if_neg q1, if_pos q2]
            have hb : tokStep fa t (b :: a' :: st) = (a' && b) :: st := by unfold tokStep; rw [if_neg q0, if_neg q1, if_pos q2]
            rw [e0, if_neg (by decide), if_neg (by decide), ck_t k6, lt_v, p28, if_pos rfl, ck_t k6, lt_v, m1, m2, lt_v, r_pk (by omega) ha]
            cases a'
            · rw [if_neg (by decide), lt_v, r_put (v := 0) (b := false) (by omega) rfl]
              exact nx _ _ _ (by rw [hb]; rfl) up (PileR.top hp.2.2) rfl
            · rw [if_pos rfl, ck_t k6, lt_v, lt_v, r_pk (by omega) hb0]
              cases b
              · rw [if_neg (by decide), lt_v, r_put (v := 0) (b := false) (by omega) rfl]
                exact nx _ _ _ (by rw [hb]; rfl) up (PileR.top hp.2.2) rfl
              · rw [if_pos rfl, lt_v, r_put (v := 1) (b := true) (by omega) rfl]
                exact nx _ _ _ (by rw [hb]; rfl) up (PileR.top hp.2.2) rfl
          · have e0 : encR t = -124 := by unfold encR; rw [if_neg q0, if_neg q1, if_neg q2]
            have hb : tokStep fa t (b :: a' :: st) = (a' || b) :: st := by unfold tokStep; rw [if_neg q0, if_neg q1, if_neg q2]
            rw [e0, if_neg (by decide), if_neg (by decide), ck_t k6, lt_v, p28, if_neg (by decide), ck_t k6, lt_v, m1, m2, lt_v, r_pk (by omega) ha]
            cases a'
            · rw [if_neg (by decide), ck_t k6, lt_v, lt_v, r_pk (by omega) hb0]
              cases b
              · rw [if_neg (by decide), lt_v, r_put (v := 0) (b := false) (by omega) rfl]
                exact nx _ _ _ (by rw [hb]; rfl) up (PileR.top hp.2.2) rfl
              · rw [if_pos rfl, lt_v, r_put (v := 1) (b := true) (by omega) rfl]
                exact nx _ _ _ (by rw [hb]; rfl) up (PileR.top hp.2.2) rfl
            · rw [if_pos rfl, lt_v, r_put (v := 1) (b := true) (by omega) rfl]
              exact nx _ _ _ (by rw [hb]; rfl) up (PileR.top hp.2.2) rfl
end HOLDR2
section HOLDR3
variable {ad : Nat → Nat} {D : va_G} {cA : Nat → ClassId}
theorem r_holds {fa : Nat → Int} {c o e : Nat} {av : Int32} {ν : x_M} {ts : List Tok} (hP : Pr ν) (hc : c < 60) (hfrom : ν.1 621 c = Int32.ofNat o) (hto : ν.1 622 c = Int32.ofNat e) (he6 : e ≤ 600) (hl : ts.length ≤ 100) (hfa : ∀ ν', frI (· = 629) ν ν' → ∀ f, f < 6 → f_X10_factOf (XR ad D cA) 600 (Int32.ofNat f) av ν' = some (Int32.ofInt (fa f), ν') ∧ -20000 ≤ fa f ∧ fa f ≤ 20000) (hS : SegI (ν.1 623) encR o ts) (hw : wfT ts 0) (he : e = o + ts.length) : ∃ ν', f_X10_holds (XR ad D cA) 600 (Int32.ofNat c) av ν = some (if holdsB fa ts then 1 else 0, ν') ∧ frI (· = 629) ν ν' := by
  have hfrom' : ν.1 (601 + 20) (Int32.ofNat c).toNatClampNeg = Int32.ofNat o := by rw [iN_cl (by omega)]; exact hfrom
  unfold f_X10_holds
  rw [ck_t (by rw [kR]; exact k600), lt_v, mA_20.at hP, ck_t (mA_20.rd rfl hc (by omega)), lt_v, hfrom']
  exact r_holdsL hP hc hto he6 hfa ts [] o 4096 _ _ ν (by omega) frI.rf True.intro hS hw (Nat.zero_le _) he rfl rfl
end HOLDR3
