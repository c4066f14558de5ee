/-! ===== the start: the tables, the statics, the two objects ===== -/
theorem x_isRefOf {args : Array Value} {s : State} {t : Term} (h : (Cond.isRef t).before args s = true) : t.eval args s none [] s = some .null ∨ ∃ a : Nat, t.eval args s none [] s = some (.ref a) := by
  cases hv : t.eval args s none [] s with
  | none => simp [Cond.before, Cond.holds, Cond.value, hv] at h
  | some w =>
    simp only [Cond.before, Cond.holds, Cond.value, hv] at h
    cases w <;> simp_all
def x_tmS (i : Nat) : Term := .string "LakeBooks$Reader" (([53, 55, 57, 59, 61, 103, 108] : List Nat).getD i 0)
def x_lnS : List Nat := x_byA.map List.length
theorem x_kdC_big {o : Nat} (h : 900 ≤ o) : x_kdC o = 0 := if_neg (by omega)
theorem x_kdR_big {o : Nat} (h : 900 ≤ o) : x_kdR o = 0 := if_neg (by omega)
theorem x_dynC : ∀ o, o < 900 → 0 < x_kdC o → x_kdC o < 40 → o < 600 ∧ o ≠ 9 ∧ 1 ≤ x_ixA o ∧ x_ixA o < 150 ∧ x_ordA[x_ixA o - 1]? = some o := by decide +kernel
theorem x_dynR : ∀ o, o < 900 → 0 < x_kdR o → x_kdR o < 40 ∧ 600 ≤ o ∧ o < 800 ∧ 150 ≤ x_ixA o ∧ x_ixA o < 196 ∧ x_ordA[x_ixA o - 1]? = some o := by decide +kernel
theorem x_staC : ∀ o, o < 900 → 40 ≤ x_kdC o → x_ixA o = 0 ∧ (o = 801 ∨ o = 802 ∨ (811 ≤ o ∧ o < 818 ∧ x_kdC o = 50) ∨ (831 ≤ o ∧ o < 838 ∧ x_kdC o = 41)) := by decide +kernel
theorem x_allC {o : Nat} (h : 0 < x_kdC o) : o < 900 := by
  rcases Nat.lt_or_ge o 900 with q | q
  · exact q
  · rw [x_kdC_big q] at h; omega
theorem x_allR {o : Nat} (h : 0 < x_kdR o) : o < 900 := by
  rcases Nat.lt_or_ge o 900 with q | q
  · exact q
  · rw [x_kdR_big q] at h; omega
/-- the addresses -/
def x_adr (h0 b tA tB tF : Nat) (aK aV : Nat → Nat) (o : Nat) : Nat := if o = 9 then b else if o = 801 then tA else if o = 802 then tB else if o = 803 then tF else if 811 ≤ o ∧ o < 818 then aK (o - 811) else if 831 ≤ o ∧ o < 838 then aV (o - 831) else h0 + x_ixA o - 1
theorem x_adr_dyn {h0 b tA tB tF : Nat} {aK aV : Nat → Nat} {o : Nat} (h : o < 800) (h9 : o ≠ 9) (hi : 1 ≤ x_ixA o) : x_adr h0 b tA tB tF aK aV o + 1 = h0 + x_ixA o := by
  unfold x_adr
  rw [if_neg h9, if_neg (by omega), if_neg (by omega), if_neg (by omega), if_neg (by omega), if_neg (by omega)]
  omega
theorem x_arrK {s : State} {ty : FieldType} {args : Array Value} (hp : ∀ C, ty ≠ .object C) (h : (Cond.arrayClass ty).before args s = true) : ∃ cA, ArrOfT s cA ty ∧ va_RA s cA ty := by
  obtain ⟨c, k, comp, h1, h2, h3⟩ := Cond.arrayClass_spec h
  refine ⟨c, fun n z => ⟨fun k h => (by cases h), k, h2, comp, h3⟩, ?_⟩
  cases ty with
  | object C => exact absurd rfl (hp C)
  | _ => exact h1
theorem x_arrO {s : State} {C : String} {args : Array Value} (h : (Cond.arrayOver (.object C)).before args s = true) : ∃ cA, ArrOfT s cA (.object C) ∧ va_RA s cA (.object C) := by
  obtain ⟨comp, c, k, h1, h2, h3, h4, h5⟩ := Cond.arrayOver_spec h
  exact ⟨c, fun N z => ⟨(fun k h => by cases h), k, h3, comp, h4⟩, k, comp, h3, h4, h1, h5⟩
theorem x_wOf {s : State} {args : Array Value} (hts : ∀ w ∈ lw_tbl, w.before args s = true) : x_W s := by
  intro w hw hg a
  rcases hg with hg | hg
  · exact word_at (s := s) (U := s) (State.WarmedH.refl s) (good_of_word hg) (hts w hw)
  · cases w with
    | fieldLinkNest a1 i b n d hh => exact va_Nw.use rfl (va_Nw.of rfl (hts _ hw))
    | methodLinkNest a1 i x hh => exact va_Nw.use rfl (va_Nw.of rfl (hts _ hw))
    | _ => cases hg
theorem qz_X9b : x_in (.instantiable RX9 9) := ⟨List.mem_of_getElem? (i := 99) (by decide +kernel), Or.inl (by decide +kernel)⟩
theorem qz_X10b : x_in (.instantiable RX10 77) := ⟨List.mem_of_getElem? (i := 1098) (by decide +kernel), Or.inl (by decide +kernel)⟩
/-- all that the tables say, once -/
theorem x_K0 {s : State} {b : Nat} (hts : ∀ w ∈ lw_tbl, w.before #[Value.ref b] s = true) : ∃ (D : va_G) (cA : Nat → ClassId), va_K D vwCl [(cA 20, .int), (cA 21, .long), (cA 22, .boolean), (cA 23, .object RX0), (cA 24, .object RX4), (cA 25, .object RX8)] s := by
  have hW := x_wOf hts
  have kn : ∀ (ci : Nat) (C : String) (T : u_T) (N : Nat), x_Cls ci C T N → x_in (.instantiable C N) → ∃ (cC : ClassId) (iS : Nat → Nat), u_Kn s C T N cC iS := fun ci C T N h1 h2 =>
    u_known (ws := u_ws C T N) (args := #[Value.ref b]) (fun w hw => hW.at (h1.2.2.1 w hw) _) (fun w hw => hw) (hW.at h2 _)
  obtain ⟨c0, i0, k0⟩ := kn 0 _ _ _ xc0 qz_X0
  obtain ⟨c1, i1, k1⟩ := kn 1 _ _ _ xc1 qz_X1
  obtain ⟨c2, i2, k2⟩ := kn 2 _ _ _ xc2 qz_X2
  obtain ⟨c3, i3, k3⟩ := kn 3 _ _ _ xc3 qz_X3
  obtain ⟨c4, i4, k4⟩ := kn 4 _ _ _ xc4 qz_X4
  obtain ⟨c5, i5, k5⟩ := kn 5 _ _ _ xc5 qz_X5
  obtain ⟨c6, i6, k6⟩ := kn 6 _ _ _ xc6 qz_X6
  obtain ⟨c7, i7, k7⟩ := kn 7 _ _ _ xc7 qz_X7
  obtain ⟨c8, i8, k8⟩ := kn 8 _ _ _ xc8 qz_X8
  obtain ⟨c9, i9, k9⟩ := kn 9 _ _ _ xc9 qz_X9b
  obtain ⟨c10, i10, k10⟩ := kn 10 _ _ _ xc10 qz_X10b
  obtain ⟨a0, p0⟩ := x_arrK (s := s) (by intro C h; cases h) (hW.at qa_int #[])
  obtain ⟨a1, p1⟩ := x_arrK (s := s) (by intro C h; cases h) (hW.at qa_long #[])
  obtain ⟨a2, p2⟩ := x_arrK (s := s) (by intro C h; cases h) (hW.at qa_boolean #[])
  obtain ⟨a3, p3⟩ := x_arrO (C := RX0) (hts _ (by decide +kernel))
  obtain ⟨a4, p4⟩ := x_arrO (C := RX4) (hts _ (by decide +kernel))
  obtain ⟨a5, p5⟩ := x_arrO (C := RX8) (hts _ (by decide +kernel))
  refine ⟨(fun k => ([c0, c1, c2, c3, c4, c5, c6, c7, c8, c9, c10] : List ClassId).getD k 0, fun k => ([i0, i1, i2, i3, i4, i5, i6, i7, i8, i9, i10] : List (Nat → Nat)).getD k (fun _ => 0)), fun k => ([a0, a1, a2, a3, a4, a5] : List ClassId).getD (k - 20) 0, ?_, ?_⟩
  · intro k q hq
    match k, hq with
    | 0, hq => cases hq; exact k0
    | 1, hq => cases hq; exact k1
    | 2, hq => cases hq; exact k2
    | 3, hq => cases hq; exact k3
    | 4, hq => cases hq; exact k4
    | 5, hq => cases hq; exact k5
    | 6, hq => cases hq; exact k6
    | 7, hq => cases hq; exact k7
    | 8, hq => cases hq; exact k8
    | 9, hq => cases hq; exact k9
    | 10, hq => cases hq; exact k10
    | k + 11, hq => simp [vwCl] at hq
  · intro k q hq
    match k, hq with
    | 0, hq => cases hq; exact p0
    | 1, hq => cases hq; exact p1
    | 2, hq => cases hq; exact p2
    | 3, hq => cases hq; exact p3
    | 4, hq => cases hq; exact p4
    | 5, hq => cases hq; exact p5
    | k + 6, hq => simp at hq
set_option maxRecDepth 100000 in
theorem x_S0 {s : State} {b : Nat} (hgv : (Jvm.Cond.and given_1 narrow_1).before #[Value.ref b] s = true) {A : Nat → Prop} (hA : ∀ a : Nat, a < s.heap.size → ¬ A a) : ∃ aK aV : Nat → Nat, vk_S 7 x_lnS x_byA aK aV A s s.heap ∧ ∀ i : Nat, i < 7 → (x_tmS i).eval #[Value.ref b] s none [] s = some (.ref (aK i)) := by
  have hs := flat_of_before _ hgv
  have m1 : ∀ i, i < 7 → Cond.exactly (x_tmS i) "java/lang/String" ∈ flatC (Jvm.Cond.and given_1 narrow_1) := by decide +kernel
  have m2 : ∀ i, i < 7 → Cond.eq (.field (x_tmS i) "java/lang/String" "coder" "B") (.int 0) ∈ flatC (Jvm.Cond.and given_1 narrow_1) := by decide +kernel
  have m3 : ∀ i, i < 7 → Cond.arrayOf (.field (x_tmS i) "java/lang/String" "value" "[B") .byte ∈ flatC (Jvm.Cond.and given_1 narrow_1) := by decide +kernel
  have m4 : ∀ i, i < 7 → Cond.eq (.length (.field (x_tmS i) "java/lang/String" "value" "[B")) (.int (Int32.ofNat (x_lnS.getD i 0))) ∈ flatC (Jvm.Cond.and given_1 narrow_1) := by decide +kernel
  have m5 : ∀ i, i < 7 → ∀ j, j < x_lnS.getD i 0 → Cond.eq (.elem (.field (x_tmS i) "java/lang/String" "value" "[B") (.int (Int32.ofNat j))) (.int ((x_byA.getD i []).getD j 0)) ∈ flatC (Jvm.Cond.and given_1 narrow_1) := by decide +kernel
  have m6 : ∀ i, i < 7 → ∀ j, j < 7 → i ≠ j → Cond.not (Cond.eq (x_tmS i) (x_tmS j)) ∈ flatC (Jvm.Cond.and given_1 narrow_1) ∨ Cond.not (Cond.eq (x_tmS j) (x_tmS i)) ∈ flatC (Jvm.Cond.and given_1 narrow_1) := by decide +kernel
  exact vk_Sof (by decide +kernel) (fun i hi => hs _ (m1 i hi)) (fun i hi => hs _ (m2 i hi)) (fun i hi => hs _ (m3 i hi)) (fun i hi => hs _ (m4 i hi)) (fun i hi j hj => hs _ (m5 i hi j hj)) (fun i j hi hj hij => (m6 i hi j hj hij).imp (fun h => hs _ h) (fun h => hs _ h)) hA
theorem x_T0 {s : State} {b : Nat} (hgv : (Jvm.Cond.and given_1 narrow_1).before #[Value.ref b] s = true) {A : Nat → Prop} (hA : ∀ a : Nat, a < s.heap.size → ¬ A a) : (∃ t, (Term.static "LakeBooks" "ABOVE" "[I").eval #[Value.ref b] s none [] s = some (.ref t) ∧ va_T .int t 7 (fun j => .int (x_U0.1 801 j)) A s s.heap) ∧ (∃ t, (Term.static "LakeBooks$Acts" "BODIES" "[I").eval #[Value.ref b] s none [] s = some (.ref t) ∧ va_T .int t 21 (fun j => .int (x_U0.1 802 j)) A s s.heap) := by
  have hs := flat_of_before _ hgv
  have m1 : ∀ j, j < 7 → Cond.eq (.elem (.static "LakeBooks" "ABOVE" "[I") (.int (Int32.ofNat j))) (.int (x_U0.1 801 j)) ∈ flatC (Jvm.Cond.and given_1 narrow_1) := by decide +kernel
  have m2 : ∀ j, j < 21 → Cond.eq (.elem (.static "LakeBooks$Acts" "BODIES" "[I") (.int (Int32.ofNat j))) (.int (x_U0.1 802 j)) ∈ flatC (Jvm.Cond.and given_1 narrow_1) := by decide +kernel
  exact ⟨va_Tof (by decide) (hs _ (by decide +kernel)) (va_eqt (hs _ (by decide +kernel))) (fun j hj => va_eqt (hs _ (m1 j hj))) hA, va_Tof (by decide) (hs _ (by decide +kernel)) (va_eqt (hs _ (by decide +kernel))) (fun j hj => va_eqt (hs _ (m2 j hj))) hA⟩
