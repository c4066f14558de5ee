/-! ===== the law from its entry to its end ===== -/
theorem qn_L_7 : x_in (.classLink RL 7 RX9) := ⟨List.mem_of_getElem? (i := 98) (by decide +kernel), Or.inl (by decide +kernel)⟩
theorem qn_L_10 : x_in (.classLink RL 10 RX10) := ⟨List.mem_of_getElem? (i := 1097) (by decide +kernel), Or.inl (by decide +kernel)⟩
theorem qm_L_9b : x_in (Cond.methodLink RL 9 yX9_init) := ⟨List.mem_of_getElem? (i := 100) (by decide +kernel), Or.inl (by decide +kernel)⟩
theorem qm_L_12b : x_in (Cond.methodLink RL 12 yX10_init) := ⟨List.mem_of_getElem? (i := 1099) (by decide +kernel), Or.inl (by decide +kernel)⟩
theorem qi_X9_init : x_in (.instanceMethod yX9_init) := ⟨List.mem_of_getElem? (i := 101) (by decide +kernel), Or.inl (by decide +kernel)⟩
theorem qi_X10_init : x_in (.instanceMethod yX10_init) := ⟨List.mem_of_getElem? (i := 1100) (by decide +kernel), Or.inl (by decide +kernel)⟩
theorem qd_X9_init : x_in (.code yX9_init cX9_init 2 none) := ⟨List.mem_of_getElem? (i := 102) (by decide +kernel), Or.inl (by decide +kernel)⟩
theorem qh_X9_init : yX9_init.cls ≠ "java/lang/invoke/MethodHandle" ∧ yX9_init.cls ≠ "java/lang/invoke/VarHandle" ∧ (parseMethodDescriptor yX9_init.desc).map (fun d => d.parameters.length) = some 0 := by decide +kernel
theorem qh_X10_init : yX10_init.cls ≠ "java/lang/invoke/MethodHandle" ∧ yX10_init.cls ≠ "java/lang/invoke/VarHandle" ∧ (parseMethodDescriptor yX10_init.desc).map (fun d => d.parameters.length) = some 0 := by decide +kernel
set_option maxRecDepth 100000 in
theorem whole_start {p : Program} {e : Env} {s : State} {m : MethodId} {below : List Frame} {meth : Method} {c : Code} (l : Launch) (hflags : l.flags = flags0) {b L : Nat} {xs : Nat → Int32} (hL : L ≤ 3072) (C0 : lw_At p s m meth c b L xs) : W p l e room_1 s m #[Value.ref b] below meth c s.heap [] 0 0 (lw_Z below #[Value.ref b] s) (entryFrame m ([Value.ref b] : List Value).toArray 4) := by
  obtain ⟨hexec, hb, hr, hml, hown, hts, hX, hbl, hlk, hgv⟩ := C0
  have hs := flat_of_before _ hgv
  have nA : ∀ a : Nat, a < s.heap.size → ¬ x_rg s.heap.size a := fun a h1 h2 => by have h2 : s.heap.size ≤ a := h2; omega
  obtain ⟨D, cA, hK⟩ := x_K0 hts
  obtain ⟨aK, aV, hKS, hKe⟩ := x_S0 hgv nA
  obtain ⟨⟨tA, eA, hTA⟩, tB, eB, hTB⟩ := x_T0 hgv nA
  have hq : ∃ tF : Nat, va_Z "jdk/internal/util/Preconditions" "SIOOBE_FORMATTER" "Ljava/util/function/BiFunction;" .null (x_rg s.heap.size) s s.heap ∨ va_Z "jdk/internal/util/Preconditions" "SIOOBE_FORMATTER" "Ljava/util/function/BiFunction;" (.ref tF) (x_rg s.heap.size) s s.heap := by
    rcases x_isRefOf (hs (Cond.isRef (.static "jdk/internal/util/Preconditions" "SIOOBE_FORMATTER" "Ljava/util/function/BiFunction;")) (by decide +kernel)) with h | ⟨a, h⟩
    · exact ⟨0, Or.inl (va_Zof (hts _ (by decide +kernel)) (hts _ (by decide +kernel)) h nA)⟩
    · exact ⟨a, Or.inr (va_Zof (hts _ (by decide +kernel)) (hts _ (by decide +kernel)) h nA)⟩
  obtain ⟨tF, hq⟩ := hq
  generalize hh : s.heap.size = h0
  rw [hh] at nA hKS hTA hTB hq
  have nA' : ∀ a : Nat, a < s.heap.size → ¬ x_rg h0 a := fun a h => nA a (by omega)
  generalize hadE : x_adr h0 b tA tB tF aK aV = ad
  have had9 : ad 9 = b := by rw [← hadE]; rfl
  have hadA : ad 801 = tA := by rw [← hadE]; rfl
  have hadB : ad 802 = tB := by rw [← hadE]; rfl
  have hadF : ad 803 = tF := by rw [← hadE]; rfl
  have hadK : ∀ i, i < 7 → ad (811 + i) = aK i := fun i hi => by
    rw [← hadE]; unfold x_adr
    rw [if_neg (by omega), if_neg (by omega), if_neg (by omega), if_neg (by omega), if_pos ⟨by omega, by omega⟩, show 811 + i - 811 = i by omega]
  have hadV : ∀ i, i < 7 → ad (831 + i) = aV i := fun i hi => by
    rw [← hadE]; unfold x_adr
    rw [if_neg (by omega), if_neg (by omega), if_neg (by omega), if_neg (by omega), if_neg (by omega), if_pos ⟨by omega, by omega⟩, show 831 + i - 831 = i by omega]
  have hd : ∀ o, o < 800 → o ≠ 9 → 1 ≤ x_ixA o → ad o + 1 = h0 + x_ixA o := fun o h1 h2 h3 => by rw [← hadE]; exact x_adr_dyn h1 h2 h3
  have hst : ∀ o, 40 ≤ x_kdC o → ad o < h0 := by
    intro o ho
    rcases (x_staC o (x_allC (by omega)) ho).2 with rfl | rfl | ⟨g1, g2, -⟩ | ⟨g1, g2, -⟩
    · rw [hadA, ← hh]; exact hTA.lt
    · rw [hadB, ← hh]; exact hTB.lt
    · have := hadK (o - 811) (by omega)
      rw [show 811 + (o - 811) = o by omega] at this
      rw [this, ← hh]; exact (hKS.1 _ (by omega)).1.lt
    · have := hadV (o - 831) (by omega)
      rw [show 831 + (o - 831) = o by omega] at this
      rw [this, ← hh]; exact (hKS.1 _ (by omega)).2.2.2.lt
  have RC : x_R (XC ad D cA) x_ixA h0 h0 := x_RC hd hst
  have RR : x_R (XR ad D cA) x_ixA h0 (h0 + 149) := x_RR hd
  have P1 : x_P (x_stg (XC ad D cA) x_ixA 1) x_U0 s s.heap := by
    have := RC
    rw [← hadE] at this ⊢
    exact x_P1 this hTA hTB hKS
  have hW := x_wOf hts
  have hZs : (∀ q ∈ x_Z0.1, va_Z q.1 q.2.1 q.2.2.1 (x_rv (XC ad D cA) q.2.2.2) (x_rg h0) s s.heap) ∧ (∀ q ∈ x_Z0.2.1, va_Z q.1 q.2.1 q.2.2.1 (.int q.2.2.2) (x_rg h0) s s.heap) ∧ x_SQ (XC ad D cA) (x_rg h0) s s.heap := by
    refine ⟨fun q hm => ?_, fun q hm => ?_, ?_⟩
    · simp only [x_Z0, List.mem_cons, List.not_mem_nil, or_false] at hm
      rcases hm with rfl | rfl
      · have := va_Zref (hts _ (by decide +kernel)) (hts _ (by decide +kernel)) eA nA'
        rw [x_rv_n _ (by decide)]
        show va_Z _ _ _ (.ref (ad 801)) _ _ _
        rw [hadA]; exact this
      · have := va_Zref (hts _ (by decide +kernel)) (hts _ (by decide +kernel)) eB nA'
        rw [x_rv_n _ (by decide)]
        show va_Z _ _ _ (.ref (ad 802)) _ _ _
        rw [hadB]; exact this
    · simp only [x_Z0, List.mem_cons, List.not_mem_nil, or_false] at hm
      subst hm
      exact va_Zof (hts _ (by decide +kernel)) (hts _ (by decide +kernel)) (va_eqi (hs _ (by decide +kernel))) nA'
    · rcases hq with h | h
      · exact Or.inl h
      · refine Or.inr ?_
        rw [x_rv_n _ (by decide)]
        show va_Z _ _ _ (.ref (ad 803)) _ _ _
        rw [hadF]; exact h
  have hL0 : x_L (XC ad D cA) x_Z0 s := by
    intro q hm
    simp only [x_Z0, List.mem_cons, List.not_mem_nil, or_false] at hm
    rcases hm with rfl | rfl | rfl | rfl | rfl | rfl | rfl
    · have := vk_R.of (tx := "spring") (hts _ (by decide +kernel)) (hKe 0 (by decide)); rw [← hadK 0 (by decide)] at this; exact this
    · have := vk_R.of (tx := "sun") (hts _ (by decide +kernel)) (hKe 1 (by decide)); rw [← hadK 1 (by decide)] at this; exact this
    · have := vk_R.of (tx := "mark") (hts _ (by decide +kernel)) (hKe 2 (by decide)); rw [← hadK 2 (by decide)] at this; exact this
    · have := vk_R.of (tx := "floor") (hts _ (by decide +kernel)) (hKe 3 (by decide)); rw [← hadK 3 (by decide)] at this; exact this
    · have := vk_R.of (tx := "rate") (hts _ (by decide +kernel)) (hKe 4 (by decide)); rw [← hadK 4 (by decide)] at this; exact this
    · have := vk_R.of (tx := "dmlakb") (hts _ (by decide +kernel)) (hKe 5 (by decide)); rw [← hadK 5 (by decide)] at this; exact this
    · have := vk_R.of (tx := "<=>") (hts _ (by decide +kernel)) (hKe 6 (by decide)); rw [← hadK 6 (by decide)] at this; exact this
  have hAO : x_AO s := ⟨va_AO.of (hts _ (by decide +kernel)), va_AO.of (hts _ (by decide +kernel)), va_AO.of (hts _ (by decide +kernel))⟩
  have EC : x_EC (XC ad D cA) x_Z0 (x_rg h0) s s.heap := ⟨hK, ⟨hZs, hL0⟩, hW, hAO⟩
  have ER : x_EC (XR ad D cA) x_Z0 (x_rg h0) s s.heap := ⟨hK, ⟨hZs, hL0⟩, hW, hAO⟩
  have CC : x_CC (XC ad D cA) x_Z0 x_ixA h0 h0 p room_1 s m meth c code RL 4 1000 := ⟨hexec, hb, hml, hown, EC, RC, by decide, by decide, by omega⟩
  have CR : x_C (XR ad D cA) x_Z0 p room_1 s m c code RL 4 (0 + 1 + 148 + 1 + 45) (0 + 9 + 2337 + 77 + 1845) 1000 := ⟨hexec, hb, hml, hown, ER.E (fun q h => by
    have h := RR.A q h
    have h : h0 + 149 ≤ q := h
    show h0 ≤ q
    omega), RR.I, by decide, by decide, by decide, by decide⟩
  have hD2 : x_D2 (XC ad D cA) (XR ad D cA) h0 := by
    refine ⟨rfl, RC.A, fun q h => ?_, fun o o' h1 h2 h3 h4 => ?_, fun o h => hst o h, fun o => ?_⟩
    · have h := RR.A q h
      have h : h0 + 149 ≤ q := h
      omega
    · have a1 := (RC.2.1 o h1 h2).1
      have a2 := (RR.2.1 o' h3 h4).1
      have h1 : 0 < x_kdC o := h1
      have h3 : 0 < x_kdR o' := h3
      have b1 := (x_dynC o (x_allC h1) h1 h2).2.2.2.1
      have b2 := (x_dynR o' (x_allR h3) h3).2.2.2.1
      show ad o ≠ ad o'
      have a1 : ad o + 1 = h0 + x_ixA o := a1
      have a2 : ad o' + 1 = h0 + x_ixA o' := a2
      omega
    · show x_kdR o < 40
      rcases Nat.eq_zero_or_pos (x_kdR o) with z | z
      · omega
      · exact (x_dynR o (x_allR z) z).1
  have hrv9 : x_rv (XC ad D cA) 9 = .ref b := by rw [x_rv_n _ (by decide), show x_ad (XC ad D cA) 9 = ad 9 from rfl, had9]
  have CL : x_CL (XC ad D cA) (XR ad D cA) x_Z0 h0 b L xs p room_1 s m c code RL 4 (0 + 1 + 148 + 1 + 45) (0 + 9 + 2337 + 77 + 1845) 1000 := ⟨CC.C _ _ (by decide) (by decide), CR, hD2, hX, hbl, hh.symm, hrv9, by omega⟩
  obtain ⟨μe, hμe⟩ := b_law (ad := ad) (D := D) (cA := cA) hL xs
  have nX : ∀ o, 40 ≤ x_kd (XC ad D cA) o → ¬ x_A (XC ad D cA) (x_ad (XC ad D cA) o) := fun o h h2 => by
    have a1 := hst o h
    have h2 : h0 ≤ _ := RC.A _ h2
    have h2 : h0 ≤ ad o := h2
    omega
  have nXl : ∀ o, 0 < x_kd (XC ad D cA) o → x_ad (XC ad D cA) o < h0 + 149 := fun o h => by
    show ad o < h0 + 149
    rcases Nat.lt_or_ge (x_kd (XC ad D cA) o) 40 with w | w
    · have a1 : ad o + 1 = h0 + x_ixA o := (RC.2.1 o h w).1
      have h : 0 < x_kdC o := h
      have := (x_dynC o (x_allC h) h w).2.2.2.1
      omega
    · have := hst o w; omega
  -- the reference, and the loop
  have k2 : Sm (XC ad D cA) (x_PK (XC ad D cA) x_kdR x_ixA h0 150 s) (x_rg h0) (fun (_ : Unit) (_ : x_M2) => lw_Z below #[Value.ref b] s) p l e room_1 s m #[Value.ref b] below meth c 4 (0 + 1 + 148) (0 + 9 + 2337) 8 [(1, vR 1), (0, vR 9)] [] (x_U107, x_V0) (some ((), μe)) := by
    refine l_newD (X := XC ad D cA) (y := x_kdR) hexec hb hown ER RR nX (x := 600) xc10 (by decide +kernel) (by decide +kernel) (by decide) (by decide +kernel) qn_L_10 qz_X10b qc_X10 (by decide) dL_law_8 ?_
    refine s_dupR (CC.C _ _ (by decide) (by decide)) dL_law_11 ?_
    refine l_make (X := XC ad D cA) (y := x_kdR) (n := 1000) hexec hb hml hown ER RR nX nXl hh.symm (by omega) (by omega) (by decide) (by decide) (x := 600) (by decide) (k_X10_init_600 RR) dL_law_12 rfl qm_L_12b qi_X10_init qc_X10 qd_X10_init qh_X10_init (by decide) (by decide) (by decide) ?_
    refine s_astore_n (CC.C _ _ (by decide) (by decide)) (lv' := [(2, vR 600), (1, vR 1), (0, vR 9)]) dL_law_15 (by decide) rfl ?_
    refine s_iconst (CC.C _ _ (by decide) (by decide)) dL_law_16 (v := 0) (by decide) ?_
    refine s_istore_n (CC.C _ _ (by decide) (by decide)) (lv' := [(3, vI 0), (2, vR 600), (1, vR 1), (0, vR 9)]) dL_law_17 (by decide) rfl ?_
    refine s_lv (lv' := [(0, vR 9), (1, vR 1), (2, vR 600), (3, vI 0)]) [3, 2, 1, 0] rfl ?_
    intro H locs ls hP hS hl r μ1 ho
    cases ho
    have hP1 := hP.1
    have hP2 : x_P (x_stg (XR ad D cA) x_ixA 196) x_U108 s H := hP.2.1
    rw [x_stgR] at hP2
    exact j_L_law_L18 (X := XC ad D cA) (Y := XR ad D cA) (b0 := b) ⟨RC.I, RR.I⟩ CL hr hlk (by decide) 4096 9 1 600 0 (x_U107, x_U108) H locs ls ⟨hP1, hP2⟩ hS hl () μe hμe
  -- the class under test
  have k1 : Sm (XC ad D cA) (x_PJ (XC ad D cA) x_ixA h0 1 s) (x_rg h0) (fun (_ : Unit) (_ : x_M) => lw_Z below #[Value.ref b] s) p l e room_1 s m #[Value.ref b] below meth c 4 0 0 0 (x_ar 0 [vR 9]) [] x_U0 (some ((), x_U0)) := by
    refine s_lv (lv' := [(0, vR 9)]) [0] rfl ?_
    refine c_newD CC (x := 1) xc9 ix_1 kd_1 (by decide) (by decide +kernel) qn_L_7 qz_X9b qc_X9 (by decide) dL_law_0 ?_
    refine s_dupR (CC.C _ _ (by decide) (by decide)) dL_law_3 ?_
    refine c_call CC (x := 1) (avs := []) (nest := false) (by decide) (k_X9_init_1 RC) dL_law_4 rfl qm_L_9b qi_X9_init qc_X9 qd_X9_init qh_X9_init (by decide) (by decide) (by decide) ?_
    refine s_astore_n (CC.C _ _ (by decide) (by decide)) (lv' := [(1, vR 1), (0, vR 9)]) dL_law_7 (by decide) rfl ?_
    intro H locs ls hP hS hl r μ1 ho
    refine k2 H locs ls ⟨?_, ?_, ?_⟩ hS hl () μe rfl
    · have := hP.1
      rw [x_stgC] at this
      exact this
    · intro o
      refine x_at_0 ?_
      show (if x_ixA o < 150 then x_kdR o else 0) = 0
      by_cases hi : x_ixA o < 150
      · rw [if_pos hi]
        rcases Nat.eq_zero_or_pos (x_kdR o) with z | z
        · exact z
        · have := (x_dynR o (x_allR z) z).2.2.2.1; omega
      · rw [if_neg hi]
    · exact hP.2
  have k := k1 s.heap [] _ ⟨P1, by omega⟩ va_S.rf (by rw [← x_ar_lv]; exact lv_entry (([vR 9] : List x_V).map (x_v (XC ad D cA))) (by rw [x_sl_len]; decide)) () _ rfl
  rw [show ([vR 9] : List x_V).map (x_v (XC ad D cA)) = [Value.ref b] from congrArg (fun q => [q]) hrv9] at k
  rw [lg_entry_eq]
  exact k
