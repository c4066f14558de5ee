/-! ===== the start, second half: the worlds are laid, the two objects are made, the loop is met ===== -/
theorem x_EC.narrow {X : x_X} {Z : x_Zs} {A B : Nat → Prop} {U : State} {H : Heap} (h : x_EC X Z A U H) (hAB : ∀ q, B q → A q) : x_EC X Z B U H :=
  ⟨h.1, ⟨⟨fun q hq => (h.2.1.1.1 q hq).narrow hAB, fun q hq => (h.2.1.1.2.1 q hq).narrow hAB, h.2.1.1.2.2.imp (fun z => z.narrow hAB) (fun z => z.narrow hAB)⟩, h.2.1.2⟩, h.2.2.1, h.2.2.2⟩
/-- the class's world whole, the reference's in the making -/
def x_PK (X : x_X) (y : Nat → Nat) (ix : Nat → Nat) (h0 k : Nat) (s : State) : x_M2 → Heap → Prop := fun μ H => x_P X μ.1 s H ∧ x_PJ (y, X.2) ix h0 k s μ.2 H
section BEGIN
variable {α : Type} {X : x_X} {y : Nat → Nat} {Z : x_Zs} {ix : Nat → Nat} {h0 hA k : Nat} {Q : α → x_M2 → State → Prop} {p : Program} {l : Launch} {e : Env} {R : Room} {s : State} {m : MethodId} {args : Array Value} {below : List Frame} {meth : Method} {c : Code} {cc : ByteArray} {own : String} {nL cs sl n : Nat} {pc : Nat} {lv lv' : List (Nat × x_V)} {st : List x_V} {μ : x_M2} {o : Option (α × x_M2)}
theorem l_newD (hexec : p.tables.exec = Jvm.exec) (hb : c.code = cc) (hown : s.vm.findClass own = some m.cls) (hE : x_EC (y, X.2) Z (x_rg h0) s s.heap) (hR : x_R (y, X.2) ix h0 hA) (hX : ∀ o, 40 ≤ x_kd X o → ¬ x_A X (x_ad X o))
    {ci N x idx : Nat} {C : String} {T : u_T} (hcl : x_Cls ci C T N) (hx : ix x = k) (hk : y x = ci + 1) (hk0 : 0 < k) (hbl : x_blank μ.2 ci N x = true)
    (hl1 : x_in (.classLink own idx C)) (hl2 : x_in (.instantiable C N)) (hl3 : x_in (.initialized C)) (hcs : cs + 1 ≤ R.cells ∧ sl + N ≤ R.slots) (hdg : decode cc pc = .ok (.new idx, 3))
    (kk : Sm X (x_PK X y ix h0 (k + 1) s) (x_rg h0) Q p l e R s m args below meth c nL (cs + 1) (sl + N) (pc + 3) lv (vR x :: st) μ o) : Sm X (x_PK X y ix h0 k s) (x_rg h0) Q p l e R s m args below meth c nL cs sl pc lv st μ o := by
  intro H locs ls hP hS hl r μ1 ho
  have hw := fun {w} h => hE.2.2.1.at (w := w) h args
  have hKn := hE.1.1 ci _ hcl.1
  have hci := hcl.2.1
  have hws : ∀ w ∈ u_ws C T N, w.before args s = true := fun w h => hw (hcl.2.2.1 w h)
  have hk1 : 0 < y x ∧ y x < 40 := by omega
  have had := (hR.2.1 x hk1.1 hk1.2).1
  have hz := hP.2.2
  have e0 : x_ad (y, X.2) x = H.size := by omega
  have hx0 : x ≠ 0 := fun z => by have hy0 : y 0 = 0 := hR.1; rw [z, hy0] at hk; omega
  refine W.newcK hexec hb hown (hw hl1) (hw hl2) (hw hl3) rfl hdg hcs.1 hcs.2 hKn.2.1 rfl fun H1 kC hkC e1 z1 o1 => ?_
  have h2 := kk H1 locs ls ⟨fun o => (hP.1 o).re rfl rfl rfl rfl rfl (fun hl => o1 _ hl) (fun h40 _ => hX o h40), x_P.grow hR hk0 hP.2.1 hz hx hk1 o1 ?_, by omega⟩ (hS.grow z1 o1) hl r μ1 ho
  · have h2 : W p l e R s m args below meth c H1 locs (cs + 1) (sl + N) (Q r μ1) (F0 m (pc + 3) ls (x_rv (y, X.2) x :: x_st X st)) := h2
    rw [x_rv_n _ hx0, e0] at h2
    exact h2
  · have hkd : x_kd (x_stg (y, X.2) ix (k + 1)) x = ci + 1 := by rw [x_stg_kd (by omega)]; exact hk
    refine ⟨fun _ _ => ⟨(C, T, N), ?_, ?_⟩, fun z => by omega, fun z => by omega, fun z => by omega, fun z => by omega, fun z => by omega, fun z => by omega, fun z => by omega⟩
    · rw [hkd]; exact hcl.1
    · rw [hkd]
      have b := u_born (x_ty ci) hws (fun w hw => hw) hKn hkC e1 hcl.2.2.2.1
      show t_OB (x_ad (y, X.2) x) ((x_D X).1 ci) N ((x_D X).2 ci) H1 _
      rw [e0]
      refine b.to (fun j hj => ?_)
      have h := List.all_eq_true.mp hbl j (List.mem_range.mpr hj)
      show defaultValue (x_ty ci j) = x_f (x_stg (y, X.2) ix (k + 1)) μ.2 ci x j
      unfold x_f x_isR
      cases ht : x_ty ci j with
      | int => rw [ht] at h; rw [if_neg (by decide), of_decide_eq_true h]; rfl
      | boolean => rw [ht] at h; rw [if_neg (by decide), of_decide_eq_true h]; rfl
      | object D => rw [ht] at h; rw [if_pos rfl, of_decide_eq_true h]; rfl
      | array D => rw [ht] at h; rw [if_pos rfl, of_decide_eq_true h]; rfl
      | _ => rw [ht] at h; cases h
theorem l_make (hexec : p.tables.exec = Jvm.exec) (hb : c.code = cc) (hml : c.maxLocals = nL) (hown : s.vm.findClass own = some m.cls) (hE : x_EC (y, X.2) Z (x_rg h0) s s.heap) (hR : x_R (y, X.2) ix h0 hA) (hX : ∀ o, 40 ≤ x_kd X o → ¬ x_A X (x_ad X o)) (hXl : ∀ o, 0 < x_kd X o → x_ad X o < hA) (hh : h0 = s.heap.size) (h0A : h0 ≤ hA) (hAk : hA + 1 ≤ h0 + k) (r1 : n ≤ R.frames) (r2 : 64 * n ≤ R.locals)
    {idx k' kz mz mc ms x : Nat} {yn : MethodName} {cz : ByteArray} {μ2 : x_M} (hx : 0 < x) (hM : x_Ct (y, X.2) Z ix h0 hA l yn cz mz kz mc ms k k' [vR x] μ.2 μ2) (hdg : decode cc pc = .ok (.invokespecial idx, 3)) (hy : yn.name = "<init>")
    (hl1 : x_in (Cond.methodLink own idx yn)) (hl2 : x_in (.instanceMethod yn)) (hl3 : x_in (.initialized yn.cls)) (hl4 : x_in (.code yn cz mz none)) (hd : yn.cls ≠ "java/lang/invoke/MethodHandle" ∧ yn.cls ≠ "java/lang/invoke/VarHandle" ∧ (parseMethodDescriptor yn.desc).map (fun d => d.parameters.length) = some 0) (hk : kz + 1 ≤ n ∧ mz ≤ 45) (hcs : cs + mc ≤ R.cells ∧ sl + ms ≤ R.slots) (hst : (st.map x_cat).sum ≤ 8)
    (kk : Sm X (x_PK X y ix h0 k' s) (x_rg h0) Q p l e R s m args below meth c nL (cs + mc) (sl + ms) (pc + 3) lv st (μ.1, μ2) o) : Sm X (x_PK X y ix h0 k s) (x_rg h0) Q p l e R s m args below meth c nL cs sl pc lv (vR x :: st) μ o := by
  intro H locs ls hP hS hl r μ1 ho
  have hw := fun {w} h => hE.2.2.1.at (w := w) h args
  have eA : ([vR x] : List x_V).map (x_v (y, X.2)) = [Value.ref (x_ad (y, X.2) x)] := by
    show [x_rv (y, X.2) x] = _
    rw [x_rv_n _ (by omega)]
  have hlen : ∀ sig, parseMethodDescriptor yn.desc = some sig → 0 = sig.parameters.length := by
    intro sig h
    have h2 := hd.2.2
    rw [h] at h2
    exact (Option.some.inj h2).symm
  have hpre : ∀ U : State, U.heap = H → s.WarmedH U.vm → va_Pc (([vR x] : List x_V).map (x_v (y, X.2))) (fun U => x_EC (y, X.2) Z (x_rg hA) U U.heap ∧ x_PJ (y, X.2) ix h0 k U μ.2 U.heap ∧ hA ≤ U.heap.size) ([Value.ref (x_ad (y, X.2) x)]).toArray U := by
    intro U hU hW
    refine ⟨by rw [eA], ?_, ?_, ?_⟩
    · rw [hU]
      refine (hE.go hW (fun a h1 h2 => hS.2.1 a h1 h2)).narrow (fun q hq => ?_)
      have hq : hA ≤ q := hq
      show h0 ≤ q
      omega
    · rw [hU]; exact ⟨hP.2.1.moved hW.alike, hP.2.2⟩
    · rw [hU]; have := hP.2.2; omega
  have est : x_st X (vR x :: st) = (([] : List x_V).map (x_v (y, X.2))).reverse ++ .ref (x_ad (y, X.2) x) :: x_st X st := by
    have : x_v X (vR x) = .ref (x_ad (y, X.2) x) := x_rv_n X (by omega)
    simp [x_st, this]
  have hword : ∀ w ∈ [Cond.code yn cz mz none], ∀ (a' : Array Value) (U : State), s.WarmedH U.vm → w.before a' U = true := by
    intro w hw' a' U hW
    rw [List.mem_singleton.mp hw']
    exact (hE.2.2.1.warm hW).at hl4 a'
  have hrun : va_Run p l e R s m args below meth c H locs cs sl mc ms (F0 m pc ls (x_st X (vR x :: st))) (x_st X st) ((fun _ st oc t => oc = .returned none ∧ x_PJ (y, X.2) ix h0 k' t μ2 t.heap ∧ va_F (x_rg hA) st t : Array Value → State → Outcome → State → Prop) ([Value.ref (x_ad (y, X.2) x)]).toArray) (x_rg hA) :=
    va_runI (Ts := []) (n := 0) ⟨hexec, hb, hml, hown, fun w h => by cases h⟩ hM ⟨⟨rfl, rfl, by show kz + 1 ≤ R.frames; omega, by show 8 + (mz + 11) + 64 * kz ≤ R.locals; omega, hword, List.mem_cons_self, hw hl4, hw hl3, ⟨hd.1, hd.2.1⟩, hlen, hw hl1⟩, hy, hw hl2⟩ ⟨x_Ct.blind, hpre⟩ rfl (by simp) hl.1 est (by rw [show 2 * (F0 m pc ls (x_st X (vR x :: st))).monitorRoom = 0 from rfl, x_st_sum]; omega) hdg hcs
  intro T hT X'
  obtain ⟨v, st₀, t, T', L, g0, X2, hL, e1, e2, ⟨hv, hp, hz, hkf⟩, stp⟩ := hrun T hT X'
  cases hv
  rw [g0] at hz hkf
  have al : s.vm.Alike t.vm := by rw [← e2]; exact X2.warmed.alike
  obtain ⟨t2, a1, b1⟩ := kk T'.heap (locs ++ L) ls (by
    rw [e1]
    refine ⟨fun o => ?_, hp.1.moved al.symm, hp.2⟩
    rcases Nat.eq_zero_or_pos (x_kd X o) with z | z
    · exact x_at_0 z
    · exact (hP.1 o).re rfl rfl rfl rfl rfl (fun hlt => hkf _ hlt (fun q => by have q : hA ≤ x_ad X o := q; have := hXl o z; omega)) (fun h40 _ => hX o h40)) ⟨Nat.le_trans hS.1 (by rw [e1]; exact hz), fun q h1 h2 => by rw [e1, hkf q (Nat.lt_of_lt_of_le h1 hS.1) (fun z => by have z : hA ≤ q := z; omega)]; exact hS.2.1 q h1 h2, fun q hq => by
    rcases List.mem_append.mp hq with h | h
    · exact hS.2.2 q h
    · have h : hA ≤ _ := hL q h
      show h0 ≤ _
      exact Nat.le_trans h0A h⟩ hl r μ1 ho T' rfl X2
  exact ⟨t2, stp t2 a1, b1⟩
end BEGIN
theorem x_kdC0 : x_kdC 0 = 0 := by decide +kernel
theorem x_kdR0 : x_kdR 0 = 0 := by decide +kernel
theorem x_RC {ad : Nat → Nat} {D : va_G} {cA : Nat → ClassId} {h0 : Nat} (hd : ∀ o, o < 800 → o ≠ 9 → 1 ≤ x_ixA o → ad o + 1 = h0 + x_ixA o) (hs : ∀ o, 40 ≤ x_kdC o → ad o < h0) : x_R (XC ad D cA) x_ixA h0 h0 := by
  refine ⟨x_kdC0, fun o h1 h2 => ?_, fun o p h1 h2 h3 h4 e => ?_, fun o h => ?_⟩
  · have h1 : 0 < x_kdC o := h1
    have h2 : x_kdC o < 40 := h2
    obtain ⟨a1, a2, a3, -, -⟩ := x_dynC o (x_allC h1) h1 h2
    have := hd o (by omega) a2 a3
    exact ⟨this, by show h0 ≤ ad o; omega⟩
  · have h1 : 0 < x_kdC o := h1
    have h3 : 0 < x_kdC p := h3
    have q1 := (x_dynC o (x_allC h1) h1 h2).2.2.2.2
    have q2 := (x_dynC p (x_allC h3) h3 h4).2.2.2.2
    rw [e] at q1
    exact Option.some.inj (q1.symm.trans q2)
  · have h : 40 ≤ x_kdC o := h
    exact ⟨(x_staC o (x_allC (by omega)) h).1, hs o h⟩
theorem x_RR {ad : Nat → Nat} {D : va_G} {cA : Nat → ClassId} {h0 : Nat} (hd : ∀ o, o < 800 → o ≠ 9 → 1 ≤ x_ixA o → ad o + 1 = h0 + x_ixA o) : x_R (XR ad D cA) x_ixA h0 (h0 + 149) := by
  refine ⟨x_kdR0, fun o h1 h2 => ?_, fun o p h1 h2 h3 h4 e => ?_, fun o h => ?_⟩
  · have h1 : 0 < x_kdR o := h1
    obtain ⟨-, a1, a2, a3, -, -⟩ := x_dynR o (x_allR h1) h1
    have := hd o (by omega) (by omega) (by omega)
    exact ⟨this, by show h0 + 149 ≤ ad o; omega⟩
  · have h1 : 0 < x_kdR o := h1
    have h3 : 0 < x_kdR p := h3
    have q1 := (x_dynR o (x_allR h1) h1).2.2.2.2.2
    have q2 := (x_dynR p (x_allR h3) h3).2.2.2.2.2
    rw [e] at q1
    exact Option.some.inj (q1.symm.trans q2)
  · have h : 40 ≤ x_kdR o := h
    have := (x_dynR o (x_allR (by omega)) (by omega)).1
    omega
theorem x_stgC {ad : Nat → Nat} {D : va_G} {cA : Nat → ClassId} : x_stg (XC ad D cA) x_ixA 150 = XC ad D cA := by
  have e : (fun o => if x_ixA o < 150 then x_kdC o else 0) = x_kdC := by
    funext o
    by_cases h : x_ixA o < 150
    · rw [if_pos h]
    · rw [if_neg h]
      rcases Nat.eq_zero_or_pos (x_kdC o) with z | z
      · exact z.symm
      · exfalso
        rcases Nat.lt_or_ge (x_kdC o) 40 with w | w
        · have := (x_dynC o (x_allC z) z w).2.2.2.1; omega
        · have := (x_staC o (x_allC z) w).1; omega
  show ((fun o => if x_ixA o < 150 then x_kdC o else 0), (XC ad D cA).2) = XC ad D cA
  rw [e]
theorem x_stgR {ad : Nat → Nat} {D : va_G} {cA : Nat → ClassId} : x_stg (XR ad D cA) x_ixA 196 = XR ad D cA := by
  have e : (fun o => if x_ixA o < 196 then x_kdR o else 0) = x_kdR := by
    funext o
    by_cases h : x_ixA o < 196
    · rw [if_pos h]
    · rw [if_neg h]
      rcases Nat.eq_zero_or_pos (x_kdR o) with z | z
      · exact z.symm
      · exfalso
        have := (x_dynR o (x_allR z) z).2.2.2.2.1; omega
  show ((fun o => if x_ixA o < 196 then x_kdR o else 0), (XR ad D cA).2) = XR ad D cA
  rw [e]
/-- before the first object: the statics alone -/
theorem x_P1 {h0 b tA tB tF : Nat} {aK aV : Nat → Nat} {D : va_G} {cA : Nat → ClassId} {s : State} (hR : x_R (XC (x_adr h0 b tA tB tF aK aV) D cA) x_ixA h0 h0) (hA : va_T .int tA 7 (fun j => .int (x_U0.1 801 j)) (x_rg h0) s s.heap) (hB : va_T .int tB 21 (fun j => .int (x_U0.1 802 j)) (x_rg h0) s s.heap) (hK : vk_S 7 x_lnS x_byA aK aV (x_rg h0) s s.heap) : x_P (x_stg (XC (x_adr h0 b tA tB tF aK aV) D cA) x_ixA 1) x_U0 s s.heap := by
  intro o
  have hrg : ∀ q, x_A (x_stg (XC (x_adr h0 b tA tB tF aK aV) D cA) x_ixA 1) q → x_rg h0 q := by
    rintro q ⟨i, i1, i2, i3⟩
    have ii := x_stg_pos i1
    rw [x_stg_kd ii] at i1 i2
    have := (hR.2.1 i i1 i2).2
    rw [← i3]; exact this
  have hk : x_kd (x_stg (XC (x_adr h0 b tA tB tF aK aV) D cA) x_ixA 1) o = if x_ixA o < 1 then x_kdC o else 0 := rfl
  by_cases hi : x_ixA o < 1
  · rw [if_pos hi] at hk
    rcases Nat.eq_zero_or_pos (x_kdC o) with z | z
    · exact x_at_0 (hk.trans z)
    · rcases Nat.lt_or_ge (x_kdC o) 40 with w | w
      · have := (x_dynC o (x_allC z) z w).2.2.1; omega
      · rcases (x_staC o (x_allC z) w).2 with rfl | rfl | ⟨g1, g2, g3⟩ | ⟨g1, g2, g3⟩
        · have e : x_kdC 801 = 40 := by decide +kernel
          rw [e] at hk
          generalize hXX : x_stg (XC (x_adr h0 b tA tB tF aK aV) D cA) x_ixA 1 = XX at hk hrg
          have ea : x_ad XX 801 = tA := by rw [← hXX]; rfl
          have el : ∀ o, x_ln XX o = x_lnA o := fun o => by rw [← hXX]; rfl
          have e7 : x_lnA 801 = 7 := by decide +kernel
          refine ⟨fun _ _ => by omega, fun z => by omega, fun z => by omega, fun z => by omega, fun _ _ => by omega, fun _ => ?_, fun z => by omega, fun z => by omega⟩
          rw [ea, el, e7]; exact hA.narrow hrg
        · have e : x_kdC 802 = 40 := by decide +kernel
          rw [e] at hk
          generalize hXX : x_stg (XC (x_adr h0 b tA tB tF aK aV) D cA) x_ixA 1 = XX at hk hrg
          have ea : x_ad XX 802 = tB := by rw [← hXX]; rfl
          have el : ∀ o, x_ln XX o = x_lnA o := fun o => by rw [← hXX]; rfl
          have e7 : x_lnA 802 = 21 := by decide +kernel
          refine ⟨fun _ _ => by omega, fun z => by omega, fun z => by omega, fun z => by omega, fun _ _ => by omega, fun _ => ?_, fun z => by omega, fun z => by omega⟩
          rw [ea, el, e7]; exact hB.narrow hrg
        · rw [g3] at hk
          refine ⟨fun _ _ => by omega, fun z => by omega, fun z => by omega, fun z => by omega, fun _ _ => by omega, fun z => by omega, fun z => by omega, fun _ => ?_⟩
          have q := hK.1 (o - 811) (by omega)
          have ea : x_adr h0 b tA tB tF aK aV o = aK (o - 811) := by
            unfold x_adr
            rw [if_neg (by omega), if_neg (by omega), if_neg (by omega), if_neg (by omega), if_pos ⟨g1, g2⟩]
          have eb : x_adr h0 b tA tB tF aK aV (o + 20) = aV (o - 811) := by
            unfold x_adr
            rw [if_neg (by omega), if_neg (by omega), if_neg (by omega), if_neg (by omega), if_neg (by omega), if_pos ⟨by omega, by omega⟩, show o + 20 - 831 = o - 811 by omega]
          have ec : x_U0.1 o 0 = 0 := by
            show (if o = 801 then _ else if o = 802 then _ else if 831 ≤ o ∧ o < 838 then _ else (0 : Int32)) = 0
            rw [if_neg (by omega), if_neg (by omega), if_neg (by omega)]
          have ed : x_U0.2.1 o 1 = o + 20 := by
            show (if 811 ≤ o ∧ o < 818 ∧ 1 = 1 then o + 20 else 0) = o + 20
            rw [if_pos ⟨g1, g2, rfl⟩]
          show va_O "java/lang/String" (x_adr h0 b tA tB tF aK aV o) _ s s.heap ∧ va_OF "java/lang/String" "coder" "B" (.int (x_U0.1 o 0)) (x_adr h0 b tA tB tF aK aV o) _ s s.heap ∧ va_OF "java/lang/String" "value" "[B" (x_rv (x_stg (XC (x_adr h0 b tA tB tF aK aV) D cA) x_ixA 1) (x_U0.2.1 o 1)) (x_adr h0 b tA tB tF aK aV o) _ s s.heap
          rw [ec, ed, x_rv_n _ (by omega), show x_ad (x_stg (XC (x_adr h0 b tA tB tF aK aV) D cA) x_ixA 1) (o + 20) = x_adr h0 b tA tB tF aK aV (o + 20) from rfl, ea, eb]
          exact ⟨q.1.narrow hrg, q.2.1.narrow hrg, q.2.2.1.narrow hrg⟩
        · rw [g3] at hk
          refine ⟨fun _ _ => by omega, fun z => by omega, fun z => by omega, fun z => by omega, fun _ _ => by omega, fun z => by omega, fun _ => ?_, fun z => by omega⟩
          have q := hK.1 (o - 831) (by omega)
          have ea : x_adr h0 b tA tB tF aK aV o = aV (o - 831) := by
            unfold x_adr
            rw [if_neg (by omega), if_neg (by omega), if_neg (by omega), if_neg (by omega), if_neg (by omega), if_pos ⟨by omega, by omega⟩]
          have el : x_lnA o = x_lnS.getD (o - 831) 0 := by
            have := (by decide +kernel : ∀ i, i < 7 → x_lnA (831 + i) = x_lnS.getD i 0) (o - 831) (by omega)
            rw [show 831 + (o - 831) = o by omega] at this
            exact this
          have ec : ∀ j, x_U0.1 o j = (x_byA.getD (o - 831) []).getD j 0 := fun j => by
            show (if o = 801 then _ else if o = 802 then _ else if 831 ≤ o ∧ o < 838 then (x_byA.getD (o - 831) []).getD j 0 else (0 : Int32)) = _
            rw [if_neg (by omega), if_neg (by omega), if_pos ⟨g1, g2⟩]
          show va_T .byte (x_adr h0 b tA tB tF aK aV o) (x_lnA o) (fun j => .int (x_U0.1 o j)) _ s s.heap
          rw [ea, el, show (fun j => Value.int (x_U0.1 o j)) = (fun j => .int ((x_byA.getD (o - 831) []).getD j 0)) from funext (fun j => by rw [ec])]
          exact q.2.2.2.narrow hrg
  · rw [if_neg hi] at hk
    exact x_at_0 hk
