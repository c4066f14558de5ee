/-! ===== constructors: a few rows more ===== -/
theorem x_stgk {X : x_X} {ix : Nat → Nat} {k o i v : Nat} (h1 : ix o = i) (h2 : i < k) (h3 : X.1 o = v) : x_kd (x_stg X ix k) o = v := by
  rw [x_stg_kd (by omega)]; exact h3
def x_blank (μ : x_M) (ci N x : Nat) : Bool := (List.range N).all (fun j => match x_ty ci j with
  | .int => decide (μ.1 x j = 0)
  | .boolean => decide (μ.1 x j = 0)
  | .object _ => decide (μ.2.1 x j = 0)
  | .array _ => decide (μ.2.1 x j = 0)
  | _ => false)
section CTOR2
variable {α β : Type} {X : x_X} {Z : x_Zs} {ix : Nat → Nat} {h0 hA k : Nat} {Q : α → x_M → State → Prop} {p : Program} {l : Launch} {e : Env} {R : Room} {s : State} {m : MethodId} {args : Array Value} {below : List Frame} {meth : Method} {c : Code} {cc : ByteArray} {own : String} {nL cs sl n : Nat} {pc : Nat} {lv lv' : List (Nat × x_V)} {st : List x_V} {μ : x_M} {o : Option (α × x_M)}
theorem c_newD (hC : x_CC X Z ix h0 hA p R s m meth c cc own nL n) {ci N x idx : Nat} {C : String} {T : u_T} (hcl : x_Cls ci C T N) (hx : ix x = k) (hk : X.1 x = ci + 1) (hk0 : 0 < k) (hb : x_blank μ ci N x = true)
    (hl1 : x_in (.classLink own idx C)) (hl2 : x_in (.instantiable C N)) (hl3 : x_in (.initialized C)) (hcs : cs + 1 ≤ R.cells ∧ sl + N ≤ R.slots) (hdg : decode cc pc = .ok (.new idx, 3))
    (kk : Sm X (x_PJ X ix h0 (k + 1) s) (x_rg hA) Q p l e R s m args below meth c nL (cs + 1) (sl + N) (pc + 3) lv (vR x :: st) μ o) : Sm X (x_PJ X ix h0 k s) (x_rg hA) Q p l e R s m args below meth c nL cs sl pc lv st μ o := by
  refine c_new hC hcl hx hk hk0 (fun j hj => ?_) hl1 hl2 hl3 hcs hdg kk
  have h := List.all_eq_true.mp hb j (List.mem_range.mpr hj)
  unfold x_isR
  cases ht : x_ty ci j with
  | int => rw [ht] at h; exact ⟨fun _ => ⟨of_decide_eq_true h, _, rfl, rfl⟩, (fun z => by cases z)⟩
  | boolean => rw [ht] at h; exact ⟨fun _ => ⟨of_decide_eq_true h, _, rfl, rfl⟩, (fun z => by cases z)⟩
  | object D => rw [ht] at h; exact ⟨(fun z => by cases z), fun _ => ⟨of_decide_eq_true h, rfl⟩⟩
  | array D => rw [ht] at h; exact ⟨(fun z => by cases z), fun _ => ⟨of_decide_eq_true h, rfl⟩⟩
  | _ => rw [ht] at h; cases h
theorem c_putI2 (hC : x_CC X Z ix h0 hA p R s m meth c cc own nL n) {ci j N idx x : Nat} {T : u_T} {v : Int32} (hcl : x_Cls ci own T N) (hjN : j < N) (hR : x_ty ci j = .int) (hfin : (T j).2.2.2 = false)
    (hlink : x_in (.fieldLink own idx own (T j).2.1 (T j).2.2.1)) (hx : x_kd (x_stg X ix k) x = ci + 1) (hdg : decode cc pc = .ok (.putfield idx, 3))
    (kk : Sm X (x_PJ X ix h0 k s) (x_rg hA) Q p l e R s m args below meth c nL cs sl (pc + 3) lv st (x_sI μ x j v) o) : Sm X (x_PJ X ix h0 k s) (x_rg hA) Q p l e R s m args below meth c nL cs sl pc lv (vI v :: vR x :: st) μ o := by
  have hR2 : x_isR ci j = false := by unfold x_isR; rw [hR]
  intro H locs ls hP hS hl r μ1 ho
  obtain ⟨hexec, hb, hml, hown, hE, hRR, r1, r2, r3⟩ := id hC
  have hI : x_I (x_stg X ix k) := hRR.inj
  have hxk : ix x < k := x_stg_pos (X := X) (ix := ix) (k := k) (by omega)
  have hx2 := hx
  rw [x_stg_kd hxk] at hx2
  have hci := hcl.2.1
  have hxad : hA ≤ x_ad X x := (hRR.2.1 x (by omega) (by omega)).2
  have hE' : x_E (x_stg X ix k) Z s s.heap := by
    have hA' : ∀ q, x_A (x_stg X ix k) q → x_rg hA q := by
      rintro q ⟨i, i1, i2, i3⟩
      have ii := x_stg_pos i1
      rw [x_stg_kd ii] at i1 i2
      have := (hRR.2.1 i i1 i2).2
      rw [← i3]; exact this
    exact x_EC.E (X := x_stg X ix k) hE hA'
  obtain ⟨cell, cC, kC, q1, q2, q3, q4, hcC, hfc, hkC, hkind, hsl, hws⟩ := x_obj (args := args) (X := x_stg X ix k) hE' hP.1 hcl hx
  obtain ⟨cf, kf, fi, f, hi, hsf⟩ := hsl j hjN
  have h0 : x ≠ 0 := fun z => by rw [z, hI.1] at hx; omega
  have hst := (u_facts hfc hkC (u_lays hws (fun w hw => hw) hjN) hi).1
  have hap := va_apart (D := x_D X) (own := own) hws (fun w hw => hw) (x_ty ci) hcl.2.2.2.1 hcl.2.2.2.2.1 hE.1 hcl.1
  have hlay := hws _ (u_in_lay hjN)
  unfold u_lay at hlay
  rw [if_neg (by rw [hfin]; decide)] at hlay
  have hi' := hi
  have h6 := u_store (v := .int v) hfc hkC hkind hlay hi (hcl.2.2.2.1 j hjN) (by rw [hR]; rfl) (by rw [hR]; rfl)
  have hT' : s.fieldFound? own (T j).2.1 (T j).2.2.1 = some (cf, kf, fi, f) := by
    have := hcl.2.2.2.2.2 j hjN
    rw [this] at hi'; exact hi'
  show W p l e R s m args below meth c H locs cs sl (Q r μ1) (F0 m pc ls (.int v :: x_rv X x :: x_st X st))
  rw [x_rv_n X h0]
  refine W.putK hexec hb (f := f) ⟨hown, hE.2.2.1.at hlink args, ⟨_, _, _, hT'⟩, hst⟩ (by rw [q2, hcC]; exact h6) q1 q3 (by rw [hsf]; exact k2_hasslot (q4 j hjN)) rfl rfl hdg fun H' g1 g2 g3 => ?_
  refine kk H' _ ls ⟨x_P.put hI hP.1 (o := x) (by omega) (by omega) ?_ g3 (fun q hq => x_u_ne hq) (fun q hq => rfl) (fun q hq => rfl), by rw [g2]; exact hP.2⟩ (hS.put g2 g3 hxad) hl r μ1 ho
  have hk1 : x_kd (x_stg X ix k) x - 1 = ci := by omega
  refine ⟨fun _ _ => ⟨(own, T, N), ?_, ?_⟩, fun z => by omega, fun z => by omega, fun z => by omega, fun z => by omega, fun z => by omega, fun z => by omega, fun z => by omega⟩
  · rw [hk1]; exact hcl.1
  · rw [hk1]
    rw [hsf] at g1
    exact t_OB.to (V := updV (fun i => x_f X μ ci x i) j (.int v)) ⟨_, g1, q2, q3, t_set q4 hap hjN (.int v)⟩ (fun i _ => x_f_sI hR2 i)
/-- a method of such a world -/
theorem c_callV (hC : x_CC X Z ix h0 hA p R s m meth c cc own nL n) {idx k' kz mz mc ms x ci N : Nat} {C : String} {T : u_T} {y : MethodName} {cz : ByteArray} {avs : List x_V} {μ2 : x_M} {nest : Bool} (hcl : x_Cls ci C T N) (hx0 : x_kd (x_stg X ix k) x = ci + 1) (hM : x_Ct X Z ix h0 hA l y cz mz kz mc ms k k' (vR x :: avs) μ μ2) (hdg : decode cc pc = .ok (.invokevirtual idx, 3))
    (hl1 : x_in (match nest with | true => Cond.methodLinkNest own idx y "LakeBooks" | false => Cond.methodLink own idx y)) (hl2 : x_in (.instanceMethod y)) (hl5 : x_in (.selects C y y)) (hl3 : x_in (.initialized y.cls)) (hl4 : x_in (.code y cz mz none)) (hd : y.cls ≠ "java/lang/invoke/MethodHandle" ∧ y.cls ≠ "java/lang/invoke/VarHandle" ∧ (parseMethodDescriptor y.desc).map (fun d => d.parameters.length) = some avs.length) (hk : kz + 1 ≤ n ∧ mz ≤ 45) (hcs : cs + mc ≤ R.cells ∧ sl + ms ≤ R.slots) (hst : (st.map x_cat).sum ≤ 8)
    (kk : Sm X (x_PJ X ix h0 k' s) (x_rg hA) Q p l e R s m args below meth c nL (cs + mc) (sl + ms) (pc + 3) lv st μ2 o) : Sm X (x_PJ X ix h0 k s) (x_rg hA) Q p l e R s m args below meth c nL cs sl pc lv (avs.reverse ++ vR x :: st) μ o := by
  intro H locs ls hP hS hl r μ1 ho
  obtain ⟨hexec, hb, hml, hown, hE, hR, r1, r2, r3⟩ := id hC
  have hw := fun {w} h => hE.2.2.1.at (w := w) h args
  have hI : x_I (x_stg X ix k) := hR.inj
  have hx : x ≠ 0 := fun z => by rw [z, hI.1] at hx0; omega
  have hE' : x_E (x_stg X ix k) Z s s.heap := by
    have hA' : ∀ q, x_A (x_stg X ix k) q → x_rg hA q := by
      rintro q ⟨i, i1, i2, i3⟩
      have ii := x_stg_pos i1
      rw [x_stg_kd ii] at i1 i2
      have := (hR.2.1 i i1 i2).2
      rw [← i3]; exact this
    exact x_EC.E (X := x_stg X ix k) hE hA'
  obtain ⟨cell, cC, kC, g1, g2, g3, -, g5, hfc, -⟩ := x_obj (args := args) (X := x_stg X ix k) hE' hP.1 hcl hx0
  have eA : (vR x :: avs).map (x_v X) = Value.ref (x_ad X x) :: avs.map (x_v X) := by
    show x_rv X x :: avs.map (x_v X) = _
    rw [x_rv_n X hx]
  have hlen : ∀ sig, parseMethodDescriptor y.desc = some sig → avs.length = sig.parameters.length := by
    intro sig h
    have h2 := hd.2.2
    rw [h] at h2
    exact (Option.some.inj h2).symm
  have hpre : ∀ U : State, U.heap = H → s.WarmedH U.vm → va_Pc ((vR x :: avs).map (x_v X)) (fun U => x_EC X Z (x_rg hA) U U.heap ∧ x_PJ X ix h0 k U μ U.heap ∧ hA ≤ U.heap.size) (Value.ref (x_ad X x) :: avs.map (x_v X)).toArray U := by
    intro U hU hW
    refine ⟨by rw [eA], ?_, ?_, ?_⟩
    · rw [hU]; exact hE.go hW (fun a h1 h2 => hS.2.1 a h1 h2)
    · rw [hU]; exact ⟨hP.1.moved hW.alike, hP.2⟩
    · rw [hU]; exact Nat.le_trans r3 hS.1
  have est : x_st X (avs.reverse ++ vR x :: st) = (avs.map (x_v X)).reverse ++ .ref (x_ad X x) :: x_st X st := by
    have : x_v X (vR x) = .ref (x_ad X x) := x_rv_n X hx
    simp [x_st, this]
  have hword : ∀ w ∈ [Cond.code y cz mz none], ∀ (a' : Array Value) (U : State), s.WarmedH U.vm → w.before a' U = true := by
    intro w hw' a' U hW
    rw [List.mem_singleton.mp hw']
    exact (hE.2.2.1.warm hW).at hl4 a'
  have hrun : va_Run p l e R s m args below meth c H locs cs sl mc ms (F0 m pc ls (x_st X (avs.reverse ++ vR x :: st))) (x_st X st) ((fun _ st oc t => oc = .returned none ∧ x_PJ X ix h0 k' t μ2 t.heap ∧ va_F (x_rg hA) st t : Array Value → State → Outcome → State → Prop) (Value.ref (x_ad X x) :: avs.map (x_v X)).toArray) (x_rg hA) := by
    cases nest with
    | true => exact va_runVN (C := C) (Ts := []) (n := avs.length) ⟨hexec, hb, hml, hown, fun w h => by cases h⟩ hM ⟨⟨⟨rfl, rfl, by show kz + 1 ≤ R.frames; omega, by show 8 + (mz + 11) + 64 * kz ≤ R.locals; omega, hword, List.mem_cons_self⟩, hw hl4, hw hl3, ⟨hd.1, hd.2.1⟩, hlen, hw hl1⟩, hw hl2, hw hl5⟩ ⟨x_Ct.blind, ⟨cell, g1, by rw [g3]; rfl, by rw [g2, g5]; exact hfc⟩, hpre⟩ rfl (by simp) hl.1 est (by rw [show 2 * (F0 m pc ls (x_st X (avs.reverse ++ vR x :: st))).monitorRoom = 0 from rfl, x_st_sum]; omega) hdg hcs
    | false => exact va_runV (C := C) (Ts := []) (n := avs.length) ⟨hexec, hb, hml, hown, fun w h => by cases h⟩ hM ⟨⟨rfl, rfl, by show kz + 1 ≤ R.frames; omega, by show 8 + (mz + 11) + 64 * kz ≤ R.locals; omega, hword, List.mem_cons_self, hw hl4, hw hl3, ⟨hd.1, hd.2.1⟩, hlen, hw hl1⟩, hw hl2, hw hl5⟩ ⟨x_Ct.blind, ⟨cell, g1, by rw [g3]; rfl, by rw [g2, g5]; exact hfc⟩, hpre⟩ rfl (by simp) hl.1 est (by rw [show 2 * (F0 m pc ls (x_st X (avs.reverse ++ vR x :: st))).monitorRoom = 0 from rfl, x_st_sum]; omega) hdg hcs
  intro T hT X'
  obtain ⟨v, st₀, t, T', L, g0, X2, hL, e1, e2, ⟨hv, hp, hz, hkf⟩, stp⟩ := hrun T hT X'
  cases hv
  rw [g0] at hz hkf
  have al : s.vm.Alike t.vm := by rw [← e2]; exact X2.warmed.alike
  obtain ⟨t2, a1, b1⟩ := kk T'.heap (locs ++ L) ls (by rw [e1]; exact ⟨hp.1.moved al.symm, hp.2⟩) ⟨Nat.le_trans hS.1 (by rw [e1]; exact hz), fun q h1 h2 => by rw [e1, hkf q (Nat.lt_of_lt_of_le h1 hS.1) h2]; exact hS.2.1 q h1 h2, fun q hq => by
    rcases List.mem_append.mp hq with h | h
    · exact hS.2.2 q h
    · exact hL q h⟩ hl r μ1 ho T' rfl X2
  exact ⟨t2, stp t2 a1, b1⟩
end CTOR2
section GE
variable {τ α β : Type} {X : x_X} {Z : x_Zs} {I : τ → Heap → Prop} {A : Nat → Prop} {Q : α → τ → State → Prop} {p : Program} {l : Launch} {e : Env} {R : Room} {s : State} {m : MethodId} {args : Array Value} {below : List Frame} {meth : Method} {c : Code} {cc : ByteArray} {own : String} {nL cs sl n : Nat} {pc : Nat} {lv lv' : List (Nat × x_V)} {st : List x_V} {μ : τ} {o : Option (α × τ)}
theorem c_ge_t (hC : x_C X Z p R s m c cc own nL cs sl n) {x y : Int32} {off : Int} {tgt : Nat} (hdg : decode cc pc = .ok (.if_icmp .ge off, 3)) (ht : (pc : Int) + off = (tgt : Int)) (hc : y ≤ x) (k : Sm X I A Q p l e R s m args below meth c nL cs sl tgt lv st μ o) : Sm X I A Q p l e R s m args below meth c nL cs sl pc lv (vI y :: vI x :: st) μ o := by
  have h := s_icmp_ge hC (x := x) (y := y) (K2 := none) hdg ht k s_none
  rw [if_pos hc] at h
  exact h
theorem c_ge_f (hC : x_C X Z p R s m c cc own nL cs sl n) {x y : Int32} {off : Int} {tgt : Nat} (hdg : decode cc pc = .ok (.if_icmp .ge off, 3)) (ht : (pc : Int) + off = (tgt : Int)) (hc : ¬ y ≤ x) (k : Sm X I A Q p l e R s m args below meth c nL cs sl (pc + 3) lv st μ o) : Sm X I A Q p l e R s m args below meth c nL cs sl pc lv (vI y :: vI x :: st) μ o := by
  have h := s_icmp_ge hC (x := x) (y := y) (K1 := none) hdg ht s_none k
  rw [if_neg hc] at h
  exact h
end GE
