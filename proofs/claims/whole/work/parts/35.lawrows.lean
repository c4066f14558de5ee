/-! ===== the law: a pair of memories, of the class and of the reference; the script is id 9 ===== -/
abbrev x_M2 : Type := x_M × x_M
/-- the two worlds: the same addresses, apart -/
def x_D2 (X Y : x_X) (h0 : Nat) : Prop := Y.2 = X.2 ∧ (∀ q, x_A X q → h0 ≤ q) ∧ (∀ q, x_A Y q → h0 ≤ q) ∧ (∀ o o', 0 < x_kd X o → x_kd X o < 40 → 0 < x_kd Y o' → x_kd Y o' < 40 → x_ad X o ≠ x_ad Y o') ∧ (∀ o, 40 ≤ x_kd X o → x_ad X o < h0) ∧ (∀ o, x_kd Y o < 40)
def x_PP (X Y : x_X) (s : State) : x_M2 → Heap → Prop := fun μ H => x_P X μ.1 s H ∧ x_P Y μ.2 s H
/-- what stays the same in the law's run -/
def x_CL (X Y : x_X) (Z : x_Zs) (h0 b L : Nat) (xs : Nat → Int32) (p : Program) (R : Room) (s : State) (m : MethodId) (c : Code) (cc : ByteArray) (own : String) (nL cs sl n : Nat) : Prop :=
  x_C X Z p R s m c cc own nL cs sl n ∧ x_C Y Z p R s m c cc own nL cs sl n ∧ x_D2 X Y h0 ∧ va_X b L xs s s.heap ∧ b < s.heap.size ∧ h0 = s.heap.size ∧ x_rv X 9 = .ref b ∧ L < 2 ^ 31
theorem x_at_0 {X : x_X} {μ : x_M} {U : State} {H : Heap} {o : Nat} (h : x_kd X o = 0) : x_at X μ U H o :=
  ⟨fun z => by omega, fun z => by omega, fun z => by omega, fun z => by omega, fun z => by omega, fun z => by omega, fun z => by omega, fun z => by omega⟩
section LAWR
variable {α β : Type} {X Y : x_X} {Z : x_Zs} {h0 b L : Nat} {xs : Nat → Int32} {Q : α → x_M2 → State → Prop} {p : Program} {l : Launch} {e : Env} {R : Room} {s : State} {m : MethodId} {args : Array Value} {below : List Frame} {meth : Method} {c : Code} {cc : ByteArray} {own : String} {nL cs sl n : Nat} {pc : Nat} {lv lv' : List (Nat × x_V)} {st : List x_V} {μ : x_M2} {o : Option (α × x_M2)}
theorem l_ald (hC : x_CL X Y Z h0 b L xs p R s m c cc own nL cs sl n) {i : Int32} {a : Nat} (hdg : decode cc pc = .ok (.iaload, 1)) (kk : Sm X (x_PP X Y s) (x_rg h0) Q p l e R s m args below meth c nL cs sl (pc + 1) lv (vI (xs i.toNatClampNeg) :: st) μ o) : Sm X (x_PP X Y s) (x_rg h0) Q p l e R s m args below meth c nL cs sl pc lv (vI i :: vR a :: st) μ (ck (a = 9 ∧ x_ix i L) o) := by
  intro H locs ls hP hS hl r μ1 ho
  unfold ck at ho
  by_cases hx : a = 9 ∧ x_ix i L
  · rw [if_pos hx] at ho
    obtain ⟨rfl, hi⟩ := hx
    obtain ⟨hC1, -, -, hX, hb, hh, hr, -⟩ := hC
    show W p l e R s m args below meth c H locs cs sl (Q r μ1) (F0 m pc ls (.int i :: x_rv X 9 :: x_st X st))
    rw [hr]
    exact va_sld hC1.1 hC1.2.1 hX hb (fun z => by have z : h0 ≤ b := z; omega) hS hi hdg (kk H locs ls hP hS hl r μ1 ho)
  · rw [if_neg hx] at ho; cases ho
theorem l_len (hC : x_CL X Y Z h0 b L xs p R s m c cc own nL cs sl n) {a : Nat} (hdg : decode cc pc = .ok (.arraylength, 1)) (kk : Sm X (x_PP X Y s) (x_rg h0) Q p l e R s m args below meth c nL cs sl (pc + 1) lv (vI (nI L) :: st) μ o) : Sm X (x_PP X Y s) (x_rg h0) Q p l e R s m args below meth c nL cs sl pc lv (vR a :: st) μ (ck (a = 9) o) := by
  intro H locs ls hP hS hl r μ1 ho
  unfold ck at ho
  by_cases hx : a = 9
  · rw [if_pos hx] at ho
    subst hx
    obtain ⟨hC1, -, -, hX, hb, hh, hr, -⟩ := hC
    show W p l e R s m args below meth c H locs cs sl (Q r μ1) (F0 m pc ls (x_rv X 9 :: x_st X st))
    rw [hr]
    obtain ⟨scr, q1, q2, q3, q4, q5⟩ := hX
    exact W.alen (n := Int32.ofNat L) hC1.1 hC1.2.1 (by rw [hS.2.1 b hb (fun z => by have z : h0 ≤ b := z; omega)]; exact q1) q2 (by rw [q4]) rfl rfl hdg (kk H locs ls hP hS hl r μ1 ho)
  · rw [if_neg hx] at ho; cases ho
/-- behind a call of one world's method -/
theorem l_back {X1 : x_X} {rk : β → List x_V} {r : β} {μ2 : x_M} {a : Array Value} {H : Heap} {locs : List Loc} {ls : Array Slot} {st0 : List Value} {Q2 : State → Prop} (hr : va_Run p l e R s m args below meth c H locs cs sl 0 0 (F0 m pc ls st0) (x_st X st) (x_Q X1 rk r μ2 a) (x_A X1)) (hA : ∀ q, x_A X1 q → h0 ≤ q) (hX1 : ∀ q : x_V, x_v X1 q = x_v X q) (hlen : (rk r).length ≤ 1) (hS : va_S (x_rg h0) s.heap H locs)
    (kk : ∀ (H1 : Heap) (locs1 : List Loc), x_P X1 μ2 s H1 → (∀ q, q < H.size → ¬ x_A X1 q → H1[q]? = H[q]?) → va_S (x_rg h0) s.heap H1 locs1 → W p l e R s m args below meth c H1 locs1 cs sl Q2 (F0 m (pc + 3) ls (x_st X (rk r ++ st)))) : W p l e R s m args below meth c H locs cs sl Q2 (F0 m pc ls st0) := by
  intro T hT X'
  obtain ⟨v, st₀, t, T', L', g0, X2, hL, e1, e2, ⟨hv, hp, hz, hk⟩, stp⟩ := hr T hT X'
  rw [g0] at hz hk
  have hv' : v = ((rk r).map (x_v X1)).head? := Outcome.returned.inj hv
  have al : s.vm.Alike t.vm := by rw [← e2]; exact X2.warmed.alike
  obtain ⟨t2, a1, b1⟩ := kk T'.heap (locs ++ L') (by rw [e1]; exact hp.moved al.symm) (fun q h1 h2 => by rw [e1]; exact hk q h1 h2) ⟨Nat.le_trans hS.1 (by rw [e1]; exact hz), fun q h1 h2 => by rw [e1, hk q (Nat.lt_of_lt_of_le h1 hS.1) (fun z => h2 (hA q z))]; exact hS.2.1 q h1 h2, fun q hq => by
    rcases List.mem_append.mp hq with h | h
    · exact hS.2.2 q h
    · exact hA _ (hL q h)⟩ T' rfl X2
  refine ⟨t2, stp t2 ?_, b1⟩
  have hst : v.toList ++ x_st X st = x_st X (rk r ++ st) := by
    subst hv'
    have e : (rk r).map (x_v X1) = (rk r).map (x_v X) := List.map_congr_left (fun q _ => hX1 q)
    rw [e]
    match h : rk r, hlen with
    | [], _ => simp
    | [q], _ => simp
  rw [hst]
  exact a1
theorem x_run {X1 : x_X} {H : Heap} {locs : List Loc} {ls : Array Slot} {rk : β → List x_V} {μz : x_M} (hX1 : ∀ q : x_V, x_v X1 q = x_v X q) (hC : x_C X1 Z p R s m c cc own nL cs sl n) (hP : x_P X1 μz s H) (hS : va_S (x_rg h0) s.heap H locs) (hA : ∀ q, x_A X1 q → h0 ≤ q) (hh : h0 = s.heap.size) (hl : lv_has ls nL (x_lv X lv)) {idx k mz ci N x : Nat} {C : String} {T : u_T} {y : MethodName} {cz : ByteArray} {retz : Option FieldType} {avs : List x_V} {oz : Option (β × x_M)} (hcl : x_Cls ci C T N) (hM : x_Met X1 Z l y cz mz retz k (vR x :: avs) μz rk oz) (hx0 : x_kd X1 x = ci + 1) {rz : β} {μ2 : x_M} (hoz : oz = some (rz, μ2)) (hdg : decode cc pc = .ok (.invokevirtual idx, 3))
    (hl1 : x_in (Cond.methodLink own idx y)) (hl2 : x_in (.instanceMethod y)) (hl5 : x_in (.selects C y y)) (hl3 : x_in (.initialized y.cls)) (hl4 : x_in (.code y cz mz retz)) (hd : y.cls ≠ "java/lang/invoke/MethodHandle" ∧ y.cls ≠ "java/lang/invoke/VarHandle" ∧ (parseMethodDescriptor y.desc).map (fun d => d.parameters.length) = some avs.length) (hk : k + 1 ≤ n ∧ mz ≤ 45) (hst : (st.map x_cat).sum ≤ 8) :
    ∃ a, va_Run p l e R s m args below meth c H locs cs sl 0 0 (F0 m pc ls (x_st X (avs.reverse ++ vR x :: st))) (x_st X st) (x_Q X1 rk rz μ2 a) (x_A X1) := by
  obtain ⟨hexec, hb, hml, hown, hE, hI, r1, r2, r3, r4⟩ := id hC
  have hw := fun {w} h => hE.2.2.at (w := w) h args
  have h0x : x ≠ 0 := fun z => by rw [z, hI.1] at hx0; omega
  obtain ⟨cell, cC, kC, q1, q2, q3, q4, q5, hfc, -⟩ := x_obj (args := args) hE hP hcl hx0
  have eA : (vR x :: avs).map (x_v X1) = Value.ref (x_ad X1 x) :: avs.map (x_v X1) := by
    show x_rv X1 x :: avs.map (x_v X1) = _
    rw [x_rv_n X1 h0x]
  have emap : ∀ w : List x_V, w.map (x_v X1) = w.map (x_v X) := fun w => List.map_congr_left (fun q _ => hX1 q)
  have hpre : ∀ U : State, U.heap = H → s.WarmedH U.vm → va_Pc ((vR x :: avs).map (x_v X1)) (x_H X1 Z μz) (Value.ref (x_ad X1 x) :: avs.map (x_v X1)).toArray U := by
    intro U hU hW
    refine ⟨by rw [eA], ?_, ?_⟩
    · rw [hU]
      refine hE.go hW (fun a h1 h2 => hS.2.1 a h1 (fun z => ?_))
      have z : h0 ≤ a := z
      omega
    · rw [hU]; exact hP.moved hW.alike
  have est : x_st X (avs.reverse ++ vR x :: st) = (avs.map (x_v X1)).reverse ++ .ref (x_ad X1 x) :: x_st X st := by
    have h1 : x_v X (vR x) = .ref (x_ad X1 x) := by rw [← hX1]; exact x_rv_n X1 h0x
    rw [emap]
    simp [x_st, h1]
  have hlen : ∀ sig, parseMethodDescriptor y.desc = some sig → avs.length = sig.parameters.length := by
    intro sig h
    have h2 := hd.2.2
    rw [h] at h2
    exact (Option.some.inj h2).symm
  exact ⟨_, va_runV (C := C) (Ts := []) (n := avs.length) ⟨hexec, hb, hml, hown, fun w h => by cases h⟩ (hM rz μ2 hoz) ⟨⟨rfl, rfl, by show k + 1 ≤ R.frames; omega, by show 8 + (mz + 11) + 64 * k ≤ R.locals; omega, x_word hE hl4, List.mem_cons_self, hw hl4, hw hl3, ⟨hd.1, hd.2.1⟩, hlen, hw hl1⟩, hw hl2, hw hl5⟩ ⟨x_H.blind, ⟨cell, q1, by rw [q3]; rfl, by rw [q2, q5]; exact hfc⟩, hpre⟩ rfl (by simp) hl.1 est (by rw [show 2 * (F0 m pc ls (x_st X (avs.reverse ++ vR x :: st))).monitorRoom = 0 from rfl, x_st_sum]; omega) hdg ⟨r3, r4⟩⟩
/-- a method of the class under test -/
theorem l_callC {rk : β → List x_V} {K : β → x_M → Option (α × x_M2)} (hC : x_CL X Y Z h0 b L xs p R s m c cc own nL cs sl n) {idx k mz ci N x : Nat} {C : String} {T : u_T} {y : MethodName} {cz : ByteArray} {retz : Option FieldType} {avs : List x_V} {oz : Option (β × x_M)} (hcl : x_Cls ci C T N) (hM : x_Met X Z l y cz mz retz k (vR x :: avs) μ.1 rk oz) (hdg : decode cc pc = .ok (.invokevirtual idx, 3))
    (hl1 : x_in (Cond.methodLink own idx y)) (hl2 : x_in (.instanceMethod y)) (hl5 : x_in (.selects C y y)) (hl3 : x_in (.initialized y.cls)) (hl4 : x_in (.code y cz mz retz)) (hd : y.cls ≠ "java/lang/invoke/MethodHandle" ∧ y.cls ≠ "java/lang/invoke/VarHandle" ∧ (parseMethodDescriptor y.desc).map (fun d => d.parameters.length) = some avs.length) (hk : k + 1 ≤ n ∧ mz ≤ 45) (hrk : ∀ r : β, (rk r).length ≤ 1) (hst : (st.map x_cat).sum ≤ 8)
    (kk : ∀ (r : β) (μ1 : x_M), Sm X (x_PP X Y s) (x_rg h0) Q p l e R s m args below meth c nL cs sl (pc + 3) lv (rk r ++ st) (μ1, μ.2) (K r μ1)) : Sm X (x_PP X Y s) (x_rg h0) Q p l e R s m args below meth c nL cs sl pc lv (avs.reverse ++ vR x :: st) μ (ck (x_kd X x = ci + 1) (bd oz K)) := by
  intro H locs ls hP hS hl r μ1 ho
  unfold ck at ho
  by_cases hx0 : x_kd X x = ci + 1
  · rw [if_pos hx0] at ho
    cases hoz : oz with
    | none => rw [hoz] at ho; cases ho
    | some q =>
      obtain ⟨rz, μz⟩ := q
      rw [hoz] at ho
      obtain ⟨hC1, hC2, ⟨d1, d2, d3, d4, d5, d6⟩, -, -, hh, -, -⟩ := id hC
      obtain ⟨a, hrun⟩ := x_run (X1 := X) (fun _ => rfl) hC1 hP.1 hS d2 hh hl hcl hM hx0 hoz hdg hl1 hl2 hl5 hl3 hl4 hd hk hst (lv := lv) (st := st)
      refine l_back hrun d2 (fun _ => rfl) (hrk rz) hS (fun H1 locs1 hP1 hK1 hS1 => kk rz μz H1 locs1 ls ⟨hP1, fun o => ?_⟩ hS1 hl r μ1 ho)
      by_cases hk0 : x_kd Y o = 0
      · exact x_at_0 hk0
      · exact (hP.2 o).re rfl rfl rfl rfl rfl (fun hlt => hK1 _ hlt (fun ⟨o', z1, z2, z3⟩ => d4 o' o z1 z2 (by omega) (d6 o) z3)) (fun z => by have := d6 o; omega)
  · rw [if_neg hx0] at ho; cases ho
/-- a method of the reference -/
theorem l_callR {rk : β → List x_V} {K : β → x_M → Option (α × x_M2)} (hC : x_CL X Y Z h0 b L xs p R s m c cc own nL cs sl n) {idx k mz ci N x : Nat} {C : String} {T : u_T} {y : MethodName} {cz : ByteArray} {retz : Option FieldType} {avs : List x_V} {oz : Option (β × x_M)} (hcl : x_Cls ci C T N) (hM : x_Met Y Z l y cz mz retz k (vR x :: avs) μ.2 rk oz) (hdg : decode cc pc = .ok (.invokevirtual idx, 3))
    (hl1 : x_in (Cond.methodLink own idx y)) (hl2 : x_in (.instanceMethod y)) (hl5 : x_in (.selects C y y)) (hl3 : x_in (.initialized y.cls)) (hl4 : x_in (.code y cz mz retz)) (hd : y.cls ≠ "java/lang/invoke/MethodHandle" ∧ y.cls ≠ "java/lang/invoke/VarHandle" ∧ (parseMethodDescriptor y.desc).map (fun d => d.parameters.length) = some avs.length) (hk : k + 1 ≤ n ∧ mz ≤ 45) (hrk : ∀ r : β, (rk r).length ≤ 1) (hst : (st.map x_cat).sum ≤ 8)
    (kk : ∀ (r : β) (μ1 : x_M), Sm X (x_PP X Y s) (x_rg h0) Q p l e R s m args below meth c nL cs sl (pc + 3) lv (rk r ++ st) (μ.1, μ1) (K r μ1)) : Sm X (x_PP X Y s) (x_rg h0) Q p l e R s m args below meth c nL cs sl pc lv (avs.reverse ++ vR x :: st) μ (ck (x_kd Y x = ci + 1) (bd oz K)) := by
  intro H locs ls hP hS hl r μ1 ho
  unfold ck at ho
  by_cases hx0 : x_kd Y x = ci + 1
  · rw [if_pos hx0] at ho
    cases hoz : oz with
    | none => rw [hoz] at ho; cases ho
    | some q =>
      obtain ⟨rz, μz⟩ := q
      rw [hoz] at ho
      obtain ⟨hC1, hC2, ⟨d1, d2, d3, d4, d5, d6⟩, -, -, hh, -, -⟩ := id hC
      have had : ∀ o, x_ad Y o = x_ad X o := fun o => by show Y.2.2.1 o = X.2.2.1 o; rw [d1]
      have hX1 : ∀ q : x_V, x_v Y q = x_v X q := by
        intro q
        rcases q with x | n | z
        · rfl
        · show x_rv Y n = x_rv X n
          unfold x_rv
          rw [had]
        · rfl
      obtain ⟨a, hrun⟩ := x_run (X := X) (X1 := Y) hX1 hC2 hP.2 hS d3 hh hl hcl hM hx0 hoz hdg hl1 hl2 hl5 hl3 hl4 hd hk hst (lv := lv) (st := st)
      refine l_back hrun d3 hX1 (hrk rz) hS (fun H1 locs1 hP1 hK1 hS1 => kk rz μz H1 locs1 ls ⟨fun o => ?_, hP1⟩ hS1 hl r μ1 ho)
      rcases Nat.eq_zero_or_pos (x_kd X o) with hk0 | hk0
      · exact x_at_0 hk0
      · refine (hP.1 o).re rfl rfl rfl rfl rfl (fun hlt => hK1 _ hlt (fun ⟨o', z1, z2, z3⟩ => ?_)) (fun z _ hz => by have := d5 o z; have := d2 _ hz; omega)
        rcases Nat.lt_or_ge (x_kd X o) 40 with w | w
        · exact d4 o o' hk0 w z1 z2 z3.symm
        · have a1 := d5 o w
          have a2 := d3 _ ⟨o', z1, z2, z3⟩
          omega
  · rw [if_neg hx0] at ho; cases ho
/-- the law's end: true -/
theorem l_ret {b0 : Nat} (hC : x_CL X Y Z h0 b L xs p room_1 s m c code own nL cs sl n) (hr : meth.sig.returnType = ret) (hlk : meth.locks = false) (hcs : cs ≤ 600000 ∧ sl ≤ 7302250) (hdg : decode code pc = .ok (.ireturn, 1)) : Sm X (x_PP X Y s) (x_rg h0) (fun (_ : Unit) (_ : x_M2) => lw_Z below #[Value.ref b0] s) p l e room_1 s m #[Value.ref b0] below meth c nL cs sl pc lv [vI 1] μ (some ((), μ)) := by
  intro H locs ls hP hS hl r μ1 ho
  obtain ⟨hC1, -, -, -, -, hh, -, -⟩ := hC
  refine va_forget (fun q hq => ?_) (W.widen hcs.1 hcs.2 (lw_ret hC1.1 hC1.2.1 hr hlk hdg))
  have := hS.2.2 q hq
  have this : h0 ≤ q.base := this
  omega
end LAWR
