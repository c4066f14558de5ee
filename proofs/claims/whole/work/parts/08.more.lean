/-! ===== further rows; the classes ===== -/
def x_Z0 : x_Zs := ([("LakeBooks", "ABOVE", "[I", 801), ("LakeBooks$Acts", "BODIES", "[I", 802)], [("java/lang/String", "COMPACT_STRINGS", "Z", 1)], [(RX5, 53, "spring", 811), (RX5, 55, "sun", 812), (RX5, 57, "mark", 813), (RX5, 59, "floor", 814), (RX5, 61, "rate", 815), (RX5, 103, "dmlakb", 816), (RX5, 108, "<=>", 817)])
abbrev SM {α : Type} (X : x_X) (nL lev : Nat) (rk : α → List x_V) (p : Program) (l : Launch) (e : Env) (s : State) (m : MethodId) (args : Array Value) (below : List Frame) (meth : Method) (c : Code) (pc : Nat) (lv : List (Nat × x_V)) (st : List x_V) (μ : x_M) (o : Option (α × x_M)) : Prop := Sm X (x_PI X s) (x_A X) (x_MQ X rk args s below) p l e (x_rm lev) s m args below meth c nL 0 0 pc lv st μ o
section MORE
variable {τ α β : Type} {X : x_X} {Z : x_Zs} {I : τ → Heap → Prop} {A : Nat → Prop} {Q : α → τ → State → Prop} {p : Program} {l : Launch} {e : Env} {R : Room} {s : State} {m : MethodId} {args : Array Value} {below : List Frame} {meth : Method} {c : Code} {cc : ByteArray} {own : String} {nL cs sl n : Nat} {pc : Nat} {lv lv' : List (Nat × x_V)} {st : List x_V} {μ : τ} {o : Option (α × τ)}
theorem s_none : Sm X I A Q p l e R s m args below meth c nL cs sl pc lv st μ none := fun H locs ls hP hS hl r μ1 ho => by cases ho
theorem s_ltI2 {q : x_V} {v : Int32} {K : Int32 → Option (α × τ)} (kk : ∀ x : Int32, Sm X I A Q p l e R s m args below meth c nL cs sl pc lv (q :: vI x :: st) μ (K x)) : Sm X I A Q p l e R s m args below meth c nL cs sl pc lv (q :: vI v :: st) μ (lt v K) := kk v
theorem s_ldc_w (hC : x_C X Z p R s m c cc own nL cs sl n) {idx : Nat} {v : Int32} (hdg : decode cc pc = .ok (.ldc_w idx, 3)) (hk : x_in (.constant own idx v)) (k : Sm X I A Q p l e R s m args below meth c nL cs sl (pc + 3) lv (vI v :: st) μ o) : Sm X I A Q p l e R s m args below meth c nL cs sl pc lv st μ o :=
  fun H locs ls hP hS hl r μ1 ho => lv_ldcw hC.1 hC.2.1 hC.2.2.2.1 (hC.2.2.2.2.1.2.2.at hk args) hdg (k H locs ls hP hS hl r μ1 ho)
theorem s_ishr (hC : x_C X Z p R s m c cc own nL cs sl n) {x y : Int32} (hdg : decode cc pc = .ok (.ishr, 1)) (k : Sm X I A Q p l e R s m args below meth c nL cs sl (pc + 1) lv (vI (x >>> (y &&& 31)) :: st) μ o) : Sm X I A Q p l e R s m args below meth c nL cs sl pc lv (vI y :: vI x :: st) μ o :=
  fun H locs ls hP hS hl r μ1 ho => lv_ishr hC.1 hC.2.1 hdg (k H locs ls hP hS hl r μ1 ho)
theorem s_iushr (hC : x_C X Z p R s m c cc own nL cs sl n) {x y : Int32} (hdg : decode cc pc = .ok (.iushr, 1)) (k : Sm X I A Q p l e R s m args below meth c nL cs sl (pc + 1) lv (vI (x.toUInt32 >>> (y.toUInt32 &&& Int32.toUInt32 31)).toInt32 :: st) μ o) : Sm X I A Q p l e R s m args below meth c nL cs sl pc lv (vI y :: vI x :: st) μ o :=
  fun H locs ls hP hS hl r μ1 ho => lv_iushr hC.1 hC.2.1 hdg rfl (k H locs ls hP hS hl r μ1 ho)
end MORE
section STR
variable {α β : Type} {X : x_X} {Z : x_Zs} {A : Nat → Prop} {Q : α → x_M → State → Prop} {p : Program} {l : Launch} {e : Env} {R : Room} {s : State} {m : MethodId} {args : Array Value} {below : List Frame} {meth : Method} {c : Code} {cc : ByteArray} {own : String} {nL cs sl n : Nat} {pc : Nat} {lv lv' : List (Nat × x_V)} {st : List x_V} {μ : x_M} {o : Option (α × x_M)}
theorem s_gval (hC : x_C X Z p R s m c cc own nL cs sl n) {x idx : Nat} (hl1 : x_in (.fieldLink own idx "java/lang/String" "value" "[B")) (hdg : decode cc pc = .ok (.getfield idx, 3)) (kk : Sm X (x_PI X s) A Q p l e R s m args below meth c nL cs sl (pc + 3) lv (vR (μ.2.1 x 1) :: st) μ o) : Sm X (x_PI X s) A Q p l e R s m args below meth c nL cs sl pc lv (vR x :: st) μ (ck (x_kd X x = 50) o) := by
  intro H locs ls hP hS hl r μ1 ho
  unfold ck at ho
  by_cases hx : x_kd X x = 50
  · rw [if_pos hx] at ho
    have h0 : x ≠ 0 := x_n0 hC (by omega)
    have h2 := kk H locs ls hP hS hl r μ1 ho
    obtain ⟨cf, k, i, f, cell, hi, hst, hcell, hkn, hsl, -⟩ := ((hP x).2.2.2.2.2.2.2 hx).2.2
    show W p l e R s m args below meth c H locs cs sl (Q r μ1) (F0 m pc ls (x_rv X x :: x_st X st))
    rw [x_rv_n X h0]
    exact W.getf hC.1 hC.2.1 hC.2.2.2.1 (hC.2.2.2.2.1.2.2.at hl1 args) hi hst hcell hkn hsl rfl rfl hdg h2
  · rw [if_neg hx] at ho; cases ho
theorem s_gcod (hC : x_C X Z p R s m c cc own nL cs sl n) {x idx : Nat} (hl1 : x_in (.fieldLink own idx "java/lang/String" "coder" "B")) (hdg : decode cc pc = .ok (.getfield idx, 3)) (kk : Sm X (x_PI X s) A Q p l e R s m args below meth c nL cs sl (pc + 3) lv (vI (μ.1 x 0) :: st) μ o) : Sm X (x_PI X s) A Q p l e R s m args below meth c nL cs sl pc lv (vR x :: st) μ (ck (x_kd X x = 50) o) := by
  intro H locs ls hP hS hl r μ1 ho
  unfold ck at ho
  by_cases hx : x_kd X x = 50
  · rw [if_pos hx] at ho
    have h0 : x ≠ 0 := x_n0 hC (by omega)
    have h2 := kk H locs ls hP hS hl r μ1 ho
    obtain ⟨cf, k, i, f, cell, hi, hst, hcell, hkn, hsl, -⟩ := ((hP x).2.2.2.2.2.2.2 hx).2.1
    show W p l e R s m args below meth c H locs cs sl (Q r μ1) (F0 m pc ls (x_rv X x :: x_st X st))
    rw [x_rv_n X h0]
    exact W.getf hC.1 hC.2.1 hC.2.2.2.1 (hC.2.2.2.2.1.2.2.at hl1 args) hi hst hcell hkn hsl rfl rfl hdg h2
  · rw [if_neg hx] at ho; cases ho
/-- a method of String -/
theorem s_callStr {rk : β → List x_V} {K : β → x_M → Option (α × x_M)} (hC : x_C X Z p R s m c cc own nL cs sl n) {idx k mz x : Nat} {y : MethodName} {cz : ByteArray} {retz : Option FieldType} {avs : List x_V} {oz : Option (β × x_M)} {nest : Bool} (hM : x_Met X Z l y cz mz retz k (vR x :: avs) μ rk oz) (hdg : decode cc pc = .ok (.invokevirtual idx, 3))
    (hl1 : x_in (match nest with | true => Cond.methodLinkNest own idx y "LakeBooks" | false => Cond.methodLink own idx y)) (hl2 : x_in (.instanceMethod y)) (hl5 : x_in (.selects "java/lang/String" y y)) (hl3 : x_in (.initialized y.cls)) (hl4 : x_in (.code y cz mz retz)) (hd : y.cls ≠ "java/lang/invoke/MethodHandle" ∧ y.cls ≠ "java/lang/invoke/VarHandle" ∧ (parseMethodDescriptor y.desc).map (fun d => d.parameters.length) = some avs.length) (hk : k + 1 ≤ n ∧ mz ≤ 45) (hrk : ∀ r : β, (rk r).length ≤ 1) (hst : (st.map x_cat).sum ≤ 8)
    (kk : ∀ (r : β) (μ1 : x_M), Sm X (x_PI X s) (x_A X) Q p l e R s m args below meth c nL cs sl (pc + 3) lv (rk r ++ st) μ1 (K r μ1)) : Sm X (x_PI X s) (x_A X) Q p l e R s m args below meth c nL cs sl pc lv (avs.reverse ++ vR x :: st) μ (ck (x_kd X x = 50) (bd oz K)) := by
  intro H locs ls hP hS hl r μ1 ho
  unfold ck at ho
  by_cases hx0 : x_kd X x = 50
  · rw [if_pos hx0] at ho
    cases hoz : oz with
    | none => rw [hoz] at ho; cases ho
    | some q =>
      obtain ⟨rz, μz⟩ := q
      rw [hoz] at ho
      obtain ⟨hx, hb, hml, hown, hE, hI, r1, r2, r3, r4⟩ := id hC
      have hw := fun {w} h => hE.2.2.at (w := w) h args
      have h0 : x ≠ 0 := fun z => by rw [z, hI.1] at hx0; omega
      obtain ⟨cell, q1, q2, q3, -⟩ := ((hP x).2.2.2.2.2.2.2 hx0).1
      have hM' : Met l y [.code y cz mz retz] (x_rm k) (va_Pc (((vR x :: avs).map (x_v X))) (x_H X Z μ)) (x_Q X rk rz μz) 0 0 (x_A X) := hM rz μz hoz
      have eA : (vR x :: avs).map (x_v X) = Value.ref (x_ad X x) :: avs.map (x_v X) := by
        show x_rv X x :: avs.map (x_v X) = _
        rw [x_rv_n X h0]
      have hpre : ∀ U : State, U.heap = H → s.WarmedH U.vm → va_Pc ((vR x :: avs).map (x_v X)) (x_H X Z μ) (Value.ref (x_ad X x) :: avs.map (x_v X)).toArray U := by
        rw [← eA]; exact x_pre hE hP hS
      have est : x_st X (avs.reverse ++ vR x :: st) = (avs.map (x_v X)).reverse ++ .ref (x_ad X x) :: x_st X st := by
        have : x_v X (vR x) = .ref (x_ad X x) := x_rv_n X h0
        simp [x_st, this]
      have hlen : ∀ sig, parseMethodDescriptor y.desc = some sig → avs.length = sig.parameters.length := by
        intro sig h
        have h2 := hd.2.2
        rw [h] at h2
        exact (Option.some.inj h2).symm
      have hrun : va_Run p l e R s m args below meth c H locs cs sl 0 0 (F0 m pc ls (x_st X (avs.reverse ++ vR x :: st))) (x_st X st) (x_Q X rk rz μz (Value.ref (x_ad X x) :: avs.map (x_v X)).toArray) (x_A X) := by
        cases nest with
        | true => exact va_runVN (C := "java/lang/String") (Ts := []) (n := avs.length) ⟨hx, hb, hml, hown, fun w h => by cases h⟩ hM' ⟨⟨⟨rfl, rfl, by show k + 1 ≤ R.frames; omega, by show 8 + (mz + 11) + 64 * k ≤ R.locals; omega, x_word hE hl4, List.mem_cons_self⟩, hw hl4, hw hl3, ⟨hd.1, hd.2.1⟩, hlen, hw hl1⟩, hw hl2, hw hl5⟩ ⟨x_H.blind, ⟨cell, q1, q2, q3⟩, hpre⟩ rfl (by simp) hl.1 est (by rw [show 2 * (F0 m pc ls (x_st X (avs.reverse ++ vR x :: st))).monitorRoom = 0 from rfl, x_st_sum]; omega) hdg ⟨r3, r4⟩
        | false => exact va_runV (C := "java/lang/String") (Ts := []) (n := avs.length) ⟨hx, hb, hml, hown, fun w h => by cases h⟩ hM' ⟨⟨rfl, rfl, by show k + 1 ≤ R.frames; omega, by show 8 + (mz + 11) + 64 * k ≤ R.locals; omega, x_word hE hl4, List.mem_cons_self, hw hl4, hw hl3, ⟨hd.1, hd.2.1⟩, hlen, hw hl1⟩, hw hl2, hw hl5⟩ ⟨x_H.blind, ⟨cell, q1, q2, q3⟩, hpre⟩ rfl (by simp) hl.1 est (by rw [show 2 * (F0 m pc ls (x_st X (avs.reverse ++ vR x :: st))).monitorRoom = 0 from rfl, x_st_sum]; omega) hdg ⟨r3, r4⟩
      exact x_back hrun (hrk rz) hS (fun H1 locs1 hP1 hS1 => kk rz μz H1 locs1 ls hP1 hS1 hl r μ1 ho)
  · rw [if_neg hx0] at ho; cases ho
abbrev x_cpok (X : x_X) (o0 : Nat) (sp : Int32) (o1 : Nat) (dp n : Int32) : Prop := x_kd X o0 = 21 ∧ x_kd X o1 = 21 ∧ ¬ sp < 0 ∧ ¬ dp < 0 ∧ ¬ n < 0 ∧ sp.toNatClampNeg + n.toNatClampNeg ≤ x_ln X o0 ∧ dp.toNatClampNeg + n.toNatClampNeg ≤ x_ln X o1
def x_cp (μ : x_M) (o0 : Nat) (sp : Int32) (o1 : Nat) (dp n : Int32) : x_M := (μ.1, μ.2.1, fun q => if q = o1 then va_cpy (μ.2.2 o0) (μ.2.2 o1) sp.toNatClampNeg dp.toNatClampNeg n.toNatClampNeg else μ.2.2 q)
theorem s_acopy (hC : x_C X Z p R s m c cc own nL cs sl n) {idx o0 o1 : Nat} {sp dp k : Int32} (hdg : decode cc pc = .ok (.invokestatic idx, 3)) (hl1 : x_in (.methodLink own idx arraycopyName)) (hl2 : x_in (.native arraycopyName)) (hl3 : x_in (.static arraycopyName)) (hl4 : x_in (.initialized "java/lang/System")) (hn : 1 ≤ n) (hst : (st.map x_cat).sum ≤ 8)
    (kk : Sm X (x_PI X s) (x_A X) Q p l e R s m args below meth c nL cs sl (pc + 3) lv st (x_cp μ o0 sp o1 dp k) o) : Sm X (x_PI X s) (x_A X) Q p l e R s m args below meth c nL cs sl pc lv (vI k :: vI dp :: vR o1 :: vI sp :: vR o0 :: st) μ (ck (x_cpok X o0 sp o1 dp k) o) := by
  intro H locs ls hP hS hl r μ1 ho
  unfold ck at ho
  by_cases hx : x_cpok X o0 sp o1 dp k
  · rw [if_pos hx] at ho
    obtain ⟨k0, k1, h1, h2, h3, h4, h5⟩ := hx
    have z0 : o0 ≠ 0 := x_n0 hC (by omega)
    have z1 : o1 ≠ 0 := x_n0 hC (by omega)
    have hw := fun {w} h => hC.2.2.2.2.1.2.2.at (w := w) h args
    obtain ⟨hexec, hb, hml, hown, hE, hI, r1, r2, r3, r4⟩ := id hC
    show W p l e R s m args below meth c H locs cs sl (Q r μ1) (F0 m pc ls (.int k :: .int dp :: x_rv X o1 :: .int sp :: x_rv X o0 :: x_st X st))
    rw [x_rv_n X z0, x_rv_n X z1]
    have nn : ∀ z : Int32, ¬ z < 0 → z.toInt = (z.toNatClampNeg : Int) := by
      intro z hz
      have hz0 : (0 : Int) ≤ z.toInt := by
        have := Int32.not_lt.mp hz
        simpa using Int32.le_iff_toInt_le.mp this
      show z.toInt = ((z.toInt.toNat : Nat) : Int)
      omega
    intro T hT X'
    have hc0 : H[x_ad X o0]? = some (vp_cell (x_cA X 21) (x_ln X o0, .inr (.inl (μ.2.2 o0)))) := (hP o0).2.2.1 k0
    have hc1 : H[x_ad X o1]? = some (vp_cell (x_cA X 21) (x_ln X o1, .inr (.inl (μ.2.2 o1)))) := (hP o1).2.2.1 k1
    obtain ⟨-, j0, hk0, cm0, hkk0⟩ := (hE.1.2 1 _ rfl).1 (x_ln X o0) (fun j => .long (μ.2.2 o0 j))
    obtain ⟨-, j1, hk1, cm1, hkk1⟩ := (hE.1.2 1 _ rfl).1 (x_ln X o1) (fun j => .long (μ.2.2 o1 j))
    have hnf : nativeFrameWords "java/lang/System" "arraycopy" 5 ≤ 40 := by decide
    obtain ⟨vm', X2, step⟩ := X'.arraycopy hexec hown (hw hl1) (hw hl2) (hw hl3) (hw hl4) (src := x_ad X o0) (dst := x_ad X o1) (cs := vp_cell (x_cA X 21) (x_ln X o0, .inr (.inl (μ.2.2 o0)))) (cd := vp_cell (x_cA X 21) (x_ln X o1, .inr (.inl (μ.2.2 o1)))) (srcPos := sp) (destPos := dp) (n := k) (by rw [hT]; exact hc0) (by rw [hT]; exact hc1)
      (fun _ h => by cases h) (fun _ h => by cases h) (fun h => by cases h) (fun h => by cases h) hk0 hk1 hkk0 hkk1 (by simp [refKind]) h1 h2 h3
      (by rw [nn sp h1, nn k h3]; show ¬ _ > ((arrV (x_cA X 21) (x_ln X o0) (fun j => .long (μ.2.2 o0 j))).slots.size : Int); rw [arrV_size]; omega)
      (by rw [nn dp h2, nn k h3]; show ¬ _ > ((arrV (x_cA X 21) (x_ln X o1) (fun j => .long (μ.2.2 o1 j))).slots.size : Int); rw [arrV_size]; omega)
      (fun vm₁ _ i hi => by
        have e : (vp_cell (x_cA X 21) (x_ln X o0, .inr (.inl (μ.2.2 o0)))).slots.getD (sp.toNatClampNeg + i) .null = .long (μ.2.2 o0 (sp.toNatClampNeg + i)) := by
          show (arrV (x_cA X 21) (x_ln X o0) (fun j => .long (μ.2.2 o0 j))).slots.getD _ _ = _
          rw [Array.getD_eq_getD_getElem?, arrV_read _ _ (by omega)]
          rfl
        refine ⟨?_, ?_⟩
        · rw [e]
          rfl
        · rw [e]
          exact trivial)
      (g := F0 m pc ls (.int k :: .int dp :: .ref (x_ad X o1) :: .int sp :: .ref (x_ad X o0) :: x_st X st)) rfl (by rw [hml]; exact hl.1) (rest := x_st X st) rfl (by rw [hb]; exact hdg) (by omega) (by rw [show 2 * (F0 m pc ls (.int k :: .int dp :: .ref (x_ad X o1) :: .int sp :: .ref (x_ad X o0) :: x_st X st)).monitorRoom = 0 from rfl, x_st_sum]; omega)
    have e1 : copied (vp_cell (x_cA X 21) (x_ln X o0, .inr (.inl (μ.2.2 o0)))) (vp_cell (x_cA X 21) (x_ln X o1, .inr (.inl (μ.2.2 o1)))) sp dp k = vp_cell (x_cA X 21) (x_ln X o1, .inr (.inl (va_cpy (μ.2.2 o0) (μ.2.2 o1) sp.toNatClampNeg dp.toNatClampNeg k.toNatClampNeg))) := va_copied (fun z => .long z) (x_cA X 21) (x_cA X 21) (μ.2.2 o0) (μ.2.2 o1) h4
    rw [e1] at X2 step
    have hl0 : x_ad X o1 < H.size := (Array.getElem?_eq_some_iff.mp hc1).1
    have hheap : ((T.setVm vm').setCell (x_ad X o1) (vp_cell (x_cA X 21) (x_ln X o1, .inr (.inl (va_cpy (μ.2.2 o0) (μ.2.2 o1) sp.toNatClampNeg dp.toNatClampNeg k.toNatClampNeg))))).heap = H.setIfInBounds (x_ad X o1) (vp_cell (x_cA X 21) (x_ln X o1, .inr (.inl (va_cpy (μ.2.2 o0) (μ.2.2 o1) sp.toNatClampNeg dp.toNatClampNeg k.toNatClampNeg)))) := by rw [← hT]; rfl
    have oq : ∀ q : Nat, q ≠ x_ad X o1 → (H.setIfInBounds (x_ad X o1) (vp_cell (x_cA X 21) (x_ln X o1, .inr (.inl (va_cpy (μ.2.2 o0) (μ.2.2 o1) sp.toNatClampNeg dp.toNatClampNeg k.toNatClampNeg)))))[q]? = H[q]? := fun q hq => by simp [Array.getElem?_setIfInBounds, Ne.symm hq]
    have hA1 : x_A X (x_ad X o1) := ⟨o1, by omega, by omega, rfl⟩
    have hP2 : x_P X (x_cp μ o0 sp o1 dp k) s (H.setIfInBounds (x_ad X o1) (vp_cell (x_cA X 21) (x_ln X o1, .inr (.inl (va_cpy (μ.2.2 o0) (μ.2.2 o1) sp.toNatClampNeg dp.toNatClampNeg k.toNatClampNeg))))) := by
      refine x_P.put hI hP (o := o1) (by omega) (by omega) ?_ oq (fun q hq => rfl) (fun q hq => rfl) (fun q hq => by show (if q = o1 then _ else _) = _; rw [if_neg hq])
      refine ⟨fun _ _ => by omega, fun z => by omega, fun _ => ?_, fun z => by omega, fun z => by omega, fun z => by omega, fun z => by omega, fun z => by omega⟩
      show (H.setIfInBounds (x_ad X o1) _)[x_ad X o1]? = some (vp_cell (x_cA X 21) (x_ln X o1, .inr (.inl (if o1 = o1 then _ else _))))
      rw [if_pos rfl]
      simp [Array.getElem?_setIfInBounds, hl0]
    obtain ⟨t, a1, b1⟩ := kk _ _ ls hP2 ⟨by simp; exact hS.1, fun q g1 g2 => by
        rw [oq q (fun e => g2 (by rw [e]; exact hA1))]
        exact hS.2.1 q g1 g2, fun q hq => by
        rcases List.mem_append.mp hq with h | h
        · exact hS.2.2 q h
        · obtain ⟨z, -, hz⟩ := List.mem_map.mp h
          rw [← hz]
          exact hA1⟩ hl r μ1 ho _ hheap X2
    exact ⟨t, step t a1, b1⟩
  · rw [if_neg hx] at ho; cases ho
end STR
theorem x_cls_in {C : String} {T : u_T} {N : Nat} (h : (u_ws C T N).all (fun w => decide (w ∈ lw_tbl) && goodWord w) = true) : ∀ w ∈ u_ws C T N, x_in w := by
  intro w hw
  have h1 := List.all_eq_true.mp h w hw
  simp only [Bool.and_eq_true, decide_eq_true_eq] at h1
  exact ⟨h1.1, Or.inl h1.2⟩
set_option maxRecDepth 100000 in
theorem xc0 : x_Cls 0 RX0 TX0 10 := ⟨rfl, by decide, x_cls_in (by decide +kernel), tyX0_ok, nmX0, by decide +kernel⟩
set_option maxRecDepth 100000 in
theorem xc1 : x_Cls 1 RX1 TX1 2 := ⟨rfl, by decide, x_cls_in (by decide +kernel), tyX1_ok, nmX1, by decide +kernel⟩
set_option maxRecDepth 100000 in
theorem xc2 : x_Cls 2 RX2 TX2 1 := ⟨rfl, by decide, x_cls_in (by decide +kernel), tyX2_ok, nmX2, by decide +kernel⟩
set_option maxRecDepth 100000 in
theorem xc3 : x_Cls 3 RX3 TX3 1 := ⟨rfl, by decide, x_cls_in (by decide +kernel), tyX3_ok, nmX3, by decide +kernel⟩
set_option maxRecDepth 100000 in
theorem xc4 : x_Cls 4 RX4 TX4 10 := ⟨rfl, by decide, x_cls_in (by decide +kernel), tyX4_ok, nmX4, by decide +kernel⟩
set_option maxRecDepth 100000 in
theorem xc5 : x_Cls 5 RX5 TX5 3 := ⟨rfl, by decide, x_cls_in (by decide +kernel), tyX5_ok, nmX5, by decide +kernel⟩
set_option maxRecDepth 100000 in
theorem xc6 : x_Cls 6 RX6 TX6 4 := ⟨rfl, by decide, x_cls_in (by decide +kernel), tyX6_ok, nmX6, by decide +kernel⟩
set_option maxRecDepth 100000 in
theorem xc7 : x_Cls 7 RX7 TX7 12 := ⟨rfl, by decide, x_cls_in (by decide +kernel), tyX7_ok, nmX7, by decide +kernel⟩
set_option maxRecDepth 100000 in
theorem xc8 : x_Cls 8 RX8 TX8 3 := ⟨rfl, by decide, x_cls_in (by decide +kernel), tyX8_ok, nmX8, by decide +kernel⟩
set_option maxRecDepth 100000 in
theorem xc9 : x_Cls 9 RX9 TX9 9 := ⟨rfl, by decide, x_cls_in (by decide +kernel), tyX9_ok, nmX9, by decide +kernel⟩
set_option maxRecDepth 100000 in
theorem xc10 : x_Cls 10 RX10 TX10 77 := ⟨rfl, by decide, x_cls_in (by decide +kernel), tyX10_ok, nmX10, by decide +kernel⟩
