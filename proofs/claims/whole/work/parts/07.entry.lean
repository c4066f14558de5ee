/-! ===== a method's entry and its returns ===== -/
def x_ar : Nat → List x_V → List (Nat × x_V)
  | _, [] => []
  | k, v :: vs => (k, v) :: x_ar (if x_cat v = 2 then k + 2 else k + 1) vs
theorem x_ar_lv (X : x_X) : ∀ (avs : List x_V) (k : Nat), lv_args k (avs.map (x_v X)) = x_lv X (x_ar k avs)
  | [], _ => rfl
  | v :: vs, k => by
    show (k, x_v X v) :: lv_args (if (x_v X v).category = 2 then k + 2 else k + 1) (vs.map (x_v X)) = (k, x_v X v) :: x_lv X (x_ar (if x_cat v = 2 then k + 2 else k + 1) vs)
    rw [x_v_cat, x_ar_lv X vs]
theorem x_sl_len (X : x_X) : ∀ avs : List x_V, (lg_sl (avs.map (x_v X))).length = (avs.map x_cat).sum
  | [] => rfl
  | v :: vs => by
    have ih := x_sl_len X vs
    unfold lg_sl at ih ⊢
    rw [List.map_cons, List.flatMap_cons, List.length_append, ih, List.map_cons, List.sum_cons]
    congr 1
    rw [x_v_cat]
    rcases v with x | n | z <;> rfl
/-- a body gives a contract, also where the class has other methods that the machine runs itself -/
theorem x_ofW {l : Launch} {y : MethodName} {ws ws' : List Cond} {rm : Room} {Pc : Array Value → State → Prop} {Qc : Array Value → State → Outcome → State → Prop} {mc ms : Nat} {free : Addr → Prop} {cc : ByteArray} {maxL : Nat} {ret : Option FieldType}
    (hy : plainFor y = true) (hw : ws = Cond.code y cc maxL ret :: ws')
    (body : ∀ p e s m args below meth c s₁, BodyLoose p l y (headSpec ws rm) cc maxL ret e s m args below meth c s₁ → c.maxLocals = maxL → Pc args s →
      W p l e (headSpec ws rm).room s m args below meth c s.heap [] 0 0 (MQ below Qc args s mc ms free) (entryFrame m args maxL)) : Met l y ws rm Pc Qc mc ms free := by
  refine MetFree.of_bodySF (code := cc) (maxLocals := maxL) (ret := ret) hy ?_ ?_
  · intro args s m h hn
    obtain ⟨meth, c, h1, h2, h3, h4, h5, h6, -, -⟩ := Cond.code_spec hn (atoms_spec (ws := ws) h _ (by rw [hw]; exact List.mem_cons_self))
    exact ⟨meth, c, h1, h2, h3, h4, h5, h6⟩
  · intro p e s m args below meth c s₁ B hml hP _
    have hh0 : s₁.heap = s.heap := by rw [B.state]; rfl
    obtain ⟨t, a1, o, b1, b2, b3⟩ := body p e s m args below meth c s₁ B hml hP s₁ hh0 (Stand.of_body B)
    exact ⟨t, o, a1, b1, b2, ⟨b3.1, b3.2⟩⟩
theorem x_enter {β : Type} {X : x_X} {Z : x_Zs} {l : Launch} {y : MethodName} {cc : ByteArray} {maxL n : Nat} {ret : Option FieldType} {avs : List x_V} {μ : x_M} {rk : β → List x_V} {o : Option (β × x_M)} (hI : x_I X) (hy : plainFor y = true) (hlen : (avs.map x_cat).sum ≤ maxL)
    (h : ∀ (p : Program) (e : Env) (s : State) (m : MethodId) (args : Array Value) (below : List Frame) (meth : Method) (c : Code), x_C X Z p (x_rm n) s m c cc y.cls maxL 0 0 n → meth.sig.returnType = ret → meth.locks = false → Sm X (x_PI X s) (x_A X) (x_MQ X rk args s below) p l e (x_rm n) s m args below meth c maxL 0 0 0 (x_ar 0 avs) [] μ o) : x_Met X Z l y cc maxL ret n avs μ rk o := by
  intro r μ' ho
  refine x_ofW (cc := cc) (maxL := maxL) (ret := ret) hy rfl ?_
  intro p e s m args below meth c s₁ B hml hv
  obtain ⟨rfl, hE, hP⟩ := hv
  have k := h p e s m (avs.map (x_v X)).toArray below meth c ⟨B.exec, B.bytes, hml, findClass_of_methodNamed B.named, hE, hI, Nat.le_refl _, Nat.le_refl _, Nat.le_refl _, Nat.le_refl _⟩ B.returns B.notSynchronized s.heap [] _ hP va_S.rf (by rw [← x_ar_lv]; exact lv_entry (avs.map (x_v X)) (by rw [x_sl_len]; exact hlen)) r μ' ho
  rw [lg_entry_eq]
  exact k
section RET
variable {X : x_X} {Z : x_Zs} {p : Program} {l : Launch} {e : Env} {R : Room} {s : State} {m : MethodId} {args : Array Value} {below : List Frame} {meth : Method} {c : Code} {cc : ByteArray} {own : String} {nL n : Nat} {pc : Nat} {lv lv' : List (Nat × x_V)} {st : List x_V} {μ : x_M}
theorem s_iret (hC : x_C X Z p R s m c cc own nL 0 0 n) (hr : meth.sig.returnType = some .int) (hlk : meth.locks = false) {v : Int32} (hdg : decode cc pc = .ok (.ireturn, 1)) : Sm X (x_PI X s) (x_A X) (x_MQ X rkI args s below) p l e R s m args below meth c nL 0 0 pc lv [vI v] μ (some (v, μ)) := by
  intro H locs ls hP hS hl r μ1 ho
  cases ho
  exact W.iret (v := v) hC.1 hC.2.1 hr (fun t ht hW => ⟨rfl, by rw [ht]; exact hP.moved hW.alike, hS.F ht⟩) hS.2.2 hdg hlk
theorem s_zret (hC : x_C X Z p R s m c cc own nL 0 0 n) (hr : meth.sig.returnType = some .boolean) (hlk : meth.locks = false) {v : Int32} (hdg : decode cc pc = .ok (.ireturn, 1)) : Sm X (x_PI X s) (x_A X) (x_MQ X rkI args s below) p l e R s m args below meth c nL 0 0 pc lv [vI v] μ (ck (v = 0 ∨ v = 1) (some (v, μ))) := by
  intro H locs ls hP hS hl r μ1 ho
  unfold ck at ho
  by_cases hv : v = 0 ∨ v = 1
  · rw [if_pos hv] at ho
    cases ho
    exact W.zret (v := v) hC.1 hC.2.1 hr (by rcases hv with rfl | rfl <;> rfl) (fun t ht hW => ⟨rfl, by rw [ht]; exact hP.moved hW.alike, hS.F ht⟩) hS.2.2 hdg hlk
  · rw [if_neg hv] at ho; cases ho
theorem s_bret (hC : x_C X Z p R s m c cc own nL 0 0 n) (hr : meth.sig.returnType = some .byte) (hlk : meth.locks = false) {v : Int32} (hdg : decode cc pc = .ok (.ireturn, 1)) : Sm X (x_PI X s) (x_A X) (x_MQ X rkI args s below) p l e R s m args below meth c nL 0 0 pc lv [vI v] μ (ck (v.toInt8.toInt32 = v) (some (v, μ))) := by
  intro H locs ls hP hS hl r μ1 ho
  unfold ck at ho
  by_cases hv : v.toInt8.toInt32 = v
  · rw [if_pos hv] at ho
    cases ho
    exact W.zret (v := v) hC.1 hC.2.1 hr (by rw [← hv]; exact pk_nb _) (fun t ht hW => ⟨rfl, by rw [ht]; exact hP.moved hW.alike, hS.F ht⟩) hS.2.2 hdg hlk
  · rw [if_neg hv] at ho; cases ho
theorem s_cret (hC : x_C X Z p R s m c cc own nL 0 0 n) (hr : meth.sig.returnType = some .char) (hlk : meth.locks = false) {v : Int32} (hdg : decode cc pc = .ok (.ireturn, 1)) : Sm X (x_PI X s) (x_A X) (x_MQ X rkI args s below) p l e R s m args below meth c nL 0 0 pc lv [vI v] μ (ck ((v.toUInt32 % 65536).toInt32 = v) (some (v, μ))) := by
  intro H locs ls hP hS hl r μ1 ho
  unfold ck at ho
  by_cases hv : (v.toUInt32 % 65536).toInt32 = v
  · rw [if_pos hv] at ho
    cases ho
    exact W.zret (v := v) hC.1 hC.2.1 hr (by rw [← hv]; exact pk_nc _) (fun t ht hW => ⟨rfl, by rw [ht]; exact hP.moved hW.alike, hS.F ht⟩) hS.2.2 hdg hlk
  · rw [if_neg hv] at ho; cases ho
theorem s_lret (hC : x_C X Z p R s m c cc own nL 0 0 n) (hr : meth.sig.returnType = some .long) (hlk : meth.locks = false) {v : Int64} (hdg : decode cc pc = .ok (.lreturn, 1)) : Sm X (x_PI X s) (x_A X) (x_MQ X rkJ args s below) p l e R s m args below meth c nL 0 0 pc lv [vJ v] μ (some (v, μ)) := by
  intro H locs ls hP hS hl r μ1 ho
  cases ho
  exact W.lret (v := v) hC.1 hC.2.1 hr (fun t ht hW => ⟨rfl, by rw [ht]; exact hP.moved hW.alike, hS.F ht⟩) hS.2.2 hdg hlk
theorem s_vret (hC : x_C X Z p R s m c cc own nL 0 0 n) (hr : meth.sig.returnType = none) (hlk : meth.locks = false) (hdg : decode cc pc = .ok (.return_, 1)) : Sm X (x_PI X s) (x_A X) (x_MQ X rkV args s below) p l e R s m args below meth c nL 0 0 pc lv [] μ (some ((), μ)) := by
  intro H locs ls hP hS hl r μ1 ho
  cases ho
  exact W.vret hC.1 hC.2.1 hr (fun t ht hW => ⟨rfl, by rw [ht]; exact hP.moved hW.alike, hS.F ht⟩) hS.2.2 hdg hlk
theorem s_aret (hC : x_C X Z p R s m c cc own nL 0 0 n) {rt : FieldType} (hr : meth.sig.returnType = some rt) (hrt : (∃ k, rt = .object k) ∨ ∃ t, rt = .array t) (hlk : meth.locks = false) {v : Nat} (hdg : decode cc pc = .ok (.areturn, 1)) : Sm X (x_PI X s) (x_A X) (x_MQ X rkR args s below) p l e R s m args below meth c nL 0 0 pc lv [vR v] μ (some (v, μ)) := by
  intro H locs ls hP hS hl r μ1 ho
  cases ho
  have hv : x_rv X v = .null ∨ ∃ a, x_rv X v = .ref a := by
    by_cases h0 : v = 0
    · exact Or.inl (by rw [h0]; rfl)
    · exact Or.inr ⟨_, x_rv_n X h0⟩
  exact W.aret (v := x_rv X v) hC.1 hC.2.1 hr hrt hv (fun t ht hW => ⟨rfl, by rw [ht]; exact hP.moved hW.alike, hS.F ht⟩) hS.2.2 hdg hlk
end RET
