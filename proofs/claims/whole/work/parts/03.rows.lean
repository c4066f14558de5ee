/-! ===== typed values, and the judgement: the machine at pc does what the function o says ===== -/
abbrev x_V : Type := Int32 ⊕ (Nat ⊕ Int64)
abbrev vI (x : Int32) : x_V := .inl x
abbrev vR (n : Nat) : x_V := .inr (.inl n)
abbrev vJ (z : Int64) : x_V := .inr (.inr z)
def x_v (X : x_X) : x_V → Value
  | .inl x => .int x
  | .inr (.inl n) => x_rv X n
  | .inr (.inr z) => .long z
def x_cat : x_V → Nat
  | .inl _ => 1
  | .inr (.inl _) => 1
  | .inr (.inr _) => 2
theorem x_v_cat (X : x_X) (q : x_V) : (x_v X q).category = x_cat q := by
  rcases q with x | n | z
  · rfl
  · exact x_rv_cat X n
  · rfl
abbrev x_lv (X : x_X) (lv : List (Nat × x_V)) : List (Nat × Value) := lv.map (fun q => (q.1, x_v X q.2))
abbrev x_st (X : x_X) (st : List x_V) : List Value := st.map (x_v X)
theorem x_st_sum (X : x_X) (st : List x_V) : ((x_st X st).map fun v => v.category).sum = (st.map x_cat).sum := by
  simp only [x_st, List.map_map]
  congr 1
  exact List.map_congr_left (fun q _ => x_v_cat X q)
theorem x_lv_at {X : x_X} {ls : Array Slot} {nL : Nat} {lv : List (Nat × x_V)} (h : lv_has ls nL (x_lv X lv)) (k : Nat) {i : Nat} {v : x_V} (hk : lv[k]? = some (i, v)) : ls[i]? = some (.val (x_v X v)) := by
  refine lv_at h k (i := i) (v := x_v X v) ?_
  rw [List.getElem?_map, hk]
  rfl
def x_rm (n : Nat) : Room := { frames := n, cells := 0, slots := 0, locals := 64 * n }
def ck {β : Type} (c : Prop) [Decidable c] (k : Option β) : Option β := if c then k else none
def bd {β γ τ : Type} (o : Option (β × τ)) (k : β → τ → Option γ) : Option γ := match o with
  | none => none
  | some (r, μ) => k r μ
def lt {β γ : Type} (v : β) (k : β → γ) : γ := k v
/-- what stays the same in a method's run -/
def x_C (X : x_X) (Z : x_Zs) (p : Program) (R : Room) (s : State) (m : MethodId) (c : Code) (cc : ByteArray) (own : String) (nL cs sl n : Nat) : Prop :=
  p.tables.exec = Jvm.exec ∧ c.code = cc ∧ c.maxLocals = nL ∧ s.vm.findClass own = some m.cls ∧ x_E X Z s s.heap ∧ x_I X ∧ n ≤ R.frames ∧ 64 * n ≤ R.locals ∧ cs ≤ R.cells ∧ sl ≤ R.slots
def Sm {τ α : Type} (X : x_X) (I : τ → Heap → Prop) (A : Nat → Prop) (Q : α → τ → State → Prop) (p : Program) (l : Launch) (e : Env) (R : Room) (s : State) (m : MethodId) (args : Array Value) (below : List Frame) (meth : Method) (c : Code) (nL cs sl : Nat) (pc : Nat) (lv : List (Nat × x_V)) (st : List x_V) (μ : τ) (o : Option (α × τ)) : Prop :=
  ∀ (H : Heap) (locs : List Loc) (ls : Array Slot), I μ H → va_S A s.heap H locs → lv_has ls nL (x_lv X lv) → ∀ (r : α) (μ' : τ), o = some (r, μ') → W p l e R s m args below meth c H locs cs sl (Q r μ') (F0 m pc ls (x_st X st))
abbrev x_PI (X : x_X) (s : State) : x_M → Heap → Prop := fun μ H => x_P X μ s H
section ROWS
variable {τ α β : Type} {X : x_X} {Z : x_Zs} {I : τ → Heap → Prop} {A : Nat → Prop} {Q : α → τ → State → Prop} {p : Program} {l : Launch} {e : Env} {R : Room} {s : State} {m : MethodId} {args : Array Value} {below : List Frame} {meth : Method} {c : Code} {cc : ByteArray} {own : String} {nL cs sl n : Nat} {pc : Nat} {lv lv' : List (Nat × x_V)} {st : List x_V} {μ : τ} {o : Option (α × τ)}
theorem s_iconst (hC : x_C X Z p R s m c cc own nL cs sl n) {i : Int} {v : Int32} (hdg : decode cc pc = .ok (.iconst i, 1)) (hv : Int32.ofInt i = v) (k : Sm X I A Q p l e R s m args below meth c nL cs sl (pc + 1) lv (vI v :: st) μ o) : Sm X I A Q p l e R s m args below meth c nL cs sl pc lv st μ o := by
  exact fun H locs ls hP hS hl r μ1 ho => lv_iconst hC.1 hC.2.1 hdg hv (k H locs ls hP hS hl r μ1 ho)
theorem s_bipush (hC : x_C X Z p R s m c cc own nL cs sl n) {i : Int} {v : Int32} (hdg : decode cc pc = .ok (.bipush i, 2)) (hv : (Int8.ofInt i).toInt32 = v) (k : Sm X I A Q p l e R s m args below meth c nL cs sl (pc + 2) lv (vI v :: st) μ o) : Sm X I A Q p l e R s m args below meth c nL cs sl pc lv st μ o := by
  exact fun H locs ls hP hS hl r μ1 ho => lv_bipush hC.1 hC.2.1 hdg hv (k H locs ls hP hS hl r μ1 ho)
theorem s_sipush (hC : x_C X Z p R s m c cc own nL cs sl n) {i : Int} {v : Int32} (hdg : decode cc pc = .ok (.sipush i, 3)) (hv : (Int16.ofInt i).toInt32 = v) (k : Sm X I A Q p l e R s m args below meth c nL cs sl (pc + 3) lv (vI v :: st) μ o) : Sm X I A Q p l e R s m args below meth c nL cs sl pc lv st μ o := by
  exact fun H locs ls hP hS hl r μ1 ho => lv_sipush hC.1 hC.2.1 hdg hv (k H locs ls hP hS hl r μ1 ho)
theorem s_lconst (hC : x_C X Z p R s m c cc own nL cs sl n) {i : Fin 2} {v : Int64} (hdg : decode cc pc = .ok (.lconst i, 1)) (hv : Int64.ofNat (i : Nat) = v) (k : Sm X I A Q p l e R s m args below meth c nL cs sl (pc + 1) lv (vJ v :: st) μ o) : Sm X I A Q p l e R s m args below meth c nL cs sl pc lv st μ o := by
  exact fun H locs ls hP hS hl r μ1 ho => lv_lconst hC.1 hC.2.1 hdg hv (k H locs ls hP hS hl r μ1 ho)
theorem s_null (hC : x_C X Z p R s m c cc own nL cs sl n)  (hdg : decode cc pc = .ok (.aconst_null, 1))  (k : Sm X I A Q p l e R s m args below meth c nL cs sl (pc + 1) lv (vR 0 :: st) μ o) : Sm X I A Q p l e R s m args below meth c nL cs sl pc lv st μ o := by
  exact fun H locs ls hP hS hl r μ1 ho => lv_null hC.1 hC.2.1 hdg (k H locs ls hP hS hl r μ1 ho)
theorem s_iadd (hC : x_C X Z p R s m c cc own nL cs sl n) {x y : Int32} (hdg : decode cc pc = .ok (.iadd, 1))  (k : Sm X I A Q p l e R s m args below meth c nL cs sl (pc + 1) lv (vI (x + y) :: st) μ o) : Sm X I A Q p l e R s m args below meth c nL cs sl pc lv (vI y :: vI x :: st) μ o := by
  exact fun H locs ls hP hS hl r μ1 ho => lv_iadd hC.1 hC.2.1 hdg (k H locs ls hP hS hl r μ1 ho)
theorem s_isub (hC : x_C X Z p R s m c cc own nL cs sl n) {x y : Int32} (hdg : decode cc pc = .ok (.isub, 1))  (k : Sm X I A Q p l e R s m args below meth c nL cs sl (pc + 1) lv (vI (x - y) :: st) μ o) : Sm X I A Q p l e R s m args below meth c nL cs sl pc lv (vI y :: vI x :: st) μ o := by
  exact fun H locs ls hP hS hl r μ1 ho => lv_isub hC.1 hC.2.1 hdg (k H locs ls hP hS hl r μ1 ho)
theorem s_imul (hC : x_C X Z p R s m c cc own nL cs sl n) {x y : Int32} (hdg : decode cc pc = .ok (.imul, 1))  (k : Sm X I A Q p l e R s m args below meth c nL cs sl (pc + 1) lv (vI (x * y) :: st) μ o) : Sm X I A Q p l e R s m args below meth c nL cs sl pc lv (vI y :: vI x :: st) μ o := by
  exact fun H locs ls hP hS hl r μ1 ho => lv_imul hC.1 hC.2.1 hdg (k H locs ls hP hS hl r μ1 ho)
theorem s_iand (hC : x_C X Z p R s m c cc own nL cs sl n) {x y : Int32} (hdg : decode cc pc = .ok (.iand, 1))  (k : Sm X I A Q p l e R s m args below meth c nL cs sl (pc + 1) lv (vI (x &&& y) :: st) μ o) : Sm X I A Q p l e R s m args below meth c nL cs sl pc lv (vI y :: vI x :: st) μ o := by
  exact fun H locs ls hP hS hl r μ1 ho => lv_iand hC.1 hC.2.1 hdg (k H locs ls hP hS hl r μ1 ho)
theorem s_ior (hC : x_C X Z p R s m c cc own nL cs sl n) {x y : Int32} (hdg : decode cc pc = .ok (.ior, 1))  (k : Sm X I A Q p l e R s m args below meth c nL cs sl (pc + 1) lv (vI (x ||| y) :: st) μ o) : Sm X I A Q p l e R s m args below meth c nL cs sl pc lv (vI y :: vI x :: st) μ o := by
  exact fun H locs ls hP hS hl r μ1 ho => lv_ior hC.1 hC.2.1 hdg (k H locs ls hP hS hl r μ1 ho)
theorem s_ixor (hC : x_C X Z p R s m c cc own nL cs sl n) {x y : Int32} (hdg : decode cc pc = .ok (.ixor, 1))  (k : Sm X I A Q p l e R s m args below meth c nL cs sl (pc + 1) lv (vI (x ^^^ y) :: st) μ o) : Sm X I A Q p l e R s m args below meth c nL cs sl pc lv (vI y :: vI x :: st) μ o := by
  exact fun H locs ls hP hS hl r μ1 ho => lv_ixor hC.1 hC.2.1 hdg (k H locs ls hP hS hl r μ1 ho)
theorem s_ishl (hC : x_C X Z p R s m c cc own nL cs sl n) {x y : Int32} (hdg : decode cc pc = .ok (.ishl, 1))  (k : Sm X I A Q p l e R s m args below meth c nL cs sl (pc + 1) lv (vI (x <<< (y &&& 31)) :: st) μ o) : Sm X I A Q p l e R s m args below meth c nL cs sl pc lv (vI y :: vI x :: st) μ o := by
  exact fun H locs ls hP hS hl r μ1 ho => lv_ishl hC.1 hC.2.1 hdg (k H locs ls hP hS hl r μ1 ho)
theorem s_ineg (hC : x_C X Z p R s m c cc own nL cs sl n) {x : Int32} (hdg : decode cc pc = .ok (.ineg, 1))  (k : Sm X I A Q p l e R s m args below meth c nL cs sl (pc + 1) lv (vI (-x) :: st) μ o) : Sm X I A Q p l e R s m args below meth c nL cs sl pc lv (vI x :: st) μ o := by
  exact fun H locs ls hP hS hl r μ1 ho => lv_ineg hC.1 hC.2.1 hdg (k H locs ls hP hS hl r μ1 ho)
theorem s_idiv (hC : x_C X Z p R s m c cc own nL cs sl n) {x y : Int32} (hdg : decode cc pc = .ok (.idiv, 1))  (k : Sm X I A Q p l e R s m args below meth c nL cs sl (pc + 1) lv (vI (x / y) :: st) μ o) : Sm X I A Q p l e R s m args below meth c nL cs sl pc lv (vI y :: vI x :: st) μ (ck (¬ y = 0) o) := by
  intro H locs ls hP hS hl r μ1 ho
  unfold ck at ho
  by_cases hc : ¬ y = 0
  · rw [if_pos hc] at ho
    exact lv_idiv hC.1 hC.2.1 hdg hc (k H locs ls hP hS hl r μ1 ho)
  · rw [if_neg hc] at ho; cases ho
theorem s_irem (hC : x_C X Z p R s m c cc own nL cs sl n) {x y : Int32} (hdg : decode cc pc = .ok (.irem, 1))  (k : Sm X I A Q p l e R s m args below meth c nL cs sl (pc + 1) lv (vI (x - x / y * y) :: st) μ o) : Sm X I A Q p l e R s m args below meth c nL cs sl pc lv (vI y :: vI x :: st) μ (ck (¬ y = 0) o) := by
  intro H locs ls hP hS hl r μ1 ho
  unfold ck at ho
  by_cases hc : ¬ y = 0
  · rw [if_pos hc] at ho
    exact lv_irem hC.1 hC.2.1 hdg hc (k H locs ls hP hS hl r μ1 ho)
  · rw [if_neg hc] at ho; cases ho
theorem s_ladd (hC : x_C X Z p R s m c cc own nL cs sl n) {x y : Int64} (hdg : decode cc pc = .ok (.ladd, 1))  (k : Sm X I A Q p l e R s m args below meth c nL cs sl (pc + 1) lv (vJ (x + y) :: st) μ o) : Sm X I A Q p l e R s m args below meth c nL cs sl pc lv (vJ y :: vJ x :: st) μ o := by
  exact fun H locs ls hP hS hl r μ1 ho => lv_ladd hC.1 hC.2.1 hdg (k H locs ls hP hS hl r μ1 ho)
theorem s_land (hC : x_C X Z p R s m c cc own nL cs sl n) {x y : Int64} (hdg : decode cc pc = .ok (.land, 1))  (k : Sm X I A Q p l e R s m args below meth c nL cs sl (pc + 1) lv (vJ (x &&& y) :: st) μ o) : Sm X I A Q p l e R s m args below meth c nL cs sl pc lv (vJ y :: vJ x :: st) μ o := by
  exact fun H locs ls hP hS hl r μ1 ho => lv_land hC.1 hC.2.1 hdg (k H locs ls hP hS hl r μ1 ho)
theorem s_lor (hC : x_C X Z p R s m c cc own nL cs sl n) {x y : Int64} (hdg : decode cc pc = .ok (.lor, 1))  (k : Sm X I A Q p l e R s m args below meth c nL cs sl (pc + 1) lv (vJ (x ||| y) :: st) μ o) : Sm X I A Q p l e R s m args below meth c nL cs sl pc lv (vJ y :: vJ x :: st) μ o := by
  exact fun H locs ls hP hS hl r μ1 ho => lv_lor hC.1 hC.2.1 hdg (k H locs ls hP hS hl r μ1 ho)
theorem s_lxor (hC : x_C X Z p R s m c cc own nL cs sl n) {x y : Int64} (hdg : decode cc pc = .ok (.lxor, 1))  (k : Sm X I A Q p l e R s m args below meth c nL cs sl (pc + 1) lv (vJ (x ^^^ y) :: st) μ o) : Sm X I A Q p l e R s m args below meth c nL cs sl pc lv (vJ y :: vJ x :: st) μ o := by
  exact fun H locs ls hP hS hl r μ1 ho => lv_lxor hC.1 hC.2.1 hdg (k H locs ls hP hS hl r μ1 ho)
theorem s_ldiv (hC : x_C X Z p R s m c cc own nL cs sl n) {x y : Int64} (hdg : decode cc pc = .ok (.ldiv, 1))  (k : Sm X I A Q p l e R s m args below meth c nL cs sl (pc + 1) lv (vJ (x / y) :: st) μ o) : Sm X I A Q p l e R s m args below meth c nL cs sl pc lv (vJ y :: vJ x :: st) μ (ck (¬ y = 0) o) := by
  intro H locs ls hP hS hl r μ1 ho
  unfold ck at ho
  by_cases hc : ¬ y = 0
  · rw [if_pos hc] at ho
    exact lv_ldiv hC.1 hC.2.1 hdg hc (k H locs ls hP hS hl r μ1 ho)
  · rw [if_neg hc] at ho; cases ho
theorem s_lrem (hC : x_C X Z p R s m c cc own nL cs sl n) {x y : Int64} (hdg : decode cc pc = .ok (.lrem, 1))  (k : Sm X I A Q p l e R s m args below meth c nL cs sl (pc + 1) lv (vJ (x - x / y * y) :: st) μ o) : Sm X I A Q p l e R s m args below meth c nL cs sl pc lv (vJ y :: vJ x :: st) μ (ck (¬ y = 0) o) := by
  intro H locs ls hP hS hl r μ1 ho
  unfold ck at ho
  by_cases hc : ¬ y = 0
  · rw [if_pos hc] at ho
    exact lv_lrem hC.1 hC.2.1 hdg hc (k H locs ls hP hS hl r μ1 ho)
  · rw [if_neg hc] at ho; cases ho
theorem s_lshl (hC : x_C X Z p R s m c cc own nL cs sl n) {x : Int64} {y : Int32} (hdg : decode cc pc = .ok (.lshl, 1))  (k : Sm X I A Q p l e R s m args below meth c nL cs sl (pc + 1) lv (vJ (x <<< (y.toInt64 &&& 63)) :: st) μ o) : Sm X I A Q p l e R s m args below meth c nL cs sl pc lv (vI y :: vJ x :: st) μ o := by
  exact fun H locs ls hP hS hl r μ1 ho => lv_lshl hC.1 hC.2.1 hdg rfl (k H locs ls hP hS hl r μ1 ho)
theorem s_lushr (hC : x_C X Z p R s m c cc own nL cs sl n) {x : Int64} {y : Int32} (hdg : decode cc pc = .ok (.lushr, 1))  (k : Sm X I A Q p l e R s m args below meth c nL cs sl (pc + 1) lv (vJ (x.toUInt64 >>> (y.toInt64.toUInt64 &&& Int64.toUInt64 63)).toInt64 :: st) μ o) : Sm X I A Q p l e R s m args below meth c nL cs sl pc lv (vI y :: vJ x :: st) μ o := by
  exact fun H locs ls hP hS hl r μ1 ho => lv_lushr hC.1 hC.2.1 hdg rfl (k H locs ls hP hS hl r μ1 ho)
theorem s_i2l (hC : x_C X Z p R s m c cc own nL cs sl n) {x : Int32} (hdg : decode cc pc = .ok (.i2l, 1))  (k : Sm X I A Q p l e R s m args below meth c nL cs sl (pc + 1) lv (vJ x.toInt64 :: st) μ o) : Sm X I A Q p l e R s m args below meth c nL cs sl pc lv (vI x :: st) μ o := by
  exact fun H locs ls hP hS hl r μ1 ho => lv_i2l hC.1 hC.2.1 hdg rfl (k H locs ls hP hS hl r μ1 ho)
theorem s_l2i (hC : x_C X Z p R s m c cc own nL cs sl n) {x : Int64} (hdg : decode cc pc = .ok (.l2i, 1))  (k : Sm X I A Q p l e R s m args below meth c nL cs sl (pc + 1) lv (vI x.toInt32 :: st) μ o) : Sm X I A Q p l e R s m args below meth c nL cs sl pc lv (vJ x :: st) μ o := by
  exact fun H locs ls hP hS hl r μ1 ho => lv_l2i hC.1 hC.2.1 hdg rfl (k H locs ls hP hS hl r μ1 ho)
theorem s_i2b (hC : x_C X Z p R s m c cc own nL cs sl n) {x : Int32} (hdg : decode cc pc = .ok (.i2b, 1))  (k : Sm X I A Q p l e R s m args below meth c nL cs sl (pc + 1) lv (vI x.toInt8.toInt32 :: st) μ o) : Sm X I A Q p l e R s m args below meth c nL cs sl pc lv (vI x :: st) μ o := by
  exact fun H locs ls hP hS hl r μ1 ho => lv_i2b hC.1 hC.2.1 hdg rfl (k H locs ls hP hS hl r μ1 ho)
theorem s_i2s (hC : x_C X Z p R s m c cc own nL cs sl n) {x : Int32} (hdg : decode cc pc = .ok (.i2s, 1))  (k : Sm X I A Q p l e R s m args below meth c nL cs sl (pc + 1) lv (vI x.toInt16.toInt32 :: st) μ o) : Sm X I A Q p l e R s m args below meth c nL cs sl pc lv (vI x :: st) μ o := by
  exact fun H locs ls hP hS hl r μ1 ho => lv_i2s hC.1 hC.2.1 hdg rfl (k H locs ls hP hS hl r μ1 ho)
theorem s_i2c (hC : x_C X Z p R s m c cc own nL cs sl n) {x : Int32} (hdg : decode cc pc = .ok (.i2c, 1))  (k : Sm X I A Q p l e R s m args below meth c nL cs sl (pc + 1) lv (vI (x.toUInt32 % 65536).toInt32 :: st) μ o) : Sm X I A Q p l e R s m args below meth c nL cs sl pc lv (vI x :: st) μ o := by
  exact fun H locs ls hP hS hl r μ1 ho => lv_i2c hC.1 hC.2.1 hdg rfl (k H locs ls hP hS hl r μ1 ho)
theorem s_lcmp (hC : x_C X Z p R s m c cc own nL cs sl n) {x y : Int64} (hdg : decode cc pc = .ok (.lcmp, 1))  (k : Sm X I A Q p l e R s m args below meth c nL cs sl (pc + 1) lv (vI (lg_cmp x y) :: st) μ o) : Sm X I A Q p l e R s m args below meth c nL cs sl pc lv (vJ y :: vJ x :: st) μ o := by
  exact fun H locs ls hP hS hl r μ1 ho => W.lcmp hC.1 hC.2.1 hdg (k H locs ls hP hS hl r μ1 ho)
theorem s_dupI (hC : x_C X Z p R s m c cc own nL cs sl n) {x : Int32} (hdg : decode cc pc = .ok (.dup, 1))  (k : Sm X I A Q p l e R s m args below meth c nL cs sl (pc + 1) lv (vI x :: vI x :: st) μ o) : Sm X I A Q p l e R s m args below meth c nL cs sl pc lv (vI x :: st) μ o := by
  exact fun H locs ls hP hS hl r μ1 ho => lv_dup hC.1 hC.2.1 hdg rfl (k H locs ls hP hS hl r μ1 ho)
theorem s_dupR (hC : x_C X Z p R s m c cc own nL cs sl n) {x : Nat} (hdg : decode cc pc = .ok (.dup, 1))  (k : Sm X I A Q p l e R s m args below meth c nL cs sl (pc + 1) lv (vR x :: vR x :: st) μ o) : Sm X I A Q p l e R s m args below meth c nL cs sl pc lv (vR x :: st) μ o := by
  exact fun H locs ls hP hS hl r μ1 ho => lv_dup hC.1 hC.2.1 hdg (x_rv_cat X x) (k H locs ls hP hS hl r μ1 ho)
theorem s_dup2 (hC : x_C X Z p R s m c cc own nL cs sl n) {x : Int32} {a : Nat} (hdg : decode cc pc = .ok (.dup2, 1))  (k : Sm X I A Q p l e R s m args below meth c nL cs sl (pc + 1) lv (vI x :: vR a :: vI x :: vR a :: st) μ o) : Sm X I A Q p l e R s m args below meth c nL cs sl pc lv (vI x :: vR a :: st) μ o := by
  exact fun H locs ls hP hS hl r μ1 ho => lv_dup2_11 hC.1 hC.2.1 hdg rfl (x_rv_cat X a) (k H locs ls hP hS hl r μ1 ho)
theorem s_dup2J (hC : x_C X Z p R s m c cc own nL cs sl n) {x : Int64} (hdg : decode cc pc = .ok (.dup2, 1))  (k : Sm X I A Q p l e R s m args below meth c nL cs sl (pc + 1) lv (vJ x :: vJ x :: st) μ o) : Sm X I A Q p l e R s m args below meth c nL cs sl pc lv (vJ x :: st) μ o := by
  exact fun H locs ls hP hS hl r μ1 ho => lv_dup2_2 hC.1 hC.2.1 hdg rfl (k H locs ls hP hS hl r μ1 ho)
theorem s_pop (hC : x_C X Z p R s m c cc own nL cs sl n) {q : x_V} (hdg : decode cc pc = .ok (.pop, 1)) (hq : x_cat q = 1) (k : Sm X I A Q p l e R s m args below meth c nL cs sl (pc + 1) lv st μ o) : Sm X I A Q p l e R s m args below meth c nL cs sl pc lv (q :: st) μ o := by
  exact fun H locs ls hP hS hl r μ1 ho => lv_pop hC.1 hC.2.1 hdg ((x_v_cat X q).trans hq) (k H locs ls hP hS hl r μ1 ho)
theorem s_dup_x1 (hC : x_C X Z p R s m c cc own nL cs sl n) {q w : x_V} (hdg : decode cc pc = .ok (.dup_x1, 1)) (hq : x_cat q = 1) (hr : x_cat w = 1) (k : Sm X I A Q p l e R s m args below meth c nL cs sl (pc + 1) lv (q :: w :: q :: st) μ o) : Sm X I A Q p l e R s m args below meth c nL cs sl pc lv (q :: w :: st) μ o := by
  exact fun H locs ls hP hS hl r μ1 ho => lv_dup_x1 hC.1 hC.2.1 hdg ((x_v_cat X q).trans hq) ((x_v_cat X w).trans hr) (k H locs ls hP hS hl r μ1 ho)
theorem s_iload_n (hC : x_C X Z p R s m c cc own nL cs sl n) (k0 : Nat) {k : Fin 4} {x : Int32} (hdg : decode cc pc = .ok (.iload_n k, 1)) (hk : lv[k0]? = some ((k : Nat), vI x)) (k : Sm X I A Q p l e R s m args below meth c nL cs sl (pc + 1) lv (vI x :: st) μ o) : Sm X I A Q p l e R s m args below meth c nL cs sl pc lv st μ o := by
  exact fun H locs ls hP hS hl r μ1 ho => lv_iload_n hC.1 hC.2.1 hdg rfl (x_lv_at hl k0 hk) (k H locs ls hP hS hl r μ1 ho)
theorem s_iload (hC : x_C X Z p R s m c cc own nL cs sl n) (k0 : Nat) {i : Nat} {x : Int32} (hdg : decode cc pc = .ok (.iload i, 2)) (hk : lv[k0]? = some (i, vI x)) (k : Sm X I A Q p l e R s m args below meth c nL cs sl (pc + 2) lv (vI x :: st) μ o) : Sm X I A Q p l e R s m args below meth c nL cs sl pc lv st μ o := by
  exact fun H locs ls hP hS hl r μ1 ho => lv_iload hC.1 hC.2.1 hdg (x_lv_at hl k0 hk) (k H locs ls hP hS hl r μ1 ho)
theorem s_lload_n (hC : x_C X Z p R s m c cc own nL cs sl n) (k0 : Nat) {k : Fin 4} {x : Int64} (hdg : decode cc pc = .ok (.lload_n k, 1)) (hk : lv[k0]? = some ((k : Nat), vJ x)) (k : Sm X I A Q p l e R s m args below meth c nL cs sl (pc + 1) lv (vJ x :: st) μ o) : Sm X I A Q p l e R s m args below meth c nL cs sl pc lv st μ o := by
  exact fun H locs ls hP hS hl r μ1 ho => lv_lload_n hC.1 hC.2.1 hdg rfl (x_lv_at hl k0 hk) (k H locs ls hP hS hl r μ1 ho)
theorem s_lload (hC : x_C X Z p R s m c cc own nL cs sl n) (k0 : Nat) {i : Nat} {x : Int64} (hdg : decode cc pc = .ok (.lload i, 2)) (hk : lv[k0]? = some (i, vJ x)) (k : Sm X I A Q p l e R s m args below meth c nL cs sl (pc + 2) lv (vJ x :: st) μ o) : Sm X I A Q p l e R s m args below meth c nL cs sl pc lv st μ o := by
  exact fun H locs ls hP hS hl r μ1 ho => lv_lload hC.1 hC.2.1 hdg (x_lv_at hl k0 hk) (k H locs ls hP hS hl r μ1 ho)
theorem s_aload_n (hC : x_C X Z p R s m c cc own nL cs sl n) (k0 : Nat) {k : Fin 4} {x : Nat} (hdg : decode cc pc = .ok (.aload_n k, 1)) (hk : lv[k0]? = some ((k : Nat), vR x)) (kk : Sm X I A Q p l e R s m args below meth c nL cs sl (pc + 1) lv (vR x :: st) μ o) : Sm X I A Q p l e R s m args below meth c nL cs sl pc lv st μ o := by
  intro H locs ls hP hS hl r μ1 ho
  have h1 := x_lv_at hl k0 hk
  have h2 := kk H locs ls hP hS hl r μ1 ho
  show W p l e R s m args below meth c H locs cs sl (Q r μ1) (F0 m pc ls (x_st X st))
  have h2 : W p l e R s m args below meth c H locs cs sl (Q r μ1) (F0 m (pc + 1) ls (x_rv X x :: x_st X st)) := h2
  have h1 : ls[(k : Nat)]? = some (.val (x_rv X x)) := h1
  by_cases hx : x = 0
  · subst hx
    exact lv_aload_nN hC.1 hC.2.1 hdg rfl h1 h2
  · rw [x_rv_n X hx] at h1 h2
    exact lv_aload_n hC.1 hC.2.1 hdg rfl h1 h2
theorem s_aload (hC : x_C X Z p R s m c cc own nL cs sl n) (k0 : Nat) {i : Nat} {x : Nat} (hdg : decode cc pc = .ok (.aload i, 2)) (hk : lv[k0]? = some (i, vR x)) (kk : Sm X I A Q p l e R s m args below meth c nL cs sl (pc + 2) lv (vR x :: st) μ o) : Sm X I A Q p l e R s m args below meth c nL cs sl pc lv st μ o := by
  intro H locs ls hP hS hl r μ1 ho
  have h1 := x_lv_at hl k0 hk
  have h2 := kk H locs ls hP hS hl r μ1 ho
  show W p l e R s m args below meth c H locs cs sl (Q r μ1) (F0 m pc ls (x_st X st))
  have h2 : W p l e R s m args below meth c H locs cs sl (Q r μ1) (F0 m (pc + 2) ls (x_rv X x :: x_st X st)) := h2
  have h1 : ls[i]? = some (.val (x_rv X x)) := h1
  by_cases hx : x = 0
  · subst hx
    exact lv_aloadN hC.1 hC.2.1 hdg h1 h2
  · rw [x_rv_n X hx] at h1 h2
    exact lv_aload hC.1 hC.2.1 hdg h1 h2
def x_long : x_V → Bool
  | .inr (.inr _) => true
  | _ => false
theorem x_long_cat (X : x_X) (q : x_V) : ((x_v X q).category == 2) = x_long q := by
  rw [x_v_cat]
  rcases q with x | n | z <;> rfl
def x_put1 (lv : List (Nat × x_V)) (i : Nat) (v : x_V) : List (Nat × x_V) := (i, v) :: lv.filter (fun q => !(q.1 == i) && !(q.1 + 1 == i && x_long q.2))
def x_put2 (lv : List (Nat × x_V)) (i : Nat) (v : x_V) : List (Nat × x_V) := (i, v) :: lv.filter (fun q => !(q.1 == i) && (!(q.1 == i + 1) && !(q.1 + 1 == i && x_long q.2)))
theorem x_put1_lv (X : x_X) (lv : List (Nat × x_V)) (i : Nat) (v : x_V) : (i, x_v X v) :: (x_lv X lv).filter (fun q => !(q.1 == i) && !(q.1 + 1 == i && q.2.category == 2)) = x_lv X (x_put1 lv i v) := by
  unfold x_put1 x_lv
  rw [List.map_cons, List.filter_map]
  congr 2
  apply List.filter_congr
  intro q _
  show (!(q.1 == i) && !(q.1 + 1 == i && (x_v X q.2).category == 2)) = _
  rw [x_long_cat]
theorem x_put2_lv (X : x_X) (lv : List (Nat × x_V)) (i : Nat) (v : x_V) : (i, x_v X v) :: (x_lv X lv).filter (fun q => !(q.1 == i) && (!(q.1 == i + 1) && !(q.1 + 1 == i && q.2.category == 2))) = x_lv X (x_put2 lv i v) := by
  unfold x_put2 x_lv
  rw [List.map_cons, List.filter_map]
  congr 2
  apply List.filter_congr
  intro q _
  show (!(q.1 == i) && (!(q.1 == i + 1) && !(q.1 + 1 == i && (x_v X q.2).category == 2))) = _
  rw [x_long_cat]
theorem s_istore_n (hC : x_C X Z p R s m c cc own nL cs sl n) {k : Fin 4} {x : Int32} (hdg : decode cc pc = .ok (.istore_n k, 1)) (hn : (k : Nat) < nL) (hv : x_put1 lv k (vI x) = lv') (kk : Sm X I A Q p l e R s m args below meth c nL cs sl (pc + 1) lv' st μ o) : Sm X I A Q p l e R s m args below meth c nL cs sl pc lv (vI x :: st) μ o := by
  subst hv
  exact fun H locs ls hP hS hl r μ1 ho => lv_istore_n hC.1 hC.2.1 hdg rfl hl hn (x_put1_lv X lv k (vI x)) (fun ls2 hl2 => kk H locs ls2 hP hS hl2 r μ1 ho)
theorem s_istore (hC : x_C X Z p R s m c cc own nL cs sl n) {i : Nat} {x : Int32} (hdg : decode cc pc = .ok (.istore i, 2)) (hn : i < nL) (hv : x_put1 lv i (vI x) = lv') (kk : Sm X I A Q p l e R s m args below meth c nL cs sl (pc + 2) lv' st μ o) : Sm X I A Q p l e R s m args below meth c nL cs sl pc lv (vI x :: st) μ o := by
  subst hv
  exact fun H locs ls hP hS hl r μ1 ho => lv_istore hC.1 hC.2.1 hdg hl hn (x_put1_lv X lv i (vI x)) (fun ls2 hl2 => kk H locs ls2 hP hS hl2 r μ1 ho)
theorem s_lstore_n (hC : x_C X Z p R s m c cc own nL cs sl n) {k : Fin 4} {x : Int64} (hdg : decode cc pc = .ok (.lstore_n k, 1)) (hn : (k : Nat) + 1 < nL) (hv : x_put2 lv k (vJ x) = lv') (kk : Sm X I A Q p l e R s m args below meth c nL cs sl (pc + 1) lv' st μ o) : Sm X I A Q p l e R s m args below meth c nL cs sl pc lv (vJ x :: st) μ o := by
  subst hv
  exact fun H locs ls hP hS hl r μ1 ho => lv_lstore_n hC.1 hC.2.1 hdg rfl hl hn (x_put2_lv X lv k (vJ x)) (fun ls2 hl2 => kk H locs ls2 hP hS hl2 r μ1 ho)
theorem s_lstore (hC : x_C X Z p R s m c cc own nL cs sl n) {i : Nat} {x : Int64} (hdg : decode cc pc = .ok (.lstore i, 2)) (hn : i + 1 < nL) (hv : x_put2 lv i (vJ x) = lv') (kk : Sm X I A Q p l e R s m args below meth c nL cs sl (pc + 2) lv' st μ o) : Sm X I A Q p l e R s m args below meth c nL cs sl pc lv (vJ x :: st) μ o := by
  subst hv
  exact fun H locs ls hP hS hl r μ1 ho => lv_lstore hC.1 hC.2.1 hdg hl hn (x_put2_lv X lv i (vJ x)) (fun ls2 hl2 => kk H locs ls2 hP hS hl2 r μ1 ho)
theorem s_astore_n (hC : x_C X Z p R s m c cc own nL cs sl n) {k : Fin 4} {x : Nat} (hdg : decode cc pc = .ok (.astore_n k, 1)) (hn : (k : Nat) < nL) (hv : x_put1 lv (k : Nat) (vR x) = lv') (kk : Sm X I A Q p l e R s m args below meth c nL cs sl (pc + 1) lv' st μ o) : Sm X I A Q p l e R s m args below meth c nL cs sl pc lv (vR x :: st) μ o := by
  subst hv
  intro H locs ls hP hS hl r μ1 ho
  have he := x_put1_lv X lv (k : Nat) (vR x)
  have he : ((k : Nat), x_rv X x) :: (x_lv X lv).filter (fun q => !(q.1 == (k : Nat)) && !(q.1 + 1 == (k : Nat) && q.2.category == 2)) = x_lv X (x_put1 lv (k : Nat) (vR x)) := he
  show W p l e R s m args below meth c H locs cs sl (Q r μ1) (F0 m pc ls (x_rv X x :: x_st X st))
  by_cases hx : x = 0
  · subst hx
    exact lv_astore_nN hC.1 hC.2.1 hdg rfl hl hn he (fun ls2 hl2 => kk H locs ls2 hP hS hl2 r μ1 ho)
  · rw [x_rv_n X hx] at he ⊢
    exact lv_astore_n hC.1 hC.2.1 hdg rfl hl hn he (fun ls2 hl2 => kk H locs ls2 hP hS hl2 r μ1 ho)
theorem s_astore (hC : x_C X Z p R s m c cc own nL cs sl n) {i : Nat} {x : Nat} (hdg : decode cc pc = .ok (.astore i, 2)) (hn : i < nL) (hv : x_put1 lv i (vR x) = lv') (kk : Sm X I A Q p l e R s m args below meth c nL cs sl (pc + 2) lv' st μ o) : Sm X I A Q p l e R s m args below meth c nL cs sl pc lv (vR x :: st) μ o := by
  subst hv
  intro H locs ls hP hS hl r μ1 ho
  have he := x_put1_lv X lv i (vR x)
  have he : (i, x_rv X x) :: (x_lv X lv).filter (fun q => !(q.1 == i) && !(q.1 + 1 == i && q.2.category == 2)) = x_lv X (x_put1 lv i (vR x)) := he
  show W p l e R s m args below meth c H locs cs sl (Q r μ1) (F0 m pc ls (x_rv X x :: x_st X st))
  by_cases hx : x = 0
  · subst hx
    exact lv_astoreN hC.1 hC.2.1 hdg hl hn he (fun ls2 hl2 => kk H locs ls2 hP hS hl2 r μ1 ho)
  · rw [x_rv_n X hx] at he ⊢
    exact lv_astore hC.1 hC.2.1 hdg hl hn he (fun ls2 hl2 => kk H locs ls2 hP hS hl2 r μ1 ho)
theorem s_iinc (hC : x_C X Z p R s m c cc own nL cs sl n) (k0 : Nat) {i : Nat} {z : Int} {x w : Int32} (hdg : decode cc pc = .ok (.iinc i z, 3)) (hk : lv[k0]? = some (i, vI x)) (hz : Int32.ofInt z = w) (hn : i < nL) (hv : x_put1 lv i (vI (x + w)) = lv') (kk : Sm X I A Q p l e R s m args below meth c nL cs sl (pc + 3) lv' st μ o) : Sm X I A Q p l e R s m args below meth c nL cs sl pc lv st μ o := by
  subst hv
  subst hz
  intro H locs ls hP hS hl r μ1 ho
  refine lv_iinc hC.1 hC.2.1 hdg hl (k := k0) (x := x) ?_ rfl hn (x_put1_lv X lv i (vI (x + Int32.ofInt z))) (fun ls2 hl2 => kk H locs ls2 hP hS hl2 r μ1 ho)
  rw [List.getElem?_map, hk]
  rfl
/-- fewer locals, in another order -/
theorem s_lv (ks : List Nat) (hv : ks.filterMap (fun k => lv[k]?) = lv') (kk : Sm X I A Q p l e R s m args below meth c nL cs sl pc lv' st μ o) : Sm X I A Q p l e R s m args below meth c nL cs sl pc lv st μ o := by
  subst hv
  intro H locs ls hP hS hl r μ1 ho
  refine kk H locs ls hP hS (lv_sub hl ks ?_) r μ1 ho
  unfold lv_pick x_lv
  rw [List.map_filterMap]
  congr 1
  funext k
  rw [List.getElem?_map]
/-- names -/
theorem s_lt {γ : Type} {v : γ} {K : γ → Option (α × τ)} (kk : Sm X I A Q p l e R s m args below meth c nL cs sl pc lv st μ (K v)) : Sm X I A Q p l e R s m args below meth c nL cs sl pc lv st μ (lt v K) := kk
theorem s_ltI {v : Int32} {K : Int32 → Option (α × τ)} (kk : ∀ x : Int32, Sm X I A Q p l e R s m args below meth c nL cs sl pc lv (vI x :: st) μ (K x)) : Sm X I A Q p l e R s m args below meth c nL cs sl pc lv (vI v :: st) μ (lt v K) := kk v
theorem s_ltJ {v : Int64} {K : Int64 → Option (α × τ)} (kk : ∀ x : Int64, Sm X I A Q p l e R s m args below meth c nL cs sl pc lv (vJ x :: st) μ (K x)) : Sm X I A Q p l e R s m args below meth c nL cs sl pc lv (vJ v :: st) μ (lt v K) := kk v
theorem s_ltR {v : Nat} {K : Nat → Option (α × τ)} (kk : ∀ x : Nat, Sm X I A Q p l e R s m args below meth c nL cs sl pc lv (vR x :: st) μ (K x)) : Sm X I A Q p l e R s m args below meth c nL cs sl pc lv (vR v :: st) μ (lt v K) := kk v
theorem s_ltM {K : τ → Option (α × τ)} (kk : ∀ μ1 : τ, Sm X I A Q p l e R s m args below meth c nL cs sl pc lv st μ1 (K μ1)) : Sm X I A Q p l e R s m args below meth c nL cs sl pc lv st μ (lt μ K) := kk μ
theorem s_goto (hC : x_C X Z p R s m c cc own nL cs sl n) {off : Int} {tgt : Nat} (hdg : decode cc pc = .ok (.goto off, 3)) (ht : (pc : Int) + off = (tgt : Int)) (k : Sm X I A Q p l e R s m args below meth c nL cs sl tgt lv st μ o) : Sm X I A Q p l e R s m args below meth c nL cs sl pc lv st μ o :=
  fun H locs ls hP hS hl r μ1 ho => lv_goto hC.1 hC.2.1 hdg ht (k H locs ls hP hS hl r μ1 ho)
theorem s_if_eq (hC : x_C X Z p R s m c cc own nL cs sl n) {x : Int32} {off : Int} {tgt : Nat} {K1 K2 : Option (α × τ)} (hdg : decode cc pc = .ok (.ifCond .eq off, 3)) (ht : (pc : Int) + off = (tgt : Int)) (kt : Sm X I A Q p l e R s m args below meth c nL cs sl tgt lv st μ K1) (kf : Sm X I A Q p l e R s m args below meth c nL cs sl (pc + 3) lv st μ K2) : Sm X I A Q p l e R s m args below meth c nL cs sl pc lv (vI x :: st) μ (if x = 0 then K1 else K2) := by
  intro H locs ls hP hS hl r μ1 ho
  exact lv_if_eq hC.1 hC.2.1 hdg ht (fun h => kt H locs ls hP hS hl r μ1 (by rw [← ho, if_pos h])) (fun h => kf H locs ls hP hS hl r μ1 (by rw [← ho, if_neg h]))
theorem s_icmp_eq (hC : x_C X Z p R s m c cc own nL cs sl n) {x y : Int32} {off : Int} {tgt : Nat} {K1 K2 : Option (α × τ)} (hdg : decode cc pc = .ok (.if_icmp .eq off, 3)) (ht : (pc : Int) + off = (tgt : Int)) (kt : Sm X I A Q p l e R s m args below meth c nL cs sl tgt lv st μ K1) (kf : Sm X I A Q p l e R s m args below meth c nL cs sl (pc + 3) lv st μ K2) : Sm X I A Q p l e R s m args below meth c nL cs sl pc lv (vI y :: vI x :: st) μ (if x = y then K1 else K2) := by
  intro H locs ls hP hS hl r μ1 ho
  exact lv_icmp_eq hC.1 hC.2.1 hdg ht (fun h => kt H locs ls hP hS hl r μ1 (by rw [← ho, if_pos h])) (fun h => kf H locs ls hP hS hl r μ1 (by rw [← ho, if_neg h]))
theorem s_if_ne (hC : x_C X Z p R s m c cc own nL cs sl n) {x : Int32} {off : Int} {tgt : Nat} {K1 K2 : Option (α × τ)} (hdg : decode cc pc = .ok (.ifCond .ne off, 3)) (ht : (pc : Int) + off = (tgt : Int)) (kt : Sm X I A Q p l e R s m args below meth c nL cs sl tgt lv st μ K1) (kf : Sm X I A Q p l e R s m args below meth c nL cs sl (pc + 3) lv st μ K2) : Sm X I A Q p l e R s m args below meth c nL cs sl pc lv (vI x :: st) μ (if x = 0 then K2 else K1) := by
  intro H locs ls hP hS hl r μ1 ho
  exact lv_if_ne hC.1 hC.2.1 hdg ht (fun h => kt H locs ls hP hS hl r μ1 (by rw [← ho, if_neg h])) (fun h => kf H locs ls hP hS hl r μ1 (by rw [← ho, if_pos h]))
theorem s_icmp_ne (hC : x_C X Z p R s m c cc own nL cs sl n) {x y : Int32} {off : Int} {tgt : Nat} {K1 K2 : Option (α × τ)} (hdg : decode cc pc = .ok (.if_icmp .ne off, 3)) (ht : (pc : Int) + off = (tgt : Int)) (kt : Sm X I A Q p l e R s m args below meth c nL cs sl tgt lv st μ K1) (kf : Sm X I A Q p l e R s m args below meth c nL cs sl (pc + 3) lv st μ K2) : Sm X I A Q p l e R s m args below meth c nL cs sl pc lv (vI y :: vI x :: st) μ (if x = y then K2 else K1) := by
  intro H locs ls hP hS hl r μ1 ho
  exact lv_icmp_ne hC.1 hC.2.1 hdg ht (fun h => kt H locs ls hP hS hl r μ1 (by rw [← ho, if_neg h])) (fun h => kf H locs ls hP hS hl r μ1 (by rw [← ho, if_pos h]))
theorem s_if_lt (hC : x_C X Z p R s m c cc own nL cs sl n) {x : Int32} {off : Int} {tgt : Nat} {K1 K2 : Option (α × τ)} (hdg : decode cc pc = .ok (.ifCond .lt off, 3)) (ht : (pc : Int) + off = (tgt : Int)) (kt : Sm X I A Q p l e R s m args below meth c nL cs sl tgt lv st μ K1) (kf : Sm X I A Q p l e R s m args below meth c nL cs sl (pc + 3) lv st μ K2) : Sm X I A Q p l e R s m args below meth c nL cs sl pc lv (vI x :: st) μ (if x < 0 then K1 else K2) := by
  intro H locs ls hP hS hl r μ1 ho
  exact lv_if_lt hC.1 hC.2.1 hdg ht (fun h => kt H locs ls hP hS hl r μ1 (by rw [← ho, if_pos h])) (fun h => kf H locs ls hP hS hl r μ1 (by rw [← ho, if_neg h]))
theorem s_icmp_lt (hC : x_C X Z p R s m c cc own nL cs sl n) {x y : Int32} {off : Int} {tgt : Nat} {K1 K2 : Option (α × τ)} (hdg : decode cc pc = .ok (.if_icmp .lt off, 3)) (ht : (pc : Int) + off = (tgt : Int)) (kt : Sm X I A Q p l e R s m args below meth c nL cs sl tgt lv st μ K1) (kf : Sm X I A Q p l e R s m args below meth c nL cs sl (pc + 3) lv st μ K2) : Sm X I A Q p l e R s m args below meth c nL cs sl pc lv (vI y :: vI x :: st) μ (if x < y then K1 else K2) := by
  intro H locs ls hP hS hl r μ1 ho
  exact lv_icmp_lt hC.1 hC.2.1 hdg ht (fun h => kt H locs ls hP hS hl r μ1 (by rw [← ho, if_pos h])) (fun h => kf H locs ls hP hS hl r μ1 (by rw [← ho, if_neg h]))
theorem s_if_ge (hC : x_C X Z p R s m c cc own nL cs sl n) {x : Int32} {off : Int} {tgt : Nat} {K1 K2 : Option (α × τ)} (hdg : decode cc pc = .ok (.ifCond .ge off, 3)) (ht : (pc : Int) + off = (tgt : Int)) (kt : Sm X I A Q p l e R s m args below meth c nL cs sl tgt lv st μ K1) (kf : Sm X I A Q p l e R s m args below meth c nL cs sl (pc + 3) lv st μ K2) : Sm X I A Q p l e R s m args below meth c nL cs sl pc lv (vI x :: st) μ (if 0 ≤ x then K1 else K2) := by
  intro H locs ls hP hS hl r μ1 ho
  exact lv_if_ge hC.1 hC.2.1 hdg ht (fun h => kt H locs ls hP hS hl r μ1 (by rw [← ho, if_pos h])) (fun h => kf H locs ls hP hS hl r μ1 (by rw [← ho, if_neg h]))
theorem s_icmp_ge (hC : x_C X Z p R s m c cc own nL cs sl n) {x y : Int32} {off : Int} {tgt : Nat} {K1 K2 : Option (α × τ)} (hdg : decode cc pc = .ok (.if_icmp .ge off, 3)) (ht : (pc : Int) + off = (tgt : Int)) (kt : Sm X I A Q p l e R s m args below meth c nL cs sl tgt lv st μ K1) (kf : Sm X I A Q p l e R s m args below meth c nL cs sl (pc + 3) lv st μ K2) : Sm X I A Q p l e R s m args below meth c nL cs sl pc lv (vI y :: vI x :: st) μ (if y ≤ x then K1 else K2) := by
  intro H locs ls hP hS hl r μ1 ho
  exact lv_icmp_ge hC.1 hC.2.1 hdg ht (fun h => kt H locs ls hP hS hl r μ1 (by rw [← ho, if_pos h])) (fun h => kf H locs ls hP hS hl r μ1 (by rw [← ho, if_neg h]))
theorem s_if_gt (hC : x_C X Z p R s m c cc own nL cs sl n) {x : Int32} {off : Int} {tgt : Nat} {K1 K2 : Option (α × τ)} (hdg : decode cc pc = .ok (.ifCond .gt off, 3)) (ht : (pc : Int) + off = (tgt : Int)) (kt : Sm X I A Q p l e R s m args below meth c nL cs sl tgt lv st μ K1) (kf : Sm X I A Q p l e R s m args below meth c nL cs sl (pc + 3) lv st μ K2) : Sm X I A Q p l e R s m args below meth c nL cs sl pc lv (vI x :: st) μ (if 0 < x then K1 else K2) := by
  intro H locs ls hP hS hl r μ1 ho
  exact lv_if_gt hC.1 hC.2.1 hdg ht (fun h => kt H locs ls hP hS hl r μ1 (by rw [← ho, if_pos h])) (fun h => kf H locs ls hP hS hl r μ1 (by rw [← ho, if_neg h]))
theorem s_icmp_gt (hC : x_C X Z p R s m c cc own nL cs sl n) {x y : Int32} {off : Int} {tgt : Nat} {K1 K2 : Option (α × τ)} (hdg : decode cc pc = .ok (.if_icmp .gt off, 3)) (ht : (pc : Int) + off = (tgt : Int)) (kt : Sm X I A Q p l e R s m args below meth c nL cs sl tgt lv st μ K1) (kf : Sm X I A Q p l e R s m args below meth c nL cs sl (pc + 3) lv st μ K2) : Sm X I A Q p l e R s m args below meth c nL cs sl pc lv (vI y :: vI x :: st) μ (if y < x then K1 else K2) := by
  intro H locs ls hP hS hl r μ1 ho
  exact lv_icmp_gt hC.1 hC.2.1 hdg ht (fun h => kt H locs ls hP hS hl r μ1 (by rw [← ho, if_pos h])) (fun h => kf H locs ls hP hS hl r μ1 (by rw [← ho, if_neg h]))
theorem s_if_le (hC : x_C X Z p R s m c cc own nL cs sl n) {x : Int32} {off : Int} {tgt : Nat} {K1 K2 : Option (α × τ)} (hdg : decode cc pc = .ok (.ifCond .le off, 3)) (ht : (pc : Int) + off = (tgt : Int)) (kt : Sm X I A Q p l e R s m args below meth c nL cs sl tgt lv st μ K1) (kf : Sm X I A Q p l e R s m args below meth c nL cs sl (pc + 3) lv st μ K2) : Sm X I A Q p l e R s m args below meth c nL cs sl pc lv (vI x :: st) μ (if x ≤ 0 then K1 else K2) := by
  intro H locs ls hP hS hl r μ1 ho
  exact lv_if_le hC.1 hC.2.1 hdg ht (fun h => kt H locs ls hP hS hl r μ1 (by rw [← ho, if_pos h])) (fun h => kf H locs ls hP hS hl r μ1 (by rw [← ho, if_neg h]))
theorem s_icmp_le (hC : x_C X Z p R s m c cc own nL cs sl n) {x y : Int32} {off : Int} {tgt : Nat} {K1 K2 : Option (α × τ)} (hdg : decode cc pc = .ok (.if_icmp .le off, 3)) (ht : (pc : Int) + off = (tgt : Int)) (kt : Sm X I A Q p l e R s m args below meth c nL cs sl tgt lv st μ K1) (kf : Sm X I A Q p l e R s m args below meth c nL cs sl (pc + 3) lv st μ K2) : Sm X I A Q p l e R s m args below meth c nL cs sl pc lv (vI y :: vI x :: st) μ (if x ≤ y then K1 else K2) := by
  intro H locs ls hP hS hl r μ1 ho
  exact lv_icmp_le hC.1 hC.2.1 hdg ht (fun h => kt H locs ls hP hS hl r μ1 (by rw [← ho, if_pos h])) (fun h => kf H locs ls hP hS hl r μ1 (by rw [← ho, if_neg h]))
theorem s_ifnull (hC : x_C X Z p R s m c cc own nL cs sl n) {x : Nat} {off : Int} {tgt : Nat} {K1 K2 : Option (α × τ)} (hdg : decode cc pc = .ok (.ifnull off, 3)) (ht : (pc : Int) + off = (tgt : Int)) (kt : Sm X I A Q p l e R s m args below meth c nL cs sl tgt lv st μ K1) (kf : Sm X I A Q p l e R s m args below meth c nL cs sl (pc + 3) lv st μ K2) : Sm X I A Q p l e R s m args below meth c nL cs sl pc lv (vR x :: st) μ (if x = 0 then K1 else K2) := by
  intro H locs ls hP hS hl r μ1 ho
  show W p l e R s m args below meth c H locs cs sl (Q r μ1) (F0 m pc ls (x_rv X x :: x_st X st))
  by_cases hx : x = 0
  · subst hx
    exact lv_ifnullN hC.1 hC.2.1 hdg ht (kt H locs ls hP hS hl r μ1 (by rw [← ho, if_pos rfl]))
  · rw [x_rv_n X hx]
    exact lv_ifnull hC.1 hC.2.1 hdg (kf H locs ls hP hS hl r μ1 (by rw [← ho, if_neg hx]))
theorem s_ifnonnull (hC : x_C X Z p R s m c cc own nL cs sl n) {x : Nat} {off : Int} {tgt : Nat} {K1 K2 : Option (α × τ)} (hdg : decode cc pc = .ok (.ifnonnull off, 3)) (ht : (pc : Int) + off = (tgt : Int)) (kt : Sm X I A Q p l e R s m args below meth c nL cs sl tgt lv st μ K1) (kf : Sm X I A Q p l e R s m args below meth c nL cs sl (pc + 3) lv st μ K2) : Sm X I A Q p l e R s m args below meth c nL cs sl pc lv (vR x :: st) μ (if x = 0 then K2 else K1) := by
  intro H locs ls hP hS hl r μ1 ho
  show W p l e R s m args below meth c H locs cs sl (Q r μ1) (F0 m pc ls (x_rv X x :: x_st X st))
  by_cases hx : x = 0
  · subst hx
    exact lv_ifnonnullN hC.1 hC.2.1 hdg (kf H locs ls hP hS hl r μ1 (by rw [← ho, if_pos rfl]))
  · rw [x_rv_n X hx]
    exact lv_ifnonnull hC.1 hC.2.1 hdg ht (kt H locs ls hP hS hl r μ1 (by rw [← ho, if_neg hx]))
end ROWS
