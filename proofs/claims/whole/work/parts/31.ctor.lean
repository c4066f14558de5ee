/-! ===== constructors: the other rows ===== -/
section CTOR
variable {α β : Type} {X : x_X} {Z : x_Zs} {ix : Nat → Nat} {h0 hA k : Nat} {Q : α → x_M → State → Prop} {p : Program} {l : Launch} {e : Env} {R : Room} {s : State} {m : MethodId} {args : Array Value} {below : List Frame} {meth : Method} {c : Code} {cc : ByteArray} {own : String} {nL cs sl n : Nat} {pc : Nat} {lv lv' : List (Nat × x_V)} {st : List x_V} {μ : x_M} {o : Option (α × x_M)}
/-- the class of an array's elements -/
theorem c_newA (hC : x_CC X Z ix h0 hA p R s m meth c cc own nL n) {x N kd idx : Nat} {v : Int32} {C : String} (hx : ix x = k) (hk : X.1 x = kd) (hkd : kd = 23 ∧ C = RX0 ∨ kd = 24 ∧ C = RX4 ∨ kd = 25 ∧ C = RX8) (hk0 : 0 < k) (hln : x_ln X x = N) (h1 : ∀ j, j < N → μ.2.1 x j = 0)
    (hl1 : x_in (.classLink own idx C)) (hv : ¬ v < 0 ∧ v.toNatClampNeg = N) (hby : N * 4 ≤ 536870912) (hcs : cs + 1 ≤ R.cells ∧ sl + N ≤ R.slots) (hdg : decode cc pc = .ok (.anewarray idx, 3))
    (kk : Sm X (x_PJ X ix h0 (k + 1) s) (x_rg hA) Q p l e R s m args below meth c nL (cs + 1) (sl + N) (pc + 3) lv (vR x :: st) μ o) : Sm X (x_PJ X ix h0 k s) (x_rg hA) Q p l e R s m args below meth c nL cs sl pc lv (vI v :: st) μ o := by
  intro H locs ls hP hS hl r μ1 ho
  obtain ⟨hexec, hb, hml, hown, hE, hR, -⟩ := id hC
  have hw := fun {w} h => hE.2.2.1.at (w := w) h args
  have had := (hR.2.1 x (by omega) (by omega)).1
  have hz := hP.2
  have e0 : x_ad X x = H.size := by omega
  have hover : (Cond.arrayOver (.object C)).before args s = true := by
    rcases hkd with ⟨-, rfl⟩ | ⟨-, rfl⟩ | ⟨-, rfl⟩
    · exact va_AO.use hE.2.2.2.1
    · exact va_AO.use hE.2.2.2.2.1
    · exact va_AO.use hE.2.2.2.2.2
  refine W.anew hexec hb hown (hw hl1) hover (g := F0 m pc ls (x_st X (vI v :: st))) rfl hdg (n := v) (rest := x_st X st) rfl hv.1 (by rw [hv.2]; exact hby) hcs.1 (by rw [hv.2]; exact hcs.2) fun cA kA comp f1 f2 f3 f4 => ?_
  generalize hH1 : H.push ({ cls := cA, slots := Array.replicate v.toNatClampNeg .null, vm := .none } : Cell) = H1
  have z1 : H1.size = H.size + 1 := by rw [← hH1, Array.size_push]
  have e1 : H1[H.size]? = some (arrV cA N (fun _ => .null)) := by rw [← hH1, Array.getElem?_push_size, ← arrV_new, hv.2]
  have o1 : ∀ q : Nat, q < H.size → H1[q]? = H[q]? := fun q hq => by rw [← hH1, Array.getElem?_push, if_neg (Nat.ne_of_lt hq)]
  have hcA : cA = x_cA X kd := by
    rcases hkd with ⟨rfl, rfl⟩ | ⟨rfl, rfl⟩ | ⟨rfl, rfl⟩
    · obtain ⟨_, _, -, -, -, g⟩ := (hE.1.2 3 _ rfl).2
      exact Option.some.inj (f1.symm.trans g)
    · obtain ⟨_, _, -, -, -, g⟩ := (hE.1.2 4 _ rfl).2
      exact Option.some.inj (f1.symm.trans g)
    · obtain ⟨_, _, -, -, -, g⟩ := (hE.1.2 5 _ rfl).2
      exact Option.some.inj (f1.symm.trans g)
  have hkd' : x_kd (x_stg X ix (k + 1)) x = kd := by rw [x_stg_kd (by omega)]; exact hk
  have h2 := kk H1 locs ls ⟨x_P.grow hR hk0 hP.1 hz hx (by omega) o1 ?_, by omega⟩ (hS.grow z1 o1) hl r μ1 ho
  · have h2 : W p l e R s m args below meth c H1 locs (cs + 1) (sl + N) (Q r μ1) (F0 m (pc + 3) ls (x_rv X x :: x_st X st)) := h2
    rw [x_rv_n X (fun z => by rw [z, hR.1] at hk; omega), e0] at h2
    rw [hv.2]
    exact h2
  · refine ⟨fun _ _ => by omega, fun z => by omega, fun z => by omega, fun z => by omega, fun _ _ => ?_, fun z => by omega, fun z => by omega, fun z => by omega⟩
    show H1[x_ad X x]? = _
    rw [e0]
    refine e1.trans ?_
    rw [vp_cell_q, hkd', hcA, show x_ln (x_stg X ix (k + 1)) x = N from hln]
    refine congrArg some (arrV_congr (fun j hj => ?_))
    rw [h1 j hj]; rfl
/-- the fields of an object of this class -/
theorem c_put0 (hC : x_CC X Z ix h0 hA p R s m meth c cc own nL n) {ci j N idx x : Nat} {T : u_T} {v : x_V} {μ2 : x_M} (hcl : x_Cls ci own T N) (hjN : j < N) (hin : meth.name = "<init>")
    (hlink : x_in (.fieldLink own idx own (T j).2.1 (T j).2.2.1)) (hx : x_kd (x_stg X ix k) x = ci + 1) (hn : narrow (x_ty ci j) (x_v X v) = x_v X v) (hfit : fits (x_ty ci j) (x_v X v) = true)
    (hv : ∀ i, i < N → updV (fun i => x_f X μ ci x i) j (x_v X v) i = x_f X μ2 ci x i) (e1 : ∀ p, p ≠ x → μ2.1 p = μ.1 p) (e2 : ∀ p, p ≠ x → μ2.2.1 p = μ.2.1 p) (e3 : ∀ p, p ≠ x → μ2.2.2 p = μ.2.2 p)
    (hdg : decode cc pc = .ok (.putfield idx, 3))
    (kk : Sm X (x_PJ X ix h0 k s) (x_rg hA) Q p l e R s m args below meth c nL cs sl (pc + 3) lv st μ2 o) : Sm X (x_PJ X ix h0 k s) (x_rg hA) Q p l e R s m args below meth c nL cs sl pc lv (v :: vR x :: st) μ o := by
  intro H locs ls hP hS hl r μ1 ho
  obtain ⟨hexec, hb, hml, hown, hE, hR, -⟩ := id hC
  have hI : x_I (x_stg X ix k) := hR.inj
  have hE' : x_E (x_stg X ix k) Z s s.heap := by
    have hA' : ∀ q, x_A (x_stg X ix k) q → x_rg hA q := by
      rintro q ⟨i, i1, i2, i3⟩
      have ii := x_stg_pos i1
      rw [x_stg_kd ii] at i1 i2
      have := (hR.2.1 i i1 i2).2
      rw [← i3]; exact this
    exact x_EC.E (X := x_stg X ix k) hE hA'
  obtain ⟨cell, cC, kC, q1, q2, q3, q4, hcC, hfc, hkC, hkind, hsl, hws⟩ := x_obj (args := args) (X := x_stg X ix k) hE' hP.1 hcl hx
  obtain ⟨cf, kf, fi, f, hi, hsf⟩ := hsl j hjN
  have h0 : x ≠ 0 := fun z => by rw [z, hI.1] at hx; omega
  have hst := (u_facts hfc hkC (u_lays hws (fun w hw => hw) hjN) hi).1
  have hap := va_apart (D := x_D X) (own := own) hws (fun w hw => hw) (x_ty ci) hcl.2.2.2.1 hcl.2.2.2.2.1 hE.1 hcl.1
  have hlay := hws _ (u_in_lay hjN)
  unfold u_lay at hlay
  have hi' := hi
  have hW := hE.2.2.1.at hlink args
  have hown2 : (T j).1 = own := hcl.2.2.2.2.2 j hjN
  have hT' : s.fieldFound? own (T j).2.1 (T j).2.2.1 = some (cf, kf, fi, f) := by
    rw [hown2] at hi'; exact hi'
  show W p l e R s m args below meth c H locs cs sl (Q r μ1) (F0 m pc ls (x_v X v :: x_rv X x :: x_st X st))
  rw [x_rv_n X h0]
  have hci := hcl.2.1
  have hxad : hA ≤ x_ad X x := by
    have hp : ix x < k := x_stg_pos (X := X) (ix := ix) (k := k) (by omega)
    rw [x_stg_kd hp] at hx
    exact (hR.2.1 x (by omega) (by omega)).2
  have fin : ∀ H' : Heap, H'[x_ad X x]? = some (cell.setSlot f.slot (x_v X v)) → H'.size = H.size → (∀ q, q ≠ x_ad X x → H'[q]? = H[q]?) → W p l e R s m args below meth c H' (locs ++ [⟨x_ad X x, f.slot⟩]) cs sl (Q r μ1) (F0 m (pc + 3) ls (x_st X st)) := by
    intro H' g1 g2 g3
    refine kk H' _ ls ⟨x_P.put hI hP.1 (o := x) (by omega) (by omega) ?_ g3 e1 e2 e3, by rw [g2]; exact hP.2⟩ (hS.put g2 g3 hxad) hl r μ1 ho
    have hk1 : x_kd (x_stg X ix k) x - 1 = ci := by omega
    refine ⟨fun _ _ => ⟨(own, T, N), ?_, ?_⟩, fun z => by omega, fun z => by omega, fun z => by omega, fun z => by omega, fun z => by omega, fun z => by omega, fun z => by omega⟩
    · rw [hk1]; exact hcl.1
    · rw [hk1]
      rw [hsf] at g1
      exact t_OB.to (V := updV (fun i => x_f X μ ci x i) j (x_v X v)) ⟨_, g1, q2, q3, t_set q4 hap hjN (x_v X v)⟩ hv
  by_cases hfin : (T j).2.2.2 = true
  · rw [if_pos hfin] at hlay
    have hcf : m.cls = cf := by
      obtain ⟨_, _, c', _, _, _, -, -, hf', -, -, -, hown3, -⟩ := Cond.laysFinal_spec hlay
      have e1 : c' = cf := by have := hi.symm.trans hf'; simp at this; exact this.1.symm
      rw [hown2] at hown3
      rw [← e1]; exact Option.some.inj (hown.symm.trans hown3)
    have h6 := u_fits hfc hkC hkind (Or.inr hlay) hi (hcl.2.2.2.1 j hjN) hn hfit
    exact W.putFinK hexec hb hown hW hT' hst hcf hin (by rw [q2, hcC]; exact h6) q1 q3 (by rw [hsf]; exact k2_hasslot (q4 j hjN)) rfl rfl hdg fin
  · rw [if_neg hfin] at hlay
    have h6 := u_store hfc hkC hkind hlay hi (hcl.2.2.2.1 j hjN) hn hfit
    exact W.putK hexec hb (f := f) ⟨hown, hW, ⟨_, _, _, hT'⟩, hst⟩ (by rw [q2, hcC]; exact h6) q1 q3 (by rw [hsf]; exact k2_hasslot (q4 j hjN)) rfl rfl hdg fin
theorem c_putI (hC : x_CC X Z ix h0 hA p R s m meth c cc own nL n) {ci j N idx x : Nat} {T : u_T} {v : Int32} (hcl : x_Cls ci own T N) (hjN : j < N) (hin : meth.name = "<init>") (hR : x_ty ci j = .int)
    (hlink : x_in (.fieldLink own idx own (T j).2.1 (T j).2.2.1)) (hx : x_kd (x_stg X ix k) x = ci + 1) (hdg : decode cc pc = .ok (.putfield idx, 3))
    (kk : Sm X (x_PJ X ix h0 k s) (x_rg hA) Q p l e R s m args below meth c nL cs sl (pc + 3) lv st (x_sI μ x j v) o) : Sm X (x_PJ X ix h0 k s) (x_rg hA) Q p l e R s m args below meth c nL cs sl pc lv (vI v :: vR x :: st) μ o := by
  have hR2 : x_isR ci j = false := by unfold x_isR; rw [hR]
  exact c_put0 hC (v := vI v) hcl hjN hin hlink hx (by rw [hR]; rfl) (by rw [hR]; rfl) (fun i _ => x_f_sI hR2 i) (fun q hq => x_u_ne hq) (fun q hq => rfl) (fun q hq => rfl) hdg kk
theorem c_putZ (hC : x_CC X Z ix h0 hA p R s m meth c cc own nL n) {ci j N idx x : Nat} {T : u_T} {v : Int32} (hcl : x_Cls ci own T N) (hjN : j < N) (hin : meth.name = "<init>") (hR : x_ty ci j = .boolean) (hv : v = 0 ∨ v = 1)
    (hlink : x_in (.fieldLink own idx own (T j).2.1 (T j).2.2.1)) (hx : x_kd (x_stg X ix k) x = ci + 1) (hdg : decode cc pc = .ok (.putfield idx, 3))
    (kk : Sm X (x_PJ X ix h0 k s) (x_rg hA) Q p l e R s m args below meth c nL cs sl (pc + 3) lv st (x_sI μ x j v) o) : Sm X (x_PJ X ix h0 k s) (x_rg hA) Q p l e R s m args below meth c nL cs sl pc lv (vI v :: vR x :: st) μ o := by
  have hR2 : x_isR ci j = false := by unfold x_isR; rw [hR]
  have hvn : narrow .boolean (.int v) = .int v ∧ fits .boolean (.int v) = true := by rcases hv with rfl | rfl <;> exact ⟨rfl, rfl⟩
  exact c_put0 hC (v := vI v) hcl hjN hin hlink hx (by rw [hR]; exact hvn.1) (by rw [hR]; exact hvn.2) (fun i _ => x_f_sI hR2 i) (fun q hq => x_u_ne hq) (fun q hq => rfl) (fun q hq => rfl) hdg kk
theorem c_putR (hC : x_CC X Z ix h0 hA p R s m meth c cc own nL n) {ci j N idx x v : Nat} {T : u_T} (hcl : x_Cls ci own T N) (hjN : j < N) (hin : meth.name = "<init>") (hR : x_isR ci j = true)
    (hlink : x_in (.fieldLink own idx own (T j).2.1 (T j).2.2.1)) (hx : x_kd (x_stg X ix k) x = ci + 1) (hdg : decode cc pc = .ok (.putfield idx, 3))
    (kk : Sm X (x_PJ X ix h0 k s) (x_rg hA) Q p l e R s m args below meth c nL cs sl (pc + 3) lv st (x_sR μ x j v) o) : Sm X (x_PJ X ix h0 k s) (x_rg hA) Q p l e R s m args below meth c nL cs sl pc lv (vR v :: vR x :: st) μ o := by
  have hvn : narrow (x_ty ci j) (x_rv X v) = x_rv X v ∧ fits (x_ty ci j) (x_rv X v) = true := by
    unfold x_isR at hR
    cases ht : x_ty ci j with
    | object D =>
      by_cases h0 : v = 0
      · subst h0; exact ⟨rfl, rfl⟩
      · rw [x_rv_n X h0]; exact ⟨rfl, rfl⟩
    | array D =>
      by_cases h0 : v = 0
      · subst h0; exact ⟨rfl, rfl⟩
      · rw [x_rv_n X h0]; exact ⟨rfl, rfl⟩
    | _ => rw [ht] at hR; cases hR
  exact c_put0 hC (v := vR v) hcl hjN hin hlink hx hvn.1 hvn.2 (fun i _ => x_f_sR hR i) (fun q hq => rfl) (fun q hq => x_u_ne hq) (fun q hq => rfl) hdg kk
theorem c_getR (hC : x_CC X Z ix h0 hA p R s m meth c cc own nL n) {ci j N idx x : Nat} {T : u_T} (hcl : x_Cls ci own T N) (hjN : j < N) (hR0 : x_isR ci j = true)
    (hlink : x_in (.fieldLink own idx own (T j).2.1 (T j).2.2.1)) (hx : x_kd (x_stg X ix k) x = ci + 1) {w : Nat} (hw : μ.2.1 x j = w) (hdg : decode cc pc = .ok (.getfield idx, 3))
    (kk : Sm X (x_PJ X ix h0 k s) (x_rg hA) Q p l e R s m args below meth c nL cs sl (pc + 3) lv (vR w :: st) μ o) : Sm X (x_PJ X ix h0 k s) (x_rg hA) Q p l e R s m args below meth c nL cs sl pc lv (vR x :: st) μ o := by
  subst hw
  intro H locs ls hP hS hl r μ1 ho
  obtain ⟨hexec, hb, hml, hown, hE, hR, -⟩ := id hC
  have hI : x_I (x_stg X ix k) := hR.inj
  have hE' : x_E (x_stg X ix k) Z s s.heap := by
    have hA' : ∀ q, x_A (x_stg X ix k) q → x_rg hA q := by
      rintro q ⟨i, i1, i2, i3⟩
      have ii := x_stg_pos i1
      rw [x_stg_kd ii] at i1 i2
      have := (hR.2.1 i i1 i2).2
      rw [← i3]; exact this
    exact x_EC.E (X := x_stg X ix k) hE hA'
  obtain ⟨cell, cC, kC, q1, q2, q3, q4, hcC, hfc, hkC, hkind, hsl, hws⟩ := x_obj (args := args) (X := x_stg X ix k) hE' hP.1 hcl hx
  obtain ⟨cf, kf, fi, f, hi, hsf⟩ := hsl j hjN
  have h0 : x ≠ 0 := fun z => by rw [z, hI.1] at hx; omega
  have hst := (u_facts hfc hkC (u_lays hws (fun w hw => hw) hjN) hi).1
  have h2 := kk H locs ls hP hS hl r μ1 ho
  have h3 : W p l e R s m args below meth c H locs cs sl (Q r μ1) (F0 m (pc + 3) ls (x_f X μ ci x j :: x_st X st)) := by rw [x_isR_ref hR0]; exact h2
  have hT' : s.fieldFound? own (T j).2.1 (T j).2.2.1 = some (cf, kf, fi, f) := by
    have := hcl.2.2.2.2.2 j hjN
    rw [this] at hi; exact hi
  show W p l e R s m args below meth c H locs cs sl (Q r μ1) (F0 m pc ls (x_rv X x :: x_st X st))
  rw [x_rv_n X h0]
  exact W.getf hexec hb hown (hE.2.2.1.at hlink args) hT' hst q1 (by rw [q3]; exact fun h => by cases h) (by rw [hsf]; exact q4 j hjN) rfl rfl hdg h3
theorem c_iast (hC : x_CC X Z ix h0 hA p R s m meth c cc own nL n) {i v : Int32} {a : Nat} (hk : x_kd (x_stg X ix k) a = 20) (hi : x_ix i (x_ln X a)) (hdg : decode cc pc = .ok (.iastore, 1)) (kk : Sm X (x_PJ X ix h0 k s) (x_rg hA) Q p l e R s m args below meth c nL cs sl (pc + 1) lv st (x_sI μ a i.toNatClampNeg v) o) : Sm X (x_PJ X ix h0 k s) (x_rg hA) Q p l e R s m args below meth c nL cs sl pc lv (vI v :: vI i :: vR a :: st) μ o := by
  intro H locs ls hP hS hl r μ1 ho
  obtain ⟨hexec, hb, hml, hown, hE, hR, -⟩ := id hC
  have hI : x_I (x_stg X ix k) := hR.inj
  have h0 : a ≠ 0 := fun z => by rw [z, hI.1] at hk; omega
  have hxad : hA ≤ x_ad X a := by
    have hp : ix a < k := x_stg_pos (X := X) (ix := ix) (k := k) (by omega)
    rw [x_stg_kd hp] at hk
    exact (hR.2.1 a (by omega) (by omega)).2
  show W p l e R s m args below meth c H locs cs sl (Q r μ1) (F0 m pc ls (.int v :: .int i :: x_rv X a :: x_st X st))
  rw [x_rv_n X h0]
  refine W.iast hexec hb ((hP.1 a).2.1 hk) ((hE.1.2 0 _ rfl).1 (x_ln X a) (fun j => .int (μ.1 a j))) (fun q => by cases q) (by show ¬ (i < 0 ∨ (arrV _ _ _).slots.size ≤ _); rw [arrV_size]; exact hi) rfl rfl hdg fun H1 e1 z oq => ?_
  refine kk H1 _ ls ⟨x_P.put hI hP.1 (o := a) (by omega) (by omega) ?_ oq (fun q hq => x_u_ne hq) (fun q hq => rfl) (fun q hq => rfl), by rw [z]; exact hP.2⟩ (hS.put z oq hxad) hl r μ1 ho
  refine ⟨fun _ _ => by omega, fun _ => ?_, fun z => by omega, fun z => by omega, fun z => by omega, fun z => by omega, fun z => by omega, fun z => by omega⟩
  refine e1.trans ?_
  rw [vp_cell_i, vp_cell_i, arrV_store]
  congr 2
  funext q
  show updV _ _ _ q = Value.int (x_u μ.1 a i.toNatClampNeg v a q)
  rw [x_u_eq]
  by_cases hq : q = i.toNatClampNeg
  · subst hq; simp [updV]
  · simp [updV, hq]
theorem c_aast (hC : x_CC X Z ix h0 hA p R s m meth c cc own nL n) {i : Int32} {a v kd ci N : Nat} {C : String} {T : u_T} (hcl : x_Cls ci C T N) (hk : x_kd (x_stg X ix k) a = kd) (hkd : kd = 23 ∧ C = RX0 ∨ kd = 24 ∧ C = RX4 ∨ kd = 25 ∧ C = RX8) (hv : x_kd (x_stg X ix k) v = ci + 1) (hi : x_ix i (x_ln X a)) (hdg : decode cc pc = .ok (.aastore, 1))
    (kk : Sm X (x_PJ X ix h0 k s) (x_rg hA) Q p l e R s m args below meth c nL cs sl (pc + 1) lv st (x_sR μ a i.toNatClampNeg v) o) : Sm X (x_PJ X ix h0 k s) (x_rg hA) Q p l e R s m args below meth c nL cs sl pc lv (vR v :: vI i :: vR a :: st) μ o := by
  intro H locs ls hP hS hl r μ1 ho
  obtain ⟨hexec, hb, hml, hown, hE, hR, -⟩ := id hC
  have hI : x_I (x_stg X ix k) := hR.inj
  have h0 : a ≠ 0 := fun z => by rw [z, hI.1] at hk; omega
  have h1 : v ≠ 0 := fun z => by rw [z, hI.1] at hv; omega
  have hxad : hA ≤ x_ad X a := by
    have hp : ix a < k := x_stg_pos (X := X) (ix := ix) (k := k) (by omega)
    rw [x_stg_kd hp] at hk
    exact (hR.2.1 a (by omega) (by omega)).2
  have hE' : x_E (x_stg X ix k) Z s s.heap := by
    have hA' : ∀ q, x_A (x_stg X ix k) q → x_rg hA q := by
      rintro q ⟨i, i1, i2, i3⟩
      have ii := x_stg_pos i1
      rw [x_stg_kd ii] at i1 i2
      have := (hR.2.1 i i1 i2).2
      rw [← i3]; exact this
    exact x_EC.E (X := x_stg X ix k) hE hA'
  obtain ⟨cellV, cC, kC, g1, g2, g3, -⟩ := x_obj (args := args) (X := x_stg X ix k) hE' hP.1 hcl hv
  have hcls := (hE.1.1 ci _ hcl.1).2
  have hRA : ∃ (kA : Class) (comp : ClassId), s.vm.classes[x_cA X kd]? = some kA ∧ kA.kind = .array comp (.object C) ∧ s.vm.findClass C = some comp := by
    rcases hkd with ⟨rfl, rfl⟩ | ⟨rfl, rfl⟩ | ⟨rfl, rfl⟩
    · obtain ⟨kA, comp, k1, k2, k3, -⟩ := (hE.1.2 3 _ rfl).2
      exact ⟨kA, comp, k1, k2, k3⟩
    · obtain ⟨kA, comp, k1, k2, k3, -⟩ := (hE.1.2 4 _ rfl).2
      exact ⟨kA, comp, k1, k2, k3⟩
    · obtain ⟨kA, comp, k1, k2, k3, -⟩ := (hE.1.2 5 _ rfl).2
      exact ⟨kA, comp, k1, k2, k3⟩
  obtain ⟨kA, comp, k1, k2, k3⟩ := hRA
  have hcomp : comp = (x_D X).1 ci := Option.some.inj (k3.symm.trans hcls.1)
  subst hcomp
  obtain ⟨kC', hkC', -⟩ := hcls.2
  have hlt : i.toNatClampNeg < x_ln X a := Nat.not_le.mp fun q => hi (Or.inr q)
  have hi0 : ¬ i < 0 := fun q => hi (Or.inl q)
  have h5 := (hP.1 a).2.2.2.2.1 (by omega) (by omega)
  rw [hk] at h5
  show W p l e R s m args below meth c H locs cs sl (Q r μ1) (F0 m pc ls (x_rv X v :: .int i :: x_rv X a :: x_st X st))
  rw [x_rv_n X h0, x_rv_n X h1]
  refine W.aast hexec hb h5 (fun q h => by cases h) (fun h => by cases h) k1 k2 rfl hkC' ⟨hi0, by show _ < (arrV _ _ _).slots.size; rw [arrV_size]; exact hlt⟩ g1 (fun q h => by rw [g3] at h; cases h) (by rw [g2]; exact hkC') (by rw [g2]; exact va_assign hcls) rfl rfl hdg fun H1 e1 z oq => ?_
  refine kk H1 _ ls ⟨x_P.put hI hP.1 (o := a) (by omega) (by omega) ?_ oq (fun q hq => rfl) (fun q hq => x_u_ne hq) (fun q hq => rfl), by rw [z]; exact hP.2⟩ (hS.put z oq hxad) hl r μ1 ho
  refine ⟨fun _ _ => by omega, fun z => by omega, fun z => by omega, fun z => by omega, fun _ _ => ?_, fun z => by omega, fun z => by omega, fun z => by omega⟩
  refine e1.trans ?_
  rw [vp_cell_q, vp_cell_q, arrV_store, hk]
  congr 2
  funext q
  show updV _ _ _ q = va_rf (x_ro X (x_u μ.2.1 a i.toNatClampNeg v a q))
  rw [x_u_eq, x_rf_ro]
  by_cases hq : q = i.toNatClampNeg
  · subst hq; simp [updV, x_rv_n X h1]; rfl
  · simp only [updV, if_neg hq]
    exact x_rf_ro X _
/-- Object.<init> -/
theorem c_init (hC : x_CC X Z ix h0 hA p R s m meth c cc own nL n) {idx x : Nat} (hx : 0 < x) (hl1 : x_in (.methodLink own idx Lib.objectInit)) (hl2 : x_in (.instanceMethod Lib.objectInit)) (hl3 : x_in (.code Lib.objectInit ⟨#[0xb1]⟩ 1 none)) (hn : 1 ≤ n) (hst : (st.map x_cat).sum ≤ 8) (hdg : decode cc pc = .ok (.invokespecial idx, 3))
    (kk : Sm X (x_PJ X ix h0 k s) (x_rg hA) Q p l e R s m args below meth c nL cs sl (pc + 3) lv st μ o) : Sm X (x_PJ X ix h0 k s) (x_rg hA) Q p l e R s m args below meth c nL cs sl pc lv (vR x :: st) μ o := by
  intro H locs ls hP hS hl r μ1 ho
  obtain ⟨hexec, hb, hml, hown, hE, hR, r1, r2, -⟩ := id hC
  have hw := fun {w} h => hE.2.2.1.at (w := w) h args
  show W p l e R s m args below meth c H locs cs sl (Q r μ1) (F0 m pc ls (x_rv X x :: x_st X st))
  rw [x_rv_n X (by omega)]
  exact W.objInit hexec hb hown (hw hl1) (hw hl2) (hw hl3) (g := F0 m pc ls (Value.ref (x_ad X x) :: x_st X st)) rfl (by rw [hml]; exact hl.1) rfl hdg (by omega) (by rw [show 2 * (F0 m pc ls (Value.ref (x_ad X x) :: x_st X st)).monitorRoom = 0 from rfl, x_st_sum]; omega) (kk H locs ls hP hS hl r μ1 ho)
def x_rmc (n mc ms : Nat) : Room := { frames := n, cells := mc, slots := ms, locals := 64 * n }
/-- a constructor's contract (or another method's, of such a world) -/
def x_Ct (X : x_X) (Z : x_Zs) (ix : Nat → Nat) (h0 hA : Nat) (l : Launch) (y : MethodName) (cc : ByteArray) (maxL n mc ms k k' : Nat) (avs : List x_V) (μ μ' : x_M) : Prop :=
  Met l y [.code y cc maxL none] (x_rmc n mc ms) (va_Pc (avs.map (x_v X)) (fun U => x_EC X Z (x_rg hA) U U.heap ∧ x_PJ X ix h0 k U μ U.heap ∧ hA ≤ U.heap.size)) (fun _ st oc t => oc = .returned none ∧ x_PJ X ix h0 k' t μ' t.heap ∧ va_F (x_rg hA) st t) mc ms (x_rg hA)
theorem x_Ct.blind {avs : List Value} {μ : x_M} : FrameBlind (va_Pc avs (fun U => x_EC X Z (x_rg hA) U U.heap ∧ x_PJ X ix h0 k U μ U.heap ∧ hA ≤ U.heap.size)) := by
  intro a U g mk h
  obtain ⟨h1, h2, h3, h4⟩ := h
  exact ⟨h1, x_EC.go (s := U) (U := U.calling g mk a) (State.WarmedH.refl U) (fun _ _ _ => rfl) h2, ⟨h3.1.moved (Vm.Alike.refl U.vm), h3.2⟩, h4⟩
theorem c_call (hC : x_CC X Z ix h0 hA p R s m meth c cc own nL n) {idx k' kz mz mc ms x : Nat} {y : MethodName} {cz : ByteArray} {avs : List x_V} {μ2 : x_M} {nest : Bool} (hx : 0 < x) (hM : x_Ct X Z ix h0 hA l y cz mz kz mc ms k k' (vR x :: avs) μ μ2) (hdg : decode cc pc = .ok (.invokespecial idx, 3)) (hy : y.name = "<init>")
    (hl1 : x_in (match nest with | true => Cond.methodLinkNest own idx y "LakeBooks" | false => Cond.methodLink own idx y)) (hl2 : x_in (.instanceMethod y)) (hl3 : x_in (.initialized y.cls)) (hl4 : x_in (.code y cz mz none)) (hd : y.cls ≠ "java/lang/invoke/MethodHandle" ∧ y.cls ≠ "java/lang/invoke/VarHandle" ∧ (parseMethodDescriptor y.desc).map (fun d => d.parameters.length) = some avs.length) (hk : kz + 1 ≤ n ∧ mz ≤ 45) (hcs : cs + mc ≤ R.cells ∧ sl + ms ≤ R.slots) (hst : (st.map x_cat).sum ≤ 8)
    (kk : Sm X (x_PJ X ix h0 k' s) (x_rg hA) Q p l e R s m args below meth c nL (cs + mc) (sl + ms) (pc + 3) lv st μ2 o) : Sm X (x_PJ X ix h0 k s) (x_rg hA) Q p l e R s m args below meth c nL cs sl pc lv (avs.reverse ++ vR x :: st) μ o := by
  intro H locs ls hP hS hl r μ1 ho
  obtain ⟨hexec, hb, hml, hown, hE, hR, r1, r2, r3⟩ := id hC
  have hw := fun {w} h => hE.2.2.1.at (w := w) h args
  have eA : (vR x :: avs).map (x_v X) = Value.ref (x_ad X x) :: avs.map (x_v X) := by
    show x_rv X x :: avs.map (x_v X) = _
    rw [x_rv_n X (by omega)]
  have hlen : ∀ sig, parseMethodDescriptor y.desc = some sig → avs.length = sig.parameters.length := by
    intro sig h
    have h2 := hd.2.2
    rw [h] at h2
    exact (Option.some.inj h2).symm
  have hpre : ∀ U : State, U.heap = H → s.WarmedH U.vm → va_Pc ((vR x :: avs).map (x_v X)) (fun U => x_EC X Z (x_rg hA) U U.heap ∧ x_PJ X ix h0 k U μ U.heap ∧ hA ≤ U.heap.size) (Value.ref (x_ad X x) :: avs.map (x_v X)).toArray U := by
    intro U hU hW
    refine ⟨by rw [eA], ?_, ?_, ?_⟩
    · rw [hU]; exact hE.go hW (fun a h1 h2 => hS.2.1 a h1 h2)
    · rw [hU]; exact ⟨hP.1.moved hW.alike, hP.2⟩
    · rw [hU]; exact Nat.le_trans r3 hS.1
  have est : x_st X (avs.reverse ++ vR x :: st) = (avs.map (x_v X)).reverse ++ .ref (x_ad X x) :: x_st X st := by
    have : x_v X (vR x) = .ref (x_ad X x) := x_rv_n X (by omega)
    simp [x_st, this]
  have hword : ∀ w ∈ [Cond.code y cz mz none], ∀ (a' : Array Value) (U : State), s.WarmedH U.vm → w.before a' U = true := by
    intro w hw' a' U hW
    rw [List.mem_singleton.mp hw']
    exact (hE.2.2.1.warm hW).at hl4 a'
  have hrun : va_Run p l e R s m args below meth c H locs cs sl mc ms (F0 m pc ls (x_st X (avs.reverse ++ vR x :: st))) (x_st X st) ((fun _ st oc t => oc = .returned none ∧ x_PJ X ix h0 k' t μ2 t.heap ∧ va_F (x_rg hA) st t : Array Value → State → Outcome → State → Prop) (Value.ref (x_ad X x) :: avs.map (x_v X)).toArray) (x_rg hA) := by
    cases nest with
    | true => exact va_runIN (Ts := []) (n := avs.length) ⟨hexec, hb, hml, hown, fun w h => by cases h⟩ hM ⟨⟨⟨rfl, rfl, by show kz + 1 ≤ R.frames; omega, by show 8 + (mz + 11) + 64 * kz ≤ R.locals; omega, hword, List.mem_cons_self⟩, hw hl4, hw hl3, ⟨hd.1, hd.2.1⟩, hlen, hw hl1⟩, hy, hw hl2⟩ ⟨x_Ct.blind, hpre⟩ rfl (by simp) hl.1 est (by rw [show 2 * (F0 m pc ls (x_st X (avs.reverse ++ vR x :: st))).monitorRoom = 0 from rfl, x_st_sum]; omega) hdg hcs
    | false => exact va_runI (Ts := []) (n := avs.length) ⟨hexec, hb, hml, hown, fun w h => by cases h⟩ hM ⟨⟨rfl, rfl, by show kz + 1 ≤ R.frames; omega, by show 8 + (mz + 11) + 64 * kz ≤ R.locals; omega, hword, List.mem_cons_self, hw hl4, hw hl3, ⟨hd.1, hd.2.1⟩, hlen, hw hl1⟩, hy, hw hl2⟩ ⟨x_Ct.blind, hpre⟩ rfl (by simp) hl.1 est (by rw [show 2 * (F0 m pc ls (x_st X (avs.reverse ++ vR x :: st))).monitorRoom = 0 from rfl, x_st_sum]; omega) hdg hcs
  intro T hT X'
  obtain ⟨v, st₀, t, T', L, g0, X2, hL, e1, e2, ⟨hv, hp, hz, hkf⟩, stp⟩ := hrun T hT X'
  cases hv
  rw [g0] at hz hkf
  have al : s.vm.Alike t.vm := by rw [← e2]; exact X2.warmed.alike
  obtain ⟨t2, a1, b1⟩ := kk T'.heap (locs ++ L) ls (by rw [e1]; exact ⟨hp.1.moved al.symm, hp.2⟩) ⟨Nat.le_trans hS.1 (by rw [e1]; exact hz), fun q h1 h2 => by rw [e1, hkf q (Nat.lt_of_lt_of_le h1 hS.1) h2]; exact hS.2.1 q h1 h2, fun q hq => by
    rcases List.mem_append.mp hq with h | h
    · exact hS.2.2 q h
    · exact hL q h⟩ hl r μ1 ho T' rfl X2
  exact ⟨t2, stp t2 a1, b1⟩
/-- what Q is in a constructor -/
abbrev x_CQ (X : x_X) (ix : Nat → Nat) (h0 hA k' mc ms : Nat) (args : Array Value) (s : State) (below : List Frame) : Unit → x_M → State → Prop := fun _ μ' => MQ below (fun _ st oc t => oc = .returned none ∧ x_PJ X ix h0 k' t μ' t.heap ∧ va_F (x_rg hA) st t) args s mc ms (x_rg hA)
theorem c_ret (hC : x_CC X Z ix h0 hA p R s m meth c cc own nL n) (hr : meth.sig.returnType = none) (hlk : meth.locks = false) (hdg : decode cc pc = .ok (.return_, 1)) : Sm X (x_PJ X ix h0 k s) (x_rg hA) (x_CQ X ix h0 hA k cs sl args s below) p l e R s m args below meth c nL cs sl pc lv [] μ (some ((), μ)) := by
  intro H locs ls hP hS hl r μ1 ho
  cases ho
  exact W.vret hC.1 hC.2.1 hr (fun t ht hW => ⟨rfl, by rw [ht]; exact ⟨hP.1.moved hW.alike, hP.2⟩, hS.F ht⟩) hS.2.2 hdg hlk
theorem c_enter {y : MethodName} {maxL mc ms k' : Nat} {avs : List x_V} {μ' : x_M} (hR : x_R X ix h0 hA) (hy : plainFor y = true) (hlen : (avs.map x_cat).sum ≤ maxL)
    (h : ∀ (p : Program) (e : Env) (s : State) (m : MethodId) (args : Array Value) (below : List Frame) (meth : Method) (c : Code), x_CC X Z ix h0 hA p (x_rmc n mc ms) s m meth c cc y.cls maxL n → meth.name = y.name → meth.sig.returnType = none → meth.locks = false → Sm X (x_PJ X ix h0 k s) (x_rg hA) (x_CQ X ix h0 hA k' mc ms args s below) p l e (x_rmc n mc ms) s m args below meth c maxL 0 0 0 (x_ar 0 avs) [] μ (some ((), μ'))) : x_Ct X Z ix h0 hA l y cc maxL n mc ms k k' avs μ μ' := by
  refine x_ofW (cc := cc) (maxL := maxL) (ret := none) hy rfl ?_
  intro p e s m args below meth c s₁ B hml hv
  obtain ⟨rfl, hE, hP, hz⟩ := hv
  have k := h p e s m (avs.map (x_v X)).toArray below meth c ⟨B.exec, B.bytes, hml, findClass_of_methodNamed B.named, hE, hR, Nat.le_refl _, Nat.le_refl _, hz⟩ (name_of_methodNamed B.named B.method).1 B.returns B.notSynchronized s.heap [] _ hP va_S.rf (by rw [← x_ar_lv]; exact lv_entry (avs.map (x_v X)) (by rw [x_sl_len]; exact hlen)) () μ' rfl
  rw [lg_entry_eq]
  exact k
end CTOR
