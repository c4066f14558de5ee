/-! ===== rows over the memory: fields, arrays, statics, switches, returns, calls ===== -/
theorem x_W.at {U : State} (h : x_W U) {w : Cond} (hw : w ∈ lw_tbl ∧ (goodWord w = true ∨ x_nest w = true)) (a : Array Value) : w.before a U = true := h w hw.1 hw.2 a
/-- a word of the tables that every state of the run keeps -/
abbrev x_in (w : Cond) : Prop := w ∈ lw_tbl ∧ (goodWord w = true ∨ x_nest w = true)
/-- a class: its place, its fields, what the tables say of them -/
def x_Cls (ci : Nat) (C : String) (T : u_T) (N : Nat) : Prop := vwCl[ci]? = some (C, T, N) ∧ ci + 1 < 20 ∧ (∀ w ∈ u_ws C T N, x_in w) ∧ (∀ k, k < N → parseFieldDescriptor (T k).2.2.1 = some (x_ty ci k)) ∧ (∀ a, a < N → ∀ b, b < N → a ≠ b → (T a).2.1 ≠ (T b).2.1) ∧ (∀ k, k < N → (T k).1 = C)
def x_fl (nest : Bool) (own : String) (idx : Nat) (C : String) (T : u_T) (k : Nat) : Cond := match nest with
  | true => .fieldLinkNest own idx C (T k).2.1 (T k).2.2.1 "LakeBooks"
  | false => .fieldLink own idx C (T k).2.1 (T k).2.2.1
theorem x_isR_int {ci k : Nat} (h : x_isR ci k = false) {X : x_X} {μ : x_M} {o : Nat} : x_f X μ ci o k = .int (μ.1 o k) := by
  unfold x_f; rw [h]; rfl
theorem x_isR_ref {ci k : Nat} (h : x_isR ci k = true) {X : x_X} {μ : x_M} {o : Nat} : x_f X μ ci o k = x_rv X (μ.2.1 o k) := by
  unfold x_f; rw [h]; rfl
section HEAP
variable {α β : Type} {X : x_X} {Z : x_Zs} {A : Nat → Prop} {Q : α → x_M → State → Prop} {p : Program} {l : Launch} {e : Env} {R : Room} {s : State} {m : MethodId} {args : Array Value} {below : List Frame} {meth : Method} {c : Code} {cc : ByteArray} {own : String} {nL cs sl n : Nat} {pc : Nat} {lv lv' : List (Nat × x_V)} {st : List x_V} {μ : x_M} {o : Option (α × x_M)}
/-- the cell of an object of a class, and its places -/
theorem x_obj {H : Heap} {x ci N : Nat} {C : String} {T : u_T} (hE : x_E X Z s s.heap) (hP : x_P X μ s H) (hcl : x_Cls ci C T N) (hx : x_kd X x = ci + 1) :
    ∃ (cell : Cell) (cC : ClassId) (kC : Class), H[x_ad X x]? = some cell ∧ cell.cls = (x_D X).1 ci ∧ cell.vm = .none ∧ (∀ k, k < N → cell.slots[(x_D X).2 ci k]? = some (x_f X μ ci x k)) ∧ (x_D X).1 ci = cC ∧ s.vm.findClass C = some cC ∧ s.vm.classes[cC]? = some kC ∧ kC.kind = .ordinary ∧ (∀ k, k < N → SlotIs s (T k).1 (T k).2.1 (T k).2.2.1 ((x_D X).2 ci k)) ∧ (∀ w ∈ u_ws C T N, w.before args s = true) := by
  obtain ⟨hc, hci, hin, -⟩ := hcl
  have hk : x_kd X x - 1 = ci := by omega
  obtain ⟨r, h1, cell, q1, q2, q3, q4⟩ := (hP x).1 (by omega) (by omega)
  rw [hk] at h1 q2 q4
  have hr : r = (C, T, N) := Option.some.inj (h1.symm.trans hc)
  subst hr
  obtain ⟨hS, hfc, kC, hkC, hkind⟩ := hE.1.1 ci _ hc
  exact ⟨cell, _, kC, q1, q2, q3, q4, rfl, hfc, hkC, hkind, hS, fun w hw => hE.2.2.at (hin w hw) _⟩
theorem s_get0 (hC : x_C X Z p R s m c cc own nL cs sl n) {ci k N idx x : Nat} {C : String} {T : u_T} {v : x_V} {nest : Bool} (hcl : x_Cls ci C T N) (hkN : k < N)
    (hlink : x_in (x_fl nest own idx C T k)) (hv : x_f X μ ci x k = x_v X v) (hdg : decode cc pc = .ok (.getfield idx, 3)) (kk : Sm X (x_PI X s) A Q p l e R s m args below meth c nL cs sl (pc + 3) lv (v :: st) μ o) : Sm X (x_PI X s) A Q p l e R s m args below meth c nL cs sl pc lv (vR x :: st) μ (ck (x_kd X x = ci + 1) o) := by
  intro H locs ls hP hS hl r μ1 ho
  unfold ck at ho
  by_cases hx : x_kd X x = ci + 1
  · rw [if_pos hx] at ho
    have h2 := kk H locs ls hP hS hl r μ1 ho
    obtain ⟨cell, cC, kC, q1, q2, q3, q4, -, hfc, hkC, hkind, hsl, hws⟩ := x_obj (args := args) hC.2.2.2.2.1 hP hcl hx
    obtain ⟨cf, kf, fi, f, hi, hsf⟩ := hsl k hkN
    have h0 : x ≠ 0 := fun z => by rw [z, hC.2.2.2.2.2.1.1] at hx; omega
    have hst := (u_facts hfc hkC (u_lays hws (fun w hw => hw) hkN) hi).1
    have h3 : W p l e R s m args below meth c H locs cs sl (Q r μ1) (F0 m (pc + 3) ls (x_f X μ ci x k :: x_st X st)) := by rw [hv]; exact h2
    show W p l e R s m args below meth c H locs cs sl (Q r μ1) (F0 m pc ls (x_rv X x :: x_st X st))
    have hW := hC.2.2.2.2.1.2.2.at hlink args
    have hT' : s.fieldFound? C (T k).2.1 (T k).2.2.1 = some (cf, kf, fi, f) := by
      have := hcl.2.2.2.2.2 k hkN
      rw [this] at hi; exact hi
    rw [x_rv_n X h0]
    cases nest with
    | false => exact W.getf hC.1 hC.2.1 hC.2.2.2.1 hW hT' hst q1 (by rw [q3]; exact fun h => by cases h) (by rw [hsf]; exact q4 k hkN) rfl rfl hdg h3
    | true => exact va_Wgetf hC.1 hC.2.1 hC.2.2.2.1 hW hT' hst q1 (by rw [q3]; exact fun h => by cases h) (by rw [hsf]; exact q4 k hkN) rfl rfl hdg h3
  · rw [if_neg hx] at ho; cases ho
theorem s_getI (hC : x_C X Z p R s m c cc own nL cs sl n) {ci k N idx x : Nat} {C : String} {T : u_T} {nest : Bool} (hcl : x_Cls ci C T N) (hkN : k < N) (hR : x_isR ci k = false)
    (hlink : x_in (x_fl nest own idx C T k)) (hdg : decode cc pc = .ok (.getfield idx, 3)) (kk : Sm X (x_PI X s) A Q p l e R s m args below meth c nL cs sl (pc + 3) lv (vI (μ.1 x k) :: st) μ o) : Sm X (x_PI X s) A Q p l e R s m args below meth c nL cs sl pc lv (vR x :: st) μ (ck (x_kd X x = ci + 1) o) := s_get0 hC hcl hkN hlink (v := vI (μ.1 x k)) (x_isR_int hR) hdg kk
theorem s_getR (hC : x_C X Z p R s m c cc own nL cs sl n) {ci k N idx x : Nat} {C : String} {T : u_T} {nest : Bool} (hcl : x_Cls ci C T N) (hkN : k < N) (hR : x_isR ci k = true)
    (hlink : x_in (x_fl nest own idx C T k)) (hdg : decode cc pc = .ok (.getfield idx, 3)) (kk : Sm X (x_PI X s) A Q p l e R s m args below meth c nL cs sl (pc + 3) lv (vR (μ.2.1 x k) :: st) μ o) : Sm X (x_PI X s) A Q p l e R s m args below meth c nL cs sl pc lv (vR x :: st) μ (ck (x_kd X x = ci + 1) o) := s_get0 hC hcl hkN hlink (v := vR (μ.2.1 x k)) (x_isR_ref hR) hdg kk
theorem s_put0 (hC : x_C X Z p R s m c cc own nL cs sl n) {ci k N idx x : Nat} {C : String} {T : u_T} {v : x_V} {nest : Bool} {μ2 : x_M} {H : Heap} {locs : List Loc} {ls : Array Slot} {r : α} {μ1 : x_M} (hcl : x_Cls ci C T N) (hkN : k < N) (hfin : (T k).2.2.2 = false)
    (hlink : x_in (x_fl nest own idx C T k)) (hx : x_kd X x = ci + 1) (hn : narrow (x_ty ci k) (x_v X v) = x_v X v) (hfit : fits (x_ty ci k) (x_v X v) = true)
    (hv : ∀ j, j < N → updV (fun j => x_f X μ ci x j) k (x_v X v) j = x_f X μ2 ci x j) (e1 : ∀ p, p ≠ x → μ2.1 p = μ.1 p) (e2 : ∀ p, p ≠ x → μ2.2.1 p = μ.2.1 p) (e3 : ∀ p, p ≠ x → μ2.2.2 p = μ.2.2 p)
    (hdg : decode cc pc = .ok (.putfield idx, 3)) (hP : x_P X μ s H) (hS : va_S (x_A X) s.heap H locs) (hl : lv_has ls nL (x_lv X lv)) (ho : o = some (r, μ1))
    (kk : Sm X (x_PI X s) (x_A X) Q p l e R s m args below meth c nL cs sl (pc + 3) lv st μ2 o) : W p l e R s m args below meth c H locs cs sl (Q r μ1) (F0 m pc ls (x_st X (v :: vR x :: st))) := by
  have hI := hC.2.2.2.2.2.1
  obtain ⟨cell, cC, kC, q1, q2, q3, q4, hcC, hfc, hkC, hkind, hsl, hws⟩ := x_obj (args := args) hC.2.2.2.2.1 hP hcl hx
  obtain ⟨cf, kf, fi, f, hi, hsf⟩ := hsl k hkN
  have h0 : x ≠ 0 := fun z => by rw [z, hI.1] at hx; omega
  have hst := (u_facts hfc hkC (u_lays hws (fun w hw => hw) hkN) hi).1
  have hap := va_apart (D := x_D X) (own := C) hws (fun w hw => hw) (x_ty ci) hcl.2.2.2.1 hcl.2.2.2.2.1 hC.2.2.2.2.1.1 hcl.1
  have hlay := hws _ (u_in_lay hkN)
  unfold u_lay at hlay
  rw [if_neg (by rw [hfin]; decide)] at hlay
  have hi' := hi
  have h6 := u_store hfc hkC hkind hlay hi (hcl.2.2.2.1 k hkN) hn hfit
  have hW := hC.2.2.2.2.1.2.2.at hlink args
  have hT' : s.fieldFound? C (T k).2.1 (T k).2.2.1 = some (cf, kf, fi, f) := by
    have := hcl.2.2.2.2.2 k hkN
    rw [this] at hi'; exact hi'
  show W p l e R s m args below meth c H locs cs sl (Q r μ1) (F0 m pc ls (x_v X v :: x_rv X x :: x_st X st))
  rw [x_rv_n X h0]
  have hci := hcl.2.1
  have fin : ∀ H' : Heap, H'[x_ad X x]? = some (cell.setSlot f.slot (x_v X v)) → H'.size = H.size → (∀ q, q ≠ x_ad X x → H'[q]? = H[q]?) → W p l e R s m args below meth c H' (locs ++ [⟨x_ad X x, f.slot⟩]) cs sl (Q r μ1) (F0 m (pc + 3) ls (x_st X st)) := by
    intro H' g1 g2 g3
    refine kk H' _ ls (x_P.put hI hP (o := x) (by omega) (by omega) ?_ g3 e1 e2 e3) (hS.put g2 g3 ⟨x, by omega, by omega, rfl⟩) hl r μ1 ho
    refine ⟨fun _ _ => ⟨(C, T, N), ?_, ?_⟩, fun z => by omega, fun z => by omega, fun z => by omega, fun z => by omega, fun z => by omega, fun z => by omega, fun z => by omega⟩
    · have hk : x_kd X x - 1 = ci := by omega
      rw [hk]; exact hcl.1
    · have hk : x_kd X x - 1 = ci := by omega
      rw [hk]
      rw [hsf] at g1
      exact t_OB.to (V := updV (fun j => x_f X μ ci x j) k (x_v X v)) ⟨_, g1, q2, q3, t_set q4 hap hkN (x_v X v)⟩ hv
  cases nest with
  | false => exact W.putK hC.1 hC.2.1 (f := f) ⟨hC.2.2.2.1, hW, ⟨_, _, _, hT'⟩, hst⟩ (by rw [q2, hcC]; exact h6) q1 q3 (by rw [hsf]; exact k2_hasslot (q4 k hkN)) rfl rfl hdg fin
  | true => exact va_WputK hC.1 hC.2.1 (f := f) hC.2.2.2.1 hW hT' hst (by rw [q2, hcC]; exact h6) q1 q3 (by rw [hsf]; exact k2_hasslot (q4 k hkN)) rfl rfl hdg fin
theorem x_f_sI {ci x k : Nat} {v : Int32} (hR : x_isR ci k = false) (j : Nat) : updV (fun j => x_f X μ ci x j) k (.int v) j = x_f X (x_sI μ x k v) ci x j := by
  unfold updV x_f x_sI
  by_cases hj : j = k
  · subst hj
    simp [hR, x_u_eq]
  · simp [hj, x_u_eq]
theorem x_f_sR {ci x k : Nat} {v : Nat} (hR : x_isR ci k = true) (j : Nat) : updV (fun j => x_f X μ ci x j) k (x_rv X v) j = x_f X (x_sR μ x k v) ci x j := by
  unfold updV x_f x_sR
  by_cases hj : j = k
  · subst hj
    simp [hR, x_u_eq]
  · simp [hj, x_u_eq]
theorem s_putI (hC : x_C X Z p R s m c cc own nL cs sl n) {ci k N idx x : Nat} {C : String} {T : u_T} {v : Int32} {nest : Bool} (hcl : x_Cls ci C T N) (hkN : k < N) (hR : x_ty ci k = .int) (hfin : (T k).2.2.2 = false)
    (hlink : x_in (x_fl nest own idx C T k)) (hdg : decode cc pc = .ok (.putfield idx, 3)) (kk : Sm X (x_PI X s) (x_A X) Q p l e R s m args below meth c nL cs sl (pc + 3) lv st (x_sI μ x k v) o) : Sm X (x_PI X s) (x_A X) Q p l e R s m args below meth c nL cs sl pc lv (vI v :: vR x :: st) μ (ck (x_kd X x = ci + 1) o) := by
  intro H locs ls hP hS hl r μ1 ho
  unfold ck at ho
  by_cases hx : x_kd X x = ci + 1
  · rw [if_pos hx] at ho
    have hR2 : x_isR ci k = false := by unfold x_isR; rw [hR]
    exact s_put0 hC (v := vI v) hcl hkN hfin hlink hx (by rw [hR]; rfl) (by rw [hR]; rfl) (fun j _ => x_f_sI hR2 j) (fun q hq => x_u_ne hq) (fun q hq => rfl) (fun q hq => rfl) hdg hP hS hl ho kk
  · rw [if_neg hx] at ho; cases ho
/-- a boolean field: 0 or 1 -/
theorem s_putZ (hC : x_C X Z p R s m c cc own nL cs sl n) {ci k N idx x : Nat} {C : String} {T : u_T} {v : Int32} {nest : Bool} (hcl : x_Cls ci C T N) (hkN : k < N) (hR : x_ty ci k = .boolean) (hfin : (T k).2.2.2 = false)
    (hlink : x_in (x_fl nest own idx C T k)) (hdg : decode cc pc = .ok (.putfield idx, 3)) (kk : Sm X (x_PI X s) (x_A X) Q p l e R s m args below meth c nL cs sl (pc + 3) lv st (x_sI μ x k v) o) : Sm X (x_PI X s) (x_A X) Q p l e R s m args below meth c nL cs sl pc lv (vI v :: vR x :: st) μ (ck (x_kd X x = ci + 1 ∧ (v = 0 ∨ v = 1)) o) := by
  intro H locs ls hP hS hl r μ1 ho
  unfold ck at ho
  by_cases hx : x_kd X x = ci + 1 ∧ (v = 0 ∨ v = 1)
  · rw [if_pos hx] at ho
    have hR2 : x_isR ci k = false := by unfold x_isR; rw [hR]
    obtain ⟨hx, hv⟩ := hx
    have hvn : narrow .boolean (.int v) = .int v ∧ fits .boolean (.int v) = true := by rcases hv with rfl | rfl <;> exact ⟨rfl, rfl⟩
    exact s_put0 hC (v := vI v) hcl hkN hfin hlink hx (by rw [hR]; exact hvn.1) (by rw [hR]; exact hvn.2) (fun j _ => x_f_sI hR2 j) (fun q hq => x_u_ne hq) (fun q hq => rfl) (fun q hq => rfl) hdg hP hS hl ho kk
  · rw [if_neg hx] at ho; cases ho
theorem s_putR (hC : x_C X Z p R s m c cc own nL cs sl n) {ci k N idx x v : Nat} {C D : String} {T : u_T} {nest : Bool} (hcl : x_Cls ci C T N) (hkN : k < N) (hR : x_ty ci k = .object D) (hfin : (T k).2.2.2 = false)
    (hlink : x_in (x_fl nest own idx C T k)) (hdg : decode cc pc = .ok (.putfield idx, 3)) (kk : Sm X (x_PI X s) (x_A X) Q p l e R s m args below meth c nL cs sl (pc + 3) lv st (x_sR μ x k v) o) : Sm X (x_PI X s) (x_A X) Q p l e R s m args below meth c nL cs sl pc lv (vR v :: vR x :: st) μ (ck (x_kd X x = ci + 1) o) := by
  intro H locs ls hP hS hl r μ1 ho
  unfold ck at ho
  by_cases hx : x_kd X x = ci + 1
  · rw [if_pos hx] at ho
    have hR2 : x_isR ci k = true := by unfold x_isR; rw [hR]
    have hvn : narrow (.object D) (x_rv X v) = x_rv X v ∧ fits (.object D) (x_rv X v) = true := by
      by_cases h0 : v = 0
      · subst h0; exact ⟨rfl, rfl⟩
      · rw [x_rv_n X h0]; exact ⟨rfl, rfl⟩
    exact s_put0 hC (v := vR v) hcl hkN hfin hlink hx (by rw [hR]; exact hvn.1) (by rw [hR]; exact hvn.2) (fun j _ => x_f_sR hR2 j) (fun q hq => rfl) (fun q hq => x_u_ne hq) (fun q hq => rfl) hdg hP hS hl ho kk
  · rw [if_neg hx] at ho; cases ho
end HEAP
