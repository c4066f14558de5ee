/-! ===== switches, statics, constants, Math, returns, calls, a method's entry ===== -/
def x_swo {β : Type} : List Int32 → List β → β → Int32 → β
  | v :: vs, k :: ks, d, x => if x = v then k else x_swo vs ks d x
  | _, _, d, _ => d
def x_swP {β : Type} (P : Nat → β → Prop) : List (Int32 × Nat) → List β → Prop
  | [], [] => True
  | q :: r, k :: ks => P q.2 k ∧ x_swP P r ks
  | _, _ => False
def x_swt : List (Int32 × Nat) → Nat → Int32 → Nat
  | [], d, _ => d
  | q :: r, d, x => if x = q.1 then q.2 else x_swt r d x
theorem x_sw_go {β : Type} {P : Nat → β → Prop} {Kd : β} {td : Nat} {x : Int32} (hd : P td Kd) : ∀ (tags : List (Int32 × Nat)) (ks : List β), x_swP P tags ks → P (x_swt tags td x) (x_swo (tags.map (·.1)) ks Kd x)
  | [], [], _ => hd
  | q :: r, k :: ks, h => by
    show P (if x = q.1 then q.2 else x_swt r td x) (if x = q.1 then k else x_swo (r.map (·.1)) ks Kd x)
    by_cases hx : x = q.1
    · rw [if_pos hx, if_pos hx]; exact h.1
    · rw [if_neg hx, if_neg hx]; exact x_sw_go hd r ks h.2
  | [], _ :: _, h => h.elim
  | _ :: _, [], h => h.elim
def x_lkchk (pc : Nat) (dflt : Int) (ps : List (Int × Int)) (tags : List (Int32 × Nat)) (td : Nat) : Bool :=
  decide ((pc : Int) + dflt = td) && decide (ps = tags.map (fun q => (q.1.toInt, (q.2 : Int) - pc)))
theorem x_lk_ok {pc : Nat} {dflt : Int} {td : Nat} (x : Int32) (hd : (pc : Int) + dflt = td) : ∀ tags : List (Int32 × Nat), (pc : Int) + Op.lookupswitch.offset (tags.map (fun q => (q.1.toInt, (q.2 : Int) - pc))) dflt x.toInt = (x_swt tags td x : Nat)
  | [] => hd
  | q :: r => by
    show (pc : Int) + Op.lookupswitch.offset ((q.1.toInt, (q.2 : Int) - pc) :: r.map _) dflt x.toInt = ((if x = q.1 then q.2 else x_swt r td x : Nat) : Int)
    by_cases hx : x = q.1
    · rw [if_pos hx, Op.lookupswitch.offset_cons, if_pos (by rw [hx])]; omega
    · rw [if_neg hx, lv_osw hx rfl]; exact x_lk_ok x hd r
def x_tabchk (pc : Nat) (dflt lo hi : Int) (offs : Array Int) (tags : List (Int32 × Nat)) (td : Nat) : Bool :=
  decide ((pc : Int) + dflt = td) && decide (tags.length = offs.size) && decide (hi = lo + offs.size - 1) && (List.range offs.size).all (fun j => decide ((tags.map (fun q => q.1.toInt))[j]? = some (lo + j)) && decide ((tags.map (fun q => (q.2 : Int) - pc))[j]? = offs[j]?))
theorem x_swt_out {td : Nat} {x : Int32} : ∀ tags : List (Int32 × Nat), (∀ q ∈ tags, x ≠ q.1) → x_swt tags td x = td
  | [], _ => rfl
  | q :: r, h => by
    show (if x = q.1 then q.2 else x_swt r td x) = td
    rw [if_neg (h q List.mem_cons_self)]
    exact x_swt_out r (fun q hq => h q (List.mem_cons_of_mem _ hq))
theorem x_swt_in {td : Nat} {x : Int32} : ∀ (tags : List (Int32 × Nat)) (j : Nat) (q : Int32 × Nat), tags[j]? = some q → x = q.1 → (∀ i, i < j → ∀ w, tags[i]? = some w → x ≠ w.1) → x_swt tags td x = q.2
  | [], j, q, h, _, _ => by simp at h
  | w :: r, 0, q, h, hx, _ => by
    have : w = q := by simpa using h
    subst this
    exact if_pos hx
  | w :: r, j + 1, q, h, hx, hn => by
    show (if x = w.1 then w.2 else x_swt r td x) = q.2
    rw [if_neg (hn 0 (by omega) w rfl)]
    exact x_swt_in r j q (by simpa using h) hx (fun i hi u hu => hn (i + 1) (by omega) u (by simpa using hu))
section ENDS
variable {τ α β : Type} {X : x_X} {Z : x_Zs} {I : τ → Heap → Prop} {A : Nat → Prop} {Q : α → τ → State → Prop} {p : Program} {l : Launch} {e : Env} {R : Room} {s : State} {m : MethodId} {args : Array Value} {below : List Frame} {meth : Method} {c : Code} {cc : ByteArray} {own : String} {nL cs sl n : Nat} {pc : Nat} {lv lv' : List (Nat × x_V)} {st : List x_V} {μ : τ} {o : Option (α × τ)}
theorem s_lookup (hC : x_C X Z p R s m c cc own nL cs sl n) {dflt : Int} {ps : Array (Int × Int)} {len : Nat} {x : Int32} {ks : List (Option (α × τ))} {Kd : Option (α × τ)} (hdg : decode cc pc = .ok (.lookupswitch dflt ps, len)) (hp : (ps.toList.zip (ps.toList.drop 1)).all (fun (a, next) => a.1 < next.1) = true) (tags : List (Int32 × Nat)) (td : Nat) (hchk : x_lkchk pc dflt ps.toList tags td = true)
    (h : x_swP (fun t K => Sm X I A Q p l e R s m args below meth c nL cs sl t lv st μ K) tags ks) (hd : Sm X I A Q p l e R s m args below meth c nL cs sl td lv st μ Kd) : Sm X I A Q p l e R s m args below meth c nL cs sl pc lv (vI x :: st) μ (x_swo (tags.map (·.1)) ks Kd x) := by
  simp only [x_lkchk, Bool.and_eq_true, decide_eq_true_eq] at hchk
  have k := x_sw_go (x := x) hd tags ks h
  intro H locs ls hP hS hl r μ1 ho
  exact lv_lookup hC.1 hC.2.1 hdg hp rfl (by rw [hchk.2]; exact x_lk_ok x hchk.1 tags) (k H locs ls hP hS hl r μ1 ho)
theorem s_table (hC : x_C X Z p R s m c cc own nL cs sl n) {dflt lo hi : Int} {offs : Array Int} {len : Nat} {x : Int32} {ks : List (Option (α × τ))} {Kd : Option (α × τ)} (hdg : decode cc pc = .ok (.tableswitch dflt lo hi offs, len)) (tags : List (Int32 × Nat)) (td : Nat) (hchk : x_tabchk pc dflt lo hi offs tags td = true)
    (h : x_swP (fun t K => Sm X I A Q p l e R s m args below meth c nL cs sl t lv st μ K) tags ks) (hd : Sm X I A Q p l e R s m args below meth c nL cs sl td lv st μ Kd) : Sm X I A Q p l e R s m args below meth c nL cs sl pc lv (vI x :: st) μ (x_swo (tags.map (·.1)) ks Kd x) := by
  simp only [x_tabchk, Bool.and_eq_true, decide_eq_true_eq, List.all_eq_true, List.mem_range] at hchk
  obtain ⟨⟨⟨h1, h2⟩, h3⟩, h4⟩ := hchk
  have k := x_sw_go (x := x) hd tags ks h
  have tagj : ∀ (j : Nat) (w : Int32 × Nat), tags[j]? = some w → w.1.toInt = lo + j ∧ offs[j]? = some ((w.2 : Int) - pc) := by
    intro j w hw
    have hj : j < offs.size := by rw [← h2]; exact (List.getElem?_eq_some_iff.mp hw).1
    obtain ⟨a, b⟩ := h4 j hj
    rw [List.getElem?_map, hw] at a b
    exact ⟨Option.some.inj a, b.symm⟩
  intro H locs ls hP hS hl r μ1 ho
  by_cases hx : x.toInt < lo ∨ hi < x.toInt
  · have e1 : x_swt tags td x = td := by
      refine x_swt_out tags (fun q hq hxq => ?_)
      obtain ⟨j, hj⟩ := List.getElem?_of_mem hq
      have hl2 := (List.getElem?_eq_some_iff.mp hj).1
      have := (tagj j q hj).1
      rw [hxq] at hx
      omega
    rw [e1] at k
    exact lv_tableOut hC.1 hC.2.1 hdg hx h1 (k H locs ls hP hS hl r μ1 ho)
  · have hj : (x.toInt - lo).toNat < tags.length := by omega
    have hq : tags[(x.toInt - lo).toNat]? = some tags[(x.toInt - lo).toNat] := List.getElem?_eq_getElem hj
    generalize tags[(x.toInt - lo).toNat] = q at hq
    obtain ⟨a, b⟩ := tagj _ q hq
    have e1 : x_swt tags td x = q.2 := by
      refine x_swt_in tags _ q hq (Int32.toInt_inj.mp (by omega)) (fun i hi w hw hxw => ?_)
      have := (tagj i w hw).1
      rw [hxw] at hi
      omega
    rw [e1] at k
    exact lv_tableIn hC.1 hC.2.1 hdg (by omega) (by omega) b (by omega) (k H locs ls hP hS hl r μ1 ho)
theorem s_ldc (hC : x_C X Z p R s m c cc own nL cs sl n) {idx : Nat} {v : Int32} (hdg : decode cc pc = .ok (.ldc idx, 2)) (hk : x_in (.constant own idx v)) (k : Sm X I A Q p l e R s m args below meth c nL cs sl (pc + 2) lv (vI v :: st) μ o) : Sm X I A Q p l e R s m args below meth c nL cs sl pc lv st μ o :=
  fun H locs ls hP hS hl r μ1 ho => lv_ldc hC.1 hC.2.1 hC.2.2.2.1 (hC.2.2.2.2.1.2.2.at hk args) hdg (k H locs ls hP hS hl r μ1 ho)
theorem s_ldc2 (hC : x_C X Z p R s m c cc own nL cs sl n) {idx : Nat} {v : Int64} (hdg : decode cc pc = .ok (.ldc2_w idx, 3)) (hk : x_in (.constantLong own idx v)) (k : Sm X I A Q p l e R s m args below meth c nL cs sl (pc + 3) lv (vJ v :: st) μ o) : Sm X I A Q p l e R s m args below meth c nL cs sl pc lv st μ o :=
  fun H locs ls hP hS hl r μ1 ho => lv_ldc2 hC.1 hC.2.1 hC.2.2.2.1 (hC.2.2.2.2.1.2.2.at hk args) hdg (k H locs ls hP hS hl r μ1 ho)
theorem s_ldcS (hC : x_C X Z p R s m c cc own nL cs sl n) {idx id : Nat} {tx : String} (hdg : decode cc pc = .ok (.ldc idx, 2)) (hk : (own, idx, tx, id) ∈ Z.2.2) (h0 : id ≠ 0) (k : Sm X I A Q p l e R s m args below meth c nL cs sl (pc + 2) lv (vR id :: st) μ o) : Sm X I A Q p l e R s m args below meth c nL cs sl pc lv st μ o := by
  intro H locs ls hP hS hl r μ1 ho
  have h2 := k H locs ls hP hS hl r μ1 ho
  have h2 : W p l e R s m args below meth c H locs cs sl (Q r μ1) (F0 m (pc + 2) ls (x_rv X id :: x_st X st)) := h2
  rw [x_rv_n X h0] at h2
  exact va_ldcS hC.1 hC.2.1 hC.2.2.2.1 (hC.2.2.2.2.1.2.1.2 _ hk) hdg h2
theorem s_max (hC : x_C X Z p R s m c cc own nL cs sl n) {idx : Nat} {x y : Int32} (hdg : decode cc pc = .ok (.invokestatic idx, 3)) (hl1 : x_in (.methodLink own idx Lib.Math.max.name)) (hl2 : x_in (.static Lib.Math.max.name)) (hl3 : x_in (.initialized "java/lang/Math")) (hl4 : x_in (.code Lib.Math.max.name Lib.Math.max.code 2 (some .int))) (hn : 1 ≤ n) (hst : (st.map x_cat).sum ≤ 51) (k : Sm X I A Q p l e R s m args below meth c nL cs sl (pc + 3) lv (vI (if x < y then y else x) :: st) μ o) : Sm X I A Q p l e R s m args below meth c nL cs sl pc lv (vI y :: vI x :: st) μ o := by
  intro H locs ls hP hS hl r μ1 ho
  have hw := fun {w} h => hC.2.2.2.2.1.2.2.at (w := w) h args
  obtain ⟨-, -, hml, -, -, -, r1, r2, r3, r4⟩ := id hC
  exact va_mmax hC.1 hC.2.1 (hml.trans hl.1.symm) hC.2.2.2.1 (hw hl1) (hw hl2) (hw hl3) (hw hl4) (by omega) (by rw [x_st_sum]; omega) r3 r4 hdg (k H locs ls hP hS hl r μ1 ho)
theorem s_min (hC : x_C X Z p R s m c cc own nL cs sl n) {idx : Nat} {x y : Int32} (hdg : decode cc pc = .ok (.invokestatic idx, 3)) (hl1 : x_in (.methodLink own idx Lib.Math.min.name)) (hl2 : x_in (.static Lib.Math.min.name)) (hl3 : x_in (.initialized "java/lang/Math")) (hl4 : x_in (.code Lib.Math.min.name Lib.Math.min.code 2 (some .int))) (hn : 1 ≤ n) (hst : (st.map x_cat).sum ≤ 51) (k : Sm X I A Q p l e R s m args below meth c nL cs sl (pc + 3) lv (vI (if y < x then y else x) :: st) μ o) : Sm X I A Q p l e R s m args below meth c nL cs sl pc lv (vI y :: vI x :: st) μ o := by
  intro H locs ls hP hS hl r μ1 ho
  have hw := fun {w} h => hC.2.2.2.2.1.2.2.at (w := w) h args
  obtain ⟨-, -, hml, -, -, -, r1, r2, r3, r4⟩ := id hC
  exact va_mmin hC.1 hC.2.1 (hml.trans hl.1.symm) hC.2.2.2.1 (hw hl1) (hw hl2) (hw hl3) (hw hl4) (by omega) (by rw [x_st_sum]; omega) r3 r4 hdg (k H locs ls hP hS hl r μ1 ho)
end ENDS
def rkI (r : Int32) : List x_V := [vI r]
def rkJ (r : Int64) : List x_V := [vJ r]
def rkR (r : Nat) : List x_V := [vR r]
def rkV (_ : Unit) : List x_V := []
def x_Q {β : Type} (X : x_X) (rk : β → List x_V) (r : β) (μ : x_M) : Array Value → State → Outcome → State → Prop := fun _ st oc t =>
  oc = .returned (((rk r).map (x_v X)).head?) ∧ x_P X μ t t.heap ∧ va_F (x_A X) st t
/-- a method's contract: it does what o says -/
def x_Met {β : Type} (X : x_X) (Z : x_Zs) (l : Launch) (y : MethodName) (cc : ByteArray) (maxL : Nat) (ret : Option FieldType) (n : Nat) (avs : List x_V) (μ : x_M) (rk : β → List x_V) (o : Option (β × x_M)) : Prop :=
  ∀ (r : β) (μ' : x_M), o = some (r, μ') → Met l y [.code y cc maxL ret] (x_rm n) (va_Pc (avs.map (x_v X)) (x_H X Z μ)) (x_Q X rk r μ') 0 0 (x_A X)
/-- what Q is in a method -/
abbrev x_MQ {β : Type} (X : x_X) (rk : β → List x_V) (args : Array Value) (s : State) (below : List Frame) : β → x_M → State → Prop := fun r μ' => MQ below (x_Q X rk r μ') args s 0 0 (x_A X)
section CALL
variable {α β : Type} {X : x_X} {Z : x_Zs} {A : Nat → Prop} {Q : α → x_M → State → Prop} {p : Program} {l : Launch} {e : Env} {R : Room} {s : State} {m : MethodId} {args : Array Value} {below : List Frame} {meth : Method} {c : Code} {cc : ByteArray} {own : String} {nL cs sl n : Nat} {pc : Nat} {lv lv' : List (Nat × x_V)} {st : List x_V} {μ : x_M} {o : Option (α × x_M)}
theorem s_gets (hC : x_C X Z p R s m c cc own nL cs sl n) {idx id : Nat} {C nm d : String} {nest : Bool} (hdg : decode cc pc = .ok (.getstatic idx, 3)) (hz : (C, nm, d, id) ∈ Z.1) (hl : x_in (match nest with | true => Cond.fieldLinkNest own idx C nm d "LakeBooks" | false => Cond.fieldLink own idx C nm d)) (k : Sm X (x_PI X s) (x_A X) Q p l e R s m args below meth c nL cs sl (pc + 3) lv (vR id :: st) μ o) : Sm X (x_PI X s) (x_A X) Q p l e R s m args below meth c nL cs sl pc lv st μ o := by
  intro H locs ls hP hS hl' r μ1 ho
  have hw := hC.2.2.2.2.1.2.2.at hl args
  have hZ := hC.2.2.2.2.1.2.1.1.1 _ hz
  cases nest with
  | true => exact va_getsN hC.1 hC.2.1 hZ hS hC.2.2.2.1 hw (fun _ h => h) hdg (k H locs ls hP hS hl' r μ1 ho)
  | false => exact va_gets hC.1 hC.2.1 hZ hS hC.2.2.2.1 hw (fun _ h => h) hdg (k H locs ls hP hS hl' r μ1 ho)
theorem s_getsI (hC : x_C X Z p R s m c cc own nL cs sl n) {idx : Nat} {v : Int32} {C nm d : String} (hdg : decode cc pc = .ok (.getstatic idx, 3)) (hz : (C, nm, d, v) ∈ Z.2.1) (hl : x_in (.fieldLink own idx C nm d)) (k : Sm X (x_PI X s) (x_A X) Q p l e R s m args below meth c nL cs sl (pc + 3) lv (vI v :: st) μ o) : Sm X (x_PI X s) (x_A X) Q p l e R s m args below meth c nL cs sl pc lv st μ o := by
  intro H locs ls hP hS hl' r μ1 ho
  exact va_gets hC.1 hC.2.1 (hC.2.2.2.2.1.2.1.1.2.1 _ hz) hS hC.2.2.2.1 (hC.2.2.2.2.1.2.2.at hl args) (fun _ h => h) hdg (k H locs ls hP hS hl' r μ1 ho)
/-- the static that is a reference or null -/
theorem s_getsQ (hC : x_C X Z p R s m c cc own nL cs sl n) {idx : Nat} (hdg : decode cc pc = .ok (.getstatic idx, 3)) (hl : x_in (Cond.fieldLink own idx "jdk/internal/util/Preconditions" "SIOOBE_FORMATTER" "Ljava/util/function/BiFunction;")) (k1 : Sm X (x_PI X s) (x_A X) Q p l e R s m args below meth c nL cs sl (pc + 3) lv (vR 0 :: st) μ o) (k2 : Sm X (x_PI X s) (x_A X) Q p l e R s m args below meth c nL cs sl (pc + 3) lv (vR 803 :: st) μ o) : Sm X (x_PI X s) (x_A X) Q p l e R s m args below meth c nL cs sl pc lv st μ o := by
  intro H locs ls hP hS hl' r μ1 ho
  rcases hC.2.2.2.2.1.2.1.1.2.2 with hz | hz
  · exact va_gets hC.1 hC.2.1 hz hS hC.2.2.2.1 (hC.2.2.2.2.1.2.2.at hl args) (fun _ h => h) hdg (k1 H locs ls hP hS hl' r μ1 ho)
  · exact va_gets hC.1 hC.2.1 hz hS hC.2.2.2.1 (hC.2.2.2.2.1.2.2.at hl args) (fun _ h => h) hdg (k2 H locs ls hP hS hl' r μ1 ho)
/-- behind a call -/
theorem x_back {β : Type} {rk : β → List x_V} {r : β} {μ2 : x_M} {a : Array Value} {H : Heap} {locs : List Loc} {ls : Array Slot} {st0 : List Value} {Q2 : State → Prop} (hr : va_Run p l e R s m args below meth c H locs cs sl 0 0 (F0 m pc ls st0) (x_st X st) (x_Q X rk r μ2 a) (x_A X)) (hlen : (rk r).length ≤ 1) (hS : va_S (x_A X) s.heap H locs)
    (kk : ∀ (H1 : Heap) (locs1 : List Loc), x_P X μ2 s H1 → va_S (x_A X) s.heap H1 locs1 → W p l e R s m args below meth c H1 locs1 cs sl Q2 (F0 m (pc + 3) ls (x_st X (rk r ++ st)))) : W p l e R s m args below meth c H locs cs sl Q2 (F0 m pc ls st0) := by
  intro T hT X'
  obtain ⟨v, st₀, t, T', L, h0, X2, hL, e1, e2, ⟨hv, hp, hz, hk⟩, stp⟩ := hr T hT X'
  rw [h0] at hz hk
  have hv' : v = ((rk r).map (x_v X)).head? := Outcome.returned.inj hv
  have al : s.vm.Alike t.vm := by rw [← e2]; exact X2.warmed.alike
  have k2 := kk T'.heap (locs ++ L) (by rw [e1]; exact hp.moved al.symm) ⟨Nat.le_trans hS.1 (by rw [e1]; exact hz), fun q h1 h2 => by rw [e1, hk q (Nat.lt_of_lt_of_le h1 hS.1) h2]; exact hS.2.1 q h1 h2, fun q hq => by
    rcases List.mem_append.mp hq with h | h
    · exact hS.2.2 q h
    · exact hL q h⟩ T' rfl X2
  obtain ⟨t2, a1, b1⟩ := k2
  refine ⟨t2, stp t2 ?_, b1⟩
  have hst : v.toList ++ x_st X st = x_st X (rk r ++ st) := by
    subst hv'
    match h : rk r, hlen with
    | [], _ => simp
    | [q], _ => simp
  rw [hst]
  exact a1
theorem x_pre {H : Heap} {locs : List Loc} {avs : List x_V} (hE : x_E X Z s s.heap) (hP : x_P X μ s H) (hS : va_S (x_A X) s.heap H locs) : ∀ U : State, U.heap = H → s.WarmedH U.vm → va_Pc (avs.map (x_v X)) (x_H X Z μ) (avs.map (x_v X)).toArray U :=
  fun U hU hW => ⟨rfl, by rw [hU]; exact hE.go hW (fun a h1 h2 => hS.2.1 a h1 h2), by rw [hU]; exact hP.moved hW.alike⟩
theorem x_word {y : MethodName} {cz : ByteArray} {mz : Nat} {retz : Option FieldType} (hE : x_E X Z s s.heap) (hcd : x_in (.code y cz mz retz)) : ∀ w ∈ [Cond.code y cz mz retz], ∀ (a' : Array Value) (U : State), s.WarmedH U.vm → w.before a' U = true := by
  intro w hw a' U hW
  rw [List.mem_singleton.mp hw]
  exact (hE.2.2.warm hW).at hcd a'
/-- a static method, of any class; nest: a private one of a nest mate -/
theorem s_callS {rk : β → List x_V} {K : β → x_M → Option (α × x_M)} (hC : x_C X Z p R s m c cc own nL cs sl n) {idx k mz : Nat} {y : MethodName} {cz : ByteArray} {retz : Option FieldType} {avs : List x_V} {oz : Option (β × x_M)} {nest : Bool} (hM : x_Met X Z l y cz mz retz k avs μ rk oz) (hdg : decode cc pc = .ok (.invokestatic idx, 3))
    (hl1 : x_in (match nest with | true => Cond.methodLinkNest own idx y "LakeBooks" | false => Cond.methodLink own idx y)) (hl2 : x_in (.static y)) (hl3 : x_in (.initialized y.cls)) (hl4 : x_in (.code y cz mz retz)) (hd : y.cls ≠ "java/lang/invoke/MethodHandle" ∧ y.cls ≠ "java/lang/invoke/VarHandle" ∧ (parseMethodDescriptor y.desc).map (fun d => d.parameters.length) = some avs.length) (hk : k + 1 ≤ n ∧ mz ≤ 45) (hrk : ∀ r : β, (rk r).length ≤ 1) (hst : (st.map x_cat).sum ≤ 8)
    (kk : ∀ (r : β) (μ1 : x_M), Sm X (x_PI X s) (x_A X) Q p l e R s m args below meth c nL cs sl (pc + 3) lv (rk r ++ st) μ1 (K r μ1)) : Sm X (x_PI X s) (x_A X) Q p l e R s m args below meth c nL cs sl pc lv (avs.reverse ++ st) μ (bd oz K) := by
  intro H locs ls hP hS hl r μ1 ho
  cases hoz : oz with
  | none => rw [hoz] at ho; cases ho
  | some q =>
    obtain ⟨rz, μz⟩ := q
    rw [hoz] at ho
    obtain ⟨hx, hb, hml, hown, hE, hI, r1, r2, r3, r4⟩ := id hC
    have hw := fun {w} h => hE.2.2.at (w := w) h args
    have hrun : va_Run p l e R s m args below meth c H locs cs sl 0 0 (F0 m pc ls (x_st X (avs.reverse ++ st))) (x_st X st) (x_Q X rk rz μz (avs.map (x_v X)).toArray) (x_A X) := by
      have hlen : ∀ sig, parseMethodDescriptor y.desc = some sig → avs.length = sig.parameters.length := by
        intro sig h
        have h2 := hd.2.2
        rw [h] at h2
        exact (Option.some.inj h2).symm
      cases nest with
      | true => exact va_runSN (Ts := []) (n := avs.length) ⟨hx, hb, hml, hown, fun w h => by cases h⟩ (hM rz μz hoz) ⟨⟨⟨rfl, rfl, by show k + 1 ≤ R.frames; omega, by show 8 + (mz + 11) + 64 * k ≤ R.locals; omega, x_word hE hl4, List.mem_cons_self⟩, hw hl4, hw hl3, ⟨hd.1, hd.2.1⟩, hlen, hw hl1⟩, hw hl2, trivial⟩ ⟨x_H.blind, x_pre hE hP hS⟩ rfl (by simp) hl.1 (by simp [x_st]) (by rw [show 2 * (F0 m pc ls (x_st X (avs.reverse ++ st))).monitorRoom = 0 from rfl, x_st_sum]; omega) hdg ⟨r3, r4⟩
      | false => exact va_runS (Ts := []) (n := avs.length) ⟨hx, hb, hml, hown, fun w h => by cases h⟩ (hM rz μz hoz) ⟨⟨rfl, rfl, by show k + 1 ≤ R.frames; omega, by show 8 + (mz + 11) + 64 * k ≤ R.locals; omega, x_word hE hl4, List.mem_cons_self, hw hl4, hw hl3, ⟨hd.1, hd.2.1⟩, hlen, hw hl1⟩, hw hl2⟩ ⟨x_H.blind, x_pre hE hP hS⟩ rfl (by simp) hl.1 (by simp [x_st]) (by rw [show 2 * (F0 m pc ls (x_st X (avs.reverse ++ st))).monitorRoom = 0 from rfl, x_st_sum]; omega) hdg ⟨r3, r4⟩
    exact x_back hrun (hrk rz) hS (fun H1 locs1 hP1 hS1 => kk rz μz H1 locs1 ls hP1 hS1 hl r μ1 ho)
/-- an instance method of a class of ours -/
theorem s_callV {rk : β → List x_V} {K : β → x_M → Option (α × x_M)} (hC : x_C X Z p R s m c cc own nL cs sl n) {idx k mz ci N x : Nat} {C : String} {T : u_T} {y : MethodName} {cz : ByteArray} {retz : Option FieldType} {avs : List x_V} {oz : Option (β × x_M)} {nest : Bool} (hcl : x_Cls ci C T N) (hM : x_Met X Z l y cz mz retz k (vR x :: avs) μ rk oz) (hdg : decode cc pc = .ok (.invokevirtual idx, 3))
    (hl1 : x_in (match nest with | true => Cond.methodLinkNest own idx y "LakeBooks" | false => Cond.methodLink own idx y)) (hl2 : x_in (.instanceMethod y)) (hl5 : x_in (.selects C y y)) (hl3 : x_in (.initialized y.cls)) (hl4 : x_in (.code y cz mz retz)) (hd : y.cls ≠ "java/lang/invoke/MethodHandle" ∧ y.cls ≠ "java/lang/invoke/VarHandle" ∧ (parseMethodDescriptor y.desc).map (fun d => d.parameters.length) = some avs.length) (hk : k + 1 ≤ n ∧ mz ≤ 45) (hrk : ∀ r : β, (rk r).length ≤ 1) (hst : (st.map x_cat).sum ≤ 8)
    (kk : ∀ (r : β) (μ1 : x_M), Sm X (x_PI X s) (x_A X) Q p l e R s m args below meth c nL cs sl (pc + 3) lv (rk r ++ st) μ1 (K r μ1)) : Sm X (x_PI X s) (x_A X) Q p l e R s m args below meth c nL cs sl pc lv (avs.reverse ++ vR x :: st) μ (ck (x_kd X x = ci + 1) (bd oz K)) := by
  intro H locs ls hP hS hl r μ1 ho
  unfold ck at ho
  by_cases hx0 : x_kd X x = ci + 1
  · rw [if_pos hx0] at ho
    cases hoz : oz with
    | none => rw [hoz] at ho; cases ho
    | some q =>
      obtain ⟨rz, μz⟩ := q
      rw [hoz] at ho
      obtain ⟨hx, hb, hml, hown, hE, hI, r1, r2, r3, r4⟩ := id hC
      have hw := fun {w} h => hE.2.2.at (w := w) h args
      have h0 : x ≠ 0 := fun z => by rw [z, hI.1] at hx0; omega
      obtain ⟨cell, cC, kC, q1, q2, q3, q4, q5, hfc, -⟩ := x_obj (args := args) hE hP hcl hx0
      have hM' : Met l y [.code y cz mz retz] (x_rm k) (va_Pc (((vR x :: avs).map (x_v X))) (x_H X Z μ)) (x_Q X rk rz μz) 0 0 (x_A X) := hM rz μz hoz
      have eA : (vR x :: avs).map (x_v X) = Value.ref (x_ad X x) :: avs.map (x_v X) := by
        show x_rv X x :: avs.map (x_v X) = _
        rw [x_rv_n X h0]
      have hpre : ∀ U : State, U.heap = H → s.WarmedH U.vm → va_Pc ((vR x :: avs).map (x_v X)) (x_H X Z μ) (Value.ref (x_ad X x) :: avs.map (x_v X)).toArray U := by
        rw [← eA]; exact x_pre hE hP hS
      have est : x_st X (avs.reverse ++ vR x :: st) = (avs.map (x_v X)).reverse ++ .ref (x_ad X x) :: x_st X st := by
        have : x_v X (vR x) = .ref (x_ad X x) := x_rv_n X h0
        simp [x_st, this]
      have hlen : ∀ sig, parseMethodDescriptor y.desc = some sig → avs.length = sig.parameters.length := by
        intro sig h
        have h2 := hd.2.2
        rw [h] at h2
        exact (Option.some.inj h2).symm
      have hrun : va_Run p l e R s m args below meth c H locs cs sl 0 0 (F0 m pc ls (x_st X (avs.reverse ++ vR x :: st))) (x_st X st) (x_Q X rk rz μz (Value.ref (x_ad X x) :: avs.map (x_v X)).toArray) (x_A X) := by
        cases nest with
        | true => exact va_runVN (C := C) (Ts := []) (n := avs.length) ⟨hx, hb, hml, hown, fun w h => by cases h⟩ hM' ⟨⟨⟨rfl, rfl, by show k + 1 ≤ R.frames; omega, by show 8 + (mz + 11) + 64 * k ≤ R.locals; omega, x_word hE hl4, List.mem_cons_self⟩, hw hl4, hw hl3, ⟨hd.1, hd.2.1⟩, hlen, hw hl1⟩, hw hl2, hw hl5⟩ ⟨x_H.blind, ⟨cell, q1, by rw [q3]; rfl, by rw [q2, q5]; exact hfc⟩, hpre⟩ rfl (by simp) hl.1 est (by rw [show 2 * (F0 m pc ls (x_st X (avs.reverse ++ vR x :: st))).monitorRoom = 0 from rfl, x_st_sum]; omega) hdg ⟨r3, r4⟩
        | false => exact va_runV (C := C) (Ts := []) (n := avs.length) ⟨hx, hb, hml, hown, fun w h => by cases h⟩ hM' ⟨⟨rfl, rfl, by show k + 1 ≤ R.frames; omega, by show 8 + (mz + 11) + 64 * k ≤ R.locals; omega, x_word hE hl4, List.mem_cons_self, hw hl4, hw hl3, ⟨hd.1, hd.2.1⟩, hlen, hw hl1⟩, hw hl2, hw hl5⟩ ⟨x_H.blind, ⟨cell, q1, by rw [q3]; rfl, by rw [q2, q5]; exact hfc⟩, hpre⟩ rfl (by simp) hl.1 est (by rw [show 2 * (F0 m pc ls (x_st X (avs.reverse ++ vR x :: st))).monitorRoom = 0 from rfl, x_st_sum]; omega) hdg ⟨r3, r4⟩
      exact x_back hrun (hrk rz) hS (fun H1 locs1 hP1 hS1 => kk rz μz H1 locs1 ls hP1 hS1 hl r μ1 ho)
  · rw [if_neg hx0] at ho; cases ho
end CALL
