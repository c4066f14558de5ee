/-! ===== a world that grows: constructors. ix: the place of an id in the order of making, from 1 on; what is static has 0 ===== -/
def x_stg (X : x_X) (ix : Nat → Nat) (k : Nat) : x_X := (fun o => if ix o < k then X.1 o else 0, X.2)
def x_PJ (X : x_X) (ix : Nat → Nat) (h0 k : Nat) (s : State) : x_M → Heap → Prop := fun μ H => x_P (x_stg X ix k) μ s H ∧ H.size + 1 = h0 + k
/-- what the ids and addresses are -/
def x_R (X : x_X) (ix : Nat → Nat) (h0 hA : Nat) : Prop := X.1 0 = 0 ∧ (∀ o, 0 < X.1 o → X.1 o < 40 → x_ad X o + 1 = h0 + ix o ∧ hA ≤ x_ad X o) ∧ (∀ o p, 0 < X.1 o → X.1 o < 40 → 0 < X.1 p → X.1 p < 40 → ix o = ix p → o = p) ∧ ∀ o, 40 ≤ X.1 o → ix o = 0 ∧ x_ad X o < hA
theorem x_stg_kd {X : x_X} {ix : Nat → Nat} {k o : Nat} (h : ix o < k) : x_kd (x_stg X ix k) o = X.1 o := if_pos h
theorem x_stg_0 {X : x_X} {ix : Nat → Nat} {k o : Nat} (h : ¬ ix o < k) : x_kd (x_stg X ix k) o = 0 := if_neg h
theorem x_stg_pos {X : x_X} {ix : Nat → Nat} {k o : Nat} (h : 0 < x_kd (x_stg X ix k) o) : ix o < k := by
  rcases Nat.lt_or_ge (ix o) k with q | q
  · exact q
  · rw [x_stg_0 (by omega)] at h; omega
theorem x_R.inj {X : x_X} {ix : Nat → Nat} {h0 hA k : Nat} (hR : x_R X ix h0 hA) : x_I (x_stg X ix k) := by
  refine ⟨?_, fun o p h1 h2 h3 h4 e => ?_⟩
  · show (if ix 0 < k then X.1 0 else 0) = 0
    rw [hR.1]; simp
  · have io := x_stg_pos h1
    have ip := x_stg_pos h3
    rw [x_stg_kd io] at h1 h2
    rw [x_stg_kd ip] at h3 h4
    have a := (hR.2.1 o h1 h2).1
    have b := (hR.2.1 p h3 h4).1
    have e : x_ad X o = x_ad X p := e
    exact hR.2.2.1 o p h1 h2 h3 h4 (by omega)
theorem va_T.re {ty : FieldType} {t N : Nat} {f : Nat → Value} {A B : Nat → Prop} {U : State} {H H1 : Heap} (h : va_T ty t N f A U H) (e : H1[t]? = H[t]?) (hB : ¬ B t) : va_T ty t N f B U H1 := by
  obtain ⟨cell, h1, h2, h3, h4, h5, h6, h7⟩ := h
  exact ⟨cell, by rw [e]; exact h1, h2, h3, h4, h5, h6, hB⟩
theorem va_T.lt {ty : FieldType} {t N : Nat} {f : Nat → Value} {A : Nat → Prop} {U : State} {H : Heap} (h : va_T ty t N f A U H) : t < H.size := by
  obtain ⟨cell, h1, -⟩ := h
  exact (Array.getElem?_eq_some_iff.mp h1).1
theorem va_O.re {E : String} {t : Nat} {A B : Nat → Prop} {U : State} {H H1 : Heap} (h : va_O E t A U H) (e : H1[t]? = H[t]?) (hB : ¬ B t) : va_O E t B U H1 := by
  obtain ⟨cell, h1, h2, h3, h4⟩ := h
  exact ⟨cell, by rw [e]; exact h1, h2, h3, hB⟩
theorem va_O.lt {E : String} {t : Nat} {A : Nat → Prop} {U : State} {H : Heap} (h : va_O E t A U H) : t < H.size := by
  obtain ⟨cell, h1, -⟩ := h
  exact (Array.getElem?_eq_some_iff.mp h1).1
theorem va_OF.re {o n d : String} {v : Value} {t : Nat} {A B : Nat → Prop} {U : State} {H H1 : Heap} (h : va_OF o n d v t A U H) (e : H1[t]? = H[t]?) (hB : ¬ B t) : va_OF o n d v t B U H1 := by
  obtain ⟨cf, k, i, f, cell, h1, h2, h3, h4, h5, h6⟩ := h
  exact ⟨cf, k, i, f, cell, h1, h2, by rw [e]; exact h3, h4, h5, hB⟩
/-- the same cells in another heap, the same kind, for another set of writable cells -/
theorem x_at.re {X Y : x_X} {μ μ' : x_M} {U : State} {H H1 : Heap} {o : Nat} (h : x_at X μ U H o) (hk : x_kd Y o = x_kd X o) (h2 : Y.2 = X.2) (e1 : μ'.1 o = μ.1 o) (e2 : μ'.2.1 o = μ.2.1 o) (e3 : μ'.2.2 o = μ.2.2 o)
    (he : x_ad X o < H.size → H1[x_ad X o]? = H[x_ad X o]?) (hA : 40 ≤ x_kd X o → x_ad X o < H.size → ¬ x_A Y (x_ad X o)) : x_at Y μ' U H1 o := by
  obtain ⟨y1, y2⟩ := Y
  obtain ⟨k1, k2⟩ := X
  have h2 : y2 = k2 := h2
  subst h2
  have hk : y1 o = k1 o := hk
  obtain ⟨a1, a2, a3, a4, a5, a6, a7, a8⟩ := h
  have lt : ∀ c : Cell, H[x_ad (k1, y2) o]? = some c → x_ad (k1, y2) o < H.size := fun c hc => (Array.getElem?_eq_some_iff.mp hc).1
  refine ⟨fun z1 z2 => ?_, fun z => ?_, fun z => ?_, fun z => ?_, fun z1 z2 => ?_, fun z => ?_, fun z => ?_, fun z => ?_⟩
  · have z1 : 0 < y1 o := z1
    have z2 : y1 o < 20 := z2
    rw [hk] at z1 z2
    obtain ⟨r, b1, b2⟩ := a1 z1 z2
    have hl : x_ad (k1, y2) o < H.size := by obtain ⟨c, hc, -⟩ := b2; exact lt c hc
    refine ⟨r, by show vwCl[y1 o - 1]? = some r; rw [hk]; exact b1, ?_⟩
    show t_OB (x_ad (k1, y2) o) ((x_D (k1, y2)).1 (y1 o - 1)) r.2.2 ((x_D (k1, y2)).2 (y1 o - 1)) H1 (fun k => x_f (y1, y2) μ' (y1 o - 1) o k)
    rw [hk]
    refine (b2.kept (he hl)).to (fun k _ => ?_)
    unfold x_f
    rw [e1, e2]
    rfl
  · have z : y1 o = 20 := z
    rw [hk] at z
    have b := a2 z
    show H1[x_ad (k1, y2) o]? = some (vp_cell (x_cA (k1, y2) 20) (x_ln (k1, y2) o, .inl (μ'.1 o)))
    rw [he (lt _ b), e1]; exact b
  · have z : y1 o = 21 := z
    rw [hk] at z
    have b := a3 z
    show H1[x_ad (k1, y2) o]? = some (vp_cell (x_cA (k1, y2) 21) (x_ln (k1, y2) o, .inr (.inl (μ'.2.2 o))))
    rw [he (lt _ b), e3]; exact b
  · have z : y1 o = 22 := z
    rw [hk] at z
    have b := a4 z
    show H1[x_ad (k1, y2) o]? = some (vp_cell (x_cA (k1, y2) 22) (x_ln (k1, y2) o, .inl (μ'.1 o)))
    rw [he (lt _ b), e1]; exact b
  · have z1 : 22 < y1 o := z1
    have z2 : y1 o < 40 := z2
    rw [hk] at z1 z2
    have b := a5 z1 z2
    show H1[x_ad (k1, y2) o]? = some (vp_cell (x_cA (k1, y2) (y1 o)) (x_ln (k1, y2) o, .inr (.inr (.inr (.inr (fun i => x_ro (y1, y2) (μ'.2.1 o i)))))))
    rw [he (lt _ b), e2, hk]; exact b
  · have z : y1 o = 40 := z
    rw [hk] at z
    have b := a6 z
    have z' : 40 ≤ k1 o := by omega
    show va_T .int (x_ad (k1, y2) o) (x_ln (k1, y2) o) (fun j => .int (μ'.1 o j)) _ U H1
    rw [e1]; exact b.re (he b.lt) (hA z' b.lt)
  · have z : y1 o = 41 := z
    rw [hk] at z
    have b := a7 z
    have z' : 40 ≤ k1 o := by omega
    show va_T .byte (x_ad (k1, y2) o) (x_ln (k1, y2) o) (fun j => .int (μ'.1 o j)) _ U H1
    rw [e1]; exact b.re (he b.lt) (hA z' b.lt)
  · have z : y1 o = 50 := z
    rw [hk] at z
    have b := a8 z
    have z' : 40 ≤ k1 o := by omega
    have bl := b.1.lt
    show va_O "java/lang/String" (x_ad (k1, y2) o) _ U H1 ∧ va_OF "java/lang/String" "coder" "B" (.int (μ'.1 o 0)) (x_ad (k1, y2) o) _ U H1 ∧ va_OF "java/lang/String" "value" "[B" (x_rv (k1, y2) (μ'.2.1 o 1)) (x_ad (k1, y2) o) _ U H1
    rw [e1, e2]; exact ⟨b.1.re (he bl) (hA z' bl), b.2.1.re (he bl) (hA z' bl), b.2.2.re (he bl) (hA z' bl)⟩
/-- one id more -/
theorem x_P.grow {X : x_X} {ix : Nat → Nat} {h0 hA k o : Nat} {μ : x_M} {U : State} {H H1 : Heap} (hR : x_R X ix h0 hA) (hk0 : 0 < k) (h : x_P (x_stg X ix k) μ U H) (hz : H.size + 1 = h0 + k) (ho : ix o = k) (hko : 0 < X.1 o ∧ X.1 o < 40) (ho1 : ∀ q, q < H.size → H1[q]? = H[q]?) (hat : x_at (x_stg X ix (k + 1)) μ U H1 o) : x_P (x_stg X ix (k + 1)) μ U H1 := by
  intro p
  by_cases hp : p = o
  · subst hp; exact hat
  · have hkd : x_kd (x_stg X ix (k + 1)) p = x_kd (x_stg X ix k) p := by
      show (if ix p < k + 1 then X.1 p else 0) = (if ix p < k then X.1 p else 0)
      by_cases h1 : ix p < k
      · rw [if_pos h1, if_pos (by omega)]
      · rw [if_neg h1]
        by_cases h2 : ix p < k + 1
        · rw [if_pos h2]
          have h3 : ix p = k := by omega
          rcases Nat.eq_zero_or_pos (X.1 p) with z | z
          · exact z
          · rcases Nat.lt_or_ge (X.1 p) 40 with w | w
            · exact absurd (hR.2.2.1 p o z w hko.1 hko.2 (by omega)) hp
            · have := (hR.2.2.2 p w).1; omega
        · rw [if_neg h2]
    refine (h p).re hkd rfl rfl rfl rfl (fun hl => ho1 _ hl) (fun h40 _ => ?_)
    rintro ⟨r, r1, r2, r3⟩
    have ir := x_stg_pos r1
    rw [x_stg_kd ir] at r1 r2
    have ar := (hR.2.1 r r1 r2).2
    have r3 : x_ad X r = x_ad X p := r3
    have h40 : 40 ≤ (if ix p < k then X.1 p else 0) := h40
    by_cases h1 : ix p < k
    · rw [if_pos h1] at h40
      have := (hR.2.2.2 p h40).2
      omega
    · rw [if_neg h1] at h40; omega
theorem arrV_congr {cA : ClassId} {N : Nat} {f g : Nat → Value} (h : ∀ j, j < N → f j = g j) : arrV cA N f = arrV cA N g := by
  unfold arrV
  congr 2
  funext j
  exact h j.val j.isLt
/-- the arrays of references can be made -/
def x_AO (U : State) : Prop := va_AO RX0 U ∧ va_AO RX4 U ∧ va_AO RX8 U
/-- what a constructor finds of the tables -/
def x_EC (X : x_X) (Z : x_Zs) (A : Nat → Prop) (U : State) (H : Heap) : Prop := x_K X U ∧ (((∀ q ∈ Z.1, va_Z q.1 q.2.1 q.2.2.1 (x_rv X q.2.2.2) A U H) ∧ (∀ q ∈ Z.2.1, va_Z q.1 q.2.1 q.2.2.1 (.int q.2.2.2) A U H) ∧ x_SQ X A U H) ∧ x_L X Z U) ∧ x_W U ∧ x_AO U
theorem x_EC.E {X : x_X} {Z : x_Zs} {A : Nat → Prop} {U : State} {H : Heap} (h : x_EC X Z A U H) (hA : ∀ q, x_A X q → A q) : x_E X Z U H :=
  ⟨h.1, ⟨⟨fun q hq => (h.2.1.1.1 q hq).narrow hA, fun q hq => (h.2.1.1.2.1 q hq).narrow hA, h.2.1.1.2.2.imp (fun z => z.narrow hA) (fun z => z.narrow hA)⟩, h.2.1.2⟩, h.2.2.1⟩
theorem x_EC.go {X : x_X} {Z : x_Zs} {A : Nat → Prop} {s U : State} {H H1 : Heap} (hW : s.WarmedH U.vm) (hq : ∀ a : Nat, a < H.size → ¬ A a → H1[a]? = H[a]?) (h : x_EC X Z A s H) : x_EC X Z A U H1 :=
  ⟨va_K.moved hW.alike h.1, ⟨⟨fun q hh => va_Z.kept (va_Z.moved hW.alike (h.2.1.1.1 q hh)) hq, fun q hh => va_Z.kept (va_Z.moved hW.alike (h.2.1.1.2.1 q hh)) hq, h.2.1.1.2.2.go hW.alike hq⟩, fun q hh => vk_R.warm hW (h.2.1.2 q hh)⟩, h.2.2.1.warm hW, h.2.2.2.1.moved hW.alike, h.2.2.2.2.1.moved hW.alike, h.2.2.2.2.2.moved hW.alike⟩
abbrev x_rg (hA : Nat) : Nat → Prop := fun q => hA ≤ q
/-- what stays the same in a constructor's run -/
def x_CC (X : x_X) (Z : x_Zs) (ix : Nat → Nat) (h0 hA : Nat) (p : Program) (R : Room) (s : State) (m : MethodId) (meth : Method) (c : Code) (cc : ByteArray) (own : String) (nL n : Nat) : Prop :=
  p.tables.exec = Jvm.exec ∧ c.code = cc ∧ c.maxLocals = nL ∧ s.vm.findClass own = some m.cls ∧ x_EC X Z (x_rg hA) s s.heap ∧ x_R X ix h0 hA ∧ n ≤ R.frames ∧ 64 * n ≤ R.locals ∧ hA ≤ s.heap.size
theorem x_R.A {X : x_X} {ix : Nat → Nat} {h0 hA : Nat} (h : x_R X ix h0 hA) : ∀ q, x_A X q → x_rg hA q := fun q ⟨o, h1, h2, h3⟩ => by
  have := (h.2.1 o h1 h2).2
  rw [← h3]; exact this
theorem x_R.I {X : x_X} {ix : Nat → Nat} {h0 hA : Nat} (h : x_R X ix h0 hA) : x_I X := ⟨h.1, fun o p h1 h2 h3 h4 e => h.2.2.1 o p h1 h2 h3 h4 (by
  have a := (h.2.1 o h1 h2).1
  have b := (h.2.1 p h3 h4).1
  omega)⟩
/-- the context of the straight rows -/
theorem x_CC.C {X : x_X} {Z : x_Zs} {ix : Nat → Nat} {h0 hA : Nat} {p : Program} {R : Room} {s : State} {m : MethodId} {meth : Method} {c : Code} {cc : ByteArray} {own : String} {nL n : Nat} (h : x_CC X Z ix h0 hA p R s m meth c cc own nL n) (cs sl : Nat) (h1 : cs ≤ R.cells) (h2 : sl ≤ R.slots) : x_C X Z p R s m c cc own nL cs sl n :=
  ⟨h.1, h.2.1, h.2.2.1, h.2.2.2.1, h.2.2.2.2.1.E h.2.2.2.2.2.1.A, h.2.2.2.2.2.1.I, h.2.2.2.2.2.2.1, h.2.2.2.2.2.2.2.1, h1, h2⟩
section GROW
variable {α β : Type} {X : x_X} {Z : x_Zs} {ix : Nat → Nat} {h0 hA k : Nat} {Q : α → x_M → State → Prop} {p : Program} {l : Launch} {e : Env} {R : Room} {s : State} {m : MethodId} {args : Array Value} {below : List Frame} {meth : Method} {c : Code} {cc : ByteArray} {own : String} {nL cs sl n : Nat} {pc : Nat} {lv lv' : List (Nat × x_V)} {st : List x_V} {μ : x_M} {o : Option (α × x_M)}
theorem va_S.grow {A : Nat → Prop} {H0 H H1 : Heap} {locs : List Loc} (h : va_S A H0 H locs) (z : H1.size = H.size + 1) (o1 : ∀ q, q < H.size → H1[q]? = H[q]?) : va_S A H0 H1 locs :=
  ⟨Nat.le_trans h.1 (by omega), fun x h1 h2 => (o1 x (Nat.lt_of_lt_of_le h1 h.1)).trans (h.2.1 x h1 h2), h.2.2⟩
theorem c_new (hC : x_CC X Z ix h0 hA p R s m meth c cc own nL n) {ci N x idx : Nat} {C : String} {T : u_T} (hcl : x_Cls ci C T N) (hx : ix x = k) (hk : X.1 x = ci + 1) (hk0 : 0 < k) (h1 : ∀ j, j < N → (x_isR ci j = false → μ.1 x j = 0 ∧ ∃ t, x_ty ci j = t ∧ defaultValue t = .int 0) ∧ (x_isR ci j = true → μ.2.1 x j = 0 ∧ defaultValue (x_ty ci j) = .null))
    (hl1 : x_in (.classLink own idx C)) (hl2 : x_in (.instantiable C N)) (hl3 : x_in (.initialized C)) (hcs : cs + 1 ≤ R.cells ∧ sl + N ≤ R.slots) (hdg : decode cc pc = .ok (.new idx, 3))
    (kk : Sm X (x_PJ X ix h0 (k + 1) s) (x_rg hA) Q p l e R s m args below meth c nL (cs + 1) (sl + N) (pc + 3) lv (vR x :: st) μ o) : Sm X (x_PJ X ix h0 k s) (x_rg hA) Q p l e R s m args below meth c nL cs sl pc lv st μ o := by
  intro H locs ls hP hS hl r μ1 ho
  obtain ⟨hexec, hb, hml, hown, hE, hR, -⟩ := id hC
  have hw := fun {w} h => hE.2.2.1.at (w := w) h args
  have hKn := hE.1.1 ci _ hcl.1
  have hci := hcl.2.1
  have hws : ∀ w ∈ u_ws C T N, w.before args s = true := fun w h => hw (hcl.2.2.1 w h)
  have had := (hR.2.1 x (by omega) (by omega)).1
  have hz := hP.2
  have e0 : x_ad X x = H.size := by omega
  refine W.newcK hexec hb hown (hw hl1) (hw hl2) (hw hl3) rfl hdg hcs.1 hcs.2 hKn.2.1 rfl fun H1 kC hkC e1 z1 o1 => ?_
  have h2 := kk H1 locs ls ⟨x_P.grow hR hk0 hP.1 hz hx ⟨by omega, by omega⟩ o1 ?_, by omega⟩ (hS.grow z1 o1) hl r μ1 ho
  · have h2 : W p l e R s m args below meth c H1 locs (cs + 1) (sl + N) (Q r μ1) (F0 m (pc + 3) ls (x_rv X x :: x_st X st)) := h2
    rw [x_rv_n X (fun z => by rw [z, hR.1] at hk; omega), e0] at h2
    exact h2
  · have hkd : x_kd (x_stg X ix (k + 1)) x = ci + 1 := by rw [x_stg_kd (by omega)]; exact hk
    refine ⟨fun _ _ => ⟨(C, T, N), ?_, ?_⟩, fun z => by omega, fun z => by omega, fun z => by omega, fun z => by omega, fun z => by omega, fun z => by omega, fun z => by omega⟩
    · rw [hkd]; exact hcl.1
    · rw [hkd]
      have b := u_born (x_ty ci) hws (fun w hw => hw) hKn hkC e1 hcl.2.2.2.1
      show t_OB (x_ad X x) ((x_D X).1 ci) N ((x_D X).2 ci) H1 _
      rw [e0]
      refine b.to (fun j hj => ?_)
      obtain ⟨g1, g2⟩ := h1 j hj
      show defaultValue (x_ty ci j) = x_f (x_stg X ix (k + 1)) μ ci x j
      unfold x_f
      cases hj2 : x_isR ci j with
      | true =>
        obtain ⟨q1, q2⟩ := g2 hj2
        rw [if_pos rfl, q1, q2]; rfl
      | false =>
        obtain ⟨q1, t, q2, q3⟩ := g1 hj2
        rw [if_neg (by decide), q1, q2, q3]
theorem c_newarr (hC : x_CC X Z ix h0 hA p R s m meth c cc own nL n) {x N : Nat} {v : Int32} {at_ : ArrayType} (hx : ix x = k) (hk0 : 0 < k) (hln : x_ln X x = N)
    (hl1 : x_in (.arrayClass (newarray.typeOf at_))) (hv : ¬ v < 0 ∧ v.toNatClampNeg = N) (hby : N * componentBytes (newarray.typeOf at_) ≤ 536870912) (hcs : cs + 1 ≤ R.cells ∧ sl + N ≤ R.slots) (hkx : 0 < X.1 x ∧ X.1 x < 40)
    (hat : ∀ (H1 : Heap) (cA : ClassId), H1[x_ad X x]? = some (arrV cA N (fun _ => defaultValue (newarray.typeOf at_))) → s.vm.findClass ("[" ++ (newarray.typeOf at_).toString) = some cA → x_at (x_stg X ix (k + 1)) μ s H1 x) (hdg : decode cc pc = .ok (.newarray at_, 2))
    (kk : Sm X (x_PJ X ix h0 (k + 1) s) (x_rg hA) Q p l e R s m args below meth c nL (cs + 1) (sl + N) (pc + 2) lv (vR x :: st) μ o) : Sm X (x_PJ X ix h0 k s) (x_rg hA) Q p l e R s m args below meth c nL cs sl pc lv (vI v :: st) μ o := by
  intro H locs ls hP hS hl r μ1 ho
  obtain ⟨hexec, hb, hml, hown, hE, hR, -⟩ := id hC
  have hw := fun {w} h => hE.2.2.1.at (w := w) h args
  have had := (hR.2.1 x hkx.1 hkx.2).1
  have hz := hP.2
  have e0 : x_ad X x = H.size := by omega
  refine va_newaK hexec hb (hw hl1) (g := F0 m pc ls (x_st X (vI v :: st))) rfl hdg (n := v) (rest := x_st X st) rfl hv.1 hv.2 hby hcs.1 hcs.2 rfl fun H1 cA e1 z1 o1 _ hNm => ?_
  have h2 := kk H1 locs ls ⟨x_P.grow hR hk0 hP.1 hz hx hkx o1 (hat H1 cA (by rw [e0]; exact e1) hNm), by omega⟩ (hS.grow z1 o1) hl r μ1 ho
  have h2 : W p l e R s m args below meth c H1 locs (cs + 1) (sl + N) (Q r μ1) (F0 m (pc + 2) ls (x_rv X x :: x_st X st)) := h2
  rw [x_rv_n X (fun z => by rw [z, hR.1] at hkx; omega), e0] at h2
  exact h2
theorem c_newI (hC : x_CC X Z ix h0 hA p R s m meth c cc own nL n) {x N : Nat} {v : Int32} (hx : ix x = k) (hk : X.1 x = 20) (hk0 : 0 < k) (hln : x_ln X x = N) (h1 : ∀ j, j < N → μ.1 x j = 0)
    (hl1 : x_in (.arrayClass .int)) (hv : ¬ v < 0 ∧ v.toNatClampNeg = N) (hby : N * 4 ≤ 536870912) (hcs : cs + 1 ≤ R.cells ∧ sl + N ≤ R.slots) (hdg : decode cc pc = .ok (.newarray .int, 2))
    (kk : Sm X (x_PJ X ix h0 (k + 1) s) (x_rg hA) Q p l e R s m args below meth c nL (cs + 1) (sl + N) (pc + 2) lv (vR x :: st) μ o) : Sm X (x_PJ X ix h0 k s) (x_rg hA) Q p l e R s m args below meth c nL cs sl pc lv (vI v :: st) μ o := by
  refine c_newarr (at_ := .int) hC hx hk0 hln hl1 hv hby hcs (by omega) (fun H1 cA e1 hNm => ?_) hdg kk
  have hkd : x_kd (x_stg X ix (k + 1)) x = 20 := by rw [x_stg_kd (by omega)]; exact hk
  have hcA : cA = x_cA X 20 := Option.some.inj (hNm.symm.trans (hC.2.2.2.2.1.1.2 0 _ rfl).2)
  refine ⟨fun _ _ => by omega, fun _ => ?_, fun z => by omega, fun z => by omega, fun z => by omega, fun z => by omega, fun z => by omega, fun z => by omega⟩
  refine e1.trans ?_
  rw [vp_cell_i, hcA, show x_ln (x_stg X ix (k + 1)) x = N from hln]
  exact congrArg some (arrV_congr (fun j hj => by rw [h1 j hj]; rfl))
theorem c_newZ (hC : x_CC X Z ix h0 hA p R s m meth c cc own nL n) {x N : Nat} {v : Int32} (hx : ix x = k) (hk : X.1 x = 22) (hk0 : 0 < k) (hln : x_ln X x = N) (h1 : ∀ j, j < N → μ.1 x j = 0)
    (hl1 : x_in (.arrayClass .boolean)) (hv : ¬ v < 0 ∧ v.toNatClampNeg = N) (hby : N * 1 ≤ 536870912) (hcs : cs + 1 ≤ R.cells ∧ sl + N ≤ R.slots) (hdg : decode cc pc = .ok (.newarray .boolean, 2))
    (kk : Sm X (x_PJ X ix h0 (k + 1) s) (x_rg hA) Q p l e R s m args below meth c nL (cs + 1) (sl + N) (pc + 2) lv (vR x :: st) μ o) : Sm X (x_PJ X ix h0 k s) (x_rg hA) Q p l e R s m args below meth c nL cs sl pc lv (vI v :: st) μ o := by
  refine c_newarr (at_ := .boolean) hC hx hk0 hln hl1 hv hby hcs (by omega) (fun H1 cA e1 hNm => ?_) hdg kk
  have hkd : x_kd (x_stg X ix (k + 1)) x = 22 := by rw [x_stg_kd (by omega)]; exact hk
  have hcA : cA = x_cA X 22 := Option.some.inj (hNm.symm.trans (hC.2.2.2.2.1.1.2 2 _ rfl).2)
  refine ⟨fun _ _ => by omega, fun z => by omega, fun z => by omega, fun _ => ?_, fun z => by omega, fun z => by omega, fun z => by omega, fun z => by omega⟩
  refine e1.trans ?_
  rw [vp_cell_i, hcA, show x_ln (x_stg X ix (k + 1)) x = N from hln]
  exact congrArg some (arrV_congr (fun j hj => by rw [h1 j hj]; rfl))
theorem c_newJ (hC : x_CC X Z ix h0 hA p R s m meth c cc own nL n) {x N : Nat} {v : Int32} (hx : ix x = k) (hk : X.1 x = 21) (hk0 : 0 < k) (hln : x_ln X x = N) (h1 : ∀ j, j < N → μ.2.2 x j = 0)
    (hl1 : x_in (.arrayClass .long)) (hv : ¬ v < 0 ∧ v.toNatClampNeg = N) (hby : N * 8 ≤ 536870912) (hcs : cs + 1 ≤ R.cells ∧ sl + N ≤ R.slots) (hdg : decode cc pc = .ok (.newarray .long, 2))
    (kk : Sm X (x_PJ X ix h0 (k + 1) s) (x_rg hA) Q p l e R s m args below meth c nL (cs + 1) (sl + N) (pc + 2) lv (vR x :: st) μ o) : Sm X (x_PJ X ix h0 k s) (x_rg hA) Q p l e R s m args below meth c nL cs sl pc lv (vI v :: st) μ o := by
  refine c_newarr (at_ := .long) hC hx hk0 hln hl1 hv hby hcs (by omega) (fun H1 cA e1 hNm => ?_) hdg kk
  have hkd : x_kd (x_stg X ix (k + 1)) x = 21 := by rw [x_stg_kd (by omega)]; exact hk
  have hcA : cA = x_cA X 21 := Option.some.inj (hNm.symm.trans (hC.2.2.2.2.1.1.2 1 _ rfl).2)
  refine ⟨fun _ _ => by omega, fun z => by omega, fun _ => ?_, fun z => by omega, fun z => by omega, fun z => by omega, fun z => by omega, fun z => by omega⟩
  refine e1.trans ?_
  rw [vp_cell_l, hcA, show x_ln (x_stg X ix (k + 1)) x = N from hln]
  exact congrArg some (arrV_congr (fun j hj => by rw [h1 j hj]; rfl))
end GROW
