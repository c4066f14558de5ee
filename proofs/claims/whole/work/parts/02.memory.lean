/-! ===== the memory of a world, by object ids: ints and booleans, references (ids, 0 is null), longs ===== -/
abbrev x_M : Type := (Nat → Nat → Int32) × (Nat → Nat → Nat) × (Nat → Nat → Int64)
/-- a world: kinds of ids, their lengths, their addresses, the classes, the array classes by kind -/
abbrev x_X : Type := (Nat → Nat) × (Nat → Nat) × (Nat → Nat) × va_G × (Nat → ClassId)
abbrev x_kd (X : x_X) : Nat → Nat := X.1
abbrev x_ln (X : x_X) : Nat → Nat := X.2.1
abbrev x_ad (X : x_X) : Nat → Nat := X.2.2.1
abbrev x_D (X : x_X) : va_G := X.2.2.2.1
abbrev x_cA (X : x_X) : Nat → ClassId := X.2.2.2.2
def x_rv (X : x_X) (n : Nat) : Value := if n = 0 then .null else .ref (x_ad X n)
def x_ro (X : x_X) (n : Nat) : Option Nat := if n = 0 then none else some (x_ad X n)
theorem x_rf_ro (X : x_X) (n : Nat) : va_rf (x_ro X n) = x_rv X n := by
  unfold x_ro x_rv
  by_cases h : n = 0
  · rw [if_pos h, if_pos h]; rfl
  · rw [if_neg h, if_neg h]; rfl
theorem x_rv_0 (X : x_X) : x_rv X 0 = .null := rfl
theorem x_rv_n (X : x_X) {n : Nat} (h : n ≠ 0) : x_rv X n = .ref (x_ad X n) := if_neg h
theorem x_rv_cat (X : x_X) (n : Nat) : (x_rv X n).category = 1 := by
  unfold x_rv
  by_cases h : n = 0
  · rw [if_pos h]; rfl
  · rw [if_neg h]; rfl
def x_ty (ci : Nat) : Nat → FieldType := match ci with
  | 0 => tyX0
  | 1 => tyX1
  | 2 => tyX2
  | 3 => tyX3
  | 4 => tyX4
  | 5 => tyX5
  | 6 => tyX6
  | 7 => tyX7
  | 8 => tyX8
  | 9 => tyX9
  | _ => tyX10
def x_isR (ci k : Nat) : Bool := match x_ty ci k with
  | .object _ => true
  | .array _ => true
  | _ => false
def x_f (X : x_X) (μ : x_M) (ci o k : Nat) : Value := if x_isR ci k = true then x_rv X (μ.2.1 o k) else .int (μ.1 o k)
/-- writable cells -/
def x_A (X : x_X) : Nat → Prop := fun q => ∃ o, 0 < x_kd X o ∧ x_kd X o < 40 ∧ x_ad X o = q
def x_at (X : x_X) (μ : x_M) (U : State) (H : Heap) (o : Nat) : Prop :=
  (0 < x_kd X o → x_kd X o < 20 → ∃ r : vw_C, vwCl[x_kd X o - 1]? = some r ∧ t_OB (x_ad X o) ((x_D X).1 (x_kd X o - 1)) r.2.2 ((x_D X).2 (x_kd X o - 1)) H (fun k => x_f X μ (x_kd X o - 1) o k)) ∧
  (x_kd X o = 20 → H[x_ad X o]? = some (vp_cell (x_cA X 20) (x_ln X o, .inl (μ.1 o)))) ∧
  (x_kd X o = 21 → H[x_ad X o]? = some (vp_cell (x_cA X 21) (x_ln X o, .inr (.inl (μ.2.2 o))))) ∧
  (x_kd X o = 22 → H[x_ad X o]? = some (vp_cell (x_cA X 22) (x_ln X o, .inl (μ.1 o)))) ∧
  (22 < x_kd X o → x_kd X o < 40 → H[x_ad X o]? = some (vp_cell (x_cA X (x_kd X o)) (x_ln X o, .inr (.inr (.inr (.inr (fun i => x_ro X (μ.2.1 o i)))))))) ∧
  (x_kd X o = 40 → va_T .int (x_ad X o) (x_ln X o) (fun j => .int (μ.1 o j)) (x_A X) U H) ∧
  (x_kd X o = 41 → va_T .byte (x_ad X o) (x_ln X o) (fun j => .int (μ.1 o j)) (x_A X) U H) ∧
  (x_kd X o = 50 → va_O "java/lang/String" (x_ad X o) (x_A X) U H ∧ va_OF "java/lang/String" "coder" "B" (.int (μ.1 o 0)) (x_ad X o) (x_A X) U H ∧ va_OF "java/lang/String" "value" "[B" (x_rv X (μ.2.1 o 1)) (x_ad X o) (x_A X) U H)
def x_P (X : x_X) (μ : x_M) (U : State) (H : Heap) : Prop := ∀ o, x_at X μ U H o
/-- ids of writable cells have addresses of their own -/
def x_I (X : x_X) : Prop := x_kd X 0 = 0 ∧ ∀ o o', 0 < x_kd X o → x_kd X o < 40 → 0 < x_kd X o' → x_kd X o' < 40 → x_ad X o = x_ad X o' → o = o'
theorem x_at.moved {X : x_X} {μ : x_M} {u U : State} {H : Heap} {o : Nat} (hvm : u.vm.Alike U.vm) (h : x_at X μ u H o) : x_at X μ U H o :=
  ⟨h.1, h.2.1, h.2.2.1, h.2.2.2.1, h.2.2.2.2.1, fun z => (h.2.2.2.2.2.1 z).moved hvm, fun z => (h.2.2.2.2.2.2.1 z).moved hvm, fun z => ⟨va_O.moved hvm (h.2.2.2.2.2.2.2 z).1, va_OF.moved hvm (h.2.2.2.2.2.2.2 z).2.1, va_OF.moved hvm (h.2.2.2.2.2.2.2 z).2.2⟩⟩
theorem x_P.moved {X : x_X} {μ : x_M} {u U : State} {H : Heap} (hvm : u.vm.Alike U.vm) (h : x_P X μ u H) : x_P X μ U H := fun o => (h o).moved hvm
/-- a write at one id, what it holds there afterwards being given -/
theorem x_P.put {X : x_X} {μ μ' : x_M} {U : State} {H H1 : Heap} {o : Nat} (hI : x_I X) (h : x_P X μ U H) (h0 : 0 < x_kd X o) (h4 : x_kd X o < 40) (ho : x_at X μ' U H1 o) (oq : ∀ q : Nat, q ≠ x_ad X o → H1[q]? = H[q]?)
    (e1 : ∀ p, p ≠ o → μ'.1 p = μ.1 p) (e2 : ∀ p, p ≠ o → μ'.2.1 p = μ.2.1 p) (e3 : ∀ p, p ≠ o → μ'.2.2 p = μ.2.2 p) : x_P X μ' U H1 := by
  intro p
  by_cases hp : p = o
  · subst hp; exact ho
  · obtain ⟨a1, a2, a3, a4, a5, a6, a7, a8⟩ := h p
    have ne : 0 < x_kd X p → x_kd X p < 40 → H1[x_ad X p]? = H[x_ad X p]? := fun z1 z2 => oq _ (fun e => hp (hI.2 p o z1 z2 h0 h4 e))
    have hq : ∀ a : Nat, a < H.size → ¬ x_A X a → H1[a]? = H[a]? := fun a _ hA => oq a (fun e => hA ⟨o, h0, h4, e.symm⟩)
    have f1 := e1 p hp
    have f2 := e2 p hp
    have f3 := e3 p hp
    refine ⟨fun z1 z2 => ?_, fun z => ?_, fun z => ?_, fun z => ?_, fun z1 z2 => ?_, fun z => ?_, fun z => ?_, fun z => ?_⟩
    · obtain ⟨r, b1, b2⟩ := a1 z1 z2
      refine ⟨r, b1, ((b2.kept (ne z1 (by omega))).to (fun k _ => ?_))⟩
      unfold x_f
      rw [f1, f2]
    · rw [ne (by omega) (by omega), f1]; exact a2 z
    · rw [ne (by omega) (by omega), f3]; exact a3 z
    · rw [ne (by omega) (by omega), f1]; exact a4 z
    · rw [ne (by omega) (by omega), f2]; exact a5 z1 z2
    · rw [f1]; exact (a6 z).kept hq
    · rw [f1]; exact (a7 z).kept hq
    · rw [f1, f2]; exact ⟨va_O.kept (a8 z).1 hq, va_OF.kept (a8 z).2.1 hq, va_OF.kept (a8 z).2.2 hq⟩
/-- setting one place of one id -/
def x_u {α : Type} (f : Nat → Nat → α) (o k : Nat) (v : α) : Nat → Nat → α := fun p j => if p = o then (if j = k then v else f p j) else f p j
theorem x_u_ne {α : Type} {f : Nat → Nat → α} {o k : Nat} {v : α} {p : Nat} (h : p ≠ o) : x_u f o k v p = f p := by funext j; simp [x_u, h]
theorem x_u_eq {α : Type} {f : Nat → Nat → α} {o k : Nat} {v : α} : x_u f o k v o = fun j => if j = k then v else f o j := by funext j; simp [x_u]
def x_sI (μ : x_M) (o k : Nat) (v : Int32) : x_M := (x_u μ.1 o k v, μ.2.1, μ.2.2)
def x_sR (μ : x_M) (o k : Nat) (v : Nat) : x_M := (μ.1, x_u μ.2.1 o k v, μ.2.2)
def x_sJ (μ : x_M) (o k : Nat) (v : Int64) : x_M := (μ.1, μ.2.1, x_u μ.2.2 o k v)
abbrev x_tys (X : x_X) : List (ClassId × FieldType) := [(x_cA X 20, .int), (x_cA X 21, .long), (x_cA X 22, .boolean), (x_cA X 23, .object RX0), (x_cA X 24, .object RX4), (x_cA X 25, .object RX8)]
def x_K (X : x_X) (U : State) : Prop := va_K (x_D X) vwCl (x_tys X) U
/-- the statics: class, name, descriptor, id that it refers to; or a number -/
abbrev x_Zs : Type := List (String × String × String × Nat) × List (String × String × String × Int32) × List (String × Nat × String × Nat)
/-- a static of the JDK's that is a reference or null -/
def x_SQ (X : x_X) (A : Nat → Prop) (U : State) (H : Heap) : Prop := va_Z "jdk/internal/util/Preconditions" "SIOOBE_FORMATTER" "Ljava/util/function/BiFunction;" .null A U H ∨ va_Z "jdk/internal/util/Preconditions" "SIOOBE_FORMATTER" "Ljava/util/function/BiFunction;" (x_rv X 803) A U H
theorem x_SQ.go {X : x_X} {A : Nat → Prop} {u U : State} {H H1 : Heap} (hvm : u.vm.Alike U.vm) (hq : ∀ a : Nat, a < H.size → ¬ A a → H1[a]? = H[a]?) (h : x_SQ X A u H) : x_SQ X A U H1 :=
  h.imp (fun z => va_Z.kept (va_Z.moved hvm z) hq) (fun z => va_Z.kept (va_Z.moved hvm z) hq)
def x_Z (X : x_X) (Z : x_Zs) (U : State) (H : Heap) : Prop := (∀ q ∈ Z.1, va_Z q.1 q.2.1 q.2.2.1 (x_rv X q.2.2.2) (x_A X) U H) ∧ (∀ q ∈ Z.2.1, va_Z q.1 q.2.1 q.2.2.1 (.int q.2.2.2) (x_A X) U H) ∧ x_SQ X (x_A X) U H
/-- the string constants: class, entry, text, id -/
def x_L (X : x_X) (Z : x_Zs) (U : State) : Prop := ∀ q ∈ Z.2.2, vk_R q.1 q.2.1 q.2.2.1 (x_ad X q.2.2.2) U
/-- words of the tables, at any arguments -/
def x_nest : Cond → Bool
  | .fieldLinkNest _ _ _ _ _ _ => true
  | .methodLinkNest _ _ _ _ => true
  | _ => false
def x_W (U : State) : Prop := ∀ w ∈ lw_tbl, (goodWord w = true ∨ x_nest w = true) → ∀ a : Array Value, w.before a U = true
theorem x_W.warm {s U : State} (hW : s.WarmedH U.vm) (h : x_W s) : x_W U := by
  intro w hw hg a
  rcases hg with hg | hg
  · exact word_at hW (good_of_word hg) (h w hw (Or.inl hg) #[])
  · cases w with
    | fieldLinkNest a1 i b n d hh => exact va_Nw.use rfl (va_Nw.warmF hW (va_Nw.of rfl (h _ hw (Or.inr rfl) #[])))
    | methodLinkNest a1 i x hh => exact va_Nw.use rfl (va_Nw.warmM hW (va_Nw.of rfl (h _ hw (Or.inr rfl) #[])))
    | _ => cases hg
def x_E (X : x_X) (Z : x_Zs) (U : State) (H : Heap) : Prop := x_K X U ∧ (x_Z X Z U H ∧ x_L X Z U) ∧ x_W U
/-- what a method finds -/
def x_H (X : x_X) (Z : x_Zs) (μ : x_M) (U : State) : Prop := x_E X Z U U.heap ∧ x_P X μ U U.heap
theorem x_Z.go {X : x_X} {Z : x_Zs} {u U : State} {H H1 : Heap} (hvm : u.vm.Alike U.vm) (hq : ∀ a : Nat, a < H.size → ¬ x_A X a → H1[a]? = H[a]?) (h : x_Z X Z u H) : x_Z X Z U H1 :=
  ⟨fun q hh => va_Z.kept (va_Z.moved hvm (h.1 q hh)) hq, fun q hh => va_Z.kept (va_Z.moved hvm (h.2.1 q hh)) hq, h.2.2.go hvm hq⟩
theorem x_E.go {X : x_X} {Z : x_Zs} {s U : State} {H H1 : Heap} (hW : s.WarmedH U.vm) (hq : ∀ a : Nat, a < H.size → ¬ x_A X a → H1[a]? = H[a]?) (h : x_E X Z s H) : x_E X Z U H1 :=
  ⟨va_K.moved hW.alike h.1, ⟨h.2.1.1.go hW.alike hq, fun q hh => vk_R.warm hW (h.2.1.2 q hh)⟩, h.2.2.warm hW⟩
theorem x_H.blind {X : x_X} {Z : x_Zs} {μ : x_M} {avs : List Value} : FrameBlind (va_Pc avs (x_H X Z μ)) := by
  intro a U g mk h
  obtain ⟨h1, ⟨k1, ⟨k2, k4⟩, k3⟩, h3⟩ := h
  have hv : (U.calling g mk a).vm = U.vm := rfl
  have al : U.vm.Alike (U.calling g mk a).vm := Vm.Alike.refl U.vm
  exact ⟨h1, ⟨va_K.moved al k1, ⟨x_Z.go al (fun _ _ _ => rfl) k2, fun q hh => vk_R.same (u := U) (U := U.calling g mk a) rfl (k4 q hh)⟩, x_W.warm (s := U) (U := U.calling g mk a) (State.WarmedH.refl U) k3⟩, h3.moved al⟩
