/-! ===== the reference's holds: the pile is a row of booleans ===== -/
def frI (P : Nat → Prop) (ν ν' : x_M) : Prop := ν'.2 = ν.2 ∧ ∀ o, ¬ P o → ν'.1 o = ν.1 o
theorem frI.rf {P : Nat → Prop} {ν : x_M} : frI P ν ν := ⟨rfl, fun _ _ => rfl⟩
theorem frI.tr {P : Nat → Prop} {a b c : x_M} (h : frI P a b) (g : frI P b c) : frI P a c := ⟨g.1.trans h.1, fun o ho => (g.2 o ho).trans (h.2 o ho)⟩
theorem frI.up {P Q : Nat → Prop} {a b : x_M} (h : frI P a b) (hPQ : ∀ o, P o → Q o) : frI Q a b := ⟨h.1, fun o ho => h.2 o (fun z => ho (hPQ o z))⟩
theorem frI.sI {P : Nat → Prop} {ν : x_M} {o k : Nat} {v : Int32} (ho : P o) : frI P ν (x_sI ν o k v) := by
  refine ⟨rfl, fun q hq => ?_⟩
  funext j
  show (if q = o then (if j = k then v else ν.1 q j) else ν.1 q j) = ν.1 q j
  rw [if_neg (fun z => hq (by rw [z]; exact ho))]
theorem frI.Pr {P : Nat → Prop} {a b : x_M} (h : frI P a b) (g : Pr a) : Pr b := fun o k => by rw [h.1]; exact g o k
theorem sI_get {ν : x_M} {o k : Nat} {v : Int32} : (x_sI ν o k v).1 o k = v := by
  show (if o = o then (if k = k then v else _) else _) = v
  rw [if_pos rfl, if_pos rfl]
theorem sI_ne {ν : x_M} {o k j : Nat} {v : Int32} (h : j ≠ k) : (x_sI ν o k v).1 o j = ν.1 o j := by
  show (if o = o then (if j = k then v else _) else _) = _
  rw [if_pos rfl, if_neg h]
theorem sI_no {ν : x_M} {o k q : Nat} {v : Int32} (h : q ≠ o) : (x_sI ν o k v).1 q = ν.1 q := by
  funext j
  show (if q = o then (if j = k then v else _) else _) = _
  rw [if_neg h]
def PileR (ν : x_M) : List Bool → Prop
  | [] => True
  | b :: r => ν.1 629 r.length = (if b then 1 else 0) ∧ PileR ν r
theorem PileR.sI {ν : x_M} {k : Nat} {v : Int32} : ∀ {st : List Bool}, PileR ν st → st.length ≤ k → PileR (x_sI ν 629 k v) st
  | [], _, _ => True.intro
  | b :: r, h, hk => by
    rw [List.length_cons] at hk
    exact ⟨by rw [sI_ne (by omega)]; exact h.1, PileR.sI h.2 (by omega)⟩
theorem mA_28 : rf108 600 28 = 629 ∧ x_kdR 629 = 22 ∧ x_lnA 629 = 100 := by decide +kernel
section HOLDR
variable {ad : Nat → Nat} {D : va_G} {cA : Nat → ClassId}
/-- the reference's writing of a truth on the pile, and on -/
theorem r_put {α : Type} {ν : x_M} {h : Nat} {b : Bool} {v : Int32} {K : x_M → Option (α × x_M)} (hh : h < 100) (hv : v = if b then 1 else 0) : ck (x_kd (XR ad D cA) 629 = 22 ∧ x_ix (Int32.ofNat h) (x_ln (XR ad D cA) 629)) (lt (x_sI ν 629 (Int32.ofNat h).toNatClampNeg (vp_nar .boolean v)) K) = K (x_sI ν 629 h (if b then 1 else 0)) := by
  rw [ck_t (by rw [kR, lR, mA_28.2.1, mA_28.2.2]; exact ⟨rfl, iN_ix (by omega) hh⟩), lt_v, iN_cl (by omega), hv]
  congr 2
  cases b <;> decide
theorem PileR.top {ν : x_M} {b : Bool} {r : List Bool} (h : PileR ν r) : PileR (x_sI ν 629 r.length (if b then 1 else 0)) (b :: r) := ⟨sI_get, h.sI (Nat.le_refl _)⟩
end HOLDR
