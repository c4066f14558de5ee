/-! ===== STAGE B, pure: what a function over a memory comes to ===== -/
def wp {α : Type} (o : Option (α × x_M)) (P : α → x_M → Prop) : Prop := match o with
  | none => False
  | some q => P q.1 q.2
section WP
variable {α β : Type} {P Q : α → x_M → Prop} {μ : x_M}
theorem wp_some {a : α} : wp (some (a, μ)) P ↔ P a μ := Iff.rfl
theorem wp_ck {c : Prop} [Decidable c] {k : Option (α × x_M)} : wp (ck c k) P ↔ c ∧ wp k P := by
  unfold ck
  by_cases h : c
  · rw [if_pos h]; exact ⟨fun q => ⟨h, q⟩, fun q => q.2⟩
  · rw [if_neg h]; exact ⟨fun q => q.elim, fun q => absurd q.1 h⟩
theorem wp_bd {o : Option (β × x_M)} {k : β → x_M → Option (α × x_M)} : wp (bd o k) P ↔ wp o (fun a μ => wp (k a μ) P) := by
  cases o with
  | none => exact Iff.rfl
  | some q => exact Iff.rfl
theorem wp_lt {v : β} {k : β → Option (α × x_M)} : wp (lt v k) P ↔ wp (k v) P := Iff.rfl
theorem wp_if {c : Prop} [Decidable c] {a b : Option (α × x_M)} : wp (if c then a else b) P ↔ (c → wp a P) ∧ (¬ c → wp b P) := by
  by_cases h : c
  · rw [if_pos h]; exact ⟨fun q => ⟨fun _ => q, fun z => absurd h z⟩, fun q => q.1 h⟩
  · rw [if_neg h]; exact ⟨fun q => ⟨fun z => absurd z h, fun _ => q⟩, fun q => q.2 h⟩
theorem wp.mono {o : Option (α × x_M)} (h : wp o P) (hk : ∀ a μ, P a μ → Q a μ) : wp o Q := by
  cases o with
  | none => exact h
  | some q => exact hk _ _ h
theorem wp.ex {o : Option (α × x_M)} (h : wp o P) : ∃ a μ, o = some (a, μ) ∧ P a μ := by
  cases o with
  | none => exact h.elim
  | some q => exact ⟨q.1, q.2, rfl, h⟩
theorem wp.of {o : Option (α × x_M)} {a : α} (h : o = some (a, μ)) (hp : P a μ) : wp o P := by rw [h]; exact hp
theorem ck_t {c : Prop} [Decidable c] {k : Option β} (h : c) : ck c k = k := if_pos h
theorem bd_s {γ : Type} {a : β} {k : β → x_M → Option γ} : bd (some (a, μ)) k = k a μ := rfl
theorem lt_v {γ : Type} {v : β} {k : β → γ} : lt v k = k v := rfl
theorem sw_c {v x : Int32} {vs : List Int32} {k d : β} {ks : List β} : x_swo (v :: vs) (k :: ks) d x = if x = v then k else x_swo vs ks d x := rfl
theorem sw_n {x : Int32} {ks : List β} {d : β} : x_swo [] ks d x = d := by cases ks <;> rfl
end WP
/-! ints by their numbers -/
theorem iN_cl {j : Nat} (h : j < 2 ^ 31) : (Int32.ofNat j).toNatClampNeg = j := by
  unfold Int32.toNatClampNeg
  rw [Int32.toInt_ofNat_of_lt (by omega)]
  omega
theorem iN_int {j : Nat} (h : j < 2 ^ 31) : (Int32.ofNat j).toInt = j := Int32.toInt_ofNat_of_lt (by omega)
theorem iN_neg {j : Nat} (h : j < 2 ^ 31) : ¬ Int32.ofNat j < 0 := by
  rw [Int32.lt_iff_toInt_lt, iN_int h]
  show ¬ ((j : Int) < 0)
  omega
theorem iN_lt {j k : Nat} (hj : j < 2 ^ 31) (hk : k < 2 ^ 31) : Int32.ofNat j < Int32.ofNat k ↔ j < k := by
  rw [Int32.lt_iff_toInt_lt, iN_int hj, iN_int hk]; omega
theorem iN_le {j k : Nat} (hj : j < 2 ^ 31) (hk : k < 2 ^ 31) : Int32.ofNat j ≤ Int32.ofNat k ↔ j ≤ k := by
  rw [Int32.le_iff_toInt_le, iN_int hj, iN_int hk]; omega
theorem iN_s {j : Nat} : Int32.ofNat j + 1 = Int32.ofNat (j + 1) := by
  rw [Int32.ofNat_add]; rfl
theorem iN_ix {j N : Nat} (h : j < 2 ^ 31) (hN : j < N) : x_ix (Int32.ofNat j) N := by
  intro z
  rcases z with z | z
  · exact iN_neg h z
  · rw [iN_cl h] at z; omega
/-- an int is a number or below 0 -/
theorem iN_of {x : Int32} (h : ¬ x < 0) : ∃ j : Nat, j < 2 ^ 31 ∧ x = Int32.ofNat j := by
  have h0 : ¬ x.toInt < (0 : Int32).toInt := fun z => h (Int32.lt_iff_toInt_lt.mpr z)
  have h0 : ¬ x.toInt < 0 := h0
  have h1 := x.toInt_lt
  refine ⟨x.toInt.toNat, by omega, ?_⟩
  apply Int32.toInt_inj.mp
  rw [iN_int (by omega)]
  omega
