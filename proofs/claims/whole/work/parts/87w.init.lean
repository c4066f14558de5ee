/-! ===== the constructors' memories stand in the relation ===== -/
def S0 : St := (fun _ => 10, 0, (fun _ => 0, fun _ => 0, fun _ => 0, fun _ _ => 0), (fun _ => 0, fun _ => 0), (200, 0, 0), [], (6, 0, -1))
def R0 : Rw := (0, fun _ => 0, fun _ => 0)
def lU (o k : Nat) : Int64 := x_U107.2.2 o k
def lV (o k : Nat) : Int64 := x_U108.2.2 o k
theorem i_ar : ∀ s, s < 6 → cU 102 s = Int32.ofNat 10 ∧ cV 605 s = Int32.ofNat 10 := by decide +kernel
theorem i_he : ∀ i, i < 6 → cU (100 + 4 + i) 0 = Int32.ofNat i ∧ cU (100 + 4 + i) 2 = 0 := by decide +kernel
theorem i_nu : ∀ B ∈ ([100, 200, 300] : List Nat), ∀ i, i < 6 → cU (B + 4 + i) 0 = Int32.ofNat i := by decide +kernel
theorem i_lw : cU 125 5 = Int32.ofNat 0 ∧ cU 125 7 = Int32.ofNat 50 ∧ cU 125 8 = Int32.ofNat 5 ∧ cU 125 9 = Int32.ofNat 0 := by decide +kernel
theorem i_rf : rf107 100 5 = 125 ∧ rf107 200 5 = 225 := by decide +kernel
theorem i_st : (cU 100 6 = Int32.ofNat 0 ∧ cU 100 7 = Int32.ofNat 200 ∧ cU 100 8 = Int32.ofNat 0 ∧ cU 100 9 = Int32.ofNat 0) ∧ cU 100 10 = Int32.ofNat 0 ∧ cU 100 11 = Int32.ofInt (-1) := by decide +kernel
theorem i_rs : (cV 600 0 = Int32.ofNat 0 ∧ cV 600 1 = Int32.ofNat 0 ∧ cV 600 2 = Int32.ofNat 200 ∧ cV 600 3 = Int32.ofNat 0) ∧ cV 600 12 = -1 ∧ cV 600 30 = -1 ∧ cV 600 31 = Int32.ofNat 0 ∧ cV 600 32 = Int32.ofInt (-1) := by decide +kernel
theorem i_ro : (cU 116 3 = Int32.ofNat 0 ∧ cU 119 3 = Int32.ofNat 0 ∧ cU 122 3 = Int32.ofNat 0) ∧ cV 600 40 = Int32.ofNat 0 ∧ cV 600 43 = Int32.ofNat 0 ∧ cV 600 44 = Int32.ofNat 0 := by decide +kernel
theorem i_k : cU 116 2 = 4 ∧ cU 119 2 = 8 ∧ cU 122 2 = 8 := by decide +kernel
theorem i_i : cU 1 7 = 0 ∧ cV 600 49 = 0 ∧ cU 1 8 = Int32.ofNat 0 ∧ cV 600 11 = Int32.ofNat 0 ∧ cV 600 50 = -1 ∧ cU 3 1 = Int32.ofNat 0 ∧ cV 600 13 = Int32.ofNat 0 ∧ cU 7 1 = Int32.ofNat 0 ∧ cV 600 71 = Int32.ofNat 0 := by decide +kernel
theorem i_p : ∀ t, t < 6 → cU (500 + 2 * t) 1 = Int32.ofInt (-1) ∧ cV 674 t = Int32.ofInt (-1) ∧ cU (500 + 2 * t) 2 = Int32.ofNat 0 ∧ cV 675 t = Int32.ofNat 0 := by decide +kernel
theorem i_l : ∀ t, t < 6 → ∀ j, j < 60 → lU (501 + 2 * t) j = lV 676 (60 * t + j) := by decide +kernel
theorem i_g : ∀ i, i < 6 → ¬ Int32.ofNat i = (-1 : Int32) := by decide +kernel
theorem i_ok : Ok S0 := ⟨⟨⟨by decide, fun s hs => ⟨(by decide : 1 ≤ 10), (by decide : 10 ≤ 20)⟩⟩, fun i hi => absurd hi (by show ¬ i < 0; omega), by decide, by decide⟩, by decide, by decide, by decide, by decide⟩
theorem i_lo : LawOk ([] : LawA) := ⟨by decide, fun c hc => by cases hc⟩
theorem i_Pt : Pt x_U107 := fun _ _ _ => rfl
theorem i_Pr : Pr x_U108 := fun _ _ => rfl
theorem i_StC : StC x_U107 100 S0 := by
  refine ⟨⟨Or.inl rfl, i_Pt⟩, fun s hs => ⟨(i_ar s hs).1, (by decide : 1 ≤ 10), (by decide : 10 ≤ 20)⟩, fun i hi => ⟨(i_he i hi).1, ?_⟩, fun i hi => absurd hi (by show ¬ i < 0; omega), ?_, i_st.1, i_st.2⟩
  · refine (i_he i hi).2.trans ?_
    rw [if_neg (fun z => absurd z.1 (by show ¬ i < 0; omega))]
  · have e : x_U107.2.1 100 5 = 125 := i_rf.1
    rw [e]
    refine ⟨by decide +kernel, i_lo, ⟨i_lw.1, i_lw.2.1, i_lw.2.2.1, i_lw.2.2.2⟩, True.intro⟩
theorem i_StR : StR x_U108 S0 := by
  refine ⟨i_Pr, fun s hs => ⟨(i_ar s hs).2, (by decide : 1 ≤ 10), (by decide : 10 ≤ 20)⟩, i_rs.1, fun i hi => ?_, fun i hi => absurd hi (by show ¬ i < 0; omega), ⟨i_lo, Or.inl ⟨i_rs.2.1, rfl⟩⟩, i_rs.2.2.2⟩
  have e : x_U108.1 600 30 = -1 := i_rs.2.2.1
  rw [e]
  exact ⟨fun z => absurd z (i_g i hi), fun z => absurd z (by show ¬ i = 6; omega)⟩
theorem i_rel : Rel x_U107 x_U108 := by
  refine ⟨S0, R0, R0, R0, ⟨⟨⟨i_StC, ⟨rfl, rfl, rfl⟩, fun B hB i hi => i_nu B hB.mem i hi, i_ok, by decide, ⟨i_ro.1.1, fun j hj => absurd hj (by show ¬ j < 0; omega)⟩⟩, i_StR, by decide⟩, i_rs.2.2.1⟩, ⟨⟨⟨i_ro.1.2.1, fun j hj => absurd hj (by show ¬ j < 0; omega)⟩, ⟨i_ro.1.2.2, fun j hj => absurd hj (by show ¬ j < 0; omega)⟩⟩, ⟨i_ro.2.1, fun j hj => absurd hj (by show ¬ j < 0; omega)⟩, ⟨i_ro.2.2.1, fun j hj => absurd hj (by show ¬ j < 0; omega)⟩, ⟨i_ro.2.2.2, fun j hj => absurd hj (by show ¬ j < 0; omega)⟩⟩, ⟨⟨rfl, rfl, rfl⟩, i_ok, by decide, ⟨by decide, fun j hj => absurd hj (by show ¬ j < 0; omega)⟩, ⟨by decide, fun j hj => absurd hj (by show ¬ j < 0; omega)⟩, ⟨by decide, fun j hj => absurd hj (by show ¬ j < 0; omega)⟩⟩, ?_⟩
  obtain ⟨a1, a2, a3, a4, a5, a6, a7, a8, a9⟩ := i_i
  refine ⟨⟨fun o k ho => rfl, fun k => rfl, i_k.1, i_k.2.1, i_k.2.2⟩, ⟨false, a1, a2, fun z => by cases z⟩, ⟨0, by decide, a3, a4, ⟨Or.inl i_rf.1, Or.inl i_rs.2.1⟩, ⟨Or.inr (Or.inl i_rf.2), Or.inl a5⟩, fun k hk => absurd hk (by omega)⟩, ⟨0, by decide, a6, a7, fun j hj => absurd hj (by omega)⟩, fun t ht => ⟨⟨-1, 0, by decide, by decide, fun _ => rfl, (i_p t ht).1, (i_p t ht).2.1, (i_p t ht).2.2.1, (i_p t ht).2.2.2⟩, fun j hj => i_l t ht j hj⟩, ⟨0, by decide, a8, a9, fun j hj => absurd hj (by omega)⟩⟩
