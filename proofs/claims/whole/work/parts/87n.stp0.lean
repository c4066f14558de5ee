/-! ===== law: the steps behind an operand ===== -/
section STP0
variable {ad : Nat → Nat} {D : va_G} {cA : Nat → ClassId} {ν ν0 : x_M} {T : Nat → Nat} {Ln p B0 ci F : Nat} {st : List Nat} {tk : List Tok}
theorem Pq.pushO {c : Nat} (h : Pq T Ln B0 ν0 ν p st tk) (hc : c = 38 ∨ c = 124) (hp : p + 1 ≤ Ln) : Pq T Ln B0 ν0 (x_sI (x_sI (x_sI ν 624 st.length (Int32.ofNat c)) 600 25 (Int32.ofNat (st.length + 1))) 600 14 (Int32.ofNat (p + 1))) (p + 1) (c :: st) tk := by
  obtain ⟨h1, ⟨h2, h3⟩, ⟨h4, h5, h6⟩, ⟨h7, h8, h9⟩, h10⟩ := h
  have hcn : cnt (c :: st) = cnt st := by show (if c = 40 ∨ c = 33 then 1 else 0) + cnt st = _; rw [if_neg (by omega)]; omega
  refine ⟨((h1.tr (frC.sI (Or.inr (Or.inl rfl)))).tr (frC.sI (Or.inl ⟨rfl, by omega⟩))).tr (frC.sI (Or.inl ⟨rfl, by omega⟩)), ⟨sI_in, hp⟩, ⟨?_, SegI_cg (fun j _ _ => by rw [sI_of (by omega), sI_of (by omega), sI_of (by omega)]) h5, fun j hj => ?_⟩, ⟨?_, ⟨⟨?_, by omega⟩, PS_cg (fun j hj => by rw [sI_of (by omega), sI_of (by omega), sI_of (by omega)]) h8⟩, ?_⟩, by show tk.length + (st.length + 1) ≤ p + 1; omega⟩
  · rw [sI_of (by omega), sI_of (by omega), sI_of (by omega)]; exact h4
  · rw [sI_of (by omega), sI_of (by omega), sI_of (by omega)]; exact h6 j hj
  · rw [sI_of (by omega)]; exact sI_in
  · rw [sI_of (by omega), sI_of (by omega)]; exact sI_in
  · rw [sI_of (by omega), sI_of (by omega), sI_of (by omega), hcn]; exact h9
theorem m0_op {c : Nat} (h : E0 T Ln B0 ci ν0 ν p st tk) (hB : Br ν0 T Ln) (hb : B0 ≤ 500) (hcc : c = 38 ∨ c = 124) (ht : tx T Ln p = c) : ∃ ν', f_X10_takesE_L22 (XR ad D cA) (F + 1) 600 (Int32.ofNat ci) 0 ν = f_X10_takesE_L22 (XR ad D cA) F 600 (Int32.ofNat ci) 1 ν' ∧ E0 T Ln B0 ci ν0 ν' (p + 1) (c :: sps c st) (tk ++ sts c st) := by
  obtain ⟨ν1, f, h⟩ := h
  have hB1 := hB.b f
  have hL : Ln ≤ 100 := hB.2.1.1
  have hc : c ≤ 127 := by omega
  have l1 := tx_le ht hc
  have e := r_next (ad := ad) (D := D) (cA := cA) h hB1
  rw [(nx_eq (fun j hj => (hB.2.1.2.2 j hj).1) hc).mpr ht] at e
  have hh := h.2.2.2.2
  have hp := h.2.1.2
  obtain ⟨ν2, e2, h2⟩ := r_setL (ad := ad) (D := D) (cA := cA) hB1 hb c hc st 4096 ν tk (by omega) h
  obtain ⟨bP, -⟩ := h2.B hB1
  have hh2 := h2.2.2.2.2
  have h14 := h2.2.1.1
  have h25 := h2.2.2.2.1.1
  have hx : x_ix (Int32.ofNat (sps c st).length) 101 := iN_ix (by omega) (by omega)
  have hcl : (Int32.ofNat (sps c st).length).toNatClampNeg = (sps c st).length := iN_cl (by omega)
  have a25 : (x_sI ν2 624 (sps c st).length (Int32.ofNat c)).1 600 25 = Int32.ofNat (sps c st).length := by rw [sI_of (by omega)]; exact h25
  have a14 : (x_sI (x_sI ν2 624 (sps c st).length (Int32.ofNat c)) 600 25 (Int32.ofNat ((sps c st).length + 1))).1 600 14 = Int32.ofNat p := by rw [sI_of (by omega), sI_of (by omega)]; exact h14
  refine ⟨_, ?_, ν1, f, h2.pushO hcc l1⟩
  have w01 : ∀ (X Y : Option (Int32 × x_M)), (if Int32.ofNat c = 38 then X else (if Int32.ofNat c = 124 then X else Y)) = X := fun X Y => by
    rcases hcc with rfl | rfl
    · exact if_pos rfl
    · exact (if_neg (by decide)).trans (if_pos rfl)
  conv => lhs; unfold f_X10_takesE_L22
  simp only [↓ckE, ↓reduceIte, kR, RK, Nat.reduceAdd, e, bdE, w01]
  unfold f_X10_takesE_J122 f_X10_settle
  simp only [↓ckE, ↓ltE, ↓reduceIte, kR, lR, RK, RN, sI_2, RP bP, Nat.reduceAdd, e2, bdE, h25, true_and, ↓ixT hx, hcl, a25, iN_s, a14]
theorem Pq.w622 {v : Int32} (h : Pq T Ln B0 ν0 ν p st tk) : Pq T Ln B0 (x_sI ν0 622 ci v) (x_sI ν 622 ci v) p st tk := by
  obtain ⟨⟨r1, h1⟩, ⟨h2, h3⟩, ⟨h4, h5, h6⟩, ⟨h7, h8, h9⟩, h10⟩ := h
  refine ⟨⟨r1, fun o k z => ?_⟩, ⟨?_, h3⟩, ⟨?_, SegI_cg (fun j _ _ => sI_of (by omega)) h5, fun j hj => ?_⟩, ⟨?_, PS_cg (fun j _ => sI_of (by omega)) h8, ?_⟩, h10⟩
  · by_cases y : o = 622 ∧ k = ci
    · rw [y.1, y.2, sI_in, sI_in]
    · rw [sI_of y, sI_of y]; exact h1 o k z
  · rw [sI_of (by omega)]; exact h2
  · rw [sI_of (by omega)]; exact h4
  · rw [sI_of (by omega), sI_of (by omega)]; exact h6 j hj
  · rw [sI_of (by omega)]; exact h7
  · rw [sI_of (by omega)]; exact h9
theorem m0_end (h : E0 T Ln B0 ci ν0 ν p st tk) (hB : Br ν0 T Ln) (hb : B0 ≤ 500) (hci : ci < 60) (n38 : ¬ tx T Ln p = 38) (n124 : ¬ tx T Ln p = 124) : ∃ ν', E0 T Ln B0 ci ν0 ν' p (sps 124 st) (tk ++ sts 124 st) ∧ ν'.1 622 ci = Int32.ofNat (B0 + (tk ++ sts 124 st).length) ∧ (sps 124 st = [] → f_X10_takesE_L22 (XR ad D cA) (F + 1) 600 (Int32.ofNat ci) 0 ν = some (1, ν')) ∧ (sps 124 st ≠ [] → ¬ tx T Ln p = 41 → f_X10_takesE_L22 (XR ad D cA) (F + 1) 600 (Int32.ofNat ci) 0 ν = some (0, ν')) ∧ ∀ r, sps 124 st = 40 :: r → tx T Ln p = 41 → ∃ ν'', f_X10_takesE_L22 (XR ad D cA) (F + 1) 600 (Int32.ofNat ci) 0 ν = f_X10_takesE_L22 (XR ad D cA) F 600 (Int32.ofNat ci) 0 ν'' ∧ E0 T Ln B0 ci ν0 ν'' (p + 1) (stp r) (tk ++ sts 124 st ++ nts r) := by
  obtain ⟨ν1, f, h⟩ := h
  have hB1 := hB.b f
  have hL : Ln ≤ 100 := hB.2.1.1
  have hT : ∀ j, j < Ln → T j ≤ 127 := fun j hj => (hB.2.1.2.2 j hj).1
  have e := r_next (ad := ad) (D := D) (cA := cA) h hB1
  have m38 : ¬ nx T Ln p = 38 := fun z => n38 ((nx_eq hT (by omega)).mp z)
  have m124 : ¬ nx T Ln p = 124 := fun z => n124 ((nx_eq hT (by omega)).mp z)
  have hh := h.2.2.2.2
  have hp := h.2.1.2
  obtain ⟨ν2, e2, h2⟩ := r_setL (ad := ad) (D := D) (cA := cA) hB1 hb 124 (by omega) st 4096 ν tk (by omega) h
  have e2' : f_X10_settle_L0 (XR ad D cA) 4096 600 124 ν = some ((), ν2) := e2
  obtain ⟨bP, -⟩ := h2.B hB1
  have hh2 := h2.2.2.2.2
  have h24 := h2.2.2.1.1
  have hx : x_ix (Int32.ofNat ci) 60 := iN_ix (by omega) (by omega)
  have hcl : (Int32.ofNat ci).toNatClampNeg = ci := iN_cl (by omega)
  have h3 := h2.w622 (ci := ci) (v := Int32.ofNat (B0 + (tk ++ sts 124 st).length))
  have f3 : (x_sI ν1 622 ci (Int32.ofNat (B0 + (tk ++ sts 124 st).length))).2 = ν0.2 ∧ ∀ o k, ¬ (o = 622 ∧ k = ci) → (x_sI ν1 622 ci (Int32.ofNat (B0 + (tk ++ sts 124 st).length))).1 o k = ν0.1 o k := ⟨f.1, fun o k z => by rw [sI_of z]; exact f.2 o k z⟩
  have h25 := h3.2.2.2.1.1
  refine ⟨x_sI ν2 622 ci (Int32.ofNat (B0 + (tk ++ sts 124 st).length)), ⟨_, f3, h3⟩, sI_in, fun es => ?_, fun es n41 => ?_, fun r es t41 => ?_⟩
  · rw [es] at h25
    have h25' : (x_sI ν2 622 ci (Int32.ofNat (B0 + (tk ++ sts 124 st).length))).1 600 25 = 0 := h25
    conv => lhs; unfold f_X10_takesE_L22
    unfold f_X10_settle
    simp only [↓ckE, ↓ltE, ↓reduceIte, kR, lR, RK, RN, RP bP, Nat.reduceAdd, e, bdE, m38, m124, e2', h24, true_and, ↓ixT hx, hcl, h25', or_true]
  · have n0 : ¬ (x_sI ν2 622 ci (Int32.ofNat (B0 + (tk ++ sts 124 st).length))).1 600 25 = 0 := fun z => by
      rw [h25] at z
      have := (eqN 0 0 rfl (by omega) (by decide)).mp z
      exact es (List.eq_nil_of_length_eq_zero this)
    have m41 : ¬ nx T Ln p = 41 := fun z => n41 ((nx_eq hT (by omega)).mp z)
    conv => lhs; unfold f_X10_takesE_L22
    unfold f_X10_settle
    simp only [↓ckE, ↓ltE, ↓reduceIte, kR, lR, RK, RN, RP bP, Nat.reduceAdd, e, bdE, m38, m124, e2', h24, true_and, ↓ixT hx, hcl, n0, m41, true_or]
  · have m410 : nx T Ln p = Int32.ofNat 41 := (nx_eq hT (by omega)).mpr t41
    have m41 : nx T Ln p = 41 := m410
    have l1 := tx_le t41 (by omega)
    rw [es] at h25 h3 hh2
    have hlen : (40 :: r).length = r.length + 1 := rfl
    rw [hlen] at h25 hh2
    have n0 : ¬ Int32.ofNat (r.length + 1) = 0 := fun z => by have := (eqN 0 0 rfl (by omega) (by decide)).mp z; omega
    have e1 : Int32.ofNat (r.length + 1) - (1 : Int32) = Int32.ofNat r.length := by rw [show (1 : Int32) = Int32.ofNat 1 from rfl, iN_sub (by omega)]; rfl
    have hcn : cnt (40 :: r) = cnt r + 1 := by show (if (40 : Nat) = 40 ∨ 40 = 33 then 1 else 0) + cnt r = _; rw [if_pos (Or.inl rfl)]; omega
    obtain ⟨w, hw⟩ : ∃ w : x_M, w = x_sI ν2 622 ci (Int32.ofNat (B0 + (tk ++ sts 124 st).length)) := ⟨_, rfl⟩
    rw [← hw] at h25 h3
    obtain ⟨u1, ⟨u2, u3⟩, ⟨u4, u5, u6⟩, ⟨u7, u8, u9⟩, u10⟩ := h3
    rw [hcn] at u9
    have k26 : (x_sI w 600 25 (Int32.ofNat r.length)).1 600 26 = Int32.ofNat (cnt r + 1) := by rw [sI_of (by omega)]; exact u9
    have e3 : Int32.ofNat (cnt r + 1) - (1 : Int32) = Int32.ofNat (cnt r) := by rw [show (1 : Int32) = Int32.ofNat 1 from rfl, iN_sub (by omega)]; rfl
    have k14 : (x_sI (x_sI w 600 25 (Int32.ofNat r.length)) 600 26 (Int32.ofNat (cnt r))).1 600 14 = Int32.ofNat p := by rw [sI_of (by omega), sI_of (by omega)]; exact u2
    have hn : Pq T Ln B0 (x_sI ν1 622 ci (Int32.ofNat (B0 + (tk ++ sts 124 st).length))) (x_sI (x_sI (x_sI w 600 25 (Int32.ofNat r.length)) 600 26 (Int32.ofNat (cnt r))) 600 14 (Int32.ofNat (p + 1))) (p + 1) r (tk ++ sts 124 st) := by
      refine ⟨((u1.tr (frC.sI (Or.inl ⟨rfl, by omega⟩))).tr (frC.sI (Or.inl ⟨rfl, by omega⟩))).tr (frC.sI (Or.inl ⟨rfl, by omega⟩)), ⟨sI_in, l1⟩, ⟨?_, SegI_cg (fun j _ _ => by rw [sI_of (by omega), sI_of (by omega), sI_of (by omega)]) u5, fun j hj => ?_⟩, ⟨?_, PS_cg (fun j _ => by rw [sI_of (by omega), sI_of (by omega), sI_of (by omega)]) u8.2, ?_⟩, by omega⟩
      · rw [sI_of (by omega), sI_of (by omega), sI_of (by omega)]; exact u4
      · rw [sI_of (by omega), sI_of (by omega), sI_of (by omega)]; exact u6 j hj
      · rw [sI_of (by omega), sI_of (by omega)]; exact sI_in
      · rw [sI_of (by omega)]; exact sI_in
    obtain ⟨ν5, e5, h5⟩ := r_wholeL (ad := ad) (D := D) (cA := cA) (hB.b f3) hb r 4096 _ _ (by omega) hn
    refine ⟨ν5, ?_, _, f3, h5⟩
    conv => lhs; unfold f_X10_takesE_L22
    unfold f_X10_settle f_X10_whole
    simp only [↓ckE, ↓ltE, ↓reduceIte, kR, lR, RK, RN, RP bP, Nat.reduceAdd, e, bdE, m38, m124, e2', h24, true_and, ↓ixT hx, hcl, ← hw, h25, n0, m41, show ¬ (41 : Int32) = 38 from by decide, show ¬ (41 : Int32) = 124 from by decide, e1, k26, e3, k14, iN_s, e5]
end STP0
