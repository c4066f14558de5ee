/-! ===== law: the reference's pile, tests ===== -/
theorem sw_map {α β : Type} (f : α → β) {x : Int32} {d : α} : ∀ (vs : List Int32) (ks : List α), x_swo vs (ks.map f) (f d) x = f (x_swo vs ks d x)
  | [], [] => rfl
  | [], _ :: _ => rfl
  | _ :: _, [] => rfl
  | v :: vs, k :: ks => by
    show x_swo (v :: vs) (f k :: ks.map f) (f d) x = f (x_swo (v :: vs) (k :: ks) d x)
    rw [swE, swE, sw_map f vs ks]
    by_cases q : x = v
    · rw [if_pos q, if_pos q]
    · rw [if_neg q, if_neg q]
def plc (x : Int32) : Int32 := x_swo [(97 : Int32), (98 : Int32), (99 : Int32), (100 : Int32), (101 : Int32), (102 : Int32), (103 : Int32), (104 : Int32), (105 : Int32), (106 : Int32), (107 : Int32), (108 : Int32), (109 : Int32)] [(3 : Int32), (5 : Int32), (-1 : Int32), (0 : Int32), (-1 : Int32), (-1 : Int32), (-1 : Int32), (-1 : Int32), (-1 : Int32), (-1 : Int32), (4 : Int32), (2 : Int32), (1 : Int32)] (-1 : Int32) x
theorem plc_v : (∀ c, c ≤ 127 → plc (Int32.ofNat c) = Int32.ofInt (idx c (strs (811 + 5)) 0)) ∧ plc (-1) = Int32.ofInt (-1) := by decide +kernel
theorem rel_v : ∀ c, c ≤ 127 → idx c (strs (811 + 6)) 0 = if 60 ≤ c ∧ c ≤ 62 then (c : Int) - 60 else -1 := by decide +kernel
def stp : List Nat → List Nat
  | [] => []
  | b :: r => if b = 33 then stp r else b :: r
def nts : List Nat → List Tok
  | [] => []
  | b :: r => if b = 33 then (1, 0, 0, 0) :: nts r else []
/-- what is settled ahead of a sign -/
def sps (c : Nat) : List Nat → List Nat
  | [] => []
  | b :: r => if b = 38 then sps c r else if b = 124 then (if c = 38 then b :: r else sps c r) else b :: r
def sts (c : Nat) : List Nat → List Tok
  | [] => []
  | b :: r => if b = 38 then (2, 0, 0, 0) :: sts c r else if b = 124 then (if c = 38 then [] else (3, 0, 0, 0) :: sts c r) else []
section PIL
variable {ad : Nat → Nat} {D : va_G} {cA : Nat → ClassId} {ν ν0 : x_M} {T : Nat → Nat} {Ln p B0 : Nat} {st : List Nat} {tk : List Tok}
theorem r_place (x : Int32) : f_X10_place (XR ad D cA) 600 x ν = some (plc x, ν) := by
  unfold f_X10_place plc
  exact sw_map (fun v => some (v, ν)) _ [(3 : Int32), (5 : Int32), (-1 : Int32), (0 : Int32), (-1 : Int32), (-1 : Int32), (-1 : Int32), (-1 : Int32), (-1 : Int32), (-1 : Int32), (4 : Int32), (2 : Int32), (1 : Int32)]
/-- a sign is written, the pile may be lower -/
theorem r_emit {t : Tok} {st' : List Nat} {a b c : Int32} (h : Pq T Ln B0 ν0 ν p st tk) (hB : Br ν0 T Ln) (hb : B0 ≤ 500) (ht : tk.length + 1 ≤ 100) : ∃ ν', f_X10_emits (XR ad D cA) 600 (encR t) ν = some ((), ν') ∧ (ν'.2 = ν.2 ∧ frC pcR ν ν') ∧ (ν'.1 600 24 = Int32.ofNat (B0 + (tk ++ [t]).length) ∧ SegI (ν'.1 623) encR B0 (tk ++ [t]) ∧ ∀ j, (j < B0 ∨ B0 + 100 ≤ j) → ν'.1 623 j = ν0.1 623 j) ∧ ∀ o k, ¬ (o = 623) → ¬ (o = 600 ∧ k = 24) → ν'.1 o k = ν.1 o k := by
  obtain ⟨bP, -⟩ := h.B hB
  obtain ⟨h1, ⟨h2, h3⟩, ⟨h4, h5, h6⟩, -⟩ := h
  have hx : x_ix (Int32.ofNat (B0 + tk.length)) 600 := iN_ix (by omega) (by omega)
  have hcl : (Int32.ofNat (B0 + tk.length)).toNatClampNeg = B0 + tk.length := iN_cl (by omega)
  have e24 : (x_sI ν 623 (B0 + tk.length) (encR t)).1 600 24 = Int32.ofNat (B0 + tk.length) := by rw [sI_of (by omega)]; exact h4
  refine ⟨x_sI (x_sI ν 623 (B0 + tk.length) (encR t)) 600 24 (Int32.ofNat (B0 + tk.length + 1)), ?_, ⟨rfl, (frC.sI (Or.inr (Or.inr rfl))).tr (frC.sI (Or.inl ⟨rfl, by omega⟩))⟩, ⟨?_, ?_, fun j hj => ?_⟩, fun o k y1 y2 => ?_⟩
  · unfold f_X10_emits
    simp only [↓ckE, ↓ltE, ↓reduceIte, kR, lR, RK, RN, RP bP, Nat.reduceAdd, h4, true_and, ↓ixT hx, hcl, e24, iN_s]
  · rw [sI_in, List.length_append]; rfl
  · refine SegI_ap.mpr ⟨SegI_cg (fun j j1 j2 => ?_) h5, ?_, True.intro⟩
    · rw [sI_of (by omega), sI_of (by omega)]
    · rw [sI_of (by omega)]; exact sI_in
  · rw [sI_of (by omega), sI_of (by omega)]; exact h6 j hj
  · rw [sI_of y2, sI_of (fun z => y1 z.1)]
/-- whole: the nots on the pile are written -/
theorem r_wholeL (hB : Br ν0 T Ln) (hb : B0 ≤ 500) : ∀ (st : List Nat) (F : Nat) (ν : x_M) (tk : List Tok), st.length < F → Pq T Ln B0 ν0 ν p st tk → ∃ ν', f_X10_whole_L0 (XR ad D cA) F 600 ν = some ((), ν') ∧ Pq T Ln B0 ν0 ν' p (stp st) (tk ++ nts st) := by
  intro st
  have hL : Ln ≤ 100 := hB.2.1.1
  induction st with
  | nil =>
    intro F ν tk hF h
    obtain ⟨F, rfl⟩ : ∃ n, F = n + 1 := ⟨F - 1, by omega⟩
    have h25 : ν.1 600 25 = 0 := h.2.2.2.1.1
    refine ⟨ν, ?_, by show Pq T Ln B0 ν0 ν p [] (tk ++ []); rw [List.append_nil]; exact h⟩
    unfold f_X10_whole_L0
    simp only [↓ckE, ↓reduceIte, kR, RK, Nat.reduceAdd, h25, show (0 : Int32) ≤ 0 from by decide]
  | cons b r ih =>
    intro F ν tk hF h
    obtain ⟨F, rfl⟩ : ∃ n, F = n + 1 := ⟨F - 1, by omega⟩
    have hlen : (b :: r).length = r.length + 1 := rfl
    obtain ⟨bP, -⟩ := h.B hB
    obtain ⟨h1, ⟨h2, h3⟩, ⟨h4, h5, h6⟩, ⟨h7, ⟨⟨h8, h8'⟩, h8r⟩, h9⟩, h10⟩ := id h
    rw [hlen] at h7 h10 hF
    have n0 : ¬ Int32.ofNat (r.length + 1) ≤ 0 := fun z => by have := (leN 0 0 rfl (by omega) (by decide)).mp z; omega
    have e1 : Int32.ofNat (r.length + 1) - (1 : Int32) = Int32.ofNat r.length := by rw [show (1 : Int32) = Int32.ofNat 1 from rfl, iN_sub (by omega)]; rfl
    have hx : x_ix (Int32.ofNat r.length) 101 := iN_ix (by omega) (by omega)
    have hcl : (Int32.ofNat r.length).toNatClampNeg = r.length := iN_cl (by omega)
    by_cases q : b = 33
    · subst q
      have hc : cnt (33 :: r) = cnt r + 1 := by show (if (33 : Nat) = 40 ∨ 33 = 33 then 1 else 0) + cnt r = _; rw [if_pos (Or.inr rfl)]; omega
      rw [hc] at h9
      obtain ⟨ν1, e2, ⟨f1, f1'⟩, ⟨g1, g2, g3⟩, g4⟩ := r_emit (ad := ad) (D := D) (cA := cA) (t := (1, 0, 0, 0)) (st' := r) (a := 0) (b := 0) (c := 0) h hB hb (by omega)
      have e2' : f_X10_emits (XR ad D cA) 600 (-33) ν = some ((), ν1) := e2
      have k25 : ν1.1 600 25 = Int32.ofNat (r.length + 1) := by rw [g4 600 25 (by omega) (by omega)]; exact h7
      have k26 : (x_sI ν1 600 25 (Int32.ofNat r.length)).1 600 26 = Int32.ofNat (cnt r + 1) := by rw [sI_of (by omega), g4 600 26 (by omega) (by omega)]; exact h9
      have e3 : Int32.ofNat (cnt r + 1) - (1 : Int32) = Int32.ofNat (cnt r) := by rw [show (1 : Int32) = Int32.ofNat 1 from rfl, iN_sub (by omega)]; rfl
      have hn : Pq T Ln B0 ν0 (x_sI (x_sI ν1 600 25 (Int32.ofNat r.length)) 600 26 (Int32.ofNat (cnt r))) p r (tk ++ [(1, 0, 0, 0)]) := by
        refine ⟨((h1.tr f1').tr (frC.sI (Or.inl ⟨rfl, by omega⟩))).tr (frC.sI (Or.inl ⟨rfl, by omega⟩)), ⟨?_, h3⟩, ⟨?_, SegI_cg (fun j _ _ => by rw [sI_of (by omega), sI_of (by omega)]) g2, fun j hj => ?_⟩, ⟨?_, PS_cg (fun j _ => by rw [sI_of (by omega), sI_of (by omega), g4 624 j (by omega) (by omega)]) h8r, sI_in⟩, by rw [List.length_append]; simp only [List.length_cons, List.length_nil]; omega⟩
        · rw [sI_of (by omega), sI_of (by omega), g4 600 14 (by omega) (by omega)]; exact h2
        · rw [sI_of (by omega), sI_of (by omega)]; exact g1
        · rw [sI_of (by omega), sI_of (by omega)]; exact g3 j hj
        · rw [sI_of (by omega)]; exact sI_in
      obtain ⟨ν2, e4, h11⟩ := ih F _ _ (by omega) hn
      refine ⟨ν2, ?_, ?_⟩
      · unfold f_X10_whole_L0
        simp only [↓ckE, ↓ltE, ↓reduceIte, kR, lR, RK, RN, RP bP, Nat.reduceAdd, h7, n0, e1, true_or, true_and, ↓ixT hx, hcl, h8, show Int32.ofNat 33 = (33 : Int32) from rfl, e2', bdE, k25, k26, e3, e4]
      · show Pq T Ln B0 ν0 ν2 p (if (33 : Nat) = 33 then stp r else 33 :: r) (tk ++ (if (33 : Nat) = 33 then (1, 0, 0, 0) :: nts r else []))
        rw [if_pos rfl, if_pos rfl, show tk ++ (1, 0, 0, 0) :: nts r = tk ++ [(1, 0, 0, 0)] ++ nts r from by simp]
        exact h11
    · have nb : ¬ Int32.ofNat b = 33 := fun z => q ((eqN 33 33 rfl (by omega) (by decide)).mp z)
      refine ⟨ν, ?_, ?_⟩
      · unfold f_X10_whole_L0
        simp only [↓ckE, ↓ltE, ↓reduceIte, kR, lR, RK, RN, RP bP, Nat.reduceAdd, h7, n0, e1, true_or, true_and, ↓ixT hx, hcl, h8, nb]
      · show Pq T Ln B0 ν0 ν p (if b = 33 then stp r else b :: r) (tk ++ (if b = 33 then (1, 0, 0, 0) :: nts r else []))
        rw [if_neg q, if_neg q, List.append_nil]
        exact h
end PIL
