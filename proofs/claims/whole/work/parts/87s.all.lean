/-! ===== law: the reference's whole expression ===== -/
section ALL
variable {ad : Nat → Nat} {D : va_G} {cA : Nat → ClassId} {ν ν0 : x_M} {T : Nat → Nat} {Ln p ci B0 : Nat} {tk : List Tok}
/-- where an expression begins -/
def exB (ν : x_M) (ci : Nat) (v : Int32) : x_M := x_sI (x_sI (x_sI ν 600 25 0) 600 26 0) 621 ci v
theorem r_all (h : Hq T Ln ν0 ν p) (hB : Br ν0 T Ln) (hb : B0 ≤ 500) (hci : ci < 60) (h24 : ν.1 600 24 = Int32.ofNat (B0 + tk.length)) (h623 : SegI (ν.1 623) encR B0 tk) (hl : tk.length ≤ p) : (∃ a ν3, (exS T Ln FU 0 0 p).2 = some a ∧ f_X10_takesE (XR ad D cA) 600 (Int32.ofNat ci) ν = some (1, ν3) ∧ E0 T Ln B0 ci (exB ν ci (Int32.ofNat (B0 + tk.length))) ν3 (exS T Ln FU 0 0 p).1 [] (tk ++ a) ∧ ν3.1 622 ci = Int32.ofNat (B0 + (tk ++ a).length)) ∨ ∃ ν3 st' tk', (exS T Ln FU 0 0 p).2 = none ∧ f_X10_takesE (XR ad D cA) 600 (Int32.ofNat ci) ν = some (0, ν3) ∧ E0 T Ln B0 ci (exB ν ci (Int32.ofNat (B0 + tk.length))) ν3 (exS T Ln FU 0 0 p).1 st' tk' := by
  obtain ⟨bP, b3, b4, b5⟩ := h.B hB
  have hL : Ln ≤ 100 := hB.2.1.1
  have hp := h.2.1.2
  have hx : x_ix (Int32.ofNat ci) 60 := iN_ix (by omega) (by omega)
  have hcl : (Int32.ofNat ci).toNatClampNeg = ci := iN_cl (by omega)
  have off : ∀ o k, ¬ (o = 600 ∧ (k = 25 ∨ k = 26)) → ¬ (o = 621 ∧ k = ci) → (exB ν ci (Int32.ofNat (B0 + tk.length))).1 o k = ν.1 o k := fun o k y1 y2 => by
    unfold exB
    rw [sI_of y2, sI_of (by omega), sI_of (by omega)]
  have hBs : Br (exB ν ci (Int32.ofNat (B0 + tk.length))) T Ln := by
    refine ⟨fun o k => bP o k, ⟨hL, ?_, fun j hj => ⟨(b4 j hj).1, ?_⟩⟩, fun k => ?_⟩
    · rw [off _ _ (by omega) (by omega)]; exact b3
    · rw [off _ _ (by omega) (by omega)]; exact (b4 j hj).2
    · rw [off _ _ (by omega) (by omega)]; exact b5 k
  have e25 : (exB ν ci (Int32.ofNat (B0 + tk.length))).1 600 25 = Int32.ofNat 0 := by
    unfold exB
    rw [sI_of (by omega), sI_of (by omega)]; exact sI_in
  have e26 : (exB ν ci (Int32.ofNat (B0 + tk.length))).1 600 26 = Int32.ofNat 0 := by
    unfold exB
    rw [sI_of (by omega)]; exact sI_in
  have P : Pq T Ln B0 (exB ν ci (Int32.ofNat (B0 + tk.length))) (exB ν ci (Int32.ofNat (B0 + tk.length))) p [] tk := by
    refine ⟨frC.rf, ⟨?_, hp⟩, ⟨?_, SegI_cg (fun j _ _ => off _ _ (by omega) (by omega)) h623, fun j _ => rfl⟩, ⟨e25, True.intro, e26⟩, hl⟩
    · rw [off _ _ (by omega) (by omega)]; exact h.2.1.1
    · rw [off _ _ (by omega) (by omega)]; exact h24
  have E : E0 T Ln B0 ci (exB ν ci (Int32.ofNat (B0 + tk.length))) (exB ν ci (Int32.ofNat (B0 + tk.length))) p [] tk := ⟨_, ⟨rfl, fun _ _ _ => rfl⟩, P⟩
  have k24 : (x_sI (x_sI ν 600 25 0) 600 26 0).1 600 24 = Int32.ofNat (B0 + tk.length) := by rw [sI_of (by omega), sI_of (by omega)]; exact h24
  have eS : f_X10_takesE (XR ad D cA) 600 (Int32.ofNat ci) ν = f_X10_takesE_L22 (XR ad D cA) 4096 600 (Int32.ofNat ci) 1 (exB ν ci (Int32.ofNat (B0 + tk.length))) := by
    unfold f_X10_takesE
    simp only [↓ckE, ↓ltE, ↓reduceIte, kR, lR, RK, RN, sI_2, RP bP, Nat.reduceAdd, true_and, ↓ixT hx, hcl, k24]
    rfl
  rw [eS]
  have fu : 5 * (Ln + 1 - p) + 3 ≤ FU := by unfold FU; omega
  rcases (r_expr (ad := ad) (D := D) (cA := cA) hBs hb hci FU).2.2.2.1 p [] tk _ 4096 (Or.inl rfl) E (by show (0 : Nat) ≤ 4; omega) (by omega) fu with ⟨a, b, e, tk', ν2, F', ea, e2, f2, h2, t2, n38, n124⟩ | ⟨ea, ν2, st', tk', e2, h2⟩
  · rw [e2]
    have l2 := h2.le
    have l3 : (exS T Ln FU 0 (cnt []) p).1 ≤ Ln := l2
    obtain ⟨F', rfl⟩ : ∃ m, F' = m + 1 := ⟨F' - 1, by omega⟩
    obtain ⟨-, -, -, -, -, p6, p7⟩ := pnd_c (b := b) (e := e) (st := []) (Or.inl rfl)
    obtain ⟨ν3, h3, k3, g1, -, -⟩ := m0_end (ad := ad) (D := D) (cA := cA) (F := F') h2 hBs hb hci n38 n124
    rw [p6, p7, t2] at h3
    rw [p7, t2] at k3
    exact Or.inl ⟨a, ν3, ea, g1 p6, h3, k3⟩
  · exact Or.inr ⟨ν2, st', tk', ea, e2, h2⟩
end ALL
