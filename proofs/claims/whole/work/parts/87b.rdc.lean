/-! ===== law: the class's reader: a sign, one of, a number, a test ===== -/
def pcC (l o k : Nat) : Prop := (o = 3 ∧ k = 2) ∨ (o = l ∧ k = 6) ∨ o = l + 4
def Bs (μ0 : x_M) (l : Nat) (T : Nat → Nat) (Ln : Nat) : Prop := (Kst μ0 ∧ l ∈ lawIds ∧ 400 ≤ l) ∧ TxC μ0 T Ln
def Ps (T : Nat → Nat) (Ln l : Nat) (μ0 μ : x_M) (p : Nat) (tk : List Tok) : Prop := frC (pcC l) μ0 μ ∧ (μ.1 3 2 = Int32.ofNat p ∧ p ≤ Ln) ∧ (μ.1 l 6 = Int32.ofNat tk.length ∧ SegI (μ.1 (l + 4)) encC 0 tk) ∧ tk.length ≤ p
abbrev dg (T : Nat → Nat) (Ln q : Nat) : Prop := 48 ≤ tx T Ln q ∧ tx T Ln q ≤ 57
theorem SegI_cg {f g : Nat → Int32} {enc : Tok → Int32} : ∀ {ts : List Tok} {o : Nat}, (∀ j, o ≤ j → j < o + ts.length → g j = f j) → SegI f enc o ts → SegI g enc o ts
  | [], _, _, _ => True.intro
  | t :: r, o, h, q => ⟨by rw [h o (Nat.le_refl _) (by show o < o + (r.length + 1); omega)]; exact q.1, SegI_cg (fun j p1 p2 => h j (by omega) (by show j < o + (r.length + 1); omega)) q.2⟩
theorem SegI_ap {f : Nat → Int32} {enc : Tok → Int32} : ∀ {a b : List Tok} {o : Nat}, SegI f enc o (a ++ b) ↔ SegI f enc o a ∧ SegI f enc (o + a.length) b
  | [], b, o => ⟨fun h => ⟨True.intro, h⟩, fun h => h.2⟩
  | t :: r, b, o => by
    have ih := SegI_ap (f := f) (enc := enc) (a := r) (b := b) (o := o + 1)
    have e : o + (t :: r).length = o + 1 + r.length := by show o + (r.length + 1) = _; omega
    rw [e]
    exact ⟨fun h => ⟨⟨h.1, (ih.mp h.2).1⟩, (ih.mp h.2).2⟩, fun h => ⟨h.1.1, ih.mpr ⟨h.1.2, h.2⟩⟩⟩
theorem tx_lt {T : Nat → Nat} {Ln p c : Nat} (h : tx T Ln p = c) (hc : c ≤ 127) : p < Ln ∧ T p = c := by
  unfold tx at h
  by_cases q : p < Ln
  · rw [if_pos q] at h; exact ⟨q, h⟩
  · rw [if_neg q] at h; omega
section RDC
variable {ad : Nat → Nat} {D : va_G} {cA : Nat → ClassId} {μ μ0 : x_M} {T : Nat → Nat} {Ln p l : Nat} {tk : List Tok}
theorem Bs.rg (h : Bs μ0 l T Ln) : 400 ≤ l ∧ l ≤ 450 := by
  have := lawIds_r l h.1.2.1
  have := h.1.2.2
  omega
theorem Ps.B (h : Ps T Ln l μ0 μ p tk) (hB : Bs μ0 l T Ln) : Kst μ ∧ TxC μ T Ln := by
  have hl := hB.rg
  obtain ⟨⟨⟨b1, b2⟩, -⟩, t1, t2, t3⟩ := hB
  have f := h.1
  refine ⟨⟨f.Pt b1, fun o k ho => ?_⟩, t1, ?_, fun j hj => ⟨(t3 j hj).1, ?_⟩⟩
  · rw [f.2 o k (by unfold pcC; omega)]; exact b2 o k ho
  · rw [f.2 3 1 (by unfold pcC; omega)]; exact t2
  · rw [f.2 4 j (by unfold pcC; omega)]; exact (t3 j hj).2
theorem Ps.adv (h : Ps T Ln l μ0 μ p tk) (hB : Bs μ0 l T Ln) {q : Nat} (hq : q ≤ Ln) (hpq : p ≤ q) : Ps T Ln l μ0 (x_sI μ 3 2 (Int32.ofNat q)) q tk := by
  have hl := hB.rg
  obtain ⟨h1, ⟨h2, h3⟩, ⟨h4, h5⟩, h6⟩ := h
  refine ⟨h1.tr (frC.sI (Or.inl ⟨rfl, rfl⟩)), ⟨sI_in, hq⟩, ⟨?_, ?_⟩, by omega⟩
  · rw [sI_of (by omega)]; exact h4
  · exact SegI_cg (fun j _ _ => sI_of (by omega)) h5
theorem c_take1 {c : Nat} (h : Ps T Ln l μ0 μ p tk) (hB : Bs μ0 l T Ln) (hc : c ≤ 127) (ht : tx T Ln p = c) : f_X5_take (XC ad D cA) 3 (Int32.ofNat c) μ = some (1, x_sI μ 3 2 (Int32.ofNat (p + 1))) ∧ Ps T Ln l μ0 (x_sI μ 3 2 (Int32.ofNat (p + 1))) (p + 1) tk := by
  obtain ⟨hp, hT⟩ := tx_lt ht hc
  obtain ⟨kS, t1, t2, t3⟩ := h.B hB
  obtain ⟨-, ⟨h2, h3⟩, -⟩ := id h
  refine ⟨?_, h.adv hB (by omega) (by omega)⟩
  have n1 : ¬ Int32.ofNat p < 0 := iN_neg (by omega)
  have n2 : ¬ Int32.ofNat Ln ≤ Int32.ofNat p := fun z => by have := (iN_le (by omega) (by omega)).mp z; omega
  have n3 : ¬ (100 : Int32) ≤ Int32.ofNat p := fun z => by have := (geN 100 100 rfl (by decide) (by omega)).mp z; omega
  have hx : x_ix (Int32.ofNat p) 100 := iN_ix (by omega) (by omega)
  have hcl : (Int32.ofNat p).toNatClampNeg = p := iN_cl (by omega)
  have e := (t3 p hp).2
  rw [hT] at e
  unfold f_X5_take
  simp only [↓ckE, ↓ltE, ↓reduceIte, kC, lC, CK, CN, CP kS.1, Nat.reduceAdd, h2, t2, n1, n2, n3, true_or, or_true, true_and, ↓ixT hx, hcl, e, iN_s]
theorem c_take0 {c : Nat} (h : Ps T Ln l μ0 μ p tk) (hB : Bs μ0 l T Ln) (hc : c ≤ 127) (ht : ¬ tx T Ln p = c) : f_X5_take (XC ad D cA) 3 (Int32.ofNat c) μ = some (0, μ) := by
  obtain ⟨kS, t1, t2, t3⟩ := h.B hB
  obtain ⟨-, ⟨h2, h3⟩, -⟩ := id h
  have n1 : ¬ Int32.ofNat p < 0 := iN_neg (by omega)
  unfold f_X5_take
  by_cases q : p < Ln
  · have n2 : ¬ Int32.ofNat Ln ≤ Int32.ofNat p := fun z => by have := (iN_le (by omega) (by omega)).mp z; omega
    have n3 : ¬ (100 : Int32) ≤ Int32.ofNat p := fun z => by have := (geN 100 100 rfl (by decide) (by omega)).mp z; omega
    have hx : x_ix (Int32.ofNat p) 100 := iN_ix (by omega) (by omega)
    have hcl : (Int32.ofNat p).toNatClampNeg = p := iN_cl (by omega)
    obtain ⟨e0, e⟩ := t3 p q
    have ne : ¬ Int32.ofNat (T p) = Int32.ofNat c := fun z => ht (by unfold tx; rw [if_pos q]; exact (iN_inj (by omega) (by omega)).mp z)
    simp only [↓ckE, ↓ltE, ↓reduceIte, kC, lC, CK, CN, CP kS.1, Nat.reduceAdd, h2, t2, n1, n2, n3, true_or, or_true, true_and, ↓ixT hx, hcl, e, ne]
  · have n2 : Int32.ofNat Ln ≤ Int32.ofNat p := (iN_le (by omega) (by omega)).mpr (by omega)
    simp only [↓ckE, ↓ltE, ↓reduceIte, kC, CK, Nat.reduceAdd, h2, t2, n1, n2, true_or]
theorem idx999 : ∀ s, s < 7 → idx 999 (strs (811 + s)) 0 = -1 := by decide +kernel
theorem c_one {s : Nat} (h : Ps T Ln l μ0 μ p tk) (hB : Bs μ0 l T Ln) (hs : s < 7) : ∃ μ', f_X5_takeOneOf (XC ad D cA) 3 (811 + s) μ = some (Int32.ofInt (idx (tx T Ln p) (strs (811 + s)) 0), μ') ∧ Ps T Ln l μ0 μ' (if idx (tx T Ln p) (strs (811 + s)) 0 < 0 then p else p + 1) tk ∧ (0 ≤ idx (tx T Ln p) (strs (811 + s)) 0 → p < Ln) := by
  obtain ⟨kS, t1, t2, t3⟩ := h.B hB
  obtain ⟨-, ⟨h2, h3⟩, -⟩ := id h
  have k1 := (sK s hs).1.1
  have n4 : (-1 : Int32) < 0 := by decide
  unfold f_X5_takeOneOf
  by_cases q : p < Ln
  · have n2 : ¬ Int32.ofNat Ln ≤ Int32.ofNat p := fun z => by have := (iN_le (by omega) (by omega)).mp z; omega
    have e1 := t_at (ad := ad) (D := D) (cA := cA) (h.B hB).2 q
    have hTp := (t3 p q).1
    have e2 := s_idx (ad := ad) (D := D) (cA := cA) kS hs hTp
    have e3 := (ch16 (T p) hTp).1
    have ex : tx T Ln p = T p := by unfold tx; rw [if_pos q]
    have hb := idx_ge (T p) (strs (811 + s)) 0
    have hlen := (sK s hs).2.2.2.1
    rw [ex]
    by_cases z : idx (T p) (strs (811 + s)) 0 < 0
    · have z' : Int32.ofInt (idx (T p) (strs (811 + s)) 0) < 0 := (ltI 0 0 rfl (by omega) (by decide)).mpr z
      refine ⟨μ, ?_, by rw [if_pos z]; exact h, fun _ => q⟩
      simp only [↓ckE, ↓ltE, ↓reduceIte, kC, CK, CP kS.1, Nat.reduceAdd, h2, t2, n2, e1, bdE, k1, e3, e2, z']
    · have z' : ¬ Int32.ofInt (idx (T p) (strs (811 + s)) 0) < 0 := fun g => z ((ltI 0 0 rfl (by omega) (by decide)).mp g)
      refine ⟨x_sI μ 3 2 (Int32.ofNat (p + 1)), ?_, by rw [if_neg z]; exact h.adv hB (by omega) (by omega), fun _ => q⟩
      simp only [↓ckE, ↓ltE, ↓reduceIte, kC, CK, CP kS.1, Nat.reduceAdd, h2, t2, n2, e1, bdE, k1, e3, e2, z', iN_s]
  · have n2 : Int32.ofNat Ln ≤ Int32.ofNat p := (iN_le (by omega) (by omega)).mpr (by omega)
    have ex : tx T Ln p = 999 := by unfold tx; rw [if_neg q]
    rw [ex, idx999 s hs]
    refine ⟨μ, ?_, by rw [if_pos (by decide)]; exact h, fun z => absurd z (by decide)⟩
    simp only [↓ckE, ↓reduceIte, kC, CK, Nat.reduceAdd, h2, t2, n2, n4]
    rfl
end RDC
