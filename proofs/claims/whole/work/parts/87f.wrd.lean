/-! ===== law: words in the class ===== -/
def mtc (T : Nat → Nat) (Ln : Nat) : Nat → List Nat → Nat
  | _, [] => 0
  | p, b :: r => if tx T Ln p = b then mtc T Ln (p + 1) r + 1 else 0
theorem mtc_le {T : Nat → Nat} {Ln : Nat} : ∀ (r : List Nat) (p : Nat), (∀ b ∈ r, b ≤ 127) → p ≤ Ln → mtc T Ln p r ≤ r.length ∧ p + mtc T Ln p r ≤ Ln
  | [], p, _, h => ⟨Nat.le_refl _, h⟩
  | b :: r, p, hb, h => by
    show (if tx T Ln p = b then mtc T Ln (p + 1) r + 1 else 0) ≤ r.length + 1 ∧ p + (if tx T Ln p = b then mtc T Ln (p + 1) r + 1 else 0) ≤ Ln
    by_cases q : tx T Ln p = b
    · have l1 := tx_le q (hb b List.mem_cons_self)
      have := mtc_le (T := T) r (p + 1) (fun c hc => hb c (List.mem_cons_of_mem _ hc)) l1
      rw [if_pos q]; omega
    · rw [if_neg q]; omega
def mW (T : Nat → Nat) (Ln p s : Nat) : Nat := mtc T Ln p (strs (811 + s))
def wrdS (T : Nat → Nat) (Ln p : Nat) : Nat × Option Nat :=
  if mW T Ln p 0 = 6 then (p + 6, some 0) else if mW T Ln p 1 = 3 then (p + 3, some 1) else if mW T Ln p 2 = 4 then (p + 4, some 2) else if mW T Ln p 3 = 5 then (p + 5, some 3) else if mW T Ln p 4 = 4 then (p + 4, some 4)
  else (p + max (mW T Ln p 4) (max (mW T Ln p 3) (max (mW T Ln p 2) (max (mW T Ln p 1) (mW T Ln p 0)))), none)
theorem str_le : ∀ s, s < 7 → ∀ b ∈ strs (811 + s), b ≤ 127 := by decide +kernel
theorem str_ln : (strs (811 + 0)).length = 6 ∧ (strs (811 + 1)).length = 3 ∧ (strs (811 + 2)).length = 4 ∧ (strs (811 + 3)).length = 5 ∧ (strs (811 + 4)).length = 4 := by decide +kernel
section WRD
variable {ad : Nat → Nat} {D : va_G} {cA : Nat → ClassId} {μ μ0 : x_M} {T : Nat → Nat} {Ln p l : Nat} {tk : List Tok}
theorem c_sameL {s : Nat} (h : Ps T Ln l μ0 μ p tk) (hB : Bs μ0 l T Ln) (hs : s < 7) : ∀ (m j F : Nat), j + m = (strs (811 + s)).length → m < F → p + j ≤ Ln → f_X5_sameSigns_L2 (XC ad D cA) F 3 (811 + s) (Int32.ofNat j) μ = some (Int32.ofNat (j + mtc T Ln (p + j) ((strs (811 + s)).drop j)), μ) := by
  obtain ⟨kS, t1, t2, t3⟩ := h.B hB
  obtain ⟨-, ⟨h2, h3⟩, -⟩ := id h
  obtain ⟨⟨k1, k2⟩, -, -, k6, -, kb⟩ := sK s hs
  have l2 := s_len (ad := ad) (D := D) (cA := cA) kS hs
  intro m
  induction m with
  | zero =>
    intro j F hj hF hp
    obtain ⟨f, rfl⟩ : ∃ n, F = n + 1 := ⟨F - 1, by omega⟩
    have n1 : Int32.ofNat (strs (811 + s)).length ≤ Int32.ofNat j := (iN_le (by omega) (by omega)).mpr (by omega)
    rw [List.drop_eq_nil_of_le (by omega)]
    unfold f_X5_sameSigns_L2
    simp only [↓ckE, ↓reduceIte, kC, k1, l2, bdE, n1]
    rw [show (strs (811 + s)).length = j by omega]; rfl
  | succ m ih =>
    intro j F hj hF hp
    obtain ⟨f, rfl⟩ : ∃ n, F = n + 1 := ⟨F - 1, by omega⟩
    have n1 : ¬ Int32.ofNat (strs (811 + s)).length ≤ Int32.ofNat j := fun z => by have := (iN_le (by omega) (by omega)).mp z; omega
    have ea : Int32.ofNat p + Int32.ofNat j = Int32.ofNat (p + j) := iN_add
    have ed : (strs (811 + s)).drop j = (strs (811 + s)).getD j 0 :: (strs (811 + s)).drop (j + 1) := by
      rw [List.drop_eq_getElem_cons (by omega), List.getD_eq_getElem?_getD, List.getElem?_eq_getElem (by omega)]
      rfl
    have hb := (kb j (by omega)).2
    rw [ed]
    show _ = some (Int32.ofNat (j + (if tx T Ln (p + j) = (strs (811 + s)).getD j 0 then mtc T Ln (p + j + 1) ((strs (811 + s)).drop (j + 1)) + 1 else 0)), μ)
    by_cases q : p + j < Ln
    · have n2 : ¬ Int32.ofNat Ln ≤ Int32.ofNat (p + j) := fun z => by have := (iN_le (by omega) (by omega)).mp z; omega
      have e1 := t_at (ad := ad) (D := D) (cA := cA) (h.B hB).2 q
      have e2 := s_chr (ad := ad) (D := D) (cA := cA) kS hs (i := j) (by omega)
      have hTp := (t3 (p + j) q).1
      have ex : tx T Ln (p + j) = T (p + j) := by unfold tx; rw [if_pos q]
      have i2 := ih (j + 1) f (by omega) (by omega) (by omega)
      rw [ex]
      unfold f_X5_sameSigns_L2
      simp only [↓ckE, ↓ltE, ↓reduceIte, kC, CK, CP kS.1, Nat.reduceAdd, k1, l2, bdE, n1, h2, t2, ea, n2, e1, e2, iN_s, i2]
      by_cases z : T (p + j) = (strs (811 + s)).getD j 0
      · rw [if_pos (by rw [z]), if_pos z, show p + (j + 1) = p + j + 1 by omega, show j + 1 + mtc T Ln (p + j + 1) (List.drop (j + 1) (strs (811 + s))) = j + (mtc T Ln (p + j + 1) (List.drop (j + 1) (strs (811 + s))) + 1) by omega]
      · rw [if_neg (fun g => z ((iN_inj (by omega) (by omega)).mp g)), if_neg z]; rfl
    · have n2 : Int32.ofNat Ln ≤ Int32.ofNat (p + j) := (iN_le (by omega) (by omega)).mpr (by omega)
      have ex : tx T Ln (p + j) = 999 := by unfold tx; rw [if_neg q]
      rw [ex, if_neg (by omega)]
      unfold f_X5_sameSigns_L2
      simp only [↓ckE, ↓ltE, ↓reduceIte, kC, CK, Nat.reduceAdd, k1, l2, bdE, n1, h2, t2, ea, n2]
      rfl
theorem c_same {s : Nat} (h : Ps T Ln l μ0 μ p tk) (hB : Bs μ0 l T Ln) (hs : s < 7) : f_X5_sameSigns (XC ad D cA) 3 (811 + s) μ = some (Int32.ofNat (mW T Ln p s), μ) := by
  have e := c_sameL (ad := ad) (D := D) (cA := cA) h hB hs (strs (811 + s)).length 0 4096 (by omega) (by have := (sK s hs).2.2.2.1; omega) h.2.1.2
  unfold f_X5_sameSigns
  refine e.trans ?_
  rw [List.drop_zero, Nat.add_zero, Nat.zero_add]; rfl
theorem c_word (h : Ps T Ln l μ0 μ p tk) (hB : Bs μ0 l T Ln) : (∃ w μ', wrdS T Ln p = ((wrdS T Ln p).1, some w) ∧ w ≤ 4 ∧ f_X5_takeWord (XC ad D cA) 3 μ = some (Int32.ofNat w, μ') ∧ Ps T Ln l μ0 μ' (wrdS T Ln p).1 tk) ∨ ∃ μ', wrdS T Ln p = ((wrdS T Ln p).1, none) ∧ f_X5_takeWord (XC ad D cA) 3 μ = some (-1, μ') ∧ Ps T Ln l μ0 μ' (wrdS T Ln p).1 tk := by
  obtain ⟨kS, -⟩ := h.B hB
  obtain ⟨-, ⟨h2, h3⟩, -⟩ := id h
  have hL : Ln ≤ 100 := hB.2.1
  obtain ⟨n0, n1, n2, n3, n4⟩ := str_ln
  have b : ∀ s, s < 7 → mW T Ln p s ≤ (strs (811 + s)).length ∧ p + mW T Ln p s ≤ Ln := fun s hs => mtc_le _ _ (str_le s hs) h3
  have b0 := b 0 (by omega)
  have b1 := b 1 (by omega)
  have b2 := b 2 (by omega)
  have b3 := b 3 (by omega)
  have b4 := b 4 (by omega)
  have S : ∀ s, s < 7 → f_X5_sameSigns (XC ad D cA) 3 (811 + s) μ = some (Int32.ofNat (mW T Ln p s), μ) := fun s hs => c_same h hB hs
  have LN : ∀ s, s < 7 → f_J0_length_8abf5 (XC ad D cA) (811 + s) μ = some (Int32.ofNat (strs (811 + s)).length, μ) := fun s hs => s_len kS hs
  have kk : ∀ s, s < 7 → x_kdC (811 + s) = 50 := fun s hs => (sK s hs).1.1
  have s0 := S 0 (by omega); have s1 := S 1 (by omega); have s2 := S 2 (by omega); have s3 := S 3 (by omega); have s4 := S 4 (by omega)
  have l0 := LN 0 (by omega); have l1 := LN 1 (by omega); have l2 := LN 2 (by omega); have l3 := LN 3 (by omega); have l4 := LN 4 (by omega)
  have k0 := kk 0 (by omega); have k1 := kk 1 (by omega); have k2 := kk 2 (by omega); have k3 := kk 3 (by omega); have k4 := kk 4 (by omega)
  rw [n0] at l0 b0; rw [n1] at l1 b1; rw [n2] at l2 b2; rw [n3] at l3 b3; rw [n4] at l4 b4
  simp only [Nat.reduceAdd] at s0 s1 s2 s3 s4 l0 l1 l2 l3 l4 k0 k1 k2 k3 k4
  -- a step of the loop over the words
  have stp : ∀ (K1 : Nat → Int32 → x_M → Option (Int32 × x_M)) (K2 : Nat → Int32 → Int32 → x_M → Option (Int32 × x_M)) (F i m L v : Nat), (∀ m', f_X5_wordOf (XC ad D cA) (Int32.ofNat i) m' = some (811 + i, m')) → i < 5 → x_kdC (811 + i) = 50 → f_X5_sameSigns (XC ad D cA) 3 (811 + i) μ = some (Int32.ofNat m, μ) → f_J0_length_8abf5 (XC ad D cA) (811 + i) μ = some (Int32.ofNat L, μ) → m ≤ 6 → L ≤ 6 → v ≤ 6 → f_X5_takeWord_L4 (XC ad D cA) K1 K2 (F + 1) 3 (Int32.ofNat v) (Int32.ofNat i) μ = if m = L then K2 3 (Int32.ofNat i) (Int32.ofNat m) μ else f_X5_takeWord_L4 (XC ad D cA) K1 K2 F 3 (Int32.ofNat (max m v)) (Int32.ofNat (i + 1)) μ := by
    intro K1 K2 F i m L v hw hi hk hs hl hm hL hv
    have g1 : ¬ (5 : Int32) ≤ Int32.ofNat i := fun z => by have := (geN 5 5 rfl (by decide) (by omega)).mp z; omega
    have g2 : (if Int32.ofNat v < Int32.ofNat m then Int32.ofNat m else Int32.ofNat v) = Int32.ofNat (max m v) := by
      by_cases z : v < m
      · rw [if_pos ((iN_lt (by omega) (by omega)).mpr z), Nat.max_eq_left (by omega)]
      · rw [if_neg (fun y => z ((iN_lt (by omega) (by omega)).mp y)), Nat.max_eq_right (by omega)]
    generalize hR : f_X5_takeWord_L4 (XC ad D cA) K1 K2 F 3 (Int32.ofNat (max m v)) (Int32.ofNat (i + 1)) μ = R
    unfold f_X5_takeWord_L4
    simp only [↓ckE, ↓ltE, ↓reduceIte, kC, CK, Nat.reduceAdd, g1, hw, bdE, hs, hk, hl, g2, iN_s, hR]
    by_cases z : m = L
    · rw [if_pos (by rw [z]), if_pos z]
    · rw [if_neg (fun y => z ((iN_inj (by omega) (by omega)).mp y)), if_neg z]
  have wo : ∀ i m', i < 5 → f_X5_wordOf (XC ad D cA) (Int32.ofNat i) m' = some (811 + i, m') := fun i m' hi => by
    have : i = 0 ∨ i = 1 ∨ i = 2 ∨ i = 3 ∨ i = 4 := by omega
    rcases this with rfl | rfl | rfl | rfl | rfl <;> rfl
  have st0 : ∀ F, F + 6 = 4096 → ∀ K1 K2, f_X5_takeWord_L4 (XC ad D cA) K1 K2 4096 3 0 0 μ = f_X5_takeWord_L4 (XC ad D cA) K1 K2 (F + 1 + 1 + 1 + 1 + 1 + 1) 3 (Int32.ofNat 0) (Int32.ofNat 0) μ := fun F e K1 K2 => by rw [← e]; rfl
  have endL : ∀ F K1 K2 (v : Nat), f_X5_takeWord_L4 (XC ad D cA) K1 K2 (F + 1) 3 (Int32.ofNat v) (Int32.ofNat 5) μ = K1 3 (Int32.ofNat v) μ := fun F K1 K2 v => by
    conv => lhs; unfold f_X5_takeWord_L4
    exact if_pos (by decide)
  have fin : ∀ w m, p + m ≤ Ln → wrdS T Ln p = (p + m, some w) → w ≤ 4 → f_X5_takeWord (XC ad D cA) 3 μ = some (Int32.ofNat w, x_sI μ 3 2 (Int32.ofNat (p + m))) → (∃ w μ', wrdS T Ln p = ((wrdS T Ln p).1, some w) ∧ w ≤ 4 ∧ f_X5_takeWord (XC ad D cA) 3 μ = some (Int32.ofNat w, μ') ∧ Ps T Ln l μ0 μ' (wrdS T Ln p).1 tk) ∨ ∃ μ', wrdS T Ln p = ((wrdS T Ln p).1, none) ∧ f_X5_takeWord (XC ad D cA) 3 μ = some (-1, μ') ∧ Ps T Ln l μ0 μ' (wrdS T Ln p).1 tk := by
    intro w m hm e hw ef
    exact Or.inl ⟨w, _, by rw [e], hw, ef, by rw [e]; exact h.adv hB hm (by omega)⟩
  have rd : ∀ m, Int32.ofNat p + Int32.ofNat m = Int32.ofNat (p + m) := fun m => iN_add
  have tw : ∀ o, f_X5_takeWord (XC ad D cA) 3 μ = o ↔ f_X5_takeWord_L4 (XC ad D cA) (fun (v13 : Nat) (v14 : Int32) (μ15 : x_M) => (ck (x_kd (XC ad D cA) v13 = 5 + 1) (ck (x_kd (XC ad D cA) v13 = 5 + 1) (lt (x_sI μ15 v13 2 ((μ15.1 v13 2) + v14)) (fun (μ16 : x_M) => (some ((-1 : Int32), μ16))))))) (fun (v17 : Nat) (v18 : Int32) (v19 : Int32) (μ20 : x_M) => (ck (x_kd (XC ad D cA) v17 = 5 + 1) (ck (x_kd (XC ad D cA) v17 = 5 + 1) (lt (x_sI μ20 v17 2 ((μ20.1 v17 2) + v19)) (fun (μ21 : x_M) => (some (v18, μ21))))))) 4096 3 0 0 μ = o := fun o => by
    unfold f_X5_takeWord; exact Iff.rfl
  have W := fin
  by_cases q0 : mW T Ln p 0 = 6
  · refine W 0 6 (by omega) (if_pos q0) (by omega) ((tw _).mpr ?_)
    rw [st0 4090 rfl, stp _ _ _ 0 _ 6 0 (fun m' => wo 0 m' (by omega)) (by omega) k0 s0 l0 (by omega) (by omega) (by omega), if_pos q0, q0]
    simp only [↓ckE, ↓ltE, ↓reduceIte, kC, CK, Nat.reduceAdd, h2, rd]
  by_cases q1 : mW T Ln p 1 = 3
  · refine W 1 3 (by omega) ((if_neg q0).trans (if_pos q1)) (by omega) ((tw _).mpr ?_)
    rw [st0 4090 rfl, stp _ _ _ 0 _ 6 0 (fun m' => wo 0 m' (by omega)) (by omega) k0 s0 l0 (by omega) (by omega) (by omega), if_neg q0, stp _ _ _ 1 _ 3 _ (fun m' => wo 1 m' (by omega)) (by omega) k1 s1 l1 (by omega) (by omega) (by omega), if_pos q1, q1]
    simp only [↓ckE, ↓ltE, ↓reduceIte, kC, CK, Nat.reduceAdd, h2, rd]
  by_cases q2 : mW T Ln p 2 = 4
  · refine W 2 4 (by omega) ((if_neg q0).trans ((if_neg q1).trans (if_pos q2))) (by omega) ((tw _).mpr ?_)
    rw [st0 4090 rfl, stp _ _ _ 0 _ 6 0 (fun m' => wo 0 m' (by omega)) (by omega) k0 s0 l0 (by omega) (by omega) (by omega), if_neg q0, stp _ _ _ 1 _ 3 _ (fun m' => wo 1 m' (by omega)) (by omega) k1 s1 l1 (by omega) (by omega) (by omega), if_neg q1, stp _ _ _ 2 _ 4 _ (fun m' => wo 2 m' (by omega)) (by omega) k2 s2 l2 (by omega) (by omega) (by omega), if_pos q2, q2]
    simp only [↓ckE, ↓ltE, ↓reduceIte, kC, CK, Nat.reduceAdd, h2, rd]
  by_cases q3 : mW T Ln p 3 = 5
  · refine W 3 5 (by omega) ((if_neg q0).trans ((if_neg q1).trans ((if_neg q2).trans (if_pos q3)))) (by omega) ((tw _).mpr ?_)
    rw [st0 4090 rfl, stp _ _ _ 0 _ 6 0 (fun m' => wo 0 m' (by omega)) (by omega) k0 s0 l0 (by omega) (by omega) (by omega), if_neg q0, stp _ _ _ 1 _ 3 _ (fun m' => wo 1 m' (by omega)) (by omega) k1 s1 l1 (by omega) (by omega) (by omega), if_neg q1, stp _ _ _ 2 _ 4 _ (fun m' => wo 2 m' (by omega)) (by omega) k2 s2 l2 (by omega) (by omega) (by omega), if_neg q2, stp _ _ _ 3 _ 5 _ (fun m' => wo 3 m' (by omega)) (by omega) k3 s3 l3 (by omega) (by omega) (by omega), if_pos q3, q3]
    simp only [↓ckE, ↓ltE, ↓reduceIte, kC, CK, Nat.reduceAdd, h2, rd]
  by_cases q4 : mW T Ln p 4 = 4
  · refine W 4 4 (by omega) ((if_neg q0).trans ((if_neg q1).trans ((if_neg q2).trans ((if_neg q3).trans (if_pos q4))))) (by omega) ((tw _).mpr ?_)
    rw [st0 4090 rfl, stp _ _ _ 0 _ 6 0 (fun m' => wo 0 m' (by omega)) (by omega) k0 s0 l0 (by omega) (by omega) (by omega), if_neg q0, stp _ _ _ 1 _ 3 _ (fun m' => wo 1 m' (by omega)) (by omega) k1 s1 l1 (by omega) (by omega) (by omega), if_neg q1, stp _ _ _ 2 _ 4 _ (fun m' => wo 2 m' (by omega)) (by omega) k2 s2 l2 (by omega) (by omega) (by omega), if_neg q2, stp _ _ _ 3 _ 5 _ (fun m' => wo 3 m' (by omega)) (by omega) k3 s3 l3 (by omega) (by omega) (by omega), if_neg q3, stp _ _ _ 4 _ 4 _ (fun m' => wo 4 m' (by omega)) (by omega) k4 s4 l4 (by omega) (by omega) (by omega), if_pos q4, q4]
    simp only [↓ckE, ↓ltE, ↓reduceIte, kC, CK, Nat.reduceAdd, h2, rd]
  · have eS : wrdS T Ln p = (p + max (mW T Ln p 4) (max (mW T Ln p 3) (max (mW T Ln p 2) (max (mW T Ln p 1) (mW T Ln p 0)))), none) := (if_neg q0).trans ((if_neg q1).trans ((if_neg q2).trans ((if_neg q3).trans (if_neg q4))))
    have z0 : max (mW T Ln p 0) 0 = mW T Ln p 0 := Nat.max_eq_left (by omega)
    refine Or.inr ⟨_, by rw [eS], (tw _).mpr ?_, by rw [eS]; exact h.adv hB (q := p + max (mW T Ln p 4) (max (mW T Ln p 3) (max (mW T Ln p 2) (max (mW T Ln p 1) (mW T Ln p 0))))) (by omega) (by omega)⟩
    rw [st0 4090 rfl, stp _ _ _ 0 _ 6 0 (fun m' => wo 0 m' (by omega)) (by omega) k0 s0 l0 (by omega) (by omega) (by omega), if_neg q0, stp _ _ _ 1 _ 3 _ (fun m' => wo 1 m' (by omega)) (by omega) k1 s1 l1 (by omega) (by omega) (by omega), if_neg q1, stp _ _ _ 2 _ 4 _ (fun m' => wo 2 m' (by omega)) (by omega) k2 s2 l2 (by omega) (by omega) (by omega), if_neg q2, stp _ _ _ 3 _ 5 _ (fun m' => wo 3 m' (by omega)) (by omega) k3 s3 l3 (by omega) (by omega) (by omega), if_neg q3, stp _ _ _ 4 _ 4 _ (fun m' => wo 4 m' (by omega)) (by omega) k4 s4 l4 (by omega) (by omega) (by omega), if_neg q4, endL, z0]
    simp only [↓ckE, ↓ltE, ↓reduceIte, kC, CK, Nat.reduceAdd, h2, rd]
end WRD
