/-! ===== law: clauses in the class ===== -/
def FU : Nat := 600
def clS (T : Nat → Nat) (Ln p : Nat) : Nat × Option Cls :=
  match (wrdS T Ln p).2 with
  | none => ((wrdS T Ln p).1, none)
  | some w =>
    if tx T Ln (wrdS T Ln p).1 = 32 then
      if (numS T Ln ((wrdS T Ln p).1 + 1)).1 < 0 then ((numS T Ln ((wrdS T Ln p).1 + 1)).2, none)
      else if 2 ≤ w then ((numS T Ln ((wrdS T Ln p).1 + 1)).2, some (w, (numS T Ln ((wrdS T Ln p).1 + 1)).1.toNat, []))
      else if tx T Ln (numS T Ln ((wrdS T Ln p).1 + 1)).2 = 32 then
        match (exS T Ln FU 0 0 ((numS T Ln ((wrdS T Ln p).1 + 1)).2 + 1)).2 with
        | none => ((exS T Ln FU 0 0 ((numS T Ln ((wrdS T Ln p).1 + 1)).2 + 1)).1, none)
        | some a => ((exS T Ln FU 0 0 ((numS T Ln ((wrdS T Ln p).1 + 1)).2 + 1)).1, some (w, (numS T Ln ((wrdS T Ln p).1 + 1)).1.toNat, a))
      else ((numS T Ln ((wrdS T Ln p).1 + 1)).2, none)
    else ((wrdS T Ln p).1, none)
def tkA : LawA → List Tok
  | [] => []
  | c :: r => (if c.1 ≤ 1 then c.2.2 else []) ++ tkA r
def ClW (μ : x_M) (l : Nat) : Nat → Nat → LawA → Prop
  | _, _, [] => True
  | c, o, k :: r => if k.1 ≤ 1 then (μ.1 (l + 1) c = Int32.ofNat k.1 ∧ μ.1 (l + 2) c = Int32.ofNat k.2.1 ∧ μ.1 (l + 3) c = Int32.ofNat (o + k.2.2.length)) ∧ ClW μ l (c + 1) (o + k.2.2.length) r else ClW μ l c o r
theorem ClC_of {μ : x_M} {l : Nat} : ∀ {A : LawA} {c o : Nat}, ClW μ l c o A → SegI (μ.1 (l + 4)) encC o (tkA A) → o + (tkA A).length ≤ 100 → ClC μ l c o A
  | [], _, _, _, _, _ => True.intro
  | k :: r, c, o, h, g, hl => by
    unfold ClW at h
    unfold tkA at g hl
    unfold ClC
    by_cases z : k.1 ≤ 1
    · rw [if_pos z] at h g hl ⊢
      rw [List.length_append] at hl
      obtain ⟨g1, g2⟩ := SegI_ap.mp g
      exact ⟨h.1, ⟨g1, by omega⟩, ClC_of h.2 g2 (by omega)⟩
    · rw [if_neg z] at h g hl ⊢
      exact ClC_of h g hl
theorem ClW_cg {a b : x_M} {l : Nat} : ∀ {A : LawA} {c o : Nat}, (∀ i j, l + 1 ≤ i → i ≤ l + 3 → j < c + nCl A → b.1 i j = a.1 i j) → ClW a l c o A → ClW b l c o A
  | [], _, _, _, _ => True.intro
  | k :: r, c, o, h, q => by
    unfold ClW at q ⊢
    unfold nCl at h
    by_cases z : k.1 ≤ 1
    · rw [if_pos z] at q ⊢
      rw [if_pos z] at h
      rw [h (l + 1) c (by omega) (by omega) (by omega), h (l + 2) c (by omega) (by omega) (by omega), h (l + 3) c (by omega) (by omega) (by omega)]
      exact ⟨q.1, ClW_cg (fun i j p1 p2 p3 => h i j p1 p2 (by omega)) q.2⟩
    · rw [if_neg z] at q ⊢
      rw [if_neg z] at h
      exact ClW_cg (fun i j p1 p2 p3 => h i j p1 p2 (by omega)) q
theorem ClW_ap {a : x_M} {l : Nat} : ∀ {A : LawA} {c o : Nat} {k : Cls}, ClW a l c o A → ClW a l (c + nCl A) (o + (tkA A).length) [k] → ClW a l c o (A ++ [k])
  | [], _, _, _, _, h => h
  | k :: r, c, o, k', q, h => by
    show ClW a l c o (k :: (r ++ [k']))
    unfold ClW at q ⊢
    unfold nCl tkA at h
    by_cases z : k.1 ≤ 1
    · rw [if_pos z] at q ⊢
      rw [if_pos z, if_pos z, List.length_append] at h
      exact ⟨q.1, ClW_ap q.2 (by rw [show c + 1 + nCl r = c + (1 + nCl r) by omega, show o + k.2.2.length + (tkA r).length = o + (k.2.2.length + (tkA r).length) by omega]; exact h)⟩
    · rw [if_neg z] at q ⊢
      rw [if_neg z, if_neg z, List.nil_append] at h
      exact ClW_ap q (by rw [show c + nCl r = c + (0 + nCl r) by omega]; exact h)
theorem nCl_ap : ∀ (A : LawA) (k : Cls), nCl (A ++ [k]) = nCl A + (if k.1 ≤ 1 then 1 else 0)
  | [], k => by show (if k.1 ≤ 1 then 1 else 0) + 0 = 0 + _; omega
  | c :: r, k => by
    show (if c.1 ≤ 1 then 1 else 0) + nCl (r ++ [k]) = (if c.1 ≤ 1 then 1 else 0) + nCl r + _
    rw [nCl_ap r k]; omega
theorem tkA_ap : ∀ (A : LawA) (k : Cls), tkA (A ++ [k]) = tkA A ++ (if k.1 ≤ 1 then k.2.2 else [])
  | [], k => by show (if k.1 ≤ 1 then k.2.2 else []) ++ [] = [] ++ _; rw [List.append_nil, List.nil_append]
  | c :: r, k => by
    show (if c.1 ≤ 1 then c.2.2 else []) ++ tkA (r ++ [k]) = ((if c.1 ≤ 1 then c.2.2 else []) ++ tkA r) ++ _
    rw [tkA_ap r k, List.append_assoc]
theorem lastW_ap (w : Nat) : ∀ (A : LawA) (k : Cls) (d : Nat), lastW w (A ++ [k]) d = if k.1 = w then k.2.1 else lastW w A d
  | [], _, _ => rfl
  | c :: r, k, d => lastW_ap w r k (if c.1 = w then c.2.1 else d)
/-- behind some clauses: the law's cells -/
def pcL (l o k : Nat) : Prop := (o = 3 ∧ k = 2) ∨ (l ≤ o ∧ o ≤ l + 4)
def Cs (T : Nat → Nat) (Ln l : Nat) (μ0 μ : x_M) (p : Nat) (A : LawA) : Prop := frC (pcL l) μ0 μ ∧ Ps T Ln l μ μ p (tkA A) ∧ (μ.1 l 5 = Int32.ofNat (nCl A) ∧ μ.1 l 7 = Int32.ofNat (min (lastW 2 A 50) 60) ∧ μ.1 l 8 = Int32.ofNat (min (lastW 3 A 5) 60) ∧ μ.1 l 9 = Int32.ofNat (lastW 4 A 0)) ∧ ClW μ l 0 0 A ∧ LawOk A
section CLS
variable {ad : Nat → Nat} {D : va_G} {cA : Nat → ClassId} {μ0 μ : x_M} {T : Nat → Nat} {Ln p l : Nat} {A : LawA}
theorem Cs.B (h : Cs T Ln l μ0 μ p A) (hB : Bs μ0 l T Ln) : Bs μ l T Ln := by
  have hl := hB.rg
  obtain ⟨⟨⟨b1, b2⟩, b3, b4⟩, t1, t2, t3⟩ := hB
  have f := h.1
  refine ⟨⟨⟨f.Pt b1, fun o k ho => ?_⟩, b3, b4⟩, t1, ?_, fun j hj => ⟨(t3 j hj).1, ?_⟩⟩
  · rw [f.2 o k (by unfold pcL; omega)]; exact b2 o k ho
  · rw [f.2 3 1 (by unfold pcL; omega)]; exact t2
  · rw [f.2 4 j (by unfold pcL; omega)]; exact (t3 j hj).2
theorem pcC_L {o k : Nat} (z : pcC l o k) : pcL l o k := by unfold pcC at z; unfold pcL; omega
theorem wrd_b (hp : p ≤ Ln) : p ≤ (wrdS T Ln p).1 := by
  unfold wrdS
  by_cases q0 : mW T Ln p 0 = 6
  · rw [if_pos q0]; simp only []; omega
  rw [if_neg q0]
  by_cases q1 : mW T Ln p 1 = 3
  · rw [if_pos q1]; simp only []; omega
  rw [if_neg q1]
  by_cases q2 : mW T Ln p 2 = 4
  · rw [if_pos q2]; simp only []; omega
  rw [if_neg q2]
  by_cases q3 : mW T Ln p 3 = 5
  · rw [if_pos q3]; simp only []; omega
  rw [if_neg q3]
  by_cases q4 : mW T Ln p 4 = 4
  · rw [if_pos q4]; simp only []; omega
  · rw [if_neg q4]; simp only []; omega
/-- a clause without tests is told -/
theorem c_tellW {w n q : Nat} {μ1 : x_M} (h : Cs T Ln l μ0 μ p A) (hB : Bs μ0 l T Ln) (h1 : Ps T Ln l μ μ1 q (tkA A)) (hw : 2 ≤ w ∧ w ≤ 4) (hn : n ≤ 99) (hA : A.length + 1 ≤ 10) : ∃ μ2, f_X4_tell (XC ad D cA) l (Int32.ofNat w) (Int32.ofNat n) μ1 = some ((), μ2) ∧ Cs T Ln l μ0 μ2 q (A ++ [(w, n, [])]) := by
  have hl := hB.rg
  obtain ⟨k0, -⟩ := lawK l hB.1.2.1
  obtain ⟨f0, -, ⟨c5, c7, c8, c9⟩, hW, hO1, hO2⟩ := h
  obtain ⟨f1, ⟨g2, g3⟩, ⟨g4, g5⟩, g6⟩ := h1
  have eN : nCl (A ++ [(w, n, [])]) = nCl A := by rw [nCl_ap, if_neg (by simp only []; omega)]; omega
  have eT : tkA (A ++ [(w, n, [])]) = tkA A := by rw [tkA_ap, if_neg (by simp only []; omega), List.append_nil]
  have e60 : (if (60 : Int32) < Int32.ofNat n then (60 : Int32) else Int32.ofNat n) = Int32.ofNat (min n 60) := by
    by_cases z : 60 < n
    · rw [if_pos ((gtN 60 60 rfl (by decide) (by omega)).mpr z), Nat.min_eq_right (by omega)]; rfl
    · rw [if_neg (fun y => z ((gtN 60 60 rfl (by decide) (by omega)).mp y)), Nat.min_eq_left (by omega)]
  have off : ∀ o k, ¬ pcC l o k → μ1.1 o k = μ.1 o k := f1.2
  have main : ∀ (kk : Nat) (v : Int32), (kk = 7 ∨ kk = 8 ∨ kk = 9) → (∀ j, (j = 7 ∨ j = 8 ∨ j = 9) → (x_sI μ1 l kk v).1 l j = if j = 7 then Int32.ofNat (min (lastW 2 (A ++ [(w, n, [])]) 50) 60) else if j = 8 then Int32.ofNat (min (lastW 3 (A ++ [(w, n, [])]) 5) 60) else Int32.ofNat (lastW 4 (A ++ [(w, n, [])]) 0)) → Cs T Ln l μ0 (x_sI μ1 l kk v) q (A ++ [(w, n, [])]) := by
    intro kk v hk hv
    refine ⟨(f0.tr (f1.up (fun o k z => pcC_L z))).tr (frC.sI (Or.inr ⟨Nat.le_refl _, by omega⟩)), ⟨frC.rf, ⟨?_, g3⟩, ⟨?_, ?_⟩, by rw [eT]; exact g6⟩, ⟨?_, ?_, ?_, ?_⟩, ?_, ?_⟩
    · rw [sI_of (by omega)]; exact g2
    · rw [sI_of (by omega), eT]; exact g4
    · rw [eT]; exact SegI_cg (fun j _ _ => sI_of (by omega)) g5
    · rw [sI_of (by omega), off l 5 (by unfold pcC; omega), eN]; exact c5
    · exact (hv 7 (by omega)).trans (if_pos rfl)
    · exact (hv 8 (by omega)).trans ((if_neg (by decide)).trans (if_pos rfl))
    · exact (hv 9 (by omega)).trans ((if_neg (by decide)).trans (if_neg (by decide)))
    · refine ClW_ap (ClW_cg (fun i j p1 p2 _ => ?_) hW) ?_
      · rw [sI_of (by omega), off i j (by unfold pcC; omega)]
      · unfold ClW
        rw [if_neg (by simp only []; omega)]
        unfold ClW
        exact True.intro
    · refine ⟨by rw [List.length_append]; exact hA, fun c hc => ?_⟩
      rcases List.mem_append.mp hc with hc | hc
      · exact hO2 c hc
      · rw [List.mem_singleton.mp hc]
        exact ⟨hw.2, hn, fun y => by simp only [] at y; omega⟩
  have l2 := lastW_ap 2 A (w, n, []) 50
  have l3 := lastW_ap 3 A (w, n, []) 5
  have l4 := lastW_ap 4 A (w, n, []) 0
  simp only [] at l2 l3 l4
  have o7 : μ1.1 l 7 = Int32.ofNat (min (lastW 2 A 50) 60) := (off l 7 (by unfold pcC; omega)).trans c7
  have o8 : μ1.1 l 8 = Int32.ofNat (min (lastW 3 A 5) 60) := (off l 8 (by unfold pcC; omega)).trans c8
  have o9 : μ1.1 l 9 = Int32.ofNat (lastW 4 A 0) := (off l 9 (by unfold pcC; omega)).trans c9
  have hw' : w = 2 ∨ w = 3 ∨ w = 4 := by omega
  unfold f_X4_tell
  rcases hw' with rfl | rfl | rfl
  · refine ⟨x_sI μ1 l 7 (Int32.ofNat (min n 60)), ?_, main 7 _ (by omega) (fun j hj => ?_)⟩
    · simp only [nAt, ↓swE, ↓reduceIte, ↓ckE, ↓ltE, kC, k0, e60]
    · simp only [Nat.reduceEqDiff, ↓reduceIte] at l2 l3 l4
      rw [l2, l3, l4]
      rcases hj with rfl | rfl | rfl
      · rw [sI_in]; rfl
      · rw [sI_of (by omega), o8]; rfl
      · rw [sI_of (by omega), o9]; rfl
  · refine ⟨x_sI μ1 l 8 (Int32.ofNat (min n 60)), ?_, main 8 _ (by omega) (fun j hj => ?_)⟩
    · simp only [nAt, ↓swE, ↓reduceIte, ↓ckE, ↓ltE, kC, k0, e60, iE]
    · simp only [Nat.reduceEqDiff, ↓reduceIte] at l2 l3 l4
      rw [l2, l3, l4]
      rcases hj with rfl | rfl | rfl
      · rw [sI_of (by omega), o7]; rfl
      · rw [sI_in]; rfl
      · rw [sI_of (by omega), o9]; rfl
  · refine ⟨x_sI μ1 l 9 (Int32.ofNat n), ?_, main 9 _ (by omega) (fun j hj => ?_)⟩
    · simp only [nAt, ↓swE, ↓reduceIte, ↓ckE, ↓ltE, kC, k0, iE]
    · simp only [Nat.reduceEqDiff, ↓reduceIte] at l2 l3 l4
      rw [l2, l3, l4]
      rcases hj with rfl | rfl | rfl
      · rw [sI_of (by omega), o7]; rfl
      · rw [sI_of (by omega), o8]; rfl
      · rw [sI_in]; rfl
/-- a clause with tests is closed -/
theorem c_close {w n q : Nat} {a : List Tok} {μ1 : x_M} (h : Cs T Ln l μ0 μ p A) (hB : Bs μ0 l T Ln) (h1 : Ps T Ln l μ μ1 q (tkA A ++ a)) (hw : w ≤ 1) (hn : n ≤ 99) (hA : A.length + 1 ≤ 10) (hwf : wfT a 0) : ∃ μ2, f_X4_close (XC ad D cA) l (Int32.ofNat w) (Int32.ofNat n) μ1 = some ((), μ2) ∧ Cs T Ln l μ0 μ2 q (A ++ [(w, n, a)]) := by
  have hl := hB.rg
  have hL : Ln ≤ 100 := hB.2.1
  have hBk := h1.B (h.B hB)
  obtain ⟨k0, ⟨k1, k1'⟩, ⟨k2, k2'⟩, ⟨k3, k3'⟩, -, -⟩ := lawK l hB.1.2.1
  have pl := pt_L hB.1.2.1 hBk.1.1
  obtain ⟨f0, -, ⟨c5, c7, c8, c9⟩, hW, hO1, hO2⟩ := h
  obtain ⟨f1, ⟨g2, g3⟩, ⟨g4, g5⟩, g6⟩ := h1
  have eN : nCl (A ++ [(w, n, a)]) = nCl A + 1 := by rw [nCl_ap, if_pos hw]
  have eT : tkA (A ++ [(w, n, a)]) = tkA A ++ a := by rw [tkA_ap, if_pos hw]
  have nl := nCl_le A
  have off : ∀ o k, ¬ pcC l o k → μ1.1 o k = μ.1 o k := f1.2
  have d5 : μ1.1 l 5 = Int32.ofNat (nCl A) := (off l 5 (by unfold pcC; omega)).trans c5
  have wi : ((0 : Int32) ≤ Int32.ofNat (nCl A) ∧ Int32.ofNat (nCl A) ≤ 9) := ⟨(geN 0 0 rfl (by decide) (by omega)).mpr (by omega), (leN 9 9 rfl (by omega) (by decide)).mpr (by omega)⟩
  have hx : x_ix (Int32.ofNat (nCl A)) 10 := iN_ix (by omega) (by omega)
  have hcl : (Int32.ofNat (nCl A)).toNatClampNeg = nCl A := iN_cl (by omega)
  obtain ⟨m1, hm1⟩ : ∃ m : x_M, m = x_sI μ1 (l + 1) (nCl A) (Int32.ofNat w) := ⟨_, rfl⟩
  obtain ⟨m2, hm2⟩ : ∃ m : x_M, m = x_sI m1 (l + 2) (nCl A) (Int32.ofNat n) := ⟨_, rfl⟩
  obtain ⟨m3, hm3⟩ : ∃ m : x_M, m = x_sI m2 (l + 3) (nCl A) (Int32.ofNat (tkA A ++ a).length) := ⟨_, rfl⟩
  have r1 : m1.2 = μ1.2 := by rw [hm1]; rfl
  have r2 : m2.2 = μ1.2 := by rw [hm2]; exact r1
  have e15 : m1.1 l 5 = Int32.ofNat (nCl A) := by rw [hm1, sI_of (by omega)]; exact d5
  have e25 : m2.1 l 5 = Int32.ofNat (nCl A) := by rw [hm2, sI_of (by omega)]; exact e15
  have e26 : m2.1 l 6 = Int32.ofNat (tkA A ++ a).length := by rw [hm2, sI_of (by omega), hm1, sI_of (by omega)]; exact g4
  have e35 : m3.1 l 5 = Int32.ofNat (nCl A) := by rw [hm3, sI_of (by omega)]; exact e25
  have o4 : ∀ o k, ¬ ((o = l + 1 ∨ o = l + 2 ∨ o = l + 3) ∧ k = nCl A) → ¬ (o = l ∧ k = 5) → (x_sI m3 l 5 (Int32.ofNat (nCl A + 1))).1 o k = μ1.1 o k := fun o k y1 y2 => by
    rw [sI_of (by omega), hm3, sI_of (by omega), hm2, sI_of (by omega), hm1, sI_of (by omega)]
  refine ⟨x_sI m3 l 5 (Int32.ofNat (nCl A + 1)), ?_, (f0.tr (f1.up (fun o k z => pcC_L z))).tr ⟨?_, fun o k z => o4 o k (fun y => z (Or.inr (by omega))) (fun y => z (Or.inr (by omega)))⟩, ⟨frC.rf, ⟨?_, g3⟩, ⟨?_, ?_⟩, by rw [eT]; exact g6⟩, ⟨?_, ?_, ?_, ?_⟩, ?_, ?_⟩
  · unfold f_X4_close
    simp only [↓ckE, ↓ltE, ↓reduceIte, kC, lC, k0, k1, k1', k2, k2', k3, k3', pl, d5, c_in, wi, and_self, iE, bdE, true_and, ↓ixT hx, hcl, ← hm1, r1, e15, ← hm2, r2, e25, e26, ← hm3, e35, iN_s]
  · rw [sI_2, hm3, sI_2]; exact r2
  · rw [o4 _ _ (by omega) (by omega)]; exact g2
  · rw [o4 _ _ (by omega) (by omega), eT]; exact g4
  · rw [eT]; exact SegI_cg (fun j _ _ => o4 _ _ (by omega) (by omega)) g5
  · rw [sI_in, eN]
  · rw [o4 _ _ (by omega) (by omega), off l 7 (by unfold pcC; omega), c7, lastW_ap, if_neg (by simp only []; omega)]
  · rw [o4 _ _ (by omega) (by omega), off l 8 (by unfold pcC; omega), c8, lastW_ap, if_neg (by simp only []; omega)]
  · rw [o4 _ _ (by omega) (by omega), off l 9 (by unfold pcC; omega), c9, lastW_ap, if_neg (by simp only []; omega)]
  · refine ClW_ap (ClW_cg (fun i j p1 p2 p3 => ?_) hW) ?_
    · rw [o4 i j (by omega) (by omega), off i j (by unfold pcC; omega)]
    · unfold ClW
      rw [if_pos hw, Nat.zero_add, Nat.zero_add]
      refine ⟨⟨?_, ?_, ?_⟩, ?_⟩
      · rw [sI_of (by omega), hm3, sI_of (by omega), hm2, sI_of (by omega), hm1]; exact sI_in
      · rw [sI_of (by omega), hm3, sI_of (by omega), hm2]; exact sI_in
      · rw [sI_of (by omega), hm3, sI_in, List.length_append]
      · unfold ClW; exact True.intro
  · refine ⟨by rw [List.length_append]; exact hA, fun c hc => ?_⟩
    rcases List.mem_append.mp hc with hc | hc
    · exact hO2 c hc
    · rw [List.mem_singleton.mp hc]
      rw [List.length_append] at g6
      exact ⟨by simp only []; omega, hn, fun _ => ⟨hwf, by simp only []; omega⟩⟩
end CLS
