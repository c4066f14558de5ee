/-! ===== a state with something changed; both memories ===== -/
def St.wG (S : St) (g : Nat) : St := (S.1, S.2.1, S.2.2.1, S.2.2.2.1, S.2.2.2.2.1, S.2.2.2.2.2.1, (g, S.wells, S.dry))
def St.wW (S : St) (w : Nat) : St := (S.1, S.2.1, S.2.2.1, S.2.2.2.1, S.2.2.2.2.1, S.2.2.2.2.2.1, (S.gone, w, S.dry))
def St.wD (S : St) (d : Int) : St := (S.1, S.2.1, S.2.2.1, S.2.2.2.1, S.2.2.2.2.1, S.2.2.2.2.2.1, (S.gone, S.wells, d))
def updN (f : Nat → Nat) (i z : Nat) : Nat → Nat := fun j => if j = i then z else f j
def St.wSn (S : St) (a k : Nat) : St := (S.1, S.2.1, (S.kd, S.v, updN S.sn a k, S.rw), S.2.2.2)
def St.wDl (S : St) (a : Nat) (d : Int) : St := S.upd S.bk (updI S.dl a d) S.wet S.town S.day
theorem updI_2 {f : Nat → Int} {a : Nat} {x y : Int} : updI (updI f a x) a y = updI f a y := by
  funext j
  unfold updI
  by_cases q : j = a
  · rw [if_pos q, if_pos q]
  · rw [if_neg q, if_neg q, if_neg q]
theorem updI_s {f : Nat → Int} {a : Nat} : updI f a (f a) = f := by
  funext j
  unfold updI
  by_cases q : j = a
  · rw [if_pos q, q]
  · rw [if_neg q]
theorem updN_2 {f : Nat → Nat} {a x y : Nat} : updN (updN f a x) a y = updN f a y := by
  funext j
  unfold updN
  by_cases q : j = a
  · rw [if_pos q, if_pos q]
  · rw [if_neg q, if_neg q, if_neg q]
theorem updN_s {f : Nat → Nat} {a : Nat} : updN f a (f a) = f := by
  funext j
  unfold updN
  by_cases q : j = a
  · rw [if_pos q, q]
  · rw [if_neg q]
theorem Ok.wG {S : St} {g : Nat} (h : Ok S) : Ok (S.wG g) := h
theorem Ok.wW {S : St} {w : Nat} (h : Ok S) (hw : w ≤ 99) : Ok (S.wW w) := ⟨h.1, h.2.1, hw, h.2.2.2⟩
theorem Ok.wD {S : St} {d : Int} (h : Ok S) (hd : -1 ≤ d ∧ d ≤ 20000) : Ok (S.wD d) := ⟨h.1, h.2.1, h.2.2.1, hd⟩
theorem Ok.wSn {S : St} {a k : Nat} (h : Ok S) (hk : k ≤ 20) : Ok (S.wSn a k) := by
  obtain ⟨⟨h1, h2, h3⟩, h4⟩ := h
  refine ⟨⟨h1, fun i hi => ?_, h3⟩, h4⟩
  obtain ⟨⟨b1, b2, b3⟩, b4⟩ := h2 i hi
  refine ⟨⟨b1, b2, ?_⟩, b4⟩
  show (if i = a then k else S.sn i) ≤ 20
  by_cases q : i = a
  · rw [if_pos q]; exact hk
  · rw [if_neg q]; exact b3
theorem Ok.wDl {S : St} {a : Nat} {d : Int} (h : Ok S) (hd : -30 ≤ d ∧ d ≤ 30) : Ok (S.wDl a d) := by
  obtain ⟨⟨h1, h2, h3⟩, h4⟩ := h
  refine ⟨⟨h1, fun i hi => ?_, h3⟩, h4⟩
  obtain ⟨b1, b2, b3, b4⟩ := h2 i hi
  refine ⟨b1, b2, ?_, b4⟩
  show -30 ≤ (if i = a then d else S.dl i) ∧ (if i = a then d else S.dl i) ≤ 30
  by_cases q : i = a
  · rw [if_pos q]; exact hd
  · rw [if_neg q]; exact b3
/-! the reference -/
theorem StR.wG {a : x_M} {S : St} {g : Nat} {v : Int32} (h : StR a S) (h6 : S.n ≤ 6) (hv : ∀ i, i < 6 → (Int32.ofNat i = v ↔ i = g)) : StR (x_sI a 600 30 v) (S.wG g) := by
  obtain ⟨h1, h2, ⟨s1, s2, s3, s4⟩, h4, h5, hl, w1, w2⟩ := h
  have ne : ∀ k, k ≠ 30 → (x_sI a 600 30 v).1 600 k = a.1 600 k := fun k hk => sI_ne hk
  have no : ∀ o, o ≠ 600 → (x_sI a 600 30 v).1 o = a.1 o := fun o ho => sI_no ho
  refine ⟨h1, fun s hs => ?_, ⟨?_, ?_, ?_, ?_⟩, fun i hi => ?_, fun i hi => ?_, ⟨hl.1, ?_⟩, ?_, ?_⟩
  · rw [no 605 (by decide)]; exact h2 s hs
  · rw [ne 0 (by decide)]; exact s1
  · rw [ne 1 (by decide)]; exact s2
  · rw [ne 2 (by decide)]; exact s3
  · rw [ne 3 (by decide)]; exact s4
  · rw [sI_get]; exact hv i hi
  · have := h5 i hi
    unfold AccR
    rw [no 606 (by decide), no 607 (by decide), no 608 (by decide), no 609 (by decide), no 610 (by decide), no 611 (by decide)]
    exact this
  · rw [ne 12 (by decide)]
    rcases hl.2 with q | ⟨f, q1, q2, q3, q4⟩
    · exact Or.inl q
    · refine Or.inr ⟨f, q1, q2, ?_, q4.congr (fun o p1 p2 => no o (by omega))⟩
      rw [no 618 (by decide)]; exact q3
  · rw [ne 31 (by decide)]; exact w1
  · rw [ne 32 (by decide)]; exact w2
theorem StR.wX {a : x_M} {S : St} {k0 w : Nat} {d : Int} {v : Int32} (h : StR a S) (h6 : S.n ≤ 6) (hk : k0 = 31 ∨ k0 = 32) (e1 : (x_sI a 600 k0 v).1 600 31 = Int32.ofNat w) (e2 : (x_sI a 600 k0 v).1 600 32 = Int32.ofInt d) : StR (x_sI a 600 k0 v) ((S.wW w).wD d) := by
  obtain ⟨h1, h2, ⟨s1, s2, s3, s4⟩, h4, h5, hl, w1, w2⟩ := h
  have ne : ∀ k, k ≠ k0 → (x_sI a 600 k0 v).1 600 k = a.1 600 k := fun k hk => sI_ne hk
  have no : ∀ o, o ≠ 600 → (x_sI a 600 k0 v).1 o = a.1 o := fun o ho => sI_no ho
  refine ⟨h1, fun s hs => ?_, ⟨?_, ?_, ?_, ?_⟩, fun i hi => ?_, fun i hi => ?_, ⟨hl.1, ?_⟩, e1, e2⟩
  · rw [no 605 (by decide)]; exact h2 s hs
  · rw [ne 0 (by omega)]; exact s1
  · rw [ne 1 (by omega)]; exact s2
  · rw [ne 2 (by omega)]; exact s3
  · rw [ne 3 (by omega)]; exact s4
  · rw [ne 30 (by omega)]; exact h4 i hi
  · have := h5 i hi
    unfold AccR
    rw [no 606 (by decide), no 607 (by decide), no 608 (by decide), no 609 (by decide), no 610 (by decide), no 611 (by decide)]
    exact this
  · rw [ne 12 (by omega)]
    rcases hl.2 with q | ⟨f, q1, q2, q3, q4⟩
    · exact Or.inl q
    · refine Or.inr ⟨f, q1, q2, ?_, q4.congr (fun o p1 p2 => no o (by omega))⟩
      rw [no 618 (by decide)]; exact q3
theorem StR.wW {a : x_M} {S : St} {w : Nat} (h : StR a S) (h6 : S.n ≤ 6) : StR (x_sI a 600 31 (Int32.ofNat w)) (S.wW w) :=
  h.wX (d := S.dry) h6 (Or.inl rfl) sI_get (by rw [sI_ne (by decide)]; exact h.2.2.2.2.2.2.2)
theorem StR.wD {a : x_M} {S : St} {d : Int} (h : StR a S) (h6 : S.n ≤ 6) : StR (x_sI a 600 32 (Int32.ofInt d)) (S.wD d) :=
  h.wX (w := S.wells) h6 (Or.inr rfl) (by rw [sI_ne (by decide)]; exact h.2.2.2.2.2.2.1) sI_get
theorem StR.wSn {a : x_M} {S : St} {i k : Nat} (h : StR a S) (h6 : S.n ≤ 6) : StR (x_sI a 610 i (Int32.ofNat k)) (S.wSn i k) := by
  obtain ⟨h1, h2, ⟨s1, s2, s3, s4⟩, h4, h5, hl, w1, w2⟩ := h
  have no : ∀ o, o ≠ 610 → (x_sI a 610 i (Int32.ofNat k)).1 o = a.1 o := fun o ho => sI_no ho
  refine ⟨h1, fun s hs => ?_, ?_, fun j hj => ?_, fun j hj => ?_, ⟨hl.1, ?_⟩, ?_, ?_⟩
  · rw [no 605 (by decide)]; exact h2 s hs
  · rw [no 600 (by decide)]; exact ⟨s1, s2, s3, s4⟩
  · rw [no 600 (by decide)]; exact h4 j hj
  · obtain ⟨⟨a1, a2, a3⟩, ⟨a4, a5⟩, a6⟩ := h5 j hj
    unfold AccR
    rw [no 606 (by decide), no 607 (by decide), no 608 (by decide), no 609 (by decide), no 611 (by decide)]
    refine ⟨⟨a1, a2, ?_⟩, ⟨a4, a5⟩, a6⟩
    show (x_sI a 610 i (Int32.ofNat k)).1 610 j = Int32.ofNat (if j = i then k else S.sn j)
    by_cases q : j = i
    · rw [if_pos q, q]; exact sI_get
    · rw [if_neg q, sI_ne q]; exact a3
  · rw [no 600 (by decide)]
    rcases hl.2 with q | ⟨f, q1, q2, q3, q4⟩
    · exact Or.inl q
    · refine Or.inr ⟨f, q1, q2, ?_, q4.congr (fun o p1 p2 => no o (by omega))⟩
      rw [no 618 (by decide)]; exact q3
  · rw [no 600 (by decide)]; exact w1
  · rw [no 600 (by decide)]; exact w2
theorem StR.wDl {a : x_M} {S : St} {i : Nat} {z : Int} (h : StR a S) (h6 : S.n ≤ 6) : StR (x_sI a 609 i (Int32.ofInt z)) (S.wDl i z) := by
  refine h.mod h6 rfl (fun o k _ hd => ?_) ?_ ?_ ?_ (fun j hj => ?_) (fun j hj => ?_)
  · rw [sI_rd, if_neg (by unfold dyR at hd; omega)]
  · exact h.2.2.1.2.1
  · exact h.2.2.1.2.2.1
  · exact h.2.2.1.2.2.2
  · exact (h.2.2.2.2.1 j hj).2.1.1
  · rw [sI_rd, if_pos rfl]
    show (if j = i then Int32.ofInt z else a.1 609 j) = Int32.ofInt (if j = i then z else S.dl j)
    by_cases q : j = i
    · rw [if_pos q, if_pos q]
    · rw [if_neg q, if_neg q]; exact (h.2.2.2.2.1 j hj).2.1.2
/-- frames but for one place more; putting that back -/
def plR (o0 k0 o k : Nat) : Prop := askR o k ∨ (o = o0 ∧ k = k0)
theorem frC.back {o0 k0 : Nat} {a b : x_M} (f : frC (plR o0 k0) a b) : frC askR a (x_sI b o0 k0 (a.1 o0 k0)) := by
  refine ⟨f.1, fun o k ho => ?_⟩
  by_cases q : o = o0 ∧ k = k0
  · rw [q.1, q.2]; exact sI_get
  · rw [sI_off q]
    exact f.2 o k (fun z => z.elim ho q)
theorem frC.pl {o0 k0 : Nat} {a b : x_M} (f : frC askR a b) : frC (plR o0 k0) a b := f.up (fun _ _ z => Or.inl z)
/-! the class -/
def dxC (B o k : Nat) : Prop := (o = B ∧ 10 ≤ k) ∨ (B + 4 ≤ o ∧ o ≤ B + 9 ∧ (k = 2 ∨ k = 6 ∨ k = 7))
theorem StC.gen {a b : x_M} {B : Nat} {S S' : St} (h : StC a B S) (h6 : S.n ≤ 6) (h2 : b.2 = a.2) (g : ∀ o k, usC B o k → ¬ dxC B o k → b.1 o k = a.1 o k) (s1 : S'.1 = S.1 ∧ S'.2.1 = S.2.1 ∧ S'.kd = S.kd ∧ S'.v = S.v ∧ S'.rw = S.rw ∧ S'.bk = S.bk ∧ S'.2.2.2.2.1 = S.2.2.2.2.1 ∧ S'.law = S.law) (hh : ∀ i, i < 6 → b.1 (B + 4 + i) 2 = if S'.here i then 1 else 0) (hd : ∀ i, i < S.n → b.1 (B + 4 + i) 6 = Int32.ofInt (S'.dl i)) (hs : ∀ i, i < S.n → b.1 (B + 4 + i) 7 = Int32.ofNat (S'.sn i)) (hw : b.1 B 10 = Int32.ofNat S'.wells) (hy : b.1 B 11 = Int32.ofInt S'.dry) : StC b B S' := by
  obtain ⟨⟨hB, h1⟩, h2', h3, h4, hl, ⟨t1, t2, t3, t4⟩, w1, w2⟩ := h
  obtain ⟨q1, q2, q3, q4, q5, q6, q7, q8⟩ := s1
  have hg := hB.ge
  have g0 : ∀ k, 6 ≤ k → k ≤ 9 → b.1 B k = a.1 B k := fun k p1 p2 => g B k (Or.inl ⟨rfl, by omega, by omega⟩) (by unfold dxC; omega)
  have ga : ∀ i k, i < 6 → k ≤ 7 → k ≠ 2 → k ≠ 6 → k ≠ 7 → b.1 (B + 4 + i) k = a.1 (B + 4 + i) k := fun i k p1 p2 p3 p4 p5 => g _ k (Or.inr (Or.inr (Or.inl ⟨by omega, by omega, p2⟩))) (by unfold dxC; omega)
  have gr : ∀ i k, i < 6 → b.1 (B + 10 + i) k = a.1 (B + 10 + i) k := fun i k p1 => g _ k (Or.inr (Or.inr (Or.inr (Or.inl ⟨by omega, by omega⟩)))) (by unfold dxC; omega)
  refine ⟨⟨hB, fun o k z => by rw [h2]; exact h1 o k z⟩, fun s hs => ?_, fun i hi => ⟨?_, hh i hi⟩, fun i hi => ?_, ?_, ⟨?_, ?_, ?_, ?_⟩, hw, hy⟩
  · rw [g (B + 2) s (Or.inr (Or.inl rfl)) (by unfold dxC; omega), show S'.ar = S.ar from q1]; exact h2' s hs
  · rw [ga i 0 hi (by omega) (by omega) (by omega) (by omega)]; exact (h3 i hi).1
  · have hi : i < S.n := by rw [← show S'.n = S.n from q2]; exact hi
    obtain ⟨⟨a1, a2, a3⟩, ⟨a4, a5⟩, a6⟩ := h4 i hi
    refine ⟨⟨?_, ?_, hs i hi⟩, ⟨?_, hd i hi⟩, fun d hd => ?_⟩
    · rw [ga i 3 (by omega) (by omega) (by omega) (by omega) (by omega), q3]; exact a1
    · rw [ga i 4 (by omega) (by omega) (by omega) (by omega) (by omega), q4]; exact a2
    · rw [ga i 5 (by omega) (by omega) (by omega) (by omega) (by omega), q6]; exact a4
    · rw [gr i d (by omega), q5]; exact a6 d hd
  · rw [h2, q8]; exact hl.us (fun o k z => g o k (Or.inr (Or.inr (Or.inr (Or.inr z)))) (by unfold lwC at z; unfold dxC; omega))
  · rw [g0 6 (by omega) (by omega), show S'.n = S.n from q2]; exact t1
  · rw [g0 7 (by omega) (by omega), show S'.wet = S.wet from congrArg (fun z => z.1) q7]; exact t2
  · rw [g0 8 (by omega) (by omega), show S'.town = S.town from congrArg (fun z => z.2.1) q7]; exact t3
  · rw [g0 9 (by omega) (by omega), show S'.day = S.day from congrArg (fun z => z.2.2) q7]; exact t4
theorem StC.wAcc {a : x_M} {B i k0 : Nat} {S S' : St} {v : Int32} (h : StC a B S) (h6 : S.n ≤ 6) (hi : i < 6) (hk : k0 = 2 ∨ k0 = 6 ∨ k0 = 7) (s1 : S'.1 = S.1 ∧ S'.2.1 = S.2.1 ∧ S'.kd = S.kd ∧ S'.v = S.v ∧ S'.rw = S.rw ∧ S'.bk = S.bk ∧ S'.2.2.2.2.1 = S.2.2.2.2.1 ∧ S'.law = S.law) (hh : ∀ j, j < 6 → (if j = i ∧ k0 = 2 then v else if S.here j then 1 else 0) = if S'.here j then 1 else 0) (hd : ∀ j, j < S.n → (if j = i ∧ k0 = 6 then v else Int32.ofInt (S.dl j)) = Int32.ofInt (S'.dl j)) (hs : ∀ j, j < S.n → (if j = i ∧ k0 = 7 then v else Int32.ofNat (S.sn j)) = Int32.ofNat (S'.sn j)) (hw : S'.wells = S.wells ∧ S'.dry = S.dry) : StC (x_sI a (B + 4 + i) k0 v) B S' := by
  have ne : ∀ k, (x_sI a (B + 4 + i) k0 v).1 B k = a.1 B k := fun k => by rw [sI_rd, if_neg (by omega)]
  have cell : ∀ j k, (x_sI a (B + 4 + i) k0 v).1 (B + 4 + j) k = if j = i ∧ k0 = k then v else a.1 (B + 4 + j) k := fun j k => by
    by_cases q : j = i ∧ k0 = k
    · rw [if_pos q, q.1, q.2]; exact sI_get
    · rw [if_neg q, sI_off (fun z => q ⟨by omega, z.2.symm⟩)]
  refine h.gen h6 rfl (fun o k _ hx => ?_) s1 (fun j hj => ?_) (fun j hj => ?_) (fun j hj => ?_) ?_ ?_
  · exact sI_off (fun z => hx (Or.inr ⟨by omega, by omega, by omega⟩))
  · rw [cell, ← hh j hj, (h.2.2.1 j hj).2]
  · rw [cell, ← hd j hj, (h.2.2.2.1 j hj).2.1.2]
  · rw [cell, ← hs j hj, (h.2.2.2.1 j hj).1.2.2]
  · rw [ne, hw.1]; exact h.2.2.2.2.2.2.1
  · rw [ne, hw.2]; exact h.2.2.2.2.2.2.2
theorem StC.wG {a : x_M} {B i : Nat} {S : St} (h : StC a B S) (h6 : S.n ≤ 6) (hg : S.gone = 6) (hi : i < S.n) : StC (x_sI a (B + 4 + i) 2 0) B (S.wG i) := by
  refine h.wAcc h6 (by omega) (Or.inl rfl) ⟨rfl, rfl, rfl, rfl, rfl, rfl, rfl, rfl⟩ (fun j hj => ?_) (fun j hj => if_neg (fun z => by omega)) (fun j hj => if_neg (fun z => by omega)) ⟨rfl, rfl⟩
  by_cases q : j = i
  · rw [if_pos ⟨q, rfl⟩, if_neg (fun z => z.2 q)]
  · rw [if_neg (fun z => q z.1)]
    by_cases q2 : j < S.n
    · rw [if_pos (⟨q2, by omega⟩ : S.here j), if_pos (⟨q2, q⟩ : (S.wG i).here j)]
    · rw [if_neg (fun z : S.here j => q2 z.1), if_neg (fun z : (S.wG i).here j => q2 z.1)]
theorem StC.wDl {a : x_M} {B i : Nat} {S : St} {d : Int} (h : StC a B S) (h6 : S.n ≤ 6) (hi : i < 6) : StC (x_sI a (B + 4 + i) 6 (Int32.ofInt d)) B (S.wDl i d) := by
  refine h.wAcc h6 hi (Or.inr (Or.inl rfl)) ⟨rfl, rfl, rfl, rfl, rfl, rfl, rfl, rfl⟩ (fun j hj => if_neg (fun z => by omega)) (fun j hj => ?_) (fun j hj => if_neg (fun z => by omega)) ⟨rfl, rfl⟩
  show _ = Int32.ofInt (if j = i then d else S.dl j)
  by_cases q : j = i
  · rw [if_pos ⟨q, rfl⟩, if_pos q]
  · rw [if_neg (fun z => q z.1), if_neg q]
theorem StC.wSn {a : x_M} {B i k : Nat} {S : St} (h : StC a B S) (h6 : S.n ≤ 6) (hi : i < 6) : StC (x_sI a (B + 4 + i) 7 (Int32.ofNat k)) B (S.wSn i k) := by
  refine h.wAcc h6 hi (Or.inr (Or.inr rfl)) ⟨rfl, rfl, rfl, rfl, rfl, rfl, rfl, rfl⟩ (fun j hj => if_neg (fun z => by omega)) (fun j hj => if_neg (fun z => by omega)) (fun j hj => ?_) ⟨rfl, rfl⟩
  show _ = Int32.ofNat (if j = i then k else S.sn j)
  by_cases q : j = i
  · rw [if_pos ⟨q, rfl⟩, if_pos q]
  · rw [if_neg (fun z => q z.1), if_neg q]
theorem StC.wX {a : x_M} {B k0 w : Nat} {S : St} {d : Int} {v : Int32} (h : StC a B S) (h6 : S.n ≤ 6) (hk : k0 = 10 ∨ k0 = 11) (e1 : (x_sI a B k0 v).1 B 10 = Int32.ofNat w) (e2 : (x_sI a B k0 v).1 B 11 = Int32.ofInt d) : StC (x_sI a B k0 v) B ((S.wW w).wD d) := by
  have ne : ∀ j k, (x_sI a B k0 v).1 (B + 4 + j) k = a.1 (B + 4 + j) k := fun j k => by rw [sI_rd, if_neg (by omega)]
  refine h.gen h6 rfl (fun o k _ hx => ?_) ⟨rfl, rfl, rfl, rfl, rfl, rfl, rfl, rfl⟩ (fun j hj => ?_) (fun j hj => ?_) (fun j hj => ?_) e1 e2
  · exact sI_off (fun z => hx (Or.inl ⟨by omega, by omega⟩))
  · rw [ne]; exact (h.2.2.1 j hj).2
  · rw [ne]; exact (h.2.2.2.1 j hj).2.1.2
  · rw [ne]; exact (h.2.2.2.1 j hj).1.2.2
theorem StC.wW {a : x_M} {B w : Nat} {S : St} (h : StC a B S) (h6 : S.n ≤ 6) : StC (x_sI a B 10 (Int32.ofNat w)) B (S.wW w) :=
  h.wX (d := S.dry) h6 (Or.inl rfl) sI_get (by rw [sI_ne (by decide)]; exact h.2.2.2.2.2.2.2)
theorem StC.wD {a : x_M} {B : Nat} {S : St} {d : Int} (h : StC a B S) (h6 : S.n ≤ 6) : StC (x_sI a B 11 (Int32.ofInt d)) B (S.wD d) :=
  h.wX (w := S.wells) h6 (Or.inr rfl) (by rw [sI_ne (by decide)]; exact h.2.2.2.2.2.2.1) sI_get
/-- what is now, in the class -/
def NowC (μ : x_M) (S : St) (R : Rw) : Prop := StC μ 100 S ∧ Plain S ∧ NumC μ ∧ Ok S ∧ R.1 ≤ 4 ∧ RowC μ 116 R
theorem NowC.ask {a b : x_M} {S : St} {R : Rw} (h : NowC a S R) (f : frA askC a b) : NowC b S R := by
  obtain ⟨h1, h2, h3, h4, h5, h6⟩ := h
  refine ⟨h1.ask h4.1.1.1 (Or.inl rfl) f, h2, fun B hB i hi => ?_, h4, h5, ?_, fun j hj => ⟨?_, ?_⟩⟩
  · rw [f.2 (B + 4 + i) 0 (by have := hB.ge; unfold askC scC; omega)]; exact h3 B hB i hi
  · rw [f.2 116 3 (by unfold askC scC; omega)]; exact h6.1
  · rw [f.2 117 j (by unfold askC scC; omega)]; exact (h6.2 j hj).1
  · rw [f.2 118 j (by unfold askC scC; omega)]; exact (h6.2 j hj).2
theorem NowC.begin {ad : Nat → Nat} {D : va_G} {cA : Nat → ClassId} {μ : x_M} {S : St} {R : Rw} (h : NowC μ S R) : ∃ ν, f_X7_copyFrom (XC ad D cA) 300 100 μ = some ((), ν) ∧ Later ν S R ∧ frA askC μ ν := by
  obtain ⟨h1, h2, h3, h4, h5, h6⟩ := h
  obtain ⟨ν, e, s, r, f⟩ := c_begin (ad := ad) (D := D) (cA := cA) h1 h2 h3 h4.1.1.1 (by omega) h6
  exact ⟨ν, e, ⟨s, r, h4⟩, f⟩
theorem Later.w {a : x_M} {S S' : St} {R : Rw} {o k : Nat} {v : Int32} (h : Later a S R) (hs : StC (x_sI a o k v) 300 S') (hO : Ok S') (ho : o < 316) : Later (x_sI a o k v) S' R := by
  refine ⟨hs, ⟨?_, fun j hj => ⟨?_, ?_⟩⟩, hO⟩
  · rw [sI_no (by omega)]; exact h.2.1.1
  · rw [sI_no (by omega)]; exact (h.2.1.2 j hj).1
  · rw [sI_no (by omega)]; exact (h.2.1.2 j hj).2
