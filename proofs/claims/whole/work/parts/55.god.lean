/-! ===== a day, by numbers; the reference's ===== -/
def St.upd (S : St) (bk dl : Nat → Int) (wet town day : Nat) : St := (S.1, S.2.1, S.2.2.1, (bk, dl), (wet, town, day), S.2.2.2.2.2)
def dyR (o k : Nat) : Prop := (o = 600 ∧ 1 ≤ k ∧ k ≤ 3) ∨ o = 608 ∨ o = 609
theorem StR.mod {a b : x_M} {S : St} {bk dl : Nat → Int} {wet town day : Nat} (h : StR a S) (h6 : S.n ≤ 6) (h2 : b.2 = a.2) (g : ∀ o k, usR o k → ¬ dyR o k → b.1 o k = a.1 o k) (e1 : b.1 600 1 = Int32.ofNat day) (e2 : b.1 600 2 = Int32.ofNat wet) (e3 : b.1 600 3 = Int32.ofNat town) (e4 : ∀ i, i < S.n → b.1 608 i = Int32.ofInt (bk i)) (e5 : ∀ i, i < S.n → b.1 609 i = Int32.ofInt (dl i)) : StR b (S.upd bk dl wet town day) := by
  obtain ⟨h1, h2', ⟨s1, s2, s3, s4⟩, h4, h5, hl, w1, w2⟩ := h
  have g0 : ∀ k, (k = 0 ∨ k = 12 ∨ (30 ≤ k ∧ k ≤ 32)) → b.1 600 k = a.1 600 k := fun k hk => g 600 k (Or.inl ⟨rfl, by omega⟩) (by unfold dyR; omega)
  have ga : ∀ o k, 605 ≤ o → o ≤ 611 → o ≠ 608 → o ≠ 609 → b.1 o k = a.1 o k := fun o k p1 p2 p3 p4 => g o k (Or.inr (Or.inl ⟨p1, p2⟩)) (by unfold dyR; omega)
  refine ⟨fun o k => by rw [h2]; exact h1 o k, fun s hs => ?_, ⟨?_, e1, e2, e3⟩, fun i hi => ?_, fun i hi => ?_, ?_, ?_, ?_⟩
  · rw [ga 605 s (by omega) (by omega) (by omega) (by omega)]; exact h2' s hs
  · rw [g0 0 (by omega)]; exact s1
  · rw [g0 30 (by omega)]; exact h4 i hi
  · obtain ⟨⟨a1, a2, a3⟩, ⟨a4, a5⟩, a6⟩ := h5 i hi
    refine ⟨⟨?_, ?_, ?_⟩, ⟨e4 i hi, e5 i hi⟩, fun d hd => ?_⟩
    · rw [ga 606 i (by omega) (by omega) (by omega) (by omega)]; exact a1
    · rw [ga 607 i (by omega) (by omega) (by omega) (by omega)]; exact a2
    · rw [ga 610 i (by omega) (by omega) (by omega) (by omega)]; exact a3
    · rw [ga 611 _ (by omega) (by omega) (by omega) (by omega)]; exact a6 d hd
  · refine ⟨hl.1, ?_⟩
    have f1 : ∀ o, 618 ≤ o → o ≤ 623 → b.1 o = a.1 o := fun o p1 p2 => funext (fun k => g o k (Or.inr (Or.inr ⟨p1, p2⟩)) (by unfold dyR; omega))
    rw [g0 12 (by omega)]
    rcases hl.2 with q | ⟨f, q1, q2, q3, q4⟩
    · exact Or.inl q
    · refine Or.inr ⟨f, q1, q2, ?_, q4.congr (fun o p1 p2 => f1 o (by omega) p2)⟩
      rw [f1 618 (by omega) (by omega)]; exact q3
  · rw [g0 31 (by omega)]; exact w1
  · rw [g0 32 (by omega)]; exact w2
def updI (f : Nat → Int) (i : Nat) (z : Int) : Nat → Int := fun j => if j = i then z else f j
theorem StR.bk {a : x_M} {S : St} {i : Nat} {z : Int} (h : StR a S) (h6 : S.n ≤ 6) : StR (x_sI a 608 i (Int32.ofInt z)) (S.upd (updI S.bk i z) S.dl S.wet S.town S.day) := by
  refine h.mod h6 rfl (fun o k _ hd => ?_) ?_ ?_ ?_ (fun j hj => ?_) (fun j hj => ?_)
  · rw [sI_rd, if_neg (by unfold dyR at hd; omega)]
  · exact h.2.2.1.2.1
  · exact h.2.2.1.2.2.1
  · exact h.2.2.1.2.2.2
  · rw [sI_rd, if_pos rfl]
    show (if j = i then Int32.ofInt z else a.1 608 j) = Int32.ofInt (if j = i then z else S.bk j)
    by_cases q : j = i
    · rw [if_pos q, if_pos q]
    · rw [if_neg q, if_neg q]; exact (h.2.2.2.2.1 j hj).2.1.1
  · exact (h.2.2.2.2.1 j hj).2.1.2
theorem StR.wet {a : x_M} {S : St} {w : Nat} (h : StR a S) (h6 : S.n ≤ 6) : StR (x_sI a 600 2 (Int32.ofNat w)) (S.upd S.bk S.dl w S.town S.day) := by
  refine h.mod h6 rfl (fun o k _ hd => ?_) ?_ ?_ ?_ (fun j hj => ?_) (fun j hj => ?_)
  · rw [sI_rd]
    unfold dyR at hd
    by_cases q : o = 600
    · rw [if_pos q, if_neg (by omega)]
    · rw [if_neg q]
  · exact h.2.2.1.2.1
  · exact sI_get
  · exact h.2.2.1.2.2.2
  · exact (h.2.2.2.2.1 j hj).2.1.1
  · exact (h.2.2.2.2.1 j hj).2.1.2
theorem StR.town {a : x_M} {S : St} {w : Nat} (h : StR a S) (h6 : S.n ≤ 6) : StR (x_sI a 600 3 (Int32.ofNat w)) (S.upd S.bk S.dl S.wet w S.day) := by
  refine h.mod h6 rfl (fun o k _ hd => ?_) ?_ ?_ ?_ (fun j hj => ?_) (fun j hj => ?_)
  · rw [sI_rd]
    unfold dyR at hd
    by_cases q : o = 600
    · rw [if_pos q, if_neg (by omega)]
    · rw [if_neg q]
  · exact h.2.2.1.2.1
  · exact h.2.2.1.2.2.1
  · exact sI_get
  · exact (h.2.2.2.2.1 j hj).2.1.1
  · exact (h.2.2.2.2.1 j hj).2.1.2
theorem StR.day {a : x_M} {S : St} {w : Nat} (h : StR a S) (h6 : S.n ≤ 6) : StR (x_sI a 600 1 (Int32.ofNat w)) (S.upd S.bk S.dl S.wet S.town w) := by
  refine h.mod h6 rfl (fun o k _ hd => ?_) ?_ ?_ ?_ (fun j hj => ?_) (fun j hj => ?_)
  · rw [sI_rd]
    unfold dyR at hd
    by_cases q : o = 600
    · rw [if_pos q, if_neg (by omega)]
    · rw [if_neg q]
  · exact sI_get
  · exact h.2.2.1.2.2.1
  · exact h.2.2.1.2.2.2
  · exact (h.2.2.2.2.1 j hj).2.1.1
  · exact (h.2.2.2.2.1 j hj).2.1.2
/-! the day -/
def pIs (wet fv : Nat) (p : Int) : Int := if p < -((wet - fv : Nat) : Int) then -((wet - fv : Nat) : Int) else p
def pourTo (S : St) (fv : Nat) : Nat → (Nat → Int) × Nat
  | 0 => (S.bk, S.wet)
  | k + 1 => (updI (pourTo S fv k).1 k ((pourTo S fv k).1 k + pIs (pourTo S fv k).2 fv (S.pours k)), (((pourTo S fv k).2 : Int) + pIs (pourTo S fv k).2 fv (S.pours k)).toNat)
def sunTo (S : St) (q : (Nat → Int) × Nat) : Nat → (Nat → Int) × Nat
  | 0 => q
  | k + 1 => (updI (sunTo S q k).1 k ((sunTo S q k).1 k - S.sun k), (sunTo S q k).2 - S.sun k)
def clampI (z : Int) : Int := if z < -9999 then -9999 else if 9999 < z then 9999 else z
def holdTo (f : Nat → Int) : Nat → Nat → Int
  | 0 => f
  | k + 1 => updI (holdTo f k) k (clampI (holdTo f k k))
def St.fvol (S : St) : Nat := cum S.ar S.floor
def St.mvol (S : St) : Nat := cum S.ar S.mark
def St.q1 (S : St) : (Nat → Int) × Nat := pourTo S S.fvol S.n
def St.q2 (S : St) : (Nat → Int) × Nat := sunTo S S.q1 S.n
def St.goDay (S : St) : St :=
  S.upd (holdTo S.q2.1 S.n) S.dl (if S.q2.2 + S.spring ≤ S.mvol then S.q2.2 + S.spring else S.mvol) (if S.q2.2 + S.spring ≤ S.mvol then S.town else if S.town + (S.q2.2 + S.spring) - S.mvol ≤ 99999 then S.town + (S.q2.2 + S.spring) - S.mvol else 99999) (S.day + 1)
theorem St.sun_le {S : St} (h : LawOk S.law) (i : Nat) : S.sun i ≤ 990 := by
  unfold St.sun
  by_cases q : i = S.gone
  · rw [if_pos q]; omega
  · rw [if_neg q]
    have := lsum_le (fa := S.fact S.level (some i)) (w := 1) h.2
    have := h.1
    omega
theorem St.pours_b {S : St} (h : LawOk S.law) {i : Nat} (hi : AccOk S i) : -50 ≤ S.pours i ∧ S.pours i ≤ 10000 := by
  have hrate : lastW 4 S.law 0 ≤ 99 := lastW_le h.2 (by decide)
  obtain ⟨⟨o1, o2, o3⟩, ⟨o4, o5⟩, ⟨o6, o7⟩, o8⟩ := hi
  have o8 := o8 (S.day % 4) (by omega)
  unfold St.pours
  by_cases qg : i = S.gone
  · rw [if_pos qg]; omega
  · rw [if_neg qg]
    by_cases q1 : S.kd i = 1 ∨ S.kd i = 4
    · rw [if_pos q1]
      by_cases q : S.bk i ≤ 0
      · rw [if_pos q]; omega
      · rw [if_neg q]
        have p1 : 0 ≤ (S.rate : Int) * S.bk i := Int.mul_nonneg (by omega) (by omega)
        have p2 : (S.rate : Int) * S.bk i ≤ 99 * 9999 := Int.mul_le_mul (by unfold St.rate; omega) o5 (by omega) (by omega)
        rw [Int.tdiv_eq_ediv_of_nonneg p1]
        omega
    · rw [if_neg q1]
      by_cases q2 : S.kd i = 2
      · rw [if_pos q2]; omega
      · rw [if_neg q2]
        by_cases q5 : S.kd i = 5
        · rw [if_pos q5]
          by_cases ql : S.level ≤ 30
          · rw [if_pos ql]; omega
          · rw [if_neg ql]; omega
        · rw [if_neg q5]
          by_cases q6 : S.kd i = 6
          · rw [if_pos q6]; omega
          · rw [if_neg q6]; omega
theorem pIs_b {w fv : Nat} {p : Int} (h : -50 ≤ p ∧ p ≤ 10000) : -50 ≤ pIs w fv p ∧ pIs w fv p ≤ 10000 ∧ 0 ≤ (w : Int) + pIs w fv p := by
  unfold pIs
  by_cases q : p < -((w - fv : Nat) : Int)
  · rw [if_pos q]; omega
  · rw [if_neg q]; omega
theorem pourTo_b {S : St} (h : Ok S) (hl : LawOk S.law) {fv : Nat} : ∀ k, k ≤ S.n → (pourTo S fv k).2 ≤ 9999 + 10000 * k ∧ (∀ j, j < S.n → -10100 ≤ (pourTo S fv k).1 j ∧ (pourTo S fv k).1 j ≤ 20000) ∧ ∀ j, k ≤ j → (pourTo S fv k).1 j = S.bk j
  | 0, _ => ⟨by have := h.1.2.2.1; exact this, fun j hj => by have := (h.1.2.1 j hj).2.1; show -10100 ≤ S.bk j ∧ S.bk j ≤ 20000; omega, fun _ _ => rfl⟩
  | k + 1, hk => by
    obtain ⟨h1, h2, h3⟩ := pourTo_b h hl (fv := fv) k (by omega)
    have hp := St.pours_b hl (h.1.2.1 k (by omega))
    have hb := pIs_b (w := (pourTo S fv k).2) (fv := fv) hp
    have h3k := h3 k (Nat.le_refl _)
    have hbk := (h.1.2.1 k (by omega)).2.1
    refine ⟨?_, fun j hj => ?_, fun j hj => ?_⟩
    · show (((pourTo S fv k).2 : Int) + pIs (pourTo S fv k).2 fv (S.pours k)).toNat ≤ _
      omega
    · show -10100 ≤ (if j = k then _ else _) ∧ (if j = k then _ else _) ≤ (20000 : Int)
      by_cases q : j = k
      · rw [if_pos q]; omega
      · rw [if_neg q]; exact h2 j hj
    · show (if j = k then _ else _) = _
      rw [if_neg (by omega)]
      exact h3 j (by omega)
theorem sunTo_b {S : St} (hl : LawOk S.law) {q : (Nat → Int) × Nat} (hq : ∀ j, j < S.n → -10100 ≤ q.1 j ∧ q.1 j ≤ 20000) : ∀ k, k ≤ S.n → (sunTo S q k).2 ≤ q.2 ∧ (∀ j, j < S.n → -12000 ≤ (sunTo S q k).1 j ∧ (sunTo S q k).1 j ≤ 20000) ∧ ∀ j, k ≤ j → (sunTo S q k).1 j = q.1 j
  | 0, _ => ⟨Nat.le_refl _, fun j hj => by have := hq j hj; show -12000 ≤ q.1 j ∧ q.1 j ≤ 20000; omega, fun _ _ => rfl⟩
  | k + 1, hk => by
    obtain ⟨h1, h2, h3⟩ := sunTo_b hl hq k (by omega)
    have hs := St.sun_le hl k
    have h3k := h3 k (Nat.le_refl _)
    have hqk := hq k (by omega)
    refine ⟨?_, fun j hj => ?_, fun j hj => ?_⟩
    · show (sunTo S q k).2 - S.sun k ≤ _
      omega
    · show -12000 ≤ (if j = k then _ else _) ∧ (if j = k then _ else _) ≤ (20000 : Int)
      by_cases e : j = k
      · rw [if_pos e]; omega
      · rw [if_neg e]; exact h2 j hj
    · show (if j = k then _ else _) = _
      rw [if_neg (by omega)]
      exact h3 j (by omega)
theorem clampI_b {z : Int} : -9999 ≤ clampI z ∧ clampI z ≤ 9999 := by
  unfold clampI
  by_cases q : z < -9999
  · rw [if_pos q]; omega
  · rw [if_neg q]
    by_cases q2 : 9999 < z
    · rw [if_pos q2]; omega
    · rw [if_neg q2]; omega
theorem holdTo_b {f : Nat → Int} : ∀ k, (∀ j, j < k → -9999 ≤ holdTo f k j ∧ holdTo f k j ≤ 9999) ∧ ∀ j, k ≤ j → holdTo f k j = f j
  | 0 => ⟨fun j hj => by omega, fun _ _ => rfl⟩
  | k + 1 => by
    obtain ⟨h1, h2⟩ := holdTo_b (f := f) k
    refine ⟨fun j hj => ?_, fun j hj => ?_⟩
    · show -9999 ≤ (if j = k then _ else _) ∧ (if j = k then _ else _) ≤ (9999 : Int)
      by_cases e : j = k
      · rw [if_pos e]; exact clampI_b
      · rw [if_neg e]; exact h1 j (by omega)
    · show (if j = k then _ else _) = _
      rw [if_neg (by omega)]
      exact h2 j (by omega)
theorem St.mvol_le {S : St} (h : StOk S) : S.mvol ≤ 1200 := by
  have := cum_le (ar := S.ar) (fun s hs => (h.1.2 s hs).2) S.mark (by unfold St.mark; omega)
  have : S.mark ≤ 60 := by unfold St.mark; omega
  unfold St.mvol; omega
theorem St.goDay_ok {S : St} (h : Ok S) (hd : S.day + 1 ≤ 20000) : Ok S.goDay := by
  have hm := St.mvol_le h.1
  obtain ⟨⟨⟨a1, a2⟩, a3, a4, a5⟩, a6, a7, a8⟩ := h
  refine ⟨⟨⟨a1, a2⟩, fun i hi => ?_, ?_, ?_⟩, hd, a7, a8⟩
  · obtain ⟨b1, b2, b3, b4⟩ := a3 i hi
    exact ⟨b1, (holdTo_b (f := S.q2.1) S.n).1 i hi, b3, b4⟩
  · show (if S.q2.2 + S.spring ≤ S.mvol then S.q2.2 + S.spring else S.mvol) ≤ 9999
    by_cases q : S.q2.2 + S.spring ≤ S.mvol
    · rw [if_pos q]; omega
    · rw [if_neg q]; omega
  · show (if S.q2.2 + S.spring ≤ S.mvol then S.town else if S.town + (S.q2.2 + S.spring) - S.mvol ≤ 99999 then S.town + (S.q2.2 + S.spring) - S.mvol else 99999) ≤ 99999
    by_cases q : S.q2.2 + S.spring ≤ S.mvol
    · rw [if_pos q]; exact a5
    · rw [if_neg q]
      by_cases q2 : S.town + (S.q2.2 + S.spring) - S.mvol ≤ 99999
      · rw [if_pos q2]; exact q2
      · rw [if_neg q2]; omega
