/-! ===== rows over the memory: arrays, statics, switches, returns, calls ===== -/
section ARR
variable {α β : Type} {X : x_X} {Z : x_Zs} {A : Nat → Prop} {Q : α → x_M → State → Prop} {p : Program} {l : Launch} {e : Env} {R : Room} {s : State} {m : MethodId} {args : Array Value} {below : List Frame} {meth : Method} {c : Code} {cc : ByteArray} {own : String} {nL cs sl n : Nat} {pc : Nat} {lv lv' : List (Nat × x_V)} {st : List x_V} {μ : x_M} {o : Option (α × x_M)}
abbrev x_ix (i : Int32) (N : Nat) : Prop := ¬ (i < 0 ∨ N ≤ i.toNatClampNeg)
theorem x_n0 (hC : x_C X Z p R s m c cc own nL cs sl n) {a : Nat} (h : 0 < x_kd X a) : a ≠ 0 := fun z => by rw [z, hC.2.2.2.2.2.1.1] at h; omega
theorem s_iald (hC : x_C X Z p R s m c cc own nL cs sl n) {i : Int32} {a : Nat} (hdg : decode cc pc = .ok (.iaload, 1)) (kk : Sm X (x_PI X s) A Q p l e R s m args below meth c nL cs sl (pc + 1) lv (vI (μ.1 a i.toNatClampNeg) :: st) μ o) : Sm X (x_PI X s) A Q p l e R s m args below meth c nL cs sl pc lv (vI i :: vR a :: st) μ (ck ((x_kd X a = 20 ∨ x_kd X a = 40) ∧ x_ix i (x_ln X a)) o) := by
  intro H locs ls hP hS hl r μ1 ho
  unfold ck at ho
  by_cases hx : (x_kd X a = 20 ∨ x_kd X a = 40) ∧ x_ix i (x_ln X a)
  · rw [if_pos hx] at ho
    obtain ⟨hk, hi⟩ := hx
    have h0 : a ≠ 0 := x_n0 hC (by omega)
    have hlt : i.toNatClampNeg < x_ln X a := Nat.not_le.mp fun q => hi (Or.inr q)
    have h2 := kk H locs ls hP hS hl r μ1 ho
    show W p l e R s m args below meth c H locs cs sl (Q r μ1) (F0 m pc ls (.int i :: x_rv X a :: x_st X st))
    rw [x_rv_n X h0]
    rcases hk with hk | hk
    · exact W.iald (v := .int (μ.1 a i.toNatClampNeg)) hC.1 hC.2.1 ((hP a).2.1 hk) ((hC.2.2.2.2.1.1.2 0 _ rfl).1 (x_ln X a) (fun j => .int (μ.1 a j))) (fun q => by cases q) (by show ¬ (i < 0 ∨ (arrV _ _ _).slots.size ≤ _); rw [arrV_size]; exact hi) (by show (arrV _ _ _).slots[_]? = _; rw [arrV_read _ _ hlt]) rfl rfl hdg h2
    · obtain ⟨cell, h1, h2', h3, h4, h5, h6, h7⟩ := (hP a).2.2.2.2.2.1 hk
      have hin' : ¬ (i < 0 ∨ cell.slots.size ≤ i.toNatClampNeg) := by
        intro q
        rcases q with q | q
        · exact hi (Or.inl q)
        · omega
      exact W.iald (v := .int (μ.1 a i.toNatClampNeg)) hC.1 hC.2.1 h1 h2' h3 hin' (h6 _ hlt) rfl rfl hdg h2
  · rw [if_neg hx] at ho; cases ho
theorem s_bald (hC : x_C X Z p R s m c cc own nL cs sl n) {i : Int32} {a : Nat} (hdg : decode cc pc = .ok (.baload, 1)) (kk : Sm X (x_PI X s) A Q p l e R s m args below meth c nL cs sl (pc + 1) lv (vI (μ.1 a i.toNatClampNeg) :: st) μ o) : Sm X (x_PI X s) A Q p l e R s m args below meth c nL cs sl pc lv (vI i :: vR a :: st) μ (ck ((x_kd X a = 22 ∨ x_kd X a = 41) ∧ x_ix i (x_ln X a)) o) := by
  intro H locs ls hP hS hl r μ1 ho
  unfold ck at ho
  by_cases hx : (x_kd X a = 22 ∨ x_kd X a = 41) ∧ x_ix i (x_ln X a)
  · rw [if_pos hx] at ho
    obtain ⟨hk, hi⟩ := hx
    have h0 : a ≠ 0 := x_n0 hC (by omega)
    have hlt : i.toNatClampNeg < x_ln X a := Nat.not_le.mp fun q => hi (Or.inr q)
    have h2 := kk H locs ls hP hS hl r μ1 ho
    show W p l e R s m args below meth c H locs cs sl (Q r μ1) (F0 m pc ls (.int i :: x_rv X a :: x_st X st))
    rw [x_rv_n X h0]
    rcases hk with hk | hk
    · exact W.zald (v := .int (μ.1 a i.toNatClampNeg)) hC.1 hC.2.1 ((hP a).2.2.2.1 hk) ((hC.2.2.2.2.1.1.2 2 _ rfl).1 (x_ln X a) (fun j => .int (μ.1 a j))) (fun q => by cases q) (by show ¬ (i < 0 ∨ (arrV _ _ _).slots.size ≤ _); rw [arrV_size]; exact hi) (by show (arrV _ _ _).slots[_]? = _; rw [arrV_read _ _ hlt]) rfl rfl hdg h2
    · obtain ⟨cell, h1, h2', h3, h4, h5, h6, h7⟩ := (hP a).2.2.2.2.2.2.1 hk
      have hin' : ¬ (i < 0 ∨ cell.slots.size ≤ i.toNatClampNeg) := by
        intro q
        rcases q with q | q
        · exact hi (Or.inl q)
        · omega
      exact W.bald (v := .int (μ.1 a i.toNatClampNeg)) hC.1 hC.2.1 h1 h2' h3 hin' (h6 _ hlt) rfl rfl hdg h2
  · rw [if_neg hx] at ho; cases ho
theorem s_lald (hC : x_C X Z p R s m c cc own nL cs sl n) {i : Int32} {a : Nat} (hdg : decode cc pc = .ok (.laload, 1)) (kk : Sm X (x_PI X s) A Q p l e R s m args below meth c nL cs sl (pc + 1) lv (vJ (μ.2.2 a i.toNatClampNeg) :: st) μ o) : Sm X (x_PI X s) A Q p l e R s m args below meth c nL cs sl pc lv (vI i :: vR a :: st) μ (ck (x_kd X a = 21 ∧ x_ix i (x_ln X a)) o) := by
  intro H locs ls hP hS hl r μ1 ho
  unfold ck at ho
  by_cases hx : x_kd X a = 21 ∧ x_ix i (x_ln X a)
  · rw [if_pos hx] at ho
    obtain ⟨hk, hi⟩ := hx
    have h0 : a ≠ 0 := x_n0 hC (by omega)
    have hlt : i.toNatClampNeg < x_ln X a := Nat.not_le.mp fun q => hi (Or.inr q)
    have h2 := kk H locs ls hP hS hl r μ1 ho
    show W p l e R s m args below meth c H locs cs sl (Q r μ1) (F0 m pc ls (.int i :: x_rv X a :: x_st X st))
    rw [x_rv_n X h0]
    exact W.lald (v := .long (μ.2.2 a i.toNatClampNeg)) hC.1 hC.2.1 ((hP a).2.2.1 hk) ((hC.2.2.2.2.1.1.2 1 _ rfl).1 (x_ln X a) (fun j => .long (μ.2.2 a j))) (fun q => by cases q) (by show ¬ (i < 0 ∨ (arrV _ _ _).slots.size ≤ _); rw [arrV_size]; exact hi) (by show (arrV _ _ _).slots[_]? = _; rw [arrV_read _ _ hlt]) rfl rfl hdg h2
  · rw [if_neg hx] at ho; cases ho
/-- the place of an array of references among the array classes -/
def x_tk (k : Nat) : String := if k = 23 then RX0 else if k = 24 then RX4 else RX8
theorem s_aald (hC : x_C X Z p R s m c cc own nL cs sl n) {i : Int32} {a : Nat} (hdg : decode cc pc = .ok (.aaload, 1)) (kk : Sm X (x_PI X s) A Q p l e R s m args below meth c nL cs sl (pc + 1) lv (vR (μ.2.1 a i.toNatClampNeg) :: st) μ o) : Sm X (x_PI X s) A Q p l e R s m args below meth c nL cs sl pc lv (vI i :: vR a :: st) μ (ck ((x_kd X a = 23 ∨ x_kd X a = 24 ∨ x_kd X a = 25) ∧ x_ix i (x_ln X a)) o) := by
  intro H locs ls hP hS hl r μ1 ho
  unfold ck at ho
  by_cases hx : (x_kd X a = 23 ∨ x_kd X a = 24 ∨ x_kd X a = 25) ∧ x_ix i (x_ln X a)
  · rw [if_pos hx] at ho
    obtain ⟨hk, hi⟩ := hx
    have h0 : a ≠ 0 := x_n0 hC (by omega)
    have hlt : i.toNatClampNeg < x_ln X a := Nat.not_le.mp fun q => hi (Or.inr q)
    have h2 := kk H locs ls hP hS hl r μ1 ho
    have h2 : W p l e R s m args below meth c H locs cs sl (Q r μ1) (F0 m (pc + 1) ls (x_rv X (μ.2.1 a i.toNatClampNeg) :: x_st X st)) := h2
    rw [← x_rf_ro] at h2
    show W p l e R s m args below meth c H locs cs sl (Q r μ1) (F0 m pc ls (.int i :: x_rv X a :: x_st X st))
    rw [x_rv_n X h0]
    have h5 := (hP a).2.2.2.2.1 (by omega) (by omega)
    have hA : ∃ C : String, s.isArrayOf (vp_cell (x_cA X (x_kd X a)) (x_ln X a, .inr (.inr (.inr (.inr (fun i => x_ro X (μ.2.1 a i))))))) (.object C) := by
      rcases hk with hk | hk | hk <;> rw [hk]
      · exact ⟨_, (hC.2.2.2.2.1.1.2 3 _ rfl).1 (x_ln X a) (fun j => va_rf (x_ro X (μ.2.1 a j)))⟩
      · exact ⟨_, (hC.2.2.2.2.1.1.2 4 _ rfl).1 (x_ln X a) (fun j => va_rf (x_ro X (μ.2.1 a j)))⟩
      · exact ⟨_, (hC.2.2.2.2.1.1.2 5 _ rfl).1 (x_ln X a) (fun j => va_rf (x_ro X (μ.2.1 a j)))⟩
    obtain ⟨Cn, hA⟩ := hA
    exact W.aald (v := va_rf (x_ro X (μ.2.1 a i.toNatClampNeg))) (ty := .object Cn) hC.1 hC.2.1 h5 hA rfl (fun q => by cases q) (by show ¬ (i < 0 ∨ (arrV _ _ _).slots.size ≤ _); rw [arrV_size]; exact hi) (by show (arrV _ _ _).slots[_]? = _; rw [arrV_read _ _ hlt]) rfl rfl hdg h2
  · rw [if_neg hx] at ho; cases ho
theorem s_alen (hC : x_C X Z p R s m c cc own nL cs sl n) {a : Nat} (hdg : decode cc pc = .ok (.arraylength, 1)) (kk : Sm X (x_PI X s) A Q p l e R s m args below meth c nL cs sl (pc + 1) lv (vI (nI (x_ln X a)) :: st) μ o) : Sm X (x_PI X s) A Q p l e R s m args below meth c nL cs sl pc lv (vR a :: st) μ (ck (x_kd X a = 20 ∨ x_kd X a = 23 ∨ x_kd X a = 40 ∨ x_kd X a = 41) o) := by
  intro H locs ls hP hS hl r μ1 ho
  unfold ck at ho
  by_cases hx : x_kd X a = 20 ∨ x_kd X a = 23 ∨ x_kd X a = 40 ∨ x_kd X a = 41
  · rw [if_pos hx] at ho
    have h0 : a ≠ 0 := x_n0 hC (by omega)
    have h2 := kk H locs ls hP hS hl r μ1 ho
    show W p l e R s m args below meth c H locs cs sl (Q r μ1) (F0 m pc ls (x_rv X a :: x_st X st))
    rw [x_rv_n X h0]
    rcases hx with hk | hk | hk | hk
    · exact W.alen (n := Int32.ofNat (x_ln X a)) hC.1 hC.2.1 ((hP a).2.1 hk) ((hC.2.2.2.2.1.1.2 0 _ rfl).1 (x_ln X a) (fun j => .int (μ.1 a j))) (by rw [vp_cell_i, arrV_size] <;> rfl) rfl rfl hdg h2
    · have h5 := (hP a).2.2.2.2.1 (by omega) (by omega)
      rw [hk] at h5
      exact W.alen (n := Int32.ofNat (x_ln X a)) hC.1 hC.2.1 h5 ((hC.2.2.2.2.1.1.2 3 _ rfl).1 (x_ln X a) (fun j => va_rf (x_ro X (μ.2.1 a j)))) (by rw [vp_cell_q, arrV_size] <;> rfl) rfl rfl hdg h2
    · obtain ⟨cell, h1, h2', h3, h4, h5, h6, h7⟩ := (hP a).2.2.2.2.2.1 hk
      exact W.alen (n := Int32.ofNat (x_ln X a)) hC.1 hC.2.1 h1 h2' h5 rfl rfl hdg h2
    · obtain ⟨cell, h1, h2', h3, h4, h5, h6, h7⟩ := (hP a).2.2.2.2.2.2.1 hk
      exact W.alen (n := Int32.ofNat (x_ln X a)) hC.1 hC.2.1 h1 h2' h5 rfl rfl hdg h2
  · rw [if_neg hx] at ho; cases ho
theorem s_iast (hC : x_C X Z p R s m c cc own nL cs sl n) {i v : Int32} {a : Nat} (hdg : decode cc pc = .ok (.iastore, 1)) (kk : Sm X (x_PI X s) (x_A X) Q p l e R s m args below meth c nL cs sl (pc + 1) lv st (x_sI μ a i.toNatClampNeg v) o) : Sm X (x_PI X s) (x_A X) Q p l e R s m args below meth c nL cs sl pc lv (vI v :: vI i :: vR a :: st) μ (ck (x_kd X a = 20 ∧ x_ix i (x_ln X a)) o) := by
  intro H locs ls hP hS hl r μ1 ho
  unfold ck at ho
  by_cases hx : x_kd X a = 20 ∧ x_ix i (x_ln X a)
  · rw [if_pos hx] at ho
    obtain ⟨hk, hi⟩ := hx
    have h0 : a ≠ 0 := x_n0 hC (by omega)
    show W p l e R s m args below meth c H locs cs sl (Q r μ1) (F0 m pc ls (.int v :: .int i :: x_rv X a :: x_st X st))
    rw [x_rv_n X h0]
    refine W.iast hC.1 hC.2.1 ((hP a).2.1 hk) ((hC.2.2.2.2.1.1.2 0 _ rfl).1 (x_ln X a) (fun j => .int (μ.1 a j))) (fun q => by cases q) (by show ¬ (i < 0 ∨ (arrV _ _ _).slots.size ≤ _); rw [arrV_size]; exact hi) rfl rfl hdg fun H1 e1 z oq => ?_
    refine kk H1 _ ls (x_P.put hC.2.2.2.2.2.1 hP (o := a) (by omega) (by omega) ?_ oq (fun q hq => x_u_ne hq) (fun q hq => rfl) (fun q hq => rfl)) (hS.put z oq ⟨a, by omega, by omega, rfl⟩) hl r μ1 ho
    refine ⟨fun _ _ => by omega, fun _ => ?_, fun z => by omega, fun z => by omega, fun z => by omega, fun z => by omega, fun z => by omega, fun z => by omega⟩
    rw [e1, vp_cell_i, vp_cell_i, arrV_store]
    congr 2
    funext q
    show updV _ _ _ q = Value.int (x_u μ.1 a i.toNatClampNeg v a q)
    rw [x_u_eq]
    by_cases hq : q = i.toNatClampNeg
    · subst hq; simp [updV]
    · simp [updV, hq]
  · rw [if_neg hx] at ho; cases ho
theorem s_zast (hC : x_C X Z p R s m c cc own nL cs sl n) {i v : Int32} {a : Nat} (hdg : decode cc pc = .ok (.bastore, 1)) (kk : Sm X (x_PI X s) (x_A X) Q p l e R s m args below meth c nL cs sl (pc + 1) lv st (x_sI μ a i.toNatClampNeg (vp_nar .boolean v)) o) : Sm X (x_PI X s) (x_A X) Q p l e R s m args below meth c nL cs sl pc lv (vI v :: vI i :: vR a :: st) μ (ck (x_kd X a = 22 ∧ x_ix i (x_ln X a)) o) := by
  intro H locs ls hP hS hl r μ1 ho
  unfold ck at ho
  by_cases hx : x_kd X a = 22 ∧ x_ix i (x_ln X a)
  · rw [if_pos hx] at ho
    obtain ⟨hk, hi⟩ := hx
    have h0 : a ≠ 0 := x_n0 hC (by omega)
    show W p l e R s m args below meth c H locs cs sl (Q r μ1) (F0 m pc ls (.int v :: .int i :: x_rv X a :: x_st X st))
    rw [x_rv_n X h0]
    refine W.zast hC.1 hC.2.1 ((hP a).2.2.2.1 hk) ((hC.2.2.2.2.1.1.2 2 _ rfl).1 (x_ln X a) (fun j => .int (μ.1 a j))) (fun q => by cases q) (by show ¬ (i < 0 ∨ (arrV _ _ _).slots.size ≤ _); rw [arrV_size]; exact hi) rfl rfl hdg fun H1 e1 z oq => ?_
    refine kk H1 _ ls (x_P.put hC.2.2.2.2.2.1 hP (o := a) (by omega) (by omega) ?_ oq (fun q hq => x_u_ne hq) (fun q hq => rfl) (fun q hq => rfl)) (hS.put z oq ⟨a, by omega, by omega, rfl⟩) hl r μ1 ho
    refine ⟨fun _ _ => by omega, fun z => by omega, fun z => by omega, fun _ => ?_, fun z => by omega, fun z => by omega, fun z => by omega, fun z => by omega⟩
    rw [e1, vp_cell_i, vp_cell_i, arrV_store]
    congr 2
    funext q
    show updV _ _ _ q = Value.int (x_u μ.1 a i.toNatClampNeg (vp_nar .boolean v) a q)
    rw [x_u_eq]
    by_cases hq : q = i.toNatClampNeg
    · subst hq
      simp [updV, vp_nar]
      try rfl
    · simp [updV, hq]
  · rw [if_neg hx] at ho; cases ho
theorem s_last (hC : x_C X Z p R s m c cc own nL cs sl n) {i : Int32} {v : Int64} {a : Nat} (hdg : decode cc pc = .ok (.lastore, 1)) (kk : Sm X (x_PI X s) (x_A X) Q p l e R s m args below meth c nL cs sl (pc + 1) lv st (x_sJ μ a i.toNatClampNeg v) o) : Sm X (x_PI X s) (x_A X) Q p l e R s m args below meth c nL cs sl pc lv (vJ v :: vI i :: vR a :: st) μ (ck (x_kd X a = 21 ∧ x_ix i (x_ln X a)) o) := by
  intro H locs ls hP hS hl r μ1 ho
  unfold ck at ho
  by_cases hx : x_kd X a = 21 ∧ x_ix i (x_ln X a)
  · rw [if_pos hx] at ho
    obtain ⟨hk, hi⟩ := hx
    have h0 : a ≠ 0 := x_n0 hC (by omega)
    show W p l e R s m args below meth c H locs cs sl (Q r μ1) (F0 m pc ls (.long v :: .int i :: x_rv X a :: x_st X st))
    rw [x_rv_n X h0]
    refine W.last hC.1 hC.2.1 ((hP a).2.2.1 hk) ((hC.2.2.2.2.1.1.2 1 _ rfl).1 (x_ln X a) (fun j => .long (μ.2.2 a j))) (fun q => by cases q) (by show ¬ (i < 0 ∨ (arrV _ _ _).slots.size ≤ _); rw [arrV_size]; exact hi) rfl rfl hdg fun H1 e1 z oq => ?_
    refine kk H1 _ ls (x_P.put hC.2.2.2.2.2.1 hP (o := a) (by omega) (by omega) ?_ oq (fun q hq => rfl) (fun q hq => rfl) (fun q hq => x_u_ne hq)) (hS.put z oq ⟨a, by omega, by omega, rfl⟩) hl r μ1 ho
    refine ⟨fun _ _ => by omega, fun z => by omega, fun _ => ?_, fun z => by omega, fun z => by omega, fun z => by omega, fun z => by omega, fun z => by omega⟩
    rw [e1, vp_cell_l, vp_cell_l, arrV_store]
    congr 2
    funext q
    show updV _ _ _ q = Value.long (x_u μ.2.2 a i.toNatClampNeg v a q)
    rw [x_u_eq]
    by_cases hq : q = i.toNatClampNeg
    · subst hq; simp [updV]
    · simp [updV, hq]
  · rw [if_neg hx] at ho; cases ho
end ARR
