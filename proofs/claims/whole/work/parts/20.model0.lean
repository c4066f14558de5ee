variable {X : x_X} {l : Launch} {p : Program} {e : Env} {s : State} {m : MethodId} {args : Array Value} {below : List Frame} {meth : Method} {c : Code}
theorem dX10_in_0 : decode cX10_in 0 = .ok (.iload_n 1, 1) := by decide +kernel
theorem dX10_in_1 : decode cX10_in 1 = .ok (.iload_n 2, 1) := by decide +kernel
theorem dX10_in_2 : decode cX10_in 2 = .ok (.if_icmp .lt 12, 3) := by decide +kernel
theorem dX10_in_5 : decode cX10_in 5 = .ok (.iload_n 1, 1) := by decide +kernel
theorem dX10_in_6 : decode cX10_in 6 = .ok (.iload_n 3, 1) := by decide +kernel
theorem dX10_in_7 : decode cX10_in 7 = .ok (.if_icmp .gt 7, 3) := by decide +kernel
theorem dX10_in_10 : decode cX10_in 10 = .ok (.iconst 1, 1) := by decide +kernel
theorem dX10_in_11 : decode cX10_in 11 = .ok (.goto 4, 3) := by decide +kernel
theorem dX10_in_14 : decode cX10_in 14 = .ok (.iconst 0, 1) := by decide +kernel
theorem dX10_in_15 : decode cX10_in 15 = .ok (.ireturn, 1) := by decide +kernel
def f_X10_in (X : x_X) (v0 : Nat) (v1 : Int32) (v2 : Int32) (v3 : Int32) (μ : x_M) : Option (Int32 × x_M) :=
  (if v1 < v2 then (ck ((0 : Int32) = 0 ∨ (0 : Int32) = 1) (some ((0 : Int32), μ))) else (if v3 < v1 then (ck ((0 : Int32) = 0 ∨ (0 : Int32) = 1) (some ((0 : Int32), μ))) else (ck ((1 : Int32) = 0 ∨ (1 : Int32) = 1) (some ((1 : Int32), μ)))))
set_option maxRecDepth 100000 in
theorem m_X10_in (hI : x_I X) (v0 : Nat) (v1 : Int32) (v2 : Int32) (v3 : Int32) (μ : x_M) : x_Met X x_Z0 l yX10_in cX10_in 4 (some .boolean) 1 [vR v0, vI v1, vI v2, vI v3] μ rkI (f_X10_in X v0 v1 v2 v3 μ) := by
  refine x_enter hI (by decide +kernel) (Nat.le_of_ble_eq_true rfl) (fun p e s m args below meth c hC hr hlk => ?_)
  unfold f_X10_in
  refine s_lv (lv' := [(0, vR v0), (1, vI v1), (2, vI v2), (3, vI v3)]) [0, 1, 2, 3] rfl ?_
  refine s_iload_n hC 1 dX10_in_0 rfl ?_
  refine s_iload_n hC 2 dX10_in_1 rfl ?_
  refine s_icmp_lt hC dX10_in_2 (tgt := 14) (by decide) ?_ ?_
  · refine s_iconst hC dX10_in_14 (v := 0) (by decide) ?_
    exact s_zret hC hr hlk dX10_in_15
  refine s_iload_n hC 1 dX10_in_5 rfl ?_
  refine s_iload_n hC 3 dX10_in_6 rfl ?_
  refine s_icmp_gt hC dX10_in_7 (tgt := 14) (by decide) ?_ ?_
  · refine s_iconst hC dX10_in_14 (v := 0) (by decide) ?_
    exact s_zret hC hr hlk dX10_in_15
  refine s_iconst hC dX10_in_10 (v := 1) (by decide) ?_
  refine s_goto hC dX10_in_11 (tgt := 15) (by decide) ?_
  exact s_zret hC hr hlk dX10_in_15
theorem dX10_volumeOf_0 : decode cX10_volumeOf 0 = .ok (.iconst 0, 1) := by decide +kernel
theorem dX10_volumeOf_1 : decode cX10_volumeOf 1 = .ok (.istore_n 2, 1) := by decide +kernel
theorem dX10_volumeOf_2 : decode cX10_volumeOf 2 = .ok (.iconst 0, 1) := by decide +kernel
theorem dX10_volumeOf_3 : decode cX10_volumeOf 3 = .ok (.istore_n 3, 1) := by decide +kernel
theorem dX10_volumeOf_4 : decode cX10_volumeOf 4 = .ok (.iload_n 3, 1) := by decide +kernel
theorem dX10_volumeOf_5 : decode cX10_volumeOf 5 = .ok (.iload_n 1, 1) := by decide +kernel
theorem dX10_volumeOf_6 : decode cX10_volumeOf 6 = .ok (.if_icmp .ge 21, 3) := by decide +kernel
theorem dX10_volumeOf_9 : decode cX10_volumeOf 9 = .ok (.iload_n 2, 1) := by decide +kernel
theorem dX10_volumeOf_10 : decode cX10_volumeOf 10 = .ok (.aload_n 0, 1) := by decide +kernel
theorem dX10_volumeOf_11 : decode cX10_volumeOf 11 = .ok (.getfield 22, 3) := by decide +kernel
theorem dX10_volumeOf_14 : decode cX10_volumeOf 14 = .ok (.iload_n 3, 1) := by decide +kernel
theorem dX10_volumeOf_15 : decode cX10_volumeOf 15 = .ok (.bipush 10, 2) := by decide +kernel
theorem dX10_volumeOf_17 : decode cX10_volumeOf 17 = .ok (.idiv, 1) := by decide +kernel
theorem dX10_volumeOf_18 : decode cX10_volumeOf 18 = .ok (.iaload, 1) := by decide +kernel
theorem dX10_volumeOf_19 : decode cX10_volumeOf 19 = .ok (.iadd, 1) := by decide +kernel
theorem dX10_volumeOf_20 : decode cX10_volumeOf 20 = .ok (.istore_n 2, 1) := by decide +kernel
theorem dX10_volumeOf_21 : decode cX10_volumeOf 21 = .ok (.iinc 3 1, 3) := by decide +kernel
theorem dX10_volumeOf_24 : decode cX10_volumeOf 24 = .ok (.goto (-20), 3) := by decide +kernel
theorem dX10_volumeOf_27 : decode cX10_volumeOf 27 = .ok (.iload_n 2, 1) := by decide +kernel
theorem dX10_volumeOf_28 : decode cX10_volumeOf 28 = .ok (.ireturn, 1) := by decide +kernel
def f_X10_volumeOf_L4 (X : x_X) : Nat → Nat → Int32 → Int32 → Int32 → x_M → Option (Int32 × x_M)
  | 0, _, _, _, _, _ => none
  | n + 1, v3, v4, v5, v6, μ7 =>
    (if v4 ≤ v6 then (some (v5, μ7)) else (ck (x_kd X v3 = 10 + 1) (lt (μ7.2.1 v3 4) (fun (v8 : Nat) => (ck (¬ (10 : Int32) = 0) (lt (v6 / (10 : Int32)) (fun (v9 : Int32) => (ck ((x_kd X v8 = 20 ∨ x_kd X v8 = 40) ∧ x_ix v9 (x_ln X v8)) (lt (v5 + (μ7.1 v8 (v9).toNatClampNeg)) (fun (v10 : Int32) => (f_X10_volumeOf_L4 X n v3 v4 v10 (v6 + (1 : Int32)) μ7)))))))))))
set_option maxRecDepth 100000 in
theorem j_X10_volumeOf_L4 (hI : x_I X) (hC : x_C X x_Z0 p (x_rm 1) s m c cX10_volumeOf RX10 4 0 0 1) (hr : meth.sig.returnType = (some .int)) (hlk : meth.locks = false) : ∀ (n : Nat) (v3 : Nat) (v4 : Int32) (v5 : Int32) (v6 : Int32) (μ7 : x_M), SM X 4 1 rkI p l e s m args below meth c 4 [(0, vR v3), (1, vI v4), (2, vI v5), (3, vI v6)] [] μ7 (f_X10_volumeOf_L4 X n v3 v4 v5 v6 μ7) := by
  intro n
  induction n with
  | zero => intro v3 v4 v5 v6 μ7; exact s_none
  | succ n ih =>
    intro v3 v4 v5 v6 μ7
    unfold f_X10_volumeOf_L4
    refine s_iload_n hC 3 dX10_volumeOf_4 rfl ?_
    refine s_iload_n hC 1 dX10_volumeOf_5 rfl ?_
    refine s_icmp_ge hC dX10_volumeOf_6 (tgt := 27) (by decide) ?_ ?_
    · refine s_iload_n hC 2 dX10_volumeOf_27 rfl ?_
      exact s_iret hC hr hlk dX10_volumeOf_28
    refine s_iload_n hC 2 dX10_volumeOf_9 rfl ?_
    refine s_aload_n hC 0 dX10_volumeOf_10 rfl ?_
    refine s_getR hC xc10 (by decide) rfl qf_X10_22 dX10_volumeOf_11 ?_
    refine s_ltR (fun v8 => ?_)
    refine s_iload_n hC 3 dX10_volumeOf_14 rfl ?_
    refine s_bipush hC dX10_volumeOf_15 (v := 10) (by decide) ?_
    refine s_idiv hC dX10_volumeOf_17 ?_
    refine s_ltI (fun v9 => ?_)
    refine s_iald hC dX10_volumeOf_18 ?_
    refine s_iadd hC dX10_volumeOf_19 ?_
    refine s_ltI (fun v10 => ?_)
    refine s_istore_n hC dX10_volumeOf_20 (by decide) (lv' := [(2, vI v10), (0, vR v3), (1, vI v4), (3, vI v6)]) rfl ?_
    refine s_iinc hC 3 dX10_volumeOf_21 rfl (w := 1) (by decide) (by decide) (lv' := [(3, vI (v6 + (1 : Int32))), (2, vI v10), (0, vR v3), (1, vI v4)]) rfl ?_
    refine s_goto hC dX10_volumeOf_24 (tgt := 4) (by decide) ?_
    refine s_lv (lv' := [(0, vR v3), (1, vI v4), (2, vI v10), (3, vI (v6 + (1 : Int32)))]) [2, 3, 1, 0] rfl ?_
    exact ih _ _ _ _ _
def f_X10_volumeOf (X : x_X) (v0 : Nat) (v1 : Int32) (μ : x_M) : Option (Int32 × x_M) :=
  (f_X10_volumeOf_L4 X 4096 v0 v1 (0 : Int32) (0 : Int32) μ)
set_option maxRecDepth 100000 in
theorem m_X10_volumeOf (hI : x_I X) (v0 : Nat) (v1 : Int32) (μ : x_M) : x_Met X x_Z0 l yX10_volumeOf cX10_volumeOf 4 (some .int) 1 [vR v0, vI v1] μ rkI (f_X10_volumeOf X v0 v1 μ) := by
  refine x_enter hI (by decide +kernel) (Nat.le_of_ble_eq_true rfl) (fun p e s m args below meth c hC hr hlk => ?_)
  unfold f_X10_volumeOf
  refine s_lv (lv' := [(0, vR v0), (1, vI v1)]) [0, 1] rfl ?_
  refine s_iconst hC dX10_volumeOf_0 (v := 0) (by decide) ?_
  refine s_istore_n hC dX10_volumeOf_1 (by decide) (lv' := [(2, vI (0 : Int32)), (0, vR v0), (1, vI v1)]) rfl ?_
  refine s_iconst hC dX10_volumeOf_2 (v := 0) (by decide) ?_
  refine s_istore_n hC dX10_volumeOf_3 (by decide) (lv' := [(3, vI (0 : Int32)), (2, vI (0 : Int32)), (0, vR v0), (1, vI v1)]) rfl ?_
  refine s_lv (lv' := [(0, vR v0), (1, vI v1), (2, vI (0 : Int32)), (3, vI (0 : Int32))]) [2, 3, 1, 0] rfl ?_
  refine j_X10_volumeOf_L4 hI hC hr hlk 4096 _ _ _ _ _
theorem dX10_levelOf_0 : decode cX10_levelOf 0 = .ok (.iconst 0, 1) := by decide +kernel
theorem dX10_levelOf_1 : decode cX10_levelOf 1 = .ok (.istore_n 2, 1) := by decide +kernel
theorem dX10_levelOf_2 : decode cX10_levelOf 2 = .ok (.iconst 0, 1) := by decide +kernel
theorem dX10_levelOf_3 : decode cX10_levelOf 3 = .ok (.istore_n 3, 1) := by decide +kernel
theorem dX10_levelOf_4 : decode cX10_levelOf 4 = .ok (.iload_n 2, 1) := by decide +kernel
theorem dX10_levelOf_5 : decode cX10_levelOf 5 = .ok (.bipush 60, 2) := by decide +kernel
theorem dX10_levelOf_7 : decode cX10_levelOf 7 = .ok (.if_icmp .ge 36, 3) := by decide +kernel
theorem dX10_levelOf_10 : decode cX10_levelOf 10 = .ok (.iload_n 3, 1) := by decide +kernel
theorem dX10_levelOf_11 : decode cX10_levelOf 11 = .ok (.aload_n 0, 1) := by decide +kernel
theorem dX10_levelOf_12 : decode cX10_levelOf 12 = .ok (.getfield 22, 3) := by decide +kernel
theorem dX10_levelOf_15 : decode cX10_levelOf 15 = .ok (.iload_n 2, 1) := by decide +kernel
theorem dX10_levelOf_16 : decode cX10_levelOf 16 = .ok (.bipush 10, 2) := by decide +kernel
theorem dX10_levelOf_18 : decode cX10_levelOf 18 = .ok (.idiv, 1) := by decide +kernel
theorem dX10_levelOf_19 : decode cX10_levelOf 19 = .ok (.iaload, 1) := by decide +kernel
theorem dX10_levelOf_20 : decode cX10_levelOf 20 = .ok (.iadd, 1) := by decide +kernel
theorem dX10_levelOf_21 : decode cX10_levelOf 21 = .ok (.iload_n 1, 1) := by decide +kernel
theorem dX10_levelOf_22 : decode cX10_levelOf 22 = .ok (.if_icmp .gt 21, 3) := by decide +kernel
theorem dX10_levelOf_25 : decode cX10_levelOf 25 = .ok (.iload_n 3, 1) := by decide +kernel
theorem dX10_levelOf_26 : decode cX10_levelOf 26 = .ok (.aload_n 0, 1) := by decide +kernel
theorem dX10_levelOf_27 : decode cX10_levelOf 27 = .ok (.getfield 22, 3) := by decide +kernel
theorem dX10_levelOf_30 : decode cX10_levelOf 30 = .ok (.iload_n 2, 1) := by decide +kernel
theorem dX10_levelOf_31 : decode cX10_levelOf 31 = .ok (.bipush 10, 2) := by decide +kernel
theorem dX10_levelOf_33 : decode cX10_levelOf 33 = .ok (.idiv, 1) := by decide +kernel
theorem dX10_levelOf_34 : decode cX10_levelOf 34 = .ok (.iaload, 1) := by decide +kernel
theorem dX10_levelOf_35 : decode cX10_levelOf 35 = .ok (.iadd, 1) := by decide +kernel
theorem dX10_levelOf_36 : decode cX10_levelOf 36 = .ok (.istore_n 3, 1) := by decide +kernel
theorem dX10_levelOf_37 : decode cX10_levelOf 37 = .ok (.iinc 2 1, 3) := by decide +kernel
theorem dX10_levelOf_40 : decode cX10_levelOf 40 = .ok (.goto (-36), 3) := by decide +kernel
theorem dX10_levelOf_43 : decode cX10_levelOf 43 = .ok (.iload_n 2, 1) := by decide +kernel
theorem dX10_levelOf_44 : decode cX10_levelOf 44 = .ok (.ireturn, 1) := by decide +kernel
def f_X10_levelOf_L4 (X : x_X) : Nat → Nat → Int32 → Int32 → Int32 → x_M → Option (Int32 × x_M)
  | 0, _, _, _, _, _ => none
  | n + 1, v3, v4, v5, v6, μ7 =>
    (if (60 : Int32) ≤ v5 then (some (v5, μ7)) else (ck (x_kd X v3 = 10 + 1) (lt (μ7.2.1 v3 4) (fun (v8 : Nat) => (ck (¬ (10 : Int32) = 0) (lt (v5 / (10 : Int32)) (fun (v9 : Int32) => (ck ((x_kd X v8 = 20 ∨ x_kd X v8 = 40) ∧ x_ix v9 (x_ln X v8)) (if v4 < (v6 + (μ7.1 v8 (v9).toNatClampNeg)) then (some (v5, μ7)) else (ck (x_kd X v3 = 10 + 1) (lt (μ7.2.1 v3 4) (fun (v10 : Nat) => (ck (¬ (10 : Int32) = 0) (lt (v5 / (10 : Int32)) (fun (v11 : Int32) => (ck ((x_kd X v10 = 20 ∨ x_kd X v10 = 40) ∧ x_ix v11 (x_ln X v10)) (lt (v6 + (μ7.1 v10 (v11).toNatClampNeg)) (fun (v12 : Int32) => (f_X10_levelOf_L4 X n v3 v4 (v5 + (1 : Int32)) v12 μ7)))))))))))))))))))
set_option maxRecDepth 100000 in
theorem j_X10_levelOf_L4 (hI : x_I X) (hC : x_C X x_Z0 p (x_rm 1) s m c cX10_levelOf RX10 4 0 0 1) (hr : meth.sig.returnType = (some .int)) (hlk : meth.locks = false) : ∀ (n : Nat) (v3 : Nat) (v4 : Int32) (v5 : Int32) (v6 : Int32) (μ7 : x_M), SM X 4 1 rkI p l e s m args below meth c 4 [(0, vR v3), (1, vI v4), (2, vI v5), (3, vI v6)] [] μ7 (f_X10_levelOf_L4 X n v3 v4 v5 v6 μ7) := by
  intro n
  induction n with
  | zero => intro v3 v4 v5 v6 μ7; exact s_none
  | succ n ih =>
    intro v3 v4 v5 v6 μ7
    unfold f_X10_levelOf_L4
    refine s_iload_n hC 2 dX10_levelOf_4 rfl ?_
    refine s_bipush hC dX10_levelOf_5 (v := 60) (by decide) ?_
    refine s_icmp_ge hC dX10_levelOf_7 (tgt := 43) (by decide) ?_ ?_
    · refine s_iload_n hC 2 dX10_levelOf_43 rfl ?_
      exact s_iret hC hr hlk dX10_levelOf_44
    refine s_iload_n hC 3 dX10_levelOf_10 rfl ?_
    refine s_aload_n hC 0 dX10_levelOf_11 rfl ?_
    refine s_getR hC xc10 (by decide) rfl qf_X10_22 dX10_levelOf_12 ?_
    refine s_ltR (fun v8 => ?_)
    refine s_iload_n hC 2 dX10_levelOf_15 rfl ?_
    refine s_bipush hC dX10_levelOf_16 (v := 10) (by decide) ?_
    refine s_idiv hC dX10_levelOf_18 ?_
    refine s_ltI (fun v9 => ?_)
    refine s_iald hC dX10_levelOf_19 ?_
    refine s_iadd hC dX10_levelOf_20 ?_
    refine s_iload_n hC 1 dX10_levelOf_21 rfl ?_
    refine s_icmp_gt hC dX10_levelOf_22 (tgt := 43) (by decide) ?_ ?_
    · refine s_iload_n hC 2 dX10_levelOf_43 rfl ?_
      exact s_iret hC hr hlk dX10_levelOf_44
    refine s_iload_n hC 3 dX10_levelOf_25 rfl ?_
    refine s_aload_n hC 0 dX10_levelOf_26 rfl ?_
    refine s_getR hC xc10 (by decide) rfl qf_X10_22 dX10_levelOf_27 ?_
    refine s_ltR (fun v10 => ?_)
    refine s_iload_n hC 2 dX10_levelOf_30 rfl ?_
    refine s_bipush hC dX10_levelOf_31 (v := 10) (by decide) ?_
    refine s_idiv hC dX10_levelOf_33 ?_
    refine s_ltI (fun v11 => ?_)
    refine s_iald hC dX10_levelOf_34 ?_
    refine s_iadd hC dX10_levelOf_35 ?_
    refine s_ltI (fun v12 => ?_)
    refine s_istore_n hC dX10_levelOf_36 (by decide) (lv' := [(3, vI v12), (0, vR v3), (1, vI v4), (2, vI v5)]) rfl ?_
    refine s_iinc hC 3 dX10_levelOf_37 rfl (w := 1) (by decide) (by decide) (lv' := [(2, vI (v5 + (1 : Int32))), (3, vI v12), (0, vR v3), (1, vI v4)]) rfl ?_
    refine s_goto hC dX10_levelOf_40 (tgt := 4) (by decide) ?_
    refine s_lv (lv' := [(0, vR v3), (1, vI v4), (2, vI (v5 + (1 : Int32))), (3, vI v12)]) [2, 3, 0, 1] rfl ?_
    exact ih _ _ _ _ _
def f_X10_levelOf (X : x_X) (v0 : Nat) (v1 : Int32) (μ : x_M) : Option (Int32 × x_M) :=
  (f_X10_levelOf_L4 X 4096 v0 v1 (0 : Int32) (0 : Int32) μ)
set_option maxRecDepth 100000 in
theorem m_X10_levelOf (hI : x_I X) (v0 : Nat) (v1 : Int32) (μ : x_M) : x_Met X x_Z0 l yX10_levelOf cX10_levelOf 4 (some .int) 1 [vR v0, vI v1] μ rkI (f_X10_levelOf X v0 v1 μ) := by
  refine x_enter hI (by decide +kernel) (Nat.le_of_ble_eq_true rfl) (fun p e s m args below meth c hC hr hlk => ?_)
  unfold f_X10_levelOf
  refine s_lv (lv' := [(0, vR v0), (1, vI v1)]) [0, 1] rfl ?_
  refine s_iconst hC dX10_levelOf_0 (v := 0) (by decide) ?_
  refine s_istore_n hC dX10_levelOf_1 (by decide) (lv' := [(2, vI (0 : Int32)), (0, vR v0), (1, vI v1)]) rfl ?_
  refine s_iconst hC dX10_levelOf_2 (v := 0) (by decide) ?_
  refine s_istore_n hC dX10_levelOf_3 (by decide) (lv' := [(3, vI (0 : Int32)), (2, vI (0 : Int32)), (0, vR v0), (1, vI v1)]) rfl ?_
  refine s_lv (lv' := [(0, vR v0), (1, vI v1), (2, vI (0 : Int32)), (3, vI (0 : Int32))]) [2, 3, 1, 0] rfl ?_
  refine j_X10_levelOf_L4 hI hC hr hlk 4096 _ _ _ _ _
theorem dX10_next_0 : decode cX10_next 0 = .ok (.aload_n 0, 1) := by decide +kernel
theorem dX10_next_1 : decode cX10_next 1 = .ok (.getfield 53, 3) := by decide +kernel
theorem dX10_next_4 : decode cX10_next 4 = .ok (.aload_n 0, 1) := by decide +kernel
theorem dX10_next_5 : decode cX10_next 5 = .ok (.getfield 50, 3) := by decide +kernel
theorem dX10_next_8 : decode cX10_next 8 = .ok (.if_icmp .ge 15, 3) := by decide +kernel
theorem dX10_next_11 : decode cX10_next 11 = .ok (.aload_n 0, 1) := by decide +kernel
theorem dX10_next_12 : decode cX10_next 12 = .ok (.getfield 59, 3) := by decide +kernel
theorem dX10_next_15 : decode cX10_next 15 = .ok (.aload_n 0, 1) := by decide +kernel
theorem dX10_next_16 : decode cX10_next 16 = .ok (.getfield 53, 3) := by decide +kernel
theorem dX10_next_19 : decode cX10_next 19 = .ok (.iaload, 1) := by decide +kernel
theorem dX10_next_20 : decode cX10_next 20 = .ok (.goto 4, 3) := by decide +kernel
theorem dX10_next_23 : decode cX10_next 23 = .ok (.iconst (-1), 1) := by decide +kernel
theorem dX10_next_24 : decode cX10_next 24 = .ok (.ireturn, 1) := by decide +kernel
def f_X10_next (X : x_X) (v0 : Nat) (μ : x_M) : Option (Int32 × x_M) :=
  (ck (x_kd X v0 = 10 + 1) (ck (x_kd X v0 = 10 + 1) (if (μ.1 v0 13) ≤ (μ.1 v0 14) then (some ((-1 : Int32), μ)) else (ck (x_kd X v0 = 10 + 1) (lt (μ.2.1 v0 16) (fun (v2 : Nat) => (ck (x_kd X v0 = 10 + 1) (lt (μ.1 v0 14) (fun (v3 : Int32) => (ck ((x_kd X v2 = 20 ∨ x_kd X v2 = 40) ∧ x_ix v3 (x_ln X v2)) (some ((μ.1 v2 (v3).toNatClampNeg), μ))))))))))))
set_option maxRecDepth 100000 in
theorem m_X10_next (hI : x_I X) (v0 : Nat) (μ : x_M) : x_Met X x_Z0 l yX10_next cX10_next 1 (some .int) 1 [vR v0] μ rkI (f_X10_next X v0 μ) := by
  refine x_enter hI (by decide +kernel) (Nat.le_of_ble_eq_true rfl) (fun p e s m args below meth c hC hr hlk => ?_)
  unfold f_X10_next
  refine s_lv (lv' := [(0, vR v0)]) [0] rfl ?_
  refine s_aload_n hC 0 dX10_next_0 rfl ?_
  refine s_getI hC xc10 (by decide) rfl qf_X10_53 dX10_next_1 ?_
  refine s_aload_n hC 0 dX10_next_4 rfl ?_
  refine s_getI hC xc10 (by decide) rfl qf_X10_50 dX10_next_5 ?_
  refine s_icmp_ge hC dX10_next_8 (tgt := 23) (by decide) ?_ ?_
  · refine s_iconst hC dX10_next_23 (v := -1) (by decide) ?_
    exact s_iret hC hr hlk dX10_next_24
  refine s_aload_n hC 0 dX10_next_11 rfl ?_
  refine s_getR hC xc10 (by decide) rfl qf_X10_59 dX10_next_12 ?_
  refine s_ltR (fun v2 => ?_)
  refine s_aload_n hC 0 dX10_next_15 rfl ?_
  refine s_getI hC xc10 (by decide) rfl qf_X10_53 dX10_next_16 ?_
  refine s_ltI (fun v3 => ?_)
  refine s_iald hC dX10_next_19 ?_
  refine s_goto hC dX10_next_20 (tgt := 24) (by decide) ?_
  exact s_iret hC hr hlk dX10_next_24
theorem dX10_second_0 : decode cX10_second 0 = .ok (.aload_n 0, 1) := by decide +kernel
theorem dX10_second_1 : decode cX10_second 1 = .ok (.getfield 53, 3) := by decide +kernel
theorem dX10_second_4 : decode cX10_second 4 = .ok (.iconst 1, 1) := by decide +kernel
theorem dX10_second_5 : decode cX10_second 5 = .ok (.iadd, 1) := by decide +kernel
theorem dX10_second_6 : decode cX10_second 6 = .ok (.aload_n 0, 1) := by decide +kernel
theorem dX10_second_7 : decode cX10_second 7 = .ok (.getfield 50, 3) := by decide +kernel
theorem dX10_second_10 : decode cX10_second 10 = .ok (.if_icmp .ge 17, 3) := by decide +kernel
theorem dX10_second_13 : decode cX10_second 13 = .ok (.aload_n 0, 1) := by decide +kernel
theorem dX10_second_14 : decode cX10_second 14 = .ok (.getfield 59, 3) := by decide +kernel
theorem dX10_second_17 : decode cX10_second 17 = .ok (.aload_n 0, 1) := by decide +kernel
theorem dX10_second_18 : decode cX10_second 18 = .ok (.getfield 53, 3) := by decide +kernel
theorem dX10_second_21 : decode cX10_second 21 = .ok (.iconst 1, 1) := by decide +kernel
theorem dX10_second_22 : decode cX10_second 22 = .ok (.iadd, 1) := by decide +kernel
theorem dX10_second_23 : decode cX10_second 23 = .ok (.iaload, 1) := by decide +kernel
theorem dX10_second_24 : decode cX10_second 24 = .ok (.goto 4, 3) := by decide +kernel
theorem dX10_second_27 : decode cX10_second 27 = .ok (.iconst (-1), 1) := by decide +kernel
theorem dX10_second_28 : decode cX10_second 28 = .ok (.ireturn, 1) := by decide +kernel
def f_X10_second (X : x_X) (v0 : Nat) (μ : x_M) : Option (Int32 × x_M) :=
  (ck (x_kd X v0 = 10 + 1) (ck (x_kd X v0 = 10 + 1) (if (μ.1 v0 13) ≤ ((μ.1 v0 14) + (1 : Int32)) then (some ((-1 : Int32), μ)) else (ck (x_kd X v0 = 10 + 1) (lt (μ.2.1 v0 16) (fun (v2 : Nat) => (ck (x_kd X v0 = 10 + 1) (lt ((μ.1 v0 14) + (1 : Int32)) (fun (v3 : Int32) => (ck ((x_kd X v2 = 20 ∨ x_kd X v2 = 40) ∧ x_ix v3 (x_ln X v2)) (some ((μ.1 v2 (v3).toNatClampNeg), μ))))))))))))
set_option maxRecDepth 100000 in
theorem m_X10_second (hI : x_I X) (v0 : Nat) (μ : x_M) : x_Met X x_Z0 l yX10_second cX10_second 1 (some .int) 1 [vR v0] μ rkI (f_X10_second X v0 μ) := by
  refine x_enter hI (by decide +kernel) (Nat.le_of_ble_eq_true rfl) (fun p e s m args below meth c hC hr hlk => ?_)
  unfold f_X10_second
  refine s_lv (lv' := [(0, vR v0)]) [0] rfl ?_
  refine s_aload_n hC 0 dX10_second_0 rfl ?_
  refine s_getI hC xc10 (by decide) rfl qf_X10_53 dX10_second_1 ?_
  refine s_iconst hC dX10_second_4 (v := 1) (by decide) ?_
  refine s_iadd hC dX10_second_5 ?_
  refine s_aload_n hC 0 dX10_second_6 rfl ?_
  refine s_getI hC xc10 (by decide) rfl qf_X10_50 dX10_second_7 ?_
  refine s_icmp_ge hC dX10_second_10 (tgt := 27) (by decide) ?_ ?_
  · refine s_iconst hC dX10_second_27 (v := -1) (by decide) ?_
    exact s_iret hC hr hlk dX10_second_28
  refine s_aload_n hC 0 dX10_second_13 rfl ?_
  refine s_getR hC xc10 (by decide) rfl qf_X10_59 dX10_second_14 ?_
  refine s_ltR (fun v2 => ?_)
  refine s_aload_n hC 0 dX10_second_17 rfl ?_
  refine s_getI hC xc10 (by decide) rfl qf_X10_53 dX10_second_18 ?_
  refine s_iconst hC dX10_second_21 (v := 1) (by decide) ?_
  refine s_iadd hC dX10_second_22 ?_
  refine s_ltI (fun v3 => ?_)
  refine s_iald hC dX10_second_23 ?_
  refine s_goto hC dX10_second_24 (tgt := 28) (by decide) ?_
  exact s_iret hC hr hlk dX10_second_28
theorem dX10_emits_0 : decode cX10_emits 0 = .ok (.aload_n 0, 1) := by decide +kernel
theorem dX10_emits_1 : decode cX10_emits 1 = .ok (.getfield 77, 3) := by decide +kernel
theorem dX10_emits_4 : decode cX10_emits 4 = .ok (.aload_n 0, 1) := by decide +kernel
theorem dX10_emits_5 : decode cX10_emits 5 = .ok (.getfield 83, 3) := by decide +kernel
theorem dX10_emits_8 : decode cX10_emits 8 = .ok (.iload_n 1, 1) := by decide +kernel
theorem dX10_emits_9 : decode cX10_emits 9 = .ok (.iastore, 1) := by decide +kernel
theorem dX10_emits_10 : decode cX10_emits 10 = .ok (.aload_n 0, 1) := by decide +kernel
theorem dX10_emits_11 : decode cX10_emits 11 = .ok (.dup, 1) := by decide +kernel
theorem dX10_emits_12 : decode cX10_emits 12 = .ok (.getfield 83, 3) := by decide +kernel
theorem dX10_emits_15 : decode cX10_emits 15 = .ok (.iconst 1, 1) := by decide +kernel
theorem dX10_emits_16 : decode cX10_emits 16 = .ok (.iadd, 1) := by decide +kernel
theorem dX10_emits_17 : decode cX10_emits 17 = .ok (.putfield 83, 3) := by decide +kernel
theorem dX10_emits_20 : decode cX10_emits 20 = .ok (.return_, 1) := by decide +kernel
def f_X10_emits (X : x_X) (v0 : Nat) (v1 : Int32) (μ : x_M) : Option (Unit × x_M) :=
  (ck (x_kd X v0 = 10 + 1) (lt (μ.2.1 v0 22) (fun (v3 : Nat) => (ck (x_kd X v0 = 10 + 1) (lt (μ.1 v0 24) (fun (v4 : Int32) => (ck (x_kd X v3 = 20 ∧ x_ix v4 (x_ln X v3)) (lt (x_sI μ v3 (v4).toNatClampNeg v1) (fun (μ5 : x_M) => (ck (x_kd X v0 = 10 + 1) (ck (x_kd X v0 = 10 + 1) (lt (x_sI μ5 v0 24 ((μ5.1 v0 24) + (1 : Int32))) (fun (μ6 : x_M) => (some ((), μ6)))))))))))))))
set_option maxRecDepth 100000 in
theorem m_X10_emits (hI : x_I X) (v0 : Nat) (v1 : Int32) (μ : x_M) : x_Met X x_Z0 l yX10_emits cX10_emits 2 none 1 [vR v0, vI v1] μ rkV (f_X10_emits X v0 v1 μ) := by
  refine x_enter hI (by decide +kernel) (Nat.le_of_ble_eq_true rfl) (fun p e s m args below meth c hC hr hlk => ?_)
  unfold f_X10_emits
  refine s_lv (lv' := [(0, vR v0), (1, vI v1)]) [0, 1] rfl ?_
  refine s_aload_n hC 0 dX10_emits_0 rfl ?_
  refine s_getR hC xc10 (by decide) rfl qf_X10_77 dX10_emits_1 ?_
  refine s_ltR (fun v3 => ?_)
  refine s_aload_n hC 0 dX10_emits_4 rfl ?_
  refine s_getI hC xc10 (by decide) rfl qf_X10_83 dX10_emits_5 ?_
  refine s_iload_n hC 1 dX10_emits_8 rfl ?_
  refine s_ltI2 (fun v4 => ?_)
  refine s_iast hC dX10_emits_9 ?_
  refine s_ltM (fun μ5 => ?_)
  refine s_aload_n hC 0 dX10_emits_10 rfl ?_
  refine s_dupR hC dX10_emits_11 ?_
  refine s_getI hC xc10 (by decide) rfl qf_X10_83 dX10_emits_12 ?_
  refine s_iconst hC dX10_emits_15 (v := 1) (by decide) ?_
  refine s_iadd hC dX10_emits_16 ?_
  refine s_putI hC xc10 (by decide) rfl rfl qf_X10_83 dX10_emits_17 ?_
  refine s_ltM (fun μ6 => ?_)
  exact s_vret hC hr hlk dX10_emits_20
theorem dX10_place_0 : decode cX10_place 0 = .ok (.iload_n 1, 1) := by decide +kernel
theorem dX10_place_1 : decode cX10_place 1 = .ok (.tableswitch 79 97 109 #[73, 77, 79, 67, 79, 79, 79, 79, 79, 79, 75, 71, 69], 67) := by decide +kernel
theorem dX10_place_68 : decode cX10_place 68 = .ok (.iconst 0, 1) := by decide +kernel
theorem dX10_place_69 : decode cX10_place 69 = .ok (.ireturn, 1) := by decide +kernel
theorem dX10_place_70 : decode cX10_place 70 = .ok (.iconst 1, 1) := by decide +kernel
theorem dX10_place_71 : decode cX10_place 71 = .ok (.ireturn, 1) := by decide +kernel
theorem dX10_place_72 : decode cX10_place 72 = .ok (.iconst 2, 1) := by decide +kernel
theorem dX10_place_73 : decode cX10_place 73 = .ok (.ireturn, 1) := by decide +kernel
theorem dX10_place_74 : decode cX10_place 74 = .ok (.iconst 3, 1) := by decide +kernel
theorem dX10_place_75 : decode cX10_place 75 = .ok (.ireturn, 1) := by decide +kernel
theorem dX10_place_76 : decode cX10_place 76 = .ok (.iconst 4, 1) := by decide +kernel
theorem dX10_place_77 : decode cX10_place 77 = .ok (.ireturn, 1) := by decide +kernel
theorem dX10_place_78 : decode cX10_place 78 = .ok (.iconst 5, 1) := by decide +kernel
theorem dX10_place_79 : decode cX10_place 79 = .ok (.ireturn, 1) := by decide +kernel
theorem dX10_place_80 : decode cX10_place 80 = .ok (.iconst (-1), 1) := by decide +kernel
theorem dX10_place_81 : decode cX10_place 81 = .ok (.ireturn, 1) := by decide +kernel
def f_X10_place (X : x_X) (v0 : Nat) (v1 : Int32) (μ : x_M) : Option (Int32 × x_M) :=
  (x_swo [(97 : Int32), (98 : Int32), (99 : Int32), (100 : Int32), (101 : Int32), (102 : Int32), (103 : Int32), (104 : Int32), (105 : Int32), (106 : Int32), (107 : Int32), (108 : Int32), (109 : Int32)] [(some ((3 : Int32), μ)), (some ((5 : Int32), μ)), (some ((-1 : Int32), μ)), (some ((0 : Int32), μ)), (some ((-1 : Int32), μ)), (some ((-1 : Int32), μ)), (some ((-1 : Int32), μ)), (some ((-1 : Int32), μ)), (some ((-1 : Int32), μ)), (some ((-1 : Int32), μ)), (some ((4 : Int32), μ)), (some ((2 : Int32), μ)), (some ((1 : Int32), μ))] (some ((-1 : Int32), μ)) v1)
set_option maxRecDepth 100000 in
theorem m_X10_place (hI : x_I X) (v0 : Nat) (v1 : Int32) (μ : x_M) : x_Met X x_Z0 l yX10_place cX10_place 2 (some .int) 1 [vR v0, vI v1] μ rkI (f_X10_place X v0 v1 μ) := by
  refine x_enter hI (by decide +kernel) (Nat.le_of_ble_eq_true rfl) (fun p e s m args below meth c hC hr hlk => ?_)
  unfold f_X10_place
  refine s_lv (lv' := [(0, vR v0), (1, vI v1)]) [0, 1] rfl ?_
  refine s_iload_n hC 1 dX10_place_0 rfl ?_
  refine s_table hC dX10_place_1 [((97 : Int32), 74), ((98 : Int32), 78), ((99 : Int32), 80), ((100 : Int32), 68), ((101 : Int32), 80), ((102 : Int32), 80), ((103 : Int32), 80), ((104 : Int32), 80), ((105 : Int32), 80), ((106 : Int32), 80), ((107 : Int32), 76), ((108 : Int32), 72), ((109 : Int32), 70)] 80 (by decide +kernel) ⟨?_, ?_, ?_, ?_, ?_, ?_, ?_, ?_, ?_, ?_, ?_, ?_, ?_, trivial⟩ ?_
  · refine s_iconst hC dX10_place_74 (v := 3) (by decide) ?_
    exact s_iret hC hr hlk dX10_place_75
  · refine s_iconst hC dX10_place_78 (v := 5) (by decide) ?_
    exact s_iret hC hr hlk dX10_place_79
  · refine s_iconst hC dX10_place_80 (v := -1) (by decide) ?_
    exact s_iret hC hr hlk dX10_place_81
  · refine s_iconst hC dX10_place_68 (v := 0) (by decide) ?_
    exact s_iret hC hr hlk dX10_place_69
  · refine s_iconst hC dX10_place_80 (v := -1) (by decide) ?_
    exact s_iret hC hr hlk dX10_place_81
  · refine s_iconst hC dX10_place_80 (v := -1) (by decide) ?_
    exact s_iret hC hr hlk dX10_place_81
  · refine s_iconst hC dX10_place_80 (v := -1) (by decide) ?_
    exact s_iret hC hr hlk dX10_place_81
  · refine s_iconst hC dX10_place_80 (v := -1) (by decide) ?_
    exact s_iret hC hr hlk dX10_place_81
  · refine s_iconst hC dX10_place_80 (v := -1) (by decide) ?_
    exact s_iret hC hr hlk dX10_place_81
  · refine s_iconst hC dX10_place_80 (v := -1) (by decide) ?_
    exact s_iret hC hr hlk dX10_place_81
  · refine s_iconst hC dX10_place_76 (v := 4) (by decide) ?_
    exact s_iret hC hr hlk dX10_place_77
  · refine s_iconst hC dX10_place_72 (v := 2) (by decide) ?_
    exact s_iret hC hr hlk dX10_place_73
  · refine s_iconst hC dX10_place_70 (v := 1) (by decide) ?_
    exact s_iret hC hr hlk dX10_place_71
  refine s_iconst hC dX10_place_80 (v := -1) (by decide) ?_
  exact s_iret hC hr hlk dX10_place_81
theorem dX10_begin_0 : decode cX10_begin 0 = .ok (.aload_n 0, 1) := by decide +kernel
theorem dX10_begin_1 : decode cX10_begin 1 = .ok (.getfield 47, 3) := by decide +kernel
theorem dX10_begin_4 : decode cX10_begin 4 = .ok (.ifCond .ge 7, 3) := by decide +kernel
theorem dX10_begin_7 : decode cX10_begin 7 = .ok (.iconst 0, 1) := by decide +kernel
theorem dX10_begin_8 : decode cX10_begin 8 = .ok (.goto 10, 3) := by decide +kernel
theorem dX10_begin_11 : decode cX10_begin 11 = .ok (.bipush 10, 2) := by decide +kernel
theorem dX10_begin_13 : decode cX10_begin 13 = .ok (.aload_n 0, 1) := by decide +kernel
theorem dX10_begin_14 : decode cX10_begin 14 = .ok (.getfield 47, 3) := by decide +kernel
theorem dX10_begin_17 : decode cX10_begin 17 = .ok (.imul, 1) := by decide +kernel
theorem dX10_begin_18 : decode cX10_begin 18 = .ok (.ireturn, 1) := by decide +kernel
def f_X10_begin (X : x_X) (v0 : Nat) (μ : x_M) : Option (Int32 × x_M) :=
  (ck (x_kd X v0 = 10 + 1) (if 0 ≤ (μ.1 v0 12) then (ck (x_kd X v0 = 10 + 1) (some (((10 : Int32) * (μ.1 v0 12)), μ))) else (some ((0 : Int32), μ))))
set_option maxRecDepth 100000 in
theorem m_X10_begin (hI : x_I X) (v0 : Nat) (μ : x_M) : x_Met X x_Z0 l yX10_begin cX10_begin 1 (some .int) 1 [vR v0] μ rkI (f_X10_begin X v0 μ) := by
  refine x_enter hI (by decide +kernel) (Nat.le_of_ble_eq_true rfl) (fun p e s m args below meth c hC hr hlk => ?_)
  unfold f_X10_begin
  refine s_lv (lv' := [(0, vR v0)]) [0] rfl ?_
  refine s_aload_n hC 0 dX10_begin_0 rfl ?_
  refine s_getI hC xc10 (by decide) rfl qf_X10_47 dX10_begin_1 ?_
  refine s_if_ge hC dX10_begin_4 (tgt := 11) (by decide) ?_ ?_
  · refine s_bipush hC dX10_begin_11 (v := 10) (by decide) ?_
    refine s_aload_n hC 0 dX10_begin_13 rfl ?_
    refine s_getI hC xc10 (by decide) rfl qf_X10_47 dX10_begin_14 ?_
    refine s_imul hC dX10_begin_17 ?_
    exact s_iret hC hr hlk dX10_begin_18
  refine s_iconst hC dX10_begin_7 (v := 0) (by decide) ?_
  refine s_goto hC dX10_begin_8 (tgt := 18) (by decide) ?_
  exact s_iret hC hr hlk dX10_begin_18
theorem dX10_behind_0 : decode cX10_behind 0 = .ok (.aload_n 0, 1) := by decide +kernel
theorem dX10_behind_1 : decode cX10_behind 1 = .ok (.getfield 47, 3) := by decide +kernel
theorem dX10_behind_4 : decode cX10_behind 4 = .ok (.ifCond .ge 7, 3) := by decide +kernel
theorem dX10_behind_7 : decode cX10_behind 7 = .ok (.iconst 0, 1) := by decide +kernel
theorem dX10_behind_8 : decode cX10_behind 8 = .ok (.goto 20, 3) := by decide +kernel
theorem dX10_behind_11 : decode cX10_behind 11 = .ok (.bipush 10, 2) := by decide +kernel
theorem dX10_behind_13 : decode cX10_behind 13 = .ok (.aload_n 0, 1) := by decide +kernel
theorem dX10_behind_14 : decode cX10_behind 14 = .ok (.getfield 47, 3) := by decide +kernel
theorem dX10_behind_17 : decode cX10_behind 17 = .ok (.imul, 1) := by decide +kernel
theorem dX10_behind_18 : decode cX10_behind 18 = .ok (.aload_n 0, 1) := by decide +kernel
theorem dX10_behind_19 : decode cX10_behind 19 = .ok (.getfield 62, 3) := by decide +kernel
theorem dX10_behind_22 : decode cX10_behind 22 = .ok (.aload_n 0, 1) := by decide +kernel
theorem dX10_behind_23 : decode cX10_behind 23 = .ok (.getfield 47, 3) := by decide +kernel
theorem dX10_behind_26 : decode cX10_behind 26 = .ok (.iaload, 1) := by decide +kernel
theorem dX10_behind_27 : decode cX10_behind 27 = .ok (.iadd, 1) := by decide +kernel
theorem dX10_behind_28 : decode cX10_behind 28 = .ok (.ireturn, 1) := by decide +kernel
def f_X10_behind (X : x_X) (v0 : Nat) (μ : x_M) : Option (Int32 × x_M) :=
  (ck (x_kd X v0 = 10 + 1) (if 0 ≤ (μ.1 v0 12) then (ck (x_kd X v0 = 10 + 1) (ck (x_kd X v0 = 10 + 1) (lt (μ.2.1 v0 17) (fun (v2 : Nat) => (ck (x_kd X v0 = 10 + 1) (lt (μ.1 v0 12) (fun (v3 : Int32) => (ck ((x_kd X v2 = 20 ∨ x_kd X v2 = 40) ∧ x_ix v3 (x_ln X v2)) (some ((((10 : Int32) * (μ.1 v0 12)) + (μ.1 v2 (v3).toNatClampNeg)), μ)))))))))) else (some ((0 : Int32), μ))))
set_option maxRecDepth 100000 in
theorem m_X10_behind (hI : x_I X) (v0 : Nat) (μ : x_M) : x_Met X x_Z0 l yX10_behind cX10_behind 1 (some .int) 1 [vR v0] μ rkI (f_X10_behind X v0 μ) := by
  refine x_enter hI (by decide +kernel) (Nat.le_of_ble_eq_true rfl) (fun p e s m args below meth c hC hr hlk => ?_)
  unfold f_X10_behind
  refine s_lv (lv' := [(0, vR v0)]) [0] rfl ?_
  refine s_aload_n hC 0 dX10_behind_0 rfl ?_
  refine s_getI hC xc10 (by decide) rfl qf_X10_47 dX10_behind_1 ?_
  refine s_if_ge hC dX10_behind_4 (tgt := 11) (by decide) ?_ ?_
  · refine s_bipush hC dX10_behind_11 (v := 10) (by decide) ?_
    refine s_aload_n hC 0 dX10_behind_13 rfl ?_
    refine s_getI hC xc10 (by decide) rfl qf_X10_47 dX10_behind_14 ?_
    refine s_imul hC dX10_behind_17 ?_
    refine s_aload_n hC 0 dX10_behind_18 rfl ?_
    refine s_getR hC xc10 (by decide) rfl qf_X10_62 dX10_behind_19 ?_
    refine s_ltR (fun v2 => ?_)
    refine s_aload_n hC 0 dX10_behind_22 rfl ?_
    refine s_getI hC xc10 (by decide) rfl qf_X10_47 dX10_behind_23 ?_
    refine s_ltI (fun v3 => ?_)
    refine s_iald hC dX10_behind_26 ?_
    refine s_iadd hC dX10_behind_27 ?_
    exact s_iret hC hr hlk dX10_behind_28
  refine s_iconst hC dX10_behind_7 (v := 0) (by decide) ?_
  refine s_goto hC dX10_behind_8 (tgt := 28) (by decide) ?_
  exact s_iret hC hr hlk dX10_behind_28
theorem dX10_factOf_0 : decode cX10_factOf 0 = .ok (.iload_n 1, 1) := by decide +kernel
theorem dX10_factOf_1 : decode cX10_factOf 1 = .ok (.tableswitch 100 0 4 #[35, 43, 68, 73, 84], 35) := by decide +kernel
theorem dX10_factOf_36 : decode cX10_factOf 36 = .ok (.aload_n 0, 1) := by decide +kernel
theorem dX10_factOf_37 : decode cX10_factOf 37 = .ok (.getfield 13, 3) := by decide +kernel
theorem dX10_factOf_40 : decode cX10_factOf 40 = .ok (.bipush 10, 2) := by decide +kernel
theorem dX10_factOf_42 : decode cX10_factOf 42 = .ok (.irem, 1) := by decide +kernel
theorem dX10_factOf_43 : decode cX10_factOf 43 = .ok (.ireturn, 1) := by decide +kernel
theorem dX10_factOf_44 : decode cX10_factOf 44 = .ok (.aload_n 0, 1) := by decide +kernel
theorem dX10_factOf_45 : decode cX10_factOf 45 = .ok (.getfield 13, 3) := by decide +kernel
theorem dX10_factOf_48 : decode cX10_factOf 48 = .ok (.bipush 10, 2) := by decide +kernel
theorem dX10_factOf_50 : decode cX10_factOf 50 = .ok (.idiv, 1) := by decide +kernel
theorem dX10_factOf_51 : decode cX10_factOf 51 = .ok (.bipush 99, 2) := by decide +kernel
theorem dX10_factOf_53 : decode cX10_factOf 53 = .ok (.if_icmp .le 8, 3) := by decide +kernel
theorem dX10_factOf_56 : decode cX10_factOf 56 = .ok (.bipush 99, 2) := by decide +kernel
theorem dX10_factOf_58 : decode cX10_factOf 58 = .ok (.goto 10, 3) := by decide +kernel
theorem dX10_factOf_61 : decode cX10_factOf 61 = .ok (.aload_n 0, 1) := by decide +kernel
theorem dX10_factOf_62 : decode cX10_factOf 62 = .ok (.getfield 13, 3) := by decide +kernel
theorem dX10_factOf_65 : decode cX10_factOf 65 = .ok (.bipush 10, 2) := by decide +kernel
theorem dX10_factOf_67 : decode cX10_factOf 67 = .ok (.idiv, 1) := by decide +kernel
theorem dX10_factOf_68 : decode cX10_factOf 68 = .ok (.ireturn, 1) := by decide +kernel
theorem dX10_factOf_69 : decode cX10_factOf 69 = .ok (.aload_n 0, 1) := by decide +kernel
theorem dX10_factOf_70 : decode cX10_factOf 70 = .ok (.getfield 99, 3) := by decide +kernel
theorem dX10_factOf_73 : decode cX10_factOf 73 = .ok (.ireturn, 1) := by decide +kernel
theorem dX10_factOf_74 : decode cX10_factOf 74 = .ok (.iload_n 2, 1) := by decide +kernel
theorem dX10_factOf_75 : decode cX10_factOf 75 = .ok (.ifCond .ge 8, 3) := by decide +kernel
theorem dX10_factOf_78 : decode cX10_factOf 78 = .ok (.bipush 9, 2) := by decide +kernel
theorem dX10_factOf_80 : decode cX10_factOf 80 = .ok (.goto 4, 3) := by decide +kernel
theorem dX10_factOf_83 : decode cX10_factOf 83 = .ok (.iload_n 2, 1) := by decide +kernel
theorem dX10_factOf_84 : decode cX10_factOf 84 = .ok (.ireturn, 1) := by decide +kernel
theorem dX10_factOf_85 : decode cX10_factOf 85 = .ok (.iload_n 2, 1) := by decide +kernel
theorem dX10_factOf_86 : decode cX10_factOf 86 = .ok (.ifCond .ge 8, 3) := by decide +kernel
theorem dX10_factOf_89 : decode cX10_factOf 89 = .ok (.bipush 9, 2) := by decide +kernel
theorem dX10_factOf_91 : decode cX10_factOf 91 = .ok (.goto 9, 3) := by decide +kernel
theorem dX10_factOf_94 : decode cX10_factOf 94 = .ok (.aload_n 0, 1) := by decide +kernel
theorem dX10_factOf_95 : decode cX10_factOf 95 = .ok (.getfield 26, 3) := by decide +kernel
theorem dX10_factOf_98 : decode cX10_factOf 98 = .ok (.iload_n 2, 1) := by decide +kernel
theorem dX10_factOf_99 : decode cX10_factOf 99 = .ok (.iaload, 1) := by decide +kernel
theorem dX10_factOf_100 : decode cX10_factOf 100 = .ok (.ireturn, 1) := by decide +kernel
theorem dX10_factOf_101 : decode cX10_factOf 101 = .ok (.iload_n 2, 1) := by decide +kernel
theorem dX10_factOf_102 : decode cX10_factOf 102 = .ok (.ifCond .ge 8, 3) := by decide +kernel
theorem dX10_factOf_105 : decode cX10_factOf 105 = .ok (.bipush 9, 2) := by decide +kernel
theorem dX10_factOf_107 : decode cX10_factOf 107 = .ok (.goto 12, 3) := by decide +kernel
theorem dX10_factOf_110 : decode cX10_factOf 110 = .ok (.aload_n 0, 1) := by decide +kernel
theorem dX10_factOf_111 : decode cX10_factOf 111 = .ok (.getfield 32, 3) := by decide +kernel
theorem dX10_factOf_114 : decode cX10_factOf 114 = .ok (.iload_n 2, 1) := by decide +kernel
theorem dX10_factOf_115 : decode cX10_factOf 115 = .ok (.iaload, 1) := by decide +kernel
theorem dX10_factOf_116 : decode cX10_factOf 116 = .ok (.bipush 10, 2) := by decide +kernel
theorem dX10_factOf_118 : decode cX10_factOf 118 = .ok (.idiv, 1) := by decide +kernel
theorem dX10_factOf_119 : decode cX10_factOf 119 = .ok (.ireturn, 1) := by decide +kernel
def f_X10_factOf (X : x_X) (v0 : Nat) (v1 : Int32) (v2 : Int32) (μ : x_M) : Option (Int32 × x_M) :=
  (x_swo [(0 : Int32), (1 : Int32), (2 : Int32), (3 : Int32), (4 : Int32)] [(ck (x_kd X v0 = 10 + 1) (lt (μ.1 v0 1) (fun (v4 : Int32) => (ck (¬ (10 : Int32) = 0) (some ((v4 - v4 / (10 : Int32) * (10 : Int32)), μ)))))), (ck (x_kd X v0 = 10 + 1) (ck (¬ (10 : Int32) = 0) (if ((μ.1 v0 1) / (10 : Int32)) ≤ (99 : Int32) then (ck (x_kd X v0 = 10 + 1) (ck (¬ (10 : Int32) = 0) (some (((μ.1 v0 1) / (10 : Int32)), μ)))) else (some ((99 : Int32), μ))))), (ck (x_kd X v0 = 10 + 1) (some ((μ.1 v0 29), μ))), (if 0 ≤ v2 then (some (v2, μ)) else (some ((9 : Int32), μ))), (if 0 ≤ v2 then (ck (x_kd X v0 = 10 + 1) (lt (μ.2.1 v0 5) (fun (v5 : Nat) => (ck ((x_kd X v5 = 20 ∨ x_kd X v5 = 40) ∧ x_ix v2 (x_ln X v5)) (some ((μ.1 v5 (v2).toNatClampNeg), μ)))))) else (some ((9 : Int32), μ)))] (if 0 ≤ v2 then (ck (x_kd X v0 = 10 + 1) (lt (μ.2.1 v0 7) (fun (v6 : Nat) => (ck ((x_kd X v6 = 20 ∨ x_kd X v6 = 40) ∧ x_ix v2 (x_ln X v6)) (ck (¬ (10 : Int32) = 0) (some (((μ.1 v6 (v2).toNatClampNeg) / (10 : Int32)), μ))))))) else (some ((9 : Int32), μ))) v1)
set_option maxRecDepth 100000 in
theorem m_X10_factOf (hI : x_I X) (v0 : Nat) (v1 : Int32) (v2 : Int32) (μ : x_M) : x_Met X x_Z0 l yX10_factOf cX10_factOf 3 (some .int) 1 [vR v0, vI v1, vI v2] μ rkI (f_X10_factOf X v0 v1 v2 μ) := by
  refine x_enter hI (by decide +kernel) (Nat.le_of_ble_eq_true rfl) (fun p e s m args below meth c hC hr hlk => ?_)
  unfold f_X10_factOf
  refine s_lv (lv' := [(0, vR v0), (1, vI v1), (2, vI v2)]) [0, 1, 2] rfl ?_
  refine s_iload_n hC 1 dX10_factOf_0 rfl ?_
  refine s_table hC dX10_factOf_1 [((0 : Int32), 36), ((1 : Int32), 44), ((2 : Int32), 69), ((3 : Int32), 74), ((4 : Int32), 85)] 101 (by decide +kernel) ⟨?_, ?_, ?_, ?_, ?_, trivial⟩ ?_
  · refine s_aload_n hC 0 dX10_factOf_36 rfl ?_
    refine s_getI hC xc10 (by decide) rfl qf_X10_13 dX10_factOf_37 ?_
    refine s_bipush hC dX10_factOf_40 (v := 10) (by decide) ?_
    refine s_ltI2 (fun v4 => ?_)
    refine s_irem hC dX10_factOf_42 ?_
    exact s_iret hC hr hlk dX10_factOf_43
  · refine s_aload_n hC 0 dX10_factOf_44 rfl ?_
    refine s_getI hC xc10 (by decide) rfl qf_X10_13 dX10_factOf_45 ?_
    refine s_bipush hC dX10_factOf_48 (v := 10) (by decide) ?_
    refine s_idiv hC dX10_factOf_50 ?_
    refine s_bipush hC dX10_factOf_51 (v := 99) (by decide) ?_
    refine s_icmp_le hC dX10_factOf_53 (tgt := 61) (by decide) ?_ ?_
    · refine s_aload_n hC 0 dX10_factOf_61 rfl ?_
      refine s_getI hC xc10 (by decide) rfl qf_X10_13 dX10_factOf_62 ?_
      refine s_bipush hC dX10_factOf_65 (v := 10) (by decide) ?_
      refine s_idiv hC dX10_factOf_67 ?_
      exact s_iret hC hr hlk dX10_factOf_68
    refine s_bipush hC dX10_factOf_56 (v := 99) (by decide) ?_
    refine s_goto hC dX10_factOf_58 (tgt := 68) (by decide) ?_
    exact s_iret hC hr hlk dX10_factOf_68
  · refine s_aload_n hC 0 dX10_factOf_69 rfl ?_
    refine s_getI hC xc10 (by decide) rfl qf_X10_99 dX10_factOf_70 ?_
    exact s_iret hC hr hlk dX10_factOf_73
  · refine s_iload_n hC 2 dX10_factOf_74 rfl ?_
    refine s_if_ge hC dX10_factOf_75 (tgt := 83) (by decide) ?_ ?_
    · refine s_iload_n hC 2 dX10_factOf_83 rfl ?_
      exact s_iret hC hr hlk dX10_factOf_84
    refine s_bipush hC dX10_factOf_78 (v := 9) (by decide) ?_
    refine s_goto hC dX10_factOf_80 (tgt := 84) (by decide) ?_
    exact s_iret hC hr hlk dX10_factOf_84
  · refine s_iload_n hC 2 dX10_factOf_85 rfl ?_
    refine s_if_ge hC dX10_factOf_86 (tgt := 94) (by decide) ?_ ?_
    · refine s_aload_n hC 0 dX10_factOf_94 rfl ?_
      refine s_getR hC xc10 (by decide) rfl qf_X10_26 dX10_factOf_95 ?_
      refine s_ltR (fun v5 => ?_)
      refine s_iload_n hC 2 dX10_factOf_98 rfl ?_
      refine s_iald hC dX10_factOf_99 ?_
      exact s_iret hC hr hlk dX10_factOf_100
    refine s_bipush hC dX10_factOf_89 (v := 9) (by decide) ?_
    refine s_goto hC dX10_factOf_91 (tgt := 100) (by decide) ?_
    exact s_iret hC hr hlk dX10_factOf_100
  refine s_iload_n hC 2 dX10_factOf_101 rfl ?_
  refine s_if_ge hC dX10_factOf_102 (tgt := 110) (by decide) ?_ ?_
  · refine s_aload_n hC 0 dX10_factOf_110 rfl ?_
    refine s_getR hC xc10 (by decide) rfl qf_X10_32 dX10_factOf_111 ?_
    refine s_ltR (fun v6 => ?_)
    refine s_iload_n hC 2 dX10_factOf_114 rfl ?_
    refine s_iald hC dX10_factOf_115 ?_
    refine s_bipush hC dX10_factOf_116 (v := 10) (by decide) ?_
    refine s_idiv hC dX10_factOf_118 ?_
    exact s_iret hC hr hlk dX10_factOf_119
  refine s_bipush hC dX10_factOf_105 (v := 9) (by decide) ?_
  refine s_goto hC dX10_factOf_107 (tgt := 119) (by decide) ?_
  exact s_iret hC hr hlk dX10_factOf_119
theorem dX10_liftsOf_0 : decode cX10_liftsOf 0 = .ok (.iload_n 1, 1) := by decide +kernel
theorem dX10_liftsOf_1 : decode cX10_liftsOf 1 = .ok (.aload_n 0, 1) := by decide +kernel
theorem dX10_liftsOf_2 : decode cX10_liftsOf 2 = .ok (.getfield 102, 3) := by decide +kernel
theorem dX10_liftsOf_5 : decode cX10_liftsOf 5 = .ok (.if_icmp .ne 5, 3) := by decide +kernel
theorem dX10_liftsOf_8 : decode cX10_liftsOf 8 = .ok (.iconst 0, 1) := by decide +kernel
theorem dX10_liftsOf_9 : decode cX10_liftsOf 9 = .ok (.ireturn, 1) := by decide +kernel
theorem dX10_liftsOf_10 : decode cX10_liftsOf 10 = .ok (.aload_n 0, 1) := by decide +kernel
theorem dX10_liftsOf_11 : decode cX10_liftsOf 11 = .ok (.getfield 26, 3) := by decide +kernel
theorem dX10_liftsOf_14 : decode cX10_liftsOf 14 = .ok (.iload_n 1, 1) := by decide +kernel
theorem dX10_liftsOf_15 : decode cX10_liftsOf 15 = .ok (.iaload, 1) := by decide +kernel
theorem dX10_liftsOf_16 : decode cX10_liftsOf 16 = .ok (.iconst 4, 1) := by decide +kernel
theorem dX10_liftsOf_17 : decode cX10_liftsOf 17 = .ok (.if_icmp .ne 12, 3) := by decide +kernel
theorem dX10_liftsOf_20 : decode cX10_liftsOf 20 = .ok (.iconst 5, 1) := by decide +kernel
theorem dX10_liftsOf_21 : decode cX10_liftsOf 21 = .ok (.aload_n 0, 1) := by decide +kernel
theorem dX10_liftsOf_22 : decode cX10_liftsOf 22 = .ok (.getfield 38, 3) := by decide +kernel
theorem dX10_liftsOf_25 : decode cX10_liftsOf 25 = .ok (.iload_n 1, 1) := by decide +kernel
theorem dX10_liftsOf_26 : decode cX10_liftsOf 26 = .ok (.iaload, 1) := by decide +kernel
theorem dX10_liftsOf_27 : decode cX10_liftsOf 27 = .ok (.imul, 1) := by decide +kernel
theorem dX10_liftsOf_28 : decode cX10_liftsOf 28 = .ok (.ireturn, 1) := by decide +kernel
theorem dX10_liftsOf_29 : decode cX10_liftsOf 29 = .ok (.aload_n 0, 1) := by decide +kernel
theorem dX10_liftsOf_30 : decode cX10_liftsOf 30 = .ok (.getfield 26, 3) := by decide +kernel
theorem dX10_liftsOf_33 : decode cX10_liftsOf 33 = .ok (.iload_n 1, 1) := by decide +kernel
theorem dX10_liftsOf_34 : decode cX10_liftsOf 34 = .ok (.iaload, 1) := by decide +kernel
theorem dX10_liftsOf_35 : decode cX10_liftsOf 35 = .ok (.iconst 3, 1) := by decide +kernel
theorem dX10_liftsOf_36 : decode cX10_liftsOf 36 = .ok (.if_icmp .eq 14, 3) := by decide +kernel
theorem dX10_liftsOf_39 : decode cX10_liftsOf 39 = .ok (.aload_n 0, 1) := by decide +kernel
theorem dX10_liftsOf_40 : decode cX10_liftsOf 40 = .ok (.getfield 26, 3) := by decide +kernel
theorem dX10_liftsOf_43 : decode cX10_liftsOf 43 = .ok (.iload_n 1, 1) := by decide +kernel
theorem dX10_liftsOf_44 : decode cX10_liftsOf 44 = .ok (.iaload, 1) := by decide +kernel
theorem dX10_liftsOf_45 : decode cX10_liftsOf 45 = .ok (.bipush 6, 2) := by decide +kernel
theorem dX10_liftsOf_47 : decode cX10_liftsOf 47 = .ok (.if_icmp .ne 12, 3) := by decide +kernel
theorem dX10_liftsOf_50 : decode cX10_liftsOf 50 = .ok (.aload_n 0, 1) := by decide +kernel
theorem dX10_liftsOf_51 : decode cX10_liftsOf 51 = .ok (.getfield 29, 3) := by decide +kernel
theorem dX10_liftsOf_54 : decode cX10_liftsOf 54 = .ok (.iload_n 1, 1) := by decide +kernel
theorem dX10_liftsOf_55 : decode cX10_liftsOf 55 = .ok (.iaload, 1) := by decide +kernel
theorem dX10_liftsOf_56 : decode cX10_liftsOf 56 = .ok (.goto 4, 3) := by decide +kernel
theorem dX10_liftsOf_59 : decode cX10_liftsOf 59 = .ok (.iconst 0, 1) := by decide +kernel
theorem dX10_liftsOf_60 : decode cX10_liftsOf 60 = .ok (.ireturn, 1) := by decide +kernel
def f_X10_liftsOf (X : x_X) (v0 : Nat) (v1 : Int32) (μ : x_M) : Option (Int32 × x_M) :=
  (ck (x_kd X v0 = 10 + 1) (if v1 = (μ.1 v0 30) then (some ((0 : Int32), μ)) else (ck (x_kd X v0 = 10 + 1) (lt (μ.2.1 v0 5) (fun (v3 : Nat) => (ck ((x_kd X v3 = 20 ∨ x_kd X v3 = 40) ∧ x_ix v1 (x_ln X v3)) (if (μ.1 v3 (v1).toNatClampNeg) = (4 : Int32) then (ck (x_kd X v0 = 10 + 1) (lt (μ.2.1 v0 9) (fun (v8 : Nat) => (ck ((x_kd X v8 = 20 ∨ x_kd X v8 = 40) ∧ x_ix v1 (x_ln X v8)) (some (((5 : Int32) * (μ.1 v8 (v1).toNatClampNeg)), μ)))))) else (ck (x_kd X v0 = 10 + 1) (lt (μ.2.1 v0 5) (fun (v4 : Nat) => (ck ((x_kd X v4 = 20 ∨ x_kd X v4 = 40) ∧ x_ix v1 (x_ln X v4)) (if (μ.1 v4 (v1).toNatClampNeg) = (3 : Int32) then (ck (x_kd X v0 = 10 + 1) (lt (μ.2.1 v0 6) (fun (v5 : Nat) => (ck ((x_kd X v5 = 20 ∨ x_kd X v5 = 40) ∧ x_ix v1 (x_ln X v5)) (some ((μ.1 v5 (v1).toNatClampNeg), μ)))))) else (ck (x_kd X v0 = 10 + 1) (lt (μ.2.1 v0 5) (fun (v6 : Nat) => (ck ((x_kd X v6 = 20 ∨ x_kd X v6 = 40) ∧ x_ix v1 (x_ln X v6)) (if (μ.1 v6 (v1).toNatClampNeg) = (6 : Int32) then (ck (x_kd X v0 = 10 + 1) (lt (μ.2.1 v0 6) (fun (v7 : Nat) => (ck ((x_kd X v7 = 20 ∨ x_kd X v7 = 40) ∧ x_ix v1 (x_ln X v7)) (some ((μ.1 v7 (v1).toNatClampNeg), μ)))))) else (some ((0 : Int32), μ)))))))))))))))))))
set_option maxRecDepth 100000 in
theorem m_X10_liftsOf (hI : x_I X) (v0 : Nat) (v1 : Int32) (μ : x_M) : x_Met X x_Z0 l yX10_liftsOf cX10_liftsOf 2 (some .int) 1 [vR v0, vI v1] μ rkI (f_X10_liftsOf X v0 v1 μ) := by
  refine x_enter hI (by decide +kernel) (Nat.le_of_ble_eq_true rfl) (fun p e s m args below meth c hC hr hlk => ?_)
  unfold f_X10_liftsOf
  refine s_lv (lv' := [(0, vR v0), (1, vI v1)]) [0, 1] rfl ?_
  refine s_iload_n hC 1 dX10_liftsOf_0 rfl ?_
  refine s_aload_n hC 0 dX10_liftsOf_1 rfl ?_
  refine s_getI hC xc10 (by decide) rfl qf_X10_102 dX10_liftsOf_2 ?_
  refine s_icmp_ne hC dX10_liftsOf_5 (tgt := 10) (by decide) ?_ ?_
  · refine s_aload_n hC 0 dX10_liftsOf_10 rfl ?_
    refine s_getR hC xc10 (by decide) rfl qf_X10_26 dX10_liftsOf_11 ?_
    refine s_ltR (fun v3 => ?_)
    refine s_iload_n hC 1 dX10_liftsOf_14 rfl ?_
    refine s_iald hC dX10_liftsOf_15 ?_
    refine s_iconst hC dX10_liftsOf_16 (v := 4) (by decide) ?_
    refine s_icmp_ne hC dX10_liftsOf_17 (tgt := 29) (by decide) ?_ ?_
    · refine s_aload_n hC 0 dX10_liftsOf_29 rfl ?_
      refine s_getR hC xc10 (by decide) rfl qf_X10_26 dX10_liftsOf_30 ?_
      refine s_ltR (fun v4 => ?_)
      refine s_iload_n hC 1 dX10_liftsOf_33 rfl ?_
      refine s_iald hC dX10_liftsOf_34 ?_
      refine s_iconst hC dX10_liftsOf_35 (v := 3) (by decide) ?_
      refine s_icmp_eq hC dX10_liftsOf_36 (tgt := 50) (by decide) ?_ ?_
      · refine s_aload_n hC 0 dX10_liftsOf_50 rfl ?_
        refine s_getR hC xc10 (by decide) rfl qf_X10_29 dX10_liftsOf_51 ?_
        refine s_ltR (fun v5 => ?_)
        refine s_iload_n hC 1 dX10_liftsOf_54 rfl ?_
        refine s_iald hC dX10_liftsOf_55 ?_
        refine s_goto hC dX10_liftsOf_56 (tgt := 60) (by decide) ?_
        exact s_iret hC hr hlk dX10_liftsOf_60
      refine s_aload_n hC 0 dX10_liftsOf_39 rfl ?_
      refine s_getR hC xc10 (by decide) rfl qf_X10_26 dX10_liftsOf_40 ?_
      refine s_ltR (fun v6 => ?_)
      refine s_iload_n hC 1 dX10_liftsOf_43 rfl ?_
      refine s_iald hC dX10_liftsOf_44 ?_
      refine s_bipush hC dX10_liftsOf_45 (v := 6) (by decide) ?_
      refine s_icmp_ne hC dX10_liftsOf_47 (tgt := 59) (by decide) ?_ ?_
      · refine s_iconst hC dX10_liftsOf_59 (v := 0) (by decide) ?_
        exact s_iret hC hr hlk dX10_liftsOf_60
      refine s_aload_n hC 0 dX10_liftsOf_50 rfl ?_
      refine s_getR hC xc10 (by decide) rfl qf_X10_29 dX10_liftsOf_51 ?_
      refine s_ltR (fun v7 => ?_)
      refine s_iload_n hC 1 dX10_liftsOf_54 rfl ?_
      refine s_iald hC dX10_liftsOf_55 ?_
      refine s_goto hC dX10_liftsOf_56 (tgt := 60) (by decide) ?_
      exact s_iret hC hr hlk dX10_liftsOf_60
    refine s_iconst hC dX10_liftsOf_20 (v := 5) (by decide) ?_
    refine s_aload_n hC 0 dX10_liftsOf_21 rfl ?_
    refine s_getR hC xc10 (by decide) rfl qf_X10_38 dX10_liftsOf_22 ?_
    refine s_ltR (fun v8 => ?_)
    refine s_iload_n hC 1 dX10_liftsOf_25 rfl ?_
    refine s_iald hC dX10_liftsOf_26 ?_
    refine s_imul hC dX10_liftsOf_27 ?_
    exact s_iret hC hr hlk dX10_liftsOf_28
  refine s_iconst hC dX10_liftsOf_8 (v := 0) (by decide) ?_
  exact s_iret hC hr hlk dX10_liftsOf_9
theorem dX10_held_0 : decode cX10_held 0 = .ok (.iload_n 1, 1) := by decide +kernel
theorem dX10_held_1 : decode cX10_held 1 = .ok (.sipush (-9999), 3) := by decide +kernel
theorem dX10_held_4 : decode cX10_held 4 = .ok (.if_icmp .ge 9, 3) := by decide +kernel
theorem dX10_held_7 : decode cX10_held 7 = .ok (.sipush (-9999), 3) := by decide +kernel
theorem dX10_held_10 : decode cX10_held 10 = .ok (.goto 17, 3) := by decide +kernel
theorem dX10_held_13 : decode cX10_held 13 = .ok (.iload_n 1, 1) := by decide +kernel
theorem dX10_held_14 : decode cX10_held 14 = .ok (.sipush 9999, 3) := by decide +kernel
theorem dX10_held_17 : decode cX10_held 17 = .ok (.if_icmp .le 9, 3) := by decide +kernel
theorem dX10_held_20 : decode cX10_held 20 = .ok (.sipush 9999, 3) := by decide +kernel
theorem dX10_held_23 : decode cX10_held 23 = .ok (.goto 4, 3) := by decide +kernel
theorem dX10_held_26 : decode cX10_held 26 = .ok (.iload_n 1, 1) := by decide +kernel
theorem dX10_held_27 : decode cX10_held 27 = .ok (.ireturn, 1) := by decide +kernel
def f_X10_held (X : x_X) (v0 : Nat) (v1 : Int32) (μ : x_M) : Option (Int32 × x_M) :=
  (if (-9999 : Int32) ≤ v1 then (if v1 ≤ (9999 : Int32) then (some (v1, μ)) else (some ((9999 : Int32), μ))) else (some ((-9999 : Int32), μ)))
set_option maxRecDepth 100000 in
theorem m_X10_held (hI : x_I X) (v0 : Nat) (v1 : Int32) (μ : x_M) : x_Met X x_Z0 l yX10_held cX10_held 2 (some .int) 1 [vR v0, vI v1] μ rkI (f_X10_held X v0 v1 μ) := by
  refine x_enter hI (by decide +kernel) (Nat.le_of_ble_eq_true rfl) (fun p e s m args below meth c hC hr hlk => ?_)
  unfold f_X10_held
  refine s_lv (lv' := [(0, vR v0), (1, vI v1)]) [0, 1] rfl ?_
  refine s_iload_n hC 1 dX10_held_0 rfl ?_
  refine s_sipush hC dX10_held_1 (v := -9999) (by decide) ?_
  refine s_icmp_ge hC dX10_held_4 (tgt := 13) (by decide) ?_ ?_
  · refine s_iload_n hC 1 dX10_held_13 rfl ?_
    refine s_sipush hC dX10_held_14 (v := 9999) (by decide) ?_
    refine s_icmp_le hC dX10_held_17 (tgt := 26) (by decide) ?_ ?_
    · refine s_iload_n hC 1 dX10_held_26 rfl ?_
      exact s_iret hC hr hlk dX10_held_27
    refine s_sipush hC dX10_held_20 (v := 9999) (by decide) ?_
    refine s_goto hC dX10_held_23 (tgt := 27) (by decide) ?_
    exact s_iret hC hr hlk dX10_held_27
  refine s_sipush hC dX10_held_7 (v := -9999) (by decide) ?_
  refine s_goto hC dX10_held_10 (tgt := 27) (by decide) ?_
  exact s_iret hC hr hlk dX10_held_27
theorem dX10_save_0 : decode cX10_save 0 = .ok (.aload_n 0, 1) := by decide +kernel
theorem dX10_save_1 : decode cX10_save 1 = .ok (.aload_n 0, 1) := by decide +kernel
theorem dX10_save_2 : decode cX10_save 2 = .ok (.getfield 13, 3) := by decide +kernel
theorem dX10_save_5 : decode cX10_save 5 = .ok (.putfield 117, 3) := by decide +kernel
theorem dX10_save_8 : decode cX10_save 8 = .ok (.aload_n 0, 1) := by decide +kernel
theorem dX10_save_9 : decode cX10_save 9 = .ok (.aload_n 0, 1) := by decide +kernel
theorem dX10_save_10 : decode cX10_save 10 = .ok (.getfield 16, 3) := by decide +kernel
theorem dX10_save_13 : decode cX10_save 13 = .ok (.putfield 120, 3) := by decide +kernel
theorem dX10_save_16 : decode cX10_save 16 = .ok (.aload_n 0, 1) := by decide +kernel
theorem dX10_save_17 : decode cX10_save 17 = .ok (.aload_n 0, 1) := by decide +kernel
theorem dX10_save_18 : decode cX10_save 18 = .ok (.getfield 19, 3) := by decide +kernel
theorem dX10_save_21 : decode cX10_save 21 = .ok (.putfield 123, 3) := by decide +kernel
theorem dX10_save_24 : decode cX10_save 24 = .ok (.iconst 0, 1) := by decide +kernel
theorem dX10_save_25 : decode cX10_save 25 = .ok (.istore_n 1, 1) := by decide +kernel
theorem dX10_save_26 : decode cX10_save 26 = .ok (.iload_n 1, 1) := by decide +kernel
theorem dX10_save_27 : decode cX10_save 27 = .ok (.bipush 6, 2) := by decide +kernel
theorem dX10_save_29 : decode cX10_save 29 = .ok (.if_icmp .ge 33, 3) := by decide +kernel
theorem dX10_save_32 : decode cX10_save 32 = .ok (.aload_n 0, 1) := by decide +kernel
theorem dX10_save_33 : decode cX10_save 33 = .ok (.getfield 126, 3) := by decide +kernel
theorem dX10_save_36 : decode cX10_save 36 = .ok (.iload_n 1, 1) := by decide +kernel
theorem dX10_save_37 : decode cX10_save 37 = .ok (.aload_n 0, 1) := by decide +kernel
theorem dX10_save_38 : decode cX10_save 38 = .ok (.getfield 32, 3) := by decide +kernel
theorem dX10_save_41 : decode cX10_save 41 = .ok (.iload_n 1, 1) := by decide +kernel
theorem dX10_save_42 : decode cX10_save 42 = .ok (.iaload, 1) := by decide +kernel
theorem dX10_save_43 : decode cX10_save 43 = .ok (.iastore, 1) := by decide +kernel
theorem dX10_save_44 : decode cX10_save 44 = .ok (.aload_n 0, 1) := by decide +kernel
theorem dX10_save_45 : decode cX10_save 45 = .ok (.getfield 129, 3) := by decide +kernel
theorem dX10_save_48 : decode cX10_save 48 = .ok (.iload_n 1, 1) := by decide +kernel
theorem dX10_save_49 : decode cX10_save 49 = .ok (.aload_n 0, 1) := by decide +kernel
theorem dX10_save_50 : decode cX10_save 50 = .ok (.getfield 35, 3) := by decide +kernel
theorem dX10_save_53 : decode cX10_save 53 = .ok (.iload_n 1, 1) := by decide +kernel
theorem dX10_save_54 : decode cX10_save 54 = .ok (.iaload, 1) := by decide +kernel
theorem dX10_save_55 : decode cX10_save 55 = .ok (.iastore, 1) := by decide +kernel
theorem dX10_save_56 : decode cX10_save 56 = .ok (.iinc 1 1, 3) := by decide +kernel
theorem dX10_save_59 : decode cX10_save 59 = .ok (.goto (-33), 3) := by decide +kernel
theorem dX10_save_62 : decode cX10_save 62 = .ok (.return_, 1) := by decide +kernel
def f_X10_save_L26 (X : x_X) : Nat → Nat → Int32 → x_M → Option (Unit × x_M)
  | 0, _, _, _ => none
  | n + 1, v5, v6, μ7 =>
    (if (6 : Int32) ≤ v6 then (some ((), μ7)) else (ck (x_kd X v5 = 10 + 1) (lt (μ7.2.1 v5 38) (fun (v8 : Nat) => (ck (x_kd X v5 = 10 + 1) (lt (μ7.2.1 v5 7) (fun (v9 : Nat) => (ck ((x_kd X v9 = 20 ∨ x_kd X v9 = 40) ∧ x_ix v6 (x_ln X v9)) (ck (x_kd X v8 = 20 ∧ x_ix v6 (x_ln X v8)) (lt (x_sI μ7 v8 (v6).toNatClampNeg (μ7.1 v9 (v6).toNatClampNeg)) (fun (μ10 : x_M) => (ck (x_kd X v5 = 10 + 1) (lt (μ10.2.1 v5 39) (fun (v11 : Nat) => (ck (x_kd X v5 = 10 + 1) (lt (μ10.2.1 v5 8) (fun (v12 : Nat) => (ck ((x_kd X v12 = 20 ∨ x_kd X v12 = 40) ∧ x_ix v6 (x_ln X v12)) (ck (x_kd X v11 = 20 ∧ x_ix v6 (x_ln X v11)) (lt (x_sI μ10 v11 (v6).toNatClampNeg (μ10.1 v12 (v6).toNatClampNeg)) (fun (μ13 : x_M) => (f_X10_save_L26 X n v5 (v6 + (1 : Int32)) μ13))))))))))))))))))))))
set_option maxRecDepth 100000 in
theorem j_X10_save_L26 (hI : x_I X) (hC : x_C X x_Z0 p (x_rm 1) s m c cX10_save RX10 2 0 0 1) (hr : meth.sig.returnType = none) (hlk : meth.locks = false) : ∀ (n : Nat) (v5 : Nat) (v6 : Int32) (μ7 : x_M), SM X 2 1 rkV p l e s m args below meth c 26 [(0, vR v5), (1, vI v6)] [] μ7 (f_X10_save_L26 X n v5 v6 μ7) := by
  intro n
  induction n with
  | zero => intro v5 v6 μ7; exact s_none
  | succ n ih =>
    intro v5 v6 μ7
    unfold f_X10_save_L26
    refine s_iload_n hC 1 dX10_save_26 rfl ?_
    refine s_bipush hC dX10_save_27 (v := 6) (by decide) ?_
    refine s_icmp_ge hC dX10_save_29 (tgt := 62) (by decide) ?_ ?_
    · exact s_vret hC hr hlk dX10_save_62
    refine s_aload_n hC 0 dX10_save_32 rfl ?_
    refine s_getR hC xc10 (by decide) rfl qf_X10_126 dX10_save_33 ?_
    refine s_ltR (fun v8 => ?_)
    refine s_iload_n hC 1 dX10_save_36 rfl ?_
    refine s_aload_n hC 0 dX10_save_37 rfl ?_
    refine s_getR hC xc10 (by decide) rfl qf_X10_32 dX10_save_38 ?_
    refine s_ltR (fun v9 => ?_)
    refine s_iload_n hC 1 dX10_save_41 rfl ?_
    refine s_iald hC dX10_save_42 ?_
    refine s_iast hC dX10_save_43 ?_
    refine s_ltM (fun μ10 => ?_)
    refine s_aload_n hC 0 dX10_save_44 rfl ?_
    refine s_getR hC xc10 (by decide) rfl qf_X10_129 dX10_save_45 ?_
    refine s_ltR (fun v11 => ?_)
    refine s_iload_n hC 1 dX10_save_48 rfl ?_
    refine s_aload_n hC 0 dX10_save_49 rfl ?_
    refine s_getR hC xc10 (by decide) rfl qf_X10_35 dX10_save_50 ?_
    refine s_ltR (fun v12 => ?_)
    refine s_iload_n hC 1 dX10_save_53 rfl ?_
    refine s_iald hC dX10_save_54 ?_
    refine s_iast hC dX10_save_55 ?_
    refine s_ltM (fun μ13 => ?_)
    refine s_iinc hC 1 dX10_save_56 rfl (w := 1) (by decide) (by decide) (lv' := [(1, vI (v6 + (1 : Int32))), (0, vR v5)]) rfl ?_
    refine s_goto hC dX10_save_59 (tgt := 26) (by decide) ?_
    refine s_lv (lv' := [(0, vR v5), (1, vI (v6 + (1 : Int32)))]) [1, 0] rfl ?_
    exact ih _ _ _
def f_X10_save (X : x_X) (v0 : Nat) (μ : x_M) : Option (Unit × x_M) :=
  (ck (x_kd X v0 = 10 + 1) (ck (x_kd X v0 = 10 + 1) (lt (x_sI μ v0 35 (μ.1 v0 1)) (fun (μ2 : x_M) => (ck (x_kd X v0 = 10 + 1) (ck (x_kd X v0 = 10 + 1) (lt (x_sI μ2 v0 36 (μ2.1 v0 2)) (fun (μ3 : x_M) => (ck (x_kd X v0 = 10 + 1) (ck (x_kd X v0 = 10 + 1) (lt (x_sI μ3 v0 37 (μ3.1 v0 3)) (fun (μ4 : x_M) => (f_X10_save_L26 X 4096 v0 (0 : Int32) μ4)))))))))))))
set_option maxRecDepth 100000 in
theorem m_X10_save (hI : x_I X) (v0 : Nat) (μ : x_M) : x_Met X x_Z0 l yX10_save cX10_save 2 none 1 [vR v0] μ rkV (f_X10_save X v0 μ) := by
  refine x_enter hI (by decide +kernel) (Nat.le_of_ble_eq_true rfl) (fun p e s m args below meth c hC hr hlk => ?_)
  unfold f_X10_save
  refine s_lv (lv' := [(0, vR v0)]) [0] rfl ?_
  refine s_aload_n hC 0 dX10_save_0 rfl ?_
  refine s_aload_n hC 0 dX10_save_1 rfl ?_
  refine s_getI hC xc10 (by decide) rfl qf_X10_13 dX10_save_2 ?_
  refine s_putI hC xc10 (by decide) rfl rfl qf_X10_117 dX10_save_5 ?_
  refine s_ltM (fun μ2 => ?_)
  refine s_aload_n hC 0 dX10_save_8 rfl ?_
  refine s_aload_n hC 0 dX10_save_9 rfl ?_
  refine s_getI hC xc10 (by decide) rfl qf_X10_16 dX10_save_10 ?_
  refine s_putI hC xc10 (by decide) rfl rfl qf_X10_120 dX10_save_13 ?_
  refine s_ltM (fun μ3 => ?_)
  refine s_aload_n hC 0 dX10_save_16 rfl ?_
  refine s_aload_n hC 0 dX10_save_17 rfl ?_
  refine s_getI hC xc10 (by decide) rfl qf_X10_19 dX10_save_18 ?_
  refine s_putI hC xc10 (by decide) rfl rfl qf_X10_123 dX10_save_21 ?_
  refine s_ltM (fun μ4 => ?_)
  refine s_iconst hC dX10_save_24 (v := 0) (by decide) ?_
  refine s_istore_n hC dX10_save_25 (by decide) (lv' := [(1, vI (0 : Int32)), (0, vR v0)]) rfl ?_
  refine s_lv (lv' := [(0, vR v0), (1, vI (0 : Int32))]) [1, 0] rfl ?_
  refine j_X10_save_L26 hI hC hr hlk 4096 _ _ _
theorem dX10_putBack_0 : decode cX10_putBack 0 = .ok (.aload_n 0, 1) := by decide +kernel
theorem dX10_putBack_1 : decode cX10_putBack 1 = .ok (.aload_n 0, 1) := by decide +kernel
theorem dX10_putBack_2 : decode cX10_putBack 2 = .ok (.getfield 117, 3) := by decide +kernel
theorem dX10_putBack_5 : decode cX10_putBack 5 = .ok (.putfield 13, 3) := by decide +kernel
theorem dX10_putBack_8 : decode cX10_putBack 8 = .ok (.aload_n 0, 1) := by decide +kernel
theorem dX10_putBack_9 : decode cX10_putBack 9 = .ok (.aload_n 0, 1) := by decide +kernel
theorem dX10_putBack_10 : decode cX10_putBack 10 = .ok (.getfield 120, 3) := by decide +kernel
theorem dX10_putBack_13 : decode cX10_putBack 13 = .ok (.putfield 16, 3) := by decide +kernel
theorem dX10_putBack_16 : decode cX10_putBack 16 = .ok (.aload_n 0, 1) := by decide +kernel
theorem dX10_putBack_17 : decode cX10_putBack 17 = .ok (.aload_n 0, 1) := by decide +kernel
theorem dX10_putBack_18 : decode cX10_putBack 18 = .ok (.getfield 123, 3) := by decide +kernel
theorem dX10_putBack_21 : decode cX10_putBack 21 = .ok (.putfield 19, 3) := by decide +kernel
theorem dX10_putBack_24 : decode cX10_putBack 24 = .ok (.iconst 0, 1) := by decide +kernel
theorem dX10_putBack_25 : decode cX10_putBack 25 = .ok (.istore_n 1, 1) := by decide +kernel
theorem dX10_putBack_26 : decode cX10_putBack 26 = .ok (.iload_n 1, 1) := by decide +kernel
theorem dX10_putBack_27 : decode cX10_putBack 27 = .ok (.bipush 6, 2) := by decide +kernel
theorem dX10_putBack_29 : decode cX10_putBack 29 = .ok (.if_icmp .ge 33, 3) := by decide +kernel
theorem dX10_putBack_32 : decode cX10_putBack 32 = .ok (.aload_n 0, 1) := by decide +kernel
theorem dX10_putBack_33 : decode cX10_putBack 33 = .ok (.getfield 32, 3) := by decide +kernel
theorem dX10_putBack_36 : decode cX10_putBack 36 = .ok (.iload_n 1, 1) := by decide +kernel
theorem dX10_putBack_37 : decode cX10_putBack 37 = .ok (.aload_n 0, 1) := by decide +kernel
theorem dX10_putBack_38 : decode cX10_putBack 38 = .ok (.getfield 126, 3) := by decide +kernel
theorem dX10_putBack_41 : decode cX10_putBack 41 = .ok (.iload_n 1, 1) := by decide +kernel
theorem dX10_putBack_42 : decode cX10_putBack 42 = .ok (.iaload, 1) := by decide +kernel
theorem dX10_putBack_43 : decode cX10_putBack 43 = .ok (.iastore, 1) := by decide +kernel
theorem dX10_putBack_44 : decode cX10_putBack 44 = .ok (.aload_n 0, 1) := by decide +kernel
theorem dX10_putBack_45 : decode cX10_putBack 45 = .ok (.getfield 35, 3) := by decide +kernel
theorem dX10_putBack_48 : decode cX10_putBack 48 = .ok (.iload_n 1, 1) := by decide +kernel
theorem dX10_putBack_49 : decode cX10_putBack 49 = .ok (.aload_n 0, 1) := by decide +kernel
theorem dX10_putBack_50 : decode cX10_putBack 50 = .ok (.getfield 129, 3) := by decide +kernel
theorem dX10_putBack_53 : decode cX10_putBack 53 = .ok (.iload_n 1, 1) := by decide +kernel
theorem dX10_putBack_54 : decode cX10_putBack 54 = .ok (.iaload, 1) := by decide +kernel
theorem dX10_putBack_55 : decode cX10_putBack 55 = .ok (.iastore, 1) := by decide +kernel
theorem dX10_putBack_56 : decode cX10_putBack 56 = .ok (.iinc 1 1, 3) := by decide +kernel
theorem dX10_putBack_59 : decode cX10_putBack 59 = .ok (.goto (-33), 3) := by decide +kernel
theorem dX10_putBack_62 : decode cX10_putBack 62 = .ok (.return_, 1) := by decide +kernel
def f_X10_putBack_L26 (X : x_X) : Nat → Nat → Int32 → x_M → Option (Unit × x_M)
  | 0, _, _, _ => none
  | n + 1, v5, v6, μ7 =>
    (if (6 : Int32) ≤ v6 then (some ((), μ7)) else (ck (x_kd X v5 = 10 + 1) (lt (μ7.2.1 v5 7) (fun (v8 : Nat) => (ck (x_kd X v5 = 10 + 1) (lt (μ7.2.1 v5 38) (fun (v9 : Nat) => (ck ((x_kd X v9 = 20 ∨ x_kd X v9 = 40) ∧ x_ix v6 (x_ln X v9)) (ck (x_kd X v8 = 20 ∧ x_ix v6 (x_ln X v8)) (lt (x_sI μ7 v8 (v6).toNatClampNeg (μ7.1 v9 (v6).toNatClampNeg)) (fun (μ10 : x_M) => (ck (x_kd X v5 = 10 + 1) (lt (μ10.2.1 v5 8) (fun (v11 : Nat) => (ck (x_kd X v5 = 10 + 1) (lt (μ10.2.1 v5 39) (fun (v12 : Nat) => (ck ((x_kd X v12 = 20 ∨ x_kd X v12 = 40) ∧ x_ix v6 (x_ln X v12)) (ck (x_kd X v11 = 20 ∧ x_ix v6 (x_ln X v11)) (lt (x_sI μ10 v11 (v6).toNatClampNeg (μ10.1 v12 (v6).toNatClampNeg)) (fun (μ13 : x_M) => (f_X10_putBack_L26 X n v5 (v6 + (1 : Int32)) μ13))))))))))))))))))))))
set_option maxRecDepth 100000 in
theorem j_X10_putBack_L26 (hI : x_I X) (hC : x_C X x_Z0 p (x_rm 1) s m c cX10_putBack RX10 2 0 0 1) (hr : meth.sig.returnType = none) (hlk : meth.locks = false) : ∀ (n : Nat) (v5 : Nat) (v6 : Int32) (μ7 : x_M), SM X 2 1 rkV p l e s m args below meth c 26 [(0, vR v5), (1, vI v6)] [] μ7 (f_X10_putBack_L26 X n v5 v6 μ7) := by
  intro n
  induction n with
  | zero => intro v5 v6 μ7; exact s_none
  | succ n ih =>
    intro v5 v6 μ7
    unfold f_X10_putBack_L26
    refine s_iload_n hC 1 dX10_putBack_26 rfl ?_
    refine s_bipush hC dX10_putBack_27 (v := 6) (by decide) ?_
    refine s_icmp_ge hC dX10_putBack_29 (tgt := 62) (by decide) ?_ ?_
    · exact s_vret hC hr hlk dX10_putBack_62
    refine s_aload_n hC 0 dX10_putBack_32 rfl ?_
    refine s_getR hC xc10 (by decide) rfl qf_X10_32 dX10_putBack_33 ?_
    refine s_ltR (fun v8 => ?_)
    refine s_iload_n hC 1 dX10_putBack_36 rfl ?_
    refine s_aload_n hC 0 dX10_putBack_37 rfl ?_
    refine s_getR hC xc10 (by decide) rfl qf_X10_126 dX10_putBack_38 ?_
    refine s_ltR (fun v9 => ?_)
    refine s_iload_n hC 1 dX10_putBack_41 rfl ?_
    refine s_iald hC dX10_putBack_42 ?_
    refine s_iast hC dX10_putBack_43 ?_
    refine s_ltM (fun μ10 => ?_)
    refine s_aload_n hC 0 dX10_putBack_44 rfl ?_
    refine s_getR hC xc10 (by decide) rfl qf_X10_35 dX10_putBack_45 ?_
    refine s_ltR (fun v11 => ?_)
    refine s_iload_n hC 1 dX10_putBack_48 rfl ?_
    refine s_aload_n hC 0 dX10_putBack_49 rfl ?_
    refine s_getR hC xc10 (by decide) rfl qf_X10_129 dX10_putBack_50 ?_
    refine s_ltR (fun v12 => ?_)
    refine s_iload_n hC 1 dX10_putBack_53 rfl ?_
    refine s_iald hC dX10_putBack_54 ?_
    refine s_iast hC dX10_putBack_55 ?_
    refine s_ltM (fun μ13 => ?_)
    refine s_iinc hC 1 dX10_putBack_56 rfl (w := 1) (by decide) (by decide) (lv' := [(1, vI (v6 + (1 : Int32))), (0, vR v5)]) rfl ?_
    refine s_goto hC dX10_putBack_59 (tgt := 26) (by decide) ?_
    refine s_lv (lv' := [(0, vR v5), (1, vI (v6 + (1 : Int32)))]) [1, 0] rfl ?_
    exact ih _ _ _
def f_X10_putBack (X : x_X) (v0 : Nat) (μ : x_M) : Option (Unit × x_M) :=
  (ck (x_kd X v0 = 10 + 1) (ck (x_kd X v0 = 10 + 1) (lt (x_sI μ v0 1 (μ.1 v0 35)) (fun (μ2 : x_M) => (ck (x_kd X v0 = 10 + 1) (ck (x_kd X v0 = 10 + 1) (lt (x_sI μ2 v0 2 (μ2.1 v0 36)) (fun (μ3 : x_M) => (ck (x_kd X v0 = 10 + 1) (ck (x_kd X v0 = 10 + 1) (lt (x_sI μ3 v0 3 (μ3.1 v0 37)) (fun (μ4 : x_M) => (f_X10_putBack_L26 X 4096 v0 (0 : Int32) μ4)))))))))))))
set_option maxRecDepth 100000 in
theorem m_X10_putBack (hI : x_I X) (v0 : Nat) (μ : x_M) : x_Met X x_Z0 l yX10_putBack cX10_putBack 2 none 1 [vR v0] μ rkV (f_X10_putBack X v0 μ) := by
  refine x_enter hI (by decide +kernel) (Nat.le_of_ble_eq_true rfl) (fun p e s m args below meth c hC hr hlk => ?_)
  unfold f_X10_putBack
  refine s_lv (lv' := [(0, vR v0)]) [0] rfl ?_
  refine s_aload_n hC 0 dX10_putBack_0 rfl ?_
  refine s_aload_n hC 0 dX10_putBack_1 rfl ?_
  refine s_getI hC xc10 (by decide) rfl qf_X10_117 dX10_putBack_2 ?_
  refine s_putI hC xc10 (by decide) rfl rfl qf_X10_13 dX10_putBack_5 ?_
  refine s_ltM (fun μ2 => ?_)
  refine s_aload_n hC 0 dX10_putBack_8 rfl ?_
  refine s_aload_n hC 0 dX10_putBack_9 rfl ?_
  refine s_getI hC xc10 (by decide) rfl qf_X10_120 dX10_putBack_10 ?_
  refine s_putI hC xc10 (by decide) rfl rfl qf_X10_16 dX10_putBack_13 ?_
  refine s_ltM (fun μ3 => ?_)
  refine s_aload_n hC 0 dX10_putBack_16 rfl ?_
  refine s_aload_n hC 0 dX10_putBack_17 rfl ?_
  refine s_getI hC xc10 (by decide) rfl qf_X10_123 dX10_putBack_18 ?_
  refine s_putI hC xc10 (by decide) rfl rfl qf_X10_19 dX10_putBack_21 ?_
  refine s_ltM (fun μ4 => ?_)
  refine s_iconst hC dX10_putBack_24 (v := 0) (by decide) ?_
  refine s_istore_n hC dX10_putBack_25 (by decide) (lv' := [(1, vI (0 : Int32)), (0, vR v0)]) rfl ?_
  refine s_lv (lv' := [(0, vR v0), (1, vI (0 : Int32))]) [1, 0] rfl ?_
  refine j_X10_putBack_L26 hI hC hr hlk 4096 _ _ _
theorem dX10_below_0 : decode cX10_below 0 = .ok (.iconst 0, 1) := by decide +kernel
theorem dX10_below_1 : decode cX10_below 1 = .ok (.istore_n 2, 1) := by decide +kernel
theorem dX10_below_2 : decode cX10_below 2 = .ok (.iload_n 2, 1) := by decide +kernel
theorem dX10_below_3 : decode cX10_below 3 = .ok (.aload_n 0, 1) := by decide +kernel
theorem dX10_below_4 : decode cX10_below 4 = .ok (.getfield 7, 3) := by decide +kernel
theorem dX10_below_7 : decode cX10_below 7 = .ok (.if_icmp .ge 22, 3) := by decide +kernel
theorem dX10_below_10 : decode cX10_below 10 = .ok (.aload_n 0, 1) := by decide +kernel
theorem dX10_below_11 : decode cX10_below 11 = .ok (.getfield 32, 3) := by decide +kernel
theorem dX10_below_14 : decode cX10_below 14 = .ok (.iload_n 2, 1) := by decide +kernel
theorem dX10_below_15 : decode cX10_below 15 = .ok (.iaload, 1) := by decide +kernel
theorem dX10_below_16 : decode cX10_below 16 = .ok (.iload_n 1, 1) := by decide +kernel
theorem dX10_below_17 : decode cX10_below 17 = .ok (.ineg, 1) := by decide +kernel
theorem dX10_below_18 : decode cX10_below 18 = .ok (.if_icmp .ge 5, 3) := by decide +kernel
theorem dX10_below_21 : decode cX10_below 21 = .ok (.iload_n 2, 1) := by decide +kernel
theorem dX10_below_22 : decode cX10_below 22 = .ok (.ireturn, 1) := by decide +kernel
theorem dX10_below_23 : decode cX10_below 23 = .ok (.iinc 2 1, 3) := by decide +kernel
theorem dX10_below_26 : decode cX10_below 26 = .ok (.goto (-24), 3) := by decide +kernel
theorem dX10_below_29 : decode cX10_below 29 = .ok (.bipush (-5), 2) := by decide +kernel
theorem dX10_below_31 : decode cX10_below 31 = .ok (.ireturn, 1) := by decide +kernel
def f_X10_below_L2 (X : x_X) : Nat → Nat → Int32 → Int32 → x_M → Option (Int32 × x_M)
  | 0, _, _, _, _ => none
  | n + 1, v3, v4, v5, μ6 =>
    (ck (x_kd X v3 = 10 + 1) (if (μ6.1 v3 0) ≤ v5 then (some ((-5 : Int32), μ6)) else (ck (x_kd X v3 = 10 + 1) (lt (μ6.2.1 v3 7) (fun (v7 : Nat) => (ck ((x_kd X v7 = 20 ∨ x_kd X v7 = 40) ∧ x_ix v5 (x_ln X v7)) (if (-v4) ≤ (μ6.1 v7 (v5).toNatClampNeg) then (f_X10_below_L2 X n v3 v4 (v5 + (1 : Int32)) μ6) else (some (v5, μ6)))))))))
set_option maxRecDepth 100000 in
theorem j_X10_below_L2 (hI : x_I X) (hC : x_C X x_Z0 p (x_rm 1) s m c cX10_below RX10 3 0 0 1) (hr : meth.sig.returnType = (some .int)) (hlk : meth.locks = false) : ∀ (n : Nat) (v3 : Nat) (v4 : Int32) (v5 : Int32) (μ6 : x_M), SM X 3 1 rkI p l e s m args below meth c 2 [(0, vR v3), (1, vI v4), (2, vI v5)] [] μ6 (f_X10_below_L2 X n v3 v4 v5 μ6) := by
  intro n
  induction n with
  | zero => intro v3 v4 v5 μ6; exact s_none
  | succ n ih =>
    intro v3 v4 v5 μ6
    unfold f_X10_below_L2
    refine s_iload_n hC 2 dX10_below_2 rfl ?_
    refine s_aload_n hC 0 dX10_below_3 rfl ?_
    refine s_getI hC xc10 (by decide) rfl qf_X10_7 dX10_below_4 ?_
    refine s_icmp_ge hC dX10_below_7 (tgt := 29) (by decide) ?_ ?_
    · refine s_bipush hC dX10_below_29 (v := -5) (by decide) ?_
      exact s_iret hC hr hlk dX10_below_31
    refine s_aload_n hC 0 dX10_below_10 rfl ?_
    refine s_getR hC xc10 (by decide) rfl qf_X10_32 dX10_below_11 ?_
    refine s_ltR (fun v7 => ?_)
    refine s_iload_n hC 2 dX10_below_14 rfl ?_
    refine s_iald hC dX10_below_15 ?_
    refine s_iload_n hC 1 dX10_below_16 rfl ?_
    refine s_ineg hC dX10_below_17 ?_
    refine s_icmp_ge hC dX10_below_18 (tgt := 23) (by decide) ?_ ?_
    · refine s_iinc hC 2 dX10_below_23 rfl (w := 1) (by decide) (by decide) (lv' := [(2, vI (v5 + (1 : Int32))), (0, vR v3), (1, vI v4)]) rfl ?_
      refine s_goto hC dX10_below_26 (tgt := 2) (by decide) ?_
      refine s_lv (lv' := [(0, vR v3), (1, vI v4), (2, vI (v5 + (1 : Int32)))]) [1, 2, 0] rfl ?_
      exact ih _ _ _ _
    refine s_iload_n hC 2 dX10_below_21 rfl ?_
    exact s_iret hC hr hlk dX10_below_22
def f_X10_below (X : x_X) (v0 : Nat) (v1 : Int32) (μ : x_M) : Option (Int32 × x_M) :=
  (f_X10_below_L2 X 4096 v0 v1 (0 : Int32) μ)
set_option maxRecDepth 100000 in
theorem m_X10_below (hI : x_I X) (v0 : Nat) (v1 : Int32) (μ : x_M) : x_Met X x_Z0 l yX10_below cX10_below 3 (some .int) 1 [vR v0, vI v1] μ rkI (f_X10_below X v0 v1 μ) := by
  refine x_enter hI (by decide +kernel) (Nat.le_of_ble_eq_true rfl) (fun p e s m args below meth c hC hr hlk => ?_)
  unfold f_X10_below
  refine s_lv (lv' := [(0, vR v0), (1, vI v1)]) [0, 1] rfl ?_
  refine s_iconst hC dX10_below_0 (v := 0) (by decide) ?_
  refine s_istore_n hC dX10_below_1 (by decide) (lv' := [(2, vI (0 : Int32)), (0, vR v0), (1, vI v1)]) rfl ?_
  refine s_lv (lv' := [(0, vR v0), (1, vI v1), (2, vI (0 : Int32))]) [1, 2, 0] rfl ?_
  refine j_X10_below_L2 hI hC hr hlk 4096 _ _ _ _
theorem dX10_divisor_0 : decode cX10_divisor 0 = .ok (.iload_n 1, 1) := by decide +kernel
theorem dX10_divisor_1 : decode cX10_divisor 1 = .ok (.istore_n 3, 1) := by decide +kernel
theorem dX10_divisor_2 : decode cX10_divisor 2 = .ok (.iload_n 2, 1) := by decide +kernel
theorem dX10_divisor_3 : decode cX10_divisor 3 = .ok (.istore 4, 2) := by decide +kernel
theorem dX10_divisor_5 : decode cX10_divisor 5 = .ok (.iload 4, 2) := by decide +kernel
theorem dX10_divisor_7 : decode cX10_divisor 7 = .ok (.ifCond .eq 19, 3) := by decide +kernel
theorem dX10_divisor_10 : decode cX10_divisor 10 = .ok (.iload_n 3, 1) := by decide +kernel
theorem dX10_divisor_11 : decode cX10_divisor 11 = .ok (.iload 4, 2) := by decide +kernel
theorem dX10_divisor_13 : decode cX10_divisor 13 = .ok (.irem, 1) := by decide +kernel
theorem dX10_divisor_14 : decode cX10_divisor 14 = .ok (.istore 5, 2) := by decide +kernel
theorem dX10_divisor_16 : decode cX10_divisor 16 = .ok (.iload 4, 2) := by decide +kernel
theorem dX10_divisor_18 : decode cX10_divisor 18 = .ok (.istore_n 3, 1) := by decide +kernel
theorem dX10_divisor_19 : decode cX10_divisor 19 = .ok (.iload 5, 2) := by decide +kernel
theorem dX10_divisor_21 : decode cX10_divisor 21 = .ok (.istore 4, 2) := by decide +kernel
theorem dX10_divisor_23 : decode cX10_divisor 23 = .ok (.goto (-18), 3) := by decide +kernel
theorem dX10_divisor_26 : decode cX10_divisor 26 = .ok (.iload_n 3, 1) := by decide +kernel
theorem dX10_divisor_27 : decode cX10_divisor 27 = .ok (.ireturn, 1) := by decide +kernel
def f_X10_divisor_L5 (X : x_X) : Nat → Int32 → Int32 → x_M → Option (Int32 × x_M)
  | 0, _, _, _ => none
  | n + 1, v4, v5, μ6 =>
    (if v5 = 0 then (some (v4, μ6)) else (ck (¬ v5 = 0) (lt (v4 - v4 / v5 * v5) (fun (v7 : Int32) => (f_X10_divisor_L5 X n v5 v7 μ6)))))
set_option maxRecDepth 100000 in
theorem j_X10_divisor_L5 (hI : x_I X) (hC : x_C X x_Z0 p (x_rm 1) s m c cX10_divisor RX10 6 0 0 1) (hr : meth.sig.returnType = (some .int)) (hlk : meth.locks = false) : ∀ (n : Nat) (v4 : Int32) (v5 : Int32) (μ6 : x_M), SM X 6 1 rkI p l e s m args below meth c 5 [(3, vI v4), (4, vI v5)] [] μ6 (f_X10_divisor_L5 X n v4 v5 μ6) := by
  intro n
  induction n with
  | zero => intro v4 v5 μ6; exact s_none
  | succ n ih =>
    intro v4 v5 μ6
    unfold f_X10_divisor_L5
    refine s_iload hC 1 dX10_divisor_5 rfl ?_
    refine s_if_eq hC dX10_divisor_7 (tgt := 26) (by decide) ?_ ?_
    · refine s_iload_n hC 0 dX10_divisor_26 rfl ?_
      exact s_iret hC hr hlk dX10_divisor_27
    refine s_iload_n hC 0 dX10_divisor_10 rfl ?_
    refine s_iload hC 1 dX10_divisor_11 rfl ?_
    refine s_irem hC dX10_divisor_13 ?_
    refine s_ltI (fun v7 => ?_)
    refine s_istore hC dX10_divisor_14 (by decide) (lv' := [(5, vI v7), (3, vI v4), (4, vI v5)]) rfl ?_
    refine s_iload hC 2 dX10_divisor_16 rfl ?_
    refine s_istore_n hC dX10_divisor_18 (by decide) (lv' := [(3, vI v5), (5, vI v7), (4, vI v5)]) rfl ?_
    refine s_iload hC 1 dX10_divisor_19 rfl ?_
    refine s_istore hC dX10_divisor_21 (by decide) (lv' := [(4, vI v7), (3, vI v5), (5, vI v7)]) rfl ?_
    refine s_goto hC dX10_divisor_23 (tgt := 5) (by decide) ?_
    refine s_lv (lv' := [(3, vI v5), (4, vI v7)]) [1, 0] rfl ?_
    exact ih _ _ _
def f_X10_divisor (X : x_X) (v0 : Nat) (v1 : Int32) (v2 : Int32) (μ : x_M) : Option (Int32 × x_M) :=
  (f_X10_divisor_L5 X 4096 v1 v2 μ)
set_option maxRecDepth 100000 in
theorem m_X10_divisor (hI : x_I X) (v0 : Nat) (v1 : Int32) (v2 : Int32) (μ : x_M) : x_Met X x_Z0 l yX10_divisor cX10_divisor 6 (some .int) 1 [vR v0, vI v1, vI v2] μ rkI (f_X10_divisor X v0 v1 v2 μ) := by
  refine x_enter hI (by decide +kernel) (Nat.le_of_ble_eq_true rfl) (fun p e s m args below meth c hC hr hlk => ?_)
  unfold f_X10_divisor
  refine s_lv (lv' := [(0, vR v0), (1, vI v1), (2, vI v2)]) [0, 1, 2] rfl ?_
  refine s_iload_n hC 1 dX10_divisor_0 rfl ?_
  refine s_istore_n hC dX10_divisor_1 (by decide) (lv' := [(3, vI v1), (0, vR v0), (1, vI v1), (2, vI v2)]) rfl ?_
  refine s_iload_n hC 3 dX10_divisor_2 rfl ?_
  refine s_istore hC dX10_divisor_3 (by decide) (lv' := [(4, vI v2), (3, vI v1), (0, vR v0), (1, vI v1), (2, vI v2)]) rfl ?_
  refine s_lv (lv' := [(3, vI v1), (4, vI v2)]) [1, 0] rfl ?_
  refine j_X10_divisor_L5 hI hC hr hlk 4096 _ _ _
theorem dX10_looked_0 : decode cX10_looked 0 = .ok (.iconst 0, 1) := by decide +kernel
theorem dX10_looked_1 : decode cX10_looked 1 = .ok (.istore_n 1, 1) := by decide +kernel
theorem dX10_looked_2 : decode cX10_looked 2 = .ok (.iload_n 1, 1) := by decide +kernel
theorem dX10_looked_3 : decode cX10_looked 3 = .ok (.aload_n 0, 1) := by decide +kernel
theorem dX10_looked_4 : decode cX10_looked 4 = .ok (.getfield 144, 3) := by decide +kernel
theorem dX10_looked_7 : decode cX10_looked 7 = .ok (.if_icmp .ge 31, 3) := by decide +kernel
theorem dX10_looked_10 : decode cX10_looked 10 = .ok (.aload_n 0, 1) := by decide +kernel
theorem dX10_looked_11 : decode cX10_looked 11 = .ok (.getfield 32, 3) := by decide +kernel
theorem dX10_looked_14 : decode cX10_looked 14 = .ok (.aload_n 0, 1) := by decide +kernel
theorem dX10_looked_15 : decode cX10_looked 15 = .ok (.getfield 153, 3) := by decide +kernel
theorem dX10_looked_18 : decode cX10_looked 18 = .ok (.iload_n 1, 1) := by decide +kernel
theorem dX10_looked_19 : decode cX10_looked 19 = .ok (.iaload, 1) := by decide +kernel
theorem dX10_looked_20 : decode cX10_looked 20 = .ok (.iaload, 1) := by decide +kernel
theorem dX10_looked_21 : decode cX10_looked 21 = .ok (.aload_n 0, 1) := by decide +kernel
theorem dX10_looked_22 : decode cX10_looked 22 = .ok (.getfield 156, 3) := by decide +kernel
theorem dX10_looked_25 : decode cX10_looked 25 = .ok (.iload_n 1, 1) := by decide +kernel
theorem dX10_looked_26 : decode cX10_looked 26 = .ok (.iaload, 1) := by decide +kernel
theorem dX10_looked_27 : decode cX10_looked 27 = .ok (.if_icmp .eq 5, 3) := by decide +kernel
theorem dX10_looked_30 : decode cX10_looked 30 = .ok (.iload_n 1, 1) := by decide +kernel
theorem dX10_looked_31 : decode cX10_looked 31 = .ok (.ireturn, 1) := by decide +kernel
theorem dX10_looked_32 : decode cX10_looked 32 = .ok (.iinc 1 1, 3) := by decide +kernel
theorem dX10_looked_35 : decode cX10_looked 35 = .ok (.goto (-33), 3) := by decide +kernel
theorem dX10_looked_38 : decode cX10_looked 38 = .ok (.bipush (-5), 2) := by decide +kernel
theorem dX10_looked_40 : decode cX10_looked 40 = .ok (.ireturn, 1) := by decide +kernel
def f_X10_looked_L2 (X : x_X) : Nat → Nat → Int32 → x_M → Option (Int32 × x_M)
  | 0, _, _, _ => none
  | n + 1, v2, v3, μ4 =>
    (ck (x_kd X v2 = 10 + 1) (if (μ4.1 v2 44) ≤ v3 then (some ((-5 : Int32), μ4)) else (ck (x_kd X v2 = 10 + 1) (lt (μ4.2.1 v2 7) (fun (v5 : Nat) => (ck (x_kd X v2 = 10 + 1) (lt (μ4.2.1 v2 47) (fun (v6 : Nat) => (ck ((x_kd X v6 = 20 ∨ x_kd X v6 = 40) ∧ x_ix v3 (x_ln X v6)) (lt (μ4.1 v6 (v3).toNatClampNeg) (fun (v7 : Int32) => (ck ((x_kd X v5 = 20 ∨ x_kd X v5 = 40) ∧ x_ix v7 (x_ln X v5)) (ck (x_kd X v2 = 10 + 1) (lt (μ4.2.1 v2 48) (fun (v8 : Nat) => (ck ((x_kd X v8 = 20 ∨ x_kd X v8 = 40) ∧ x_ix v3 (x_ln X v8)) (if (μ4.1 v5 (v7).toNatClampNeg) = (μ4.1 v8 (v3).toNatClampNeg) then (f_X10_looked_L2 X n v2 (v3 + (1 : Int32)) μ4) else (some (v3, μ4)))))))))))))))))))
set_option maxRecDepth 100000 in
theorem j_X10_looked_L2 (hI : x_I X) (hC : x_C X x_Z0 p (x_rm 1) s m c cX10_looked RX10 2 0 0 1) (hr : meth.sig.returnType = (some .int)) (hlk : meth.locks = false) : ∀ (n : Nat) (v2 : Nat) (v3 : Int32) (μ4 : x_M), SM X 2 1 rkI p l e s m args below meth c 2 [(0, vR v2), (1, vI v3)] [] μ4 (f_X10_looked_L2 X n v2 v3 μ4) := by
  intro n
  induction n with
  | zero => intro v2 v3 μ4; exact s_none
  | succ n ih =>
    intro v2 v3 μ4
    unfold f_X10_looked_L2
    refine s_iload_n hC 1 dX10_looked_2 rfl ?_
    refine s_aload_n hC 0 dX10_looked_3 rfl ?_
    refine s_getI hC xc10 (by decide) rfl qf_X10_144 dX10_looked_4 ?_
    refine s_icmp_ge hC dX10_looked_7 (tgt := 38) (by decide) ?_ ?_
    · refine s_bipush hC dX10_looked_38 (v := -5) (by decide) ?_
      exact s_iret hC hr hlk dX10_looked_40
    refine s_aload_n hC 0 dX10_looked_10 rfl ?_
    refine s_getR hC xc10 (by decide) rfl qf_X10_32 dX10_looked_11 ?_
    refine s_ltR (fun v5 => ?_)
    refine s_aload_n hC 0 dX10_looked_14 rfl ?_
    refine s_getR hC xc10 (by decide) rfl qf_X10_153 dX10_looked_15 ?_
    refine s_ltR (fun v6 => ?_)
    refine s_iload_n hC 1 dX10_looked_18 rfl ?_
    refine s_iald hC dX10_looked_19 ?_
    refine s_ltI (fun v7 => ?_)
    refine s_iald hC dX10_looked_20 ?_
    refine s_aload_n hC 0 dX10_looked_21 rfl ?_
    refine s_getR hC xc10 (by decide) rfl qf_X10_156 dX10_looked_22 ?_
    refine s_ltR (fun v8 => ?_)
    refine s_iload_n hC 1 dX10_looked_25 rfl ?_
    refine s_iald hC dX10_looked_26 ?_
    refine s_icmp_eq hC dX10_looked_27 (tgt := 32) (by decide) ?_ ?_
    · refine s_iinc hC 1 dX10_looked_32 rfl (w := 1) (by decide) (by decide) (lv' := [(1, vI (v3 + (1 : Int32))), (0, vR v2)]) rfl ?_
      refine s_goto hC dX10_looked_35 (tgt := 2) (by decide) ?_
      refine s_lv (lv' := [(0, vR v2), (1, vI (v3 + (1 : Int32)))]) [1, 0] rfl ?_
      exact ih _ _ _
    refine s_iload_n hC 1 dX10_looked_30 rfl ?_
    exact s_iret hC hr hlk dX10_looked_31
def f_X10_looked (X : x_X) (v0 : Nat) (μ : x_M) : Option (Int32 × x_M) :=
  (f_X10_looked_L2 X 4096 v0 (0 : Int32) μ)
set_option maxRecDepth 100000 in
theorem m_X10_looked (hI : x_I X) (v0 : Nat) (μ : x_M) : x_Met X x_Z0 l yX10_looked cX10_looked 2 (some .int) 1 [vR v0] μ rkI (f_X10_looked X v0 μ) := by
  refine x_enter hI (by decide +kernel) (Nat.le_of_ble_eq_true rfl) (fun p e s m args below meth c hC hr hlk => ?_)
  unfold f_X10_looked
  refine s_lv (lv' := [(0, vR v0)]) [0] rfl ?_
  refine s_iconst hC dX10_looked_0 (v := 0) (by decide) ?_
  refine s_istore_n hC dX10_looked_1 (by decide) (lv' := [(1, vI (0 : Int32)), (0, vR v0)]) rfl ?_
  refine s_lv (lv' := [(0, vR v0), (1, vI (0 : Int32))]) [1, 0] rfl ?_
  refine j_X10_looked_L2 hI hC hr hlk 4096 _ _ _
theorem dX10_image_0 : decode cX10_image 0 = .ok (.aload_n 0, 1) := by decide +kernel
theorem dX10_image_1 : decode cX10_image 1 = .ok (.iconst 1, 1) := by decide +kernel
theorem dX10_image_2 : decode cX10_image 2 = .ok (.putfield 159, 3) := by decide +kernel
theorem dX10_image_5 : decode cX10_image 5 = .ok (.aload_n 0, 1) := by decide +kernel
theorem dX10_image_6 : decode cX10_image 6 = .ok (.aload_n 0, 1) := by decide +kernel
theorem dX10_image_7 : decode cX10_image 7 = .ok (.getfield 47, 3) := by decide +kernel
theorem dX10_image_10 : decode cX10_image 10 = .ok (.putfield 163, 3) := by decide +kernel
theorem dX10_image_13 : decode cX10_image 13 = .ok (.aload_n 0, 1) := by decide +kernel
theorem dX10_image_14 : decode cX10_image 14 = .ok (.aload_n 0, 1) := by decide +kernel
theorem dX10_image_15 : decode cX10_image 15 = .ok (.getfield 7, 3) := by decide +kernel
theorem dX10_image_18 : decode cX10_image 18 = .ok (.putfield 166, 3) := by decide +kernel
theorem dX10_image_21 : decode cX10_image 21 = .ok (.aload_n 0, 1) := by decide +kernel
theorem dX10_image_22 : decode cX10_image 22 = .ok (.aload_n 0, 1) := by decide +kernel
theorem dX10_image_23 : decode cX10_image 23 = .ok (.getfield 13, 3) := by decide +kernel
theorem dX10_image_26 : decode cX10_image 26 = .ok (.putfield 169, 3) := by decide +kernel
theorem dX10_image_29 : decode cX10_image 29 = .ok (.aload_n 0, 1) := by decide +kernel
theorem dX10_image_30 : decode cX10_image 30 = .ok (.aload_n 0, 1) := by decide +kernel
theorem dX10_image_31 : decode cX10_image 31 = .ok (.getfield 16, 3) := by decide +kernel
theorem dX10_image_34 : decode cX10_image 34 = .ok (.putfield 172, 3) := by decide +kernel
theorem dX10_image_37 : decode cX10_image 37 = .ok (.aload_n 0, 1) := by decide +kernel
theorem dX10_image_38 : decode cX10_image 38 = .ok (.aload_n 0, 1) := by decide +kernel
theorem dX10_image_39 : decode cX10_image 39 = .ok (.getfield 19, 3) := by decide +kernel
theorem dX10_image_42 : decode cX10_image 42 = .ok (.putfield 175, 3) := by decide +kernel
theorem dX10_image_45 : decode cX10_image 45 = .ok (.aload_n 0, 1) := by decide +kernel
theorem dX10_image_46 : decode cX10_image 46 = .ok (.aload_n 0, 1) := by decide +kernel
theorem dX10_image_47 : decode cX10_image 47 = .ok (.getfield 132, 3) := by decide +kernel
theorem dX10_image_50 : decode cX10_image 50 = .ok (.putfield 178, 3) := by decide +kernel
theorem dX10_image_53 : decode cX10_image 53 = .ok (.aload_n 0, 1) := by decide +kernel
theorem dX10_image_54 : decode cX10_image 54 = .ok (.aload_n 0, 1) := by decide +kernel
theorem dX10_image_55 : decode cX10_image 55 = .ok (.getfield 141, 3) := by decide +kernel
theorem dX10_image_58 : decode cX10_image 58 = .ok (.putfield 181, 3) := by decide +kernel
theorem dX10_image_61 : decode cX10_image 61 = .ok (.aload_n 0, 1) := by decide +kernel
theorem dX10_image_62 : decode cX10_image 62 = .ok (.aload_n 0, 1) := by decide +kernel
theorem dX10_image_63 : decode cX10_image 63 = .ok (.getfield 144, 3) := by decide +kernel
theorem dX10_image_66 : decode cX10_image 66 = .ok (.putfield 184, 3) := by decide +kernel
theorem dX10_image_69 : decode cX10_image 69 = .ok (.iconst 0, 1) := by decide +kernel
theorem dX10_image_70 : decode cX10_image 70 = .ok (.istore_n 1, 1) := by decide +kernel
theorem dX10_image_71 : decode cX10_image 71 = .ok (.iload_n 1, 1) := by decide +kernel
theorem dX10_image_72 : decode cX10_image 72 = .ok (.bipush 6, 2) := by decide +kernel
theorem dX10_image_74 : decode cX10_image 74 = .ok (.if_icmp .ge 81, 3) := by decide +kernel
theorem dX10_image_77 : decode cX10_image 77 = .ok (.aload_n 0, 1) := by decide +kernel
theorem dX10_image_78 : decode cX10_image 78 = .ok (.getfield 187, 3) := by decide +kernel
theorem dX10_image_81 : decode cX10_image 81 = .ok (.iload_n 1, 1) := by decide +kernel
theorem dX10_image_82 : decode cX10_image 82 = .ok (.aload_n 0, 1) := by decide +kernel
theorem dX10_image_83 : decode cX10_image 83 = .ok (.getfield 22, 3) := by decide +kernel
theorem dX10_image_86 : decode cX10_image 86 = .ok (.iload_n 1, 1) := by decide +kernel
theorem dX10_image_87 : decode cX10_image 87 = .ok (.iaload, 1) := by decide +kernel
theorem dX10_image_88 : decode cX10_image 88 = .ok (.iastore, 1) := by decide +kernel
theorem dX10_image_89 : decode cX10_image 89 = .ok (.aload_n 0, 1) := by decide +kernel
theorem dX10_image_90 : decode cX10_image 90 = .ok (.getfield 190, 3) := by decide +kernel
theorem dX10_image_93 : decode cX10_image 93 = .ok (.iload_n 1, 1) := by decide +kernel
theorem dX10_image_94 : decode cX10_image 94 = .ok (.aload_n 0, 1) := by decide +kernel
theorem dX10_image_95 : decode cX10_image 95 = .ok (.getfield 26, 3) := by decide +kernel
theorem dX10_image_98 : decode cX10_image 98 = .ok (.iload_n 1, 1) := by decide +kernel
theorem dX10_image_99 : decode cX10_image 99 = .ok (.iaload, 1) := by decide +kernel
theorem dX10_image_100 : decode cX10_image 100 = .ok (.iastore, 1) := by decide +kernel
theorem dX10_image_101 : decode cX10_image 101 = .ok (.aload_n 0, 1) := by decide +kernel
theorem dX10_image_102 : decode cX10_image 102 = .ok (.getfield 193, 3) := by decide +kernel
theorem dX10_image_105 : decode cX10_image 105 = .ok (.iload_n 1, 1) := by decide +kernel
theorem dX10_image_106 : decode cX10_image 106 = .ok (.aload_n 0, 1) := by decide +kernel
theorem dX10_image_107 : decode cX10_image 107 = .ok (.getfield 29, 3) := by decide +kernel
theorem dX10_image_110 : decode cX10_image 110 = .ok (.iload_n 1, 1) := by decide +kernel
theorem dX10_image_111 : decode cX10_image 111 = .ok (.iaload, 1) := by decide +kernel
theorem dX10_image_112 : decode cX10_image 112 = .ok (.iastore, 1) := by decide +kernel
theorem dX10_image_113 : decode cX10_image 113 = .ok (.aload_n 0, 1) := by decide +kernel
theorem dX10_image_114 : decode cX10_image 114 = .ok (.getfield 196, 3) := by decide +kernel
theorem dX10_image_117 : decode cX10_image 117 = .ok (.iload_n 1, 1) := by decide +kernel
theorem dX10_image_118 : decode cX10_image 118 = .ok (.aload_n 0, 1) := by decide +kernel
theorem dX10_image_119 : decode cX10_image 119 = .ok (.getfield 32, 3) := by decide +kernel
theorem dX10_image_122 : decode cX10_image 122 = .ok (.iload_n 1, 1) := by decide +kernel
theorem dX10_image_123 : decode cX10_image 123 = .ok (.iaload, 1) := by decide +kernel
theorem dX10_image_124 : decode cX10_image 124 = .ok (.iastore, 1) := by decide +kernel
theorem dX10_image_125 : decode cX10_image 125 = .ok (.aload_n 0, 1) := by decide +kernel
theorem dX10_image_126 : decode cX10_image 126 = .ok (.getfield 199, 3) := by decide +kernel
theorem dX10_image_129 : decode cX10_image 129 = .ok (.iload_n 1, 1) := by decide +kernel
theorem dX10_image_130 : decode cX10_image 130 = .ok (.aload_n 0, 1) := by decide +kernel
theorem dX10_image_131 : decode cX10_image 131 = .ok (.getfield 35, 3) := by decide +kernel
theorem dX10_image_134 : decode cX10_image 134 = .ok (.iload_n 1, 1) := by decide +kernel
theorem dX10_image_135 : decode cX10_image 135 = .ok (.iaload, 1) := by decide +kernel
theorem dX10_image_136 : decode cX10_image 136 = .ok (.iastore, 1) := by decide +kernel
theorem dX10_image_137 : decode cX10_image 137 = .ok (.aload_n 0, 1) := by decide +kernel
theorem dX10_image_138 : decode cX10_image 138 = .ok (.getfield 202, 3) := by decide +kernel
theorem dX10_image_141 : decode cX10_image 141 = .ok (.iload_n 1, 1) := by decide +kernel
theorem dX10_image_142 : decode cX10_image 142 = .ok (.aload_n 0, 1) := by decide +kernel
theorem dX10_image_143 : decode cX10_image 143 = .ok (.getfield 38, 3) := by decide +kernel
theorem dX10_image_146 : decode cX10_image 146 = .ok (.iload_n 1, 1) := by decide +kernel
theorem dX10_image_147 : decode cX10_image 147 = .ok (.iaload, 1) := by decide +kernel
theorem dX10_image_148 : decode cX10_image 148 = .ok (.iastore, 1) := by decide +kernel
theorem dX10_image_149 : decode cX10_image 149 = .ok (.iinc 1 1, 3) := by decide +kernel
theorem dX10_image_152 : decode cX10_image 152 = .ok (.goto (-81), 3) := by decide +kernel
theorem dX10_image_155 : decode cX10_image 155 = .ok (.iconst 0, 1) := by decide +kernel
theorem dX10_image_156 : decode cX10_image 156 = .ok (.istore_n 1, 1) := by decide +kernel
theorem dX10_image_157 : decode cX10_image 157 = .ok (.iload_n 1, 1) := by decide +kernel
theorem dX10_image_158 : decode cX10_image 158 = .ok (.bipush 24, 2) := by decide +kernel
theorem dX10_image_160 : decode cX10_image 160 = .ok (.if_icmp .ge 21, 3) := by decide +kernel
theorem dX10_image_163 : decode cX10_image 163 = .ok (.aload_n 0, 1) := by decide +kernel
theorem dX10_image_164 : decode cX10_image 164 = .ok (.getfield 205, 3) := by decide +kernel
theorem dX10_image_167 : decode cX10_image 167 = .ok (.iload_n 1, 1) := by decide +kernel
theorem dX10_image_168 : decode cX10_image 168 = .ok (.aload_n 0, 1) := by decide +kernel
theorem dX10_image_169 : decode cX10_image 169 = .ok (.getfield 41, 3) := by decide +kernel
theorem dX10_image_172 : decode cX10_image 172 = .ok (.iload_n 1, 1) := by decide +kernel
theorem dX10_image_173 : decode cX10_image 173 = .ok (.iaload, 1) := by decide +kernel
theorem dX10_image_174 : decode cX10_image 174 = .ok (.iastore, 1) := by decide +kernel
theorem dX10_image_175 : decode cX10_image 175 = .ok (.iinc 1 1, 3) := by decide +kernel
theorem dX10_image_178 : decode cX10_image 178 = .ok (.goto (-21), 3) := by decide +kernel
theorem dX10_image_181 : decode cX10_image 181 = .ok (.iconst 0, 1) := by decide +kernel
theorem dX10_image_182 : decode cX10_image 182 = .ok (.istore_n 1, 1) := by decide +kernel
theorem dX10_image_183 : decode cX10_image 183 = .ok (.iload_n 1, 1) := by decide +kernel
theorem dX10_image_184 : decode cX10_image 184 = .ok (.iconst 4, 1) := by decide +kernel
theorem dX10_image_185 : decode cX10_image 185 = .ok (.if_icmp .ge 33, 3) := by decide +kernel
theorem dX10_image_188 : decode cX10_image 188 = .ok (.aload_n 0, 1) := by decide +kernel
theorem dX10_image_189 : decode cX10_image 189 = .ok (.getfield 208, 3) := by decide +kernel
theorem dX10_image_192 : decode cX10_image 192 = .ok (.iload_n 1, 1) := by decide +kernel
theorem dX10_image_193 : decode cX10_image 193 = .ok (.aload_n 0, 1) := by decide +kernel
theorem dX10_image_194 : decode cX10_image 194 = .ok (.getfield 135, 3) := by decide +kernel
theorem dX10_image_197 : decode cX10_image 197 = .ok (.iload_n 1, 1) := by decide +kernel
theorem dX10_image_198 : decode cX10_image 198 = .ok (.iaload, 1) := by decide +kernel
theorem dX10_image_199 : decode cX10_image 199 = .ok (.iastore, 1) := by decide +kernel
theorem dX10_image_200 : decode cX10_image 200 = .ok (.aload_n 0, 1) := by decide +kernel
theorem dX10_image_201 : decode cX10_image 201 = .ok (.getfield 211, 3) := by decide +kernel
theorem dX10_image_204 : decode cX10_image 204 = .ok (.iload_n 1, 1) := by decide +kernel
theorem dX10_image_205 : decode cX10_image 205 = .ok (.aload_n 0, 1) := by decide +kernel
theorem dX10_image_206 : decode cX10_image 206 = .ok (.getfield 138, 3) := by decide +kernel
theorem dX10_image_209 : decode cX10_image 209 = .ok (.iload_n 1, 1) := by decide +kernel
theorem dX10_image_210 : decode cX10_image 210 = .ok (.iaload, 1) := by decide +kernel
theorem dX10_image_211 : decode cX10_image 211 = .ok (.iastore, 1) := by decide +kernel
theorem dX10_image_212 : decode cX10_image 212 = .ok (.iinc 1 1, 3) := by decide +kernel
theorem dX10_image_215 : decode cX10_image 215 = .ok (.goto (-32), 3) := by decide +kernel
theorem dX10_image_218 : decode cX10_image 218 = .ok (.iconst 0, 1) := by decide +kernel
theorem dX10_image_219 : decode cX10_image 219 = .ok (.istore_n 1, 1) := by decide +kernel
theorem dX10_image_220 : decode cX10_image 220 = .ok (.iload_n 1, 1) := by decide +kernel
theorem dX10_image_221 : decode cX10_image 221 = .ok (.bipush 8, 2) := by decide +kernel
theorem dX10_image_223 : decode cX10_image 223 = .ok (.if_icmp .ge 57, 3) := by decide +kernel
theorem dX10_image_226 : decode cX10_image 226 = .ok (.aload_n 0, 1) := by decide +kernel
theorem dX10_image_227 : decode cX10_image 227 = .ok (.getfield 214, 3) := by decide +kernel
theorem dX10_image_230 : decode cX10_image 230 = .ok (.iload_n 1, 1) := by decide +kernel
theorem dX10_image_231 : decode cX10_image 231 = .ok (.aload_n 0, 1) := by decide +kernel
theorem dX10_image_232 : decode cX10_image 232 = .ok (.getfield 147, 3) := by decide +kernel
theorem dX10_image_235 : decode cX10_image 235 = .ok (.iload_n 1, 1) := by decide +kernel
theorem dX10_image_236 : decode cX10_image 236 = .ok (.iaload, 1) := by decide +kernel
theorem dX10_image_237 : decode cX10_image 237 = .ok (.iastore, 1) := by decide +kernel
theorem dX10_image_238 : decode cX10_image 238 = .ok (.aload_n 0, 1) := by decide +kernel
theorem dX10_image_239 : decode cX10_image 239 = .ok (.getfield 217, 3) := by decide +kernel
theorem dX10_image_242 : decode cX10_image 242 = .ok (.iload_n 1, 1) := by decide +kernel
theorem dX10_image_243 : decode cX10_image 243 = .ok (.aload_n 0, 1) := by decide +kernel
theorem dX10_image_244 : decode cX10_image 244 = .ok (.getfield 150, 3) := by decide +kernel
theorem dX10_image_247 : decode cX10_image 247 = .ok (.iload_n 1, 1) := by decide +kernel
theorem dX10_image_248 : decode cX10_image 248 = .ok (.iaload, 1) := by decide +kernel
theorem dX10_image_249 : decode cX10_image 249 = .ok (.iastore, 1) := by decide +kernel
theorem dX10_image_250 : decode cX10_image 250 = .ok (.aload_n 0, 1) := by decide +kernel
theorem dX10_image_251 : decode cX10_image 251 = .ok (.getfield 220, 3) := by decide +kernel
theorem dX10_image_254 : decode cX10_image 254 = .ok (.iload_n 1, 1) := by decide +kernel
theorem dX10_image_255 : decode cX10_image 255 = .ok (.aload_n 0, 1) := by decide +kernel
theorem dX10_image_256 : decode cX10_image 256 = .ok (.getfield 153, 3) := by decide +kernel
theorem dX10_image_259 : decode cX10_image 259 = .ok (.iload_n 1, 1) := by decide +kernel
theorem dX10_image_260 : decode cX10_image 260 = .ok (.iaload, 1) := by decide +kernel
theorem dX10_image_261 : decode cX10_image 261 = .ok (.iastore, 1) := by decide +kernel
theorem dX10_image_262 : decode cX10_image 262 = .ok (.aload_n 0, 1) := by decide +kernel
theorem dX10_image_263 : decode cX10_image 263 = .ok (.getfield 223, 3) := by decide +kernel
theorem dX10_image_266 : decode cX10_image 266 = .ok (.iload_n 1, 1) := by decide +kernel
theorem dX10_image_267 : decode cX10_image 267 = .ok (.aload_n 0, 1) := by decide +kernel
theorem dX10_image_268 : decode cX10_image 268 = .ok (.getfield 156, 3) := by decide +kernel
theorem dX10_image_271 : decode cX10_image 271 = .ok (.iload_n 1, 1) := by decide +kernel
theorem dX10_image_272 : decode cX10_image 272 = .ok (.iaload, 1) := by decide +kernel
theorem dX10_image_273 : decode cX10_image 273 = .ok (.iastore, 1) := by decide +kernel
theorem dX10_image_274 : decode cX10_image 274 = .ok (.iinc 1 1, 3) := by decide +kernel
theorem dX10_image_277 : decode cX10_image 277 = .ok (.goto (-57), 3) := by decide +kernel
theorem dX10_image_280 : decode cX10_image 280 = .ok (.aload_n 0, 1) := by decide +kernel
theorem dX10_image_281 : decode cX10_image 281 = .ok (.getfield 7, 3) := by decide +kernel
theorem dX10_image_284 : decode cX10_image 284 = .ok (.ireturn, 1) := by decide +kernel
def f_X10_image_L71 (X : x_X) (k155 : Nat → x_M → Option (Int32 × x_M)) : Nat → Nat → Int32 → x_M → Option (Int32 × x_M)
  | 0, _, _, _ => none
  | n + 1, v11, v12, μ13 =>
    (if (6 : Int32) ≤ v12 then (k155 v11 μ13) else (ck (x_kd X v11 = 10 + 1) (lt (μ13.2.1 v11 58) (fun (v14 : Nat) => (ck (x_kd X v11 = 10 + 1) (lt (μ13.2.1 v11 4) (fun (v15 : Nat) => (ck ((x_kd X v15 = 20 ∨ x_kd X v15 = 40) ∧ x_ix v12 (x_ln X v15)) (ck (x_kd X v14 = 20 ∧ x_ix v12 (x_ln X v14)) (lt (x_sI μ13 v14 (v12).toNatClampNeg (μ13.1 v15 (v12).toNatClampNeg)) (fun (μ16 : x_M) => (ck (x_kd X v11 = 10 + 1) (lt (μ16.2.1 v11 59) (fun (v17 : Nat) => (ck (x_kd X v11 = 10 + 1) (lt (μ16.2.1 v11 5) (fun (v18 : Nat) => (ck ((x_kd X v18 = 20 ∨ x_kd X v18 = 40) ∧ x_ix v12 (x_ln X v18)) (ck (x_kd X v17 = 20 ∧ x_ix v12 (x_ln X v17)) (lt (x_sI μ16 v17 (v12).toNatClampNeg (μ16.1 v18 (v12).toNatClampNeg)) (fun (μ19 : x_M) => (ck (x_kd X v11 = 10 + 1) (lt (μ19.2.1 v11 60) (fun (v20 : Nat) => (ck (x_kd X v11 = 10 + 1) (lt (μ19.2.1 v11 6) (fun (v21 : Nat) => (ck ((x_kd X v21 = 20 ∨ x_kd X v21 = 40) ∧ x_ix v12 (x_ln X v21)) (ck (x_kd X v20 = 20 ∧ x_ix v12 (x_ln X v20)) (lt (x_sI μ19 v20 (v12).toNatClampNeg (μ19.1 v21 (v12).toNatClampNeg)) (fun (μ22 : x_M) => (ck (x_kd X v11 = 10 + 1) (lt (μ22.2.1 v11 61) (fun (v23 : Nat) => (ck (x_kd X v11 = 10 + 1) (lt (μ22.2.1 v11 7) (fun (v24 : Nat) => (ck ((x_kd X v24 = 20 ∨ x_kd X v24 = 40) ∧ x_ix v12 (x_ln X v24)) (ck (x_kd X v23 = 20 ∧ x_ix v12 (x_ln X v23)) (lt (x_sI μ22 v23 (v12).toNatClampNeg (μ22.1 v24 (v12).toNatClampNeg)) (fun (μ25 : x_M) => (ck (x_kd X v11 = 10 + 1) (lt (μ25.2.1 v11 62) (fun (v26 : Nat) => (ck (x_kd X v11 = 10 + 1) (lt (μ25.2.1 v11 8) (fun (v27 : Nat) => (ck ((x_kd X v27 = 20 ∨ x_kd X v27 = 40) ∧ x_ix v12 (x_ln X v27)) (ck (x_kd X v26 = 20 ∧ x_ix v12 (x_ln X v26)) (lt (x_sI μ25 v26 (v12).toNatClampNeg (μ25.1 v27 (v12).toNatClampNeg)) (fun (μ28 : x_M) => (ck (x_kd X v11 = 10 + 1) (lt (μ28.2.1 v11 63) (fun (v29 : Nat) => (ck (x_kd X v11 = 10 + 1) (lt (μ28.2.1 v11 9) (fun (v30 : Nat) => (ck ((x_kd X v30 = 20 ∨ x_kd X v30 = 40) ∧ x_ix v12 (x_ln X v30)) (ck (x_kd X v29 = 20 ∧ x_ix v12 (x_ln X v29)) (lt (x_sI μ28 v29 (v12).toNatClampNeg (μ28.1 v30 (v12).toNatClampNeg)) (fun (μ31 : x_M) => (f_X10_image_L71 X k155 n v11 (v12 + (1 : Int32)) μ31))))))))))))))))))))))))))))))))))))))))))))))))))))))))))))))
set_option maxRecDepth 100000 in
theorem j_X10_image_L71 (hI : x_I X) (hC : x_C X x_Z0 p (x_rm 1) s m c cX10_image RX10 2 0 0 1) (hr : meth.sig.returnType = (some .int)) (hlk : meth.locks = false) {k155 : Nat → x_M → Option (Int32 × x_M)} (hk155 : ∀ (b0 : Nat) (μ : x_M), SM X 2 1 rkI p l e s m args below meth c 155 [(0, vR b0)] [] μ (k155 b0 μ)) : ∀ (n : Nat) (v11 : Nat) (v12 : Int32) (μ13 : x_M), SM X 2 1 rkI p l e s m args below meth c 71 [(0, vR v11), (1, vI v12)] [] μ13 (f_X10_image_L71 X k155 n v11 v12 μ13) := by
  intro n
  induction n with
  | zero => intro v11 v12 μ13; exact s_none
  | succ n ih =>
    intro v11 v12 μ13
    unfold f_X10_image_L71
    refine s_iload_n hC 1 dX10_image_71 rfl ?_
    refine s_bipush hC dX10_image_72 (v := 6) (by decide) ?_
    refine s_icmp_ge hC dX10_image_74 (tgt := 155) (by decide) ?_ ?_
    · refine s_lv (lv' := [(0, vR v11)]) [0] rfl ?_
      exact hk155 _ _
    refine s_aload_n hC 0 dX10_image_77 rfl ?_
    refine s_getR hC xc10 (by decide) rfl qf_X10_187 dX10_image_78 ?_
    refine s_ltR (fun v14 => ?_)
    refine s_iload_n hC 1 dX10_image_81 rfl ?_
    refine s_aload_n hC 0 dX10_image_82 rfl ?_
    refine s_getR hC xc10 (by decide) rfl qf_X10_22 dX10_image_83 ?_
    refine s_ltR (fun v15 => ?_)
    refine s_iload_n hC 1 dX10_image_86 rfl ?_
    refine s_iald hC dX10_image_87 ?_
    refine s_iast hC dX10_image_88 ?_
    refine s_ltM (fun μ16 => ?_)
    refine s_aload_n hC 0 dX10_image_89 rfl ?_
    refine s_getR hC xc10 (by decide) rfl qf_X10_190 dX10_image_90 ?_
    refine s_ltR (fun v17 => ?_)
    refine s_iload_n hC 1 dX10_image_93 rfl ?_
    refine s_aload_n hC 0 dX10_image_94 rfl ?_
    refine s_getR hC xc10 (by decide) rfl qf_X10_26 dX10_image_95 ?_
    refine s_ltR (fun v18 => ?_)
    refine s_iload_n hC 1 dX10_image_98 rfl ?_
    refine s_iald hC dX10_image_99 ?_
    refine s_iast hC dX10_image_100 ?_
    refine s_ltM (fun μ19 => ?_)
    refine s_aload_n hC 0 dX10_image_101 rfl ?_
    refine s_getR hC xc10 (by decide) rfl qf_X10_193 dX10_image_102 ?_
    refine s_ltR (fun v20 => ?_)
    refine s_iload_n hC 1 dX10_image_105 rfl ?_
    refine s_aload_n hC 0 dX10_image_106 rfl ?_
    refine s_getR hC xc10 (by decide) rfl qf_X10_29 dX10_image_107 ?_
    refine s_ltR (fun v21 => ?_)
    refine s_iload_n hC 1 dX10_image_110 rfl ?_
    refine s_iald hC dX10_image_111 ?_
    refine s_iast hC dX10_image_112 ?_
    refine s_ltM (fun μ22 => ?_)
    refine s_aload_n hC 0 dX10_image_113 rfl ?_
    refine s_getR hC xc10 (by decide) rfl qf_X10_196 dX10_image_114 ?_
    refine s_ltR (fun v23 => ?_)
    refine s_iload_n hC 1 dX10_image_117 rfl ?_
    refine s_aload_n hC 0 dX10_image_118 rfl ?_
    refine s_getR hC xc10 (by decide) rfl qf_X10_32 dX10_image_119 ?_
    refine s_ltR (fun v24 => ?_)
    refine s_iload_n hC 1 dX10_image_122 rfl ?_
    refine s_iald hC dX10_image_123 ?_
    refine s_iast hC dX10_image_124 ?_
    refine s_ltM (fun μ25 => ?_)
    refine s_aload_n hC 0 dX10_image_125 rfl ?_
    refine s_getR hC xc10 (by decide) rfl qf_X10_199 dX10_image_126 ?_
    refine s_ltR (fun v26 => ?_)
    refine s_iload_n hC 1 dX10_image_129 rfl ?_
    refine s_aload_n hC 0 dX10_image_130 rfl ?_
    refine s_getR hC xc10 (by decide) rfl qf_X10_35 dX10_image_131 ?_
    refine s_ltR (fun v27 => ?_)
    refine s_iload_n hC 1 dX10_image_134 rfl ?_
    refine s_iald hC dX10_image_135 ?_
    refine s_iast hC dX10_image_136 ?_
    refine s_ltM (fun μ28 => ?_)
    refine s_aload_n hC 0 dX10_image_137 rfl ?_
    refine s_getR hC xc10 (by decide) rfl qf_X10_202 dX10_image_138 ?_
    refine s_ltR (fun v29 => ?_)
    refine s_iload_n hC 1 dX10_image_141 rfl ?_
    refine s_aload_n hC 0 dX10_image_142 rfl ?_
    refine s_getR hC xc10 (by decide) rfl qf_X10_38 dX10_image_143 ?_
    refine s_ltR (fun v30 => ?_)
    refine s_iload_n hC 1 dX10_image_146 rfl ?_
    refine s_iald hC dX10_image_147 ?_
    refine s_iast hC dX10_image_148 ?_
    refine s_ltM (fun μ31 => ?_)
    refine s_iinc hC 1 dX10_image_149 rfl (w := 1) (by decide) (by decide) (lv' := [(1, vI (v12 + (1 : Int32))), (0, vR v11)]) rfl ?_
    refine s_goto hC dX10_image_152 (tgt := 71) (by decide) ?_
    refine s_lv (lv' := [(0, vR v11), (1, vI (v12 + (1 : Int32)))]) [1, 0] rfl ?_
    exact ih _ _ _
def f_X10_image_L157 (X : x_X) (k181 : Nat → x_M → Option (Int32 × x_M)) : Nat → Nat → Int32 → x_M → Option (Int32 × x_M)
  | 0, _, _, _ => none
  | n + 1, v34, v35, μ36 =>
    (if (24 : Int32) ≤ v35 then (k181 v34 μ36) else (ck (x_kd X v34 = 10 + 1) (lt (μ36.2.1 v34 64) (fun (v37 : Nat) => (ck (x_kd X v34 = 10 + 1) (lt (μ36.2.1 v34 10) (fun (v38 : Nat) => (ck ((x_kd X v38 = 20 ∨ x_kd X v38 = 40) ∧ x_ix v35 (x_ln X v38)) (ck (x_kd X v37 = 20 ∧ x_ix v35 (x_ln X v37)) (lt (x_sI μ36 v37 (v35).toNatClampNeg (μ36.1 v38 (v35).toNatClampNeg)) (fun (μ39 : x_M) => (f_X10_image_L157 X k181 n v34 (v35 + (1 : Int32)) μ39))))))))))))
set_option maxRecDepth 100000 in
theorem j_X10_image_L157 (hI : x_I X) (hC : x_C X x_Z0 p (x_rm 1) s m c cX10_image RX10 2 0 0 1) (hr : meth.sig.returnType = (some .int)) (hlk : meth.locks = false) {k181 : Nat → x_M → Option (Int32 × x_M)} (hk181 : ∀ (b0 : Nat) (μ : x_M), SM X 2 1 rkI p l e s m args below meth c 181 [(0, vR b0)] [] μ (k181 b0 μ)) : ∀ (n : Nat) (v34 : Nat) (v35 : Int32) (μ36 : x_M), SM X 2 1 rkI p l e s m args below meth c 157 [(0, vR v34), (1, vI v35)] [] μ36 (f_X10_image_L157 X k181 n v34 v35 μ36) := by
  intro n
  induction n with
  | zero => intro v34 v35 μ36; exact s_none
  | succ n ih =>
    intro v34 v35 μ36
    unfold f_X10_image_L157
    refine s_iload_n hC 1 dX10_image_157 rfl ?_
    refine s_bipush hC dX10_image_158 (v := 24) (by decide) ?_
    refine s_icmp_ge hC dX10_image_160 (tgt := 181) (by decide) ?_ ?_
    · refine s_lv (lv' := [(0, vR v34)]) [0] rfl ?_
      exact hk181 _ _
    refine s_aload_n hC 0 dX10_image_163 rfl ?_
    refine s_getR hC xc10 (by decide) rfl qf_X10_205 dX10_image_164 ?_
    refine s_ltR (fun v37 => ?_)
    refine s_iload_n hC 1 dX10_image_167 rfl ?_
    refine s_aload_n hC 0 dX10_image_168 rfl ?_
    refine s_getR hC xc10 (by decide) rfl qf_X10_41 dX10_image_169 ?_
    refine s_ltR (fun v38 => ?_)
    refine s_iload_n hC 1 dX10_image_172 rfl ?_
    refine s_iald hC dX10_image_173 ?_
    refine s_iast hC dX10_image_174 ?_
    refine s_ltM (fun μ39 => ?_)
    refine s_iinc hC 1 dX10_image_175 rfl (w := 1) (by decide) (by decide) (lv' := [(1, vI (v35 + (1 : Int32))), (0, vR v34)]) rfl ?_
    refine s_goto hC dX10_image_178 (tgt := 157) (by decide) ?_
    refine s_lv (lv' := [(0, vR v34), (1, vI (v35 + (1 : Int32)))]) [1, 0] rfl ?_
    exact ih _ _ _
def f_X10_image_L183 (X : x_X) (k218 : Nat → x_M → Option (Int32 × x_M)) : Nat → Nat → Int32 → x_M → Option (Int32 × x_M)
  | 0, _, _, _ => none
  | n + 1, v42, v43, μ44 =>
    (if (4 : Int32) ≤ v43 then (k218 v42 μ44) else (ck (x_kd X v42 = 10 + 1) (lt (μ44.2.1 v42 65) (fun (v45 : Nat) => (ck (x_kd X v42 = 10 + 1) (lt (μ44.2.1 v42 41) (fun (v46 : Nat) => (ck ((x_kd X v46 = 20 ∨ x_kd X v46 = 40) ∧ x_ix v43 (x_ln X v46)) (ck (x_kd X v45 = 20 ∧ x_ix v43 (x_ln X v45)) (lt (x_sI μ44 v45 (v43).toNatClampNeg (μ44.1 v46 (v43).toNatClampNeg)) (fun (μ47 : x_M) => (ck (x_kd X v42 = 10 + 1) (lt (μ47.2.1 v42 66) (fun (v48 : Nat) => (ck (x_kd X v42 = 10 + 1) (lt (μ47.2.1 v42 42) (fun (v49 : Nat) => (ck ((x_kd X v49 = 20 ∨ x_kd X v49 = 40) ∧ x_ix v43 (x_ln X v49)) (ck (x_kd X v48 = 20 ∧ x_ix v43 (x_ln X v48)) (lt (x_sI μ47 v48 (v43).toNatClampNeg (μ47.1 v49 (v43).toNatClampNeg)) (fun (μ50 : x_M) => (f_X10_image_L183 X k218 n v42 (v43 + (1 : Int32)) μ50))))))))))))))))))))))
set_option maxRecDepth 100000 in
theorem j_X10_image_L183 (hI : x_I X) (hC : x_C X x_Z0 p (x_rm 1) s m c cX10_image RX10 2 0 0 1) (hr : meth.sig.returnType = (some .int)) (hlk : meth.locks = false) {k218 : Nat → x_M → Option (Int32 × x_M)} (hk218 : ∀ (b0 : Nat) (μ : x_M), SM X 2 1 rkI p l e s m args below meth c 218 [(0, vR b0)] [] μ (k218 b0 μ)) : ∀ (n : Nat) (v42 : Nat) (v43 : Int32) (μ44 : x_M), SM X 2 1 rkI p l e s m args below meth c 183 [(0, vR v42), (1, vI v43)] [] μ44 (f_X10_image_L183 X k218 n v42 v43 μ44) := by
  intro n
  induction n with
  | zero => intro v42 v43 μ44; exact s_none
  | succ n ih =>
    intro v42 v43 μ44
    unfold f_X10_image_L183
    refine s_iload_n hC 1 dX10_image_183 rfl ?_
    refine s_iconst hC dX10_image_184 (v := 4) (by decide) ?_
    refine s_icmp_ge hC dX10_image_185 (tgt := 218) (by decide) ?_ ?_
    · refine s_lv (lv' := [(0, vR v42)]) [0] rfl ?_
      exact hk218 _ _
    refine s_aload_n hC 0 dX10_image_188 rfl ?_
    refine s_getR hC xc10 (by decide) rfl qf_X10_208 dX10_image_189 ?_
    refine s_ltR (fun v45 => ?_)
    refine s_iload_n hC 1 dX10_image_192 rfl ?_
    refine s_aload_n hC 0 dX10_image_193 rfl ?_
    refine s_getR hC xc10 (by decide) rfl qf_X10_135 dX10_image_194 ?_
    refine s_ltR (fun v46 => ?_)
    refine s_iload_n hC 1 dX10_image_197 rfl ?_
    refine s_iald hC dX10_image_198 ?_
    refine s_iast hC dX10_image_199 ?_
    refine s_ltM (fun μ47 => ?_)
    refine s_aload_n hC 0 dX10_image_200 rfl ?_
    refine s_getR hC xc10 (by decide) rfl qf_X10_211 dX10_image_201 ?_
    refine s_ltR (fun v48 => ?_)
    refine s_iload_n hC 1 dX10_image_204 rfl ?_
    refine s_aload_n hC 0 dX10_image_205 rfl ?_
    refine s_getR hC xc10 (by decide) rfl qf_X10_138 dX10_image_206 ?_
    refine s_ltR (fun v49 => ?_)
    refine s_iload_n hC 1 dX10_image_209 rfl ?_
    refine s_iald hC dX10_image_210 ?_
    refine s_iast hC dX10_image_211 ?_
    refine s_ltM (fun μ50 => ?_)
    refine s_iinc hC 1 dX10_image_212 rfl (w := 1) (by decide) (by decide) (lv' := [(1, vI (v43 + (1 : Int32))), (0, vR v42)]) rfl ?_
    refine s_goto hC dX10_image_215 (tgt := 183) (by decide) ?_
    refine s_lv (lv' := [(0, vR v42), (1, vI (v43 + (1 : Int32)))]) [1, 0] rfl ?_
    exact ih _ _ _
def f_X10_image_L220 (X : x_X) : Nat → Nat → Int32 → x_M → Option (Int32 × x_M)
  | 0, _, _, _ => none
  | n + 1, v53, v54, μ55 =>
    (if (8 : Int32) ≤ v54 then (ck (x_kd X v53 = 10 + 1) (some ((μ55.1 v53 0), μ55))) else (ck (x_kd X v53 = 10 + 1) (lt (μ55.2.1 v53 67) (fun (v56 : Nat) => (ck (x_kd X v53 = 10 + 1) (lt (μ55.2.1 v53 45) (fun (v57 : Nat) => (ck ((x_kd X v57 = 20 ∨ x_kd X v57 = 40) ∧ x_ix v54 (x_ln X v57)) (ck (x_kd X v56 = 20 ∧ x_ix v54 (x_ln X v56)) (lt (x_sI μ55 v56 (v54).toNatClampNeg (μ55.1 v57 (v54).toNatClampNeg)) (fun (μ58 : x_M) => (ck (x_kd X v53 = 10 + 1) (lt (μ58.2.1 v53 68) (fun (v59 : Nat) => (ck (x_kd X v53 = 10 + 1) (lt (μ58.2.1 v53 46) (fun (v60 : Nat) => (ck ((x_kd X v60 = 20 ∨ x_kd X v60 = 40) ∧ x_ix v54 (x_ln X v60)) (ck (x_kd X v59 = 20 ∧ x_ix v54 (x_ln X v59)) (lt (x_sI μ58 v59 (v54).toNatClampNeg (μ58.1 v60 (v54).toNatClampNeg)) (fun (μ61 : x_M) => (ck (x_kd X v53 = 10 + 1) (lt (μ61.2.1 v53 69) (fun (v62 : Nat) => (ck (x_kd X v53 = 10 + 1) (lt (μ61.2.1 v53 47) (fun (v63 : Nat) => (ck ((x_kd X v63 = 20 ∨ x_kd X v63 = 40) ∧ x_ix v54 (x_ln X v63)) (ck (x_kd X v62 = 20 ∧ x_ix v54 (x_ln X v62)) (lt (x_sI μ61 v62 (v54).toNatClampNeg (μ61.1 v63 (v54).toNatClampNeg)) (fun (μ64 : x_M) => (ck (x_kd X v53 = 10 + 1) (lt (μ64.2.1 v53 70) (fun (v65 : Nat) => (ck (x_kd X v53 = 10 + 1) (lt (μ64.2.1 v53 48) (fun (v66 : Nat) => (ck ((x_kd X v66 = 20 ∨ x_kd X v66 = 40) ∧ x_ix v54 (x_ln X v66)) (ck (x_kd X v65 = 20 ∧ x_ix v54 (x_ln X v65)) (lt (x_sI μ64 v65 (v54).toNatClampNeg (μ64.1 v66 (v54).toNatClampNeg)) (fun (μ67 : x_M) => (f_X10_image_L220 X n v53 (v54 + (1 : Int32)) μ67))))))))))))))))))))))))))))))))))))))))))
set_option maxRecDepth 100000 in
theorem j_X10_image_L220 (hI : x_I X) (hC : x_C X x_Z0 p (x_rm 1) s m c cX10_image RX10 2 0 0 1) (hr : meth.sig.returnType = (some .int)) (hlk : meth.locks = false) : ∀ (n : Nat) (v53 : Nat) (v54 : Int32) (μ55 : x_M), SM X 2 1 rkI p l e s m args below meth c 220 [(0, vR v53), (1, vI v54)] [] μ55 (f_X10_image_L220 X n v53 v54 μ55) := by
  intro n
  induction n with
  | zero => intro v53 v54 μ55; exact s_none
  | succ n ih =>
    intro v53 v54 μ55
    unfold f_X10_image_L220
    refine s_iload_n hC 1 dX10_image_220 rfl ?_
    refine s_bipush hC dX10_image_221 (v := 8) (by decide) ?_
    refine s_icmp_ge hC dX10_image_223 (tgt := 280) (by decide) ?_ ?_
    · refine s_aload_n hC 0 dX10_image_280 rfl ?_
      refine s_getI hC xc10 (by decide) rfl qf_X10_7 dX10_image_281 ?_
      exact s_iret hC hr hlk dX10_image_284
    refine s_aload_n hC 0 dX10_image_226 rfl ?_
    refine s_getR hC xc10 (by decide) rfl qf_X10_214 dX10_image_227 ?_
    refine s_ltR (fun v56 => ?_)
    refine s_iload_n hC 1 dX10_image_230 rfl ?_
    refine s_aload_n hC 0 dX10_image_231 rfl ?_
    refine s_getR hC xc10 (by decide) rfl qf_X10_147 dX10_image_232 ?_
    refine s_ltR (fun v57 => ?_)
    refine s_iload_n hC 1 dX10_image_235 rfl ?_
    refine s_iald hC dX10_image_236 ?_
    refine s_iast hC dX10_image_237 ?_
    refine s_ltM (fun μ58 => ?_)
    refine s_aload_n hC 0 dX10_image_238 rfl ?_
    refine s_getR hC xc10 (by decide) rfl qf_X10_217 dX10_image_239 ?_
    refine s_ltR (fun v59 => ?_)
    refine s_iload_n hC 1 dX10_image_242 rfl ?_
    refine s_aload_n hC 0 dX10_image_243 rfl ?_
    refine s_getR hC xc10 (by decide) rfl qf_X10_150 dX10_image_244 ?_
    refine s_ltR (fun v60 => ?_)
    refine s_iload_n hC 1 dX10_image_247 rfl ?_
    refine s_iald hC dX10_image_248 ?_
    refine s_iast hC dX10_image_249 ?_
    refine s_ltM (fun μ61 => ?_)
    refine s_aload_n hC 0 dX10_image_250 rfl ?_
    refine s_getR hC xc10 (by decide) rfl qf_X10_220 dX10_image_251 ?_
    refine s_ltR (fun v62 => ?_)
    refine s_iload_n hC 1 dX10_image_254 rfl ?_
    refine s_aload_n hC 0 dX10_image_255 rfl ?_
    refine s_getR hC xc10 (by decide) rfl qf_X10_153 dX10_image_256 ?_
    refine s_ltR (fun v63 => ?_)
    refine s_iload_n hC 1 dX10_image_259 rfl ?_
    refine s_iald hC dX10_image_260 ?_
    refine s_iast hC dX10_image_261 ?_
    refine s_ltM (fun μ64 => ?_)
    refine s_aload_n hC 0 dX10_image_262 rfl ?_
    refine s_getR hC xc10 (by decide) rfl qf_X10_223 dX10_image_263 ?_
    refine s_ltR (fun v65 => ?_)
    refine s_iload_n hC 1 dX10_image_266 rfl ?_
    refine s_aload_n hC 0 dX10_image_267 rfl ?_
    refine s_getR hC xc10 (by decide) rfl qf_X10_156 dX10_image_268 ?_
    refine s_ltR (fun v66 => ?_)
    refine s_iload_n hC 1 dX10_image_271 rfl ?_
    refine s_iald hC dX10_image_272 ?_
    refine s_iast hC dX10_image_273 ?_
    refine s_ltM (fun μ67 => ?_)
    refine s_iinc hC 1 dX10_image_274 rfl (w := 1) (by decide) (by decide) (lv' := [(1, vI (v54 + (1 : Int32))), (0, vR v53)]) rfl ?_
    refine s_goto hC dX10_image_277 (tgt := 220) (by decide) ?_
    refine s_lv (lv' := [(0, vR v53), (1, vI (v54 + (1 : Int32)))]) [1, 0] rfl ?_
    exact ih _ _ _
def f_X10_image (X : x_X) (v0 : Nat) (μ : x_M) : Option (Int32 × x_M) :=
  (ck (x_kd X v0 = 10 + 1 ∧ ((1 : Int32) = 0 ∨ (1 : Int32) = 1)) (lt (x_sI μ v0 49 (1 : Int32)) (fun (μ2 : x_M) => (ck (x_kd X v0 = 10 + 1) (ck (x_kd X v0 = 10 + 1) (lt (x_sI μ2 v0 50 (μ2.1 v0 12)) (fun (μ3 : x_M) => (ck (x_kd X v0 = 10 + 1) (ck (x_kd X v0 = 10 + 1) (lt (x_sI μ3 v0 51 (μ3.1 v0 0)) (fun (μ4 : x_M) => (ck (x_kd X v0 = 10 + 1) (ck (x_kd X v0 = 10 + 1) (lt (x_sI μ4 v0 52 (μ4.1 v0 1)) (fun (μ5 : x_M) => (ck (x_kd X v0 = 10 + 1) (ck (x_kd X v0 = 10 + 1) (lt (x_sI μ5 v0 53 (μ5.1 v0 2)) (fun (μ6 : x_M) => (ck (x_kd X v0 = 10 + 1) (ck (x_kd X v0 = 10 + 1) (lt (x_sI μ6 v0 54 (μ6.1 v0 3)) (fun (μ7 : x_M) => (ck (x_kd X v0 = 10 + 1) (ck (x_kd X v0 = 10 + 1) (lt (x_sI μ7 v0 55 (μ7.1 v0 40)) (fun (μ8 : x_M) => (ck (x_kd X v0 = 10 + 1) (ck (x_kd X v0 = 10 + 1) (lt (x_sI μ8 v0 56 (μ8.1 v0 43)) (fun (μ9 : x_M) => (ck (x_kd X v0 = 10 + 1) (ck (x_kd X v0 = 10 + 1) (lt (x_sI μ9 v0 57 (μ9.1 v0 44)) (fun (μ10 : x_M) => (f_X10_image_L71 X (fun (v32 : Nat) (μ33 : x_M) => (f_X10_image_L157 X (fun (v40 : Nat) (μ41 : x_M) => (f_X10_image_L183 X (fun (v51 : Nat) (μ52 : x_M) => (f_X10_image_L220 X 4096 v51 (0 : Int32) μ52)) 4096 v40 (0 : Int32) μ41)) 4096 v32 (0 : Int32) μ33)) 4096 v0 (0 : Int32) μ10))))))))))))))))))))))))))))))))))))
set_option maxRecDepth 100000 in
theorem m_X10_image (hI : x_I X) (v0 : Nat) (μ : x_M) : x_Met X x_Z0 l yX10_image cX10_image 2 (some .int) 1 [vR v0] μ rkI (f_X10_image X v0 μ) := by
  refine x_enter hI (by decide +kernel) (Nat.le_of_ble_eq_true rfl) (fun p e s m args below meth c hC hr hlk => ?_)
  unfold f_X10_image
  refine s_lv (lv' := [(0, vR v0)]) [0] rfl ?_
  refine s_aload_n hC 0 dX10_image_0 rfl ?_
  refine s_iconst hC dX10_image_1 (v := 1) (by decide) ?_
  refine s_putZ hC xc10 (by decide) rfl rfl qf_X10_159 dX10_image_2 ?_
  refine s_ltM (fun μ2 => ?_)
  refine s_aload_n hC 0 dX10_image_5 rfl ?_
  refine s_aload_n hC 0 dX10_image_6 rfl ?_
  refine s_getI hC xc10 (by decide) rfl qf_X10_47 dX10_image_7 ?_
  refine s_putI hC xc10 (by decide) rfl rfl qf_X10_163 dX10_image_10 ?_
  refine s_ltM (fun μ3 => ?_)
  refine s_aload_n hC 0 dX10_image_13 rfl ?_
  refine s_aload_n hC 0 dX10_image_14 rfl ?_
  refine s_getI hC xc10 (by decide) rfl qf_X10_7 dX10_image_15 ?_
  refine s_putI hC xc10 (by decide) rfl rfl qf_X10_166 dX10_image_18 ?_
  refine s_ltM (fun μ4 => ?_)
  refine s_aload_n hC 0 dX10_image_21 rfl ?_
  refine s_aload_n hC 0 dX10_image_22 rfl ?_
  refine s_getI hC xc10 (by decide) rfl qf_X10_13 dX10_image_23 ?_
  refine s_putI hC xc10 (by decide) rfl rfl qf_X10_169 dX10_image_26 ?_
  refine s_ltM (fun μ5 => ?_)
  refine s_aload_n hC 0 dX10_image_29 rfl ?_
  refine s_aload_n hC 0 dX10_image_30 rfl ?_
  refine s_getI hC xc10 (by decide) rfl qf_X10_16 dX10_image_31 ?_
  refine s_putI hC xc10 (by decide) rfl rfl qf_X10_172 dX10_image_34 ?_
  refine s_ltM (fun μ6 => ?_)
  refine s_aload_n hC 0 dX10_image_37 rfl ?_
  refine s_aload_n hC 0 dX10_image_38 rfl ?_
  refine s_getI hC xc10 (by decide) rfl qf_X10_19 dX10_image_39 ?_
  refine s_putI hC xc10 (by decide) rfl rfl qf_X10_175 dX10_image_42 ?_
  refine s_ltM (fun μ7 => ?_)
  refine s_aload_n hC 0 dX10_image_45 rfl ?_
  refine s_aload_n hC 0 dX10_image_46 rfl ?_
  refine s_getI hC xc10 (by decide) rfl qf_X10_132 dX10_image_47 ?_
  refine s_putI hC xc10 (by decide) rfl rfl qf_X10_178 dX10_image_50 ?_
  refine s_ltM (fun μ8 => ?_)
  refine s_aload_n hC 0 dX10_image_53 rfl ?_
  refine s_aload_n hC 0 dX10_image_54 rfl ?_
  refine s_getI hC xc10 (by decide) rfl qf_X10_141 dX10_image_55 ?_
  refine s_putI hC xc10 (by decide) rfl rfl qf_X10_181 dX10_image_58 ?_
  refine s_ltM (fun μ9 => ?_)
  refine s_aload_n hC 0 dX10_image_61 rfl ?_
  refine s_aload_n hC 0 dX10_image_62 rfl ?_
  refine s_getI hC xc10 (by decide) rfl qf_X10_144 dX10_image_63 ?_
  refine s_putI hC xc10 (by decide) rfl rfl qf_X10_184 dX10_image_66 ?_
  refine s_ltM (fun μ10 => ?_)
  refine s_iconst hC dX10_image_69 (v := 0) (by decide) ?_
  refine s_istore_n hC dX10_image_70 (by decide) (lv' := [(1, vI (0 : Int32)), (0, vR v0)]) rfl ?_
  refine s_lv (lv' := [(0, vR v0), (1, vI (0 : Int32))]) [1, 0] rfl ?_
  refine j_X10_image_L71 hI hC hr hlk (fun v32 μ33 => ?_) 4096 _ _ _
  refine s_iconst hC dX10_image_155 (v := 0) (by decide) ?_
  refine s_istore_n hC dX10_image_156 (by decide) (lv' := [(1, vI (0 : Int32)), (0, vR v32)]) rfl ?_
  refine s_lv (lv' := [(0, vR v32), (1, vI (0 : Int32))]) [1, 0] rfl ?_
  refine j_X10_image_L157 hI hC hr hlk (fun v40 μ41 => ?_) 4096 _ _ _
  refine s_iconst hC dX10_image_181 (v := 0) (by decide) ?_
  refine s_istore_n hC dX10_image_182 (by decide) (lv' := [(1, vI (0 : Int32)), (0, vR v40)]) rfl ?_
  refine s_lv (lv' := [(0, vR v40), (1, vI (0 : Int32))]) [1, 0] rfl ?_
  refine j_X10_image_L183 hI hC hr hlk (fun v51 μ52 => ?_) 4096 _ _ _
  refine s_iconst hC dX10_image_218 (v := 0) (by decide) ?_
  refine s_istore_n hC dX10_image_219 (by decide) (lv' := [(1, vI (0 : Int32)), (0, vR v51)]) rfl ?_
  refine s_lv (lv' := [(0, vR v51), (1, vI (0 : Int32))]) [1, 0] rfl ?_
  refine j_X10_image_L220 hI hC hr hlk 4096 _ _ _
theorem dX10_undo_0 : decode cX10_undo 0 = .ok (.aload_n 0, 1) := by decide +kernel
theorem dX10_undo_1 : decode cX10_undo 1 = .ok (.getfield 159, 3) := by decide +kernel
theorem dX10_undo_4 : decode cX10_undo 4 = .ok (.ifCond .ne 6, 3) := by decide +kernel
theorem dX10_undo_7 : decode cX10_undo 7 = .ok (.bipush (-3), 2) := by decide +kernel
theorem dX10_undo_9 : decode cX10_undo 9 = .ok (.ireturn, 1) := by decide +kernel
theorem dX10_undo_10 : decode cX10_undo 10 = .ok (.aload_n 0, 1) := by decide +kernel
theorem dX10_undo_11 : decode cX10_undo 11 = .ok (.aload_n 0, 1) := by decide +kernel
theorem dX10_undo_12 : decode cX10_undo 12 = .ok (.getfield 163, 3) := by decide +kernel
theorem dX10_undo_15 : decode cX10_undo 15 = .ok (.putfield 47, 3) := by decide +kernel
theorem dX10_undo_18 : decode cX10_undo 18 = .ok (.aload_n 0, 1) := by decide +kernel
theorem dX10_undo_19 : decode cX10_undo 19 = .ok (.aload_n 0, 1) := by decide +kernel
theorem dX10_undo_20 : decode cX10_undo 20 = .ok (.getfield 166, 3) := by decide +kernel
theorem dX10_undo_23 : decode cX10_undo 23 = .ok (.putfield 7, 3) := by decide +kernel
theorem dX10_undo_26 : decode cX10_undo 26 = .ok (.aload_n 0, 1) := by decide +kernel
theorem dX10_undo_27 : decode cX10_undo 27 = .ok (.aload_n 0, 1) := by decide +kernel
theorem dX10_undo_28 : decode cX10_undo 28 = .ok (.getfield 169, 3) := by decide +kernel
theorem dX10_undo_31 : decode cX10_undo 31 = .ok (.putfield 13, 3) := by decide +kernel
theorem dX10_undo_34 : decode cX10_undo 34 = .ok (.aload_n 0, 1) := by decide +kernel
theorem dX10_undo_35 : decode cX10_undo 35 = .ok (.aload_n 0, 1) := by decide +kernel
theorem dX10_undo_36 : decode cX10_undo 36 = .ok (.getfield 172, 3) := by decide +kernel
theorem dX10_undo_39 : decode cX10_undo 39 = .ok (.putfield 16, 3) := by decide +kernel
theorem dX10_undo_42 : decode cX10_undo 42 = .ok (.aload_n 0, 1) := by decide +kernel
theorem dX10_undo_43 : decode cX10_undo 43 = .ok (.aload_n 0, 1) := by decide +kernel
theorem dX10_undo_44 : decode cX10_undo 44 = .ok (.getfield 175, 3) := by decide +kernel
theorem dX10_undo_47 : decode cX10_undo 47 = .ok (.putfield 19, 3) := by decide +kernel
theorem dX10_undo_50 : decode cX10_undo 50 = .ok (.aload_n 0, 1) := by decide +kernel
theorem dX10_undo_51 : decode cX10_undo 51 = .ok (.aload_n 0, 1) := by decide +kernel
theorem dX10_undo_52 : decode cX10_undo 52 = .ok (.getfield 178, 3) := by decide +kernel
theorem dX10_undo_55 : decode cX10_undo 55 = .ok (.putfield 132, 3) := by decide +kernel
theorem dX10_undo_58 : decode cX10_undo 58 = .ok (.aload_n 0, 1) := by decide +kernel
theorem dX10_undo_59 : decode cX10_undo 59 = .ok (.aload_n 0, 1) := by decide +kernel
theorem dX10_undo_60 : decode cX10_undo 60 = .ok (.getfield 181, 3) := by decide +kernel
theorem dX10_undo_63 : decode cX10_undo 63 = .ok (.putfield 141, 3) := by decide +kernel
theorem dX10_undo_66 : decode cX10_undo 66 = .ok (.aload_n 0, 1) := by decide +kernel
theorem dX10_undo_67 : decode cX10_undo 67 = .ok (.aload_n 0, 1) := by decide +kernel
theorem dX10_undo_68 : decode cX10_undo 68 = .ok (.getfield 184, 3) := by decide +kernel
theorem dX10_undo_71 : decode cX10_undo 71 = .ok (.putfield 144, 3) := by decide +kernel
theorem dX10_undo_74 : decode cX10_undo 74 = .ok (.iconst 0, 1) := by decide +kernel
theorem dX10_undo_75 : decode cX10_undo 75 = .ok (.istore_n 1, 1) := by decide +kernel
theorem dX10_undo_76 : decode cX10_undo 76 = .ok (.iload_n 1, 1) := by decide +kernel
theorem dX10_undo_77 : decode cX10_undo 77 = .ok (.bipush 6, 2) := by decide +kernel
theorem dX10_undo_79 : decode cX10_undo 79 = .ok (.if_icmp .ge 81, 3) := by decide +kernel
theorem dX10_undo_82 : decode cX10_undo 82 = .ok (.aload_n 0, 1) := by decide +kernel
theorem dX10_undo_83 : decode cX10_undo 83 = .ok (.getfield 22, 3) := by decide +kernel
theorem dX10_undo_86 : decode cX10_undo 86 = .ok (.iload_n 1, 1) := by decide +kernel
theorem dX10_undo_87 : decode cX10_undo 87 = .ok (.aload_n 0, 1) := by decide +kernel
theorem dX10_undo_88 : decode cX10_undo 88 = .ok (.getfield 187, 3) := by decide +kernel
theorem dX10_undo_91 : decode cX10_undo 91 = .ok (.iload_n 1, 1) := by decide +kernel
theorem dX10_undo_92 : decode cX10_undo 92 = .ok (.iaload, 1) := by decide +kernel
theorem dX10_undo_93 : decode cX10_undo 93 = .ok (.iastore, 1) := by decide +kernel
theorem dX10_undo_94 : decode cX10_undo 94 = .ok (.aload_n 0, 1) := by decide +kernel
theorem dX10_undo_95 : decode cX10_undo 95 = .ok (.getfield 26, 3) := by decide +kernel
theorem dX10_undo_98 : decode cX10_undo 98 = .ok (.iload_n 1, 1) := by decide +kernel
theorem dX10_undo_99 : decode cX10_undo 99 = .ok (.aload_n 0, 1) := by decide +kernel
theorem dX10_undo_100 : decode cX10_undo 100 = .ok (.getfield 190, 3) := by decide +kernel
theorem dX10_undo_103 : decode cX10_undo 103 = .ok (.iload_n 1, 1) := by decide +kernel
theorem dX10_undo_104 : decode cX10_undo 104 = .ok (.iaload, 1) := by decide +kernel
theorem dX10_undo_105 : decode cX10_undo 105 = .ok (.iastore, 1) := by decide +kernel
theorem dX10_undo_106 : decode cX10_undo 106 = .ok (.aload_n 0, 1) := by decide +kernel
theorem dX10_undo_107 : decode cX10_undo 107 = .ok (.getfield 29, 3) := by decide +kernel
theorem dX10_undo_110 : decode cX10_undo 110 = .ok (.iload_n 1, 1) := by decide +kernel
theorem dX10_undo_111 : decode cX10_undo 111 = .ok (.aload_n 0, 1) := by decide +kernel
theorem dX10_undo_112 : decode cX10_undo 112 = .ok (.getfield 193, 3) := by decide +kernel
theorem dX10_undo_115 : decode cX10_undo 115 = .ok (.iload_n 1, 1) := by decide +kernel
theorem dX10_undo_116 : decode cX10_undo 116 = .ok (.iaload, 1) := by decide +kernel
theorem dX10_undo_117 : decode cX10_undo 117 = .ok (.iastore, 1) := by decide +kernel
theorem dX10_undo_118 : decode cX10_undo 118 = .ok (.aload_n 0, 1) := by decide +kernel
theorem dX10_undo_119 : decode cX10_undo 119 = .ok (.getfield 32, 3) := by decide +kernel
theorem dX10_undo_122 : decode cX10_undo 122 = .ok (.iload_n 1, 1) := by decide +kernel
theorem dX10_undo_123 : decode cX10_undo 123 = .ok (.aload_n 0, 1) := by decide +kernel
theorem dX10_undo_124 : decode cX10_undo 124 = .ok (.getfield 196, 3) := by decide +kernel
theorem dX10_undo_127 : decode cX10_undo 127 = .ok (.iload_n 1, 1) := by decide +kernel
theorem dX10_undo_128 : decode cX10_undo 128 = .ok (.iaload, 1) := by decide +kernel
theorem dX10_undo_129 : decode cX10_undo 129 = .ok (.iastore, 1) := by decide +kernel
theorem dX10_undo_130 : decode cX10_undo 130 = .ok (.aload_n 0, 1) := by decide +kernel
theorem dX10_undo_131 : decode cX10_undo 131 = .ok (.getfield 35, 3) := by decide +kernel
theorem dX10_undo_134 : decode cX10_undo 134 = .ok (.iload_n 1, 1) := by decide +kernel
theorem dX10_undo_135 : decode cX10_undo 135 = .ok (.aload_n 0, 1) := by decide +kernel
theorem dX10_undo_136 : decode cX10_undo 136 = .ok (.getfield 199, 3) := by decide +kernel
theorem dX10_undo_139 : decode cX10_undo 139 = .ok (.iload_n 1, 1) := by decide +kernel
theorem dX10_undo_140 : decode cX10_undo 140 = .ok (.iaload, 1) := by decide +kernel
theorem dX10_undo_141 : decode cX10_undo 141 = .ok (.iastore, 1) := by decide +kernel
theorem dX10_undo_142 : decode cX10_undo 142 = .ok (.aload_n 0, 1) := by decide +kernel
theorem dX10_undo_143 : decode cX10_undo 143 = .ok (.getfield 38, 3) := by decide +kernel
theorem dX10_undo_146 : decode cX10_undo 146 = .ok (.iload_n 1, 1) := by decide +kernel
theorem dX10_undo_147 : decode cX10_undo 147 = .ok (.aload_n 0, 1) := by decide +kernel
theorem dX10_undo_148 : decode cX10_undo 148 = .ok (.getfield 202, 3) := by decide +kernel
theorem dX10_undo_151 : decode cX10_undo 151 = .ok (.iload_n 1, 1) := by decide +kernel
theorem dX10_undo_152 : decode cX10_undo 152 = .ok (.iaload, 1) := by decide +kernel
theorem dX10_undo_153 : decode cX10_undo 153 = .ok (.iastore, 1) := by decide +kernel
theorem dX10_undo_154 : decode cX10_undo 154 = .ok (.iinc 1 1, 3) := by decide +kernel
theorem dX10_undo_157 : decode cX10_undo 157 = .ok (.goto (-81), 3) := by decide +kernel
theorem dX10_undo_160 : decode cX10_undo 160 = .ok (.iconst 0, 1) := by decide +kernel
theorem dX10_undo_161 : decode cX10_undo 161 = .ok (.istore_n 1, 1) := by decide +kernel
theorem dX10_undo_162 : decode cX10_undo 162 = .ok (.iload_n 1, 1) := by decide +kernel
theorem dX10_undo_163 : decode cX10_undo 163 = .ok (.bipush 24, 2) := by decide +kernel
theorem dX10_undo_165 : decode cX10_undo 165 = .ok (.if_icmp .ge 21, 3) := by decide +kernel
theorem dX10_undo_168 : decode cX10_undo 168 = .ok (.aload_n 0, 1) := by decide +kernel
theorem dX10_undo_169 : decode cX10_undo 169 = .ok (.getfield 41, 3) := by decide +kernel
theorem dX10_undo_172 : decode cX10_undo 172 = .ok (.iload_n 1, 1) := by decide +kernel
theorem dX10_undo_173 : decode cX10_undo 173 = .ok (.aload_n 0, 1) := by decide +kernel
theorem dX10_undo_174 : decode cX10_undo 174 = .ok (.getfield 205, 3) := by decide +kernel
theorem dX10_undo_177 : decode cX10_undo 177 = .ok (.iload_n 1, 1) := by decide +kernel
theorem dX10_undo_178 : decode cX10_undo 178 = .ok (.iaload, 1) := by decide +kernel
theorem dX10_undo_179 : decode cX10_undo 179 = .ok (.iastore, 1) := by decide +kernel
theorem dX10_undo_180 : decode cX10_undo 180 = .ok (.iinc 1 1, 3) := by decide +kernel
theorem dX10_undo_183 : decode cX10_undo 183 = .ok (.goto (-21), 3) := by decide +kernel
theorem dX10_undo_186 : decode cX10_undo 186 = .ok (.iconst 0, 1) := by decide +kernel
theorem dX10_undo_187 : decode cX10_undo 187 = .ok (.istore_n 1, 1) := by decide +kernel
theorem dX10_undo_188 : decode cX10_undo 188 = .ok (.iload_n 1, 1) := by decide +kernel
theorem dX10_undo_189 : decode cX10_undo 189 = .ok (.iconst 4, 1) := by decide +kernel
theorem dX10_undo_190 : decode cX10_undo 190 = .ok (.if_icmp .ge 33, 3) := by decide +kernel
theorem dX10_undo_193 : decode cX10_undo 193 = .ok (.aload_n 0, 1) := by decide +kernel
theorem dX10_undo_194 : decode cX10_undo 194 = .ok (.getfield 135, 3) := by decide +kernel
theorem dX10_undo_197 : decode cX10_undo 197 = .ok (.iload_n 1, 1) := by decide +kernel
theorem dX10_undo_198 : decode cX10_undo 198 = .ok (.aload_n 0, 1) := by decide +kernel
theorem dX10_undo_199 : decode cX10_undo 199 = .ok (.getfield 208, 3) := by decide +kernel
theorem dX10_undo_202 : decode cX10_undo 202 = .ok (.iload_n 1, 1) := by decide +kernel
theorem dX10_undo_203 : decode cX10_undo 203 = .ok (.iaload, 1) := by decide +kernel
theorem dX10_undo_204 : decode cX10_undo 204 = .ok (.iastore, 1) := by decide +kernel
theorem dX10_undo_205 : decode cX10_undo 205 = .ok (.aload_n 0, 1) := by decide +kernel
theorem dX10_undo_206 : decode cX10_undo 206 = .ok (.getfield 138, 3) := by decide +kernel
theorem dX10_undo_209 : decode cX10_undo 209 = .ok (.iload_n 1, 1) := by decide +kernel
theorem dX10_undo_210 : decode cX10_undo 210 = .ok (.aload_n 0, 1) := by decide +kernel
theorem dX10_undo_211 : decode cX10_undo 211 = .ok (.getfield 211, 3) := by decide +kernel
theorem dX10_undo_214 : decode cX10_undo 214 = .ok (.iload_n 1, 1) := by decide +kernel
theorem dX10_undo_215 : decode cX10_undo 215 = .ok (.iaload, 1) := by decide +kernel
theorem dX10_undo_216 : decode cX10_undo 216 = .ok (.iastore, 1) := by decide +kernel
theorem dX10_undo_217 : decode cX10_undo 217 = .ok (.iinc 1 1, 3) := by decide +kernel
theorem dX10_undo_220 : decode cX10_undo 220 = .ok (.goto (-32), 3) := by decide +kernel
theorem dX10_undo_223 : decode cX10_undo 223 = .ok (.iconst 0, 1) := by decide +kernel
theorem dX10_undo_224 : decode cX10_undo 224 = .ok (.istore_n 1, 1) := by decide +kernel
theorem dX10_undo_225 : decode cX10_undo 225 = .ok (.iload_n 1, 1) := by decide +kernel
theorem dX10_undo_226 : decode cX10_undo 226 = .ok (.bipush 8, 2) := by decide +kernel
theorem dX10_undo_228 : decode cX10_undo 228 = .ok (.if_icmp .ge 57, 3) := by decide +kernel
theorem dX10_undo_231 : decode cX10_undo 231 = .ok (.aload_n 0, 1) := by decide +kernel
theorem dX10_undo_232 : decode cX10_undo 232 = .ok (.getfield 147, 3) := by decide +kernel
theorem dX10_undo_235 : decode cX10_undo 235 = .ok (.iload_n 1, 1) := by decide +kernel
theorem dX10_undo_236 : decode cX10_undo 236 = .ok (.aload_n 0, 1) := by decide +kernel
theorem dX10_undo_237 : decode cX10_undo 237 = .ok (.getfield 214, 3) := by decide +kernel
theorem dX10_undo_240 : decode cX10_undo 240 = .ok (.iload_n 1, 1) := by decide +kernel
theorem dX10_undo_241 : decode cX10_undo 241 = .ok (.iaload, 1) := by decide +kernel
theorem dX10_undo_242 : decode cX10_undo 242 = .ok (.iastore, 1) := by decide +kernel
theorem dX10_undo_243 : decode cX10_undo 243 = .ok (.aload_n 0, 1) := by decide +kernel
theorem dX10_undo_244 : decode cX10_undo 244 = .ok (.getfield 150, 3) := by decide +kernel
theorem dX10_undo_247 : decode cX10_undo 247 = .ok (.iload_n 1, 1) := by decide +kernel
theorem dX10_undo_248 : decode cX10_undo 248 = .ok (.aload_n 0, 1) := by decide +kernel
theorem dX10_undo_249 : decode cX10_undo 249 = .ok (.getfield 217, 3) := by decide +kernel
theorem dX10_undo_252 : decode cX10_undo 252 = .ok (.iload_n 1, 1) := by decide +kernel
theorem dX10_undo_253 : decode cX10_undo 253 = .ok (.iaload, 1) := by decide +kernel
theorem dX10_undo_254 : decode cX10_undo 254 = .ok (.iastore, 1) := by decide +kernel
theorem dX10_undo_255 : decode cX10_undo 255 = .ok (.aload_n 0, 1) := by decide +kernel
theorem dX10_undo_256 : decode cX10_undo 256 = .ok (.getfield 153, 3) := by decide +kernel
theorem dX10_undo_259 : decode cX10_undo 259 = .ok (.iload_n 1, 1) := by decide +kernel
theorem dX10_undo_260 : decode cX10_undo 260 = .ok (.aload_n 0, 1) := by decide +kernel
theorem dX10_undo_261 : decode cX10_undo 261 = .ok (.getfield 220, 3) := by decide +kernel
theorem dX10_undo_264 : decode cX10_undo 264 = .ok (.iload_n 1, 1) := by decide +kernel
theorem dX10_undo_265 : decode cX10_undo 265 = .ok (.iaload, 1) := by decide +kernel
theorem dX10_undo_266 : decode cX10_undo 266 = .ok (.iastore, 1) := by decide +kernel
theorem dX10_undo_267 : decode cX10_undo 267 = .ok (.aload_n 0, 1) := by decide +kernel
theorem dX10_undo_268 : decode cX10_undo 268 = .ok (.getfield 156, 3) := by decide +kernel
theorem dX10_undo_271 : decode cX10_undo 271 = .ok (.iload_n 1, 1) := by decide +kernel
theorem dX10_undo_272 : decode cX10_undo 272 = .ok (.aload_n 0, 1) := by decide +kernel
theorem dX10_undo_273 : decode cX10_undo 273 = .ok (.getfield 223, 3) := by decide +kernel
theorem dX10_undo_276 : decode cX10_undo 276 = .ok (.iload_n 1, 1) := by decide +kernel
theorem dX10_undo_277 : decode cX10_undo 277 = .ok (.iaload, 1) := by decide +kernel
theorem dX10_undo_278 : decode cX10_undo 278 = .ok (.iastore, 1) := by decide +kernel
theorem dX10_undo_279 : decode cX10_undo 279 = .ok (.iinc 1 1, 3) := by decide +kernel
theorem dX10_undo_282 : decode cX10_undo 282 = .ok (.goto (-57), 3) := by decide +kernel
theorem dX10_undo_285 : decode cX10_undo 285 = .ok (.aload_n 0, 1) := by decide +kernel
theorem dX10_undo_286 : decode cX10_undo 286 = .ok (.getfield 7, 3) := by decide +kernel
theorem dX10_undo_289 : decode cX10_undo 289 = .ok (.ireturn, 1) := by decide +kernel
def f_X10_undo_L76 (X : x_X) (k160 : Nat → x_M → Option (Int32 × x_M)) : Nat → Nat → Int32 → x_M → Option (Int32 × x_M)
  | 0, _, _, _ => none
  | n + 1, v10, v11, μ12 =>
    (if (6 : Int32) ≤ v11 then (k160 v10 μ12) else (ck (x_kd X v10 = 10 + 1) (lt (μ12.2.1 v10 4) (fun (v13 : Nat) => (ck (x_kd X v10 = 10 + 1) (lt (μ12.2.1 v10 58) (fun (v14 : Nat) => (ck ((x_kd X v14 = 20 ∨ x_kd X v14 = 40) ∧ x_ix v11 (x_ln X v14)) (ck (x_kd X v13 = 20 ∧ x_ix v11 (x_ln X v13)) (lt (x_sI μ12 v13 (v11).toNatClampNeg (μ12.1 v14 (v11).toNatClampNeg)) (fun (μ15 : x_M) => (ck (x_kd X v10 = 10 + 1) (lt (μ15.2.1 v10 5) (fun (v16 : Nat) => (ck (x_kd X v10 = 10 + 1) (lt (μ15.2.1 v10 59) (fun (v17 : Nat) => (ck ((x_kd X v17 = 20 ∨ x_kd X v17 = 40) ∧ x_ix v11 (x_ln X v17)) (ck (x_kd X v16 = 20 ∧ x_ix v11 (x_ln X v16)) (lt (x_sI μ15 v16 (v11).toNatClampNeg (μ15.1 v17 (v11).toNatClampNeg)) (fun (μ18 : x_M) => (ck (x_kd X v10 = 10 + 1) (lt (μ18.2.1 v10 6) (fun (v19 : Nat) => (ck (x_kd X v10 = 10 + 1) (lt (μ18.2.1 v10 60) (fun (v20 : Nat) => (ck ((x_kd X v20 = 20 ∨ x_kd X v20 = 40) ∧ x_ix v11 (x_ln X v20)) (ck (x_kd X v19 = 20 ∧ x_ix v11 (x_ln X v19)) (lt (x_sI μ18 v19 (v11).toNatClampNeg (μ18.1 v20 (v11).toNatClampNeg)) (fun (μ21 : x_M) => (ck (x_kd X v10 = 10 + 1) (lt (μ21.2.1 v10 7) (fun (v22 : Nat) => (ck (x_kd X v10 = 10 + 1) (lt (μ21.2.1 v10 61) (fun (v23 : Nat) => (ck ((x_kd X v23 = 20 ∨ x_kd X v23 = 40) ∧ x_ix v11 (x_ln X v23)) (ck (x_kd X v22 = 20 ∧ x_ix v11 (x_ln X v22)) (lt (x_sI μ21 v22 (v11).toNatClampNeg (μ21.1 v23 (v11).toNatClampNeg)) (fun (μ24 : x_M) => (ck (x_kd X v10 = 10 + 1) (lt (μ24.2.1 v10 8) (fun (v25 : Nat) => (ck (x_kd X v10 = 10 + 1) (lt (μ24.2.1 v10 62) (fun (v26 : Nat) => (ck ((x_kd X v26 = 20 ∨ x_kd X v26 = 40) ∧ x_ix v11 (x_ln X v26)) (ck (x_kd X v25 = 20 ∧ x_ix v11 (x_ln X v25)) (lt (x_sI μ24 v25 (v11).toNatClampNeg (μ24.1 v26 (v11).toNatClampNeg)) (fun (μ27 : x_M) => (ck (x_kd X v10 = 10 + 1) (lt (μ27.2.1 v10 9) (fun (v28 : Nat) => (ck (x_kd X v10 = 10 + 1) (lt (μ27.2.1 v10 63) (fun (v29 : Nat) => (ck ((x_kd X v29 = 20 ∨ x_kd X v29 = 40) ∧ x_ix v11 (x_ln X v29)) (ck (x_kd X v28 = 20 ∧ x_ix v11 (x_ln X v28)) (lt (x_sI μ27 v28 (v11).toNatClampNeg (μ27.1 v29 (v11).toNatClampNeg)) (fun (μ30 : x_M) => (f_X10_undo_L76 X k160 n v10 (v11 + (1 : Int32)) μ30))))))))))))))))))))))))))))))))))))))))))))))))))))))))))))))
set_option maxRecDepth 100000 in
theorem j_X10_undo_L76 (hI : x_I X) (hC : x_C X x_Z0 p (x_rm 1) s m c cX10_undo RX10 2 0 0 1) (hr : meth.sig.returnType = (some .int)) (hlk : meth.locks = false) {k160 : Nat → x_M → Option (Int32 × x_M)} (hk160 : ∀ (b0 : Nat) (μ : x_M), SM X 2 1 rkI p l e s m args below meth c 160 [(0, vR b0)] [] μ (k160 b0 μ)) : ∀ (n : Nat) (v10 : Nat) (v11 : Int32) (μ12 : x_M), SM X 2 1 rkI p l e s m args below meth c 76 [(0, vR v10), (1, vI v11)] [] μ12 (f_X10_undo_L76 X k160 n v10 v11 μ12) := by
  intro n
  induction n with
  | zero => intro v10 v11 μ12; exact s_none
  | succ n ih =>
    intro v10 v11 μ12
    unfold f_X10_undo_L76
    refine s_iload_n hC 1 dX10_undo_76 rfl ?_
    refine s_bipush hC dX10_undo_77 (v := 6) (by decide) ?_
    refine s_icmp_ge hC dX10_undo_79 (tgt := 160) (by decide) ?_ ?_
    · refine s_lv (lv' := [(0, vR v10)]) [0] rfl ?_
      exact hk160 _ _
    refine s_aload_n hC 0 dX10_undo_82 rfl ?_
    refine s_getR hC xc10 (by decide) rfl qf_X10_22 dX10_undo_83 ?_
    refine s_ltR (fun v13 => ?_)
    refine s_iload_n hC 1 dX10_undo_86 rfl ?_
    refine s_aload_n hC 0 dX10_undo_87 rfl ?_
    refine s_getR hC xc10 (by decide) rfl qf_X10_187 dX10_undo_88 ?_
    refine s_ltR (fun v14 => ?_)
    refine s_iload_n hC 1 dX10_undo_91 rfl ?_
    refine s_iald hC dX10_undo_92 ?_
    refine s_iast hC dX10_undo_93 ?_
    refine s_ltM (fun μ15 => ?_)
    refine s_aload_n hC 0 dX10_undo_94 rfl ?_
    refine s_getR hC xc10 (by decide) rfl qf_X10_26 dX10_undo_95 ?_
    refine s_ltR (fun v16 => ?_)
    refine s_iload_n hC 1 dX10_undo_98 rfl ?_
    refine s_aload_n hC 0 dX10_undo_99 rfl ?_
    refine s_getR hC xc10 (by decide) rfl qf_X10_190 dX10_undo_100 ?_
    refine s_ltR (fun v17 => ?_)
    refine s_iload_n hC 1 dX10_undo_103 rfl ?_
    refine s_iald hC dX10_undo_104 ?_
    refine s_iast hC dX10_undo_105 ?_
    refine s_ltM (fun μ18 => ?_)
    refine s_aload_n hC 0 dX10_undo_106 rfl ?_
    refine s_getR hC xc10 (by decide) rfl qf_X10_29 dX10_undo_107 ?_
    refine s_ltR (fun v19 => ?_)
    refine s_iload_n hC 1 dX10_undo_110 rfl ?_
    refine s_aload_n hC 0 dX10_undo_111 rfl ?_
    refine s_getR hC xc10 (by decide) rfl qf_X10_193 dX10_undo_112 ?_
    refine s_ltR (fun v20 => ?_)
    refine s_iload_n hC 1 dX10_undo_115 rfl ?_
    refine s_iald hC dX10_undo_116 ?_
    refine s_iast hC dX10_undo_117 ?_
    refine s_ltM (fun μ21 => ?_)
    refine s_aload_n hC 0 dX10_undo_118 rfl ?_
    refine s_getR hC xc10 (by decide) rfl qf_X10_32 dX10_undo_119 ?_
    refine s_ltR (fun v22 => ?_)
    refine s_iload_n hC 1 dX10_undo_122 rfl ?_
    refine s_aload_n hC 0 dX10_undo_123 rfl ?_
    refine s_getR hC xc10 (by decide) rfl qf_X10_196 dX10_undo_124 ?_
    refine s_ltR (fun v23 => ?_)
    refine s_iload_n hC 1 dX10_undo_127 rfl ?_
    refine s_iald hC dX10_undo_128 ?_
    refine s_iast hC dX10_undo_129 ?_
    refine s_ltM (fun μ24 => ?_)
    refine s_aload_n hC 0 dX10_undo_130 rfl ?_
    refine s_getR hC xc10 (by decide) rfl qf_X10_35 dX10_undo_131 ?_
    refine s_ltR (fun v25 => ?_)
    refine s_iload_n hC 1 dX10_undo_134 rfl ?_
    refine s_aload_n hC 0 dX10_undo_135 rfl ?_
    refine s_getR hC xc10 (by decide) rfl qf_X10_199 dX10_undo_136 ?_
    refine s_ltR (fun v26 => ?_)
    refine s_iload_n hC 1 dX10_undo_139 rfl ?_
    refine s_iald hC dX10_undo_140 ?_
    refine s_iast hC dX10_undo_141 ?_
    refine s_ltM (fun μ27 => ?_)
    refine s_aload_n hC 0 dX10_undo_142 rfl ?_
    refine s_getR hC xc10 (by decide) rfl qf_X10_38 dX10_undo_143 ?_
    refine s_ltR (fun v28 => ?_)
    refine s_iload_n hC 1 dX10_undo_146 rfl ?_
    refine s_aload_n hC 0 dX10_undo_147 rfl ?_
    refine s_getR hC xc10 (by decide) rfl qf_X10_202 dX10_undo_148 ?_
    refine s_ltR (fun v29 => ?_)
    refine s_iload_n hC 1 dX10_undo_151 rfl ?_
    refine s_iald hC dX10_undo_152 ?_
    refine s_iast hC dX10_undo_153 ?_
    refine s_ltM (fun μ30 => ?_)
    refine s_iinc hC 1 dX10_undo_154 rfl (w := 1) (by decide) (by decide) (lv' := [(1, vI (v11 + (1 : Int32))), (0, vR v10)]) rfl ?_
    refine s_goto hC dX10_undo_157 (tgt := 76) (by decide) ?_
    refine s_lv (lv' := [(0, vR v10), (1, vI (v11 + (1 : Int32)))]) [1, 0] rfl ?_
    exact ih _ _ _
def f_X10_undo_L162 (X : x_X) (k186 : Nat → x_M → Option (Int32 × x_M)) : Nat → Nat → Int32 → x_M → Option (Int32 × x_M)
  | 0, _, _, _ => none
  | n + 1, v33, v34, μ35 =>
    (if (24 : Int32) ≤ v34 then (k186 v33 μ35) else (ck (x_kd X v33 = 10 + 1) (lt (μ35.2.1 v33 10) (fun (v36 : Nat) => (ck (x_kd X v33 = 10 + 1) (lt (μ35.2.1 v33 64) (fun (v37 : Nat) => (ck ((x_kd X v37 = 20 ∨ x_kd X v37 = 40) ∧ x_ix v34 (x_ln X v37)) (ck (x_kd X v36 = 20 ∧ x_ix v34 (x_ln X v36)) (lt (x_sI μ35 v36 (v34).toNatClampNeg (μ35.1 v37 (v34).toNatClampNeg)) (fun (μ38 : x_M) => (f_X10_undo_L162 X k186 n v33 (v34 + (1 : Int32)) μ38))))))))))))
set_option maxRecDepth 100000 in
theorem j_X10_undo_L162 (hI : x_I X) (hC : x_C X x_Z0 p (x_rm 1) s m c cX10_undo RX10 2 0 0 1) (hr : meth.sig.returnType = (some .int)) (hlk : meth.locks = false) {k186 : Nat → x_M → Option (Int32 × x_M)} (hk186 : ∀ (b0 : Nat) (μ : x_M), SM X 2 1 rkI p l e s m args below meth c 186 [(0, vR b0)] [] μ (k186 b0 μ)) : ∀ (n : Nat) (v33 : Nat) (v34 : Int32) (μ35 : x_M), SM X 2 1 rkI p l e s m args below meth c 162 [(0, vR v33), (1, vI v34)] [] μ35 (f_X10_undo_L162 X k186 n v33 v34 μ35) := by
  intro n
  induction n with
  | zero => intro v33 v34 μ35; exact s_none
  | succ n ih =>
    intro v33 v34 μ35
    unfold f_X10_undo_L162
    refine s_iload_n hC 1 dX10_undo_162 rfl ?_
    refine s_bipush hC dX10_undo_163 (v := 24) (by decide) ?_
    refine s_icmp_ge hC dX10_undo_165 (tgt := 186) (by decide) ?_ ?_
    · refine s_lv (lv' := [(0, vR v33)]) [0] rfl ?_
      exact hk186 _ _
    refine s_aload_n hC 0 dX10_undo_168 rfl ?_
    refine s_getR hC xc10 (by decide) rfl qf_X10_41 dX10_undo_169 ?_
    refine s_ltR (fun v36 => ?_)
    refine s_iload_n hC 1 dX10_undo_172 rfl ?_
    refine s_aload_n hC 0 dX10_undo_173 rfl ?_
    refine s_getR hC xc10 (by decide) rfl qf_X10_205 dX10_undo_174 ?_
    refine s_ltR (fun v37 => ?_)
    refine s_iload_n hC 1 dX10_undo_177 rfl ?_
    refine s_iald hC dX10_undo_178 ?_
    refine s_iast hC dX10_undo_179 ?_
    refine s_ltM (fun μ38 => ?_)
    refine s_iinc hC 1 dX10_undo_180 rfl (w := 1) (by decide) (by decide) (lv' := [(1, vI (v34 + (1 : Int32))), (0, vR v33)]) rfl ?_
    refine s_goto hC dX10_undo_183 (tgt := 162) (by decide) ?_
    refine s_lv (lv' := [(0, vR v33), (1, vI (v34 + (1 : Int32)))]) [1, 0] rfl ?_
    exact ih _ _ _
def f_X10_undo_L188 (X : x_X) (k223 : Nat → x_M → Option (Int32 × x_M)) : Nat → Nat → Int32 → x_M → Option (Int32 × x_M)
  | 0, _, _, _ => none
  | n + 1, v41, v42, μ43 =>
    (if (4 : Int32) ≤ v42 then (k223 v41 μ43) else (ck (x_kd X v41 = 10 + 1) (lt (μ43.2.1 v41 41) (fun (v44 : Nat) => (ck (x_kd X v41 = 10 + 1) (lt (μ43.2.1 v41 65) (fun (v45 : Nat) => (ck ((x_kd X v45 = 20 ∨ x_kd X v45 = 40) ∧ x_ix v42 (x_ln X v45)) (ck (x_kd X v44 = 20 ∧ x_ix v42 (x_ln X v44)) (lt (x_sI μ43 v44 (v42).toNatClampNeg (μ43.1 v45 (v42).toNatClampNeg)) (fun (μ46 : x_M) => (ck (x_kd X v41 = 10 + 1) (lt (μ46.2.1 v41 42) (fun (v47 : Nat) => (ck (x_kd X v41 = 10 + 1) (lt (μ46.2.1 v41 66) (fun (v48 : Nat) => (ck ((x_kd X v48 = 20 ∨ x_kd X v48 = 40) ∧ x_ix v42 (x_ln X v48)) (ck (x_kd X v47 = 20 ∧ x_ix v42 (x_ln X v47)) (lt (x_sI μ46 v47 (v42).toNatClampNeg (μ46.1 v48 (v42).toNatClampNeg)) (fun (μ49 : x_M) => (f_X10_undo_L188 X k223 n v41 (v42 + (1 : Int32)) μ49))))))))))))))))))))))
set_option maxRecDepth 100000 in
theorem j_X10_undo_L188 (hI : x_I X) (hC : x_C X x_Z0 p (x_rm 1) s m c cX10_undo RX10 2 0 0 1) (hr : meth.sig.returnType = (some .int)) (hlk : meth.locks = false) {k223 : Nat → x_M → Option (Int32 × x_M)} (hk223 : ∀ (b0 : Nat) (μ : x_M), SM X 2 1 rkI p l e s m args below meth c 223 [(0, vR b0)] [] μ (k223 b0 μ)) : ∀ (n : Nat) (v41 : Nat) (v42 : Int32) (μ43 : x_M), SM X 2 1 rkI p l e s m args below meth c 188 [(0, vR v41), (1, vI v42)] [] μ43 (f_X10_undo_L188 X k223 n v41 v42 μ43) := by
  intro n
  induction n with
  | zero => intro v41 v42 μ43; exact s_none
  | succ n ih =>
    intro v41 v42 μ43
    unfold f_X10_undo_L188
    refine s_iload_n hC 1 dX10_undo_188 rfl ?_
    refine s_iconst hC dX10_undo_189 (v := 4) (by decide) ?_
    refine s_icmp_ge hC dX10_undo_190 (tgt := 223) (by decide) ?_ ?_
    · refine s_lv (lv' := [(0, vR v41)]) [0] rfl ?_
      exact hk223 _ _
    refine s_aload_n hC 0 dX10_undo_193 rfl ?_
    refine s_getR hC xc10 (by decide) rfl qf_X10_135 dX10_undo_194 ?_
    refine s_ltR (fun v44 => ?_)
    refine s_iload_n hC 1 dX10_undo_197 rfl ?_
    refine s_aload_n hC 0 dX10_undo_198 rfl ?_
    refine s_getR hC xc10 (by decide) rfl qf_X10_208 dX10_undo_199 ?_
    refine s_ltR (fun v45 => ?_)
    refine s_iload_n hC 1 dX10_undo_202 rfl ?_
    refine s_iald hC dX10_undo_203 ?_
    refine s_iast hC dX10_undo_204 ?_
    refine s_ltM (fun μ46 => ?_)
    refine s_aload_n hC 0 dX10_undo_205 rfl ?_
    refine s_getR hC xc10 (by decide) rfl qf_X10_138 dX10_undo_206 ?_
    refine s_ltR (fun v47 => ?_)
    refine s_iload_n hC 1 dX10_undo_209 rfl ?_
    refine s_aload_n hC 0 dX10_undo_210 rfl ?_
    refine s_getR hC xc10 (by decide) rfl qf_X10_211 dX10_undo_211 ?_
    refine s_ltR (fun v48 => ?_)
    refine s_iload_n hC 1 dX10_undo_214 rfl ?_
    refine s_iald hC dX10_undo_215 ?_
    refine s_iast hC dX10_undo_216 ?_
    refine s_ltM (fun μ49 => ?_)
    refine s_iinc hC 1 dX10_undo_217 rfl (w := 1) (by decide) (by decide) (lv' := [(1, vI (v42 + (1 : Int32))), (0, vR v41)]) rfl ?_
    refine s_goto hC dX10_undo_220 (tgt := 188) (by decide) ?_
    refine s_lv (lv' := [(0, vR v41), (1, vI (v42 + (1 : Int32)))]) [1, 0] rfl ?_
    exact ih _ _ _
def f_X10_undo_L225 (X : x_X) : Nat → Nat → Int32 → x_M → Option (Int32 × x_M)
  | 0, _, _, _ => none
  | n + 1, v52, v53, μ54 =>
    (if (8 : Int32) ≤ v53 then (ck (x_kd X v52 = 10 + 1) (some ((μ54.1 v52 0), μ54))) else (ck (x_kd X v52 = 10 + 1) (lt (μ54.2.1 v52 45) (fun (v55 : Nat) => (ck (x_kd X v52 = 10 + 1) (lt (μ54.2.1 v52 67) (fun (v56 : Nat) => (ck ((x_kd X v56 = 20 ∨ x_kd X v56 = 40) ∧ x_ix v53 (x_ln X v56)) (ck (x_kd X v55 = 20 ∧ x_ix v53 (x_ln X v55)) (lt (x_sI μ54 v55 (v53).toNatClampNeg (μ54.1 v56 (v53).toNatClampNeg)) (fun (μ57 : x_M) => (ck (x_kd X v52 = 10 + 1) (lt (μ57.2.1 v52 46) (fun (v58 : Nat) => (ck (x_kd X v52 = 10 + 1) (lt (μ57.2.1 v52 68) (fun (v59 : Nat) => (ck ((x_kd X v59 = 20 ∨ x_kd X v59 = 40) ∧ x_ix v53 (x_ln X v59)) (ck (x_kd X v58 = 20 ∧ x_ix v53 (x_ln X v58)) (lt (x_sI μ57 v58 (v53).toNatClampNeg (μ57.1 v59 (v53).toNatClampNeg)) (fun (μ60 : x_M) => (ck (x_kd X v52 = 10 + 1) (lt (μ60.2.1 v52 47) (fun (v61 : Nat) => (ck (x_kd X v52 = 10 + 1) (lt (μ60.2.1 v52 69) (fun (v62 : Nat) => (ck ((x_kd X v62 = 20 ∨ x_kd X v62 = 40) ∧ x_ix v53 (x_ln X v62)) (ck (x_kd X v61 = 20 ∧ x_ix v53 (x_ln X v61)) (lt (x_sI μ60 v61 (v53).toNatClampNeg (μ60.1 v62 (v53).toNatClampNeg)) (fun (μ63 : x_M) => (ck (x_kd X v52 = 10 + 1) (lt (μ63.2.1 v52 48) (fun (v64 : Nat) => (ck (x_kd X v52 = 10 + 1) (lt (μ63.2.1 v52 70) (fun (v65 : Nat) => (ck ((x_kd X v65 = 20 ∨ x_kd X v65 = 40) ∧ x_ix v53 (x_ln X v65)) (ck (x_kd X v64 = 20 ∧ x_ix v53 (x_ln X v64)) (lt (x_sI μ63 v64 (v53).toNatClampNeg (μ63.1 v65 (v53).toNatClampNeg)) (fun (μ66 : x_M) => (f_X10_undo_L225 X n v52 (v53 + (1 : Int32)) μ66))))))))))))))))))))))))))))))))))))))))))
set_option maxRecDepth 100000 in
theorem j_X10_undo_L225 (hI : x_I X) (hC : x_C X x_Z0 p (x_rm 1) s m c cX10_undo RX10 2 0 0 1) (hr : meth.sig.returnType = (some .int)) (hlk : meth.locks = false) : ∀ (n : Nat) (v52 : Nat) (v53 : Int32) (μ54 : x_M), SM X 2 1 rkI p l e s m args below meth c 225 [(0, vR v52), (1, vI v53)] [] μ54 (f_X10_undo_L225 X n v52 v53 μ54) := by
  intro n
  induction n with
  | zero => intro v52 v53 μ54; exact s_none
  | succ n ih =>
    intro v52 v53 μ54
    unfold f_X10_undo_L225
    refine s_iload_n hC 1 dX10_undo_225 rfl ?_
    refine s_bipush hC dX10_undo_226 (v := 8) (by decide) ?_
    refine s_icmp_ge hC dX10_undo_228 (tgt := 285) (by decide) ?_ ?_
    · refine s_aload_n hC 0 dX10_undo_285 rfl ?_
      refine s_getI hC xc10 (by decide) rfl qf_X10_7 dX10_undo_286 ?_
      exact s_iret hC hr hlk dX10_undo_289
    refine s_aload_n hC 0 dX10_undo_231 rfl ?_
    refine s_getR hC xc10 (by decide) rfl qf_X10_147 dX10_undo_232 ?_
    refine s_ltR (fun v55 => ?_)
    refine s_iload_n hC 1 dX10_undo_235 rfl ?_
    refine s_aload_n hC 0 dX10_undo_236 rfl ?_
    refine s_getR hC xc10 (by decide) rfl qf_X10_214 dX10_undo_237 ?_
    refine s_ltR (fun v56 => ?_)
    refine s_iload_n hC 1 dX10_undo_240 rfl ?_
    refine s_iald hC dX10_undo_241 ?_
    refine s_iast hC dX10_undo_242 ?_
    refine s_ltM (fun μ57 => ?_)
    refine s_aload_n hC 0 dX10_undo_243 rfl ?_
    refine s_getR hC xc10 (by decide) rfl qf_X10_150 dX10_undo_244 ?_
    refine s_ltR (fun v58 => ?_)
    refine s_iload_n hC 1 dX10_undo_247 rfl ?_
    refine s_aload_n hC 0 dX10_undo_248 rfl ?_
    refine s_getR hC xc10 (by decide) rfl qf_X10_217 dX10_undo_249 ?_
    refine s_ltR (fun v59 => ?_)
    refine s_iload_n hC 1 dX10_undo_252 rfl ?_
    refine s_iald hC dX10_undo_253 ?_
    refine s_iast hC dX10_undo_254 ?_
    refine s_ltM (fun μ60 => ?_)
    refine s_aload_n hC 0 dX10_undo_255 rfl ?_
    refine s_getR hC xc10 (by decide) rfl qf_X10_153 dX10_undo_256 ?_
    refine s_ltR (fun v61 => ?_)
    refine s_iload_n hC 1 dX10_undo_259 rfl ?_
    refine s_aload_n hC 0 dX10_undo_260 rfl ?_
    refine s_getR hC xc10 (by decide) rfl qf_X10_220 dX10_undo_261 ?_
    refine s_ltR (fun v62 => ?_)
    refine s_iload_n hC 1 dX10_undo_264 rfl ?_
    refine s_iald hC dX10_undo_265 ?_
    refine s_iast hC dX10_undo_266 ?_
    refine s_ltM (fun μ63 => ?_)
    refine s_aload_n hC 0 dX10_undo_267 rfl ?_
    refine s_getR hC xc10 (by decide) rfl qf_X10_156 dX10_undo_268 ?_
    refine s_ltR (fun v64 => ?_)
    refine s_iload_n hC 1 dX10_undo_271 rfl ?_
    refine s_aload_n hC 0 dX10_undo_272 rfl ?_
    refine s_getR hC xc10 (by decide) rfl qf_X10_223 dX10_undo_273 ?_
    refine s_ltR (fun v65 => ?_)
    refine s_iload_n hC 1 dX10_undo_276 rfl ?_
    refine s_iald hC dX10_undo_277 ?_
    refine s_iast hC dX10_undo_278 ?_
    refine s_ltM (fun μ66 => ?_)
    refine s_iinc hC 1 dX10_undo_279 rfl (w := 1) (by decide) (by decide) (lv' := [(1, vI (v53 + (1 : Int32))), (0, vR v52)]) rfl ?_
    refine s_goto hC dX10_undo_282 (tgt := 225) (by decide) ?_
    refine s_lv (lv' := [(0, vR v52), (1, vI (v53 + (1 : Int32)))]) [1, 0] rfl ?_
    exact ih _ _ _
def f_X10_undo (X : x_X) (v0 : Nat) (μ : x_M) : Option (Int32 × x_M) :=
  (ck (x_kd X v0 = 10 + 1) (if (μ.1 v0 49) = 0 then (some ((-3 : Int32), μ)) else (ck (x_kd X v0 = 10 + 1) (ck (x_kd X v0 = 10 + 1) (lt (x_sI μ v0 12 (μ.1 v0 50)) (fun (μ2 : x_M) => (ck (x_kd X v0 = 10 + 1) (ck (x_kd X v0 = 10 + 1) (lt (x_sI μ2 v0 0 (μ2.1 v0 51)) (fun (μ3 : x_M) => (ck (x_kd X v0 = 10 + 1) (ck (x_kd X v0 = 10 + 1) (lt (x_sI μ3 v0 1 (μ3.1 v0 52)) (fun (μ4 : x_M) => (ck (x_kd X v0 = 10 + 1) (ck (x_kd X v0 = 10 + 1) (lt (x_sI μ4 v0 2 (μ4.1 v0 53)) (fun (μ5 : x_M) => (ck (x_kd X v0 = 10 + 1) (ck (x_kd X v0 = 10 + 1) (lt (x_sI μ5 v0 3 (μ5.1 v0 54)) (fun (μ6 : x_M) => (ck (x_kd X v0 = 10 + 1) (ck (x_kd X v0 = 10 + 1) (lt (x_sI μ6 v0 40 (μ6.1 v0 55)) (fun (μ7 : x_M) => (ck (x_kd X v0 = 10 + 1) (ck (x_kd X v0 = 10 + 1) (lt (x_sI μ7 v0 43 (μ7.1 v0 56)) (fun (μ8 : x_M) => (ck (x_kd X v0 = 10 + 1) (ck (x_kd X v0 = 10 + 1) (lt (x_sI μ8 v0 44 (μ8.1 v0 57)) (fun (μ9 : x_M) => (f_X10_undo_L76 X (fun (v31 : Nat) (μ32 : x_M) => (f_X10_undo_L162 X (fun (v39 : Nat) (μ40 : x_M) => (f_X10_undo_L188 X (fun (v50 : Nat) (μ51 : x_M) => (f_X10_undo_L225 X 4096 v50 (0 : Int32) μ51)) 4096 v39 (0 : Int32) μ40)) 4096 v31 (0 : Int32) μ32)) 4096 v0 (0 : Int32) μ9)))))))))))))))))))))))))))))))))))
set_option maxRecDepth 100000 in
theorem m_X10_undo (hI : x_I X) (v0 : Nat) (μ : x_M) : x_Met X x_Z0 l yX10_undo cX10_undo 2 (some .int) 1 [vR v0] μ rkI (f_X10_undo X v0 μ) := by
  refine x_enter hI (by decide +kernel) (Nat.le_of_ble_eq_true rfl) (fun p e s m args below meth c hC hr hlk => ?_)
  unfold f_X10_undo
  refine s_lv (lv' := [(0, vR v0)]) [0] rfl ?_
  refine s_aload_n hC 0 dX10_undo_0 rfl ?_
  refine s_getI hC xc10 (by decide) rfl qf_X10_159 dX10_undo_1 ?_
  refine s_if_ne hC dX10_undo_4 (tgt := 10) (by decide) ?_ ?_
  · refine s_aload_n hC 0 dX10_undo_10 rfl ?_
    refine s_aload_n hC 0 dX10_undo_11 rfl ?_
    refine s_getI hC xc10 (by decide) rfl qf_X10_163 dX10_undo_12 ?_
    refine s_putI hC xc10 (by decide) rfl rfl qf_X10_47 dX10_undo_15 ?_
    refine s_ltM (fun μ2 => ?_)
    refine s_aload_n hC 0 dX10_undo_18 rfl ?_
    refine s_aload_n hC 0 dX10_undo_19 rfl ?_
    refine s_getI hC xc10 (by decide) rfl qf_X10_166 dX10_undo_20 ?_
    refine s_putI hC xc10 (by decide) rfl rfl qf_X10_7 dX10_undo_23 ?_
    refine s_ltM (fun μ3 => ?_)
    refine s_aload_n hC 0 dX10_undo_26 rfl ?_
    refine s_aload_n hC 0 dX10_undo_27 rfl ?_
    refine s_getI hC xc10 (by decide) rfl qf_X10_169 dX10_undo_28 ?_
    refine s_putI hC xc10 (by decide) rfl rfl qf_X10_13 dX10_undo_31 ?_
    refine s_ltM (fun μ4 => ?_)
    refine s_aload_n hC 0 dX10_undo_34 rfl ?_
    refine s_aload_n hC 0 dX10_undo_35 rfl ?_
    refine s_getI hC xc10 (by decide) rfl qf_X10_172 dX10_undo_36 ?_
    refine s_putI hC xc10 (by decide) rfl rfl qf_X10_16 dX10_undo_39 ?_
    refine s_ltM (fun μ5 => ?_)
    refine s_aload_n hC 0 dX10_undo_42 rfl ?_
    refine s_aload_n hC 0 dX10_undo_43 rfl ?_
    refine s_getI hC xc10 (by decide) rfl qf_X10_175 dX10_undo_44 ?_
    refine s_putI hC xc10 (by decide) rfl rfl qf_X10_19 dX10_undo_47 ?_
    refine s_ltM (fun μ6 => ?_)
    refine s_aload_n hC 0 dX10_undo_50 rfl ?_
    refine s_aload_n hC 0 dX10_undo_51 rfl ?_
    refine s_getI hC xc10 (by decide) rfl qf_X10_178 dX10_undo_52 ?_
    refine s_putI hC xc10 (by decide) rfl rfl qf_X10_132 dX10_undo_55 ?_
    refine s_ltM (fun μ7 => ?_)
    refine s_aload_n hC 0 dX10_undo_58 rfl ?_
    refine s_aload_n hC 0 dX10_undo_59 rfl ?_
    refine s_getI hC xc10 (by decide) rfl qf_X10_181 dX10_undo_60 ?_
    refine s_putI hC xc10 (by decide) rfl rfl qf_X10_141 dX10_undo_63 ?_
    refine s_ltM (fun μ8 => ?_)
    refine s_aload_n hC 0 dX10_undo_66 rfl ?_
    refine s_aload_n hC 0 dX10_undo_67 rfl ?_
    refine s_getI hC xc10 (by decide) rfl qf_X10_184 dX10_undo_68 ?_
    refine s_putI hC xc10 (by decide) rfl rfl qf_X10_144 dX10_undo_71 ?_
    refine s_ltM (fun μ9 => ?_)
    refine s_iconst hC dX10_undo_74 (v := 0) (by decide) ?_
    refine s_istore_n hC dX10_undo_75 (by decide) (lv' := [(1, vI (0 : Int32)), (0, vR v0)]) rfl ?_
    refine s_lv (lv' := [(0, vR v0), (1, vI (0 : Int32))]) [1, 0] rfl ?_
    refine j_X10_undo_L76 hI hC hr hlk (fun v31 μ32 => ?_) 4096 _ _ _
    refine s_iconst hC dX10_undo_160 (v := 0) (by decide) ?_
    refine s_istore_n hC dX10_undo_161 (by decide) (lv' := [(1, vI (0 : Int32)), (0, vR v31)]) rfl ?_
    refine s_lv (lv' := [(0, vR v31), (1, vI (0 : Int32))]) [1, 0] rfl ?_
    refine j_X10_undo_L162 hI hC hr hlk (fun v39 μ40 => ?_) 4096 _ _ _
    refine s_iconst hC dX10_undo_186 (v := 0) (by decide) ?_
    refine s_istore_n hC dX10_undo_187 (by decide) (lv' := [(1, vI (0 : Int32)), (0, vR v39)]) rfl ?_
    refine s_lv (lv' := [(0, vR v39), (1, vI (0 : Int32))]) [1, 0] rfl ?_
    refine j_X10_undo_L188 hI hC hr hlk (fun v50 μ51 => ?_) 4096 _ _ _
    refine s_iconst hC dX10_undo_223 (v := 0) (by decide) ?_
    refine s_istore_n hC dX10_undo_224 (by decide) (lv' := [(1, vI (0 : Int32)), (0, vR v50)]) rfl ?_
    refine s_lv (lv' := [(0, vR v50), (1, vI (0 : Int32))]) [1, 0] rfl ?_
    refine j_X10_undo_L225 hI hC hr hlk 4096 _ _ _
  refine s_bipush hC dX10_undo_7 (v := -3) (by decide) ?_
  exact s_iret hC hr hlk dX10_undo_9
theorem dX10_body_0 : decode cX10_body 0 = .ok (.aload_n 0, 1) := by decide +kernel
theorem dX10_body_1 : decode cX10_body 1 = .ok (.getfield 226, 3) := by decide +kernel
theorem dX10_body_4 : decode cX10_body 4 = .ok (.bipush 20, 2) := by decide +kernel
theorem dX10_body_6 : decode cX10_body 6 = .ok (.if_icmp .ge 13, 3) := by decide +kernel
theorem dX10_body_9 : decode cX10_body 9 = .ok (.aload_n 0, 1) := by decide +kernel
theorem dX10_body_10 : decode cX10_body 10 = .ok (.getfield 229, 3) := by decide +kernel
theorem dX10_body_13 : decode cX10_body 13 = .ok (.aload_n 0, 1) := by decide +kernel
theorem dX10_body_14 : decode cX10_body 14 = .ok (.getfield 226, 3) := by decide +kernel
theorem dX10_body_17 : decode cX10_body 17 = .ok (.iload_n 1, 1) := by decide +kernel
theorem dX10_body_18 : decode cX10_body 18 = .ok (.iastore, 1) := by decide +kernel
theorem dX10_body_19 : decode cX10_body 19 = .ok (.aload_n 0, 1) := by decide +kernel
theorem dX10_body_20 : decode cX10_body 20 = .ok (.dup, 1) := by decide +kernel
theorem dX10_body_21 : decode cX10_body 21 = .ok (.getfield 226, 3) := by decide +kernel
theorem dX10_body_24 : decode cX10_body 24 = .ok (.iconst 1, 1) := by decide +kernel
theorem dX10_body_25 : decode cX10_body 25 = .ok (.iadd, 1) := by decide +kernel
theorem dX10_body_26 : decode cX10_body 26 = .ok (.putfield 226, 3) := by decide +kernel
theorem dX10_body_29 : decode cX10_body 29 = .ok (.return_, 1) := by decide +kernel
def f_X10_body (X : x_X) (v0 : Nat) (v1 : Int32) (μ : x_M) : Option (Unit × x_M) :=
  (ck (x_kd X v0 = 10 + 1) (if (20 : Int32) ≤ (μ.1 v0 71) then (ck (x_kd X v0 = 10 + 1) (ck (x_kd X v0 = 10 + 1) (lt (x_sI μ v0 71 ((μ.1 v0 71) + (1 : Int32))) (fun (μ3 : x_M) => (some ((), μ3)))))) else (ck (x_kd X v0 = 10 + 1) (lt (μ.2.1 v0 72) (fun (v4 : Nat) => (ck (x_kd X v0 = 10 + 1) (lt (μ.1 v0 71) (fun (v5 : Int32) => (ck (x_kd X v4 = 20 ∧ x_ix v5 (x_ln X v4)) (lt (x_sI μ v4 (v5).toNatClampNeg v1) (fun (μ6 : x_M) => (ck (x_kd X v0 = 10 + 1) (ck (x_kd X v0 = 10 + 1) (lt (x_sI μ6 v0 71 ((μ6.1 v0 71) + (1 : Int32))) (fun (μ7 : x_M) => (some ((), μ7)))))))))))))))))
set_option maxRecDepth 100000 in
theorem m_X10_body (hI : x_I X) (v0 : Nat) (v1 : Int32) (μ : x_M) : x_Met X x_Z0 l yX10_body cX10_body 2 none 1 [vR v0, vI v1] μ rkV (f_X10_body X v0 v1 μ) := by
  refine x_enter hI (by decide +kernel) (Nat.le_of_ble_eq_true rfl) (fun p e s m args below meth c hC hr hlk => ?_)
  unfold f_X10_body
  refine s_lv (lv' := [(0, vR v0), (1, vI v1)]) [0, 1] rfl ?_
  refine s_aload_n hC 0 dX10_body_0 rfl ?_
  refine s_getI hC xc10 (by decide) rfl qf_X10_226 dX10_body_1 ?_
  refine s_bipush hC dX10_body_4 (v := 20) (by decide) ?_
  refine s_icmp_ge hC dX10_body_6 (tgt := 19) (by decide) ?_ ?_
  · refine s_aload_n hC 0 dX10_body_19 rfl ?_
    refine s_dupR hC dX10_body_20 ?_
    refine s_getI hC xc10 (by decide) rfl qf_X10_226 dX10_body_21 ?_
    refine s_iconst hC dX10_body_24 (v := 1) (by decide) ?_
    refine s_iadd hC dX10_body_25 ?_
    refine s_putI hC xc10 (by decide) rfl rfl qf_X10_226 dX10_body_26 ?_
    refine s_ltM (fun μ3 => ?_)
    exact s_vret hC hr hlk dX10_body_29
  refine s_aload_n hC 0 dX10_body_9 rfl ?_
  refine s_getR hC xc10 (by decide) rfl qf_X10_229 dX10_body_10 ?_
  refine s_ltR (fun v4 => ?_)
  refine s_aload_n hC 0 dX10_body_13 rfl ?_
  refine s_getI hC xc10 (by decide) rfl qf_X10_226 dX10_body_14 ?_
  refine s_iload_n hC 1 dX10_body_17 rfl ?_
  refine s_ltI2 (fun v5 => ?_)
  refine s_iast hC dX10_body_18 ?_
  refine s_ltM (fun μ6 => ?_)
  refine s_aload_n hC 0 dX10_body_19 rfl ?_
  refine s_dupR hC dX10_body_20 ?_
  refine s_getI hC xc10 (by decide) rfl qf_X10_226 dX10_body_21 ?_
  refine s_iconst hC dX10_body_24 (v := 1) (by decide) ?_
  refine s_iadd hC dX10_body_25 ?_
  refine s_putI hC xc10 (by decide) rfl rfl qf_X10_226 dX10_body_26 ?_
  refine s_ltM (fun μ7 => ?_)
  exact s_vret hC hr hlk dX10_body_29
theorem dX10_count_0 : decode cX10_count 0 = .ok (.iload_n 1, 1) := by decide +kernel
theorem dX10_count_1 : decode cX10_count 1 = .ok (.tableswitch 78 0 6 #[43, 48, 53, 58, 63, 68, 73], 43) := by decide +kernel
theorem dX10_count_44 : decode cX10_count 44 = .ok (.aload_n 0, 1) := by decide +kernel
theorem dX10_count_45 : decode cX10_count 45 = .ok (.getfield 7, 3) := by decide +kernel
theorem dX10_count_48 : decode cX10_count 48 = .ok (.ireturn, 1) := by decide +kernel
theorem dX10_count_49 : decode cX10_count 49 = .ok (.aload_n 0, 1) := by decide +kernel
theorem dX10_count_50 : decode cX10_count 50 = .ok (.getfield 44, 3) := by decide +kernel
theorem dX10_count_53 : decode cX10_count 53 = .ok (.ireturn, 1) := by decide +kernel
theorem dX10_count_54 : decode cX10_count 54 = .ok (.aload_n 0, 1) := by decide +kernel
theorem dX10_count_55 : decode cX10_count 55 = .ok (.getfield 132, 3) := by decide +kernel
theorem dX10_count_58 : decode cX10_count 58 = .ok (.ireturn, 1) := by decide +kernel
theorem dX10_count_59 : decode cX10_count 59 = .ok (.aload_n 0, 1) := by decide +kernel
theorem dX10_count_60 : decode cX10_count 60 = .ok (.getfield 141, 3) := by decide +kernel
theorem dX10_count_63 : decode cX10_count 63 = .ok (.ireturn, 1) := by decide +kernel
theorem dX10_count_64 : decode cX10_count 64 = .ok (.aload_n 0, 1) := by decide +kernel
theorem dX10_count_65 : decode cX10_count 65 = .ok (.getfield 144, 3) := by decide +kernel
theorem dX10_count_68 : decode cX10_count 68 = .ok (.ireturn, 1) := by decide +kernel
theorem dX10_count_69 : decode cX10_count 69 = .ok (.aload_n 0, 1) := by decide +kernel
theorem dX10_count_70 : decode cX10_count 70 = .ok (.getfield 50, 3) := by decide +kernel
theorem dX10_count_73 : decode cX10_count 73 = .ok (.ireturn, 1) := by decide +kernel
theorem dX10_count_74 : decode cX10_count 74 = .ok (.aload_n 0, 1) := by decide +kernel
theorem dX10_count_75 : decode cX10_count 75 = .ok (.getfield 226, 3) := by decide +kernel
theorem dX10_count_78 : decode cX10_count 78 = .ok (.ireturn, 1) := by decide +kernel
theorem dX10_count_79 : decode cX10_count 79 = .ok (.bipush (-2), 2) := by decide +kernel
theorem dX10_count_81 : decode cX10_count 81 = .ok (.ireturn, 1) := by decide +kernel
def f_X10_count (X : x_X) (v0 : Nat) (v1 : Int32) (μ : x_M) : Option (Int32 × x_M) :=
  (x_swo [(0 : Int32), (1 : Int32), (2 : Int32), (3 : Int32), (4 : Int32), (5 : Int32), (6 : Int32)] [(ck (x_kd X v0 = 10 + 1) (some ((μ.1 v0 0), μ))), (ck (x_kd X v0 = 10 + 1) (some ((μ.1 v0 11), μ))), (ck (x_kd X v0 = 10 + 1) (some ((μ.1 v0 40), μ))), (ck (x_kd X v0 = 10 + 1) (some ((μ.1 v0 43), μ))), (ck (x_kd X v0 = 10 + 1) (some ((μ.1 v0 44), μ))), (ck (x_kd X v0 = 10 + 1) (some ((μ.1 v0 13), μ))), (ck (x_kd X v0 = 10 + 1) (some ((μ.1 v0 71), μ)))] (some ((-2 : Int32), μ)) v1)
set_option maxRecDepth 100000 in
theorem m_X10_count (hI : x_I X) (v0 : Nat) (v1 : Int32) (μ : x_M) : x_Met X x_Z0 l yX10_count cX10_count 2 (some .int) 1 [vR v0, vI v1] μ rkI (f_X10_count X v0 v1 μ) := by
  refine x_enter hI (by decide +kernel) (Nat.le_of_ble_eq_true rfl) (fun p e s m args below meth c hC hr hlk => ?_)
  unfold f_X10_count
  refine s_lv (lv' := [(0, vR v0), (1, vI v1)]) [0, 1] rfl ?_
  refine s_iload_n hC 1 dX10_count_0 rfl ?_
  refine s_table hC dX10_count_1 [((0 : Int32), 44), ((1 : Int32), 49), ((2 : Int32), 54), ((3 : Int32), 59), ((4 : Int32), 64), ((5 : Int32), 69), ((6 : Int32), 74)] 79 (by decide +kernel) ⟨?_, ?_, ?_, ?_, ?_, ?_, ?_, trivial⟩ ?_
  · refine s_aload_n hC 0 dX10_count_44 rfl ?_
    refine s_getI hC xc10 (by decide) rfl qf_X10_7 dX10_count_45 ?_
    exact s_iret hC hr hlk dX10_count_48
  · refine s_aload_n hC 0 dX10_count_49 rfl ?_
    refine s_getI hC xc10 (by decide) rfl qf_X10_44 dX10_count_50 ?_
    exact s_iret hC hr hlk dX10_count_53
  · refine s_aload_n hC 0 dX10_count_54 rfl ?_
    refine s_getI hC xc10 (by decide) rfl qf_X10_132 dX10_count_55 ?_
    exact s_iret hC hr hlk dX10_count_58
  · refine s_aload_n hC 0 dX10_count_59 rfl ?_
    refine s_getI hC xc10 (by decide) rfl qf_X10_141 dX10_count_60 ?_
    exact s_iret hC hr hlk dX10_count_63
  · refine s_aload_n hC 0 dX10_count_64 rfl ?_
    refine s_getI hC xc10 (by decide) rfl qf_X10_144 dX10_count_65 ?_
    exact s_iret hC hr hlk dX10_count_68
  · refine s_aload_n hC 0 dX10_count_69 rfl ?_
    refine s_getI hC xc10 (by decide) rfl qf_X10_50 dX10_count_70 ?_
    exact s_iret hC hr hlk dX10_count_73
  · refine s_aload_n hC 0 dX10_count_74 rfl ?_
    refine s_getI hC xc10 (by decide) rfl qf_X10_226 dX10_count_75 ?_
    exact s_iret hC hr hlk dX10_count_78
  refine s_bipush hC dX10_count_79 (v := -2) (by decide) ?_
  exact s_iret hC hr hlk dX10_count_81
theorem dX10_narrow_0 : decode cX10_narrow 0 = .ok (.iload_n 1, 1) := by decide +kernel
theorem dX10_narrow_1 : decode cX10_narrow 1 = .ok (.ifCond .ne 10, 3) := by decide +kernel
theorem dX10_narrow_4 : decode cX10_narrow 4 = .ok (.lload_n 2, 1) := by decide +kernel
theorem dX10_narrow_5 : decode cX10_narrow 5 = .ok (.l2i, 1) := by decide +kernel
theorem dX10_narrow_6 : decode cX10_narrow 6 = .ok (.i2b, 1) := by decide +kernel
theorem dX10_narrow_7 : decode cX10_narrow 7 = .ok (.i2l, 1) := by decide +kernel
theorem dX10_narrow_8 : decode cX10_narrow 8 = .ok (.goto 46, 3) := by decide +kernel
theorem dX10_narrow_11 : decode cX10_narrow 11 = .ok (.iload_n 1, 1) := by decide +kernel
theorem dX10_narrow_12 : decode cX10_narrow 12 = .ok (.iconst 1, 1) := by decide +kernel
theorem dX10_narrow_13 : decode cX10_narrow 13 = .ok (.if_icmp .ne 10, 3) := by decide +kernel
theorem dX10_narrow_16 : decode cX10_narrow 16 = .ok (.lload_n 2, 1) := by decide +kernel
theorem dX10_narrow_17 : decode cX10_narrow 17 = .ok (.l2i, 1) := by decide +kernel
theorem dX10_narrow_18 : decode cX10_narrow 18 = .ok (.i2s, 1) := by decide +kernel
theorem dX10_narrow_19 : decode cX10_narrow 19 = .ok (.i2l, 1) := by decide +kernel
theorem dX10_narrow_20 : decode cX10_narrow 20 = .ok (.goto 34, 3) := by decide +kernel
theorem dX10_narrow_23 : decode cX10_narrow 23 = .ok (.iload_n 1, 1) := by decide +kernel
theorem dX10_narrow_24 : decode cX10_narrow 24 = .ok (.iconst 2, 1) := by decide +kernel
theorem dX10_narrow_25 : decode cX10_narrow 25 = .ok (.if_icmp .ne 9, 3) := by decide +kernel
theorem dX10_narrow_28 : decode cX10_narrow 28 = .ok (.lload_n 2, 1) := by decide +kernel
theorem dX10_narrow_29 : decode cX10_narrow 29 = .ok (.l2i, 1) := by decide +kernel
theorem dX10_narrow_30 : decode cX10_narrow 30 = .ok (.i2l, 1) := by decide +kernel
theorem dX10_narrow_31 : decode cX10_narrow 31 = .ok (.goto 23, 3) := by decide +kernel
theorem dX10_narrow_34 : decode cX10_narrow 34 = .ok (.iload_n 1, 1) := by decide +kernel
theorem dX10_narrow_35 : decode cX10_narrow 35 = .ok (.iconst 4, 1) := by decide +kernel
theorem dX10_narrow_36 : decode cX10_narrow 36 = .ok (.if_icmp .ne 17, 3) := by decide +kernel
theorem dX10_narrow_39 : decode cX10_narrow 39 = .ok (.lload_n 2, 1) := by decide +kernel
theorem dX10_narrow_40 : decode cX10_narrow 40 = .ok (.lconst 0, 1) := by decide +kernel
theorem dX10_narrow_41 : decode cX10_narrow 41 = .ok (.lcmp, 1) := by decide +kernel
theorem dX10_narrow_42 : decode cX10_narrow 42 = .ok (.ifCond .eq 7, 3) := by decide +kernel
theorem dX10_narrow_45 : decode cX10_narrow 45 = .ok (.lconst 1, 1) := by decide +kernel
theorem dX10_narrow_46 : decode cX10_narrow 46 = .ok (.goto 8, 3) := by decide +kernel
theorem dX10_narrow_49 : decode cX10_narrow 49 = .ok (.lconst 0, 1) := by decide +kernel
theorem dX10_narrow_50 : decode cX10_narrow 50 = .ok (.goto 4, 3) := by decide +kernel
theorem dX10_narrow_53 : decode cX10_narrow 53 = .ok (.lload_n 2, 1) := by decide +kernel
theorem dX10_narrow_54 : decode cX10_narrow 54 = .ok (.lreturn, 1) := by decide +kernel
def f_X10_narrow (X : x_X) (v0 : Nat) (v1 : Int32) (v2 : Int64) (μ : x_M) : Option (Int64 × x_M) :=
  (if v1 = 0 then (some (((((((v2).toInt32)).toInt8.toInt32)).toInt64), μ)) else (if v1 = (1 : Int32) then (some (((((((v2).toInt32)).toInt16.toInt32)).toInt64), μ)) else (if v1 = (2 : Int32) then (some (((((v2).toInt32)).toInt64), μ)) else (if v1 = (4 : Int32) then (if (lg_cmp v2 (0 : Int64)) = 0 then (some ((0 : Int64), μ)) else (some ((1 : Int64), μ))) else (some (v2, μ))))))
set_option maxRecDepth 100000 in
theorem m_X10_narrow (hI : x_I X) (v0 : Nat) (v1 : Int32) (v2 : Int64) (μ : x_M) : x_Met X x_Z0 l yX10_narrow cX10_narrow 4 (some .long) 1 [vR v0, vI v1, vJ v2] μ rkJ (f_X10_narrow X v0 v1 v2 μ) := by
  refine x_enter hI (by decide +kernel) (Nat.le_of_ble_eq_true rfl) (fun p e s m args below meth c hC hr hlk => ?_)
  unfold f_X10_narrow
  refine s_lv (lv' := [(0, vR v0), (1, vI v1), (2, vJ v2)]) [0, 1, 2] rfl ?_
  refine s_iload_n hC 1 dX10_narrow_0 rfl ?_
  refine s_if_ne hC dX10_narrow_1 (tgt := 11) (by decide) ?_ ?_
  · refine s_iload_n hC 1 dX10_narrow_11 rfl ?_
    refine s_iconst hC dX10_narrow_12 (v := 1) (by decide) ?_
    refine s_icmp_ne hC dX10_narrow_13 (tgt := 23) (by decide) ?_ ?_
    · refine s_iload_n hC 1 dX10_narrow_23 rfl ?_
      refine s_iconst hC dX10_narrow_24 (v := 2) (by decide) ?_
      refine s_icmp_ne hC dX10_narrow_25 (tgt := 34) (by decide) ?_ ?_
      · refine s_iload_n hC 1 dX10_narrow_34 rfl ?_
        refine s_iconst hC dX10_narrow_35 (v := 4) (by decide) ?_
        refine s_icmp_ne hC dX10_narrow_36 (tgt := 53) (by decide) ?_ ?_
        · refine s_lload_n hC 2 dX10_narrow_53 rfl ?_
          exact s_lret hC hr hlk dX10_narrow_54
        refine s_lload_n hC 2 dX10_narrow_39 rfl ?_
        refine s_lconst hC dX10_narrow_40 (v := 0) (by decide) ?_
        refine s_lcmp hC dX10_narrow_41 ?_
        refine s_if_eq hC dX10_narrow_42 (tgt := 49) (by decide) ?_ ?_
        · refine s_lconst hC dX10_narrow_49 (v := 0) (by decide) ?_
          refine s_goto hC dX10_narrow_50 (tgt := 54) (by decide) ?_
          exact s_lret hC hr hlk dX10_narrow_54
        refine s_lconst hC dX10_narrow_45 (v := 1) (by decide) ?_
        refine s_goto hC dX10_narrow_46 (tgt := 54) (by decide) ?_
        exact s_lret hC hr hlk dX10_narrow_54
      refine s_lload_n hC 2 dX10_narrow_28 rfl ?_
      refine s_l2i hC dX10_narrow_29 ?_
      refine s_i2l hC dX10_narrow_30 ?_
      refine s_goto hC dX10_narrow_31 (tgt := 54) (by decide) ?_
      exact s_lret hC hr hlk dX10_narrow_54
    refine s_lload_n hC 2 dX10_narrow_16 rfl ?_
    refine s_l2i hC dX10_narrow_17 ?_
    refine s_i2s hC dX10_narrow_18 ?_
    refine s_i2l hC dX10_narrow_19 ?_
    refine s_goto hC dX10_narrow_20 (tgt := 54) (by decide) ?_
    exact s_lret hC hr hlk dX10_narrow_54
  refine s_lload_n hC 2 dX10_narrow_4 rfl ?_
  refine s_l2i hC dX10_narrow_5 ?_
  refine s_i2b hC dX10_narrow_6 ?_
  refine s_i2l hC dX10_narrow_7 ?_
  refine s_goto hC dX10_narrow_8 (tgt := 54) (by decide) ?_
  exact s_lret hC hr hlk dX10_narrow_54
theorem dX10_isAccount_0 : decode cX10_isAccount 0 = .ok (.aload_n 0, 1) := by decide +kernel
theorem dX10_isAccount_1 : decode cX10_isAccount 1 = .ok (.iload_n 1, 1) := by decide +kernel
theorem dX10_isAccount_2 : decode cX10_isAccount 2 = .ok (.iconst 0, 1) := by decide +kernel
theorem dX10_isAccount_3 : decode cX10_isAccount 3 = .ok (.aload_n 0, 1) := by decide +kernel
theorem dX10_isAccount_4 : decode cX10_isAccount 4 = .ok (.getfield 7, 3) := by decide +kernel
theorem dX10_isAccount_7 : decode cX10_isAccount 7 = .ok (.iconst 1, 1) := by decide +kernel
theorem dX10_isAccount_8 : decode cX10_isAccount 8 = .ok (.isub, 1) := by decide +kernel
theorem dX10_isAccount_9 : decode cX10_isAccount 9 = .ok (.invokevirtual 245, 3) := by decide +kernel
theorem dX10_isAccount_12 : decode cX10_isAccount 12 = .ok (.ireturn, 1) := by decide +kernel
def f_X10_isAccount (X : x_X) (v0 : Nat) (v1 : Int32) (μ : x_M) : Option (Int32 × x_M) :=
  (ck (x_kd X v0 = 10 + 1) (ck (x_kd X v0 = 10 + 1) (bd (f_X10_in X v0 v1 (0 : Int32) ((μ.1 v0 0) - (1 : Int32)) μ) (fun (v3 : Int32) (μ4 : x_M) => (ck (v3 = 0 ∨ v3 = 1) (some (v3, μ4)))))))
set_option maxRecDepth 100000 in
theorem m_X10_isAccount (hI : x_I X) (v0 : Nat) (v1 : Int32) (μ : x_M) : x_Met X x_Z0 l yX10_isAccount cX10_isAccount 2 (some .boolean) 2 [vR v0, vI v1] μ rkI (f_X10_isAccount X v0 v1 μ) := by
  refine x_enter hI (by decide +kernel) (Nat.le_of_ble_eq_true rfl) (fun p e s m args below meth c hC hr hlk => ?_)
  unfold f_X10_isAccount
  refine s_lv (lv' := [(0, vR v0), (1, vI v1)]) [0, 1] rfl ?_
  refine s_aload_n hC 0 dX10_isAccount_0 rfl ?_
  refine s_iload_n hC 1 dX10_isAccount_1 rfl ?_
  refine s_iconst hC dX10_isAccount_2 (v := 0) (by decide) ?_
  refine s_aload_n hC 0 dX10_isAccount_3 rfl ?_
  refine s_getI hC xc10 (by decide) rfl qf_X10_7 dX10_isAccount_4 ?_
  refine s_iconst hC dX10_isAccount_7 (v := 1) (by decide) ?_
  refine s_isub hC dX10_isAccount_8 ?_
  refine s_callV hC (x := v0) (avs := [vI v1, vI (0 : Int32), vI ((μ.1 v0 0) - (1 : Int32))]) (st := []) (nest := false) xc10 (m_X10_in hI v0 v1 (0 : Int32) ((μ.1 v0 0) - (1 : Int32)) μ) dX10_isAccount_9 qm_X10_245 qi_X10_in qs_X10_in qc_X10 qd_X10_in qh_X10_in (by decide) (fun _ => Nat.le_of_ble_eq_true rfl) (Nat.le_of_ble_eq_true rfl) (fun v3 μ4 => ?_)
  exact s_zret hC hr hlk dX10_isAccount_12
theorem dX10_isDaily_0 : decode cX10_isDaily 0 = .ok (.aload_n 0, 1) := by decide +kernel
theorem dX10_isDaily_1 : decode cX10_isDaily 1 = .ok (.iload_n 1, 1) := by decide +kernel
theorem dX10_isDaily_2 : decode cX10_isDaily 2 = .ok (.bipush (-30), 2) := by decide +kernel
theorem dX10_isDaily_4 : decode cX10_isDaily 4 = .ok (.bipush 30, 2) := by decide +kernel
theorem dX10_isDaily_6 : decode cX10_isDaily 6 = .ok (.invokevirtual 245, 3) := by decide +kernel
theorem dX10_isDaily_9 : decode cX10_isDaily 9 = .ok (.ireturn, 1) := by decide +kernel
def f_X10_isDaily (X : x_X) (v0 : Nat) (v1 : Int32) (μ : x_M) : Option (Int32 × x_M) :=
  (ck (x_kd X v0 = 10 + 1) (bd (f_X10_in X v0 v1 (-30 : Int32) (30 : Int32) μ) (fun (v3 : Int32) (μ4 : x_M) => (ck (v3 = 0 ∨ v3 = 1) (some (v3, μ4))))))
set_option maxRecDepth 100000 in
theorem m_X10_isDaily (hI : x_I X) (v0 : Nat) (v1 : Int32) (μ : x_M) : x_Met X x_Z0 l yX10_isDaily cX10_isDaily 2 (some .boolean) 2 [vR v0, vI v1] μ rkI (f_X10_isDaily X v0 v1 μ) := by
  refine x_enter hI (by decide +kernel) (Nat.le_of_ble_eq_true rfl) (fun p e s m args below meth c hC hr hlk => ?_)
  unfold f_X10_isDaily
  refine s_lv (lv' := [(0, vR v0), (1, vI v1)]) [0, 1] rfl ?_
  refine s_aload_n hC 0 dX10_isDaily_0 rfl ?_
  refine s_iload_n hC 1 dX10_isDaily_1 rfl ?_
  refine s_bipush hC dX10_isDaily_2 (v := -30) (by decide) ?_
  refine s_bipush hC dX10_isDaily_4 (v := 30) (by decide) ?_
  refine s_callV hC (x := v0) (avs := [vI v1, vI (-30 : Int32), vI (30 : Int32)]) (st := []) (nest := false) xc10 (m_X10_in hI v0 v1 (-30 : Int32) (30 : Int32) μ) dX10_isDaily_6 qm_X10_245 qi_X10_in qs_X10_in qc_X10 qd_X10_in qh_X10_in (by decide) (fun _ => Nat.le_of_ble_eq_true rfl) (Nat.le_of_ble_eq_true rfl) (fun v3 μ4 => ?_)
  exact s_zret hC hr hlk dX10_isDaily_9
theorem dX10_area_0 : decode cX10_area 0 = .ok (.aload_n 0, 1) := by decide +kernel
theorem dX10_area_1 : decode cX10_area 1 = .ok (.iload_n 1, 1) := by decide +kernel
theorem dX10_area_2 : decode cX10_area 2 = .ok (.iconst 0, 1) := by decide +kernel
theorem dX10_area_3 : decode cX10_area 3 = .ok (.iconst 5, 1) := by decide +kernel
theorem dX10_area_4 : decode cX10_area 4 = .ok (.invokevirtual 245, 3) := by decide +kernel
theorem dX10_area_7 : decode cX10_area 7 = .ok (.ifCond .ne 5, 3) := by decide +kernel
theorem dX10_area_10 : decode cX10_area 10 = .ok (.iconst (-1), 1) := by decide +kernel
theorem dX10_area_11 : decode cX10_area 11 = .ok (.ireturn, 1) := by decide +kernel
theorem dX10_area_12 : decode cX10_area 12 = .ok (.aload_n 0, 1) := by decide +kernel
theorem dX10_area_13 : decode cX10_area 13 = .ok (.iload_n 2, 1) := by decide +kernel
theorem dX10_area_14 : decode cX10_area 14 = .ok (.iconst 1, 1) := by decide +kernel
theorem dX10_area_15 : decode cX10_area 15 = .ok (.bipush 20, 2) := by decide +kernel
theorem dX10_area_17 : decode cX10_area 17 = .ok (.invokevirtual 245, 3) := by decide +kernel
theorem dX10_area_20 : decode cX10_area 20 = .ok (.ifCond .ne 6, 3) := by decide +kernel
theorem dX10_area_23 : decode cX10_area 23 = .ok (.bipush (-2), 2) := by decide +kernel
theorem dX10_area_25 : decode cX10_area 25 = .ok (.ireturn, 1) := by decide +kernel
theorem dX10_area_26 : decode cX10_area 26 = .ok (.aload_n 0, 1) := by decide +kernel
theorem dX10_area_27 : decode cX10_area 27 = .ok (.getfield 22, 3) := by decide +kernel
theorem dX10_area_30 : decode cX10_area 30 = .ok (.iload_n 1, 1) := by decide +kernel
theorem dX10_area_31 : decode cX10_area 31 = .ok (.iaload, 1) := by decide +kernel
theorem dX10_area_32 : decode cX10_area 32 = .ok (.istore_n 3, 1) := by decide +kernel
theorem dX10_area_33 : decode cX10_area 33 = .ok (.aload_n 0, 1) := by decide +kernel
theorem dX10_area_34 : decode cX10_area 34 = .ok (.getfield 22, 3) := by decide +kernel
theorem dX10_area_37 : decode cX10_area 37 = .ok (.iload_n 1, 1) := by decide +kernel
theorem dX10_area_38 : decode cX10_area 38 = .ok (.iload_n 2, 1) := by decide +kernel
theorem dX10_area_39 : decode cX10_area 39 = .ok (.iastore, 1) := by decide +kernel
theorem dX10_area_40 : decode cX10_area 40 = .ok (.iload_n 3, 1) := by decide +kernel
theorem dX10_area_41 : decode cX10_area 41 = .ok (.ireturn, 1) := by decide +kernel
def f_X10_area (X : x_X) (v0 : Nat) (v1 : Int32) (v2 : Int32) (μ : x_M) : Option (Int32 × x_M) :=
  (ck (x_kd X v0 = 10 + 1) (bd (f_X10_in X v0 v1 (0 : Int32) (5 : Int32) μ) (fun (v4 : Int32) (μ5 : x_M) => (if v4 = 0 then (some ((-1 : Int32), μ5)) else (ck (x_kd X v0 = 10 + 1) (bd (f_X10_in X v0 v2 (1 : Int32) (20 : Int32) μ5) (fun (v6 : Int32) (μ7 : x_M) => (if v6 = 0 then (some ((-2 : Int32), μ7)) else (ck (x_kd X v0 = 10 + 1) (lt (μ7.2.1 v0 4) (fun (v8 : Nat) => (ck ((x_kd X v8 = 20 ∨ x_kd X v8 = 40) ∧ x_ix v1 (x_ln X v8)) (lt (μ7.1 v8 (v1).toNatClampNeg) (fun (v9 : Int32) => (ck (x_kd X v0 = 10 + 1) (lt (μ7.2.1 v0 4) (fun (v10 : Nat) => (ck (x_kd X v10 = 20 ∧ x_ix v1 (x_ln X v10)) (lt (x_sI μ7 v10 (v1).toNatClampNeg v2) (fun (μ11 : x_M) => (some (v9, μ11))))))))))))))))))))))
set_option maxRecDepth 100000 in
theorem m_X10_area (hI : x_I X) (v0 : Nat) (v1 : Int32) (v2 : Int32) (μ : x_M) : x_Met X x_Z0 l yX10_area cX10_area 4 (some .int) 2 [vR v0, vI v1, vI v2] μ rkI (f_X10_area X v0 v1 v2 μ) := by
  refine x_enter hI (by decide +kernel) (Nat.le_of_ble_eq_true rfl) (fun p e s m args below meth c hC hr hlk => ?_)
  unfold f_X10_area
  refine s_lv (lv' := [(0, vR v0), (1, vI v1), (2, vI v2)]) [0, 1, 2] rfl ?_
  refine s_aload_n hC 0 dX10_area_0 rfl ?_
  refine s_iload_n hC 1 dX10_area_1 rfl ?_
  refine s_iconst hC dX10_area_2 (v := 0) (by decide) ?_
  refine s_iconst hC dX10_area_3 (v := 5) (by decide) ?_
  refine s_callV hC (x := v0) (avs := [vI v1, vI (0 : Int32), vI (5 : Int32)]) (st := []) (nest := false) xc10 (m_X10_in hI v0 v1 (0 : Int32) (5 : Int32) μ) dX10_area_4 qm_X10_245 qi_X10_in qs_X10_in qc_X10 qd_X10_in qh_X10_in (by decide) (fun _ => Nat.le_of_ble_eq_true rfl) (Nat.le_of_ble_eq_true rfl) (fun v4 μ5 => ?_)
  refine s_if_ne hC dX10_area_7 (tgt := 12) (by decide) ?_ ?_
  · refine s_aload_n hC 0 dX10_area_12 rfl ?_
    refine s_iload_n hC 2 dX10_area_13 rfl ?_
    refine s_iconst hC dX10_area_14 (v := 1) (by decide) ?_
    refine s_bipush hC dX10_area_15 (v := 20) (by decide) ?_
    refine s_callV hC (x := v0) (avs := [vI v2, vI (1 : Int32), vI (20 : Int32)]) (st := []) (nest := false) xc10 (m_X10_in hI v0 v2 (1 : Int32) (20 : Int32) μ5) dX10_area_17 qm_X10_245 qi_X10_in qs_X10_in qc_X10 qd_X10_in qh_X10_in (by decide) (fun _ => Nat.le_of_ble_eq_true rfl) (Nat.le_of_ble_eq_true rfl) (fun v6 μ7 => ?_)
    refine s_if_ne hC dX10_area_20 (tgt := 26) (by decide) ?_ ?_
    · refine s_aload_n hC 0 dX10_area_26 rfl ?_
      refine s_getR hC xc10 (by decide) rfl qf_X10_22 dX10_area_27 ?_
      refine s_ltR (fun v8 => ?_)
      refine s_iload_n hC 1 dX10_area_30 rfl ?_
      refine s_iald hC dX10_area_31 ?_
      refine s_ltI (fun v9 => ?_)
      refine s_istore_n hC dX10_area_32 (by decide) (lv' := [(3, vI v9), (0, vR v0), (1, vI v1), (2, vI v2)]) rfl ?_
      refine s_aload_n hC 1 dX10_area_33 rfl ?_
      refine s_getR hC xc10 (by decide) rfl qf_X10_22 dX10_area_34 ?_
      refine s_ltR (fun v10 => ?_)
      refine s_iload_n hC 2 dX10_area_37 rfl ?_
      refine s_iload_n hC 3 dX10_area_38 rfl ?_
      refine s_iast hC dX10_area_39 ?_
      refine s_ltM (fun μ11 => ?_)
      refine s_iload_n hC 0 dX10_area_40 rfl ?_
      exact s_iret hC hr hlk dX10_area_41
    refine s_bipush hC dX10_area_23 (v := -2) (by decide) ?_
    exact s_iret hC hr hlk dX10_area_25
  refine s_iconst hC dX10_area_10 (v := -1) (by decide) ?_
  exact s_iret hC hr hlk dX10_area_11
theorem dX10_volume_0 : decode cX10_volume 0 = .ok (.aload_n 0, 1) := by decide +kernel
theorem dX10_volume_1 : decode cX10_volume 1 = .ok (.iload_n 1, 1) := by decide +kernel
theorem dX10_volume_2 : decode cX10_volume 2 = .ok (.iconst 0, 1) := by decide +kernel
theorem dX10_volume_3 : decode cX10_volume 3 = .ok (.bipush 60, 2) := by decide +kernel
theorem dX10_volume_5 : decode cX10_volume 5 = .ok (.invokevirtual 245, 3) := by decide +kernel
theorem dX10_volume_8 : decode cX10_volume 8 = .ok (.ifCond .eq 11, 3) := by decide +kernel
theorem dX10_volume_11 : decode cX10_volume 11 = .ok (.aload_n 0, 1) := by decide +kernel
theorem dX10_volume_12 : decode cX10_volume 12 = .ok (.iload_n 1, 1) := by decide +kernel
theorem dX10_volume_13 : decode cX10_volume 13 = .ok (.invokevirtual 249, 3) := by decide +kernel
theorem dX10_volume_16 : decode cX10_volume 16 = .ok (.goto 5, 3) := by decide +kernel
theorem dX10_volume_19 : decode cX10_volume 19 = .ok (.bipush (-2), 2) := by decide +kernel
theorem dX10_volume_21 : decode cX10_volume 21 = .ok (.ireturn, 1) := by decide +kernel
def f_X10_volume (X : x_X) (v0 : Nat) (v1 : Int32) (μ : x_M) : Option (Int32 × x_M) :=
  (ck (x_kd X v0 = 10 + 1) (bd (f_X10_in X v0 v1 (0 : Int32) (60 : Int32) μ) (fun (v3 : Int32) (μ4 : x_M) => (if v3 = 0 then (some ((-2 : Int32), μ4)) else (ck (x_kd X v0 = 10 + 1) (bd (f_X10_volumeOf X v0 v1 μ4) (fun (v5 : Int32) (μ6 : x_M) => (some (v5, μ6)))))))))
set_option maxRecDepth 100000 in
theorem m_X10_volume (hI : x_I X) (v0 : Nat) (v1 : Int32) (μ : x_M) : x_Met X x_Z0 l yX10_volume cX10_volume 2 (some .int) 2 [vR v0, vI v1] μ rkI (f_X10_volume X v0 v1 μ) := by
  refine x_enter hI (by decide +kernel) (Nat.le_of_ble_eq_true rfl) (fun p e s m args below meth c hC hr hlk => ?_)
  unfold f_X10_volume
  refine s_lv (lv' := [(0, vR v0), (1, vI v1)]) [0, 1] rfl ?_
  refine s_aload_n hC 0 dX10_volume_0 rfl ?_
  refine s_iload_n hC 1 dX10_volume_1 rfl ?_
  refine s_iconst hC dX10_volume_2 (v := 0) (by decide) ?_
  refine s_bipush hC dX10_volume_3 (v := 60) (by decide) ?_
  refine s_callV hC (x := v0) (avs := [vI v1, vI (0 : Int32), vI (60 : Int32)]) (st := []) (nest := false) xc10 (m_X10_in hI v0 v1 (0 : Int32) (60 : Int32) μ) dX10_volume_5 qm_X10_245 qi_X10_in qs_X10_in qc_X10 qd_X10_in qh_X10_in (by decide) (fun _ => Nat.le_of_ble_eq_true rfl) (Nat.le_of_ble_eq_true rfl) (fun v3 μ4 => ?_)
  refine s_if_eq hC dX10_volume_8 (tgt := 19) (by decide) ?_ ?_
  · refine s_bipush hC dX10_volume_19 (v := -2) (by decide) ?_
    exact s_iret hC hr hlk dX10_volume_21
  refine s_aload_n hC 0 dX10_volume_11 rfl ?_
  refine s_iload_n hC 1 dX10_volume_12 rfl ?_
  refine s_callV hC (x := v0) (avs := [vI v1]) (st := []) (nest := false) xc10 (m_X10_volumeOf hI v0 v1 μ4) dX10_volume_13 qm_X10_249 qi_X10_volumeOf qs_X10_volumeOf qc_X10 qd_X10_volumeOf qh_X10_volumeOf (by decide) (fun _ => Nat.le_of_ble_eq_true rfl) (Nat.le_of_ble_eq_true rfl) (fun v5 μ6 => ?_)
  refine s_goto hC dX10_volume_16 (tgt := 21) (by decide) ?_
  exact s_iret hC hr hlk dX10_volume_21
theorem dX10_water_0 : decode cX10_water 0 = .ok (.aload_n 0, 1) := by decide +kernel
theorem dX10_water_1 : decode cX10_water 1 = .ok (.iload_n 1, 1) := by decide +kernel
theorem dX10_water_2 : decode cX10_water 2 = .ok (.iconst 0, 1) := by decide +kernel
theorem dX10_water_3 : decode cX10_water 3 = .ok (.sipush 9999, 3) := by decide +kernel
theorem dX10_water_6 : decode cX10_water 6 = .ok (.invokevirtual 245, 3) := by decide +kernel
theorem dX10_water_9 : decode cX10_water 9 = .ok (.ifCond .ne 6, 3) := by decide +kernel
theorem dX10_water_12 : decode cX10_water 12 = .ok (.bipush (-2), 2) := by decide +kernel
theorem dX10_water_14 : decode cX10_water 14 = .ok (.ireturn, 1) := by decide +kernel
theorem dX10_water_15 : decode cX10_water 15 = .ok (.aload_n 0, 1) := by decide +kernel
theorem dX10_water_16 : decode cX10_water 16 = .ok (.getfield 16, 3) := by decide +kernel
theorem dX10_water_19 : decode cX10_water 19 = .ok (.istore_n 2, 1) := by decide +kernel
theorem dX10_water_20 : decode cX10_water 20 = .ok (.aload_n 0, 1) := by decide +kernel
theorem dX10_water_21 : decode cX10_water 21 = .ok (.iload_n 1, 1) := by decide +kernel
theorem dX10_water_22 : decode cX10_water 22 = .ok (.putfield 16, 3) := by decide +kernel
theorem dX10_water_25 : decode cX10_water 25 = .ok (.iload_n 2, 1) := by decide +kernel
theorem dX10_water_26 : decode cX10_water 26 = .ok (.ireturn, 1) := by decide +kernel
def f_X10_water (X : x_X) (v0 : Nat) (v1 : Int32) (μ : x_M) : Option (Int32 × x_M) :=
  (ck (x_kd X v0 = 10 + 1) (bd (f_X10_in X v0 v1 (0 : Int32) (9999 : Int32) μ) (fun (v3 : Int32) (μ4 : x_M) => (if v3 = 0 then (some ((-2 : Int32), μ4)) else (ck (x_kd X v0 = 10 + 1) (lt (μ4.1 v0 2) (fun (v5 : Int32) => (ck (x_kd X v0 = 10 + 1) (lt (x_sI μ4 v0 2 v1) (fun (μ6 : x_M) => (some (v5, μ6))))))))))))
set_option maxRecDepth 100000 in
theorem m_X10_water (hI : x_I X) (v0 : Nat) (v1 : Int32) (μ : x_M) : x_Met X x_Z0 l yX10_water cX10_water 3 (some .int) 2 [vR v0, vI v1] μ rkI (f_X10_water X v0 v1 μ) := by
  refine x_enter hI (by decide +kernel) (Nat.le_of_ble_eq_true rfl) (fun p e s m args below meth c hC hr hlk => ?_)
  unfold f_X10_water
  refine s_lv (lv' := [(0, vR v0), (1, vI v1)]) [0, 1] rfl ?_
  refine s_aload_n hC 0 dX10_water_0 rfl ?_
  refine s_iload_n hC 1 dX10_water_1 rfl ?_
  refine s_iconst hC dX10_water_2 (v := 0) (by decide) ?_
  refine s_sipush hC dX10_water_3 (v := 9999) (by decide) ?_
  refine s_callV hC (x := v0) (avs := [vI v1, vI (0 : Int32), vI (9999 : Int32)]) (st := []) (nest := false) xc10 (m_X10_in hI v0 v1 (0 : Int32) (9999 : Int32) μ) dX10_water_6 qm_X10_245 qi_X10_in qs_X10_in qc_X10 qd_X10_in qh_X10_in (by decide) (fun _ => Nat.le_of_ble_eq_true rfl) (Nat.le_of_ble_eq_true rfl) (fun v3 μ4 => ?_)
  refine s_if_ne hC dX10_water_9 (tgt := 15) (by decide) ?_ ?_
  · refine s_aload_n hC 0 dX10_water_15 rfl ?_
    refine s_getI hC xc10 (by decide) rfl qf_X10_16 dX10_water_16 ?_
    refine s_ltI (fun v5 => ?_)
    refine s_istore_n hC dX10_water_19 (by decide) (lv' := [(2, vI v5), (0, vR v0), (1, vI v1)]) rfl ?_
    refine s_aload_n hC 1 dX10_water_20 rfl ?_
    refine s_iload_n hC 2 dX10_water_21 rfl ?_
    refine s_putI hC xc10 (by decide) rfl rfl qf_X10_16 dX10_water_22 ?_
    refine s_ltM (fun μ6 => ?_)
    refine s_iload_n hC 0 dX10_water_25 rfl ?_
    exact s_iret hC hr hlk dX10_water_26
  refine s_bipush hC dX10_water_12 (v := -2) (by decide) ?_
  exact s_iret hC hr hlk dX10_water_14
theorem dX10_feed_0 : decode cX10_feed 0 = .ok (.aload_n 0, 1) := by decide +kernel
theorem dX10_feed_1 : decode cX10_feed 1 = .ok (.iload_n 1, 1) := by decide +kernel
theorem dX10_feed_2 : decode cX10_feed 2 = .ok (.iconst 0, 1) := by decide +kernel
theorem dX10_feed_3 : decode cX10_feed 3 = .ok (.bipush 127, 2) := by decide +kernel
theorem dX10_feed_5 : decode cX10_feed 5 = .ok (.invokevirtual 245, 3) := by decide +kernel
theorem dX10_feed_8 : decode cX10_feed 8 = .ok (.ifCond .ne 6, 3) := by decide +kernel
theorem dX10_feed_11 : decode cX10_feed 11 = .ok (.bipush (-2), 2) := by decide +kernel
theorem dX10_feed_13 : decode cX10_feed 13 = .ok (.ireturn, 1) := by decide +kernel
theorem dX10_feed_14 : decode cX10_feed 14 = .ok (.aload_n 0, 1) := by decide +kernel
theorem dX10_feed_15 : decode cX10_feed 15 = .ok (.getfield 50, 3) := by decide +kernel
theorem dX10_feed_18 : decode cX10_feed 18 = .ok (.bipush 100, 2) := by decide +kernel
theorem dX10_feed_20 : decode cX10_feed 20 = .ok (.if_icmp .ne 6, 3) := by decide +kernel
theorem dX10_feed_23 : decode cX10_feed 23 = .ok (.bipush (-4), 2) := by decide +kernel
theorem dX10_feed_25 : decode cX10_feed 25 = .ok (.ireturn, 1) := by decide +kernel
theorem dX10_feed_26 : decode cX10_feed 26 = .ok (.aload_n 0, 1) := by decide +kernel
theorem dX10_feed_27 : decode cX10_feed 27 = .ok (.getfield 59, 3) := by decide +kernel
theorem dX10_feed_30 : decode cX10_feed 30 = .ok (.aload_n 0, 1) := by decide +kernel
theorem dX10_feed_31 : decode cX10_feed 31 = .ok (.getfield 50, 3) := by decide +kernel
theorem dX10_feed_34 : decode cX10_feed 34 = .ok (.iload_n 1, 1) := by decide +kernel
theorem dX10_feed_35 : decode cX10_feed 35 = .ok (.iastore, 1) := by decide +kernel
theorem dX10_feed_36 : decode cX10_feed 36 = .ok (.aload_n 0, 1) := by decide +kernel
theorem dX10_feed_37 : decode cX10_feed 37 = .ok (.dup, 1) := by decide +kernel
theorem dX10_feed_38 : decode cX10_feed 38 = .ok (.getfield 50, 3) := by decide +kernel
theorem dX10_feed_41 : decode cX10_feed 41 = .ok (.iconst 1, 1) := by decide +kernel
theorem dX10_feed_42 : decode cX10_feed 42 = .ok (.iadd, 1) := by decide +kernel
theorem dX10_feed_43 : decode cX10_feed 43 = .ok (.putfield 50, 3) := by decide +kernel
theorem dX10_feed_46 : decode cX10_feed 46 = .ok (.aload_n 0, 1) := by decide +kernel
theorem dX10_feed_47 : decode cX10_feed 47 = .ok (.getfield 50, 3) := by decide +kernel
theorem dX10_feed_50 : decode cX10_feed 50 = .ok (.ireturn, 1) := by decide +kernel
def f_X10_feed (X : x_X) (v0 : Nat) (v1 : Int32) (μ : x_M) : Option (Int32 × x_M) :=
  (ck (x_kd X v0 = 10 + 1) (bd (f_X10_in X v0 v1 (0 : Int32) (127 : Int32) μ) (fun (v3 : Int32) (μ4 : x_M) => (if v3 = 0 then (some ((-2 : Int32), μ4)) else (ck (x_kd X v0 = 10 + 1) (if (μ4.1 v0 13) = (100 : Int32) then (some ((-4 : Int32), μ4)) else (ck (x_kd X v0 = 10 + 1) (lt (μ4.2.1 v0 16) (fun (v5 : Nat) => (ck (x_kd X v0 = 10 + 1) (lt (μ4.1 v0 13) (fun (v6 : Int32) => (ck (x_kd X v5 = 20 ∧ x_ix v6 (x_ln X v5)) (lt (x_sI μ4 v5 (v6).toNatClampNeg v1) (fun (μ7 : x_M) => (ck (x_kd X v0 = 10 + 1) (ck (x_kd X v0 = 10 + 1) (lt (x_sI μ7 v0 13 ((μ7.1 v0 13) + (1 : Int32))) (fun (μ8 : x_M) => (ck (x_kd X v0 = 10 + 1) (some ((μ8.1 v0 13), μ8))))))))))))))))))))))
set_option maxRecDepth 100000 in
theorem m_X10_feed (hI : x_I X) (v0 : Nat) (v1 : Int32) (μ : x_M) : x_Met X x_Z0 l yX10_feed cX10_feed 2 (some .int) 2 [vR v0, vI v1] μ rkI (f_X10_feed X v0 v1 μ) := by
  refine x_enter hI (by decide +kernel) (Nat.le_of_ble_eq_true rfl) (fun p e s m args below meth c hC hr hlk => ?_)
  unfold f_X10_feed
  refine s_lv (lv' := [(0, vR v0), (1, vI v1)]) [0, 1] rfl ?_
  refine s_aload_n hC 0 dX10_feed_0 rfl ?_
  refine s_iload_n hC 1 dX10_feed_1 rfl ?_
  refine s_iconst hC dX10_feed_2 (v := 0) (by decide) ?_
  refine s_bipush hC dX10_feed_3 (v := 127) (by decide) ?_
  refine s_callV hC (x := v0) (avs := [vI v1, vI (0 : Int32), vI (127 : Int32)]) (st := []) (nest := false) xc10 (m_X10_in hI v0 v1 (0 : Int32) (127 : Int32) μ) dX10_feed_5 qm_X10_245 qi_X10_in qs_X10_in qc_X10 qd_X10_in qh_X10_in (by decide) (fun _ => Nat.le_of_ble_eq_true rfl) (Nat.le_of_ble_eq_true rfl) (fun v3 μ4 => ?_)
  refine s_if_ne hC dX10_feed_8 (tgt := 14) (by decide) ?_ ?_
  · refine s_aload_n hC 0 dX10_feed_14 rfl ?_
    refine s_getI hC xc10 (by decide) rfl qf_X10_50 dX10_feed_15 ?_
    refine s_bipush hC dX10_feed_18 (v := 100) (by decide) ?_
    refine s_icmp_ne hC dX10_feed_20 (tgt := 26) (by decide) ?_ ?_
    · refine s_aload_n hC 0 dX10_feed_26 rfl ?_
      refine s_getR hC xc10 (by decide) rfl qf_X10_59 dX10_feed_27 ?_
      refine s_ltR (fun v5 => ?_)
      refine s_aload_n hC 0 dX10_feed_30 rfl ?_
      refine s_getI hC xc10 (by decide) rfl qf_X10_50 dX10_feed_31 ?_
      refine s_iload_n hC 1 dX10_feed_34 rfl ?_
      refine s_ltI2 (fun v6 => ?_)
      refine s_iast hC dX10_feed_35 ?_
      refine s_ltM (fun μ7 => ?_)
      refine s_aload_n hC 0 dX10_feed_36 rfl ?_
      refine s_dupR hC dX10_feed_37 ?_
      refine s_getI hC xc10 (by decide) rfl qf_X10_50 dX10_feed_38 ?_
      refine s_iconst hC dX10_feed_41 (v := 1) (by decide) ?_
      refine s_iadd hC dX10_feed_42 ?_
      refine s_putI hC xc10 (by decide) rfl rfl qf_X10_50 dX10_feed_43 ?_
      refine s_ltM (fun μ8 => ?_)
      refine s_aload_n hC 0 dX10_feed_46 rfl ?_
      refine s_getI hC xc10 (by decide) rfl qf_X10_50 dX10_feed_47 ?_
      exact s_iret hC hr hlk dX10_feed_50
    refine s_bipush hC dX10_feed_23 (v := -4) (by decide) ?_
    exact s_iret hC hr hlk dX10_feed_25
  refine s_bipush hC dX10_feed_11 (v := -2) (by decide) ?_
  exact s_iret hC hr hlk dX10_feed_13
theorem dX10_takes_0 : decode cX10_takes 0 = .ok (.aload_n 0, 1) := by decide +kernel
theorem dX10_takes_1 : decode cX10_takes 1 = .ok (.invokevirtual 260, 3) := by decide +kernel
theorem dX10_takes_4 : decode cX10_takes 4 = .ok (.iload_n 1, 1) := by decide +kernel
theorem dX10_takes_5 : decode cX10_takes 5 = .ok (.if_icmp .eq 5, 3) := by decide +kernel
theorem dX10_takes_8 : decode cX10_takes 8 = .ok (.iconst 0, 1) := by decide +kernel
theorem dX10_takes_9 : decode cX10_takes 9 = .ok (.ireturn, 1) := by decide +kernel
theorem dX10_takes_10 : decode cX10_takes 10 = .ok (.aload_n 0, 1) := by decide +kernel
theorem dX10_takes_11 : decode cX10_takes 11 = .ok (.dup, 1) := by decide +kernel
theorem dX10_takes_12 : decode cX10_takes 12 = .ok (.getfield 53, 3) := by decide +kernel
theorem dX10_takes_15 : decode cX10_takes 15 = .ok (.iconst 1, 1) := by decide +kernel
theorem dX10_takes_16 : decode cX10_takes 16 = .ok (.iadd, 1) := by decide +kernel
theorem dX10_takes_17 : decode cX10_takes 17 = .ok (.putfield 53, 3) := by decide +kernel
theorem dX10_takes_20 : decode cX10_takes 20 = .ok (.iconst 1, 1) := by decide +kernel
theorem dX10_takes_21 : decode cX10_takes 21 = .ok (.ireturn, 1) := by decide +kernel
def f_X10_takes (X : x_X) (v0 : Nat) (v1 : Int32) (μ : x_M) : Option (Int32 × x_M) :=
  (ck (x_kd X v0 = 10 + 1) (bd (f_X10_next X v0 μ) (fun (v3 : Int32) (μ4 : x_M) => (if v3 = v1 then (ck (x_kd X v0 = 10 + 1) (ck (x_kd X v0 = 10 + 1) (lt (x_sI μ4 v0 14 ((μ4.1 v0 14) + (1 : Int32))) (fun (μ5 : x_M) => (ck ((1 : Int32) = 0 ∨ (1 : Int32) = 1) (some ((1 : Int32), μ5))))))) else (ck ((0 : Int32) = 0 ∨ (0 : Int32) = 1) (some ((0 : Int32), μ4)))))))
set_option maxRecDepth 100000 in
theorem m_X10_takes (hI : x_I X) (v0 : Nat) (v1 : Int32) (μ : x_M) : x_Met X x_Z0 l yX10_takes cX10_takes 2 (some .boolean) 2 [vR v0, vI v1] μ rkI (f_X10_takes X v0 v1 μ) := by
  refine x_enter hI (by decide +kernel) (Nat.le_of_ble_eq_true rfl) (fun p e s m args below meth c hC hr hlk => ?_)
  unfold f_X10_takes
  refine s_lv (lv' := [(0, vR v0), (1, vI v1)]) [0, 1] rfl ?_
  refine s_aload_n hC 0 dX10_takes_0 rfl ?_
  refine s_callV hC (x := v0) (avs := []) (st := []) (nest := false) xc10 (m_X10_next hI v0 μ) dX10_takes_1 qm_X10_260 qi_X10_next qs_X10_next qc_X10 qd_X10_next qh_X10_next (by decide) (fun _ => Nat.le_of_ble_eq_true rfl) (Nat.le_of_ble_eq_true rfl) (fun v3 μ4 => ?_)
  refine s_iload_n hC 1 dX10_takes_4 rfl ?_
  refine s_icmp_eq hC dX10_takes_5 (tgt := 10) (by decide) ?_ ?_
  · refine s_aload_n hC 0 dX10_takes_10 rfl ?_
    refine s_dupR hC dX10_takes_11 ?_
    refine s_getI hC xc10 (by decide) rfl qf_X10_53 dX10_takes_12 ?_
    refine s_iconst hC dX10_takes_15 (v := 1) (by decide) ?_
    refine s_iadd hC dX10_takes_16 ?_
    refine s_putI hC xc10 (by decide) rfl rfl qf_X10_53 dX10_takes_17 ?_
    refine s_ltM (fun μ5 => ?_)
    refine s_iconst hC dX10_takes_20 (v := 1) (by decide) ?_
    exact s_zret hC hr hlk dX10_takes_21
  refine s_iconst hC dX10_takes_8 (v := 0) (by decide) ?_
  exact s_zret hC hr hlk dX10_takes_9
theorem dX10_isDigit_0 : decode cX10_isDigit 0 = .ok (.aload_n 0, 1) := by decide +kernel
theorem dX10_isDigit_1 : decode cX10_isDigit 1 = .ok (.aload_n 0, 1) := by decide +kernel
theorem dX10_isDigit_2 : decode cX10_isDigit 2 = .ok (.invokevirtual 260, 3) := by decide +kernel
theorem dX10_isDigit_5 : decode cX10_isDigit 5 = .ok (.bipush 48, 2) := by decide +kernel
theorem dX10_isDigit_7 : decode cX10_isDigit 7 = .ok (.bipush 57, 2) := by decide +kernel
theorem dX10_isDigit_9 : decode cX10_isDigit 9 = .ok (.invokevirtual 245, 3) := by decide +kernel
theorem dX10_isDigit_12 : decode cX10_isDigit 12 = .ok (.ireturn, 1) := by decide +kernel
def f_X10_isDigit (X : x_X) (v0 : Nat) (μ : x_M) : Option (Int32 × x_M) :=
  (ck (x_kd X v0 = 10 + 1) (bd (f_X10_next X v0 μ) (fun (v2 : Int32) (μ3 : x_M) => (ck (x_kd X v0 = 10 + 1) (bd (f_X10_in X v0 v2 (48 : Int32) (57 : Int32) μ3) (fun (v4 : Int32) (μ5 : x_M) => (ck (v4 = 0 ∨ v4 = 1) (some (v4, μ5)))))))))
set_option maxRecDepth 100000 in
theorem m_X10_isDigit (hI : x_I X) (v0 : Nat) (μ : x_M) : x_Met X x_Z0 l yX10_isDigit cX10_isDigit 1 (some .boolean) 2 [vR v0] μ rkI (f_X10_isDigit X v0 μ) := by
  refine x_enter hI (by decide +kernel) (Nat.le_of_ble_eq_true rfl) (fun p e s m args below meth c hC hr hlk => ?_)
  unfold f_X10_isDigit
  refine s_lv (lv' := [(0, vR v0)]) [0] rfl ?_
  refine s_aload_n hC 0 dX10_isDigit_0 rfl ?_
  refine s_aload_n hC 0 dX10_isDigit_1 rfl ?_
  refine s_callV hC (x := v0) (avs := []) (st := [vR v0]) (nest := false) xc10 (m_X10_next hI v0 μ) dX10_isDigit_2 qm_X10_260 qi_X10_next qs_X10_next qc_X10 qd_X10_next qh_X10_next (by decide) (fun _ => Nat.le_of_ble_eq_true rfl) (Nat.le_of_ble_eq_true rfl) (fun v2 μ3 => ?_)
  refine s_bipush hC dX10_isDigit_5 (v := 48) (by decide) ?_
  refine s_bipush hC dX10_isDigit_7 (v := 57) (by decide) ?_
  refine s_callV hC (x := v0) (avs := [vI v2, vI (48 : Int32), vI (57 : Int32)]) (st := []) (nest := false) xc10 (m_X10_in hI v0 v2 (48 : Int32) (57 : Int32) μ3) dX10_isDigit_9 qm_X10_245 qi_X10_in qs_X10_in qc_X10 qd_X10_in qh_X10_in (by decide) (fun _ => Nat.le_of_ble_eq_true rfl) (Nat.le_of_ble_eq_true rfl) (fun v4 μ5 => ?_)
  exact s_zret hC hr hlk dX10_isDigit_12
theorem dX10_whole_0 : decode cX10_whole 0 = .ok (.aload_n 0, 1) := by decide +kernel
theorem dX10_whole_1 : decode cX10_whole 1 = .ok (.getfield 86, 3) := by decide +kernel
theorem dX10_whole_4 : decode cX10_whole 4 = .ok (.ifCond .le 48, 3) := by decide +kernel
theorem dX10_whole_7 : decode cX10_whole 7 = .ok (.aload_n 0, 1) := by decide +kernel
theorem dX10_whole_8 : decode cX10_whole 8 = .ok (.getfield 80, 3) := by decide +kernel
theorem dX10_whole_11 : decode cX10_whole 11 = .ok (.aload_n 0, 1) := by decide +kernel
theorem dX10_whole_12 : decode cX10_whole 12 = .ok (.getfield 86, 3) := by decide +kernel
theorem dX10_whole_15 : decode cX10_whole 15 = .ok (.iconst 1, 1) := by decide +kernel
theorem dX10_whole_16 : decode cX10_whole 16 = .ok (.isub, 1) := by decide +kernel
theorem dX10_whole_17 : decode cX10_whole 17 = .ok (.iaload, 1) := by decide +kernel
theorem dX10_whole_18 : decode cX10_whole 18 = .ok (.bipush 33, 2) := by decide +kernel
theorem dX10_whole_20 : decode cX10_whole 20 = .ok (.if_icmp .ne 32, 3) := by decide +kernel
theorem dX10_whole_23 : decode cX10_whole 23 = .ok (.aload_n 0, 1) := by decide +kernel
theorem dX10_whole_24 : decode cX10_whole 24 = .ok (.bipush (-33), 2) := by decide +kernel
theorem dX10_whole_26 : decode cX10_whole 26 = .ok (.invokevirtual 271, 3) := by decide +kernel
theorem dX10_whole_29 : decode cX10_whole 29 = .ok (.aload_n 0, 1) := by decide +kernel
theorem dX10_whole_30 : decode cX10_whole 30 = .ok (.dup, 1) := by decide +kernel
theorem dX10_whole_31 : decode cX10_whole 31 = .ok (.getfield 86, 3) := by decide +kernel
theorem dX10_whole_34 : decode cX10_whole 34 = .ok (.iconst 1, 1) := by decide +kernel
theorem dX10_whole_35 : decode cX10_whole 35 = .ok (.isub, 1) := by decide +kernel
theorem dX10_whole_36 : decode cX10_whole 36 = .ok (.putfield 86, 3) := by decide +kernel
theorem dX10_whole_39 : decode cX10_whole 39 = .ok (.aload_n 0, 1) := by decide +kernel
theorem dX10_whole_40 : decode cX10_whole 40 = .ok (.dup, 1) := by decide +kernel
theorem dX10_whole_41 : decode cX10_whole 41 = .ok (.getfield 89, 3) := by decide +kernel
theorem dX10_whole_44 : decode cX10_whole 44 = .ok (.iconst 1, 1) := by decide +kernel
theorem dX10_whole_45 : decode cX10_whole 45 = .ok (.isub, 1) := by decide +kernel
theorem dX10_whole_46 : decode cX10_whole 46 = .ok (.putfield 89, 3) := by decide +kernel
theorem dX10_whole_49 : decode cX10_whole 49 = .ok (.goto (-49), 3) := by decide +kernel
theorem dX10_whole_52 : decode cX10_whole 52 = .ok (.return_, 1) := by decide +kernel
def f_X10_whole_L0 (X : x_X) : Nat → Nat → x_M → Option (Unit × x_M)
  | 0, _, _ => none
  | n + 1, v2, μ3 =>
    (ck (x_kd X v2 = 10 + 1) (if (μ3.1 v2 25) ≤ 0 then (some ((), μ3)) else (ck (x_kd X v2 = 10 + 1) (lt (μ3.2.1 v2 23) (fun (v4 : Nat) => (ck (x_kd X v2 = 10 + 1) (lt ((μ3.1 v2 25) - (1 : Int32)) (fun (v5 : Int32) => (ck ((x_kd X v4 = 20 ∨ x_kd X v4 = 40) ∧ x_ix v5 (x_ln X v4)) (if (μ3.1 v4 (v5).toNatClampNeg) = (33 : Int32) then (ck (x_kd X v2 = 10 + 1) (bd (f_X10_emits X v2 (-33 : Int32) μ3) (fun (_ : Unit) (μ6 : x_M) => (ck (x_kd X v2 = 10 + 1) (ck (x_kd X v2 = 10 + 1) (lt (x_sI μ6 v2 25 ((μ6.1 v2 25) - (1 : Int32))) (fun (μ7 : x_M) => (ck (x_kd X v2 = 10 + 1) (ck (x_kd X v2 = 10 + 1) (lt (x_sI μ7 v2 26 ((μ7.1 v2 26) - (1 : Int32))) (fun (μ8 : x_M) => (f_X10_whole_L0 X n v2 μ8)))))))))))) else (some ((), μ3))))))))))))
set_option maxRecDepth 100000 in
theorem j_X10_whole_L0 (hI : x_I X) (hC : x_C X x_Z0 p (x_rm 2) s m c cX10_whole RX10 1 0 0 2) (hr : meth.sig.returnType = none) (hlk : meth.locks = false) : ∀ (n : Nat) (v2 : Nat) (μ3 : x_M), SM X 1 2 rkV p l e s m args below meth c 0 [(0, vR v2)] [] μ3 (f_X10_whole_L0 X n v2 μ3) := by
  intro n
  induction n with
  | zero => intro v2 μ3; exact s_none
  | succ n ih =>
    intro v2 μ3
    unfold f_X10_whole_L0
    refine s_aload_n hC 0 dX10_whole_0 rfl ?_
    refine s_getI hC xc10 (by decide) rfl qf_X10_86 dX10_whole_1 ?_
    refine s_if_le hC dX10_whole_4 (tgt := 52) (by decide) ?_ ?_
    · exact s_vret hC hr hlk dX10_whole_52
    refine s_aload_n hC 0 dX10_whole_7 rfl ?_
    refine s_getR hC xc10 (by decide) rfl qf_X10_80 dX10_whole_8 ?_
    refine s_ltR (fun v4 => ?_)
    refine s_aload_n hC 0 dX10_whole_11 rfl ?_
    refine s_getI hC xc10 (by decide) rfl qf_X10_86 dX10_whole_12 ?_
    refine s_iconst hC dX10_whole_15 (v := 1) (by decide) ?_
    refine s_isub hC dX10_whole_16 ?_
    refine s_ltI (fun v5 => ?_)
    refine s_iald hC dX10_whole_17 ?_
    refine s_bipush hC dX10_whole_18 (v := 33) (by decide) ?_
    refine s_icmp_ne hC dX10_whole_20 (tgt := 52) (by decide) ?_ ?_
    · exact s_vret hC hr hlk dX10_whole_52
    refine s_aload_n hC 0 dX10_whole_23 rfl ?_
    refine s_bipush hC dX10_whole_24 (v := -33) (by decide) ?_
    refine s_callV hC (x := v2) (avs := [vI (-33 : Int32)]) (st := []) (nest := false) xc10 (m_X10_emits hI v2 (-33 : Int32) μ3) dX10_whole_26 qm_X10_271 qi_X10_emits qs_X10_emits qc_X10 qd_X10_emits qh_X10_emits (by decide) (fun _ => Nat.le_of_ble_eq_true rfl) (Nat.le_of_ble_eq_true rfl) (fun _ μ6 => ?_)
    refine s_aload_n hC 0 dX10_whole_29 rfl ?_
    refine s_dupR hC dX10_whole_30 ?_
    refine s_getI hC xc10 (by decide) rfl qf_X10_86 dX10_whole_31 ?_
    refine s_iconst hC dX10_whole_34 (v := 1) (by decide) ?_
    refine s_isub hC dX10_whole_35 ?_
    refine s_putI hC xc10 (by decide) rfl rfl qf_X10_86 dX10_whole_36 ?_
    refine s_ltM (fun μ7 => ?_)
    refine s_aload_n hC 0 dX10_whole_39 rfl ?_
    refine s_dupR hC dX10_whole_40 ?_
    refine s_getI hC xc10 (by decide) rfl qf_X10_89 dX10_whole_41 ?_
    refine s_iconst hC dX10_whole_44 (v := 1) (by decide) ?_
    refine s_isub hC dX10_whole_45 ?_
    refine s_putI hC xc10 (by decide) rfl rfl qf_X10_89 dX10_whole_46 ?_
    refine s_ltM (fun μ8 => ?_)
    refine s_goto hC dX10_whole_49 (tgt := 0) (by decide) ?_
    exact ih _ _
def f_X10_whole (X : x_X) (v0 : Nat) (μ : x_M) : Option (Unit × x_M) :=
  (f_X10_whole_L0 X 4096 v0 μ)
set_option maxRecDepth 100000 in
theorem m_X10_whole (hI : x_I X) (v0 : Nat) (μ : x_M) : x_Met X x_Z0 l yX10_whole cX10_whole 1 none 2 [vR v0] μ rkV (f_X10_whole X v0 μ) := by
  refine x_enter hI (by decide +kernel) (Nat.le_of_ble_eq_true rfl) (fun p e s m args below meth c hC hr hlk => ?_)
  unfold f_X10_whole
  refine s_lv (lv' := [(0, vR v0)]) [0] rfl ?_
  refine j_X10_whole_L0 hI hC hr hlk 4096 _ _
theorem dX10_settle_0 : decode cX10_settle 0 = .ok (.aload_n 0, 1) := by decide +kernel
theorem dX10_settle_1 : decode cX10_settle 1 = .ok (.getfield 86, 3) := by decide +kernel
theorem dX10_settle_4 : decode cX10_settle 4 = .ok (.ifCond .le 68, 3) := by decide +kernel
theorem dX10_settle_7 : decode cX10_settle 7 = .ok (.aload_n 0, 1) := by decide +kernel
theorem dX10_settle_8 : decode cX10_settle 8 = .ok (.getfield 80, 3) := by decide +kernel
theorem dX10_settle_11 : decode cX10_settle 11 = .ok (.aload_n 0, 1) := by decide +kernel
theorem dX10_settle_12 : decode cX10_settle 12 = .ok (.getfield 86, 3) := by decide +kernel
theorem dX10_settle_15 : decode cX10_settle 15 = .ok (.iconst 1, 1) := by decide +kernel
theorem dX10_settle_16 : decode cX10_settle 16 = .ok (.isub, 1) := by decide +kernel
theorem dX10_settle_17 : decode cX10_settle 17 = .ok (.iaload, 1) := by decide +kernel
theorem dX10_settle_18 : decode cX10_settle 18 = .ok (.bipush 38, 2) := by decide +kernel
theorem dX10_settle_20 : decode cX10_settle 20 = .ok (.if_icmp .eq 25, 3) := by decide +kernel
theorem dX10_settle_23 : decode cX10_settle 23 = .ok (.aload_n 0, 1) := by decide +kernel
theorem dX10_settle_24 : decode cX10_settle 24 = .ok (.getfield 80, 3) := by decide +kernel
theorem dX10_settle_27 : decode cX10_settle 27 = .ok (.aload_n 0, 1) := by decide +kernel
theorem dX10_settle_28 : decode cX10_settle 28 = .ok (.getfield 86, 3) := by decide +kernel
theorem dX10_settle_31 : decode cX10_settle 31 = .ok (.iconst 1, 1) := by decide +kernel
theorem dX10_settle_32 : decode cX10_settle 32 = .ok (.isub, 1) := by decide +kernel
theorem dX10_settle_33 : decode cX10_settle 33 = .ok (.iaload, 1) := by decide +kernel
theorem dX10_settle_34 : decode cX10_settle 34 = .ok (.bipush 124, 2) := by decide +kernel
theorem dX10_settle_36 : decode cX10_settle 36 = .ok (.if_icmp .ne 36, 3) := by decide +kernel
theorem dX10_settle_39 : decode cX10_settle 39 = .ok (.iload_n 1, 1) := by decide +kernel
theorem dX10_settle_40 : decode cX10_settle 40 = .ok (.bipush 38, 2) := by decide +kernel
theorem dX10_settle_42 : decode cX10_settle 42 = .ok (.if_icmp .eq 30, 3) := by decide +kernel
theorem dX10_settle_45 : decode cX10_settle 45 = .ok (.aload_n 0, 1) := by decide +kernel
theorem dX10_settle_46 : decode cX10_settle 46 = .ok (.dup, 1) := by decide +kernel
theorem dX10_settle_47 : decode cX10_settle 47 = .ok (.getfield 86, 3) := by decide +kernel
theorem dX10_settle_50 : decode cX10_settle 50 = .ok (.iconst 1, 1) := by decide +kernel
theorem dX10_settle_51 : decode cX10_settle 51 = .ok (.isub, 1) := by decide +kernel
theorem dX10_settle_52 : decode cX10_settle 52 = .ok (.putfield 86, 3) := by decide +kernel
theorem dX10_settle_55 : decode cX10_settle 55 = .ok (.aload_n 0, 1) := by decide +kernel
theorem dX10_settle_56 : decode cX10_settle 56 = .ok (.aload_n 0, 1) := by decide +kernel
theorem dX10_settle_57 : decode cX10_settle 57 = .ok (.getfield 80, 3) := by decide +kernel
theorem dX10_settle_60 : decode cX10_settle 60 = .ok (.aload_n 0, 1) := by decide +kernel
theorem dX10_settle_61 : decode cX10_settle 61 = .ok (.getfield 86, 3) := by decide +kernel
theorem dX10_settle_64 : decode cX10_settle 64 = .ok (.iaload, 1) := by decide +kernel
theorem dX10_settle_65 : decode cX10_settle 65 = .ok (.ineg, 1) := by decide +kernel
theorem dX10_settle_66 : decode cX10_settle 66 = .ok (.invokevirtual 271, 3) := by decide +kernel
theorem dX10_settle_69 : decode cX10_settle 69 = .ok (.goto (-69), 3) := by decide +kernel
theorem dX10_settle_72 : decode cX10_settle 72 = .ok (.return_, 1) := by decide +kernel
def f_X10_settle_J45 (X : x_X) (k0 : Nat → Int32 → x_M → Option (Unit × x_M)) (v8 : Nat) (v9 : Int32) (μ10 : x_M) : Option (Unit × x_M) :=
  (ck (x_kd X v8 = 10 + 1) (ck (x_kd X v8 = 10 + 1) (lt (x_sI μ10 v8 25 ((μ10.1 v8 25) - (1 : Int32))) (fun (μ11 : x_M) => (ck (x_kd X v8 = 10 + 1) (lt (μ11.2.1 v8 23) (fun (v12 : Nat) => (ck (x_kd X v8 = 10 + 1) (lt (μ11.1 v8 25) (fun (v13 : Int32) => (ck ((x_kd X v12 = 20 ∨ x_kd X v12 = 40) ∧ x_ix v13 (x_ln X v12)) (ck (x_kd X v8 = 10 + 1) (bd (f_X10_emits X v8 (-(μ11.1 v12 (v13).toNatClampNeg)) μ11) (fun (_ : Unit) (μ14 : x_M) => (k0 v8 v9 μ14)))))))))))))))
set_option maxRecDepth 100000 in
theorem j_X10_settle_J45 (hI : x_I X) (hC : x_C X x_Z0 p (x_rm 2) s m c cX10_settle RX10 2 0 0 2) (hr : meth.sig.returnType = none) (hlk : meth.locks = false) {k0 : Nat → Int32 → x_M → Option (Unit × x_M)} (hk0 : ∀ (b0 : Nat) (b1 : Int32) (μ : x_M), SM X 2 2 rkV p l e s m args below meth c 0 [(0, vR b0), (1, vI b1)] [] μ (k0 b0 b1 μ)) (v8 : Nat) (v9 : Int32) (μ10 : x_M) : SM X 2 2 rkV p l e s m args below meth c 45 [(0, vR v8), (1, vI v9)] [] μ10 (f_X10_settle_J45 X k0 v8 v9 μ10) := by
  unfold f_X10_settle_J45
  refine s_aload_n hC 0 dX10_settle_45 rfl ?_
  refine s_dupR hC dX10_settle_46 ?_
  refine s_getI hC xc10 (by decide) rfl qf_X10_86 dX10_settle_47 ?_
  refine s_iconst hC dX10_settle_50 (v := 1) (by decide) ?_
  refine s_isub hC dX10_settle_51 ?_
  refine s_putI hC xc10 (by decide) rfl rfl qf_X10_86 dX10_settle_52 ?_
  refine s_ltM (fun μ11 => ?_)
  refine s_aload_n hC 0 dX10_settle_55 rfl ?_
  refine s_aload_n hC 0 dX10_settle_56 rfl ?_
  refine s_getR hC xc10 (by decide) rfl qf_X10_80 dX10_settle_57 ?_
  refine s_ltR (fun v12 => ?_)
  refine s_aload_n hC 0 dX10_settle_60 rfl ?_
  refine s_getI hC xc10 (by decide) rfl qf_X10_86 dX10_settle_61 ?_
  refine s_ltI (fun v13 => ?_)
  refine s_iald hC dX10_settle_64 ?_
  refine s_ineg hC dX10_settle_65 ?_
  refine s_callV hC (x := v8) (avs := [vI (-(μ11.1 v12 (v13).toNatClampNeg))]) (st := []) (nest := false) xc10 (m_X10_emits hI v8 (-(μ11.1 v12 (v13).toNatClampNeg)) μ11) dX10_settle_66 qm_X10_271 qi_X10_emits qs_X10_emits qc_X10 qd_X10_emits qh_X10_emits (by decide) (fun _ => Nat.le_of_ble_eq_true rfl) (Nat.le_of_ble_eq_true rfl) (fun _ μ14 => ?_)
  refine s_goto hC dX10_settle_69 (tgt := 0) (by decide) ?_
  exact hk0 _ _ _
def f_X10_settle_L0 (X : x_X) : Nat → Nat → Int32 → x_M → Option (Unit × x_M)
  | 0, _, _, _ => none
  | n + 1, v3, v4, μ5 =>
    (ck (x_kd X v3 = 10 + 1) (if (μ5.1 v3 25) ≤ 0 then (some ((), μ5)) else (ck (x_kd X v3 = 10 + 1) (lt (μ5.2.1 v3 23) (fun (v6 : Nat) => (ck (x_kd X v3 = 10 + 1) (lt ((μ5.1 v3 25) - (1 : Int32)) (fun (v7 : Int32) => (ck ((x_kd X v6 = 20 ∨ x_kd X v6 = 40) ∧ x_ix v7 (x_ln X v6)) (if (μ5.1 v6 (v7).toNatClampNeg) = (38 : Int32) then (f_X10_settle_J45 X (f_X10_settle_L0 X n) v3 v4 μ5) else (ck (x_kd X v3 = 10 + 1) (lt (μ5.2.1 v3 23) (fun (v15 : Nat) => (ck (x_kd X v3 = 10 + 1) (lt ((μ5.1 v3 25) - (1 : Int32)) (fun (v16 : Int32) => (ck ((x_kd X v15 = 20 ∨ x_kd X v15 = 40) ∧ x_ix v16 (x_ln X v15)) (if (μ5.1 v15 (v16).toNatClampNeg) = (124 : Int32) then (if v4 = (38 : Int32) then (some ((), μ5)) else (f_X10_settle_J45 X (f_X10_settle_L0 X n) v3 v4 μ5)) else (some ((), μ5))))))))))))))))))))
set_option maxRecDepth 100000 in
theorem j_X10_settle_L0 (hI : x_I X) (hC : x_C X x_Z0 p (x_rm 2) s m c cX10_settle RX10 2 0 0 2) (hr : meth.sig.returnType = none) (hlk : meth.locks = false) : ∀ (n : Nat) (v3 : Nat) (v4 : Int32) (μ5 : x_M), SM X 2 2 rkV p l e s m args below meth c 0 [(0, vR v3), (1, vI v4)] [] μ5 (f_X10_settle_L0 X n v3 v4 μ5) := by
  intro n
  induction n with
  | zero => intro v3 v4 μ5; exact s_none
  | succ n ih =>
    intro v3 v4 μ5
    unfold f_X10_settle_L0
    refine s_aload_n hC 0 dX10_settle_0 rfl ?_
    refine s_getI hC xc10 (by decide) rfl qf_X10_86 dX10_settle_1 ?_
    refine s_if_le hC dX10_settle_4 (tgt := 72) (by decide) ?_ ?_
    · exact s_vret hC hr hlk dX10_settle_72
    refine s_aload_n hC 0 dX10_settle_7 rfl ?_
    refine s_getR hC xc10 (by decide) rfl qf_X10_80 dX10_settle_8 ?_
    refine s_ltR (fun v6 => ?_)
    refine s_aload_n hC 0 dX10_settle_11 rfl ?_
    refine s_getI hC xc10 (by decide) rfl qf_X10_86 dX10_settle_12 ?_
    refine s_iconst hC dX10_settle_15 (v := 1) (by decide) ?_
    refine s_isub hC dX10_settle_16 ?_
    refine s_ltI (fun v7 => ?_)
    refine s_iald hC dX10_settle_17 ?_
    refine s_bipush hC dX10_settle_18 (v := 38) (by decide) ?_
    refine s_icmp_eq hC dX10_settle_20 (tgt := 45) (by decide) ?_ ?_
    · exact j_X10_settle_J45 hI hC hr hlk ih _ _ _
    refine s_aload_n hC 0 dX10_settle_23 rfl ?_
    refine s_getR hC xc10 (by decide) rfl qf_X10_80 dX10_settle_24 ?_
    refine s_ltR (fun v15 => ?_)
    refine s_aload_n hC 0 dX10_settle_27 rfl ?_
    refine s_getI hC xc10 (by decide) rfl qf_X10_86 dX10_settle_28 ?_
    refine s_iconst hC dX10_settle_31 (v := 1) (by decide) ?_
    refine s_isub hC dX10_settle_32 ?_
    refine s_ltI (fun v16 => ?_)
    refine s_iald hC dX10_settle_33 ?_
    refine s_bipush hC dX10_settle_34 (v := 124) (by decide) ?_
    refine s_icmp_ne hC dX10_settle_36 (tgt := 72) (by decide) ?_ ?_
    · exact s_vret hC hr hlk dX10_settle_72
    refine s_iload_n hC 1 dX10_settle_39 rfl ?_
    refine s_bipush hC dX10_settle_40 (v := 38) (by decide) ?_
    refine s_icmp_eq hC dX10_settle_42 (tgt := 72) (by decide) ?_ ?_
    · exact s_vret hC hr hlk dX10_settle_72
    exact j_X10_settle_J45 hI hC hr hlk ih _ _ _
def f_X10_settle (X : x_X) (v0 : Nat) (v1 : Int32) (μ : x_M) : Option (Unit × x_M) :=
  (f_X10_settle_L0 X 4096 v0 v1 μ)
set_option maxRecDepth 100000 in
theorem m_X10_settle (hI : x_I X) (v0 : Nat) (v1 : Int32) (μ : x_M) : x_Met X x_Z0 l yX10_settle cX10_settle 2 none 2 [vR v0, vI v1] μ rkV (f_X10_settle X v0 v1 μ) := by
  refine x_enter hI (by decide +kernel) (Nat.le_of_ble_eq_true rfl) (fun p e s m args below meth c hC hr hlk => ?_)
  unfold f_X10_settle
  refine s_lv (lv' := [(0, vR v0), (1, vI v1)]) [0, 1] rfl ?_
  refine j_X10_settle_L0 hI hC hr hlk 4096 _ _ _
theorem dX10_lastOf_0 : decode cX10_lastOf 0 = .ok (.iload_n 2, 1) := by decide +kernel
theorem dX10_lastOf_1 : decode cX10_lastOf 1 = .ok (.istore_n 3, 1) := by decide +kernel
theorem dX10_lastOf_2 : decode cX10_lastOf 2 = .ok (.aload_n 0, 1) := by decide +kernel
theorem dX10_lastOf_3 : decode cX10_lastOf 3 = .ok (.invokevirtual 309, 3) := by decide +kernel
theorem dX10_lastOf_6 : decode cX10_lastOf 6 = .ok (.istore 4, 2) := by decide +kernel
theorem dX10_lastOf_8 : decode cX10_lastOf 8 = .ok (.iload 4, 2) := by decide +kernel
theorem dX10_lastOf_10 : decode cX10_lastOf 10 = .ok (.aload_n 0, 1) := by decide +kernel
theorem dX10_lastOf_11 : decode cX10_lastOf 11 = .ok (.invokevirtual 312, 3) := by decide +kernel
theorem dX10_lastOf_14 : decode cX10_lastOf 14 = .ok (.if_icmp .ge 32, 3) := by decide +kernel
theorem dX10_lastOf_17 : decode cX10_lastOf 17 = .ok (.aload_n 0, 1) := by decide +kernel
theorem dX10_lastOf_18 : decode cX10_lastOf 18 = .ok (.getfield 65, 3) := by decide +kernel
theorem dX10_lastOf_21 : decode cX10_lastOf 21 = .ok (.iload 4, 2) := by decide +kernel
theorem dX10_lastOf_23 : decode cX10_lastOf 23 = .ok (.iaload, 1) := by decide +kernel
theorem dX10_lastOf_24 : decode cX10_lastOf 24 = .ok (.iload_n 1, 1) := by decide +kernel
theorem dX10_lastOf_25 : decode cX10_lastOf 25 = .ok (.if_icmp .ne 13, 3) := by decide +kernel
theorem dX10_lastOf_28 : decode cX10_lastOf 28 = .ok (.aload_n 0, 1) := by decide +kernel
theorem dX10_lastOf_29 : decode cX10_lastOf 29 = .ok (.getfield 68, 3) := by decide +kernel
theorem dX10_lastOf_32 : decode cX10_lastOf 32 = .ok (.iload 4, 2) := by decide +kernel
theorem dX10_lastOf_34 : decode cX10_lastOf 34 = .ok (.iaload, 1) := by decide +kernel
theorem dX10_lastOf_35 : decode cX10_lastOf 35 = .ok (.goto 4, 3) := by decide +kernel
theorem dX10_lastOf_38 : decode cX10_lastOf 38 = .ok (.iload_n 3, 1) := by decide +kernel
theorem dX10_lastOf_39 : decode cX10_lastOf 39 = .ok (.istore_n 3, 1) := by decide +kernel
theorem dX10_lastOf_40 : decode cX10_lastOf 40 = .ok (.iinc 4 1, 3) := by decide +kernel
theorem dX10_lastOf_43 : decode cX10_lastOf 43 = .ok (.goto (-35), 3) := by decide +kernel
theorem dX10_lastOf_46 : decode cX10_lastOf 46 = .ok (.iload_n 3, 1) := by decide +kernel
theorem dX10_lastOf_47 : decode cX10_lastOf 47 = .ok (.ireturn, 1) := by decide +kernel
def f_X10_lastOf_L8 (X : x_X) : Nat → Nat → Int32 → Int32 → Int32 → x_M → Option (Int32 × x_M)
  | 0, _, _, _, _, _ => none
  | n + 1, v6, v7, v8, v9, μ10 =>
    (ck (x_kd X v6 = 10 + 1) (bd (f_X10_behind X v6 μ10) (fun (v11 : Int32) (μ12 : x_M) => (if v11 ≤ v9 then (some (v8, μ12)) else (ck (x_kd X v6 = 10 + 1) (lt (μ12.2.1 v6 18) (fun (v13 : Nat) => (ck ((x_kd X v13 = 20 ∨ x_kd X v13 = 40) ∧ x_ix v9 (x_ln X v13)) (if (μ12.1 v13 (v9).toNatClampNeg) = v7 then (ck (x_kd X v6 = 10 + 1) (lt (μ12.2.1 v6 19) (fun (v14 : Nat) => (ck ((x_kd X v14 = 20 ∨ x_kd X v14 = 40) ∧ x_ix v9 (x_ln X v14)) (lt (μ12.1 v14 (v9).toNatClampNeg) (fun (v15 : Int32) => (f_X10_lastOf_L8 X n v6 v7 v15 (v9 + (1 : Int32)) μ12))))))) else (f_X10_lastOf_L8 X n v6 v7 v8 (v9 + (1 : Int32)) μ12))))))))))
set_option maxRecDepth 100000 in
theorem j_X10_lastOf_L8 (hI : x_I X) (hC : x_C X x_Z0 p (x_rm 2) s m c cX10_lastOf RX10 5 0 0 2) (hr : meth.sig.returnType = (some .int)) (hlk : meth.locks = false) : ∀ (n : Nat) (v6 : Nat) (v7 : Int32) (v8 : Int32) (v9 : Int32) (μ10 : x_M), SM X 5 2 rkI p l e s m args below meth c 8 [(0, vR v6), (1, vI v7), (3, vI v8), (4, vI v9)] [] μ10 (f_X10_lastOf_L8 X n v6 v7 v8 v9 μ10) := by
  intro n
  induction n with
  | zero => intro v6 v7 v8 v9 μ10; exact s_none
  | succ n ih =>
    intro v6 v7 v8 v9 μ10
    unfold f_X10_lastOf_L8
    refine s_iload hC 3 dX10_lastOf_8 rfl ?_
    refine s_aload_n hC 0 dX10_lastOf_10 rfl ?_
    refine s_callV hC (x := v6) (avs := []) (st := [vI v9]) (nest := false) xc10 (m_X10_behind hI v6 μ10) dX10_lastOf_11 qm_X10_312 qi_X10_behind qs_X10_behind qc_X10 qd_X10_behind qh_X10_behind (by decide) (fun _ => Nat.le_of_ble_eq_true rfl) (Nat.le_of_ble_eq_true rfl) (fun v11 μ12 => ?_)
    refine s_icmp_ge hC dX10_lastOf_14 (tgt := 46) (by decide) ?_ ?_
    · refine s_iload_n hC 2 dX10_lastOf_46 rfl ?_
      exact s_iret hC hr hlk dX10_lastOf_47
    refine s_aload_n hC 0 dX10_lastOf_17 rfl ?_
    refine s_getR hC xc10 (by decide) rfl qf_X10_65 dX10_lastOf_18 ?_
    refine s_ltR (fun v13 => ?_)
    refine s_iload hC 3 dX10_lastOf_21 rfl ?_
    refine s_iald hC dX10_lastOf_23 ?_
    refine s_iload_n hC 1 dX10_lastOf_24 rfl ?_
    refine s_icmp_ne hC dX10_lastOf_25 (tgt := 38) (by decide) ?_ ?_
    · refine s_iload_n hC 2 dX10_lastOf_38 rfl ?_
      refine s_istore_n hC dX10_lastOf_39 (by decide) (lv' := [(3, vI v8), (0, vR v6), (1, vI v7), (4, vI v9)]) rfl ?_
      refine s_iinc hC 3 dX10_lastOf_40 rfl (w := 1) (by decide) (by decide) (lv' := [(4, vI (v9 + (1 : Int32))), (3, vI v8), (0, vR v6), (1, vI v7)]) rfl ?_
      refine s_goto hC dX10_lastOf_43 (tgt := 8) (by decide) ?_
      refine s_lv (lv' := [(0, vR v6), (1, vI v7), (3, vI v8), (4, vI (v9 + (1 : Int32)))]) [2, 3, 1, 0] rfl ?_
      exact ih _ _ _ _ _
    refine s_aload_n hC 0 dX10_lastOf_28 rfl ?_
    refine s_getR hC xc10 (by decide) rfl qf_X10_68 dX10_lastOf_29 ?_
    refine s_ltR (fun v14 => ?_)
    refine s_iload hC 3 dX10_lastOf_32 rfl ?_
    refine s_iald hC dX10_lastOf_34 ?_
    refine s_goto hC dX10_lastOf_35 (tgt := 39) (by decide) ?_
    refine s_ltI (fun v15 => ?_)
    refine s_istore_n hC dX10_lastOf_39 (by decide) (lv' := [(3, vI v15), (0, vR v6), (1, vI v7), (4, vI v9)]) rfl ?_
    refine s_iinc hC 3 dX10_lastOf_40 rfl (w := 1) (by decide) (by decide) (lv' := [(4, vI (v9 + (1 : Int32))), (3, vI v15), (0, vR v6), (1, vI v7)]) rfl ?_
    refine s_goto hC dX10_lastOf_43 (tgt := 8) (by decide) ?_
    refine s_lv (lv' := [(0, vR v6), (1, vI v7), (3, vI v15), (4, vI (v9 + (1 : Int32)))]) [2, 3, 1, 0] rfl ?_
    exact ih _ _ _ _ _
def f_X10_lastOf (X : x_X) (v0 : Nat) (v1 : Int32) (v2 : Int32) (μ : x_M) : Option (Int32 × x_M) :=
  (ck (x_kd X v0 = 10 + 1) (bd (f_X10_begin X v0 μ) (fun (v4 : Int32) (μ5 : x_M) => (f_X10_lastOf_L8 X 4096 v0 v1 v2 v4 μ5))))
set_option maxRecDepth 100000 in
theorem m_X10_lastOf (hI : x_I X) (v0 : Nat) (v1 : Int32) (v2 : Int32) (μ : x_M) : x_Met X x_Z0 l yX10_lastOf cX10_lastOf 5 (some .int) 2 [vR v0, vI v1, vI v2] μ rkI (f_X10_lastOf X v0 v1 v2 μ) := by
  refine x_enter hI (by decide +kernel) (Nat.le_of_ble_eq_true rfl) (fun p e s m args below meth c hC hr hlk => ?_)
  unfold f_X10_lastOf
  refine s_lv (lv' := [(0, vR v0), (1, vI v1), (2, vI v2)]) [0, 1, 2] rfl ?_
  refine s_iload_n hC 2 dX10_lastOf_0 rfl ?_
  refine s_istore_n hC dX10_lastOf_1 (by decide) (lv' := [(3, vI v2), (0, vR v0), (1, vI v1), (2, vI v2)]) rfl ?_
  refine s_aload_n hC 1 dX10_lastOf_2 rfl ?_
  refine s_callV hC (x := v0) (avs := []) (st := []) (nest := false) xc10 (m_X10_begin hI v0 μ) dX10_lastOf_3 qm_X10_309 qi_X10_begin qs_X10_begin qc_X10 qd_X10_begin qh_X10_begin (by decide) (fun _ => Nat.le_of_ble_eq_true rfl) (Nat.le_of_ble_eq_true rfl) (fun v4 μ5 => ?_)
  refine s_istore hC dX10_lastOf_6 (by decide) (lv' := [(4, vI v4), (3, vI v2), (0, vR v0), (1, vI v1), (2, vI v2)]) rfl ?_
  refine s_lv (lv' := [(0, vR v0), (1, vI v1), (3, vI v2), (4, vI v4)]) [2, 3, 1, 0] rfl ?_
  refine j_X10_lastOf_L8 hI hC hr hlk 4096 _ _ _ _ _
theorem dX10_holds_0 : decode cX10_holds 0 = .ok (.iconst 0, 1) := by decide +kernel
theorem dX10_holds_1 : decode cX10_holds 1 = .ok (.istore_n 3, 1) := by decide +kernel
theorem dX10_holds_2 : decode cX10_holds 2 = .ok (.aload_n 0, 1) := by decide +kernel
theorem dX10_holds_3 : decode cX10_holds 3 = .ok (.getfield 71, 3) := by decide +kernel
theorem dX10_holds_6 : decode cX10_holds 6 = .ok (.iload_n 1, 1) := by decide +kernel
theorem dX10_holds_7 : decode cX10_holds 7 = .ok (.iaload, 1) := by decide +kernel
theorem dX10_holds_8 : decode cX10_holds 8 = .ok (.istore 4, 2) := by decide +kernel
theorem dX10_holds_10 : decode cX10_holds 10 = .ok (.iload 4, 2) := by decide +kernel
theorem dX10_holds_12 : decode cX10_holds 12 = .ok (.aload_n 0, 1) := by decide +kernel
theorem dX10_holds_13 : decode cX10_holds 13 = .ok (.getfield 74, 3) := by decide +kernel
theorem dX10_holds_16 : decode cX10_holds 16 = .ok (.iload_n 1, 1) := by decide +kernel
theorem dX10_holds_17 : decode cX10_holds 17 = .ok (.iaload, 1) := by decide +kernel
theorem dX10_holds_18 : decode cX10_holds 18 = .ok (.if_icmp .ge 225, 3) := by decide +kernel
theorem dX10_holds_21 : decode cX10_holds 21 = .ok (.aload_n 0, 1) := by decide +kernel
theorem dX10_holds_22 : decode cX10_holds 22 = .ok (.getfield 77, 3) := by decide +kernel
theorem dX10_holds_25 : decode cX10_holds 25 = .ok (.iload 4, 2) := by decide +kernel
theorem dX10_holds_27 : decode cX10_holds 27 = .ok (.iaload, 1) := by decide +kernel
theorem dX10_holds_28 : decode cX10_holds 28 = .ok (.istore 5, 2) := by decide +kernel
theorem dX10_holds_30 : decode cX10_holds 30 = .ok (.iload 5, 2) := by decide +kernel
theorem dX10_holds_32 : decode cX10_holds 32 = .ok (.bipush (-33), 2) := by decide +kernel
theorem dX10_holds_34 : decode cX10_holds 34 = .ok (.if_icmp .ne 30, 3) := by decide +kernel
theorem dX10_holds_37 : decode cX10_holds 37 = .ok (.aload_n 0, 1) := by decide +kernel
theorem dX10_holds_38 : decode cX10_holds 38 = .ok (.getfield 95, 3) := by decide +kernel
theorem dX10_holds_41 : decode cX10_holds 41 = .ok (.iload_n 3, 1) := by decide +kernel
theorem dX10_holds_42 : decode cX10_holds 42 = .ok (.iconst 1, 1) := by decide +kernel
theorem dX10_holds_43 : decode cX10_holds 43 = .ok (.isub, 1) := by decide +kernel
theorem dX10_holds_44 : decode cX10_holds 44 = .ok (.aload_n 0, 1) := by decide +kernel
theorem dX10_holds_45 : decode cX10_holds 45 = .ok (.getfield 95, 3) := by decide +kernel
theorem dX10_holds_48 : decode cX10_holds 48 = .ok (.iload_n 3, 1) := by decide +kernel
theorem dX10_holds_49 : decode cX10_holds 49 = .ok (.iconst 1, 1) := by decide +kernel
theorem dX10_holds_50 : decode cX10_holds 50 = .ok (.isub, 1) := by decide +kernel
theorem dX10_holds_51 : decode cX10_holds 51 = .ok (.baload, 1) := by decide +kernel
theorem dX10_holds_52 : decode cX10_holds 52 = .ok (.ifCond .ne 7, 3) := by decide +kernel
theorem dX10_holds_55 : decode cX10_holds 55 = .ok (.iconst 1, 1) := by decide +kernel
theorem dX10_holds_56 : decode cX10_holds 56 = .ok (.goto 4, 3) := by decide +kernel
theorem dX10_holds_59 : decode cX10_holds 59 = .ok (.iconst 0, 1) := by decide +kernel
theorem dX10_holds_60 : decode cX10_holds 60 = .ok (.bastore, 1) := by decide +kernel
theorem dX10_holds_61 : decode cX10_holds 61 = .ok (.goto 176, 3) := by decide +kernel
theorem dX10_holds_64 : decode cX10_holds 64 = .ok (.iload 5, 2) := by decide +kernel
theorem dX10_holds_66 : decode cX10_holds 66 = .ok (.ifCond .ge 77, 3) := by decide +kernel
theorem dX10_holds_69 : decode cX10_holds 69 = .ok (.iinc 3 (-1), 3) := by decide +kernel
theorem dX10_holds_72 : decode cX10_holds 72 = .ok (.aload_n 0, 1) := by decide +kernel
theorem dX10_holds_73 : decode cX10_holds 73 = .ok (.getfield 95, 3) := by decide +kernel
theorem dX10_holds_76 : decode cX10_holds 76 = .ok (.iload_n 3, 1) := by decide +kernel
theorem dX10_holds_77 : decode cX10_holds 77 = .ok (.iconst 1, 1) := by decide +kernel
theorem dX10_holds_78 : decode cX10_holds 78 = .ok (.isub, 1) := by decide +kernel
theorem dX10_holds_79 : decode cX10_holds 79 = .ok (.iload 5, 2) := by decide +kernel
theorem dX10_holds_81 : decode cX10_holds 81 = .ok (.bipush (-38), 2) := by decide +kernel
theorem dX10_holds_83 : decode cX10_holds 83 = .ok (.if_icmp .ne 31, 3) := by decide +kernel
theorem dX10_holds_86 : decode cX10_holds 86 = .ok (.aload_n 0, 1) := by decide +kernel
theorem dX10_holds_87 : decode cX10_holds 87 = .ok (.getfield 95, 3) := by decide +kernel
theorem dX10_holds_90 : decode cX10_holds 90 = .ok (.iload_n 3, 1) := by decide +kernel
theorem dX10_holds_91 : decode cX10_holds 91 = .ok (.iconst 1, 1) := by decide +kernel
theorem dX10_holds_92 : decode cX10_holds 92 = .ok (.isub, 1) := by decide +kernel
theorem dX10_holds_93 : decode cX10_holds 93 = .ok (.baload, 1) := by decide +kernel
theorem dX10_holds_94 : decode cX10_holds 94 = .ok (.ifCond .eq 16, 3) := by decide +kernel
theorem dX10_holds_97 : decode cX10_holds 97 = .ok (.aload_n 0, 1) := by decide +kernel
theorem dX10_holds_98 : decode cX10_holds 98 = .ok (.getfield 95, 3) := by decide +kernel
theorem dX10_holds_101 : decode cX10_holds 101 = .ok (.iload_n 3, 1) := by decide +kernel
theorem dX10_holds_102 : decode cX10_holds 102 = .ok (.baload, 1) := by decide +kernel
theorem dX10_holds_103 : decode cX10_holds 103 = .ok (.ifCond .eq 7, 3) := by decide +kernel
theorem dX10_holds_106 : decode cX10_holds 106 = .ok (.iconst 1, 1) := by decide +kernel
theorem dX10_holds_107 : decode cX10_holds 107 = .ok (.goto 32, 3) := by decide +kernel
theorem dX10_holds_110 : decode cX10_holds 110 = .ok (.iconst 0, 1) := by decide +kernel
theorem dX10_holds_111 : decode cX10_holds 111 = .ok (.goto 28, 3) := by decide +kernel
theorem dX10_holds_114 : decode cX10_holds 114 = .ok (.aload_n 0, 1) := by decide +kernel
theorem dX10_holds_115 : decode cX10_holds 115 = .ok (.getfield 95, 3) := by decide +kernel
theorem dX10_holds_118 : decode cX10_holds 118 = .ok (.iload_n 3, 1) := by decide +kernel
theorem dX10_holds_119 : decode cX10_holds 119 = .ok (.iconst 1, 1) := by decide +kernel
theorem dX10_holds_120 : decode cX10_holds 120 = .ok (.isub, 1) := by decide +kernel
theorem dX10_holds_121 : decode cX10_holds 121 = .ok (.baload, 1) := by decide +kernel
theorem dX10_holds_122 : decode cX10_holds 122 = .ok (.ifCond .ne 12, 3) := by decide +kernel
theorem dX10_holds_125 : decode cX10_holds 125 = .ok (.aload_n 0, 1) := by decide +kernel
theorem dX10_holds_126 : decode cX10_holds 126 = .ok (.getfield 95, 3) := by decide +kernel
theorem dX10_holds_129 : decode cX10_holds 129 = .ok (.iload_n 3, 1) := by decide +kernel
theorem dX10_holds_130 : decode cX10_holds 130 = .ok (.baload, 1) := by decide +kernel
theorem dX10_holds_131 : decode cX10_holds 131 = .ok (.ifCond .eq 7, 3) := by decide +kernel
theorem dX10_holds_134 : decode cX10_holds 134 = .ok (.iconst 1, 1) := by decide +kernel
theorem dX10_holds_135 : decode cX10_holds 135 = .ok (.goto 4, 3) := by decide +kernel
theorem dX10_holds_138 : decode cX10_holds 138 = .ok (.iconst 0, 1) := by decide +kernel
theorem dX10_holds_139 : decode cX10_holds 139 = .ok (.bastore, 1) := by decide +kernel
theorem dX10_holds_140 : decode cX10_holds 140 = .ok (.goto 97, 3) := by decide +kernel
theorem dX10_holds_143 : decode cX10_holds 143 = .ok (.aload_n 0, 1) := by decide +kernel
theorem dX10_holds_144 : decode cX10_holds 144 = .ok (.iload 5, 2) := by decide +kernel
theorem dX10_holds_146 : decode cX10_holds 146 = .ok (.sipush 1000, 3) := by decide +kernel
theorem dX10_holds_149 : decode cX10_holds 149 = .ok (.idiv, 1) := by decide +kernel
theorem dX10_holds_150 : decode cX10_holds 150 = .ok (.iload_n 2, 1) := by decide +kernel
theorem dX10_holds_151 : decode cX10_holds 151 = .ok (.invokevirtual 319, 3) := by decide +kernel
theorem dX10_holds_154 : decode cX10_holds 154 = .ok (.istore 6, 2) := by decide +kernel
theorem dX10_holds_156 : decode cX10_holds 156 = .ok (.iload 5, 2) := by decide +kernel
theorem dX10_holds_158 : decode cX10_holds 158 = .ok (.bipush 100, 2) := by decide +kernel
theorem dX10_holds_160 : decode cX10_holds 160 = .ok (.idiv, 1) := by decide +kernel
theorem dX10_holds_161 : decode cX10_holds 161 = .ok (.bipush 10, 2) := by decide +kernel
theorem dX10_holds_163 : decode cX10_holds 163 = .ok (.irem, 1) := by decide +kernel
theorem dX10_holds_164 : decode cX10_holds 164 = .ok (.istore 7, 2) := by decide +kernel
theorem dX10_holds_166 : decode cX10_holds 166 = .ok (.aload_n 0, 1) := by decide +kernel
theorem dX10_holds_167 : decode cX10_holds 167 = .ok (.getfield 95, 3) := by decide +kernel
theorem dX10_holds_170 : decode cX10_holds 170 = .ok (.iload_n 3, 1) := by decide +kernel
theorem dX10_holds_171 : decode cX10_holds 171 = .ok (.iload 7, 2) := by decide +kernel
theorem dX10_holds_173 : decode cX10_holds 173 = .ok (.ifCond .ne 21, 3) := by decide +kernel
theorem dX10_holds_176 : decode cX10_holds 176 = .ok (.iload 6, 2) := by decide +kernel
theorem dX10_holds_178 : decode cX10_holds 178 = .ok (.iload 5, 2) := by decide +kernel
theorem dX10_holds_180 : decode cX10_holds 180 = .ok (.bipush 100, 2) := by decide +kernel
theorem dX10_holds_182 : decode cX10_holds 182 = .ok (.irem, 1) := by decide +kernel
theorem dX10_holds_183 : decode cX10_holds 183 = .ok (.if_icmp .ge 7, 3) := by decide +kernel
theorem dX10_holds_186 : decode cX10_holds 186 = .ok (.iconst 1, 1) := by decide +kernel
theorem dX10_holds_187 : decode cX10_holds 187 = .ok (.goto 46, 3) := by decide +kernel
theorem dX10_holds_190 : decode cX10_holds 190 = .ok (.iconst 0, 1) := by decide +kernel
theorem dX10_holds_191 : decode cX10_holds 191 = .ok (.goto 42, 3) := by decide +kernel
theorem dX10_holds_194 : decode cX10_holds 194 = .ok (.iload 7, 2) := by decide +kernel
theorem dX10_holds_196 : decode cX10_holds 196 = .ok (.iconst 1, 1) := by decide +kernel
theorem dX10_holds_197 : decode cX10_holds 197 = .ok (.if_icmp .ne 21, 3) := by decide +kernel
theorem dX10_holds_200 : decode cX10_holds 200 = .ok (.iload 6, 2) := by decide +kernel
theorem dX10_holds_202 : decode cX10_holds 202 = .ok (.iload 5, 2) := by decide +kernel
theorem dX10_holds_204 : decode cX10_holds 204 = .ok (.bipush 100, 2) := by decide +kernel
theorem dX10_holds_206 : decode cX10_holds 206 = .ok (.irem, 1) := by decide +kernel
theorem dX10_holds_207 : decode cX10_holds 207 = .ok (.if_icmp .ne 7, 3) := by decide +kernel
theorem dX10_holds_210 : decode cX10_holds 210 = .ok (.iconst 1, 1) := by decide +kernel
theorem dX10_holds_211 : decode cX10_holds 211 = .ok (.goto 22, 3) := by decide +kernel
theorem dX10_holds_214 : decode cX10_holds 214 = .ok (.iconst 0, 1) := by decide +kernel
theorem dX10_holds_215 : decode cX10_holds 215 = .ok (.goto 18, 3) := by decide +kernel
theorem dX10_holds_218 : decode cX10_holds 218 = .ok (.iload 6, 2) := by decide +kernel
theorem dX10_holds_220 : decode cX10_holds 220 = .ok (.iload 5, 2) := by decide +kernel
theorem dX10_holds_222 : decode cX10_holds 222 = .ok (.bipush 100, 2) := by decide +kernel
theorem dX10_holds_224 : decode cX10_holds 224 = .ok (.irem, 1) := by decide +kernel
theorem dX10_holds_225 : decode cX10_holds 225 = .ok (.if_icmp .le 7, 3) := by decide +kernel
theorem dX10_holds_228 : decode cX10_holds 228 = .ok (.iconst 1, 1) := by decide +kernel
theorem dX10_holds_229 : decode cX10_holds 229 = .ok (.goto 4, 3) := by decide +kernel
theorem dX10_holds_232 : decode cX10_holds 232 = .ok (.iconst 0, 1) := by decide +kernel
theorem dX10_holds_233 : decode cX10_holds 233 = .ok (.bastore, 1) := by decide +kernel
theorem dX10_holds_234 : decode cX10_holds 234 = .ok (.iinc 3 1, 3) := by decide +kernel
theorem dX10_holds_237 : decode cX10_holds 237 = .ok (.iinc 4 1, 3) := by decide +kernel
theorem dX10_holds_240 : decode cX10_holds 240 = .ok (.goto (-230), 3) := by decide +kernel
theorem dX10_holds_243 : decode cX10_holds 243 = .ok (.aload_n 0, 1) := by decide +kernel
theorem dX10_holds_244 : decode cX10_holds 244 = .ok (.getfield 95, 3) := by decide +kernel
theorem dX10_holds_247 : decode cX10_holds 247 = .ok (.iconst 0, 1) := by decide +kernel
theorem dX10_holds_248 : decode cX10_holds 248 = .ok (.baload, 1) := by decide +kernel
theorem dX10_holds_249 : decode cX10_holds 249 = .ok (.ireturn, 1) := by decide +kernel
def f_X10_holds_L10 (X : x_X) : Nat → Nat → Int32 → Int32 → Int32 → Int32 → x_M → Option (Int32 × x_M)
  | 0, _, _, _, _, _, _ => none
  | n + 1, v6, v7, v8, v9, v10, μ11 =>
    (ck (x_kd X v6 = 10 + 1) (lt (μ11.2.1 v6 21) (fun (v12 : Nat) => (ck ((x_kd X v12 = 20 ∨ x_kd X v12 = 40) ∧ x_ix v7 (x_ln X v12)) (if (μ11.1 v12 (v7).toNatClampNeg) ≤ v10 then (ck (x_kd X v6 = 10 + 1) (lt (μ11.2.1 v6 28) (fun (v13 : Nat) => (ck ((x_kd X v13 = 22 ∨ x_kd X v13 = 41) ∧ x_ix (0 : Int32) (x_ln X v13)) (lt (μ11.1 v13 ((0 : Int32)).toNatClampNeg) (fun (v14 : Int32) => (ck (v14 = 0 ∨ v14 = 1) (some (v14, μ11))))))))) else (ck (x_kd X v6 = 10 + 1) (lt (μ11.2.1 v6 22) (fun (v15 : Nat) => (ck ((x_kd X v15 = 20 ∨ x_kd X v15 = 40) ∧ x_ix v10 (x_ln X v15)) (lt (μ11.1 v15 (v10).toNatClampNeg) (fun (v16 : Int32) => (if v16 = (-33 : Int32) then (ck (x_kd X v6 = 10 + 1) (lt (μ11.2.1 v6 28) (fun (v49 : Nat) => (ck (x_kd X v6 = 10 + 1) (lt (μ11.2.1 v6 28) (fun (v50 : Nat) => (lt (v9 - (1 : Int32)) (fun (v51 : Int32) => (ck ((x_kd X v50 = 22 ∨ x_kd X v50 = 41) ∧ x_ix v51 (x_ln X v50)) (if (μ11.1 v50 (v51).toNatClampNeg) = 0 then (lt (v9 - (1 : Int32)) (fun (v54 : Int32) => (ck (x_kd X v49 = 22 ∧ x_ix v54 (x_ln X v49)) (lt (x_sI μ11 v49 (v54).toNatClampNeg (vp_nar .boolean (1 : Int32))) (fun (μ55 : x_M) => (f_X10_holds_L10 X n v6 v7 v8 v9 (v10 + (1 : Int32)) μ55)))))) else (lt (v9 - (1 : Int32)) (fun (v52 : Int32) => (ck (x_kd X v49 = 22 ∧ x_ix v52 (x_ln X v49)) (lt (x_sI μ11 v49 (v52).toNatClampNeg (vp_nar .boolean (0 : Int32))) (fun (μ53 : x_M) => (f_X10_holds_L10 X n v6 v7 v8 v9 (v10 + (1 : Int32)) μ53)))))))))))))))) else (if 0 ≤ v16 then (ck (¬ (1000 : Int32) = 0) (ck (x_kd X v6 = 10 + 1) (bd (f_X10_factOf X v6 (v16 / (1000 : Int32)) v8 μ11) (fun (v17 : Int32) (μ18 : x_M) => (ck (¬ (100 : Int32) = 0) (lt (v16 / (100 : Int32)) (fun (v19 : Int32) => (ck (¬ (10 : Int32) = 0) (lt (v19 - v19 / (10 : Int32) * (10 : Int32)) (fun (v20 : Int32) => (ck (x_kd X v6 = 10 + 1) (lt (μ18.2.1 v6 28) (fun (v21 : Nat) => (if v20 = 0 then (ck (¬ (100 : Int32) = 0) (if (v16 - v16 / (100 : Int32) * (100 : Int32)) ≤ v17 then (ck (x_kd X v21 = 22 ∧ x_ix v9 (x_ln X v21)) (lt (x_sI μ18 v21 (v9).toNatClampNeg (vp_nar .boolean (0 : Int32))) (fun (μ26 : x_M) => (f_X10_holds_L10 X n v6 v7 v8 (v9 + (1 : Int32)) (v10 + (1 : Int32)) μ26)))) else (ck (x_kd X v21 = 22 ∧ x_ix v9 (x_ln X v21)) (lt (x_sI μ18 v21 (v9).toNatClampNeg (vp_nar .boolean (1 : Int32))) (fun (μ27 : x_M) => (f_X10_holds_L10 X n v6 v7 v8 (v9 + (1 : Int32)) (v10 + (1 : Int32)) μ27)))))) else (if v20 = (1 : Int32) then (ck (¬ (100 : Int32) = 0) (if v17 = (v16 - v16 / (100 : Int32) * (100 : Int32)) then (ck (x_kd X v21 = 22 ∧ x_ix v9 (x_ln X v21)) (lt (x_sI μ18 v21 (v9).toNatClampNeg (vp_nar .boolean (1 : Int32))) (fun (μ25 : x_M) => (f_X10_holds_L10 X n v6 v7 v8 (v9 + (1 : Int32)) (v10 + (1 : Int32)) μ25)))) else (ck (x_kd X v21 = 22 ∧ x_ix v9 (x_ln X v21)) (lt (x_sI μ18 v21 (v9).toNatClampNeg (vp_nar .boolean (0 : Int32))) (fun (μ24 : x_M) => (f_X10_holds_L10 X n v6 v7 v8 (v9 + (1 : Int32)) (v10 + (1 : Int32)) μ24)))))) else (ck (¬ (100 : Int32) = 0) (if v17 ≤ (v16 - v16 / (100 : Int32) * (100 : Int32)) then (ck (x_kd X v21 = 22 ∧ x_ix v9 (x_ln X v21)) (lt (x_sI μ18 v21 (v9).toNatClampNeg (vp_nar .boolean (0 : Int32))) (fun (μ22 : x_M) => (f_X10_holds_L10 X n v6 v7 v8 (v9 + (1 : Int32)) (v10 + (1 : Int32)) μ22)))) else (ck (x_kd X v21 = 22 ∧ x_ix v9 (x_ln X v21)) (lt (x_sI μ18 v21 (v9).toNatClampNeg (vp_nar .boolean (1 : Int32))) (fun (μ23 : x_M) => (f_X10_holds_L10 X n v6 v7 v8 (v9 + (1 : Int32)) (v10 + (1 : Int32)) μ23))))))))))))))))))))) else (ck (x_kd X v6 = 10 + 1) (lt (μ11.2.1 v6 28) (fun (v28 : Nat) => (if v16 = (-38 : Int32) then (ck (x_kd X v6 = 10 + 1) (lt (μ11.2.1 v6 28) (fun (v39 : Nat) => (lt ((v9 + (-1 : Int32)) - (1 : Int32)) (fun (v40 : Int32) => (ck ((x_kd X v39 = 22 ∨ x_kd X v39 = 41) ∧ x_ix v40 (x_ln X v39)) (if (μ11.1 v39 (v40).toNatClampNeg) = 0 then (lt ((v9 + (-1 : Int32)) - (1 : Int32)) (fun (v41 : Int32) => (ck (x_kd X v28 = 22 ∧ x_ix v41 (x_ln X v28)) (lt (x_sI μ11 v28 (v41).toNatClampNeg (vp_nar .boolean (0 : Int32))) (fun (μ42 : x_M) => (f_X10_holds_L10 X n v6 v7 v8 (v9 + (-1 : Int32)) (v10 + (1 : Int32)) μ42)))))) else (ck (x_kd X v6 = 10 + 1) (lt (μ11.2.1 v6 28) (fun (v43 : Nat) => (lt (v9 + (-1 : Int32)) (fun (v44 : Int32) => (ck ((x_kd X v43 = 22 ∨ x_kd X v43 = 41) ∧ x_ix v44 (x_ln X v43)) (if (μ11.1 v43 (v44).toNatClampNeg) = 0 then (lt ((v9 + (-1 : Int32)) - (1 : Int32)) (fun (v45 : Int32) => (ck (x_kd X v28 = 22 ∧ x_ix v45 (x_ln X v28)) (lt (x_sI μ11 v28 (v45).toNatClampNeg (vp_nar .boolean (0 : Int32))) (fun (μ46 : x_M) => (f_X10_holds_L10 X n v6 v7 v8 (v9 + (-1 : Int32)) (v10 + (1 : Int32)) μ46)))))) else (lt ((v9 + (-1 : Int32)) - (1 : Int32)) (fun (v47 : Int32) => (ck (x_kd X v28 = 22 ∧ x_ix v47 (x_ln X v28)) (lt (x_sI μ11 v28 (v47).toNatClampNeg (vp_nar .boolean (1 : Int32))) (fun (μ48 : x_M) => (f_X10_holds_L10 X n v6 v7 v8 (v9 + (-1 : Int32)) (v10 + (1 : Int32)) μ48)))))))))))))))))))) else (ck (x_kd X v6 = 10 + 1) (lt (μ11.2.1 v6 28) (fun (v29 : Nat) => (lt ((v9 + (-1 : Int32)) - (1 : Int32)) (fun (v30 : Int32) => (ck ((x_kd X v29 = 22 ∨ x_kd X v29 = 41) ∧ x_ix v30 (x_ln X v29)) (if (μ11.1 v29 (v30).toNatClampNeg) = 0 then (ck (x_kd X v6 = 10 + 1) (lt (μ11.2.1 v6 28) (fun (v33 : Nat) => (lt (v9 + (-1 : Int32)) (fun (v34 : Int32) => (ck ((x_kd X v33 = 22 ∨ x_kd X v33 = 41) ∧ x_ix v34 (x_ln X v33)) (if (μ11.1 v33 (v34).toNatClampNeg) = 0 then (lt ((v9 + (-1 : Int32)) - (1 : Int32)) (fun (v35 : Int32) => (ck (x_kd X v28 = 22 ∧ x_ix v35 (x_ln X v28)) (lt (x_sI μ11 v28 (v35).toNatClampNeg (vp_nar .boolean (0 : Int32))) (fun (μ36 : x_M) => (f_X10_holds_L10 X n v6 v7 v8 (v9 + (-1 : Int32)) (v10 + (1 : Int32)) μ36)))))) else (lt ((v9 + (-1 : Int32)) - (1 : Int32)) (fun (v37 : Int32) => (ck (x_kd X v28 = 22 ∧ x_ix v37 (x_ln X v28)) (lt (x_sI μ11 v28 (v37).toNatClampNeg (vp_nar .boolean (1 : Int32))) (fun (μ38 : x_M) => (f_X10_holds_L10 X n v6 v7 v8 (v9 + (-1 : Int32)) (v10 + (1 : Int32)) μ38))))))))))))) else (lt ((v9 + (-1 : Int32)) - (1 : Int32)) (fun (v31 : Int32) => (ck (x_kd X v28 = 22 ∧ x_ix v31 (x_ln X v28)) (lt (x_sI μ11 v28 (v31).toNatClampNeg (vp_nar .boolean (1 : Int32))) (fun (μ32 : x_M) => (f_X10_holds_L10 X n v6 v7 v8 (v9 + (-1 : Int32)) (v10 + (1 : Int32)) μ32))))))))))))))))))))))))))))))
set_option maxRecDepth 100000 in
theorem j_X10_holds_L10 (hI : x_I X) (hC : x_C X x_Z0 p (x_rm 2) s m c cX10_holds RX10 8 0 0 2) (hr : meth.sig.returnType = (some .boolean)) (hlk : meth.locks = false) : ∀ (n : Nat) (v6 : Nat) (v7 : Int32) (v8 : Int32) (v9 : Int32) (v10 : Int32) (μ11 : x_M), SM X 8 2 rkI p l e s m args below meth c 10 [(0, vR v6), (1, vI v7), (2, vI v8), (3, vI v9), (4, vI v10)] [] μ11 (f_X10_holds_L10 X n v6 v7 v8 v9 v10 μ11) := by
  intro n
  induction n with
  | zero => intro v6 v7 v8 v9 v10 μ11; exact s_none
  | succ n ih =>
    intro v6 v7 v8 v9 v10 μ11
    unfold f_X10_holds_L10
    refine s_iload hC 4 dX10_holds_10 rfl ?_
    refine s_aload_n hC 0 dX10_holds_12 rfl ?_
    refine s_getR hC xc10 (by decide) rfl qf_X10_74 dX10_holds_13 ?_
    refine s_ltR (fun v12 => ?_)
    refine s_iload_n hC 1 dX10_holds_16 rfl ?_
    refine s_iald hC dX10_holds_17 ?_
    refine s_icmp_ge hC dX10_holds_18 (tgt := 243) (by decide) ?_ ?_
    · refine s_aload_n hC 0 dX10_holds_243 rfl ?_
      refine s_getR hC xc10 (by decide) rfl qf_X10_95 dX10_holds_244 ?_
      refine s_ltR (fun v13 => ?_)
      refine s_iconst hC dX10_holds_247 (v := 0) (by decide) ?_
      refine s_bald hC dX10_holds_248 ?_
      refine s_ltI (fun v14 => ?_)
      exact s_zret hC hr hlk dX10_holds_249
    refine s_aload_n hC 0 dX10_holds_21 rfl ?_
    refine s_getR hC xc10 (by decide) rfl qf_X10_77 dX10_holds_22 ?_
    refine s_ltR (fun v15 => ?_)
    refine s_iload hC 4 dX10_holds_25 rfl ?_
    refine s_iald hC dX10_holds_27 ?_
    refine s_ltI (fun v16 => ?_)
    refine s_istore hC dX10_holds_28 (by decide) (lv' := [(5, vI v16), (0, vR v6), (1, vI v7), (2, vI v8), (3, vI v9), (4, vI v10)]) rfl ?_
    refine s_iload hC 0 dX10_holds_30 rfl ?_
    refine s_bipush hC dX10_holds_32 (v := -33) (by decide) ?_
    refine s_icmp_ne hC dX10_holds_34 (tgt := 64) (by decide) ?_ ?_
    · refine s_iload hC 0 dX10_holds_64 rfl ?_
      refine s_if_ge hC dX10_holds_66 (tgt := 143) (by decide) ?_ ?_
      · refine s_aload_n hC 1 dX10_holds_143 rfl ?_
        refine s_iload hC 0 dX10_holds_144 rfl ?_
        refine s_sipush hC dX10_holds_146 (v := 1000) (by decide) ?_
        refine s_idiv hC dX10_holds_149 ?_
        refine s_iload_n hC 3 dX10_holds_150 rfl ?_
        refine s_callV hC (x := v6) (avs := [vI (v16 / (1000 : Int32)), vI v8]) (st := []) (nest := false) xc10 (m_X10_factOf hI v6 (v16 / (1000 : Int32)) v8 μ11) dX10_holds_151 qm_X10_319 qi_X10_factOf qs_X10_factOf qc_X10 qd_X10_factOf qh_X10_factOf (by decide) (fun _ => Nat.le_of_ble_eq_true rfl) (Nat.le_of_ble_eq_true rfl) (fun v17 μ18 => ?_)
        refine s_istore hC dX10_holds_154 (by decide) (lv' := [(6, vI v17), (5, vI v16), (0, vR v6), (1, vI v7), (2, vI v8), (3, vI v9), (4, vI v10)]) rfl ?_
        refine s_iload hC 1 dX10_holds_156 rfl ?_
        refine s_bipush hC dX10_holds_158 (v := 100) (by decide) ?_
        refine s_idiv hC dX10_holds_160 ?_
        refine s_bipush hC dX10_holds_161 (v := 10) (by decide) ?_
        refine s_ltI2 (fun v19 => ?_)
        refine s_irem hC dX10_holds_163 ?_
        refine s_ltI (fun v20 => ?_)
        refine s_istore hC dX10_holds_164 (by decide) (lv' := [(7, vI v20), (6, vI v17), (5, vI v16), (0, vR v6), (1, vI v7), (2, vI v8), (3, vI v9), (4, vI v10)]) rfl ?_
        refine s_aload_n hC 3 dX10_holds_166 rfl ?_
        refine s_getR hC xc10 (by decide) rfl qf_X10_95 dX10_holds_167 ?_
        refine s_ltR (fun v21 => ?_)
        refine s_iload_n hC 6 dX10_holds_170 rfl ?_
        refine s_iload hC 0 dX10_holds_171 rfl ?_
        refine s_if_ne hC dX10_holds_173 (tgt := 194) (by decide) ?_ ?_
        · refine s_iload hC 0 dX10_holds_194 rfl ?_
          refine s_iconst hC dX10_holds_196 (v := 1) (by decide) ?_
          refine s_icmp_ne hC dX10_holds_197 (tgt := 218) (by decide) ?_ ?_
          · refine s_iload hC 1 dX10_holds_218 rfl ?_
            refine s_iload hC 2 dX10_holds_220 rfl ?_
            refine s_bipush hC dX10_holds_222 (v := 100) (by decide) ?_
            refine s_irem hC dX10_holds_224 ?_
            refine s_icmp_le hC dX10_holds_225 (tgt := 232) (by decide) ?_ ?_
            · refine s_iconst hC dX10_holds_232 (v := 0) (by decide) ?_
              refine s_zast hC dX10_holds_233 ?_
              refine s_ltM (fun μ22 => ?_)
              refine s_iinc hC 6 dX10_holds_234 rfl (w := 1) (by decide) (by decide) (lv' := [(3, vI (v9 + (1 : Int32))), (7, vI v20), (6, vI v17), (5, vI v16), (0, vR v6), (1, vI v7), (2, vI v8), (4, vI v10)]) rfl ?_
              refine s_iinc hC 7 dX10_holds_237 rfl (w := 1) (by decide) (by decide) (lv' := [(4, vI (v10 + (1 : Int32))), (3, vI (v9 + (1 : Int32))), (7, vI v20), (6, vI v17), (5, vI v16), (0, vR v6), (1, vI v7), (2, vI v8)]) rfl ?_
              refine s_goto hC dX10_holds_240 (tgt := 10) (by decide) ?_
              refine s_lv (lv' := [(0, vR v6), (1, vI v7), (2, vI v8), (3, vI (v9 + (1 : Int32))), (4, vI (v10 + (1 : Int32)))]) [5, 6, 7, 1, 0] rfl ?_
              exact ih _ _ _ _ _ _
            refine s_iconst hC dX10_holds_228 (v := 1) (by decide) ?_
            refine s_goto hC dX10_holds_229 (tgt := 233) (by decide) ?_
            refine s_zast hC dX10_holds_233 ?_
            refine s_ltM (fun μ23 => ?_)
            refine s_iinc hC 6 dX10_holds_234 rfl (w := 1) (by decide) (by decide) (lv' := [(3, vI (v9 + (1 : Int32))), (7, vI v20), (6, vI v17), (5, vI v16), (0, vR v6), (1, vI v7), (2, vI v8), (4, vI v10)]) rfl ?_
            refine s_iinc hC 7 dX10_holds_237 rfl (w := 1) (by decide) (by decide) (lv' := [(4, vI (v10 + (1 : Int32))), (3, vI (v9 + (1 : Int32))), (7, vI v20), (6, vI v17), (5, vI v16), (0, vR v6), (1, vI v7), (2, vI v8)]) rfl ?_
            refine s_goto hC dX10_holds_240 (tgt := 10) (by decide) ?_
            refine s_lv (lv' := [(0, vR v6), (1, vI v7), (2, vI v8), (3, vI (v9 + (1 : Int32))), (4, vI (v10 + (1 : Int32)))]) [5, 6, 7, 1, 0] rfl ?_
            exact ih _ _ _ _ _ _
          refine s_iload hC 1 dX10_holds_200 rfl ?_
          refine s_iload hC 2 dX10_holds_202 rfl ?_
          refine s_bipush hC dX10_holds_204 (v := 100) (by decide) ?_
          refine s_irem hC dX10_holds_206 ?_
          refine s_icmp_ne hC dX10_holds_207 (tgt := 214) (by decide) ?_ ?_
          · refine s_iconst hC dX10_holds_214 (v := 0) (by decide) ?_
            refine s_goto hC dX10_holds_215 (tgt := 233) (by decide) ?_
            refine s_zast hC dX10_holds_233 ?_
            refine s_ltM (fun μ24 => ?_)
            refine s_iinc hC 6 dX10_holds_234 rfl (w := 1) (by decide) (by decide) (lv' := [(3, vI (v9 + (1 : Int32))), (7, vI v20), (6, vI v17), (5, vI v16), (0, vR v6), (1, vI v7), (2, vI v8), (4, vI v10)]) rfl ?_
            refine s_iinc hC 7 dX10_holds_237 rfl (w := 1) (by decide) (by decide) (lv' := [(4, vI (v10 + (1 : Int32))), (3, vI (v9 + (1 : Int32))), (7, vI v20), (6, vI v17), (5, vI v16), (0, vR v6), (1, vI v7), (2, vI v8)]) rfl ?_
            refine s_goto hC dX10_holds_240 (tgt := 10) (by decide) ?_
            refine s_lv (lv' := [(0, vR v6), (1, vI v7), (2, vI v8), (3, vI (v9 + (1 : Int32))), (4, vI (v10 + (1 : Int32)))]) [5, 6, 7, 1, 0] rfl ?_
            exact ih _ _ _ _ _ _
          refine s_iconst hC dX10_holds_210 (v := 1) (by decide) ?_
          refine s_goto hC dX10_holds_211 (tgt := 233) (by decide) ?_
          refine s_zast hC dX10_holds_233 ?_
          refine s_ltM (fun μ25 => ?_)
          refine s_iinc hC 6 dX10_holds_234 rfl (w := 1) (by decide) (by decide) (lv' := [(3, vI (v9 + (1 : Int32))), (7, vI v20), (6, vI v17), (5, vI v16), (0, vR v6), (1, vI v7), (2, vI v8), (4, vI v10)]) rfl ?_
          refine s_iinc hC 7 dX10_holds_237 rfl (w := 1) (by decide) (by decide) (lv' := [(4, vI (v10 + (1 : Int32))), (3, vI (v9 + (1 : Int32))), (7, vI v20), (6, vI v17), (5, vI v16), (0, vR v6), (1, vI v7), (2, vI v8)]) rfl ?_
          refine s_goto hC dX10_holds_240 (tgt := 10) (by decide) ?_
          refine s_lv (lv' := [(0, vR v6), (1, vI v7), (2, vI v8), (3, vI (v9 + (1 : Int32))), (4, vI (v10 + (1 : Int32)))]) [5, 6, 7, 1, 0] rfl ?_
          exact ih _ _ _ _ _ _
        refine s_iload hC 1 dX10_holds_176 rfl ?_
        refine s_iload hC 2 dX10_holds_178 rfl ?_
        refine s_bipush hC dX10_holds_180 (v := 100) (by decide) ?_
        refine s_irem hC dX10_holds_182 ?_
        refine s_icmp_ge hC dX10_holds_183 (tgt := 190) (by decide) ?_ ?_
        · refine s_iconst hC dX10_holds_190 (v := 0) (by decide) ?_
          refine s_goto hC dX10_holds_191 (tgt := 233) (by decide) ?_
          refine s_zast hC dX10_holds_233 ?_
          refine s_ltM (fun μ26 => ?_)
          refine s_iinc hC 6 dX10_holds_234 rfl (w := 1) (by decide) (by decide) (lv' := [(3, vI (v9 + (1 : Int32))), (7, vI v20), (6, vI v17), (5, vI v16), (0, vR v6), (1, vI v7), (2, vI v8), (4, vI v10)]) rfl ?_
          refine s_iinc hC 7 dX10_holds_237 rfl (w := 1) (by decide) (by decide) (lv' := [(4, vI (v10 + (1 : Int32))), (3, vI (v9 + (1 : Int32))), (7, vI v20), (6, vI v17), (5, vI v16), (0, vR v6), (1, vI v7), (2, vI v8)]) rfl ?_
          refine s_goto hC dX10_holds_240 (tgt := 10) (by decide) ?_
          refine s_lv (lv' := [(0, vR v6), (1, vI v7), (2, vI v8), (3, vI (v9 + (1 : Int32))), (4, vI (v10 + (1 : Int32)))]) [5, 6, 7, 1, 0] rfl ?_
          exact ih _ _ _ _ _ _
        refine s_iconst hC dX10_holds_186 (v := 1) (by decide) ?_
        refine s_goto hC dX10_holds_187 (tgt := 233) (by decide) ?_
        refine s_zast hC dX10_holds_233 ?_
        refine s_ltM (fun μ27 => ?_)
        refine s_iinc hC 6 dX10_holds_234 rfl (w := 1) (by decide) (by decide) (lv' := [(3, vI (v9 + (1 : Int32))), (7, vI v20), (6, vI v17), (5, vI v16), (0, vR v6), (1, vI v7), (2, vI v8), (4, vI v10)]) rfl ?_
        refine s_iinc hC 7 dX10_holds_237 rfl (w := 1) (by decide) (by decide) (lv' := [(4, vI (v10 + (1 : Int32))), (3, vI (v9 + (1 : Int32))), (7, vI v20), (6, vI v17), (5, vI v16), (0, vR v6), (1, vI v7), (2, vI v8)]) rfl ?_
        refine s_goto hC dX10_holds_240 (tgt := 10) (by decide) ?_
        refine s_lv (lv' := [(0, vR v6), (1, vI v7), (2, vI v8), (3, vI (v9 + (1 : Int32))), (4, vI (v10 + (1 : Int32)))]) [5, 6, 7, 1, 0] rfl ?_
        exact ih _ _ _ _ _ _
      refine s_iinc hC 4 dX10_holds_69 rfl (w := -1) (by decide) (by decide) (lv' := [(3, vI (v9 + (-1 : Int32))), (5, vI v16), (0, vR v6), (1, vI v7), (2, vI v8), (4, vI v10)]) rfl ?_
      refine s_aload_n hC 2 dX10_holds_72 rfl ?_
      refine s_getR hC xc10 (by decide) rfl qf_X10_95 dX10_holds_73 ?_
      refine s_ltR (fun v28 => ?_)
      refine s_iload_n hC 0 dX10_holds_76 rfl ?_
      refine s_iconst hC dX10_holds_77 (v := 1) (by decide) ?_
      refine s_isub hC dX10_holds_78 ?_
      refine s_iload hC 1 dX10_holds_79 rfl ?_
      refine s_bipush hC dX10_holds_81 (v := -38) (by decide) ?_
      refine s_icmp_ne hC dX10_holds_83 (tgt := 114) (by decide) ?_ ?_
      · refine s_aload_n hC 2 dX10_holds_114 rfl ?_
        refine s_getR hC xc10 (by decide) rfl qf_X10_95 dX10_holds_115 ?_
        refine s_ltR (fun v29 => ?_)
        refine s_iload_n hC 0 dX10_holds_118 rfl ?_
        refine s_iconst hC dX10_holds_119 (v := 1) (by decide) ?_
        refine s_isub hC dX10_holds_120 ?_
        refine s_ltI (fun v30 => ?_)
        refine s_bald hC dX10_holds_121 ?_
        refine s_if_ne hC dX10_holds_122 (tgt := 134) (by decide) ?_ ?_
        · refine s_iconst hC dX10_holds_134 (v := 1) (by decide) ?_
          refine s_goto hC dX10_holds_135 (tgt := 139) (by decide) ?_
          refine s_ltI2 (fun v31 => ?_)
          refine s_zast hC dX10_holds_139 ?_
          refine s_ltM (fun μ32 => ?_)
          refine s_goto hC dX10_holds_140 (tgt := 237) (by decide) ?_
          refine s_iinc hC 5 dX10_holds_237 rfl (w := 1) (by decide) (by decide) (lv' := [(4, vI (v10 + (1 : Int32))), (3, vI (v9 + (-1 : Int32))), (5, vI v16), (0, vR v6), (1, vI v7), (2, vI v8)]) rfl ?_
          refine s_goto hC dX10_holds_240 (tgt := 10) (by decide) ?_
          refine s_lv (lv' := [(0, vR v6), (1, vI v7), (2, vI v8), (3, vI (v9 + (-1 : Int32))), (4, vI (v10 + (1 : Int32)))]) [3, 4, 5, 1, 0] rfl ?_
          exact ih _ _ _ _ _ _
        refine s_aload_n hC 2 dX10_holds_125 rfl ?_
        refine s_getR hC xc10 (by decide) rfl qf_X10_95 dX10_holds_126 ?_
        refine s_ltR (fun v33 => ?_)
        refine s_iload_n hC 0 dX10_holds_129 rfl ?_
        refine s_ltI (fun v34 => ?_)
        refine s_bald hC dX10_holds_130 ?_
        refine s_if_eq hC dX10_holds_131 (tgt := 138) (by decide) ?_ ?_
        · refine s_iconst hC dX10_holds_138 (v := 0) (by decide) ?_
          refine s_ltI2 (fun v35 => ?_)
          refine s_zast hC dX10_holds_139 ?_
          refine s_ltM (fun μ36 => ?_)
          refine s_goto hC dX10_holds_140 (tgt := 237) (by decide) ?_
          refine s_iinc hC 5 dX10_holds_237 rfl (w := 1) (by decide) (by decide) (lv' := [(4, vI (v10 + (1 : Int32))), (3, vI (v9 + (-1 : Int32))), (5, vI v16), (0, vR v6), (1, vI v7), (2, vI v8)]) rfl ?_
          refine s_goto hC dX10_holds_240 (tgt := 10) (by decide) ?_
          refine s_lv (lv' := [(0, vR v6), (1, vI v7), (2, vI v8), (3, vI (v9 + (-1 : Int32))), (4, vI (v10 + (1 : Int32)))]) [3, 4, 5, 1, 0] rfl ?_
          exact ih _ _ _ _ _ _
        refine s_iconst hC dX10_holds_134 (v := 1) (by decide) ?_
        refine s_goto hC dX10_holds_135 (tgt := 139) (by decide) ?_
        refine s_ltI2 (fun v37 => ?_)
        refine s_zast hC dX10_holds_139 ?_
        refine s_ltM (fun μ38 => ?_)
        refine s_goto hC dX10_holds_140 (tgt := 237) (by decide) ?_
        refine s_iinc hC 5 dX10_holds_237 rfl (w := 1) (by decide) (by decide) (lv' := [(4, vI (v10 + (1 : Int32))), (3, vI (v9 + (-1 : Int32))), (5, vI v16), (0, vR v6), (1, vI v7), (2, vI v8)]) rfl ?_
        refine s_goto hC dX10_holds_240 (tgt := 10) (by decide) ?_
        refine s_lv (lv' := [(0, vR v6), (1, vI v7), (2, vI v8), (3, vI (v9 + (-1 : Int32))), (4, vI (v10 + (1 : Int32)))]) [3, 4, 5, 1, 0] rfl ?_
        exact ih _ _ _ _ _ _
      refine s_aload_n hC 2 dX10_holds_86 rfl ?_
      refine s_getR hC xc10 (by decide) rfl qf_X10_95 dX10_holds_87 ?_
      refine s_ltR (fun v39 => ?_)
      refine s_iload_n hC 0 dX10_holds_90 rfl ?_
      refine s_iconst hC dX10_holds_91 (v := 1) (by decide) ?_
      refine s_isub hC dX10_holds_92 ?_
      refine s_ltI (fun v40 => ?_)
      refine s_bald hC dX10_holds_93 ?_
      refine s_if_eq hC dX10_holds_94 (tgt := 110) (by decide) ?_ ?_
      · refine s_iconst hC dX10_holds_110 (v := 0) (by decide) ?_
        refine s_goto hC dX10_holds_111 (tgt := 139) (by decide) ?_
        refine s_ltI2 (fun v41 => ?_)
        refine s_zast hC dX10_holds_139 ?_
        refine s_ltM (fun μ42 => ?_)
        refine s_goto hC dX10_holds_140 (tgt := 237) (by decide) ?_
        refine s_iinc hC 5 dX10_holds_237 rfl (w := 1) (by decide) (by decide) (lv' := [(4, vI (v10 + (1 : Int32))), (3, vI (v9 + (-1 : Int32))), (5, vI v16), (0, vR v6), (1, vI v7), (2, vI v8)]) rfl ?_
        refine s_goto hC dX10_holds_240 (tgt := 10) (by decide) ?_
        refine s_lv (lv' := [(0, vR v6), (1, vI v7), (2, vI v8), (3, vI (v9 + (-1 : Int32))), (4, vI (v10 + (1 : Int32)))]) [3, 4, 5, 1, 0] rfl ?_
        exact ih _ _ _ _ _ _
      refine s_aload_n hC 2 dX10_holds_97 rfl ?_
      refine s_getR hC xc10 (by decide) rfl qf_X10_95 dX10_holds_98 ?_
      refine s_ltR (fun v43 => ?_)
      refine s_iload_n hC 0 dX10_holds_101 rfl ?_
      refine s_ltI (fun v44 => ?_)
      refine s_bald hC dX10_holds_102 ?_
      refine s_if_eq hC dX10_holds_103 (tgt := 110) (by decide) ?_ ?_
      · refine s_iconst hC dX10_holds_110 (v := 0) (by decide) ?_
        refine s_goto hC dX10_holds_111 (tgt := 139) (by decide) ?_
        refine s_ltI2 (fun v45 => ?_)
        refine s_zast hC dX10_holds_139 ?_
        refine s_ltM (fun μ46 => ?_)
        refine s_goto hC dX10_holds_140 (tgt := 237) (by decide) ?_
        refine s_iinc hC 5 dX10_holds_237 rfl (w := 1) (by decide) (by decide) (lv' := [(4, vI (v10 + (1 : Int32))), (3, vI (v9 + (-1 : Int32))), (5, vI v16), (0, vR v6), (1, vI v7), (2, vI v8)]) rfl ?_
        refine s_goto hC dX10_holds_240 (tgt := 10) (by decide) ?_
        refine s_lv (lv' := [(0, vR v6), (1, vI v7), (2, vI v8), (3, vI (v9 + (-1 : Int32))), (4, vI (v10 + (1 : Int32)))]) [3, 4, 5, 1, 0] rfl ?_
        exact ih _ _ _ _ _ _
      refine s_iconst hC dX10_holds_106 (v := 1) (by decide) ?_
      refine s_goto hC dX10_holds_107 (tgt := 139) (by decide) ?_
      refine s_ltI2 (fun v47 => ?_)
      refine s_zast hC dX10_holds_139 ?_
      refine s_ltM (fun μ48 => ?_)
      refine s_goto hC dX10_holds_140 (tgt := 237) (by decide) ?_
      refine s_iinc hC 5 dX10_holds_237 rfl (w := 1) (by decide) (by decide) (lv' := [(4, vI (v10 + (1 : Int32))), (3, vI (v9 + (-1 : Int32))), (5, vI v16), (0, vR v6), (1, vI v7), (2, vI v8)]) rfl ?_
      refine s_goto hC dX10_holds_240 (tgt := 10) (by decide) ?_
      refine s_lv (lv' := [(0, vR v6), (1, vI v7), (2, vI v8), (3, vI (v9 + (-1 : Int32))), (4, vI (v10 + (1 : Int32)))]) [3, 4, 5, 1, 0] rfl ?_
      exact ih _ _ _ _ _ _
    refine s_aload_n hC 1 dX10_holds_37 rfl ?_
    refine s_getR hC xc10 (by decide) rfl qf_X10_95 dX10_holds_38 ?_
    refine s_ltR (fun v49 => ?_)
    refine s_iload_n hC 4 dX10_holds_41 rfl ?_
    refine s_iconst hC dX10_holds_42 (v := 1) (by decide) ?_
    refine s_isub hC dX10_holds_43 ?_
    refine s_aload_n hC 1 dX10_holds_44 rfl ?_
    refine s_getR hC xc10 (by decide) rfl qf_X10_95 dX10_holds_45 ?_
    refine s_ltR (fun v50 => ?_)
    refine s_iload_n hC 4 dX10_holds_48 rfl ?_
    refine s_iconst hC dX10_holds_49 (v := 1) (by decide) ?_
    refine s_isub hC dX10_holds_50 ?_
    refine s_ltI (fun v51 => ?_)
    refine s_bald hC dX10_holds_51 ?_
    refine s_if_ne hC dX10_holds_52 (tgt := 59) (by decide) ?_ ?_
    · refine s_iconst hC dX10_holds_59 (v := 0) (by decide) ?_
      refine s_ltI2 (fun v52 => ?_)
      refine s_zast hC dX10_holds_60 ?_
      refine s_ltM (fun μ53 => ?_)
      refine s_goto hC dX10_holds_61 (tgt := 237) (by decide) ?_
      refine s_iinc hC 5 dX10_holds_237 rfl (w := 1) (by decide) (by decide) (lv' := [(4, vI (v10 + (1 : Int32))), (5, vI v16), (0, vR v6), (1, vI v7), (2, vI v8), (3, vI v9)]) rfl ?_
      refine s_goto hC dX10_holds_240 (tgt := 10) (by decide) ?_
      refine s_lv (lv' := [(0, vR v6), (1, vI v7), (2, vI v8), (3, vI v9), (4, vI (v10 + (1 : Int32)))]) [2, 3, 4, 5, 0] rfl ?_
      exact ih _ _ _ _ _ _
    refine s_iconst hC dX10_holds_55 (v := 1) (by decide) ?_
    refine s_goto hC dX10_holds_56 (tgt := 60) (by decide) ?_
    refine s_ltI2 (fun v54 => ?_)
    refine s_zast hC dX10_holds_60 ?_
    refine s_ltM (fun μ55 => ?_)
    refine s_goto hC dX10_holds_61 (tgt := 237) (by decide) ?_
    refine s_iinc hC 5 dX10_holds_237 rfl (w := 1) (by decide) (by decide) (lv' := [(4, vI (v10 + (1 : Int32))), (5, vI v16), (0, vR v6), (1, vI v7), (2, vI v8), (3, vI v9)]) rfl ?_
    refine s_goto hC dX10_holds_240 (tgt := 10) (by decide) ?_
    refine s_lv (lv' := [(0, vR v6), (1, vI v7), (2, vI v8), (3, vI v9), (4, vI (v10 + (1 : Int32)))]) [2, 3, 4, 5, 0] rfl ?_
    exact ih _ _ _ _ _ _
def f_X10_holds (X : x_X) (v0 : Nat) (v1 : Int32) (v2 : Int32) (μ : x_M) : Option (Int32 × x_M) :=
  (ck (x_kd X v0 = 10 + 1) (lt (μ.2.1 v0 20) (fun (v4 : Nat) => (ck ((x_kd X v4 = 20 ∨ x_kd X v4 = 40) ∧ x_ix v1 (x_ln X v4)) (lt (μ.1 v4 (v1).toNatClampNeg) (fun (v5 : Int32) => (f_X10_holds_L10 X 4096 v0 v1 v2 (0 : Int32) v5 μ)))))))
set_option maxRecDepth 100000 in
theorem m_X10_holds (hI : x_I X) (v0 : Nat) (v1 : Int32) (v2 : Int32) (μ : x_M) : x_Met X x_Z0 l yX10_holds cX10_holds 8 (some .boolean) 2 [vR v0, vI v1, vI v2] μ rkI (f_X10_holds X v0 v1 v2 μ) := by
  refine x_enter hI (by decide +kernel) (Nat.le_of_ble_eq_true rfl) (fun p e s m args below meth c hC hr hlk => ?_)
  unfold f_X10_holds
  refine s_lv (lv' := [(0, vR v0), (1, vI v1), (2, vI v2)]) [0, 1, 2] rfl ?_
  refine s_iconst hC dX10_holds_0 (v := 0) (by decide) ?_
  refine s_istore_n hC dX10_holds_1 (by decide) (lv' := [(3, vI (0 : Int32)), (0, vR v0), (1, vI v1), (2, vI v2)]) rfl ?_
  refine s_aload_n hC 1 dX10_holds_2 rfl ?_
  refine s_getR hC xc10 (by decide) rfl qf_X10_71 dX10_holds_3 ?_
  refine s_ltR (fun v4 => ?_)
  refine s_iload_n hC 2 dX10_holds_6 rfl ?_
  refine s_iald hC dX10_holds_7 ?_
  refine s_ltI (fun v5 => ?_)
  refine s_istore hC dX10_holds_8 (by decide) (lv' := [(4, vI v5), (3, vI (0 : Int32)), (0, vR v0), (1, vI v1), (2, vI v2)]) rfl ?_
  refine s_lv (lv' := [(0, vR v0), (1, vI v1), (2, vI v2), (3, vI (0 : Int32)), (4, vI v5)]) [2, 3, 4, 1, 0] rfl ?_
  refine j_X10_holds_L10 hI hC hr hlk 4096 _ _ _ _ _ _
