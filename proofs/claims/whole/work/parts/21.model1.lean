variable {X : x_X} {l : Launch} {p : Program} {e : Env} {s : State} {m : MethodId} {args : Array Value} {below : List Frame} {meth : Method} {c : Code}
theorem dX10_level_0 : decode cX10_level 0 = .ok (.aload_n 0, 1) := by decide +kernel
theorem dX10_level_1 : decode cX10_level 1 = .ok (.getfield 16, 3) := by decide +kernel
theorem dX10_level_4 : decode cX10_level 4 = .ok (.istore_n 1, 1) := by decide +kernel
theorem dX10_level_5 : decode cX10_level 5 = .ok (.iconst 0, 1) := by decide +kernel
theorem dX10_level_6 : decode cX10_level 6 = .ok (.istore_n 2, 1) := by decide +kernel
theorem dX10_level_7 : decode cX10_level 7 = .ok (.iload_n 2, 1) := by decide +kernel
theorem dX10_level_8 : decode cX10_level 8 = .ok (.aload_n 0, 1) := by decide +kernel
theorem dX10_level_9 : decode cX10_level 9 = .ok (.getfield 7, 3) := by decide +kernel
theorem dX10_level_12 : decode cX10_level 12 = .ok (.if_icmp .ge 17, 3) := by decide +kernel
theorem dX10_level_15 : decode cX10_level 15 = .ok (.iload_n 1, 1) := by decide +kernel
theorem dX10_level_16 : decode cX10_level 16 = .ok (.aload_n 0, 1) := by decide +kernel
theorem dX10_level_17 : decode cX10_level 17 = .ok (.iload_n 2, 1) := by decide +kernel
theorem dX10_level_18 : decode cX10_level 18 = .ok (.invokevirtual 322, 3) := by decide +kernel
theorem dX10_level_21 : decode cX10_level 21 = .ok (.iadd, 1) := by decide +kernel
theorem dX10_level_22 : decode cX10_level 22 = .ok (.istore_n 1, 1) := by decide +kernel
theorem dX10_level_23 : decode cX10_level 23 = .ok (.iinc 2 1, 3) := by decide +kernel
theorem dX10_level_26 : decode cX10_level 26 = .ok (.goto (-19), 3) := by decide +kernel
theorem dX10_level_29 : decode cX10_level 29 = .ok (.aload_n 0, 1) := by decide +kernel
theorem dX10_level_30 : decode cX10_level 30 = .ok (.iload_n 1, 1) := by decide +kernel
theorem dX10_level_31 : decode cX10_level 31 = .ok (.invokevirtual 325, 3) := by decide +kernel
theorem dX10_level_34 : decode cX10_level 34 = .ok (.ireturn, 1) := by decide +kernel
def f_X10_level_L7 (X : x_X) : Nat → Nat → Int32 → Int32 → x_M → Option (Int32 × x_M)
  | 0, _, _, _, _ => none
  | n + 1, v3, v4, v5, μ6 =>
    (ck (x_kd X v3 = 10 + 1) (if (μ6.1 v3 0) ≤ v5 then (ck (x_kd X v3 = 10 + 1) (bd (f_X10_levelOf X v3 v4 μ6) (fun (v7 : Int32) (μ8 : x_M) => (some (v7, μ8))))) else (ck (x_kd X v3 = 10 + 1) (bd (f_X10_liftsOf X v3 v5 μ6) (fun (v9 : Int32) (μ10 : x_M) => (lt (v4 + v9) (fun (v11 : Int32) => (f_X10_level_L7 X n v3 v11 (v5 + (1 : Int32)) μ10))))))))
set_option maxRecDepth 100000 in
theorem j_X10_level_L7 (hI : x_I X) (hC : x_C X x_Z0 p (x_rm 2) s m c cX10_level RX10 3 0 0 2) (hr : meth.sig.returnType = (some .int)) (hlk : meth.locks = false) : ∀ (n : Nat) (v3 : Nat) (v4 : Int32) (v5 : Int32) (μ6 : x_M), SM X 3 2 rkI p l e s m args below meth c 7 [(0, vR v3), (1, vI v4), (2, vI v5)] [] μ6 (f_X10_level_L7 X n v3 v4 v5 μ6) := by
  intro n
  induction n with
  | zero => intro v3 v4 v5 μ6; exact s_none
  | succ n ih =>
    intro v3 v4 v5 μ6
    unfold f_X10_level_L7
    refine s_iload_n hC 2 dX10_level_7 rfl ?_
    refine s_aload_n hC 0 dX10_level_8 rfl ?_
    refine s_getI hC xc10 (by decide) rfl qf_X10_7 dX10_level_9 ?_
    refine s_icmp_ge hC dX10_level_12 (tgt := 29) (by decide) ?_ ?_
    · refine s_aload_n hC 0 dX10_level_29 rfl ?_
      refine s_iload_n hC 1 dX10_level_30 rfl ?_
      refine s_callV hC (x := v3) (avs := [vI v4]) (st := []) (nest := false) xc10 (m_X10_levelOf hI v3 v4 μ6) dX10_level_31 qm_X10_325 qi_X10_levelOf qs_X10_levelOf qc_X10 qd_X10_levelOf qh_X10_levelOf (by decide) (fun _ => Nat.le_of_ble_eq_true rfl) (Nat.le_of_ble_eq_true rfl) (fun v7 μ8 => ?_)
      exact s_iret hC hr hlk dX10_level_34
    refine s_iload_n hC 1 dX10_level_15 rfl ?_
    refine s_aload_n hC 0 dX10_level_16 rfl ?_
    refine s_iload_n hC 2 dX10_level_17 rfl ?_
    refine s_callV hC (x := v3) (avs := [vI v5]) (st := [vI v4]) (nest := false) xc10 (m_X10_liftsOf hI v3 v5 μ6) dX10_level_18 qm_X10_322 qi_X10_liftsOf qs_X10_liftsOf qc_X10 qd_X10_liftsOf qh_X10_liftsOf (by decide) (fun _ => Nat.le_of_ble_eq_true rfl) (Nat.le_of_ble_eq_true rfl) (fun v9 μ10 => ?_)
    refine s_iadd hC dX10_level_21 ?_
    refine s_ltI (fun v11 => ?_)
    refine s_istore_n hC dX10_level_22 (by decide) (lv' := [(1, vI v11), (0, vR v3), (2, vI v5)]) rfl ?_
    refine s_iinc hC 2 dX10_level_23 rfl (w := 1) (by decide) (by decide) (lv' := [(2, vI (v5 + (1 : Int32))), (1, vI v11), (0, vR v3)]) rfl ?_
    refine s_goto hC dX10_level_26 (tgt := 7) (by decide) ?_
    refine s_lv (lv' := [(0, vR v3), (1, vI v11), (2, vI (v5 + (1 : Int32)))]) [2, 1, 0] rfl ?_
    exact ih _ _ _ _
def f_X10_level (X : x_X) (v0 : Nat) (μ : x_M) : Option (Int32 × x_M) :=
  (ck (x_kd X v0 = 10 + 1) (lt (μ.1 v0 2) (fun (v2 : Int32) => (f_X10_level_L7 X 4096 v0 v2 (0 : Int32) μ))))
set_option maxRecDepth 100000 in
theorem m_X10_level (hI : x_I X) (v0 : Nat) (μ : x_M) : x_Met X x_Z0 l yX10_level cX10_level 3 (some .int) 2 [vR v0] μ rkI (f_X10_level X v0 μ) := by
  refine x_enter hI (by decide +kernel) (Nat.le_of_ble_eq_true rfl) (fun p e s m args below meth c hC hr hlk => ?_)
  unfold f_X10_level
  refine s_lv (lv' := [(0, vR v0)]) [0] rfl ?_
  refine s_aload_n hC 0 dX10_level_0 rfl ?_
  refine s_getI hC xc10 (by decide) rfl qf_X10_16 dX10_level_1 ?_
  refine s_ltI (fun v2 => ?_)
  refine s_istore_n hC dX10_level_4 (by decide) (lv' := [(1, vI v2), (0, vR v0)]) rfl ?_
  refine s_iconst hC dX10_level_5 (v := 0) (by decide) ?_
  refine s_istore_n hC dX10_level_6 (by decide) (lv' := [(2, vI (0 : Int32)), (1, vI v2), (0, vR v0)]) rfl ?_
  refine s_lv (lv' := [(0, vR v0), (1, vI v2), (2, vI (0 : Int32))]) [2, 1, 0] rfl ?_
  refine j_X10_level_L7 hI hC hr hlk 4096 _ _ _ _
theorem dX10_isDays_0 : decode cX10_isDays 0 = .ok (.aload_n 0, 1) := by decide +kernel
theorem dX10_isDays_1 : decode cX10_isDays 1 = .ok (.iload_n 1, 1) := by decide +kernel
theorem dX10_isDays_2 : decode cX10_isDays 2 = .ok (.iconst 0, 1) := by decide +kernel
theorem dX10_isDays_3 : decode cX10_isDays 3 = .ok (.bipush 40, 2) := by decide +kernel
theorem dX10_isDays_5 : decode cX10_isDays 5 = .ok (.invokevirtual 245, 3) := by decide +kernel
theorem dX10_isDays_8 : decode cX10_isDays 8 = .ok (.ireturn, 1) := by decide +kernel
def f_X10_isDays (X : x_X) (v0 : Nat) (v1 : Int32) (μ : x_M) : Option (Int32 × x_M) :=
  (ck (x_kd X v0 = 10 + 1) (bd (f_X10_in X v0 v1 (0 : Int32) (40 : Int32) μ) (fun (v3 : Int32) (μ4 : x_M) => (ck (v3 = 0 ∨ v3 = 1) (some (v3, μ4))))))
set_option maxRecDepth 100000 in
theorem m_X10_isDays (hI : x_I X) (v0 : Nat) (v1 : Int32) (μ : x_M) : x_Met X x_Z0 l yX10_isDays cX10_isDays 2 (some .boolean) 2 [vR v0, vI v1] μ rkI (f_X10_isDays X v0 v1 μ) := by
  refine x_enter hI (by decide +kernel) (Nat.le_of_ble_eq_true rfl) (fun p e s m args below meth c hC hr hlk => ?_)
  unfold f_X10_isDays
  refine s_lv (lv' := [(0, vR v0), (1, vI v1)]) [0, 1] rfl ?_
  refine s_aload_n hC 0 dX10_isDays_0 rfl ?_
  refine s_iload_n hC 1 dX10_isDays_1 rfl ?_
  refine s_iconst hC dX10_isDays_2 (v := 0) (by decide) ?_
  refine s_bipush hC dX10_isDays_3 (v := 40) (by decide) ?_
  refine s_callV hC (x := v0) (avs := [vI v1, vI (0 : Int32), vI (40 : Int32)]) (st := []) (nest := false) xc10 (m_X10_in hI v0 v1 (0 : Int32) (40 : Int32) μ) dX10_isDays_5 qm_X10_245 qi_X10_in qs_X10_in qc_X10 qd_X10_in qh_X10_in (by decide) (fun _ => Nat.le_of_ble_eq_true rfl) (Nat.le_of_ble_eq_true rfl) (fun v3 μ4 => ?_)
  exact s_zret hC hr hlk dX10_isDays_8
theorem dX10_lowestTerms_0 : decode cX10_lowestTerms 0 = .ok (.aload_n 0, 1) := by decide +kernel
theorem dX10_lowestTerms_1 : decode cX10_lowestTerms 1 = .ok (.iload_n 1, 1) := by decide +kernel
theorem dX10_lowestTerms_2 : decode cX10_lowestTerms 2 = .ok (.iload_n 2, 1) := by decide +kernel
theorem dX10_lowestTerms_3 : decode cX10_lowestTerms 3 = .ok (.invokevirtual 386, 3) := by decide +kernel
theorem dX10_lowestTerms_6 : decode cX10_lowestTerms 6 = .ok (.istore 4, 2) := by decide +kernel
theorem dX10_lowestTerms_8 : decode cX10_lowestTerms 8 = .ok (.iload_n 3, 1) := by decide +kernel
theorem dX10_lowestTerms_9 : decode cX10_lowestTerms 9 = .ok (.ifCond .ne 11, 3) := by decide +kernel
theorem dX10_lowestTerms_12 : decode cX10_lowestTerms 12 = .ok (.iload_n 1, 1) := by decide +kernel
theorem dX10_lowestTerms_13 : decode cX10_lowestTerms 13 = .ok (.iload 4, 2) := by decide +kernel
theorem dX10_lowestTerms_15 : decode cX10_lowestTerms 15 = .ok (.idiv, 1) := by decide +kernel
theorem dX10_lowestTerms_16 : decode cX10_lowestTerms 16 = .ok (.i2l, 1) := by decide +kernel
theorem dX10_lowestTerms_17 : decode cX10_lowestTerms 17 = .ok (.goto 8, 3) := by decide +kernel
theorem dX10_lowestTerms_20 : decode cX10_lowestTerms 20 = .ok (.iload_n 2, 1) := by decide +kernel
theorem dX10_lowestTerms_21 : decode cX10_lowestTerms 21 = .ok (.iload 4, 2) := by decide +kernel
theorem dX10_lowestTerms_23 : decode cX10_lowestTerms 23 = .ok (.idiv, 1) := by decide +kernel
theorem dX10_lowestTerms_24 : decode cX10_lowestTerms 24 = .ok (.i2l, 1) := by decide +kernel
theorem dX10_lowestTerms_25 : decode cX10_lowestTerms 25 = .ok (.lreturn, 1) := by decide +kernel
def f_X10_lowestTerms (X : x_X) (v0 : Nat) (v1 : Int32) (v2 : Int32) (v3 : Int32) (μ : x_M) : Option (Int64 × x_M) :=
  (ck (x_kd X v0 = 10 + 1) (bd (f_X10_divisor X v0 v1 v2 μ) (fun (v5 : Int32) (μ6 : x_M) => (if v3 = 0 then (ck (¬ v5 = 0) (some ((((v1 / v5)).toInt64), μ6))) else (ck (¬ v5 = 0) (some ((((v2 / v5)).toInt64), μ6)))))))
set_option maxRecDepth 100000 in
theorem m_X10_lowestTerms (hI : x_I X) (v0 : Nat) (v1 : Int32) (v2 : Int32) (v3 : Int32) (μ : x_M) : x_Met X x_Z0 l yX10_lowestTerms cX10_lowestTerms 5 (some .long) 2 [vR v0, vI v1, vI v2, vI v3] μ rkJ (f_X10_lowestTerms X v0 v1 v2 v3 μ) := by
  refine x_enter hI (by decide +kernel) (Nat.le_of_ble_eq_true rfl) (fun p e s m args below meth c hC hr hlk => ?_)
  unfold f_X10_lowestTerms
  refine s_lv (lv' := [(0, vR v0), (1, vI v1), (2, vI v2), (3, vI v3)]) [0, 1, 2, 3] rfl ?_
  refine s_aload_n hC 0 dX10_lowestTerms_0 rfl ?_
  refine s_iload_n hC 1 dX10_lowestTerms_1 rfl ?_
  refine s_iload_n hC 2 dX10_lowestTerms_2 rfl ?_
  refine s_callV hC (x := v0) (avs := [vI v1, vI v2]) (st := []) (nest := false) xc10 (m_X10_divisor hI v0 v1 v2 μ) dX10_lowestTerms_3 qm_X10_386 qi_X10_divisor qs_X10_divisor qc_X10 qd_X10_divisor qh_X10_divisor (by decide) (fun _ => Nat.le_of_ble_eq_true rfl) (Nat.le_of_ble_eq_true rfl) (fun v5 μ6 => ?_)
  refine s_istore hC dX10_lowestTerms_6 (by decide) (lv' := [(4, vI v5), (0, vR v0), (1, vI v1), (2, vI v2), (3, vI v3)]) rfl ?_
  refine s_iload_n hC 4 dX10_lowestTerms_8 rfl ?_
  refine s_if_ne hC dX10_lowestTerms_9 (tgt := 20) (by decide) ?_ ?_
  · refine s_iload_n hC 3 dX10_lowestTerms_20 rfl ?_
    refine s_iload hC 0 dX10_lowestTerms_21 rfl ?_
    refine s_idiv hC dX10_lowestTerms_23 ?_
    refine s_i2l hC dX10_lowestTerms_24 ?_
    exact s_lret hC hr hlk dX10_lowestTerms_25
  refine s_iload_n hC 2 dX10_lowestTerms_12 rfl ?_
  refine s_iload hC 0 dX10_lowestTerms_13 rfl ?_
  refine s_idiv hC dX10_lowestTerms_15 ?_
  refine s_i2l hC dX10_lowestTerms_16 ?_
  refine s_goto hC dX10_lowestTerms_17 (tgt := 25) (by decide) ?_
  exact s_lret hC hr hlk dX10_lowestTerms_25
theorem dX10_see_0 : decode cX10_see 0 = .ok (.iload_n 1, 1) := by decide +kernel
theorem dX10_see_1 : decode cX10_see 1 = .ok (.iconst (-1), 1) := by decide +kernel
theorem dX10_see_2 : decode cX10_see 2 = .ok (.if_icmp .ne 10, 3) := by decide +kernel
theorem dX10_see_5 : decode cX10_see 5 = .ok (.aload_n 0, 1) := by decide +kernel
theorem dX10_see_6 : decode cX10_see 6 = .ok (.iconst 0, 1) := by decide +kernel
theorem dX10_see_7 : decode cX10_see 7 = .ok (.putfield 132, 3) := by decide +kernel
theorem dX10_see_10 : decode cX10_see 10 = .ok (.iconst 0, 1) := by decide +kernel
theorem dX10_see_11 : decode cX10_see 11 = .ok (.ireturn, 1) := by decide +kernel
theorem dX10_see_12 : decode cX10_see 12 = .ok (.aload_n 0, 1) := by decide +kernel
theorem dX10_see_13 : decode cX10_see 13 = .ok (.iload_n 1, 1) := by decide +kernel
theorem dX10_see_14 : decode cX10_see 14 = .ok (.iconst 0, 1) := by decide +kernel
theorem dX10_see_15 : decode cX10_see 15 = .ok (.bipush 20, 2) := by decide +kernel
theorem dX10_see_17 : decode cX10_see 17 = .ok (.invokevirtual 245, 3) := by decide +kernel
theorem dX10_see_20 : decode cX10_see 20 = .ok (.ifCond .eq 14, 3) := by decide +kernel
theorem dX10_see_23 : decode cX10_see 23 = .ok (.aload_n 0, 1) := by decide +kernel
theorem dX10_see_24 : decode cX10_see 24 = .ok (.iload_n 2, 1) := by decide +kernel
theorem dX10_see_25 : decode cX10_see 25 = .ok (.iconst 0, 1) := by decide +kernel
theorem dX10_see_26 : decode cX10_see 26 = .ok (.bipush 60, 2) := by decide +kernel
theorem dX10_see_28 : decode cX10_see 28 = .ok (.invokevirtual 245, 3) := by decide +kernel
theorem dX10_see_31 : decode cX10_see 31 = .ok (.ifCond .ne 6, 3) := by decide +kernel
theorem dX10_see_34 : decode cX10_see 34 = .ok (.bipush (-2), 2) := by decide +kernel
theorem dX10_see_36 : decode cX10_see 36 = .ok (.ireturn, 1) := by decide +kernel
theorem dX10_see_37 : decode cX10_see 37 = .ok (.aload_n 0, 1) := by decide +kernel
theorem dX10_see_38 : decode cX10_see 38 = .ok (.getfield 132, 3) := by decide +kernel
theorem dX10_see_41 : decode cX10_see 41 = .ok (.iconst 4, 1) := by decide +kernel
theorem dX10_see_42 : decode cX10_see 42 = .ok (.if_icmp .ne 6, 3) := by decide +kernel
theorem dX10_see_45 : decode cX10_see 45 = .ok (.bipush (-4), 2) := by decide +kernel
theorem dX10_see_47 : decode cX10_see 47 = .ok (.ireturn, 1) := by decide +kernel
theorem dX10_see_48 : decode cX10_see 48 = .ok (.aload_n 0, 1) := by decide +kernel
theorem dX10_see_49 : decode cX10_see 49 = .ok (.getfield 135, 3) := by decide +kernel
theorem dX10_see_52 : decode cX10_see 52 = .ok (.aload_n 0, 1) := by decide +kernel
theorem dX10_see_53 : decode cX10_see 53 = .ok (.getfield 132, 3) := by decide +kernel
theorem dX10_see_56 : decode cX10_see 56 = .ok (.iload_n 1, 1) := by decide +kernel
theorem dX10_see_57 : decode cX10_see 57 = .ok (.iastore, 1) := by decide +kernel
theorem dX10_see_58 : decode cX10_see 58 = .ok (.aload_n 0, 1) := by decide +kernel
theorem dX10_see_59 : decode cX10_see 59 = .ok (.getfield 138, 3) := by decide +kernel
theorem dX10_see_62 : decode cX10_see 62 = .ok (.aload_n 0, 1) := by decide +kernel
theorem dX10_see_63 : decode cX10_see 63 = .ok (.getfield 132, 3) := by decide +kernel
theorem dX10_see_66 : decode cX10_see 66 = .ok (.iload_n 2, 1) := by decide +kernel
theorem dX10_see_67 : decode cX10_see 67 = .ok (.iastore, 1) := by decide +kernel
theorem dX10_see_68 : decode cX10_see 68 = .ok (.aload_n 0, 1) := by decide +kernel
theorem dX10_see_69 : decode cX10_see 69 = .ok (.dup, 1) := by decide +kernel
theorem dX10_see_70 : decode cX10_see 70 = .ok (.getfield 132, 3) := by decide +kernel
theorem dX10_see_73 : decode cX10_see 73 = .ok (.iconst 1, 1) := by decide +kernel
theorem dX10_see_74 : decode cX10_see 74 = .ok (.iadd, 1) := by decide +kernel
theorem dX10_see_75 : decode cX10_see 75 = .ok (.putfield 132, 3) := by decide +kernel
theorem dX10_see_78 : decode cX10_see 78 = .ok (.aload_n 0, 1) := by decide +kernel
theorem dX10_see_79 : decode cX10_see 79 = .ok (.getfield 132, 3) := by decide +kernel
theorem dX10_see_82 : decode cX10_see 82 = .ok (.ireturn, 1) := by decide +kernel
def f_X10_see (X : x_X) (v0 : Nat) (v1 : Int32) (v2 : Int32) (μ : x_M) : Option (Int32 × x_M) :=
  (if v1 = (-1 : Int32) then (ck (x_kd X v0 = 10 + 1) (lt (x_sI μ v0 40 (0 : Int32)) (fun (μ15 : x_M) => (some ((0 : Int32), μ15))))) else (ck (x_kd X v0 = 10 + 1) (bd (f_X10_in X v0 v1 (0 : Int32) (20 : Int32) μ) (fun (v4 : Int32) (μ5 : x_M) => (if v4 = 0 then (some ((-2 : Int32), μ5)) else (ck (x_kd X v0 = 10 + 1) (bd (f_X10_in X v0 v2 (0 : Int32) (60 : Int32) μ5) (fun (v6 : Int32) (μ7 : x_M) => (if v6 = 0 then (some ((-2 : Int32), μ7)) else (ck (x_kd X v0 = 10 + 1) (if (μ7.1 v0 40) = (4 : Int32) then (some ((-4 : Int32), μ7)) else (ck (x_kd X v0 = 10 + 1) (lt (μ7.2.1 v0 41) (fun (v8 : Nat) => (ck (x_kd X v0 = 10 + 1) (lt (μ7.1 v0 40) (fun (v9 : Int32) => (ck (x_kd X v8 = 20 ∧ x_ix v9 (x_ln X v8)) (lt (x_sI μ7 v8 (v9).toNatClampNeg v1) (fun (μ10 : x_M) => (ck (x_kd X v0 = 10 + 1) (lt (μ10.2.1 v0 42) (fun (v11 : Nat) => (ck (x_kd X v0 = 10 + 1) (lt (μ10.1 v0 40) (fun (v12 : Int32) => (ck (x_kd X v11 = 20 ∧ x_ix v12 (x_ln X v11)) (lt (x_sI μ10 v11 (v12).toNatClampNeg v2) (fun (μ13 : x_M) => (ck (x_kd X v0 = 10 + 1) (ck (x_kd X v0 = 10 + 1) (lt (x_sI μ13 v0 40 ((μ13.1 v0 40) + (1 : Int32))) (fun (μ14 : x_M) => (ck (x_kd X v0 = 10 + 1) (some ((μ14.1 v0 40), μ14))))))))))))))))))))))))))))))))))))
set_option maxRecDepth 100000 in
theorem m_X10_see (hI : x_I X) (v0 : Nat) (v1 : Int32) (v2 : Int32) (μ : x_M) : x_Met X x_Z0 l yX10_see cX10_see 3 (some .int) 2 [vR v0, vI v1, vI v2] μ rkI (f_X10_see X v0 v1 v2 μ) := by
  refine x_enter hI (by decide +kernel) (Nat.le_of_ble_eq_true rfl) (fun p e s m args below meth c hC hr hlk => ?_)
  unfold f_X10_see
  refine s_lv (lv' := [(0, vR v0), (1, vI v1), (2, vI v2)]) [0, 1, 2] rfl ?_
  refine s_iload_n hC 1 dX10_see_0 rfl ?_
  refine s_iconst hC dX10_see_1 (v := -1) (by decide) ?_
  refine s_icmp_ne hC dX10_see_2 (tgt := 12) (by decide) ?_ ?_
  · refine s_aload_n hC 0 dX10_see_12 rfl ?_
    refine s_iload_n hC 1 dX10_see_13 rfl ?_
    refine s_iconst hC dX10_see_14 (v := 0) (by decide) ?_
    refine s_bipush hC dX10_see_15 (v := 20) (by decide) ?_
    refine s_callV hC (x := v0) (avs := [vI v1, vI (0 : Int32), vI (20 : Int32)]) (st := []) (nest := false) xc10 (m_X10_in hI v0 v1 (0 : Int32) (20 : Int32) μ) dX10_see_17 qm_X10_245 qi_X10_in qs_X10_in qc_X10 qd_X10_in qh_X10_in (by decide) (fun _ => Nat.le_of_ble_eq_true rfl) (Nat.le_of_ble_eq_true rfl) (fun v4 μ5 => ?_)
    refine s_if_eq hC dX10_see_20 (tgt := 34) (by decide) ?_ ?_
    · refine s_bipush hC dX10_see_34 (v := -2) (by decide) ?_
      exact s_iret hC hr hlk dX10_see_36
    refine s_aload_n hC 0 dX10_see_23 rfl ?_
    refine s_iload_n hC 2 dX10_see_24 rfl ?_
    refine s_iconst hC dX10_see_25 (v := 0) (by decide) ?_
    refine s_bipush hC dX10_see_26 (v := 60) (by decide) ?_
    refine s_callV hC (x := v0) (avs := [vI v2, vI (0 : Int32), vI (60 : Int32)]) (st := []) (nest := false) xc10 (m_X10_in hI v0 v2 (0 : Int32) (60 : Int32) μ5) dX10_see_28 qm_X10_245 qi_X10_in qs_X10_in qc_X10 qd_X10_in qh_X10_in (by decide) (fun _ => Nat.le_of_ble_eq_true rfl) (Nat.le_of_ble_eq_true rfl) (fun v6 μ7 => ?_)
    refine s_if_ne hC dX10_see_31 (tgt := 37) (by decide) ?_ ?_
    · refine s_aload_n hC 0 dX10_see_37 rfl ?_
      refine s_getI hC xc10 (by decide) rfl qf_X10_132 dX10_see_38 ?_
      refine s_iconst hC dX10_see_41 (v := 4) (by decide) ?_
      refine s_icmp_ne hC dX10_see_42 (tgt := 48) (by decide) ?_ ?_
      · refine s_aload_n hC 0 dX10_see_48 rfl ?_
        refine s_getR hC xc10 (by decide) rfl qf_X10_135 dX10_see_49 ?_
        refine s_ltR (fun v8 => ?_)
        refine s_aload_n hC 0 dX10_see_52 rfl ?_
        refine s_getI hC xc10 (by decide) rfl qf_X10_132 dX10_see_53 ?_
        refine s_iload_n hC 1 dX10_see_56 rfl ?_
        refine s_ltI2 (fun v9 => ?_)
        refine s_iast hC dX10_see_57 ?_
        refine s_ltM (fun μ10 => ?_)
        refine s_aload_n hC 0 dX10_see_58 rfl ?_
        refine s_getR hC xc10 (by decide) rfl qf_X10_138 dX10_see_59 ?_
        refine s_ltR (fun v11 => ?_)
        refine s_aload_n hC 0 dX10_see_62 rfl ?_
        refine s_getI hC xc10 (by decide) rfl qf_X10_132 dX10_see_63 ?_
        refine s_iload_n hC 2 dX10_see_66 rfl ?_
        refine s_ltI2 (fun v12 => ?_)
        refine s_iast hC dX10_see_67 ?_
        refine s_ltM (fun μ13 => ?_)
        refine s_aload_n hC 0 dX10_see_68 rfl ?_
        refine s_dupR hC dX10_see_69 ?_
        refine s_getI hC xc10 (by decide) rfl qf_X10_132 dX10_see_70 ?_
        refine s_iconst hC dX10_see_73 (v := 1) (by decide) ?_
        refine s_iadd hC dX10_see_74 ?_
        refine s_putI hC xc10 (by decide) rfl rfl qf_X10_132 dX10_see_75 ?_
        refine s_ltM (fun μ14 => ?_)
        refine s_aload_n hC 0 dX10_see_78 rfl ?_
        refine s_getI hC xc10 (by decide) rfl qf_X10_132 dX10_see_79 ?_
        exact s_iret hC hr hlk dX10_see_82
      refine s_bipush hC dX10_see_45 (v := -4) (by decide) ?_
      exact s_iret hC hr hlk dX10_see_47
    refine s_bipush hC dX10_see_34 (v := -2) (by decide) ?_
    exact s_iret hC hr hlk dX10_see_36
  refine s_aload_n hC 0 dX10_see_5 rfl ?_
  refine s_iconst hC dX10_see_6 (v := 0) (by decide) ?_
  refine s_putI hC xc10 (by decide) rfl rfl qf_X10_132 dX10_see_7 ?_
  refine s_ltM (fun μ15 => ?_)
  refine s_iconst hC dX10_see_10 (v := 0) (by decide) ?_
  exact s_iret hC hr hlk dX10_see_11
theorem dX10_isTape_0 : decode cX10_isTape 0 = .ok (.aload_n 0, 1) := by decide +kernel
theorem dX10_isTape_1 : decode cX10_isTape 1 = .ok (.iload_n 1, 1) := by decide +kernel
theorem dX10_isTape_2 : decode cX10_isTape 2 = .ok (.iconst 0, 1) := by decide +kernel
theorem dX10_isTape_3 : decode cX10_isTape 3 = .ok (.iconst 5, 1) := by decide +kernel
theorem dX10_isTape_4 : decode cX10_isTape 4 = .ok (.invokevirtual 245, 3) := by decide +kernel
theorem dX10_isTape_7 : decode cX10_isTape 7 = .ok (.ireturn, 1) := by decide +kernel
def f_X10_isTape (X : x_X) (v0 : Nat) (v1 : Int32) (μ : x_M) : Option (Int32 × x_M) :=
  (ck (x_kd X v0 = 10 + 1) (bd (f_X10_in X v0 v1 (0 : Int32) (5 : Int32) μ) (fun (v3 : Int32) (μ4 : x_M) => (ck (v3 = 0 ∨ v3 = 1) (some (v3, μ4))))))
set_option maxRecDepth 100000 in
theorem m_X10_isTape (hI : x_I X) (v0 : Nat) (v1 : Int32) (μ : x_M) : x_Met X x_Z0 l yX10_isTape cX10_isTape 2 (some .boolean) 2 [vR v0, vI v1] μ rkI (f_X10_isTape X v0 v1 μ) := by
  refine x_enter hI (by decide +kernel) (Nat.le_of_ble_eq_true rfl) (fun p e s m args below meth c hC hr hlk => ?_)
  unfold f_X10_isTape
  refine s_lv (lv' := [(0, vR v0), (1, vI v1)]) [0, 1] rfl ?_
  refine s_aload_n hC 0 dX10_isTape_0 rfl ?_
  refine s_iload_n hC 1 dX10_isTape_1 rfl ?_
  refine s_iconst hC dX10_isTape_2 (v := 0) (by decide) ?_
  refine s_iconst hC dX10_isTape_3 (v := 5) (by decide) ?_
  refine s_callV hC (x := v0) (avs := [vI v1, vI (0 : Int32), vI (5 : Int32)]) (st := []) (nest := false) xc10 (m_X10_in hI v0 v1 (0 : Int32) (5 : Int32) μ) dX10_isTape_4 qm_X10_245 qi_X10_in qs_X10_in qc_X10 qd_X10_in qh_X10_in (by decide) (fun _ => Nat.le_of_ble_eq_true rfl) (Nat.le_of_ble_eq_true rfl) (fun v3 μ4 => ?_)
  exact s_zret hC hr hlk dX10_isTape_7
theorem dX10_accountKeeps_0 : decode cX10_accountKeeps 0 = .ok (.aload_n 0, 1) := by decide +kernel
theorem dX10_accountKeeps_1 : decode cX10_accountKeeps 1 = .ok (.bipush 10, 2) := by decide +kernel
theorem dX10_accountKeeps_3 : decode cX10_accountKeeps 3 = .ok (.invokevirtual 401, 3) := by decide +kernel
theorem dX10_accountKeeps_6 : decode cX10_accountKeeps 6 = .ok (.iload_n 2, 1) := by decide +kernel
theorem dX10_accountKeeps_7 : decode cX10_accountKeeps 7 = .ok (.iload_n 1, 1) := by decide +kernel
theorem dX10_accountKeeps_8 : decode cX10_accountKeeps 8 = .ok (.iadd, 1) := by decide +kernel
theorem dX10_accountKeeps_9 : decode cX10_accountKeeps 9 = .ok (.ireturn, 1) := by decide +kernel
def f_X10_accountKeeps (X : x_X) (v0 : Nat) (v1 : Int32) (v2 : Int32) (μ : x_M) : Option (Int32 × x_M) :=
  (ck (x_kd X v0 = 10 + 1) (bd (f_X10_body X v0 (10 : Int32) μ) (fun (_ : Unit) (μ4 : x_M) => (some ((v2 + v1), μ4)))))
set_option maxRecDepth 100000 in
theorem m_X10_accountKeeps (hI : x_I X) (v0 : Nat) (v1 : Int32) (v2 : Int32) (μ : x_M) : x_Met X x_Z0 l yX10_accountKeeps cX10_accountKeeps 3 (some .int) 2 [vR v0, vI v1, vI v2] μ rkI (f_X10_accountKeeps X v0 v1 v2 μ) := by
  refine x_enter hI (by decide +kernel) (Nat.le_of_ble_eq_true rfl) (fun p e s m args below meth c hC hr hlk => ?_)
  unfold f_X10_accountKeeps
  refine s_lv (lv' := [(0, vR v0), (1, vI v1), (2, vI v2)]) [0, 1, 2] rfl ?_
  refine s_aload_n hC 0 dX10_accountKeeps_0 rfl ?_
  refine s_bipush hC dX10_accountKeeps_1 (v := 10) (by decide) ?_
  refine s_callV hC (x := v0) (avs := [vI (10 : Int32)]) (st := []) (nest := false) xc10 (m_X10_body hI v0 (10 : Int32) μ) dX10_accountKeeps_3 qm_X10_401 qi_X10_body qs_X10_body qc_X10 qd_X10_body qh_X10_body (by decide) (fun _ => Nat.le_of_ble_eq_true rfl) (Nat.le_of_ble_eq_true rfl) (fun _ μ4 => ?_)
  refine s_iload_n hC 2 dX10_accountKeeps_6 rfl ?_
  refine s_iload_n hC 1 dX10_accountKeeps_7 rfl ?_
  refine s_iadd hC dX10_accountKeeps_8 ?_
  exact s_iret hC hr hlk dX10_accountKeeps_9
theorem dX10_trace_0 : decode cX10_trace 0 = .ok (.aload_n 0, 1) := by decide +kernel
theorem dX10_trace_1 : decode cX10_trace 1 = .ok (.iload_n 1, 1) := by decide +kernel
theorem dX10_trace_2 : decode cX10_trace 2 = .ok (.iconst 0, 1) := by decide +kernel
theorem dX10_trace_3 : decode cX10_trace 3 = .ok (.bipush 19, 2) := by decide +kernel
theorem dX10_trace_5 : decode cX10_trace 5 = .ok (.invokevirtual 245, 3) := by decide +kernel
theorem dX10_trace_8 : decode cX10_trace 8 = .ok (.ifCond .eq 20, 3) := by decide +kernel
theorem dX10_trace_11 : decode cX10_trace 11 = .ok (.iload_n 1, 1) := by decide +kernel
theorem dX10_trace_12 : decode cX10_trace 12 = .ok (.aload_n 0, 1) := by decide +kernel
theorem dX10_trace_13 : decode cX10_trace 13 = .ok (.getfield 226, 3) := by decide +kernel
theorem dX10_trace_16 : decode cX10_trace 16 = .ok (.if_icmp .ge 12, 3) := by decide +kernel
theorem dX10_trace_19 : decode cX10_trace 19 = .ok (.aload_n 0, 1) := by decide +kernel
theorem dX10_trace_20 : decode cX10_trace 20 = .ok (.getfield 229, 3) := by decide +kernel
theorem dX10_trace_23 : decode cX10_trace 23 = .ok (.iload_n 1, 1) := by decide +kernel
theorem dX10_trace_24 : decode cX10_trace 24 = .ok (.iaload, 1) := by decide +kernel
theorem dX10_trace_25 : decode cX10_trace 25 = .ok (.goto 4, 3) := by decide +kernel
theorem dX10_trace_28 : decode cX10_trace 28 = .ok (.iconst (-1), 1) := by decide +kernel
theorem dX10_trace_29 : decode cX10_trace 29 = .ok (.ireturn, 1) := by decide +kernel
def f_X10_trace (X : x_X) (v0 : Nat) (v1 : Int32) (μ : x_M) : Option (Int32 × x_M) :=
  (ck (x_kd X v0 = 10 + 1) (bd (f_X10_in X v0 v1 (0 : Int32) (19 : Int32) μ) (fun (v3 : Int32) (μ4 : x_M) => (if v3 = 0 then (some ((-1 : Int32), μ4)) else (ck (x_kd X v0 = 10 + 1) (if (μ4.1 v0 71) ≤ v1 then (some ((-1 : Int32), μ4)) else (ck (x_kd X v0 = 10 + 1) (lt (μ4.2.1 v0 72) (fun (v5 : Nat) => (ck ((x_kd X v5 = 20 ∨ x_kd X v5 = 40) ∧ x_ix v1 (x_ln X v5)) (some ((μ4.1 v5 (v1).toNatClampNeg), μ4))))))))))))
set_option maxRecDepth 100000 in
theorem m_X10_trace (hI : x_I X) (v0 : Nat) (v1 : Int32) (μ : x_M) : x_Met X x_Z0 l yX10_trace cX10_trace 2 (some .int) 2 [vR v0, vI v1] μ rkI (f_X10_trace X v0 v1 μ) := by
  refine x_enter hI (by decide +kernel) (Nat.le_of_ble_eq_true rfl) (fun p e s m args below meth c hC hr hlk => ?_)
  unfold f_X10_trace
  refine s_lv (lv' := [(0, vR v0), (1, vI v1)]) [0, 1] rfl ?_
  refine s_aload_n hC 0 dX10_trace_0 rfl ?_
  refine s_iload_n hC 1 dX10_trace_1 rfl ?_
  refine s_iconst hC dX10_trace_2 (v := 0) (by decide) ?_
  refine s_bipush hC dX10_trace_3 (v := 19) (by decide) ?_
  refine s_callV hC (x := v0) (avs := [vI v1, vI (0 : Int32), vI (19 : Int32)]) (st := []) (nest := false) xc10 (m_X10_in hI v0 v1 (0 : Int32) (19 : Int32) μ) dX10_trace_5 qm_X10_245 qi_X10_in qs_X10_in qc_X10 qd_X10_in qh_X10_in (by decide) (fun _ => Nat.le_of_ble_eq_true rfl) (Nat.le_of_ble_eq_true rfl) (fun v3 μ4 => ?_)
  refine s_if_eq hC dX10_trace_8 (tgt := 28) (by decide) ?_ ?_
  · refine s_iconst hC dX10_trace_28 (v := -1) (by decide) ?_
    exact s_iret hC hr hlk dX10_trace_29
  refine s_iload_n hC 1 dX10_trace_11 rfl ?_
  refine s_aload_n hC 0 dX10_trace_12 rfl ?_
  refine s_getI hC xc10 (by decide) rfl qf_X10_226 dX10_trace_13 ?_
  refine s_icmp_ge hC dX10_trace_16 (tgt := 28) (by decide) ?_ ?_
  · refine s_iconst hC dX10_trace_28 (v := -1) (by decide) ?_
    exact s_iret hC hr hlk dX10_trace_29
  refine s_aload_n hC 0 dX10_trace_19 rfl ?_
  refine s_getR hC xc10 (by decide) rfl qf_X10_229 dX10_trace_20 ?_
  refine s_ltR (fun v5 => ?_)
  refine s_iload_n hC 1 dX10_trace_23 rfl ?_
  refine s_iald hC dX10_trace_24 ?_
  refine s_goto hC dX10_trace_25 (tgt := 29) (by decide) ?_
  exact s_iret hC hr hlk dX10_trace_29
theorem dX10_account_0 : decode cX10_account 0 = .ok (.aload_n 0, 1) := by decide +kernel
theorem dX10_account_1 : decode cX10_account 1 = .ok (.iload_n 1, 1) := by decide +kernel
theorem dX10_account_2 : decode cX10_account 2 = .ok (.iconst 0, 1) := by decide +kernel
theorem dX10_account_3 : decode cX10_account 3 = .ok (.bipush 6, 2) := by decide +kernel
theorem dX10_account_5 : decode cX10_account 5 = .ok (.invokevirtual 245, 3) := by decide +kernel
theorem dX10_account_8 : decode cX10_account 8 = .ok (.ifCond .ne 5, 3) := by decide +kernel
theorem dX10_account_11 : decode cX10_account 11 = .ok (.iconst (-1), 1) := by decide +kernel
theorem dX10_account_12 : decode cX10_account 12 = .ok (.ireturn, 1) := by decide +kernel
theorem dX10_account_13 : decode cX10_account 13 = .ok (.aload_n 0, 1) := by decide +kernel
theorem dX10_account_14 : decode cX10_account 14 = .ok (.iload_n 2, 1) := by decide +kernel
theorem dX10_account_15 : decode cX10_account 15 = .ok (.iconst 0, 1) := by decide +kernel
theorem dX10_account_16 : decode cX10_account 16 = .ok (.bipush 9, 2) := by decide +kernel
theorem dX10_account_18 : decode cX10_account 18 = .ok (.invokevirtual 245, 3) := by decide +kernel
theorem dX10_account_21 : decode cX10_account 21 = .ok (.ifCond .eq 11, 3) := by decide +kernel
theorem dX10_account_24 : decode cX10_account 24 = .ok (.aload_n 0, 1) := by decide +kernel
theorem dX10_account_25 : decode cX10_account 25 = .ok (.iload_n 3, 1) := by decide +kernel
theorem dX10_account_26 : decode cX10_account 26 = .ok (.invokevirtual 253, 3) := by decide +kernel
theorem dX10_account_29 : decode cX10_account 29 = .ok (.ifCond .ne 6, 3) := by decide +kernel
theorem dX10_account_32 : decode cX10_account 32 = .ok (.bipush (-2), 2) := by decide +kernel
theorem dX10_account_34 : decode cX10_account 34 = .ok (.ireturn, 1) := by decide +kernel
theorem dX10_account_35 : decode cX10_account 35 = .ok (.aload_n 0, 1) := by decide +kernel
theorem dX10_account_36 : decode cX10_account 36 = .ok (.getfield 7, 3) := by decide +kernel
theorem dX10_account_39 : decode cX10_account 39 = .ok (.bipush 6, 2) := by decide +kernel
theorem dX10_account_41 : decode cX10_account 41 = .ok (.if_icmp .ne 6, 3) := by decide +kernel
theorem dX10_account_44 : decode cX10_account 44 = .ok (.bipush (-4), 2) := by decide +kernel
theorem dX10_account_46 : decode cX10_account 46 = .ok (.ireturn, 1) := by decide +kernel
theorem dX10_account_47 : decode cX10_account 47 = .ok (.aload_n 0, 1) := by decide +kernel
theorem dX10_account_48 : decode cX10_account 48 = .ok (.getfield 26, 3) := by decide +kernel
theorem dX10_account_51 : decode cX10_account 51 = .ok (.aload_n 0, 1) := by decide +kernel
theorem dX10_account_52 : decode cX10_account 52 = .ok (.getfield 7, 3) := by decide +kernel
theorem dX10_account_55 : decode cX10_account 55 = .ok (.iload_n 1, 1) := by decide +kernel
theorem dX10_account_56 : decode cX10_account 56 = .ok (.iastore, 1) := by decide +kernel
theorem dX10_account_57 : decode cX10_account 57 = .ok (.aload_n 0, 1) := by decide +kernel
theorem dX10_account_58 : decode cX10_account 58 = .ok (.getfield 29, 3) := by decide +kernel
theorem dX10_account_61 : decode cX10_account 61 = .ok (.aload_n 0, 1) := by decide +kernel
theorem dX10_account_62 : decode cX10_account 62 = .ok (.getfield 7, 3) := by decide +kernel
theorem dX10_account_65 : decode cX10_account 65 = .ok (.iload_n 2, 1) := by decide +kernel
theorem dX10_account_66 : decode cX10_account 66 = .ok (.iastore, 1) := by decide +kernel
theorem dX10_account_67 : decode cX10_account 67 = .ok (.aload_n 0, 1) := by decide +kernel
theorem dX10_account_68 : decode cX10_account 68 = .ok (.getfield 32, 3) := by decide +kernel
theorem dX10_account_71 : decode cX10_account 71 = .ok (.aload_n 0, 1) := by decide +kernel
theorem dX10_account_72 : decode cX10_account 72 = .ok (.getfield 7, 3) := by decide +kernel
theorem dX10_account_75 : decode cX10_account 75 = .ok (.iconst 0, 1) := by decide +kernel
theorem dX10_account_76 : decode cX10_account 76 = .ok (.iastore, 1) := by decide +kernel
theorem dX10_account_77 : decode cX10_account 77 = .ok (.aload_n 0, 1) := by decide +kernel
theorem dX10_account_78 : decode cX10_account 78 = .ok (.getfield 35, 3) := by decide +kernel
theorem dX10_account_81 : decode cX10_account 81 = .ok (.aload_n 0, 1) := by decide +kernel
theorem dX10_account_82 : decode cX10_account 82 = .ok (.getfield 7, 3) := by decide +kernel
theorem dX10_account_85 : decode cX10_account 85 = .ok (.iload_n 3, 1) := by decide +kernel
theorem dX10_account_86 : decode cX10_account 86 = .ok (.iastore, 1) := by decide +kernel
theorem dX10_account_87 : decode cX10_account 87 = .ok (.aload_n 0, 1) := by decide +kernel
theorem dX10_account_88 : decode cX10_account 88 = .ok (.getfield 38, 3) := by decide +kernel
theorem dX10_account_91 : decode cX10_account 91 = .ok (.aload_n 0, 1) := by decide +kernel
theorem dX10_account_92 : decode cX10_account 92 = .ok (.getfield 7, 3) := by decide +kernel
theorem dX10_account_95 : decode cX10_account 95 = .ok (.iconst 0, 1) := by decide +kernel
theorem dX10_account_96 : decode cX10_account 96 = .ok (.iastore, 1) := by decide +kernel
theorem dX10_account_97 : decode cX10_account 97 = .ok (.iconst 0, 1) := by decide +kernel
theorem dX10_account_98 : decode cX10_account 98 = .ok (.istore 4, 2) := by decide +kernel
theorem dX10_account_100 : decode cX10_account 100 = .ok (.iload 4, 2) := by decide +kernel
theorem dX10_account_102 : decode cX10_account 102 = .ok (.iconst 4, 1) := by decide +kernel
theorem dX10_account_103 : decode cX10_account 103 = .ok (.if_icmp .ge 24, 3) := by decide +kernel
theorem dX10_account_106 : decode cX10_account 106 = .ok (.aload_n 0, 1) := by decide +kernel
theorem dX10_account_107 : decode cX10_account 107 = .ok (.getfield 41, 3) := by decide +kernel
theorem dX10_account_110 : decode cX10_account 110 = .ok (.iconst 4, 1) := by decide +kernel
theorem dX10_account_111 : decode cX10_account 111 = .ok (.aload_n 0, 1) := by decide +kernel
theorem dX10_account_112 : decode cX10_account 112 = .ok (.getfield 7, 3) := by decide +kernel
theorem dX10_account_115 : decode cX10_account 115 = .ok (.imul, 1) := by decide +kernel
theorem dX10_account_116 : decode cX10_account 116 = .ok (.iload 4, 2) := by decide +kernel
theorem dX10_account_118 : decode cX10_account 118 = .ok (.iadd, 1) := by decide +kernel
theorem dX10_account_119 : decode cX10_account 119 = .ok (.iconst 0, 1) := by decide +kernel
theorem dX10_account_120 : decode cX10_account 120 = .ok (.iastore, 1) := by decide +kernel
theorem dX10_account_121 : decode cX10_account 121 = .ok (.iinc 4 1, 3) := by decide +kernel
theorem dX10_account_124 : decode cX10_account 124 = .ok (.goto (-24), 3) := by decide +kernel
theorem dX10_account_127 : decode cX10_account 127 = .ok (.aload_n 0, 1) := by decide +kernel
theorem dX10_account_128 : decode cX10_account 128 = .ok (.dup, 1) := by decide +kernel
theorem dX10_account_129 : decode cX10_account 129 = .ok (.getfield 7, 3) := by decide +kernel
theorem dX10_account_132 : decode cX10_account 132 = .ok (.iconst 1, 1) := by decide +kernel
theorem dX10_account_133 : decode cX10_account 133 = .ok (.iadd, 1) := by decide +kernel
theorem dX10_account_134 : decode cX10_account 134 = .ok (.putfield 7, 3) := by decide +kernel
theorem dX10_account_137 : decode cX10_account 137 = .ok (.aload_n 0, 1) := by decide +kernel
theorem dX10_account_138 : decode cX10_account 138 = .ok (.getfield 7, 3) := by decide +kernel
theorem dX10_account_141 : decode cX10_account 141 = .ok (.iconst 1, 1) := by decide +kernel
theorem dX10_account_142 : decode cX10_account 142 = .ok (.isub, 1) := by decide +kernel
theorem dX10_account_143 : decode cX10_account 143 = .ok (.ireturn, 1) := by decide +kernel
def f_X10_account_L100 (X : x_X) (k127 : Nat → x_M → Option (Int32 × x_M)) : Nat → Nat → Int32 → x_M → Option (Int32 × x_M)
  | 0, _, _, _ => none
  | n + 1, v26, v27, μ28 =>
    (if (4 : Int32) ≤ v27 then (k127 v26 μ28) else (ck (x_kd X v26 = 10 + 1) (lt (μ28.2.1 v26 10) (fun (v29 : Nat) => (ck (x_kd X v26 = 10 + 1) (lt (((4 : Int32) * (μ28.1 v26 0)) + v27) (fun (v30 : Int32) => (ck (x_kd X v29 = 20 ∧ x_ix v30 (x_ln X v29)) (lt (x_sI μ28 v29 (v30).toNatClampNeg (0 : Int32)) (fun (μ31 : x_M) => (f_X10_account_L100 X k127 n v26 (v27 + (1 : Int32)) μ31)))))))))))
set_option maxRecDepth 100000 in
theorem j_X10_account_L100 (hI : x_I X) (hC : x_C X x_Z0 p (x_rm 3) s m c cX10_account RX10 5 0 0 3) (hr : meth.sig.returnType = (some .int)) (hlk : meth.locks = false) {k127 : Nat → x_M → Option (Int32 × x_M)} (hk127 : ∀ (b0 : Nat) (μ : x_M), SM X 5 3 rkI p l e s m args below meth c 127 [(0, vR b0)] [] μ (k127 b0 μ)) : ∀ (n : Nat) (v26 : Nat) (v27 : Int32) (μ28 : x_M), SM X 5 3 rkI p l e s m args below meth c 100 [(0, vR v26), (4, vI v27)] [] μ28 (f_X10_account_L100 X k127 n v26 v27 μ28) := by
  intro n
  induction n with
  | zero => intro v26 v27 μ28; exact s_none
  | succ n ih =>
    intro v26 v27 μ28
    unfold f_X10_account_L100
    refine s_iload hC 1 dX10_account_100 rfl ?_
    refine s_iconst hC dX10_account_102 (v := 4) (by decide) ?_
    refine s_icmp_ge hC dX10_account_103 (tgt := 127) (by decide) ?_ ?_
    · refine s_lv (lv' := [(0, vR v26)]) [0] rfl ?_
      exact hk127 _ _
    refine s_aload_n hC 0 dX10_account_106 rfl ?_
    refine s_getR hC xc10 (by decide) rfl qf_X10_41 dX10_account_107 ?_
    refine s_ltR (fun v29 => ?_)
    refine s_iconst hC dX10_account_110 (v := 4) (by decide) ?_
    refine s_aload_n hC 0 dX10_account_111 rfl ?_
    refine s_getI hC xc10 (by decide) rfl qf_X10_7 dX10_account_112 ?_
    refine s_imul hC dX10_account_115 ?_
    refine s_iload hC 1 dX10_account_116 rfl ?_
    refine s_iadd hC dX10_account_118 ?_
    refine s_iconst hC dX10_account_119 (v := 0) (by decide) ?_
    refine s_ltI2 (fun v30 => ?_)
    refine s_iast hC dX10_account_120 ?_
    refine s_ltM (fun μ31 => ?_)
    refine s_iinc hC 1 dX10_account_121 rfl (w := 1) (by decide) (by decide) (lv' := [(4, vI (v27 + (1 : Int32))), (0, vR v26)]) rfl ?_
    refine s_goto hC dX10_account_124 (tgt := 100) (by decide) ?_
    refine s_lv (lv' := [(0, vR v26), (4, vI (v27 + (1 : Int32)))]) [1, 0] rfl ?_
    exact ih _ _ _
def f_X10_account (X : x_X) (v0 : Nat) (v1 : Int32) (v2 : Int32) (v3 : Int32) (μ : x_M) : Option (Int32 × x_M) :=
  (ck (x_kd X v0 = 10 + 1) (bd (f_X10_in X v0 v1 (0 : Int32) (6 : Int32) μ) (fun (v5 : Int32) (μ6 : x_M) => (if v5 = 0 then (some ((-1 : Int32), μ6)) else (ck (x_kd X v0 = 10 + 1) (bd (f_X10_in X v0 v2 (0 : Int32) (9 : Int32) μ6) (fun (v7 : Int32) (μ8 : x_M) => (if v7 = 0 then (some ((-2 : Int32), μ8)) else (ck (x_kd X v0 = 10 + 1) (bd (f_X10_isDaily X v0 v3 μ8) (fun (v9 : Int32) (μ10 : x_M) => (if v9 = 0 then (some ((-2 : Int32), μ10)) else (ck (x_kd X v0 = 10 + 1) (if (μ10.1 v0 0) = (6 : Int32) then (some ((-4 : Int32), μ10)) else (ck (x_kd X v0 = 10 + 1) (lt (μ10.2.1 v0 5) (fun (v11 : Nat) => (ck (x_kd X v0 = 10 + 1) (lt (μ10.1 v0 0) (fun (v12 : Int32) => (ck (x_kd X v11 = 20 ∧ x_ix v12 (x_ln X v11)) (lt (x_sI μ10 v11 (v12).toNatClampNeg v1) (fun (μ13 : x_M) => (ck (x_kd X v0 = 10 + 1) (lt (μ13.2.1 v0 6) (fun (v14 : Nat) => (ck (x_kd X v0 = 10 + 1) (lt (μ13.1 v0 0) (fun (v15 : Int32) => (ck (x_kd X v14 = 20 ∧ x_ix v15 (x_ln X v14)) (lt (x_sI μ13 v14 (v15).toNatClampNeg v2) (fun (μ16 : x_M) => (ck (x_kd X v0 = 10 + 1) (lt (μ16.2.1 v0 7) (fun (v17 : Nat) => (ck (x_kd X v0 = 10 + 1) (lt (μ16.1 v0 0) (fun (v18 : Int32) => (ck (x_kd X v17 = 20 ∧ x_ix v18 (x_ln X v17)) (lt (x_sI μ16 v17 (v18).toNatClampNeg (0 : Int32)) (fun (μ19 : x_M) => (ck (x_kd X v0 = 10 + 1) (lt (μ19.2.1 v0 8) (fun (v20 : Nat) => (ck (x_kd X v0 = 10 + 1) (lt (μ19.1 v0 0) (fun (v21 : Int32) => (ck (x_kd X v20 = 20 ∧ x_ix v21 (x_ln X v20)) (lt (x_sI μ19 v20 (v21).toNatClampNeg v3) (fun (μ22 : x_M) => (ck (x_kd X v0 = 10 + 1) (lt (μ22.2.1 v0 9) (fun (v23 : Nat) => (ck (x_kd X v0 = 10 + 1) (lt (μ22.1 v0 0) (fun (v24 : Int32) => (ck (x_kd X v23 = 20 ∧ x_ix v24 (x_ln X v23)) (lt (x_sI μ22 v23 (v24).toNatClampNeg (0 : Int32)) (fun (μ25 : x_M) => (f_X10_account_L100 X (fun (v32 : Nat) (μ33 : x_M) => (ck (x_kd X v32 = 10 + 1) (ck (x_kd X v32 = 10 + 1) (lt (x_sI μ33 v32 0 ((μ33.1 v32 0) + (1 : Int32))) (fun (μ34 : x_M) => (ck (x_kd X v32 = 10 + 1) (some (((μ34.1 v32 0) - (1 : Int32)), μ34)))))))) 4096 v0 (0 : Int32) μ25))))))))))))))))))))))))))))))))))))))))))))))))))))))))))))
set_option maxRecDepth 100000 in
theorem m_X10_account (hI : x_I X) (v0 : Nat) (v1 : Int32) (v2 : Int32) (v3 : Int32) (μ : x_M) : x_Met X x_Z0 l yX10_account cX10_account 5 (some .int) 3 [vR v0, vI v1, vI v2, vI v3] μ rkI (f_X10_account X v0 v1 v2 v3 μ) := by
  refine x_enter hI (by decide +kernel) (Nat.le_of_ble_eq_true rfl) (fun p e s m args below meth c hC hr hlk => ?_)
  unfold f_X10_account
  refine s_lv (lv' := [(0, vR v0), (1, vI v1), (2, vI v2), (3, vI v3)]) [0, 1, 2, 3] rfl ?_
  refine s_aload_n hC 0 dX10_account_0 rfl ?_
  refine s_iload_n hC 1 dX10_account_1 rfl ?_
  refine s_iconst hC dX10_account_2 (v := 0) (by decide) ?_
  refine s_bipush hC dX10_account_3 (v := 6) (by decide) ?_
  refine s_callV hC (x := v0) (avs := [vI v1, vI (0 : Int32), vI (6 : Int32)]) (st := []) (nest := false) xc10 (m_X10_in hI v0 v1 (0 : Int32) (6 : Int32) μ) dX10_account_5 qm_X10_245 qi_X10_in qs_X10_in qc_X10 qd_X10_in qh_X10_in (by decide) (fun _ => Nat.le_of_ble_eq_true rfl) (Nat.le_of_ble_eq_true rfl) (fun v5 μ6 => ?_)
  refine s_if_ne hC dX10_account_8 (tgt := 13) (by decide) ?_ ?_
  · refine s_aload_n hC 0 dX10_account_13 rfl ?_
    refine s_iload_n hC 2 dX10_account_14 rfl ?_
    refine s_iconst hC dX10_account_15 (v := 0) (by decide) ?_
    refine s_bipush hC dX10_account_16 (v := 9) (by decide) ?_
    refine s_callV hC (x := v0) (avs := [vI v2, vI (0 : Int32), vI (9 : Int32)]) (st := []) (nest := false) xc10 (m_X10_in hI v0 v2 (0 : Int32) (9 : Int32) μ6) dX10_account_18 qm_X10_245 qi_X10_in qs_X10_in qc_X10 qd_X10_in qh_X10_in (by decide) (fun _ => Nat.le_of_ble_eq_true rfl) (Nat.le_of_ble_eq_true rfl) (fun v7 μ8 => ?_)
    refine s_if_eq hC dX10_account_21 (tgt := 32) (by decide) ?_ ?_
    · refine s_bipush hC dX10_account_32 (v := -2) (by decide) ?_
      exact s_iret hC hr hlk dX10_account_34
    refine s_aload_n hC 0 dX10_account_24 rfl ?_
    refine s_iload_n hC 3 dX10_account_25 rfl ?_
    refine s_callV hC (x := v0) (avs := [vI v3]) (st := []) (nest := false) xc10 (m_X10_isDaily hI v0 v3 μ8) dX10_account_26 qm_X10_253 qi_X10_isDaily qs_X10_isDaily qc_X10 qd_X10_isDaily qh_X10_isDaily (by decide) (fun _ => Nat.le_of_ble_eq_true rfl) (Nat.le_of_ble_eq_true rfl) (fun v9 μ10 => ?_)
    refine s_if_ne hC dX10_account_29 (tgt := 35) (by decide) ?_ ?_
    · refine s_aload_n hC 0 dX10_account_35 rfl ?_
      refine s_getI hC xc10 (by decide) rfl qf_X10_7 dX10_account_36 ?_
      refine s_bipush hC dX10_account_39 (v := 6) (by decide) ?_
      refine s_icmp_ne hC dX10_account_41 (tgt := 47) (by decide) ?_ ?_
      · refine s_aload_n hC 0 dX10_account_47 rfl ?_
        refine s_getR hC xc10 (by decide) rfl qf_X10_26 dX10_account_48 ?_
        refine s_ltR (fun v11 => ?_)
        refine s_aload_n hC 0 dX10_account_51 rfl ?_
        refine s_getI hC xc10 (by decide) rfl qf_X10_7 dX10_account_52 ?_
        refine s_iload_n hC 1 dX10_account_55 rfl ?_
        refine s_ltI2 (fun v12 => ?_)
        refine s_iast hC dX10_account_56 ?_
        refine s_ltM (fun μ13 => ?_)
        refine s_aload_n hC 0 dX10_account_57 rfl ?_
        refine s_getR hC xc10 (by decide) rfl qf_X10_29 dX10_account_58 ?_
        refine s_ltR (fun v14 => ?_)
        refine s_aload_n hC 0 dX10_account_61 rfl ?_
        refine s_getI hC xc10 (by decide) rfl qf_X10_7 dX10_account_62 ?_
        refine s_iload_n hC 2 dX10_account_65 rfl ?_
        refine s_ltI2 (fun v15 => ?_)
        refine s_iast hC dX10_account_66 ?_
        refine s_ltM (fun μ16 => ?_)
        refine s_aload_n hC 0 dX10_account_67 rfl ?_
        refine s_getR hC xc10 (by decide) rfl qf_X10_32 dX10_account_68 ?_
        refine s_ltR (fun v17 => ?_)
        refine s_aload_n hC 0 dX10_account_71 rfl ?_
        refine s_getI hC xc10 (by decide) rfl qf_X10_7 dX10_account_72 ?_
        refine s_iconst hC dX10_account_75 (v := 0) (by decide) ?_
        refine s_ltI2 (fun v18 => ?_)
        refine s_iast hC dX10_account_76 ?_
        refine s_ltM (fun μ19 => ?_)
        refine s_aload_n hC 0 dX10_account_77 rfl ?_
        refine s_getR hC xc10 (by decide) rfl qf_X10_35 dX10_account_78 ?_
        refine s_ltR (fun v20 => ?_)
        refine s_aload_n hC 0 dX10_account_81 rfl ?_
        refine s_getI hC xc10 (by decide) rfl qf_X10_7 dX10_account_82 ?_
        refine s_iload_n hC 3 dX10_account_85 rfl ?_
        refine s_ltI2 (fun v21 => ?_)
        refine s_iast hC dX10_account_86 ?_
        refine s_ltM (fun μ22 => ?_)
        refine s_aload_n hC 0 dX10_account_87 rfl ?_
        refine s_getR hC xc10 (by decide) rfl qf_X10_38 dX10_account_88 ?_
        refine s_ltR (fun v23 => ?_)
        refine s_aload_n hC 0 dX10_account_91 rfl ?_
        refine s_getI hC xc10 (by decide) rfl qf_X10_7 dX10_account_92 ?_
        refine s_iconst hC dX10_account_95 (v := 0) (by decide) ?_
        refine s_ltI2 (fun v24 => ?_)
        refine s_iast hC dX10_account_96 ?_
        refine s_ltM (fun μ25 => ?_)
        refine s_iconst hC dX10_account_97 (v := 0) (by decide) ?_
        refine s_istore hC dX10_account_98 (by decide) (lv' := [(4, vI (0 : Int32)), (0, vR v0), (1, vI v1), (2, vI v2), (3, vI v3)]) rfl ?_
        refine s_lv (lv' := [(0, vR v0), (4, vI (0 : Int32))]) [1, 0] rfl ?_
        refine j_X10_account_L100 hI hC hr hlk (fun v32 μ33 => ?_) 4096 _ _ _
        refine s_aload_n hC 0 dX10_account_127 rfl ?_
        refine s_dupR hC dX10_account_128 ?_
        refine s_getI hC xc10 (by decide) rfl qf_X10_7 dX10_account_129 ?_
        refine s_iconst hC dX10_account_132 (v := 1) (by decide) ?_
        refine s_iadd hC dX10_account_133 ?_
        refine s_putI hC xc10 (by decide) rfl rfl qf_X10_7 dX10_account_134 ?_
        refine s_ltM (fun μ34 => ?_)
        refine s_aload_n hC 0 dX10_account_137 rfl ?_
        refine s_getI hC xc10 (by decide) rfl qf_X10_7 dX10_account_138 ?_
        refine s_iconst hC dX10_account_141 (v := 1) (by decide) ?_
        refine s_isub hC dX10_account_142 ?_
        exact s_iret hC hr hlk dX10_account_143
      refine s_bipush hC dX10_account_44 (v := -4) (by decide) ?_
      exact s_iret hC hr hlk dX10_account_46
    refine s_bipush hC dX10_account_32 (v := -2) (by decide) ?_
    exact s_iret hC hr hlk dX10_account_34
  refine s_iconst hC dX10_account_11 (v := -1) (by decide) ?_
  exact s_iret hC hr hlk dX10_account_12
theorem dX10_row_0 : decode cX10_row 0 = .ok (.aload_n 0, 1) := by decide +kernel
theorem dX10_row_1 : decode cX10_row 1 = .ok (.iload_n 1, 1) := by decide +kernel
theorem dX10_row_2 : decode cX10_row 2 = .ok (.invokevirtual 257, 3) := by decide +kernel
theorem dX10_row_5 : decode cX10_row 5 = .ok (.ifCond .eq 13, 3) := by decide +kernel
theorem dX10_row_8 : decode cX10_row 8 = .ok (.aload_n 0, 1) := by decide +kernel
theorem dX10_row_9 : decode cX10_row 9 = .ok (.iload_n 2, 1) := by decide +kernel
theorem dX10_row_10 : decode cX10_row 10 = .ok (.iconst 0, 1) := by decide +kernel
theorem dX10_row_11 : decode cX10_row 11 = .ok (.iconst 3, 1) := by decide +kernel
theorem dX10_row_12 : decode cX10_row 12 = .ok (.invokevirtual 245, 3) := by decide +kernel
theorem dX10_row_15 : decode cX10_row 15 = .ok (.ifCond .ne 5, 3) := by decide +kernel
theorem dX10_row_18 : decode cX10_row 18 = .ok (.iconst (-1), 1) := by decide +kernel
theorem dX10_row_19 : decode cX10_row 19 = .ok (.ireturn, 1) := by decide +kernel
theorem dX10_row_20 : decode cX10_row 20 = .ok (.aload_n 0, 1) := by decide +kernel
theorem dX10_row_21 : decode cX10_row 21 = .ok (.iload_n 3, 1) := by decide +kernel
theorem dX10_row_22 : decode cX10_row 22 = .ok (.iconst 0, 1) := by decide +kernel
theorem dX10_row_23 : decode cX10_row 23 = .ok (.bipush 9, 2) := by decide +kernel
theorem dX10_row_25 : decode cX10_row 25 = .ok (.invokevirtual 245, 3) := by decide +kernel
theorem dX10_row_28 : decode cX10_row 28 = .ok (.ifCond .ne 6, 3) := by decide +kernel
theorem dX10_row_31 : decode cX10_row 31 = .ok (.bipush (-2), 2) := by decide +kernel
theorem dX10_row_33 : decode cX10_row 33 = .ok (.ireturn, 1) := by decide +kernel
theorem dX10_row_34 : decode cX10_row 34 = .ok (.aload_n 0, 1) := by decide +kernel
theorem dX10_row_35 : decode cX10_row 35 = .ok (.getfield 26, 3) := by decide +kernel
theorem dX10_row_38 : decode cX10_row 38 = .ok (.iload_n 1, 1) := by decide +kernel
theorem dX10_row_39 : decode cX10_row 39 = .ok (.iaload, 1) := by decide +kernel
theorem dX10_row_40 : decode cX10_row 40 = .ok (.bipush 6, 2) := by decide +kernel
theorem dX10_row_42 : decode cX10_row 42 = .ok (.if_icmp .eq 6, 3) := by decide +kernel
theorem dX10_row_45 : decode cX10_row 45 = .ok (.bipush (-3), 2) := by decide +kernel
theorem dX10_row_47 : decode cX10_row 47 = .ok (.ireturn, 1) := by decide +kernel
theorem dX10_row_48 : decode cX10_row 48 = .ok (.aload_n 0, 1) := by decide +kernel
theorem dX10_row_49 : decode cX10_row 49 = .ok (.getfield 41, 3) := by decide +kernel
theorem dX10_row_52 : decode cX10_row 52 = .ok (.iconst 4, 1) := by decide +kernel
theorem dX10_row_53 : decode cX10_row 53 = .ok (.iload_n 1, 1) := by decide +kernel
theorem dX10_row_54 : decode cX10_row 54 = .ok (.imul, 1) := by decide +kernel
theorem dX10_row_55 : decode cX10_row 55 = .ok (.iload_n 2, 1) := by decide +kernel
theorem dX10_row_56 : decode cX10_row 56 = .ok (.iadd, 1) := by decide +kernel
theorem dX10_row_57 : decode cX10_row 57 = .ok (.iaload, 1) := by decide +kernel
theorem dX10_row_58 : decode cX10_row 58 = .ok (.istore 4, 2) := by decide +kernel
theorem dX10_row_60 : decode cX10_row 60 = .ok (.aload_n 0, 1) := by decide +kernel
theorem dX10_row_61 : decode cX10_row 61 = .ok (.getfield 41, 3) := by decide +kernel
theorem dX10_row_64 : decode cX10_row 64 = .ok (.iconst 4, 1) := by decide +kernel
theorem dX10_row_65 : decode cX10_row 65 = .ok (.iload_n 1, 1) := by decide +kernel
theorem dX10_row_66 : decode cX10_row 66 = .ok (.imul, 1) := by decide +kernel
theorem dX10_row_67 : decode cX10_row 67 = .ok (.iload_n 2, 1) := by decide +kernel
theorem dX10_row_68 : decode cX10_row 68 = .ok (.iadd, 1) := by decide +kernel
theorem dX10_row_69 : decode cX10_row 69 = .ok (.iload_n 3, 1) := by decide +kernel
theorem dX10_row_70 : decode cX10_row 70 = .ok (.iastore, 1) := by decide +kernel
theorem dX10_row_71 : decode cX10_row 71 = .ok (.iload 4, 2) := by decide +kernel
theorem dX10_row_73 : decode cX10_row 73 = .ok (.ireturn, 1) := by decide +kernel
def f_X10_row (X : x_X) (v0 : Nat) (v1 : Int32) (v2 : Int32) (v3 : Int32) (μ : x_M) : Option (Int32 × x_M) :=
  (ck (x_kd X v0 = 10 + 1) (bd (f_X10_isAccount X v0 v1 μ) (fun (v5 : Int32) (μ6 : x_M) => (if v5 = 0 then (some ((-1 : Int32), μ6)) else (ck (x_kd X v0 = 10 + 1) (bd (f_X10_in X v0 v2 (0 : Int32) (3 : Int32) μ6) (fun (v7 : Int32) (μ8 : x_M) => (if v7 = 0 then (some ((-1 : Int32), μ8)) else (ck (x_kd X v0 = 10 + 1) (bd (f_X10_in X v0 v3 (0 : Int32) (9 : Int32) μ8) (fun (v9 : Int32) (μ10 : x_M) => (if v9 = 0 then (some ((-2 : Int32), μ10)) else (ck (x_kd X v0 = 10 + 1) (lt (μ10.2.1 v0 5) (fun (v11 : Nat) => (ck ((x_kd X v11 = 20 ∨ x_kd X v11 = 40) ∧ x_ix v1 (x_ln X v11)) (if (μ10.1 v11 (v1).toNatClampNeg) = (6 : Int32) then (ck (x_kd X v0 = 10 + 1) (lt (μ10.2.1 v0 10) (fun (v12 : Nat) => (lt (((4 : Int32) * v1) + v2) (fun (v13 : Int32) => (ck ((x_kd X v12 = 20 ∨ x_kd X v12 = 40) ∧ x_ix v13 (x_ln X v12)) (lt (μ10.1 v12 (v13).toNatClampNeg) (fun (v14 : Int32) => (ck (x_kd X v0 = 10 + 1) (lt (μ10.2.1 v0 10) (fun (v15 : Nat) => (lt (((4 : Int32) * v1) + v2) (fun (v16 : Int32) => (ck (x_kd X v15 = 20 ∧ x_ix v16 (x_ln X v15)) (lt (x_sI μ10 v15 (v16).toNatClampNeg v3) (fun (μ17 : x_M) => (some (v14, μ17)))))))))))))))))) else (some ((-3 : Int32), μ10)))))))))))))))))))
set_option maxRecDepth 100000 in
theorem m_X10_row (hI : x_I X) (v0 : Nat) (v1 : Int32) (v2 : Int32) (v3 : Int32) (μ : x_M) : x_Met X x_Z0 l yX10_row cX10_row 5 (some .int) 3 [vR v0, vI v1, vI v2, vI v3] μ rkI (f_X10_row X v0 v1 v2 v3 μ) := by
  refine x_enter hI (by decide +kernel) (Nat.le_of_ble_eq_true rfl) (fun p e s m args below meth c hC hr hlk => ?_)
  unfold f_X10_row
  refine s_lv (lv' := [(0, vR v0), (1, vI v1), (2, vI v2), (3, vI v3)]) [0, 1, 2, 3] rfl ?_
  refine s_aload_n hC 0 dX10_row_0 rfl ?_
  refine s_iload_n hC 1 dX10_row_1 rfl ?_
  refine s_callV hC (x := v0) (avs := [vI v1]) (st := []) (nest := false) xc10 (m_X10_isAccount hI v0 v1 μ) dX10_row_2 qm_X10_257 qi_X10_isAccount qs_X10_isAccount qc_X10 qd_X10_isAccount qh_X10_isAccount (by decide) (fun _ => Nat.le_of_ble_eq_true rfl) (Nat.le_of_ble_eq_true rfl) (fun v5 μ6 => ?_)
  refine s_if_eq hC dX10_row_5 (tgt := 18) (by decide) ?_ ?_
  · refine s_iconst hC dX10_row_18 (v := -1) (by decide) ?_
    exact s_iret hC hr hlk dX10_row_19
  refine s_aload_n hC 0 dX10_row_8 rfl ?_
  refine s_iload_n hC 2 dX10_row_9 rfl ?_
  refine s_iconst hC dX10_row_10 (v := 0) (by decide) ?_
  refine s_iconst hC dX10_row_11 (v := 3) (by decide) ?_
  refine s_callV hC (x := v0) (avs := [vI v2, vI (0 : Int32), vI (3 : Int32)]) (st := []) (nest := false) xc10 (m_X10_in hI v0 v2 (0 : Int32) (3 : Int32) μ6) dX10_row_12 qm_X10_245 qi_X10_in qs_X10_in qc_X10 qd_X10_in qh_X10_in (by decide) (fun _ => Nat.le_of_ble_eq_true rfl) (Nat.le_of_ble_eq_true rfl) (fun v7 μ8 => ?_)
  refine s_if_ne hC dX10_row_15 (tgt := 20) (by decide) ?_ ?_
  · refine s_aload_n hC 0 dX10_row_20 rfl ?_
    refine s_iload_n hC 3 dX10_row_21 rfl ?_
    refine s_iconst hC dX10_row_22 (v := 0) (by decide) ?_
    refine s_bipush hC dX10_row_23 (v := 9) (by decide) ?_
    refine s_callV hC (x := v0) (avs := [vI v3, vI (0 : Int32), vI (9 : Int32)]) (st := []) (nest := false) xc10 (m_X10_in hI v0 v3 (0 : Int32) (9 : Int32) μ8) dX10_row_25 qm_X10_245 qi_X10_in qs_X10_in qc_X10 qd_X10_in qh_X10_in (by decide) (fun _ => Nat.le_of_ble_eq_true rfl) (Nat.le_of_ble_eq_true rfl) (fun v9 μ10 => ?_)
    refine s_if_ne hC dX10_row_28 (tgt := 34) (by decide) ?_ ?_
    · refine s_aload_n hC 0 dX10_row_34 rfl ?_
      refine s_getR hC xc10 (by decide) rfl qf_X10_26 dX10_row_35 ?_
      refine s_ltR (fun v11 => ?_)
      refine s_iload_n hC 1 dX10_row_38 rfl ?_
      refine s_iald hC dX10_row_39 ?_
      refine s_bipush hC dX10_row_40 (v := 6) (by decide) ?_
      refine s_icmp_eq hC dX10_row_42 (tgt := 48) (by decide) ?_ ?_
      · refine s_aload_n hC 0 dX10_row_48 rfl ?_
        refine s_getR hC xc10 (by decide) rfl qf_X10_41 dX10_row_49 ?_
        refine s_ltR (fun v12 => ?_)
        refine s_iconst hC dX10_row_52 (v := 4) (by decide) ?_
        refine s_iload_n hC 1 dX10_row_53 rfl ?_
        refine s_imul hC dX10_row_54 ?_
        refine s_iload_n hC 2 dX10_row_55 rfl ?_
        refine s_iadd hC dX10_row_56 ?_
        refine s_ltI (fun v13 => ?_)
        refine s_iald hC dX10_row_57 ?_
        refine s_ltI (fun v14 => ?_)
        refine s_istore hC dX10_row_58 (by decide) (lv' := [(4, vI v14), (0, vR v0), (1, vI v1), (2, vI v2), (3, vI v3)]) rfl ?_
        refine s_aload_n hC 1 dX10_row_60 rfl ?_
        refine s_getR hC xc10 (by decide) rfl qf_X10_41 dX10_row_61 ?_
        refine s_ltR (fun v15 => ?_)
        refine s_iconst hC dX10_row_64 (v := 4) (by decide) ?_
        refine s_iload_n hC 2 dX10_row_65 rfl ?_
        refine s_imul hC dX10_row_66 ?_
        refine s_iload_n hC 3 dX10_row_67 rfl ?_
        refine s_iadd hC dX10_row_68 ?_
        refine s_iload_n hC 4 dX10_row_69 rfl ?_
        refine s_ltI2 (fun v16 => ?_)
        refine s_iast hC dX10_row_70 ?_
        refine s_ltM (fun μ17 => ?_)
        refine s_iload hC 0 dX10_row_71 rfl ?_
        exact s_iret hC hr hlk dX10_row_73
      refine s_bipush hC dX10_row_45 (v := -3) (by decide) ?_
      exact s_iret hC hr hlk dX10_row_47
    refine s_bipush hC dX10_row_31 (v := -2) (by decide) ?_
    exact s_iret hC hr hlk dX10_row_33
  refine s_iconst hC dX10_row_18 (v := -1) (by decide) ?_
  exact s_iret hC hr hlk dX10_row_19
theorem dX10_set_0 : decode cX10_set 0 = .ok (.aload_n 0, 1) := by decide +kernel
theorem dX10_set_1 : decode cX10_set 1 = .ok (.iload_n 1, 1) := by decide +kernel
theorem dX10_set_2 : decode cX10_set 2 = .ok (.invokevirtual 257, 3) := by decide +kernel
theorem dX10_set_5 : decode cX10_set 5 = .ok (.ifCond .eq 13, 3) := by decide +kernel
theorem dX10_set_8 : decode cX10_set 8 = .ok (.aload_n 0, 1) := by decide +kernel
theorem dX10_set_9 : decode cX10_set 9 = .ok (.iload_n 2, 1) := by decide +kernel
theorem dX10_set_10 : decode cX10_set 10 = .ok (.iconst 0, 1) := by decide +kernel
theorem dX10_set_11 : decode cX10_set 11 = .ok (.iconst 2, 1) := by decide +kernel
theorem dX10_set_12 : decode cX10_set 12 = .ok (.invokevirtual 245, 3) := by decide +kernel
theorem dX10_set_15 : decode cX10_set 15 = .ok (.ifCond .ne 7, 3) := by decide +kernel
theorem dX10_set_18 : decode cX10_set 18 = .ok (.sipush (-10001), 3) := by decide +kernel
theorem dX10_set_21 : decode cX10_set 21 = .ok (.ireturn, 1) := by decide +kernel
theorem dX10_set_22 : decode cX10_set 22 = .ok (.iload_n 2, 1) := by decide +kernel
theorem dX10_set_23 : decode cX10_set 23 = .ok (.ifCond .ne 17, 3) := by decide +kernel
theorem dX10_set_26 : decode cX10_set 26 = .ok (.aload_n 0, 1) := by decide +kernel
theorem dX10_set_27 : decode cX10_set 27 = .ok (.iload_n 3, 1) := by decide +kernel
theorem dX10_set_28 : decode cX10_set 28 = .ok (.sipush (-999), 3) := by decide +kernel
theorem dX10_set_31 : decode cX10_set 31 = .ok (.sipush 999, 3) := by decide +kernel
theorem dX10_set_34 : decode cX10_set 34 = .ok (.invokevirtual 245, 3) := by decide +kernel
theorem dX10_set_37 : decode cX10_set 37 = .ok (.goto 24, 3) := by decide +kernel
theorem dX10_set_40 : decode cX10_set 40 = .ok (.iload_n 2, 1) := by decide +kernel
theorem dX10_set_41 : decode cX10_set 41 = .ok (.iconst 1, 1) := by decide +kernel
theorem dX10_set_42 : decode cX10_set 42 = .ok (.if_icmp .ne 11, 3) := by decide +kernel
theorem dX10_set_45 : decode cX10_set 45 = .ok (.aload_n 0, 1) := by decide +kernel
theorem dX10_set_46 : decode cX10_set 46 = .ok (.iload_n 3, 1) := by decide +kernel
theorem dX10_set_47 : decode cX10_set 47 = .ok (.invokevirtual 253, 3) := by decide +kernel
theorem dX10_set_50 : decode cX10_set 50 = .ok (.goto 11, 3) := by decide +kernel
theorem dX10_set_53 : decode cX10_set 53 = .ok (.aload_n 0, 1) := by decide +kernel
theorem dX10_set_54 : decode cX10_set 54 = .ok (.iload_n 3, 1) := by decide +kernel
theorem dX10_set_55 : decode cX10_set 55 = .ok (.iconst 0, 1) := by decide +kernel
theorem dX10_set_56 : decode cX10_set 56 = .ok (.bipush 20, 2) := by decide +kernel
theorem dX10_set_58 : decode cX10_set 58 = .ok (.invokevirtual 245, 3) := by decide +kernel
theorem dX10_set_61 : decode cX10_set 61 = .ok (.istore 4, 2) := by decide +kernel
theorem dX10_set_63 : decode cX10_set 63 = .ok (.iload 4, 2) := by decide +kernel
theorem dX10_set_65 : decode cX10_set 65 = .ok (.ifCond .ne 7, 3) := by decide +kernel
theorem dX10_set_68 : decode cX10_set 68 = .ok (.sipush (-10002), 3) := by decide +kernel
theorem dX10_set_71 : decode cX10_set 71 = .ok (.ireturn, 1) := by decide +kernel
theorem dX10_set_72 : decode cX10_set 72 = .ok (.iload_n 2, 1) := by decide +kernel
theorem dX10_set_73 : decode cX10_set 73 = .ok (.iconst 2, 1) := by decide +kernel
theorem dX10_set_74 : decode cX10_set 74 = .ok (.if_icmp .ne 17, 3) := by decide +kernel
theorem dX10_set_77 : decode cX10_set 77 = .ok (.aload_n 0, 1) := by decide +kernel
theorem dX10_set_78 : decode cX10_set 78 = .ok (.getfield 26, 3) := by decide +kernel
theorem dX10_set_81 : decode cX10_set 81 = .ok (.iload_n 1, 1) := by decide +kernel
theorem dX10_set_82 : decode cX10_set 82 = .ok (.iaload, 1) := by decide +kernel
theorem dX10_set_83 : decode cX10_set 83 = .ok (.iconst 4, 1) := by decide +kernel
theorem dX10_set_84 : decode cX10_set 84 = .ok (.if_icmp .eq 7, 3) := by decide +kernel
theorem dX10_set_87 : decode cX10_set 87 = .ok (.sipush (-10003), 3) := by decide +kernel
theorem dX10_set_90 : decode cX10_set 90 = .ok (.ireturn, 1) := by decide +kernel
theorem dX10_set_91 : decode cX10_set 91 = .ok (.iload_n 2, 1) := by decide +kernel
theorem dX10_set_92 : decode cX10_set 92 = .ok (.ifCond .ne 12, 3) := by decide +kernel
theorem dX10_set_95 : decode cX10_set 95 = .ok (.aload_n 0, 1) := by decide +kernel
theorem dX10_set_96 : decode cX10_set 96 = .ok (.getfield 32, 3) := by decide +kernel
theorem dX10_set_99 : decode cX10_set 99 = .ok (.iload_n 1, 1) := by decide +kernel
theorem dX10_set_100 : decode cX10_set 100 = .ok (.iaload, 1) := by decide +kernel
theorem dX10_set_101 : decode cX10_set 101 = .ok (.goto 23, 3) := by decide +kernel
theorem dX10_set_104 : decode cX10_set 104 = .ok (.iload_n 2, 1) := by decide +kernel
theorem dX10_set_105 : decode cX10_set 105 = .ok (.iconst 1, 1) := by decide +kernel
theorem dX10_set_106 : decode cX10_set 106 = .ok (.if_icmp .ne 12, 3) := by decide +kernel
theorem dX10_set_109 : decode cX10_set 109 = .ok (.aload_n 0, 1) := by decide +kernel
theorem dX10_set_110 : decode cX10_set 110 = .ok (.getfield 35, 3) := by decide +kernel
theorem dX10_set_113 : decode cX10_set 113 = .ok (.iload_n 1, 1) := by decide +kernel
theorem dX10_set_114 : decode cX10_set 114 = .ok (.iaload, 1) := by decide +kernel
theorem dX10_set_115 : decode cX10_set 115 = .ok (.goto 9, 3) := by decide +kernel
theorem dX10_set_118 : decode cX10_set 118 = .ok (.aload_n 0, 1) := by decide +kernel
theorem dX10_set_119 : decode cX10_set 119 = .ok (.getfield 38, 3) := by decide +kernel
theorem dX10_set_122 : decode cX10_set 122 = .ok (.iload_n 1, 1) := by decide +kernel
theorem dX10_set_123 : decode cX10_set 123 = .ok (.iaload, 1) := by decide +kernel
theorem dX10_set_124 : decode cX10_set 124 = .ok (.istore 5, 2) := by decide +kernel
theorem dX10_set_126 : decode cX10_set 126 = .ok (.iload_n 2, 1) := by decide +kernel
theorem dX10_set_127 : decode cX10_set 127 = .ok (.ifCond .ne 10, 3) := by decide +kernel
theorem dX10_set_130 : decode cX10_set 130 = .ok (.aload_n 0, 1) := by decide +kernel
theorem dX10_set_131 : decode cX10_set 131 = .ok (.getfield 32, 3) := by decide +kernel
theorem dX10_set_134 : decode cX10_set 134 = .ok (.iload_n 1, 1) := by decide +kernel
theorem dX10_set_135 : decode cX10_set 135 = .ok (.iload_n 3, 1) := by decide +kernel
theorem dX10_set_136 : decode cX10_set 136 = .ok (.iastore, 1) := by decide +kernel
theorem dX10_set_137 : decode cX10_set 137 = .ok (.iload_n 2, 1) := by decide +kernel
theorem dX10_set_138 : decode cX10_set 138 = .ok (.iconst 1, 1) := by decide +kernel
theorem dX10_set_139 : decode cX10_set 139 = .ok (.if_icmp .ne 10, 3) := by decide +kernel
theorem dX10_set_142 : decode cX10_set 142 = .ok (.aload_n 0, 1) := by decide +kernel
theorem dX10_set_143 : decode cX10_set 143 = .ok (.getfield 35, 3) := by decide +kernel
theorem dX10_set_146 : decode cX10_set 146 = .ok (.iload_n 1, 1) := by decide +kernel
theorem dX10_set_147 : decode cX10_set 147 = .ok (.iload_n 3, 1) := by decide +kernel
theorem dX10_set_148 : decode cX10_set 148 = .ok (.iastore, 1) := by decide +kernel
theorem dX10_set_149 : decode cX10_set 149 = .ok (.iload_n 2, 1) := by decide +kernel
theorem dX10_set_150 : decode cX10_set 150 = .ok (.iconst 2, 1) := by decide +kernel
theorem dX10_set_151 : decode cX10_set 151 = .ok (.if_icmp .ne 10, 3) := by decide +kernel
theorem dX10_set_154 : decode cX10_set 154 = .ok (.aload_n 0, 1) := by decide +kernel
theorem dX10_set_155 : decode cX10_set 155 = .ok (.getfield 38, 3) := by decide +kernel
theorem dX10_set_158 : decode cX10_set 158 = .ok (.iload_n 1, 1) := by decide +kernel
theorem dX10_set_159 : decode cX10_set 159 = .ok (.iload_n 3, 1) := by decide +kernel
theorem dX10_set_160 : decode cX10_set 160 = .ok (.iastore, 1) := by decide +kernel
theorem dX10_set_161 : decode cX10_set 161 = .ok (.iload 5, 2) := by decide +kernel
theorem dX10_set_163 : decode cX10_set 163 = .ok (.ireturn, 1) := by decide +kernel
def f_X10_set_J137 (X : x_X) (v29 : Nat) (v30 : Int32) (v31 : Int32) (v32 : Int32) (v33 : Int32) (μ34 : x_M) : Option (Int32 × x_M) :=
  (if v31 = (1 : Int32) then (ck (x_kd X v29 = 10 + 1) (lt (μ34.2.1 v29 8) (fun (v37 : Nat) => (ck (x_kd X v37 = 20 ∧ x_ix v30 (x_ln X v37)) (lt (x_sI μ34 v37 (v30).toNatClampNeg v32) (fun (μ38 : x_M) => (if v31 = (2 : Int32) then (ck (x_kd X v29 = 10 + 1) (lt (μ38.2.1 v29 9) (fun (v39 : Nat) => (ck (x_kd X v39 = 20 ∧ x_ix v30 (x_ln X v39)) (lt (x_sI μ38 v39 (v30).toNatClampNeg v32) (fun (μ40 : x_M) => (some (v33, μ40)))))))) else (some (v33, μ38))))))))) else (if v31 = (2 : Int32) then (ck (x_kd X v29 = 10 + 1) (lt (μ34.2.1 v29 9) (fun (v35 : Nat) => (ck (x_kd X v35 = 20 ∧ x_ix v30 (x_ln X v35)) (lt (x_sI μ34 v35 (v30).toNatClampNeg v32) (fun (μ36 : x_M) => (some (v33, μ36)))))))) else (some (v33, μ34))))
set_option maxRecDepth 100000 in
theorem j_X10_set_J137 (hI : x_I X) (hC : x_C X x_Z0 p (x_rm 3) s m c cX10_set RX10 6 0 0 3) (hr : meth.sig.returnType = (some .int)) (hlk : meth.locks = false) (v29 : Nat) (v30 : Int32) (v31 : Int32) (v32 : Int32) (v33 : Int32) (μ34 : x_M) : SM X 6 3 rkI p l e s m args below meth c 137 [(0, vR v29), (1, vI v30), (2, vI v31), (3, vI v32), (5, vI v33)] [] μ34 (f_X10_set_J137 X v29 v30 v31 v32 v33 μ34) := by
  unfold f_X10_set_J137
  refine s_iload_n hC 2 dX10_set_137 rfl ?_
  refine s_iconst hC dX10_set_138 (v := 1) (by decide) ?_
  refine s_icmp_ne hC dX10_set_139 (tgt := 149) (by decide) ?_ ?_
  · refine s_iload_n hC 2 dX10_set_149 rfl ?_
    refine s_iconst hC dX10_set_150 (v := 2) (by decide) ?_
    refine s_icmp_ne hC dX10_set_151 (tgt := 161) (by decide) ?_ ?_
    · refine s_iload hC 4 dX10_set_161 rfl ?_
      exact s_iret hC hr hlk dX10_set_163
    refine s_aload_n hC 0 dX10_set_154 rfl ?_
    refine s_getR hC xc10 (by decide) rfl qf_X10_38 dX10_set_155 ?_
    refine s_ltR (fun v35 => ?_)
    refine s_iload_n hC 1 dX10_set_158 rfl ?_
    refine s_iload_n hC 3 dX10_set_159 rfl ?_
    refine s_iast hC dX10_set_160 ?_
    refine s_ltM (fun μ36 => ?_)
    refine s_iload hC 4 dX10_set_161 rfl ?_
    exact s_iret hC hr hlk dX10_set_163
  refine s_aload_n hC 0 dX10_set_142 rfl ?_
  refine s_getR hC xc10 (by decide) rfl qf_X10_35 dX10_set_143 ?_
  refine s_ltR (fun v37 => ?_)
  refine s_iload_n hC 1 dX10_set_146 rfl ?_
  refine s_iload_n hC 3 dX10_set_147 rfl ?_
  refine s_iast hC dX10_set_148 ?_
  refine s_ltM (fun μ38 => ?_)
  refine s_iload_n hC 2 dX10_set_149 rfl ?_
  refine s_iconst hC dX10_set_150 (v := 2) (by decide) ?_
  refine s_icmp_ne hC dX10_set_151 (tgt := 161) (by decide) ?_ ?_
  · refine s_iload hC 4 dX10_set_161 rfl ?_
    exact s_iret hC hr hlk dX10_set_163
  refine s_aload_n hC 0 dX10_set_154 rfl ?_
  refine s_getR hC xc10 (by decide) rfl qf_X10_38 dX10_set_155 ?_
  refine s_ltR (fun v39 => ?_)
  refine s_iload_n hC 1 dX10_set_158 rfl ?_
  refine s_iload_n hC 3 dX10_set_159 rfl ?_
  refine s_iast hC dX10_set_160 ?_
  refine s_ltM (fun μ40 => ?_)
  refine s_iload hC 4 dX10_set_161 rfl ?_
  exact s_iret hC hr hlk dX10_set_163
def f_X10_set_J124 (X : x_X) (v23 : Nat) (v24 : Int32) (v25 : Int32) (v26 : Int32) (v27 : Int32) (μ28 : x_M) : Option (Int32 × x_M) :=
  (if v25 = 0 then (ck (x_kd X v23 = 10 + 1) (lt (μ28.2.1 v23 7) (fun (v41 : Nat) => (ck (x_kd X v41 = 20 ∧ x_ix v24 (x_ln X v41)) (lt (x_sI μ28 v41 (v24).toNatClampNeg v26) (fun (μ42 : x_M) => (f_X10_set_J137 X v23 v24 v25 v26 v27 μ42))))))) else (f_X10_set_J137 X v23 v24 v25 v26 v27 μ28))
set_option maxRecDepth 100000 in
theorem j_X10_set_J124 (hI : x_I X) (hC : x_C X x_Z0 p (x_rm 3) s m c cX10_set RX10 6 0 0 3) (hr : meth.sig.returnType = (some .int)) (hlk : meth.locks = false) (v23 : Nat) (v24 : Int32) (v25 : Int32) (v26 : Int32) (v27 : Int32) (μ28 : x_M) : SM X 6 3 rkI p l e s m args below meth c 124 [(0, vR v23), (1, vI v24), (2, vI v25), (3, vI v26)] [vI v27] μ28 (f_X10_set_J124 X v23 v24 v25 v26 v27 μ28) := by
  unfold f_X10_set_J124
  refine s_istore hC dX10_set_124 (by decide) (lv' := [(5, vI v27), (0, vR v23), (1, vI v24), (2, vI v25), (3, vI v26)]) rfl ?_
  refine s_iload_n hC 3 dX10_set_126 rfl ?_
  refine s_if_ne hC dX10_set_127 (tgt := 137) (by decide) ?_ ?_
  · refine s_lv (lv' := [(0, vR v23), (1, vI v24), (2, vI v25), (3, vI v26), (5, vI v27)]) [1, 2, 3, 4, 0] rfl ?_
    exact j_X10_set_J137 hI hC hr hlk _ _ _ _ _ _
  refine s_aload_n hC 1 dX10_set_130 rfl ?_
  refine s_getR hC xc10 (by decide) rfl qf_X10_32 dX10_set_131 ?_
  refine s_ltR (fun v41 => ?_)
  refine s_iload_n hC 2 dX10_set_134 rfl ?_
  refine s_iload_n hC 4 dX10_set_135 rfl ?_
  refine s_iast hC dX10_set_136 ?_
  refine s_ltM (fun μ42 => ?_)
  refine s_lv (lv' := [(0, vR v23), (1, vI v24), (2, vI v25), (3, vI v26), (5, vI v27)]) [1, 2, 3, 4, 0] rfl ?_
  exact j_X10_set_J137 hI hC hr hlk _ _ _ _ _ _
def f_X10_set_J91 (X : x_X) (v17 : Nat) (v18 : Int32) (v19 : Int32) (v20 : Int32) (μ21 : x_M) : Option (Int32 × x_M) :=
  (if v19 = 0 then (ck (x_kd X v17 = 10 + 1) (lt (μ21.2.1 v17 7) (fun (v44 : Nat) => (ck ((x_kd X v44 = 20 ∨ x_kd X v44 = 40) ∧ x_ix v18 (x_ln X v44)) (f_X10_set_J124 X v17 v18 v19 v20 (μ21.1 v44 (v18).toNatClampNeg) μ21))))) else (if v19 = (1 : Int32) then (ck (x_kd X v17 = 10 + 1) (lt (μ21.2.1 v17 8) (fun (v43 : Nat) => (ck ((x_kd X v43 = 20 ∨ x_kd X v43 = 40) ∧ x_ix v18 (x_ln X v43)) (f_X10_set_J124 X v17 v18 v19 v20 (μ21.1 v43 (v18).toNatClampNeg) μ21))))) else (ck (x_kd X v17 = 10 + 1) (lt (μ21.2.1 v17 9) (fun (v22 : Nat) => (ck ((x_kd X v22 = 20 ∨ x_kd X v22 = 40) ∧ x_ix v18 (x_ln X v22)) (f_X10_set_J124 X v17 v18 v19 v20 (μ21.1 v22 (v18).toNatClampNeg) μ21)))))))
set_option maxRecDepth 100000 in
theorem j_X10_set_J91 (hI : x_I X) (hC : x_C X x_Z0 p (x_rm 3) s m c cX10_set RX10 6 0 0 3) (hr : meth.sig.returnType = (some .int)) (hlk : meth.locks = false) (v17 : Nat) (v18 : Int32) (v19 : Int32) (v20 : Int32) (μ21 : x_M) : SM X 6 3 rkI p l e s m args below meth c 91 [(0, vR v17), (1, vI v18), (2, vI v19), (3, vI v20)] [] μ21 (f_X10_set_J91 X v17 v18 v19 v20 μ21) := by
  unfold f_X10_set_J91
  refine s_iload_n hC 2 dX10_set_91 rfl ?_
  refine s_if_ne hC dX10_set_92 (tgt := 104) (by decide) ?_ ?_
  · refine s_iload_n hC 2 dX10_set_104 rfl ?_
    refine s_iconst hC dX10_set_105 (v := 1) (by decide) ?_
    refine s_icmp_ne hC dX10_set_106 (tgt := 118) (by decide) ?_ ?_
    · refine s_aload_n hC 0 dX10_set_118 rfl ?_
      refine s_getR hC xc10 (by decide) rfl qf_X10_38 dX10_set_119 ?_
      refine s_ltR (fun v22 => ?_)
      refine s_iload_n hC 1 dX10_set_122 rfl ?_
      refine s_iald hC dX10_set_123 ?_
      exact j_X10_set_J124 hI hC hr hlk _ _ _ _ _ _
    refine s_aload_n hC 0 dX10_set_109 rfl ?_
    refine s_getR hC xc10 (by decide) rfl qf_X10_35 dX10_set_110 ?_
    refine s_ltR (fun v43 => ?_)
    refine s_iload_n hC 1 dX10_set_113 rfl ?_
    refine s_iald hC dX10_set_114 ?_
    refine s_goto hC dX10_set_115 (tgt := 124) (by decide) ?_
    exact j_X10_set_J124 hI hC hr hlk _ _ _ _ _ _
  refine s_aload_n hC 0 dX10_set_95 rfl ?_
  refine s_getR hC xc10 (by decide) rfl qf_X10_32 dX10_set_96 ?_
  refine s_ltR (fun v44 => ?_)
  refine s_iload_n hC 1 dX10_set_99 rfl ?_
  refine s_iald hC dX10_set_100 ?_
  refine s_goto hC dX10_set_101 (tgt := 124) (by decide) ?_
  exact j_X10_set_J124 hI hC hr hlk _ _ _ _ _ _
def f_X10_set_J61 (X : x_X) (v11 : Nat) (v12 : Int32) (v13 : Int32) (v14 : Int32) (v15 : Int32) (μ16 : x_M) : Option (Int32 × x_M) :=
  (if v15 = 0 then (some ((-10002 : Int32), μ16)) else (if v13 = (2 : Int32) then (ck (x_kd X v11 = 10 + 1) (lt (μ16.2.1 v11 5) (fun (v45 : Nat) => (ck ((x_kd X v45 = 20 ∨ x_kd X v45 = 40) ∧ x_ix v12 (x_ln X v45)) (if (μ16.1 v45 (v12).toNatClampNeg) = (4 : Int32) then (f_X10_set_J91 X v11 v12 v13 v14 μ16) else (some ((-10003 : Int32), μ16))))))) else (f_X10_set_J91 X v11 v12 v13 v14 μ16)))
set_option maxRecDepth 100000 in
theorem j_X10_set_J61 (hI : x_I X) (hC : x_C X x_Z0 p (x_rm 3) s m c cX10_set RX10 6 0 0 3) (hr : meth.sig.returnType = (some .int)) (hlk : meth.locks = false) (v11 : Nat) (v12 : Int32) (v13 : Int32) (v14 : Int32) (v15 : Int32) (μ16 : x_M) : SM X 6 3 rkI p l e s m args below meth c 61 [(0, vR v11), (1, vI v12), (2, vI v13), (3, vI v14)] [vI v15] μ16 (f_X10_set_J61 X v11 v12 v13 v14 v15 μ16) := by
  unfold f_X10_set_J61
  refine s_istore hC dX10_set_61 (by decide) (lv' := [(4, vI v15), (0, vR v11), (1, vI v12), (2, vI v13), (3, vI v14)]) rfl ?_
  refine s_iload hC 0 dX10_set_63 rfl ?_
  refine s_if_ne hC dX10_set_65 (tgt := 72) (by decide) ?_ ?_
  · refine s_iload_n hC 3 dX10_set_72 rfl ?_
    refine s_iconst hC dX10_set_73 (v := 2) (by decide) ?_
    refine s_icmp_ne hC dX10_set_74 (tgt := 91) (by decide) ?_ ?_
    · refine s_lv (lv' := [(0, vR v11), (1, vI v12), (2, vI v13), (3, vI v14)]) [1, 2, 3, 4] rfl ?_
      exact j_X10_set_J91 hI hC hr hlk _ _ _ _ _
    refine s_aload_n hC 1 dX10_set_77 rfl ?_
    refine s_getR hC xc10 (by decide) rfl qf_X10_26 dX10_set_78 ?_
    refine s_ltR (fun v45 => ?_)
    refine s_iload_n hC 2 dX10_set_81 rfl ?_
    refine s_iald hC dX10_set_82 ?_
    refine s_iconst hC dX10_set_83 (v := 4) (by decide) ?_
    refine s_icmp_eq hC dX10_set_84 (tgt := 91) (by decide) ?_ ?_
    · refine s_lv (lv' := [(0, vR v11), (1, vI v12), (2, vI v13), (3, vI v14)]) [1, 2, 3, 4] rfl ?_
      exact j_X10_set_J91 hI hC hr hlk _ _ _ _ _
    refine s_sipush hC dX10_set_87 (v := -10003) (by decide) ?_
    exact s_iret hC hr hlk dX10_set_90
  refine s_sipush hC dX10_set_68 (v := -10002) (by decide) ?_
  exact s_iret hC hr hlk dX10_set_71
def f_X10_set (X : x_X) (v0 : Nat) (v1 : Int32) (v2 : Int32) (v3 : Int32) (μ : x_M) : Option (Int32 × x_M) :=
  (ck (x_kd X v0 = 10 + 1) (bd (f_X10_isAccount X v0 v1 μ) (fun (v5 : Int32) (μ6 : x_M) => (if v5 = 0 then (some ((-10001 : Int32), μ6)) else (ck (x_kd X v0 = 10 + 1) (bd (f_X10_in X v0 v2 (0 : Int32) (2 : Int32) μ6) (fun (v7 : Int32) (μ8 : x_M) => (if v7 = 0 then (some ((-10001 : Int32), μ8)) else (if v2 = 0 then (ck (x_kd X v0 = 10 + 1) (bd (f_X10_in X v0 v3 (-999 : Int32) (999 : Int32) μ8) (fun (v48 : Int32) (μ49 : x_M) => (f_X10_set_J61 X v0 v1 v2 v3 v48 μ49)))) else (if v2 = (1 : Int32) then (ck (x_kd X v0 = 10 + 1) (bd (f_X10_isDaily X v0 v3 μ8) (fun (v46 : Int32) (μ47 : x_M) => (f_X10_set_J61 X v0 v1 v2 v3 v46 μ47)))) else (ck (x_kd X v0 = 10 + 1) (bd (f_X10_in X v0 v3 (0 : Int32) (20 : Int32) μ8) (fun (v9 : Int32) (μ10 : x_M) => (f_X10_set_J61 X v0 v1 v2 v3 v9 μ10))))))))))))))
set_option maxRecDepth 100000 in
theorem m_X10_set (hI : x_I X) (v0 : Nat) (v1 : Int32) (v2 : Int32) (v3 : Int32) (μ : x_M) : x_Met X x_Z0 l yX10_set cX10_set 6 (some .int) 3 [vR v0, vI v1, vI v2, vI v3] μ rkI (f_X10_set X v0 v1 v2 v3 μ) := by
  refine x_enter hI (by decide +kernel) (Nat.le_of_ble_eq_true rfl) (fun p e s m args below meth c hC hr hlk => ?_)
  unfold f_X10_set
  refine s_lv (lv' := [(0, vR v0), (1, vI v1), (2, vI v2), (3, vI v3)]) [0, 1, 2, 3] rfl ?_
  refine s_aload_n hC 0 dX10_set_0 rfl ?_
  refine s_iload_n hC 1 dX10_set_1 rfl ?_
  refine s_callV hC (x := v0) (avs := [vI v1]) (st := []) (nest := false) xc10 (m_X10_isAccount hI v0 v1 μ) dX10_set_2 qm_X10_257 qi_X10_isAccount qs_X10_isAccount qc_X10 qd_X10_isAccount qh_X10_isAccount (by decide) (fun _ => Nat.le_of_ble_eq_true rfl) (Nat.le_of_ble_eq_true rfl) (fun v5 μ6 => ?_)
  refine s_if_eq hC dX10_set_5 (tgt := 18) (by decide) ?_ ?_
  · refine s_sipush hC dX10_set_18 (v := -10001) (by decide) ?_
    exact s_iret hC hr hlk dX10_set_21
  refine s_aload_n hC 0 dX10_set_8 rfl ?_
  refine s_iload_n hC 2 dX10_set_9 rfl ?_
  refine s_iconst hC dX10_set_10 (v := 0) (by decide) ?_
  refine s_iconst hC dX10_set_11 (v := 2) (by decide) ?_
  refine s_callV hC (x := v0) (avs := [vI v2, vI (0 : Int32), vI (2 : Int32)]) (st := []) (nest := false) xc10 (m_X10_in hI v0 v2 (0 : Int32) (2 : Int32) μ6) dX10_set_12 qm_X10_245 qi_X10_in qs_X10_in qc_X10 qd_X10_in qh_X10_in (by decide) (fun _ => Nat.le_of_ble_eq_true rfl) (Nat.le_of_ble_eq_true rfl) (fun v7 μ8 => ?_)
  refine s_if_ne hC dX10_set_15 (tgt := 22) (by decide) ?_ ?_
  · refine s_iload_n hC 2 dX10_set_22 rfl ?_
    refine s_if_ne hC dX10_set_23 (tgt := 40) (by decide) ?_ ?_
    · refine s_iload_n hC 2 dX10_set_40 rfl ?_
      refine s_iconst hC dX10_set_41 (v := 1) (by decide) ?_
      refine s_icmp_ne hC dX10_set_42 (tgt := 53) (by decide) ?_ ?_
      · refine s_aload_n hC 0 dX10_set_53 rfl ?_
        refine s_iload_n hC 3 dX10_set_54 rfl ?_
        refine s_iconst hC dX10_set_55 (v := 0) (by decide) ?_
        refine s_bipush hC dX10_set_56 (v := 20) (by decide) ?_
        refine s_callV hC (x := v0) (avs := [vI v3, vI (0 : Int32), vI (20 : Int32)]) (st := []) (nest := false) xc10 (m_X10_in hI v0 v3 (0 : Int32) (20 : Int32) μ8) dX10_set_58 qm_X10_245 qi_X10_in qs_X10_in qc_X10 qd_X10_in qh_X10_in (by decide) (fun _ => Nat.le_of_ble_eq_true rfl) (Nat.le_of_ble_eq_true rfl) (fun v9 μ10 => ?_)
        exact j_X10_set_J61 hI hC hr hlk _ _ _ _ _ _
      refine s_aload_n hC 0 dX10_set_45 rfl ?_
      refine s_iload_n hC 3 dX10_set_46 rfl ?_
      refine s_callV hC (x := v0) (avs := [vI v3]) (st := []) (nest := false) xc10 (m_X10_isDaily hI v0 v3 μ8) dX10_set_47 qm_X10_253 qi_X10_isDaily qs_X10_isDaily qc_X10 qd_X10_isDaily qh_X10_isDaily (by decide) (fun _ => Nat.le_of_ble_eq_true rfl) (Nat.le_of_ble_eq_true rfl) (fun v46 μ47 => ?_)
      refine s_goto hC dX10_set_50 (tgt := 61) (by decide) ?_
      exact j_X10_set_J61 hI hC hr hlk _ _ _ _ _ _
    refine s_aload_n hC 0 dX10_set_26 rfl ?_
    refine s_iload_n hC 3 dX10_set_27 rfl ?_
    refine s_sipush hC dX10_set_28 (v := -999) (by decide) ?_
    refine s_sipush hC dX10_set_31 (v := 999) (by decide) ?_
    refine s_callV hC (x := v0) (avs := [vI v3, vI (-999 : Int32), vI (999 : Int32)]) (st := []) (nest := false) xc10 (m_X10_in hI v0 v3 (-999 : Int32) (999 : Int32) μ8) dX10_set_34 qm_X10_245 qi_X10_in qs_X10_in qc_X10 qd_X10_in qh_X10_in (by decide) (fun _ => Nat.le_of_ble_eq_true rfl) (Nat.le_of_ble_eq_true rfl) (fun v48 μ49 => ?_)
    refine s_goto hC dX10_set_37 (tgt := 61) (by decide) ?_
    exact j_X10_set_J61 hI hC hr hlk _ _ _ _ _ _
  refine s_sipush hC dX10_set_18 (v := -10001) (by decide) ?_
  exact s_iret hC hr hlk dX10_set_21
theorem dX10_takesWord_0 : decode cX10_takesWord 0 = .ok (.iconst 0, 1) := by decide +kernel
theorem dX10_takesWord_1 : decode cX10_takesWord 1 = .ok (.istore_n 3, 1) := by decide +kernel
theorem dX10_takesWord_2 : decode cX10_takesWord 2 = .ok (.iload_n 3, 1) := by decide +kernel
theorem dX10_takesWord_3 : decode cX10_takesWord 3 = .ok (.iload_n 2, 1) := by decide +kernel
theorem dX10_takesWord_4 : decode cX10_takesWord 4 = .ok (.if_icmp .ge 26, 3) := by decide +kernel
theorem dX10_takesWord_7 : decode cX10_takesWord 7 = .ok (.aload_n 0, 1) := by decide +kernel
theorem dX10_takesWord_8 : decode cX10_takesWord 8 = .ok (.aload_n 0, 1) := by decide +kernel
theorem dX10_takesWord_9 : decode cX10_takesWord 9 = .ok (.getfield 92, 3) := by decide +kernel
theorem dX10_takesWord_12 : decode cX10_takesWord 12 = .ok (.iload_n 1, 1) := by decide +kernel
theorem dX10_takesWord_13 : decode cX10_takesWord 13 = .ok (.iload_n 3, 1) := by decide +kernel
theorem dX10_takesWord_14 : decode cX10_takesWord 14 = .ok (.iadd, 1) := by decide +kernel
theorem dX10_takesWord_15 : decode cX10_takesWord 15 = .ok (.iaload, 1) := by decide +kernel
theorem dX10_takesWord_16 : decode cX10_takesWord 16 = .ok (.invokevirtual 264, 3) := by decide +kernel
theorem dX10_takesWord_19 : decode cX10_takesWord 19 = .ok (.ifCond .ne 5, 3) := by decide +kernel
theorem dX10_takesWord_22 : decode cX10_takesWord 22 = .ok (.iconst 0, 1) := by decide +kernel
theorem dX10_takesWord_23 : decode cX10_takesWord 23 = .ok (.ireturn, 1) := by decide +kernel
theorem dX10_takesWord_24 : decode cX10_takesWord 24 = .ok (.iinc 3 1, 3) := by decide +kernel
theorem dX10_takesWord_27 : decode cX10_takesWord 27 = .ok (.goto (-25), 3) := by decide +kernel
theorem dX10_takesWord_30 : decode cX10_takesWord 30 = .ok (.aload_n 0, 1) := by decide +kernel
theorem dX10_takesWord_31 : decode cX10_takesWord 31 = .ok (.bipush 32, 2) := by decide +kernel
theorem dX10_takesWord_33 : decode cX10_takesWord 33 = .ok (.invokevirtual 264, 3) := by decide +kernel
theorem dX10_takesWord_36 : decode cX10_takesWord 36 = .ok (.ireturn, 1) := by decide +kernel
def f_X10_takesWord_L2 (X : x_X) : Nat → Nat → Int32 → Int32 → Int32 → x_M → Option (Int32 × x_M)
  | 0, _, _, _, _, _ => none
  | n + 1, v4, v5, v6, v7, μ8 =>
    (if v6 ≤ v7 then (ck (x_kd X v4 = 10 + 1) (bd (f_X10_takes X v4 (32 : Int32) μ8) (fun (v9 : Int32) (μ10 : x_M) => (ck (v9 = 0 ∨ v9 = 1) (some (v9, μ10)))))) else (ck (x_kd X v4 = 10 + 1) (lt (μ8.2.1 v4 27) (fun (v11 : Nat) => (lt (v5 + v7) (fun (v12 : Int32) => (ck ((x_kd X v11 = 20 ∨ x_kd X v11 = 40) ∧ x_ix v12 (x_ln X v11)) (ck (x_kd X v4 = 10 + 1) (bd (f_X10_takes X v4 (μ8.1 v11 (v12).toNatClampNeg) μ8) (fun (v13 : Int32) (μ14 : x_M) => (if v13 = 0 then (ck ((0 : Int32) = 0 ∨ (0 : Int32) = 1) (some ((0 : Int32), μ14))) else (f_X10_takesWord_L2 X n v4 v5 v6 (v7 + (1 : Int32)) μ14))))))))))))
set_option maxRecDepth 100000 in
theorem j_X10_takesWord_L2 (hI : x_I X) (hC : x_C X x_Z0 p (x_rm 3) s m c cX10_takesWord RX10 4 0 0 3) (hr : meth.sig.returnType = (some .boolean)) (hlk : meth.locks = false) : ∀ (n : Nat) (v4 : Nat) (v5 : Int32) (v6 : Int32) (v7 : Int32) (μ8 : x_M), SM X 4 3 rkI p l e s m args below meth c 2 [(0, vR v4), (1, vI v5), (2, vI v6), (3, vI v7)] [] μ8 (f_X10_takesWord_L2 X n v4 v5 v6 v7 μ8) := by
  intro n
  induction n with
  | zero => intro v4 v5 v6 v7 μ8; exact s_none
  | succ n ih =>
    intro v4 v5 v6 v7 μ8
    unfold f_X10_takesWord_L2
    refine s_iload_n hC 3 dX10_takesWord_2 rfl ?_
    refine s_iload_n hC 2 dX10_takesWord_3 rfl ?_
    refine s_icmp_ge hC dX10_takesWord_4 (tgt := 30) (by decide) ?_ ?_
    · refine s_aload_n hC 0 dX10_takesWord_30 rfl ?_
      refine s_bipush hC dX10_takesWord_31 (v := 32) (by decide) ?_
      refine s_callV hC (x := v4) (avs := [vI (32 : Int32)]) (st := []) (nest := false) xc10 (m_X10_takes hI v4 (32 : Int32) μ8) dX10_takesWord_33 qm_X10_264 qi_X10_takes qs_X10_takes qc_X10 qd_X10_takes qh_X10_takes (by decide) (fun _ => Nat.le_of_ble_eq_true rfl) (Nat.le_of_ble_eq_true rfl) (fun v9 μ10 => ?_)
      exact s_zret hC hr hlk dX10_takesWord_36
    refine s_aload_n hC 0 dX10_takesWord_7 rfl ?_
    refine s_aload_n hC 0 dX10_takesWord_8 rfl ?_
    refine s_getR hC xc10 (by decide) rfl qf_X10_92 dX10_takesWord_9 ?_
    refine s_ltR (fun v11 => ?_)
    refine s_iload_n hC 1 dX10_takesWord_12 rfl ?_
    refine s_iload_n hC 3 dX10_takesWord_13 rfl ?_
    refine s_iadd hC dX10_takesWord_14 ?_
    refine s_ltI (fun v12 => ?_)
    refine s_iald hC dX10_takesWord_15 ?_
    refine s_callV hC (x := v4) (avs := [vI (μ8.1 v11 (v12).toNatClampNeg)]) (st := []) (nest := false) xc10 (m_X10_takes hI v4 (μ8.1 v11 (v12).toNatClampNeg) μ8) dX10_takesWord_16 qm_X10_264 qi_X10_takes qs_X10_takes qc_X10 qd_X10_takes qh_X10_takes (by decide) (fun _ => Nat.le_of_ble_eq_true rfl) (Nat.le_of_ble_eq_true rfl) (fun v13 μ14 => ?_)
    refine s_if_ne hC dX10_takesWord_19 (tgt := 24) (by decide) ?_ ?_
    · refine s_iinc hC 3 dX10_takesWord_24 rfl (w := 1) (by decide) (by decide) (lv' := [(3, vI (v7 + (1 : Int32))), (0, vR v4), (1, vI v5), (2, vI v6)]) rfl ?_
      refine s_goto hC dX10_takesWord_27 (tgt := 2) (by decide) ?_
      refine s_lv (lv' := [(0, vR v4), (1, vI v5), (2, vI v6), (3, vI (v7 + (1 : Int32)))]) [1, 2, 3, 0] rfl ?_
      exact ih _ _ _ _ _
    refine s_iconst hC dX10_takesWord_22 (v := 0) (by decide) ?_
    exact s_zret hC hr hlk dX10_takesWord_23
def f_X10_takesWord (X : x_X) (v0 : Nat) (v1 : Int32) (v2 : Int32) (μ : x_M) : Option (Int32 × x_M) :=
  (f_X10_takesWord_L2 X 4096 v0 v1 v2 (0 : Int32) μ)
set_option maxRecDepth 100000 in
theorem m_X10_takesWord (hI : x_I X) (v0 : Nat) (v1 : Int32) (v2 : Int32) (μ : x_M) : x_Met X x_Z0 l yX10_takesWord cX10_takesWord 4 (some .boolean) 3 [vR v0, vI v1, vI v2] μ rkI (f_X10_takesWord X v0 v1 v2 μ) := by
  refine x_enter hI (by decide +kernel) (Nat.le_of_ble_eq_true rfl) (fun p e s m args below meth c hC hr hlk => ?_)
  unfold f_X10_takesWord
  refine s_lv (lv' := [(0, vR v0), (1, vI v1), (2, vI v2)]) [0, 1, 2] rfl ?_
  refine s_iconst hC dX10_takesWord_0 (v := 0) (by decide) ?_
  refine s_istore_n hC dX10_takesWord_1 (by decide) (lv' := [(3, vI (0 : Int32)), (0, vR v0), (1, vI v1), (2, vI v2)]) rfl ?_
  refine s_lv (lv' := [(0, vR v0), (1, vI v1), (2, vI v2), (3, vI (0 : Int32))]) [1, 2, 3, 0] rfl ?_
  refine j_X10_takesWord_L2 hI hC hr hlk 4096 _ _ _ _ _
theorem dX10_takesNumber_0 : decode cX10_takesNumber 0 = .ok (.aload_n 0, 1) := by decide +kernel
theorem dX10_takesNumber_1 : decode cX10_takesNumber 1 = .ok (.invokevirtual 267, 3) := by decide +kernel
theorem dX10_takesNumber_4 : decode cX10_takesNumber 4 = .ok (.ifCond .ne 5, 3) := by decide +kernel
theorem dX10_takesNumber_7 : decode cX10_takesNumber 7 = .ok (.iconst 0, 1) := by decide +kernel
theorem dX10_takesNumber_8 : decode cX10_takesNumber 8 = .ok (.ireturn, 1) := by decide +kernel
theorem dX10_takesNumber_9 : decode cX10_takesNumber 9 = .ok (.aload_n 0, 1) := by decide +kernel
theorem dX10_takesNumber_10 : decode cX10_takesNumber 10 = .ok (.iconst 0, 1) := by decide +kernel
theorem dX10_takesNumber_11 : decode cX10_takesNumber 11 = .ok (.putfield 56, 3) := by decide +kernel
theorem dX10_takesNumber_14 : decode cX10_takesNumber 14 = .ok (.iconst 0, 1) := by decide +kernel
theorem dX10_takesNumber_15 : decode cX10_takesNumber 15 = .ok (.istore_n 1, 1) := by decide +kernel
theorem dX10_takesNumber_16 : decode cX10_takesNumber 16 = .ok (.iload_n 1, 1) := by decide +kernel
theorem dX10_takesNumber_17 : decode cX10_takesNumber 17 = .ok (.iconst 2, 1) := by decide +kernel
theorem dX10_takesNumber_18 : decode cX10_takesNumber 18 = .ok (.if_icmp .ge 45, 3) := by decide +kernel
theorem dX10_takesNumber_21 : decode cX10_takesNumber 21 = .ok (.aload_n 0, 1) := by decide +kernel
theorem dX10_takesNumber_22 : decode cX10_takesNumber 22 = .ok (.invokevirtual 267, 3) := by decide +kernel
theorem dX10_takesNumber_25 : decode cX10_takesNumber 25 = .ok (.ifCond .eq 38, 3) := by decide +kernel
theorem dX10_takesNumber_28 : decode cX10_takesNumber 28 = .ok (.aload_n 0, 1) := by decide +kernel
theorem dX10_takesNumber_29 : decode cX10_takesNumber 29 = .ok (.bipush 10, 2) := by decide +kernel
theorem dX10_takesNumber_31 : decode cX10_takesNumber 31 = .ok (.aload_n 0, 1) := by decide +kernel
theorem dX10_takesNumber_32 : decode cX10_takesNumber 32 = .ok (.getfield 56, 3) := by decide +kernel
theorem dX10_takesNumber_35 : decode cX10_takesNumber 35 = .ok (.imul, 1) := by decide +kernel
theorem dX10_takesNumber_36 : decode cX10_takesNumber 36 = .ok (.aload_n 0, 1) := by decide +kernel
theorem dX10_takesNumber_37 : decode cX10_takesNumber 37 = .ok (.invokevirtual 260, 3) := by decide +kernel
theorem dX10_takesNumber_40 : decode cX10_takesNumber 40 = .ok (.iadd, 1) := by decide +kernel
theorem dX10_takesNumber_41 : decode cX10_takesNumber 41 = .ok (.bipush 48, 2) := by decide +kernel
theorem dX10_takesNumber_43 : decode cX10_takesNumber 43 = .ok (.isub, 1) := by decide +kernel
theorem dX10_takesNumber_44 : decode cX10_takesNumber 44 = .ok (.putfield 56, 3) := by decide +kernel
theorem dX10_takesNumber_47 : decode cX10_takesNumber 47 = .ok (.aload_n 0, 1) := by decide +kernel
theorem dX10_takesNumber_48 : decode cX10_takesNumber 48 = .ok (.dup, 1) := by decide +kernel
theorem dX10_takesNumber_49 : decode cX10_takesNumber 49 = .ok (.getfield 53, 3) := by decide +kernel
theorem dX10_takesNumber_52 : decode cX10_takesNumber 52 = .ok (.iconst 1, 1) := by decide +kernel
theorem dX10_takesNumber_53 : decode cX10_takesNumber 53 = .ok (.iadd, 1) := by decide +kernel
theorem dX10_takesNumber_54 : decode cX10_takesNumber 54 = .ok (.putfield 53, 3) := by decide +kernel
theorem dX10_takesNumber_57 : decode cX10_takesNumber 57 = .ok (.iinc 1 1, 3) := by decide +kernel
theorem dX10_takesNumber_60 : decode cX10_takesNumber 60 = .ok (.goto (-44), 3) := by decide +kernel
theorem dX10_takesNumber_63 : decode cX10_takesNumber 63 = .ok (.iconst 1, 1) := by decide +kernel
theorem dX10_takesNumber_64 : decode cX10_takesNumber 64 = .ok (.ireturn, 1) := by decide +kernel
def f_X10_takesNumber_L16 (X : x_X) : Nat → Nat → Int32 → x_M → Option (Int32 × x_M)
  | 0, _, _, _ => none
  | n + 1, v5, v6, μ7 =>
    (if (2 : Int32) ≤ v6 then (ck ((1 : Int32) = 0 ∨ (1 : Int32) = 1) (some ((1 : Int32), μ7))) else (ck (x_kd X v5 = 10 + 1) (bd (f_X10_isDigit X v5 μ7) (fun (v8 : Int32) (μ9 : x_M) => (if v8 = 0 then (ck ((1 : Int32) = 0 ∨ (1 : Int32) = 1) (some ((1 : Int32), μ9))) else (ck (x_kd X v5 = 10 + 1) (ck (x_kd X v5 = 10 + 1) (bd (f_X10_next X v5 μ9) (fun (v10 : Int32) (μ11 : x_M) => (ck (x_kd X v5 = 10 + 1) (lt (x_sI μ11 v5 15 ((((10 : Int32) * (μ9.1 v5 15)) + v10) - (48 : Int32))) (fun (μ12 : x_M) => (ck (x_kd X v5 = 10 + 1) (ck (x_kd X v5 = 10 + 1) (lt (x_sI μ12 v5 14 ((μ12.1 v5 14) + (1 : Int32))) (fun (μ13 : x_M) => (f_X10_takesNumber_L16 X n v5 (v6 + (1 : Int32)) μ13)))))))))))))))))
set_option maxRecDepth 100000 in
theorem j_X10_takesNumber_L16 (hI : x_I X) (hC : x_C X x_Z0 p (x_rm 3) s m c cX10_takesNumber RX10 2 0 0 3) (hr : meth.sig.returnType = (some .boolean)) (hlk : meth.locks = false) : ∀ (n : Nat) (v5 : Nat) (v6 : Int32) (μ7 : x_M), SM X 2 3 rkI p l e s m args below meth c 16 [(0, vR v5), (1, vI v6)] [] μ7 (f_X10_takesNumber_L16 X n v5 v6 μ7) := by
  intro n
  induction n with
  | zero => intro v5 v6 μ7; exact s_none
  | succ n ih =>
    intro v5 v6 μ7
    unfold f_X10_takesNumber_L16
    refine s_iload_n hC 1 dX10_takesNumber_16 rfl ?_
    refine s_iconst hC dX10_takesNumber_17 (v := 2) (by decide) ?_
    refine s_icmp_ge hC dX10_takesNumber_18 (tgt := 63) (by decide) ?_ ?_
    · refine s_iconst hC dX10_takesNumber_63 (v := 1) (by decide) ?_
      exact s_zret hC hr hlk dX10_takesNumber_64
    refine s_aload_n hC 0 dX10_takesNumber_21 rfl ?_
    refine s_callV hC (x := v5) (avs := []) (st := []) (nest := false) xc10 (m_X10_isDigit hI v5 μ7) dX10_takesNumber_22 qm_X10_267 qi_X10_isDigit qs_X10_isDigit qc_X10 qd_X10_isDigit qh_X10_isDigit (by decide) (fun _ => Nat.le_of_ble_eq_true rfl) (Nat.le_of_ble_eq_true rfl) (fun v8 μ9 => ?_)
    refine s_if_eq hC dX10_takesNumber_25 (tgt := 63) (by decide) ?_ ?_
    · refine s_iconst hC dX10_takesNumber_63 (v := 1) (by decide) ?_
      exact s_zret hC hr hlk dX10_takesNumber_64
    refine s_aload_n hC 0 dX10_takesNumber_28 rfl ?_
    refine s_bipush hC dX10_takesNumber_29 (v := 10) (by decide) ?_
    refine s_aload_n hC 0 dX10_takesNumber_31 rfl ?_
    refine s_getI hC xc10 (by decide) rfl qf_X10_56 dX10_takesNumber_32 ?_
    refine s_imul hC dX10_takesNumber_35 ?_
    refine s_aload_n hC 0 dX10_takesNumber_36 rfl ?_
    refine s_callV hC (x := v5) (avs := []) (st := [vI ((10 : Int32) * (μ9.1 v5 15)), vR v5]) (nest := false) xc10 (m_X10_next hI v5 μ9) dX10_takesNumber_37 qm_X10_260 qi_X10_next qs_X10_next qc_X10 qd_X10_next qh_X10_next (by decide) (fun _ => Nat.le_of_ble_eq_true rfl) (Nat.le_of_ble_eq_true rfl) (fun v10 μ11 => ?_)
    refine s_iadd hC dX10_takesNumber_40 ?_
    refine s_bipush hC dX10_takesNumber_41 (v := 48) (by decide) ?_
    refine s_isub hC dX10_takesNumber_43 ?_
    refine s_putI hC xc10 (by decide) rfl rfl qf_X10_56 dX10_takesNumber_44 ?_
    refine s_ltM (fun μ12 => ?_)
    refine s_aload_n hC 0 dX10_takesNumber_47 rfl ?_
    refine s_dupR hC dX10_takesNumber_48 ?_
    refine s_getI hC xc10 (by decide) rfl qf_X10_53 dX10_takesNumber_49 ?_
    refine s_iconst hC dX10_takesNumber_52 (v := 1) (by decide) ?_
    refine s_iadd hC dX10_takesNumber_53 ?_
    refine s_putI hC xc10 (by decide) rfl rfl qf_X10_53 dX10_takesNumber_54 ?_
    refine s_ltM (fun μ13 => ?_)
    refine s_iinc hC 1 dX10_takesNumber_57 rfl (w := 1) (by decide) (by decide) (lv' := [(1, vI (v6 + (1 : Int32))), (0, vR v5)]) rfl ?_
    refine s_goto hC dX10_takesNumber_60 (tgt := 16) (by decide) ?_
    refine s_lv (lv' := [(0, vR v5), (1, vI (v6 + (1 : Int32)))]) [1, 0] rfl ?_
    exact ih _ _ _
def f_X10_takesNumber (X : x_X) (v0 : Nat) (μ : x_M) : Option (Int32 × x_M) :=
  (ck (x_kd X v0 = 10 + 1) (bd (f_X10_isDigit X v0 μ) (fun (v2 : Int32) (μ3 : x_M) => (if v2 = 0 then (ck ((0 : Int32) = 0 ∨ (0 : Int32) = 1) (some ((0 : Int32), μ3))) else (ck (x_kd X v0 = 10 + 1) (lt (x_sI μ3 v0 15 (0 : Int32)) (fun (μ4 : x_M) => (f_X10_takesNumber_L16 X 4096 v0 (0 : Int32) μ4))))))))
set_option maxRecDepth 100000 in
theorem m_X10_takesNumber (hI : x_I X) (v0 : Nat) (μ : x_M) : x_Met X x_Z0 l yX10_takesNumber cX10_takesNumber 2 (some .boolean) 3 [vR v0] μ rkI (f_X10_takesNumber X v0 μ) := by
  refine x_enter hI (by decide +kernel) (Nat.le_of_ble_eq_true rfl) (fun p e s m args below meth c hC hr hlk => ?_)
  unfold f_X10_takesNumber
  refine s_lv (lv' := [(0, vR v0)]) [0] rfl ?_
  refine s_aload_n hC 0 dX10_takesNumber_0 rfl ?_
  refine s_callV hC (x := v0) (avs := []) (st := []) (nest := false) xc10 (m_X10_isDigit hI v0 μ) dX10_takesNumber_1 qm_X10_267 qi_X10_isDigit qs_X10_isDigit qc_X10 qd_X10_isDigit qh_X10_isDigit (by decide) (fun _ => Nat.le_of_ble_eq_true rfl) (Nat.le_of_ble_eq_true rfl) (fun v2 μ3 => ?_)
  refine s_if_ne hC dX10_takesNumber_4 (tgt := 9) (by decide) ?_ ?_
  · refine s_aload_n hC 0 dX10_takesNumber_9 rfl ?_
    refine s_iconst hC dX10_takesNumber_10 (v := 0) (by decide) ?_
    refine s_putI hC xc10 (by decide) rfl rfl qf_X10_56 dX10_takesNumber_11 ?_
    refine s_ltM (fun μ4 => ?_)
    refine s_iconst hC dX10_takesNumber_14 (v := 0) (by decide) ?_
    refine s_istore_n hC dX10_takesNumber_15 (by decide) (lv' := [(1, vI (0 : Int32)), (0, vR v0)]) rfl ?_
    refine s_lv (lv' := [(0, vR v0), (1, vI (0 : Int32))]) [1, 0] rfl ?_
    refine j_X10_takesNumber_L16 hI hC hr hlk 4096 _ _ _
  refine s_iconst hC dX10_takesNumber_7 (v := 0) (by decide) ?_
  exact s_zret hC hr hlk dX10_takesNumber_8
theorem dX10_mark_0 : decode cX10_mark 0 = .ok (.aload_n 0, 1) := by decide +kernel
theorem dX10_mark_1 : decode cX10_mark 1 = .ok (.iconst 2, 1) := by decide +kernel
theorem dX10_mark_2 : decode cX10_mark 2 = .ok (.bipush 50, 2) := by decide +kernel
theorem dX10_mark_4 : decode cX10_mark 4 = .ok (.invokevirtual 315, 3) := by decide +kernel
theorem dX10_mark_7 : decode cX10_mark 7 = .ok (.istore_n 1, 1) := by decide +kernel
theorem dX10_mark_8 : decode cX10_mark 8 = .ok (.iload_n 1, 1) := by decide +kernel
theorem dX10_mark_9 : decode cX10_mark 9 = .ok (.bipush 60, 2) := by decide +kernel
theorem dX10_mark_11 : decode cX10_mark 11 = .ok (.if_icmp .le 8, 3) := by decide +kernel
theorem dX10_mark_14 : decode cX10_mark 14 = .ok (.bipush 60, 2) := by decide +kernel
theorem dX10_mark_16 : decode cX10_mark 16 = .ok (.goto 4, 3) := by decide +kernel
theorem dX10_mark_19 : decode cX10_mark 19 = .ok (.iload_n 1, 1) := by decide +kernel
theorem dX10_mark_20 : decode cX10_mark 20 = .ok (.ireturn, 1) := by decide +kernel
def f_X10_mark (X : x_X) (v0 : Nat) (μ : x_M) : Option (Int32 × x_M) :=
  (ck (x_kd X v0 = 10 + 1) (bd (f_X10_lastOf X v0 (2 : Int32) (50 : Int32) μ) (fun (v2 : Int32) (μ3 : x_M) => (if v2 ≤ (60 : Int32) then (some (v2, μ3)) else (some ((60 : Int32), μ3))))))
set_option maxRecDepth 100000 in
theorem m_X10_mark (hI : x_I X) (v0 : Nat) (μ : x_M) : x_Met X x_Z0 l yX10_mark cX10_mark 2 (some .int) 3 [vR v0] μ rkI (f_X10_mark X v0 μ) := by
  refine x_enter hI (by decide +kernel) (Nat.le_of_ble_eq_true rfl) (fun p e s m args below meth c hC hr hlk => ?_)
  unfold f_X10_mark
  refine s_lv (lv' := [(0, vR v0)]) [0] rfl ?_
  refine s_aload_n hC 0 dX10_mark_0 rfl ?_
  refine s_iconst hC dX10_mark_1 (v := 2) (by decide) ?_
  refine s_bipush hC dX10_mark_2 (v := 50) (by decide) ?_
  refine s_callV hC (x := v0) (avs := [vI (2 : Int32), vI (50 : Int32)]) (st := []) (nest := false) xc10 (m_X10_lastOf hI v0 (2 : Int32) (50 : Int32) μ) dX10_mark_4 qm_X10_315 qi_X10_lastOf qs_X10_lastOf qc_X10 qd_X10_lastOf qh_X10_lastOf (by decide) (fun _ => Nat.le_of_ble_eq_true rfl) (Nat.le_of_ble_eq_true rfl) (fun v2 μ3 => ?_)
  refine s_istore_n hC dX10_mark_7 (by decide) (lv' := [(1, vI v2), (0, vR v0)]) rfl ?_
  refine s_iload_n hC 0 dX10_mark_8 rfl ?_
  refine s_bipush hC dX10_mark_9 (v := 60) (by decide) ?_
  refine s_icmp_le hC dX10_mark_11 (tgt := 19) (by decide) ?_ ?_
  · refine s_iload_n hC 0 dX10_mark_19 rfl ?_
    exact s_iret hC hr hlk dX10_mark_20
  refine s_bipush hC dX10_mark_14 (v := 60) (by decide) ?_
  refine s_goto hC dX10_mark_16 (tgt := 20) (by decide) ?_
  exact s_iret hC hr hlk dX10_mark_20
theorem dX10_floor_0 : decode cX10_floor 0 = .ok (.aload_n 0, 1) := by decide +kernel
theorem dX10_floor_1 : decode cX10_floor 1 = .ok (.iconst 3, 1) := by decide +kernel
theorem dX10_floor_2 : decode cX10_floor 2 = .ok (.iconst 5, 1) := by decide +kernel
theorem dX10_floor_3 : decode cX10_floor 3 = .ok (.invokevirtual 315, 3) := by decide +kernel
theorem dX10_floor_6 : decode cX10_floor 6 = .ok (.istore_n 1, 1) := by decide +kernel
theorem dX10_floor_7 : decode cX10_floor 7 = .ok (.iload_n 1, 1) := by decide +kernel
theorem dX10_floor_8 : decode cX10_floor 8 = .ok (.bipush 60, 2) := by decide +kernel
theorem dX10_floor_10 : decode cX10_floor 10 = .ok (.if_icmp .le 8, 3) := by decide +kernel
theorem dX10_floor_13 : decode cX10_floor 13 = .ok (.bipush 60, 2) := by decide +kernel
theorem dX10_floor_15 : decode cX10_floor 15 = .ok (.goto 4, 3) := by decide +kernel
theorem dX10_floor_18 : decode cX10_floor 18 = .ok (.iload_n 1, 1) := by decide +kernel
theorem dX10_floor_19 : decode cX10_floor 19 = .ok (.ireturn, 1) := by decide +kernel
def f_X10_floor (X : x_X) (v0 : Nat) (μ : x_M) : Option (Int32 × x_M) :=
  (ck (x_kd X v0 = 10 + 1) (bd (f_X10_lastOf X v0 (3 : Int32) (5 : Int32) μ) (fun (v2 : Int32) (μ3 : x_M) => (if v2 ≤ (60 : Int32) then (some (v2, μ3)) else (some ((60 : Int32), μ3))))))
set_option maxRecDepth 100000 in
theorem m_X10_floor (hI : x_I X) (v0 : Nat) (μ : x_M) : x_Met X x_Z0 l yX10_floor cX10_floor 2 (some .int) 3 [vR v0] μ rkI (f_X10_floor X v0 μ) := by
  refine x_enter hI (by decide +kernel) (Nat.le_of_ble_eq_true rfl) (fun p e s m args below meth c hC hr hlk => ?_)
  unfold f_X10_floor
  refine s_lv (lv' := [(0, vR v0)]) [0] rfl ?_
  refine s_aload_n hC 0 dX10_floor_0 rfl ?_
  refine s_iconst hC dX10_floor_1 (v := 3) (by decide) ?_
  refine s_iconst hC dX10_floor_2 (v := 5) (by decide) ?_
  refine s_callV hC (x := v0) (avs := [vI (3 : Int32), vI (5 : Int32)]) (st := []) (nest := false) xc10 (m_X10_lastOf hI v0 (3 : Int32) (5 : Int32) μ) dX10_floor_3 qm_X10_315 qi_X10_lastOf qs_X10_lastOf qc_X10 qd_X10_lastOf qh_X10_lastOf (by decide) (fun _ => Nat.le_of_ble_eq_true rfl) (Nat.le_of_ble_eq_true rfl) (fun v2 μ3 => ?_)
  refine s_istore_n hC dX10_floor_6 (by decide) (lv' := [(1, vI v2), (0, vR v0)]) rfl ?_
  refine s_iload_n hC 0 dX10_floor_7 rfl ?_
  refine s_bipush hC dX10_floor_8 (v := 60) (by decide) ?_
  refine s_icmp_le hC dX10_floor_10 (tgt := 18) (by decide) ?_ ?_
  · refine s_iload_n hC 0 dX10_floor_18 rfl ?_
    exact s_iret hC hr hlk dX10_floor_19
  refine s_bipush hC dX10_floor_13 (v := 60) (by decide) ?_
  refine s_goto hC dX10_floor_15 (tgt := 19) (by decide) ?_
  exact s_iret hC hr hlk dX10_floor_19
theorem dX10_sumOf_0 : decode cX10_sumOf 0 = .ok (.aload_n 0, 1) := by decide +kernel
theorem dX10_sumOf_1 : decode cX10_sumOf 1 = .ok (.aload_n 0, 1) := by decide +kernel
theorem dX10_sumOf_2 : decode cX10_sumOf 2 = .ok (.invokevirtual 328, 3) := by decide +kernel
theorem dX10_sumOf_5 : decode cX10_sumOf 5 = .ok (.putfield 99, 3) := by decide +kernel
theorem dX10_sumOf_8 : decode cX10_sumOf 8 = .ok (.iconst 0, 1) := by decide +kernel
theorem dX10_sumOf_9 : decode cX10_sumOf 9 = .ok (.istore_n 3, 1) := by decide +kernel
theorem dX10_sumOf_10 : decode cX10_sumOf 10 = .ok (.aload_n 0, 1) := by decide +kernel
theorem dX10_sumOf_11 : decode cX10_sumOf 11 = .ok (.invokevirtual 309, 3) := by decide +kernel
theorem dX10_sumOf_14 : decode cX10_sumOf 14 = .ok (.istore 4, 2) := by decide +kernel
theorem dX10_sumOf_16 : decode cX10_sumOf 16 = .ok (.iload 4, 2) := by decide +kernel
theorem dX10_sumOf_18 : decode cX10_sumOf 18 = .ok (.aload_n 0, 1) := by decide +kernel
theorem dX10_sumOf_19 : decode cX10_sumOf 19 = .ok (.invokevirtual 312, 3) := by decide +kernel
theorem dX10_sumOf_22 : decode cX10_sumOf 22 = .ok (.if_icmp .ge 44, 3) := by decide +kernel
theorem dX10_sumOf_25 : decode cX10_sumOf 25 = .ok (.iload_n 3, 1) := by decide +kernel
theorem dX10_sumOf_26 : decode cX10_sumOf 26 = .ok (.aload_n 0, 1) := by decide +kernel
theorem dX10_sumOf_27 : decode cX10_sumOf 27 = .ok (.getfield 65, 3) := by decide +kernel
theorem dX10_sumOf_30 : decode cX10_sumOf 30 = .ok (.iload 4, 2) := by decide +kernel
theorem dX10_sumOf_32 : decode cX10_sumOf 32 = .ok (.iaload, 1) := by decide +kernel
theorem dX10_sumOf_33 : decode cX10_sumOf 33 = .ok (.iload_n 1, 1) := by decide +kernel
theorem dX10_sumOf_34 : decode cX10_sumOf 34 = .ok (.if_icmp .ne 23, 3) := by decide +kernel
theorem dX10_sumOf_37 : decode cX10_sumOf 37 = .ok (.aload_n 0, 1) := by decide +kernel
theorem dX10_sumOf_38 : decode cX10_sumOf 38 = .ok (.iload 4, 2) := by decide +kernel
theorem dX10_sumOf_40 : decode cX10_sumOf 40 = .ok (.iload_n 2, 1) := by decide +kernel
theorem dX10_sumOf_41 : decode cX10_sumOf 41 = .ok (.invokevirtual 331, 3) := by decide +kernel
theorem dX10_sumOf_44 : decode cX10_sumOf 44 = .ok (.ifCond .eq 13, 3) := by decide +kernel
theorem dX10_sumOf_47 : decode cX10_sumOf 47 = .ok (.aload_n 0, 1) := by decide +kernel
theorem dX10_sumOf_48 : decode cX10_sumOf 48 = .ok (.getfield 68, 3) := by decide +kernel
theorem dX10_sumOf_51 : decode cX10_sumOf 51 = .ok (.iload 4, 2) := by decide +kernel
theorem dX10_sumOf_53 : decode cX10_sumOf 53 = .ok (.iaload, 1) := by decide +kernel
theorem dX10_sumOf_54 : decode cX10_sumOf 54 = .ok (.goto 4, 3) := by decide +kernel
theorem dX10_sumOf_57 : decode cX10_sumOf 57 = .ok (.iconst 0, 1) := by decide +kernel
theorem dX10_sumOf_58 : decode cX10_sumOf 58 = .ok (.iadd, 1) := by decide +kernel
theorem dX10_sumOf_59 : decode cX10_sumOf 59 = .ok (.istore_n 3, 1) := by decide +kernel
theorem dX10_sumOf_60 : decode cX10_sumOf 60 = .ok (.iinc 4 1, 3) := by decide +kernel
theorem dX10_sumOf_63 : decode cX10_sumOf 63 = .ok (.goto (-47), 3) := by decide +kernel
theorem dX10_sumOf_66 : decode cX10_sumOf 66 = .ok (.iload_n 3, 1) := by decide +kernel
theorem dX10_sumOf_67 : decode cX10_sumOf 67 = .ok (.ireturn, 1) := by decide +kernel
def f_X10_sumOf_L16 (X : x_X) : Nat → Nat → Int32 → Int32 → Int32 → Int32 → x_M → Option (Int32 × x_M)
  | 0, _, _, _, _, _, _ => none
  | n + 1, v9, v10, v11, v12, v13, μ14 =>
    (ck (x_kd X v9 = 10 + 1) (bd (f_X10_behind X v9 μ14) (fun (v15 : Int32) (μ16 : x_M) => (if v15 ≤ v13 then (some (v12, μ16)) else (ck (x_kd X v9 = 10 + 1) (lt (μ16.2.1 v9 18) (fun (v17 : Nat) => (ck ((x_kd X v17 = 20 ∨ x_kd X v17 = 40) ∧ x_ix v13 (x_ln X v17)) (if (μ16.1 v17 (v13).toNatClampNeg) = v10 then (ck (x_kd X v9 = 10 + 1) (bd (f_X10_holds X v9 v13 v11 μ16) (fun (v19 : Int32) (μ20 : x_M) => (if v19 = 0 then (lt (v12 + (0 : Int32)) (fun (v21 : Int32) => (f_X10_sumOf_L16 X n v9 v10 v11 v21 (v13 + (1 : Int32)) μ20))) else (ck (x_kd X v9 = 10 + 1) (lt (μ20.2.1 v9 19) (fun (v22 : Nat) => (ck ((x_kd X v22 = 20 ∨ x_kd X v22 = 40) ∧ x_ix v13 (x_ln X v22)) (lt (v12 + (μ20.1 v22 (v13).toNatClampNeg)) (fun (v23 : Int32) => (f_X10_sumOf_L16 X n v9 v10 v11 v23 (v13 + (1 : Int32)) μ20))))))))))) else (lt (v12 + (0 : Int32)) (fun (v18 : Int32) => (f_X10_sumOf_L16 X n v9 v10 v11 v18 (v13 + (1 : Int32)) μ16))))))))))))
set_option maxRecDepth 100000 in
theorem j_X10_sumOf_L16 (hI : x_I X) (hC : x_C X x_Z0 p (x_rm 3) s m c cX10_sumOf RX10 5 0 0 3) (hr : meth.sig.returnType = (some .int)) (hlk : meth.locks = false) : ∀ (n : Nat) (v9 : Nat) (v10 : Int32) (v11 : Int32) (v12 : Int32) (v13 : Int32) (μ14 : x_M), SM X 5 3 rkI p l e s m args below meth c 16 [(0, vR v9), (1, vI v10), (2, vI v11), (3, vI v12), (4, vI v13)] [] μ14 (f_X10_sumOf_L16 X n v9 v10 v11 v12 v13 μ14) := by
  intro n
  induction n with
  | zero => intro v9 v10 v11 v12 v13 μ14; exact s_none
  | succ n ih =>
    intro v9 v10 v11 v12 v13 μ14
    unfold f_X10_sumOf_L16
    refine s_iload hC 4 dX10_sumOf_16 rfl ?_
    refine s_aload_n hC 0 dX10_sumOf_18 rfl ?_
    refine s_callV hC (x := v9) (avs := []) (st := [vI v13]) (nest := false) xc10 (m_X10_behind hI v9 μ14) dX10_sumOf_19 qm_X10_312 qi_X10_behind qs_X10_behind qc_X10 qd_X10_behind qh_X10_behind (by decide) (fun _ => Nat.le_of_ble_eq_true rfl) (Nat.le_of_ble_eq_true rfl) (fun v15 μ16 => ?_)
    refine s_icmp_ge hC dX10_sumOf_22 (tgt := 66) (by decide) ?_ ?_
    · refine s_iload_n hC 3 dX10_sumOf_66 rfl ?_
      exact s_iret hC hr hlk dX10_sumOf_67
    refine s_iload_n hC 3 dX10_sumOf_25 rfl ?_
    refine s_aload_n hC 0 dX10_sumOf_26 rfl ?_
    refine s_getR hC xc10 (by decide) rfl qf_X10_65 dX10_sumOf_27 ?_
    refine s_ltR (fun v17 => ?_)
    refine s_iload hC 4 dX10_sumOf_30 rfl ?_
    refine s_iald hC dX10_sumOf_32 ?_
    refine s_iload_n hC 1 dX10_sumOf_33 rfl ?_
    refine s_icmp_ne hC dX10_sumOf_34 (tgt := 57) (by decide) ?_ ?_
    · refine s_iconst hC dX10_sumOf_57 (v := 0) (by decide) ?_
      refine s_iadd hC dX10_sumOf_58 ?_
      refine s_ltI (fun v18 => ?_)
      refine s_istore_n hC dX10_sumOf_59 (by decide) (lv' := [(3, vI v18), (0, vR v9), (1, vI v10), (2, vI v11), (4, vI v13)]) rfl ?_
      refine s_iinc hC 4 dX10_sumOf_60 rfl (w := 1) (by decide) (by decide) (lv' := [(4, vI (v13 + (1 : Int32))), (3, vI v18), (0, vR v9), (1, vI v10), (2, vI v11)]) rfl ?_
      refine s_goto hC dX10_sumOf_63 (tgt := 16) (by decide) ?_
      refine s_lv (lv' := [(0, vR v9), (1, vI v10), (2, vI v11), (3, vI v18), (4, vI (v13 + (1 : Int32)))]) [2, 3, 4, 1, 0] rfl ?_
      exact ih _ _ _ _ _ _
    refine s_aload_n hC 0 dX10_sumOf_37 rfl ?_
    refine s_iload hC 4 dX10_sumOf_38 rfl ?_
    refine s_iload_n hC 2 dX10_sumOf_40 rfl ?_
    refine s_callV hC (x := v9) (avs := [vI v13, vI v11]) (st := [vI v12]) (nest := false) xc10 (m_X10_holds hI v9 v13 v11 μ16) dX10_sumOf_41 qm_X10_331 qi_X10_holds qs_X10_holds qc_X10 qd_X10_holds qh_X10_holds (by decide) (fun _ => Nat.le_of_ble_eq_true rfl) (Nat.le_of_ble_eq_true rfl) (fun v19 μ20 => ?_)
    refine s_if_eq hC dX10_sumOf_44 (tgt := 57) (by decide) ?_ ?_
    · refine s_iconst hC dX10_sumOf_57 (v := 0) (by decide) ?_
      refine s_iadd hC dX10_sumOf_58 ?_
      refine s_ltI (fun v21 => ?_)
      refine s_istore_n hC dX10_sumOf_59 (by decide) (lv' := [(3, vI v21), (0, vR v9), (1, vI v10), (2, vI v11), (4, vI v13)]) rfl ?_
      refine s_iinc hC 4 dX10_sumOf_60 rfl (w := 1) (by decide) (by decide) (lv' := [(4, vI (v13 + (1 : Int32))), (3, vI v21), (0, vR v9), (1, vI v10), (2, vI v11)]) rfl ?_
      refine s_goto hC dX10_sumOf_63 (tgt := 16) (by decide) ?_
      refine s_lv (lv' := [(0, vR v9), (1, vI v10), (2, vI v11), (3, vI v21), (4, vI (v13 + (1 : Int32)))]) [2, 3, 4, 1, 0] rfl ?_
      exact ih _ _ _ _ _ _
    refine s_aload_n hC 0 dX10_sumOf_47 rfl ?_
    refine s_getR hC xc10 (by decide) rfl qf_X10_68 dX10_sumOf_48 ?_
    refine s_ltR (fun v22 => ?_)
    refine s_iload hC 4 dX10_sumOf_51 rfl ?_
    refine s_iald hC dX10_sumOf_53 ?_
    refine s_goto hC dX10_sumOf_54 (tgt := 58) (by decide) ?_
    refine s_iadd hC dX10_sumOf_58 ?_
    refine s_ltI (fun v23 => ?_)
    refine s_istore_n hC dX10_sumOf_59 (by decide) (lv' := [(3, vI v23), (0, vR v9), (1, vI v10), (2, vI v11), (4, vI v13)]) rfl ?_
    refine s_iinc hC 4 dX10_sumOf_60 rfl (w := 1) (by decide) (by decide) (lv' := [(4, vI (v13 + (1 : Int32))), (3, vI v23), (0, vR v9), (1, vI v10), (2, vI v11)]) rfl ?_
    refine s_goto hC dX10_sumOf_63 (tgt := 16) (by decide) ?_
    refine s_lv (lv' := [(0, vR v9), (1, vI v10), (2, vI v11), (3, vI v23), (4, vI (v13 + (1 : Int32)))]) [2, 3, 4, 1, 0] rfl ?_
    exact ih _ _ _ _ _ _
def f_X10_sumOf (X : x_X) (v0 : Nat) (v1 : Int32) (v2 : Int32) (μ : x_M) : Option (Int32 × x_M) :=
  (ck (x_kd X v0 = 10 + 1) (bd (f_X10_level X v0 μ) (fun (v4 : Int32) (μ5 : x_M) => (ck (x_kd X v0 = 10 + 1) (lt (x_sI μ5 v0 29 v4) (fun (μ6 : x_M) => (ck (x_kd X v0 = 10 + 1) (bd (f_X10_begin X v0 μ6) (fun (v7 : Int32) (μ8 : x_M) => (f_X10_sumOf_L16 X 4096 v0 v1 v2 (0 : Int32) v7 μ8))))))))))
set_option maxRecDepth 100000 in
theorem m_X10_sumOf (hI : x_I X) (v0 : Nat) (v1 : Int32) (v2 : Int32) (μ : x_M) : x_Met X x_Z0 l yX10_sumOf cX10_sumOf 5 (some .int) 3 [vR v0, vI v1, vI v2] μ rkI (f_X10_sumOf X v0 v1 v2 μ) := by
  refine x_enter hI (by decide +kernel) (Nat.le_of_ble_eq_true rfl) (fun p e s m args below meth c hC hr hlk => ?_)
  unfold f_X10_sumOf
  refine s_lv (lv' := [(0, vR v0), (1, vI v1), (2, vI v2)]) [0, 1, 2] rfl ?_
  refine s_aload_n hC 0 dX10_sumOf_0 rfl ?_
  refine s_aload_n hC 0 dX10_sumOf_1 rfl ?_
  refine s_callV hC (x := v0) (avs := []) (st := [vR v0]) (nest := false) xc10 (m_X10_level hI v0 μ) dX10_sumOf_2 qm_X10_328 qi_X10_level qs_X10_level qc_X10 qd_X10_level qh_X10_level (by decide) (fun _ => Nat.le_of_ble_eq_true rfl) (Nat.le_of_ble_eq_true rfl) (fun v4 μ5 => ?_)
  refine s_putI hC xc10 (by decide) rfl rfl qf_X10_99 dX10_sumOf_5 ?_
  refine s_ltM (fun μ6 => ?_)
  refine s_iconst hC dX10_sumOf_8 (v := 0) (by decide) ?_
  refine s_istore_n hC dX10_sumOf_9 (by decide) (lv' := [(3, vI (0 : Int32)), (0, vR v0), (1, vI v1), (2, vI v2)]) rfl ?_
  refine s_aload_n hC 1 dX10_sumOf_10 rfl ?_
  refine s_callV hC (x := v0) (avs := []) (st := []) (nest := false) xc10 (m_X10_begin hI v0 μ6) dX10_sumOf_11 qm_X10_309 qi_X10_begin qs_X10_begin qc_X10 qd_X10_begin qh_X10_begin (by decide) (fun _ => Nat.le_of_ble_eq_true rfl) (Nat.le_of_ble_eq_true rfl) (fun v7 μ8 => ?_)
  refine s_istore hC dX10_sumOf_14 (by decide) (lv' := [(4, vI v7), (3, vI (0 : Int32)), (0, vR v0), (1, vI v1), (2, vI v2)]) rfl ?_
  refine s_lv (lv' := [(0, vR v0), (1, vI v1), (2, vI v2), (3, vI (0 : Int32)), (4, vI v7)]) [2, 3, 4, 1, 0] rfl ?_
  refine j_X10_sumOf_L16 hI hC hr hlk 4096 _ _ _ _ _ _
theorem dX10_poursOf_0 : decode cX10_poursOf 0 = .ok (.iload_n 1, 1) := by decide +kernel
theorem dX10_poursOf_1 : decode cX10_poursOf 1 = .ok (.aload_n 0, 1) := by decide +kernel
theorem dX10_poursOf_2 : decode cX10_poursOf 2 = .ok (.getfield 102, 3) := by decide +kernel
theorem dX10_poursOf_5 : decode cX10_poursOf 5 = .ok (.if_icmp .ne 5, 3) := by decide +kernel
theorem dX10_poursOf_8 : decode cX10_poursOf 8 = .ok (.iconst 0, 1) := by decide +kernel
theorem dX10_poursOf_9 : decode cX10_poursOf 9 = .ok (.ireturn, 1) := by decide +kernel
theorem dX10_poursOf_10 : decode cX10_poursOf 10 = .ok (.aload_n 0, 1) := by decide +kernel
theorem dX10_poursOf_11 : decode cX10_poursOf 11 = .ok (.getfield 35, 3) := by decide +kernel
theorem dX10_poursOf_14 : decode cX10_poursOf 14 = .ok (.iload_n 1, 1) := by decide +kernel
theorem dX10_poursOf_15 : decode cX10_poursOf 15 = .ok (.iaload, 1) := by decide +kernel
theorem dX10_poursOf_16 : decode cX10_poursOf 16 = .ok (.istore_n 2, 1) := by decide +kernel
theorem dX10_poursOf_17 : decode cX10_poursOf 17 = .ok (.aload_n 0, 1) := by decide +kernel
theorem dX10_poursOf_18 : decode cX10_poursOf 18 = .ok (.getfield 26, 3) := by decide +kernel
theorem dX10_poursOf_21 : decode cX10_poursOf 21 = .ok (.iload_n 1, 1) := by decide +kernel
theorem dX10_poursOf_22 : decode cX10_poursOf 22 = .ok (.iaload, 1) := by decide +kernel
theorem dX10_poursOf_23 : decode cX10_poursOf 23 = .ok (.tableswitch 127 1 6 #[37, 69, 127, 37, 78, 109], 37) := by decide +kernel
theorem dX10_poursOf_60 : decode cX10_poursOf 60 = .ok (.aload_n 0, 1) := by decide +kernel
theorem dX10_poursOf_61 : decode cX10_poursOf 61 = .ok (.getfield 32, 3) := by decide +kernel
theorem dX10_poursOf_64 : decode cX10_poursOf 64 = .ok (.iload_n 1, 1) := by decide +kernel
theorem dX10_poursOf_65 : decode cX10_poursOf 65 = .ok (.iaload, 1) := by decide +kernel
theorem dX10_poursOf_66 : decode cX10_poursOf 66 = .ok (.ifCond .le 24, 3) := by decide +kernel
theorem dX10_poursOf_69 : decode cX10_poursOf 69 = .ok (.iload_n 2, 1) := by decide +kernel
theorem dX10_poursOf_70 : decode cX10_poursOf 70 = .ok (.aload_n 0, 1) := by decide +kernel
theorem dX10_poursOf_71 : decode cX10_poursOf 71 = .ok (.iconst 4, 1) := by decide +kernel
theorem dX10_poursOf_72 : decode cX10_poursOf 72 = .ok (.iconst 0, 1) := by decide +kernel
theorem dX10_poursOf_73 : decode cX10_poursOf 73 = .ok (.invokevirtual 315, 3) := by decide +kernel
theorem dX10_poursOf_76 : decode cX10_poursOf 76 = .ok (.aload_n 0, 1) := by decide +kernel
theorem dX10_poursOf_77 : decode cX10_poursOf 77 = .ok (.getfield 32, 3) := by decide +kernel
theorem dX10_poursOf_80 : decode cX10_poursOf 80 = .ok (.iload_n 1, 1) := by decide +kernel
theorem dX10_poursOf_81 : decode cX10_poursOf 81 = .ok (.iaload, 1) := by decide +kernel
theorem dX10_poursOf_82 : decode cX10_poursOf 82 = .ok (.imul, 1) := by decide +kernel
theorem dX10_poursOf_83 : decode cX10_poursOf 83 = .ok (.bipush 100, 2) := by decide +kernel
theorem dX10_poursOf_85 : decode cX10_poursOf 85 = .ok (.idiv, 1) := by decide +kernel
theorem dX10_poursOf_86 : decode cX10_poursOf 86 = .ok (.iadd, 1) := by decide +kernel
theorem dX10_poursOf_87 : decode cX10_poursOf 87 = .ok (.goto 4, 3) := by decide +kernel
theorem dX10_poursOf_90 : decode cX10_poursOf 90 = .ok (.iload_n 2, 1) := by decide +kernel
theorem dX10_poursOf_91 : decode cX10_poursOf 91 = .ok (.ireturn, 1) := by decide +kernel
theorem dX10_poursOf_92 : decode cX10_poursOf 92 = .ok (.iload_n 2, 1) := by decide +kernel
theorem dX10_poursOf_93 : decode cX10_poursOf 93 = .ok (.aload_n 0, 1) := by decide +kernel
theorem dX10_poursOf_94 : decode cX10_poursOf 94 = .ok (.getfield 29, 3) := by decide +kernel
theorem dX10_poursOf_97 : decode cX10_poursOf 97 = .ok (.iload_n 1, 1) := by decide +kernel
theorem dX10_poursOf_98 : decode cX10_poursOf 98 = .ok (.iaload, 1) := by decide +kernel
theorem dX10_poursOf_99 : decode cX10_poursOf 99 = .ok (.isub, 1) := by decide +kernel
theorem dX10_poursOf_100 : decode cX10_poursOf 100 = .ok (.ireturn, 1) := by decide +kernel
theorem dX10_poursOf_101 : decode cX10_poursOf 101 = .ok (.aload_n 0, 1) := by decide +kernel
theorem dX10_poursOf_102 : decode cX10_poursOf 102 = .ok (.invokevirtual 328, 3) := by decide +kernel
theorem dX10_poursOf_105 : decode cX10_poursOf 105 = .ok (.bipush 30, 2) := by decide +kernel
theorem dX10_poursOf_107 : decode cX10_poursOf 107 = .ok (.if_icmp .le 16, 3) := by decide +kernel
theorem dX10_poursOf_110 : decode cX10_poursOf 110 = .ok (.iload_n 2, 1) := by decide +kernel
theorem dX10_poursOf_111 : decode cX10_poursOf 111 = .ok (.aload_n 0, 1) := by decide +kernel
theorem dX10_poursOf_112 : decode cX10_poursOf 112 = .ok (.getfield 29, 3) := by decide +kernel
theorem dX10_poursOf_115 : decode cX10_poursOf 115 = .ok (.iload_n 1, 1) := by decide +kernel
theorem dX10_poursOf_116 : decode cX10_poursOf 116 = .ok (.iaload, 1) := by decide +kernel
theorem dX10_poursOf_117 : decode cX10_poursOf 117 = .ok (.isub, 1) := by decide +kernel
theorem dX10_poursOf_118 : decode cX10_poursOf 118 = .ok (.iconst 1, 1) := by decide +kernel
theorem dX10_poursOf_119 : decode cX10_poursOf 119 = .ok (.isub, 1) := by decide +kernel
theorem dX10_poursOf_120 : decode cX10_poursOf 120 = .ok (.goto 11, 3) := by decide +kernel
theorem dX10_poursOf_123 : decode cX10_poursOf 123 = .ok (.iload_n 2, 1) := by decide +kernel
theorem dX10_poursOf_124 : decode cX10_poursOf 124 = .ok (.aload_n 0, 1) := by decide +kernel
theorem dX10_poursOf_125 : decode cX10_poursOf 125 = .ok (.getfield 29, 3) := by decide +kernel
theorem dX10_poursOf_128 : decode cX10_poursOf 128 = .ok (.iload_n 1, 1) := by decide +kernel
theorem dX10_poursOf_129 : decode cX10_poursOf 129 = .ok (.iaload, 1) := by decide +kernel
theorem dX10_poursOf_130 : decode cX10_poursOf 130 = .ok (.isub, 1) := by decide +kernel
theorem dX10_poursOf_131 : decode cX10_poursOf 131 = .ok (.ireturn, 1) := by decide +kernel
theorem dX10_poursOf_132 : decode cX10_poursOf 132 = .ok (.iload_n 2, 1) := by decide +kernel
theorem dX10_poursOf_133 : decode cX10_poursOf 133 = .ok (.aload_n 0, 1) := by decide +kernel
theorem dX10_poursOf_134 : decode cX10_poursOf 134 = .ok (.getfield 41, 3) := by decide +kernel
theorem dX10_poursOf_137 : decode cX10_poursOf 137 = .ok (.iconst 4, 1) := by decide +kernel
theorem dX10_poursOf_138 : decode cX10_poursOf 138 = .ok (.iload_n 1, 1) := by decide +kernel
theorem dX10_poursOf_139 : decode cX10_poursOf 139 = .ok (.imul, 1) := by decide +kernel
theorem dX10_poursOf_140 : decode cX10_poursOf 140 = .ok (.aload_n 0, 1) := by decide +kernel
theorem dX10_poursOf_141 : decode cX10_poursOf 141 = .ok (.getfield 13, 3) := by decide +kernel
theorem dX10_poursOf_144 : decode cX10_poursOf 144 = .ok (.iconst 4, 1) := by decide +kernel
theorem dX10_poursOf_145 : decode cX10_poursOf 145 = .ok (.irem, 1) := by decide +kernel
theorem dX10_poursOf_146 : decode cX10_poursOf 146 = .ok (.iadd, 1) := by decide +kernel
theorem dX10_poursOf_147 : decode cX10_poursOf 147 = .ok (.iaload, 1) := by decide +kernel
theorem dX10_poursOf_148 : decode cX10_poursOf 148 = .ok (.iadd, 1) := by decide +kernel
theorem dX10_poursOf_149 : decode cX10_poursOf 149 = .ok (.ireturn, 1) := by decide +kernel
theorem dX10_poursOf_150 : decode cX10_poursOf 150 = .ok (.iload_n 2, 1) := by decide +kernel
theorem dX10_poursOf_151 : decode cX10_poursOf 151 = .ok (.ireturn, 1) := by decide +kernel
def f_X10_poursOf_J60 (X : x_X) (v7 : Nat) (v8 : Int32) (v9 : Int32) (μ10 : x_M) : Option (Int32 × x_M) :=
  (ck (x_kd X v7 = 10 + 1) (lt (μ10.2.1 v7 7) (fun (v11 : Nat) => (ck ((x_kd X v11 = 20 ∨ x_kd X v11 = 40) ∧ x_ix v8 (x_ln X v11)) (if (μ10.1 v11 (v8).toNatClampNeg) ≤ 0 then (some (v9, μ10)) else (ck (x_kd X v7 = 10 + 1) (bd (f_X10_lastOf X v7 (4 : Int32) (0 : Int32) μ10) (fun (v12 : Int32) (μ13 : x_M) => (ck (x_kd X v7 = 10 + 1) (lt (μ13.2.1 v7 7) (fun (v14 : Nat) => (ck ((x_kd X v14 = 20 ∨ x_kd X v14 = 40) ∧ x_ix v8 (x_ln X v14)) (ck (¬ (100 : Int32) = 0) (some ((v9 + ((v12 * (μ13.1 v14 (v8).toNatClampNeg)) / (100 : Int32))), μ13)))))))))))))))
set_option maxRecDepth 100000 in
theorem j_X10_poursOf_J60 (hI : x_I X) (hC : x_C X x_Z0 p (x_rm 3) s m c cX10_poursOf RX10 3 0 0 3) (hr : meth.sig.returnType = (some .int)) (hlk : meth.locks = false) (v7 : Nat) (v8 : Int32) (v9 : Int32) (μ10 : x_M) : SM X 3 3 rkI p l e s m args below meth c 60 [(0, vR v7), (1, vI v8), (2, vI v9)] [] μ10 (f_X10_poursOf_J60 X v7 v8 v9 μ10) := by
  unfold f_X10_poursOf_J60
  refine s_aload_n hC 0 dX10_poursOf_60 rfl ?_
  refine s_getR hC xc10 (by decide) rfl qf_X10_32 dX10_poursOf_61 ?_
  refine s_ltR (fun v11 => ?_)
  refine s_iload_n hC 1 dX10_poursOf_64 rfl ?_
  refine s_iald hC dX10_poursOf_65 ?_
  refine s_if_le hC dX10_poursOf_66 (tgt := 90) (by decide) ?_ ?_
  · refine s_iload_n hC 2 dX10_poursOf_90 rfl ?_
    exact s_iret hC hr hlk dX10_poursOf_91
  refine s_iload_n hC 2 dX10_poursOf_69 rfl ?_
  refine s_aload_n hC 0 dX10_poursOf_70 rfl ?_
  refine s_iconst hC dX10_poursOf_71 (v := 4) (by decide) ?_
  refine s_iconst hC dX10_poursOf_72 (v := 0) (by decide) ?_
  refine s_callV hC (x := v7) (avs := [vI (4 : Int32), vI (0 : Int32)]) (st := [vI v9]) (nest := false) xc10 (m_X10_lastOf hI v7 (4 : Int32) (0 : Int32) μ10) dX10_poursOf_73 qm_X10_315 qi_X10_lastOf qs_X10_lastOf qc_X10 qd_X10_lastOf qh_X10_lastOf (by decide) (fun _ => Nat.le_of_ble_eq_true rfl) (Nat.le_of_ble_eq_true rfl) (fun v12 μ13 => ?_)
  refine s_aload_n hC 0 dX10_poursOf_76 rfl ?_
  refine s_getR hC xc10 (by decide) rfl qf_X10_32 dX10_poursOf_77 ?_
  refine s_ltR (fun v14 => ?_)
  refine s_iload_n hC 1 dX10_poursOf_80 rfl ?_
  refine s_iald hC dX10_poursOf_81 ?_
  refine s_imul hC dX10_poursOf_82 ?_
  refine s_bipush hC dX10_poursOf_83 (v := 100) (by decide) ?_
  refine s_idiv hC dX10_poursOf_85 ?_
  refine s_iadd hC dX10_poursOf_86 ?_
  refine s_goto hC dX10_poursOf_87 (tgt := 91) (by decide) ?_
  exact s_iret hC hr hlk dX10_poursOf_91
def f_X10_poursOf (X : x_X) (v0 : Nat) (v1 : Int32) (μ : x_M) : Option (Int32 × x_M) :=
  (ck (x_kd X v0 = 10 + 1) (if v1 = (μ.1 v0 30) then (some ((0 : Int32), μ)) else (ck (x_kd X v0 = 10 + 1) (lt (μ.2.1 v0 8) (fun (v3 : Nat) => (ck ((x_kd X v3 = 20 ∨ x_kd X v3 = 40) ∧ x_ix v1 (x_ln X v3)) (lt (μ.1 v3 (v1).toNatClampNeg) (fun (v4 : Int32) => (ck (x_kd X v0 = 10 + 1) (lt (μ.2.1 v0 5) (fun (v5 : Nat) => (ck ((x_kd X v5 = 20 ∨ x_kd X v5 = 40) ∧ x_ix v1 (x_ln X v5)) (lt (μ.1 v5 (v1).toNatClampNeg) (fun (v6 : Int32) => (x_swo [(1 : Int32), (2 : Int32), (3 : Int32), (4 : Int32), (5 : Int32), (6 : Int32)] [(f_X10_poursOf_J60 X v0 v1 v4 μ), (ck (x_kd X v0 = 10 + 1) (lt (μ.2.1 v0 6) (fun (v15 : Nat) => (ck ((x_kd X v15 = 20 ∨ x_kd X v15 = 40) ∧ x_ix v1 (x_ln X v15)) (some ((v4 - (μ.1 v15 (v1).toNatClampNeg)), μ)))))), (some (v4, μ)), (f_X10_poursOf_J60 X v0 v1 v4 μ), (ck (x_kd X v0 = 10 + 1) (bd (f_X10_level X v0 μ) (fun (v16 : Int32) (μ17 : x_M) => (if v16 ≤ (30 : Int32) then (ck (x_kd X v0 = 10 + 1) (lt (μ17.2.1 v0 6) (fun (v18 : Nat) => (ck ((x_kd X v18 = 20 ∨ x_kd X v18 = 40) ∧ x_ix v1 (x_ln X v18)) (some ((v4 - (μ17.1 v18 (v1).toNatClampNeg)), μ17)))))) else (ck (x_kd X v0 = 10 + 1) (lt (μ17.2.1 v0 6) (fun (v19 : Nat) => (ck ((x_kd X v19 = 20 ∨ x_kd X v19 = 40) ∧ x_ix v1 (x_ln X v19)) (some (((v4 - (μ17.1 v19 (v1).toNatClampNeg)) - (1 : Int32)), μ17)))))))))), (ck (x_kd X v0 = 10 + 1) (lt (μ.2.1 v0 10) (fun (v20 : Nat) => (ck (x_kd X v0 = 10 + 1) (lt (μ.1 v0 1) (fun (v21 : Int32) => (ck (¬ (4 : Int32) = 0) (lt (((4 : Int32) * v1) + (v21 - v21 / (4 : Int32) * (4 : Int32))) (fun (v22 : Int32) => (ck ((x_kd X v20 = 20 ∨ x_kd X v20 = 40) ∧ x_ix v22 (x_ln X v20)) (some ((v4 + (μ.1 v20 (v22).toNatClampNeg)), μ))))))))))))] (some (v4, μ)) v6)))))))))))))))
set_option maxRecDepth 100000 in
theorem m_X10_poursOf (hI : x_I X) (v0 : Nat) (v1 : Int32) (μ : x_M) : x_Met X x_Z0 l yX10_poursOf cX10_poursOf 3 (some .int) 3 [vR v0, vI v1] μ rkI (f_X10_poursOf X v0 v1 μ) := by
  refine x_enter hI (by decide +kernel) (Nat.le_of_ble_eq_true rfl) (fun p e s m args below meth c hC hr hlk => ?_)
  unfold f_X10_poursOf
  refine s_lv (lv' := [(0, vR v0), (1, vI v1)]) [0, 1] rfl ?_
  refine s_iload_n hC 1 dX10_poursOf_0 rfl ?_
  refine s_aload_n hC 0 dX10_poursOf_1 rfl ?_
  refine s_getI hC xc10 (by decide) rfl qf_X10_102 dX10_poursOf_2 ?_
  refine s_icmp_ne hC dX10_poursOf_5 (tgt := 10) (by decide) ?_ ?_
  · refine s_aload_n hC 0 dX10_poursOf_10 rfl ?_
    refine s_getR hC xc10 (by decide) rfl qf_X10_35 dX10_poursOf_11 ?_
    refine s_ltR (fun v3 => ?_)
    refine s_iload_n hC 1 dX10_poursOf_14 rfl ?_
    refine s_iald hC dX10_poursOf_15 ?_
    refine s_ltI (fun v4 => ?_)
    refine s_istore_n hC dX10_poursOf_16 (by decide) (lv' := [(2, vI v4), (0, vR v0), (1, vI v1)]) rfl ?_
    refine s_aload_n hC 1 dX10_poursOf_17 rfl ?_
    refine s_getR hC xc10 (by decide) rfl qf_X10_26 dX10_poursOf_18 ?_
    refine s_ltR (fun v5 => ?_)
    refine s_iload_n hC 2 dX10_poursOf_21 rfl ?_
    refine s_iald hC dX10_poursOf_22 ?_
    refine s_ltI (fun v6 => ?_)
    refine s_table hC dX10_poursOf_23 [((1 : Int32), 60), ((2 : Int32), 92), ((3 : Int32), 150), ((4 : Int32), 60), ((5 : Int32), 101), ((6 : Int32), 132)] 150 (by decide +kernel) ⟨?_, ?_, ?_, ?_, ?_, ?_, trivial⟩ ?_
    · refine s_lv (lv' := [(0, vR v0), (1, vI v1), (2, vI v4)]) [1, 2, 0] rfl ?_
      exact j_X10_poursOf_J60 hI hC hr hlk _ _ _ _
    · refine s_iload_n hC 0 dX10_poursOf_92 rfl ?_
      refine s_aload_n hC 1 dX10_poursOf_93 rfl ?_
      refine s_getR hC xc10 (by decide) rfl qf_X10_29 dX10_poursOf_94 ?_
      refine s_ltR (fun v15 => ?_)
      refine s_iload_n hC 2 dX10_poursOf_97 rfl ?_
      refine s_iald hC dX10_poursOf_98 ?_
      refine s_isub hC dX10_poursOf_99 ?_
      exact s_iret hC hr hlk dX10_poursOf_100
    · refine s_iload_n hC 0 dX10_poursOf_150 rfl ?_
      exact s_iret hC hr hlk dX10_poursOf_151
    · refine s_lv (lv' := [(0, vR v0), (1, vI v1), (2, vI v4)]) [1, 2, 0] rfl ?_
      exact j_X10_poursOf_J60 hI hC hr hlk _ _ _ _
    · refine s_aload_n hC 1 dX10_poursOf_101 rfl ?_
      refine s_callV hC (x := v0) (avs := []) (st := []) (nest := false) xc10 (m_X10_level hI v0 μ) dX10_poursOf_102 qm_X10_328 qi_X10_level qs_X10_level qc_X10 qd_X10_level qh_X10_level (by decide) (fun _ => Nat.le_of_ble_eq_true rfl) (Nat.le_of_ble_eq_true rfl) (fun v16 μ17 => ?_)
      refine s_bipush hC dX10_poursOf_105 (v := 30) (by decide) ?_
      refine s_icmp_le hC dX10_poursOf_107 (tgt := 123) (by decide) ?_ ?_
      · refine s_iload_n hC 0 dX10_poursOf_123 rfl ?_
        refine s_aload_n hC 1 dX10_poursOf_124 rfl ?_
        refine s_getR hC xc10 (by decide) rfl qf_X10_29 dX10_poursOf_125 ?_
        refine s_ltR (fun v18 => ?_)
        refine s_iload_n hC 2 dX10_poursOf_128 rfl ?_
        refine s_iald hC dX10_poursOf_129 ?_
        refine s_isub hC dX10_poursOf_130 ?_
        exact s_iret hC hr hlk dX10_poursOf_131
      refine s_iload_n hC 0 dX10_poursOf_110 rfl ?_
      refine s_aload_n hC 1 dX10_poursOf_111 rfl ?_
      refine s_getR hC xc10 (by decide) rfl qf_X10_29 dX10_poursOf_112 ?_
      refine s_ltR (fun v19 => ?_)
      refine s_iload_n hC 2 dX10_poursOf_115 rfl ?_
      refine s_iald hC dX10_poursOf_116 ?_
      refine s_isub hC dX10_poursOf_117 ?_
      refine s_iconst hC dX10_poursOf_118 (v := 1) (by decide) ?_
      refine s_isub hC dX10_poursOf_119 ?_
      refine s_goto hC dX10_poursOf_120 (tgt := 131) (by decide) ?_
      exact s_iret hC hr hlk dX10_poursOf_131
    · refine s_iload_n hC 0 dX10_poursOf_132 rfl ?_
      refine s_aload_n hC 1 dX10_poursOf_133 rfl ?_
      refine s_getR hC xc10 (by decide) rfl qf_X10_41 dX10_poursOf_134 ?_
      refine s_ltR (fun v20 => ?_)
      refine s_iconst hC dX10_poursOf_137 (v := 4) (by decide) ?_
      refine s_iload_n hC 2 dX10_poursOf_138 rfl ?_
      refine s_imul hC dX10_poursOf_139 ?_
      refine s_aload_n hC 1 dX10_poursOf_140 rfl ?_
      refine s_getI hC xc10 (by decide) rfl qf_X10_13 dX10_poursOf_141 ?_
      refine s_iconst hC dX10_poursOf_144 (v := 4) (by decide) ?_
      refine s_ltI2 (fun v21 => ?_)
      refine s_irem hC dX10_poursOf_145 ?_
      refine s_iadd hC dX10_poursOf_146 ?_
      refine s_ltI (fun v22 => ?_)
      refine s_iald hC dX10_poursOf_147 ?_
      refine s_iadd hC dX10_poursOf_148 ?_
      exact s_iret hC hr hlk dX10_poursOf_149
    refine s_iload_n hC 0 dX10_poursOf_150 rfl ?_
    exact s_iret hC hr hlk dX10_poursOf_151
  refine s_iconst hC dX10_poursOf_8 (v := 0) (by decide) ?_
  exact s_iret hC hr hlk dX10_poursOf_9
theorem dX10_lifted_0 : decode cX10_lifted 0 = .ok (.aload_n 0, 1) := by decide +kernel
theorem dX10_lifted_1 : decode cX10_lifted 1 = .ok (.invokevirtual 328, 3) := by decide +kernel
theorem dX10_lifted_4 : decode cX10_lifted 4 = .ok (.aload_n 0, 1) := by decide +kernel
theorem dX10_lifted_5 : decode cX10_lifted 5 = .ok (.aload_n 0, 1) := by decide +kernel
theorem dX10_lifted_6 : decode cX10_lifted 6 = .ok (.getfield 16, 3) := by decide +kernel
theorem dX10_lifted_9 : decode cX10_lifted 9 = .ok (.invokevirtual 325, 3) := by decide +kernel
theorem dX10_lifted_12 : decode cX10_lifted 12 = .ok (.isub, 1) := by decide +kernel
theorem dX10_lifted_13 : decode cX10_lifted 13 = .ok (.ireturn, 1) := by decide +kernel
def f_X10_lifted (X : x_X) (v0 : Nat) (μ : x_M) : Option (Int32 × x_M) :=
  (ck (x_kd X v0 = 10 + 1) (bd (f_X10_level X v0 μ) (fun (v2 : Int32) (μ3 : x_M) => (ck (x_kd X v0 = 10 + 1) (ck (x_kd X v0 = 10 + 1) (bd (f_X10_levelOf X v0 (μ3.1 v0 2) μ3) (fun (v4 : Int32) (μ5 : x_M) => (some ((v2 - v4), μ5)))))))))
set_option maxRecDepth 100000 in
theorem m_X10_lifted (hI : x_I X) (v0 : Nat) (μ : x_M) : x_Met X x_Z0 l yX10_lifted cX10_lifted 1 (some .int) 3 [vR v0] μ rkI (f_X10_lifted X v0 μ) := by
  refine x_enter hI (by decide +kernel) (Nat.le_of_ble_eq_true rfl) (fun p e s m args below meth c hC hr hlk => ?_)
  unfold f_X10_lifted
  refine s_lv (lv' := [(0, vR v0)]) [0] rfl ?_
  refine s_aload_n hC 0 dX10_lifted_0 rfl ?_
  refine s_callV hC (x := v0) (avs := []) (st := []) (nest := false) xc10 (m_X10_level hI v0 μ) dX10_lifted_1 qm_X10_328 qi_X10_level qs_X10_level qc_X10 qd_X10_level qh_X10_level (by decide) (fun _ => Nat.le_of_ble_eq_true rfl) (Nat.le_of_ble_eq_true rfl) (fun v2 μ3 => ?_)
  refine s_aload_n hC 0 dX10_lifted_4 rfl ?_
  refine s_aload_n hC 0 dX10_lifted_5 rfl ?_
  refine s_getI hC xc10 (by decide) rfl qf_X10_16 dX10_lifted_6 ?_
  refine s_callV hC (x := v0) (avs := [vI (μ3.1 v0 2)]) (st := [vI v2]) (nest := false) xc10 (m_X10_levelOf hI v0 (μ3.1 v0 2) μ3) dX10_lifted_9 qm_X10_325 qi_X10_levelOf qs_X10_levelOf qc_X10 qd_X10_levelOf qh_X10_levelOf (by decide) (fun _ => Nat.le_of_ble_eq_true rfl) (Nat.le_of_ble_eq_true rfl) (fun v4 μ5 => ?_)
  refine s_isub hC dX10_lifted_12 ?_
  exact s_iret hC hr hlk dX10_lifted_13
theorem dX10_plan_0 : decode cX10_plan 0 = .ok (.iload_n 1, 1) := by decide +kernel
theorem dX10_plan_1 : decode cX10_plan 1 = .ok (.iconst (-1), 1) := by decide +kernel
theorem dX10_plan_2 : decode cX10_plan 2 = .ok (.if_icmp .ne 10, 3) := by decide +kernel
theorem dX10_plan_5 : decode cX10_plan 5 = .ok (.aload_n 0, 1) := by decide +kernel
theorem dX10_plan_6 : decode cX10_plan 6 = .ok (.iconst 0, 1) := by decide +kernel
theorem dX10_plan_7 : decode cX10_plan 7 = .ok (.putfield 141, 3) := by decide +kernel
theorem dX10_plan_10 : decode cX10_plan 10 = .ok (.iconst 0, 1) := by decide +kernel
theorem dX10_plan_11 : decode cX10_plan 11 = .ok (.ireturn, 1) := by decide +kernel
theorem dX10_plan_12 : decode cX10_plan 12 = .ok (.aload_n 0, 1) := by decide +kernel
theorem dX10_plan_13 : decode cX10_plan 13 = .ok (.iload_n 1, 1) := by decide +kernel
theorem dX10_plan_14 : decode cX10_plan 14 = .ok (.invokevirtual 257, 3) := by decide +kernel
theorem dX10_plan_17 : decode cX10_plan 17 = .ok (.ifCond .ne 5, 3) := by decide +kernel
theorem dX10_plan_20 : decode cX10_plan 20 = .ok (.iconst (-1), 1) := by decide +kernel
theorem dX10_plan_21 : decode cX10_plan 21 = .ok (.ireturn, 1) := by decide +kernel
theorem dX10_plan_22 : decode cX10_plan 22 = .ok (.aload_n 0, 1) := by decide +kernel
theorem dX10_plan_23 : decode cX10_plan 23 = .ok (.iload_n 2, 1) := by decide +kernel
theorem dX10_plan_24 : decode cX10_plan 24 = .ok (.invokevirtual 253, 3) := by decide +kernel
theorem dX10_plan_27 : decode cX10_plan 27 = .ok (.ifCond .ne 6, 3) := by decide +kernel
theorem dX10_plan_30 : decode cX10_plan 30 = .ok (.bipush (-2), 2) := by decide +kernel
theorem dX10_plan_32 : decode cX10_plan 32 = .ok (.ireturn, 1) := by decide +kernel
theorem dX10_plan_33 : decode cX10_plan 33 = .ok (.aload_n 0, 1) := by decide +kernel
theorem dX10_plan_34 : decode cX10_plan 34 = .ok (.getfield 141, 3) := by decide +kernel
theorem dX10_plan_37 : decode cX10_plan 37 = .ok (.bipush 8, 2) := by decide +kernel
theorem dX10_plan_39 : decode cX10_plan 39 = .ok (.if_icmp .ne 6, 3) := by decide +kernel
theorem dX10_plan_42 : decode cX10_plan 42 = .ok (.bipush (-4), 2) := by decide +kernel
theorem dX10_plan_44 : decode cX10_plan 44 = .ok (.ireturn, 1) := by decide +kernel
theorem dX10_plan_45 : decode cX10_plan 45 = .ok (.aload_n 0, 1) := by decide +kernel
theorem dX10_plan_46 : decode cX10_plan 46 = .ok (.getfield 147, 3) := by decide +kernel
theorem dX10_plan_49 : decode cX10_plan 49 = .ok (.aload_n 0, 1) := by decide +kernel
theorem dX10_plan_50 : decode cX10_plan 50 = .ok (.getfield 141, 3) := by decide +kernel
theorem dX10_plan_53 : decode cX10_plan 53 = .ok (.iload_n 1, 1) := by decide +kernel
theorem dX10_plan_54 : decode cX10_plan 54 = .ok (.iastore, 1) := by decide +kernel
theorem dX10_plan_55 : decode cX10_plan 55 = .ok (.aload_n 0, 1) := by decide +kernel
theorem dX10_plan_56 : decode cX10_plan 56 = .ok (.getfield 150, 3) := by decide +kernel
theorem dX10_plan_59 : decode cX10_plan 59 = .ok (.aload_n 0, 1) := by decide +kernel
theorem dX10_plan_60 : decode cX10_plan 60 = .ok (.getfield 141, 3) := by decide +kernel
theorem dX10_plan_63 : decode cX10_plan 63 = .ok (.iload_n 2, 1) := by decide +kernel
theorem dX10_plan_64 : decode cX10_plan 64 = .ok (.iastore, 1) := by decide +kernel
theorem dX10_plan_65 : decode cX10_plan 65 = .ok (.aload_n 0, 1) := by decide +kernel
theorem dX10_plan_66 : decode cX10_plan 66 = .ok (.dup, 1) := by decide +kernel
theorem dX10_plan_67 : decode cX10_plan 67 = .ok (.getfield 141, 3) := by decide +kernel
theorem dX10_plan_70 : decode cX10_plan 70 = .ok (.iconst 1, 1) := by decide +kernel
theorem dX10_plan_71 : decode cX10_plan 71 = .ok (.iadd, 1) := by decide +kernel
theorem dX10_plan_72 : decode cX10_plan 72 = .ok (.putfield 141, 3) := by decide +kernel
theorem dX10_plan_75 : decode cX10_plan 75 = .ok (.aload_n 0, 1) := by decide +kernel
theorem dX10_plan_76 : decode cX10_plan 76 = .ok (.getfield 141, 3) := by decide +kernel
theorem dX10_plan_79 : decode cX10_plan 79 = .ok (.ireturn, 1) := by decide +kernel
def f_X10_plan (X : x_X) (v0 : Nat) (v1 : Int32) (v2 : Int32) (μ : x_M) : Option (Int32 × x_M) :=
  (if v1 = (-1 : Int32) then (ck (x_kd X v0 = 10 + 1) (lt (x_sI μ v0 43 (0 : Int32)) (fun (μ15 : x_M) => (some ((0 : Int32), μ15))))) else (ck (x_kd X v0 = 10 + 1) (bd (f_X10_isAccount X v0 v1 μ) (fun (v4 : Int32) (μ5 : x_M) => (if v4 = 0 then (some ((-1 : Int32), μ5)) else (ck (x_kd X v0 = 10 + 1) (bd (f_X10_isDaily X v0 v2 μ5) (fun (v6 : Int32) (μ7 : x_M) => (if v6 = 0 then (some ((-2 : Int32), μ7)) else (ck (x_kd X v0 = 10 + 1) (if (μ7.1 v0 43) = (8 : Int32) then (some ((-4 : Int32), μ7)) else (ck (x_kd X v0 = 10 + 1) (lt (μ7.2.1 v0 45) (fun (v8 : Nat) => (ck (x_kd X v0 = 10 + 1) (lt (μ7.1 v0 43) (fun (v9 : Int32) => (ck (x_kd X v8 = 20 ∧ x_ix v9 (x_ln X v8)) (lt (x_sI μ7 v8 (v9).toNatClampNeg v1) (fun (μ10 : x_M) => (ck (x_kd X v0 = 10 + 1) (lt (μ10.2.1 v0 46) (fun (v11 : Nat) => (ck (x_kd X v0 = 10 + 1) (lt (μ10.1 v0 43) (fun (v12 : Int32) => (ck (x_kd X v11 = 20 ∧ x_ix v12 (x_ln X v11)) (lt (x_sI μ10 v11 (v12).toNatClampNeg v2) (fun (μ13 : x_M) => (ck (x_kd X v0 = 10 + 1) (ck (x_kd X v0 = 10 + 1) (lt (x_sI μ13 v0 43 ((μ13.1 v0 43) + (1 : Int32))) (fun (μ14 : x_M) => (ck (x_kd X v0 = 10 + 1) (some ((μ14.1 v0 43), μ14))))))))))))))))))))))))))))))))))))
set_option maxRecDepth 100000 in
theorem m_X10_plan (hI : x_I X) (v0 : Nat) (v1 : Int32) (v2 : Int32) (μ : x_M) : x_Met X x_Z0 l yX10_plan cX10_plan 3 (some .int) 3 [vR v0, vI v1, vI v2] μ rkI (f_X10_plan X v0 v1 v2 μ) := by
  refine x_enter hI (by decide +kernel) (Nat.le_of_ble_eq_true rfl) (fun p e s m args below meth c hC hr hlk => ?_)
  unfold f_X10_plan
  refine s_lv (lv' := [(0, vR v0), (1, vI v1), (2, vI v2)]) [0, 1, 2] rfl ?_
  refine s_iload_n hC 1 dX10_plan_0 rfl ?_
  refine s_iconst hC dX10_plan_1 (v := -1) (by decide) ?_
  refine s_icmp_ne hC dX10_plan_2 (tgt := 12) (by decide) ?_ ?_
  · refine s_aload_n hC 0 dX10_plan_12 rfl ?_
    refine s_iload_n hC 1 dX10_plan_13 rfl ?_
    refine s_callV hC (x := v0) (avs := [vI v1]) (st := []) (nest := false) xc10 (m_X10_isAccount hI v0 v1 μ) dX10_plan_14 qm_X10_257 qi_X10_isAccount qs_X10_isAccount qc_X10 qd_X10_isAccount qh_X10_isAccount (by decide) (fun _ => Nat.le_of_ble_eq_true rfl) (Nat.le_of_ble_eq_true rfl) (fun v4 μ5 => ?_)
    refine s_if_ne hC dX10_plan_17 (tgt := 22) (by decide) ?_ ?_
    · refine s_aload_n hC 0 dX10_plan_22 rfl ?_
      refine s_iload_n hC 2 dX10_plan_23 rfl ?_
      refine s_callV hC (x := v0) (avs := [vI v2]) (st := []) (nest := false) xc10 (m_X10_isDaily hI v0 v2 μ5) dX10_plan_24 qm_X10_253 qi_X10_isDaily qs_X10_isDaily qc_X10 qd_X10_isDaily qh_X10_isDaily (by decide) (fun _ => Nat.le_of_ble_eq_true rfl) (Nat.le_of_ble_eq_true rfl) (fun v6 μ7 => ?_)
      refine s_if_ne hC dX10_plan_27 (tgt := 33) (by decide) ?_ ?_
      · refine s_aload_n hC 0 dX10_plan_33 rfl ?_
        refine s_getI hC xc10 (by decide) rfl qf_X10_141 dX10_plan_34 ?_
        refine s_bipush hC dX10_plan_37 (v := 8) (by decide) ?_
        refine s_icmp_ne hC dX10_plan_39 (tgt := 45) (by decide) ?_ ?_
        · refine s_aload_n hC 0 dX10_plan_45 rfl ?_
          refine s_getR hC xc10 (by decide) rfl qf_X10_147 dX10_plan_46 ?_
          refine s_ltR (fun v8 => ?_)
          refine s_aload_n hC 0 dX10_plan_49 rfl ?_
          refine s_getI hC xc10 (by decide) rfl qf_X10_141 dX10_plan_50 ?_
          refine s_iload_n hC 1 dX10_plan_53 rfl ?_
          refine s_ltI2 (fun v9 => ?_)
          refine s_iast hC dX10_plan_54 ?_
          refine s_ltM (fun μ10 => ?_)
          refine s_aload_n hC 0 dX10_plan_55 rfl ?_
          refine s_getR hC xc10 (by decide) rfl qf_X10_150 dX10_plan_56 ?_
          refine s_ltR (fun v11 => ?_)
          refine s_aload_n hC 0 dX10_plan_59 rfl ?_
          refine s_getI hC xc10 (by decide) rfl qf_X10_141 dX10_plan_60 ?_
          refine s_iload_n hC 2 dX10_plan_63 rfl ?_
          refine s_ltI2 (fun v12 => ?_)
          refine s_iast hC dX10_plan_64 ?_
          refine s_ltM (fun μ13 => ?_)
          refine s_aload_n hC 0 dX10_plan_65 rfl ?_
          refine s_dupR hC dX10_plan_66 ?_
          refine s_getI hC xc10 (by decide) rfl qf_X10_141 dX10_plan_67 ?_
          refine s_iconst hC dX10_plan_70 (v := 1) (by decide) ?_
          refine s_iadd hC dX10_plan_71 ?_
          refine s_putI hC xc10 (by decide) rfl rfl qf_X10_141 dX10_plan_72 ?_
          refine s_ltM (fun μ14 => ?_)
          refine s_aload_n hC 0 dX10_plan_75 rfl ?_
          refine s_getI hC xc10 (by decide) rfl qf_X10_141 dX10_plan_76 ?_
          exact s_iret hC hr hlk dX10_plan_79
        refine s_bipush hC dX10_plan_42 (v := -4) (by decide) ?_
        exact s_iret hC hr hlk dX10_plan_44
      refine s_bipush hC dX10_plan_30 (v := -2) (by decide) ?_
      exact s_iret hC hr hlk dX10_plan_32
    refine s_iconst hC dX10_plan_20 (v := -1) (by decide) ?_
    exact s_iret hC hr hlk dX10_plan_21
  refine s_aload_n hC 0 dX10_plan_5 rfl ?_
  refine s_iconst hC dX10_plan_6 (v := 0) (by decide) ?_
  refine s_putI hC xc10 (by decide) rfl rfl qf_X10_141 dX10_plan_7 ?_
  refine s_ltM (fun μ15 => ?_)
  refine s_iconst hC dX10_plan_10 (v := 0) (by decide) ?_
  exact s_iret hC hr hlk dX10_plan_11
theorem dX10_book_0 : decode cX10_book 0 = .ok (.iload_n 1, 1) := by decide +kernel
theorem dX10_book_1 : decode cX10_book 1 = .ok (.iconst (-1), 1) := by decide +kernel
theorem dX10_book_2 : decode cX10_book 2 = .ok (.if_icmp .ne 10, 3) := by decide +kernel
theorem dX10_book_5 : decode cX10_book 5 = .ok (.aload_n 0, 1) := by decide +kernel
theorem dX10_book_6 : decode cX10_book 6 = .ok (.iconst 0, 1) := by decide +kernel
theorem dX10_book_7 : decode cX10_book 7 = .ok (.putfield 144, 3) := by decide +kernel
theorem dX10_book_10 : decode cX10_book 10 = .ok (.iconst 0, 1) := by decide +kernel
theorem dX10_book_11 : decode cX10_book 11 = .ok (.ireturn, 1) := by decide +kernel
theorem dX10_book_12 : decode cX10_book 12 = .ok (.aload_n 0, 1) := by decide +kernel
theorem dX10_book_13 : decode cX10_book 13 = .ok (.iload_n 1, 1) := by decide +kernel
theorem dX10_book_14 : decode cX10_book 14 = .ok (.invokevirtual 257, 3) := by decide +kernel
theorem dX10_book_17 : decode cX10_book 17 = .ok (.ifCond .ne 5, 3) := by decide +kernel
theorem dX10_book_20 : decode cX10_book 20 = .ok (.iconst (-1), 1) := by decide +kernel
theorem dX10_book_21 : decode cX10_book 21 = .ok (.ireturn, 1) := by decide +kernel
theorem dX10_book_22 : decode cX10_book 22 = .ok (.aload_n 0, 1) := by decide +kernel
theorem dX10_book_23 : decode cX10_book 23 = .ok (.iload_n 2, 1) := by decide +kernel
theorem dX10_book_24 : decode cX10_book 24 = .ok (.sipush (-9999), 3) := by decide +kernel
theorem dX10_book_27 : decode cX10_book 27 = .ok (.sipush 9999, 3) := by decide +kernel
theorem dX10_book_30 : decode cX10_book 30 = .ok (.invokevirtual 245, 3) := by decide +kernel
theorem dX10_book_33 : decode cX10_book 33 = .ok (.ifCond .ne 6, 3) := by decide +kernel
theorem dX10_book_36 : decode cX10_book 36 = .ok (.bipush (-2), 2) := by decide +kernel
theorem dX10_book_38 : decode cX10_book 38 = .ok (.ireturn, 1) := by decide +kernel
theorem dX10_book_39 : decode cX10_book 39 = .ok (.aload_n 0, 1) := by decide +kernel
theorem dX10_book_40 : decode cX10_book 40 = .ok (.getfield 144, 3) := by decide +kernel
theorem dX10_book_43 : decode cX10_book 43 = .ok (.bipush 8, 2) := by decide +kernel
theorem dX10_book_45 : decode cX10_book 45 = .ok (.if_icmp .ne 6, 3) := by decide +kernel
theorem dX10_book_48 : decode cX10_book 48 = .ok (.bipush (-4), 2) := by decide +kernel
theorem dX10_book_50 : decode cX10_book 50 = .ok (.ireturn, 1) := by decide +kernel
theorem dX10_book_51 : decode cX10_book 51 = .ok (.aload_n 0, 1) := by decide +kernel
theorem dX10_book_52 : decode cX10_book 52 = .ok (.getfield 153, 3) := by decide +kernel
theorem dX10_book_55 : decode cX10_book 55 = .ok (.aload_n 0, 1) := by decide +kernel
theorem dX10_book_56 : decode cX10_book 56 = .ok (.getfield 144, 3) := by decide +kernel
theorem dX10_book_59 : decode cX10_book 59 = .ok (.iload_n 1, 1) := by decide +kernel
theorem dX10_book_60 : decode cX10_book 60 = .ok (.iastore, 1) := by decide +kernel
theorem dX10_book_61 : decode cX10_book 61 = .ok (.aload_n 0, 1) := by decide +kernel
theorem dX10_book_62 : decode cX10_book 62 = .ok (.getfield 156, 3) := by decide +kernel
theorem dX10_book_65 : decode cX10_book 65 = .ok (.aload_n 0, 1) := by decide +kernel
theorem dX10_book_66 : decode cX10_book 66 = .ok (.getfield 144, 3) := by decide +kernel
theorem dX10_book_69 : decode cX10_book 69 = .ok (.iload_n 2, 1) := by decide +kernel
theorem dX10_book_70 : decode cX10_book 70 = .ok (.iastore, 1) := by decide +kernel
theorem dX10_book_71 : decode cX10_book 71 = .ok (.aload_n 0, 1) := by decide +kernel
theorem dX10_book_72 : decode cX10_book 72 = .ok (.dup, 1) := by decide +kernel
theorem dX10_book_73 : decode cX10_book 73 = .ok (.getfield 144, 3) := by decide +kernel
theorem dX10_book_76 : decode cX10_book 76 = .ok (.iconst 1, 1) := by decide +kernel
theorem dX10_book_77 : decode cX10_book 77 = .ok (.iadd, 1) := by decide +kernel
theorem dX10_book_78 : decode cX10_book 78 = .ok (.putfield 144, 3) := by decide +kernel
theorem dX10_book_81 : decode cX10_book 81 = .ok (.aload_n 0, 1) := by decide +kernel
theorem dX10_book_82 : decode cX10_book 82 = .ok (.getfield 144, 3) := by decide +kernel
theorem dX10_book_85 : decode cX10_book 85 = .ok (.ireturn, 1) := by decide +kernel
def f_X10_book (X : x_X) (v0 : Nat) (v1 : Int32) (v2 : Int32) (μ : x_M) : Option (Int32 × x_M) :=
  (if v1 = (-1 : Int32) then (ck (x_kd X v0 = 10 + 1) (lt (x_sI μ v0 44 (0 : Int32)) (fun (μ15 : x_M) => (some ((0 : Int32), μ15))))) else (ck (x_kd X v0 = 10 + 1) (bd (f_X10_isAccount X v0 v1 μ) (fun (v4 : Int32) (μ5 : x_M) => (if v4 = 0 then (some ((-1 : Int32), μ5)) else (ck (x_kd X v0 = 10 + 1) (bd (f_X10_in X v0 v2 (-9999 : Int32) (9999 : Int32) μ5) (fun (v6 : Int32) (μ7 : x_M) => (if v6 = 0 then (some ((-2 : Int32), μ7)) else (ck (x_kd X v0 = 10 + 1) (if (μ7.1 v0 44) = (8 : Int32) then (some ((-4 : Int32), μ7)) else (ck (x_kd X v0 = 10 + 1) (lt (μ7.2.1 v0 47) (fun (v8 : Nat) => (ck (x_kd X v0 = 10 + 1) (lt (μ7.1 v0 44) (fun (v9 : Int32) => (ck (x_kd X v8 = 20 ∧ x_ix v9 (x_ln X v8)) (lt (x_sI μ7 v8 (v9).toNatClampNeg v1) (fun (μ10 : x_M) => (ck (x_kd X v0 = 10 + 1) (lt (μ10.2.1 v0 48) (fun (v11 : Nat) => (ck (x_kd X v0 = 10 + 1) (lt (μ10.1 v0 44) (fun (v12 : Int32) => (ck (x_kd X v11 = 20 ∧ x_ix v12 (x_ln X v11)) (lt (x_sI μ10 v11 (v12).toNatClampNeg v2) (fun (μ13 : x_M) => (ck (x_kd X v0 = 10 + 1) (ck (x_kd X v0 = 10 + 1) (lt (x_sI μ13 v0 44 ((μ13.1 v0 44) + (1 : Int32))) (fun (μ14 : x_M) => (ck (x_kd X v0 = 10 + 1) (some ((μ14.1 v0 44), μ14))))))))))))))))))))))))))))))))))))
set_option maxRecDepth 100000 in
theorem m_X10_book (hI : x_I X) (v0 : Nat) (v1 : Int32) (v2 : Int32) (μ : x_M) : x_Met X x_Z0 l yX10_book cX10_book 3 (some .int) 3 [vR v0, vI v1, vI v2] μ rkI (f_X10_book X v0 v1 v2 μ) := by
  refine x_enter hI (by decide +kernel) (Nat.le_of_ble_eq_true rfl) (fun p e s m args below meth c hC hr hlk => ?_)
  unfold f_X10_book
  refine s_lv (lv' := [(0, vR v0), (1, vI v1), (2, vI v2)]) [0, 1, 2] rfl ?_
  refine s_iload_n hC 1 dX10_book_0 rfl ?_
  refine s_iconst hC dX10_book_1 (v := -1) (by decide) ?_
  refine s_icmp_ne hC dX10_book_2 (tgt := 12) (by decide) ?_ ?_
  · refine s_aload_n hC 0 dX10_book_12 rfl ?_
    refine s_iload_n hC 1 dX10_book_13 rfl ?_
    refine s_callV hC (x := v0) (avs := [vI v1]) (st := []) (nest := false) xc10 (m_X10_isAccount hI v0 v1 μ) dX10_book_14 qm_X10_257 qi_X10_isAccount qs_X10_isAccount qc_X10 qd_X10_isAccount qh_X10_isAccount (by decide) (fun _ => Nat.le_of_ble_eq_true rfl) (Nat.le_of_ble_eq_true rfl) (fun v4 μ5 => ?_)
    refine s_if_ne hC dX10_book_17 (tgt := 22) (by decide) ?_ ?_
    · refine s_aload_n hC 0 dX10_book_22 rfl ?_
      refine s_iload_n hC 2 dX10_book_23 rfl ?_
      refine s_sipush hC dX10_book_24 (v := -9999) (by decide) ?_
      refine s_sipush hC dX10_book_27 (v := 9999) (by decide) ?_
      refine s_callV hC (x := v0) (avs := [vI v2, vI (-9999 : Int32), vI (9999 : Int32)]) (st := []) (nest := false) xc10 (m_X10_in hI v0 v2 (-9999 : Int32) (9999 : Int32) μ5) dX10_book_30 qm_X10_245 qi_X10_in qs_X10_in qc_X10 qd_X10_in qh_X10_in (by decide) (fun _ => Nat.le_of_ble_eq_true rfl) (Nat.le_of_ble_eq_true rfl) (fun v6 μ7 => ?_)
      refine s_if_ne hC dX10_book_33 (tgt := 39) (by decide) ?_ ?_
      · refine s_aload_n hC 0 dX10_book_39 rfl ?_
        refine s_getI hC xc10 (by decide) rfl qf_X10_144 dX10_book_40 ?_
        refine s_bipush hC dX10_book_43 (v := 8) (by decide) ?_
        refine s_icmp_ne hC dX10_book_45 (tgt := 51) (by decide) ?_ ?_
        · refine s_aload_n hC 0 dX10_book_51 rfl ?_
          refine s_getR hC xc10 (by decide) rfl qf_X10_153 dX10_book_52 ?_
          refine s_ltR (fun v8 => ?_)
          refine s_aload_n hC 0 dX10_book_55 rfl ?_
          refine s_getI hC xc10 (by decide) rfl qf_X10_144 dX10_book_56 ?_
          refine s_iload_n hC 1 dX10_book_59 rfl ?_
          refine s_ltI2 (fun v9 => ?_)
          refine s_iast hC dX10_book_60 ?_
          refine s_ltM (fun μ10 => ?_)
          refine s_aload_n hC 0 dX10_book_61 rfl ?_
          refine s_getR hC xc10 (by decide) rfl qf_X10_156 dX10_book_62 ?_
          refine s_ltR (fun v11 => ?_)
          refine s_aload_n hC 0 dX10_book_65 rfl ?_
          refine s_getI hC xc10 (by decide) rfl qf_X10_144 dX10_book_66 ?_
          refine s_iload_n hC 2 dX10_book_69 rfl ?_
          refine s_ltI2 (fun v12 => ?_)
          refine s_iast hC dX10_book_70 ?_
          refine s_ltM (fun μ13 => ?_)
          refine s_aload_n hC 0 dX10_book_71 rfl ?_
          refine s_dupR hC dX10_book_72 ?_
          refine s_getI hC xc10 (by decide) rfl qf_X10_144 dX10_book_73 ?_
          refine s_iconst hC dX10_book_76 (v := 1) (by decide) ?_
          refine s_iadd hC dX10_book_77 ?_
          refine s_putI hC xc10 (by decide) rfl rfl qf_X10_144 dX10_book_78 ?_
          refine s_ltM (fun μ14 => ?_)
          refine s_aload_n hC 0 dX10_book_81 rfl ?_
          refine s_getI hC xc10 (by decide) rfl qf_X10_144 dX10_book_82 ?_
          exact s_iret hC hr hlk dX10_book_85
        refine s_bipush hC dX10_book_48 (v := -4) (by decide) ?_
        exact s_iret hC hr hlk dX10_book_50
      refine s_bipush hC dX10_book_36 (v := -2) (by decide) ?_
      exact s_iret hC hr hlk dX10_book_38
    refine s_iconst hC dX10_book_20 (v := -1) (by decide) ?_
    exact s_iret hC hr hlk dX10_book_21
  refine s_aload_n hC 0 dX10_book_5 rfl ?_
  refine s_iconst hC dX10_book_6 (v := 0) (by decide) ?_
  refine s_putI hC xc10 (by decide) rfl rfl qf_X10_144 dX10_book_7 ?_
  refine s_ltM (fun μ15 => ?_)
  refine s_iconst hC dX10_book_10 (v := 0) (by decide) ?_
  exact s_iret hC hr hlk dX10_book_11
theorem dX10_judge_0 : decode cX10_judge 0 = .ok (.aload_n 0, 1) := by decide +kernel
theorem dX10_judge_1 : decode cX10_judge 1 = .ok (.iload_n 1, 1) := by decide +kernel
theorem dX10_judge_2 : decode cX10_judge 2 = .ok (.invokevirtual 398, 3) := by decide +kernel
theorem dX10_judge_5 : decode cX10_judge 5 = .ok (.ifCond .ne 5, 3) := by decide +kernel
theorem dX10_judge_8 : decode cX10_judge 8 = .ok (.iconst (-1), 1) := by decide +kernel
theorem dX10_judge_9 : decode cX10_judge 9 = .ok (.ireturn, 1) := by decide +kernel
theorem dX10_judge_10 : decode cX10_judge 10 = .ok (.aload_n 0, 1) := by decide +kernel
theorem dX10_judge_11 : decode cX10_judge 11 = .ok (.getfield 232, 3) := by decide +kernel
theorem dX10_judge_14 : decode cX10_judge 14 = .ok (.iload_n 1, 1) := by decide +kernel
theorem dX10_judge_15 : decode cX10_judge 15 = .ok (.iaload, 1) := by decide +kernel
theorem dX10_judge_16 : decode cX10_judge 16 = .ok (.ifCond .lt 16, 3) := by decide +kernel
theorem dX10_judge_19 : decode cX10_judge 19 = .ok (.aload_n 0, 1) := by decide +kernel
theorem dX10_judge_20 : decode cX10_judge 20 = .ok (.getfield 232, 3) := by decide +kernel
theorem dX10_judge_23 : decode cX10_judge 23 = .ok (.iload_n 1, 1) := by decide +kernel
theorem dX10_judge_24 : decode cX10_judge 24 = .ok (.iaload, 1) := by decide +kernel
theorem dX10_judge_25 : decode cX10_judge 25 = .ok (.iconst 2, 1) := by decide +kernel
theorem dX10_judge_26 : decode cX10_judge 26 = .ok (.if_icmp .eq 6, 3) := by decide +kernel
theorem dX10_judge_29 : decode cX10_judge 29 = .ok (.bipush (-12), 2) := by decide +kernel
theorem dX10_judge_31 : decode cX10_judge 31 = .ok (.ireturn, 1) := by decide +kernel
theorem dX10_judge_32 : decode cX10_judge 32 = .ok (.iconst 0, 1) := by decide +kernel
theorem dX10_judge_33 : decode cX10_judge 33 = .ok (.istore_n 3, 1) := by decide +kernel
theorem dX10_judge_34 : decode cX10_judge 34 = .ok (.iload_n 3, 1) := by decide +kernel
theorem dX10_judge_35 : decode cX10_judge 35 = .ok (.aload_n 0, 1) := by decide +kernel
theorem dX10_judge_36 : decode cX10_judge 36 = .ok (.getfield 7, 3) := by decide +kernel
theorem dX10_judge_39 : decode cX10_judge 39 = .ok (.if_icmp .ge 67, 3) := by decide +kernel
theorem dX10_judge_42 : decode cX10_judge 42 = .ok (.aload_n 0, 1) := by decide +kernel
theorem dX10_judge_43 : decode cX10_judge 43 = .ok (.getfield 232, 3) := by decide +kernel
theorem dX10_judge_46 : decode cX10_judge 46 = .ok (.iload_n 1, 1) := by decide +kernel
theorem dX10_judge_47 : decode cX10_judge 47 = .ok (.iaload, 1) := by decide +kernel
theorem dX10_judge_48 : decode cX10_judge 48 = .ok (.ifCond .lt 21, 3) := by decide +kernel
theorem dX10_judge_51 : decode cX10_judge 51 = .ok (.iload_n 2, 1) := by decide +kernel
theorem dX10_judge_52 : decode cX10_judge 52 = .ok (.ifCond .lt 17, 3) := by decide +kernel
theorem dX10_judge_55 : decode cX10_judge 55 = .ok (.iload_n 2, 1) := by decide +kernel
theorem dX10_judge_56 : decode cX10_judge 56 = .ok (.aload_n 0, 1) := by decide +kernel
theorem dX10_judge_57 : decode cX10_judge 57 = .ok (.getfield 235, 3) := by decide +kernel
theorem dX10_judge_60 : decode cX10_judge 60 = .ok (.iload_n 1, 1) := by decide +kernel
theorem dX10_judge_61 : decode cX10_judge 61 = .ok (.iaload, 1) := by decide +kernel
theorem dX10_judge_62 : decode cX10_judge 62 = .ok (.iload_n 3, 1) := by decide +kernel
theorem dX10_judge_63 : decode cX10_judge 63 = .ok (.isub, 1) := by decide +kernel
theorem dX10_judge_64 : decode cX10_judge 64 = .ok (.iconst 1, 1) := by decide +kernel
theorem dX10_judge_65 : decode cX10_judge 65 = .ok (.isub, 1) := by decide +kernel
theorem dX10_judge_66 : decode cX10_judge 66 = .ok (.if_icmp .le 8, 3) := by decide +kernel
theorem dX10_judge_69 : decode cX10_judge 69 = .ok (.bipush 100, 2) := by decide +kernel
theorem dX10_judge_71 : decode cX10_judge 71 = .ok (.iload_n 3, 1) := by decide +kernel
theorem dX10_judge_72 : decode cX10_judge 72 = .ok (.iadd, 1) := by decide +kernel
theorem dX10_judge_73 : decode cX10_judge 73 = .ok (.ireturn, 1) := by decide +kernel
theorem dX10_judge_74 : decode cX10_judge 74 = .ok (.aload_n 0, 1) := by decide +kernel
theorem dX10_judge_75 : decode cX10_judge 75 = .ok (.getfield 238, 3) := by decide +kernel
theorem dX10_judge_78 : decode cX10_judge 78 = .ok (.bipush 60, 2) := by decide +kernel
theorem dX10_judge_80 : decode cX10_judge 80 = .ok (.iload_n 1, 1) := by decide +kernel
theorem dX10_judge_81 : decode cX10_judge 81 = .ok (.imul, 1) := by decide +kernel
theorem dX10_judge_82 : decode cX10_judge 82 = .ok (.iload_n 2, 1) := by decide +kernel
theorem dX10_judge_83 : decode cX10_judge 83 = .ok (.iadd, 1) := by decide +kernel
theorem dX10_judge_84 : decode cX10_judge 84 = .ok (.iload_n 3, 1) := by decide +kernel
theorem dX10_judge_85 : decode cX10_judge 85 = .ok (.iadd, 1) := by decide +kernel
theorem dX10_judge_86 : decode cX10_judge 86 = .ok (.laload, 1) := by decide +kernel
theorem dX10_judge_87 : decode cX10_judge 87 = .ok (.aload_n 0, 1) := by decide +kernel
theorem dX10_judge_88 : decode cX10_judge 88 = .ok (.getfield 32, 3) := by decide +kernel
theorem dX10_judge_91 : decode cX10_judge 91 = .ok (.iload_n 3, 1) := by decide +kernel
theorem dX10_judge_92 : decode cX10_judge 92 = .ok (.iaload, 1) := by decide +kernel
theorem dX10_judge_93 : decode cX10_judge 93 = .ok (.i2l, 1) := by decide +kernel
theorem dX10_judge_94 : decode cX10_judge 94 = .ok (.lcmp, 1) := by decide +kernel
theorem dX10_judge_95 : decode cX10_judge 95 = .ok (.ifCond .eq 5, 3) := by decide +kernel
theorem dX10_judge_98 : decode cX10_judge 98 = .ok (.iload_n 3, 1) := by decide +kernel
theorem dX10_judge_99 : decode cX10_judge 99 = .ok (.ireturn, 1) := by decide +kernel
theorem dX10_judge_100 : decode cX10_judge 100 = .ok (.iinc 3 1, 3) := by decide +kernel
theorem dX10_judge_103 : decode cX10_judge 103 = .ok (.goto (-69), 3) := by decide +kernel
theorem dX10_judge_106 : decode cX10_judge 106 = .ok (.bipush (-5), 2) := by decide +kernel
theorem dX10_judge_108 : decode cX10_judge 108 = .ok (.ireturn, 1) := by decide +kernel
def f_X10_judge_L34 (X : x_X) : Nat → Nat → Int32 → Int32 → Int32 → x_M → Option (Int32 × x_M)
  | 0, _, _, _, _, _ => none
  | n + 1, v11, v12, v13, v14, μ15 =>
    (ck (x_kd X v11 = 10 + 1) (if (μ15.1 v11 0) ≤ v14 then (some ((-5 : Int32), μ15)) else (ck (x_kd X v11 = 10 + 1) (lt (μ15.2.1 v11 73) (fun (v16 : Nat) => (ck ((x_kd X v16 = 20 ∨ x_kd X v16 = 40) ∧ x_ix v12 (x_ln X v16)) (if (μ15.1 v16 (v12).toNatClampNeg) < 0 then (some (((100 : Int32) + v14), μ15)) else (if v13 < 0 then (some (((100 : Int32) + v14), μ15)) else (ck (x_kd X v11 = 10 + 1) (lt (μ15.2.1 v11 74) (fun (v17 : Nat) => (ck ((x_kd X v17 = 20 ∨ x_kd X v17 = 40) ∧ x_ix v12 (x_ln X v17)) (if v13 ≤ (((μ15.1 v17 (v12).toNatClampNeg) - v14) - (1 : Int32)) then (ck (x_kd X v11 = 10 + 1) (lt (μ15.2.1 v11 75) (fun (v18 : Nat) => (lt ((((60 : Int32) * v12) + v13) + v14) (fun (v19 : Int32) => (ck (x_kd X v18 = 21 ∧ x_ix v19 (x_ln X v18)) (ck (x_kd X v11 = 10 + 1) (lt (μ15.2.1 v11 7) (fun (v20 : Nat) => (ck ((x_kd X v20 = 20 ∨ x_kd X v20 = 40) ∧ x_ix v14 (x_ln X v20)) (if (lg_cmp (μ15.2.2 v18 (v19).toNatClampNeg) (((μ15.1 v20 (v14).toNatClampNeg)).toInt64)) = 0 then (f_X10_judge_L34 X n v11 v12 v13 (v14 + (1 : Int32)) μ15) else (some (v14, μ15))))))))))))) else (some (((100 : Int32) + v14), μ15)))))))))))))))
set_option maxRecDepth 100000 in
theorem j_X10_judge_L34 (hI : x_I X) (hC : x_C X x_Z0 p (x_rm 3) s m c cX10_judge RX10 4 0 0 3) (hr : meth.sig.returnType = (some .int)) (hlk : meth.locks = false) : ∀ (n : Nat) (v11 : Nat) (v12 : Int32) (v13 : Int32) (v14 : Int32) (μ15 : x_M), SM X 4 3 rkI p l e s m args below meth c 34 [(0, vR v11), (1, vI v12), (2, vI v13), (3, vI v14)] [] μ15 (f_X10_judge_L34 X n v11 v12 v13 v14 μ15) := by
  intro n
  induction n with
  | zero => intro v11 v12 v13 v14 μ15; exact s_none
  | succ n ih =>
    intro v11 v12 v13 v14 μ15
    unfold f_X10_judge_L34
    refine s_iload_n hC 3 dX10_judge_34 rfl ?_
    refine s_aload_n hC 0 dX10_judge_35 rfl ?_
    refine s_getI hC xc10 (by decide) rfl qf_X10_7 dX10_judge_36 ?_
    refine s_icmp_ge hC dX10_judge_39 (tgt := 106) (by decide) ?_ ?_
    · refine s_bipush hC dX10_judge_106 (v := -5) (by decide) ?_
      exact s_iret hC hr hlk dX10_judge_108
    refine s_aload_n hC 0 dX10_judge_42 rfl ?_
    refine s_getR hC xc10 (by decide) rfl qf_X10_232 dX10_judge_43 ?_
    refine s_ltR (fun v16 => ?_)
    refine s_iload_n hC 1 dX10_judge_46 rfl ?_
    refine s_iald hC dX10_judge_47 ?_
    refine s_if_lt hC dX10_judge_48 (tgt := 69) (by decide) ?_ ?_
    · refine s_bipush hC dX10_judge_69 (v := 100) (by decide) ?_
      refine s_iload_n hC 3 dX10_judge_71 rfl ?_
      refine s_iadd hC dX10_judge_72 ?_
      exact s_iret hC hr hlk dX10_judge_73
    refine s_iload_n hC 2 dX10_judge_51 rfl ?_
    refine s_if_lt hC dX10_judge_52 (tgt := 69) (by decide) ?_ ?_
    · refine s_bipush hC dX10_judge_69 (v := 100) (by decide) ?_
      refine s_iload_n hC 3 dX10_judge_71 rfl ?_
      refine s_iadd hC dX10_judge_72 ?_
      exact s_iret hC hr hlk dX10_judge_73
    refine s_iload_n hC 2 dX10_judge_55 rfl ?_
    refine s_aload_n hC 0 dX10_judge_56 rfl ?_
    refine s_getR hC xc10 (by decide) rfl qf_X10_235 dX10_judge_57 ?_
    refine s_ltR (fun v17 => ?_)
    refine s_iload_n hC 1 dX10_judge_60 rfl ?_
    refine s_iald hC dX10_judge_61 ?_
    refine s_iload_n hC 3 dX10_judge_62 rfl ?_
    refine s_isub hC dX10_judge_63 ?_
    refine s_iconst hC dX10_judge_64 (v := 1) (by decide) ?_
    refine s_isub hC dX10_judge_65 ?_
    refine s_icmp_le hC dX10_judge_66 (tgt := 74) (by decide) ?_ ?_
    · refine s_aload_n hC 0 dX10_judge_74 rfl ?_
      refine s_getR hC xc10 (by decide) rfl qf_X10_238 dX10_judge_75 ?_
      refine s_ltR (fun v18 => ?_)
      refine s_bipush hC dX10_judge_78 (v := 60) (by decide) ?_
      refine s_iload_n hC 1 dX10_judge_80 rfl ?_
      refine s_imul hC dX10_judge_81 ?_
      refine s_iload_n hC 2 dX10_judge_82 rfl ?_
      refine s_iadd hC dX10_judge_83 ?_
      refine s_iload_n hC 3 dX10_judge_84 rfl ?_
      refine s_iadd hC dX10_judge_85 ?_
      refine s_ltI (fun v19 => ?_)
      refine s_lald hC dX10_judge_86 ?_
      refine s_aload_n hC 0 dX10_judge_87 rfl ?_
      refine s_getR hC xc10 (by decide) rfl qf_X10_32 dX10_judge_88 ?_
      refine s_ltR (fun v20 => ?_)
      refine s_iload_n hC 3 dX10_judge_91 rfl ?_
      refine s_iald hC dX10_judge_92 ?_
      refine s_i2l hC dX10_judge_93 ?_
      refine s_lcmp hC dX10_judge_94 ?_
      refine s_if_eq hC dX10_judge_95 (tgt := 100) (by decide) ?_ ?_
      · refine s_iinc hC 3 dX10_judge_100 rfl (w := 1) (by decide) (by decide) (lv' := [(3, vI (v14 + (1 : Int32))), (0, vR v11), (1, vI v12), (2, vI v13)]) rfl ?_
        refine s_goto hC dX10_judge_103 (tgt := 34) (by decide) ?_
        refine s_lv (lv' := [(0, vR v11), (1, vI v12), (2, vI v13), (3, vI (v14 + (1 : Int32)))]) [1, 2, 3, 0] rfl ?_
        exact ih _ _ _ _ _
      refine s_iload_n hC 3 dX10_judge_98 rfl ?_
      exact s_iret hC hr hlk dX10_judge_99
    refine s_bipush hC dX10_judge_69 (v := 100) (by decide) ?_
    refine s_iload_n hC 3 dX10_judge_71 rfl ?_
    refine s_iadd hC dX10_judge_72 ?_
    exact s_iret hC hr hlk dX10_judge_73
def f_X10_judge_J32 (X : x_X) (v7 : Nat) (v8 : Int32) (v9 : Int32) (μ10 : x_M) : Option (Int32 × x_M) :=
  (f_X10_judge_L34 X 4096 v7 v8 v9 (0 : Int32) μ10)
set_option maxRecDepth 100000 in
theorem j_X10_judge_J32 (hI : x_I X) (hC : x_C X x_Z0 p (x_rm 3) s m c cX10_judge RX10 4 0 0 3) (hr : meth.sig.returnType = (some .int)) (hlk : meth.locks = false) (v7 : Nat) (v8 : Int32) (v9 : Int32) (μ10 : x_M) : SM X 4 3 rkI p l e s m args below meth c 32 [(0, vR v7), (1, vI v8), (2, vI v9)] [] μ10 (f_X10_judge_J32 X v7 v8 v9 μ10) := by
  unfold f_X10_judge_J32
  refine s_iconst hC dX10_judge_32 (v := 0) (by decide) ?_
  refine s_istore_n hC dX10_judge_33 (by decide) (lv' := [(3, vI (0 : Int32)), (0, vR v7), (1, vI v8), (2, vI v9)]) rfl ?_
  refine s_lv (lv' := [(0, vR v7), (1, vI v8), (2, vI v9), (3, vI (0 : Int32))]) [1, 2, 3, 0] rfl ?_
  refine j_X10_judge_L34 hI hC hr hlk 4096 _ _ _ _ _
def f_X10_judge (X : x_X) (v0 : Nat) (v1 : Int32) (v2 : Int32) (μ : x_M) : Option (Int32 × x_M) :=
  (ck (x_kd X v0 = 10 + 1) (bd (f_X10_isTape X v0 v1 μ) (fun (v4 : Int32) (μ5 : x_M) => (if v4 = 0 then (some ((-1 : Int32), μ5)) else (ck (x_kd X v0 = 10 + 1) (lt (μ5.2.1 v0 73) (fun (v6 : Nat) => (ck ((x_kd X v6 = 20 ∨ x_kd X v6 = 40) ∧ x_ix v1 (x_ln X v6)) (if (μ5.1 v6 (v1).toNatClampNeg) < 0 then (f_X10_judge_J32 X v0 v1 v2 μ5) else (ck (x_kd X v0 = 10 + 1) (lt (μ5.2.1 v0 73) (fun (v21 : Nat) => (ck ((x_kd X v21 = 20 ∨ x_kd X v21 = 40) ∧ x_ix v1 (x_ln X v21)) (if (μ5.1 v21 (v1).toNatClampNeg) = (2 : Int32) then (f_X10_judge_J32 X v0 v1 v2 μ5) else (some ((-12 : Int32), μ5))))))))))))))))
set_option maxRecDepth 100000 in
theorem m_X10_judge (hI : x_I X) (v0 : Nat) (v1 : Int32) (v2 : Int32) (μ : x_M) : x_Met X x_Z0 l yX10_judge cX10_judge 4 (some .int) 3 [vR v0, vI v1, vI v2] μ rkI (f_X10_judge X v0 v1 v2 μ) := by
  refine x_enter hI (by decide +kernel) (Nat.le_of_ble_eq_true rfl) (fun p e s m args below meth c hC hr hlk => ?_)
  unfold f_X10_judge
  refine s_lv (lv' := [(0, vR v0), (1, vI v1), (2, vI v2)]) [0, 1, 2] rfl ?_
  refine s_aload_n hC 0 dX10_judge_0 rfl ?_
  refine s_iload_n hC 1 dX10_judge_1 rfl ?_
  refine s_callV hC (x := v0) (avs := [vI v1]) (st := []) (nest := false) xc10 (m_X10_isTape hI v0 v1 μ) dX10_judge_2 qm_X10_398 qi_X10_isTape qs_X10_isTape qc_X10 qd_X10_isTape qh_X10_isTape (by decide) (fun _ => Nat.le_of_ble_eq_true rfl) (Nat.le_of_ble_eq_true rfl) (fun v4 μ5 => ?_)
  refine s_if_ne hC dX10_judge_5 (tgt := 10) (by decide) ?_ ?_
  · refine s_aload_n hC 0 dX10_judge_10 rfl ?_
    refine s_getR hC xc10 (by decide) rfl qf_X10_232 dX10_judge_11 ?_
    refine s_ltR (fun v6 => ?_)
    refine s_iload_n hC 1 dX10_judge_14 rfl ?_
    refine s_iald hC dX10_judge_15 ?_
    refine s_if_lt hC dX10_judge_16 (tgt := 32) (by decide) ?_ ?_
    · exact j_X10_judge_J32 hI hC hr hlk _ _ _ _
    refine s_aload_n hC 0 dX10_judge_19 rfl ?_
    refine s_getR hC xc10 (by decide) rfl qf_X10_232 dX10_judge_20 ?_
    refine s_ltR (fun v21 => ?_)
    refine s_iload_n hC 1 dX10_judge_23 rfl ?_
    refine s_iald hC dX10_judge_24 ?_
    refine s_iconst hC dX10_judge_25 (v := 2) (by decide) ?_
    refine s_icmp_eq hC dX10_judge_26 (tgt := 32) (by decide) ?_ ?_
    · exact j_X10_judge_J32 hI hC hr hlk _ _ _ _
    refine s_bipush hC dX10_judge_29 (v := -12) (by decide) ?_
    exact s_iret hC hr hlk dX10_judge_31
  refine s_iconst hC dX10_judge_8 (v := -1) (by decide) ?_
  exact s_iret hC hr hlk dX10_judge_9
theorem dX10_keepsAct_0 : decode cX10_keepsAct 0 = .ok (.aload_n 0, 1) := by decide +kernel
theorem dX10_keepsAct_1 : decode cX10_keepsAct 1 = .ok (.getfield 26, 3) := by decide +kernel
theorem dX10_keepsAct_4 : decode cX10_keepsAct 4 = .ok (.iload_n 1, 1) := by decide +kernel
theorem dX10_keepsAct_5 : decode cX10_keepsAct 5 = .ok (.iaload, 1) := by decide +kernel
theorem dX10_keepsAct_6 : decode cX10_keepsAct 6 = .ok (.tableswitch 83 2 6 #[34, 83, 49, 34, 63], 34) := by decide +kernel
theorem dX10_keepsAct_40 : decode cX10_keepsAct 40 = .ok (.aload_n 0, 1) := by decide +kernel
theorem dX10_keepsAct_41 : decode cX10_keepsAct 41 = .ok (.bipush 30, 2) := by decide +kernel
theorem dX10_keepsAct_43 : decode cX10_keepsAct 43 = .ok (.invokevirtual 401, 3) := by decide +kernel
theorem dX10_keepsAct_46 : decode cX10_keepsAct 46 = .ok (.aload_n 0, 1) := by decide +kernel
theorem dX10_keepsAct_47 : decode cX10_keepsAct 47 = .ok (.iload_n 1, 1) := by decide +kernel
theorem dX10_keepsAct_48 : decode cX10_keepsAct 48 = .ok (.iload_n 2, 1) := by decide +kernel
theorem dX10_keepsAct_49 : decode cX10_keepsAct 49 = .ok (.iconst 3, 1) := by decide +kernel
theorem dX10_keepsAct_50 : decode cX10_keepsAct 50 = .ok (.imul, 1) := by decide +kernel
theorem dX10_keepsAct_51 : decode cX10_keepsAct 51 = .ok (.invokevirtual 404, 3) := by decide +kernel
theorem dX10_keepsAct_54 : decode cX10_keepsAct 54 = .ok (.ireturn, 1) := by decide +kernel
theorem dX10_keepsAct_55 : decode cX10_keepsAct 55 = .ok (.aload_n 0, 1) := by decide +kernel
theorem dX10_keepsAct_56 : decode cX10_keepsAct 56 = .ok (.bipush 50, 2) := by decide +kernel
theorem dX10_keepsAct_58 : decode cX10_keepsAct 58 = .ok (.invokevirtual 401, 3) := by decide +kernel
theorem dX10_keepsAct_61 : decode cX10_keepsAct 61 = .ok (.aload_n 0, 1) := by decide +kernel
theorem dX10_keepsAct_62 : decode cX10_keepsAct 62 = .ok (.iload_n 1, 1) := by decide +kernel
theorem dX10_keepsAct_63 : decode cX10_keepsAct 63 = .ok (.iload_n 2, 1) := by decide +kernel
theorem dX10_keepsAct_64 : decode cX10_keepsAct 64 = .ok (.invokevirtual 404, 3) := by decide +kernel
theorem dX10_keepsAct_67 : decode cX10_keepsAct 67 = .ok (.ineg, 1) := by decide +kernel
theorem dX10_keepsAct_68 : decode cX10_keepsAct 68 = .ok (.ireturn, 1) := by decide +kernel
theorem dX10_keepsAct_69 : decode cX10_keepsAct 69 = .ok (.aload_n 0, 1) := by decide +kernel
theorem dX10_keepsAct_70 : decode cX10_keepsAct 70 = .ok (.bipush 71, 2) := by decide +kernel
theorem dX10_keepsAct_72 : decode cX10_keepsAct 72 = .ok (.invokevirtual 401, 3) := by decide +kernel
theorem dX10_keepsAct_75 : decode cX10_keepsAct 75 = .ok (.aload_n 0, 1) := by decide +kernel
theorem dX10_keepsAct_76 : decode cX10_keepsAct 76 = .ok (.iload_n 1, 1) := by decide +kernel
theorem dX10_keepsAct_77 : decode cX10_keepsAct 77 = .ok (.iload_n 2, 1) := by decide +kernel
theorem dX10_keepsAct_78 : decode cX10_keepsAct 78 = .ok (.invokevirtual 404, 3) := by decide +kernel
theorem dX10_keepsAct_81 : decode cX10_keepsAct 81 = .ok (.aload_n 0, 1) := by decide +kernel
theorem dX10_keepsAct_82 : decode cX10_keepsAct 82 = .ok (.getfield 29, 3) := by decide +kernel
theorem dX10_keepsAct_85 : decode cX10_keepsAct 85 = .ok (.iload_n 1, 1) := by decide +kernel
theorem dX10_keepsAct_86 : decode cX10_keepsAct 86 = .ok (.iaload, 1) := by decide +kernel
theorem dX10_keepsAct_87 : decode cX10_keepsAct 87 = .ok (.ixor, 1) := by decide +kernel
theorem dX10_keepsAct_88 : decode cX10_keepsAct 88 = .ok (.ireturn, 1) := by decide +kernel
theorem dX10_keepsAct_89 : decode cX10_keepsAct 89 = .ok (.aload_n 0, 1) := by decide +kernel
theorem dX10_keepsAct_90 : decode cX10_keepsAct 90 = .ok (.iload_n 1, 1) := by decide +kernel
theorem dX10_keepsAct_91 : decode cX10_keepsAct 91 = .ok (.iload_n 2, 1) := by decide +kernel
theorem dX10_keepsAct_92 : decode cX10_keepsAct 92 = .ok (.invokevirtual 404, 3) := by decide +kernel
theorem dX10_keepsAct_95 : decode cX10_keepsAct 95 = .ok (.ireturn, 1) := by decide +kernel
def f_X10_keepsAct (X : x_X) (v0 : Nat) (v1 : Int32) (v2 : Int32) (μ : x_M) : Option (Int32 × x_M) :=
  (ck (x_kd X v0 = 10 + 1) (lt (μ.2.1 v0 5) (fun (v4 : Nat) => (ck ((x_kd X v4 = 20 ∨ x_kd X v4 = 40) ∧ x_ix v1 (x_ln X v4)) (lt (μ.1 v4 (v1).toNatClampNeg) (fun (v5 : Int32) => (x_swo [(2 : Int32), (3 : Int32), (4 : Int32), (5 : Int32), (6 : Int32)] [(ck (x_kd X v0 = 10 + 1) (bd (f_X10_body X v0 (30 : Int32) μ) (fun (_ : Unit) (μ6 : x_M) => (ck (x_kd X v0 = 10 + 1) (bd (f_X10_accountKeeps X v0 v1 (v2 * (3 : Int32)) μ6) (fun (v7 : Int32) (μ8 : x_M) => (some (v7, μ8)))))))), (ck (x_kd X v0 = 10 + 1) (bd (f_X10_accountKeeps X v0 v1 v2 μ) (fun (v9 : Int32) (μ10 : x_M) => (some (v9, μ10))))), (ck (x_kd X v0 = 10 + 1) (bd (f_X10_body X v0 (50 : Int32) μ) (fun (_ : Unit) (μ11 : x_M) => (ck (x_kd X v0 = 10 + 1) (bd (f_X10_accountKeeps X v0 v1 v2 μ11) (fun (v12 : Int32) (μ13 : x_M) => (some ((-v12), μ13)))))))), (ck (x_kd X v0 = 10 + 1) (bd (f_X10_body X v0 (30 : Int32) μ) (fun (_ : Unit) (μ14 : x_M) => (ck (x_kd X v0 = 10 + 1) (bd (f_X10_accountKeeps X v0 v1 (v2 * (3 : Int32)) μ14) (fun (v15 : Int32) (μ16 : x_M) => (some (v15, μ16)))))))), (ck (x_kd X v0 = 10 + 1) (bd (f_X10_body X v0 (71 : Int32) μ) (fun (_ : Unit) (μ17 : x_M) => (ck (x_kd X v0 = 10 + 1) (bd (f_X10_accountKeeps X v0 v1 v2 μ17) (fun (v18 : Int32) (μ19 : x_M) => (ck (x_kd X v0 = 10 + 1) (lt (μ19.2.1 v0 6) (fun (v20 : Nat) => (ck ((x_kd X v20 = 20 ∨ x_kd X v20 = 40) ∧ x_ix v1 (x_ln X v20)) (some ((v18 ^^^ (μ19.1 v20 (v1).toNatClampNeg)), μ19))))))))))))] (ck (x_kd X v0 = 10 + 1) (bd (f_X10_accountKeeps X v0 v1 v2 μ) (fun (v21 : Int32) (μ22 : x_M) => (some (v21, μ22))))) v5)))))))
set_option maxRecDepth 100000 in
theorem m_X10_keepsAct (hI : x_I X) (v0 : Nat) (v1 : Int32) (v2 : Int32) (μ : x_M) : x_Met X x_Z0 l yX10_keepsAct cX10_keepsAct 3 (some .int) 3 [vR v0, vI v1, vI v2] μ rkI (f_X10_keepsAct X v0 v1 v2 μ) := by
  refine x_enter hI (by decide +kernel) (Nat.le_of_ble_eq_true rfl) (fun p e s m args below meth c hC hr hlk => ?_)
  unfold f_X10_keepsAct
  refine s_lv (lv' := [(0, vR v0), (1, vI v1), (2, vI v2)]) [0, 1, 2] rfl ?_
  refine s_aload_n hC 0 dX10_keepsAct_0 rfl ?_
  refine s_getR hC xc10 (by decide) rfl qf_X10_26 dX10_keepsAct_1 ?_
  refine s_ltR (fun v4 => ?_)
  refine s_iload_n hC 1 dX10_keepsAct_4 rfl ?_
  refine s_iald hC dX10_keepsAct_5 ?_
  refine s_ltI (fun v5 => ?_)
  refine s_table hC dX10_keepsAct_6 [((2 : Int32), 40), ((3 : Int32), 89), ((4 : Int32), 55), ((5 : Int32), 40), ((6 : Int32), 69)] 89 (by decide +kernel) ⟨?_, ?_, ?_, ?_, ?_, trivial⟩ ?_
  · refine s_aload_n hC 0 dX10_keepsAct_40 rfl ?_
    refine s_bipush hC dX10_keepsAct_41 (v := 30) (by decide) ?_
    refine s_callV hC (x := v0) (avs := [vI (30 : Int32)]) (st := []) (nest := false) xc10 (m_X10_body hI v0 (30 : Int32) μ) dX10_keepsAct_43 qm_X10_401 qi_X10_body qs_X10_body qc_X10 qd_X10_body qh_X10_body (by decide) (fun _ => Nat.le_of_ble_eq_true rfl) (Nat.le_of_ble_eq_true rfl) (fun _ μ6 => ?_)
    refine s_aload_n hC 0 dX10_keepsAct_46 rfl ?_
    refine s_iload_n hC 1 dX10_keepsAct_47 rfl ?_
    refine s_iload_n hC 2 dX10_keepsAct_48 rfl ?_
    refine s_iconst hC dX10_keepsAct_49 (v := 3) (by decide) ?_
    refine s_imul hC dX10_keepsAct_50 ?_
    refine s_callV hC (x := v0) (avs := [vI v1, vI (v2 * (3 : Int32))]) (st := []) (nest := false) xc10 (m_X10_accountKeeps hI v0 v1 (v2 * (3 : Int32)) μ6) dX10_keepsAct_51 qm_X10_404 qi_X10_accountKeeps qs_X10_accountKeeps qc_X10 qd_X10_accountKeeps qh_X10_accountKeeps (by decide) (fun _ => Nat.le_of_ble_eq_true rfl) (Nat.le_of_ble_eq_true rfl) (fun v7 μ8 => ?_)
    exact s_iret hC hr hlk dX10_keepsAct_54
  · refine s_aload_n hC 0 dX10_keepsAct_89 rfl ?_
    refine s_iload_n hC 1 dX10_keepsAct_90 rfl ?_
    refine s_iload_n hC 2 dX10_keepsAct_91 rfl ?_
    refine s_callV hC (x := v0) (avs := [vI v1, vI v2]) (st := []) (nest := false) xc10 (m_X10_accountKeeps hI v0 v1 v2 μ) dX10_keepsAct_92 qm_X10_404 qi_X10_accountKeeps qs_X10_accountKeeps qc_X10 qd_X10_accountKeeps qh_X10_accountKeeps (by decide) (fun _ => Nat.le_of_ble_eq_true rfl) (Nat.le_of_ble_eq_true rfl) (fun v9 μ10 => ?_)
    exact s_iret hC hr hlk dX10_keepsAct_95
  · refine s_aload_n hC 0 dX10_keepsAct_55 rfl ?_
    refine s_bipush hC dX10_keepsAct_56 (v := 50) (by decide) ?_
    refine s_callV hC (x := v0) (avs := [vI (50 : Int32)]) (st := []) (nest := false) xc10 (m_X10_body hI v0 (50 : Int32) μ) dX10_keepsAct_58 qm_X10_401 qi_X10_body qs_X10_body qc_X10 qd_X10_body qh_X10_body (by decide) (fun _ => Nat.le_of_ble_eq_true rfl) (Nat.le_of_ble_eq_true rfl) (fun _ μ11 => ?_)
    refine s_aload_n hC 0 dX10_keepsAct_61 rfl ?_
    refine s_iload_n hC 1 dX10_keepsAct_62 rfl ?_
    refine s_iload_n hC 2 dX10_keepsAct_63 rfl ?_
    refine s_callV hC (x := v0) (avs := [vI v1, vI v2]) (st := []) (nest := false) xc10 (m_X10_accountKeeps hI v0 v1 v2 μ11) dX10_keepsAct_64 qm_X10_404 qi_X10_accountKeeps qs_X10_accountKeeps qc_X10 qd_X10_accountKeeps qh_X10_accountKeeps (by decide) (fun _ => Nat.le_of_ble_eq_true rfl) (Nat.le_of_ble_eq_true rfl) (fun v12 μ13 => ?_)
    refine s_ineg hC dX10_keepsAct_67 ?_
    exact s_iret hC hr hlk dX10_keepsAct_68
  · refine s_aload_n hC 0 dX10_keepsAct_40 rfl ?_
    refine s_bipush hC dX10_keepsAct_41 (v := 30) (by decide) ?_
    refine s_callV hC (x := v0) (avs := [vI (30 : Int32)]) (st := []) (nest := false) xc10 (m_X10_body hI v0 (30 : Int32) μ) dX10_keepsAct_43 qm_X10_401 qi_X10_body qs_X10_body qc_X10 qd_X10_body qh_X10_body (by decide) (fun _ => Nat.le_of_ble_eq_true rfl) (Nat.le_of_ble_eq_true rfl) (fun _ μ14 => ?_)
    refine s_aload_n hC 0 dX10_keepsAct_46 rfl ?_
    refine s_iload_n hC 1 dX10_keepsAct_47 rfl ?_
    refine s_iload_n hC 2 dX10_keepsAct_48 rfl ?_
    refine s_iconst hC dX10_keepsAct_49 (v := 3) (by decide) ?_
    refine s_imul hC dX10_keepsAct_50 ?_
    refine s_callV hC (x := v0) (avs := [vI v1, vI (v2 * (3 : Int32))]) (st := []) (nest := false) xc10 (m_X10_accountKeeps hI v0 v1 (v2 * (3 : Int32)) μ14) dX10_keepsAct_51 qm_X10_404 qi_X10_accountKeeps qs_X10_accountKeeps qc_X10 qd_X10_accountKeeps qh_X10_accountKeeps (by decide) (fun _ => Nat.le_of_ble_eq_true rfl) (Nat.le_of_ble_eq_true rfl) (fun v15 μ16 => ?_)
    exact s_iret hC hr hlk dX10_keepsAct_54
  · refine s_aload_n hC 0 dX10_keepsAct_69 rfl ?_
    refine s_bipush hC dX10_keepsAct_70 (v := 71) (by decide) ?_
    refine s_callV hC (x := v0) (avs := [vI (71 : Int32)]) (st := []) (nest := false) xc10 (m_X10_body hI v0 (71 : Int32) μ) dX10_keepsAct_72 qm_X10_401 qi_X10_body qs_X10_body qc_X10 qd_X10_body qh_X10_body (by decide) (fun _ => Nat.le_of_ble_eq_true rfl) (Nat.le_of_ble_eq_true rfl) (fun _ μ17 => ?_)
    refine s_aload_n hC 0 dX10_keepsAct_75 rfl ?_
    refine s_iload_n hC 1 dX10_keepsAct_76 rfl ?_
    refine s_iload_n hC 2 dX10_keepsAct_77 rfl ?_
    refine s_callV hC (x := v0) (avs := [vI v1, vI v2]) (st := []) (nest := false) xc10 (m_X10_accountKeeps hI v0 v1 v2 μ17) dX10_keepsAct_78 qm_X10_404 qi_X10_accountKeeps qs_X10_accountKeeps qc_X10 qd_X10_accountKeeps qh_X10_accountKeeps (by decide) (fun _ => Nat.le_of_ble_eq_true rfl) (Nat.le_of_ble_eq_true rfl) (fun v18 μ19 => ?_)
    refine s_aload_n hC 0 dX10_keepsAct_81 rfl ?_
    refine s_getR hC xc10 (by decide) rfl qf_X10_29 dX10_keepsAct_82 ?_
    refine s_ltR (fun v20 => ?_)
    refine s_iload_n hC 1 dX10_keepsAct_85 rfl ?_
    refine s_iald hC dX10_keepsAct_86 ?_
    refine s_ixor hC dX10_keepsAct_87 ?_
    exact s_iret hC hr hlk dX10_keepsAct_88
  refine s_aload_n hC 0 dX10_keepsAct_89 rfl ?_
  refine s_iload_n hC 1 dX10_keepsAct_90 rfl ?_
  refine s_iload_n hC 2 dX10_keepsAct_91 rfl ?_
  refine s_callV hC (x := v0) (avs := [vI v1, vI v2]) (st := []) (nest := false) xc10 (m_X10_accountKeeps hI v0 v1 v2 μ) dX10_keepsAct_92 qm_X10_404 qi_X10_accountKeeps qs_X10_accountKeeps qc_X10 qd_X10_accountKeeps qh_X10_accountKeeps (by decide) (fun _ => Nat.le_of_ble_eq_true rfl) (Nat.le_of_ble_eq_true rfl) (fun v21 μ22 => ?_)
  exact s_iret hC hr hlk dX10_keepsAct_95
theorem dX10_taken_0 : decode cX10_taken 0 = .ok (.aload_n 0, 1) := by decide +kernel
theorem dX10_taken_1 : decode cX10_taken 1 = .ok (.iload_n 2, 1) := by decide +kernel
theorem dX10_taken_2 : decode cX10_taken 2 = .ok (.iconst 0, 1) := by decide +kernel
theorem dX10_taken_3 : decode cX10_taken 3 = .ok (.bipush 6, 2) := by decide +kernel
theorem dX10_taken_5 : decode cX10_taken 5 = .ok (.invokevirtual 245, 3) := by decide +kernel
theorem dX10_taken_8 : decode cX10_taken 8 = .ok (.ifCond .ne 6, 3) := by decide +kernel
theorem dX10_taken_11 : decode cX10_taken 11 = .ok (.bipush (-2), 2) := by decide +kernel
theorem dX10_taken_13 : decode cX10_taken 13 = .ok (.ireturn, 1) := by decide +kernel
theorem dX10_taken_14 : decode cX10_taken 14 = .ok (.aload_n 0, 1) := by decide +kernel
theorem dX10_taken_15 : decode cX10_taken 15 = .ok (.iload_n 1, 1) := by decide +kernel
theorem dX10_taken_16 : decode cX10_taken 16 = .ok (.invokevirtual 257, 3) := by decide +kernel
theorem dX10_taken_19 : decode cX10_taken 19 = .ok (.ifCond .ne 6, 3) := by decide +kernel
theorem dX10_taken_22 : decode cX10_taken 22 = .ok (.bipush (-11), 2) := by decide +kernel
theorem dX10_taken_24 : decode cX10_taken 24 = .ok (.ireturn, 1) := by decide +kernel
theorem dX10_taken_25 : decode cX10_taken 25 = .ok (.aload_n 0, 1) := by decide +kernel
theorem dX10_taken_26 : decode cX10_taken 26 = .ok (.getfield 26, 3) := by decide +kernel
theorem dX10_taken_29 : decode cX10_taken 29 = .ok (.iload_n 1, 1) := by decide +kernel
theorem dX10_taken_30 : decode cX10_taken 30 = .ok (.iaload, 1) := by decide +kernel
theorem dX10_taken_31 : decode cX10_taken 31 = .ok (.istore_n 3, 1) := by decide +kernel
theorem dX10_taken_32 : decode cX10_taken 32 = .ok (.iload_n 2, 1) := by decide +kernel
theorem dX10_taken_33 : decode cX10_taken 33 = .ok (.ifCond .eq 39, 3) := by decide +kernel
theorem dX10_taken_36 : decode cX10_taken 36 = .ok (.iload_n 3, 1) := by decide +kernel
theorem dX10_taken_37 : decode cX10_taken 37 = .ok (.iload_n 2, 1) := by decide +kernel
theorem dX10_taken_38 : decode cX10_taken 38 = .ok (.if_icmp .eq 34, 3) := by decide +kernel
theorem dX10_taken_41 : decode cX10_taken 41 = .ok (.iload_n 2, 1) := by decide +kernel
theorem dX10_taken_42 : decode cX10_taken 42 = .ok (.iconst 1, 1) := by decide +kernel
theorem dX10_taken_43 : decode cX10_taken 43 = .ok (.if_icmp .ne 8, 3) := by decide +kernel
theorem dX10_taken_46 : decode cX10_taken 46 = .ok (.iload_n 3, 1) := by decide +kernel
theorem dX10_taken_47 : decode cX10_taken 47 = .ok (.iconst 4, 1) := by decide +kernel
theorem dX10_taken_48 : decode cX10_taken 48 = .ok (.if_icmp .eq 24, 3) := by decide +kernel
theorem dX10_taken_51 : decode cX10_taken 51 = .ok (.iload_n 2, 1) := by decide +kernel
theorem dX10_taken_52 : decode cX10_taken 52 = .ok (.iconst 2, 1) := by decide +kernel
theorem dX10_taken_53 : decode cX10_taken 53 = .ok (.if_icmp .ne 8, 3) := by decide +kernel
theorem dX10_taken_56 : decode cX10_taken 56 = .ok (.iload_n 3, 1) := by decide +kernel
theorem dX10_taken_57 : decode cX10_taken 57 = .ok (.iconst 5, 1) := by decide +kernel
theorem dX10_taken_58 : decode cX10_taken 58 = .ok (.if_icmp .eq 14, 3) := by decide +kernel
theorem dX10_taken_61 : decode cX10_taken 61 = .ok (.iload_n 2, 1) := by decide +kernel
theorem dX10_taken_62 : decode cX10_taken 62 = .ok (.iconst 3, 1) := by decide +kernel
theorem dX10_taken_63 : decode cX10_taken 63 = .ok (.if_icmp .ne 13, 3) := by decide +kernel
theorem dX10_taken_66 : decode cX10_taken 66 = .ok (.iload_n 3, 1) := by decide +kernel
theorem dX10_taken_67 : decode cX10_taken 67 = .ok (.bipush 6, 2) := by decide +kernel
theorem dX10_taken_69 : decode cX10_taken 69 = .ok (.if_icmp .ne 7, 3) := by decide +kernel
theorem dX10_taken_72 : decode cX10_taken 72 = .ok (.iload_n 3, 1) := by decide +kernel
theorem dX10_taken_73 : decode cX10_taken 73 = .ok (.goto 5, 3) := by decide +kernel
theorem dX10_taken_76 : decode cX10_taken 76 = .ok (.bipush (-12), 2) := by decide +kernel
theorem dX10_taken_78 : decode cX10_taken 78 = .ok (.ireturn, 1) := by decide +kernel
def f_X10_taken_J51 (X : x_X) (v10 : Int32) (v11 : Int32) (μ12 : x_M) : Option (Int32 × x_M) :=
  (if v10 = (2 : Int32) then (if v11 = (5 : Int32) then (some (v11, μ12)) else (if v10 = (3 : Int32) then (if v11 = (6 : Int32) then (some (v11, μ12)) else (some ((-12 : Int32), μ12))) else (some ((-12 : Int32), μ12)))) else (if v10 = (3 : Int32) then (if v11 = (6 : Int32) then (some (v11, μ12)) else (some ((-12 : Int32), μ12))) else (some ((-12 : Int32), μ12))))
set_option maxRecDepth 100000 in
theorem j_X10_taken_J51 (hI : x_I X) (hC : x_C X x_Z0 p (x_rm 3) s m c cX10_taken RX10 4 0 0 3) (hr : meth.sig.returnType = (some .int)) (hlk : meth.locks = false) (v10 : Int32) (v11 : Int32) (μ12 : x_M) : SM X 4 3 rkI p l e s m args below meth c 51 [(2, vI v10), (3, vI v11)] [] μ12 (f_X10_taken_J51 X v10 v11 μ12) := by
  unfold f_X10_taken_J51
  refine s_iload_n hC 0 dX10_taken_51 rfl ?_
  refine s_iconst hC dX10_taken_52 (v := 2) (by decide) ?_
  refine s_icmp_ne hC dX10_taken_53 (tgt := 61) (by decide) ?_ ?_
  · refine s_iload_n hC 0 dX10_taken_61 rfl ?_
    refine s_iconst hC dX10_taken_62 (v := 3) (by decide) ?_
    refine s_icmp_ne hC dX10_taken_63 (tgt := 76) (by decide) ?_ ?_
    · refine s_bipush hC dX10_taken_76 (v := -12) (by decide) ?_
      exact s_iret hC hr hlk dX10_taken_78
    refine s_iload_n hC 1 dX10_taken_66 rfl ?_
    refine s_bipush hC dX10_taken_67 (v := 6) (by decide) ?_
    refine s_icmp_ne hC dX10_taken_69 (tgt := 76) (by decide) ?_ ?_
    · refine s_bipush hC dX10_taken_76 (v := -12) (by decide) ?_
      exact s_iret hC hr hlk dX10_taken_78
    refine s_iload_n hC 1 dX10_taken_72 rfl ?_
    refine s_goto hC dX10_taken_73 (tgt := 78) (by decide) ?_
    exact s_iret hC hr hlk dX10_taken_78
  refine s_iload_n hC 1 dX10_taken_56 rfl ?_
  refine s_iconst hC dX10_taken_57 (v := 5) (by decide) ?_
  refine s_icmp_eq hC dX10_taken_58 (tgt := 72) (by decide) ?_ ?_
  · refine s_iload_n hC 1 dX10_taken_72 rfl ?_
    refine s_goto hC dX10_taken_73 (tgt := 78) (by decide) ?_
    exact s_iret hC hr hlk dX10_taken_78
  refine s_iload_n hC 0 dX10_taken_61 rfl ?_
  refine s_iconst hC dX10_taken_62 (v := 3) (by decide) ?_
  refine s_icmp_ne hC dX10_taken_63 (tgt := 76) (by decide) ?_ ?_
  · refine s_bipush hC dX10_taken_76 (v := -12) (by decide) ?_
    exact s_iret hC hr hlk dX10_taken_78
  refine s_iload_n hC 1 dX10_taken_66 rfl ?_
  refine s_bipush hC dX10_taken_67 (v := 6) (by decide) ?_
  refine s_icmp_ne hC dX10_taken_69 (tgt := 76) (by decide) ?_ ?_
  · refine s_bipush hC dX10_taken_76 (v := -12) (by decide) ?_
    exact s_iret hC hr hlk dX10_taken_78
  refine s_iload_n hC 1 dX10_taken_72 rfl ?_
  refine s_goto hC dX10_taken_73 (tgt := 78) (by decide) ?_
  exact s_iret hC hr hlk dX10_taken_78
def f_X10_taken (X : x_X) (v0 : Nat) (v1 : Int32) (v2 : Int32) (μ : x_M) : Option (Int32 × x_M) :=
  (ck (x_kd X v0 = 10 + 1) (bd (f_X10_in X v0 v2 (0 : Int32) (6 : Int32) μ) (fun (v4 : Int32) (μ5 : x_M) => (if v4 = 0 then (some ((-2 : Int32), μ5)) else (ck (x_kd X v0 = 10 + 1) (bd (f_X10_isAccount X v0 v1 μ5) (fun (v6 : Int32) (μ7 : x_M) => (if v6 = 0 then (some ((-11 : Int32), μ7)) else (ck (x_kd X v0 = 10 + 1) (lt (μ7.2.1 v0 5) (fun (v8 : Nat) => (ck ((x_kd X v8 = 20 ∨ x_kd X v8 = 40) ∧ x_ix v1 (x_ln X v8)) (lt (μ7.1 v8 (v1).toNatClampNeg) (fun (v9 : Int32) => (if v2 = 0 then (some (v9, μ7)) else (if v9 = v2 then (some (v9, μ7)) else (if v2 = (1 : Int32) then (if v9 = (4 : Int32) then (some (v9, μ7)) else (f_X10_taken_J51 X v2 v9 μ7)) else (f_X10_taken_J51 X v2 v9 μ7))))))))))))))))))
set_option maxRecDepth 100000 in
theorem m_X10_taken (hI : x_I X) (v0 : Nat) (v1 : Int32) (v2 : Int32) (μ : x_M) : x_Met X x_Z0 l yX10_taken cX10_taken 4 (some .int) 3 [vR v0, vI v1, vI v2] μ rkI (f_X10_taken X v0 v1 v2 μ) := by
  refine x_enter hI (by decide +kernel) (Nat.le_of_ble_eq_true rfl) (fun p e s m args below meth c hC hr hlk => ?_)
  unfold f_X10_taken
  refine s_lv (lv' := [(0, vR v0), (1, vI v1), (2, vI v2)]) [0, 1, 2] rfl ?_
  refine s_aload_n hC 0 dX10_taken_0 rfl ?_
  refine s_iload_n hC 2 dX10_taken_1 rfl ?_
  refine s_iconst hC dX10_taken_2 (v := 0) (by decide) ?_
  refine s_bipush hC dX10_taken_3 (v := 6) (by decide) ?_
  refine s_callV hC (x := v0) (avs := [vI v2, vI (0 : Int32), vI (6 : Int32)]) (st := []) (nest := false) xc10 (m_X10_in hI v0 v2 (0 : Int32) (6 : Int32) μ) dX10_taken_5 qm_X10_245 qi_X10_in qs_X10_in qc_X10 qd_X10_in qh_X10_in (by decide) (fun _ => Nat.le_of_ble_eq_true rfl) (Nat.le_of_ble_eq_true rfl) (fun v4 μ5 => ?_)
  refine s_if_ne hC dX10_taken_8 (tgt := 14) (by decide) ?_ ?_
  · refine s_aload_n hC 0 dX10_taken_14 rfl ?_
    refine s_iload_n hC 1 dX10_taken_15 rfl ?_
    refine s_callV hC (x := v0) (avs := [vI v1]) (st := []) (nest := false) xc10 (m_X10_isAccount hI v0 v1 μ5) dX10_taken_16 qm_X10_257 qi_X10_isAccount qs_X10_isAccount qc_X10 qd_X10_isAccount qh_X10_isAccount (by decide) (fun _ => Nat.le_of_ble_eq_true rfl) (Nat.le_of_ble_eq_true rfl) (fun v6 μ7 => ?_)
    refine s_if_ne hC dX10_taken_19 (tgt := 25) (by decide) ?_ ?_
    · refine s_aload_n hC 0 dX10_taken_25 rfl ?_
      refine s_getR hC xc10 (by decide) rfl qf_X10_26 dX10_taken_26 ?_
      refine s_ltR (fun v8 => ?_)
      refine s_iload_n hC 1 dX10_taken_29 rfl ?_
      refine s_iald hC dX10_taken_30 ?_
      refine s_ltI (fun v9 => ?_)
      refine s_istore_n hC dX10_taken_31 (by decide) (lv' := [(3, vI v9), (0, vR v0), (1, vI v1), (2, vI v2)]) rfl ?_
      refine s_iload_n hC 3 dX10_taken_32 rfl ?_
      refine s_if_eq hC dX10_taken_33 (tgt := 72) (by decide) ?_ ?_
      · refine s_iload_n hC 0 dX10_taken_72 rfl ?_
        refine s_goto hC dX10_taken_73 (tgt := 78) (by decide) ?_
        exact s_iret hC hr hlk dX10_taken_78
      refine s_iload_n hC 0 dX10_taken_36 rfl ?_
      refine s_iload_n hC 3 dX10_taken_37 rfl ?_
      refine s_icmp_eq hC dX10_taken_38 (tgt := 72) (by decide) ?_ ?_
      · refine s_iload_n hC 0 dX10_taken_72 rfl ?_
        refine s_goto hC dX10_taken_73 (tgt := 78) (by decide) ?_
        exact s_iret hC hr hlk dX10_taken_78
      refine s_iload_n hC 3 dX10_taken_41 rfl ?_
      refine s_iconst hC dX10_taken_42 (v := 1) (by decide) ?_
      refine s_icmp_ne hC dX10_taken_43 (tgt := 51) (by decide) ?_ ?_
      · refine s_lv (lv' := [(2, vI v2), (3, vI v9)]) [3, 0] rfl ?_
        exact j_X10_taken_J51 hI hC hr hlk _ _ _
      refine s_iload_n hC 0 dX10_taken_46 rfl ?_
      refine s_iconst hC dX10_taken_47 (v := 4) (by decide) ?_
      refine s_icmp_eq hC dX10_taken_48 (tgt := 72) (by decide) ?_ ?_
      · refine s_iload_n hC 0 dX10_taken_72 rfl ?_
        refine s_goto hC dX10_taken_73 (tgt := 78) (by decide) ?_
        exact s_iret hC hr hlk dX10_taken_78
      refine s_lv (lv' := [(2, vI v2), (3, vI v9)]) [3, 0] rfl ?_
      exact j_X10_taken_J51 hI hC hr hlk _ _ _
    refine s_bipush hC dX10_taken_22 (v := -11) (by decide) ?_
    exact s_iret hC hr hlk dX10_taken_24
  refine s_bipush hC dX10_taken_11 (v := -2) (by decide) ?_
  exact s_iret hC hr hlk dX10_taken_13
theorem dX10_tape_0 : decode cX10_tape 0 = .ok (.aload_n 0, 1) := by decide +kernel
theorem dX10_tape_1 : decode cX10_tape 1 = .ok (.iload_n 1, 1) := by decide +kernel
theorem dX10_tape_2 : decode cX10_tape 2 = .ok (.invokevirtual 398, 3) := by decide +kernel
theorem dX10_tape_5 : decode cX10_tape 5 = .ok (.ifCond .ne 5, 3) := by decide +kernel
theorem dX10_tape_8 : decode cX10_tape 8 = .ok (.iconst (-1), 1) := by decide +kernel
theorem dX10_tape_9 : decode cX10_tape 9 = .ok (.ireturn, 1) := by decide +kernel
theorem dX10_tape_10 : decode cX10_tape 10 = .ok (.aload_n 0, 1) := by decide +kernel
theorem dX10_tape_11 : decode cX10_tape 11 = .ok (.iload_n 2, 1) := by decide +kernel
theorem dX10_tape_12 : decode cX10_tape 12 = .ok (.iconst (-1), 1) := by decide +kernel
theorem dX10_tape_13 : decode cX10_tape 13 = .ok (.iconst 4, 1) := by decide +kernel
theorem dX10_tape_14 : decode cX10_tape 14 = .ok (.invokevirtual 245, 3) := by decide +kernel
theorem dX10_tape_17 : decode cX10_tape 17 = .ok (.ifCond .eq 13, 3) := by decide +kernel
theorem dX10_tape_20 : decode cX10_tape 20 = .ok (.iload_n 2, 1) := by decide +kernel
theorem dX10_tape_21 : decode cX10_tape 21 = .ok (.ifCond .lt 12, 3) := by decide +kernel
theorem dX10_tape_24 : decode cX10_tape 24 = .ok (.iload_n 3, 1) := by decide +kernel
theorem dX10_tape_25 : decode cX10_tape 25 = .ok (.bipush 60, 2) := by decide +kernel
theorem dX10_tape_27 : decode cX10_tape 27 = .ok (.if_icmp .le 6, 3) := by decide +kernel
theorem dX10_tape_30 : decode cX10_tape 30 = .ok (.bipush (-2), 2) := by decide +kernel
theorem dX10_tape_32 : decode cX10_tape 32 = .ok (.ireturn, 1) := by decide +kernel
theorem dX10_tape_33 : decode cX10_tape 33 = .ok (.iload_n 2, 1) := by decide +kernel
theorem dX10_tape_34 : decode cX10_tape 34 = .ok (.ifCond .lt 10, 3) := by decide +kernel
theorem dX10_tape_37 : decode cX10_tape 37 = .ok (.iload_n 3, 1) := by decide +kernel
theorem dX10_tape_38 : decode cX10_tape 38 = .ok (.ifCond .ge 6, 3) := by decide +kernel
theorem dX10_tape_41 : decode cX10_tape 41 = .ok (.bipush (-14), 2) := by decide +kernel
theorem dX10_tape_43 : decode cX10_tape 43 = .ok (.ireturn, 1) := by decide +kernel
theorem dX10_tape_44 : decode cX10_tape 44 = .ok (.aload_n 0, 1) := by decide +kernel
theorem dX10_tape_45 : decode cX10_tape 45 = .ok (.getfield 232, 3) := by decide +kernel
theorem dX10_tape_48 : decode cX10_tape 48 = .ok (.iload_n 1, 1) := by decide +kernel
theorem dX10_tape_49 : decode cX10_tape 49 = .ok (.iload_n 2, 1) := by decide +kernel
theorem dX10_tape_50 : decode cX10_tape 50 = .ok (.iastore, 1) := by decide +kernel
theorem dX10_tape_51 : decode cX10_tape 51 = .ok (.aload_n 0, 1) := by decide +kernel
theorem dX10_tape_52 : decode cX10_tape 52 = .ok (.getfield 235, 3) := by decide +kernel
theorem dX10_tape_55 : decode cX10_tape 55 = .ok (.iload_n 1, 1) := by decide +kernel
theorem dX10_tape_56 : decode cX10_tape 56 = .ok (.iload_n 2, 1) := by decide +kernel
theorem dX10_tape_57 : decode cX10_tape 57 = .ok (.ifCond .ge 7, 3) := by decide +kernel
theorem dX10_tape_60 : decode cX10_tape 60 = .ok (.iconst 0, 1) := by decide +kernel
theorem dX10_tape_61 : decode cX10_tape 61 = .ok (.goto 4, 3) := by decide +kernel
theorem dX10_tape_64 : decode cX10_tape 64 = .ok (.iload_n 3, 1) := by decide +kernel
theorem dX10_tape_65 : decode cX10_tape 65 = .ok (.iastore, 1) := by decide +kernel
theorem dX10_tape_66 : decode cX10_tape 66 = .ok (.iconst 0, 1) := by decide +kernel
theorem dX10_tape_67 : decode cX10_tape 67 = .ok (.istore 4, 2) := by decide +kernel
theorem dX10_tape_69 : decode cX10_tape 69 = .ok (.iload 4, 2) := by decide +kernel
theorem dX10_tape_71 : decode cX10_tape 71 = .ok (.bipush 60, 2) := by decide +kernel
theorem dX10_tape_73 : decode cX10_tape 73 = .ok (.if_icmp .ge 22, 3) := by decide +kernel
theorem dX10_tape_76 : decode cX10_tape 76 = .ok (.aload_n 0, 1) := by decide +kernel
theorem dX10_tape_77 : decode cX10_tape 77 = .ok (.getfield 238, 3) := by decide +kernel
theorem dX10_tape_80 : decode cX10_tape 80 = .ok (.bipush 60, 2) := by decide +kernel
theorem dX10_tape_82 : decode cX10_tape 82 = .ok (.iload_n 1, 1) := by decide +kernel
theorem dX10_tape_83 : decode cX10_tape 83 = .ok (.imul, 1) := by decide +kernel
theorem dX10_tape_84 : decode cX10_tape 84 = .ok (.iload 4, 2) := by decide +kernel
theorem dX10_tape_86 : decode cX10_tape 86 = .ok (.iadd, 1) := by decide +kernel
theorem dX10_tape_87 : decode cX10_tape 87 = .ok (.lconst 0, 1) := by decide +kernel
theorem dX10_tape_88 : decode cX10_tape 88 = .ok (.lastore, 1) := by decide +kernel
theorem dX10_tape_89 : decode cX10_tape 89 = .ok (.iinc 4 1, 3) := by decide +kernel
theorem dX10_tape_92 : decode cX10_tape 92 = .ok (.goto (-23), 3) := by decide +kernel
theorem dX10_tape_95 : decode cX10_tape 95 = .ok (.iconst 1, 1) := by decide +kernel
theorem dX10_tape_96 : decode cX10_tape 96 = .ok (.ireturn, 1) := by decide +kernel
def f_X10_tape_L69 (X : x_X) : Nat → Nat → Int32 → Int32 → x_M → Option (Int32 × x_M)
  | 0, _, _, _, _ => none
  | n + 1, v29, v30, v31, μ32 =>
    (if (60 : Int32) ≤ v31 then (some ((1 : Int32), μ32)) else (ck (x_kd X v29 = 10 + 1) (lt (μ32.2.1 v29 75) (fun (v33 : Nat) => (lt (((60 : Int32) * v30) + v31) (fun (v34 : Int32) => (ck (x_kd X v33 = 21 ∧ x_ix v34 (x_ln X v33)) (lt (x_sJ μ32 v33 (v34).toNatClampNeg (0 : Int64)) (fun (μ35 : x_M) => (f_X10_tape_L69 X n v29 v30 (v31 + (1 : Int32)) μ35))))))))))
set_option maxRecDepth 100000 in
theorem j_X10_tape_L69 (hI : x_I X) (hC : x_C X x_Z0 p (x_rm 3) s m c cX10_tape RX10 5 0 0 3) (hr : meth.sig.returnType = (some .int)) (hlk : meth.locks = false) : ∀ (n : Nat) (v29 : Nat) (v30 : Int32) (v31 : Int32) (μ32 : x_M), SM X 5 3 rkI p l e s m args below meth c 69 [(0, vR v29), (1, vI v30), (4, vI v31)] [] μ32 (f_X10_tape_L69 X n v29 v30 v31 μ32) := by
  intro n
  induction n with
  | zero => intro v29 v30 v31 μ32; exact s_none
  | succ n ih =>
    intro v29 v30 v31 μ32
    unfold f_X10_tape_L69
    refine s_iload hC 2 dX10_tape_69 rfl ?_
    refine s_bipush hC dX10_tape_71 (v := 60) (by decide) ?_
    refine s_icmp_ge hC dX10_tape_73 (tgt := 95) (by decide) ?_ ?_
    · refine s_iconst hC dX10_tape_95 (v := 1) (by decide) ?_
      exact s_iret hC hr hlk dX10_tape_96
    refine s_aload_n hC 0 dX10_tape_76 rfl ?_
    refine s_getR hC xc10 (by decide) rfl qf_X10_238 dX10_tape_77 ?_
    refine s_ltR (fun v33 => ?_)
    refine s_bipush hC dX10_tape_80 (v := 60) (by decide) ?_
    refine s_iload_n hC 1 dX10_tape_82 rfl ?_
    refine s_imul hC dX10_tape_83 ?_
    refine s_iload hC 2 dX10_tape_84 rfl ?_
    refine s_iadd hC dX10_tape_86 ?_
    refine s_lconst hC dX10_tape_87 (v := 0) (by decide) ?_
    refine s_ltI2 (fun v34 => ?_)
    refine s_last hC dX10_tape_88 ?_
    refine s_ltM (fun μ35 => ?_)
    refine s_iinc hC 2 dX10_tape_89 rfl (w := 1) (by decide) (by decide) (lv' := [(4, vI (v31 + (1 : Int32))), (0, vR v29), (1, vI v30)]) rfl ?_
    refine s_goto hC dX10_tape_92 (tgt := 69) (by decide) ?_
    refine s_lv (lv' := [(0, vR v29), (1, vI v30), (4, vI (v31 + (1 : Int32)))]) [1, 2, 0] rfl ?_
    exact ih _ _ _ _
def f_X10_tape_J65 (X : x_X) (v22 : Nat) (v23 : Int32) (v24 : Int32) (v25 : Int32) (v26 : Nat) (μ27 : x_M) : Option (Int32 × x_M) :=
  (ck (x_kd X v26 = 20 ∧ x_ix v25 (x_ln X v26)) (lt (x_sI μ27 v26 (v25).toNatClampNeg v24) (fun (μ28 : x_M) => (f_X10_tape_L69 X 4096 v22 v23 (0 : Int32) μ28))))
set_option maxRecDepth 100000 in
theorem j_X10_tape_J65 (hI : x_I X) (hC : x_C X x_Z0 p (x_rm 3) s m c cX10_tape RX10 5 0 0 3) (hr : meth.sig.returnType = (some .int)) (hlk : meth.locks = false) (v22 : Nat) (v23 : Int32) (v24 : Int32) (v25 : Int32) (v26 : Nat) (μ27 : x_M) : SM X 5 3 rkI p l e s m args below meth c 65 [(0, vR v22), (1, vI v23)] [vI v24, vI v25, vR v26] μ27 (f_X10_tape_J65 X v22 v23 v24 v25 v26 μ27) := by
  unfold f_X10_tape_J65
  refine s_iast hC dX10_tape_65 ?_
  refine s_ltM (fun μ28 => ?_)
  refine s_iconst hC dX10_tape_66 (v := 0) (by decide) ?_
  refine s_istore hC dX10_tape_67 (by decide) (lv' := [(4, vI (0 : Int32)), (0, vR v22), (1, vI v23)]) rfl ?_
  refine s_lv (lv' := [(0, vR v22), (1, vI v23), (4, vI (0 : Int32))]) [1, 2, 0] rfl ?_
  refine j_X10_tape_L69 hI hC hr hlk 4096 _ _ _ _
def f_X10_tape_J44 (X : x_X) (v14 : Nat) (v15 : Int32) (v16 : Int32) (v17 : Int32) (μ18 : x_M) : Option (Int32 × x_M) :=
  (ck (x_kd X v14 = 10 + 1) (lt (μ18.2.1 v14 73) (fun (v19 : Nat) => (ck (x_kd X v19 = 20 ∧ x_ix v15 (x_ln X v19)) (lt (x_sI μ18 v19 (v15).toNatClampNeg v16) (fun (μ20 : x_M) => (ck (x_kd X v14 = 10 + 1) (lt (μ20.2.1 v14 74) (fun (v21 : Nat) => (if 0 ≤ v16 then (f_X10_tape_J65 X v14 v15 v17 v15 v21 μ20) else (f_X10_tape_J65 X v14 v15 (0 : Int32) v15 v21 μ20)))))))))))
set_option maxRecDepth 100000 in
theorem j_X10_tape_J44 (hI : x_I X) (hC : x_C X x_Z0 p (x_rm 3) s m c cX10_tape RX10 5 0 0 3) (hr : meth.sig.returnType = (some .int)) (hlk : meth.locks = false) (v14 : Nat) (v15 : Int32) (v16 : Int32) (v17 : Int32) (μ18 : x_M) : SM X 5 3 rkI p l e s m args below meth c 44 [(0, vR v14), (1, vI v15), (2, vI v16), (3, vI v17)] [] μ18 (f_X10_tape_J44 X v14 v15 v16 v17 μ18) := by
  unfold f_X10_tape_J44
  refine s_aload_n hC 0 dX10_tape_44 rfl ?_
  refine s_getR hC xc10 (by decide) rfl qf_X10_232 dX10_tape_45 ?_
  refine s_ltR (fun v19 => ?_)
  refine s_iload_n hC 1 dX10_tape_48 rfl ?_
  refine s_iload_n hC 2 dX10_tape_49 rfl ?_
  refine s_iast hC dX10_tape_50 ?_
  refine s_ltM (fun μ20 => ?_)
  refine s_aload_n hC 0 dX10_tape_51 rfl ?_
  refine s_getR hC xc10 (by decide) rfl qf_X10_235 dX10_tape_52 ?_
  refine s_ltR (fun v21 => ?_)
  refine s_iload_n hC 1 dX10_tape_55 rfl ?_
  refine s_iload_n hC 2 dX10_tape_56 rfl ?_
  refine s_if_ge hC dX10_tape_57 (tgt := 64) (by decide) ?_ ?_
  · refine s_iload_n hC 3 dX10_tape_64 rfl ?_
    refine s_lv (lv' := [(0, vR v14), (1, vI v15)]) [0, 1] rfl ?_
    exact j_X10_tape_J65 hI hC hr hlk _ _ _ _ _ _
  refine s_iconst hC dX10_tape_60 (v := 0) (by decide) ?_
  refine s_goto hC dX10_tape_61 (tgt := 65) (by decide) ?_
  refine s_lv (lv' := [(0, vR v14), (1, vI v15)]) [0, 1] rfl ?_
  exact j_X10_tape_J65 hI hC hr hlk _ _ _ _ _ _
def f_X10_tape_J33 (X : x_X) (v9 : Nat) (v10 : Int32) (v11 : Int32) (v12 : Int32) (μ13 : x_M) : Option (Int32 × x_M) :=
  (if v11 < 0 then (f_X10_tape_J44 X v9 v10 v11 v12 μ13) else (if 0 ≤ v12 then (f_X10_tape_J44 X v9 v10 v11 v12 μ13) else (some ((-14 : Int32), μ13))))
set_option maxRecDepth 100000 in
theorem j_X10_tape_J33 (hI : x_I X) (hC : x_C X x_Z0 p (x_rm 3) s m c cX10_tape RX10 5 0 0 3) (hr : meth.sig.returnType = (some .int)) (hlk : meth.locks = false) (v9 : Nat) (v10 : Int32) (v11 : Int32) (v12 : Int32) (μ13 : x_M) : SM X 5 3 rkI p l e s m args below meth c 33 [(0, vR v9), (1, vI v10), (2, vI v11), (3, vI v12)] [] μ13 (f_X10_tape_J33 X v9 v10 v11 v12 μ13) := by
  unfold f_X10_tape_J33
  refine s_iload_n hC 2 dX10_tape_33 rfl ?_
  refine s_if_lt hC dX10_tape_34 (tgt := 44) (by decide) ?_ ?_
  · exact j_X10_tape_J44 hI hC hr hlk _ _ _ _ _
  refine s_iload_n hC 3 dX10_tape_37 rfl ?_
  refine s_if_ge hC dX10_tape_38 (tgt := 44) (by decide) ?_ ?_
  · exact j_X10_tape_J44 hI hC hr hlk _ _ _ _ _
  refine s_bipush hC dX10_tape_41 (v := -14) (by decide) ?_
  exact s_iret hC hr hlk dX10_tape_43
def f_X10_tape (X : x_X) (v0 : Nat) (v1 : Int32) (v2 : Int32) (v3 : Int32) (μ : x_M) : Option (Int32 × x_M) :=
  (ck (x_kd X v0 = 10 + 1) (bd (f_X10_isTape X v0 v1 μ) (fun (v5 : Int32) (μ6 : x_M) => (if v5 = 0 then (some ((-1 : Int32), μ6)) else (ck (x_kd X v0 = 10 + 1) (bd (f_X10_in X v0 v2 (-1 : Int32) (4 : Int32) μ6) (fun (v7 : Int32) (μ8 : x_M) => (if v7 = 0 then (some ((-2 : Int32), μ8)) else (if v2 < 0 then (f_X10_tape_J33 X v0 v1 v2 v3 μ8) else (if v3 ≤ (60 : Int32) then (f_X10_tape_J33 X v0 v1 v2 v3 μ8) else (some ((-2 : Int32), μ8))))))))))))
set_option maxRecDepth 100000 in
theorem m_X10_tape (hI : x_I X) (v0 : Nat) (v1 : Int32) (v2 : Int32) (v3 : Int32) (μ : x_M) : x_Met X x_Z0 l yX10_tape cX10_tape 5 (some .int) 3 [vR v0, vI v1, vI v2, vI v3] μ rkI (f_X10_tape X v0 v1 v2 v3 μ) := by
  refine x_enter hI (by decide +kernel) (Nat.le_of_ble_eq_true rfl) (fun p e s m args below meth c hC hr hlk => ?_)
  unfold f_X10_tape
  refine s_lv (lv' := [(0, vR v0), (1, vI v1), (2, vI v2), (3, vI v3)]) [0, 1, 2, 3] rfl ?_
  refine s_aload_n hC 0 dX10_tape_0 rfl ?_
  refine s_iload_n hC 1 dX10_tape_1 rfl ?_
  refine s_callV hC (x := v0) (avs := [vI v1]) (st := []) (nest := false) xc10 (m_X10_isTape hI v0 v1 μ) dX10_tape_2 qm_X10_398 qi_X10_isTape qs_X10_isTape qc_X10 qd_X10_isTape qh_X10_isTape (by decide) (fun _ => Nat.le_of_ble_eq_true rfl) (Nat.le_of_ble_eq_true rfl) (fun v5 μ6 => ?_)
  refine s_if_ne hC dX10_tape_5 (tgt := 10) (by decide) ?_ ?_
  · refine s_aload_n hC 0 dX10_tape_10 rfl ?_
    refine s_iload_n hC 2 dX10_tape_11 rfl ?_
    refine s_iconst hC dX10_tape_12 (v := -1) (by decide) ?_
    refine s_iconst hC dX10_tape_13 (v := 4) (by decide) ?_
    refine s_callV hC (x := v0) (avs := [vI v2, vI (-1 : Int32), vI (4 : Int32)]) (st := []) (nest := false) xc10 (m_X10_in hI v0 v2 (-1 : Int32) (4 : Int32) μ6) dX10_tape_14 qm_X10_245 qi_X10_in qs_X10_in qc_X10 qd_X10_in qh_X10_in (by decide) (fun _ => Nat.le_of_ble_eq_true rfl) (Nat.le_of_ble_eq_true rfl) (fun v7 μ8 => ?_)
    refine s_if_eq hC dX10_tape_17 (tgt := 30) (by decide) ?_ ?_
    · refine s_bipush hC dX10_tape_30 (v := -2) (by decide) ?_
      exact s_iret hC hr hlk dX10_tape_32
    refine s_iload_n hC 2 dX10_tape_20 rfl ?_
    refine s_if_lt hC dX10_tape_21 (tgt := 33) (by decide) ?_ ?_
    · exact j_X10_tape_J33 hI hC hr hlk _ _ _ _ _
    refine s_iload_n hC 3 dX10_tape_24 rfl ?_
    refine s_bipush hC dX10_tape_25 (v := 60) (by decide) ?_
    refine s_icmp_le hC dX10_tape_27 (tgt := 33) (by decide) ?_ ?_
    · exact j_X10_tape_J33 hI hC hr hlk _ _ _ _ _
    refine s_bipush hC dX10_tape_30 (v := -2) (by decide) ?_
    exact s_iret hC hr hlk dX10_tape_32
  refine s_iconst hC dX10_tape_8 (v := -1) (by decide) ?_
  exact s_iret hC hr hlk dX10_tape_9
theorem dX10_item_0 : decode cX10_item 0 = .ok (.aload_n 0, 1) := by decide +kernel
theorem dX10_item_1 : decode cX10_item 1 = .ok (.iload_n 1, 1) := by decide +kernel
theorem dX10_item_2 : decode cX10_item 2 = .ok (.invokevirtual 398, 3) := by decide +kernel
theorem dX10_item_5 : decode cX10_item 5 = .ok (.ifCond .ne 5, 3) := by decide +kernel
theorem dX10_item_8 : decode cX10_item 8 = .ok (.iconst (-1), 1) := by decide +kernel
theorem dX10_item_9 : decode cX10_item 9 = .ok (.ireturn, 1) := by decide +kernel
theorem dX10_item_10 : decode cX10_item 10 = .ok (.aload_n 0, 1) := by decide +kernel
theorem dX10_item_11 : decode cX10_item 11 = .ok (.getfield 232, 3) := by decide +kernel
theorem dX10_item_14 : decode cX10_item 14 = .ok (.iload_n 1, 1) := by decide +kernel
theorem dX10_item_15 : decode cX10_item 15 = .ok (.iaload, 1) := by decide +kernel
theorem dX10_item_16 : decode cX10_item 16 = .ok (.ifCond .ge 6, 3) := by decide +kernel
theorem dX10_item_19 : decode cX10_item 19 = .ok (.bipush (-11), 2) := by decide +kernel
theorem dX10_item_21 : decode cX10_item 21 = .ok (.ireturn, 1) := by decide +kernel
theorem dX10_item_22 : decode cX10_item 22 = .ok (.aload_n 0, 1) := by decide +kernel
theorem dX10_item_23 : decode cX10_item 23 = .ok (.iload_n 2, 1) := by decide +kernel
theorem dX10_item_24 : decode cX10_item 24 = .ok (.iconst 0, 1) := by decide +kernel
theorem dX10_item_25 : decode cX10_item 25 = .ok (.aload_n 0, 1) := by decide +kernel
theorem dX10_item_26 : decode cX10_item 26 = .ok (.getfield 235, 3) := by decide +kernel
theorem dX10_item_29 : decode cX10_item 29 = .ok (.iload_n 1, 1) := by decide +kernel
theorem dX10_item_30 : decode cX10_item 30 = .ok (.iaload, 1) := by decide +kernel
theorem dX10_item_31 : decode cX10_item 31 = .ok (.iconst 1, 1) := by decide +kernel
theorem dX10_item_32 : decode cX10_item 32 = .ok (.isub, 1) := by decide +kernel
theorem dX10_item_33 : decode cX10_item 33 = .ok (.invokevirtual 245, 3) := by decide +kernel
theorem dX10_item_36 : decode cX10_item 36 = .ok (.ifCond .ne 6, 3) := by decide +kernel
theorem dX10_item_39 : decode cX10_item 39 = .ok (.bipush (-13), 2) := by decide +kernel
theorem dX10_item_41 : decode cX10_item 41 = .ok (.ireturn, 1) := by decide +kernel
theorem dX10_item_42 : decode cX10_item 42 = .ok (.aload_n 0, 1) := by decide +kernel
theorem dX10_item_43 : decode cX10_item 43 = .ok (.getfield 238, 3) := by decide +kernel
theorem dX10_item_46 : decode cX10_item 46 = .ok (.bipush 60, 2) := by decide +kernel
theorem dX10_item_48 : decode cX10_item 48 = .ok (.iload_n 1, 1) := by decide +kernel
theorem dX10_item_49 : decode cX10_item 49 = .ok (.imul, 1) := by decide +kernel
theorem dX10_item_50 : decode cX10_item 50 = .ok (.iload_n 2, 1) := by decide +kernel
theorem dX10_item_51 : decode cX10_item 51 = .ok (.iadd, 1) := by decide +kernel
theorem dX10_item_52 : decode cX10_item 52 = .ok (.aload_n 0, 1) := by decide +kernel
theorem dX10_item_53 : decode cX10_item 53 = .ok (.aload_n 0, 1) := by decide +kernel
theorem dX10_item_54 : decode cX10_item 54 = .ok (.getfield 232, 3) := by decide +kernel
theorem dX10_item_57 : decode cX10_item 57 = .ok (.iload_n 1, 1) := by decide +kernel
theorem dX10_item_58 : decode cX10_item 58 = .ok (.iaload, 1) := by decide +kernel
theorem dX10_item_59 : decode cX10_item 59 = .ok (.lload_n 3, 1) := by decide +kernel
theorem dX10_item_60 : decode cX10_item 60 = .ok (.invokevirtual 425, 3) := by decide +kernel
theorem dX10_item_63 : decode cX10_item 63 = .ok (.lastore, 1) := by decide +kernel
theorem dX10_item_64 : decode cX10_item 64 = .ok (.iconst 1, 1) := by decide +kernel
theorem dX10_item_65 : decode cX10_item 65 = .ok (.ireturn, 1) := by decide +kernel
def f_X10_item (X : x_X) (v0 : Nat) (v1 : Int32) (v2 : Int32) (v3 : Int64) (μ : x_M) : Option (Int32 × x_M) :=
  (ck (x_kd X v0 = 10 + 1) (bd (f_X10_isTape X v0 v1 μ) (fun (v5 : Int32) (μ6 : x_M) => (if v5 = 0 then (some ((-1 : Int32), μ6)) else (ck (x_kd X v0 = 10 + 1) (lt (μ6.2.1 v0 73) (fun (v7 : Nat) => (ck ((x_kd X v7 = 20 ∨ x_kd X v7 = 40) ∧ x_ix v1 (x_ln X v7)) (if 0 ≤ (μ6.1 v7 (v1).toNatClampNeg) then (ck (x_kd X v0 = 10 + 1) (lt (μ6.2.1 v0 74) (fun (v8 : Nat) => (ck ((x_kd X v8 = 20 ∨ x_kd X v8 = 40) ∧ x_ix v1 (x_ln X v8)) (ck (x_kd X v0 = 10 + 1) (bd (f_X10_in X v0 v2 (0 : Int32) ((μ6.1 v8 (v1).toNatClampNeg) - (1 : Int32)) μ6) (fun (v9 : Int32) (μ10 : x_M) => (if v9 = 0 then (some ((-13 : Int32), μ10)) else (ck (x_kd X v0 = 10 + 1) (lt (μ10.2.1 v0 75) (fun (v11 : Nat) => (ck (x_kd X v0 = 10 + 1) (lt (μ10.2.1 v0 73) (fun (v12 : Nat) => (ck ((x_kd X v12 = 20 ∨ x_kd X v12 = 40) ∧ x_ix v1 (x_ln X v12)) (ck (x_kd X v0 = 10 + 1) (bd (f_X10_narrow X v0 (μ10.1 v12 (v1).toNatClampNeg) v3 μ10) (fun (v13 : Int64) (μ14 : x_M) => (lt (((60 : Int32) * v1) + v2) (fun (v15 : Int32) => (ck (x_kd X v11 = 21 ∧ x_ix v15 (x_ln X v11)) (lt (x_sJ μ14 v11 (v15).toNatClampNeg v13) (fun (μ16 : x_M) => (some ((1 : Int32), μ16))))))))))))))))))))))))) else (some ((-11 : Int32), μ6)))))))))))
set_option maxRecDepth 100000 in
theorem m_X10_item (hI : x_I X) (v0 : Nat) (v1 : Int32) (v2 : Int32) (v3 : Int64) (μ : x_M) : x_Met X x_Z0 l yX10_item cX10_item 5 (some .int) 3 [vR v0, vI v1, vI v2, vJ v3] μ rkI (f_X10_item X v0 v1 v2 v3 μ) := by
  refine x_enter hI (by decide +kernel) (Nat.le_of_ble_eq_true rfl) (fun p e s m args below meth c hC hr hlk => ?_)
  unfold f_X10_item
  refine s_lv (lv' := [(0, vR v0), (1, vI v1), (2, vI v2), (3, vJ v3)]) [0, 1, 2, 3] rfl ?_
  refine s_aload_n hC 0 dX10_item_0 rfl ?_
  refine s_iload_n hC 1 dX10_item_1 rfl ?_
  refine s_callV hC (x := v0) (avs := [vI v1]) (st := []) (nest := false) xc10 (m_X10_isTape hI v0 v1 μ) dX10_item_2 qm_X10_398 qi_X10_isTape qs_X10_isTape qc_X10 qd_X10_isTape qh_X10_isTape (by decide) (fun _ => Nat.le_of_ble_eq_true rfl) (Nat.le_of_ble_eq_true rfl) (fun v5 μ6 => ?_)
  refine s_if_ne hC dX10_item_5 (tgt := 10) (by decide) ?_ ?_
  · refine s_aload_n hC 0 dX10_item_10 rfl ?_
    refine s_getR hC xc10 (by decide) rfl qf_X10_232 dX10_item_11 ?_
    refine s_ltR (fun v7 => ?_)
    refine s_iload_n hC 1 dX10_item_14 rfl ?_
    refine s_iald hC dX10_item_15 ?_
    refine s_if_ge hC dX10_item_16 (tgt := 22) (by decide) ?_ ?_
    · refine s_aload_n hC 0 dX10_item_22 rfl ?_
      refine s_iload_n hC 2 dX10_item_23 rfl ?_
      refine s_iconst hC dX10_item_24 (v := 0) (by decide) ?_
      refine s_aload_n hC 0 dX10_item_25 rfl ?_
      refine s_getR hC xc10 (by decide) rfl qf_X10_235 dX10_item_26 ?_
      refine s_ltR (fun v8 => ?_)
      refine s_iload_n hC 1 dX10_item_29 rfl ?_
      refine s_iald hC dX10_item_30 ?_
      refine s_iconst hC dX10_item_31 (v := 1) (by decide) ?_
      refine s_isub hC dX10_item_32 ?_
      refine s_callV hC (x := v0) (avs := [vI v2, vI (0 : Int32), vI ((μ6.1 v8 (v1).toNatClampNeg) - (1 : Int32))]) (st := []) (nest := false) xc10 (m_X10_in hI v0 v2 (0 : Int32) ((μ6.1 v8 (v1).toNatClampNeg) - (1 : Int32)) μ6) dX10_item_33 qm_X10_245 qi_X10_in qs_X10_in qc_X10 qd_X10_in qh_X10_in (by decide) (fun _ => Nat.le_of_ble_eq_true rfl) (Nat.le_of_ble_eq_true rfl) (fun v9 μ10 => ?_)
      refine s_if_ne hC dX10_item_36 (tgt := 42) (by decide) ?_ ?_
      · refine s_aload_n hC 0 dX10_item_42 rfl ?_
        refine s_getR hC xc10 (by decide) rfl qf_X10_238 dX10_item_43 ?_
        refine s_ltR (fun v11 => ?_)
        refine s_bipush hC dX10_item_46 (v := 60) (by decide) ?_
        refine s_iload_n hC 1 dX10_item_48 rfl ?_
        refine s_imul hC dX10_item_49 ?_
        refine s_iload_n hC 2 dX10_item_50 rfl ?_
        refine s_iadd hC dX10_item_51 ?_
        refine s_aload_n hC 0 dX10_item_52 rfl ?_
        refine s_aload_n hC 0 dX10_item_53 rfl ?_
        refine s_getR hC xc10 (by decide) rfl qf_X10_232 dX10_item_54 ?_
        refine s_ltR (fun v12 => ?_)
        refine s_iload_n hC 1 dX10_item_57 rfl ?_
        refine s_iald hC dX10_item_58 ?_
        refine s_lload_n hC 3 dX10_item_59 rfl ?_
        refine s_callV hC (x := v0) (avs := [vI (μ10.1 v12 (v1).toNatClampNeg), vJ v3]) (st := [vI (((60 : Int32) * v1) + v2), vR v11]) (nest := false) xc10 (m_X10_narrow hI v0 (μ10.1 v12 (v1).toNatClampNeg) v3 μ10) dX10_item_60 qm_X10_425 qi_X10_narrow qs_X10_narrow qc_X10 qd_X10_narrow qh_X10_narrow (by decide) (fun _ => Nat.le_of_ble_eq_true rfl) (Nat.le_of_ble_eq_true rfl) (fun v13 μ14 => ?_)
        refine s_ltI2 (fun v15 => ?_)
        refine s_last hC dX10_item_63 ?_
        refine s_ltM (fun μ16 => ?_)
        refine s_iconst hC dX10_item_64 (v := 1) (by decide) ?_
        exact s_iret hC hr hlk dX10_item_65
      refine s_bipush hC dX10_item_39 (v := -13) (by decide) ?_
      exact s_iret hC hr hlk dX10_item_41
    refine s_bipush hC dX10_item_19 (v := -11) (by decide) ?_
    exact s_iret hC hr hlk dX10_item_21
  refine s_iconst hC dX10_item_8 (v := -1) (by decide) ?_
  exact s_iret hC hr hlk dX10_item_9
theorem dX10_read_0 : decode cX10_read 0 = .ok (.aload_n 0, 1) := by decide +kernel
theorem dX10_read_1 : decode cX10_read 1 = .ok (.iload_n 1, 1) := by decide +kernel
theorem dX10_read_2 : decode cX10_read 2 = .ok (.invokevirtual 398, 3) := by decide +kernel
theorem dX10_read_5 : decode cX10_read 5 = .ok (.ifCond .eq 29, 3) := by decide +kernel
theorem dX10_read_8 : decode cX10_read 8 = .ok (.aload_n 0, 1) := by decide +kernel
theorem dX10_read_9 : decode cX10_read 9 = .ok (.getfield 232, 3) := by decide +kernel
theorem dX10_read_12 : decode cX10_read 12 = .ok (.iload_n 1, 1) := by decide +kernel
theorem dX10_read_13 : decode cX10_read 13 = .ok (.iaload, 1) := by decide +kernel
theorem dX10_read_14 : decode cX10_read 14 = .ok (.ifCond .lt 20, 3) := by decide +kernel
theorem dX10_read_17 : decode cX10_read 17 = .ok (.aload_n 0, 1) := by decide +kernel
theorem dX10_read_18 : decode cX10_read 18 = .ok (.iload_n 2, 1) := by decide +kernel
theorem dX10_read_19 : decode cX10_read 19 = .ok (.iconst 0, 1) := by decide +kernel
theorem dX10_read_20 : decode cX10_read 20 = .ok (.aload_n 0, 1) := by decide +kernel
theorem dX10_read_21 : decode cX10_read 21 = .ok (.getfield 235, 3) := by decide +kernel
theorem dX10_read_24 : decode cX10_read 24 = .ok (.iload_n 1, 1) := by decide +kernel
theorem dX10_read_25 : decode cX10_read 25 = .ok (.iaload, 1) := by decide +kernel
theorem dX10_read_26 : decode cX10_read 26 = .ok (.iconst 1, 1) := by decide +kernel
theorem dX10_read_27 : decode cX10_read 27 = .ok (.isub, 1) := by decide +kernel
theorem dX10_read_28 : decode cX10_read 28 = .ok (.invokevirtual 245, 3) := by decide +kernel
theorem dX10_read_31 : decode cX10_read 31 = .ok (.ifCond .ne 9, 3) := by decide +kernel
theorem dX10_read_34 : decode cX10_read 34 = .ok (.ldc2_w 389, 3) := by decide +kernel
theorem dX10_read_37 : decode cX10_read 37 = .ok (.goto 14, 3) := by decide +kernel
theorem dX10_read_40 : decode cX10_read 40 = .ok (.aload_n 0, 1) := by decide +kernel
theorem dX10_read_41 : decode cX10_read 41 = .ok (.getfield 238, 3) := by decide +kernel
theorem dX10_read_44 : decode cX10_read 44 = .ok (.bipush 60, 2) := by decide +kernel
theorem dX10_read_46 : decode cX10_read 46 = .ok (.iload_n 1, 1) := by decide +kernel
theorem dX10_read_47 : decode cX10_read 47 = .ok (.imul, 1) := by decide +kernel
theorem dX10_read_48 : decode cX10_read 48 = .ok (.iload_n 2, 1) := by decide +kernel
theorem dX10_read_49 : decode cX10_read 49 = .ok (.iadd, 1) := by decide +kernel
theorem dX10_read_50 : decode cX10_read 50 = .ok (.laload, 1) := by decide +kernel
theorem dX10_read_51 : decode cX10_read 51 = .ok (.lreturn, 1) := by decide +kernel
def f_X10_read (X : x_X) (v0 : Nat) (v1 : Int32) (v2 : Int32) (μ : x_M) : Option (Int64 × x_M) :=
  (ck (x_kd X v0 = 10 + 1) (bd (f_X10_isTape X v0 v1 μ) (fun (v4 : Int32) (μ5 : x_M) => (if v4 = 0 then (some ((-9223372036854775808 : Int64), μ5)) else (ck (x_kd X v0 = 10 + 1) (lt (μ5.2.1 v0 73) (fun (v6 : Nat) => (ck ((x_kd X v6 = 20 ∨ x_kd X v6 = 40) ∧ x_ix v1 (x_ln X v6)) (if (μ5.1 v6 (v1).toNatClampNeg) < 0 then (some ((-9223372036854775808 : Int64), μ5)) else (ck (x_kd X v0 = 10 + 1) (lt (μ5.2.1 v0 74) (fun (v7 : Nat) => (ck ((x_kd X v7 = 20 ∨ x_kd X v7 = 40) ∧ x_ix v1 (x_ln X v7)) (ck (x_kd X v0 = 10 + 1) (bd (f_X10_in X v0 v2 (0 : Int32) ((μ5.1 v7 (v1).toNatClampNeg) - (1 : Int32)) μ5) (fun (v8 : Int32) (μ9 : x_M) => (if v8 = 0 then (some ((-9223372036854775808 : Int64), μ9)) else (ck (x_kd X v0 = 10 + 1) (lt (μ9.2.1 v0 75) (fun (v10 : Nat) => (lt (((60 : Int32) * v1) + v2) (fun (v11 : Int32) => (ck (x_kd X v10 = 21 ∧ x_ix v11 (x_ln X v10)) (some ((μ9.2.2 v10 (v11).toNatClampNeg), μ9)))))))))))))))))))))))))
set_option maxRecDepth 100000 in
theorem m_X10_read (hI : x_I X) (v0 : Nat) (v1 : Int32) (v2 : Int32) (μ : x_M) : x_Met X x_Z0 l yX10_read cX10_read 3 (some .long) 3 [vR v0, vI v1, vI v2] μ rkJ (f_X10_read X v0 v1 v2 μ) := by
  refine x_enter hI (by decide +kernel) (Nat.le_of_ble_eq_true rfl) (fun p e s m args below meth c hC hr hlk => ?_)
  unfold f_X10_read
  refine s_lv (lv' := [(0, vR v0), (1, vI v1), (2, vI v2)]) [0, 1, 2] rfl ?_
  refine s_aload_n hC 0 dX10_read_0 rfl ?_
  refine s_iload_n hC 1 dX10_read_1 rfl ?_
  refine s_callV hC (x := v0) (avs := [vI v1]) (st := []) (nest := false) xc10 (m_X10_isTape hI v0 v1 μ) dX10_read_2 qm_X10_398 qi_X10_isTape qs_X10_isTape qc_X10 qd_X10_isTape qh_X10_isTape (by decide) (fun _ => Nat.le_of_ble_eq_true rfl) (Nat.le_of_ble_eq_true rfl) (fun v4 μ5 => ?_)
  refine s_if_eq hC dX10_read_5 (tgt := 34) (by decide) ?_ ?_
  · refine s_ldc2 hC dX10_read_34 qk_X10_389 ?_
    refine s_goto hC dX10_read_37 (tgt := 51) (by decide) ?_
    exact s_lret hC hr hlk dX10_read_51
  refine s_aload_n hC 0 dX10_read_8 rfl ?_
  refine s_getR hC xc10 (by decide) rfl qf_X10_232 dX10_read_9 ?_
  refine s_ltR (fun v6 => ?_)
  refine s_iload_n hC 1 dX10_read_12 rfl ?_
  refine s_iald hC dX10_read_13 ?_
  refine s_if_lt hC dX10_read_14 (tgt := 34) (by decide) ?_ ?_
  · refine s_ldc2 hC dX10_read_34 qk_X10_389 ?_
    refine s_goto hC dX10_read_37 (tgt := 51) (by decide) ?_
    exact s_lret hC hr hlk dX10_read_51
  refine s_aload_n hC 0 dX10_read_17 rfl ?_
  refine s_iload_n hC 2 dX10_read_18 rfl ?_
  refine s_iconst hC dX10_read_19 (v := 0) (by decide) ?_
  refine s_aload_n hC 0 dX10_read_20 rfl ?_
  refine s_getR hC xc10 (by decide) rfl qf_X10_235 dX10_read_21 ?_
  refine s_ltR (fun v7 => ?_)
  refine s_iload_n hC 1 dX10_read_24 rfl ?_
  refine s_iald hC dX10_read_25 ?_
  refine s_iconst hC dX10_read_26 (v := 1) (by decide) ?_
  refine s_isub hC dX10_read_27 ?_
  refine s_callV hC (x := v0) (avs := [vI v2, vI (0 : Int32), vI ((μ5.1 v7 (v1).toNatClampNeg) - (1 : Int32))]) (st := []) (nest := false) xc10 (m_X10_in hI v0 v2 (0 : Int32) ((μ5.1 v7 (v1).toNatClampNeg) - (1 : Int32)) μ5) dX10_read_28 qm_X10_245 qi_X10_in qs_X10_in qc_X10 qd_X10_in qh_X10_in (by decide) (fun _ => Nat.le_of_ble_eq_true rfl) (Nat.le_of_ble_eq_true rfl) (fun v8 μ9 => ?_)
  refine s_if_ne hC dX10_read_31 (tgt := 40) (by decide) ?_ ?_
  · refine s_aload_n hC 0 dX10_read_40 rfl ?_
    refine s_getR hC xc10 (by decide) rfl qf_X10_238 dX10_read_41 ?_
    refine s_ltR (fun v10 => ?_)
    refine s_bipush hC dX10_read_44 (v := 60) (by decide) ?_
    refine s_iload_n hC 1 dX10_read_46 rfl ?_
    refine s_imul hC dX10_read_47 ?_
    refine s_iload_n hC 2 dX10_read_48 rfl ?_
    refine s_iadd hC dX10_read_49 ?_
    refine s_ltI (fun v11 => ?_)
    refine s_lald hC dX10_read_50 ?_
    exact s_lret hC hr hlk dX10_read_51
  refine s_ldc2 hC dX10_read_34 qk_X10_389 ?_
  refine s_goto hC dX10_read_37 (tgt := 51) (by decide) ?_
  exact s_lret hC hr hlk dX10_read_51
theorem dX10_shift_0 : decode cX10_shift 0 = .ok (.aload_n 0, 1) := by decide +kernel
theorem dX10_shift_1 : decode cX10_shift 1 = .ok (.iload_n 1, 1) := by decide +kernel
theorem dX10_shift_2 : decode cX10_shift 2 = .ok (.invokevirtual 398, 3) := by decide +kernel
theorem dX10_shift_5 : decode cX10_shift 5 = .ok (.ifCond .eq 11, 3) := by decide +kernel
theorem dX10_shift_8 : decode cX10_shift 8 = .ok (.aload_n 0, 1) := by decide +kernel
theorem dX10_shift_9 : decode cX10_shift 9 = .ok (.iload_n 3, 1) := by decide +kernel
theorem dX10_shift_10 : decode cX10_shift 10 = .ok (.invokevirtual 398, 3) := by decide +kernel
theorem dX10_shift_13 : decode cX10_shift 13 = .ok (.ifCond .ne 5, 3) := by decide +kernel
theorem dX10_shift_16 : decode cX10_shift 16 = .ok (.iconst (-1), 1) := by decide +kernel
theorem dX10_shift_17 : decode cX10_shift 17 = .ok (.ireturn, 1) := by decide +kernel
theorem dX10_shift_18 : decode cX10_shift 18 = .ok (.aload_n 0, 1) := by decide +kernel
theorem dX10_shift_19 : decode cX10_shift 19 = .ok (.getfield 232, 3) := by decide +kernel
theorem dX10_shift_22 : decode cX10_shift 22 = .ok (.iload_n 1, 1) := by decide +kernel
theorem dX10_shift_23 : decode cX10_shift 23 = .ok (.iaload, 1) := by decide +kernel
theorem dX10_shift_24 : decode cX10_shift 24 = .ok (.ifCond .lt 12, 3) := by decide +kernel
theorem dX10_shift_27 : decode cX10_shift 27 = .ok (.aload_n 0, 1) := by decide +kernel
theorem dX10_shift_28 : decode cX10_shift 28 = .ok (.getfield 232, 3) := by decide +kernel
theorem dX10_shift_31 : decode cX10_shift 31 = .ok (.iload_n 3, 1) := by decide +kernel
theorem dX10_shift_32 : decode cX10_shift 32 = .ok (.iaload, 1) := by decide +kernel
theorem dX10_shift_33 : decode cX10_shift 33 = .ok (.ifCond .ge 6, 3) := by decide +kernel
theorem dX10_shift_36 : decode cX10_shift 36 = .ok (.bipush (-11), 2) := by decide +kernel
theorem dX10_shift_38 : decode cX10_shift 38 = .ok (.ireturn, 1) := by decide +kernel
theorem dX10_shift_39 : decode cX10_shift 39 = .ok (.aload_n 0, 1) := by decide +kernel
theorem dX10_shift_40 : decode cX10_shift 40 = .ok (.getfield 232, 3) := by decide +kernel
theorem dX10_shift_43 : decode cX10_shift 43 = .ok (.iload_n 1, 1) := by decide +kernel
theorem dX10_shift_44 : decode cX10_shift 44 = .ok (.iaload, 1) := by decide +kernel
theorem dX10_shift_45 : decode cX10_shift 45 = .ok (.aload_n 0, 1) := by decide +kernel
theorem dX10_shift_46 : decode cX10_shift 46 = .ok (.getfield 232, 3) := by decide +kernel
theorem dX10_shift_49 : decode cX10_shift 49 = .ok (.iload_n 3, 1) := by decide +kernel
theorem dX10_shift_50 : decode cX10_shift 50 = .ok (.iaload, 1) := by decide +kernel
theorem dX10_shift_51 : decode cX10_shift 51 = .ok (.if_icmp .eq 6, 3) := by decide +kernel
theorem dX10_shift_54 : decode cX10_shift 54 = .ok (.bipush (-12), 2) := by decide +kernel
theorem dX10_shift_56 : decode cX10_shift 56 = .ok (.ireturn, 1) := by decide +kernel
theorem dX10_shift_57 : decode cX10_shift 57 = .ok (.iload 5, 2) := by decide +kernel
theorem dX10_shift_59 : decode cX10_shift 59 = .ok (.ifCond .lt 39, 3) := by decide +kernel
theorem dX10_shift_62 : decode cX10_shift 62 = .ok (.iload_n 2, 1) := by decide +kernel
theorem dX10_shift_63 : decode cX10_shift 63 = .ok (.ifCond .lt 35, 3) := by decide +kernel
theorem dX10_shift_66 : decode cX10_shift 66 = .ok (.iload 4, 2) := by decide +kernel
theorem dX10_shift_68 : decode cX10_shift 68 = .ok (.ifCond .lt 30, 3) := by decide +kernel
theorem dX10_shift_71 : decode cX10_shift 71 = .ok (.iload_n 2, 1) := by decide +kernel
theorem dX10_shift_72 : decode cX10_shift 72 = .ok (.aload_n 0, 1) := by decide +kernel
theorem dX10_shift_73 : decode cX10_shift 73 = .ok (.getfield 235, 3) := by decide +kernel
theorem dX10_shift_76 : decode cX10_shift 76 = .ok (.iload_n 1, 1) := by decide +kernel
theorem dX10_shift_77 : decode cX10_shift 77 = .ok (.iaload, 1) := by decide +kernel
theorem dX10_shift_78 : decode cX10_shift 78 = .ok (.iload 5, 2) := by decide +kernel
theorem dX10_shift_80 : decode cX10_shift 80 = .ok (.isub, 1) := by decide +kernel
theorem dX10_shift_81 : decode cX10_shift 81 = .ok (.if_icmp .gt 17, 3) := by decide +kernel
theorem dX10_shift_84 : decode cX10_shift 84 = .ok (.iload 4, 2) := by decide +kernel
theorem dX10_shift_86 : decode cX10_shift 86 = .ok (.aload_n 0, 1) := by decide +kernel
theorem dX10_shift_87 : decode cX10_shift 87 = .ok (.getfield 235, 3) := by decide +kernel
theorem dX10_shift_90 : decode cX10_shift 90 = .ok (.iload_n 3, 1) := by decide +kernel
theorem dX10_shift_91 : decode cX10_shift 91 = .ok (.iaload, 1) := by decide +kernel
theorem dX10_shift_92 : decode cX10_shift 92 = .ok (.iload 5, 2) := by decide +kernel
theorem dX10_shift_94 : decode cX10_shift 94 = .ok (.isub, 1) := by decide +kernel
theorem dX10_shift_95 : decode cX10_shift 95 = .ok (.if_icmp .le 6, 3) := by decide +kernel
theorem dX10_shift_98 : decode cX10_shift 98 = .ok (.bipush (-13), 2) := by decide +kernel
theorem dX10_shift_100 : decode cX10_shift 100 = .ok (.ireturn, 1) := by decide +kernel
theorem dX10_shift_101 : decode cX10_shift 101 = .ok (.iconst 0, 1) := by decide +kernel
theorem dX10_shift_102 : decode cX10_shift 102 = .ok (.istore 6, 2) := by decide +kernel
theorem dX10_shift_104 : decode cX10_shift 104 = .ok (.iload 6, 2) := by decide +kernel
theorem dX10_shift_106 : decode cX10_shift 106 = .ok (.iload 5, 2) := by decide +kernel
theorem dX10_shift_108 : decode cX10_shift 108 = .ok (.if_icmp .ge 30, 3) := by decide +kernel
theorem dX10_shift_111 : decode cX10_shift 111 = .ok (.aload_n 0, 1) := by decide +kernel
theorem dX10_shift_112 : decode cX10_shift 112 = .ok (.getfield 242, 3) := by decide +kernel
theorem dX10_shift_115 : decode cX10_shift 115 = .ok (.iload 6, 2) := by decide +kernel
theorem dX10_shift_117 : decode cX10_shift 117 = .ok (.aload_n 0, 1) := by decide +kernel
theorem dX10_shift_118 : decode cX10_shift 118 = .ok (.getfield 238, 3) := by decide +kernel
theorem dX10_shift_121 : decode cX10_shift 121 = .ok (.bipush 60, 2) := by decide +kernel
theorem dX10_shift_123 : decode cX10_shift 123 = .ok (.iload_n 1, 1) := by decide +kernel
theorem dX10_shift_124 : decode cX10_shift 124 = .ok (.imul, 1) := by decide +kernel
theorem dX10_shift_125 : decode cX10_shift 125 = .ok (.iload_n 2, 1) := by decide +kernel
theorem dX10_shift_126 : decode cX10_shift 126 = .ok (.iadd, 1) := by decide +kernel
theorem dX10_shift_127 : decode cX10_shift 127 = .ok (.iload 6, 2) := by decide +kernel
theorem dX10_shift_129 : decode cX10_shift 129 = .ok (.iadd, 1) := by decide +kernel
theorem dX10_shift_130 : decode cX10_shift 130 = .ok (.laload, 1) := by decide +kernel
theorem dX10_shift_131 : decode cX10_shift 131 = .ok (.lastore, 1) := by decide +kernel
theorem dX10_shift_132 : decode cX10_shift 132 = .ok (.iinc 6 1, 3) := by decide +kernel
theorem dX10_shift_135 : decode cX10_shift 135 = .ok (.goto (-31), 3) := by decide +kernel
theorem dX10_shift_138 : decode cX10_shift 138 = .ok (.iconst 0, 1) := by decide +kernel
theorem dX10_shift_139 : decode cX10_shift 139 = .ok (.istore 6, 2) := by decide +kernel
theorem dX10_shift_141 : decode cX10_shift 141 = .ok (.iload 6, 2) := by decide +kernel
theorem dX10_shift_143 : decode cX10_shift 143 = .ok (.iload 5, 2) := by decide +kernel
theorem dX10_shift_145 : decode cX10_shift 145 = .ok (.if_icmp .ge 31, 3) := by decide +kernel
theorem dX10_shift_148 : decode cX10_shift 148 = .ok (.aload_n 0, 1) := by decide +kernel
theorem dX10_shift_149 : decode cX10_shift 149 = .ok (.getfield 238, 3) := by decide +kernel
theorem dX10_shift_152 : decode cX10_shift 152 = .ok (.bipush 60, 2) := by decide +kernel
theorem dX10_shift_154 : decode cX10_shift 154 = .ok (.iload_n 3, 1) := by decide +kernel
theorem dX10_shift_155 : decode cX10_shift 155 = .ok (.imul, 1) := by decide +kernel
theorem dX10_shift_156 : decode cX10_shift 156 = .ok (.iload 4, 2) := by decide +kernel
theorem dX10_shift_158 : decode cX10_shift 158 = .ok (.iadd, 1) := by decide +kernel
theorem dX10_shift_159 : decode cX10_shift 159 = .ok (.iload 6, 2) := by decide +kernel
theorem dX10_shift_161 : decode cX10_shift 161 = .ok (.iadd, 1) := by decide +kernel
theorem dX10_shift_162 : decode cX10_shift 162 = .ok (.aload_n 0, 1) := by decide +kernel
theorem dX10_shift_163 : decode cX10_shift 163 = .ok (.getfield 242, 3) := by decide +kernel
theorem dX10_shift_166 : decode cX10_shift 166 = .ok (.iload 6, 2) := by decide +kernel
theorem dX10_shift_168 : decode cX10_shift 168 = .ok (.laload, 1) := by decide +kernel
theorem dX10_shift_169 : decode cX10_shift 169 = .ok (.lastore, 1) := by decide +kernel
theorem dX10_shift_170 : decode cX10_shift 170 = .ok (.iinc 6 1, 3) := by decide +kernel
theorem dX10_shift_173 : decode cX10_shift 173 = .ok (.goto (-32), 3) := by decide +kernel
theorem dX10_shift_176 : decode cX10_shift 176 = .ok (.iload 5, 2) := by decide +kernel
theorem dX10_shift_178 : decode cX10_shift 178 = .ok (.ireturn, 1) := by decide +kernel
def f_X10_shift_L104 (X : x_X) (k138 : Nat → Int32 → Int32 → Int32 → x_M → Option (Int32 × x_M)) : Nat → Nat → Int32 → Int32 → Int32 → Int32 → Int32 → Int32 → x_M → Option (Int32 × x_M)
  | 0, _, _, _, _, _, _, _, _ => none
  | n + 1, v17, v18, v19, v20, v21, v22, v23, μ24 =>
    (if v22 ≤ v23 then (k138 v17 v20 v21 v22 μ24) else (ck (x_kd X v17 = 10 + 1) (lt (μ24.2.1 v17 76) (fun (v25 : Nat) => (ck (x_kd X v17 = 10 + 1) (lt (μ24.2.1 v17 75) (fun (v26 : Nat) => (lt ((((60 : Int32) * v18) + v19) + v23) (fun (v27 : Int32) => (ck (x_kd X v26 = 21 ∧ x_ix v27 (x_ln X v26)) (ck (x_kd X v25 = 21 ∧ x_ix v23 (x_ln X v25)) (lt (x_sJ μ24 v25 (v23).toNatClampNeg (μ24.2.2 v26 (v27).toNatClampNeg)) (fun (μ28 : x_M) => (f_X10_shift_L104 X k138 n v17 v18 v19 v20 v21 v22 (v23 + (1 : Int32)) μ28))))))))))))))
set_option maxRecDepth 100000 in
theorem j_X10_shift_L104 (hI : x_I X) (hC : x_C X x_Z0 p (x_rm 3) s m c cX10_shift RX10 7 0 0 3) (hr : meth.sig.returnType = (some .int)) (hlk : meth.locks = false) {k138 : Nat → Int32 → Int32 → Int32 → x_M → Option (Int32 × x_M)} (hk138 : ∀ (b0 : Nat) (b3 : Int32) (b4 : Int32) (b5 : Int32) (μ : x_M), SM X 7 3 rkI p l e s m args below meth c 138 [(0, vR b0), (3, vI b3), (4, vI b4), (5, vI b5)] [] μ (k138 b0 b3 b4 b5 μ)) : ∀ (n : Nat) (v17 : Nat) (v18 : Int32) (v19 : Int32) (v20 : Int32) (v21 : Int32) (v22 : Int32) (v23 : Int32) (μ24 : x_M), SM X 7 3 rkI p l e s m args below meth c 104 [(0, vR v17), (1, vI v18), (2, vI v19), (3, vI v20), (4, vI v21), (5, vI v22), (6, vI v23)] [] μ24 (f_X10_shift_L104 X k138 n v17 v18 v19 v20 v21 v22 v23 μ24) := by
  intro n
  induction n with
  | zero => intro v17 v18 v19 v20 v21 v22 v23 μ24; exact s_none
  | succ n ih =>
    intro v17 v18 v19 v20 v21 v22 v23 μ24
    unfold f_X10_shift_L104
    refine s_iload hC 6 dX10_shift_104 rfl ?_
    refine s_iload hC 5 dX10_shift_106 rfl ?_
    refine s_icmp_ge hC dX10_shift_108 (tgt := 138) (by decide) ?_ ?_
    · refine s_lv (lv' := [(0, vR v17), (3, vI v20), (4, vI v21), (5, vI v22)]) [0, 3, 4, 5] rfl ?_
      exact hk138 _ _ _ _ _
    refine s_aload_n hC 0 dX10_shift_111 rfl ?_
    refine s_getR hC xc10 (by decide) rfl qf_X10_242 dX10_shift_112 ?_
    refine s_ltR (fun v25 => ?_)
    refine s_iload hC 6 dX10_shift_115 rfl ?_
    refine s_aload_n hC 0 dX10_shift_117 rfl ?_
    refine s_getR hC xc10 (by decide) rfl qf_X10_238 dX10_shift_118 ?_
    refine s_ltR (fun v26 => ?_)
    refine s_bipush hC dX10_shift_121 (v := 60) (by decide) ?_
    refine s_iload_n hC 1 dX10_shift_123 rfl ?_
    refine s_imul hC dX10_shift_124 ?_
    refine s_iload_n hC 2 dX10_shift_125 rfl ?_
    refine s_iadd hC dX10_shift_126 ?_
    refine s_iload hC 6 dX10_shift_127 rfl ?_
    refine s_iadd hC dX10_shift_129 ?_
    refine s_ltI (fun v27 => ?_)
    refine s_lald hC dX10_shift_130 ?_
    refine s_last hC dX10_shift_131 ?_
    refine s_ltM (fun μ28 => ?_)
    refine s_iinc hC 6 dX10_shift_132 rfl (w := 1) (by decide) (by decide) (lv' := [(6, vI (v23 + (1 : Int32))), (0, vR v17), (1, vI v18), (2, vI v19), (3, vI v20), (4, vI v21), (5, vI v22)]) rfl ?_
    refine s_goto hC dX10_shift_135 (tgt := 104) (by decide) ?_
    refine s_lv (lv' := [(0, vR v17), (1, vI v18), (2, vI v19), (3, vI v20), (4, vI v21), (5, vI v22), (6, vI (v23 + (1 : Int32)))]) [1, 2, 3, 4, 5, 6, 0] rfl ?_
    exact ih _ _ _ _ _ _ _ _
def f_X10_shift_L141 (X : x_X) : Nat → Nat → Int32 → Int32 → Int32 → Int32 → x_M → Option (Int32 × x_M)
  | 0, _, _, _, _, _, _ => none
  | n + 1, v34, v35, v36, v37, v38, μ39 =>
    (if v37 ≤ v38 then (some (v37, μ39)) else (ck (x_kd X v34 = 10 + 1) (lt (μ39.2.1 v34 75) (fun (v40 : Nat) => (ck (x_kd X v34 = 10 + 1) (lt (μ39.2.1 v34 76) (fun (v41 : Nat) => (ck (x_kd X v41 = 21 ∧ x_ix v38 (x_ln X v41)) (lt ((((60 : Int32) * v35) + v36) + v38) (fun (v42 : Int32) => (ck (x_kd X v40 = 21 ∧ x_ix v42 (x_ln X v40)) (lt (x_sJ μ39 v40 (v42).toNatClampNeg (μ39.2.2 v41 (v38).toNatClampNeg)) (fun (μ43 : x_M) => (f_X10_shift_L141 X n v34 v35 v36 v37 (v38 + (1 : Int32)) μ43))))))))))))))
set_option maxRecDepth 100000 in
theorem j_X10_shift_L141 (hI : x_I X) (hC : x_C X x_Z0 p (x_rm 3) s m c cX10_shift RX10 7 0 0 3) (hr : meth.sig.returnType = (some .int)) (hlk : meth.locks = false) : ∀ (n : Nat) (v34 : Nat) (v35 : Int32) (v36 : Int32) (v37 : Int32) (v38 : Int32) (μ39 : x_M), SM X 7 3 rkI p l e s m args below meth c 141 [(0, vR v34), (3, vI v35), (4, vI v36), (5, vI v37), (6, vI v38)] [] μ39 (f_X10_shift_L141 X n v34 v35 v36 v37 v38 μ39) := by
  intro n
  induction n with
  | zero => intro v34 v35 v36 v37 v38 μ39; exact s_none
  | succ n ih =>
    intro v34 v35 v36 v37 v38 μ39
    unfold f_X10_shift_L141
    refine s_iload hC 4 dX10_shift_141 rfl ?_
    refine s_iload hC 3 dX10_shift_143 rfl ?_
    refine s_icmp_ge hC dX10_shift_145 (tgt := 176) (by decide) ?_ ?_
    · refine s_iload hC 3 dX10_shift_176 rfl ?_
      exact s_iret hC hr hlk dX10_shift_178
    refine s_aload_n hC 0 dX10_shift_148 rfl ?_
    refine s_getR hC xc10 (by decide) rfl qf_X10_238 dX10_shift_149 ?_
    refine s_ltR (fun v40 => ?_)
    refine s_bipush hC dX10_shift_152 (v := 60) (by decide) ?_
    refine s_iload_n hC 1 dX10_shift_154 rfl ?_
    refine s_imul hC dX10_shift_155 ?_
    refine s_iload hC 2 dX10_shift_156 rfl ?_
    refine s_iadd hC dX10_shift_158 ?_
    refine s_iload hC 4 dX10_shift_159 rfl ?_
    refine s_iadd hC dX10_shift_161 ?_
    refine s_aload_n hC 0 dX10_shift_162 rfl ?_
    refine s_getR hC xc10 (by decide) rfl qf_X10_242 dX10_shift_163 ?_
    refine s_ltR (fun v41 => ?_)
    refine s_iload hC 4 dX10_shift_166 rfl ?_
    refine s_lald hC dX10_shift_168 ?_
    refine s_ltI2 (fun v42 => ?_)
    refine s_last hC dX10_shift_169 ?_
    refine s_ltM (fun μ43 => ?_)
    refine s_iinc hC 4 dX10_shift_170 rfl (w := 1) (by decide) (by decide) (lv' := [(6, vI (v38 + (1 : Int32))), (0, vR v34), (3, vI v35), (4, vI v36), (5, vI v37)]) rfl ?_
    refine s_goto hC dX10_shift_173 (tgt := 141) (by decide) ?_
    refine s_lv (lv' := [(0, vR v34), (3, vI v35), (4, vI v36), (5, vI v37), (6, vI (v38 + (1 : Int32)))]) [1, 2, 3, 4, 0] rfl ?_
    exact ih _ _ _ _ _ _
def f_X10_shift (X : x_X) (v0 : Nat) (v1 : Int32) (v2 : Int32) (v3 : Int32) (v4 : Int32) (v5 : Int32) (μ : x_M) : Option (Int32 × x_M) :=
  (ck (x_kd X v0 = 10 + 1) (bd (f_X10_isTape X v0 v1 μ) (fun (v7 : Int32) (μ8 : x_M) => (if v7 = 0 then (some ((-1 : Int32), μ8)) else (ck (x_kd X v0 = 10 + 1) (bd (f_X10_isTape X v0 v3 μ8) (fun (v9 : Int32) (μ10 : x_M) => (if v9 = 0 then (some ((-1 : Int32), μ10)) else (ck (x_kd X v0 = 10 + 1) (lt (μ10.2.1 v0 73) (fun (v11 : Nat) => (ck ((x_kd X v11 = 20 ∨ x_kd X v11 = 40) ∧ x_ix v1 (x_ln X v11)) (if (μ10.1 v11 (v1).toNatClampNeg) < 0 then (some ((-11 : Int32), μ10)) else (ck (x_kd X v0 = 10 + 1) (lt (μ10.2.1 v0 73) (fun (v12 : Nat) => (ck ((x_kd X v12 = 20 ∨ x_kd X v12 = 40) ∧ x_ix v3 (x_ln X v12)) (if 0 ≤ (μ10.1 v12 (v3).toNatClampNeg) then (ck (x_kd X v0 = 10 + 1) (lt (μ10.2.1 v0 73) (fun (v13 : Nat) => (ck ((x_kd X v13 = 20 ∨ x_kd X v13 = 40) ∧ x_ix v1 (x_ln X v13)) (ck (x_kd X v0 = 10 + 1) (lt (μ10.2.1 v0 73) (fun (v14 : Nat) => (ck ((x_kd X v14 = 20 ∨ x_kd X v14 = 40) ∧ x_ix v3 (x_ln X v14)) (if (μ10.1 v13 (v1).toNatClampNeg) = (μ10.1 v14 (v3).toNatClampNeg) then (if v5 < 0 then (some ((-13 : Int32), μ10)) else (if v2 < 0 then (some ((-13 : Int32), μ10)) else (if v4 < 0 then (some ((-13 : Int32), μ10)) else (ck (x_kd X v0 = 10 + 1) (lt (μ10.2.1 v0 74) (fun (v15 : Nat) => (ck ((x_kd X v15 = 20 ∨ x_kd X v15 = 40) ∧ x_ix v1 (x_ln X v15)) (if ((μ10.1 v15 (v1).toNatClampNeg) - v5) < v2 then (some ((-13 : Int32), μ10)) else (ck (x_kd X v0 = 10 + 1) (lt (μ10.2.1 v0 74) (fun (v16 : Nat) => (ck ((x_kd X v16 = 20 ∨ x_kd X v16 = 40) ∧ x_ix v3 (x_ln X v16)) (if v4 ≤ ((μ10.1 v16 (v3).toNatClampNeg) - v5) then (f_X10_shift_L104 X (fun (v29 : Nat) (v30 : Int32) (v31 : Int32) (v32 : Int32) (μ33 : x_M) => (f_X10_shift_L141 X 4096 v29 v30 v31 v32 (0 : Int32) μ33)) 4096 v0 v1 v2 v3 v4 v5 (0 : Int32) μ10) else (some ((-13 : Int32), μ10))))))))))))))) else (some ((-12 : Int32), μ10))))))))))) else (some ((-11 : Int32), μ10))))))))))))))))))))
set_option maxRecDepth 100000 in
theorem m_X10_shift (hI : x_I X) (v0 : Nat) (v1 : Int32) (v2 : Int32) (v3 : Int32) (v4 : Int32) (v5 : Int32) (μ : x_M) : x_Met X x_Z0 l yX10_shift cX10_shift 7 (some .int) 3 [vR v0, vI v1, vI v2, vI v3, vI v4, vI v5] μ rkI (f_X10_shift X v0 v1 v2 v3 v4 v5 μ) := by
  refine x_enter hI (by decide +kernel) (Nat.le_of_ble_eq_true rfl) (fun p e s m args below meth c hC hr hlk => ?_)
  unfold f_X10_shift
  refine s_lv (lv' := [(0, vR v0), (1, vI v1), (2, vI v2), (3, vI v3), (4, vI v4), (5, vI v5)]) [0, 1, 2, 3, 4, 5] rfl ?_
  refine s_aload_n hC 0 dX10_shift_0 rfl ?_
  refine s_iload_n hC 1 dX10_shift_1 rfl ?_
  refine s_callV hC (x := v0) (avs := [vI v1]) (st := []) (nest := false) xc10 (m_X10_isTape hI v0 v1 μ) dX10_shift_2 qm_X10_398 qi_X10_isTape qs_X10_isTape qc_X10 qd_X10_isTape qh_X10_isTape (by decide) (fun _ => Nat.le_of_ble_eq_true rfl) (Nat.le_of_ble_eq_true rfl) (fun v7 μ8 => ?_)
  refine s_if_eq hC dX10_shift_5 (tgt := 16) (by decide) ?_ ?_
  · refine s_iconst hC dX10_shift_16 (v := -1) (by decide) ?_
    exact s_iret hC hr hlk dX10_shift_17
  refine s_aload_n hC 0 dX10_shift_8 rfl ?_
  refine s_iload_n hC 3 dX10_shift_9 rfl ?_
  refine s_callV hC (x := v0) (avs := [vI v3]) (st := []) (nest := false) xc10 (m_X10_isTape hI v0 v3 μ8) dX10_shift_10 qm_X10_398 qi_X10_isTape qs_X10_isTape qc_X10 qd_X10_isTape qh_X10_isTape (by decide) (fun _ => Nat.le_of_ble_eq_true rfl) (Nat.le_of_ble_eq_true rfl) (fun v9 μ10 => ?_)
  refine s_if_ne hC dX10_shift_13 (tgt := 18) (by decide) ?_ ?_
  · refine s_aload_n hC 0 dX10_shift_18 rfl ?_
    refine s_getR hC xc10 (by decide) rfl qf_X10_232 dX10_shift_19 ?_
    refine s_ltR (fun v11 => ?_)
    refine s_iload_n hC 1 dX10_shift_22 rfl ?_
    refine s_iald hC dX10_shift_23 ?_
    refine s_if_lt hC dX10_shift_24 (tgt := 36) (by decide) ?_ ?_
    · refine s_bipush hC dX10_shift_36 (v := -11) (by decide) ?_
      exact s_iret hC hr hlk dX10_shift_38
    refine s_aload_n hC 0 dX10_shift_27 rfl ?_
    refine s_getR hC xc10 (by decide) rfl qf_X10_232 dX10_shift_28 ?_
    refine s_ltR (fun v12 => ?_)
    refine s_iload_n hC 3 dX10_shift_31 rfl ?_
    refine s_iald hC dX10_shift_32 ?_
    refine s_if_ge hC dX10_shift_33 (tgt := 39) (by decide) ?_ ?_
    · refine s_aload_n hC 0 dX10_shift_39 rfl ?_
      refine s_getR hC xc10 (by decide) rfl qf_X10_232 dX10_shift_40 ?_
      refine s_ltR (fun v13 => ?_)
      refine s_iload_n hC 1 dX10_shift_43 rfl ?_
      refine s_iald hC dX10_shift_44 ?_
      refine s_aload_n hC 0 dX10_shift_45 rfl ?_
      refine s_getR hC xc10 (by decide) rfl qf_X10_232 dX10_shift_46 ?_
      refine s_ltR (fun v14 => ?_)
      refine s_iload_n hC 3 dX10_shift_49 rfl ?_
      refine s_iald hC dX10_shift_50 ?_
      refine s_icmp_eq hC dX10_shift_51 (tgt := 57) (by decide) ?_ ?_
      · refine s_iload hC 5 dX10_shift_57 rfl ?_
        refine s_if_lt hC dX10_shift_59 (tgt := 98) (by decide) ?_ ?_
        · refine s_bipush hC dX10_shift_98 (v := -13) (by decide) ?_
          exact s_iret hC hr hlk dX10_shift_100
        refine s_iload_n hC 2 dX10_shift_62 rfl ?_
        refine s_if_lt hC dX10_shift_63 (tgt := 98) (by decide) ?_ ?_
        · refine s_bipush hC dX10_shift_98 (v := -13) (by decide) ?_
          exact s_iret hC hr hlk dX10_shift_100
        refine s_iload hC 4 dX10_shift_66 rfl ?_
        refine s_if_lt hC dX10_shift_68 (tgt := 98) (by decide) ?_ ?_
        · refine s_bipush hC dX10_shift_98 (v := -13) (by decide) ?_
          exact s_iret hC hr hlk dX10_shift_100
        refine s_iload_n hC 2 dX10_shift_71 rfl ?_
        refine s_aload_n hC 0 dX10_shift_72 rfl ?_
        refine s_getR hC xc10 (by decide) rfl qf_X10_235 dX10_shift_73 ?_
        refine s_ltR (fun v15 => ?_)
        refine s_iload_n hC 1 dX10_shift_76 rfl ?_
        refine s_iald hC dX10_shift_77 ?_
        refine s_iload hC 5 dX10_shift_78 rfl ?_
        refine s_isub hC dX10_shift_80 ?_
        refine s_icmp_gt hC dX10_shift_81 (tgt := 98) (by decide) ?_ ?_
        · refine s_bipush hC dX10_shift_98 (v := -13) (by decide) ?_
          exact s_iret hC hr hlk dX10_shift_100
        refine s_iload hC 4 dX10_shift_84 rfl ?_
        refine s_aload_n hC 0 dX10_shift_86 rfl ?_
        refine s_getR hC xc10 (by decide) rfl qf_X10_235 dX10_shift_87 ?_
        refine s_ltR (fun v16 => ?_)
        refine s_iload_n hC 3 dX10_shift_90 rfl ?_
        refine s_iald hC dX10_shift_91 ?_
        refine s_iload hC 5 dX10_shift_92 rfl ?_
        refine s_isub hC dX10_shift_94 ?_
        refine s_icmp_le hC dX10_shift_95 (tgt := 101) (by decide) ?_ ?_
        · refine s_iconst hC dX10_shift_101 (v := 0) (by decide) ?_
          refine s_istore hC dX10_shift_102 (by decide) (lv' := [(6, vI (0 : Int32)), (0, vR v0), (1, vI v1), (2, vI v2), (3, vI v3), (4, vI v4), (5, vI v5)]) rfl ?_
          refine s_lv (lv' := [(0, vR v0), (1, vI v1), (2, vI v2), (3, vI v3), (4, vI v4), (5, vI v5), (6, vI (0 : Int32))]) [1, 2, 3, 4, 5, 6, 0] rfl ?_
          refine j_X10_shift_L104 hI hC hr hlk (fun v29 v30 v31 v32 μ33 => ?_) 4096 _ _ _ _ _ _ _ _
          refine s_iconst hC dX10_shift_138 (v := 0) (by decide) ?_
          refine s_istore hC dX10_shift_139 (by decide) (lv' := [(6, vI (0 : Int32)), (0, vR v29), (3, vI v30), (4, vI v31), (5, vI v32)]) rfl ?_
          refine s_lv (lv' := [(0, vR v29), (3, vI v30), (4, vI v31), (5, vI v32), (6, vI (0 : Int32))]) [1, 2, 3, 4, 0] rfl ?_
          refine j_X10_shift_L141 hI hC hr hlk 4096 _ _ _ _ _ _
        refine s_bipush hC dX10_shift_98 (v := -13) (by decide) ?_
        exact s_iret hC hr hlk dX10_shift_100
      refine s_bipush hC dX10_shift_54 (v := -12) (by decide) ?_
      exact s_iret hC hr hlk dX10_shift_56
    refine s_bipush hC dX10_shift_36 (v := -11) (by decide) ?_
    exact s_iret hC hr hlk dX10_shift_38
  refine s_iconst hC dX10_shift_16 (v := -1) (by decide) ?_
  exact s_iret hC hr hlk dX10_shift_17
theorem dX10_takesTest_0 : decode cX10_takesTest 0 = .ok (.aload_n 0, 1) := by decide +kernel
theorem dX10_takesTest_1 : decode cX10_takesTest 1 = .ok (.aload_n 0, 1) := by decide +kernel
theorem dX10_takesTest_2 : decode cX10_takesTest 2 = .ok (.invokevirtual 260, 3) := by decide +kernel
theorem dX10_takesTest_5 : decode cX10_takesTest 5 = .ok (.invokevirtual 275, 3) := by decide +kernel
theorem dX10_takesTest_8 : decode cX10_takesTest 8 = .ok (.istore_n 1, 1) := by decide +kernel
theorem dX10_takesTest_9 : decode cX10_takesTest 9 = .ok (.iload_n 1, 1) := by decide +kernel
theorem dX10_takesTest_10 : decode cX10_takesTest 10 = .ok (.ifCond .ge 5, 3) := by decide +kernel
theorem dX10_takesTest_13 : decode cX10_takesTest 13 = .ok (.iconst 0, 1) := by decide +kernel
theorem dX10_takesTest_14 : decode cX10_takesTest 14 = .ok (.ireturn, 1) := by decide +kernel
theorem dX10_takesTest_15 : decode cX10_takesTest 15 = .ok (.aload_n 0, 1) := by decide +kernel
theorem dX10_takesTest_16 : decode cX10_takesTest 16 = .ok (.dup, 1) := by decide +kernel
theorem dX10_takesTest_17 : decode cX10_takesTest 17 = .ok (.getfield 53, 3) := by decide +kernel
theorem dX10_takesTest_20 : decode cX10_takesTest 20 = .ok (.iconst 1, 1) := by decide +kernel
theorem dX10_takesTest_21 : decode cX10_takesTest 21 = .ok (.iadd, 1) := by decide +kernel
theorem dX10_takesTest_22 : decode cX10_takesTest 22 = .ok (.putfield 53, 3) := by decide +kernel
theorem dX10_takesTest_25 : decode cX10_takesTest 25 = .ok (.aload_n 0, 1) := by decide +kernel
theorem dX10_takesTest_26 : decode cX10_takesTest 26 = .ok (.invokevirtual 260, 3) := by decide +kernel
theorem dX10_takesTest_29 : decode cX10_takesTest 29 = .ok (.istore_n 2, 1) := by decide +kernel
theorem dX10_takesTest_30 : decode cX10_takesTest 30 = .ok (.aload_n 0, 1) := by decide +kernel
theorem dX10_takesTest_31 : decode cX10_takesTest 31 = .ok (.iload_n 2, 1) := by decide +kernel
theorem dX10_takesTest_32 : decode cX10_takesTest 32 = .ok (.bipush 60, 2) := by decide +kernel
theorem dX10_takesTest_34 : decode cX10_takesTest 34 = .ok (.bipush 62, 2) := by decide +kernel
theorem dX10_takesTest_36 : decode cX10_takesTest 36 = .ok (.invokevirtual 245, 3) := by decide +kernel
theorem dX10_takesTest_39 : decode cX10_takesTest 39 = .ok (.ifCond .ne 5, 3) := by decide +kernel
theorem dX10_takesTest_42 : decode cX10_takesTest 42 = .ok (.iconst 0, 1) := by decide +kernel
theorem dX10_takesTest_43 : decode cX10_takesTest 43 = .ok (.ireturn, 1) := by decide +kernel
theorem dX10_takesTest_44 : decode cX10_takesTest 44 = .ok (.aload_n 0, 1) := by decide +kernel
theorem dX10_takesTest_45 : decode cX10_takesTest 45 = .ok (.dup, 1) := by decide +kernel
theorem dX10_takesTest_46 : decode cX10_takesTest 46 = .ok (.getfield 53, 3) := by decide +kernel
theorem dX10_takesTest_49 : decode cX10_takesTest 49 = .ok (.iconst 1, 1) := by decide +kernel
theorem dX10_takesTest_50 : decode cX10_takesTest 50 = .ok (.iadd, 1) := by decide +kernel
theorem dX10_takesTest_51 : decode cX10_takesTest 51 = .ok (.putfield 53, 3) := by decide +kernel
theorem dX10_takesTest_54 : decode cX10_takesTest 54 = .ok (.aload_n 0, 1) := by decide +kernel
theorem dX10_takesTest_55 : decode cX10_takesTest 55 = .ok (.invokevirtual 278, 3) := by decide +kernel
theorem dX10_takesTest_58 : decode cX10_takesTest 58 = .ok (.ifCond .ne 5, 3) := by decide +kernel
theorem dX10_takesTest_61 : decode cX10_takesTest 61 = .ok (.iconst 0, 1) := by decide +kernel
theorem dX10_takesTest_62 : decode cX10_takesTest 62 = .ok (.ireturn, 1) := by decide +kernel
theorem dX10_takesTest_63 : decode cX10_takesTest 63 = .ok (.aload_n 0, 1) := by decide +kernel
theorem dX10_takesTest_64 : decode cX10_takesTest 64 = .ok (.sipush 1000, 3) := by decide +kernel
theorem dX10_takesTest_67 : decode cX10_takesTest 67 = .ok (.iload_n 1, 1) := by decide +kernel
theorem dX10_takesTest_68 : decode cX10_takesTest 68 = .ok (.imul, 1) := by decide +kernel
theorem dX10_takesTest_69 : decode cX10_takesTest 69 = .ok (.bipush 100, 2) := by decide +kernel
theorem dX10_takesTest_71 : decode cX10_takesTest 71 = .ok (.iload_n 2, 1) := by decide +kernel
theorem dX10_takesTest_72 : decode cX10_takesTest 72 = .ok (.bipush 60, 2) := by decide +kernel
theorem dX10_takesTest_74 : decode cX10_takesTest 74 = .ok (.isub, 1) := by decide +kernel
theorem dX10_takesTest_75 : decode cX10_takesTest 75 = .ok (.imul, 1) := by decide +kernel
theorem dX10_takesTest_76 : decode cX10_takesTest 76 = .ok (.iadd, 1) := by decide +kernel
theorem dX10_takesTest_77 : decode cX10_takesTest 77 = .ok (.aload_n 0, 1) := by decide +kernel
theorem dX10_takesTest_78 : decode cX10_takesTest 78 = .ok (.getfield 56, 3) := by decide +kernel
theorem dX10_takesTest_81 : decode cX10_takesTest 81 = .ok (.iadd, 1) := by decide +kernel
theorem dX10_takesTest_82 : decode cX10_takesTest 82 = .ok (.invokevirtual 271, 3) := by decide +kernel
theorem dX10_takesTest_85 : decode cX10_takesTest 85 = .ok (.aload_n 0, 1) := by decide +kernel
theorem dX10_takesTest_86 : decode cX10_takesTest 86 = .ok (.invokevirtual 281, 3) := by decide +kernel
theorem dX10_takesTest_89 : decode cX10_takesTest 89 = .ok (.iconst 1, 1) := by decide +kernel
theorem dX10_takesTest_90 : decode cX10_takesTest 90 = .ok (.ireturn, 1) := by decide +kernel
def f_X10_takesTest (X : x_X) (v0 : Nat) (μ : x_M) : Option (Int32 × x_M) :=
  (ck (x_kd X v0 = 10 + 1) (bd (f_X10_next X v0 μ) (fun (v2 : Int32) (μ3 : x_M) => (ck (x_kd X v0 = 10 + 1) (bd (f_X10_place X v0 v2 μ3) (fun (v4 : Int32) (μ5 : x_M) => (if 0 ≤ v4 then (ck (x_kd X v0 = 10 + 1) (ck (x_kd X v0 = 10 + 1) (lt (x_sI μ5 v0 14 ((μ5.1 v0 14) + (1 : Int32))) (fun (μ6 : x_M) => (ck (x_kd X v0 = 10 + 1) (bd (f_X10_next X v0 μ6) (fun (v7 : Int32) (μ8 : x_M) => (ck (x_kd X v0 = 10 + 1) (bd (f_X10_in X v0 v7 (60 : Int32) (62 : Int32) μ8) (fun (v9 : Int32) (μ10 : x_M) => (if v9 = 0 then (ck ((0 : Int32) = 0 ∨ (0 : Int32) = 1) (some ((0 : Int32), μ10))) else (ck (x_kd X v0 = 10 + 1) (ck (x_kd X v0 = 10 + 1) (lt (x_sI μ10 v0 14 ((μ10.1 v0 14) + (1 : Int32))) (fun (μ11 : x_M) => (ck (x_kd X v0 = 10 + 1) (bd (f_X10_takesNumber X v0 μ11) (fun (v12 : Int32) (μ13 : x_M) => (if v12 = 0 then (ck ((0 : Int32) = 0 ∨ (0 : Int32) = 1) (some ((0 : Int32), μ13))) else (ck (x_kd X v0 = 10 + 1) (ck (x_kd X v0 = 10 + 1) (bd (f_X10_emits X v0 ((((1000 : Int32) * v4) + ((100 : Int32) * (v7 - (60 : Int32)))) + (μ13.1 v0 15)) μ13) (fun (_ : Unit) (μ14 : x_M) => (ck (x_kd X v0 = 10 + 1) (bd (f_X10_whole X v0 μ14) (fun (_ : Unit) (μ15 : x_M) => (ck ((1 : Int32) = 0 ∨ (1 : Int32) = 1) (some ((1 : Int32), μ15))))))))))))))))))))))))))))) else (ck ((0 : Int32) = 0 ∨ (0 : Int32) = 1) (some ((0 : Int32), μ5))))))))))
set_option maxRecDepth 100000 in
theorem m_X10_takesTest (hI : x_I X) (v0 : Nat) (μ : x_M) : x_Met X x_Z0 l yX10_takesTest cX10_takesTest 3 (some .boolean) 4 [vR v0] μ rkI (f_X10_takesTest X v0 μ) := by
  refine x_enter hI (by decide +kernel) (Nat.le_of_ble_eq_true rfl) (fun p e s m args below meth c hC hr hlk => ?_)
  unfold f_X10_takesTest
  refine s_lv (lv' := [(0, vR v0)]) [0] rfl ?_
  refine s_aload_n hC 0 dX10_takesTest_0 rfl ?_
  refine s_aload_n hC 0 dX10_takesTest_1 rfl ?_
  refine s_callV hC (x := v0) (avs := []) (st := [vR v0]) (nest := false) xc10 (m_X10_next hI v0 μ) dX10_takesTest_2 qm_X10_260 qi_X10_next qs_X10_next qc_X10 qd_X10_next qh_X10_next (by decide) (fun _ => Nat.le_of_ble_eq_true rfl) (Nat.le_of_ble_eq_true rfl) (fun v2 μ3 => ?_)
  refine s_callV hC (x := v0) (avs := [vI v2]) (st := []) (nest := false) xc10 (m_X10_place hI v0 v2 μ3) dX10_takesTest_5 qm_X10_275 qi_X10_place qs_X10_place qc_X10 qd_X10_place qh_X10_place (by decide) (fun _ => Nat.le_of_ble_eq_true rfl) (Nat.le_of_ble_eq_true rfl) (fun v4 μ5 => ?_)
  refine s_istore_n hC dX10_takesTest_8 (by decide) (lv' := [(1, vI v4), (0, vR v0)]) rfl ?_
  refine s_iload_n hC 0 dX10_takesTest_9 rfl ?_
  refine s_if_ge hC dX10_takesTest_10 (tgt := 15) (by decide) ?_ ?_
  · refine s_aload_n hC 1 dX10_takesTest_15 rfl ?_
    refine s_dupR hC dX10_takesTest_16 ?_
    refine s_getI hC xc10 (by decide) rfl qf_X10_53 dX10_takesTest_17 ?_
    refine s_iconst hC dX10_takesTest_20 (v := 1) (by decide) ?_
    refine s_iadd hC dX10_takesTest_21 ?_
    refine s_putI hC xc10 (by decide) rfl rfl qf_X10_53 dX10_takesTest_22 ?_
    refine s_ltM (fun μ6 => ?_)
    refine s_aload_n hC 1 dX10_takesTest_25 rfl ?_
    refine s_callV hC (x := v0) (avs := []) (st := []) (nest := false) xc10 (m_X10_next hI v0 μ6) dX10_takesTest_26 qm_X10_260 qi_X10_next qs_X10_next qc_X10 qd_X10_next qh_X10_next (by decide) (fun _ => Nat.le_of_ble_eq_true rfl) (Nat.le_of_ble_eq_true rfl) (fun v7 μ8 => ?_)
    refine s_istore_n hC dX10_takesTest_29 (by decide) (lv' := [(2, vI v7), (1, vI v4), (0, vR v0)]) rfl ?_
    refine s_aload_n hC 2 dX10_takesTest_30 rfl ?_
    refine s_iload_n hC 0 dX10_takesTest_31 rfl ?_
    refine s_bipush hC dX10_takesTest_32 (v := 60) (by decide) ?_
    refine s_bipush hC dX10_takesTest_34 (v := 62) (by decide) ?_
    refine s_callV hC (x := v0) (avs := [vI v7, vI (60 : Int32), vI (62 : Int32)]) (st := []) (nest := false) xc10 (m_X10_in hI v0 v7 (60 : Int32) (62 : Int32) μ8) dX10_takesTest_36 qm_X10_245 qi_X10_in qs_X10_in qc_X10 qd_X10_in qh_X10_in (by decide) (fun _ => Nat.le_of_ble_eq_true rfl) (Nat.le_of_ble_eq_true rfl) (fun v9 μ10 => ?_)
    refine s_if_ne hC dX10_takesTest_39 (tgt := 44) (by decide) ?_ ?_
    · refine s_aload_n hC 2 dX10_takesTest_44 rfl ?_
      refine s_dupR hC dX10_takesTest_45 ?_
      refine s_getI hC xc10 (by decide) rfl qf_X10_53 dX10_takesTest_46 ?_
      refine s_iconst hC dX10_takesTest_49 (v := 1) (by decide) ?_
      refine s_iadd hC dX10_takesTest_50 ?_
      refine s_putI hC xc10 (by decide) rfl rfl qf_X10_53 dX10_takesTest_51 ?_
      refine s_ltM (fun μ11 => ?_)
      refine s_aload_n hC 2 dX10_takesTest_54 rfl ?_
      refine s_callV hC (x := v0) (avs := []) (st := []) (nest := false) xc10 (m_X10_takesNumber hI v0 μ11) dX10_takesTest_55 qm_X10_278 qi_X10_takesNumber qs_X10_takesNumber qc_X10 qd_X10_takesNumber qh_X10_takesNumber (by decide) (fun _ => Nat.le_of_ble_eq_true rfl) (Nat.le_of_ble_eq_true rfl) (fun v12 μ13 => ?_)
      refine s_if_ne hC dX10_takesTest_58 (tgt := 63) (by decide) ?_ ?_
      · refine s_aload_n hC 2 dX10_takesTest_63 rfl ?_
        refine s_sipush hC dX10_takesTest_64 (v := 1000) (by decide) ?_
        refine s_iload_n hC 1 dX10_takesTest_67 rfl ?_
        refine s_imul hC dX10_takesTest_68 ?_
        refine s_bipush hC dX10_takesTest_69 (v := 100) (by decide) ?_
        refine s_iload_n hC 0 dX10_takesTest_71 rfl ?_
        refine s_bipush hC dX10_takesTest_72 (v := 60) (by decide) ?_
        refine s_isub hC dX10_takesTest_74 ?_
        refine s_imul hC dX10_takesTest_75 ?_
        refine s_iadd hC dX10_takesTest_76 ?_
        refine s_aload_n hC 2 dX10_takesTest_77 rfl ?_
        refine s_getI hC xc10 (by decide) rfl qf_X10_56 dX10_takesTest_78 ?_
        refine s_iadd hC dX10_takesTest_81 ?_
        refine s_callV hC (x := v0) (avs := [vI ((((1000 : Int32) * v4) + ((100 : Int32) * (v7 - (60 : Int32)))) + (μ13.1 v0 15))]) (st := []) (nest := false) xc10 (m_X10_emits hI v0 ((((1000 : Int32) * v4) + ((100 : Int32) * (v7 - (60 : Int32)))) + (μ13.1 v0 15)) μ13) dX10_takesTest_82 qm_X10_271 qi_X10_emits qs_X10_emits qc_X10 qd_X10_emits qh_X10_emits (by decide) (fun _ => Nat.le_of_ble_eq_true rfl) (Nat.le_of_ble_eq_true rfl) (fun _ μ14 => ?_)
        refine s_aload_n hC 2 dX10_takesTest_85 rfl ?_
        refine s_callV hC (x := v0) (avs := []) (st := []) (nest := false) xc10 (m_X10_whole hI v0 μ14) dX10_takesTest_86 qm_X10_281 qi_X10_whole qs_X10_whole qc_X10 qd_X10_whole qh_X10_whole (by decide) (fun _ => Nat.le_of_ble_eq_true rfl) (Nat.le_of_ble_eq_true rfl) (fun _ μ15 => ?_)
        refine s_iconst hC dX10_takesTest_89 (v := 1) (by decide) ?_
        exact s_zret hC hr hlk dX10_takesTest_90
      refine s_iconst hC dX10_takesTest_61 (v := 0) (by decide) ?_
      exact s_zret hC hr hlk dX10_takesTest_62
    refine s_iconst hC dX10_takesTest_42 (v := 0) (by decide) ?_
    exact s_zret hC hr hlk dX10_takesTest_43
  refine s_iconst hC dX10_takesTest_13 (v := 0) (by decide) ?_
  exact s_zret hC hr hlk dX10_takesTest_14
