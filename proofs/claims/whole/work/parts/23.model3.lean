variable {X : x_X} {l : Launch} {p : Program} {e : Env} {s : State} {m : MethodId} {args : Array Value} {below : List Frame} {meth : Method} {c : Code}
theorem dX10_may_0 : decode cX10_may 0 = .ok (.aload_n 0, 1) := by decide +kernel
theorem dX10_may_1 : decode cX10_may 1 = .ok (.iload_n 1, 1) := by decide +kernel
theorem dX10_may_2 : decode cX10_may 2 = .ok (.invokevirtual 257, 3) := by decide +kernel
theorem dX10_may_5 : decode cX10_may 5 = .ok (.ifCond .ne 7, 3) := by decide +kernel
theorem dX10_may_8 : decode cX10_may 8 = .ok (.sipush (-10001), 3) := by decide +kernel
theorem dX10_may_11 : decode cX10_may 11 = .ok (.ireturn, 1) := by decide +kernel
theorem dX10_may_12 : decode cX10_may 12 = .ok (.aload_n 0, 1) := by decide +kernel
theorem dX10_may_13 : decode cX10_may 13 = .ok (.iload_n 2, 1) := by decide +kernel
theorem dX10_may_14 : decode cX10_may 14 = .ok (.iconst 1, 1) := by decide +kernel
theorem dX10_may_15 : decode cX10_may 15 = .ok (.bipush 12, 2) := by decide +kernel
theorem dX10_may_17 : decode cX10_may 17 = .ok (.invokevirtual 245, 3) := by decide +kernel
theorem dX10_may_20 : decode cX10_may 20 = .ok (.ifCond .ne 7, 3) := by decide +kernel
theorem dX10_may_23 : decode cX10_may 23 = .ok (.sipush (-10002), 3) := by decide +kernel
theorem dX10_may_26 : decode cX10_may 26 = .ok (.ireturn, 1) := by decide +kernel
theorem dX10_may_27 : decode cX10_may 27 = .ok (.aload_n 0, 1) := by decide +kernel
theorem dX10_may_28 : decode cX10_may 28 = .ok (.getfield 35, 3) := by decide +kernel
theorem dX10_may_31 : decode cX10_may 31 = .ok (.iload_n 1, 1) := by decide +kernel
theorem dX10_may_32 : decode cX10_may 32 = .ok (.iaload, 1) := by decide +kernel
theorem dX10_may_33 : decode cX10_may 33 = .ok (.istore_n 3, 1) := by decide +kernel
theorem dX10_may_34 : decode cX10_may 34 = .ok (.sipush (-5000), 3) := by decide +kernel
theorem dX10_may_37 : decode cX10_may 37 = .ok (.istore 4, 2) := by decide +kernel
theorem dX10_may_39 : decode cX10_may 39 = .ok (.bipush (-30), 2) := by decide +kernel
theorem dX10_may_41 : decode cX10_may 41 = .ok (.istore 5, 2) := by decide +kernel
theorem dX10_may_43 : decode cX10_may 43 = .ok (.iload 5, 2) := by decide +kernel
theorem dX10_may_45 : decode cX10_may 45 = .ok (.bipush 31, 2) := by decide +kernel
theorem dX10_may_47 : decode cX10_may 47 = .ok (.if_icmp .ge 43, 3) := by decide +kernel
theorem dX10_may_50 : decode cX10_may 50 = .ok (.iload 4, 2) := by decide +kernel
theorem dX10_may_52 : decode cX10_may 52 = .ok (.sipush (-5000), 3) := by decide +kernel
theorem dX10_may_55 : decode cX10_may 55 = .ok (.if_icmp .ne 35, 3) := by decide +kernel
theorem dX10_may_58 : decode cX10_may 58 = .ok (.aload_n 0, 1) := by decide +kernel
theorem dX10_may_59 : decode cX10_may 59 = .ok (.getfield 35, 3) := by decide +kernel
theorem dX10_may_62 : decode cX10_may 62 = .ok (.iload_n 1, 1) := by decide +kernel
theorem dX10_may_63 : decode cX10_may 63 = .ok (.iload 5, 2) := by decide +kernel
theorem dX10_may_65 : decode cX10_may 65 = .ok (.iastore, 1) := by decide +kernel
theorem dX10_may_66 : decode cX10_may 66 = .ok (.aload_n 0, 1) := by decide +kernel
theorem dX10_may_67 : decode cX10_may 67 = .ok (.iload_n 2, 1) := by decide +kernel
theorem dX10_may_68 : decode cX10_may 68 = .ok (.invokevirtual 378, 3) := by decide +kernel
theorem dX10_may_71 : decode cX10_may 71 = .ok (.ifCond .eq 8, 3) := by decide +kernel
theorem dX10_may_74 : decode cX10_may 74 = .ok (.iload 5, 2) := by decide +kernel
theorem dX10_may_76 : decode cX10_may 76 = .ok (.goto 6, 3) := by decide +kernel
theorem dX10_may_79 : decode cX10_may 79 = .ok (.sipush (-5000), 3) := by decide +kernel
theorem dX10_may_82 : decode cX10_may 82 = .ok (.istore 4, 2) := by decide +kernel
theorem dX10_may_84 : decode cX10_may 84 = .ok (.iinc 5 1, 3) := by decide +kernel
theorem dX10_may_87 : decode cX10_may 87 = .ok (.goto (-44), 3) := by decide +kernel
theorem dX10_may_90 : decode cX10_may 90 = .ok (.aload_n 0, 1) := by decide +kernel
theorem dX10_may_91 : decode cX10_may 91 = .ok (.getfield 35, 3) := by decide +kernel
theorem dX10_may_94 : decode cX10_may 94 = .ok (.iload_n 1, 1) := by decide +kernel
theorem dX10_may_95 : decode cX10_may 95 = .ok (.iload_n 3, 1) := by decide +kernel
theorem dX10_may_96 : decode cX10_may 96 = .ok (.iastore, 1) := by decide +kernel
theorem dX10_may_97 : decode cX10_may 97 = .ok (.iload 4, 2) := by decide +kernel
theorem dX10_may_99 : decode cX10_may 99 = .ok (.ireturn, 1) := by decide +kernel
def f_X10_may_L43 (X : x_X) (k90 : Nat → Int32 → Int32 → Int32 → x_M → Option (Int32 × x_M)) : Nat → Nat → Int32 → Int32 → Int32 → Int32 → Int32 → x_M → Option (Int32 × x_M)
  | 0, _, _, _, _, _, _, _ => none
  | n + 1, v10, v11, v12, v13, v14, v15, μ16 =>
    (if (31 : Int32) ≤ v15 then (k90 v10 v11 v13 v14 μ16) else (if v14 = (-5000 : Int32) then (ck (x_kd X v10 = 10 + 1) (lt (μ16.2.1 v10 8) (fun (v17 : Nat) => (ck (x_kd X v17 = 20 ∧ x_ix v11 (x_ln X v17)) (lt (x_sI μ16 v17 (v11).toNatClampNeg v15) (fun (μ18 : x_M) => (ck (x_kd X v10 = 10 + 1) (bd (f_X10_isAbove X v10 v12 μ18) (fun (v19 : Int32) (μ20 : x_M) => (if v19 = 0 then (f_X10_may_L43 X k90 n v10 v11 v12 v13 (-5000 : Int32) (v15 + (1 : Int32)) μ20) else (f_X10_may_L43 X k90 n v10 v11 v12 v13 v15 (v15 + (1 : Int32)) μ20))))))))))) else (k90 v10 v11 v13 v14 μ16)))
set_option maxRecDepth 100000 in
theorem j_X10_may_L43 (hI : x_I X) (hC : x_C X x_Z0 p (x_rm 7) s m c cX10_may RX10 6 0 0 7) (hr : meth.sig.returnType = (some .int)) (hlk : meth.locks = false) {k90 : Nat → Int32 → Int32 → Int32 → x_M → Option (Int32 × x_M)} (hk90 : ∀ (b0 : Nat) (b1 : Int32) (b3 : Int32) (b4 : Int32) (μ : x_M), SM X 6 7 rkI p l e s m args below meth c 90 [(0, vR b0), (1, vI b1), (3, vI b3), (4, vI b4)] [] μ (k90 b0 b1 b3 b4 μ)) : ∀ (n : Nat) (v10 : Nat) (v11 : Int32) (v12 : Int32) (v13 : Int32) (v14 : Int32) (v15 : Int32) (μ16 : x_M), SM X 6 7 rkI p l e s m args below meth c 43 [(0, vR v10), (1, vI v11), (2, vI v12), (3, vI v13), (4, vI v14), (5, vI v15)] [] μ16 (f_X10_may_L43 X k90 n v10 v11 v12 v13 v14 v15 μ16) := by
  intro n
  induction n with
  | zero => intro v10 v11 v12 v13 v14 v15 μ16; exact s_none
  | succ n ih =>
    intro v10 v11 v12 v13 v14 v15 μ16
    unfold f_X10_may_L43
    refine s_iload hC 5 dX10_may_43 rfl ?_
    refine s_bipush hC dX10_may_45 (v := 31) (by decide) ?_
    refine s_icmp_ge hC dX10_may_47 (tgt := 90) (by decide) ?_ ?_
    · refine s_lv (lv' := [(0, vR v10), (1, vI v11), (3, vI v13), (4, vI v14)]) [0, 1, 3, 4] rfl ?_
      exact hk90 _ _ _ _ _
    refine s_iload hC 4 dX10_may_50 rfl ?_
    refine s_sipush hC dX10_may_52 (v := -5000) (by decide) ?_
    refine s_icmp_ne hC dX10_may_55 (tgt := 90) (by decide) ?_ ?_
    · refine s_lv (lv' := [(0, vR v10), (1, vI v11), (3, vI v13), (4, vI v14)]) [0, 1, 3, 4] rfl ?_
      exact hk90 _ _ _ _ _
    refine s_aload_n hC 0 dX10_may_58 rfl ?_
    refine s_getR hC xc10 (by decide) rfl qf_X10_35 dX10_may_59 ?_
    refine s_ltR (fun v17 => ?_)
    refine s_iload_n hC 1 dX10_may_62 rfl ?_
    refine s_iload hC 5 dX10_may_63 rfl ?_
    refine s_iast hC dX10_may_65 ?_
    refine s_ltM (fun μ18 => ?_)
    refine s_aload_n hC 0 dX10_may_66 rfl ?_
    refine s_iload_n hC 2 dX10_may_67 rfl ?_
    refine s_callV hC (x := v10) (avs := [vI v12]) (st := []) (nest := false) xc10 (m_X10_isAbove hI v10 v12 μ18) dX10_may_68 qm_X10_378 qi_X10_isAbove qs_X10_isAbove qc_X10 qd_X10_isAbove qh_X10_isAbove (by decide) (fun _ => Nat.le_of_ble_eq_true rfl) (Nat.le_of_ble_eq_true rfl) (fun v19 μ20 => ?_)
    refine s_if_eq hC dX10_may_71 (tgt := 79) (by decide) ?_ ?_
    · refine s_sipush hC dX10_may_79 (v := -5000) (by decide) ?_
      refine s_istore hC dX10_may_82 (by decide) (lv' := [(4, vI (-5000 : Int32)), (0, vR v10), (1, vI v11), (2, vI v12), (3, vI v13), (5, vI v15)]) rfl ?_
      refine s_iinc hC 5 dX10_may_84 rfl (w := 1) (by decide) (by decide) (lv' := [(5, vI (v15 + (1 : Int32))), (4, vI (-5000 : Int32)), (0, vR v10), (1, vI v11), (2, vI v12), (3, vI v13)]) rfl ?_
      refine s_goto hC dX10_may_87 (tgt := 43) (by decide) ?_
      refine s_lv (lv' := [(0, vR v10), (1, vI v11), (2, vI v12), (3, vI v13), (4, vI (-5000 : Int32)), (5, vI (v15 + (1 : Int32)))]) [2, 3, 4, 5, 1, 0] rfl ?_
      exact ih _ _ _ _ _ _ _
    refine s_iload hC 5 dX10_may_74 rfl ?_
    refine s_goto hC dX10_may_76 (tgt := 82) (by decide) ?_
    refine s_istore hC dX10_may_82 (by decide) (lv' := [(4, vI v15), (0, vR v10), (1, vI v11), (2, vI v12), (3, vI v13), (5, vI v15)]) rfl ?_
    refine s_iinc hC 5 dX10_may_84 rfl (w := 1) (by decide) (by decide) (lv' := [(5, vI (v15 + (1 : Int32))), (4, vI v15), (0, vR v10), (1, vI v11), (2, vI v12), (3, vI v13)]) rfl ?_
    refine s_goto hC dX10_may_87 (tgt := 43) (by decide) ?_
    refine s_lv (lv' := [(0, vR v10), (1, vI v11), (2, vI v12), (3, vI v13), (4, vI v15), (5, vI (v15 + (1 : Int32)))]) [2, 3, 4, 5, 1, 0] rfl ?_
    exact ih _ _ _ _ _ _ _
def f_X10_may (X : x_X) (v0 : Nat) (v1 : Int32) (v2 : Int32) (μ : x_M) : Option (Int32 × x_M) :=
  (ck (x_kd X v0 = 10 + 1) (bd (f_X10_isAccount X v0 v1 μ) (fun (v4 : Int32) (μ5 : x_M) => (if v4 = 0 then (some ((-10001 : Int32), μ5)) else (ck (x_kd X v0 = 10 + 1) (bd (f_X10_in X v0 v2 (1 : Int32) (12 : Int32) μ5) (fun (v6 : Int32) (μ7 : x_M) => (if v6 = 0 then (some ((-10002 : Int32), μ7)) else (ck (x_kd X v0 = 10 + 1) (lt (μ7.2.1 v0 8) (fun (v8 : Nat) => (ck ((x_kd X v8 = 20 ∨ x_kd X v8 = 40) ∧ x_ix v1 (x_ln X v8)) (lt (μ7.1 v8 (v1).toNatClampNeg) (fun (v9 : Int32) => (f_X10_may_L43 X (fun (v21 : Nat) (v22 : Int32) (v23 : Int32) (v24 : Int32) (μ25 : x_M) => (ck (x_kd X v21 = 10 + 1) (lt (μ25.2.1 v21 8) (fun (v26 : Nat) => (ck (x_kd X v26 = 20 ∧ x_ix v22 (x_ln X v26)) (lt (x_sI μ25 v26 (v22).toNatClampNeg v23) (fun (μ27 : x_M) => (some (v24, μ27))))))))) 4096 v0 v1 v2 v9 (-5000 : Int32) (-30 : Int32) μ7)))))))))))))))
set_option maxRecDepth 100000 in
theorem m_X10_may (hI : x_I X) (v0 : Nat) (v1 : Int32) (v2 : Int32) (μ : x_M) : x_Met X x_Z0 l yX10_may cX10_may 6 (some .int) 7 [vR v0, vI v1, vI v2] μ rkI (f_X10_may X v0 v1 v2 μ) := by
  refine x_enter hI (by decide +kernel) (Nat.le_of_ble_eq_true rfl) (fun p e s m args below meth c hC hr hlk => ?_)
  unfold f_X10_may
  refine s_lv (lv' := [(0, vR v0), (1, vI v1), (2, vI v2)]) [0, 1, 2] rfl ?_
  refine s_aload_n hC 0 dX10_may_0 rfl ?_
  refine s_iload_n hC 1 dX10_may_1 rfl ?_
  refine s_callV hC (x := v0) (avs := [vI v1]) (st := []) (nest := false) xc10 (m_X10_isAccount hI v0 v1 μ) dX10_may_2 qm_X10_257 qi_X10_isAccount qs_X10_isAccount qc_X10 qd_X10_isAccount qh_X10_isAccount (by decide) (fun _ => Nat.le_of_ble_eq_true rfl) (Nat.le_of_ble_eq_true rfl) (fun v4 μ5 => ?_)
  refine s_if_ne hC dX10_may_5 (tgt := 12) (by decide) ?_ ?_
  · refine s_aload_n hC 0 dX10_may_12 rfl ?_
    refine s_iload_n hC 2 dX10_may_13 rfl ?_
    refine s_iconst hC dX10_may_14 (v := 1) (by decide) ?_
    refine s_bipush hC dX10_may_15 (v := 12) (by decide) ?_
    refine s_callV hC (x := v0) (avs := [vI v2, vI (1 : Int32), vI (12 : Int32)]) (st := []) (nest := false) xc10 (m_X10_in hI v0 v2 (1 : Int32) (12 : Int32) μ5) dX10_may_17 qm_X10_245 qi_X10_in qs_X10_in qc_X10 qd_X10_in qh_X10_in (by decide) (fun _ => Nat.le_of_ble_eq_true rfl) (Nat.le_of_ble_eq_true rfl) (fun v6 μ7 => ?_)
    refine s_if_ne hC dX10_may_20 (tgt := 27) (by decide) ?_ ?_
    · refine s_aload_n hC 0 dX10_may_27 rfl ?_
      refine s_getR hC xc10 (by decide) rfl qf_X10_35 dX10_may_28 ?_
      refine s_ltR (fun v8 => ?_)
      refine s_iload_n hC 1 dX10_may_31 rfl ?_
      refine s_iald hC dX10_may_32 ?_
      refine s_ltI (fun v9 => ?_)
      refine s_istore_n hC dX10_may_33 (by decide) (lv' := [(3, vI v9), (0, vR v0), (1, vI v1), (2, vI v2)]) rfl ?_
      refine s_sipush hC dX10_may_34 (v := -5000) (by decide) ?_
      refine s_istore hC dX10_may_37 (by decide) (lv' := [(4, vI (-5000 : Int32)), (3, vI v9), (0, vR v0), (1, vI v1), (2, vI v2)]) rfl ?_
      refine s_bipush hC dX10_may_39 (v := -30) (by decide) ?_
      refine s_istore hC dX10_may_41 (by decide) (lv' := [(5, vI (-30 : Int32)), (4, vI (-5000 : Int32)), (3, vI v9), (0, vR v0), (1, vI v1), (2, vI v2)]) rfl ?_
      refine s_lv (lv' := [(0, vR v0), (1, vI v1), (2, vI v2), (3, vI v9), (4, vI (-5000 : Int32)), (5, vI (-30 : Int32))]) [3, 4, 5, 2, 1, 0] rfl ?_
      refine j_X10_may_L43 hI hC hr hlk (fun v21 v22 v23 v24 μ25 => ?_) 4096 _ _ _ _ _ _ _
      refine s_aload_n hC 0 dX10_may_90 rfl ?_
      refine s_getR hC xc10 (by decide) rfl qf_X10_35 dX10_may_91 ?_
      refine s_ltR (fun v26 => ?_)
      refine s_iload_n hC 1 dX10_may_94 rfl ?_
      refine s_iload_n hC 2 dX10_may_95 rfl ?_
      refine s_iast hC dX10_may_96 ?_
      refine s_ltM (fun μ27 => ?_)
      refine s_iload hC 3 dX10_may_97 rfl ?_
      exact s_iret hC hr hlk dX10_may_99
    refine s_sipush hC dX10_may_23 (v := -10002) (by decide) ?_
    exact s_iret hC hr hlk dX10_may_26
  refine s_sipush hC dX10_may_8 (v := -10001) (by decide) ?_
  exact s_iret hC hr hlk dX10_may_11
theorem dX10_waterBehind_0 : decode cX10_waterBehind 0 = .ok (.aload_n 0, 1) := by decide +kernel
theorem dX10_waterBehind_1 : decode cX10_waterBehind 1 = .ok (.invokevirtual 366, 3) := by decide +kernel
theorem dX10_waterBehind_4 : decode cX10_waterBehind 4 = .ok (.aload_n 0, 1) := by decide +kernel
theorem dX10_waterBehind_5 : decode cX10_waterBehind 5 = .ok (.iload_n 1, 1) := by decide +kernel
theorem dX10_waterBehind_6 : decode cX10_waterBehind 6 = .ok (.invokevirtual 369, 3) := by decide +kernel
theorem dX10_waterBehind_9 : decode cX10_waterBehind 9 = .ok (.aload_n 0, 1) := by decide +kernel
theorem dX10_waterBehind_10 : decode cX10_waterBehind 10 = .ok (.getfield 16, 3) := by decide +kernel
theorem dX10_waterBehind_13 : decode cX10_waterBehind 13 = .ok (.istore_n 2, 1) := by decide +kernel
theorem dX10_waterBehind_14 : decode cX10_waterBehind 14 = .ok (.aload_n 0, 1) := by decide +kernel
theorem dX10_waterBehind_15 : decode cX10_waterBehind 15 = .ok (.invokevirtual 372, 3) := by decide +kernel
theorem dX10_waterBehind_18 : decode cX10_waterBehind 18 = .ok (.iload_n 2, 1) := by decide +kernel
theorem dX10_waterBehind_19 : decode cX10_waterBehind 19 = .ok (.ireturn, 1) := by decide +kernel
def f_X10_waterBehind (X : x_X) (v0 : Nat) (v1 : Int32) (μ : x_M) : Option (Int32 × x_M) :=
  (ck (x_kd X v0 = 10 + 1) (bd (f_X10_save X v0 μ) (fun (_ : Unit) (μ3 : x_M) => (ck (x_kd X v0 = 10 + 1) (bd (f_X10_goDays X v0 v1 μ3) (fun (_ : Unit) (μ4 : x_M) => (ck (x_kd X v0 = 10 + 1) (lt (μ4.1 v0 2) (fun (v5 : Int32) => (ck (x_kd X v0 = 10 + 1) (bd (f_X10_putBack X v0 μ4) (fun (_ : Unit) (μ6 : x_M) => (some (v5, μ6))))))))))))))
set_option maxRecDepth 100000 in
theorem m_X10_waterBehind (hI : x_I X) (v0 : Nat) (v1 : Int32) (μ : x_M) : x_Met X x_Z0 l yX10_waterBehind cX10_waterBehind 3 (some .int) 7 [vR v0, vI v1] μ rkI (f_X10_waterBehind X v0 v1 μ) := by
  refine x_enter hI (by decide +kernel) (Nat.le_of_ble_eq_true rfl) (fun p e s m args below meth c hC hr hlk => ?_)
  unfold f_X10_waterBehind
  refine s_lv (lv' := [(0, vR v0), (1, vI v1)]) [0, 1] rfl ?_
  refine s_aload_n hC 0 dX10_waterBehind_0 rfl ?_
  refine s_callV hC (x := v0) (avs := []) (st := []) (nest := false) xc10 (m_X10_save hI v0 μ) dX10_waterBehind_1 qm_X10_366 qi_X10_save qs_X10_save qc_X10 qd_X10_save qh_X10_save (by decide) (fun _ => Nat.le_of_ble_eq_true rfl) (Nat.le_of_ble_eq_true rfl) (fun _ μ3 => ?_)
  refine s_aload_n hC 0 dX10_waterBehind_4 rfl ?_
  refine s_iload_n hC 1 dX10_waterBehind_5 rfl ?_
  refine s_callV hC (x := v0) (avs := [vI v1]) (st := []) (nest := false) xc10 (m_X10_goDays hI v0 v1 μ3) dX10_waterBehind_6 qm_X10_369 qi_X10_goDays qs_X10_goDays qc_X10 qd_X10_goDays qh_X10_goDays (by decide) (fun _ => Nat.le_of_ble_eq_true rfl) (Nat.le_of_ble_eq_true rfl) (fun _ μ4 => ?_)
  refine s_aload_n hC 0 dX10_waterBehind_9 rfl ?_
  refine s_getI hC xc10 (by decide) rfl qf_X10_16 dX10_waterBehind_10 ?_
  refine s_ltI (fun v5 => ?_)
  refine s_istore_n hC dX10_waterBehind_13 (by decide) (lv' := [(2, vI v5), (0, vR v0), (1, vI v1)]) rfl ?_
  refine s_aload_n hC 1 dX10_waterBehind_14 rfl ?_
  refine s_callV hC (x := v0) (avs := []) (st := []) (nest := false) xc10 (m_X10_putBack hI v0 μ4) dX10_waterBehind_15 qm_X10_372 qi_X10_putBack qs_X10_putBack qc_X10 qd_X10_putBack qh_X10_putBack (by decide) (fun _ => Nat.le_of_ble_eq_true rfl) (Nat.le_of_ble_eq_true rfl) (fun _ μ6 => ?_)
  refine s_iload_n hC 0 dX10_waterBehind_18 rfl ?_
  exact s_iret hC hr hlk dX10_waterBehind_19
theorem dX10_wells_0 : decode cX10_wells 0 = .ok (.aload_n 0, 1) := by decide +kernel
theorem dX10_wells_1 : decode cX10_wells 1 = .ok (.iload_n 1, 1) := by decide +kernel
theorem dX10_wells_2 : decode cX10_wells 2 = .ok (.iconst 1, 1) := by decide +kernel
theorem dX10_wells_3 : decode cX10_wells 3 = .ok (.bipush 10, 2) := by decide +kernel
theorem dX10_wells_5 : decode cX10_wells 5 = .ok (.invokevirtual 245, 3) := by decide +kernel
theorem dX10_wells_8 : decode cX10_wells 8 = .ok (.ifCond .ne 6, 3) := by decide +kernel
theorem dX10_wells_11 : decode cX10_wells 11 = .ok (.bipush (-2), 2) := by decide +kernel
theorem dX10_wells_13 : decode cX10_wells 13 = .ok (.ireturn, 1) := by decide +kernel
theorem dX10_wells_14 : decode cX10_wells 14 = .ok (.bipush (-5), 2) := by decide +kernel
theorem dX10_wells_16 : decode cX10_wells 16 = .ok (.istore_n 2, 1) := by decide +kernel
theorem dX10_wells_17 : decode cX10_wells 17 = .ok (.iconst 0, 1) := by decide +kernel
theorem dX10_wells_18 : decode cX10_wells 18 = .ok (.istore_n 3, 1) := by decide +kernel
theorem dX10_wells_19 : decode cX10_wells 19 = .ok (.iload_n 3, 1) := by decide +kernel
theorem dX10_wells_20 : decode cX10_wells 20 = .ok (.bipush 100, 2) := by decide +kernel
theorem dX10_wells_22 : decode cX10_wells 22 = .ok (.if_icmp .ge 33, 3) := by decide +kernel
theorem dX10_wells_25 : decode cX10_wells 25 = .ok (.iload_n 2, 1) := by decide +kernel
theorem dX10_wells_26 : decode cX10_wells 26 = .ok (.ifCond .ge 29, 3) := by decide +kernel
theorem dX10_wells_29 : decode cX10_wells 29 = .ok (.aload_n 0, 1) := by decide +kernel
theorem dX10_wells_30 : decode cX10_wells 30 = .ok (.iload_n 3, 1) := by decide +kernel
theorem dX10_wells_31 : decode cX10_wells 31 = .ok (.putfield 105, 3) := by decide +kernel
theorem dX10_wells_34 : decode cX10_wells 34 = .ok (.aload_n 0, 1) := by decide +kernel
theorem dX10_wells_35 : decode cX10_wells 35 = .ok (.iload_n 1, 1) := by decide +kernel
theorem dX10_wells_36 : decode cX10_wells 36 = .ok (.invokevirtual 378, 3) := by decide +kernel
theorem dX10_wells_39 : decode cX10_wells 39 = .ok (.ifCond .eq 7, 3) := by decide +kernel
theorem dX10_wells_42 : decode cX10_wells 42 = .ok (.iload_n 3, 1) := by decide +kernel
theorem dX10_wells_43 : decode cX10_wells 43 = .ok (.goto 5, 3) := by decide +kernel
theorem dX10_wells_46 : decode cX10_wells 46 = .ok (.bipush (-5), 2) := by decide +kernel
theorem dX10_wells_48 : decode cX10_wells 48 = .ok (.istore_n 2, 1) := by decide +kernel
theorem dX10_wells_49 : decode cX10_wells 49 = .ok (.iinc 3 1, 3) := by decide +kernel
theorem dX10_wells_52 : decode cX10_wells 52 = .ok (.goto (-33), 3) := by decide +kernel
theorem dX10_wells_55 : decode cX10_wells 55 = .ok (.aload_n 0, 1) := by decide +kernel
theorem dX10_wells_56 : decode cX10_wells 56 = .ok (.iconst 0, 1) := by decide +kernel
theorem dX10_wells_57 : decode cX10_wells 57 = .ok (.putfield 105, 3) := by decide +kernel
theorem dX10_wells_60 : decode cX10_wells 60 = .ok (.iload_n 2, 1) := by decide +kernel
theorem dX10_wells_61 : decode cX10_wells 61 = .ok (.ireturn, 1) := by decide +kernel
def f_X10_wells_L19 (X : x_X) : Nat → Nat → Int32 → Int32 → Int32 → x_M → Option (Int32 × x_M)
  | 0, _, _, _, _, _ => none
  | n + 1, v5, v6, v7, v8, μ9 =>
    (if (100 : Int32) ≤ v8 then (ck (x_kd X v5 = 10 + 1) (lt (x_sI μ9 v5 31 (0 : Int32)) (fun (μ10 : x_M) => (some (v7, μ10))))) else (if 0 ≤ v7 then (ck (x_kd X v5 = 10 + 1) (lt (x_sI μ9 v5 31 (0 : Int32)) (fun (μ11 : x_M) => (some (v7, μ11))))) else (ck (x_kd X v5 = 10 + 1) (lt (x_sI μ9 v5 31 v8) (fun (μ12 : x_M) => (ck (x_kd X v5 = 10 + 1) (bd (f_X10_isAbove X v5 v6 μ12) (fun (v13 : Int32) (μ14 : x_M) => (if v13 = 0 then (f_X10_wells_L19 X n v5 v6 (-5 : Int32) (v8 + (1 : Int32)) μ14) else (f_X10_wells_L19 X n v5 v6 v8 (v8 + (1 : Int32)) μ14))))))))))
set_option maxRecDepth 100000 in
theorem j_X10_wells_L19 (hI : x_I X) (hC : x_C X x_Z0 p (x_rm 7) s m c cX10_wells RX10 4 0 0 7) (hr : meth.sig.returnType = (some .int)) (hlk : meth.locks = false) : ∀ (n : Nat) (v5 : Nat) (v6 : Int32) (v7 : Int32) (v8 : Int32) (μ9 : x_M), SM X 4 7 rkI p l e s m args below meth c 19 [(0, vR v5), (1, vI v6), (2, vI v7), (3, vI v8)] [] μ9 (f_X10_wells_L19 X n v5 v6 v7 v8 μ9) := by
  intro n
  induction n with
  | zero => intro v5 v6 v7 v8 μ9; exact s_none
  | succ n ih =>
    intro v5 v6 v7 v8 μ9
    unfold f_X10_wells_L19
    refine s_iload_n hC 3 dX10_wells_19 rfl ?_
    refine s_bipush hC dX10_wells_20 (v := 100) (by decide) ?_
    refine s_icmp_ge hC dX10_wells_22 (tgt := 55) (by decide) ?_ ?_
    · refine s_aload_n hC 0 dX10_wells_55 rfl ?_
      refine s_iconst hC dX10_wells_56 (v := 0) (by decide) ?_
      refine s_putI hC xc10 (by decide) rfl rfl qf_X10_105 dX10_wells_57 ?_
      refine s_ltM (fun μ10 => ?_)
      refine s_iload_n hC 2 dX10_wells_60 rfl ?_
      exact s_iret hC hr hlk dX10_wells_61
    refine s_iload_n hC 2 dX10_wells_25 rfl ?_
    refine s_if_ge hC dX10_wells_26 (tgt := 55) (by decide) ?_ ?_
    · refine s_aload_n hC 0 dX10_wells_55 rfl ?_
      refine s_iconst hC dX10_wells_56 (v := 0) (by decide) ?_
      refine s_putI hC xc10 (by decide) rfl rfl qf_X10_105 dX10_wells_57 ?_
      refine s_ltM (fun μ11 => ?_)
      refine s_iload_n hC 2 dX10_wells_60 rfl ?_
      exact s_iret hC hr hlk dX10_wells_61
    refine s_aload_n hC 0 dX10_wells_29 rfl ?_
    refine s_iload_n hC 3 dX10_wells_30 rfl ?_
    refine s_putI hC xc10 (by decide) rfl rfl qf_X10_105 dX10_wells_31 ?_
    refine s_ltM (fun μ12 => ?_)
    refine s_aload_n hC 0 dX10_wells_34 rfl ?_
    refine s_iload_n hC 1 dX10_wells_35 rfl ?_
    refine s_callV hC (x := v5) (avs := [vI v6]) (st := []) (nest := false) xc10 (m_X10_isAbove hI v5 v6 μ12) dX10_wells_36 qm_X10_378 qi_X10_isAbove qs_X10_isAbove qc_X10 qd_X10_isAbove qh_X10_isAbove (by decide) (fun _ => Nat.le_of_ble_eq_true rfl) (Nat.le_of_ble_eq_true rfl) (fun v13 μ14 => ?_)
    refine s_if_eq hC dX10_wells_39 (tgt := 46) (by decide) ?_ ?_
    · refine s_bipush hC dX10_wells_46 (v := -5) (by decide) ?_
      refine s_istore_n hC dX10_wells_48 (by decide) (lv' := [(2, vI (-5 : Int32)), (0, vR v5), (1, vI v6), (3, vI v8)]) rfl ?_
      refine s_iinc hC 3 dX10_wells_49 rfl (w := 1) (by decide) (by decide) (lv' := [(3, vI (v8 + (1 : Int32))), (2, vI (-5 : Int32)), (0, vR v5), (1, vI v6)]) rfl ?_
      refine s_goto hC dX10_wells_52 (tgt := 19) (by decide) ?_
      refine s_lv (lv' := [(0, vR v5), (1, vI v6), (2, vI (-5 : Int32)), (3, vI (v8 + (1 : Int32)))]) [2, 3, 1, 0] rfl ?_
      exact ih _ _ _ _ _
    refine s_iload_n hC 3 dX10_wells_42 rfl ?_
    refine s_goto hC dX10_wells_43 (tgt := 48) (by decide) ?_
    refine s_istore_n hC dX10_wells_48 (by decide) (lv' := [(2, vI v8), (0, vR v5), (1, vI v6), (3, vI v8)]) rfl ?_
    refine s_iinc hC 3 dX10_wells_49 rfl (w := 1) (by decide) (by decide) (lv' := [(3, vI (v8 + (1 : Int32))), (2, vI v8), (0, vR v5), (1, vI v6)]) rfl ?_
    refine s_goto hC dX10_wells_52 (tgt := 19) (by decide) ?_
    refine s_lv (lv' := [(0, vR v5), (1, vI v6), (2, vI v8), (3, vI (v8 + (1 : Int32)))]) [2, 3, 1, 0] rfl ?_
    exact ih _ _ _ _ _
def f_X10_wells (X : x_X) (v0 : Nat) (v1 : Int32) (μ : x_M) : Option (Int32 × x_M) :=
  (ck (x_kd X v0 = 10 + 1) (bd (f_X10_in X v0 v1 (1 : Int32) (10 : Int32) μ) (fun (v3 : Int32) (μ4 : x_M) => (if v3 = 0 then (some ((-2 : Int32), μ4)) else (f_X10_wells_L19 X 4096 v0 v1 (-5 : Int32) (0 : Int32) μ4)))))
set_option maxRecDepth 100000 in
theorem m_X10_wells (hI : x_I X) (v0 : Nat) (v1 : Int32) (μ : x_M) : x_Met X x_Z0 l yX10_wells cX10_wells 4 (some .int) 7 [vR v0, vI v1] μ rkI (f_X10_wells X v0 v1 μ) := by
  refine x_enter hI (by decide +kernel) (Nat.le_of_ble_eq_true rfl) (fun p e s m args below meth c hC hr hlk => ?_)
  unfold f_X10_wells
  refine s_lv (lv' := [(0, vR v0), (1, vI v1)]) [0, 1] rfl ?_
  refine s_aload_n hC 0 dX10_wells_0 rfl ?_
  refine s_iload_n hC 1 dX10_wells_1 rfl ?_
  refine s_iconst hC dX10_wells_2 (v := 1) (by decide) ?_
  refine s_bipush hC dX10_wells_3 (v := 10) (by decide) ?_
  refine s_callV hC (x := v0) (avs := [vI v1, vI (1 : Int32), vI (10 : Int32)]) (st := []) (nest := false) xc10 (m_X10_in hI v0 v1 (1 : Int32) (10 : Int32) μ) dX10_wells_5 qm_X10_245 qi_X10_in qs_X10_in qc_X10 qd_X10_in qh_X10_in (by decide) (fun _ => Nat.le_of_ble_eq_true rfl) (Nat.le_of_ble_eq_true rfl) (fun v3 μ4 => ?_)
  refine s_if_ne hC dX10_wells_8 (tgt := 14) (by decide) ?_ ?_
  · refine s_bipush hC dX10_wells_14 (v := -5) (by decide) ?_
    refine s_istore_n hC dX10_wells_16 (by decide) (lv' := [(2, vI (-5 : Int32)), (0, vR v0), (1, vI v1)]) rfl ?_
    refine s_iconst hC dX10_wells_17 (v := 0) (by decide) ?_
    refine s_istore_n hC dX10_wells_18 (by decide) (lv' := [(3, vI (0 : Int32)), (2, vI (-5 : Int32)), (0, vR v0), (1, vI v1)]) rfl ?_
    refine s_lv (lv' := [(0, vR v0), (1, vI v1), (2, vI (-5 : Int32)), (3, vI (0 : Int32))]) [2, 3, 1, 0] rfl ?_
    refine j_X10_wells_L19 hI hC hr hlk 4096 _ _ _ _ _
  refine s_bipush hC dX10_wells_11 (v := -2) (by decide) ?_
  exact s_iret hC hr hlk dX10_wells_13
theorem dX10_richest_0 : decode cX10_richest 0 = .ok (.aload_n 0, 1) := by decide +kernel
theorem dX10_richest_1 : decode cX10_richest 1 = .ok (.iload_n 1, 1) := by decide +kernel
theorem dX10_richest_2 : decode cX10_richest 2 = .ok (.invokevirtual 363, 3) := by decide +kernel
theorem dX10_richest_5 : decode cX10_richest 5 = .ok (.ifCond .ne 6, 3) := by decide +kernel
theorem dX10_richest_8 : decode cX10_richest 8 = .ok (.bipush (-2), 2) := by decide +kernel
theorem dX10_richest_10 : decode cX10_richest 10 = .ok (.ireturn, 1) := by decide +kernel
theorem dX10_richest_11 : decode cX10_richest 11 = .ok (.aload_n 0, 1) := by decide +kernel
theorem dX10_richest_12 : decode cX10_richest 12 = .ok (.invokevirtual 366, 3) := by decide +kernel
theorem dX10_richest_15 : decode cX10_richest 15 = .ok (.aload_n 0, 1) := by decide +kernel
theorem dX10_richest_16 : decode cX10_richest 16 = .ok (.iload_n 1, 1) := by decide +kernel
theorem dX10_richest_17 : decode cX10_richest 17 = .ok (.invokevirtual 369, 3) := by decide +kernel
theorem dX10_richest_20 : decode cX10_richest 20 = .ok (.bipush (-5), 2) := by decide +kernel
theorem dX10_richest_22 : decode cX10_richest 22 = .ok (.istore_n 2, 1) := by decide +kernel
theorem dX10_richest_23 : decode cX10_richest 23 = .ok (.iconst 0, 1) := by decide +kernel
theorem dX10_richest_24 : decode cX10_richest 24 = .ok (.istore_n 3, 1) := by decide +kernel
theorem dX10_richest_25 : decode cX10_richest 25 = .ok (.iload_n 3, 1) := by decide +kernel
theorem dX10_richest_26 : decode cX10_richest 26 = .ok (.aload_n 0, 1) := by decide +kernel
theorem dX10_richest_27 : decode cX10_richest 27 = .ok (.getfield 7, 3) := by decide +kernel
theorem dX10_richest_30 : decode cX10_richest 30 = .ok (.if_icmp .ge 30, 3) := by decide +kernel
theorem dX10_richest_33 : decode cX10_richest 33 = .ok (.iload_n 2, 1) := by decide +kernel
theorem dX10_richest_34 : decode cX10_richest 34 = .ok (.ifCond .lt 18, 3) := by decide +kernel
theorem dX10_richest_37 : decode cX10_richest 37 = .ok (.aload_n 0, 1) := by decide +kernel
theorem dX10_richest_38 : decode cX10_richest 38 = .ok (.getfield 32, 3) := by decide +kernel
theorem dX10_richest_41 : decode cX10_richest 41 = .ok (.iload_n 3, 1) := by decide +kernel
theorem dX10_richest_42 : decode cX10_richest 42 = .ok (.iaload, 1) := by decide +kernel
theorem dX10_richest_43 : decode cX10_richest 43 = .ok (.aload_n 0, 1) := by decide +kernel
theorem dX10_richest_44 : decode cX10_richest 44 = .ok (.getfield 32, 3) := by decide +kernel
theorem dX10_richest_47 : decode cX10_richest 47 = .ok (.iload_n 2, 1) := by decide +kernel
theorem dX10_richest_48 : decode cX10_richest 48 = .ok (.iaload, 1) := by decide +kernel
theorem dX10_richest_49 : decode cX10_richest 49 = .ok (.if_icmp .le 5, 3) := by decide +kernel
theorem dX10_richest_52 : decode cX10_richest 52 = .ok (.iload_n 3, 1) := by decide +kernel
theorem dX10_richest_53 : decode cX10_richest 53 = .ok (.istore_n 2, 1) := by decide +kernel
theorem dX10_richest_54 : decode cX10_richest 54 = .ok (.iinc 3 1, 3) := by decide +kernel
theorem dX10_richest_57 : decode cX10_richest 57 = .ok (.goto (-32), 3) := by decide +kernel
theorem dX10_richest_60 : decode cX10_richest 60 = .ok (.aload_n 0, 1) := by decide +kernel
theorem dX10_richest_61 : decode cX10_richest 61 = .ok (.invokevirtual 372, 3) := by decide +kernel
theorem dX10_richest_64 : decode cX10_richest 64 = .ok (.iload_n 2, 1) := by decide +kernel
theorem dX10_richest_65 : decode cX10_richest 65 = .ok (.ireturn, 1) := by decide +kernel
def f_X10_richest_L25 (X : x_X) : Nat → Nat → Int32 → Int32 → x_M → Option (Int32 × x_M)
  | 0, _, _, _, _ => none
  | n + 1, v7, v8, v9, μ10 =>
    (ck (x_kd X v7 = 10 + 1) (if (μ10.1 v7 0) ≤ v9 then (ck (x_kd X v7 = 10 + 1) (bd (f_X10_putBack X v7 μ10) (fun (_ : Unit) (μ11 : x_M) => (some (v8, μ11))))) else (if v8 < 0 then (f_X10_richest_L25 X n v7 v9 (v9 + (1 : Int32)) μ10) else (ck (x_kd X v7 = 10 + 1) (lt (μ10.2.1 v7 7) (fun (v12 : Nat) => (ck ((x_kd X v12 = 20 ∨ x_kd X v12 = 40) ∧ x_ix v9 (x_ln X v12)) (ck (x_kd X v7 = 10 + 1) (lt (μ10.2.1 v7 7) (fun (v13 : Nat) => (ck ((x_kd X v13 = 20 ∨ x_kd X v13 = 40) ∧ x_ix v8 (x_ln X v13)) (if (μ10.1 v12 (v9).toNatClampNeg) ≤ (μ10.1 v13 (v8).toNatClampNeg) then (f_X10_richest_L25 X n v7 v8 (v9 + (1 : Int32)) μ10) else (f_X10_richest_L25 X n v7 v9 (v9 + (1 : Int32)) μ10)))))))))))))
set_option maxRecDepth 100000 in
theorem j_X10_richest_L25 (hI : x_I X) (hC : x_C X x_Z0 p (x_rm 7) s m c cX10_richest RX10 4 0 0 7) (hr : meth.sig.returnType = (some .int)) (hlk : meth.locks = false) : ∀ (n : Nat) (v7 : Nat) (v8 : Int32) (v9 : Int32) (μ10 : x_M), SM X 4 7 rkI p l e s m args below meth c 25 [(0, vR v7), (2, vI v8), (3, vI v9)] [] μ10 (f_X10_richest_L25 X n v7 v8 v9 μ10) := by
  intro n
  induction n with
  | zero => intro v7 v8 v9 μ10; exact s_none
  | succ n ih =>
    intro v7 v8 v9 μ10
    unfold f_X10_richest_L25
    refine s_iload_n hC 2 dX10_richest_25 rfl ?_
    refine s_aload_n hC 0 dX10_richest_26 rfl ?_
    refine s_getI hC xc10 (by decide) rfl qf_X10_7 dX10_richest_27 ?_
    refine s_icmp_ge hC dX10_richest_30 (tgt := 60) (by decide) ?_ ?_
    · refine s_aload_n hC 0 dX10_richest_60 rfl ?_
      refine s_callV hC (x := v7) (avs := []) (st := []) (nest := false) xc10 (m_X10_putBack hI v7 μ10) dX10_richest_61 qm_X10_372 qi_X10_putBack qs_X10_putBack qc_X10 qd_X10_putBack qh_X10_putBack (by decide) (fun _ => Nat.le_of_ble_eq_true rfl) (Nat.le_of_ble_eq_true rfl) (fun _ μ11 => ?_)
      refine s_iload_n hC 1 dX10_richest_64 rfl ?_
      exact s_iret hC hr hlk dX10_richest_65
    refine s_iload_n hC 1 dX10_richest_33 rfl ?_
    refine s_if_lt hC dX10_richest_34 (tgt := 52) (by decide) ?_ ?_
    · refine s_iload_n hC 2 dX10_richest_52 rfl ?_
      refine s_istore_n hC dX10_richest_53 (by decide) (lv' := [(2, vI v9), (0, vR v7), (3, vI v9)]) rfl ?_
      refine s_iinc hC 2 dX10_richest_54 rfl (w := 1) (by decide) (by decide) (lv' := [(3, vI (v9 + (1 : Int32))), (2, vI v9), (0, vR v7)]) rfl ?_
      refine s_goto hC dX10_richest_57 (tgt := 25) (by decide) ?_
      refine s_lv (lv' := [(0, vR v7), (2, vI v9), (3, vI (v9 + (1 : Int32)))]) [2, 1, 0] rfl ?_
      exact ih _ _ _ _
    refine s_aload_n hC 0 dX10_richest_37 rfl ?_
    refine s_getR hC xc10 (by decide) rfl qf_X10_32 dX10_richest_38 ?_
    refine s_ltR (fun v12 => ?_)
    refine s_iload_n hC 2 dX10_richest_41 rfl ?_
    refine s_iald hC dX10_richest_42 ?_
    refine s_aload_n hC 0 dX10_richest_43 rfl ?_
    refine s_getR hC xc10 (by decide) rfl qf_X10_32 dX10_richest_44 ?_
    refine s_ltR (fun v13 => ?_)
    refine s_iload_n hC 1 dX10_richest_47 rfl ?_
    refine s_iald hC dX10_richest_48 ?_
    refine s_icmp_le hC dX10_richest_49 (tgt := 54) (by decide) ?_ ?_
    · refine s_iinc hC 2 dX10_richest_54 rfl (w := 1) (by decide) (by decide) (lv' := [(3, vI (v9 + (1 : Int32))), (0, vR v7), (2, vI v8)]) rfl ?_
      refine s_goto hC dX10_richest_57 (tgt := 25) (by decide) ?_
      refine s_lv (lv' := [(0, vR v7), (2, vI v8), (3, vI (v9 + (1 : Int32)))]) [1, 2, 0] rfl ?_
      exact ih _ _ _ _
    refine s_iload_n hC 2 dX10_richest_52 rfl ?_
    refine s_istore_n hC dX10_richest_53 (by decide) (lv' := [(2, vI v9), (0, vR v7), (3, vI v9)]) rfl ?_
    refine s_iinc hC 2 dX10_richest_54 rfl (w := 1) (by decide) (by decide) (lv' := [(3, vI (v9 + (1 : Int32))), (2, vI v9), (0, vR v7)]) rfl ?_
    refine s_goto hC dX10_richest_57 (tgt := 25) (by decide) ?_
    refine s_lv (lv' := [(0, vR v7), (2, vI v9), (3, vI (v9 + (1 : Int32)))]) [2, 1, 0] rfl ?_
    exact ih _ _ _ _
def f_X10_richest (X : x_X) (v0 : Nat) (v1 : Int32) (μ : x_M) : Option (Int32 × x_M) :=
  (ck (x_kd X v0 = 10 + 1) (bd (f_X10_isDays X v0 v1 μ) (fun (v3 : Int32) (μ4 : x_M) => (if v3 = 0 then (some ((-2 : Int32), μ4)) else (ck (x_kd X v0 = 10 + 1) (bd (f_X10_save X v0 μ4) (fun (_ : Unit) (μ5 : x_M) => (ck (x_kd X v0 = 10 + 1) (bd (f_X10_goDays X v0 v1 μ5) (fun (_ : Unit) (μ6 : x_M) => (f_X10_richest_L25 X 4096 v0 (-5 : Int32) (0 : Int32) μ6)))))))))))
set_option maxRecDepth 100000 in
theorem m_X10_richest (hI : x_I X) (v0 : Nat) (v1 : Int32) (μ : x_M) : x_Met X x_Z0 l yX10_richest cX10_richest 4 (some .int) 7 [vR v0, vI v1] μ rkI (f_X10_richest X v0 v1 μ) := by
  refine x_enter hI (by decide +kernel) (Nat.le_of_ble_eq_true rfl) (fun p e s m args below meth c hC hr hlk => ?_)
  unfold f_X10_richest
  refine s_lv (lv' := [(0, vR v0), (1, vI v1)]) [0, 1] rfl ?_
  refine s_aload_n hC 0 dX10_richest_0 rfl ?_
  refine s_iload_n hC 1 dX10_richest_1 rfl ?_
  refine s_callV hC (x := v0) (avs := [vI v1]) (st := []) (nest := false) xc10 (m_X10_isDays hI v0 v1 μ) dX10_richest_2 qm_X10_363 qi_X10_isDays qs_X10_isDays qc_X10 qd_X10_isDays qh_X10_isDays (by decide) (fun _ => Nat.le_of_ble_eq_true rfl) (Nat.le_of_ble_eq_true rfl) (fun v3 μ4 => ?_)
  refine s_if_ne hC dX10_richest_5 (tgt := 11) (by decide) ?_ ?_
  · refine s_aload_n hC 0 dX10_richest_11 rfl ?_
    refine s_callV hC (x := v0) (avs := []) (st := []) (nest := false) xc10 (m_X10_save hI v0 μ4) dX10_richest_12 qm_X10_366 qi_X10_save qs_X10_save qc_X10 qd_X10_save qh_X10_save (by decide) (fun _ => Nat.le_of_ble_eq_true rfl) (Nat.le_of_ble_eq_true rfl) (fun _ μ5 => ?_)
    refine s_aload_n hC 0 dX10_richest_15 rfl ?_
    refine s_iload_n hC 1 dX10_richest_16 rfl ?_
    refine s_callV hC (x := v0) (avs := [vI v1]) (st := []) (nest := false) xc10 (m_X10_goDays hI v0 v1 μ5) dX10_richest_17 qm_X10_369 qi_X10_goDays qs_X10_goDays qc_X10 qd_X10_goDays qh_X10_goDays (by decide) (fun _ => Nat.le_of_ble_eq_true rfl) (Nat.le_of_ble_eq_true rfl) (fun _ μ6 => ?_)
    refine s_bipush hC dX10_richest_20 (v := -5) (by decide) ?_
    refine s_istore_n hC dX10_richest_22 (by decide) (lv' := [(2, vI (-5 : Int32)), (0, vR v0), (1, vI v1)]) rfl ?_
    refine s_iconst hC dX10_richest_23 (v := 0) (by decide) ?_
    refine s_istore_n hC dX10_richest_24 (by decide) (lv' := [(3, vI (0 : Int32)), (2, vI (-5 : Int32)), (0, vR v0), (1, vI v1)]) rfl ?_
    refine s_lv (lv' := [(0, vR v0), (2, vI (-5 : Int32)), (3, vI (0 : Int32))]) [2, 1, 0] rfl ?_
    refine j_X10_richest_L25 hI hC hr hlk 4096 _ _ _ _
  refine s_bipush hC dX10_richest_8 (v := -2) (by decide) ?_
  exact s_iret hC hr hlk dX10_richest_10
theorem dX10_isSeen_0 : decode cX10_isSeen 0 = .ok (.iconst 1, 1) := by decide +kernel
theorem dX10_isSeen_1 : decode cX10_isSeen 1 = .ok (.istore_n 1, 1) := by decide +kernel
theorem dX10_isSeen_2 : decode cX10_isSeen 2 = .ok (.iconst 0, 1) := by decide +kernel
theorem dX10_isSeen_3 : decode cX10_isSeen 3 = .ok (.istore_n 2, 1) := by decide +kernel
theorem dX10_isSeen_4 : decode cX10_isSeen 4 = .ok (.iload_n 2, 1) := by decide +kernel
theorem dX10_isSeen_5 : decode cX10_isSeen 5 = .ok (.aload_n 0, 1) := by decide +kernel
theorem dX10_isSeen_6 : decode cX10_isSeen 6 = .ok (.getfield 132, 3) := by decide +kernel
theorem dX10_isSeen_9 : decode cX10_isSeen 9 = .ok (.if_icmp .ge 50, 3) := by decide +kernel
theorem dX10_isSeen_12 : decode cX10_isSeen 12 = .ok (.iload_n 1, 1) := by decide +kernel
theorem dX10_isSeen_13 : decode cX10_isSeen 13 = .ok (.ifCond .eq 46, 3) := by decide +kernel
theorem dX10_isSeen_16 : decode cX10_isSeen 16 = .ok (.aload_n 0, 1) := by decide +kernel
theorem dX10_isSeen_17 : decode cX10_isSeen 17 = .ok (.invokevirtual 366, 3) := by decide +kernel
theorem dX10_isSeen_20 : decode cX10_isSeen 20 = .ok (.aload_n 0, 1) := by decide +kernel
theorem dX10_isSeen_21 : decode cX10_isSeen 21 = .ok (.aload_n 0, 1) := by decide +kernel
theorem dX10_isSeen_22 : decode cX10_isSeen 22 = .ok (.getfield 135, 3) := by decide +kernel
theorem dX10_isSeen_25 : decode cX10_isSeen 25 = .ok (.iload_n 2, 1) := by decide +kernel
theorem dX10_isSeen_26 : decode cX10_isSeen 26 = .ok (.iaload, 1) := by decide +kernel
theorem dX10_isSeen_27 : decode cX10_isSeen 27 = .ok (.invokevirtual 369, 3) := by decide +kernel
theorem dX10_isSeen_30 : decode cX10_isSeen 30 = .ok (.aload_n 0, 1) := by decide +kernel
theorem dX10_isSeen_31 : decode cX10_isSeen 31 = .ok (.invokevirtual 328, 3) := by decide +kernel
theorem dX10_isSeen_34 : decode cX10_isSeen 34 = .ok (.aload_n 0, 1) := by decide +kernel
theorem dX10_isSeen_35 : decode cX10_isSeen 35 = .ok (.getfield 138, 3) := by decide +kernel
theorem dX10_isSeen_38 : decode cX10_isSeen 38 = .ok (.iload_n 2, 1) := by decide +kernel
theorem dX10_isSeen_39 : decode cX10_isSeen 39 = .ok (.iaload, 1) := by decide +kernel
theorem dX10_isSeen_40 : decode cX10_isSeen 40 = .ok (.if_icmp .ne 7, 3) := by decide +kernel
theorem dX10_isSeen_43 : decode cX10_isSeen 43 = .ok (.iconst 1, 1) := by decide +kernel
theorem dX10_isSeen_44 : decode cX10_isSeen 44 = .ok (.goto 4, 3) := by decide +kernel
theorem dX10_isSeen_47 : decode cX10_isSeen 47 = .ok (.iconst 0, 1) := by decide +kernel
theorem dX10_isSeen_48 : decode cX10_isSeen 48 = .ok (.istore_n 1, 1) := by decide +kernel
theorem dX10_isSeen_49 : decode cX10_isSeen 49 = .ok (.aload_n 0, 1) := by decide +kernel
theorem dX10_isSeen_50 : decode cX10_isSeen 50 = .ok (.invokevirtual 372, 3) := by decide +kernel
theorem dX10_isSeen_53 : decode cX10_isSeen 53 = .ok (.iinc 2 1, 3) := by decide +kernel
theorem dX10_isSeen_56 : decode cX10_isSeen 56 = .ok (.goto (-52), 3) := by decide +kernel
theorem dX10_isSeen_59 : decode cX10_isSeen 59 = .ok (.iload_n 1, 1) := by decide +kernel
theorem dX10_isSeen_60 : decode cX10_isSeen 60 = .ok (.ireturn, 1) := by decide +kernel
def f_X10_isSeen_L4 (X : x_X) : Nat → Nat → Int32 → Int32 → x_M → Option (Int32 × x_M)
  | 0, _, _, _, _ => none
  | n + 1, v2, v3, v4, μ5 =>
    (ck (x_kd X v2 = 10 + 1) (if (μ5.1 v2 40) ≤ v4 then (ck (v3 = 0 ∨ v3 = 1) (some (v3, μ5))) else (if v3 = 0 then (ck (v3 = 0 ∨ v3 = 1) (some (v3, μ5))) else (ck (x_kd X v2 = 10 + 1) (bd (f_X10_save X v2 μ5) (fun (_ : Unit) (μ6 : x_M) => (ck (x_kd X v2 = 10 + 1) (lt (μ6.2.1 v2 41) (fun (v7 : Nat) => (ck ((x_kd X v7 = 20 ∨ x_kd X v7 = 40) ∧ x_ix v4 (x_ln X v7)) (ck (x_kd X v2 = 10 + 1) (bd (f_X10_goDays X v2 (μ6.1 v7 (v4).toNatClampNeg) μ6) (fun (_ : Unit) (μ8 : x_M) => (ck (x_kd X v2 = 10 + 1) (bd (f_X10_level X v2 μ8) (fun (v9 : Int32) (μ10 : x_M) => (ck (x_kd X v2 = 10 + 1) (lt (μ10.2.1 v2 42) (fun (v11 : Nat) => (ck ((x_kd X v11 = 20 ∨ x_kd X v11 = 40) ∧ x_ix v4 (x_ln X v11)) (if v9 = (μ10.1 v11 (v4).toNatClampNeg) then (ck (x_kd X v2 = 10 + 1) (bd (f_X10_putBack X v2 μ10) (fun (_ : Unit) (μ13 : x_M) => (f_X10_isSeen_L4 X n v2 (1 : Int32) (v4 + (1 : Int32)) μ13)))) else (ck (x_kd X v2 = 10 + 1) (bd (f_X10_putBack X v2 μ10) (fun (_ : Unit) (μ12 : x_M) => (f_X10_isSeen_L4 X n v2 (0 : Int32) (v4 + (1 : Int32)) μ12)))))))))))))))))))))))))
set_option maxRecDepth 100000 in
theorem j_X10_isSeen_L4 (hI : x_I X) (hC : x_C X x_Z0 p (x_rm 7) s m c cX10_isSeen RX10 3 0 0 7) (hr : meth.sig.returnType = (some .boolean)) (hlk : meth.locks = false) : ∀ (n : Nat) (v2 : Nat) (v3 : Int32) (v4 : Int32) (μ5 : x_M), SM X 3 7 rkI p l e s m args below meth c 4 [(0, vR v2), (1, vI v3), (2, vI v4)] [] μ5 (f_X10_isSeen_L4 X n v2 v3 v4 μ5) := by
  intro n
  induction n with
  | zero => intro v2 v3 v4 μ5; exact s_none
  | succ n ih =>
    intro v2 v3 v4 μ5
    unfold f_X10_isSeen_L4
    refine s_iload_n hC 2 dX10_isSeen_4 rfl ?_
    refine s_aload_n hC 0 dX10_isSeen_5 rfl ?_
    refine s_getI hC xc10 (by decide) rfl qf_X10_132 dX10_isSeen_6 ?_
    refine s_icmp_ge hC dX10_isSeen_9 (tgt := 59) (by decide) ?_ ?_
    · refine s_iload_n hC 1 dX10_isSeen_59 rfl ?_
      exact s_zret hC hr hlk dX10_isSeen_60
    refine s_iload_n hC 1 dX10_isSeen_12 rfl ?_
    refine s_if_eq hC dX10_isSeen_13 (tgt := 59) (by decide) ?_ ?_
    · refine s_iload_n hC 1 dX10_isSeen_59 rfl ?_
      exact s_zret hC hr hlk dX10_isSeen_60
    refine s_aload_n hC 0 dX10_isSeen_16 rfl ?_
    refine s_callV hC (x := v2) (avs := []) (st := []) (nest := false) xc10 (m_X10_save hI v2 μ5) dX10_isSeen_17 qm_X10_366 qi_X10_save qs_X10_save qc_X10 qd_X10_save qh_X10_save (by decide) (fun _ => Nat.le_of_ble_eq_true rfl) (Nat.le_of_ble_eq_true rfl) (fun _ μ6 => ?_)
    refine s_aload_n hC 0 dX10_isSeen_20 rfl ?_
    refine s_aload_n hC 0 dX10_isSeen_21 rfl ?_
    refine s_getR hC xc10 (by decide) rfl qf_X10_135 dX10_isSeen_22 ?_
    refine s_ltR (fun v7 => ?_)
    refine s_iload_n hC 2 dX10_isSeen_25 rfl ?_
    refine s_iald hC dX10_isSeen_26 ?_
    refine s_callV hC (x := v2) (avs := [vI (μ6.1 v7 (v4).toNatClampNeg)]) (st := []) (nest := false) xc10 (m_X10_goDays hI v2 (μ6.1 v7 (v4).toNatClampNeg) μ6) dX10_isSeen_27 qm_X10_369 qi_X10_goDays qs_X10_goDays qc_X10 qd_X10_goDays qh_X10_goDays (by decide) (fun _ => Nat.le_of_ble_eq_true rfl) (Nat.le_of_ble_eq_true rfl) (fun _ μ8 => ?_)
    refine s_aload_n hC 0 dX10_isSeen_30 rfl ?_
    refine s_callV hC (x := v2) (avs := []) (st := []) (nest := false) xc10 (m_X10_level hI v2 μ8) dX10_isSeen_31 qm_X10_328 qi_X10_level qs_X10_level qc_X10 qd_X10_level qh_X10_level (by decide) (fun _ => Nat.le_of_ble_eq_true rfl) (Nat.le_of_ble_eq_true rfl) (fun v9 μ10 => ?_)
    refine s_aload_n hC 0 dX10_isSeen_34 rfl ?_
    refine s_getR hC xc10 (by decide) rfl qf_X10_138 dX10_isSeen_35 ?_
    refine s_ltR (fun v11 => ?_)
    refine s_iload_n hC 2 dX10_isSeen_38 rfl ?_
    refine s_iald hC dX10_isSeen_39 ?_
    refine s_icmp_ne hC dX10_isSeen_40 (tgt := 47) (by decide) ?_ ?_
    · refine s_iconst hC dX10_isSeen_47 (v := 0) (by decide) ?_
      refine s_istore_n hC dX10_isSeen_48 (by decide) (lv' := [(1, vI (0 : Int32)), (0, vR v2), (2, vI v4)]) rfl ?_
      refine s_aload_n hC 1 dX10_isSeen_49 rfl ?_
      refine s_callV hC (x := v2) (avs := []) (st := []) (nest := false) xc10 (m_X10_putBack hI v2 μ10) dX10_isSeen_50 qm_X10_372 qi_X10_putBack qs_X10_putBack qc_X10 qd_X10_putBack qh_X10_putBack (by decide) (fun _ => Nat.le_of_ble_eq_true rfl) (Nat.le_of_ble_eq_true rfl) (fun _ μ12 => ?_)
      refine s_iinc hC 2 dX10_isSeen_53 rfl (w := 1) (by decide) (by decide) (lv' := [(2, vI (v4 + (1 : Int32))), (1, vI (0 : Int32)), (0, vR v2)]) rfl ?_
      refine s_goto hC dX10_isSeen_56 (tgt := 4) (by decide) ?_
      refine s_lv (lv' := [(0, vR v2), (1, vI (0 : Int32)), (2, vI (v4 + (1 : Int32)))]) [2, 1, 0] rfl ?_
      exact ih _ _ _ _
    refine s_iconst hC dX10_isSeen_43 (v := 1) (by decide) ?_
    refine s_goto hC dX10_isSeen_44 (tgt := 48) (by decide) ?_
    refine s_istore_n hC dX10_isSeen_48 (by decide) (lv' := [(1, vI (1 : Int32)), (0, vR v2), (2, vI v4)]) rfl ?_
    refine s_aload_n hC 1 dX10_isSeen_49 rfl ?_
    refine s_callV hC (x := v2) (avs := []) (st := []) (nest := false) xc10 (m_X10_putBack hI v2 μ10) dX10_isSeen_50 qm_X10_372 qi_X10_putBack qs_X10_putBack qc_X10 qd_X10_putBack qh_X10_putBack (by decide) (fun _ => Nat.le_of_ble_eq_true rfl) (Nat.le_of_ble_eq_true rfl) (fun _ μ13 => ?_)
    refine s_iinc hC 2 dX10_isSeen_53 rfl (w := 1) (by decide) (by decide) (lv' := [(2, vI (v4 + (1 : Int32))), (1, vI (1 : Int32)), (0, vR v2)]) rfl ?_
    refine s_goto hC dX10_isSeen_56 (tgt := 4) (by decide) ?_
    refine s_lv (lv' := [(0, vR v2), (1, vI (1 : Int32)), (2, vI (v4 + (1 : Int32)))]) [2, 1, 0] rfl ?_
    exact ih _ _ _ _
def f_X10_isSeen (X : x_X) (v0 : Nat) (μ : x_M) : Option (Int32 × x_M) :=
  (f_X10_isSeen_L4 X 4096 v0 (1 : Int32) (0 : Int32) μ)
set_option maxRecDepth 100000 in
theorem m_X10_isSeen (hI : x_I X) (v0 : Nat) (μ : x_M) : x_Met X x_Z0 l yX10_isSeen cX10_isSeen 3 (some .boolean) 7 [vR v0] μ rkI (f_X10_isSeen X v0 μ) := by
  refine x_enter hI (by decide +kernel) (Nat.le_of_ble_eq_true rfl) (fun p e s m args below meth c hC hr hlk => ?_)
  unfold f_X10_isSeen
  refine s_lv (lv' := [(0, vR v0)]) [0] rfl ?_
  refine s_iconst hC dX10_isSeen_0 (v := 1) (by decide) ?_
  refine s_istore_n hC dX10_isSeen_1 (by decide) (lv' := [(1, vI (1 : Int32)), (0, vR v0)]) rfl ?_
  refine s_iconst hC dX10_isSeen_2 (v := 0) (by decide) ?_
  refine s_istore_n hC dX10_isSeen_3 (by decide) (lv' := [(2, vI (0 : Int32)), (1, vI (1 : Int32)), (0, vR v0)]) rfl ?_
  refine s_lv (lv' := [(0, vR v0), (1, vI (1 : Int32)), (2, vI (0 : Int32))]) [2, 1, 0] rfl ?_
  refine j_X10_isSeen_L4 hI hC hr hlk 4096 _ _ _ _
theorem dX10_odds_0 : decode cX10_odds 0 = .ok (.aload_n 0, 1) := by decide +kernel
theorem dX10_odds_1 : decode cX10_odds 1 = .ok (.iload_n 1, 1) := by decide +kernel
theorem dX10_odds_2 : decode cX10_odds 2 = .ok (.iconst 1, 1) := by decide +kernel
theorem dX10_odds_3 : decode cX10_odds 3 = .ok (.bipush 20, 2) := by decide +kernel
theorem dX10_odds_5 : decode cX10_odds 5 = .ok (.invokevirtual 245, 3) := by decide +kernel
theorem dX10_odds_8 : decode cX10_odds 8 = .ok (.ifCond .eq 13, 3) := by decide +kernel
theorem dX10_odds_11 : decode cX10_odds 11 = .ok (.aload_n 0, 1) := by decide +kernel
theorem dX10_odds_12 : decode cX10_odds 12 = .ok (.iload_n 2, 1) := by decide +kernel
theorem dX10_odds_13 : decode cX10_odds 13 = .ok (.iconst 0, 1) := by decide +kernel
theorem dX10_odds_14 : decode cX10_odds 14 = .ok (.iconst 1, 1) := by decide +kernel
theorem dX10_odds_15 : decode cX10_odds 15 = .ok (.invokevirtual 245, 3) := by decide +kernel
theorem dX10_odds_18 : decode cX10_odds 18 = .ok (.ifCond .ne 7, 3) := by decide +kernel
theorem dX10_odds_21 : decode cX10_odds 21 = .ok (.ldc2_w 389, 3) := by decide +kernel
theorem dX10_odds_24 : decode cX10_odds 24 = .ok (.lreturn, 1) := by decide +kernel
theorem dX10_odds_25 : decode cX10_odds 25 = .ok (.iconst 0, 1) := by decide +kernel
theorem dX10_odds_26 : decode cX10_odds 26 = .ok (.istore_n 3, 1) := by decide +kernel
theorem dX10_odds_27 : decode cX10_odds 27 = .ok (.iconst 0, 1) := by decide +kernel
theorem dX10_odds_28 : decode cX10_odds 28 = .ok (.istore 4, 2) := by decide +kernel
theorem dX10_odds_30 : decode cX10_odds 30 = .ok (.iload 4, 2) := by decide +kernel
theorem dX10_odds_32 : decode cX10_odds 32 = .ok (.iload_n 1, 1) := by decide +kernel
theorem dX10_odds_33 : decode cX10_odds 33 = .ok (.if_icmp .ge 36, 3) := by decide +kernel
theorem dX10_odds_36 : decode cX10_odds 36 = .ok (.aload_n 0, 1) := by decide +kernel
theorem dX10_odds_37 : decode cX10_odds 37 = .ok (.aload_n 0, 1) := by decide +kernel
theorem dX10_odds_38 : decode cX10_odds 38 = .ok (.getfield 13, 3) := by decide +kernel
theorem dX10_odds_41 : decode cX10_odds 41 = .ok (.iload 4, 2) := by decide +kernel
theorem dX10_odds_43 : decode cX10_odds 43 = .ok (.iadd, 1) := by decide +kernel
theorem dX10_odds_44 : decode cX10_odds 44 = .ok (.putfield 108, 3) := by decide +kernel
theorem dX10_odds_47 : decode cX10_odds 47 = .ok (.iload_n 3, 1) := by decide +kernel
theorem dX10_odds_48 : decode cX10_odds 48 = .ok (.aload_n 0, 1) := by decide +kernel
theorem dX10_odds_49 : decode cX10_odds 49 = .ok (.iload_n 1, 1) := by decide +kernel
theorem dX10_odds_50 : decode cX10_odds 50 = .ok (.invokevirtual 378, 3) := by decide +kernel
theorem dX10_odds_53 : decode cX10_odds 53 = .ok (.ifCond .eq 7, 3) := by decide +kernel
theorem dX10_odds_56 : decode cX10_odds 56 = .ok (.iconst 0, 1) := by decide +kernel
theorem dX10_odds_57 : decode cX10_odds 57 = .ok (.goto 4, 3) := by decide +kernel
theorem dX10_odds_60 : decode cX10_odds 60 = .ok (.iconst 1, 1) := by decide +kernel
theorem dX10_odds_61 : decode cX10_odds 61 = .ok (.iadd, 1) := by decide +kernel
theorem dX10_odds_62 : decode cX10_odds 62 = .ok (.istore_n 3, 1) := by decide +kernel
theorem dX10_odds_63 : decode cX10_odds 63 = .ok (.iinc 4 1, 3) := by decide +kernel
theorem dX10_odds_66 : decode cX10_odds 66 = .ok (.goto (-36), 3) := by decide +kernel
theorem dX10_odds_69 : decode cX10_odds 69 = .ok (.aload_n 0, 1) := by decide +kernel
theorem dX10_odds_70 : decode cX10_odds 70 = .ok (.iconst (-1), 1) := by decide +kernel
theorem dX10_odds_71 : decode cX10_odds 71 = .ok (.putfield 108, 3) := by decide +kernel
theorem dX10_odds_74 : decode cX10_odds 74 = .ok (.aload_n 0, 1) := by decide +kernel
theorem dX10_odds_75 : decode cX10_odds 75 = .ok (.iload_n 3, 1) := by decide +kernel
theorem dX10_odds_76 : decode cX10_odds 76 = .ok (.iload_n 1, 1) := by decide +kernel
theorem dX10_odds_77 : decode cX10_odds 77 = .ok (.iload_n 2, 1) := by decide +kernel
theorem dX10_odds_78 : decode cX10_odds 78 = .ok (.invokevirtual 391, 3) := by decide +kernel
theorem dX10_odds_81 : decode cX10_odds 81 = .ok (.lreturn, 1) := by decide +kernel
def f_X10_odds_L30 (X : x_X) (k69 : Nat → Int32 → Int32 → Int32 → x_M → Option (Int64 × x_M)) : Nat → Nat → Int32 → Int32 → Int32 → Int32 → x_M → Option (Int64 × x_M)
  | 0, _, _, _, _, _, _ => none
  | n + 1, v8, v9, v10, v11, v12, μ13 =>
    (if v9 ≤ v12 then (k69 v8 v9 v10 v11 μ13) else (ck (x_kd X v8 = 10 + 1) (ck (x_kd X v8 = 10 + 1) (lt (x_sI μ13 v8 32 ((μ13.1 v8 1) + v12)) (fun (μ14 : x_M) => (ck (x_kd X v8 = 10 + 1) (bd (f_X10_isAbove X v8 v9 μ14) (fun (v15 : Int32) (μ16 : x_M) => (if v15 = 0 then (lt (v11 + (1 : Int32)) (fun (v17 : Int32) => (f_X10_odds_L30 X k69 n v8 v9 v10 v17 (v12 + (1 : Int32)) μ16))) else (lt (v11 + (0 : Int32)) (fun (v18 : Int32) => (f_X10_odds_L30 X k69 n v8 v9 v10 v18 (v12 + (1 : Int32)) μ16))))))))))))
set_option maxRecDepth 100000 in
theorem j_X10_odds_L30 (hI : x_I X) (hC : x_C X x_Z0 p (x_rm 7) s m c cX10_odds RX10 5 0 0 7) (hr : meth.sig.returnType = (some .long)) (hlk : meth.locks = false) {k69 : Nat → Int32 → Int32 → Int32 → x_M → Option (Int64 × x_M)} (hk69 : ∀ (b0 : Nat) (b1 : Int32) (b2 : Int32) (b3 : Int32) (μ : x_M), SM X 5 7 rkJ p l e s m args below meth c 69 [(0, vR b0), (1, vI b1), (2, vI b2), (3, vI b3)] [] μ (k69 b0 b1 b2 b3 μ)) : ∀ (n : Nat) (v8 : Nat) (v9 : Int32) (v10 : Int32) (v11 : Int32) (v12 : Int32) (μ13 : x_M), SM X 5 7 rkJ p l e s m args below meth c 30 [(0, vR v8), (1, vI v9), (2, vI v10), (3, vI v11), (4, vI v12)] [] μ13 (f_X10_odds_L30 X k69 n v8 v9 v10 v11 v12 μ13) := by
  intro n
  induction n with
  | zero => intro v8 v9 v10 v11 v12 μ13; exact s_none
  | succ n ih =>
    intro v8 v9 v10 v11 v12 μ13
    unfold f_X10_odds_L30
    refine s_iload hC 4 dX10_odds_30 rfl ?_
    refine s_iload_n hC 1 dX10_odds_32 rfl ?_
    refine s_icmp_ge hC dX10_odds_33 (tgt := 69) (by decide) ?_ ?_
    · refine s_lv (lv' := [(0, vR v8), (1, vI v9), (2, vI v10), (3, vI v11)]) [0, 1, 2, 3] rfl ?_
      exact hk69 _ _ _ _ _
    refine s_aload_n hC 0 dX10_odds_36 rfl ?_
    refine s_aload_n hC 0 dX10_odds_37 rfl ?_
    refine s_getI hC xc10 (by decide) rfl qf_X10_13 dX10_odds_38 ?_
    refine s_iload hC 4 dX10_odds_41 rfl ?_
    refine s_iadd hC dX10_odds_43 ?_
    refine s_putI hC xc10 (by decide) rfl rfl qf_X10_108 dX10_odds_44 ?_
    refine s_ltM (fun μ14 => ?_)
    refine s_iload_n hC 3 dX10_odds_47 rfl ?_
    refine s_aload_n hC 0 dX10_odds_48 rfl ?_
    refine s_iload_n hC 1 dX10_odds_49 rfl ?_
    refine s_callV hC (x := v8) (avs := [vI v9]) (st := [vI v11]) (nest := false) xc10 (m_X10_isAbove hI v8 v9 μ14) dX10_odds_50 qm_X10_378 qi_X10_isAbove qs_X10_isAbove qc_X10 qd_X10_isAbove qh_X10_isAbove (by decide) (fun _ => Nat.le_of_ble_eq_true rfl) (Nat.le_of_ble_eq_true rfl) (fun v15 μ16 => ?_)
    refine s_if_eq hC dX10_odds_53 (tgt := 60) (by decide) ?_ ?_
    · refine s_iconst hC dX10_odds_60 (v := 1) (by decide) ?_
      refine s_iadd hC dX10_odds_61 ?_
      refine s_ltI (fun v17 => ?_)
      refine s_istore_n hC dX10_odds_62 (by decide) (lv' := [(3, vI v17), (0, vR v8), (1, vI v9), (2, vI v10), (4, vI v12)]) rfl ?_
      refine s_iinc hC 4 dX10_odds_63 rfl (w := 1) (by decide) (by decide) (lv' := [(4, vI (v12 + (1 : Int32))), (3, vI v17), (0, vR v8), (1, vI v9), (2, vI v10)]) rfl ?_
      refine s_goto hC dX10_odds_66 (tgt := 30) (by decide) ?_
      refine s_lv (lv' := [(0, vR v8), (1, vI v9), (2, vI v10), (3, vI v17), (4, vI (v12 + (1 : Int32)))]) [2, 3, 4, 1, 0] rfl ?_
      exact ih _ _ _ _ _ _
    refine s_iconst hC dX10_odds_56 (v := 0) (by decide) ?_
    refine s_goto hC dX10_odds_57 (tgt := 61) (by decide) ?_
    refine s_iadd hC dX10_odds_61 ?_
    refine s_ltI (fun v18 => ?_)
    refine s_istore_n hC dX10_odds_62 (by decide) (lv' := [(3, vI v18), (0, vR v8), (1, vI v9), (2, vI v10), (4, vI v12)]) rfl ?_
    refine s_iinc hC 4 dX10_odds_63 rfl (w := 1) (by decide) (by decide) (lv' := [(4, vI (v12 + (1 : Int32))), (3, vI v18), (0, vR v8), (1, vI v9), (2, vI v10)]) rfl ?_
    refine s_goto hC dX10_odds_66 (tgt := 30) (by decide) ?_
    refine s_lv (lv' := [(0, vR v8), (1, vI v9), (2, vI v10), (3, vI v18), (4, vI (v12 + (1 : Int32)))]) [2, 3, 4, 1, 0] rfl ?_
    exact ih _ _ _ _ _ _
def f_X10_odds (X : x_X) (v0 : Nat) (v1 : Int32) (v2 : Int32) (μ : x_M) : Option (Int64 × x_M) :=
  (ck (x_kd X v0 = 10 + 1) (bd (f_X10_in X v0 v1 (1 : Int32) (20 : Int32) μ) (fun (v4 : Int32) (μ5 : x_M) => (if v4 = 0 then (some ((-9223372036854775808 : Int64), μ5)) else (ck (x_kd X v0 = 10 + 1) (bd (f_X10_in X v0 v2 (0 : Int32) (1 : Int32) μ5) (fun (v6 : Int32) (μ7 : x_M) => (if v6 = 0 then (some ((-9223372036854775808 : Int64), μ7)) else (f_X10_odds_L30 X (fun (v19 : Nat) (v20 : Int32) (v21 : Int32) (v22 : Int32) (μ23 : x_M) => (ck (x_kd X v19 = 10 + 1) (lt (x_sI μ23 v19 32 (-1 : Int32)) (fun (μ24 : x_M) => (ck (x_kd X v19 = 10 + 1) (bd (f_X10_lowestTerms X v19 v22 v20 v21 μ24) (fun (v25 : Int64) (μ26 : x_M) => (some (v25, μ26))))))))) 4096 v0 v1 v2 (0 : Int32) (0 : Int32) μ7)))))))))
set_option maxRecDepth 100000 in
theorem m_X10_odds (hI : x_I X) (v0 : Nat) (v1 : Int32) (v2 : Int32) (μ : x_M) : x_Met X x_Z0 l yX10_odds cX10_odds 5 (some .long) 7 [vR v0, vI v1, vI v2] μ rkJ (f_X10_odds X v0 v1 v2 μ) := by
  refine x_enter hI (by decide +kernel) (Nat.le_of_ble_eq_true rfl) (fun p e s m args below meth c hC hr hlk => ?_)
  unfold f_X10_odds
  refine s_lv (lv' := [(0, vR v0), (1, vI v1), (2, vI v2)]) [0, 1, 2] rfl ?_
  refine s_aload_n hC 0 dX10_odds_0 rfl ?_
  refine s_iload_n hC 1 dX10_odds_1 rfl ?_
  refine s_iconst hC dX10_odds_2 (v := 1) (by decide) ?_
  refine s_bipush hC dX10_odds_3 (v := 20) (by decide) ?_
  refine s_callV hC (x := v0) (avs := [vI v1, vI (1 : Int32), vI (20 : Int32)]) (st := []) (nest := false) xc10 (m_X10_in hI v0 v1 (1 : Int32) (20 : Int32) μ) dX10_odds_5 qm_X10_245 qi_X10_in qs_X10_in qc_X10 qd_X10_in qh_X10_in (by decide) (fun _ => Nat.le_of_ble_eq_true rfl) (Nat.le_of_ble_eq_true rfl) (fun v4 μ5 => ?_)
  refine s_if_eq hC dX10_odds_8 (tgt := 21) (by decide) ?_ ?_
  · refine s_ldc2 hC dX10_odds_21 qk_X10_389 ?_
    exact s_lret hC hr hlk dX10_odds_24
  refine s_aload_n hC 0 dX10_odds_11 rfl ?_
  refine s_iload_n hC 2 dX10_odds_12 rfl ?_
  refine s_iconst hC dX10_odds_13 (v := 0) (by decide) ?_
  refine s_iconst hC dX10_odds_14 (v := 1) (by decide) ?_
  refine s_callV hC (x := v0) (avs := [vI v2, vI (0 : Int32), vI (1 : Int32)]) (st := []) (nest := false) xc10 (m_X10_in hI v0 v2 (0 : Int32) (1 : Int32) μ5) dX10_odds_15 qm_X10_245 qi_X10_in qs_X10_in qc_X10 qd_X10_in qh_X10_in (by decide) (fun _ => Nat.le_of_ble_eq_true rfl) (Nat.le_of_ble_eq_true rfl) (fun v6 μ7 => ?_)
  refine s_if_ne hC dX10_odds_18 (tgt := 25) (by decide) ?_ ?_
  · refine s_iconst hC dX10_odds_25 (v := 0) (by decide) ?_
    refine s_istore_n hC dX10_odds_26 (by decide) (lv' := [(3, vI (0 : Int32)), (0, vR v0), (1, vI v1), (2, vI v2)]) rfl ?_
    refine s_iconst hC dX10_odds_27 (v := 0) (by decide) ?_
    refine s_istore hC dX10_odds_28 (by decide) (lv' := [(4, vI (0 : Int32)), (3, vI (0 : Int32)), (0, vR v0), (1, vI v1), (2, vI v2)]) rfl ?_
    refine s_lv (lv' := [(0, vR v0), (1, vI v1), (2, vI v2), (3, vI (0 : Int32)), (4, vI (0 : Int32))]) [2, 3, 4, 1, 0] rfl ?_
    refine j_X10_odds_L30 hI hC hr hlk (fun v19 v20 v21 v22 μ23 => ?_) 4096 _ _ _ _ _ _
    refine s_aload_n hC 0 dX10_odds_69 rfl ?_
    refine s_iconst hC dX10_odds_70 (v := -1) (by decide) ?_
    refine s_putI hC xc10 (by decide) rfl rfl qf_X10_108 dX10_odds_71 ?_
    refine s_ltM (fun μ24 => ?_)
    refine s_aload_n hC 0 dX10_odds_74 rfl ?_
    refine s_iload_n hC 3 dX10_odds_75 rfl ?_
    refine s_iload_n hC 1 dX10_odds_76 rfl ?_
    refine s_iload_n hC 2 dX10_odds_77 rfl ?_
    refine s_callV hC (x := v19) (avs := [vI v22, vI v20, vI v21]) (st := []) (nest := false) xc10 (m_X10_lowestTerms hI v19 v22 v20 v21 μ24) dX10_odds_78 qm_X10_391 qi_X10_lowestTerms qs_X10_lowestTerms qc_X10 qd_X10_lowestTerms qh_X10_lowestTerms (by decide) (fun _ => Nat.le_of_ble_eq_true rfl) (Nat.le_of_ble_eq_true rfl) (fun v25 μ26 => ?_)
    exact s_lret hC hr hlk dX10_odds_81
  refine s_ldc2 hC dX10_odds_21 qk_X10_389 ?_
  exact s_lret hC hr hlk dX10_odds_24
theorem dX10_accountTells_0 : decode cX10_accountTells 0 = .ok (.aload_n 0, 1) := by decide +kernel
theorem dX10_accountTells_1 : decode cX10_accountTells 1 = .ok (.bipush 12, 2) := by decide +kernel
theorem dX10_accountTells_3 : decode cX10_accountTells 3 = .ok (.invokevirtual 401, 3) := by decide +kernel
theorem dX10_accountTells_6 : decode cX10_accountTells 6 = .ok (.aload_n 0, 1) := by decide +kernel
theorem dX10_accountTells_7 : decode cX10_accountTells 7 = .ok (.iload_n 1, 1) := by decide +kernel
theorem dX10_accountTells_8 : decode cX10_accountTells 8 = .ok (.iload_n 2, 1) := by decide +kernel
theorem dX10_accountTells_9 : decode cX10_accountTells 9 = .ok (.invokevirtual 416, 3) := by decide +kernel
theorem dX10_accountTells_12 : decode cX10_accountTells 12 = .ok (.iconst 2, 1) := by decide +kernel
theorem dX10_accountTells_13 : decode cX10_accountTells 13 = .ok (.imul, 1) := by decide +kernel
theorem dX10_accountTells_14 : decode cX10_accountTells 14 = .ok (.ireturn, 1) := by decide +kernel
def f_X10_accountTells (X : x_X) (v0 : Nat) (v1 : Int32) (v2 : Int32) (μ : x_M) : Option (Int32 × x_M) :=
  (ck (x_kd X v0 = 10 + 1) (bd (f_X10_body X v0 (12 : Int32) μ) (fun (_ : Unit) (μ4 : x_M) => (ck (x_kd X v0 = 10 + 1) (bd (f_X10_poursAct X v0 v1 v2 μ4) (fun (v5 : Int32) (μ6 : x_M) => (some ((v5 * (2 : Int32)), μ6))))))))
set_option maxRecDepth 100000 in
theorem m_X10_accountTells (hI : x_I X) (v0 : Nat) (v1 : Int32) (v2 : Int32) (μ : x_M) : x_Met X x_Z0 l yX10_accountTells cX10_accountTells 3 (some .int) 7 [vR v0, vI v1, vI v2] μ rkI (f_X10_accountTells X v0 v1 v2 μ) := by
  refine x_enter hI (by decide +kernel) (Nat.le_of_ble_eq_true rfl) (fun p e s m args below meth c hC hr hlk => ?_)
  unfold f_X10_accountTells
  refine s_lv (lv' := [(0, vR v0), (1, vI v1), (2, vI v2)]) [0, 1, 2] rfl ?_
  refine s_aload_n hC 0 dX10_accountTells_0 rfl ?_
  refine s_bipush hC dX10_accountTells_1 (v := 12) (by decide) ?_
  refine s_callV hC (x := v0) (avs := [vI (12 : Int32)]) (st := []) (nest := false) xc10 (m_X10_body hI v0 (12 : Int32) μ) dX10_accountTells_3 qm_X10_401 qi_X10_body qs_X10_body qc_X10 qd_X10_body qh_X10_body (by decide) (fun _ => Nat.le_of_ble_eq_true rfl) (Nat.le_of_ble_eq_true rfl) (fun _ μ4 => ?_)
  refine s_aload_n hC 0 dX10_accountTells_6 rfl ?_
  refine s_iload_n hC 1 dX10_accountTells_7 rfl ?_
  refine s_iload_n hC 2 dX10_accountTells_8 rfl ?_
  refine s_callV hC (x := v0) (avs := [vI v1, vI v2]) (st := []) (nest := false) xc10 (m_X10_poursAct hI v0 v1 v2 μ4) dX10_accountTells_9 qm_X10_416 qi_X10_poursAct qs_X10_poursAct qc_X10 qd_X10_poursAct qh_X10_poursAct (by decide) (fun _ => Nat.le_of_ble_eq_true rfl) (Nat.le_of_ble_eq_true rfl) (fun v5 μ6 => ?_)
  refine s_iconst hC dX10_accountTells_12 (v := 2) (by decide) ?_
  refine s_imul hC dX10_accountTells_13 ?_
  exact s_iret hC hr hlk dX10_accountTells_14
theorem dX10_law_0 : decode cX10_law 0 = .ok (.aload_n 0, 1) := by decide +kernel
theorem dX10_law_1 : decode cX10_law 1 = .ok (.getfield 44, 3) := by decide +kernel
theorem dX10_law_4 : decode cX10_law 4 = .ok (.bipush 6, 2) := by decide +kernel
theorem dX10_law_6 : decode cX10_law 6 = .ok (.if_icmp .ne 6, 3) := by decide +kernel
theorem dX10_law_9 : decode cX10_law 9 = .ok (.bipush (-4), 2) := by decide +kernel
theorem dX10_law_11 : decode cX10_law 11 = .ok (.ireturn, 1) := by decide +kernel
theorem dX10_law_12 : decode cX10_law 12 = .ok (.aload_n 0, 1) := by decide +kernel
theorem dX10_law_13 : decode cX10_law 13 = .ok (.aload_n 0, 1) := by decide +kernel
theorem dX10_law_14 : decode cX10_law 14 = .ok (.getfield 44, 3) := by decide +kernel
theorem dX10_law_17 : decode cX10_law 17 = .ok (.invokevirtual 306, 3) := by decide +kernel
theorem dX10_law_20 : decode cX10_law 20 = .ok (.istore_n 1, 1) := by decide +kernel
theorem dX10_law_21 : decode cX10_law 21 = .ok (.aload_n 0, 1) := by decide +kernel
theorem dX10_law_22 : decode cX10_law 22 = .ok (.iconst 0, 1) := by decide +kernel
theorem dX10_law_23 : decode cX10_law 23 = .ok (.putfield 50, 3) := by decide +kernel
theorem dX10_law_26 : decode cX10_law 26 = .ok (.iload_n 1, 1) := by decide +kernel
theorem dX10_law_27 : decode cX10_law 27 = .ok (.ifCond .ne 11, 3) := by decide +kernel
theorem dX10_law_30 : decode cX10_law 30 = .ok (.bipush (-10), 2) := by decide +kernel
theorem dX10_law_32 : decode cX10_law 32 = .ok (.aload_n 0, 1) := by decide +kernel
theorem dX10_law_33 : decode cX10_law 33 = .ok (.getfield 53, 3) := by decide +kernel
theorem dX10_law_36 : decode cX10_law 36 = .ok (.isub, 1) := by decide +kernel
theorem dX10_law_37 : decode cX10_law 37 = .ok (.ireturn, 1) := by decide +kernel
theorem dX10_law_38 : decode cX10_law 38 = .ok (.aload_n 0, 1) := by decide +kernel
theorem dX10_law_39 : decode cX10_law 39 = .ok (.aload_n 0, 1) := by decide +kernel
theorem dX10_law_40 : decode cX10_law 40 = .ok (.getfield 44, 3) := by decide +kernel
theorem dX10_law_43 : decode cX10_law 43 = .ok (.putfield 47, 3) := by decide +kernel
theorem dX10_law_46 : decode cX10_law 46 = .ok (.aload_n 0, 1) := by decide +kernel
theorem dX10_law_47 : decode cX10_law 47 = .ok (.dup, 1) := by decide +kernel
theorem dX10_law_48 : decode cX10_law 48 = .ok (.getfield 44, 3) := by decide +kernel
theorem dX10_law_51 : decode cX10_law 51 = .ok (.iconst 1, 1) := by decide +kernel
theorem dX10_law_52 : decode cX10_law 52 = .ok (.iadd, 1) := by decide +kernel
theorem dX10_law_53 : decode cX10_law 53 = .ok (.putfield 44, 3) := by decide +kernel
theorem dX10_law_56 : decode cX10_law 56 = .ok (.aload_n 0, 1) := by decide +kernel
theorem dX10_law_57 : decode cX10_law 57 = .ok (.getfield 47, 3) := by decide +kernel
theorem dX10_law_60 : decode cX10_law 60 = .ok (.ireturn, 1) := by decide +kernel
def f_X10_law (X : x_X) (v0 : Nat) (μ : x_M) : Option (Int32 × x_M) :=
  (ck (x_kd X v0 = 10 + 1) (if (μ.1 v0 11) = (6 : Int32) then (some ((-4 : Int32), μ)) else (ck (x_kd X v0 = 10 + 1) (ck (x_kd X v0 = 10 + 1) (bd (f_X10_goesText X v0 (μ.1 v0 11) μ) (fun (v2 : Int32) (μ3 : x_M) => (ck (x_kd X v0 = 10 + 1) (lt (x_sI μ3 v0 13 (0 : Int32)) (fun (μ4 : x_M) => (if v2 = 0 then (ck (x_kd X v0 = 10 + 1) (some (((-10 : Int32) - (μ4.1 v0 14)), μ4))) else (ck (x_kd X v0 = 10 + 1) (ck (x_kd X v0 = 10 + 1) (lt (x_sI μ4 v0 12 (μ4.1 v0 11)) (fun (μ5 : x_M) => (ck (x_kd X v0 = 10 + 1) (ck (x_kd X v0 = 10 + 1) (lt (x_sI μ5 v0 11 ((μ5.1 v0 11) + (1 : Int32))) (fun (μ6 : x_M) => (ck (x_kd X v0 = 10 + 1) (some ((μ6.1 v0 12), μ6)))))))))))))))))))))
set_option maxRecDepth 100000 in
theorem m_X10_law (hI : x_I X) (v0 : Nat) (μ : x_M) : x_Met X x_Z0 l yX10_law cX10_law 2 (some .int) 8 [vR v0] μ rkI (f_X10_law X v0 μ) := by
  refine x_enter hI (by decide +kernel) (Nat.le_of_ble_eq_true rfl) (fun p e s m args below meth c hC hr hlk => ?_)
  unfold f_X10_law
  refine s_lv (lv' := [(0, vR v0)]) [0] rfl ?_
  refine s_aload_n hC 0 dX10_law_0 rfl ?_
  refine s_getI hC xc10 (by decide) rfl qf_X10_44 dX10_law_1 ?_
  refine s_bipush hC dX10_law_4 (v := 6) (by decide) ?_
  refine s_icmp_ne hC dX10_law_6 (tgt := 12) (by decide) ?_ ?_
  · refine s_aload_n hC 0 dX10_law_12 rfl ?_
    refine s_aload_n hC 0 dX10_law_13 rfl ?_
    refine s_getI hC xc10 (by decide) rfl qf_X10_44 dX10_law_14 ?_
    refine s_callV hC (x := v0) (avs := [vI (μ.1 v0 11)]) (st := []) (nest := false) xc10 (m_X10_goesText hI v0 (μ.1 v0 11) μ) dX10_law_17 qm_X10_306 qi_X10_goesText qs_X10_goesText qc_X10 qd_X10_goesText qh_X10_goesText (by decide) (fun _ => Nat.le_of_ble_eq_true rfl) (Nat.le_of_ble_eq_true rfl) (fun v2 μ3 => ?_)
    refine s_istore_n hC dX10_law_20 (by decide) (lv' := [(1, vI v2), (0, vR v0)]) rfl ?_
    refine s_aload_n hC 1 dX10_law_21 rfl ?_
    refine s_iconst hC dX10_law_22 (v := 0) (by decide) ?_
    refine s_putI hC xc10 (by decide) rfl rfl qf_X10_50 dX10_law_23 ?_
    refine s_ltM (fun μ4 => ?_)
    refine s_iload_n hC 0 dX10_law_26 rfl ?_
    refine s_if_ne hC dX10_law_27 (tgt := 38) (by decide) ?_ ?_
    · refine s_aload_n hC 1 dX10_law_38 rfl ?_
      refine s_aload_n hC 1 dX10_law_39 rfl ?_
      refine s_getI hC xc10 (by decide) rfl qf_X10_44 dX10_law_40 ?_
      refine s_putI hC xc10 (by decide) rfl rfl qf_X10_47 dX10_law_43 ?_
      refine s_ltM (fun μ5 => ?_)
      refine s_aload_n hC 1 dX10_law_46 rfl ?_
      refine s_dupR hC dX10_law_47 ?_
      refine s_getI hC xc10 (by decide) rfl qf_X10_44 dX10_law_48 ?_
      refine s_iconst hC dX10_law_51 (v := 1) (by decide) ?_
      refine s_iadd hC dX10_law_52 ?_
      refine s_putI hC xc10 (by decide) rfl rfl qf_X10_44 dX10_law_53 ?_
      refine s_ltM (fun μ6 => ?_)
      refine s_aload_n hC 1 dX10_law_56 rfl ?_
      refine s_getI hC xc10 (by decide) rfl qf_X10_47 dX10_law_57 ?_
      exact s_iret hC hr hlk dX10_law_60
    refine s_bipush hC dX10_law_30 (v := -10) (by decide) ?_
    refine s_aload_n hC 1 dX10_law_32 rfl ?_
    refine s_getI hC xc10 (by decide) rfl qf_X10_53 dX10_law_33 ?_
    refine s_isub hC dX10_law_36 ?_
    exact s_iret hC hr hlk dX10_law_37
  refine s_bipush hC dX10_law_9 (v := -4) (by decide) ?_
  exact s_iret hC hr hlk dX10_law_11
theorem dX10_without_0 : decode cX10_without 0 = .ok (.aload_n 0, 1) := by decide +kernel
theorem dX10_without_1 : decode cX10_without 1 = .ok (.iload_n 1, 1) := by decide +kernel
theorem dX10_without_2 : decode cX10_without 2 = .ok (.invokevirtual 257, 3) := by decide +kernel
theorem dX10_without_5 : decode cX10_without 5 = .ok (.ifCond .ne 7, 3) := by decide +kernel
theorem dX10_without_8 : decode cX10_without 8 = .ok (.ldc_w 381, 3) := by decide +kernel
theorem dX10_without_11 : decode cX10_without 11 = .ok (.ireturn, 1) := by decide +kernel
theorem dX10_without_12 : decode cX10_without 12 = .ok (.aload_n 0, 1) := by decide +kernel
theorem dX10_without_13 : decode cX10_without 13 = .ok (.iload_n 2, 1) := by decide +kernel
theorem dX10_without_14 : decode cX10_without 14 = .ok (.iconst 1, 1) := by decide +kernel
theorem dX10_without_15 : decode cX10_without 15 = .ok (.bipush 40, 2) := by decide +kernel
theorem dX10_without_17 : decode cX10_without 17 = .ok (.invokevirtual 245, 3) := by decide +kernel
theorem dX10_without_20 : decode cX10_without 20 = .ok (.ifCond .ne 7, 3) := by decide +kernel
theorem dX10_without_23 : decode cX10_without 23 = .ok (.ldc_w 382, 3) := by decide +kernel
theorem dX10_without_26 : decode cX10_without 26 = .ok (.ireturn, 1) := by decide +kernel
theorem dX10_without_27 : decode cX10_without 27 = .ok (.aload_n 0, 1) := by decide +kernel
theorem dX10_without_28 : decode cX10_without 28 = .ok (.iload_n 2, 1) := by decide +kernel
theorem dX10_without_29 : decode cX10_without 29 = .ok (.invokevirtual 383, 3) := by decide +kernel
theorem dX10_without_32 : decode cX10_without 32 = .ok (.istore_n 3, 1) := by decide +kernel
theorem dX10_without_33 : decode cX10_without 33 = .ok (.aload_n 0, 1) := by decide +kernel
theorem dX10_without_34 : decode cX10_without 34 = .ok (.iload_n 1, 1) := by decide +kernel
theorem dX10_without_35 : decode cX10_without 35 = .ok (.putfield 102, 3) := by decide +kernel
theorem dX10_without_38 : decode cX10_without 38 = .ok (.iload_n 3, 1) := by decide +kernel
theorem dX10_without_39 : decode cX10_without 39 = .ok (.aload_n 0, 1) := by decide +kernel
theorem dX10_without_40 : decode cX10_without 40 = .ok (.iload_n 2, 1) := by decide +kernel
theorem dX10_without_41 : decode cX10_without 41 = .ok (.invokevirtual 383, 3) := by decide +kernel
theorem dX10_without_44 : decode cX10_without 44 = .ok (.isub, 1) := by decide +kernel
theorem dX10_without_45 : decode cX10_without 45 = .ok (.istore_n 3, 1) := by decide +kernel
theorem dX10_without_46 : decode cX10_without 46 = .ok (.aload_n 0, 1) := by decide +kernel
theorem dX10_without_47 : decode cX10_without 47 = .ok (.iconst (-1), 1) := by decide +kernel
theorem dX10_without_48 : decode cX10_without 48 = .ok (.putfield 102, 3) := by decide +kernel
theorem dX10_without_51 : decode cX10_without 51 = .ok (.iload_n 3, 1) := by decide +kernel
theorem dX10_without_52 : decode cX10_without 52 = .ok (.ireturn, 1) := by decide +kernel
def f_X10_without (X : x_X) (v0 : Nat) (v1 : Int32) (v2 : Int32) (μ : x_M) : Option (Int32 × x_M) :=
  (ck (x_kd X v0 = 10 + 1) (bd (f_X10_isAccount X v0 v1 μ) (fun (v4 : Int32) (μ5 : x_M) => (if v4 = 0 then (some ((-100001 : Int32), μ5)) else (ck (x_kd X v0 = 10 + 1) (bd (f_X10_in X v0 v2 (1 : Int32) (40 : Int32) μ5) (fun (v6 : Int32) (μ7 : x_M) => (if v6 = 0 then (some ((-100002 : Int32), μ7)) else (ck (x_kd X v0 = 10 + 1) (bd (f_X10_waterBehind X v0 v2 μ7) (fun (v8 : Int32) (μ9 : x_M) => (ck (x_kd X v0 = 10 + 1) (lt (x_sI μ9 v0 30 v1) (fun (μ10 : x_M) => (ck (x_kd X v0 = 10 + 1) (bd (f_X10_waterBehind X v0 v2 μ10) (fun (v11 : Int32) (μ12 : x_M) => (lt (v8 - v11) (fun (v13 : Int32) => (ck (x_kd X v0 = 10 + 1) (lt (x_sI μ12 v0 30 (-1 : Int32)) (fun (μ14 : x_M) => (some (v13, μ14))))))))))))))))))))))))
set_option maxRecDepth 100000 in
theorem m_X10_without (hI : x_I X) (v0 : Nat) (v1 : Int32) (v2 : Int32) (μ : x_M) : x_Met X x_Z0 l yX10_without cX10_without 4 (some .int) 8 [vR v0, vI v1, vI v2] μ rkI (f_X10_without X v0 v1 v2 μ) := by
  refine x_enter hI (by decide +kernel) (Nat.le_of_ble_eq_true rfl) (fun p e s m args below meth c hC hr hlk => ?_)
  unfold f_X10_without
  refine s_lv (lv' := [(0, vR v0), (1, vI v1), (2, vI v2)]) [0, 1, 2] rfl ?_
  refine s_aload_n hC 0 dX10_without_0 rfl ?_
  refine s_iload_n hC 1 dX10_without_1 rfl ?_
  refine s_callV hC (x := v0) (avs := [vI v1]) (st := []) (nest := false) xc10 (m_X10_isAccount hI v0 v1 μ) dX10_without_2 qm_X10_257 qi_X10_isAccount qs_X10_isAccount qc_X10 qd_X10_isAccount qh_X10_isAccount (by decide) (fun _ => Nat.le_of_ble_eq_true rfl) (Nat.le_of_ble_eq_true rfl) (fun v4 μ5 => ?_)
  refine s_if_ne hC dX10_without_5 (tgt := 12) (by decide) ?_ ?_
  · refine s_aload_n hC 0 dX10_without_12 rfl ?_
    refine s_iload_n hC 2 dX10_without_13 rfl ?_
    refine s_iconst hC dX10_without_14 (v := 1) (by decide) ?_
    refine s_bipush hC dX10_without_15 (v := 40) (by decide) ?_
    refine s_callV hC (x := v0) (avs := [vI v2, vI (1 : Int32), vI (40 : Int32)]) (st := []) (nest := false) xc10 (m_X10_in hI v0 v2 (1 : Int32) (40 : Int32) μ5) dX10_without_17 qm_X10_245 qi_X10_in qs_X10_in qc_X10 qd_X10_in qh_X10_in (by decide) (fun _ => Nat.le_of_ble_eq_true rfl) (Nat.le_of_ble_eq_true rfl) (fun v6 μ7 => ?_)
    refine s_if_ne hC dX10_without_20 (tgt := 27) (by decide) ?_ ?_
    · refine s_aload_n hC 0 dX10_without_27 rfl ?_
      refine s_iload_n hC 2 dX10_without_28 rfl ?_
      refine s_callV hC (x := v0) (avs := [vI v2]) (st := []) (nest := false) xc10 (m_X10_waterBehind hI v0 v2 μ7) dX10_without_29 qm_X10_383 qi_X10_waterBehind qs_X10_waterBehind qc_X10 qd_X10_waterBehind qh_X10_waterBehind (by decide) (fun _ => Nat.le_of_ble_eq_true rfl) (Nat.le_of_ble_eq_true rfl) (fun v8 μ9 => ?_)
      refine s_istore_n hC dX10_without_32 (by decide) (lv' := [(3, vI v8), (0, vR v0), (1, vI v1), (2, vI v2)]) rfl ?_
      refine s_aload_n hC 1 dX10_without_33 rfl ?_
      refine s_iload_n hC 2 dX10_without_34 rfl ?_
      refine s_putI hC xc10 (by decide) rfl rfl qf_X10_102 dX10_without_35 ?_
      refine s_ltM (fun μ10 => ?_)
      refine s_iload_n hC 0 dX10_without_38 rfl ?_
      refine s_aload_n hC 1 dX10_without_39 rfl ?_
      refine s_iload_n hC 3 dX10_without_40 rfl ?_
      refine s_callV hC (x := v0) (avs := [vI v2]) (st := [vI v8]) (nest := false) xc10 (m_X10_waterBehind hI v0 v2 μ10) dX10_without_41 qm_X10_383 qi_X10_waterBehind qs_X10_waterBehind qc_X10 qd_X10_waterBehind qh_X10_waterBehind (by decide) (fun _ => Nat.le_of_ble_eq_true rfl) (Nat.le_of_ble_eq_true rfl) (fun v11 μ12 => ?_)
      refine s_isub hC dX10_without_44 ?_
      refine s_ltI (fun v13 => ?_)
      refine s_istore_n hC dX10_without_45 (by decide) (lv' := [(3, vI v13), (0, vR v0), (1, vI v1), (2, vI v2)]) rfl ?_
      refine s_aload_n hC 1 dX10_without_46 rfl ?_
      refine s_iconst hC dX10_without_47 (v := -1) (by decide) ?_
      refine s_putI hC xc10 (by decide) rfl rfl qf_X10_102 dX10_without_48 ?_
      refine s_ltM (fun μ14 => ?_)
      refine s_iload_n hC 0 dX10_without_51 rfl ?_
      exact s_iret hC hr hlk dX10_without_52
    refine s_ldc_w hC dX10_without_23 qk_X10_382 ?_
    exact s_iret hC hr hlk dX10_without_26
  refine s_ldc_w hC dX10_without_8 qk_X10_381 ?_
  exact s_iret hC hr hlk dX10_without_11
theorem dX10_hidden_0 : decode cX10_hidden 0 = .ok (.aload_n 0, 1) := by decide +kernel
theorem dX10_hidden_1 : decode cX10_hidden 1 = .ok (.iload_n 1, 1) := by decide +kernel
theorem dX10_hidden_2 : decode cX10_hidden 2 = .ok (.invokevirtual 257, 3) := by decide +kernel
theorem dX10_hidden_5 : decode cX10_hidden 5 = .ok (.ifCond .eq 13, 3) := by decide +kernel
theorem dX10_hidden_8 : decode cX10_hidden 8 = .ok (.aload_n 0, 1) := by decide +kernel
theorem dX10_hidden_9 : decode cX10_hidden 9 = .ok (.iload_n 2, 1) := by decide +kernel
theorem dX10_hidden_10 : decode cX10_hidden 10 = .ok (.iconst 0, 1) := by decide +kernel
theorem dX10_hidden_11 : decode cX10_hidden 11 = .ok (.iconst 1, 1) := by decide +kernel
theorem dX10_hidden_12 : decode cX10_hidden 12 = .ok (.invokevirtual 245, 3) := by decide +kernel
theorem dX10_hidden_15 : decode cX10_hidden 15 = .ok (.ifCond .ne 5, 3) := by decide +kernel
theorem dX10_hidden_18 : decode cX10_hidden 18 = .ok (.iconst (-1), 1) := by decide +kernel
theorem dX10_hidden_19 : decode cX10_hidden 19 = .ok (.ireturn, 1) := by decide +kernel
theorem dX10_hidden_20 : decode cX10_hidden 20 = .ok (.aload_n 0, 1) := by decide +kernel
theorem dX10_hidden_21 : decode cX10_hidden 21 = .ok (.getfield 26, 3) := by decide +kernel
theorem dX10_hidden_24 : decode cX10_hidden 24 = .ok (.iload_n 1, 1) := by decide +kernel
theorem dX10_hidden_25 : decode cX10_hidden 25 = .ok (.iaload, 1) := by decide +kernel
theorem dX10_hidden_26 : decode cX10_hidden 26 = .ok (.iconst 4, 1) := by decide +kernel
theorem dX10_hidden_27 : decode cX10_hidden 27 = .ok (.if_icmp .eq 6, 3) := by decide +kernel
theorem dX10_hidden_30 : decode cX10_hidden 30 = .ok (.bipush (-3), 2) := by decide +kernel
theorem dX10_hidden_32 : decode cX10_hidden 32 = .ok (.ireturn, 1) := by decide +kernel
theorem dX10_hidden_33 : decode cX10_hidden 33 = .ok (.aload_n 0, 1) := by decide +kernel
theorem dX10_hidden_34 : decode cX10_hidden 34 = .ok (.getfield 38, 3) := by decide +kernel
theorem dX10_hidden_37 : decode cX10_hidden 37 = .ok (.iload_n 1, 1) := by decide +kernel
theorem dX10_hidden_38 : decode cX10_hidden 38 = .ok (.iaload, 1) := by decide +kernel
theorem dX10_hidden_39 : decode cX10_hidden 39 = .ok (.istore_n 3, 1) := by decide +kernel
theorem dX10_hidden_40 : decode cX10_hidden 40 = .ok (.iconst 0, 1) := by decide +kernel
theorem dX10_hidden_41 : decode cX10_hidden 41 = .ok (.istore 4, 2) := by decide +kernel
theorem dX10_hidden_43 : decode cX10_hidden 43 = .ok (.bipush (-5), 2) := by decide +kernel
theorem dX10_hidden_45 : decode cX10_hidden 45 = .ok (.istore 5, 2) := by decide +kernel
theorem dX10_hidden_47 : decode cX10_hidden 47 = .ok (.bipush 20, 2) := by decide +kernel
theorem dX10_hidden_49 : decode cX10_hidden 49 = .ok (.istore 6, 2) := by decide +kernel
theorem dX10_hidden_51 : decode cX10_hidden 51 = .ok (.iload 6, 2) := by decide +kernel
theorem dX10_hidden_53 : decode cX10_hidden 53 = .ok (.ifCond .lt 34, 3) := by decide +kernel
theorem dX10_hidden_56 : decode cX10_hidden 56 = .ok (.aload_n 0, 1) := by decide +kernel
theorem dX10_hidden_57 : decode cX10_hidden 57 = .ok (.getfield 38, 3) := by decide +kernel
theorem dX10_hidden_60 : decode cX10_hidden 60 = .ok (.iload_n 1, 1) := by decide +kernel
theorem dX10_hidden_61 : decode cX10_hidden 61 = .ok (.iload 6, 2) := by decide +kernel
theorem dX10_hidden_63 : decode cX10_hidden 63 = .ok (.iastore, 1) := by decide +kernel
theorem dX10_hidden_64 : decode cX10_hidden 64 = .ok (.aload_n 0, 1) := by decide +kernel
theorem dX10_hidden_65 : decode cX10_hidden 65 = .ok (.invokevirtual 395, 3) := by decide +kernel
theorem dX10_hidden_68 : decode cX10_hidden 68 = .ok (.ifCond .ne 6, 3) := by decide +kernel
theorem dX10_hidden_71 : decode cX10_hidden 71 = .ok (.goto 10, 3) := by decide +kernel
theorem dX10_hidden_74 : decode cX10_hidden 74 = .ok (.iinc 4 1, 3) := by decide +kernel
theorem dX10_hidden_77 : decode cX10_hidden 77 = .ok (.iload 6, 2) := by decide +kernel
theorem dX10_hidden_79 : decode cX10_hidden 79 = .ok (.istore 5, 2) := by decide +kernel
theorem dX10_hidden_81 : decode cX10_hidden 81 = .ok (.iinc 6 (-1), 3) := by decide +kernel
theorem dX10_hidden_84 : decode cX10_hidden 84 = .ok (.goto (-33), 3) := by decide +kernel
theorem dX10_hidden_87 : decode cX10_hidden 87 = .ok (.aload_n 0, 1) := by decide +kernel
theorem dX10_hidden_88 : decode cX10_hidden 88 = .ok (.getfield 38, 3) := by decide +kernel
theorem dX10_hidden_91 : decode cX10_hidden 91 = .ok (.iload_n 1, 1) := by decide +kernel
theorem dX10_hidden_92 : decode cX10_hidden 92 = .ok (.iload_n 3, 1) := by decide +kernel
theorem dX10_hidden_93 : decode cX10_hidden 93 = .ok (.iastore, 1) := by decide +kernel
theorem dX10_hidden_94 : decode cX10_hidden 94 = .ok (.iload_n 2, 1) := by decide +kernel
theorem dX10_hidden_95 : decode cX10_hidden 95 = .ok (.ifCond .ne 8, 3) := by decide +kernel
theorem dX10_hidden_98 : decode cX10_hidden 98 = .ok (.iload 4, 2) := by decide +kernel
theorem dX10_hidden_100 : decode cX10_hidden 100 = .ok (.goto 5, 3) := by decide +kernel
theorem dX10_hidden_103 : decode cX10_hidden 103 = .ok (.iload 5, 2) := by decide +kernel
theorem dX10_hidden_105 : decode cX10_hidden 105 = .ok (.ireturn, 1) := by decide +kernel
def f_X10_hidden_L51 (X : x_X) (k87 : Nat → Int32 → Int32 → Int32 → Int32 → Int32 → x_M → Option (Int32 × x_M)) : Nat → Nat → Int32 → Int32 → Int32 → Int32 → Int32 → Int32 → x_M → Option (Int32 × x_M)
  | 0, _, _, _, _, _, _, _, _ => none
  | n + 1, v11, v12, v13, v14, v15, v16, v17, μ18 =>
    (if v17 < 0 then (k87 v11 v12 v13 v14 v15 v16 μ18) else (ck (x_kd X v11 = 10 + 1) (lt (μ18.2.1 v11 9) (fun (v19 : Nat) => (ck (x_kd X v19 = 20 ∧ x_ix v12 (x_ln X v19)) (lt (x_sI μ18 v19 (v12).toNatClampNeg v17) (fun (μ20 : x_M) => (ck (x_kd X v11 = 10 + 1) (bd (f_X10_isSeen X v11 μ20) (fun (v21 : Int32) (μ22 : x_M) => (if v21 = 0 then (f_X10_hidden_L51 X k87 n v11 v12 v13 v14 v15 v16 (v17 + (-1 : Int32)) μ22) else (f_X10_hidden_L51 X k87 n v11 v12 v13 v14 (v15 + (1 : Int32)) v17 (v17 + (-1 : Int32)) μ22))))))))))))
set_option maxRecDepth 100000 in
theorem j_X10_hidden_L51 (hI : x_I X) (hC : x_C X x_Z0 p (x_rm 8) s m c cX10_hidden RX10 7 0 0 8) (hr : meth.sig.returnType = (some .int)) (hlk : meth.locks = false) {k87 : Nat → Int32 → Int32 → Int32 → Int32 → Int32 → x_M → Option (Int32 × x_M)} (hk87 : ∀ (b0 : Nat) (b1 : Int32) (b2 : Int32) (b3 : Int32) (b4 : Int32) (b5 : Int32) (μ : x_M), SM X 7 8 rkI p l e s m args below meth c 87 [(0, vR b0), (1, vI b1), (2, vI b2), (3, vI b3), (4, vI b4), (5, vI b5)] [] μ (k87 b0 b1 b2 b3 b4 b5 μ)) : ∀ (n : Nat) (v11 : Nat) (v12 : Int32) (v13 : Int32) (v14 : Int32) (v15 : Int32) (v16 : Int32) (v17 : Int32) (μ18 : x_M), SM X 7 8 rkI p l e s m args below meth c 51 [(0, vR v11), (1, vI v12), (2, vI v13), (3, vI v14), (4, vI v15), (5, vI v16), (6, vI v17)] [] μ18 (f_X10_hidden_L51 X k87 n v11 v12 v13 v14 v15 v16 v17 μ18) := by
  intro n
  induction n with
  | zero => intro v11 v12 v13 v14 v15 v16 v17 μ18; exact s_none
  | succ n ih =>
    intro v11 v12 v13 v14 v15 v16 v17 μ18
    unfold f_X10_hidden_L51
    refine s_iload hC 6 dX10_hidden_51 rfl ?_
    refine s_if_lt hC dX10_hidden_53 (tgt := 87) (by decide) ?_ ?_
    · refine s_lv (lv' := [(0, vR v11), (1, vI v12), (2, vI v13), (3, vI v14), (4, vI v15), (5, vI v16)]) [0, 1, 2, 3, 4, 5] rfl ?_
      exact hk87 _ _ _ _ _ _ _
    refine s_aload_n hC 0 dX10_hidden_56 rfl ?_
    refine s_getR hC xc10 (by decide) rfl qf_X10_38 dX10_hidden_57 ?_
    refine s_ltR (fun v19 => ?_)
    refine s_iload_n hC 1 dX10_hidden_60 rfl ?_
    refine s_iload hC 6 dX10_hidden_61 rfl ?_
    refine s_iast hC dX10_hidden_63 ?_
    refine s_ltM (fun μ20 => ?_)
    refine s_aload_n hC 0 dX10_hidden_64 rfl ?_
    refine s_callV hC (x := v11) (avs := []) (st := []) (nest := false) xc10 (m_X10_isSeen hI v11 μ20) dX10_hidden_65 qm_X10_395 qi_X10_isSeen qs_X10_isSeen qc_X10 qd_X10_isSeen qh_X10_isSeen (by decide) (fun _ => Nat.le_of_ble_eq_true rfl) (Nat.le_of_ble_eq_true rfl) (fun v21 μ22 => ?_)
    refine s_if_ne hC dX10_hidden_68 (tgt := 74) (by decide) ?_ ?_
    · refine s_iinc hC 4 dX10_hidden_74 rfl (w := 1) (by decide) (by decide) (lv' := [(4, vI (v15 + (1 : Int32))), (0, vR v11), (1, vI v12), (2, vI v13), (3, vI v14), (5, vI v16), (6, vI v17)]) rfl ?_
      refine s_iload hC 6 dX10_hidden_77 rfl ?_
      refine s_istore hC dX10_hidden_79 (by decide) (lv' := [(5, vI v17), (4, vI (v15 + (1 : Int32))), (0, vR v11), (1, vI v12), (2, vI v13), (3, vI v14), (6, vI v17)]) rfl ?_
      refine s_iinc hC 6 dX10_hidden_81 rfl (w := -1) (by decide) (by decide) (lv' := [(6, vI (v17 + (-1 : Int32))), (5, vI v17), (4, vI (v15 + (1 : Int32))), (0, vR v11), (1, vI v12), (2, vI v13), (3, vI v14)]) rfl ?_
      refine s_goto hC dX10_hidden_84 (tgt := 51) (by decide) ?_
      refine s_lv (lv' := [(0, vR v11), (1, vI v12), (2, vI v13), (3, vI v14), (4, vI (v15 + (1 : Int32))), (5, vI v17), (6, vI (v17 + (-1 : Int32)))]) [3, 4, 5, 6, 2, 1, 0] rfl ?_
      exact ih _ _ _ _ _ _ _ _
    refine s_goto hC dX10_hidden_71 (tgt := 81) (by decide) ?_
    refine s_iinc hC 6 dX10_hidden_81 rfl (w := -1) (by decide) (by decide) (lv' := [(6, vI (v17 + (-1 : Int32))), (0, vR v11), (1, vI v12), (2, vI v13), (3, vI v14), (4, vI v15), (5, vI v16)]) rfl ?_
    refine s_goto hC dX10_hidden_84 (tgt := 51) (by decide) ?_
    refine s_lv (lv' := [(0, vR v11), (1, vI v12), (2, vI v13), (3, vI v14), (4, vI v15), (5, vI v16), (6, vI (v17 + (-1 : Int32)))]) [1, 2, 3, 4, 5, 6, 0] rfl ?_
    exact ih _ _ _ _ _ _ _ _
def f_X10_hidden (X : x_X) (v0 : Nat) (v1 : Int32) (v2 : Int32) (μ : x_M) : Option (Int32 × x_M) :=
  (ck (x_kd X v0 = 10 + 1) (bd (f_X10_isAccount X v0 v1 μ) (fun (v4 : Int32) (μ5 : x_M) => (if v4 = 0 then (some ((-1 : Int32), μ5)) else (ck (x_kd X v0 = 10 + 1) (bd (f_X10_in X v0 v2 (0 : Int32) (1 : Int32) μ5) (fun (v6 : Int32) (μ7 : x_M) => (if v6 = 0 then (some ((-1 : Int32), μ7)) else (ck (x_kd X v0 = 10 + 1) (lt (μ7.2.1 v0 5) (fun (v8 : Nat) => (ck ((x_kd X v8 = 20 ∨ x_kd X v8 = 40) ∧ x_ix v1 (x_ln X v8)) (if (μ7.1 v8 (v1).toNatClampNeg) = (4 : Int32) then (ck (x_kd X v0 = 10 + 1) (lt (μ7.2.1 v0 9) (fun (v9 : Nat) => (ck ((x_kd X v9 = 20 ∨ x_kd X v9 = 40) ∧ x_ix v1 (x_ln X v9)) (lt (μ7.1 v9 (v1).toNatClampNeg) (fun (v10 : Int32) => (f_X10_hidden_L51 X (fun (v23 : Nat) (v24 : Int32) (v25 : Int32) (v26 : Int32) (v27 : Int32) (v28 : Int32) (μ29 : x_M) => (ck (x_kd X v23 = 10 + 1) (lt (μ29.2.1 v23 9) (fun (v30 : Nat) => (ck (x_kd X v30 = 20 ∧ x_ix v24 (x_ln X v30)) (lt (x_sI μ29 v30 (v24).toNatClampNeg v26) (fun (μ31 : x_M) => (if v25 = 0 then (some (v27, μ31)) else (some (v28, μ31)))))))))) 4096 v0 v1 v2 v10 (0 : Int32) (-5 : Int32) (20 : Int32) μ7))))))) else (some ((-3 : Int32), μ7)))))))))))))))
set_option maxRecDepth 100000 in
theorem m_X10_hidden (hI : x_I X) (v0 : Nat) (v1 : Int32) (v2 : Int32) (μ : x_M) : x_Met X x_Z0 l yX10_hidden cX10_hidden 7 (some .int) 8 [vR v0, vI v1, vI v2] μ rkI (f_X10_hidden X v0 v1 v2 μ) := by
  refine x_enter hI (by decide +kernel) (Nat.le_of_ble_eq_true rfl) (fun p e s m args below meth c hC hr hlk => ?_)
  unfold f_X10_hidden
  refine s_lv (lv' := [(0, vR v0), (1, vI v1), (2, vI v2)]) [0, 1, 2] rfl ?_
  refine s_aload_n hC 0 dX10_hidden_0 rfl ?_
  refine s_iload_n hC 1 dX10_hidden_1 rfl ?_
  refine s_callV hC (x := v0) (avs := [vI v1]) (st := []) (nest := false) xc10 (m_X10_isAccount hI v0 v1 μ) dX10_hidden_2 qm_X10_257 qi_X10_isAccount qs_X10_isAccount qc_X10 qd_X10_isAccount qh_X10_isAccount (by decide) (fun _ => Nat.le_of_ble_eq_true rfl) (Nat.le_of_ble_eq_true rfl) (fun v4 μ5 => ?_)
  refine s_if_eq hC dX10_hidden_5 (tgt := 18) (by decide) ?_ ?_
  · refine s_iconst hC dX10_hidden_18 (v := -1) (by decide) ?_
    exact s_iret hC hr hlk dX10_hidden_19
  refine s_aload_n hC 0 dX10_hidden_8 rfl ?_
  refine s_iload_n hC 2 dX10_hidden_9 rfl ?_
  refine s_iconst hC dX10_hidden_10 (v := 0) (by decide) ?_
  refine s_iconst hC dX10_hidden_11 (v := 1) (by decide) ?_
  refine s_callV hC (x := v0) (avs := [vI v2, vI (0 : Int32), vI (1 : Int32)]) (st := []) (nest := false) xc10 (m_X10_in hI v0 v2 (0 : Int32) (1 : Int32) μ5) dX10_hidden_12 qm_X10_245 qi_X10_in qs_X10_in qc_X10 qd_X10_in qh_X10_in (by decide) (fun _ => Nat.le_of_ble_eq_true rfl) (Nat.le_of_ble_eq_true rfl) (fun v6 μ7 => ?_)
  refine s_if_ne hC dX10_hidden_15 (tgt := 20) (by decide) ?_ ?_
  · refine s_aload_n hC 0 dX10_hidden_20 rfl ?_
    refine s_getR hC xc10 (by decide) rfl qf_X10_26 dX10_hidden_21 ?_
    refine s_ltR (fun v8 => ?_)
    refine s_iload_n hC 1 dX10_hidden_24 rfl ?_
    refine s_iald hC dX10_hidden_25 ?_
    refine s_iconst hC dX10_hidden_26 (v := 4) (by decide) ?_
    refine s_icmp_eq hC dX10_hidden_27 (tgt := 33) (by decide) ?_ ?_
    · refine s_aload_n hC 0 dX10_hidden_33 rfl ?_
      refine s_getR hC xc10 (by decide) rfl qf_X10_38 dX10_hidden_34 ?_
      refine s_ltR (fun v9 => ?_)
      refine s_iload_n hC 1 dX10_hidden_37 rfl ?_
      refine s_iald hC dX10_hidden_38 ?_
      refine s_ltI (fun v10 => ?_)
      refine s_istore_n hC dX10_hidden_39 (by decide) (lv' := [(3, vI v10), (0, vR v0), (1, vI v1), (2, vI v2)]) rfl ?_
      refine s_iconst hC dX10_hidden_40 (v := 0) (by decide) ?_
      refine s_istore hC dX10_hidden_41 (by decide) (lv' := [(4, vI (0 : Int32)), (3, vI v10), (0, vR v0), (1, vI v1), (2, vI v2)]) rfl ?_
      refine s_bipush hC dX10_hidden_43 (v := -5) (by decide) ?_
      refine s_istore hC dX10_hidden_45 (by decide) (lv' := [(5, vI (-5 : Int32)), (4, vI (0 : Int32)), (3, vI v10), (0, vR v0), (1, vI v1), (2, vI v2)]) rfl ?_
      refine s_bipush hC dX10_hidden_47 (v := 20) (by decide) ?_
      refine s_istore hC dX10_hidden_49 (by decide) (lv' := [(6, vI (20 : Int32)), (5, vI (-5 : Int32)), (4, vI (0 : Int32)), (3, vI v10), (0, vR v0), (1, vI v1), (2, vI v2)]) rfl ?_
      refine s_lv (lv' := [(0, vR v0), (1, vI v1), (2, vI v2), (3, vI v10), (4, vI (0 : Int32)), (5, vI (-5 : Int32)), (6, vI (20 : Int32))]) [4, 5, 6, 3, 2, 1, 0] rfl ?_
      refine j_X10_hidden_L51 hI hC hr hlk (fun v23 v24 v25 v26 v27 v28 μ29 => ?_) 4096 _ _ _ _ _ _ _ _
      refine s_aload_n hC 0 dX10_hidden_87 rfl ?_
      refine s_getR hC xc10 (by decide) rfl qf_X10_38 dX10_hidden_88 ?_
      refine s_ltR (fun v30 => ?_)
      refine s_iload_n hC 1 dX10_hidden_91 rfl ?_
      refine s_iload_n hC 3 dX10_hidden_92 rfl ?_
      refine s_iast hC dX10_hidden_93 ?_
      refine s_ltM (fun μ31 => ?_)
      refine s_iload_n hC 2 dX10_hidden_94 rfl ?_
      refine s_if_ne hC dX10_hidden_95 (tgt := 103) (by decide) ?_ ?_
      · refine s_iload hC 5 dX10_hidden_103 rfl ?_
        exact s_iret hC hr hlk dX10_hidden_105
      refine s_iload hC 4 dX10_hidden_98 rfl ?_
      refine s_goto hC dX10_hidden_100 (tgt := 105) (by decide) ?_
      exact s_iret hC hr hlk dX10_hidden_105
    refine s_bipush hC dX10_hidden_30 (v := -3) (by decide) ?_
    exact s_iret hC hr hlk dX10_hidden_32
  refine s_iconst hC dX10_hidden_18 (v := -1) (by decide) ?_
  exact s_iret hC hr hlk dX10_hidden_19
theorem dX10_whose_0 : decode cX10_whose 0 = .ok (.iconst 0, 1) := by decide +kernel
theorem dX10_whose_1 : decode cX10_whose 1 = .ok (.istore_n 1, 1) := by decide +kernel
theorem dX10_whose_2 : decode cX10_whose 2 = .ok (.aload_n 0, 1) := by decide +kernel
theorem dX10_whose_3 : decode cX10_whose 3 = .ok (.iconst 0, 1) := by decide +kernel
theorem dX10_whose_4 : decode cX10_whose 4 = .ok (.putfield 102, 3) := by decide +kernel
theorem dX10_whose_7 : decode cX10_whose 7 = .ok (.aload_n 0, 1) := by decide +kernel
theorem dX10_whose_8 : decode cX10_whose 8 = .ok (.getfield 102, 3) := by decide +kernel
theorem dX10_whose_11 : decode cX10_whose 11 = .ok (.aload_n 0, 1) := by decide +kernel
theorem dX10_whose_12 : decode cX10_whose 12 = .ok (.getfield 7, 3) := by decide +kernel
theorem dX10_whose_15 : decode cX10_whose 15 = .ok (.if_icmp .ge 36, 3) := by decide +kernel
theorem dX10_whose_18 : decode cX10_whose 18 = .ok (.iload_n 1, 1) := by decide +kernel
theorem dX10_whose_19 : decode cX10_whose 19 = .ok (.aload_n 0, 1) := by decide +kernel
theorem dX10_whose_20 : decode cX10_whose 20 = .ok (.invokevirtual 395, 3) := by decide +kernel
theorem dX10_whose_23 : decode cX10_whose 23 = .ok (.ifCond .eq 12, 3) := by decide +kernel
theorem dX10_whose_26 : decode cX10_whose 26 = .ok (.iconst 1, 1) := by decide +kernel
theorem dX10_whose_27 : decode cX10_whose 27 = .ok (.aload_n 0, 1) := by decide +kernel
theorem dX10_whose_28 : decode cX10_whose 28 = .ok (.getfield 102, 3) := by decide +kernel
theorem dX10_whose_31 : decode cX10_whose 31 = .ok (.ishl, 1) := by decide +kernel
theorem dX10_whose_32 : decode cX10_whose 32 = .ok (.goto 4, 3) := by decide +kernel
theorem dX10_whose_35 : decode cX10_whose 35 = .ok (.iconst 0, 1) := by decide +kernel
theorem dX10_whose_36 : decode cX10_whose 36 = .ok (.ior, 1) := by decide +kernel
theorem dX10_whose_37 : decode cX10_whose 37 = .ok (.istore_n 1, 1) := by decide +kernel
theorem dX10_whose_38 : decode cX10_whose 38 = .ok (.aload_n 0, 1) := by decide +kernel
theorem dX10_whose_39 : decode cX10_whose 39 = .ok (.dup, 1) := by decide +kernel
theorem dX10_whose_40 : decode cX10_whose 40 = .ok (.getfield 102, 3) := by decide +kernel
theorem dX10_whose_43 : decode cX10_whose 43 = .ok (.iconst 1, 1) := by decide +kernel
theorem dX10_whose_44 : decode cX10_whose 44 = .ok (.iadd, 1) := by decide +kernel
theorem dX10_whose_45 : decode cX10_whose 45 = .ok (.putfield 102, 3) := by decide +kernel
theorem dX10_whose_48 : decode cX10_whose 48 = .ok (.goto (-41), 3) := by decide +kernel
theorem dX10_whose_51 : decode cX10_whose 51 = .ok (.aload_n 0, 1) := by decide +kernel
theorem dX10_whose_52 : decode cX10_whose 52 = .ok (.iconst (-1), 1) := by decide +kernel
theorem dX10_whose_53 : decode cX10_whose 53 = .ok (.putfield 102, 3) := by decide +kernel
theorem dX10_whose_56 : decode cX10_whose 56 = .ok (.iload_n 1, 1) := by decide +kernel
theorem dX10_whose_57 : decode cX10_whose 57 = .ok (.ireturn, 1) := by decide +kernel
def f_X10_whose_L7 (X : x_X) : Nat → Nat → Int32 → x_M → Option (Int32 × x_M)
  | 0, _, _, _ => none
  | n + 1, v3, v4, μ5 =>
    (ck (x_kd X v3 = 10 + 1) (ck (x_kd X v3 = 10 + 1) (if (μ5.1 v3 0) ≤ (μ5.1 v3 30) then (ck (x_kd X v3 = 10 + 1) (lt (x_sI μ5 v3 30 (-1 : Int32)) (fun (μ6 : x_M) => (some (v4, μ6))))) else (ck (x_kd X v3 = 10 + 1) (bd (f_X10_isSeen X v3 μ5) (fun (v7 : Int32) (μ8 : x_M) => (if v7 = 0 then (lt (v4 ||| (0 : Int32)) (fun (v9 : Int32) => (ck (x_kd X v3 = 10 + 1) (ck (x_kd X v3 = 10 + 1) (lt (x_sI μ8 v3 30 ((μ8.1 v3 30) + (1 : Int32))) (fun (μ10 : x_M) => (f_X10_whose_L7 X n v3 v9 μ10))))))) else (ck (x_kd X v3 = 10 + 1) (lt (v4 ||| ((1 : Int32) <<< ((μ8.1 v3 30) &&& 31))) (fun (v11 : Int32) => (ck (x_kd X v3 = 10 + 1) (ck (x_kd X v3 = 10 + 1) (lt (x_sI μ8 v3 30 ((μ8.1 v3 30) + (1 : Int32))) (fun (μ12 : x_M) => (f_X10_whose_L7 X n v3 v11 μ12)))))))))))))))
set_option maxRecDepth 100000 in
theorem j_X10_whose_L7 (hI : x_I X) (hC : x_C X x_Z0 p (x_rm 8) s m c cX10_whose RX10 2 0 0 8) (hr : meth.sig.returnType = (some .int)) (hlk : meth.locks = false) : ∀ (n : Nat) (v3 : Nat) (v4 : Int32) (μ5 : x_M), SM X 2 8 rkI p l e s m args below meth c 7 [(0, vR v3), (1, vI v4)] [] μ5 (f_X10_whose_L7 X n v3 v4 μ5) := by
  intro n
  induction n with
  | zero => intro v3 v4 μ5; exact s_none
  | succ n ih =>
    intro v3 v4 μ5
    unfold f_X10_whose_L7
    refine s_aload_n hC 0 dX10_whose_7 rfl ?_
    refine s_getI hC xc10 (by decide) rfl qf_X10_102 dX10_whose_8 ?_
    refine s_aload_n hC 0 dX10_whose_11 rfl ?_
    refine s_getI hC xc10 (by decide) rfl qf_X10_7 dX10_whose_12 ?_
    refine s_icmp_ge hC dX10_whose_15 (tgt := 51) (by decide) ?_ ?_
    · refine s_aload_n hC 0 dX10_whose_51 rfl ?_
      refine s_iconst hC dX10_whose_52 (v := -1) (by decide) ?_
      refine s_putI hC xc10 (by decide) rfl rfl qf_X10_102 dX10_whose_53 ?_
      refine s_ltM (fun μ6 => ?_)
      refine s_iload_n hC 1 dX10_whose_56 rfl ?_
      exact s_iret hC hr hlk dX10_whose_57
    refine s_iload_n hC 1 dX10_whose_18 rfl ?_
    refine s_aload_n hC 0 dX10_whose_19 rfl ?_
    refine s_callV hC (x := v3) (avs := []) (st := [vI v4]) (nest := false) xc10 (m_X10_isSeen hI v3 μ5) dX10_whose_20 qm_X10_395 qi_X10_isSeen qs_X10_isSeen qc_X10 qd_X10_isSeen qh_X10_isSeen (by decide) (fun _ => Nat.le_of_ble_eq_true rfl) (Nat.le_of_ble_eq_true rfl) (fun v7 μ8 => ?_)
    refine s_if_eq hC dX10_whose_23 (tgt := 35) (by decide) ?_ ?_
    · refine s_iconst hC dX10_whose_35 (v := 0) (by decide) ?_
      refine s_ior hC dX10_whose_36 ?_
      refine s_ltI (fun v9 => ?_)
      refine s_istore_n hC dX10_whose_37 (by decide) (lv' := [(1, vI v9), (0, vR v3)]) rfl ?_
      refine s_aload_n hC 1 dX10_whose_38 rfl ?_
      refine s_dupR hC dX10_whose_39 ?_
      refine s_getI hC xc10 (by decide) rfl qf_X10_102 dX10_whose_40 ?_
      refine s_iconst hC dX10_whose_43 (v := 1) (by decide) ?_
      refine s_iadd hC dX10_whose_44 ?_
      refine s_putI hC xc10 (by decide) rfl rfl qf_X10_102 dX10_whose_45 ?_
      refine s_ltM (fun μ10 => ?_)
      refine s_goto hC dX10_whose_48 (tgt := 7) (by decide) ?_
      refine s_lv (lv' := [(0, vR v3), (1, vI v9)]) [1, 0] rfl ?_
      exact ih _ _ _
    refine s_iconst hC dX10_whose_26 (v := 1) (by decide) ?_
    refine s_aload_n hC 0 dX10_whose_27 rfl ?_
    refine s_getI hC xc10 (by decide) rfl qf_X10_102 dX10_whose_28 ?_
    refine s_ishl hC dX10_whose_31 ?_
    refine s_goto hC dX10_whose_32 (tgt := 36) (by decide) ?_
    refine s_ior hC dX10_whose_36 ?_
    refine s_ltI (fun v11 => ?_)
    refine s_istore_n hC dX10_whose_37 (by decide) (lv' := [(1, vI v11), (0, vR v3)]) rfl ?_
    refine s_aload_n hC 1 dX10_whose_38 rfl ?_
    refine s_dupR hC dX10_whose_39 ?_
    refine s_getI hC xc10 (by decide) rfl qf_X10_102 dX10_whose_40 ?_
    refine s_iconst hC dX10_whose_43 (v := 1) (by decide) ?_
    refine s_iadd hC dX10_whose_44 ?_
    refine s_putI hC xc10 (by decide) rfl rfl qf_X10_102 dX10_whose_45 ?_
    refine s_ltM (fun μ12 => ?_)
    refine s_goto hC dX10_whose_48 (tgt := 7) (by decide) ?_
    refine s_lv (lv' := [(0, vR v3), (1, vI v11)]) [1, 0] rfl ?_
    exact ih _ _ _
def f_X10_whose (X : x_X) (v0 : Nat) (μ : x_M) : Option (Int32 × x_M) :=
  (ck (x_kd X v0 = 10 + 1) (lt (x_sI μ v0 30 (0 : Int32)) (fun (μ2 : x_M) => (f_X10_whose_L7 X 4096 v0 (0 : Int32) μ2))))
set_option maxRecDepth 100000 in
theorem m_X10_whose (hI : x_I X) (v0 : Nat) (μ : x_M) : x_Met X x_Z0 l yX10_whose cX10_whose 2 (some .int) 8 [vR v0] μ rkI (f_X10_whose X v0 μ) := by
  refine x_enter hI (by decide +kernel) (Nat.le_of_ble_eq_true rfl) (fun p e s m args below meth c hC hr hlk => ?_)
  unfold f_X10_whose
  refine s_lv (lv' := [(0, vR v0)]) [0] rfl ?_
  refine s_iconst hC dX10_whose_0 (v := 0) (by decide) ?_
  refine s_istore_n hC dX10_whose_1 (by decide) (lv' := [(1, vI (0 : Int32)), (0, vR v0)]) rfl ?_
  refine s_aload_n hC 1 dX10_whose_2 rfl ?_
  refine s_iconst hC dX10_whose_3 (v := 0) (by decide) ?_
  refine s_putI hC xc10 (by decide) rfl rfl qf_X10_102 dX10_whose_4 ?_
  refine s_ltM (fun μ2 => ?_)
  refine s_lv (lv' := [(0, vR v0), (1, vI (0 : Int32))]) [1, 0] rfl ?_
  refine j_X10_whose_L7 hI hC hr hlk 4096 _ _ _
theorem dX10_tellsAct_0 : decode cX10_tellsAct 0 = .ok (.aload_n 0, 1) := by decide +kernel
theorem dX10_tellsAct_1 : decode cX10_tellsAct 1 = .ok (.getfield 26, 3) := by decide +kernel
theorem dX10_tellsAct_4 : decode cX10_tellsAct 4 = .ok (.iload_n 1, 1) := by decide +kernel
theorem dX10_tellsAct_5 : decode cX10_tellsAct 5 = .ok (.iaload, 1) := by decide +kernel
theorem dX10_tellsAct_6 : decode cX10_tellsAct 6 = .ok (.tableswitch 67 3 6 #[30, 67, 52, 30], 30) := by decide +kernel
theorem dX10_tellsAct_36 : decode cX10_tellsAct 36 = .ok (.aload_n 0, 1) := by decide +kernel
theorem dX10_tellsAct_37 : decode cX10_tellsAct 37 = .ok (.bipush 40, 2) := by decide +kernel
theorem dX10_tellsAct_39 : decode cX10_tellsAct 39 = .ok (.invokevirtual 401, 3) := by decide +kernel
theorem dX10_tellsAct_42 : decode cX10_tellsAct 42 = .ok (.aload_n 0, 1) := by decide +kernel
theorem dX10_tellsAct_43 : decode cX10_tellsAct 43 = .ok (.iload_n 1, 1) := by decide +kernel
theorem dX10_tellsAct_44 : decode cX10_tellsAct 44 = .ok (.iload_n 2, 1) := by decide +kernel
theorem dX10_tellsAct_45 : decode cX10_tellsAct 45 = .ok (.invokevirtual 419, 3) := by decide +kernel
theorem dX10_tellsAct_48 : decode cX10_tellsAct 48 = .ok (.istore_n 3, 1) := by decide +kernel
theorem dX10_tellsAct_49 : decode cX10_tellsAct 49 = .ok (.iload_n 3, 1) := by decide +kernel
theorem dX10_tellsAct_50 : decode cX10_tellsAct 50 = .ok (.aload_n 0, 1) := by decide +kernel
theorem dX10_tellsAct_51 : decode cX10_tellsAct 51 = .ok (.iload_n 1, 1) := by decide +kernel
theorem dX10_tellsAct_52 : decode cX10_tellsAct 52 = .ok (.iconst 1, 1) := by decide +kernel
theorem dX10_tellsAct_53 : decode cX10_tellsAct 53 = .ok (.invokevirtual 416, 3) := by decide +kernel
theorem dX10_tellsAct_56 : decode cX10_tellsAct 56 = .ok (.iadd, 1) := by decide +kernel
theorem dX10_tellsAct_57 : decode cX10_tellsAct 57 = .ok (.ireturn, 1) := by decide +kernel
theorem dX10_tellsAct_58 : decode cX10_tellsAct 58 = .ok (.aload_n 0, 1) := by decide +kernel
theorem dX10_tellsAct_59 : decode cX10_tellsAct 59 = .ok (.bipush 60, 2) := by decide +kernel
theorem dX10_tellsAct_61 : decode cX10_tellsAct 61 = .ok (.invokevirtual 401, 3) := by decide +kernel
theorem dX10_tellsAct_64 : decode cX10_tellsAct 64 = .ok (.aload_n 0, 1) := by decide +kernel
theorem dX10_tellsAct_65 : decode cX10_tellsAct 65 = .ok (.iload_n 1, 1) := by decide +kernel
theorem dX10_tellsAct_66 : decode cX10_tellsAct 66 = .ok (.iload_n 2, 1) := by decide +kernel
theorem dX10_tellsAct_67 : decode cX10_tellsAct 67 = .ok (.iload_n 1, 1) := by decide +kernel
theorem dX10_tellsAct_68 : decode cX10_tellsAct 68 = .ok (.isub, 1) := by decide +kernel
theorem dX10_tellsAct_69 : decode cX10_tellsAct 69 = .ok (.invokevirtual 419, 3) := by decide +kernel
theorem dX10_tellsAct_72 : decode cX10_tellsAct 72 = .ok (.ireturn, 1) := by decide +kernel
theorem dX10_tellsAct_73 : decode cX10_tellsAct 73 = .ok (.aload_n 0, 1) := by decide +kernel
theorem dX10_tellsAct_74 : decode cX10_tellsAct 74 = .ok (.iload_n 1, 1) := by decide +kernel
theorem dX10_tellsAct_75 : decode cX10_tellsAct 75 = .ok (.iload_n 2, 1) := by decide +kernel
theorem dX10_tellsAct_76 : decode cX10_tellsAct 76 = .ok (.invokevirtual 419, 3) := by decide +kernel
theorem dX10_tellsAct_79 : decode cX10_tellsAct 79 = .ok (.ireturn, 1) := by decide +kernel
def f_X10_tellsAct_J36 (X : x_X) (v6 : Nat) (v7 : Int32) (v8 : Int32) (μ9 : x_M) : Option (Int32 × x_M) :=
  (ck (x_kd X v6 = 10 + 1) (bd (f_X10_body X v6 (40 : Int32) μ9) (fun (_ : Unit) (μ10 : x_M) => (ck (x_kd X v6 = 10 + 1) (bd (f_X10_accountTells X v6 v7 v8 μ10) (fun (v11 : Int32) (μ12 : x_M) => (ck (x_kd X v6 = 10 + 1) (bd (f_X10_poursAct X v6 v7 (1 : Int32) μ12) (fun (v13 : Int32) (μ14 : x_M) => (some ((v11 + v13), μ14)))))))))))
set_option maxRecDepth 100000 in
theorem j_X10_tellsAct_J36 (hI : x_I X) (hC : x_C X x_Z0 p (x_rm 8) s m c cX10_tellsAct RX10 4 0 0 8) (hr : meth.sig.returnType = (some .int)) (hlk : meth.locks = false) (v6 : Nat) (v7 : Int32) (v8 : Int32) (μ9 : x_M) : SM X 4 8 rkI p l e s m args below meth c 36 [(0, vR v6), (1, vI v7), (2, vI v8)] [] μ9 (f_X10_tellsAct_J36 X v6 v7 v8 μ9) := by
  unfold f_X10_tellsAct_J36
  refine s_aload_n hC 0 dX10_tellsAct_36 rfl ?_
  refine s_bipush hC dX10_tellsAct_37 (v := 40) (by decide) ?_
  refine s_callV hC (x := v6) (avs := [vI (40 : Int32)]) (st := []) (nest := false) xc10 (m_X10_body hI v6 (40 : Int32) μ9) dX10_tellsAct_39 qm_X10_401 qi_X10_body qs_X10_body qc_X10 qd_X10_body qh_X10_body (by decide) (fun _ => Nat.le_of_ble_eq_true rfl) (Nat.le_of_ble_eq_true rfl) (fun _ μ10 => ?_)
  refine s_aload_n hC 0 dX10_tellsAct_42 rfl ?_
  refine s_iload_n hC 1 dX10_tellsAct_43 rfl ?_
  refine s_iload_n hC 2 dX10_tellsAct_44 rfl ?_
  refine s_callV hC (x := v6) (avs := [vI v7, vI v8]) (st := []) (nest := false) xc10 (m_X10_accountTells hI v6 v7 v8 μ10) dX10_tellsAct_45 qm_X10_419 qi_X10_accountTells qs_X10_accountTells qc_X10 qd_X10_accountTells qh_X10_accountTells (by decide) (fun _ => Nat.le_of_ble_eq_true rfl) (Nat.le_of_ble_eq_true rfl) (fun v11 μ12 => ?_)
  refine s_istore_n hC dX10_tellsAct_48 (by decide) (lv' := [(3, vI v11), (0, vR v6), (1, vI v7), (2, vI v8)]) rfl ?_
  refine s_iload_n hC 0 dX10_tellsAct_49 rfl ?_
  refine s_aload_n hC 1 dX10_tellsAct_50 rfl ?_
  refine s_iload_n hC 2 dX10_tellsAct_51 rfl ?_
  refine s_iconst hC dX10_tellsAct_52 (v := 1) (by decide) ?_
  refine s_callV hC (x := v6) (avs := [vI v7, vI (1 : Int32)]) (st := [vI v11]) (nest := false) xc10 (m_X10_poursAct hI v6 v7 (1 : Int32) μ12) dX10_tellsAct_53 qm_X10_416 qi_X10_poursAct qs_X10_poursAct qc_X10 qd_X10_poursAct qh_X10_poursAct (by decide) (fun _ => Nat.le_of_ble_eq_true rfl) (Nat.le_of_ble_eq_true rfl) (fun v13 μ14 => ?_)
  refine s_iadd hC dX10_tellsAct_56 ?_
  exact s_iret hC hr hlk dX10_tellsAct_57
def f_X10_tellsAct (X : x_X) (v0 : Nat) (v1 : Int32) (v2 : Int32) (μ : x_M) : Option (Int32 × x_M) :=
  (ck (x_kd X v0 = 10 + 1) (lt (μ.2.1 v0 5) (fun (v4 : Nat) => (ck ((x_kd X v4 = 20 ∨ x_kd X v4 = 40) ∧ x_ix v1 (x_ln X v4)) (lt (μ.1 v4 (v1).toNatClampNeg) (fun (v5 : Int32) => (x_swo [(3 : Int32), (4 : Int32), (5 : Int32), (6 : Int32)] [(f_X10_tellsAct_J36 X v0 v1 v2 μ), (ck (x_kd X v0 = 10 + 1) (bd (f_X10_accountTells X v0 v1 v2 μ) (fun (v15 : Int32) (μ16 : x_M) => (some (v15, μ16))))), (ck (x_kd X v0 = 10 + 1) (bd (f_X10_body X v0 (60 : Int32) μ) (fun (_ : Unit) (μ17 : x_M) => (ck (x_kd X v0 = 10 + 1) (bd (f_X10_accountTells X v0 v1 (v2 - v1) μ17) (fun (v18 : Int32) (μ19 : x_M) => (some (v18, μ19)))))))), (f_X10_tellsAct_J36 X v0 v1 v2 μ)] (ck (x_kd X v0 = 10 + 1) (bd (f_X10_accountTells X v0 v1 v2 μ) (fun (v20 : Int32) (μ21 : x_M) => (some (v20, μ21))))) v5)))))))
set_option maxRecDepth 100000 in
theorem m_X10_tellsAct (hI : x_I X) (v0 : Nat) (v1 : Int32) (v2 : Int32) (μ : x_M) : x_Met X x_Z0 l yX10_tellsAct cX10_tellsAct 4 (some .int) 8 [vR v0, vI v1, vI v2] μ rkI (f_X10_tellsAct X v0 v1 v2 μ) := by
  refine x_enter hI (by decide +kernel) (Nat.le_of_ble_eq_true rfl) (fun p e s m args below meth c hC hr hlk => ?_)
  unfold f_X10_tellsAct
  refine s_lv (lv' := [(0, vR v0), (1, vI v1), (2, vI v2)]) [0, 1, 2] rfl ?_
  refine s_aload_n hC 0 dX10_tellsAct_0 rfl ?_
  refine s_getR hC xc10 (by decide) rfl qf_X10_26 dX10_tellsAct_1 ?_
  refine s_ltR (fun v4 => ?_)
  refine s_iload_n hC 1 dX10_tellsAct_4 rfl ?_
  refine s_iald hC dX10_tellsAct_5 ?_
  refine s_ltI (fun v5 => ?_)
  refine s_table hC dX10_tellsAct_6 [((3 : Int32), 36), ((4 : Int32), 73), ((5 : Int32), 58), ((6 : Int32), 36)] 73 (by decide +kernel) ⟨?_, ?_, ?_, ?_, trivial⟩ ?_
  · exact j_X10_tellsAct_J36 hI hC hr hlk _ _ _ _
  · refine s_aload_n hC 0 dX10_tellsAct_73 rfl ?_
    refine s_iload_n hC 1 dX10_tellsAct_74 rfl ?_
    refine s_iload_n hC 2 dX10_tellsAct_75 rfl ?_
    refine s_callV hC (x := v0) (avs := [vI v1, vI v2]) (st := []) (nest := false) xc10 (m_X10_accountTells hI v0 v1 v2 μ) dX10_tellsAct_76 qm_X10_419 qi_X10_accountTells qs_X10_accountTells qc_X10 qd_X10_accountTells qh_X10_accountTells (by decide) (fun _ => Nat.le_of_ble_eq_true rfl) (Nat.le_of_ble_eq_true rfl) (fun v15 μ16 => ?_)
    exact s_iret hC hr hlk dX10_tellsAct_79
  · refine s_aload_n hC 0 dX10_tellsAct_58 rfl ?_
    refine s_bipush hC dX10_tellsAct_59 (v := 60) (by decide) ?_
    refine s_callV hC (x := v0) (avs := [vI (60 : Int32)]) (st := []) (nest := false) xc10 (m_X10_body hI v0 (60 : Int32) μ) dX10_tellsAct_61 qm_X10_401 qi_X10_body qs_X10_body qc_X10 qd_X10_body qh_X10_body (by decide) (fun _ => Nat.le_of_ble_eq_true rfl) (Nat.le_of_ble_eq_true rfl) (fun _ μ17 => ?_)
    refine s_aload_n hC 0 dX10_tellsAct_64 rfl ?_
    refine s_iload_n hC 1 dX10_tellsAct_65 rfl ?_
    refine s_iload_n hC 2 dX10_tellsAct_66 rfl ?_
    refine s_iload_n hC 1 dX10_tellsAct_67 rfl ?_
    refine s_isub hC dX10_tellsAct_68 ?_
    refine s_callV hC (x := v0) (avs := [vI v1, vI (v2 - v1)]) (st := []) (nest := false) xc10 (m_X10_accountTells hI v0 v1 (v2 - v1) μ17) dX10_tellsAct_69 qm_X10_419 qi_X10_accountTells qs_X10_accountTells qc_X10 qd_X10_accountTells qh_X10_accountTells (by decide) (fun _ => Nat.le_of_ble_eq_true rfl) (Nat.le_of_ble_eq_true rfl) (fun v18 μ19 => ?_)
    exact s_iret hC hr hlk dX10_tellsAct_72
  · exact j_X10_tellsAct_J36 hI hC hr hlk _ _ _ _
  refine s_aload_n hC 0 dX10_tellsAct_73 rfl ?_
  refine s_iload_n hC 1 dX10_tellsAct_74 rfl ?_
  refine s_iload_n hC 2 dX10_tellsAct_75 rfl ?_
  refine s_callV hC (x := v0) (avs := [vI v1, vI v2]) (st := []) (nest := false) xc10 (m_X10_accountTells hI v0 v1 v2 μ) dX10_tellsAct_76 qm_X10_419 qi_X10_accountTells qs_X10_accountTells qc_X10 qd_X10_accountTells qh_X10_accountTells (by decide) (fun _ => Nat.le_of_ble_eq_true rfl) (Nat.le_of_ble_eq_true rfl) (fun v20 μ21 => ?_)
  exact s_iret hC hr hlk dX10_tellsAct_79
theorem dX10_act_0 : decode cX10_act 0 = .ok (.aload_n 0, 1) := by decide +kernel
theorem dX10_act_1 : decode cX10_act 1 = .ok (.iconst 0, 1) := by decide +kernel
theorem dX10_act_2 : decode cX10_act 2 = .ok (.putfield 226, 3) := by decide +kernel
theorem dX10_act_5 : decode cX10_act 5 = .ok (.aload_n 0, 1) := by decide +kernel
theorem dX10_act_6 : decode cX10_act 6 = .ok (.iload_n 1, 1) := by decide +kernel
theorem dX10_act_7 : decode cX10_act 7 = .ok (.invokevirtual 257, 3) := by decide +kernel
theorem dX10_act_10 : decode cX10_act 10 = .ok (.ifCond .eq 13, 3) := by decide +kernel
theorem dX10_act_13 : decode cX10_act 13 = .ok (.aload_n 0, 1) := by decide +kernel
theorem dX10_act_14 : decode cX10_act 14 = .ok (.iload_n 2, 1) := by decide +kernel
theorem dX10_act_15 : decode cX10_act 15 = .ok (.iconst 0, 1) := by decide +kernel
theorem dX10_act_16 : decode cX10_act 16 = .ok (.iconst 2, 1) := by decide +kernel
theorem dX10_act_17 : decode cX10_act 17 = .ok (.invokevirtual 245, 3) := by decide +kernel
theorem dX10_act_20 : decode cX10_act 20 = .ok (.ifCond .ne 5, 3) := by decide +kernel
theorem dX10_act_23 : decode cX10_act 23 = .ok (.iconst 0, 1) := by decide +kernel
theorem dX10_act_24 : decode cX10_act 24 = .ok (.ireturn, 1) := by decide +kernel
theorem dX10_act_25 : decode cX10_act 25 = .ok (.iload_n 2, 1) := by decide +kernel
theorem dX10_act_26 : decode cX10_act 26 = .ok (.ifCond .ne 12, 3) := by decide +kernel
theorem dX10_act_29 : decode cX10_act 29 = .ok (.aload_n 0, 1) := by decide +kernel
theorem dX10_act_30 : decode cX10_act 30 = .ok (.iload_n 1, 1) := by decide +kernel
theorem dX10_act_31 : decode cX10_act 31 = .ok (.iload_n 3, 1) := by decide +kernel
theorem dX10_act_32 : decode cX10_act 32 = .ok (.invokevirtual 407, 3) := by decide +kernel
theorem dX10_act_35 : decode cX10_act 35 = .ok (.goto 23, 3) := by decide +kernel
theorem dX10_act_38 : decode cX10_act 38 = .ok (.iload_n 2, 1) := by decide +kernel
theorem dX10_act_39 : decode cX10_act 39 = .ok (.iconst 1, 1) := by decide +kernel
theorem dX10_act_40 : decode cX10_act 40 = .ok (.if_icmp .ne 12, 3) := by decide +kernel
theorem dX10_act_43 : decode cX10_act 43 = .ok (.aload_n 0, 1) := by decide +kernel
theorem dX10_act_44 : decode cX10_act 44 = .ok (.iload_n 1, 1) := by decide +kernel
theorem dX10_act_45 : decode cX10_act 45 = .ok (.iload_n 3, 1) := by decide +kernel
theorem dX10_act_46 : decode cX10_act 46 = .ok (.invokevirtual 416, 3) := by decide +kernel
theorem dX10_act_49 : decode cX10_act 49 = .ok (.goto 9, 3) := by decide +kernel
theorem dX10_act_52 : decode cX10_act 52 = .ok (.aload_n 0, 1) := by decide +kernel
theorem dX10_act_53 : decode cX10_act 53 = .ok (.iload_n 1, 1) := by decide +kernel
theorem dX10_act_54 : decode cX10_act 54 = .ok (.iload_n 3, 1) := by decide +kernel
theorem dX10_act_55 : decode cX10_act 55 = .ok (.invokevirtual 422, 3) := by decide +kernel
theorem dX10_act_58 : decode cX10_act 58 = .ok (.ireturn, 1) := by decide +kernel
def f_X10_act (X : x_X) (v0 : Nat) (v1 : Int32) (v2 : Int32) (v3 : Int32) (μ : x_M) : Option (Int32 × x_M) :=
  (ck (x_kd X v0 = 10 + 1) (lt (x_sI μ v0 71 (0 : Int32)) (fun (μ5 : x_M) => (ck (x_kd X v0 = 10 + 1) (bd (f_X10_isAccount X v0 v1 μ5) (fun (v6 : Int32) (μ7 : x_M) => (if v6 = 0 then (some ((0 : Int32), μ7)) else (ck (x_kd X v0 = 10 + 1) (bd (f_X10_in X v0 v2 (0 : Int32) (2 : Int32) μ7) (fun (v8 : Int32) (μ9 : x_M) => (if v8 = 0 then (some ((0 : Int32), μ9)) else (if v2 = 0 then (ck (x_kd X v0 = 10 + 1) (bd (f_X10_keepsAct X v0 v1 v3 μ9) (fun (v14 : Int32) (μ15 : x_M) => (some (v14, μ15))))) else (if v2 = (1 : Int32) then (ck (x_kd X v0 = 10 + 1) (bd (f_X10_poursAct X v0 v1 v3 μ9) (fun (v12 : Int32) (μ13 : x_M) => (some (v12, μ13))))) else (ck (x_kd X v0 = 10 + 1) (bd (f_X10_tellsAct X v0 v1 v3 μ9) (fun (v10 : Int32) (μ11 : x_M) => (some (v10, μ11))))))))))))))))))
set_option maxRecDepth 100000 in
theorem m_X10_act (hI : x_I X) (v0 : Nat) (v1 : Int32) (v2 : Int32) (v3 : Int32) (μ : x_M) : x_Met X x_Z0 l yX10_act cX10_act 4 (some .int) 9 [vR v0, vI v1, vI v2, vI v3] μ rkI (f_X10_act X v0 v1 v2 v3 μ) := by
  refine x_enter hI (by decide +kernel) (Nat.le_of_ble_eq_true rfl) (fun p e s m args below meth c hC hr hlk => ?_)
  unfold f_X10_act
  refine s_lv (lv' := [(0, vR v0), (1, vI v1), (2, vI v2), (3, vI v3)]) [0, 1, 2, 3] rfl ?_
  refine s_aload_n hC 0 dX10_act_0 rfl ?_
  refine s_iconst hC dX10_act_1 (v := 0) (by decide) ?_
  refine s_putI hC xc10 (by decide) rfl rfl qf_X10_226 dX10_act_2 ?_
  refine s_ltM (fun μ5 => ?_)
  refine s_aload_n hC 0 dX10_act_5 rfl ?_
  refine s_iload_n hC 1 dX10_act_6 rfl ?_
  refine s_callV hC (x := v0) (avs := [vI v1]) (st := []) (nest := false) xc10 (m_X10_isAccount hI v0 v1 μ5) dX10_act_7 qm_X10_257 qi_X10_isAccount qs_X10_isAccount qc_X10 qd_X10_isAccount qh_X10_isAccount (by decide) (fun _ => Nat.le_of_ble_eq_true rfl) (Nat.le_of_ble_eq_true rfl) (fun v6 μ7 => ?_)
  refine s_if_eq hC dX10_act_10 (tgt := 23) (by decide) ?_ ?_
  · refine s_iconst hC dX10_act_23 (v := 0) (by decide) ?_
    exact s_iret hC hr hlk dX10_act_24
  refine s_aload_n hC 0 dX10_act_13 rfl ?_
  refine s_iload_n hC 2 dX10_act_14 rfl ?_
  refine s_iconst hC dX10_act_15 (v := 0) (by decide) ?_
  refine s_iconst hC dX10_act_16 (v := 2) (by decide) ?_
  refine s_callV hC (x := v0) (avs := [vI v2, vI (0 : Int32), vI (2 : Int32)]) (st := []) (nest := false) xc10 (m_X10_in hI v0 v2 (0 : Int32) (2 : Int32) μ7) dX10_act_17 qm_X10_245 qi_X10_in qs_X10_in qc_X10 qd_X10_in qh_X10_in (by decide) (fun _ => Nat.le_of_ble_eq_true rfl) (Nat.le_of_ble_eq_true rfl) (fun v8 μ9 => ?_)
  refine s_if_ne hC dX10_act_20 (tgt := 25) (by decide) ?_ ?_
  · refine s_iload_n hC 2 dX10_act_25 rfl ?_
    refine s_if_ne hC dX10_act_26 (tgt := 38) (by decide) ?_ ?_
    · refine s_iload_n hC 2 dX10_act_38 rfl ?_
      refine s_iconst hC dX10_act_39 (v := 1) (by decide) ?_
      refine s_icmp_ne hC dX10_act_40 (tgt := 52) (by decide) ?_ ?_
      · refine s_aload_n hC 0 dX10_act_52 rfl ?_
        refine s_iload_n hC 1 dX10_act_53 rfl ?_
        refine s_iload_n hC 3 dX10_act_54 rfl ?_
        refine s_callV hC (x := v0) (avs := [vI v1, vI v3]) (st := []) (nest := false) xc10 (m_X10_tellsAct hI v0 v1 v3 μ9) dX10_act_55 qm_X10_422 qi_X10_tellsAct qs_X10_tellsAct qc_X10 qd_X10_tellsAct qh_X10_tellsAct (by decide) (fun _ => Nat.le_of_ble_eq_true rfl) (Nat.le_of_ble_eq_true rfl) (fun v10 μ11 => ?_)
        exact s_iret hC hr hlk dX10_act_58
      refine s_aload_n hC 0 dX10_act_43 rfl ?_
      refine s_iload_n hC 1 dX10_act_44 rfl ?_
      refine s_iload_n hC 3 dX10_act_45 rfl ?_
      refine s_callV hC (x := v0) (avs := [vI v1, vI v3]) (st := []) (nest := false) xc10 (m_X10_poursAct hI v0 v1 v3 μ9) dX10_act_46 qm_X10_416 qi_X10_poursAct qs_X10_poursAct qc_X10 qd_X10_poursAct qh_X10_poursAct (by decide) (fun _ => Nat.le_of_ble_eq_true rfl) (Nat.le_of_ble_eq_true rfl) (fun v12 μ13 => ?_)
      refine s_goto hC dX10_act_49 (tgt := 58) (by decide) ?_
      exact s_iret hC hr hlk dX10_act_58
    refine s_aload_n hC 0 dX10_act_29 rfl ?_
    refine s_iload_n hC 1 dX10_act_30 rfl ?_
    refine s_iload_n hC 3 dX10_act_31 rfl ?_
    refine s_callV hC (x := v0) (avs := [vI v1, vI v3]) (st := []) (nest := false) xc10 (m_X10_keepsAct hI v0 v1 v3 μ9) dX10_act_32 qm_X10_407 qi_X10_keepsAct qs_X10_keepsAct qc_X10 qd_X10_keepsAct qh_X10_keepsAct (by decide) (fun _ => Nat.le_of_ble_eq_true rfl) (Nat.le_of_ble_eq_true rfl) (fun v14 μ15 => ?_)
    refine s_goto hC dX10_act_35 (tgt := 58) (by decide) ?_
    exact s_iret hC hr hlk dX10_act_58
  refine s_iconst hC dX10_act_23 (v := 0) (by decide) ?_
  exact s_iret hC hr hlk dX10_act_24
