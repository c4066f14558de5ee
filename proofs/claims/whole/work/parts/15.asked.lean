variable {X : x_X} {l : Launch} {p : Program} {e : Env} {s : State} {m : MethodId} {args : Array Value} {below : List Frame} {meth : Method} {c : Code}
theorem dX2_lastSeen_0 : decode cX2_lastSeen 0 = .ok (.iconst (-1), 1) := by decide +kernel
theorem dX2_lastSeen_1 : decode cX2_lastSeen 1 = .ok (.istore_n 1, 1) := by decide +kernel
theorem dX2_lastSeen_2 : decode cX2_lastSeen 2 = .ok (.iconst 0, 1) := by decide +kernel
theorem dX2_lastSeen_3 : decode cX2_lastSeen 3 = .ok (.istore_n 2, 1) := by decide +kernel
theorem dX2_lastSeen_4 : decode cX2_lastSeen 4 = .ok (.iload_n 2, 1) := by decide +kernel
theorem dX2_lastSeen_5 : decode cX2_lastSeen 5 = .ok (.aload_n 0, 1) := by decide +kernel
theorem dX2_lastSeen_6 : decode cX2_lastSeen 6 = .ok (.getfield 12, 3) := by decide +kernel
theorem dX2_lastSeen_9 : decode cX2_lastSeen 9 = .ok (.getfield 118, 3) := by decide +kernel
theorem dX2_lastSeen_12 : decode cX2_lastSeen 12 = .ok (.invokevirtual 29, 3) := by decide +kernel
theorem dX2_lastSeen_15 : decode cX2_lastSeen 15 = .ok (.if_icmp .ge 25, 3) := by decide +kernel
theorem dX2_lastSeen_18 : decode cX2_lastSeen 18 = .ok (.iload_n 1, 1) := by decide +kernel
theorem dX2_lastSeen_19 : decode cX2_lastSeen 19 = .ok (.aload_n 0, 1) := by decide +kernel
theorem dX2_lastSeen_20 : decode cX2_lastSeen 20 = .ok (.getfield 12, 3) := by decide +kernel
theorem dX2_lastSeen_23 : decode cX2_lastSeen 23 = .ok (.getfield 118, 3) := by decide +kernel
theorem dX2_lastSeen_26 : decode cX2_lastSeen 26 = .ok (.iload_n 2, 1) := by decide +kernel
theorem dX2_lastSeen_27 : decode cX2_lastSeen 27 = .ok (.invokevirtual 35, 3) := by decide +kernel
theorem dX2_lastSeen_30 : decode cX2_lastSeen 30 = .ok (.invokestatic 121, 3) := by decide +kernel
theorem dX2_lastSeen_33 : decode cX2_lastSeen 33 = .ok (.istore_n 1, 1) := by decide +kernel
theorem dX2_lastSeen_34 : decode cX2_lastSeen 34 = .ok (.iinc 2 1, 3) := by decide +kernel
theorem dX2_lastSeen_37 : decode cX2_lastSeen 37 = .ok (.goto (-33), 3) := by decide +kernel
theorem dX2_lastSeen_40 : decode cX2_lastSeen 40 = .ok (.iload_n 1, 1) := by decide +kernel
theorem dX2_lastSeen_41 : decode cX2_lastSeen 41 = .ok (.ireturn, 1) := by decide +kernel
def f_X2_lastSeen_L4 (X : x_X) : Nat → Nat → Int32 → Int32 → x_M → Option (Int32 × x_M)
  | 0, _, _, _, _ => none
  | n + 1, v2, v3, v4, μ5 =>
    (ck (x_kd X v2 = 2 + 1) (lt (μ5.2.1 v2 0) (fun (v6 : Nat) => (ck (x_kd X v6 = 7 + 1) (lt (μ5.2.1 v6 2) (fun (v7 : Nat) => (ck (x_kd X v7 = 6 + 1) (bd (f_X6_size X v7 μ5) (fun (v8 : Int32) (μ9 : x_M) => (if v8 ≤ v4 then (some (v3, μ9)) else (ck (x_kd X v2 = 2 + 1) (lt (μ9.2.1 v2 0) (fun (v10 : Nat) => (ck (x_kd X v10 = 7 + 1) (lt (μ9.2.1 v10 2) (fun (v11 : Nat) => (ck (x_kd X v11 = 6 + 1) (bd (f_X6_first X v11 v4 μ9) (fun (v12 : Int32) (μ13 : x_M) => (lt (if v3 < v12 then v12 else v3) (fun (v14 : Int32) => (f_X2_lastSeen_L4 X n v2 v14 (v4 + (1 : Int32)) μ13))))))))))))))))))))))
set_option maxRecDepth 100000 in
theorem j_X2_lastSeen_L4 (hI : x_I X) (hC : x_C X x_Z0 p (x_rm 3) s m c cX2_lastSeen RX2 3 0 0 3) (hr : meth.sig.returnType = (some .int)) (hlk : meth.locks = false) : ∀ (n : Nat) (v2 : Nat) (v3 : Int32) (v4 : Int32) (μ5 : x_M), SM X 3 3 rkI p l e s m args below meth c 4 [(0, vR v2), (1, vI v3), (2, vI v4)] [] μ5 (f_X2_lastSeen_L4 X n v2 v3 v4 μ5) := by
  intro n
  induction n with
  | zero => intro v2 v3 v4 μ5; exact s_none
  | succ n ih =>
    intro v2 v3 v4 μ5
    unfold f_X2_lastSeen_L4
    refine s_iload_n hC 2 dX2_lastSeen_4 rfl ?_
    refine s_aload_n hC 0 dX2_lastSeen_5 rfl ?_
    refine s_getR hC xc2 (by decide) rfl qf_X2_12 dX2_lastSeen_6 ?_
    refine s_ltR (fun v6 => ?_)
    refine s_getR hC xc7 (by decide) rfl qf_X2_118 dX2_lastSeen_9 ?_
    refine s_ltR (fun v7 => ?_)
    refine s_callV hC (x := v7) (avs := []) (st := [vI v4]) (nest := false) xc6 (m_X6_size hI v7 μ5) dX2_lastSeen_12 qm_X2_29 qi_X6_size qs_X6_size qc_X6 qd_X6_size qh_X6_size (by decide) (fun _ => Nat.le_of_ble_eq_true rfl) (Nat.le_of_ble_eq_true rfl) (fun v8 μ9 => ?_)
    refine s_icmp_ge hC dX2_lastSeen_15 (tgt := 40) (by decide) ?_ ?_
    · refine s_iload_n hC 1 dX2_lastSeen_40 rfl ?_
      exact s_iret hC hr hlk dX2_lastSeen_41
    refine s_iload_n hC 1 dX2_lastSeen_18 rfl ?_
    refine s_aload_n hC 0 dX2_lastSeen_19 rfl ?_
    refine s_getR hC xc2 (by decide) rfl qf_X2_12 dX2_lastSeen_20 ?_
    refine s_ltR (fun v10 => ?_)
    refine s_getR hC xc7 (by decide) rfl qf_X2_118 dX2_lastSeen_23 ?_
    refine s_ltR (fun v11 => ?_)
    refine s_iload_n hC 2 dX2_lastSeen_26 rfl ?_
    refine s_callV hC (x := v11) (avs := [vI v4]) (st := [vI v3]) (nest := false) xc6 (m_X6_first hI v11 v4 μ9) dX2_lastSeen_27 qm_X2_35 qi_X6_first qs_X6_first qc_X6 qd_X6_first qh_X6_first (by decide) (fun _ => Nat.le_of_ble_eq_true rfl) (Nat.le_of_ble_eq_true rfl) (fun v12 μ13 => ?_)
    refine s_max hC dX2_lastSeen_30 qm_X2_121 qt_Math_max qc_Math qd_Math_max (by decide) (Nat.le_of_ble_eq_true rfl) ?_
    refine s_ltI (fun v14 => ?_)
    refine s_istore_n hC dX2_lastSeen_33 (by decide) (lv' := [(1, vI v14), (0, vR v2), (2, vI v4)]) rfl ?_
    refine s_iinc hC 2 dX2_lastSeen_34 rfl (w := 1) (by decide) (by decide) (lv' := [(2, vI (v4 + (1 : Int32))), (1, vI v14), (0, vR v2)]) rfl ?_
    refine s_goto hC dX2_lastSeen_37 (tgt := 4) (by decide) ?_
    refine s_lv (lv' := [(0, vR v2), (1, vI v14), (2, vI (v4 + (1 : Int32)))]) [2, 1, 0] rfl ?_
    exact ih _ _ _ _
def f_X2_lastSeen (X : x_X) (v0 : Nat) (μ : x_M) : Option (Int32 × x_M) :=
  (f_X2_lastSeen_L4 X 4096 v0 (-1 : Int32) (0 : Int32) μ)
set_option maxRecDepth 100000 in
theorem m_X2_lastSeen (hI : x_I X) (v0 : Nat) (μ : x_M) : x_Met X x_Z0 l yX2_lastSeen cX2_lastSeen 3 (some .int) 3 [vR v0] μ rkI (f_X2_lastSeen X v0 μ) := by
  refine x_enter hI (by decide +kernel) (Nat.le_of_ble_eq_true rfl) (fun p e s m args below meth c hC hr hlk => ?_)
  unfold f_X2_lastSeen
  refine s_lv (lv' := [(0, vR v0)]) [0] rfl ?_
  refine s_iconst hC dX2_lastSeen_0 (v := -1) (by decide) ?_
  refine s_istore_n hC dX2_lastSeen_1 (by decide) (lv' := [(1, vI (-1 : Int32)), (0, vR v0)]) rfl ?_
  refine s_iconst hC dX2_lastSeen_2 (v := 0) (by decide) ?_
  refine s_istore_n hC dX2_lastSeen_3 (by decide) (lv' := [(2, vI (0 : Int32)), (1, vI (-1 : Int32)), (0, vR v0)]) rfl ?_
  refine s_lv (lv' := [(0, vR v0), (1, vI (-1 : Int32)), (2, vI (0 : Int32))]) [2, 1, 0] rfl ?_
  refine j_X2_lastSeen_L4 hI hC hr hlk 4096 _ _ _ _
theorem dX2_isAsSeenOn_0 : decode cX2_isAsSeenOn 0 = .ok (.iconst 0, 1) := by decide +kernel
theorem dX2_isAsSeenOn_1 : decode cX2_isAsSeenOn 1 = .ok (.istore_n 2, 1) := by decide +kernel
theorem dX2_isAsSeenOn_2 : decode cX2_isAsSeenOn 2 = .ok (.iload_n 2, 1) := by decide +kernel
theorem dX2_isAsSeenOn_3 : decode cX2_isAsSeenOn 3 = .ok (.aload_n 0, 1) := by decide +kernel
theorem dX2_isAsSeenOn_4 : decode cX2_isAsSeenOn 4 = .ok (.getfield 12, 3) := by decide +kernel
theorem dX2_isAsSeenOn_7 : decode cX2_isAsSeenOn 7 = .ok (.getfield 118, 3) := by decide +kernel
theorem dX2_isAsSeenOn_10 : decode cX2_isAsSeenOn 10 = .ok (.invokevirtual 29, 3) := by decide +kernel
theorem dX2_isAsSeenOn_13 : decode cX2_isAsSeenOn 13 = .ok (.if_icmp .ge 47, 3) := by decide +kernel
theorem dX2_isAsSeenOn_16 : decode cX2_isAsSeenOn 16 = .ok (.aload_n 0, 1) := by decide +kernel
theorem dX2_isAsSeenOn_17 : decode cX2_isAsSeenOn 17 = .ok (.getfield 12, 3) := by decide +kernel
theorem dX2_isAsSeenOn_20 : decode cX2_isAsSeenOn 20 = .ok (.getfield 118, 3) := by decide +kernel
theorem dX2_isAsSeenOn_23 : decode cX2_isAsSeenOn 23 = .ok (.iload_n 2, 1) := by decide +kernel
theorem dX2_isAsSeenOn_24 : decode cX2_isAsSeenOn 24 = .ok (.invokevirtual 35, 3) := by decide +kernel
theorem dX2_isAsSeenOn_27 : decode cX2_isAsSeenOn 27 = .ok (.iload_n 1, 1) := by decide +kernel
theorem dX2_isAsSeenOn_28 : decode cX2_isAsSeenOn 28 = .ok (.if_icmp .ne 26, 3) := by decide +kernel
theorem dX2_isAsSeenOn_31 : decode cX2_isAsSeenOn 31 = .ok (.aload_n 0, 1) := by decide +kernel
theorem dX2_isAsSeenOn_32 : decode cX2_isAsSeenOn 32 = .ok (.getfield 12, 3) := by decide +kernel
theorem dX2_isAsSeenOn_35 : decode cX2_isAsSeenOn 35 = .ok (.getfield 118, 3) := by decide +kernel
theorem dX2_isAsSeenOn_38 : decode cX2_isAsSeenOn 38 = .ok (.iload_n 2, 1) := by decide +kernel
theorem dX2_isAsSeenOn_39 : decode cX2_isAsSeenOn 39 = .ok (.invokevirtual 43, 3) := by decide +kernel
theorem dX2_isAsSeenOn_42 : decode cX2_isAsSeenOn 42 = .ok (.aload_n 0, 1) := by decide +kernel
theorem dX2_isAsSeenOn_43 : decode cX2_isAsSeenOn 43 = .ok (.getfield 12, 3) := by decide +kernel
theorem dX2_isAsSeenOn_46 : decode cX2_isAsSeenOn 46 = .ok (.invokevirtual 56, 3) := by decide +kernel
theorem dX2_isAsSeenOn_49 : decode cX2_isAsSeenOn 49 = .ok (.if_icmp .eq 5, 3) := by decide +kernel
theorem dX2_isAsSeenOn_52 : decode cX2_isAsSeenOn 52 = .ok (.iconst 0, 1) := by decide +kernel
theorem dX2_isAsSeenOn_53 : decode cX2_isAsSeenOn 53 = .ok (.ireturn, 1) := by decide +kernel
theorem dX2_isAsSeenOn_54 : decode cX2_isAsSeenOn 54 = .ok (.iinc 2 1, 3) := by decide +kernel
theorem dX2_isAsSeenOn_57 : decode cX2_isAsSeenOn 57 = .ok (.goto (-55), 3) := by decide +kernel
theorem dX2_isAsSeenOn_60 : decode cX2_isAsSeenOn 60 = .ok (.iconst 1, 1) := by decide +kernel
theorem dX2_isAsSeenOn_61 : decode cX2_isAsSeenOn 61 = .ok (.ireturn, 1) := by decide +kernel
def f_X2_isAsSeenOn_L2 (X : x_X) : Nat → Nat → Int32 → Int32 → x_M → Option (Int32 × x_M)
  | 0, _, _, _, _ => none
  | n + 1, v3, v4, v5, μ6 =>
    (ck (x_kd X v3 = 2 + 1) (lt (μ6.2.1 v3 0) (fun (v7 : Nat) => (ck (x_kd X v7 = 7 + 1) (lt (μ6.2.1 v7 2) (fun (v8 : Nat) => (ck (x_kd X v8 = 6 + 1) (bd (f_X6_size X v8 μ6) (fun (v9 : Int32) (μ10 : x_M) => (if v9 ≤ v5 then (ck ((1 : Int32) = 0 ∨ (1 : Int32) = 1) (some ((1 : Int32), μ10))) else (ck (x_kd X v3 = 2 + 1) (lt (μ10.2.1 v3 0) (fun (v11 : Nat) => (ck (x_kd X v11 = 7 + 1) (lt (μ10.2.1 v11 2) (fun (v12 : Nat) => (ck (x_kd X v12 = 6 + 1) (bd (f_X6_first X v12 v5 μ10) (fun (v13 : Int32) (μ14 : x_M) => (if v13 = v4 then (ck (x_kd X v3 = 2 + 1) (lt (μ14.2.1 v3 0) (fun (v15 : Nat) => (ck (x_kd X v15 = 7 + 1) (lt (μ14.2.1 v15 2) (fun (v16 : Nat) => (ck (x_kd X v16 = 6 + 1) (bd (f_X6_second X v16 v5 μ14) (fun (v17 : Int32) (μ18 : x_M) => (ck (x_kd X v3 = 2 + 1) (lt (μ18.2.1 v3 0) (fun (v19 : Nat) => (ck (x_kd X v19 = 7 + 1) (bd (f_X7_level X v19 μ18) (fun (v20 : Int32) (μ21 : x_M) => (if v17 = v20 then (f_X2_isAsSeenOn_L2 X n v3 v4 (v5 + (1 : Int32)) μ21) else (ck ((0 : Int32) = 0 ∨ (0 : Int32) = 1) (some ((0 : Int32), μ21))))))))))))))))))) else (f_X2_isAsSeenOn_L2 X n v3 v4 (v5 + (1 : Int32)) μ14)))))))))))))))))))))
set_option maxRecDepth 100000 in
theorem j_X2_isAsSeenOn_L2 (hI : x_I X) (hC : x_C X x_Z0 p (x_rm 3) s m c cX2_isAsSeenOn RX2 3 0 0 3) (hr : meth.sig.returnType = (some .boolean)) (hlk : meth.locks = false) : ∀ (n : Nat) (v3 : Nat) (v4 : Int32) (v5 : Int32) (μ6 : x_M), SM X 3 3 rkI p l e s m args below meth c 2 [(0, vR v3), (1, vI v4), (2, vI v5)] [] μ6 (f_X2_isAsSeenOn_L2 X n v3 v4 v5 μ6) := by
  intro n
  induction n with
  | zero => intro v3 v4 v5 μ6; exact s_none
  | succ n ih =>
    intro v3 v4 v5 μ6
    unfold f_X2_isAsSeenOn_L2
    refine s_iload_n hC 2 dX2_isAsSeenOn_2 rfl ?_
    refine s_aload_n hC 0 dX2_isAsSeenOn_3 rfl ?_
    refine s_getR hC xc2 (by decide) rfl qf_X2_12 dX2_isAsSeenOn_4 ?_
    refine s_ltR (fun v7 => ?_)
    refine s_getR hC xc7 (by decide) rfl qf_X2_118 dX2_isAsSeenOn_7 ?_
    refine s_ltR (fun v8 => ?_)
    refine s_callV hC (x := v8) (avs := []) (st := [vI v5]) (nest := false) xc6 (m_X6_size hI v8 μ6) dX2_isAsSeenOn_10 qm_X2_29 qi_X6_size qs_X6_size qc_X6 qd_X6_size qh_X6_size (by decide) (fun _ => Nat.le_of_ble_eq_true rfl) (Nat.le_of_ble_eq_true rfl) (fun v9 μ10 => ?_)
    refine s_icmp_ge hC dX2_isAsSeenOn_13 (tgt := 60) (by decide) ?_ ?_
    · refine s_iconst hC dX2_isAsSeenOn_60 (v := 1) (by decide) ?_
      exact s_zret hC hr hlk dX2_isAsSeenOn_61
    refine s_aload_n hC 0 dX2_isAsSeenOn_16 rfl ?_
    refine s_getR hC xc2 (by decide) rfl qf_X2_12 dX2_isAsSeenOn_17 ?_
    refine s_ltR (fun v11 => ?_)
    refine s_getR hC xc7 (by decide) rfl qf_X2_118 dX2_isAsSeenOn_20 ?_
    refine s_ltR (fun v12 => ?_)
    refine s_iload_n hC 2 dX2_isAsSeenOn_23 rfl ?_
    refine s_callV hC (x := v12) (avs := [vI v5]) (st := []) (nest := false) xc6 (m_X6_first hI v12 v5 μ10) dX2_isAsSeenOn_24 qm_X2_35 qi_X6_first qs_X6_first qc_X6 qd_X6_first qh_X6_first (by decide) (fun _ => Nat.le_of_ble_eq_true rfl) (Nat.le_of_ble_eq_true rfl) (fun v13 μ14 => ?_)
    refine s_iload_n hC 1 dX2_isAsSeenOn_27 rfl ?_
    refine s_icmp_ne hC dX2_isAsSeenOn_28 (tgt := 54) (by decide) ?_ ?_
    · refine s_iinc hC 2 dX2_isAsSeenOn_54 rfl (w := 1) (by decide) (by decide) (lv' := [(2, vI (v5 + (1 : Int32))), (0, vR v3), (1, vI v4)]) rfl ?_
      refine s_goto hC dX2_isAsSeenOn_57 (tgt := 2) (by decide) ?_
      refine s_lv (lv' := [(0, vR v3), (1, vI v4), (2, vI (v5 + (1 : Int32)))]) [1, 2, 0] rfl ?_
      exact ih _ _ _ _
    refine s_aload_n hC 0 dX2_isAsSeenOn_31 rfl ?_
    refine s_getR hC xc2 (by decide) rfl qf_X2_12 dX2_isAsSeenOn_32 ?_
    refine s_ltR (fun v15 => ?_)
    refine s_getR hC xc7 (by decide) rfl qf_X2_118 dX2_isAsSeenOn_35 ?_
    refine s_ltR (fun v16 => ?_)
    refine s_iload_n hC 2 dX2_isAsSeenOn_38 rfl ?_
    refine s_callV hC (x := v16) (avs := [vI v5]) (st := []) (nest := false) xc6 (m_X6_second hI v16 v5 μ14) dX2_isAsSeenOn_39 qm_X2_43 qi_X6_second qs_X6_second qc_X6 qd_X6_second qh_X6_second (by decide) (fun _ => Nat.le_of_ble_eq_true rfl) (Nat.le_of_ble_eq_true rfl) (fun v17 μ18 => ?_)
    refine s_aload_n hC 0 dX2_isAsSeenOn_42 rfl ?_
    refine s_getR hC xc2 (by decide) rfl qf_X2_12 dX2_isAsSeenOn_43 ?_
    refine s_ltR (fun v19 => ?_)
    refine s_callV hC (x := v19) (avs := []) (st := [vI v17]) (nest := false) xc7 (m_X7_level hI v19 μ18) dX2_isAsSeenOn_46 qm_X2_56 qi_X7_level qs_X7_level qc_X7 qd_X7_level qh_X7_level (by decide) (fun _ => Nat.le_of_ble_eq_true rfl) (Nat.le_of_ble_eq_true rfl) (fun v20 μ21 => ?_)
    refine s_icmp_eq hC dX2_isAsSeenOn_49 (tgt := 54) (by decide) ?_ ?_
    · refine s_iinc hC 2 dX2_isAsSeenOn_54 rfl (w := 1) (by decide) (by decide) (lv' := [(2, vI (v5 + (1 : Int32))), (0, vR v3), (1, vI v4)]) rfl ?_
      refine s_goto hC dX2_isAsSeenOn_57 (tgt := 2) (by decide) ?_
      refine s_lv (lv' := [(0, vR v3), (1, vI v4), (2, vI (v5 + (1 : Int32)))]) [1, 2, 0] rfl ?_
      exact ih _ _ _ _
    refine s_iconst hC dX2_isAsSeenOn_52 (v := 0) (by decide) ?_
    exact s_zret hC hr hlk dX2_isAsSeenOn_53
def f_X2_isAsSeenOn (X : x_X) (v0 : Nat) (v1 : Int32) (μ : x_M) : Option (Int32 × x_M) :=
  (f_X2_isAsSeenOn_L2 X 4096 v0 v1 (0 : Int32) μ)
set_option maxRecDepth 100000 in
theorem m_X2_isAsSeenOn (hI : x_I X) (v0 : Nat) (v1 : Int32) (μ : x_M) : x_Met X x_Z0 l yX2_isAsSeenOn cX2_isAsSeenOn 3 (some .boolean) 3 [vR v0, vI v1] μ rkI (f_X2_isAsSeenOn X v0 v1 μ) := by
  refine x_enter hI (by decide +kernel) (Nat.le_of_ble_eq_true rfl) (fun p e s m args below meth c hC hr hlk => ?_)
  unfold f_X2_isAsSeenOn
  refine s_lv (lv' := [(0, vR v0), (1, vI v1)]) [0, 1] rfl ?_
  refine s_iconst hC dX2_isAsSeenOn_0 (v := 0) (by decide) ?_
  refine s_istore_n hC dX2_isAsSeenOn_1 (by decide) (lv' := [(2, vI (0 : Int32)), (0, vR v0), (1, vI v1)]) rfl ?_
  refine s_lv (lv' := [(0, vR v0), (1, vI v1), (2, vI (0 : Int32))]) [1, 2, 0] rfl ?_
  refine j_X2_isAsSeenOn_L2 hI hC hr hlk 4096 _ _ _ _
theorem dX2_beginWithout_0 : decode cX2_beginWithout 0 = .ok (.aload_n 0, 1) := by decide +kernel
theorem dX2_beginWithout_1 : decode cX2_beginWithout 1 = .ok (.getfield 12, 3) := by decide +kernel
theorem dX2_beginWithout_4 : decode cX2_beginWithout 4 = .ok (.aload_n 1, 1) := by decide +kernel
theorem dX2_beginWithout_5 : decode cX2_beginWithout 5 = .ok (.invokevirtual 18, 3) := by decide +kernel
theorem dX2_beginWithout_8 : decode cX2_beginWithout 8 = .ok (.aload_n 0, 1) := by decide +kernel
theorem dX2_beginWithout_9 : decode cX2_beginWithout 9 = .ok (.getfield 12, 3) := by decide +kernel
theorem dX2_beginWithout_12 : decode cX2_beginWithout 12 = .ok (.iload_n 2, 1) := by decide +kernel
theorem dX2_beginWithout_13 : decode cX2_beginWithout 13 = .ok (.invokevirtual 39, 3) := by decide +kernel
theorem dX2_beginWithout_16 : decode cX2_beginWithout 16 = .ok (.astore_n 3, 1) := by decide +kernel
theorem dX2_beginWithout_17 : decode cX2_beginWithout 17 = .ok (.aload_n 3, 1) := by decide +kernel
theorem dX2_beginWithout_18 : decode cX2_beginWithout 18 = .ok (.ifnull 8, 3) := by decide +kernel
theorem dX2_beginWithout_21 : decode cX2_beginWithout 21 = .ok (.aload_n 3, 1) := by decide +kernel
theorem dX2_beginWithout_22 : decode cX2_beginWithout 22 = .ok (.iconst 0, 1) := by decide +kernel
theorem dX2_beginWithout_23 : decode cX2_beginWithout 23 = .ok (.putfield 108, 3) := by decide +kernel
theorem dX2_beginWithout_26 : decode cX2_beginWithout 26 = .ok (.return_, 1) := by decide +kernel
def f_X2_beginWithout (X : x_X) (v0 : Nat) (v1 : Nat) (v2 : Int32) (μ : x_M) : Option (Unit × x_M) :=
  (ck (x_kd X v0 = 2 + 1) (lt (μ.2.1 v0 0) (fun (v4 : Nat) => (ck (x_kd X v4 = 7 + 1) (bd (f_X7_copyFrom X v4 v1 μ) (fun (_ : Unit) (μ5 : x_M) => (ck (x_kd X v0 = 2 + 1) (lt (μ5.2.1 v0 0) (fun (v6 : Nat) => (ck (x_kd X v6 = 7 + 1) (bd (f_X7_find X v6 v2 μ5) (fun (v7 : Nat) (μ8 : x_M) => (if v7 = 0 then (some ((), μ8)) else (ck (x_kd X v7 = 0 + 1 ∧ ((0 : Int32) = 0 ∨ (0 : Int32) = 1)) (lt (x_sI μ8 v7 2 (0 : Int32)) (fun (μ9 : x_M) => (some ((), μ9))))))))))))))))))
set_option maxRecDepth 100000 in
theorem m_X2_beginWithout (hI : x_I X) (v0 : Nat) (v1 : Nat) (v2 : Int32) (μ : x_M) : x_Met X x_Z0 l yX2_beginWithout cX2_beginWithout 4 none 4 [vR v0, vR v1, vI v2] μ rkV (f_X2_beginWithout X v0 v1 v2 μ) := by
  refine x_enter hI (by decide +kernel) (Nat.le_of_ble_eq_true rfl) (fun p e s m args below meth c hC hr hlk => ?_)
  unfold f_X2_beginWithout
  refine s_lv (lv' := [(0, vR v0), (1, vR v1), (2, vI v2)]) [0, 1, 2] rfl ?_
  refine s_aload_n hC 0 dX2_beginWithout_0 rfl ?_
  refine s_getR hC xc2 (by decide) rfl qf_X2_12 dX2_beginWithout_1 ?_
  refine s_ltR (fun v4 => ?_)
  refine s_aload_n hC 1 dX2_beginWithout_4 rfl ?_
  refine s_callV hC (x := v4) (avs := [vR v1]) (st := []) (nest := false) xc7 (m_X7_copyFrom hI v4 v1 μ) dX2_beginWithout_5 qm_X2_18 qi_X7_copyFrom qs_X7_copyFrom qc_X7 qd_X7_copyFrom qh_X7_copyFrom (by decide) (fun _ => Nat.le_of_ble_eq_true rfl) (Nat.le_of_ble_eq_true rfl) (fun _ μ5 => ?_)
  refine s_aload_n hC 0 dX2_beginWithout_8 rfl ?_
  refine s_getR hC xc2 (by decide) rfl qf_X2_12 dX2_beginWithout_9 ?_
  refine s_ltR (fun v6 => ?_)
  refine s_iload_n hC 2 dX2_beginWithout_12 rfl ?_
  refine s_callV hC (x := v6) (avs := [vI v2]) (st := []) (nest := false) xc7 (m_X7_find hI v6 v2 μ5) dX2_beginWithout_13 qm_X2_39 qi_X7_find qs_X7_find qc_X7 qd_X7_find qh_X7_find (by decide) (fun _ => Nat.le_of_ble_eq_true rfl) (Nat.le_of_ble_eq_true rfl) (fun v7 μ8 => ?_)
  refine s_astore_n hC dX2_beginWithout_16 (by decide) (lv' := [(3, vR v7), (0, vR v0), (1, vR v1), (2, vI v2)]) rfl ?_
  refine s_aload_n hC 0 dX2_beginWithout_17 rfl ?_
  refine s_ifnull hC dX2_beginWithout_18 (tgt := 26) (by decide) ?_ ?_
  · exact s_vret hC hr hlk dX2_beginWithout_26
  refine s_aload_n hC 0 dX2_beginWithout_21 rfl ?_
  refine s_iconst hC dX2_beginWithout_22 (v := 0) (by decide) ?_
  refine s_putZ hC xc0 (by decide) rfl rfl qf_X2_108 dX2_beginWithout_23 ?_
  refine s_ltM (fun μ9 => ?_)
  exact s_vret hC hr hlk dX2_beginWithout_26
theorem dX2_after_0 : decode cX2_after 0 = .ok (.aload_n 0, 1) := by decide +kernel
theorem dX2_after_1 : decode cX2_after 1 = .ok (.getfield 12, 3) := by decide +kernel
theorem dX2_after_4 : decode cX2_after 4 = .ok (.aload_n 1, 1) := by decide +kernel
theorem dX2_after_5 : decode cX2_after 5 = .ok (.invokevirtual 18, 3) := by decide +kernel
theorem dX2_after_8 : decode cX2_after 8 = .ok (.iconst 0, 1) := by decide +kernel
theorem dX2_after_9 : decode cX2_after 9 = .ok (.istore_n 3, 1) := by decide +kernel
theorem dX2_after_10 : decode cX2_after 10 = .ok (.iload_n 3, 1) := by decide +kernel
theorem dX2_after_11 : decode cX2_after 11 = .ok (.iload_n 2, 1) := by decide +kernel
theorem dX2_after_12 : decode cX2_after 12 = .ok (.if_icmp .ge 16, 3) := by decide +kernel
theorem dX2_after_15 : decode cX2_after 15 = .ok (.aload_n 0, 1) := by decide +kernel
theorem dX2_after_16 : decode cX2_after 16 = .ok (.getfield 12, 3) := by decide +kernel
theorem dX2_after_19 : decode cX2_after 19 = .ok (.invokevirtual 22, 3) := by decide +kernel
theorem dX2_after_22 : decode cX2_after 22 = .ok (.iinc 3 1, 3) := by decide +kernel
theorem dX2_after_25 : decode cX2_after 25 = .ok (.goto (-15), 3) := by decide +kernel
theorem dX2_after_28 : decode cX2_after 28 = .ok (.aload_n 0, 1) := by decide +kernel
theorem dX2_after_29 : decode cX2_after 29 = .ok (.getfield 12, 3) := by decide +kernel
theorem dX2_after_32 : decode cX2_after 32 = .ok (.areturn, 1) := by decide +kernel
def f_X2_after_L10 (X : x_X) : Nat → Nat → Int32 → Int32 → x_M → Option (Nat × x_M)
  | 0, _, _, _, _ => none
  | n + 1, v6, v7, v8, μ9 =>
    (if v7 ≤ v8 then (ck (x_kd X v6 = 2 + 1) (lt (μ9.2.1 v6 0) (fun (v10 : Nat) => (some (v10, μ9))))) else (ck (x_kd X v6 = 2 + 1) (lt (μ9.2.1 v6 0) (fun (v11 : Nat) => (ck (x_kd X v11 = 7 + 1) (bd (f_X7_pass X v11 μ9) (fun (_ : Unit) (μ12 : x_M) => (f_X2_after_L10 X n v6 v7 (v8 + (1 : Int32)) μ12))))))))
set_option maxRecDepth 100000 in
theorem j_X2_after_L10 (hI : x_I X) (hC : x_C X x_Z0 p (x_rm 6) s m c cX2_after RX2 4 0 0 6) (hr : meth.sig.returnType = (some (.object "LakeBooks$State"))) (hlk : meth.locks = false) : ∀ (n : Nat) (v6 : Nat) (v7 : Int32) (v8 : Int32) (μ9 : x_M), SM X 4 6 rkR p l e s m args below meth c 10 [(0, vR v6), (2, vI v7), (3, vI v8)] [] μ9 (f_X2_after_L10 X n v6 v7 v8 μ9) := by
  intro n
  induction n with
  | zero => intro v6 v7 v8 μ9; exact s_none
  | succ n ih =>
    intro v6 v7 v8 μ9
    unfold f_X2_after_L10
    refine s_iload_n hC 2 dX2_after_10 rfl ?_
    refine s_iload_n hC 1 dX2_after_11 rfl ?_
    refine s_icmp_ge hC dX2_after_12 (tgt := 28) (by decide) ?_ ?_
    · refine s_aload_n hC 0 dX2_after_28 rfl ?_
      refine s_getR hC xc2 (by decide) rfl qf_X2_12 dX2_after_29 ?_
      refine s_ltR (fun v10 => ?_)
      exact s_aret hC hr (Or.inl ⟨_, rfl⟩) hlk dX2_after_32
    refine s_aload_n hC 0 dX2_after_15 rfl ?_
    refine s_getR hC xc2 (by decide) rfl qf_X2_12 dX2_after_16 ?_
    refine s_ltR (fun v11 => ?_)
    refine s_callV hC (x := v11) (avs := []) (st := []) (nest := false) xc7 (m_X7_pass hI v11 μ9) dX2_after_19 qm_X2_22 qi_X7_pass qs_X7_pass qc_X7 qd_X7_pass qh_X7_pass (by decide) (fun _ => Nat.le_of_ble_eq_true rfl) (Nat.le_of_ble_eq_true rfl) (fun _ μ12 => ?_)
    refine s_iinc hC 2 dX2_after_22 rfl (w := 1) (by decide) (by decide) (lv' := [(3, vI (v8 + (1 : Int32))), (0, vR v6), (2, vI v7)]) rfl ?_
    refine s_goto hC dX2_after_25 (tgt := 10) (by decide) ?_
    refine s_lv (lv' := [(0, vR v6), (2, vI v7), (3, vI (v8 + (1 : Int32)))]) [1, 2, 0] rfl ?_
    exact ih _ _ _ _
def f_X2_after (X : x_X) (v0 : Nat) (v1 : Nat) (v2 : Int32) (μ : x_M) : Option (Nat × x_M) :=
  (ck (x_kd X v0 = 2 + 1) (lt (μ.2.1 v0 0) (fun (v4 : Nat) => (ck (x_kd X v4 = 7 + 1) (bd (f_X7_copyFrom X v4 v1 μ) (fun (_ : Unit) (μ5 : x_M) => (f_X2_after_L10 X 4096 v0 v2 (0 : Int32) μ5)))))))
set_option maxRecDepth 100000 in
theorem m_X2_after (hI : x_I X) (v0 : Nat) (v1 : Nat) (v2 : Int32) (μ : x_M) : x_Met X x_Z0 l yX2_after cX2_after 4 (some (.object "LakeBooks$State")) 6 [vR v0, vR v1, vI v2] μ rkR (f_X2_after X v0 v1 v2 μ) := by
  refine x_enter hI (by decide +kernel) (Nat.le_of_ble_eq_true rfl) (fun p e s m args below meth c hC hr hlk => ?_)
  unfold f_X2_after
  refine s_lv (lv' := [(0, vR v0), (1, vR v1), (2, vI v2)]) [0, 1, 2] rfl ?_
  refine s_aload_n hC 0 dX2_after_0 rfl ?_
  refine s_getR hC xc2 (by decide) rfl qf_X2_12 dX2_after_1 ?_
  refine s_ltR (fun v4 => ?_)
  refine s_aload_n hC 1 dX2_after_4 rfl ?_
  refine s_callV hC (x := v4) (avs := [vR v1]) (st := []) (nest := false) xc7 (m_X7_copyFrom hI v4 v1 μ) dX2_after_5 qm_X2_18 qi_X7_copyFrom qs_X7_copyFrom qc_X7 qd_X7_copyFrom qh_X7_copyFrom (by decide) (fun _ => Nat.le_of_ble_eq_true rfl) (Nat.le_of_ble_eq_true rfl) (fun _ μ5 => ?_)
  refine s_iconst hC dX2_after_8 (v := 0) (by decide) ?_
  refine s_istore_n hC dX2_after_9 (by decide) (lv' := [(3, vI (0 : Int32)), (0, vR v0), (1, vR v1), (2, vI v2)]) rfl ?_
  refine s_lv (lv' := [(0, vR v0), (2, vI v2), (3, vI (0 : Int32))]) [1, 3, 0] rfl ?_
  refine j_X2_after_L10 hI hC hr hlk 4096 _ _ _ _
theorem dX2_afterPlan_0 : decode cX2_afterPlan 0 = .ok (.aload_n 0, 1) := by decide +kernel
theorem dX2_afterPlan_1 : decode cX2_afterPlan 1 = .ok (.getfield 12, 3) := by decide +kernel
theorem dX2_afterPlan_4 : decode cX2_afterPlan 4 = .ok (.aload_n 1, 1) := by decide +kernel
theorem dX2_afterPlan_5 : decode cX2_afterPlan 5 = .ok (.invokevirtual 18, 3) := by decide +kernel
theorem dX2_afterPlan_8 : decode cX2_afterPlan 8 = .ok (.iconst 0, 1) := by decide +kernel
theorem dX2_afterPlan_9 : decode cX2_afterPlan 9 = .ok (.istore_n 2, 1) := by decide +kernel
theorem dX2_afterPlan_10 : decode cX2_afterPlan 10 = .ok (.iload_n 2, 1) := by decide +kernel
theorem dX2_afterPlan_11 : decode cX2_afterPlan 11 = .ok (.aload_n 1, 1) := by decide +kernel
theorem dX2_afterPlan_12 : decode cX2_afterPlan 12 = .ok (.getfield 25, 3) := by decide +kernel
theorem dX2_afterPlan_15 : decode cX2_afterPlan 15 = .ok (.invokevirtual 29, 3) := by decide +kernel
theorem dX2_afterPlan_18 : decode cX2_afterPlan 18 = .ok (.if_icmp .ge 48, 3) := by decide +kernel
theorem dX2_afterPlan_21 : decode cX2_afterPlan 21 = .ok (.aload_n 0, 1) := by decide +kernel
theorem dX2_afterPlan_22 : decode cX2_afterPlan 22 = .ok (.getfield 12, 3) := by decide +kernel
theorem dX2_afterPlan_25 : decode cX2_afterPlan 25 = .ok (.aload_n 1, 1) := by decide +kernel
theorem dX2_afterPlan_26 : decode cX2_afterPlan 26 = .ok (.getfield 25, 3) := by decide +kernel
theorem dX2_afterPlan_29 : decode cX2_afterPlan 29 = .ok (.iload_n 2, 1) := by decide +kernel
theorem dX2_afterPlan_30 : decode cX2_afterPlan 30 = .ok (.invokevirtual 35, 3) := by decide +kernel
theorem dX2_afterPlan_33 : decode cX2_afterPlan 33 = .ok (.invokevirtual 39, 3) := by decide +kernel
theorem dX2_afterPlan_36 : decode cX2_afterPlan 36 = .ok (.astore_n 3, 1) := by decide +kernel
theorem dX2_afterPlan_37 : decode cX2_afterPlan 37 = .ok (.aload_n 3, 1) := by decide +kernel
theorem dX2_afterPlan_38 : decode cX2_afterPlan 38 = .ok (.ifnull 15, 3) := by decide +kernel
theorem dX2_afterPlan_41 : decode cX2_afterPlan 41 = .ok (.aload_n 3, 1) := by decide +kernel
theorem dX2_afterPlan_42 : decode cX2_afterPlan 42 = .ok (.aload_n 1, 1) := by decide +kernel
theorem dX2_afterPlan_43 : decode cX2_afterPlan 43 = .ok (.getfield 25, 3) := by decide +kernel
theorem dX2_afterPlan_46 : decode cX2_afterPlan 46 = .ok (.iload_n 2, 1) := by decide +kernel
theorem dX2_afterPlan_47 : decode cX2_afterPlan 47 = .ok (.invokevirtual 43, 3) := by decide +kernel
theorem dX2_afterPlan_50 : decode cX2_afterPlan 50 = .ok (.putfield 46, 3) := by decide +kernel
theorem dX2_afterPlan_53 : decode cX2_afterPlan 53 = .ok (.aload_n 0, 1) := by decide +kernel
theorem dX2_afterPlan_54 : decode cX2_afterPlan 54 = .ok (.getfield 12, 3) := by decide +kernel
theorem dX2_afterPlan_57 : decode cX2_afterPlan 57 = .ok (.invokevirtual 22, 3) := by decide +kernel
theorem dX2_afterPlan_60 : decode cX2_afterPlan 60 = .ok (.iinc 2 1, 3) := by decide +kernel
theorem dX2_afterPlan_63 : decode cX2_afterPlan 63 = .ok (.goto (-53), 3) := by decide +kernel
theorem dX2_afterPlan_66 : decode cX2_afterPlan 66 = .ok (.aload_n 0, 1) := by decide +kernel
theorem dX2_afterPlan_67 : decode cX2_afterPlan 67 = .ok (.getfield 12, 3) := by decide +kernel
theorem dX2_afterPlan_70 : decode cX2_afterPlan 70 = .ok (.areturn, 1) := by decide +kernel
def f_X2_afterPlan_L10 (X : x_X) : Nat → Nat → Nat → Int32 → x_M → Option (Nat × x_M)
  | 0, _, _, _, _ => none
  | n + 1, v5, v6, v7, μ8 =>
    (ck (x_kd X v6 = 7 + 1) (lt (μ8.2.1 v6 3) (fun (v9 : Nat) => (ck (x_kd X v9 = 6 + 1) (bd (f_X6_size X v9 μ8) (fun (v10 : Int32) (μ11 : x_M) => (if v10 ≤ v7 then (ck (x_kd X v5 = 2 + 1) (lt (μ11.2.1 v5 0) (fun (v12 : Nat) => (some (v12, μ11))))) else (ck (x_kd X v5 = 2 + 1) (lt (μ11.2.1 v5 0) (fun (v13 : Nat) => (ck (x_kd X v6 = 7 + 1) (lt (μ11.2.1 v6 3) (fun (v14 : Nat) => (ck (x_kd X v14 = 6 + 1) (bd (f_X6_first X v14 v7 μ11) (fun (v15 : Int32) (μ16 : x_M) => (ck (x_kd X v13 = 7 + 1) (bd (f_X7_find X v13 v15 μ16) (fun (v17 : Nat) (μ18 : x_M) => (if v17 = 0 then (ck (x_kd X v5 = 2 + 1) (lt (μ18.2.1 v5 0) (fun (v19 : Nat) => (ck (x_kd X v19 = 7 + 1) (bd (f_X7_pass X v19 μ18) (fun (_ : Unit) (μ20 : x_M) => (f_X2_afterPlan_L10 X n v5 v6 (v7 + (1 : Int32)) μ20))))))) else (ck (x_kd X v6 = 7 + 1) (lt (μ18.2.1 v6 3) (fun (v21 : Nat) => (ck (x_kd X v21 = 6 + 1) (bd (f_X6_second X v21 v7 μ18) (fun (v22 : Int32) (μ23 : x_M) => (ck (x_kd X v17 = 0 + 1) (lt (x_sI μ23 v17 6 v22) (fun (μ24 : x_M) => (ck (x_kd X v5 = 2 + 1) (lt (μ24.2.1 v5 0) (fun (v25 : Nat) => (ck (x_kd X v25 = 7 + 1) (bd (f_X7_pass X v25 μ24) (fun (_ : Unit) (μ26 : x_M) => (f_X2_afterPlan_L10 X n v5 v6 (v7 + (1 : Int32)) μ26))))))))))))))))))))))))))))))))))))
set_option maxRecDepth 100000 in
theorem j_X2_afterPlan_L10 (hI : x_I X) (hC : x_C X x_Z0 p (x_rm 6) s m c cX2_afterPlan RX2 4 0 0 6) (hr : meth.sig.returnType = (some (.object "LakeBooks$State"))) (hlk : meth.locks = false) : ∀ (n : Nat) (v5 : Nat) (v6 : Nat) (v7 : Int32) (μ8 : x_M), SM X 4 6 rkR p l e s m args below meth c 10 [(0, vR v5), (1, vR v6), (2, vI v7)] [] μ8 (f_X2_afterPlan_L10 X n v5 v6 v7 μ8) := by
  intro n
  induction n with
  | zero => intro v5 v6 v7 μ8; exact s_none
  | succ n ih =>
    intro v5 v6 v7 μ8
    unfold f_X2_afterPlan_L10
    refine s_iload_n hC 2 dX2_afterPlan_10 rfl ?_
    refine s_aload_n hC 1 dX2_afterPlan_11 rfl ?_
    refine s_getR hC xc7 (by decide) rfl qf_X2_25 dX2_afterPlan_12 ?_
    refine s_ltR (fun v9 => ?_)
    refine s_callV hC (x := v9) (avs := []) (st := [vI v7]) (nest := false) xc6 (m_X6_size hI v9 μ8) dX2_afterPlan_15 qm_X2_29 qi_X6_size qs_X6_size qc_X6 qd_X6_size qh_X6_size (by decide) (fun _ => Nat.le_of_ble_eq_true rfl) (Nat.le_of_ble_eq_true rfl) (fun v10 μ11 => ?_)
    refine s_icmp_ge hC dX2_afterPlan_18 (tgt := 66) (by decide) ?_ ?_
    · refine s_aload_n hC 0 dX2_afterPlan_66 rfl ?_
      refine s_getR hC xc2 (by decide) rfl qf_X2_12 dX2_afterPlan_67 ?_
      refine s_ltR (fun v12 => ?_)
      exact s_aret hC hr (Or.inl ⟨_, rfl⟩) hlk dX2_afterPlan_70
    refine s_aload_n hC 0 dX2_afterPlan_21 rfl ?_
    refine s_getR hC xc2 (by decide) rfl qf_X2_12 dX2_afterPlan_22 ?_
    refine s_ltR (fun v13 => ?_)
    refine s_aload_n hC 1 dX2_afterPlan_25 rfl ?_
    refine s_getR hC xc7 (by decide) rfl qf_X2_25 dX2_afterPlan_26 ?_
    refine s_ltR (fun v14 => ?_)
    refine s_iload_n hC 2 dX2_afterPlan_29 rfl ?_
    refine s_callV hC (x := v14) (avs := [vI v7]) (st := [vR v13]) (nest := false) xc6 (m_X6_first hI v14 v7 μ11) dX2_afterPlan_30 qm_X2_35 qi_X6_first qs_X6_first qc_X6 qd_X6_first qh_X6_first (by decide) (fun _ => Nat.le_of_ble_eq_true rfl) (Nat.le_of_ble_eq_true rfl) (fun v15 μ16 => ?_)
    refine s_callV hC (x := v13) (avs := [vI v15]) (st := []) (nest := false) xc7 (m_X7_find hI v13 v15 μ16) dX2_afterPlan_33 qm_X2_39 qi_X7_find qs_X7_find qc_X7 qd_X7_find qh_X7_find (by decide) (fun _ => Nat.le_of_ble_eq_true rfl) (Nat.le_of_ble_eq_true rfl) (fun v17 μ18 => ?_)
    refine s_astore_n hC dX2_afterPlan_36 (by decide) (lv' := [(3, vR v17), (0, vR v5), (1, vR v6), (2, vI v7)]) rfl ?_
    refine s_aload_n hC 0 dX2_afterPlan_37 rfl ?_
    refine s_ifnull hC dX2_afterPlan_38 (tgt := 53) (by decide) ?_ ?_
    · refine s_aload_n hC 1 dX2_afterPlan_53 rfl ?_
      refine s_getR hC xc2 (by decide) rfl qf_X2_12 dX2_afterPlan_54 ?_
      refine s_ltR (fun v19 => ?_)
      refine s_callV hC (x := v19) (avs := []) (st := []) (nest := false) xc7 (m_X7_pass hI v19 μ18) dX2_afterPlan_57 qm_X2_22 qi_X7_pass qs_X7_pass qc_X7 qd_X7_pass qh_X7_pass (by decide) (fun _ => Nat.le_of_ble_eq_true rfl) (Nat.le_of_ble_eq_true rfl) (fun _ μ20 => ?_)
      refine s_iinc hC 3 dX2_afterPlan_60 rfl (w := 1) (by decide) (by decide) (lv' := [(2, vI (v7 + (1 : Int32))), (3, vR v17), (0, vR v5), (1, vR v6)]) rfl ?_
      refine s_goto hC dX2_afterPlan_63 (tgt := 10) (by decide) ?_
      refine s_lv (lv' := [(0, vR v5), (1, vR v6), (2, vI (v7 + (1 : Int32)))]) [2, 3, 0] rfl ?_
      exact ih _ _ _ _
    refine s_aload_n hC 0 dX2_afterPlan_41 rfl ?_
    refine s_aload_n hC 2 dX2_afterPlan_42 rfl ?_
    refine s_getR hC xc7 (by decide) rfl qf_X2_25 dX2_afterPlan_43 ?_
    refine s_ltR (fun v21 => ?_)
    refine s_iload_n hC 3 dX2_afterPlan_46 rfl ?_
    refine s_callV hC (x := v21) (avs := [vI v7]) (st := [vR v17]) (nest := false) xc6 (m_X6_second hI v21 v7 μ18) dX2_afterPlan_47 qm_X2_43 qi_X6_second qs_X6_second qc_X6 qd_X6_second qh_X6_second (by decide) (fun _ => Nat.le_of_ble_eq_true rfl) (Nat.le_of_ble_eq_true rfl) (fun v22 μ23 => ?_)
    refine s_putI hC xc0 (by decide) rfl rfl qf_X2_46 dX2_afterPlan_50 ?_
    refine s_ltM (fun μ24 => ?_)
    refine s_aload_n hC 1 dX2_afterPlan_53 rfl ?_
    refine s_getR hC xc2 (by decide) rfl qf_X2_12 dX2_afterPlan_54 ?_
    refine s_ltR (fun v25 => ?_)
    refine s_callV hC (x := v25) (avs := []) (st := []) (nest := false) xc7 (m_X7_pass hI v25 μ24) dX2_afterPlan_57 qm_X2_22 qi_X7_pass qs_X7_pass qc_X7 qd_X7_pass qh_X7_pass (by decide) (fun _ => Nat.le_of_ble_eq_true rfl) (Nat.le_of_ble_eq_true rfl) (fun _ μ26 => ?_)
    refine s_iinc hC 3 dX2_afterPlan_60 rfl (w := 1) (by decide) (by decide) (lv' := [(2, vI (v7 + (1 : Int32))), (3, vR v17), (0, vR v5), (1, vR v6)]) rfl ?_
    refine s_goto hC dX2_afterPlan_63 (tgt := 10) (by decide) ?_
    refine s_lv (lv' := [(0, vR v5), (1, vR v6), (2, vI (v7 + (1 : Int32)))]) [2, 3, 0] rfl ?_
    exact ih _ _ _ _
def f_X2_afterPlan (X : x_X) (v0 : Nat) (v1 : Nat) (μ : x_M) : Option (Nat × x_M) :=
  (ck (x_kd X v0 = 2 + 1) (lt (μ.2.1 v0 0) (fun (v3 : Nat) => (ck (x_kd X v3 = 7 + 1) (bd (f_X7_copyFrom X v3 v1 μ) (fun (_ : Unit) (μ4 : x_M) => (f_X2_afterPlan_L10 X 4096 v0 v1 (0 : Int32) μ4)))))))
set_option maxRecDepth 100000 in
theorem m_X2_afterPlan (hI : x_I X) (v0 : Nat) (v1 : Nat) (μ : x_M) : x_Met X x_Z0 l yX2_afterPlan cX2_afterPlan 4 (some (.object "LakeBooks$State")) 6 [vR v0, vR v1] μ rkR (f_X2_afterPlan X v0 v1 μ) := by
  refine x_enter hI (by decide +kernel) (Nat.le_of_ble_eq_true rfl) (fun p e s m args below meth c hC hr hlk => ?_)
  unfold f_X2_afterPlan
  refine s_lv (lv' := [(0, vR v0), (1, vR v1)]) [0, 1] rfl ?_
  refine s_aload_n hC 0 dX2_afterPlan_0 rfl ?_
  refine s_getR hC xc2 (by decide) rfl qf_X2_12 dX2_afterPlan_1 ?_
  refine s_ltR (fun v3 => ?_)
  refine s_aload_n hC 1 dX2_afterPlan_4 rfl ?_
  refine s_callV hC (x := v3) (avs := [vR v1]) (st := []) (nest := false) xc7 (m_X7_copyFrom hI v3 v1 μ) dX2_afterPlan_5 qm_X2_18 qi_X7_copyFrom qs_X7_copyFrom qc_X7 qd_X7_copyFrom qh_X7_copyFrom (by decide) (fun _ => Nat.le_of_ble_eq_true rfl) (Nat.le_of_ble_eq_true rfl) (fun _ μ4 => ?_)
  refine s_iconst hC dX2_afterPlan_8 (v := 0) (by decide) ?_
  refine s_istore_n hC dX2_afterPlan_9 (by decide) (lv' := [(2, vI (0 : Int32)), (0, vR v0), (1, vR v1)]) rfl ?_
  refine s_lv (lv' := [(0, vR v0), (1, vR v1), (2, vI (0 : Int32))]) [1, 2, 0] rfl ?_
  refine j_X2_afterPlan_L10 hI hC hr hlk 4096 _ _ _ _
theorem dX2_daysTillDry_0 : decode cX2_daysTillDry 0 = .ok (.aload_n 0, 1) := by decide +kernel
theorem dX2_daysTillDry_1 : decode cX2_daysTillDry 1 = .ok (.getfield 12, 3) := by decide +kernel
theorem dX2_daysTillDry_4 : decode cX2_daysTillDry 4 = .ok (.aload_n 1, 1) := by decide +kernel
theorem dX2_daysTillDry_5 : decode cX2_daysTillDry 5 = .ok (.invokevirtual 18, 3) := by decide +kernel
theorem dX2_daysTillDry_8 : decode cX2_daysTillDry 8 = .ok (.iconst 0, 1) := by decide +kernel
theorem dX2_daysTillDry_9 : decode cX2_daysTillDry 9 = .ok (.istore_n 2, 1) := by decide +kernel
theorem dX2_daysTillDry_10 : decode cX2_daysTillDry 10 = .ok (.iload_n 2, 1) := by decide +kernel
theorem dX2_daysTillDry_11 : decode cX2_daysTillDry 11 = .ok (.bipush 60, 2) := by decide +kernel
theorem dX2_daysTillDry_13 : decode cX2_daysTillDry 13 = .ok (.if_icmp .gt 28, 3) := by decide +kernel
theorem dX2_daysTillDry_16 : decode cX2_daysTillDry 16 = .ok (.aload_n 0, 1) := by decide +kernel
theorem dX2_daysTillDry_17 : decode cX2_daysTillDry 17 = .ok (.getfield 12, 3) := by decide +kernel
theorem dX2_daysTillDry_20 : decode cX2_daysTillDry 20 = .ok (.invokevirtual 52, 3) := by decide +kernel
theorem dX2_daysTillDry_23 : decode cX2_daysTillDry 23 = .ok (.ifCond .eq 5, 3) := by decide +kernel
theorem dX2_daysTillDry_26 : decode cX2_daysTillDry 26 = .ok (.iload_n 2, 1) := by decide +kernel
theorem dX2_daysTillDry_27 : decode cX2_daysTillDry 27 = .ok (.ireturn, 1) := by decide +kernel
theorem dX2_daysTillDry_28 : decode cX2_daysTillDry 28 = .ok (.aload_n 0, 1) := by decide +kernel
theorem dX2_daysTillDry_29 : decode cX2_daysTillDry 29 = .ok (.getfield 12, 3) := by decide +kernel
theorem dX2_daysTillDry_32 : decode cX2_daysTillDry 32 = .ok (.invokevirtual 22, 3) := by decide +kernel
theorem dX2_daysTillDry_35 : decode cX2_daysTillDry 35 = .ok (.iinc 2 1, 3) := by decide +kernel
theorem dX2_daysTillDry_38 : decode cX2_daysTillDry 38 = .ok (.goto (-28), 3) := by decide +kernel
theorem dX2_daysTillDry_41 : decode cX2_daysTillDry 41 = .ok (.bipush (-5), 2) := by decide +kernel
theorem dX2_daysTillDry_43 : decode cX2_daysTillDry 43 = .ok (.ireturn, 1) := by decide +kernel
def f_X2_daysTillDry_L10 (X : x_X) : Nat → Nat → Int32 → x_M → Option (Int32 × x_M)
  | 0, _, _, _ => none
  | n + 1, v5, v6, μ7 =>
    (if (60 : Int32) < v6 then (some ((-5 : Int32), μ7)) else (ck (x_kd X v5 = 2 + 1) (lt (μ7.2.1 v5 0) (fun (v8 : Nat) => (ck (x_kd X v8 = 7 + 1) (bd (f_X7_isDry X v8 μ7) (fun (v9 : Int32) (μ10 : x_M) => (if v9 = 0 then (ck (x_kd X v5 = 2 + 1) (lt (μ10.2.1 v5 0) (fun (v11 : Nat) => (ck (x_kd X v11 = 7 + 1) (bd (f_X7_pass X v11 μ10) (fun (_ : Unit) (μ12 : x_M) => (f_X2_daysTillDry_L10 X n v5 (v6 + (1 : Int32)) μ12))))))) else (some (v6, μ10))))))))))
set_option maxRecDepth 100000 in
theorem j_X2_daysTillDry_L10 (hI : x_I X) (hC : x_C X x_Z0 p (x_rm 6) s m c cX2_daysTillDry RX2 3 0 0 6) (hr : meth.sig.returnType = (some .int)) (hlk : meth.locks = false) : ∀ (n : Nat) (v5 : Nat) (v6 : Int32) (μ7 : x_M), SM X 3 6 rkI p l e s m args below meth c 10 [(0, vR v5), (2, vI v6)] [] μ7 (f_X2_daysTillDry_L10 X n v5 v6 μ7) := by
  intro n
  induction n with
  | zero => intro v5 v6 μ7; exact s_none
  | succ n ih =>
    intro v5 v6 μ7
    unfold f_X2_daysTillDry_L10
    refine s_iload_n hC 1 dX2_daysTillDry_10 rfl ?_
    refine s_bipush hC dX2_daysTillDry_11 (v := 60) (by decide) ?_
    refine s_icmp_gt hC dX2_daysTillDry_13 (tgt := 41) (by decide) ?_ ?_
    · refine s_bipush hC dX2_daysTillDry_41 (v := -5) (by decide) ?_
      exact s_iret hC hr hlk dX2_daysTillDry_43
    refine s_aload_n hC 0 dX2_daysTillDry_16 rfl ?_
    refine s_getR hC xc2 (by decide) rfl qf_X2_12 dX2_daysTillDry_17 ?_
    refine s_ltR (fun v8 => ?_)
    refine s_callV hC (x := v8) (avs := []) (st := []) (nest := false) xc7 (m_X7_isDry hI v8 μ7) dX2_daysTillDry_20 qm_X2_52 qi_X7_isDry qs_X7_isDry qc_X7 qd_X7_isDry qh_X7_isDry (by decide) (fun _ => Nat.le_of_ble_eq_true rfl) (Nat.le_of_ble_eq_true rfl) (fun v9 μ10 => ?_)
    refine s_if_eq hC dX2_daysTillDry_23 (tgt := 28) (by decide) ?_ ?_
    · refine s_aload_n hC 0 dX2_daysTillDry_28 rfl ?_
      refine s_getR hC xc2 (by decide) rfl qf_X2_12 dX2_daysTillDry_29 ?_
      refine s_ltR (fun v11 => ?_)
      refine s_callV hC (x := v11) (avs := []) (st := []) (nest := false) xc7 (m_X7_pass hI v11 μ10) dX2_daysTillDry_32 qm_X2_22 qi_X7_pass qs_X7_pass qc_X7 qd_X7_pass qh_X7_pass (by decide) (fun _ => Nat.le_of_ble_eq_true rfl) (Nat.le_of_ble_eq_true rfl) (fun _ μ12 => ?_)
      refine s_iinc hC 1 dX2_daysTillDry_35 rfl (w := 1) (by decide) (by decide) (lv' := [(2, vI (v6 + (1 : Int32))), (0, vR v5)]) rfl ?_
      refine s_goto hC dX2_daysTillDry_38 (tgt := 10) (by decide) ?_
      refine s_lv (lv' := [(0, vR v5), (2, vI (v6 + (1 : Int32)))]) [1, 0] rfl ?_
      exact ih _ _ _
    refine s_iload_n hC 1 dX2_daysTillDry_26 rfl ?_
    exact s_iret hC hr hlk dX2_daysTillDry_27
def f_X2_daysTillDry (X : x_X) (v0 : Nat) (v1 : Nat) (μ : x_M) : Option (Int32 × x_M) :=
  (ck (x_kd X v0 = 2 + 1) (lt (μ.2.1 v0 0) (fun (v3 : Nat) => (ck (x_kd X v3 = 7 + 1) (bd (f_X7_copyFrom X v3 v1 μ) (fun (_ : Unit) (μ4 : x_M) => (f_X2_daysTillDry_L10 X 4096 v0 (0 : Int32) μ4)))))))
set_option maxRecDepth 100000 in
theorem m_X2_daysTillDry (hI : x_I X) (v0 : Nat) (v1 : Nat) (μ : x_M) : x_Met X x_Z0 l yX2_daysTillDry cX2_daysTillDry 3 (some .int) 6 [vR v0, vR v1] μ rkI (f_X2_daysTillDry X v0 v1 μ) := by
  refine x_enter hI (by decide +kernel) (Nat.le_of_ble_eq_true rfl) (fun p e s m args below meth c hC hr hlk => ?_)
  unfold f_X2_daysTillDry
  refine s_lv (lv' := [(0, vR v0), (1, vR v1)]) [0, 1] rfl ?_
  refine s_aload_n hC 0 dX2_daysTillDry_0 rfl ?_
  refine s_getR hC xc2 (by decide) rfl qf_X2_12 dX2_daysTillDry_1 ?_
  refine s_ltR (fun v3 => ?_)
  refine s_aload_n hC 1 dX2_daysTillDry_4 rfl ?_
  refine s_callV hC (x := v3) (avs := [vR v1]) (st := []) (nest := false) xc7 (m_X7_copyFrom hI v3 v1 μ) dX2_daysTillDry_5 qm_X2_18 qi_X7_copyFrom qs_X7_copyFrom qc_X7 qd_X7_copyFrom qh_X7_copyFrom (by decide) (fun _ => Nat.le_of_ble_eq_true rfl) (Nat.le_of_ble_eq_true rfl) (fun _ μ4 => ?_)
  refine s_iconst hC dX2_daysTillDry_8 (v := 0) (by decide) ?_
  refine s_istore_n hC dX2_daysTillDry_9 (by decide) (lv' := [(2, vI (0 : Int32)), (0, vR v0), (1, vR v1)]) rfl ?_
  refine s_lv (lv' := [(0, vR v0), (2, vI (0 : Int32))]) [1, 0] rfl ?_
  refine j_X2_daysTillDry_L10 hI hC hr hlk 4096 _ _ _
theorem dX2_daysTillLowest_0 : decode cX2_daysTillLowest 0 = .ok (.aload_n 0, 1) := by decide +kernel
theorem dX2_daysTillLowest_1 : decode cX2_daysTillLowest 1 = .ok (.getfield 12, 3) := by decide +kernel
theorem dX2_daysTillLowest_4 : decode cX2_daysTillLowest 4 = .ok (.aload_n 1, 1) := by decide +kernel
theorem dX2_daysTillLowest_5 : decode cX2_daysTillLowest 5 = .ok (.invokevirtual 18, 3) := by decide +kernel
theorem dX2_daysTillLowest_8 : decode cX2_daysTillLowest 8 = .ok (.iconst 0, 1) := by decide +kernel
theorem dX2_daysTillLowest_9 : decode cX2_daysTillLowest 9 = .ok (.istore_n 3, 1) := by decide +kernel
theorem dX2_daysTillLowest_10 : decode cX2_daysTillLowest 10 = .ok (.aload_n 0, 1) := by decide +kernel
theorem dX2_daysTillLowest_11 : decode cX2_daysTillLowest 11 = .ok (.getfield 12, 3) := by decide +kernel
theorem dX2_daysTillLowest_14 : decode cX2_daysTillLowest 14 = .ok (.invokevirtual 56, 3) := by decide +kernel
theorem dX2_daysTillLowest_17 : decode cX2_daysTillLowest 17 = .ok (.istore 4, 2) := by decide +kernel
theorem dX2_daysTillLowest_19 : decode cX2_daysTillLowest 19 = .ok (.iconst 1, 1) := by decide +kernel
theorem dX2_daysTillLowest_20 : decode cX2_daysTillLowest 20 = .ok (.istore 5, 2) := by decide +kernel
theorem dX2_daysTillLowest_22 : decode cX2_daysTillLowest 22 = .ok (.iload 5, 2) := by decide +kernel
theorem dX2_daysTillLowest_24 : decode cX2_daysTillLowest 24 = .ok (.iload_n 2, 1) := by decide +kernel
theorem dX2_daysTillLowest_25 : decode cX2_daysTillLowest 25 = .ok (.if_icmp .gt 40, 3) := by decide +kernel
theorem dX2_daysTillLowest_28 : decode cX2_daysTillLowest 28 = .ok (.aload_n 0, 1) := by decide +kernel
theorem dX2_daysTillLowest_29 : decode cX2_daysTillLowest 29 = .ok (.getfield 12, 3) := by decide +kernel
theorem dX2_daysTillLowest_32 : decode cX2_daysTillLowest 32 = .ok (.invokevirtual 22, 3) := by decide +kernel
theorem dX2_daysTillLowest_35 : decode cX2_daysTillLowest 35 = .ok (.aload_n 0, 1) := by decide +kernel
theorem dX2_daysTillLowest_36 : decode cX2_daysTillLowest 36 = .ok (.getfield 12, 3) := by decide +kernel
theorem dX2_daysTillLowest_39 : decode cX2_daysTillLowest 39 = .ok (.invokevirtual 56, 3) := by decide +kernel
theorem dX2_daysTillLowest_42 : decode cX2_daysTillLowest 42 = .ok (.iload 4, 2) := by decide +kernel
theorem dX2_daysTillLowest_44 : decode cX2_daysTillLowest 44 = .ok (.if_icmp .ge 15, 3) := by decide +kernel
theorem dX2_daysTillLowest_47 : decode cX2_daysTillLowest 47 = .ok (.aload_n 0, 1) := by decide +kernel
theorem dX2_daysTillLowest_48 : decode cX2_daysTillLowest 48 = .ok (.getfield 12, 3) := by decide +kernel
theorem dX2_daysTillLowest_51 : decode cX2_daysTillLowest 51 = .ok (.invokevirtual 56, 3) := by decide +kernel
theorem dX2_daysTillLowest_54 : decode cX2_daysTillLowest 54 = .ok (.istore 4, 2) := by decide +kernel
theorem dX2_daysTillLowest_56 : decode cX2_daysTillLowest 56 = .ok (.iload 5, 2) := by decide +kernel
theorem dX2_daysTillLowest_58 : decode cX2_daysTillLowest 58 = .ok (.istore_n 3, 1) := by decide +kernel
theorem dX2_daysTillLowest_59 : decode cX2_daysTillLowest 59 = .ok (.iinc 5 1, 3) := by decide +kernel
theorem dX2_daysTillLowest_62 : decode cX2_daysTillLowest 62 = .ok (.goto (-40), 3) := by decide +kernel
theorem dX2_daysTillLowest_65 : decode cX2_daysTillLowest 65 = .ok (.iload_n 3, 1) := by decide +kernel
theorem dX2_daysTillLowest_66 : decode cX2_daysTillLowest 66 = .ok (.ireturn, 1) := by decide +kernel
def f_X2_daysTillLowest_L22 (X : x_X) : Nat → Nat → Int32 → Int32 → Int32 → Int32 → x_M → Option (Int32 × x_M)
  | 0, _, _, _, _, _, _ => none
  | n + 1, v9, v10, v11, v12, v13, μ14 =>
    (if v10 < v13 then (some (v11, μ14)) else (ck (x_kd X v9 = 2 + 1) (lt (μ14.2.1 v9 0) (fun (v15 : Nat) => (ck (x_kd X v15 = 7 + 1) (bd (f_X7_pass X v15 μ14) (fun (_ : Unit) (μ16 : x_M) => (ck (x_kd X v9 = 2 + 1) (lt (μ16.2.1 v9 0) (fun (v17 : Nat) => (ck (x_kd X v17 = 7 + 1) (bd (f_X7_level X v17 μ16) (fun (v18 : Int32) (μ19 : x_M) => (if v12 ≤ v18 then (f_X2_daysTillLowest_L22 X n v9 v10 v11 v12 (v13 + (1 : Int32)) μ19) else (ck (x_kd X v9 = 2 + 1) (lt (μ19.2.1 v9 0) (fun (v20 : Nat) => (ck (x_kd X v20 = 7 + 1) (bd (f_X7_level X v20 μ19) (fun (v21 : Int32) (μ22 : x_M) => (f_X2_daysTillLowest_L22 X n v9 v10 v13 v21 (v13 + (1 : Int32)) μ22)))))))))))))))))))))
set_option maxRecDepth 100000 in
theorem j_X2_daysTillLowest_L22 (hI : x_I X) (hC : x_C X x_Z0 p (x_rm 6) s m c cX2_daysTillLowest RX2 6 0 0 6) (hr : meth.sig.returnType = (some .int)) (hlk : meth.locks = false) : ∀ (n : Nat) (v9 : Nat) (v10 : Int32) (v11 : Int32) (v12 : Int32) (v13 : Int32) (μ14 : x_M), SM X 6 6 rkI p l e s m args below meth c 22 [(0, vR v9), (2, vI v10), (3, vI v11), (4, vI v12), (5, vI v13)] [] μ14 (f_X2_daysTillLowest_L22 X n v9 v10 v11 v12 v13 μ14) := by
  intro n
  induction n with
  | zero => intro v9 v10 v11 v12 v13 μ14; exact s_none
  | succ n ih =>
    intro v9 v10 v11 v12 v13 μ14
    unfold f_X2_daysTillLowest_L22
    refine s_iload hC 4 dX2_daysTillLowest_22 rfl ?_
    refine s_iload_n hC 1 dX2_daysTillLowest_24 rfl ?_
    refine s_icmp_gt hC dX2_daysTillLowest_25 (tgt := 65) (by decide) ?_ ?_
    · refine s_iload_n hC 2 dX2_daysTillLowest_65 rfl ?_
      exact s_iret hC hr hlk dX2_daysTillLowest_66
    refine s_aload_n hC 0 dX2_daysTillLowest_28 rfl ?_
    refine s_getR hC xc2 (by decide) rfl qf_X2_12 dX2_daysTillLowest_29 ?_
    refine s_ltR (fun v15 => ?_)
    refine s_callV hC (x := v15) (avs := []) (st := []) (nest := false) xc7 (m_X7_pass hI v15 μ14) dX2_daysTillLowest_32 qm_X2_22 qi_X7_pass qs_X7_pass qc_X7 qd_X7_pass qh_X7_pass (by decide) (fun _ => Nat.le_of_ble_eq_true rfl) (Nat.le_of_ble_eq_true rfl) (fun _ μ16 => ?_)
    refine s_aload_n hC 0 dX2_daysTillLowest_35 rfl ?_
    refine s_getR hC xc2 (by decide) rfl qf_X2_12 dX2_daysTillLowest_36 ?_
    refine s_ltR (fun v17 => ?_)
    refine s_callV hC (x := v17) (avs := []) (st := []) (nest := false) xc7 (m_X7_level hI v17 μ16) dX2_daysTillLowest_39 qm_X2_56 qi_X7_level qs_X7_level qc_X7 qd_X7_level qh_X7_level (by decide) (fun _ => Nat.le_of_ble_eq_true rfl) (Nat.le_of_ble_eq_true rfl) (fun v18 μ19 => ?_)
    refine s_iload hC 3 dX2_daysTillLowest_42 rfl ?_
    refine s_icmp_ge hC dX2_daysTillLowest_44 (tgt := 59) (by decide) ?_ ?_
    · refine s_iinc hC 4 dX2_daysTillLowest_59 rfl (w := 1) (by decide) (by decide) (lv' := [(5, vI (v13 + (1 : Int32))), (0, vR v9), (2, vI v10), (3, vI v11), (4, vI v12)]) rfl ?_
      refine s_goto hC dX2_daysTillLowest_62 (tgt := 22) (by decide) ?_
      refine s_lv (lv' := [(0, vR v9), (2, vI v10), (3, vI v11), (4, vI v12), (5, vI (v13 + (1 : Int32)))]) [1, 2, 3, 4, 0] rfl ?_
      exact ih _ _ _ _ _ _
    refine s_aload_n hC 0 dX2_daysTillLowest_47 rfl ?_
    refine s_getR hC xc2 (by decide) rfl qf_X2_12 dX2_daysTillLowest_48 ?_
    refine s_ltR (fun v20 => ?_)
    refine s_callV hC (x := v20) (avs := []) (st := []) (nest := false) xc7 (m_X7_level hI v20 μ19) dX2_daysTillLowest_51 qm_X2_56 qi_X7_level qs_X7_level qc_X7 qd_X7_level qh_X7_level (by decide) (fun _ => Nat.le_of_ble_eq_true rfl) (Nat.le_of_ble_eq_true rfl) (fun v21 μ22 => ?_)
    refine s_istore hC dX2_daysTillLowest_54 (by decide) (lv' := [(4, vI v21), (0, vR v9), (2, vI v10), (3, vI v11), (5, vI v13)]) rfl ?_
    refine s_iload hC 4 dX2_daysTillLowest_56 rfl ?_
    refine s_istore_n hC dX2_daysTillLowest_58 (by decide) (lv' := [(3, vI v13), (4, vI v21), (0, vR v9), (2, vI v10), (5, vI v13)]) rfl ?_
    refine s_iinc hC 4 dX2_daysTillLowest_59 rfl (w := 1) (by decide) (by decide) (lv' := [(5, vI (v13 + (1 : Int32))), (3, vI v13), (4, vI v21), (0, vR v9), (2, vI v10)]) rfl ?_
    refine s_goto hC dX2_daysTillLowest_62 (tgt := 22) (by decide) ?_
    refine s_lv (lv' := [(0, vR v9), (2, vI v10), (3, vI v13), (4, vI v21), (5, vI (v13 + (1 : Int32)))]) [3, 4, 1, 2, 0] rfl ?_
    exact ih _ _ _ _ _ _
def f_X2_daysTillLowest (X : x_X) (v0 : Nat) (v1 : Nat) (v2 : Int32) (μ : x_M) : Option (Int32 × x_M) :=
  (ck (x_kd X v0 = 2 + 1) (lt (μ.2.1 v0 0) (fun (v4 : Nat) => (ck (x_kd X v4 = 7 + 1) (bd (f_X7_copyFrom X v4 v1 μ) (fun (_ : Unit) (μ5 : x_M) => (ck (x_kd X v0 = 2 + 1) (lt (μ5.2.1 v0 0) (fun (v6 : Nat) => (ck (x_kd X v6 = 7 + 1) (bd (f_X7_level X v6 μ5) (fun (v7 : Int32) (μ8 : x_M) => (f_X2_daysTillLowest_L22 X 4096 v0 v2 (0 : Int32) v7 (1 : Int32) μ8)))))))))))))
set_option maxRecDepth 100000 in
theorem m_X2_daysTillLowest (hI : x_I X) (v0 : Nat) (v1 : Nat) (v2 : Int32) (μ : x_M) : x_Met X x_Z0 l yX2_daysTillLowest cX2_daysTillLowest 6 (some .int) 6 [vR v0, vR v1, vI v2] μ rkI (f_X2_daysTillLowest X v0 v1 v2 μ) := by
  refine x_enter hI (by decide +kernel) (Nat.le_of_ble_eq_true rfl) (fun p e s m args below meth c hC hr hlk => ?_)
  unfold f_X2_daysTillLowest
  refine s_lv (lv' := [(0, vR v0), (1, vR v1), (2, vI v2)]) [0, 1, 2] rfl ?_
  refine s_aload_n hC 0 dX2_daysTillLowest_0 rfl ?_
  refine s_getR hC xc2 (by decide) rfl qf_X2_12 dX2_daysTillLowest_1 ?_
  refine s_ltR (fun v4 => ?_)
  refine s_aload_n hC 1 dX2_daysTillLowest_4 rfl ?_
  refine s_callV hC (x := v4) (avs := [vR v1]) (st := []) (nest := false) xc7 (m_X7_copyFrom hI v4 v1 μ) dX2_daysTillLowest_5 qm_X2_18 qi_X7_copyFrom qs_X7_copyFrom qc_X7 qd_X7_copyFrom qh_X7_copyFrom (by decide) (fun _ => Nat.le_of_ble_eq_true rfl) (Nat.le_of_ble_eq_true rfl) (fun _ μ5 => ?_)
  refine s_iconst hC dX2_daysTillLowest_8 (v := 0) (by decide) ?_
  refine s_istore_n hC dX2_daysTillLowest_9 (by decide) (lv' := [(3, vI (0 : Int32)), (0, vR v0), (1, vR v1), (2, vI v2)]) rfl ?_
  refine s_aload_n hC 1 dX2_daysTillLowest_10 rfl ?_
  refine s_getR hC xc2 (by decide) rfl qf_X2_12 dX2_daysTillLowest_11 ?_
  refine s_ltR (fun v6 => ?_)
  refine s_callV hC (x := v6) (avs := []) (st := []) (nest := false) xc7 (m_X7_level hI v6 μ5) dX2_daysTillLowest_14 qm_X2_56 qi_X7_level qs_X7_level qc_X7 qd_X7_level qh_X7_level (by decide) (fun _ => Nat.le_of_ble_eq_true rfl) (Nat.le_of_ble_eq_true rfl) (fun v7 μ8 => ?_)
  refine s_istore hC dX2_daysTillLowest_17 (by decide) (lv' := [(4, vI v7), (3, vI (0 : Int32)), (0, vR v0), (1, vR v1), (2, vI v2)]) rfl ?_
  refine s_iconst hC dX2_daysTillLowest_19 (v := 1) (by decide) ?_
  refine s_istore hC dX2_daysTillLowest_20 (by decide) (lv' := [(5, vI (1 : Int32)), (4, vI v7), (3, vI (0 : Int32)), (0, vR v0), (1, vR v1), (2, vI v2)]) rfl ?_
  refine s_lv (lv' := [(0, vR v0), (2, vI v2), (3, vI (0 : Int32)), (4, vI v7), (5, vI (1 : Int32))]) [3, 5, 2, 1, 0] rfl ?_
  refine j_X2_daysTillLowest_L22 hI hC hr hlk 4096 _ _ _ _ _ _
theorem dX2_firstBelow_0 : decode cX2_firstBelow 0 = .ok (.aload_n 0, 1) := by decide +kernel
theorem dX2_firstBelow_1 : decode cX2_firstBelow 1 = .ok (.getfield 12, 3) := by decide +kernel
theorem dX2_firstBelow_4 : decode cX2_firstBelow 4 = .ok (.aload_n 1, 1) := by decide +kernel
theorem dX2_firstBelow_5 : decode cX2_firstBelow 5 = .ok (.invokevirtual 18, 3) := by decide +kernel
theorem dX2_firstBelow_8 : decode cX2_firstBelow 8 = .ok (.iconst 0, 1) := by decide +kernel
theorem dX2_firstBelow_9 : decode cX2_firstBelow 9 = .ok (.istore_n 3, 1) := by decide +kernel
theorem dX2_firstBelow_10 : decode cX2_firstBelow 10 = .ok (.iload_n 3, 1) := by decide +kernel
theorem dX2_firstBelow_11 : decode cX2_firstBelow 11 = .ok (.bipush 60, 2) := by decide +kernel
theorem dX2_firstBelow_13 : decode cX2_firstBelow 13 = .ok (.if_icmp .gt 36, 3) := by decide +kernel
theorem dX2_firstBelow_16 : decode cX2_firstBelow 16 = .ok (.aload_n 0, 1) := by decide +kernel
theorem dX2_firstBelow_17 : decode cX2_firstBelow 17 = .ok (.getfield 12, 3) := by decide +kernel
theorem dX2_firstBelow_20 : decode cX2_firstBelow 20 = .ok (.iload_n 2, 1) := by decide +kernel
theorem dX2_firstBelow_21 : decode cX2_firstBelow 21 = .ok (.invokevirtual 59, 3) := by decide +kernel
theorem dX2_firstBelow_24 : decode cX2_firstBelow 24 = .ok (.istore 4, 2) := by decide +kernel
theorem dX2_firstBelow_26 : decode cX2_firstBelow 26 = .ok (.iload 4, 2) := by decide +kernel
theorem dX2_firstBelow_28 : decode cX2_firstBelow 28 = .ok (.bipush (-5), 2) := by decide +kernel
theorem dX2_firstBelow_30 : decode cX2_firstBelow 30 = .ok (.if_icmp .eq 6, 3) := by decide +kernel
theorem dX2_firstBelow_33 : decode cX2_firstBelow 33 = .ok (.iload 4, 2) := by decide +kernel
theorem dX2_firstBelow_35 : decode cX2_firstBelow 35 = .ok (.ireturn, 1) := by decide +kernel
theorem dX2_firstBelow_36 : decode cX2_firstBelow 36 = .ok (.aload_n 0, 1) := by decide +kernel
theorem dX2_firstBelow_37 : decode cX2_firstBelow 37 = .ok (.getfield 12, 3) := by decide +kernel
theorem dX2_firstBelow_40 : decode cX2_firstBelow 40 = .ok (.invokevirtual 22, 3) := by decide +kernel
theorem dX2_firstBelow_43 : decode cX2_firstBelow 43 = .ok (.iinc 3 1, 3) := by decide +kernel
theorem dX2_firstBelow_46 : decode cX2_firstBelow 46 = .ok (.goto (-36), 3) := by decide +kernel
theorem dX2_firstBelow_49 : decode cX2_firstBelow 49 = .ok (.bipush (-5), 2) := by decide +kernel
theorem dX2_firstBelow_51 : decode cX2_firstBelow 51 = .ok (.ireturn, 1) := by decide +kernel
def f_X2_firstBelow_L10 (X : x_X) : Nat → Nat → Int32 → Int32 → x_M → Option (Int32 × x_M)
  | 0, _, _, _, _ => none
  | n + 1, v6, v7, v8, μ9 =>
    (if (60 : Int32) < v8 then (some ((-5 : Int32), μ9)) else (ck (x_kd X v6 = 2 + 1) (lt (μ9.2.1 v6 0) (fun (v10 : Nat) => (ck (x_kd X v10 = 7 + 1) (bd (f_X7_firstBelow X v10 v7 μ9) (fun (v11 : Int32) (μ12 : x_M) => (if v11 = (-5 : Int32) then (ck (x_kd X v6 = 2 + 1) (lt (μ12.2.1 v6 0) (fun (v13 : Nat) => (ck (x_kd X v13 = 7 + 1) (bd (f_X7_pass X v13 μ12) (fun (_ : Unit) (μ14 : x_M) => (f_X2_firstBelow_L10 X n v6 v7 (v8 + (1 : Int32)) μ14))))))) else (some (v11, μ12))))))))))
set_option maxRecDepth 100000 in
theorem j_X2_firstBelow_L10 (hI : x_I X) (hC : x_C X x_Z0 p (x_rm 6) s m c cX2_firstBelow RX2 5 0 0 6) (hr : meth.sig.returnType = (some .int)) (hlk : meth.locks = false) : ∀ (n : Nat) (v6 : Nat) (v7 : Int32) (v8 : Int32) (μ9 : x_M), SM X 5 6 rkI p l e s m args below meth c 10 [(0, vR v6), (2, vI v7), (3, vI v8)] [] μ9 (f_X2_firstBelow_L10 X n v6 v7 v8 μ9) := by
  intro n
  induction n with
  | zero => intro v6 v7 v8 μ9; exact s_none
  | succ n ih =>
    intro v6 v7 v8 μ9
    unfold f_X2_firstBelow_L10
    refine s_iload_n hC 2 dX2_firstBelow_10 rfl ?_
    refine s_bipush hC dX2_firstBelow_11 (v := 60) (by decide) ?_
    refine s_icmp_gt hC dX2_firstBelow_13 (tgt := 49) (by decide) ?_ ?_
    · refine s_bipush hC dX2_firstBelow_49 (v := -5) (by decide) ?_
      exact s_iret hC hr hlk dX2_firstBelow_51
    refine s_aload_n hC 0 dX2_firstBelow_16 rfl ?_
    refine s_getR hC xc2 (by decide) rfl qf_X2_12 dX2_firstBelow_17 ?_
    refine s_ltR (fun v10 => ?_)
    refine s_iload_n hC 1 dX2_firstBelow_20 rfl ?_
    refine s_callV hC (x := v10) (avs := [vI v7]) (st := []) (nest := false) xc7 (m_X7_firstBelow hI v10 v7 μ9) dX2_firstBelow_21 qm_X2_59 qi_X7_firstBelow qs_X7_firstBelow qc_X7 qd_X7_firstBelow qh_X7_firstBelow (by decide) (fun _ => Nat.le_of_ble_eq_true rfl) (Nat.le_of_ble_eq_true rfl) (fun v11 μ12 => ?_)
    refine s_istore hC dX2_firstBelow_24 (by decide) (lv' := [(4, vI v11), (0, vR v6), (2, vI v7), (3, vI v8)]) rfl ?_
    refine s_iload hC 0 dX2_firstBelow_26 rfl ?_
    refine s_bipush hC dX2_firstBelow_28 (v := -5) (by decide) ?_
    refine s_icmp_eq hC dX2_firstBelow_30 (tgt := 36) (by decide) ?_ ?_
    · refine s_aload_n hC 1 dX2_firstBelow_36 rfl ?_
      refine s_getR hC xc2 (by decide) rfl qf_X2_12 dX2_firstBelow_37 ?_
      refine s_ltR (fun v13 => ?_)
      refine s_callV hC (x := v13) (avs := []) (st := []) (nest := false) xc7 (m_X7_pass hI v13 μ12) dX2_firstBelow_40 qm_X2_22 qi_X7_pass qs_X7_pass qc_X7 qd_X7_pass qh_X7_pass (by decide) (fun _ => Nat.le_of_ble_eq_true rfl) (Nat.le_of_ble_eq_true rfl) (fun _ μ14 => ?_)
      refine s_iinc hC 3 dX2_firstBelow_43 rfl (w := 1) (by decide) (by decide) (lv' := [(3, vI (v8 + (1 : Int32))), (4, vI v11), (0, vR v6), (2, vI v7)]) rfl ?_
      refine s_goto hC dX2_firstBelow_46 (tgt := 10) (by decide) ?_
      refine s_lv (lv' := [(0, vR v6), (2, vI v7), (3, vI (v8 + (1 : Int32)))]) [2, 3, 0] rfl ?_
      exact ih _ _ _ _
    refine s_iload hC 0 dX2_firstBelow_33 rfl ?_
    exact s_iret hC hr hlk dX2_firstBelow_35
def f_X2_firstBelow (X : x_X) (v0 : Nat) (v1 : Nat) (v2 : Int32) (μ : x_M) : Option (Int32 × x_M) :=
  (ck (x_kd X v0 = 2 + 1) (lt (μ.2.1 v0 0) (fun (v4 : Nat) => (ck (x_kd X v4 = 7 + 1) (bd (f_X7_copyFrom X v4 v1 μ) (fun (_ : Unit) (μ5 : x_M) => (f_X2_firstBelow_L10 X 4096 v0 v2 (0 : Int32) μ5)))))))
set_option maxRecDepth 100000 in
theorem m_X2_firstBelow (hI : x_I X) (v0 : Nat) (v1 : Nat) (v2 : Int32) (μ : x_M) : x_Met X x_Z0 l yX2_firstBelow cX2_firstBelow 5 (some .int) 6 [vR v0, vR v1, vI v2] μ rkI (f_X2_firstBelow X v0 v1 v2 μ) := by
  refine x_enter hI (by decide +kernel) (Nat.le_of_ble_eq_true rfl) (fun p e s m args below meth c hC hr hlk => ?_)
  unfold f_X2_firstBelow
  refine s_lv (lv' := [(0, vR v0), (1, vR v1), (2, vI v2)]) [0, 1, 2] rfl ?_
  refine s_aload_n hC 0 dX2_firstBelow_0 rfl ?_
  refine s_getR hC xc2 (by decide) rfl qf_X2_12 dX2_firstBelow_1 ?_
  refine s_ltR (fun v4 => ?_)
  refine s_aload_n hC 1 dX2_firstBelow_4 rfl ?_
  refine s_callV hC (x := v4) (avs := [vR v1]) (st := []) (nest := false) xc7 (m_X7_copyFrom hI v4 v1 μ) dX2_firstBelow_5 qm_X2_18 qi_X7_copyFrom qs_X7_copyFrom qc_X7 qd_X7_copyFrom qh_X7_copyFrom (by decide) (fun _ => Nat.le_of_ble_eq_true rfl) (Nat.le_of_ble_eq_true rfl) (fun _ μ5 => ?_)
  refine s_iconst hC dX2_firstBelow_8 (v := 0) (by decide) ?_
  refine s_istore_n hC dX2_firstBelow_9 (by decide) (lv' := [(3, vI (0 : Int32)), (0, vR v0), (1, vR v1), (2, vI v2)]) rfl ?_
  refine s_lv (lv' := [(0, vR v0), (2, vI v2), (3, vI (0 : Int32))]) [1, 3, 0] rfl ?_
  refine j_X2_firstBelow_L10 hI hC hr hlk 4096 _ _ _ _
theorem dX2_staysWet_0 : decode cX2_staysWet 0 = .ok (.iconst 0, 1) := by decide +kernel
theorem dX2_staysWet_1 : decode cX2_staysWet 1 = .ok (.istore_n 2, 1) := by decide +kernel
theorem dX2_staysWet_2 : decode cX2_staysWet 2 = .ok (.iload_n 2, 1) := by decide +kernel
theorem dX2_staysWet_3 : decode cX2_staysWet 3 = .ok (.iload_n 1, 1) := by decide +kernel
theorem dX2_staysWet_4 : decode cX2_staysWet 4 = .ok (.if_icmp .ge 28, 3) := by decide +kernel
theorem dX2_staysWet_7 : decode cX2_staysWet 7 = .ok (.aload_n 0, 1) := by decide +kernel
theorem dX2_staysWet_8 : decode cX2_staysWet 8 = .ok (.getfield 12, 3) := by decide +kernel
theorem dX2_staysWet_11 : decode cX2_staysWet 11 = .ok (.invokevirtual 22, 3) := by decide +kernel
theorem dX2_staysWet_14 : decode cX2_staysWet 14 = .ok (.aload_n 0, 1) := by decide +kernel
theorem dX2_staysWet_15 : decode cX2_staysWet 15 = .ok (.getfield 12, 3) := by decide +kernel
theorem dX2_staysWet_18 : decode cX2_staysWet 18 = .ok (.invokevirtual 52, 3) := by decide +kernel
theorem dX2_staysWet_21 : decode cX2_staysWet 21 = .ok (.ifCond .eq 5, 3) := by decide +kernel
theorem dX2_staysWet_24 : decode cX2_staysWet 24 = .ok (.iconst 0, 1) := by decide +kernel
theorem dX2_staysWet_25 : decode cX2_staysWet 25 = .ok (.ireturn, 1) := by decide +kernel
theorem dX2_staysWet_26 : decode cX2_staysWet 26 = .ok (.iinc 2 1, 3) := by decide +kernel
theorem dX2_staysWet_29 : decode cX2_staysWet 29 = .ok (.goto (-27), 3) := by decide +kernel
theorem dX2_staysWet_32 : decode cX2_staysWet 32 = .ok (.iconst 1, 1) := by decide +kernel
theorem dX2_staysWet_33 : decode cX2_staysWet 33 = .ok (.ireturn, 1) := by decide +kernel
def f_X2_staysWet_L2 (X : x_X) : Nat → Nat → Int32 → Int32 → x_M → Option (Int32 × x_M)
  | 0, _, _, _, _ => none
  | n + 1, v3, v4, v5, μ6 =>
    (if v4 ≤ v5 then (ck ((1 : Int32) = 0 ∨ (1 : Int32) = 1) (some ((1 : Int32), μ6))) else (ck (x_kd X v3 = 2 + 1) (lt (μ6.2.1 v3 0) (fun (v7 : Nat) => (ck (x_kd X v7 = 7 + 1) (bd (f_X7_pass X v7 μ6) (fun (_ : Unit) (μ8 : x_M) => (ck (x_kd X v3 = 2 + 1) (lt (μ8.2.1 v3 0) (fun (v9 : Nat) => (ck (x_kd X v9 = 7 + 1) (bd (f_X7_isDry X v9 μ8) (fun (v10 : Int32) (μ11 : x_M) => (if v10 = 0 then (f_X2_staysWet_L2 X n v3 v4 (v5 + (1 : Int32)) μ11) else (ck ((0 : Int32) = 0 ∨ (0 : Int32) = 1) (some ((0 : Int32), μ11)))))))))))))))))
set_option maxRecDepth 100000 in
theorem j_X2_staysWet_L2 (hI : x_I X) (hC : x_C X x_Z0 p (x_rm 6) s m c cX2_staysWet RX2 3 0 0 6) (hr : meth.sig.returnType = (some .boolean)) (hlk : meth.locks = false) : ∀ (n : Nat) (v3 : Nat) (v4 : Int32) (v5 : Int32) (μ6 : x_M), SM X 3 6 rkI p l e s m args below meth c 2 [(0, vR v3), (1, vI v4), (2, vI v5)] [] μ6 (f_X2_staysWet_L2 X n v3 v4 v5 μ6) := by
  intro n
  induction n with
  | zero => intro v3 v4 v5 μ6; exact s_none
  | succ n ih =>
    intro v3 v4 v5 μ6
    unfold f_X2_staysWet_L2
    refine s_iload_n hC 2 dX2_staysWet_2 rfl ?_
    refine s_iload_n hC 1 dX2_staysWet_3 rfl ?_
    refine s_icmp_ge hC dX2_staysWet_4 (tgt := 32) (by decide) ?_ ?_
    · refine s_iconst hC dX2_staysWet_32 (v := 1) (by decide) ?_
      exact s_zret hC hr hlk dX2_staysWet_33
    refine s_aload_n hC 0 dX2_staysWet_7 rfl ?_
    refine s_getR hC xc2 (by decide) rfl qf_X2_12 dX2_staysWet_8 ?_
    refine s_ltR (fun v7 => ?_)
    refine s_callV hC (x := v7) (avs := []) (st := []) (nest := false) xc7 (m_X7_pass hI v7 μ6) dX2_staysWet_11 qm_X2_22 qi_X7_pass qs_X7_pass qc_X7 qd_X7_pass qh_X7_pass (by decide) (fun _ => Nat.le_of_ble_eq_true rfl) (Nat.le_of_ble_eq_true rfl) (fun _ μ8 => ?_)
    refine s_aload_n hC 0 dX2_staysWet_14 rfl ?_
    refine s_getR hC xc2 (by decide) rfl qf_X2_12 dX2_staysWet_15 ?_
    refine s_ltR (fun v9 => ?_)
    refine s_callV hC (x := v9) (avs := []) (st := []) (nest := false) xc7 (m_X7_isDry hI v9 μ8) dX2_staysWet_18 qm_X2_52 qi_X7_isDry qs_X7_isDry qc_X7 qd_X7_isDry qh_X7_isDry (by decide) (fun _ => Nat.le_of_ble_eq_true rfl) (Nat.le_of_ble_eq_true rfl) (fun v10 μ11 => ?_)
    refine s_if_eq hC dX2_staysWet_21 (tgt := 26) (by decide) ?_ ?_
    · refine s_iinc hC 2 dX2_staysWet_26 rfl (w := 1) (by decide) (by decide) (lv' := [(2, vI (v5 + (1 : Int32))), (0, vR v3), (1, vI v4)]) rfl ?_
      refine s_goto hC dX2_staysWet_29 (tgt := 2) (by decide) ?_
      refine s_lv (lv' := [(0, vR v3), (1, vI v4), (2, vI (v5 + (1 : Int32)))]) [1, 2, 0] rfl ?_
      exact ih _ _ _ _
    refine s_iconst hC dX2_staysWet_24 (v := 0) (by decide) ?_
    exact s_zret hC hr hlk dX2_staysWet_25
def f_X2_staysWet (X : x_X) (v0 : Nat) (v1 : Int32) (μ : x_M) : Option (Int32 × x_M) :=
  (f_X2_staysWet_L2 X 4096 v0 v1 (0 : Int32) μ)
set_option maxRecDepth 100000 in
theorem m_X2_staysWet (hI : x_I X) (v0 : Nat) (v1 : Int32) (μ : x_M) : x_Met X x_Z0 l yX2_staysWet cX2_staysWet 3 (some .boolean) 6 [vR v0, vI v1] μ rkI (f_X2_staysWet X v0 v1 μ) := by
  refine x_enter hI (by decide +kernel) (Nat.le_of_ble_eq_true rfl) (fun p e s m args below meth c hC hr hlk => ?_)
  unfold f_X2_staysWet
  refine s_lv (lv' := [(0, vR v0), (1, vI v1)]) [0, 1] rfl ?_
  refine s_iconst hC dX2_staysWet_0 (v := 0) (by decide) ?_
  refine s_istore_n hC dX2_staysWet_1 (by decide) (lv' := [(2, vI (0 : Int32)), (0, vR v0), (1, vI v1)]) rfl ?_
  refine s_lv (lv' := [(0, vR v0), (1, vI v1), (2, vI (0 : Int32))]) [1, 2, 0] rfl ?_
  refine j_X2_staysWet_L2 hI hC hr hlk 4096 _ _ _ _
theorem dX2_daysTillEnough_0 : decode cX2_daysTillEnough 0 = .ok (.aload_n 0, 1) := by decide +kernel
theorem dX2_daysTillEnough_1 : decode cX2_daysTillEnough 1 = .ok (.getfield 12, 3) := by decide +kernel
theorem dX2_daysTillEnough_4 : decode cX2_daysTillEnough 4 = .ok (.aload_n 1, 1) := by decide +kernel
theorem dX2_daysTillEnough_5 : decode cX2_daysTillEnough 5 = .ok (.invokevirtual 18, 3) := by decide +kernel
theorem dX2_daysTillEnough_8 : decode cX2_daysTillEnough 8 = .ok (.iconst 0, 1) := by decide +kernel
theorem dX2_daysTillEnough_9 : decode cX2_daysTillEnough 9 = .ok (.istore 4, 2) := by decide +kernel
theorem dX2_daysTillEnough_11 : decode cX2_daysTillEnough 11 = .ok (.iload 4, 2) := by decide +kernel
theorem dX2_daysTillEnough_13 : decode cX2_daysTillEnough 13 = .ok (.bipush 60, 2) := by decide +kernel
theorem dX2_daysTillEnough_15 : decode cX2_daysTillEnough 15 = .ok (.if_icmp .gt 31, 3) := by decide +kernel
theorem dX2_daysTillEnough_18 : decode cX2_daysTillEnough 18 = .ok (.aload_n 0, 1) := by decide +kernel
theorem dX2_daysTillEnough_19 : decode cX2_daysTillEnough 19 = .ok (.getfield 12, 3) := by decide +kernel
theorem dX2_daysTillEnough_22 : decode cX2_daysTillEnough 22 = .ok (.iload_n 2, 1) := by decide +kernel
theorem dX2_daysTillEnough_23 : decode cX2_daysTillEnough 23 = .ok (.invokevirtual 66, 3) := by decide +kernel
theorem dX2_daysTillEnough_26 : decode cX2_daysTillEnough 26 = .ok (.iload_n 3, 1) := by decide +kernel
theorem dX2_daysTillEnough_27 : decode cX2_daysTillEnough 27 = .ok (.if_icmp .lt 6, 3) := by decide +kernel
theorem dX2_daysTillEnough_30 : decode cX2_daysTillEnough 30 = .ok (.iload 4, 2) := by decide +kernel
theorem dX2_daysTillEnough_32 : decode cX2_daysTillEnough 32 = .ok (.ireturn, 1) := by decide +kernel
theorem dX2_daysTillEnough_33 : decode cX2_daysTillEnough 33 = .ok (.aload_n 0, 1) := by decide +kernel
theorem dX2_daysTillEnough_34 : decode cX2_daysTillEnough 34 = .ok (.getfield 12, 3) := by decide +kernel
theorem dX2_daysTillEnough_37 : decode cX2_daysTillEnough 37 = .ok (.invokevirtual 22, 3) := by decide +kernel
theorem dX2_daysTillEnough_40 : decode cX2_daysTillEnough 40 = .ok (.iinc 4 1, 3) := by decide +kernel
theorem dX2_daysTillEnough_43 : decode cX2_daysTillEnough 43 = .ok (.goto (-32), 3) := by decide +kernel
theorem dX2_daysTillEnough_46 : decode cX2_daysTillEnough 46 = .ok (.bipush (-5), 2) := by decide +kernel
theorem dX2_daysTillEnough_48 : decode cX2_daysTillEnough 48 = .ok (.ireturn, 1) := by decide +kernel
def f_X2_daysTillEnough_L11 (X : x_X) : Nat → Nat → Int32 → Int32 → Int32 → x_M → Option (Int32 × x_M)
  | 0, _, _, _, _, _ => none
  | n + 1, v7, v8, v9, v10, μ11 =>
    (if (60 : Int32) < v10 then (some ((-5 : Int32), μ11)) else (ck (x_kd X v7 = 2 + 1) (lt (μ11.2.1 v7 0) (fun (v12 : Nat) => (ck (x_kd X v12 = 7 + 1) (bd (f_X7_bucketsOf X v12 v8 μ11) (fun (v13 : Int32) (μ14 : x_M) => (if v13 < v9 then (ck (x_kd X v7 = 2 + 1) (lt (μ14.2.1 v7 0) (fun (v15 : Nat) => (ck (x_kd X v15 = 7 + 1) (bd (f_X7_pass X v15 μ14) (fun (_ : Unit) (μ16 : x_M) => (f_X2_daysTillEnough_L11 X n v7 v8 v9 (v10 + (1 : Int32)) μ16))))))) else (some (v10, μ14))))))))))
set_option maxRecDepth 100000 in
theorem j_X2_daysTillEnough_L11 (hI : x_I X) (hC : x_C X x_Z0 p (x_rm 6) s m c cX2_daysTillEnough RX2 5 0 0 6) (hr : meth.sig.returnType = (some .int)) (hlk : meth.locks = false) : ∀ (n : Nat) (v7 : Nat) (v8 : Int32) (v9 : Int32) (v10 : Int32) (μ11 : x_M), SM X 5 6 rkI p l e s m args below meth c 11 [(0, vR v7), (2, vI v8), (3, vI v9), (4, vI v10)] [] μ11 (f_X2_daysTillEnough_L11 X n v7 v8 v9 v10 μ11) := by
  intro n
  induction n with
  | zero => intro v7 v8 v9 v10 μ11; exact s_none
  | succ n ih =>
    intro v7 v8 v9 v10 μ11
    unfold f_X2_daysTillEnough_L11
    refine s_iload hC 3 dX2_daysTillEnough_11 rfl ?_
    refine s_bipush hC dX2_daysTillEnough_13 (v := 60) (by decide) ?_
    refine s_icmp_gt hC dX2_daysTillEnough_15 (tgt := 46) (by decide) ?_ ?_
    · refine s_bipush hC dX2_daysTillEnough_46 (v := -5) (by decide) ?_
      exact s_iret hC hr hlk dX2_daysTillEnough_48
    refine s_aload_n hC 0 dX2_daysTillEnough_18 rfl ?_
    refine s_getR hC xc2 (by decide) rfl qf_X2_12 dX2_daysTillEnough_19 ?_
    refine s_ltR (fun v12 => ?_)
    refine s_iload_n hC 1 dX2_daysTillEnough_22 rfl ?_
    refine s_callV hC (x := v12) (avs := [vI v8]) (st := []) (nest := false) xc7 (m_X7_bucketsOf hI v12 v8 μ11) dX2_daysTillEnough_23 qm_X2_66 qi_X7_bucketsOf qs_X7_bucketsOf qc_X7 qd_X7_bucketsOf qh_X7_bucketsOf (by decide) (fun _ => Nat.le_of_ble_eq_true rfl) (Nat.le_of_ble_eq_true rfl) (fun v13 μ14 => ?_)
    refine s_iload_n hC 2 dX2_daysTillEnough_26 rfl ?_
    refine s_icmp_lt hC dX2_daysTillEnough_27 (tgt := 33) (by decide) ?_ ?_
    · refine s_aload_n hC 0 dX2_daysTillEnough_33 rfl ?_
      refine s_getR hC xc2 (by decide) rfl qf_X2_12 dX2_daysTillEnough_34 ?_
      refine s_ltR (fun v15 => ?_)
      refine s_callV hC (x := v15) (avs := []) (st := []) (nest := false) xc7 (m_X7_pass hI v15 μ14) dX2_daysTillEnough_37 qm_X2_22 qi_X7_pass qs_X7_pass qc_X7 qd_X7_pass qh_X7_pass (by decide) (fun _ => Nat.le_of_ble_eq_true rfl) (Nat.le_of_ble_eq_true rfl) (fun _ μ16 => ?_)
      refine s_iinc hC 3 dX2_daysTillEnough_40 rfl (w := 1) (by decide) (by decide) (lv' := [(4, vI (v10 + (1 : Int32))), (0, vR v7), (2, vI v8), (3, vI v9)]) rfl ?_
      refine s_goto hC dX2_daysTillEnough_43 (tgt := 11) (by decide) ?_
      refine s_lv (lv' := [(0, vR v7), (2, vI v8), (3, vI v9), (4, vI (v10 + (1 : Int32)))]) [1, 2, 3, 0] rfl ?_
      exact ih _ _ _ _ _
    refine s_iload hC 3 dX2_daysTillEnough_30 rfl ?_
    exact s_iret hC hr hlk dX2_daysTillEnough_32
def f_X2_daysTillEnough (X : x_X) (v0 : Nat) (v1 : Nat) (v2 : Int32) (v3 : Int32) (μ : x_M) : Option (Int32 × x_M) :=
  (ck (x_kd X v0 = 2 + 1) (lt (μ.2.1 v0 0) (fun (v5 : Nat) => (ck (x_kd X v5 = 7 + 1) (bd (f_X7_copyFrom X v5 v1 μ) (fun (_ : Unit) (μ6 : x_M) => (f_X2_daysTillEnough_L11 X 4096 v0 v2 v3 (0 : Int32) μ6)))))))
set_option maxRecDepth 100000 in
theorem m_X2_daysTillEnough (hI : x_I X) (v0 : Nat) (v1 : Nat) (v2 : Int32) (v3 : Int32) (μ : x_M) : x_Met X x_Z0 l yX2_daysTillEnough cX2_daysTillEnough 5 (some .int) 6 [vR v0, vR v1, vI v2, vI v3] μ rkI (f_X2_daysTillEnough X v0 v1 v2 v3 μ) := by
  refine x_enter hI (by decide +kernel) (Nat.le_of_ble_eq_true rfl) (fun p e s m args below meth c hC hr hlk => ?_)
  unfold f_X2_daysTillEnough
  refine s_lv (lv' := [(0, vR v0), (1, vR v1), (2, vI v2), (3, vI v3)]) [0, 1, 2, 3] rfl ?_
  refine s_aload_n hC 0 dX2_daysTillEnough_0 rfl ?_
  refine s_getR hC xc2 (by decide) rfl qf_X2_12 dX2_daysTillEnough_1 ?_
  refine s_ltR (fun v5 => ?_)
  refine s_aload_n hC 1 dX2_daysTillEnough_4 rfl ?_
  refine s_callV hC (x := v5) (avs := [vR v1]) (st := []) (nest := false) xc7 (m_X7_copyFrom hI v5 v1 μ) dX2_daysTillEnough_5 qm_X2_18 qi_X7_copyFrom qs_X7_copyFrom qc_X7 qd_X7_copyFrom qh_X7_copyFrom (by decide) (fun _ => Nat.le_of_ble_eq_true rfl) (Nat.le_of_ble_eq_true rfl) (fun _ μ6 => ?_)
  refine s_iconst hC dX2_daysTillEnough_8 (v := 0) (by decide) ?_
  refine s_istore hC dX2_daysTillEnough_9 (by decide) (lv' := [(4, vI (0 : Int32)), (0, vR v0), (1, vR v1), (2, vI v2), (3, vI v3)]) rfl ?_
  refine s_lv (lv' := [(0, vR v0), (2, vI v2), (3, vI v3), (4, vI (0 : Int32))]) [1, 3, 4, 0] rfl ?_
  refine j_X2_daysTillEnough_L11 hI hC hr hlk 4096 _ _ _ _ _
theorem dX2_sunShare_0 : decode cX2_sunShare 0 = .ok (.aload_n 0, 1) := by decide +kernel
theorem dX2_sunShare_1 : decode cX2_sunShare 1 = .ok (.getfield 12, 3) := by decide +kernel
theorem dX2_sunShare_4 : decode cX2_sunShare 4 = .ok (.aload_n 1, 1) := by decide +kernel
theorem dX2_sunShare_5 : decode cX2_sunShare 5 = .ok (.invokevirtual 18, 3) := by decide +kernel
theorem dX2_sunShare_8 : decode cX2_sunShare 8 = .ok (.aload_n 0, 1) := by decide +kernel
theorem dX2_sunShare_9 : decode cX2_sunShare 9 = .ok (.getfield 12, 3) := by decide +kernel
theorem dX2_sunShare_12 : decode cX2_sunShare 12 = .ok (.iload_n 2, 1) := by decide +kernel
theorem dX2_sunShare_13 : decode cX2_sunShare 13 = .ok (.invokevirtual 39, 3) := by decide +kernel
theorem dX2_sunShare_16 : decode cX2_sunShare 16 = .ok (.astore 5, 2) := by decide +kernel
theorem dX2_sunShare_18 : decode cX2_sunShare 18 = .ok (.lconst 0, 1) := by decide +kernel
theorem dX2_sunShare_19 : decode cX2_sunShare 19 = .ok (.lstore 6, 2) := by decide +kernel
theorem dX2_sunShare_21 : decode cX2_sunShare 21 = .ok (.lconst 0, 1) := by decide +kernel
theorem dX2_sunShare_22 : decode cX2_sunShare 22 = .ok (.lstore 8, 2) := by decide +kernel
theorem dX2_sunShare_24 : decode cX2_sunShare 24 = .ok (.iconst 0, 1) := by decide +kernel
theorem dX2_sunShare_25 : decode cX2_sunShare 25 = .ok (.istore 10, 2) := by decide +kernel
theorem dX2_sunShare_27 : decode cX2_sunShare 27 = .ok (.iload 10, 2) := by decide +kernel
theorem dX2_sunShare_29 : decode cX2_sunShare 29 = .ok (.iload_n 3, 1) := by decide +kernel
theorem dX2_sunShare_30 : decode cX2_sunShare 30 = .ok (.if_icmp .ge 49, 3) := by decide +kernel
theorem dX2_sunShare_33 : decode cX2_sunShare 33 = .ok (.aload_n 0, 1) := by decide +kernel
theorem dX2_sunShare_34 : decode cX2_sunShare 34 = .ok (.getfield 12, 3) := by decide +kernel
theorem dX2_sunShare_37 : decode cX2_sunShare 37 = .ok (.invokevirtual 22, 3) := by decide +kernel
theorem dX2_sunShare_40 : decode cX2_sunShare 40 = .ok (.lload 6, 2) := by decide +kernel
theorem dX2_sunShare_42 : decode cX2_sunShare 42 = .ok (.aload 5, 2) := by decide +kernel
theorem dX2_sunShare_44 : decode cX2_sunShare 44 = .ok (.ifnonnull 7, 3) := by decide +kernel
theorem dX2_sunShare_47 : decode cX2_sunShare 47 = .ok (.lconst 0, 1) := by decide +kernel
theorem dX2_sunShare_48 : decode cX2_sunShare 48 = .ok (.goto 9, 3) := by decide +kernel
theorem dX2_sunShare_51 : decode cX2_sunShare 51 = .ok (.aload 5, 2) := by decide +kernel
theorem dX2_sunShare_53 : decode cX2_sunShare 53 = .ok (.getfield 83, 3) := by decide +kernel
theorem dX2_sunShare_56 : decode cX2_sunShare 56 = .ok (.i2l, 1) := by decide +kernel
theorem dX2_sunShare_57 : decode cX2_sunShare 57 = .ok (.ladd, 1) := by decide +kernel
theorem dX2_sunShare_58 : decode cX2_sunShare 58 = .ok (.lstore 6, 2) := by decide +kernel
theorem dX2_sunShare_60 : decode cX2_sunShare 60 = .ok (.lload 8, 2) := by decide +kernel
theorem dX2_sunShare_62 : decode cX2_sunShare 62 = .ok (.aload_n 0, 1) := by decide +kernel
theorem dX2_sunShare_63 : decode cX2_sunShare 63 = .ok (.getfield 12, 3) := by decide +kernel
theorem dX2_sunShare_66 : decode cX2_sunShare 66 = .ok (.invokevirtual 86, 3) := by decide +kernel
theorem dX2_sunShare_69 : decode cX2_sunShare 69 = .ok (.i2l, 1) := by decide +kernel
theorem dX2_sunShare_70 : decode cX2_sunShare 70 = .ok (.ladd, 1) := by decide +kernel
theorem dX2_sunShare_71 : decode cX2_sunShare 71 = .ok (.lstore 8, 2) := by decide +kernel
theorem dX2_sunShare_73 : decode cX2_sunShare 73 = .ok (.iinc 10 1, 3) := by decide +kernel
theorem dX2_sunShare_76 : decode cX2_sunShare 76 = .ok (.goto (-49), 3) := by decide +kernel
theorem dX2_sunShare_79 : decode cX2_sunShare 79 = .ok (.lload 6, 2) := by decide +kernel
theorem dX2_sunShare_81 : decode cX2_sunShare 81 = .ok (.lload 8, 2) := by decide +kernel
theorem dX2_sunShare_83 : decode cX2_sunShare 83 = .ok (.iload 4, 2) := by decide +kernel
theorem dX2_sunShare_85 : decode cX2_sunShare 85 = .ok (.invokestatic 89, 3) := by decide +kernel
theorem dX2_sunShare_88 : decode cX2_sunShare 88 = .ok (.lreturn, 1) := by decide +kernel
def f_X2_sunShare_L27 (X : x_X) : Nat → Nat → Int32 → Int32 → Nat → Int64 → Int64 → Int32 → x_M → Option (Int64 × x_M)
  | 0, _, _, _, _, _, _, _, _ => none
  | n + 1, v11, v12, v13, v14, v15, v16, v17, μ18 =>
    (if v12 ≤ v17 then (bd (f_X9_lowestTerms X v15 v16 v13 μ18) (fun (v19 : Int64) (μ20 : x_M) => (some (v19, μ20)))) else (ck (x_kd X v11 = 2 + 1) (lt (μ18.2.1 v11 0) (fun (v21 : Nat) => (ck (x_kd X v21 = 7 + 1) (bd (f_X7_pass X v21 μ18) (fun (_ : Unit) (μ22 : x_M) => (if v14 = 0 then (lt (v15 + (0 : Int64)) (fun (v28 : Int64) => (ck (x_kd X v11 = 2 + 1) (lt (μ22.2.1 v11 0) (fun (v29 : Nat) => (ck (x_kd X v29 = 7 + 1) (bd (f_X7_sunOfDay X v29 μ22) (fun (v30 : Int32) (μ31 : x_M) => (lt (v16 + ((v30).toInt64)) (fun (v32 : Int64) => (f_X2_sunShare_L27 X n v11 v12 v13 v14 v28 v32 (v17 + (1 : Int32)) μ31))))))))))) else (ck (x_kd X v14 = 0 + 1) (lt (v15 + (((μ22.1 v14 9)).toInt64)) (fun (v23 : Int64) => (ck (x_kd X v11 = 2 + 1) (lt (μ22.2.1 v11 0) (fun (v24 : Nat) => (ck (x_kd X v24 = 7 + 1) (bd (f_X7_sunOfDay X v24 μ22) (fun (v25 : Int32) (μ26 : x_M) => (lt (v16 + ((v25).toInt64)) (fun (v27 : Int64) => (f_X2_sunShare_L27 X n v11 v12 v13 v14 v23 v27 (v17 + (1 : Int32)) μ26))))))))))))))))))))
set_option maxRecDepth 100000 in
theorem j_X2_sunShare_L27 (hI : x_I X) (hC : x_C X x_Z0 p (x_rm 6) s m c cX2_sunShare RX2 11 0 0 6) (hr : meth.sig.returnType = (some .long)) (hlk : meth.locks = false) : ∀ (n : Nat) (v11 : Nat) (v12 : Int32) (v13 : Int32) (v14 : Nat) (v15 : Int64) (v16 : Int64) (v17 : Int32) (μ18 : x_M), SM X 11 6 rkJ p l e s m args below meth c 27 [(0, vR v11), (3, vI v12), (4, vI v13), (5, vR v14), (6, vJ v15), (8, vJ v16), (10, vI v17)] [] μ18 (f_X2_sunShare_L27 X n v11 v12 v13 v14 v15 v16 v17 μ18) := by
  intro n
  induction n with
  | zero => intro v11 v12 v13 v14 v15 v16 v17 μ18; exact s_none
  | succ n ih =>
    intro v11 v12 v13 v14 v15 v16 v17 μ18
    unfold f_X2_sunShare_L27
    refine s_iload hC 6 dX2_sunShare_27 rfl ?_
    refine s_iload_n hC 1 dX2_sunShare_29 rfl ?_
    refine s_icmp_ge hC dX2_sunShare_30 (tgt := 79) (by decide) ?_ ?_
    · refine s_lload hC 4 dX2_sunShare_79 rfl ?_
      refine s_lload hC 5 dX2_sunShare_81 rfl ?_
      refine s_iload hC 2 dX2_sunShare_83 rfl ?_
      refine s_callS hC (avs := [vJ v15, vJ v16, vI v13]) (st := []) (nest := true) (m_X9_lowestTerms hI v15 v16 v13 μ18) dX2_sunShare_85 qm_X2_89 qt_X9_lowestTerms qc_X9 qd_X9_lowestTerms qh_X9_lowestTerms (by decide) (fun _ => Nat.le_of_ble_eq_true rfl) (Nat.le_of_ble_eq_true rfl) (fun v19 μ20 => ?_)
      exact s_lret hC hr hlk dX2_sunShare_88
    refine s_aload_n hC 0 dX2_sunShare_33 rfl ?_
    refine s_getR hC xc2 (by decide) rfl qf_X2_12 dX2_sunShare_34 ?_
    refine s_ltR (fun v21 => ?_)
    refine s_callV hC (x := v21) (avs := []) (st := []) (nest := false) xc7 (m_X7_pass hI v21 μ18) dX2_sunShare_37 qm_X2_22 qi_X7_pass qs_X7_pass qc_X7 qd_X7_pass qh_X7_pass (by decide) (fun _ => Nat.le_of_ble_eq_true rfl) (Nat.le_of_ble_eq_true rfl) (fun _ μ22 => ?_)
    refine s_lload hC 4 dX2_sunShare_40 rfl ?_
    refine s_aload hC 3 dX2_sunShare_42 rfl ?_
    refine s_ifnonnull hC dX2_sunShare_44 (tgt := 51) (by decide) ?_ ?_
    · refine s_aload hC 3 dX2_sunShare_51 rfl ?_
      refine s_getI hC xc0 (by decide) rfl qf_X2_83 dX2_sunShare_53 ?_
      refine s_i2l hC dX2_sunShare_56 ?_
      refine s_ladd hC dX2_sunShare_57 ?_
      refine s_ltJ (fun v23 => ?_)
      refine s_lstore hC dX2_sunShare_58 (by decide) (lv' := [(6, vJ v23), (0, vR v11), (3, vI v12), (4, vI v13), (5, vR v14), (8, vJ v16), (10, vI v17)]) rfl ?_
      refine s_lload hC 5 dX2_sunShare_60 rfl ?_
      refine s_aload_n hC 1 dX2_sunShare_62 rfl ?_
      refine s_getR hC xc2 (by decide) rfl qf_X2_12 dX2_sunShare_63 ?_
      refine s_ltR (fun v24 => ?_)
      refine s_callV hC (x := v24) (avs := []) (st := [vJ v16]) (nest := false) xc7 (m_X7_sunOfDay hI v24 μ22) dX2_sunShare_66 qm_X2_86 qi_X7_sunOfDay qs_X7_sunOfDay qc_X7 qd_X7_sunOfDay qh_X7_sunOfDay (by decide) (fun _ => Nat.le_of_ble_eq_true rfl) (Nat.le_of_ble_eq_true rfl) (fun v25 μ26 => ?_)
      refine s_i2l hC dX2_sunShare_69 ?_
      refine s_ladd hC dX2_sunShare_70 ?_
      refine s_ltJ (fun v27 => ?_)
      refine s_lstore hC dX2_sunShare_71 (by decide) (lv' := [(8, vJ v27), (6, vJ v23), (0, vR v11), (3, vI v12), (4, vI v13), (5, vR v14), (10, vI v17)]) rfl ?_
      refine s_iinc hC 6 dX2_sunShare_73 rfl (w := 1) (by decide) (by decide) (lv' := [(10, vI (v17 + (1 : Int32))), (8, vJ v27), (6, vJ v23), (0, vR v11), (3, vI v12), (4, vI v13), (5, vR v14)]) rfl ?_
      refine s_goto hC dX2_sunShare_76 (tgt := 27) (by decide) ?_
      refine s_lv (lv' := [(0, vR v11), (3, vI v12), (4, vI v13), (5, vR v14), (6, vJ v23), (8, vJ v27), (10, vI (v17 + (1 : Int32)))]) [3, 4, 5, 6, 2, 1, 0] rfl ?_
      exact ih _ _ _ _ _ _ _ _
    refine s_lconst hC dX2_sunShare_47 (v := 0) (by decide) ?_
    refine s_goto hC dX2_sunShare_48 (tgt := 57) (by decide) ?_
    refine s_ladd hC dX2_sunShare_57 ?_
    refine s_ltJ (fun v28 => ?_)
    refine s_lstore hC dX2_sunShare_58 (by decide) (lv' := [(6, vJ v28), (0, vR v11), (3, vI v12), (4, vI v13), (5, vR v14), (8, vJ v16), (10, vI v17)]) rfl ?_
    refine s_lload hC 5 dX2_sunShare_60 rfl ?_
    refine s_aload_n hC 1 dX2_sunShare_62 rfl ?_
    refine s_getR hC xc2 (by decide) rfl qf_X2_12 dX2_sunShare_63 ?_
    refine s_ltR (fun v29 => ?_)
    refine s_callV hC (x := v29) (avs := []) (st := [vJ v16]) (nest := false) xc7 (m_X7_sunOfDay hI v29 μ22) dX2_sunShare_66 qm_X2_86 qi_X7_sunOfDay qs_X7_sunOfDay qc_X7 qd_X7_sunOfDay qh_X7_sunOfDay (by decide) (fun _ => Nat.le_of_ble_eq_true rfl) (Nat.le_of_ble_eq_true rfl) (fun v30 μ31 => ?_)
    refine s_i2l hC dX2_sunShare_69 ?_
    refine s_ladd hC dX2_sunShare_70 ?_
    refine s_ltJ (fun v32 => ?_)
    refine s_lstore hC dX2_sunShare_71 (by decide) (lv' := [(8, vJ v32), (6, vJ v28), (0, vR v11), (3, vI v12), (4, vI v13), (5, vR v14), (10, vI v17)]) rfl ?_
    refine s_iinc hC 6 dX2_sunShare_73 rfl (w := 1) (by decide) (by decide) (lv' := [(10, vI (v17 + (1 : Int32))), (8, vJ v32), (6, vJ v28), (0, vR v11), (3, vI v12), (4, vI v13), (5, vR v14)]) rfl ?_
    refine s_goto hC dX2_sunShare_76 (tgt := 27) (by decide) ?_
    refine s_lv (lv' := [(0, vR v11), (3, vI v12), (4, vI v13), (5, vR v14), (6, vJ v28), (8, vJ v32), (10, vI (v17 + (1 : Int32)))]) [3, 4, 5, 6, 2, 1, 0] rfl ?_
    exact ih _ _ _ _ _ _ _ _
def f_X2_sunShare (X : x_X) (v0 : Nat) (v1 : Nat) (v2 : Int32) (v3 : Int32) (v4 : Int32) (μ : x_M) : Option (Int64 × x_M) :=
  (ck (x_kd X v0 = 2 + 1) (lt (μ.2.1 v0 0) (fun (v6 : Nat) => (ck (x_kd X v6 = 7 + 1) (bd (f_X7_copyFrom X v6 v1 μ) (fun (_ : Unit) (μ7 : x_M) => (ck (x_kd X v0 = 2 + 1) (lt (μ7.2.1 v0 0) (fun (v8 : Nat) => (ck (x_kd X v8 = 7 + 1) (bd (f_X7_find X v8 v2 μ7) (fun (v9 : Nat) (μ10 : x_M) => (f_X2_sunShare_L27 X 4096 v0 v3 v4 v9 (0 : Int64) (0 : Int64) (0 : Int32) μ10)))))))))))))
set_option maxRecDepth 100000 in
theorem m_X2_sunShare (hI : x_I X) (v0 : Nat) (v1 : Nat) (v2 : Int32) (v3 : Int32) (v4 : Int32) (μ : x_M) : x_Met X x_Z0 l yX2_sunShare cX2_sunShare 11 (some .long) 6 [vR v0, vR v1, vI v2, vI v3, vI v4] μ rkJ (f_X2_sunShare X v0 v1 v2 v3 v4 μ) := by
  refine x_enter hI (by decide +kernel) (Nat.le_of_ble_eq_true rfl) (fun p e s m args below meth c hC hr hlk => ?_)
  unfold f_X2_sunShare
  refine s_lv (lv' := [(0, vR v0), (1, vR v1), (2, vI v2), (3, vI v3), (4, vI v4)]) [0, 1, 2, 3, 4] rfl ?_
  refine s_aload_n hC 0 dX2_sunShare_0 rfl ?_
  refine s_getR hC xc2 (by decide) rfl qf_X2_12 dX2_sunShare_1 ?_
  refine s_ltR (fun v6 => ?_)
  refine s_aload_n hC 1 dX2_sunShare_4 rfl ?_
  refine s_callV hC (x := v6) (avs := [vR v1]) (st := []) (nest := false) xc7 (m_X7_copyFrom hI v6 v1 μ) dX2_sunShare_5 qm_X2_18 qi_X7_copyFrom qs_X7_copyFrom qc_X7 qd_X7_copyFrom qh_X7_copyFrom (by decide) (fun _ => Nat.le_of_ble_eq_true rfl) (Nat.le_of_ble_eq_true rfl) (fun _ μ7 => ?_)
  refine s_aload_n hC 0 dX2_sunShare_8 rfl ?_
  refine s_getR hC xc2 (by decide) rfl qf_X2_12 dX2_sunShare_9 ?_
  refine s_ltR (fun v8 => ?_)
  refine s_iload_n hC 2 dX2_sunShare_12 rfl ?_
  refine s_callV hC (x := v8) (avs := [vI v2]) (st := []) (nest := false) xc7 (m_X7_find hI v8 v2 μ7) dX2_sunShare_13 qm_X2_39 qi_X7_find qs_X7_find qc_X7 qd_X7_find qh_X7_find (by decide) (fun _ => Nat.le_of_ble_eq_true rfl) (Nat.le_of_ble_eq_true rfl) (fun v9 μ10 => ?_)
  refine s_astore hC dX2_sunShare_16 (by decide) (lv' := [(5, vR v9), (0, vR v0), (1, vR v1), (2, vI v2), (3, vI v3), (4, vI v4)]) rfl ?_
  refine s_lconst hC dX2_sunShare_18 (v := 0) (by decide) ?_
  refine s_lstore hC dX2_sunShare_19 (by decide) (lv' := [(6, vJ (0 : Int64)), (5, vR v9), (0, vR v0), (1, vR v1), (2, vI v2), (3, vI v3), (4, vI v4)]) rfl ?_
  refine s_lconst hC dX2_sunShare_21 (v := 0) (by decide) ?_
  refine s_lstore hC dX2_sunShare_22 (by decide) (lv' := [(8, vJ (0 : Int64)), (6, vJ (0 : Int64)), (5, vR v9), (0, vR v0), (1, vR v1), (2, vI v2), (3, vI v3), (4, vI v4)]) rfl ?_
  refine s_iconst hC dX2_sunShare_24 (v := 0) (by decide) ?_
  refine s_istore hC dX2_sunShare_25 (by decide) (lv' := [(10, vI (0 : Int32)), (8, vJ (0 : Int64)), (6, vJ (0 : Int64)), (5, vR v9), (0, vR v0), (1, vR v1), (2, vI v2), (3, vI v3), (4, vI v4)]) rfl ?_
  refine s_lv (lv' := [(0, vR v0), (3, vI v3), (4, vI v4), (5, vR v9), (6, vJ (0 : Int64)), (8, vJ (0 : Int64)), (10, vI (0 : Int32))]) [4, 7, 8, 3, 2, 1, 0] rfl ?_
  refine j_X2_sunShare_L27 hI hC hr hlk 4096 _ _ _ _ _ _ _ _
theorem dX2_goesAsSeen_0 : decode cX2_goesAsSeen 0 = .ok (.aload_n 0, 1) := by decide +kernel
theorem dX2_goesAsSeen_1 : decode cX2_goesAsSeen 1 = .ok (.invokevirtual 112, 3) := by decide +kernel
theorem dX2_goesAsSeen_4 : decode cX2_goesAsSeen 4 = .ok (.istore_n 1, 1) := by decide +kernel
theorem dX2_goesAsSeen_5 : decode cX2_goesAsSeen 5 = .ok (.iconst 0, 1) := by decide +kernel
theorem dX2_goesAsSeen_6 : decode cX2_goesAsSeen 6 = .ok (.istore_n 2, 1) := by decide +kernel
theorem dX2_goesAsSeen_7 : decode cX2_goesAsSeen 7 = .ok (.iload_n 2, 1) := by decide +kernel
theorem dX2_goesAsSeen_8 : decode cX2_goesAsSeen 8 = .ok (.iload_n 1, 1) := by decide +kernel
theorem dX2_goesAsSeen_9 : decode cX2_goesAsSeen 9 = .ok (.if_icmp .gt 26, 3) := by decide +kernel
theorem dX2_goesAsSeen_12 : decode cX2_goesAsSeen 12 = .ok (.aload_n 0, 1) := by decide +kernel
theorem dX2_goesAsSeen_13 : decode cX2_goesAsSeen 13 = .ok (.iload_n 2, 1) := by decide +kernel
theorem dX2_goesAsSeen_14 : decode cX2_goesAsSeen 14 = .ok (.invokevirtual 115, 3) := by decide +kernel
theorem dX2_goesAsSeen_17 : decode cX2_goesAsSeen 17 = .ok (.ifCond .ne 5, 3) := by decide +kernel
theorem dX2_goesAsSeen_20 : decode cX2_goesAsSeen 20 = .ok (.iconst 0, 1) := by decide +kernel
theorem dX2_goesAsSeen_21 : decode cX2_goesAsSeen 21 = .ok (.ireturn, 1) := by decide +kernel
theorem dX2_goesAsSeen_22 : decode cX2_goesAsSeen 22 = .ok (.aload_n 0, 1) := by decide +kernel
theorem dX2_goesAsSeen_23 : decode cX2_goesAsSeen 23 = .ok (.getfield 12, 3) := by decide +kernel
theorem dX2_goesAsSeen_26 : decode cX2_goesAsSeen 26 = .ok (.invokevirtual 22, 3) := by decide +kernel
theorem dX2_goesAsSeen_29 : decode cX2_goesAsSeen 29 = .ok (.iinc 2 1, 3) := by decide +kernel
theorem dX2_goesAsSeen_32 : decode cX2_goesAsSeen 32 = .ok (.goto (-25), 3) := by decide +kernel
theorem dX2_goesAsSeen_35 : decode cX2_goesAsSeen 35 = .ok (.iconst 1, 1) := by decide +kernel
theorem dX2_goesAsSeen_36 : decode cX2_goesAsSeen 36 = .ok (.ireturn, 1) := by decide +kernel
def f_X2_goesAsSeen_L7 (X : x_X) : Nat → Nat → Int32 → Int32 → x_M → Option (Int32 × x_M)
  | 0, _, _, _, _ => none
  | n + 1, v4, v5, v6, μ7 =>
    (if v5 < v6 then (ck ((1 : Int32) = 0 ∨ (1 : Int32) = 1) (some ((1 : Int32), μ7))) else (ck (x_kd X v4 = 2 + 1) (bd (f_X2_isAsSeenOn X v4 v6 μ7) (fun (v8 : Int32) (μ9 : x_M) => (if v8 = 0 then (ck ((0 : Int32) = 0 ∨ (0 : Int32) = 1) (some ((0 : Int32), μ9))) else (ck (x_kd X v4 = 2 + 1) (lt (μ9.2.1 v4 0) (fun (v10 : Nat) => (ck (x_kd X v10 = 7 + 1) (bd (f_X7_pass X v10 μ9) (fun (_ : Unit) (μ11 : x_M) => (f_X2_goesAsSeen_L7 X n v4 v5 (v6 + (1 : Int32)) μ11))))))))))))
set_option maxRecDepth 100000 in
theorem j_X2_goesAsSeen_L7 (hI : x_I X) (hC : x_C X x_Z0 p (x_rm 6) s m c cX2_goesAsSeen RX2 3 0 0 6) (hr : meth.sig.returnType = (some .boolean)) (hlk : meth.locks = false) : ∀ (n : Nat) (v4 : Nat) (v5 : Int32) (v6 : Int32) (μ7 : x_M), SM X 3 6 rkI p l e s m args below meth c 7 [(0, vR v4), (1, vI v5), (2, vI v6)] [] μ7 (f_X2_goesAsSeen_L7 X n v4 v5 v6 μ7) := by
  intro n
  induction n with
  | zero => intro v4 v5 v6 μ7; exact s_none
  | succ n ih =>
    intro v4 v5 v6 μ7
    unfold f_X2_goesAsSeen_L7
    refine s_iload_n hC 2 dX2_goesAsSeen_7 rfl ?_
    refine s_iload_n hC 1 dX2_goesAsSeen_8 rfl ?_
    refine s_icmp_gt hC dX2_goesAsSeen_9 (tgt := 35) (by decide) ?_ ?_
    · refine s_iconst hC dX2_goesAsSeen_35 (v := 1) (by decide) ?_
      exact s_zret hC hr hlk dX2_goesAsSeen_36
    refine s_aload_n hC 0 dX2_goesAsSeen_12 rfl ?_
    refine s_iload_n hC 2 dX2_goesAsSeen_13 rfl ?_
    refine s_callV hC (x := v4) (avs := [vI v6]) (st := []) (nest := false) xc2 (m_X2_isAsSeenOn hI v4 v6 μ7) dX2_goesAsSeen_14 qm_X2_115 qi_X2_isAsSeenOn qs_X2_isAsSeenOn qc_X2 qd_X2_isAsSeenOn qh_X2_isAsSeenOn (by decide) (fun _ => Nat.le_of_ble_eq_true rfl) (Nat.le_of_ble_eq_true rfl) (fun v8 μ9 => ?_)
    refine s_if_ne hC dX2_goesAsSeen_17 (tgt := 22) (by decide) ?_ ?_
    · refine s_aload_n hC 0 dX2_goesAsSeen_22 rfl ?_
      refine s_getR hC xc2 (by decide) rfl qf_X2_12 dX2_goesAsSeen_23 ?_
      refine s_ltR (fun v10 => ?_)
      refine s_callV hC (x := v10) (avs := []) (st := []) (nest := false) xc7 (m_X7_pass hI v10 μ9) dX2_goesAsSeen_26 qm_X2_22 qi_X7_pass qs_X7_pass qc_X7 qd_X7_pass qh_X7_pass (by decide) (fun _ => Nat.le_of_ble_eq_true rfl) (Nat.le_of_ble_eq_true rfl) (fun _ μ11 => ?_)
      refine s_iinc hC 2 dX2_goesAsSeen_29 rfl (w := 1) (by decide) (by decide) (lv' := [(2, vI (v6 + (1 : Int32))), (0, vR v4), (1, vI v5)]) rfl ?_
      refine s_goto hC dX2_goesAsSeen_32 (tgt := 7) (by decide) ?_
      refine s_lv (lv' := [(0, vR v4), (1, vI v5), (2, vI (v6 + (1 : Int32)))]) [1, 2, 0] rfl ?_
      exact ih _ _ _ _
    refine s_iconst hC dX2_goesAsSeen_20 (v := 0) (by decide) ?_
    exact s_zret hC hr hlk dX2_goesAsSeen_21
def f_X2_goesAsSeen (X : x_X) (v0 : Nat) (μ : x_M) : Option (Int32 × x_M) :=
  (ck (x_kd X v0 = 2 + 1) (bd (f_X2_lastSeen X v0 μ) (fun (v2 : Int32) (μ3 : x_M) => (f_X2_goesAsSeen_L7 X 4096 v0 v2 (0 : Int32) μ3))))
set_option maxRecDepth 100000 in
theorem m_X2_goesAsSeen (hI : x_I X) (v0 : Nat) (μ : x_M) : x_Met X x_Z0 l yX2_goesAsSeen cX2_goesAsSeen 3 (some .boolean) 6 [vR v0] μ rkI (f_X2_goesAsSeen X v0 μ) := by
  refine x_enter hI (by decide +kernel) (Nat.le_of_ble_eq_true rfl) (fun p e s m args below meth c hC hr hlk => ?_)
  unfold f_X2_goesAsSeen
  refine s_lv (lv' := [(0, vR v0)]) [0] rfl ?_
  refine s_aload_n hC 0 dX2_goesAsSeen_0 rfl ?_
  refine s_callV hC (x := v0) (avs := []) (st := []) (nest := false) xc2 (m_X2_lastSeen hI v0 μ) dX2_goesAsSeen_1 qm_X2_112 qi_X2_lastSeen qs_X2_lastSeen qc_X2 qd_X2_lastSeen qh_X2_lastSeen (by decide) (fun _ => Nat.le_of_ble_eq_true rfl) (Nat.le_of_ble_eq_true rfl) (fun v2 μ3 => ?_)
  refine s_istore_n hC dX2_goesAsSeen_4 (by decide) (lv' := [(1, vI v2), (0, vR v0)]) rfl ?_
  refine s_iconst hC dX2_goesAsSeen_5 (v := 0) (by decide) ?_
  refine s_istore_n hC dX2_goesAsSeen_6 (by decide) (lv' := [(2, vI (0 : Int32)), (1, vI v2), (0, vR v0)]) rfl ?_
  refine s_lv (lv' := [(0, vR v0), (1, vI v2), (2, vI (0 : Int32))]) [2, 1, 0] rfl ?_
  refine j_X2_goesAsSeen_L7 hI hC hr hlk 4096 _ _ _ _
theorem dX2_meanLevel_0 : decode cX2_meanLevel 0 = .ok (.aload_n 0, 1) := by decide +kernel
theorem dX2_meanLevel_1 : decode cX2_meanLevel 1 = .ok (.getfield 12, 3) := by decide +kernel
theorem dX2_meanLevel_4 : decode cX2_meanLevel 4 = .ok (.aload_n 1, 1) := by decide +kernel
theorem dX2_meanLevel_5 : decode cX2_meanLevel 5 = .ok (.invokevirtual 18, 3) := by decide +kernel
theorem dX2_meanLevel_8 : decode cX2_meanLevel 8 = .ok (.lconst 0, 1) := by decide +kernel
theorem dX2_meanLevel_9 : decode cX2_meanLevel 9 = .ok (.lstore 4, 2) := by decide +kernel
theorem dX2_meanLevel_11 : decode cX2_meanLevel 11 = .ok (.iconst 0, 1) := by decide +kernel
theorem dX2_meanLevel_12 : decode cX2_meanLevel 12 = .ok (.istore 6, 2) := by decide +kernel
theorem dX2_meanLevel_14 : decode cX2_meanLevel 14 = .ok (.iload 6, 2) := by decide +kernel
theorem dX2_meanLevel_16 : decode cX2_meanLevel 16 = .ok (.iload_n 2, 1) := by decide +kernel
theorem dX2_meanLevel_17 : decode cX2_meanLevel 17 = .ok (.if_icmp .ge 29, 3) := by decide +kernel
theorem dX2_meanLevel_20 : decode cX2_meanLevel 20 = .ok (.aload_n 0, 1) := by decide +kernel
theorem dX2_meanLevel_21 : decode cX2_meanLevel 21 = .ok (.getfield 12, 3) := by decide +kernel
theorem dX2_meanLevel_24 : decode cX2_meanLevel 24 = .ok (.invokevirtual 22, 3) := by decide +kernel
theorem dX2_meanLevel_27 : decode cX2_meanLevel 27 = .ok (.lload 4, 2) := by decide +kernel
theorem dX2_meanLevel_29 : decode cX2_meanLevel 29 = .ok (.aload_n 0, 1) := by decide +kernel
theorem dX2_meanLevel_30 : decode cX2_meanLevel 30 = .ok (.getfield 12, 3) := by decide +kernel
theorem dX2_meanLevel_33 : decode cX2_meanLevel 33 = .ok (.invokevirtual 56, 3) := by decide +kernel
theorem dX2_meanLevel_36 : decode cX2_meanLevel 36 = .ok (.i2l, 1) := by decide +kernel
theorem dX2_meanLevel_37 : decode cX2_meanLevel 37 = .ok (.ladd, 1) := by decide +kernel
theorem dX2_meanLevel_38 : decode cX2_meanLevel 38 = .ok (.lstore 4, 2) := by decide +kernel
theorem dX2_meanLevel_40 : decode cX2_meanLevel 40 = .ok (.iinc 6 1, 3) := by decide +kernel
theorem dX2_meanLevel_43 : decode cX2_meanLevel 43 = .ok (.goto (-29), 3) := by decide +kernel
theorem dX2_meanLevel_46 : decode cX2_meanLevel 46 = .ok (.lload 4, 2) := by decide +kernel
theorem dX2_meanLevel_48 : decode cX2_meanLevel 48 = .ok (.iload_n 2, 1) := by decide +kernel
theorem dX2_meanLevel_49 : decode cX2_meanLevel 49 = .ok (.i2l, 1) := by decide +kernel
theorem dX2_meanLevel_50 : decode cX2_meanLevel 50 = .ok (.iload_n 3, 1) := by decide +kernel
theorem dX2_meanLevel_51 : decode cX2_meanLevel 51 = .ok (.invokestatic 89, 3) := by decide +kernel
theorem dX2_meanLevel_54 : decode cX2_meanLevel 54 = .ok (.lreturn, 1) := by decide +kernel
def f_X2_meanLevel_L14 (X : x_X) : Nat → Nat → Int32 → Int32 → Int64 → Int32 → x_M → Option (Int64 × x_M)
  | 0, _, _, _, _, _, _ => none
  | n + 1, v7, v8, v9, v10, v11, μ12 =>
    (if v8 ≤ v11 then (bd (f_X9_lowestTerms X v10 ((v8).toInt64) v9 μ12) (fun (v13 : Int64) (μ14 : x_M) => (some (v13, μ14)))) else (ck (x_kd X v7 = 2 + 1) (lt (μ12.2.1 v7 0) (fun (v15 : Nat) => (ck (x_kd X v15 = 7 + 1) (bd (f_X7_pass X v15 μ12) (fun (_ : Unit) (μ16 : x_M) => (ck (x_kd X v7 = 2 + 1) (lt (μ16.2.1 v7 0) (fun (v17 : Nat) => (ck (x_kd X v17 = 7 + 1) (bd (f_X7_level X v17 μ16) (fun (v18 : Int32) (μ19 : x_M) => (lt (v10 + ((v18).toInt64)) (fun (v20 : Int64) => (f_X2_meanLevel_L14 X n v7 v8 v9 v20 (v11 + (1 : Int32)) μ19))))))))))))))))
set_option maxRecDepth 100000 in
theorem j_X2_meanLevel_L14 (hI : x_I X) (hC : x_C X x_Z0 p (x_rm 6) s m c cX2_meanLevel RX2 7 0 0 6) (hr : meth.sig.returnType = (some .long)) (hlk : meth.locks = false) : ∀ (n : Nat) (v7 : Nat) (v8 : Int32) (v9 : Int32) (v10 : Int64) (v11 : Int32) (μ12 : x_M), SM X 7 6 rkJ p l e s m args below meth c 14 [(0, vR v7), (2, vI v8), (3, vI v9), (4, vJ v10), (6, vI v11)] [] μ12 (f_X2_meanLevel_L14 X n v7 v8 v9 v10 v11 μ12) := by
  intro n
  induction n with
  | zero => intro v7 v8 v9 v10 v11 μ12; exact s_none
  | succ n ih =>
    intro v7 v8 v9 v10 v11 μ12
    unfold f_X2_meanLevel_L14
    refine s_iload hC 4 dX2_meanLevel_14 rfl ?_
    refine s_iload_n hC 1 dX2_meanLevel_16 rfl ?_
    refine s_icmp_ge hC dX2_meanLevel_17 (tgt := 46) (by decide) ?_ ?_
    · refine s_lload hC 3 dX2_meanLevel_46 rfl ?_
      refine s_iload_n hC 1 dX2_meanLevel_48 rfl ?_
      refine s_i2l hC dX2_meanLevel_49 ?_
      refine s_iload_n hC 2 dX2_meanLevel_50 rfl ?_
      refine s_callS hC (avs := [vJ v10, vJ ((v8).toInt64), vI v9]) (st := []) (nest := true) (m_X9_lowestTerms hI v10 ((v8).toInt64) v9 μ12) dX2_meanLevel_51 qm_X2_89 qt_X9_lowestTerms qc_X9 qd_X9_lowestTerms qh_X9_lowestTerms (by decide) (fun _ => Nat.le_of_ble_eq_true rfl) (Nat.le_of_ble_eq_true rfl) (fun v13 μ14 => ?_)
      exact s_lret hC hr hlk dX2_meanLevel_54
    refine s_aload_n hC 0 dX2_meanLevel_20 rfl ?_
    refine s_getR hC xc2 (by decide) rfl qf_X2_12 dX2_meanLevel_21 ?_
    refine s_ltR (fun v15 => ?_)
    refine s_callV hC (x := v15) (avs := []) (st := []) (nest := false) xc7 (m_X7_pass hI v15 μ12) dX2_meanLevel_24 qm_X2_22 qi_X7_pass qs_X7_pass qc_X7 qd_X7_pass qh_X7_pass (by decide) (fun _ => Nat.le_of_ble_eq_true rfl) (Nat.le_of_ble_eq_true rfl) (fun _ μ16 => ?_)
    refine s_lload hC 3 dX2_meanLevel_27 rfl ?_
    refine s_aload_n hC 0 dX2_meanLevel_29 rfl ?_
    refine s_getR hC xc2 (by decide) rfl qf_X2_12 dX2_meanLevel_30 ?_
    refine s_ltR (fun v17 => ?_)
    refine s_callV hC (x := v17) (avs := []) (st := [vJ v10]) (nest := false) xc7 (m_X7_level hI v17 μ16) dX2_meanLevel_33 qm_X2_56 qi_X7_level qs_X7_level qc_X7 qd_X7_level qh_X7_level (by decide) (fun _ => Nat.le_of_ble_eq_true rfl) (Nat.le_of_ble_eq_true rfl) (fun v18 μ19 => ?_)
    refine s_i2l hC dX2_meanLevel_36 ?_
    refine s_ladd hC dX2_meanLevel_37 ?_
    refine s_ltJ (fun v20 => ?_)
    refine s_lstore hC dX2_meanLevel_38 (by decide) (lv' := [(4, vJ v20), (0, vR v7), (2, vI v8), (3, vI v9), (6, vI v11)]) rfl ?_
    refine s_iinc hC 4 dX2_meanLevel_40 rfl (w := 1) (by decide) (by decide) (lv' := [(6, vI (v11 + (1 : Int32))), (4, vJ v20), (0, vR v7), (2, vI v8), (3, vI v9)]) rfl ?_
    refine s_goto hC dX2_meanLevel_43 (tgt := 14) (by decide) ?_
    refine s_lv (lv' := [(0, vR v7), (2, vI v8), (3, vI v9), (4, vJ v20), (6, vI (v11 + (1 : Int32)))]) [2, 3, 4, 1, 0] rfl ?_
    exact ih _ _ _ _ _ _
def f_X2_meanLevel (X : x_X) (v0 : Nat) (v1 : Nat) (v2 : Int32) (v3 : Int32) (μ : x_M) : Option (Int64 × x_M) :=
  (ck (x_kd X v0 = 2 + 1) (lt (μ.2.1 v0 0) (fun (v5 : Nat) => (ck (x_kd X v5 = 7 + 1) (bd (f_X7_copyFrom X v5 v1 μ) (fun (_ : Unit) (μ6 : x_M) => (f_X2_meanLevel_L14 X 4096 v0 v2 v3 (0 : Int64) (0 : Int32) μ6)))))))
set_option maxRecDepth 100000 in
theorem m_X2_meanLevel (hI : x_I X) (v0 : Nat) (v1 : Nat) (v2 : Int32) (v3 : Int32) (μ : x_M) : x_Met X x_Z0 l yX2_meanLevel cX2_meanLevel 7 (some .long) 6 [vR v0, vR v1, vI v2, vI v3] μ rkJ (f_X2_meanLevel X v0 v1 v2 v3 μ) := by
  refine x_enter hI (by decide +kernel) (Nat.le_of_ble_eq_true rfl) (fun p e s m args below meth c hC hr hlk => ?_)
  unfold f_X2_meanLevel
  refine s_lv (lv' := [(0, vR v0), (1, vR v1), (2, vI v2), (3, vI v3)]) [0, 1, 2, 3] rfl ?_
  refine s_aload_n hC 0 dX2_meanLevel_0 rfl ?_
  refine s_getR hC xc2 (by decide) rfl qf_X2_12 dX2_meanLevel_1 ?_
  refine s_ltR (fun v5 => ?_)
  refine s_aload_n hC 1 dX2_meanLevel_4 rfl ?_
  refine s_callV hC (x := v5) (avs := [vR v1]) (st := []) (nest := false) xc7 (m_X7_copyFrom hI v5 v1 μ) dX2_meanLevel_5 qm_X2_18 qi_X7_copyFrom qs_X7_copyFrom qc_X7 qd_X7_copyFrom qh_X7_copyFrom (by decide) (fun _ => Nat.le_of_ble_eq_true rfl) (Nat.le_of_ble_eq_true rfl) (fun _ μ6 => ?_)
  refine s_lconst hC dX2_meanLevel_8 (v := 0) (by decide) ?_
  refine s_lstore hC dX2_meanLevel_9 (by decide) (lv' := [(4, vJ (0 : Int64)), (0, vR v0), (1, vR v1), (2, vI v2), (3, vI v3)]) rfl ?_
  refine s_iconst hC dX2_meanLevel_11 (v := 0) (by decide) ?_
  refine s_istore hC dX2_meanLevel_12 (by decide) (lv' := [(6, vI (0 : Int32)), (4, vJ (0 : Int64)), (0, vR v0), (1, vR v1), (2, vI v2), (3, vI v3)]) rfl ?_
  refine s_lv (lv' := [(0, vR v0), (2, vI v2), (3, vI v3), (4, vJ (0 : Int64)), (6, vI (0 : Int32))]) [2, 4, 5, 1, 0] rfl ?_
  refine j_X2_meanLevel_L14 hI hC hr hlk 4096 _ _ _ _ _ _
theorem dX2_leastDaily_0 : decode cX2_leastDaily 0 = .ok (.bipush (-30), 2) := by decide +kernel
theorem dX2_leastDaily_2 : decode cX2_leastDaily 2 = .ok (.istore 4, 2) := by decide +kernel
theorem dX2_leastDaily_4 : decode cX2_leastDaily 4 = .ok (.iload 4, 2) := by decide +kernel
theorem dX2_leastDaily_6 : decode cX2_leastDaily 6 = .ok (.bipush 30, 2) := by decide +kernel
theorem dX2_leastDaily_8 : decode cX2_leastDaily 8 = .ok (.if_icmp .gt 50, 3) := by decide +kernel
theorem dX2_leastDaily_11 : decode cX2_leastDaily 11 = .ok (.aload_n 0, 1) := by decide +kernel
theorem dX2_leastDaily_12 : decode cX2_leastDaily 12 = .ok (.getfield 12, 3) := by decide +kernel
theorem dX2_leastDaily_15 : decode cX2_leastDaily 15 = .ok (.aload_n 1, 1) := by decide +kernel
theorem dX2_leastDaily_16 : decode cX2_leastDaily 16 = .ok (.invokevirtual 18, 3) := by decide +kernel
theorem dX2_leastDaily_19 : decode cX2_leastDaily 19 = .ok (.aload_n 0, 1) := by decide +kernel
theorem dX2_leastDaily_20 : decode cX2_leastDaily 20 = .ok (.getfield 12, 3) := by decide +kernel
theorem dX2_leastDaily_23 : decode cX2_leastDaily 23 = .ok (.iload_n 2, 1) := by decide +kernel
theorem dX2_leastDaily_24 : decode cX2_leastDaily 24 = .ok (.invokevirtual 39, 3) := by decide +kernel
theorem dX2_leastDaily_27 : decode cX2_leastDaily 27 = .ok (.astore 5, 2) := by decide +kernel
theorem dX2_leastDaily_29 : decode cX2_leastDaily 29 = .ok (.aload 5, 2) := by decide +kernel
theorem dX2_leastDaily_31 : decode cX2_leastDaily 31 = .ok (.ifnull 10, 3) := by decide +kernel
theorem dX2_leastDaily_34 : decode cX2_leastDaily 34 = .ok (.aload 5, 2) := by decide +kernel
theorem dX2_leastDaily_36 : decode cX2_leastDaily 36 = .ok (.iload 4, 2) := by decide +kernel
theorem dX2_leastDaily_38 : decode cX2_leastDaily 38 = .ok (.putfield 46, 3) := by decide +kernel
theorem dX2_leastDaily_41 : decode cX2_leastDaily 41 = .ok (.aload_n 0, 1) := by decide +kernel
theorem dX2_leastDaily_42 : decode cX2_leastDaily 42 = .ok (.iload_n 3, 1) := by decide +kernel
theorem dX2_leastDaily_43 : decode cX2_leastDaily 43 = .ok (.invokevirtual 62, 3) := by decide +kernel
theorem dX2_leastDaily_46 : decode cX2_leastDaily 46 = .ok (.ifCond .eq 6, 3) := by decide +kernel
theorem dX2_leastDaily_49 : decode cX2_leastDaily 49 = .ok (.iload 4, 2) := by decide +kernel
theorem dX2_leastDaily_51 : decode cX2_leastDaily 51 = .ok (.ireturn, 1) := by decide +kernel
theorem dX2_leastDaily_52 : decode cX2_leastDaily 52 = .ok (.iinc 4 1, 3) := by decide +kernel
theorem dX2_leastDaily_55 : decode cX2_leastDaily 55 = .ok (.goto (-51), 3) := by decide +kernel
theorem dX2_leastDaily_58 : decode cX2_leastDaily 58 = .ok (.sipush (-5000), 3) := by decide +kernel
theorem dX2_leastDaily_61 : decode cX2_leastDaily 61 = .ok (.ireturn, 1) := by decide +kernel
def f_X2_leastDaily_L4 (X : x_X) : Nat → Nat → Nat → Int32 → Int32 → Int32 → x_M → Option (Int32 × x_M)
  | 0, _, _, _, _, _, _ => none
  | n + 1, v5, v6, v7, v8, v9, μ10 =>
    (if (30 : Int32) < v9 then (some ((-5000 : Int32), μ10)) else (ck (x_kd X v5 = 2 + 1) (lt (μ10.2.1 v5 0) (fun (v11 : Nat) => (ck (x_kd X v11 = 7 + 1) (bd (f_X7_copyFrom X v11 v6 μ10) (fun (_ : Unit) (μ12 : x_M) => (ck (x_kd X v5 = 2 + 1) (lt (μ12.2.1 v5 0) (fun (v13 : Nat) => (ck (x_kd X v13 = 7 + 1) (bd (f_X7_find X v13 v7 μ12) (fun (v14 : Nat) (μ15 : x_M) => (if v14 = 0 then (ck (x_kd X v5 = 2 + 1) (bd (f_X2_staysWet X v5 v8 μ15) (fun (v16 : Int32) (μ17 : x_M) => (if v16 = 0 then (f_X2_leastDaily_L4 X n v5 v6 v7 v8 (v9 + (1 : Int32)) μ17) else (some (v9, μ17)))))) else (ck (x_kd X v14 = 0 + 1) (lt (x_sI μ15 v14 6 v9) (fun (μ18 : x_M) => (ck (x_kd X v5 = 2 + 1) (bd (f_X2_staysWet X v5 v8 μ18) (fun (v19 : Int32) (μ20 : x_M) => (if v19 = 0 then (f_X2_leastDaily_L4 X n v5 v6 v7 v8 (v9 + (1 : Int32)) μ20) else (some (v9, μ20)))))))))))))))))))))))
set_option maxRecDepth 100000 in
theorem j_X2_leastDaily_L4 (hI : x_I X) (hC : x_C X x_Z0 p (x_rm 7) s m c cX2_leastDaily RX2 6 0 0 7) (hr : meth.sig.returnType = (some .int)) (hlk : meth.locks = false) : ∀ (n : Nat) (v5 : Nat) (v6 : Nat) (v7 : Int32) (v8 : Int32) (v9 : Int32) (μ10 : x_M), SM X 6 7 rkI p l e s m args below meth c 4 [(0, vR v5), (1, vR v6), (2, vI v7), (3, vI v8), (4, vI v9)] [] μ10 (f_X2_leastDaily_L4 X n v5 v6 v7 v8 v9 μ10) := by
  intro n
  induction n with
  | zero => intro v5 v6 v7 v8 v9 μ10; exact s_none
  | succ n ih =>
    intro v5 v6 v7 v8 v9 μ10
    unfold f_X2_leastDaily_L4
    refine s_iload hC 4 dX2_leastDaily_4 rfl ?_
    refine s_bipush hC dX2_leastDaily_6 (v := 30) (by decide) ?_
    refine s_icmp_gt hC dX2_leastDaily_8 (tgt := 58) (by decide) ?_ ?_
    · refine s_sipush hC dX2_leastDaily_58 (v := -5000) (by decide) ?_
      exact s_iret hC hr hlk dX2_leastDaily_61
    refine s_aload_n hC 0 dX2_leastDaily_11 rfl ?_
    refine s_getR hC xc2 (by decide) rfl qf_X2_12 dX2_leastDaily_12 ?_
    refine s_ltR (fun v11 => ?_)
    refine s_aload_n hC 1 dX2_leastDaily_15 rfl ?_
    refine s_callV hC (x := v11) (avs := [vR v6]) (st := []) (nest := false) xc7 (m_X7_copyFrom hI v11 v6 μ10) dX2_leastDaily_16 qm_X2_18 qi_X7_copyFrom qs_X7_copyFrom qc_X7 qd_X7_copyFrom qh_X7_copyFrom (by decide) (fun _ => Nat.le_of_ble_eq_true rfl) (Nat.le_of_ble_eq_true rfl) (fun _ μ12 => ?_)
    refine s_aload_n hC 0 dX2_leastDaily_19 rfl ?_
    refine s_getR hC xc2 (by decide) rfl qf_X2_12 dX2_leastDaily_20 ?_
    refine s_ltR (fun v13 => ?_)
    refine s_iload_n hC 2 dX2_leastDaily_23 rfl ?_
    refine s_callV hC (x := v13) (avs := [vI v7]) (st := []) (nest := false) xc7 (m_X7_find hI v13 v7 μ12) dX2_leastDaily_24 qm_X2_39 qi_X7_find qs_X7_find qc_X7 qd_X7_find qh_X7_find (by decide) (fun _ => Nat.le_of_ble_eq_true rfl) (Nat.le_of_ble_eq_true rfl) (fun v14 μ15 => ?_)
    refine s_astore hC dX2_leastDaily_27 (by decide) (lv' := [(5, vR v14), (0, vR v5), (1, vR v6), (2, vI v7), (3, vI v8), (4, vI v9)]) rfl ?_
    refine s_aload hC 0 dX2_leastDaily_29 rfl ?_
    refine s_ifnull hC dX2_leastDaily_31 (tgt := 41) (by decide) ?_ ?_
    · refine s_aload_n hC 1 dX2_leastDaily_41 rfl ?_
      refine s_iload_n hC 4 dX2_leastDaily_42 rfl ?_
      refine s_callV hC (x := v5) (avs := [vI v8]) (st := []) (nest := false) xc2 (m_X2_staysWet hI v5 v8 μ15) dX2_leastDaily_43 qm_X2_62 qi_X2_staysWet qs_X2_staysWet qc_X2 qd_X2_staysWet qh_X2_staysWet (by decide) (fun _ => Nat.le_of_ble_eq_true rfl) (Nat.le_of_ble_eq_true rfl) (fun v16 μ17 => ?_)
      refine s_if_eq hC dX2_leastDaily_46 (tgt := 52) (by decide) ?_ ?_
      · refine s_iinc hC 5 dX2_leastDaily_52 rfl (w := 1) (by decide) (by decide) (lv' := [(4, vI (v9 + (1 : Int32))), (5, vR v14), (0, vR v5), (1, vR v6), (2, vI v7), (3, vI v8)]) rfl ?_
        refine s_goto hC dX2_leastDaily_55 (tgt := 4) (by decide) ?_
        refine s_lv (lv' := [(0, vR v5), (1, vR v6), (2, vI v7), (3, vI v8), (4, vI (v9 + (1 : Int32)))]) [2, 3, 4, 5, 0] rfl ?_
        exact ih _ _ _ _ _ _
      refine s_iload hC 5 dX2_leastDaily_49 rfl ?_
      exact s_iret hC hr hlk dX2_leastDaily_51
    refine s_aload hC 0 dX2_leastDaily_34 rfl ?_
    refine s_iload hC 5 dX2_leastDaily_36 rfl ?_
    refine s_putI hC xc0 (by decide) rfl rfl qf_X2_46 dX2_leastDaily_38 ?_
    refine s_ltM (fun μ18 => ?_)
    refine s_aload_n hC 1 dX2_leastDaily_41 rfl ?_
    refine s_iload_n hC 4 dX2_leastDaily_42 rfl ?_
    refine s_callV hC (x := v5) (avs := [vI v8]) (st := []) (nest := false) xc2 (m_X2_staysWet hI v5 v8 μ18) dX2_leastDaily_43 qm_X2_62 qi_X2_staysWet qs_X2_staysWet qc_X2 qd_X2_staysWet qh_X2_staysWet (by decide) (fun _ => Nat.le_of_ble_eq_true rfl) (Nat.le_of_ble_eq_true rfl) (fun v19 μ20 => ?_)
    refine s_if_eq hC dX2_leastDaily_46 (tgt := 52) (by decide) ?_ ?_
    · refine s_iinc hC 5 dX2_leastDaily_52 rfl (w := 1) (by decide) (by decide) (lv' := [(4, vI (v9 + (1 : Int32))), (5, vR v14), (0, vR v5), (1, vR v6), (2, vI v7), (3, vI v8)]) rfl ?_
      refine s_goto hC dX2_leastDaily_55 (tgt := 4) (by decide) ?_
      refine s_lv (lv' := [(0, vR v5), (1, vR v6), (2, vI v7), (3, vI v8), (4, vI (v9 + (1 : Int32)))]) [2, 3, 4, 5, 0] rfl ?_
      exact ih _ _ _ _ _ _
    refine s_iload hC 5 dX2_leastDaily_49 rfl ?_
    exact s_iret hC hr hlk dX2_leastDaily_51
def f_X2_leastDaily (X : x_X) (v0 : Nat) (v1 : Nat) (v2 : Int32) (v3 : Int32) (μ : x_M) : Option (Int32 × x_M) :=
  (f_X2_leastDaily_L4 X 4096 v0 v1 v2 v3 (-30 : Int32) μ)
set_option maxRecDepth 100000 in
theorem m_X2_leastDaily (hI : x_I X) (v0 : Nat) (v1 : Nat) (v2 : Int32) (v3 : Int32) (μ : x_M) : x_Met X x_Z0 l yX2_leastDaily cX2_leastDaily 6 (some .int) 7 [vR v0, vR v1, vI v2, vI v3] μ rkI (f_X2_leastDaily X v0 v1 v2 v3 μ) := by
  refine x_enter hI (by decide +kernel) (Nat.le_of_ble_eq_true rfl) (fun p e s m args below meth c hC hr hlk => ?_)
  unfold f_X2_leastDaily
  refine s_lv (lv' := [(0, vR v0), (1, vR v1), (2, vI v2), (3, vI v3)]) [0, 1, 2, 3] rfl ?_
  refine s_bipush hC dX2_leastDaily_0 (v := -30) (by decide) ?_
  refine s_istore hC dX2_leastDaily_2 (by decide) (lv' := [(4, vI (-30 : Int32)), (0, vR v0), (1, vR v1), (2, vI v2), (3, vI v3)]) rfl ?_
  refine s_lv (lv' := [(0, vR v0), (1, vR v1), (2, vI v2), (3, vI v3), (4, vI (-30 : Int32))]) [1, 2, 3, 4, 0] rfl ?_
  refine j_X2_leastDaily_L4 hI hC hr hlk 4096 _ _ _ _ _ _
theorem dX2_waterBy_0 : decode cX2_waterBy 0 = .ok (.aload_n 0, 1) := by decide +kernel
theorem dX2_waterBy_1 : decode cX2_waterBy 1 = .ok (.aload_n 1, 1) := by decide +kernel
theorem dX2_waterBy_2 : decode cX2_waterBy 2 = .ok (.iload_n 3, 1) := by decide +kernel
theorem dX2_waterBy_3 : decode cX2_waterBy 3 = .ok (.invokevirtual 69, 3) := by decide +kernel
theorem dX2_waterBy_6 : decode cX2_waterBy 6 = .ok (.getfield 73, 3) := by decide +kernel
theorem dX2_waterBy_9 : decode cX2_waterBy 9 = .ok (.istore 4, 2) := by decide +kernel
theorem dX2_waterBy_11 : decode cX2_waterBy 11 = .ok (.aload_n 0, 1) := by decide +kernel
theorem dX2_waterBy_12 : decode cX2_waterBy 12 = .ok (.aload_n 1, 1) := by decide +kernel
theorem dX2_waterBy_13 : decode cX2_waterBy 13 = .ok (.iload_n 2, 1) := by decide +kernel
theorem dX2_waterBy_14 : decode cX2_waterBy 14 = .ok (.invokevirtual 76, 3) := by decide +kernel
theorem dX2_waterBy_17 : decode cX2_waterBy 17 = .ok (.iconst 0, 1) := by decide +kernel
theorem dX2_waterBy_18 : decode cX2_waterBy 18 = .ok (.istore 5, 2) := by decide +kernel
theorem dX2_waterBy_20 : decode cX2_waterBy 20 = .ok (.iload 5, 2) := by decide +kernel
theorem dX2_waterBy_22 : decode cX2_waterBy 22 = .ok (.iload_n 3, 1) := by decide +kernel
theorem dX2_waterBy_23 : decode cX2_waterBy 23 = .ok (.if_icmp .ge 16, 3) := by decide +kernel
theorem dX2_waterBy_26 : decode cX2_waterBy 26 = .ok (.aload_n 0, 1) := by decide +kernel
theorem dX2_waterBy_27 : decode cX2_waterBy 27 = .ok (.getfield 12, 3) := by decide +kernel
theorem dX2_waterBy_30 : decode cX2_waterBy 30 = .ok (.invokevirtual 22, 3) := by decide +kernel
theorem dX2_waterBy_33 : decode cX2_waterBy 33 = .ok (.iinc 5 1, 3) := by decide +kernel
theorem dX2_waterBy_36 : decode cX2_waterBy 36 = .ok (.goto (-16), 3) := by decide +kernel
theorem dX2_waterBy_39 : decode cX2_waterBy 39 = .ok (.iload 4, 2) := by decide +kernel
theorem dX2_waterBy_41 : decode cX2_waterBy 41 = .ok (.aload_n 0, 1) := by decide +kernel
theorem dX2_waterBy_42 : decode cX2_waterBy 42 = .ok (.getfield 12, 3) := by decide +kernel
theorem dX2_waterBy_45 : decode cX2_waterBy 45 = .ok (.getfield 73, 3) := by decide +kernel
theorem dX2_waterBy_48 : decode cX2_waterBy 48 = .ok (.isub, 1) := by decide +kernel
theorem dX2_waterBy_49 : decode cX2_waterBy 49 = .ok (.ireturn, 1) := by decide +kernel
def f_X2_waterBy_L20 (X : x_X) : Nat → Nat → Int32 → Int32 → Int32 → x_M → Option (Int32 × x_M)
  | 0, _, _, _, _, _ => none
  | n + 1, v9, v10, v11, v12, μ13 =>
    (if v10 ≤ v12 then (ck (x_kd X v9 = 2 + 1) (lt (μ13.2.1 v9 0) (fun (v14 : Nat) => (ck (x_kd X v14 = 7 + 1) (some ((v11 - (μ13.1 v14 7)), μ13)))))) else (ck (x_kd X v9 = 2 + 1) (lt (μ13.2.1 v9 0) (fun (v15 : Nat) => (ck (x_kd X v15 = 7 + 1) (bd (f_X7_pass X v15 μ13) (fun (_ : Unit) (μ16 : x_M) => (f_X2_waterBy_L20 X n v9 v10 v11 (v12 + (1 : Int32)) μ16))))))))
set_option maxRecDepth 100000 in
theorem j_X2_waterBy_L20 (hI : x_I X) (hC : x_C X x_Z0 p (x_rm 7) s m c cX2_waterBy RX2 6 0 0 7) (hr : meth.sig.returnType = (some .int)) (hlk : meth.locks = false) : ∀ (n : Nat) (v9 : Nat) (v10 : Int32) (v11 : Int32) (v12 : Int32) (μ13 : x_M), SM X 6 7 rkI p l e s m args below meth c 20 [(0, vR v9), (3, vI v10), (4, vI v11), (5, vI v12)] [] μ13 (f_X2_waterBy_L20 X n v9 v10 v11 v12 μ13) := by
  intro n
  induction n with
  | zero => intro v9 v10 v11 v12 μ13; exact s_none
  | succ n ih =>
    intro v9 v10 v11 v12 μ13
    unfold f_X2_waterBy_L20
    refine s_iload hC 3 dX2_waterBy_20 rfl ?_
    refine s_iload_n hC 1 dX2_waterBy_22 rfl ?_
    refine s_icmp_ge hC dX2_waterBy_23 (tgt := 39) (by decide) ?_ ?_
    · refine s_iload hC 2 dX2_waterBy_39 rfl ?_
      refine s_aload_n hC 0 dX2_waterBy_41 rfl ?_
      refine s_getR hC xc2 (by decide) rfl qf_X2_12 dX2_waterBy_42 ?_
      refine s_ltR (fun v14 => ?_)
      refine s_getI hC xc7 (by decide) rfl qf_X2_73 dX2_waterBy_45 ?_
      refine s_isub hC dX2_waterBy_48 ?_
      exact s_iret hC hr hlk dX2_waterBy_49
    refine s_aload_n hC 0 dX2_waterBy_26 rfl ?_
    refine s_getR hC xc2 (by decide) rfl qf_X2_12 dX2_waterBy_27 ?_
    refine s_ltR (fun v15 => ?_)
    refine s_callV hC (x := v15) (avs := []) (st := []) (nest := false) xc7 (m_X7_pass hI v15 μ13) dX2_waterBy_30 qm_X2_22 qi_X7_pass qs_X7_pass qc_X7 qd_X7_pass qh_X7_pass (by decide) (fun _ => Nat.le_of_ble_eq_true rfl) (Nat.le_of_ble_eq_true rfl) (fun _ μ16 => ?_)
    refine s_iinc hC 3 dX2_waterBy_33 rfl (w := 1) (by decide) (by decide) (lv' := [(5, vI (v12 + (1 : Int32))), (0, vR v9), (3, vI v10), (4, vI v11)]) rfl ?_
    refine s_goto hC dX2_waterBy_36 (tgt := 20) (by decide) ?_
    refine s_lv (lv' := [(0, vR v9), (3, vI v10), (4, vI v11), (5, vI (v12 + (1 : Int32)))]) [1, 2, 3, 0] rfl ?_
    exact ih _ _ _ _ _
def f_X2_waterBy (X : x_X) (v0 : Nat) (v1 : Nat) (v2 : Int32) (v3 : Int32) (μ : x_M) : Option (Int32 × x_M) :=
  (ck (x_kd X v0 = 2 + 1) (bd (f_X2_after X v0 v1 v3 μ) (fun (v5 : Nat) (μ6 : x_M) => (ck (x_kd X v5 = 7 + 1) (lt (μ6.1 v5 7) (fun (v7 : Int32) => (ck (x_kd X v0 = 2 + 1) (bd (f_X2_beginWithout X v0 v1 v2 μ6) (fun (_ : Unit) (μ8 : x_M) => (f_X2_waterBy_L20 X 4096 v0 v3 v7 (0 : Int32) μ8))))))))))
set_option maxRecDepth 100000 in
theorem m_X2_waterBy (hI : x_I X) (v0 : Nat) (v1 : Nat) (v2 : Int32) (v3 : Int32) (μ : x_M) : x_Met X x_Z0 l yX2_waterBy cX2_waterBy 6 (some .int) 7 [vR v0, vR v1, vI v2, vI v3] μ rkI (f_X2_waterBy X v0 v1 v2 v3 μ) := by
  refine x_enter hI (by decide +kernel) (Nat.le_of_ble_eq_true rfl) (fun p e s m args below meth c hC hr hlk => ?_)
  unfold f_X2_waterBy
  refine s_lv (lv' := [(0, vR v0), (1, vR v1), (2, vI v2), (3, vI v3)]) [0, 1, 2, 3] rfl ?_
  refine s_aload_n hC 0 dX2_waterBy_0 rfl ?_
  refine s_aload_n hC 1 dX2_waterBy_1 rfl ?_
  refine s_iload_n hC 3 dX2_waterBy_2 rfl ?_
  refine s_callV hC (x := v0) (avs := [vR v1, vI v3]) (st := []) (nest := false) xc2 (m_X2_after hI v0 v1 v3 μ) dX2_waterBy_3 qm_X2_69 qi_X2_after qs_X2_after qc_X2 qd_X2_after qh_X2_after (by decide) (fun _ => Nat.le_of_ble_eq_true rfl) (Nat.le_of_ble_eq_true rfl) (fun v5 μ6 => ?_)
  refine s_getI hC xc7 (by decide) rfl qf_X2_73 dX2_waterBy_6 ?_
  refine s_ltI (fun v7 => ?_)
  refine s_istore hC dX2_waterBy_9 (by decide) (lv' := [(4, vI v7), (0, vR v0), (1, vR v1), (2, vI v2), (3, vI v3)]) rfl ?_
  refine s_aload_n hC 1 dX2_waterBy_11 rfl ?_
  refine s_aload_n hC 2 dX2_waterBy_12 rfl ?_
  refine s_iload_n hC 3 dX2_waterBy_13 rfl ?_
  refine s_callV hC (x := v0) (avs := [vR v1, vI v2]) (st := []) (nest := false) xc2 (m_X2_beginWithout hI v0 v1 v2 μ6) dX2_waterBy_14 qm_X2_76 qi_X2_beginWithout qs_X2_beginWithout qc_X2 qd_X2_beginWithout qh_X2_beginWithout (by decide) (fun _ => Nat.le_of_ble_eq_true rfl) (Nat.le_of_ble_eq_true rfl) (fun _ μ8 => ?_)
  refine s_iconst hC dX2_waterBy_17 (v := 0) (by decide) ?_
  refine s_istore hC dX2_waterBy_18 (by decide) (lv' := [(5, vI (0 : Int32)), (4, vI v7), (0, vR v0), (1, vR v1), (2, vI v2), (3, vI v3)]) rfl ?_
  refine s_lv (lv' := [(0, vR v0), (3, vI v3), (4, vI v7), (5, vI (0 : Int32))]) [2, 5, 1, 0] rfl ?_
  refine j_X2_waterBy_L20 hI hC hr hlk 4096 _ _ _ _ _
theorem dX2_leastWell_0 : decode cX2_leastWell 0 = .ok (.iconst 0, 1) := by decide +kernel
theorem dX2_leastWell_1 : decode cX2_leastWell 1 = .ok (.istore_n 3, 1) := by decide +kernel
theorem dX2_leastWell_2 : decode cX2_leastWell 2 = .ok (.iload_n 3, 1) := by decide +kernel
theorem dX2_leastWell_3 : decode cX2_leastWell 3 = .ok (.bipush 99, 2) := by decide +kernel
theorem dX2_leastWell_5 : decode cX2_leastWell 5 = .ok (.if_icmp .gt 35, 3) := by decide +kernel
theorem dX2_leastWell_8 : decode cX2_leastWell 8 = .ok (.aload_n 0, 1) := by decide +kernel
theorem dX2_leastWell_9 : decode cX2_leastWell 9 = .ok (.getfield 12, 3) := by decide +kernel
theorem dX2_leastWell_12 : decode cX2_leastWell 12 = .ok (.aload_n 1, 1) := by decide +kernel
theorem dX2_leastWell_13 : decode cX2_leastWell 13 = .ok (.invokevirtual 18, 3) := by decide +kernel
theorem dX2_leastWell_16 : decode cX2_leastWell 16 = .ok (.aload_n 0, 1) := by decide +kernel
theorem dX2_leastWell_17 : decode cX2_leastWell 17 = .ok (.getfield 12, 3) := by decide +kernel
theorem dX2_leastWell_20 : decode cX2_leastWell 20 = .ok (.iload_n 3, 1) := by decide +kernel
theorem dX2_leastWell_21 : decode cX2_leastWell 21 = .ok (.putfield 80, 3) := by decide +kernel
theorem dX2_leastWell_24 : decode cX2_leastWell 24 = .ok (.aload_n 0, 1) := by decide +kernel
theorem dX2_leastWell_25 : decode cX2_leastWell 25 = .ok (.iload_n 2, 1) := by decide +kernel
theorem dX2_leastWell_26 : decode cX2_leastWell 26 = .ok (.invokevirtual 62, 3) := by decide +kernel
theorem dX2_leastWell_29 : decode cX2_leastWell 29 = .ok (.ifCond .eq 5, 3) := by decide +kernel
theorem dX2_leastWell_32 : decode cX2_leastWell 32 = .ok (.iload_n 3, 1) := by decide +kernel
theorem dX2_leastWell_33 : decode cX2_leastWell 33 = .ok (.ireturn, 1) := by decide +kernel
theorem dX2_leastWell_34 : decode cX2_leastWell 34 = .ok (.iinc 3 1, 3) := by decide +kernel
theorem dX2_leastWell_37 : decode cX2_leastWell 37 = .ok (.goto (-35), 3) := by decide +kernel
theorem dX2_leastWell_40 : decode cX2_leastWell 40 = .ok (.bipush (-5), 2) := by decide +kernel
theorem dX2_leastWell_42 : decode cX2_leastWell 42 = .ok (.ireturn, 1) := by decide +kernel
def f_X2_leastWell_L2 (X : x_X) : Nat → Nat → Nat → Int32 → Int32 → x_M → Option (Int32 × x_M)
  | 0, _, _, _, _, _ => none
  | n + 1, v4, v5, v6, v7, μ8 =>
    (if (99 : Int32) < v7 then (some ((-5 : Int32), μ8)) else (ck (x_kd X v4 = 2 + 1) (lt (μ8.2.1 v4 0) (fun (v9 : Nat) => (ck (x_kd X v9 = 7 + 1) (bd (f_X7_copyFrom X v9 v5 μ8) (fun (_ : Unit) (μ10 : x_M) => (ck (x_kd X v4 = 2 + 1) (lt (μ10.2.1 v4 0) (fun (v11 : Nat) => (ck (x_kd X v11 = 7 + 1) (lt (x_sI μ10 v11 10 v7) (fun (μ12 : x_M) => (ck (x_kd X v4 = 2 + 1) (bd (f_X2_staysWet X v4 v6 μ12) (fun (v13 : Int32) (μ14 : x_M) => (if v13 = 0 then (f_X2_leastWell_L2 X n v4 v5 v6 (v7 + (1 : Int32)) μ14) else (some (v7, μ14)))))))))))))))))))
set_option maxRecDepth 100000 in
theorem j_X2_leastWell_L2 (hI : x_I X) (hC : x_C X x_Z0 p (x_rm 7) s m c cX2_leastWell RX2 4 0 0 7) (hr : meth.sig.returnType = (some .int)) (hlk : meth.locks = false) : ∀ (n : Nat) (v4 : Nat) (v5 : Nat) (v6 : Int32) (v7 : Int32) (μ8 : x_M), SM X 4 7 rkI p l e s m args below meth c 2 [(0, vR v4), (1, vR v5), (2, vI v6), (3, vI v7)] [] μ8 (f_X2_leastWell_L2 X n v4 v5 v6 v7 μ8) := by
  intro n
  induction n with
  | zero => intro v4 v5 v6 v7 μ8; exact s_none
  | succ n ih =>
    intro v4 v5 v6 v7 μ8
    unfold f_X2_leastWell_L2
    refine s_iload_n hC 3 dX2_leastWell_2 rfl ?_
    refine s_bipush hC dX2_leastWell_3 (v := 99) (by decide) ?_
    refine s_icmp_gt hC dX2_leastWell_5 (tgt := 40) (by decide) ?_ ?_
    · refine s_bipush hC dX2_leastWell_40 (v := -5) (by decide) ?_
      exact s_iret hC hr hlk dX2_leastWell_42
    refine s_aload_n hC 0 dX2_leastWell_8 rfl ?_
    refine s_getR hC xc2 (by decide) rfl qf_X2_12 dX2_leastWell_9 ?_
    refine s_ltR (fun v9 => ?_)
    refine s_aload_n hC 1 dX2_leastWell_12 rfl ?_
    refine s_callV hC (x := v9) (avs := [vR v5]) (st := []) (nest := false) xc7 (m_X7_copyFrom hI v9 v5 μ8) dX2_leastWell_13 qm_X2_18 qi_X7_copyFrom qs_X7_copyFrom qc_X7 qd_X7_copyFrom qh_X7_copyFrom (by decide) (fun _ => Nat.le_of_ble_eq_true rfl) (Nat.le_of_ble_eq_true rfl) (fun _ μ10 => ?_)
    refine s_aload_n hC 0 dX2_leastWell_16 rfl ?_
    refine s_getR hC xc2 (by decide) rfl qf_X2_12 dX2_leastWell_17 ?_
    refine s_ltR (fun v11 => ?_)
    refine s_iload_n hC 3 dX2_leastWell_20 rfl ?_
    refine s_putI hC xc7 (by decide) rfl rfl qf_X2_80 dX2_leastWell_21 ?_
    refine s_ltM (fun μ12 => ?_)
    refine s_aload_n hC 0 dX2_leastWell_24 rfl ?_
    refine s_iload_n hC 2 dX2_leastWell_25 rfl ?_
    refine s_callV hC (x := v4) (avs := [vI v6]) (st := []) (nest := false) xc2 (m_X2_staysWet hI v4 v6 μ12) dX2_leastWell_26 qm_X2_62 qi_X2_staysWet qs_X2_staysWet qc_X2 qd_X2_staysWet qh_X2_staysWet (by decide) (fun _ => Nat.le_of_ble_eq_true rfl) (Nat.le_of_ble_eq_true rfl) (fun v13 μ14 => ?_)
    refine s_if_eq hC dX2_leastWell_29 (tgt := 34) (by decide) ?_ ?_
    · refine s_iinc hC 3 dX2_leastWell_34 rfl (w := 1) (by decide) (by decide) (lv' := [(3, vI (v7 + (1 : Int32))), (0, vR v4), (1, vR v5), (2, vI v6)]) rfl ?_
      refine s_goto hC dX2_leastWell_37 (tgt := 2) (by decide) ?_
      refine s_lv (lv' := [(0, vR v4), (1, vR v5), (2, vI v6), (3, vI (v7 + (1 : Int32)))]) [1, 2, 3, 0] rfl ?_
      exact ih _ _ _ _ _
    refine s_iload_n hC 3 dX2_leastWell_32 rfl ?_
    exact s_iret hC hr hlk dX2_leastWell_33
def f_X2_leastWell (X : x_X) (v0 : Nat) (v1 : Nat) (v2 : Int32) (μ : x_M) : Option (Int32 × x_M) :=
  (f_X2_leastWell_L2 X 4096 v0 v1 v2 (0 : Int32) μ)
set_option maxRecDepth 100000 in
theorem m_X2_leastWell (hI : x_I X) (v0 : Nat) (v1 : Nat) (v2 : Int32) (μ : x_M) : x_Met X x_Z0 l yX2_leastWell cX2_leastWell 4 (some .int) 7 [vR v0, vR v1, vI v2] μ rkI (f_X2_leastWell X v0 v1 v2 μ) := by
  refine x_enter hI (by decide +kernel) (Nat.le_of_ble_eq_true rfl) (fun p e s m args below meth c hC hr hlk => ?_)
  unfold f_X2_leastWell
  refine s_lv (lv' := [(0, vR v0), (1, vR v1), (2, vI v2)]) [0, 1, 2] rfl ?_
  refine s_iconst hC dX2_leastWell_0 (v := 0) (by decide) ?_
  refine s_istore_n hC dX2_leastWell_1 (by decide) (lv' := [(3, vI (0 : Int32)), (0, vR v0), (1, vR v1), (2, vI v2)]) rfl ?_
  refine s_lv (lv' := [(0, vR v0), (1, vR v1), (2, vI v2), (3, vI (0 : Int32))]) [1, 2, 3, 0] rfl ?_
  refine j_X2_leastWell_L2 hI hC hr hlk 4096 _ _ _ _ _
theorem dX2_isAsSeenWith_0 : decode cX2_isAsSeenWith 0 = .ok (.aload_n 0, 1) := by decide +kernel
theorem dX2_isAsSeenWith_1 : decode cX2_isAsSeenWith 1 = .ok (.getfield 12, 3) := by decide +kernel
theorem dX2_isAsSeenWith_4 : decode cX2_isAsSeenWith 4 = .ok (.aload_n 1, 1) := by decide +kernel
theorem dX2_isAsSeenWith_5 : decode cX2_isAsSeenWith 5 = .ok (.invokevirtual 18, 3) := by decide +kernel
theorem dX2_isAsSeenWith_8 : decode cX2_isAsSeenWith 8 = .ok (.aload_n 0, 1) := by decide +kernel
theorem dX2_isAsSeenWith_9 : decode cX2_isAsSeenWith 9 = .ok (.getfield 12, 3) := by decide +kernel
theorem dX2_isAsSeenWith_12 : decode cX2_isAsSeenWith 12 = .ok (.iload_n 2, 1) := by decide +kernel
theorem dX2_isAsSeenWith_13 : decode cX2_isAsSeenWith 13 = .ok (.invokevirtual 39, 3) := by decide +kernel
theorem dX2_isAsSeenWith_16 : decode cX2_isAsSeenWith 16 = .ok (.astore 4, 2) := by decide +kernel
theorem dX2_isAsSeenWith_18 : decode cX2_isAsSeenWith 18 = .ok (.aload 4, 2) := by decide +kernel
theorem dX2_isAsSeenWith_20 : decode cX2_isAsSeenWith 20 = .ok (.ifnull 9, 3) := by decide +kernel
theorem dX2_isAsSeenWith_23 : decode cX2_isAsSeenWith 23 = .ok (.aload 4, 2) := by decide +kernel
theorem dX2_isAsSeenWith_25 : decode cX2_isAsSeenWith 25 = .ok (.iload_n 3, 1) := by decide +kernel
theorem dX2_isAsSeenWith_26 : decode cX2_isAsSeenWith 26 = .ok (.putfield 93, 3) := by decide +kernel
theorem dX2_isAsSeenWith_29 : decode cX2_isAsSeenWith 29 = .ok (.aload_n 0, 1) := by decide +kernel
theorem dX2_isAsSeenWith_30 : decode cX2_isAsSeenWith 30 = .ok (.invokevirtual 96, 3) := by decide +kernel
theorem dX2_isAsSeenWith_33 : decode cX2_isAsSeenWith 33 = .ok (.ireturn, 1) := by decide +kernel
def f_X2_isAsSeenWith (X : x_X) (v0 : Nat) (v1 : Nat) (v2 : Int32) (v3 : Int32) (μ : x_M) : Option (Int32 × x_M) :=
  (ck (x_kd X v0 = 2 + 1) (lt (μ.2.1 v0 0) (fun (v5 : Nat) => (ck (x_kd X v5 = 7 + 1) (bd (f_X7_copyFrom X v5 v1 μ) (fun (_ : Unit) (μ6 : x_M) => (ck (x_kd X v0 = 2 + 1) (lt (μ6.2.1 v0 0) (fun (v7 : Nat) => (ck (x_kd X v7 = 7 + 1) (bd (f_X7_find X v7 v2 μ6) (fun (v8 : Nat) (μ9 : x_M) => (if v8 = 0 then (ck (x_kd X v0 = 2 + 1) (bd (f_X2_goesAsSeen X v0 μ9) (fun (v10 : Int32) (μ11 : x_M) => (ck (v10 = 0 ∨ v10 = 1) (some (v10, μ11)))))) else (ck (x_kd X v8 = 0 + 1) (lt (x_sI μ9 v8 7 v3) (fun (μ12 : x_M) => (ck (x_kd X v0 = 2 + 1) (bd (f_X2_goesAsSeen X v0 μ12) (fun (v13 : Int32) (μ14 : x_M) => (ck (v13 = 0 ∨ v13 = 1) (some (v13, μ14))))))))))))))))))))))
set_option maxRecDepth 100000 in
theorem m_X2_isAsSeenWith (hI : x_I X) (v0 : Nat) (v1 : Nat) (v2 : Int32) (v3 : Int32) (μ : x_M) : x_Met X x_Z0 l yX2_isAsSeenWith cX2_isAsSeenWith 5 (some .boolean) 7 [vR v0, vR v1, vI v2, vI v3] μ rkI (f_X2_isAsSeenWith X v0 v1 v2 v3 μ) := by
  refine x_enter hI (by decide +kernel) (Nat.le_of_ble_eq_true rfl) (fun p e s m args below meth c hC hr hlk => ?_)
  unfold f_X2_isAsSeenWith
  refine s_lv (lv' := [(0, vR v0), (1, vR v1), (2, vI v2), (3, vI v3)]) [0, 1, 2, 3] rfl ?_
  refine s_aload_n hC 0 dX2_isAsSeenWith_0 rfl ?_
  refine s_getR hC xc2 (by decide) rfl qf_X2_12 dX2_isAsSeenWith_1 ?_
  refine s_ltR (fun v5 => ?_)
  refine s_aload_n hC 1 dX2_isAsSeenWith_4 rfl ?_
  refine s_callV hC (x := v5) (avs := [vR v1]) (st := []) (nest := false) xc7 (m_X7_copyFrom hI v5 v1 μ) dX2_isAsSeenWith_5 qm_X2_18 qi_X7_copyFrom qs_X7_copyFrom qc_X7 qd_X7_copyFrom qh_X7_copyFrom (by decide) (fun _ => Nat.le_of_ble_eq_true rfl) (Nat.le_of_ble_eq_true rfl) (fun _ μ6 => ?_)
  refine s_aload_n hC 0 dX2_isAsSeenWith_8 rfl ?_
  refine s_getR hC xc2 (by decide) rfl qf_X2_12 dX2_isAsSeenWith_9 ?_
  refine s_ltR (fun v7 => ?_)
  refine s_iload_n hC 2 dX2_isAsSeenWith_12 rfl ?_
  refine s_callV hC (x := v7) (avs := [vI v2]) (st := []) (nest := false) xc7 (m_X7_find hI v7 v2 μ6) dX2_isAsSeenWith_13 qm_X2_39 qi_X7_find qs_X7_find qc_X7 qd_X7_find qh_X7_find (by decide) (fun _ => Nat.le_of_ble_eq_true rfl) (Nat.le_of_ble_eq_true rfl) (fun v8 μ9 => ?_)
  refine s_astore hC dX2_isAsSeenWith_16 (by decide) (lv' := [(4, vR v8), (0, vR v0), (1, vR v1), (2, vI v2), (3, vI v3)]) rfl ?_
  refine s_aload hC 0 dX2_isAsSeenWith_18 rfl ?_
  refine s_ifnull hC dX2_isAsSeenWith_20 (tgt := 29) (by decide) ?_ ?_
  · refine s_aload_n hC 1 dX2_isAsSeenWith_29 rfl ?_
    refine s_callV hC (x := v0) (avs := []) (st := []) (nest := false) xc2 (m_X2_goesAsSeen hI v0 μ9) dX2_isAsSeenWith_30 qm_X2_96 qi_X2_goesAsSeen qs_X2_goesAsSeen qc_X2 qd_X2_goesAsSeen qh_X2_goesAsSeen (by decide) (fun _ => Nat.le_of_ble_eq_true rfl) (Nat.le_of_ble_eq_true rfl) (fun v10 μ11 => ?_)
    exact s_zret hC hr hlk dX2_isAsSeenWith_33
  refine s_aload hC 0 dX2_isAsSeenWith_23 rfl ?_
  refine s_iload_n hC 4 dX2_isAsSeenWith_25 rfl ?_
  refine s_putI hC xc0 (by decide) rfl rfl qf_X2_93 dX2_isAsSeenWith_26 ?_
  refine s_ltM (fun μ12 => ?_)
  refine s_aload_n hC 1 dX2_isAsSeenWith_29 rfl ?_
  refine s_callV hC (x := v0) (avs := []) (st := []) (nest := false) xc2 (m_X2_goesAsSeen hI v0 μ12) dX2_isAsSeenWith_30 qm_X2_96 qi_X2_goesAsSeen qs_X2_goesAsSeen qc_X2 qd_X2_goesAsSeen qh_X2_goesAsSeen (by decide) (fun _ => Nat.le_of_ble_eq_true rfl) (Nat.le_of_ble_eq_true rfl) (fun v13 μ14 => ?_)
  exact s_zret hC hr hlk dX2_isAsSeenWith_33
theorem dX2_absencesAsSeen_0 : decode cX2_absencesAsSeen 0 = .ok (.iconst 0, 1) := by decide +kernel
theorem dX2_absencesAsSeen_1 : decode cX2_absencesAsSeen 1 = .ok (.istore_n 2, 1) := by decide +kernel
theorem dX2_absencesAsSeen_2 : decode cX2_absencesAsSeen 2 = .ok (.iconst 0, 1) := by decide +kernel
theorem dX2_absencesAsSeen_3 : decode cX2_absencesAsSeen 3 = .ok (.istore_n 3, 1) := by decide +kernel
theorem dX2_absencesAsSeen_4 : decode cX2_absencesAsSeen 4 = .ok (.iload_n 3, 1) := by decide +kernel
theorem dX2_absencesAsSeen_5 : decode cX2_absencesAsSeen 5 = .ok (.aload_n 1, 1) := by decide +kernel
theorem dX2_absencesAsSeen_6 : decode cX2_absencesAsSeen 6 = .ok (.getfield 99, 3) := by decide +kernel
theorem dX2_absencesAsSeen_9 : decode cX2_absencesAsSeen 9 = .ok (.if_icmp .ge 28, 3) := by decide +kernel
theorem dX2_absencesAsSeen_12 : decode cX2_absencesAsSeen 12 = .ok (.aload_n 0, 1) := by decide +kernel
theorem dX2_absencesAsSeen_13 : decode cX2_absencesAsSeen 13 = .ok (.aload_n 1, 1) := by decide +kernel
theorem dX2_absencesAsSeen_14 : decode cX2_absencesAsSeen 14 = .ok (.iload_n 3, 1) := by decide +kernel
theorem dX2_absencesAsSeen_15 : decode cX2_absencesAsSeen 15 = .ok (.invokevirtual 76, 3) := by decide +kernel
theorem dX2_absencesAsSeen_18 : decode cX2_absencesAsSeen 18 = .ok (.aload_n 0, 1) := by decide +kernel
theorem dX2_absencesAsSeen_19 : decode cX2_absencesAsSeen 19 = .ok (.invokevirtual 96, 3) := by decide +kernel
theorem dX2_absencesAsSeen_22 : decode cX2_absencesAsSeen 22 = .ok (.ifCond .eq 9, 3) := by decide +kernel
theorem dX2_absencesAsSeen_25 : decode cX2_absencesAsSeen 25 = .ok (.iload_n 2, 1) := by decide +kernel
theorem dX2_absencesAsSeen_26 : decode cX2_absencesAsSeen 26 = .ok (.iconst 1, 1) := by decide +kernel
theorem dX2_absencesAsSeen_27 : decode cX2_absencesAsSeen 27 = .ok (.iload_n 3, 1) := by decide +kernel
theorem dX2_absencesAsSeen_28 : decode cX2_absencesAsSeen 28 = .ok (.ishl, 1) := by decide +kernel
theorem dX2_absencesAsSeen_29 : decode cX2_absencesAsSeen 29 = .ok (.ior, 1) := by decide +kernel
theorem dX2_absencesAsSeen_30 : decode cX2_absencesAsSeen 30 = .ok (.istore_n 2, 1) := by decide +kernel
theorem dX2_absencesAsSeen_31 : decode cX2_absencesAsSeen 31 = .ok (.iinc 3 1, 3) := by decide +kernel
theorem dX2_absencesAsSeen_34 : decode cX2_absencesAsSeen 34 = .ok (.goto (-30), 3) := by decide +kernel
theorem dX2_absencesAsSeen_37 : decode cX2_absencesAsSeen 37 = .ok (.iload_n 2, 1) := by decide +kernel
theorem dX2_absencesAsSeen_38 : decode cX2_absencesAsSeen 38 = .ok (.ireturn, 1) := by decide +kernel
def f_X2_absencesAsSeen_L4 (X : x_X) : Nat → Nat → Nat → Int32 → Int32 → x_M → Option (Int32 × x_M)
  | 0, _, _, _, _, _ => none
  | n + 1, v3, v4, v5, v6, μ7 =>
    (ck (x_kd X v4 = 7 + 1) (if (μ7.1 v4 6) ≤ v6 then (some (v5, μ7)) else (ck (x_kd X v3 = 2 + 1) (bd (f_X2_beginWithout X v3 v4 v6 μ7) (fun (_ : Unit) (μ8 : x_M) => (ck (x_kd X v3 = 2 + 1) (bd (f_X2_goesAsSeen X v3 μ8) (fun (v9 : Int32) (μ10 : x_M) => (if v9 = 0 then (f_X2_absencesAsSeen_L4 X n v3 v4 v5 (v6 + (1 : Int32)) μ10) else (lt (v5 ||| ((1 : Int32) <<< (v6 &&& 31))) (fun (v11 : Int32) => (f_X2_absencesAsSeen_L4 X n v3 v4 v11 (v6 + (1 : Int32)) μ10))))))))))))
set_option maxRecDepth 100000 in
theorem j_X2_absencesAsSeen_L4 (hI : x_I X) (hC : x_C X x_Z0 p (x_rm 7) s m c cX2_absencesAsSeen RX2 4 0 0 7) (hr : meth.sig.returnType = (some .int)) (hlk : meth.locks = false) : ∀ (n : Nat) (v3 : Nat) (v4 : Nat) (v5 : Int32) (v6 : Int32) (μ7 : x_M), SM X 4 7 rkI p l e s m args below meth c 4 [(0, vR v3), (1, vR v4), (2, vI v5), (3, vI v6)] [] μ7 (f_X2_absencesAsSeen_L4 X n v3 v4 v5 v6 μ7) := by
  intro n
  induction n with
  | zero => intro v3 v4 v5 v6 μ7; exact s_none
  | succ n ih =>
    intro v3 v4 v5 v6 μ7
    unfold f_X2_absencesAsSeen_L4
    refine s_iload_n hC 3 dX2_absencesAsSeen_4 rfl ?_
    refine s_aload_n hC 1 dX2_absencesAsSeen_5 rfl ?_
    refine s_getI hC xc7 (by decide) rfl qf_X2_99 dX2_absencesAsSeen_6 ?_
    refine s_icmp_ge hC dX2_absencesAsSeen_9 (tgt := 37) (by decide) ?_ ?_
    · refine s_iload_n hC 2 dX2_absencesAsSeen_37 rfl ?_
      exact s_iret hC hr hlk dX2_absencesAsSeen_38
    refine s_aload_n hC 0 dX2_absencesAsSeen_12 rfl ?_
    refine s_aload_n hC 1 dX2_absencesAsSeen_13 rfl ?_
    refine s_iload_n hC 3 dX2_absencesAsSeen_14 rfl ?_
    refine s_callV hC (x := v3) (avs := [vR v4, vI v6]) (st := []) (nest := false) xc2 (m_X2_beginWithout hI v3 v4 v6 μ7) dX2_absencesAsSeen_15 qm_X2_76 qi_X2_beginWithout qs_X2_beginWithout qc_X2 qd_X2_beginWithout qh_X2_beginWithout (by decide) (fun _ => Nat.le_of_ble_eq_true rfl) (Nat.le_of_ble_eq_true rfl) (fun _ μ8 => ?_)
    refine s_aload_n hC 0 dX2_absencesAsSeen_18 rfl ?_
    refine s_callV hC (x := v3) (avs := []) (st := []) (nest := false) xc2 (m_X2_goesAsSeen hI v3 μ8) dX2_absencesAsSeen_19 qm_X2_96 qi_X2_goesAsSeen qs_X2_goesAsSeen qc_X2 qd_X2_goesAsSeen qh_X2_goesAsSeen (by decide) (fun _ => Nat.le_of_ble_eq_true rfl) (Nat.le_of_ble_eq_true rfl) (fun v9 μ10 => ?_)
    refine s_if_eq hC dX2_absencesAsSeen_22 (tgt := 31) (by decide) ?_ ?_
    · refine s_iinc hC 3 dX2_absencesAsSeen_31 rfl (w := 1) (by decide) (by decide) (lv' := [(3, vI (v6 + (1 : Int32))), (0, vR v3), (1, vR v4), (2, vI v5)]) rfl ?_
      refine s_goto hC dX2_absencesAsSeen_34 (tgt := 4) (by decide) ?_
      refine s_lv (lv' := [(0, vR v3), (1, vR v4), (2, vI v5), (3, vI (v6 + (1 : Int32)))]) [1, 2, 3, 0] rfl ?_
      exact ih _ _ _ _ _
    refine s_iload_n hC 2 dX2_absencesAsSeen_25 rfl ?_
    refine s_iconst hC dX2_absencesAsSeen_26 (v := 1) (by decide) ?_
    refine s_iload_n hC 3 dX2_absencesAsSeen_27 rfl ?_
    refine s_ishl hC dX2_absencesAsSeen_28 ?_
    refine s_ior hC dX2_absencesAsSeen_29 ?_
    refine s_ltI (fun v11 => ?_)
    refine s_istore_n hC dX2_absencesAsSeen_30 (by decide) (lv' := [(2, vI v11), (0, vR v3), (1, vR v4), (3, vI v6)]) rfl ?_
    refine s_iinc hC 3 dX2_absencesAsSeen_31 rfl (w := 1) (by decide) (by decide) (lv' := [(3, vI (v6 + (1 : Int32))), (2, vI v11), (0, vR v3), (1, vR v4)]) rfl ?_
    refine s_goto hC dX2_absencesAsSeen_34 (tgt := 4) (by decide) ?_
    refine s_lv (lv' := [(0, vR v3), (1, vR v4), (2, vI v11), (3, vI (v6 + (1 : Int32)))]) [2, 3, 1, 0] rfl ?_
    exact ih _ _ _ _ _
def f_X2_absencesAsSeen (X : x_X) (v0 : Nat) (v1 : Nat) (μ : x_M) : Option (Int32 × x_M) :=
  (f_X2_absencesAsSeen_L4 X 4096 v0 v1 (0 : Int32) (0 : Int32) μ)
set_option maxRecDepth 100000 in
theorem m_X2_absencesAsSeen (hI : x_I X) (v0 : Nat) (v1 : Nat) (μ : x_M) : x_Met X x_Z0 l yX2_absencesAsSeen cX2_absencesAsSeen 4 (some .int) 7 [vR v0, vR v1] μ rkI (f_X2_absencesAsSeen X v0 v1 μ) := by
  refine x_enter hI (by decide +kernel) (Nat.le_of_ble_eq_true rfl) (fun p e s m args below meth c hC hr hlk => ?_)
  unfold f_X2_absencesAsSeen
  refine s_lv (lv' := [(0, vR v0), (1, vR v1)]) [0, 1] rfl ?_
  refine s_iconst hC dX2_absencesAsSeen_0 (v := 0) (by decide) ?_
  refine s_istore_n hC dX2_absencesAsSeen_1 (by decide) (lv' := [(2, vI (0 : Int32)), (0, vR v0), (1, vR v1)]) rfl ?_
  refine s_iconst hC dX2_absencesAsSeen_2 (v := 0) (by decide) ?_
  refine s_istore_n hC dX2_absencesAsSeen_3 (by decide) (lv' := [(3, vI (0 : Int32)), (2, vI (0 : Int32)), (0, vR v0), (1, vR v1)]) rfl ?_
  refine s_lv (lv' := [(0, vR v0), (1, vR v1), (2, vI (0 : Int32)), (3, vI (0 : Int32))]) [2, 3, 1, 0] rfl ?_
  refine j_X2_absencesAsSeen_L4 hI hC hr hlk 4096 _ _ _ _ _
theorem dX2_springlessOdds_0 : decode cX2_springlessOdds 0 = .ok (.iconst 0, 1) := by decide +kernel
theorem dX2_springlessOdds_1 : decode cX2_springlessOdds 1 = .ok (.istore 4, 2) := by decide +kernel
theorem dX2_springlessOdds_3 : decode cX2_springlessOdds 3 = .ok (.iconst 0, 1) := by decide +kernel
theorem dX2_springlessOdds_4 : decode cX2_springlessOdds 4 = .ok (.istore 5, 2) := by decide +kernel
theorem dX2_springlessOdds_6 : decode cX2_springlessOdds 6 = .ok (.iload 5, 2) := by decide +kernel
theorem dX2_springlessOdds_8 : decode cX2_springlessOdds 8 = .ok (.iload_n 2, 1) := by decide +kernel
theorem dX2_springlessOdds_9 : decode cX2_springlessOdds 9 = .ok (.if_icmp .ge 42, 3) := by decide +kernel
theorem dX2_springlessOdds_12 : decode cX2_springlessOdds 12 = .ok (.aload_n 0, 1) := by decide +kernel
theorem dX2_springlessOdds_13 : decode cX2_springlessOdds 13 = .ok (.getfield 12, 3) := by decide +kernel
theorem dX2_springlessOdds_16 : decode cX2_springlessOdds 16 = .ok (.aload_n 1, 1) := by decide +kernel
theorem dX2_springlessOdds_17 : decode cX2_springlessOdds 17 = .ok (.invokevirtual 18, 3) := by decide +kernel
theorem dX2_springlessOdds_20 : decode cX2_springlessOdds 20 = .ok (.aload_n 0, 1) := by decide +kernel
theorem dX2_springlessOdds_21 : decode cX2_springlessOdds 21 = .ok (.getfield 12, 3) := by decide +kernel
theorem dX2_springlessOdds_24 : decode cX2_springlessOdds 24 = .ok (.aload_n 1, 1) := by decide +kernel
theorem dX2_springlessOdds_25 : decode cX2_springlessOdds 25 = .ok (.getfield 102, 3) := by decide +kernel
theorem dX2_springlessOdds_28 : decode cX2_springlessOdds 28 = .ok (.iload 5, 2) := by decide +kernel
theorem dX2_springlessOdds_30 : decode cX2_springlessOdds 30 = .ok (.iadd, 1) := by decide +kernel
theorem dX2_springlessOdds_31 : decode cX2_springlessOdds 31 = .ok (.putfield 105, 3) := by decide +kernel
theorem dX2_springlessOdds_34 : decode cX2_springlessOdds 34 = .ok (.aload_n 0, 1) := by decide +kernel
theorem dX2_springlessOdds_35 : decode cX2_springlessOdds 35 = .ok (.iload_n 2, 1) := by decide +kernel
theorem dX2_springlessOdds_36 : decode cX2_springlessOdds 36 = .ok (.invokevirtual 62, 3) := by decide +kernel
theorem dX2_springlessOdds_39 : decode cX2_springlessOdds 39 = .ok (.ifCond .ne 6, 3) := by decide +kernel
theorem dX2_springlessOdds_42 : decode cX2_springlessOdds 42 = .ok (.iinc 4 1, 3) := by decide +kernel
theorem dX2_springlessOdds_45 : decode cX2_springlessOdds 45 = .ok (.iinc 5 1, 3) := by decide +kernel
theorem dX2_springlessOdds_48 : decode cX2_springlessOdds 48 = .ok (.goto (-42), 3) := by decide +kernel
theorem dX2_springlessOdds_51 : decode cX2_springlessOdds 51 = .ok (.iload 4, 2) := by decide +kernel
theorem dX2_springlessOdds_53 : decode cX2_springlessOdds 53 = .ok (.i2l, 1) := by decide +kernel
theorem dX2_springlessOdds_54 : decode cX2_springlessOdds 54 = .ok (.iload_n 2, 1) := by decide +kernel
theorem dX2_springlessOdds_55 : decode cX2_springlessOdds 55 = .ok (.i2l, 1) := by decide +kernel
theorem dX2_springlessOdds_56 : decode cX2_springlessOdds 56 = .ok (.iload_n 3, 1) := by decide +kernel
theorem dX2_springlessOdds_57 : decode cX2_springlessOdds 57 = .ok (.invokestatic 89, 3) := by decide +kernel
theorem dX2_springlessOdds_60 : decode cX2_springlessOdds 60 = .ok (.lreturn, 1) := by decide +kernel
def f_X2_springlessOdds_L6 (X : x_X) (k51 : Int32 → Int32 → Int32 → x_M → Option (Int64 × x_M)) : Nat → Nat → Nat → Int32 → Int32 → Int32 → Int32 → x_M → Option (Int64 × x_M)
  | 0, _, _, _, _, _, _, _ => none
  | n + 1, v5, v6, v7, v8, v9, v10, μ11 =>
    (if v7 ≤ v10 then (k51 v7 v8 v9 μ11) else (ck (x_kd X v5 = 2 + 1) (lt (μ11.2.1 v5 0) (fun (v12 : Nat) => (ck (x_kd X v12 = 7 + 1) (bd (f_X7_copyFrom X v12 v6 μ11) (fun (_ : Unit) (μ13 : x_M) => (ck (x_kd X v5 = 2 + 1) (lt (μ13.2.1 v5 0) (fun (v14 : Nat) => (ck (x_kd X v6 = 7 + 1) (ck (x_kd X v14 = 7 + 1) (lt (x_sI μ13 v14 11 ((μ13.1 v6 9) + v10)) (fun (μ15 : x_M) => (ck (x_kd X v5 = 2 + 1) (bd (f_X2_staysWet X v5 v7 μ15) (fun (v16 : Int32) (μ17 : x_M) => (if v16 = 0 then (f_X2_springlessOdds_L6 X k51 n v5 v6 v7 v8 (v9 + (1 : Int32)) (v10 + (1 : Int32)) μ17) else (f_X2_springlessOdds_L6 X k51 n v5 v6 v7 v8 v9 (v10 + (1 : Int32)) μ17)))))))))))))))))))
set_option maxRecDepth 100000 in
theorem j_X2_springlessOdds_L6 (hI : x_I X) (hC : x_C X x_Z0 p (x_rm 7) s m c cX2_springlessOdds RX2 6 0 0 7) (hr : meth.sig.returnType = (some .long)) (hlk : meth.locks = false) {k51 : Int32 → Int32 → Int32 → x_M → Option (Int64 × x_M)} (hk51 : ∀ (b2 : Int32) (b3 : Int32) (b4 : Int32) (μ : x_M), SM X 6 7 rkJ p l e s m args below meth c 51 [(2, vI b2), (3, vI b3), (4, vI b4)] [] μ (k51 b2 b3 b4 μ)) : ∀ (n : Nat) (v5 : Nat) (v6 : Nat) (v7 : Int32) (v8 : Int32) (v9 : Int32) (v10 : Int32) (μ11 : x_M), SM X 6 7 rkJ p l e s m args below meth c 6 [(0, vR v5), (1, vR v6), (2, vI v7), (3, vI v8), (4, vI v9), (5, vI v10)] [] μ11 (f_X2_springlessOdds_L6 X k51 n v5 v6 v7 v8 v9 v10 μ11) := by
  intro n
  induction n with
  | zero => intro v5 v6 v7 v8 v9 v10 μ11; exact s_none
  | succ n ih =>
    intro v5 v6 v7 v8 v9 v10 μ11
    unfold f_X2_springlessOdds_L6
    refine s_iload hC 5 dX2_springlessOdds_6 rfl ?_
    refine s_iload_n hC 2 dX2_springlessOdds_8 rfl ?_
    refine s_icmp_ge hC dX2_springlessOdds_9 (tgt := 51) (by decide) ?_ ?_
    · refine s_lv (lv' := [(2, vI v7), (3, vI v8), (4, vI v9)]) [2, 3, 4] rfl ?_
      exact hk51 _ _ _ _
    refine s_aload_n hC 0 dX2_springlessOdds_12 rfl ?_
    refine s_getR hC xc2 (by decide) rfl qf_X2_12 dX2_springlessOdds_13 ?_
    refine s_ltR (fun v12 => ?_)
    refine s_aload_n hC 1 dX2_springlessOdds_16 rfl ?_
    refine s_callV hC (x := v12) (avs := [vR v6]) (st := []) (nest := false) xc7 (m_X7_copyFrom hI v12 v6 μ11) dX2_springlessOdds_17 qm_X2_18 qi_X7_copyFrom qs_X7_copyFrom qc_X7 qd_X7_copyFrom qh_X7_copyFrom (by decide) (fun _ => Nat.le_of_ble_eq_true rfl) (Nat.le_of_ble_eq_true rfl) (fun _ μ13 => ?_)
    refine s_aload_n hC 0 dX2_springlessOdds_20 rfl ?_
    refine s_getR hC xc2 (by decide) rfl qf_X2_12 dX2_springlessOdds_21 ?_
    refine s_ltR (fun v14 => ?_)
    refine s_aload_n hC 1 dX2_springlessOdds_24 rfl ?_
    refine s_getI hC xc7 (by decide) rfl qf_X2_102 dX2_springlessOdds_25 ?_
    refine s_iload hC 5 dX2_springlessOdds_28 rfl ?_
    refine s_iadd hC dX2_springlessOdds_30 ?_
    refine s_putI hC xc7 (by decide) rfl rfl qf_X2_105 dX2_springlessOdds_31 ?_
    refine s_ltM (fun μ15 => ?_)
    refine s_aload_n hC 0 dX2_springlessOdds_34 rfl ?_
    refine s_iload_n hC 2 dX2_springlessOdds_35 rfl ?_
    refine s_callV hC (x := v5) (avs := [vI v7]) (st := []) (nest := false) xc2 (m_X2_staysWet hI v5 v7 μ15) dX2_springlessOdds_36 qm_X2_62 qi_X2_staysWet qs_X2_staysWet qc_X2 qd_X2_staysWet qh_X2_staysWet (by decide) (fun _ => Nat.le_of_ble_eq_true rfl) (Nat.le_of_ble_eq_true rfl) (fun v16 μ17 => ?_)
    refine s_if_ne hC dX2_springlessOdds_39 (tgt := 45) (by decide) ?_ ?_
    · refine s_iinc hC 5 dX2_springlessOdds_45 rfl (w := 1) (by decide) (by decide) (lv' := [(5, vI (v10 + (1 : Int32))), (0, vR v5), (1, vR v6), (2, vI v7), (3, vI v8), (4, vI v9)]) rfl ?_
      refine s_goto hC dX2_springlessOdds_48 (tgt := 6) (by decide) ?_
      refine s_lv (lv' := [(0, vR v5), (1, vR v6), (2, vI v7), (3, vI v8), (4, vI v9), (5, vI (v10 + (1 : Int32)))]) [1, 2, 3, 4, 5, 0] rfl ?_
      exact ih _ _ _ _ _ _ _
    refine s_iinc hC 4 dX2_springlessOdds_42 rfl (w := 1) (by decide) (by decide) (lv' := [(4, vI (v9 + (1 : Int32))), (0, vR v5), (1, vR v6), (2, vI v7), (3, vI v8), (5, vI v10)]) rfl ?_
    refine s_iinc hC 5 dX2_springlessOdds_45 rfl (w := 1) (by decide) (by decide) (lv' := [(5, vI (v10 + (1 : Int32))), (4, vI (v9 + (1 : Int32))), (0, vR v5), (1, vR v6), (2, vI v7), (3, vI v8)]) rfl ?_
    refine s_goto hC dX2_springlessOdds_48 (tgt := 6) (by decide) ?_
    refine s_lv (lv' := [(0, vR v5), (1, vR v6), (2, vI v7), (3, vI v8), (4, vI (v9 + (1 : Int32))), (5, vI (v10 + (1 : Int32)))]) [2, 3, 4, 5, 1, 0] rfl ?_
    exact ih _ _ _ _ _ _ _
def f_X2_springlessOdds (X : x_X) (v0 : Nat) (v1 : Nat) (v2 : Int32) (v3 : Int32) (μ : x_M) : Option (Int64 × x_M) :=
  (f_X2_springlessOdds_L6 X (fun (v18 : Int32) (v19 : Int32) (v20 : Int32) (μ21 : x_M) => (bd (f_X9_lowestTerms X ((v20).toInt64) ((v18).toInt64) v19 μ21) (fun (v22 : Int64) (μ23 : x_M) => (some (v22, μ23))))) 4096 v0 v1 v2 v3 (0 : Int32) (0 : Int32) μ)
set_option maxRecDepth 100000 in
theorem m_X2_springlessOdds (hI : x_I X) (v0 : Nat) (v1 : Nat) (v2 : Int32) (v3 : Int32) (μ : x_M) : x_Met X x_Z0 l yX2_springlessOdds cX2_springlessOdds 6 (some .long) 7 [vR v0, vR v1, vI v2, vI v3] μ rkJ (f_X2_springlessOdds X v0 v1 v2 v3 μ) := by
  refine x_enter hI (by decide +kernel) (Nat.le_of_ble_eq_true rfl) (fun p e s m args below meth c hC hr hlk => ?_)
  unfold f_X2_springlessOdds
  refine s_lv (lv' := [(0, vR v0), (1, vR v1), (2, vI v2), (3, vI v3)]) [0, 1, 2, 3] rfl ?_
  refine s_iconst hC dX2_springlessOdds_0 (v := 0) (by decide) ?_
  refine s_istore hC dX2_springlessOdds_1 (by decide) (lv' := [(4, vI (0 : Int32)), (0, vR v0), (1, vR v1), (2, vI v2), (3, vI v3)]) rfl ?_
  refine s_iconst hC dX2_springlessOdds_3 (v := 0) (by decide) ?_
  refine s_istore hC dX2_springlessOdds_4 (by decide) (lv' := [(5, vI (0 : Int32)), (4, vI (0 : Int32)), (0, vR v0), (1, vR v1), (2, vI v2), (3, vI v3)]) rfl ?_
  refine s_lv (lv' := [(0, vR v0), (1, vR v1), (2, vI v2), (3, vI v3), (4, vI (0 : Int32)), (5, vI (0 : Int32))]) [2, 3, 4, 5, 1, 0] rfl ?_
  refine j_X2_springlessOdds_L6 hI hC hr hlk (fun v18 v19 v20 μ21 => ?_) 4096 _ _ _ _ _ _ _
  refine s_iload hC 2 dX2_springlessOdds_51 rfl ?_
  refine s_i2l hC dX2_springlessOdds_53 ?_
  refine s_iload_n hC 0 dX2_springlessOdds_54 rfl ?_
  refine s_i2l hC dX2_springlessOdds_55 ?_
  refine s_iload_n hC 1 dX2_springlessOdds_56 rfl ?_
  refine s_callS hC (avs := [vJ ((v20).toInt64), vJ ((v18).toInt64), vI v19]) (st := []) (nest := true) (m_X9_lowestTerms hI ((v20).toInt64) ((v18).toInt64) v19 μ21) dX2_springlessOdds_57 qm_X2_89 qt_X9_lowestTerms qc_X9 qd_X9_lowestTerms qh_X9_lowestTerms (by decide) (fun _ => Nat.le_of_ble_eq_true rfl) (Nat.le_of_ble_eq_true rfl) (fun v22 μ23 => ?_)
  exact s_lret hC hr hlk dX2_springlessOdds_60
