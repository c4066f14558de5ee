variable {X : x_X} {l : Launch} {p : Program} {e : Env} {s : State} {m : MethodId} {args : Array Value} {below : List Frame} {meth : Method} {c : Code}
theorem dX9_volume_0 : decode cX9_volume 0 = .ok (.iload_n 1, 1) := by decide +kernel
theorem dX9_volume_1 : decode cX9_volume 1 = .ok (.iconst 0, 1) := by decide +kernel
theorem dX9_volume_2 : decode cX9_volume 2 = .ok (.bipush 60, 2) := by decide +kernel
theorem dX9_volume_4 : decode cX9_volume 4 = .ok (.invokestatic 56, 3) := by decide +kernel
theorem dX9_volume_7 : decode cX9_volume 7 = .ok (.ifCond .eq 17, 3) := by decide +kernel
theorem dX9_volume_10 : decode cX9_volume 10 = .ok (.aload_n 0, 1) := by decide +kernel
theorem dX9_volume_11 : decode cX9_volume 11 = .ok (.getfield 12, 3) := by decide +kernel
theorem dX9_volume_14 : decode cX9_volume 14 = .ok (.getfield 60, 3) := by decide +kernel
theorem dX9_volume_17 : decode cX9_volume 17 = .ok (.iload_n 1, 1) := by decide +kernel
theorem dX9_volume_18 : decode cX9_volume 18 = .ok (.invokevirtual 70, 3) := by decide +kernel
theorem dX9_volume_21 : decode cX9_volume 21 = .ok (.goto 5, 3) := by decide +kernel
theorem dX9_volume_24 : decode cX9_volume 24 = .ok (.bipush (-2), 2) := by decide +kernel
theorem dX9_volume_26 : decode cX9_volume 26 = .ok (.ireturn, 1) := by decide +kernel
def f_X9_volume (X : x_X) (v0 : Nat) (v1 : Int32) (μ : x_M) : Option (Int32 × x_M) :=
  (bd (f_X9_within X v1 (0 : Int32) (60 : Int32) μ) (fun (v3 : Int32) (μ4 : x_M) => (if v3 = 0 then (some ((-2 : Int32), μ4)) else (ck (x_kd X v0 = 9 + 1) (lt (μ4.2.1 v0 0) (fun (v5 : Nat) => (ck (x_kd X v5 = 7 + 1) (lt (μ4.2.1 v5 0) (fun (v6 : Nat) => (ck (x_kd X v6 = 3 + 1) (bd (f_X3_volumeOf X v6 v1 μ4) (fun (v7 : Int32) (μ8 : x_M) => (some (v7, μ8))))))))))))))
set_option maxRecDepth 100000 in
theorem m_X9_volume (hI : x_I X) (v0 : Nat) (v1 : Int32) (μ : x_M) : x_Met X x_Z0 l yX9_volume cX9_volume 2 (some .int) 2 [vR v0, vI v1] μ rkI (f_X9_volume X v0 v1 μ) := by
  refine x_enter hI (by decide +kernel) (Nat.le_of_ble_eq_true rfl) (fun p e s m args below meth c hC hr hlk => ?_)
  unfold f_X9_volume
  refine s_lv (lv' := [(0, vR v0), (1, vI v1)]) [0, 1] rfl ?_
  refine s_iload_n hC 1 dX9_volume_0 rfl ?_
  refine s_iconst hC dX9_volume_1 (v := 0) (by decide) ?_
  refine s_bipush hC dX9_volume_2 (v := 60) (by decide) ?_
  refine s_callS hC (avs := [vI v1, vI (0 : Int32), vI (60 : Int32)]) (st := []) (nest := false) (m_X9_within hI v1 (0 : Int32) (60 : Int32) μ) dX9_volume_4 qm_X9_56 qt_X9_within qc_X9 qd_X9_within qh_X9_within (by decide) (fun _ => Nat.le_of_ble_eq_true rfl) (Nat.le_of_ble_eq_true rfl) (fun v3 μ4 => ?_)
  refine s_if_eq hC dX9_volume_7 (tgt := 24) (by decide) ?_ ?_
  · refine s_bipush hC dX9_volume_24 (v := -2) (by decide) ?_
    exact s_iret hC hr hlk dX9_volume_26
  refine s_aload_n hC 0 dX9_volume_10 rfl ?_
  refine s_getR hC xc9 (by decide) rfl qf_X9_12 dX9_volume_11 ?_
  refine s_ltR (fun v5 => ?_)
  refine s_getR hC xc7 (by decide) rfl qf_X9_60 dX9_volume_14 ?_
  refine s_ltR (fun v6 => ?_)
  refine s_iload_n hC 1 dX9_volume_17 rfl ?_
  refine s_callV hC (x := v6) (avs := [vI v1]) (st := []) (nest := false) xc3 (m_X3_volumeOf hI v6 v1 μ4) dX9_volume_18 qm_X9_70 qi_X3_volumeOf qs_X3_volumeOf qc_X3 qd_X3_volumeOf qh_X3_volumeOf (by decide) (fun _ => Nat.le_of_ble_eq_true rfl) (Nat.le_of_ble_eq_true rfl) (fun v7 μ8 => ?_)
  refine s_goto hC dX9_volume_21 (tgt := 26) (by decide) ?_
  exact s_iret hC hr hlk dX9_volume_26
theorem dX9_water_0 : decode cX9_water 0 = .ok (.iload_n 1, 1) := by decide +kernel
theorem dX9_water_1 : decode cX9_water 1 = .ok (.iconst 0, 1) := by decide +kernel
theorem dX9_water_2 : decode cX9_water 2 = .ok (.sipush 9999, 3) := by decide +kernel
theorem dX9_water_5 : decode cX9_water 5 = .ok (.invokestatic 56, 3) := by decide +kernel
theorem dX9_water_8 : decode cX9_water 8 = .ok (.ifCond .ne 6, 3) := by decide +kernel
theorem dX9_water_11 : decode cX9_water 11 = .ok (.bipush (-2), 2) := by decide +kernel
theorem dX9_water_13 : decode cX9_water 13 = .ok (.ireturn, 1) := by decide +kernel
theorem dX9_water_14 : decode cX9_water 14 = .ok (.aload_n 0, 1) := by decide +kernel
theorem dX9_water_15 : decode cX9_water 15 = .ok (.getfield 12, 3) := by decide +kernel
theorem dX9_water_18 : decode cX9_water 18 = .ok (.getfield 136, 3) := by decide +kernel
theorem dX9_water_21 : decode cX9_water 21 = .ok (.istore_n 2, 1) := by decide +kernel
theorem dX9_water_22 : decode cX9_water 22 = .ok (.aload_n 0, 1) := by decide +kernel
theorem dX9_water_23 : decode cX9_water 23 = .ok (.getfield 12, 3) := by decide +kernel
theorem dX9_water_26 : decode cX9_water 26 = .ok (.iload_n 1, 1) := by decide +kernel
theorem dX9_water_27 : decode cX9_water 27 = .ok (.putfield 136, 3) := by decide +kernel
theorem dX9_water_30 : decode cX9_water 30 = .ok (.iload_n 2, 1) := by decide +kernel
theorem dX9_water_31 : decode cX9_water 31 = .ok (.ireturn, 1) := by decide +kernel
def f_X9_water (X : x_X) (v0 : Nat) (v1 : Int32) (μ : x_M) : Option (Int32 × x_M) :=
  (bd (f_X9_within X v1 (0 : Int32) (9999 : Int32) μ) (fun (v3 : Int32) (μ4 : x_M) => (if v3 = 0 then (some ((-2 : Int32), μ4)) else (ck (x_kd X v0 = 9 + 1) (lt (μ4.2.1 v0 0) (fun (v5 : Nat) => (ck (x_kd X v5 = 7 + 1) (lt (μ4.1 v5 7) (fun (v6 : Int32) => (ck (x_kd X v0 = 9 + 1) (lt (μ4.2.1 v0 0) (fun (v7 : Nat) => (ck (x_kd X v7 = 7 + 1) (lt (x_sI μ4 v7 7 v1) (fun (μ8 : x_M) => (some (v6, μ8)))))))))))))))))
set_option maxRecDepth 100000 in
theorem m_X9_water (hI : x_I X) (v0 : Nat) (v1 : Int32) (μ : x_M) : x_Met X x_Z0 l yX9_water cX9_water 3 (some .int) 2 [vR v0, vI v1] μ rkI (f_X9_water X v0 v1 μ) := by
  refine x_enter hI (by decide +kernel) (Nat.le_of_ble_eq_true rfl) (fun p e s m args below meth c hC hr hlk => ?_)
  unfold f_X9_water
  refine s_lv (lv' := [(0, vR v0), (1, vI v1)]) [0, 1] rfl ?_
  refine s_iload_n hC 1 dX9_water_0 rfl ?_
  refine s_iconst hC dX9_water_1 (v := 0) (by decide) ?_
  refine s_sipush hC dX9_water_2 (v := 9999) (by decide) ?_
  refine s_callS hC (avs := [vI v1, vI (0 : Int32), vI (9999 : Int32)]) (st := []) (nest := false) (m_X9_within hI v1 (0 : Int32) (9999 : Int32) μ) dX9_water_5 qm_X9_56 qt_X9_within qc_X9 qd_X9_within qh_X9_within (by decide) (fun _ => Nat.le_of_ble_eq_true rfl) (Nat.le_of_ble_eq_true rfl) (fun v3 μ4 => ?_)
  refine s_if_ne hC dX9_water_8 (tgt := 14) (by decide) ?_ ?_
  · refine s_aload_n hC 0 dX9_water_14 rfl ?_
    refine s_getR hC xc9 (by decide) rfl qf_X9_12 dX9_water_15 ?_
    refine s_ltR (fun v5 => ?_)
    refine s_getI hC xc7 (by decide) rfl qf_X9_136 dX9_water_18 ?_
    refine s_ltI (fun v6 => ?_)
    refine s_istore_n hC dX9_water_21 (by decide) (lv' := [(2, vI v6), (0, vR v0), (1, vI v1)]) rfl ?_
    refine s_aload_n hC 1 dX9_water_22 rfl ?_
    refine s_getR hC xc9 (by decide) rfl qf_X9_12 dX9_water_23 ?_
    refine s_ltR (fun v7 => ?_)
    refine s_iload_n hC 2 dX9_water_26 rfl ?_
    refine s_putI hC xc7 (by decide) rfl rfl qf_X9_136 dX9_water_27 ?_
    refine s_ltM (fun μ8 => ?_)
    refine s_iload_n hC 0 dX9_water_30 rfl ?_
    exact s_iret hC hr hlk dX9_water_31
  refine s_bipush hC dX9_water_11 (v := -2) (by decide) ?_
  exact s_iret hC hr hlk dX9_water_13
theorem dX9_findTape_0 : decode cX9_findTape 0 = .ok (.iload_n 1, 1) := by decide +kernel
theorem dX9_findTape_1 : decode cX9_findTape 1 = .ok (.iconst 0, 1) := by decide +kernel
theorem dX9_findTape_2 : decode cX9_findTape 2 = .ok (.iconst 5, 1) := by decide +kernel
theorem dX9_findTape_3 : decode cX9_findTape 3 = .ok (.invokestatic 56, 3) := by decide +kernel
theorem dX9_findTape_6 : decode cX9_findTape 6 = .ok (.ifCond .eq 12, 3) := by decide +kernel
theorem dX9_findTape_9 : decode cX9_findTape 9 = .ok (.aload_n 0, 1) := by decide +kernel
theorem dX9_findTape_10 : decode cX9_findTape 10 = .ok (.getfield 43, 3) := by decide +kernel
theorem dX9_findTape_13 : decode cX9_findTape 13 = .ok (.iload_n 1, 1) := by decide +kernel
theorem dX9_findTape_14 : decode cX9_findTape 14 = .ok (.aaload, 1) := by decide +kernel
theorem dX9_findTape_15 : decode cX9_findTape 15 = .ok (.goto 4, 3) := by decide +kernel
theorem dX9_findTape_18 : decode cX9_findTape 18 = .ok (.aconst_null, 1) := by decide +kernel
theorem dX9_findTape_19 : decode cX9_findTape 19 = .ok (.areturn, 1) := by decide +kernel
def f_X9_findTape (X : x_X) (v0 : Nat) (v1 : Int32) (μ : x_M) : Option (Nat × x_M) :=
  (bd (f_X9_within X v1 (0 : Int32) (5 : Int32) μ) (fun (v3 : Int32) (μ4 : x_M) => (if v3 = 0 then (some (0, μ4)) else (ck (x_kd X v0 = 9 + 1) (lt (μ4.2.1 v0 5) (fun (v5 : Nat) => (ck ((x_kd X v5 = 23 ∨ x_kd X v5 = 24 ∨ x_kd X v5 = 25) ∧ x_ix v1 (x_ln X v5)) (lt (μ4.2.1 v5 (v1).toNatClampNeg) (fun (v6 : Nat) => (some (v6, μ4)))))))))))
set_option maxRecDepth 100000 in
theorem m_X9_findTape (hI : x_I X) (v0 : Nat) (v1 : Int32) (μ : x_M) : x_Met X x_Z0 l yX9_findTape cX9_findTape 2 (some (.object "LakeBooks$Tape")) 2 [vR v0, vI v1] μ rkR (f_X9_findTape X v0 v1 μ) := by
  refine x_enter hI (by decide +kernel) (Nat.le_of_ble_eq_true rfl) (fun p e s m args below meth c hC hr hlk => ?_)
  unfold f_X9_findTape
  refine s_lv (lv' := [(0, vR v0), (1, vI v1)]) [0, 1] rfl ?_
  refine s_iload_n hC 1 dX9_findTape_0 rfl ?_
  refine s_iconst hC dX9_findTape_1 (v := 0) (by decide) ?_
  refine s_iconst hC dX9_findTape_2 (v := 5) (by decide) ?_
  refine s_callS hC (avs := [vI v1, vI (0 : Int32), vI (5 : Int32)]) (st := []) (nest := false) (m_X9_within hI v1 (0 : Int32) (5 : Int32) μ) dX9_findTape_3 qm_X9_56 qt_X9_within qc_X9 qd_X9_within qh_X9_within (by decide) (fun _ => Nat.le_of_ble_eq_true rfl) (Nat.le_of_ble_eq_true rfl) (fun v3 μ4 => ?_)
  refine s_if_eq hC dX9_findTape_6 (tgt := 18) (by decide) ?_ ?_
  · refine s_null hC dX9_findTape_18 ?_
    exact s_aret hC hr (Or.inl ⟨_, rfl⟩) hlk dX9_findTape_19
  refine s_aload_n hC 0 dX9_findTape_9 rfl ?_
  refine s_getR hC xc9 (by decide) rfl qf_X9_43 dX9_findTape_10 ?_
  refine s_ltR (fun v5 => ?_)
  refine s_iload_n hC 1 dX9_findTape_13 rfl ?_
  refine s_aald hC dX9_findTape_14 ?_
  refine s_ltR (fun v6 => ?_)
  refine s_goto hC dX9_findTape_15 (tgt := 19) (by decide) ?_
  exact s_aret hC hr (Or.inl ⟨_, rfl⟩) hlk dX9_findTape_19
theorem dX9_trace_0 : decode cX9_trace 0 = .ok (.aload_n 0, 1) := by decide +kernel
theorem dX9_trace_1 : decode cX9_trace 1 = .ok (.getfield 50, 3) := by decide +kernel
theorem dX9_trace_4 : decode cX9_trace 4 = .ok (.iload_n 1, 1) := by decide +kernel
theorem dX9_trace_5 : decode cX9_trace 5 = .ok (.invokevirtual 293, 3) := by decide +kernel
theorem dX9_trace_8 : decode cX9_trace 8 = .ok (.ireturn, 1) := by decide +kernel
def f_X9_trace (X : x_X) (v0 : Nat) (v1 : Int32) (μ : x_M) : Option (Int32 × x_M) :=
  (ck (x_kd X v0 = 9 + 1) (lt (μ.2.1 v0 6) (fun (v3 : Nat) => (ck (x_kd X v3 = 1 + 1) (bd (f_X1_bodyAt X v3 v1 μ) (fun (v4 : Int32) (μ5 : x_M) => (some (v4, μ5))))))))
set_option maxRecDepth 100000 in
theorem m_X9_trace (hI : x_I X) (v0 : Nat) (v1 : Int32) (μ : x_M) : x_Met X x_Z0 l yX9_trace cX9_trace 2 (some .int) 2 [vR v0, vI v1] μ rkI (f_X9_trace X v0 v1 μ) := by
  refine x_enter hI (by decide +kernel) (Nat.le_of_ble_eq_true rfl) (fun p e s m args below meth c hC hr hlk => ?_)
  unfold f_X9_trace
  refine s_lv (lv' := [(0, vR v0), (1, vI v1)]) [0, 1] rfl ?_
  refine s_aload_n hC 0 dX9_trace_0 rfl ?_
  refine s_getR hC xc9 (by decide) rfl qf_X9_50 dX9_trace_1 ?_
  refine s_ltR (fun v3 => ?_)
  refine s_iload_n hC 1 dX9_trace_4 rfl ?_
  refine s_callV hC (x := v3) (avs := [vI v1]) (st := []) (nest := false) xc1 (m_X1_bodyAt hI v3 v1 μ) dX9_trace_5 qm_X9_293 qi_X1_bodyAt qs_X1_bodyAt qc_X1 qd_X1_bodyAt qh_X1_bodyAt (by decide) (fun _ => Nat.le_of_ble_eq_true rfl) (Nat.le_of_ble_eq_true rfl) (fun v4 μ5 => ?_)
  exact s_iret hC hr hlk dX9_trace_8
theorem dX9_count_0 : decode cX9_count 0 = .ok (.iload_n 1, 1) := by decide +kernel
theorem dX9_count_1 : decode cX9_count 1 = .ok (.tableswitch 105 0 6 #[43, 51, 56, 67, 78, 89, 97], 43) := by decide +kernel
theorem dX9_count_44 : decode cX9_count 44 = .ok (.aload_n 0, 1) := by decide +kernel
theorem dX9_count_45 : decode cX9_count 45 = .ok (.getfield 12, 3) := by decide +kernel
theorem dX9_count_48 : decode cX9_count 48 = .ok (.getfield 272, 3) := by decide +kernel
theorem dX9_count_51 : decode cX9_count 51 = .ok (.ireturn, 1) := by decide +kernel
theorem dX9_count_52 : decode cX9_count 52 = .ok (.aload_n 0, 1) := by decide +kernel
theorem dX9_count_53 : decode cX9_count 53 = .ok (.getfield 142, 3) := by decide +kernel
theorem dX9_count_56 : decode cX9_count 56 = .ok (.ireturn, 1) := by decide +kernel
theorem dX9_count_57 : decode cX9_count 57 = .ok (.aload_n 0, 1) := by decide +kernel
theorem dX9_count_58 : decode cX9_count 58 = .ok (.getfield 12, 3) := by decide +kernel
theorem dX9_count_61 : decode cX9_count 61 = .ok (.getfield 218, 3) := by decide +kernel
theorem dX9_count_64 : decode cX9_count 64 = .ok (.invokevirtual 252, 3) := by decide +kernel
theorem dX9_count_67 : decode cX9_count 67 = .ok (.ireturn, 1) := by decide +kernel
theorem dX9_count_68 : decode cX9_count 68 = .ok (.aload_n 0, 1) := by decide +kernel
theorem dX9_count_69 : decode cX9_count 69 = .ok (.getfield 12, 3) := by decide +kernel
theorem dX9_count_72 : decode cX9_count 72 = .ok (.getfield 242, 3) := by decide +kernel
theorem dX9_count_75 : decode cX9_count 75 = .ok (.invokevirtual 252, 3) := by decide +kernel
theorem dX9_count_78 : decode cX9_count 78 = .ok (.ireturn, 1) := by decide +kernel
theorem dX9_count_79 : decode cX9_count 79 = .ok (.aload_n 0, 1) := by decide +kernel
theorem dX9_count_80 : decode cX9_count 80 = .ok (.getfield 12, 3) := by decide +kernel
theorem dX9_count_83 : decode cX9_count 83 = .ok (.getfield 249, 3) := by decide +kernel
theorem dX9_count_86 : decode cX9_count 86 = .ok (.invokevirtual 252, 3) := by decide +kernel
theorem dX9_count_89 : decode cX9_count 89 = .ok (.ireturn, 1) := by decide +kernel
theorem dX9_count_90 : decode cX9_count 90 = .ok (.aload_n 0, 1) := by decide +kernel
theorem dX9_count_91 : decode cX9_count 91 = .ok (.getfield 31, 3) := by decide +kernel
theorem dX9_count_94 : decode cX9_count 94 = .ok (.invokevirtual 299, 3) := by decide +kernel
theorem dX9_count_97 : decode cX9_count 97 = .ok (.ireturn, 1) := by decide +kernel
theorem dX9_count_98 : decode cX9_count 98 = .ok (.aload_n 0, 1) := by decide +kernel
theorem dX9_count_99 : decode cX9_count 99 = .ok (.getfield 50, 3) := by decide +kernel
theorem dX9_count_102 : decode cX9_count 102 = .ok (.invokevirtual 302, 3) := by decide +kernel
theorem dX9_count_105 : decode cX9_count 105 = .ok (.ireturn, 1) := by decide +kernel
theorem dX9_count_106 : decode cX9_count 106 = .ok (.bipush (-2), 2) := by decide +kernel
theorem dX9_count_108 : decode cX9_count 108 = .ok (.ireturn, 1) := by decide +kernel
def f_X9_count (X : x_X) (v0 : Nat) (v1 : Int32) (μ : x_M) : Option (Int32 × x_M) :=
  (x_swo [(0 : Int32), (1 : Int32), (2 : Int32), (3 : Int32), (4 : Int32), (5 : Int32), (6 : Int32)] [(ck (x_kd X v0 = 9 + 1) (lt (μ.2.1 v0 0) (fun (v3 : Nat) => (ck (x_kd X v3 = 7 + 1) (some ((μ.1 v3 6), μ)))))), (ck (x_kd X v0 = 9 + 1) (some ((μ.1 v0 8), μ))), (ck (x_kd X v0 = 9 + 1) (lt (μ.2.1 v0 0) (fun (v4 : Nat) => (ck (x_kd X v4 = 7 + 1) (lt (μ.2.1 v4 2) (fun (v5 : Nat) => (ck (x_kd X v5 = 6 + 1) (bd (f_X6_size X v5 μ) (fun (v6 : Int32) (μ7 : x_M) => (some (v6, μ7))))))))))), (ck (x_kd X v0 = 9 + 1) (lt (μ.2.1 v0 0) (fun (v8 : Nat) => (ck (x_kd X v8 = 7 + 1) (lt (μ.2.1 v8 3) (fun (v9 : Nat) => (ck (x_kd X v9 = 6 + 1) (bd (f_X6_size X v9 μ) (fun (v10 : Int32) (μ11 : x_M) => (some (v10, μ11))))))))))), (ck (x_kd X v0 = 9 + 1) (lt (μ.2.1 v0 0) (fun (v12 : Nat) => (ck (x_kd X v12 = 7 + 1) (lt (μ.2.1 v12 4) (fun (v13 : Nat) => (ck (x_kd X v13 = 6 + 1) (bd (f_X6_size X v13 μ) (fun (v14 : Int32) (μ15 : x_M) => (some (v14, μ15))))))))))), (ck (x_kd X v0 = 9 + 1) (lt (μ.2.1 v0 3) (fun (v16 : Nat) => (ck (x_kd X v16 = 5 + 1) (bd (f_X5_length X v16 μ) (fun (v17 : Int32) (μ18 : x_M) => (some (v17, μ18)))))))), (ck (x_kd X v0 = 9 + 1) (lt (μ.2.1 v0 6) (fun (v19 : Nat) => (ck (x_kd X v19 = 1 + 1) (bd (f_X1_ran X v19 μ) (fun (v20 : Int32) (μ21 : x_M) => (some (v20, μ21))))))))] (some ((-2 : Int32), μ)) v1)
set_option maxRecDepth 100000 in
theorem m_X9_count (hI : x_I X) (v0 : Nat) (v1 : Int32) (μ : x_M) : x_Met X x_Z0 l yX9_count cX9_count 2 (some .int) 2 [vR v0, vI v1] μ rkI (f_X9_count X v0 v1 μ) := by
  refine x_enter hI (by decide +kernel) (Nat.le_of_ble_eq_true rfl) (fun p e s m args below meth c hC hr hlk => ?_)
  unfold f_X9_count
  refine s_lv (lv' := [(0, vR v0), (1, vI v1)]) [0, 1] rfl ?_
  refine s_iload_n hC 1 dX9_count_0 rfl ?_
  refine s_table hC dX9_count_1 [((0 : Int32), 44), ((1 : Int32), 52), ((2 : Int32), 57), ((3 : Int32), 68), ((4 : Int32), 79), ((5 : Int32), 90), ((6 : Int32), 98)] 106 (by decide +kernel) ⟨?_, ?_, ?_, ?_, ?_, ?_, ?_, trivial⟩ ?_
  · refine s_aload_n hC 0 dX9_count_44 rfl ?_
    refine s_getR hC xc9 (by decide) rfl qf_X9_12 dX9_count_45 ?_
    refine s_ltR (fun v3 => ?_)
    refine s_getI hC xc7 (by decide) rfl qf_X9_272 dX9_count_48 ?_
    exact s_iret hC hr hlk dX9_count_51
  · refine s_aload_n hC 0 dX9_count_52 rfl ?_
    refine s_getI hC xc9 (by decide) rfl qf_X9_142 dX9_count_53 ?_
    exact s_iret hC hr hlk dX9_count_56
  · refine s_aload_n hC 0 dX9_count_57 rfl ?_
    refine s_getR hC xc9 (by decide) rfl qf_X9_12 dX9_count_58 ?_
    refine s_ltR (fun v4 => ?_)
    refine s_getR hC xc7 (by decide) rfl qf_X9_218 dX9_count_61 ?_
    refine s_ltR (fun v5 => ?_)
    refine s_callV hC (x := v5) (avs := []) (st := []) (nest := false) xc6 (m_X6_size hI v5 μ) dX9_count_64 qm_X9_252 qi_X6_size qs_X6_size qc_X6 qd_X6_size qh_X6_size (by decide) (fun _ => Nat.le_of_ble_eq_true rfl) (Nat.le_of_ble_eq_true rfl) (fun v6 μ7 => ?_)
    exact s_iret hC hr hlk dX9_count_67
  · refine s_aload_n hC 0 dX9_count_68 rfl ?_
    refine s_getR hC xc9 (by decide) rfl qf_X9_12 dX9_count_69 ?_
    refine s_ltR (fun v8 => ?_)
    refine s_getR hC xc7 (by decide) rfl qf_X9_242 dX9_count_72 ?_
    refine s_ltR (fun v9 => ?_)
    refine s_callV hC (x := v9) (avs := []) (st := []) (nest := false) xc6 (m_X6_size hI v9 μ) dX9_count_75 qm_X9_252 qi_X6_size qs_X6_size qc_X6 qd_X6_size qh_X6_size (by decide) (fun _ => Nat.le_of_ble_eq_true rfl) (Nat.le_of_ble_eq_true rfl) (fun v10 μ11 => ?_)
    exact s_iret hC hr hlk dX9_count_78
  · refine s_aload_n hC 0 dX9_count_79 rfl ?_
    refine s_getR hC xc9 (by decide) rfl qf_X9_12 dX9_count_80 ?_
    refine s_ltR (fun v12 => ?_)
    refine s_getR hC xc7 (by decide) rfl qf_X9_249 dX9_count_83 ?_
    refine s_ltR (fun v13 => ?_)
    refine s_callV hC (x := v13) (avs := []) (st := []) (nest := false) xc6 (m_X6_size hI v13 μ) dX9_count_86 qm_X9_252 qi_X6_size qs_X6_size qc_X6 qd_X6_size qh_X6_size (by decide) (fun _ => Nat.le_of_ble_eq_true rfl) (Nat.le_of_ble_eq_true rfl) (fun v14 μ15 => ?_)
    exact s_iret hC hr hlk dX9_count_89
  · refine s_aload_n hC 0 dX9_count_90 rfl ?_
    refine s_getR hC xc9 (by decide) rfl qf_X9_31 dX9_count_91 ?_
    refine s_ltR (fun v16 => ?_)
    refine s_callV hC (x := v16) (avs := []) (st := []) (nest := false) xc5 (m_X5_length hI v16 μ) dX9_count_94 qm_X9_299 qi_X5_length qs_X5_length qc_X5 qd_X5_length qh_X5_length (by decide) (fun _ => Nat.le_of_ble_eq_true rfl) (Nat.le_of_ble_eq_true rfl) (fun v17 μ18 => ?_)
    exact s_iret hC hr hlk dX9_count_97
  · refine s_aload_n hC 0 dX9_count_98 rfl ?_
    refine s_getR hC xc9 (by decide) rfl qf_X9_50 dX9_count_99 ?_
    refine s_ltR (fun v19 => ?_)
    refine s_callV hC (x := v19) (avs := []) (st := []) (nest := false) xc1 (m_X1_ran hI v19 μ) dX9_count_102 qm_X9_302 qi_X1_ran qs_X1_ran qc_X1 qd_X1_ran qh_X1_ran (by decide) (fun _ => Nat.le_of_ble_eq_true rfl) (Nat.le_of_ble_eq_true rfl) (fun v20 μ21 => ?_)
    exact s_iret hC hr hlk dX9_count_105
  refine s_bipush hC dX9_count_106 (v := -2) (by decide) ?_
  exact s_iret hC hr hlk dX9_count_108
theorem dX9_area_0 : decode cX9_area 0 = .ok (.iload_n 1, 1) := by decide +kernel
theorem dX9_area_1 : decode cX9_area 1 = .ok (.iconst 0, 1) := by decide +kernel
theorem dX9_area_2 : decode cX9_area 2 = .ok (.iconst 5, 1) := by decide +kernel
theorem dX9_area_3 : decode cX9_area 3 = .ok (.invokestatic 56, 3) := by decide +kernel
theorem dX9_area_6 : decode cX9_area 6 = .ok (.ifCond .ne 5, 3) := by decide +kernel
theorem dX9_area_9 : decode cX9_area 9 = .ok (.iconst (-1), 1) := by decide +kernel
theorem dX9_area_10 : decode cX9_area 10 = .ok (.ireturn, 1) := by decide +kernel
theorem dX9_area_11 : decode cX9_area 11 = .ok (.iload_n 2, 1) := by decide +kernel
theorem dX9_area_12 : decode cX9_area 12 = .ok (.iconst 1, 1) := by decide +kernel
theorem dX9_area_13 : decode cX9_area 13 = .ok (.bipush 20, 2) := by decide +kernel
theorem dX9_area_15 : decode cX9_area 15 = .ok (.invokestatic 56, 3) := by decide +kernel
theorem dX9_area_18 : decode cX9_area 18 = .ok (.ifCond .ne 6, 3) := by decide +kernel
theorem dX9_area_21 : decode cX9_area 21 = .ok (.bipush (-2), 2) := by decide +kernel
theorem dX9_area_23 : decode cX9_area 23 = .ok (.ireturn, 1) := by decide +kernel
theorem dX9_area_24 : decode cX9_area 24 = .ok (.aload_n 0, 1) := by decide +kernel
theorem dX9_area_25 : decode cX9_area 25 = .ok (.getfield 12, 3) := by decide +kernel
theorem dX9_area_28 : decode cX9_area 28 = .ok (.getfield 60, 3) := by decide +kernel
theorem dX9_area_31 : decode cX9_area 31 = .ok (.iload_n 1, 1) := by decide +kernel
theorem dX9_area_32 : decode cX9_area 32 = .ok (.iload_n 2, 1) := by decide +kernel
theorem dX9_area_33 : decode cX9_area 33 = .ok (.invokevirtual 64, 3) := by decide +kernel
theorem dX9_area_36 : decode cX9_area 36 = .ok (.ireturn, 1) := by decide +kernel
def f_X9_area (X : x_X) (v0 : Nat) (v1 : Int32) (v2 : Int32) (μ : x_M) : Option (Int32 × x_M) :=
  (bd (f_X9_within X v1 (0 : Int32) (5 : Int32) μ) (fun (v4 : Int32) (μ5 : x_M) => (if v4 = 0 then (some ((-1 : Int32), μ5)) else (bd (f_X9_within X v2 (1 : Int32) (20 : Int32) μ5) (fun (v6 : Int32) (μ7 : x_M) => (if v6 = 0 then (some ((-2 : Int32), μ7)) else (ck (x_kd X v0 = 9 + 1) (lt (μ7.2.1 v0 0) (fun (v8 : Nat) => (ck (x_kd X v8 = 7 + 1) (lt (μ7.2.1 v8 0) (fun (v9 : Nat) => (ck (x_kd X v9 = 3 + 1) (bd (f_X3_change X v9 v1 v2 μ7) (fun (v10 : Int32) (μ11 : x_M) => (some (v10, μ11)))))))))))))))))
set_option maxRecDepth 100000 in
theorem m_X9_area (hI : x_I X) (v0 : Nat) (v1 : Int32) (v2 : Int32) (μ : x_M) : x_Met X x_Z0 l yX9_area cX9_area 3 (some .int) 3 [vR v0, vI v1, vI v2] μ rkI (f_X9_area X v0 v1 v2 μ) := by
  refine x_enter hI (by decide +kernel) (Nat.le_of_ble_eq_true rfl) (fun p e s m args below meth c hC hr hlk => ?_)
  unfold f_X9_area
  refine s_lv (lv' := [(0, vR v0), (1, vI v1), (2, vI v2)]) [0, 1, 2] rfl ?_
  refine s_iload_n hC 1 dX9_area_0 rfl ?_
  refine s_iconst hC dX9_area_1 (v := 0) (by decide) ?_
  refine s_iconst hC dX9_area_2 (v := 5) (by decide) ?_
  refine s_callS hC (avs := [vI v1, vI (0 : Int32), vI (5 : Int32)]) (st := []) (nest := false) (m_X9_within hI v1 (0 : Int32) (5 : Int32) μ) dX9_area_3 qm_X9_56 qt_X9_within qc_X9 qd_X9_within qh_X9_within (by decide) (fun _ => Nat.le_of_ble_eq_true rfl) (Nat.le_of_ble_eq_true rfl) (fun v4 μ5 => ?_)
  refine s_if_ne hC dX9_area_6 (tgt := 11) (by decide) ?_ ?_
  · refine s_iload_n hC 2 dX9_area_11 rfl ?_
    refine s_iconst hC dX9_area_12 (v := 1) (by decide) ?_
    refine s_bipush hC dX9_area_13 (v := 20) (by decide) ?_
    refine s_callS hC (avs := [vI v2, vI (1 : Int32), vI (20 : Int32)]) (st := []) (nest := false) (m_X9_within hI v2 (1 : Int32) (20 : Int32) μ5) dX9_area_15 qm_X9_56 qt_X9_within qc_X9 qd_X9_within qh_X9_within (by decide) (fun _ => Nat.le_of_ble_eq_true rfl) (Nat.le_of_ble_eq_true rfl) (fun v6 μ7 => ?_)
    refine s_if_ne hC dX9_area_18 (tgt := 24) (by decide) ?_ ?_
    · refine s_aload_n hC 0 dX9_area_24 rfl ?_
      refine s_getR hC xc9 (by decide) rfl qf_X9_12 dX9_area_25 ?_
      refine s_ltR (fun v8 => ?_)
      refine s_getR hC xc7 (by decide) rfl qf_X9_60 dX9_area_28 ?_
      refine s_ltR (fun v9 => ?_)
      refine s_iload_n hC 1 dX9_area_31 rfl ?_
      refine s_iload_n hC 2 dX9_area_32 rfl ?_
      refine s_callV hC (x := v9) (avs := [vI v1, vI v2]) (st := []) (nest := false) xc3 (m_X3_change hI v9 v1 v2 μ7) dX9_area_33 qm_X9_64 qi_X3_change qs_X3_change qc_X3 qd_X3_change qh_X3_change (by decide) (fun _ => Nat.le_of_ble_eq_true rfl) (Nat.le_of_ble_eq_true rfl) (fun v10 μ11 => ?_)
      exact s_iret hC hr hlk dX9_area_36
    refine s_bipush hC dX9_area_21 (v := -2) (by decide) ?_
    exact s_iret hC hr hlk dX9_area_23
  refine s_iconst hC dX9_area_9 (v := -1) (by decide) ?_
  exact s_iret hC hr hlk dX9_area_10
theorem dX9_account_0 : decode cX9_account 0 = .ok (.iload_n 1, 1) := by decide +kernel
theorem dX9_account_1 : decode cX9_account 1 = .ok (.iconst 0, 1) := by decide +kernel
theorem dX9_account_2 : decode cX9_account 2 = .ok (.bipush 6, 2) := by decide +kernel
theorem dX9_account_4 : decode cX9_account 4 = .ok (.invokestatic 56, 3) := by decide +kernel
theorem dX9_account_7 : decode cX9_account 7 = .ok (.ifCond .ne 5, 3) := by decide +kernel
theorem dX9_account_10 : decode cX9_account 10 = .ok (.iconst (-1), 1) := by decide +kernel
theorem dX9_account_11 : decode cX9_account 11 = .ok (.ireturn, 1) := by decide +kernel
theorem dX9_account_12 : decode cX9_account 12 = .ok (.iload_n 2, 1) := by decide +kernel
theorem dX9_account_13 : decode cX9_account 13 = .ok (.iconst 0, 1) := by decide +kernel
theorem dX9_account_14 : decode cX9_account 14 = .ok (.bipush 9, 2) := by decide +kernel
theorem dX9_account_16 : decode cX9_account 16 = .ok (.invokestatic 56, 3) := by decide +kernel
theorem dX9_account_19 : decode cX9_account 19 = .ok (.ifCond .eq 10, 3) := by decide +kernel
theorem dX9_account_22 : decode cX9_account 22 = .ok (.iload_n 3, 1) := by decide +kernel
theorem dX9_account_23 : decode cX9_account 23 = .ok (.invokestatic 74, 3) := by decide +kernel
theorem dX9_account_26 : decode cX9_account 26 = .ok (.ifCond .ne 6, 3) := by decide +kernel
theorem dX9_account_29 : decode cX9_account 29 = .ok (.bipush (-2), 2) := by decide +kernel
theorem dX9_account_31 : decode cX9_account 31 = .ok (.ireturn, 1) := by decide +kernel
theorem dX9_account_32 : decode cX9_account 32 = .ok (.aload_n 0, 1) := by decide +kernel
theorem dX9_account_33 : decode cX9_account 33 = .ok (.getfield 12, 3) := by decide +kernel
theorem dX9_account_36 : decode cX9_account 36 = .ok (.iload_n 1, 1) := by decide +kernel
theorem dX9_account_37 : decode cX9_account 37 = .ok (.iload_n 2, 1) := by decide +kernel
theorem dX9_account_38 : decode cX9_account 38 = .ok (.iload_n 3, 1) := by decide +kernel
theorem dX9_account_39 : decode cX9_account 39 = .ok (.invokevirtual 78, 3) := by decide +kernel
theorem dX9_account_42 : decode cX9_account 42 = .ok (.ireturn, 1) := by decide +kernel
def f_X9_account (X : x_X) (v0 : Nat) (v1 : Int32) (v2 : Int32) (v3 : Int32) (μ : x_M) : Option (Int32 × x_M) :=
  (bd (f_X9_within X v1 (0 : Int32) (6 : Int32) μ) (fun (v5 : Int32) (μ6 : x_M) => (if v5 = 0 then (some ((-1 : Int32), μ6)) else (bd (f_X9_within X v2 (0 : Int32) (9 : Int32) μ6) (fun (v7 : Int32) (μ8 : x_M) => (if v7 = 0 then (some ((-2 : Int32), μ8)) else (bd (f_X9_isDaily X v3 μ8) (fun (v9 : Int32) (μ10 : x_M) => (if v9 = 0 then (some ((-2 : Int32), μ10)) else (ck (x_kd X v0 = 9 + 1) (lt (μ10.2.1 v0 0) (fun (v11 : Nat) => (ck (x_kd X v11 = 7 + 1) (bd (f_X7_open X v11 v1 v2 v3 μ10) (fun (v12 : Int32) (μ13 : x_M) => (some (v12, μ13)))))))))))))))))
set_option maxRecDepth 100000 in
theorem m_X9_account (hI : x_I X) (v0 : Nat) (v1 : Int32) (v2 : Int32) (v3 : Int32) (μ : x_M) : x_Met X x_Z0 l yX9_account cX9_account 4 (some .int) 3 [vR v0, vI v1, vI v2, vI v3] μ rkI (f_X9_account X v0 v1 v2 v3 μ) := by
  refine x_enter hI (by decide +kernel) (Nat.le_of_ble_eq_true rfl) (fun p e s m args below meth c hC hr hlk => ?_)
  unfold f_X9_account
  refine s_lv (lv' := [(0, vR v0), (1, vI v1), (2, vI v2), (3, vI v3)]) [0, 1, 2, 3] rfl ?_
  refine s_iload_n hC 1 dX9_account_0 rfl ?_
  refine s_iconst hC dX9_account_1 (v := 0) (by decide) ?_
  refine s_bipush hC dX9_account_2 (v := 6) (by decide) ?_
  refine s_callS hC (avs := [vI v1, vI (0 : Int32), vI (6 : Int32)]) (st := []) (nest := false) (m_X9_within hI v1 (0 : Int32) (6 : Int32) μ) dX9_account_4 qm_X9_56 qt_X9_within qc_X9 qd_X9_within qh_X9_within (by decide) (fun _ => Nat.le_of_ble_eq_true rfl) (Nat.le_of_ble_eq_true rfl) (fun v5 μ6 => ?_)
  refine s_if_ne hC dX9_account_7 (tgt := 12) (by decide) ?_ ?_
  · refine s_iload_n hC 2 dX9_account_12 rfl ?_
    refine s_iconst hC dX9_account_13 (v := 0) (by decide) ?_
    refine s_bipush hC dX9_account_14 (v := 9) (by decide) ?_
    refine s_callS hC (avs := [vI v2, vI (0 : Int32), vI (9 : Int32)]) (st := []) (nest := false) (m_X9_within hI v2 (0 : Int32) (9 : Int32) μ6) dX9_account_16 qm_X9_56 qt_X9_within qc_X9 qd_X9_within qh_X9_within (by decide) (fun _ => Nat.le_of_ble_eq_true rfl) (Nat.le_of_ble_eq_true rfl) (fun v7 μ8 => ?_)
    refine s_if_eq hC dX9_account_19 (tgt := 29) (by decide) ?_ ?_
    · refine s_bipush hC dX9_account_29 (v := -2) (by decide) ?_
      exact s_iret hC hr hlk dX9_account_31
    refine s_iload_n hC 3 dX9_account_22 rfl ?_
    refine s_callS hC (avs := [vI v3]) (st := []) (nest := false) (m_X9_isDaily hI v3 μ8) dX9_account_23 qm_X9_74 qt_X9_isDaily qc_X9 qd_X9_isDaily qh_X9_isDaily (by decide) (fun _ => Nat.le_of_ble_eq_true rfl) (Nat.le_of_ble_eq_true rfl) (fun v9 μ10 => ?_)
    refine s_if_ne hC dX9_account_26 (tgt := 32) (by decide) ?_ ?_
    · refine s_aload_n hC 0 dX9_account_32 rfl ?_
      refine s_getR hC xc9 (by decide) rfl qf_X9_12 dX9_account_33 ?_
      refine s_ltR (fun v11 => ?_)
      refine s_iload_n hC 1 dX9_account_36 rfl ?_
      refine s_iload_n hC 2 dX9_account_37 rfl ?_
      refine s_iload_n hC 3 dX9_account_38 rfl ?_
      refine s_callV hC (x := v11) (avs := [vI v1, vI v2, vI v3]) (st := []) (nest := false) xc7 (m_X7_open hI v11 v1 v2 v3 μ10) dX9_account_39 qm_X9_78 qi_X7_open qs_X7_open qc_X7 qd_X7_open qh_X7_open (by decide) (fun _ => Nat.le_of_ble_eq_true rfl) (Nat.le_of_ble_eq_true rfl) (fun v12 μ13 => ?_)
      exact s_iret hC hr hlk dX9_account_42
    refine s_bipush hC dX9_account_29 (v := -2) (by decide) ?_
    exact s_iret hC hr hlk dX9_account_31
  refine s_iconst hC dX9_account_10 (v := -1) (by decide) ?_
  exact s_iret hC hr hlk dX9_account_11
theorem dX9_row_0 : decode cX9_row 0 = .ok (.aload_n 0, 1) := by decide +kernel
theorem dX9_row_1 : decode cX9_row 1 = .ok (.getfield 12, 3) := by decide +kernel
theorem dX9_row_4 : decode cX9_row 4 = .ok (.iload_n 1, 1) := by decide +kernel
theorem dX9_row_5 : decode cX9_row 5 = .ok (.invokevirtual 82, 3) := by decide +kernel
theorem dX9_row_8 : decode cX9_row 8 = .ok (.astore 4, 2) := by decide +kernel
theorem dX9_row_10 : decode cX9_row 10 = .ok (.aload 4, 2) := by decide +kernel
theorem dX9_row_12 : decode cX9_row 12 = .ok (.ifnull 12, 3) := by decide +kernel
theorem dX9_row_15 : decode cX9_row 15 = .ok (.iload_n 2, 1) := by decide +kernel
theorem dX9_row_16 : decode cX9_row 16 = .ok (.iconst 0, 1) := by decide +kernel
theorem dX9_row_17 : decode cX9_row 17 = .ok (.iconst 3, 1) := by decide +kernel
theorem dX9_row_18 : decode cX9_row 18 = .ok (.invokestatic 56, 3) := by decide +kernel
theorem dX9_row_21 : decode cX9_row 21 = .ok (.ifCond .ne 5, 3) := by decide +kernel
theorem dX9_row_24 : decode cX9_row 24 = .ok (.iconst (-1), 1) := by decide +kernel
theorem dX9_row_25 : decode cX9_row 25 = .ok (.ireturn, 1) := by decide +kernel
theorem dX9_row_26 : decode cX9_row 26 = .ok (.iload_n 3, 1) := by decide +kernel
theorem dX9_row_27 : decode cX9_row 27 = .ok (.iconst 0, 1) := by decide +kernel
theorem dX9_row_28 : decode cX9_row 28 = .ok (.bipush 9, 2) := by decide +kernel
theorem dX9_row_30 : decode cX9_row 30 = .ok (.invokestatic 56, 3) := by decide +kernel
theorem dX9_row_33 : decode cX9_row 33 = .ok (.ifCond .ne 6, 3) := by decide +kernel
theorem dX9_row_36 : decode cX9_row 36 = .ok (.bipush (-2), 2) := by decide +kernel
theorem dX9_row_38 : decode cX9_row 38 = .ok (.ireturn, 1) := by decide +kernel
theorem dX9_row_39 : decode cX9_row 39 = .ok (.aload 4, 2) := by decide +kernel
theorem dX9_row_41 : decode cX9_row 41 = .ok (.getfield 86, 3) := by decide +kernel
theorem dX9_row_44 : decode cX9_row 44 = .ok (.bipush 6, 2) := by decide +kernel
theorem dX9_row_46 : decode cX9_row 46 = .ok (.if_icmp .ne 13, 3) := by decide +kernel
theorem dX9_row_49 : decode cX9_row 49 = .ok (.aload 4, 2) := by decide +kernel
theorem dX9_row_51 : decode cX9_row 51 = .ok (.iload_n 2, 1) := by decide +kernel
theorem dX9_row_52 : decode cX9_row 52 = .ok (.iload_n 3, 1) := by decide +kernel
theorem dX9_row_53 : decode cX9_row 53 = .ok (.invokevirtual 133, 3) := by decide +kernel
theorem dX9_row_56 : decode cX9_row 56 = .ok (.goto 5, 3) := by decide +kernel
theorem dX9_row_59 : decode cX9_row 59 = .ok (.bipush (-3), 2) := by decide +kernel
theorem dX9_row_61 : decode cX9_row 61 = .ok (.ireturn, 1) := by decide +kernel
def f_X9_row (X : x_X) (v0 : Nat) (v1 : Int32) (v2 : Int32) (v3 : Int32) (μ : x_M) : Option (Int32 × x_M) :=
  (ck (x_kd X v0 = 9 + 1) (lt (μ.2.1 v0 0) (fun (v5 : Nat) => (ck (x_kd X v5 = 7 + 1) (bd (f_X7_find X v5 v1 μ) (fun (v6 : Nat) (μ7 : x_M) => (if v6 = 0 then (some ((-1 : Int32), μ7)) else (bd (f_X9_within X v2 (0 : Int32) (3 : Int32) μ7) (fun (v8 : Int32) (μ9 : x_M) => (if v8 = 0 then (some ((-1 : Int32), μ9)) else (bd (f_X9_within X v3 (0 : Int32) (9 : Int32) μ9) (fun (v10 : Int32) (μ11 : x_M) => (if v10 = 0 then (some ((-2 : Int32), μ11)) else (ck (x_kd X v6 = 0 + 1) (if (μ11.1 v6 3) = (6 : Int32) then (ck (x_kd X v6 = 0 + 1) (bd (f_X0_changeRow X v6 v2 v3 μ11) (fun (v12 : Int32) (μ13 : x_M) => (some (v12, μ13))))) else (some ((-3 : Int32), μ11)))))))))))))))))
set_option maxRecDepth 100000 in
theorem m_X9_row (hI : x_I X) (v0 : Nat) (v1 : Int32) (v2 : Int32) (v3 : Int32) (μ : x_M) : x_Met X x_Z0 l yX9_row cX9_row 5 (some .int) 3 [vR v0, vI v1, vI v2, vI v3] μ rkI (f_X9_row X v0 v1 v2 v3 μ) := by
  refine x_enter hI (by decide +kernel) (Nat.le_of_ble_eq_true rfl) (fun p e s m args below meth c hC hr hlk => ?_)
  unfold f_X9_row
  refine s_lv (lv' := [(0, vR v0), (1, vI v1), (2, vI v2), (3, vI v3)]) [0, 1, 2, 3] rfl ?_
  refine s_aload_n hC 0 dX9_row_0 rfl ?_
  refine s_getR hC xc9 (by decide) rfl qf_X9_12 dX9_row_1 ?_
  refine s_ltR (fun v5 => ?_)
  refine s_iload_n hC 1 dX9_row_4 rfl ?_
  refine s_callV hC (x := v5) (avs := [vI v1]) (st := []) (nest := false) xc7 (m_X7_find hI v5 v1 μ) dX9_row_5 qm_X9_82 qi_X7_find qs_X7_find qc_X7 qd_X7_find qh_X7_find (by decide) (fun _ => Nat.le_of_ble_eq_true rfl) (Nat.le_of_ble_eq_true rfl) (fun v6 μ7 => ?_)
  refine s_astore hC dX9_row_8 (by decide) (lv' := [(4, vR v6), (0, vR v0), (1, vI v1), (2, vI v2), (3, vI v3)]) rfl ?_
  refine s_aload hC 0 dX9_row_10 rfl ?_
  refine s_ifnull hC dX9_row_12 (tgt := 24) (by decide) ?_ ?_
  · refine s_iconst hC dX9_row_24 (v := -1) (by decide) ?_
    exact s_iret hC hr hlk dX9_row_25
  refine s_iload_n hC 3 dX9_row_15 rfl ?_
  refine s_iconst hC dX9_row_16 (v := 0) (by decide) ?_
  refine s_iconst hC dX9_row_17 (v := 3) (by decide) ?_
  refine s_callS hC (avs := [vI v2, vI (0 : Int32), vI (3 : Int32)]) (st := []) (nest := false) (m_X9_within hI v2 (0 : Int32) (3 : Int32) μ7) dX9_row_18 qm_X9_56 qt_X9_within qc_X9 qd_X9_within qh_X9_within (by decide) (fun _ => Nat.le_of_ble_eq_true rfl) (Nat.le_of_ble_eq_true rfl) (fun v8 μ9 => ?_)
  refine s_if_ne hC dX9_row_21 (tgt := 26) (by decide) ?_ ?_
  · refine s_iload_n hC 4 dX9_row_26 rfl ?_
    refine s_iconst hC dX9_row_27 (v := 0) (by decide) ?_
    refine s_bipush hC dX9_row_28 (v := 9) (by decide) ?_
    refine s_callS hC (avs := [vI v3, vI (0 : Int32), vI (9 : Int32)]) (st := []) (nest := false) (m_X9_within hI v3 (0 : Int32) (9 : Int32) μ9) dX9_row_30 qm_X9_56 qt_X9_within qc_X9 qd_X9_within qh_X9_within (by decide) (fun _ => Nat.le_of_ble_eq_true rfl) (Nat.le_of_ble_eq_true rfl) (fun v10 μ11 => ?_)
    refine s_if_ne hC dX9_row_33 (tgt := 39) (by decide) ?_ ?_
    · refine s_aload hC 0 dX9_row_39 rfl ?_
      refine s_getI hC xc0 (by decide) rfl qf_X9_86 dX9_row_41 ?_
      refine s_bipush hC dX9_row_44 (v := 6) (by decide) ?_
      refine s_icmp_ne hC dX9_row_46 (tgt := 59) (by decide) ?_ ?_
      · refine s_bipush hC dX9_row_59 (v := -3) (by decide) ?_
        exact s_iret hC hr hlk dX9_row_61
      refine s_aload hC 0 dX9_row_49 rfl ?_
      refine s_iload_n hC 3 dX9_row_51 rfl ?_
      refine s_iload_n hC 4 dX9_row_52 rfl ?_
      refine s_callV hC (x := v6) (avs := [vI v2, vI v3]) (st := []) (nest := false) xc0 (m_X0_changeRow hI v6 v2 v3 μ11) dX9_row_53 qm_X9_133 qi_X0_changeRow qs_X0_changeRow qc_X0 qd_X0_changeRow qh_X0_changeRow (by decide) (fun _ => Nat.le_of_ble_eq_true rfl) (Nat.le_of_ble_eq_true rfl) (fun v12 μ13 => ?_)
      refine s_goto hC dX9_row_56 (tgt := 61) (by decide) ?_
      exact s_iret hC hr hlk dX9_row_61
    refine s_bipush hC dX9_row_36 (v := -2) (by decide) ?_
    exact s_iret hC hr hlk dX9_row_38
  refine s_iconst hC dX9_row_24 (v := -1) (by decide) ?_
  exact s_iret hC hr hlk dX9_row_25
theorem dX9_feed_0 : decode cX9_feed 0 = .ok (.iload_n 1, 1) := by decide +kernel
theorem dX9_feed_1 : decode cX9_feed 1 = .ok (.iconst 0, 1) := by decide +kernel
theorem dX9_feed_2 : decode cX9_feed 2 = .ok (.bipush 127, 2) := by decide +kernel
theorem dX9_feed_4 : decode cX9_feed 4 = .ok (.invokestatic 56, 3) := by decide +kernel
theorem dX9_feed_7 : decode cX9_feed 7 = .ok (.ifCond .eq 14, 3) := by decide +kernel
theorem dX9_feed_10 : decode cX9_feed 10 = .ok (.aload_n 0, 1) := by decide +kernel
theorem dX9_feed_11 : decode cX9_feed 11 = .ok (.getfield 31, 3) := by decide +kernel
theorem dX9_feed_14 : decode cX9_feed 14 = .ok (.iload_n 1, 1) := by decide +kernel
theorem dX9_feed_15 : decode cX9_feed 15 = .ok (.invokevirtual 139, 3) := by decide +kernel
theorem dX9_feed_18 : decode cX9_feed 18 = .ok (.goto 5, 3) := by decide +kernel
theorem dX9_feed_21 : decode cX9_feed 21 = .ok (.bipush (-2), 2) := by decide +kernel
theorem dX9_feed_23 : decode cX9_feed 23 = .ok (.ireturn, 1) := by decide +kernel
def f_X9_feed (X : x_X) (v0 : Nat) (v1 : Int32) (μ : x_M) : Option (Int32 × x_M) :=
  (bd (f_X9_within X v1 (0 : Int32) (127 : Int32) μ) (fun (v3 : Int32) (μ4 : x_M) => (if v3 = 0 then (some ((-2 : Int32), μ4)) else (ck (x_kd X v0 = 9 + 1) (lt (μ4.2.1 v0 3) (fun (v5 : Nat) => (ck (x_kd X v5 = 5 + 1) (bd (f_X5_add X v5 v1 μ4) (fun (v6 : Int32) (μ7 : x_M) => (some (v6, μ7)))))))))))
set_option maxRecDepth 100000 in
theorem m_X9_feed (hI : x_I X) (v0 : Nat) (v1 : Int32) (μ : x_M) : x_Met X x_Z0 l yX9_feed cX9_feed 2 (some .int) 3 [vR v0, vI v1] μ rkI (f_X9_feed X v0 v1 μ) := by
  refine x_enter hI (by decide +kernel) (Nat.le_of_ble_eq_true rfl) (fun p e s m args below meth c hC hr hlk => ?_)
  unfold f_X9_feed
  refine s_lv (lv' := [(0, vR v0), (1, vI v1)]) [0, 1] rfl ?_
  refine s_iload_n hC 1 dX9_feed_0 rfl ?_
  refine s_iconst hC dX9_feed_1 (v := 0) (by decide) ?_
  refine s_bipush hC dX9_feed_2 (v := 127) (by decide) ?_
  refine s_callS hC (avs := [vI v1, vI (0 : Int32), vI (127 : Int32)]) (st := []) (nest := false) (m_X9_within hI v1 (0 : Int32) (127 : Int32) μ) dX9_feed_4 qm_X9_56 qt_X9_within qc_X9 qd_X9_within qh_X9_within (by decide) (fun _ => Nat.le_of_ble_eq_true rfl) (Nat.le_of_ble_eq_true rfl) (fun v3 μ4 => ?_)
  refine s_if_eq hC dX9_feed_7 (tgt := 21) (by decide) ?_ ?_
  · refine s_bipush hC dX9_feed_21 (v := -2) (by decide) ?_
    exact s_iret hC hr hlk dX9_feed_23
  refine s_aload_n hC 0 dX9_feed_10 rfl ?_
  refine s_getR hC xc9 (by decide) rfl qf_X9_31 dX9_feed_11 ?_
  refine s_ltR (fun v5 => ?_)
  refine s_iload_n hC 1 dX9_feed_14 rfl ?_
  refine s_callV hC (x := v5) (avs := [vI v1]) (st := []) (nest := false) xc5 (m_X5_add hI v5 v1 μ4) dX9_feed_15 qm_X9_139 qi_X5_add qs_X5_add qc_X5 qd_X5_add qh_X5_add (by decide) (fun _ => Nat.le_of_ble_eq_true rfl) (Nat.le_of_ble_eq_true rfl) (fun v6 μ7 => ?_)
  refine s_goto hC dX9_feed_18 (tgt := 23) (by decide) ?_
  exact s_iret hC hr hlk dX9_feed_23
theorem dX9_lifted_0 : decode cX9_lifted 0 = .ok (.aload_n 0, 1) := by decide +kernel
theorem dX9_lifted_1 : decode cX9_lifted 1 = .ok (.getfield 12, 3) := by decide +kernel
theorem dX9_lifted_4 : decode cX9_lifted 4 = .ok (.invokevirtual 108, 3) := by decide +kernel
theorem dX9_lifted_7 : decode cX9_lifted 7 = .ok (.aload_n 0, 1) := by decide +kernel
theorem dX9_lifted_8 : decode cX9_lifted 8 = .ok (.getfield 12, 3) := by decide +kernel
theorem dX9_lifted_11 : decode cX9_lifted 11 = .ok (.getfield 60, 3) := by decide +kernel
theorem dX9_lifted_14 : decode cX9_lifted 14 = .ok (.aload_n 0, 1) := by decide +kernel
theorem dX9_lifted_15 : decode cX9_lifted 15 = .ok (.getfield 12, 3) := by decide +kernel
theorem dX9_lifted_18 : decode cX9_lifted 18 = .ok (.getfield 136, 3) := by decide +kernel
theorem dX9_lifted_21 : decode cX9_lifted 21 = .ok (.invokevirtual 195, 3) := by decide +kernel
theorem dX9_lifted_24 : decode cX9_lifted 24 = .ok (.isub, 1) := by decide +kernel
theorem dX9_lifted_25 : decode cX9_lifted 25 = .ok (.ireturn, 1) := by decide +kernel
def f_X9_lifted (X : x_X) (v0 : Nat) (μ : x_M) : Option (Int32 × x_M) :=
  (ck (x_kd X v0 = 9 + 1) (lt (μ.2.1 v0 0) (fun (v2 : Nat) => (ck (x_kd X v2 = 7 + 1) (bd (f_X7_level X v2 μ) (fun (v3 : Int32) (μ4 : x_M) => (ck (x_kd X v0 = 9 + 1) (lt (μ4.2.1 v0 0) (fun (v5 : Nat) => (ck (x_kd X v5 = 7 + 1) (lt (μ4.2.1 v5 0) (fun (v6 : Nat) => (ck (x_kd X v0 = 9 + 1) (lt (μ4.2.1 v0 0) (fun (v7 : Nat) => (ck (x_kd X v7 = 7 + 1) (ck (x_kd X v6 = 3 + 1) (bd (f_X3_levelOf X v6 (μ4.1 v7 7) μ4) (fun (v8 : Int32) (μ9 : x_M) => (some ((v3 - v8), μ9)))))))))))))))))))))
set_option maxRecDepth 100000 in
theorem m_X9_lifted (hI : x_I X) (v0 : Nat) (μ : x_M) : x_Met X x_Z0 l yX9_lifted cX9_lifted 1 (some .int) 3 [vR v0] μ rkI (f_X9_lifted X v0 μ) := by
  refine x_enter hI (by decide +kernel) (Nat.le_of_ble_eq_true rfl) (fun p e s m args below meth c hC hr hlk => ?_)
  unfold f_X9_lifted
  refine s_lv (lv' := [(0, vR v0)]) [0] rfl ?_
  refine s_aload_n hC 0 dX9_lifted_0 rfl ?_
  refine s_getR hC xc9 (by decide) rfl qf_X9_12 dX9_lifted_1 ?_
  refine s_ltR (fun v2 => ?_)
  refine s_callV hC (x := v2) (avs := []) (st := []) (nest := false) xc7 (m_X7_level hI v2 μ) dX9_lifted_4 qm_X9_108 qi_X7_level qs_X7_level qc_X7 qd_X7_level qh_X7_level (by decide) (fun _ => Nat.le_of_ble_eq_true rfl) (Nat.le_of_ble_eq_true rfl) (fun v3 μ4 => ?_)
  refine s_aload_n hC 0 dX9_lifted_7 rfl ?_
  refine s_getR hC xc9 (by decide) rfl qf_X9_12 dX9_lifted_8 ?_
  refine s_ltR (fun v5 => ?_)
  refine s_getR hC xc7 (by decide) rfl qf_X9_60 dX9_lifted_11 ?_
  refine s_ltR (fun v6 => ?_)
  refine s_aload_n hC 0 dX9_lifted_14 rfl ?_
  refine s_getR hC xc9 (by decide) rfl qf_X9_12 dX9_lifted_15 ?_
  refine s_ltR (fun v7 => ?_)
  refine s_getI hC xc7 (by decide) rfl qf_X9_136 dX9_lifted_18 ?_
  refine s_callV hC (x := v6) (avs := [vI (μ4.1 v7 7)]) (st := [vI v3]) (nest := false) xc3 (m_X3_levelOf hI v6 (μ4.1 v7 7) μ4) dX9_lifted_21 qm_X9_195 qi_X3_levelOf qs_X3_levelOf qc_X3 qd_X3_levelOf qh_X3_levelOf (by decide) (fun _ => Nat.le_of_ble_eq_true rfl) (Nat.le_of_ble_eq_true rfl) (fun v8 μ9 => ?_)
  refine s_isub hC dX9_lifted_24 ?_
  exact s_iret hC hr hlk dX9_lifted_25
theorem dX9_see_0 : decode cX9_see 0 = .ok (.iload_n 1, 1) := by decide +kernel
theorem dX9_see_1 : decode cX9_see 1 = .ok (.iconst (-1), 1) := by decide +kernel
theorem dX9_see_2 : decode cX9_see 2 = .ok (.if_icmp .ne 14, 3) := by decide +kernel
theorem dX9_see_5 : decode cX9_see 5 = .ok (.aload_n 0, 1) := by decide +kernel
theorem dX9_see_6 : decode cX9_see 6 = .ok (.getfield 12, 3) := by decide +kernel
theorem dX9_see_9 : decode cX9_see 9 = .ok (.getfield 218, 3) := by decide +kernel
theorem dX9_see_12 : decode cX9_see 12 = .ok (.invokevirtual 222, 3) := by decide +kernel
theorem dX9_see_15 : decode cX9_see 15 = .ok (.ireturn, 1) := by decide +kernel
theorem dX9_see_16 : decode cX9_see 16 = .ok (.iload_n 1, 1) := by decide +kernel
theorem dX9_see_17 : decode cX9_see 17 = .ok (.iconst 0, 1) := by decide +kernel
theorem dX9_see_18 : decode cX9_see 18 = .ok (.bipush 20, 2) := by decide +kernel
theorem dX9_see_20 : decode cX9_see 20 = .ok (.invokestatic 56, 3) := by decide +kernel
theorem dX9_see_23 : decode cX9_see 23 = .ok (.ifCond .eq 13, 3) := by decide +kernel
theorem dX9_see_26 : decode cX9_see 26 = .ok (.iload_n 2, 1) := by decide +kernel
theorem dX9_see_27 : decode cX9_see 27 = .ok (.iconst 0, 1) := by decide +kernel
theorem dX9_see_28 : decode cX9_see 28 = .ok (.bipush 60, 2) := by decide +kernel
theorem dX9_see_30 : decode cX9_see 30 = .ok (.invokestatic 56, 3) := by decide +kernel
theorem dX9_see_33 : decode cX9_see 33 = .ok (.ifCond .ne 6, 3) := by decide +kernel
theorem dX9_see_36 : decode cX9_see 36 = .ok (.bipush (-2), 2) := by decide +kernel
theorem dX9_see_38 : decode cX9_see 38 = .ok (.ireturn, 1) := by decide +kernel
theorem dX9_see_39 : decode cX9_see 39 = .ok (.aload_n 0, 1) := by decide +kernel
theorem dX9_see_40 : decode cX9_see 40 = .ok (.getfield 12, 3) := by decide +kernel
theorem dX9_see_43 : decode cX9_see 43 = .ok (.getfield 218, 3) := by decide +kernel
theorem dX9_see_46 : decode cX9_see 46 = .ok (.iload_n 1, 1) := by decide +kernel
theorem dX9_see_47 : decode cX9_see 47 = .ok (.iload_n 2, 1) := by decide +kernel
theorem dX9_see_48 : decode cX9_see 48 = .ok (.invokevirtual 226, 3) := by decide +kernel
theorem dX9_see_51 : decode cX9_see 51 = .ok (.ireturn, 1) := by decide +kernel
def f_X9_see (X : x_X) (v0 : Nat) (v1 : Int32) (v2 : Int32) (μ : x_M) : Option (Int32 × x_M) :=
  (if v1 = (-1 : Int32) then (ck (x_kd X v0 = 9 + 1) (lt (μ.2.1 v0 0) (fun (v12 : Nat) => (ck (x_kd X v12 = 7 + 1) (lt (μ.2.1 v12 2) (fun (v13 : Nat) => (ck (x_kd X v13 = 6 + 1) (bd (f_X6_clear X v13 μ) (fun (v14 : Int32) (μ15 : x_M) => (some (v14, μ15))))))))))) else (bd (f_X9_within X v1 (0 : Int32) (20 : Int32) μ) (fun (v4 : Int32) (μ5 : x_M) => (if v4 = 0 then (some ((-2 : Int32), μ5)) else (bd (f_X9_within X v2 (0 : Int32) (60 : Int32) μ5) (fun (v6 : Int32) (μ7 : x_M) => (if v6 = 0 then (some ((-2 : Int32), μ7)) else (ck (x_kd X v0 = 9 + 1) (lt (μ7.2.1 v0 0) (fun (v8 : Nat) => (ck (x_kd X v8 = 7 + 1) (lt (μ7.2.1 v8 2) (fun (v9 : Nat) => (ck (x_kd X v9 = 6 + 1) (bd (f_X6_add X v9 v1 v2 μ7) (fun (v10 : Int32) (μ11 : x_M) => (some (v10, μ11))))))))))))))))))
set_option maxRecDepth 100000 in
theorem m_X9_see (hI : x_I X) (v0 : Nat) (v1 : Int32) (v2 : Int32) (μ : x_M) : x_Met X x_Z0 l yX9_see cX9_see 3 (some .int) 3 [vR v0, vI v1, vI v2] μ rkI (f_X9_see X v0 v1 v2 μ) := by
  refine x_enter hI (by decide +kernel) (Nat.le_of_ble_eq_true rfl) (fun p e s m args below meth c hC hr hlk => ?_)
  unfold f_X9_see
  refine s_lv (lv' := [(0, vR v0), (1, vI v1), (2, vI v2)]) [0, 1, 2] rfl ?_
  refine s_iload_n hC 1 dX9_see_0 rfl ?_
  refine s_iconst hC dX9_see_1 (v := -1) (by decide) ?_
  refine s_icmp_ne hC dX9_see_2 (tgt := 16) (by decide) ?_ ?_
  · refine s_iload_n hC 1 dX9_see_16 rfl ?_
    refine s_iconst hC dX9_see_17 (v := 0) (by decide) ?_
    refine s_bipush hC dX9_see_18 (v := 20) (by decide) ?_
    refine s_callS hC (avs := [vI v1, vI (0 : Int32), vI (20 : Int32)]) (st := []) (nest := false) (m_X9_within hI v1 (0 : Int32) (20 : Int32) μ) dX9_see_20 qm_X9_56 qt_X9_within qc_X9 qd_X9_within qh_X9_within (by decide) (fun _ => Nat.le_of_ble_eq_true rfl) (Nat.le_of_ble_eq_true rfl) (fun v4 μ5 => ?_)
    refine s_if_eq hC dX9_see_23 (tgt := 36) (by decide) ?_ ?_
    · refine s_bipush hC dX9_see_36 (v := -2) (by decide) ?_
      exact s_iret hC hr hlk dX9_see_38
    refine s_iload_n hC 2 dX9_see_26 rfl ?_
    refine s_iconst hC dX9_see_27 (v := 0) (by decide) ?_
    refine s_bipush hC dX9_see_28 (v := 60) (by decide) ?_
    refine s_callS hC (avs := [vI v2, vI (0 : Int32), vI (60 : Int32)]) (st := []) (nest := false) (m_X9_within hI v2 (0 : Int32) (60 : Int32) μ5) dX9_see_30 qm_X9_56 qt_X9_within qc_X9 qd_X9_within qh_X9_within (by decide) (fun _ => Nat.le_of_ble_eq_true rfl) (Nat.le_of_ble_eq_true rfl) (fun v6 μ7 => ?_)
    refine s_if_ne hC dX9_see_33 (tgt := 39) (by decide) ?_ ?_
    · refine s_aload_n hC 0 dX9_see_39 rfl ?_
      refine s_getR hC xc9 (by decide) rfl qf_X9_12 dX9_see_40 ?_
      refine s_ltR (fun v8 => ?_)
      refine s_getR hC xc7 (by decide) rfl qf_X9_218 dX9_see_43 ?_
      refine s_ltR (fun v9 => ?_)
      refine s_iload_n hC 1 dX9_see_46 rfl ?_
      refine s_iload_n hC 2 dX9_see_47 rfl ?_
      refine s_callV hC (x := v9) (avs := [vI v1, vI v2]) (st := []) (nest := false) xc6 (m_X6_add hI v9 v1 v2 μ7) dX9_see_48 qm_X9_226 qi_X6_add qs_X6_add qc_X6 qd_X6_add qh_X6_add (by decide) (fun _ => Nat.le_of_ble_eq_true rfl) (Nat.le_of_ble_eq_true rfl) (fun v10 μ11 => ?_)
      exact s_iret hC hr hlk dX9_see_51
    refine s_bipush hC dX9_see_36 (v := -2) (by decide) ?_
    exact s_iret hC hr hlk dX9_see_38
  refine s_aload_n hC 0 dX9_see_5 rfl ?_
  refine s_getR hC xc9 (by decide) rfl qf_X9_12 dX9_see_6 ?_
  refine s_ltR (fun v12 => ?_)
  refine s_getR hC xc7 (by decide) rfl qf_X9_218 dX9_see_9 ?_
  refine s_ltR (fun v13 => ?_)
  refine s_callV hC (x := v13) (avs := []) (st := []) (nest := false) xc6 (m_X6_clear hI v13 μ) dX9_see_12 qm_X9_222 qi_X6_clear qs_X6_clear qc_X6 qd_X6_clear qh_X6_clear (by decide) (fun _ => Nat.le_of_ble_eq_true rfl) (Nat.le_of_ble_eq_true rfl) (fun v14 μ15 => ?_)
  exact s_iret hC hr hlk dX9_see_15
theorem dX9_plan_0 : decode cX9_plan 0 = .ok (.iload_n 1, 1) := by decide +kernel
theorem dX9_plan_1 : decode cX9_plan 1 = .ok (.iconst (-1), 1) := by decide +kernel
theorem dX9_plan_2 : decode cX9_plan 2 = .ok (.if_icmp .ne 14, 3) := by decide +kernel
theorem dX9_plan_5 : decode cX9_plan 5 = .ok (.aload_n 0, 1) := by decide +kernel
theorem dX9_plan_6 : decode cX9_plan 6 = .ok (.getfield 12, 3) := by decide +kernel
theorem dX9_plan_9 : decode cX9_plan 9 = .ok (.getfield 242, 3) := by decide +kernel
theorem dX9_plan_12 : decode cX9_plan 12 = .ok (.invokevirtual 222, 3) := by decide +kernel
theorem dX9_plan_15 : decode cX9_plan 15 = .ok (.ireturn, 1) := by decide +kernel
theorem dX9_plan_16 : decode cX9_plan 16 = .ok (.aload_n 0, 1) := by decide +kernel
theorem dX9_plan_17 : decode cX9_plan 17 = .ok (.getfield 12, 3) := by decide +kernel
theorem dX9_plan_20 : decode cX9_plan 20 = .ok (.iload_n 1, 1) := by decide +kernel
theorem dX9_plan_21 : decode cX9_plan 21 = .ok (.invokevirtual 82, 3) := by decide +kernel
theorem dX9_plan_24 : decode cX9_plan 24 = .ok (.ifnonnull 5, 3) := by decide +kernel
theorem dX9_plan_27 : decode cX9_plan 27 = .ok (.iconst (-1), 1) := by decide +kernel
theorem dX9_plan_28 : decode cX9_plan 28 = .ok (.ireturn, 1) := by decide +kernel
theorem dX9_plan_29 : decode cX9_plan 29 = .ok (.iload_n 2, 1) := by decide +kernel
theorem dX9_plan_30 : decode cX9_plan 30 = .ok (.invokestatic 74, 3) := by decide +kernel
theorem dX9_plan_33 : decode cX9_plan 33 = .ok (.ifCond .eq 18, 3) := by decide +kernel
theorem dX9_plan_36 : decode cX9_plan 36 = .ok (.aload_n 0, 1) := by decide +kernel
theorem dX9_plan_37 : decode cX9_plan 37 = .ok (.getfield 12, 3) := by decide +kernel
theorem dX9_plan_40 : decode cX9_plan 40 = .ok (.getfield 242, 3) := by decide +kernel
theorem dX9_plan_43 : decode cX9_plan 43 = .ok (.iload_n 1, 1) := by decide +kernel
theorem dX9_plan_44 : decode cX9_plan 44 = .ok (.iload_n 2, 1) := by decide +kernel
theorem dX9_plan_45 : decode cX9_plan 45 = .ok (.invokevirtual 226, 3) := by decide +kernel
theorem dX9_plan_48 : decode cX9_plan 48 = .ok (.goto 5, 3) := by decide +kernel
theorem dX9_plan_51 : decode cX9_plan 51 = .ok (.bipush (-2), 2) := by decide +kernel
theorem dX9_plan_53 : decode cX9_plan 53 = .ok (.ireturn, 1) := by decide +kernel
def f_X9_plan (X : x_X) (v0 : Nat) (v1 : Int32) (v2 : Int32) (μ : x_M) : Option (Int32 × x_M) :=
  (if v1 = (-1 : Int32) then (ck (x_kd X v0 = 9 + 1) (lt (μ.2.1 v0 0) (fun (v13 : Nat) => (ck (x_kd X v13 = 7 + 1) (lt (μ.2.1 v13 3) (fun (v14 : Nat) => (ck (x_kd X v14 = 6 + 1) (bd (f_X6_clear X v14 μ) (fun (v15 : Int32) (μ16 : x_M) => (some (v15, μ16))))))))))) else (ck (x_kd X v0 = 9 + 1) (lt (μ.2.1 v0 0) (fun (v4 : Nat) => (ck (x_kd X v4 = 7 + 1) (bd (f_X7_find X v4 v1 μ) (fun (v5 : Nat) (μ6 : x_M) => (if v5 = 0 then (some ((-1 : Int32), μ6)) else (bd (f_X9_isDaily X v2 μ6) (fun (v7 : Int32) (μ8 : x_M) => (if v7 = 0 then (some ((-2 : Int32), μ8)) else (ck (x_kd X v0 = 9 + 1) (lt (μ8.2.1 v0 0) (fun (v9 : Nat) => (ck (x_kd X v9 = 7 + 1) (lt (μ8.2.1 v9 3) (fun (v10 : Nat) => (ck (x_kd X v10 = 6 + 1) (bd (f_X6_add X v10 v1 v2 μ8) (fun (v11 : Int32) (μ12 : x_M) => (some (v11, μ12))))))))))))))))))))))
set_option maxRecDepth 100000 in
theorem m_X9_plan (hI : x_I X) (v0 : Nat) (v1 : Int32) (v2 : Int32) (μ : x_M) : x_Met X x_Z0 l yX9_plan cX9_plan 3 (some .int) 3 [vR v0, vI v1, vI v2] μ rkI (f_X9_plan X v0 v1 v2 μ) := by
  refine x_enter hI (by decide +kernel) (Nat.le_of_ble_eq_true rfl) (fun p e s m args below meth c hC hr hlk => ?_)
  unfold f_X9_plan
  refine s_lv (lv' := [(0, vR v0), (1, vI v1), (2, vI v2)]) [0, 1, 2] rfl ?_
  refine s_iload_n hC 1 dX9_plan_0 rfl ?_
  refine s_iconst hC dX9_plan_1 (v := -1) (by decide) ?_
  refine s_icmp_ne hC dX9_plan_2 (tgt := 16) (by decide) ?_ ?_
  · refine s_aload_n hC 0 dX9_plan_16 rfl ?_
    refine s_getR hC xc9 (by decide) rfl qf_X9_12 dX9_plan_17 ?_
    refine s_ltR (fun v4 => ?_)
    refine s_iload_n hC 1 dX9_plan_20 rfl ?_
    refine s_callV hC (x := v4) (avs := [vI v1]) (st := []) (nest := false) xc7 (m_X7_find hI v4 v1 μ) dX9_plan_21 qm_X9_82 qi_X7_find qs_X7_find qc_X7 qd_X7_find qh_X7_find (by decide) (fun _ => Nat.le_of_ble_eq_true rfl) (Nat.le_of_ble_eq_true rfl) (fun v5 μ6 => ?_)
    refine s_ifnonnull hC dX9_plan_24 (tgt := 29) (by decide) ?_ ?_
    · refine s_iload_n hC 2 dX9_plan_29 rfl ?_
      refine s_callS hC (avs := [vI v2]) (st := []) (nest := false) (m_X9_isDaily hI v2 μ6) dX9_plan_30 qm_X9_74 qt_X9_isDaily qc_X9 qd_X9_isDaily qh_X9_isDaily (by decide) (fun _ => Nat.le_of_ble_eq_true rfl) (Nat.le_of_ble_eq_true rfl) (fun v7 μ8 => ?_)
      refine s_if_eq hC dX9_plan_33 (tgt := 51) (by decide) ?_ ?_
      · refine s_bipush hC dX9_plan_51 (v := -2) (by decide) ?_
        exact s_iret hC hr hlk dX9_plan_53
      refine s_aload_n hC 0 dX9_plan_36 rfl ?_
      refine s_getR hC xc9 (by decide) rfl qf_X9_12 dX9_plan_37 ?_
      refine s_ltR (fun v9 => ?_)
      refine s_getR hC xc7 (by decide) rfl qf_X9_242 dX9_plan_40 ?_
      refine s_ltR (fun v10 => ?_)
      refine s_iload_n hC 1 dX9_plan_43 rfl ?_
      refine s_iload_n hC 2 dX9_plan_44 rfl ?_
      refine s_callV hC (x := v10) (avs := [vI v1, vI v2]) (st := []) (nest := false) xc6 (m_X6_add hI v10 v1 v2 μ8) dX9_plan_45 qm_X9_226 qi_X6_add qs_X6_add qc_X6 qd_X6_add qh_X6_add (by decide) (fun _ => Nat.le_of_ble_eq_true rfl) (Nat.le_of_ble_eq_true rfl) (fun v11 μ12 => ?_)
      refine s_goto hC dX9_plan_48 (tgt := 53) (by decide) ?_
      exact s_iret hC hr hlk dX9_plan_53
    refine s_iconst hC dX9_plan_27 (v := -1) (by decide) ?_
    exact s_iret hC hr hlk dX9_plan_28
  refine s_aload_n hC 0 dX9_plan_5 rfl ?_
  refine s_getR hC xc9 (by decide) rfl qf_X9_12 dX9_plan_6 ?_
  refine s_ltR (fun v13 => ?_)
  refine s_getR hC xc7 (by decide) rfl qf_X9_242 dX9_plan_9 ?_
  refine s_ltR (fun v14 => ?_)
  refine s_callV hC (x := v14) (avs := []) (st := []) (nest := false) xc6 (m_X6_clear hI v14 μ) dX9_plan_12 qm_X9_222 qi_X6_clear qs_X6_clear qc_X6 qd_X6_clear qh_X6_clear (by decide) (fun _ => Nat.le_of_ble_eq_true rfl) (Nat.le_of_ble_eq_true rfl) (fun v15 μ16 => ?_)
  exact s_iret hC hr hlk dX9_plan_15
theorem dX9_book_0 : decode cX9_book 0 = .ok (.iload_n 1, 1) := by decide +kernel
theorem dX9_book_1 : decode cX9_book 1 = .ok (.iconst (-1), 1) := by decide +kernel
theorem dX9_book_2 : decode cX9_book 2 = .ok (.if_icmp .ne 14, 3) := by decide +kernel
theorem dX9_book_5 : decode cX9_book 5 = .ok (.aload_n 0, 1) := by decide +kernel
theorem dX9_book_6 : decode cX9_book 6 = .ok (.getfield 12, 3) := by decide +kernel
theorem dX9_book_9 : decode cX9_book 9 = .ok (.getfield 249, 3) := by decide +kernel
theorem dX9_book_12 : decode cX9_book 12 = .ok (.invokevirtual 222, 3) := by decide +kernel
theorem dX9_book_15 : decode cX9_book 15 = .ok (.ireturn, 1) := by decide +kernel
theorem dX9_book_16 : decode cX9_book 16 = .ok (.aload_n 0, 1) := by decide +kernel
theorem dX9_book_17 : decode cX9_book 17 = .ok (.getfield 12, 3) := by decide +kernel
theorem dX9_book_20 : decode cX9_book 20 = .ok (.iload_n 1, 1) := by decide +kernel
theorem dX9_book_21 : decode cX9_book 21 = .ok (.invokevirtual 82, 3) := by decide +kernel
theorem dX9_book_24 : decode cX9_book 24 = .ok (.ifnonnull 5, 3) := by decide +kernel
theorem dX9_book_27 : decode cX9_book 27 = .ok (.iconst (-1), 1) := by decide +kernel
theorem dX9_book_28 : decode cX9_book 28 = .ok (.ireturn, 1) := by decide +kernel
theorem dX9_book_29 : decode cX9_book 29 = .ok (.iload_n 2, 1) := by decide +kernel
theorem dX9_book_30 : decode cX9_book 30 = .ok (.sipush (-9999), 3) := by decide +kernel
theorem dX9_book_33 : decode cX9_book 33 = .ok (.sipush 9999, 3) := by decide +kernel
theorem dX9_book_36 : decode cX9_book 36 = .ok (.invokestatic 56, 3) := by decide +kernel
theorem dX9_book_39 : decode cX9_book 39 = .ok (.ifCond .eq 18, 3) := by decide +kernel
theorem dX9_book_42 : decode cX9_book 42 = .ok (.aload_n 0, 1) := by decide +kernel
theorem dX9_book_43 : decode cX9_book 43 = .ok (.getfield 12, 3) := by decide +kernel
theorem dX9_book_46 : decode cX9_book 46 = .ok (.getfield 249, 3) := by decide +kernel
theorem dX9_book_49 : decode cX9_book 49 = .ok (.iload_n 1, 1) := by decide +kernel
theorem dX9_book_50 : decode cX9_book 50 = .ok (.iload_n 2, 1) := by decide +kernel
theorem dX9_book_51 : decode cX9_book 51 = .ok (.invokevirtual 226, 3) := by decide +kernel
theorem dX9_book_54 : decode cX9_book 54 = .ok (.goto 5, 3) := by decide +kernel
theorem dX9_book_57 : decode cX9_book 57 = .ok (.bipush (-2), 2) := by decide +kernel
theorem dX9_book_59 : decode cX9_book 59 = .ok (.ireturn, 1) := by decide +kernel
def f_X9_book (X : x_X) (v0 : Nat) (v1 : Int32) (v2 : Int32) (μ : x_M) : Option (Int32 × x_M) :=
  (if v1 = (-1 : Int32) then (ck (x_kd X v0 = 9 + 1) (lt (μ.2.1 v0 0) (fun (v13 : Nat) => (ck (x_kd X v13 = 7 + 1) (lt (μ.2.1 v13 4) (fun (v14 : Nat) => (ck (x_kd X v14 = 6 + 1) (bd (f_X6_clear X v14 μ) (fun (v15 : Int32) (μ16 : x_M) => (some (v15, μ16))))))))))) else (ck (x_kd X v0 = 9 + 1) (lt (μ.2.1 v0 0) (fun (v4 : Nat) => (ck (x_kd X v4 = 7 + 1) (bd (f_X7_find X v4 v1 μ) (fun (v5 : Nat) (μ6 : x_M) => (if v5 = 0 then (some ((-1 : Int32), μ6)) else (bd (f_X9_within X v2 (-9999 : Int32) (9999 : Int32) μ6) (fun (v7 : Int32) (μ8 : x_M) => (if v7 = 0 then (some ((-2 : Int32), μ8)) else (ck (x_kd X v0 = 9 + 1) (lt (μ8.2.1 v0 0) (fun (v9 : Nat) => (ck (x_kd X v9 = 7 + 1) (lt (μ8.2.1 v9 4) (fun (v10 : Nat) => (ck (x_kd X v10 = 6 + 1) (bd (f_X6_add X v10 v1 v2 μ8) (fun (v11 : Int32) (μ12 : x_M) => (some (v11, μ12))))))))))))))))))))))
set_option maxRecDepth 100000 in
theorem m_X9_book (hI : x_I X) (v0 : Nat) (v1 : Int32) (v2 : Int32) (μ : x_M) : x_Met X x_Z0 l yX9_book cX9_book 3 (some .int) 3 [vR v0, vI v1, vI v2] μ rkI (f_X9_book X v0 v1 v2 μ) := by
  refine x_enter hI (by decide +kernel) (Nat.le_of_ble_eq_true rfl) (fun p e s m args below meth c hC hr hlk => ?_)
  unfold f_X9_book
  refine s_lv (lv' := [(0, vR v0), (1, vI v1), (2, vI v2)]) [0, 1, 2] rfl ?_
  refine s_iload_n hC 1 dX9_book_0 rfl ?_
  refine s_iconst hC dX9_book_1 (v := -1) (by decide) ?_
  refine s_icmp_ne hC dX9_book_2 (tgt := 16) (by decide) ?_ ?_
  · refine s_aload_n hC 0 dX9_book_16 rfl ?_
    refine s_getR hC xc9 (by decide) rfl qf_X9_12 dX9_book_17 ?_
    refine s_ltR (fun v4 => ?_)
    refine s_iload_n hC 1 dX9_book_20 rfl ?_
    refine s_callV hC (x := v4) (avs := [vI v1]) (st := []) (nest := false) xc7 (m_X7_find hI v4 v1 μ) dX9_book_21 qm_X9_82 qi_X7_find qs_X7_find qc_X7 qd_X7_find qh_X7_find (by decide) (fun _ => Nat.le_of_ble_eq_true rfl) (Nat.le_of_ble_eq_true rfl) (fun v5 μ6 => ?_)
    refine s_ifnonnull hC dX9_book_24 (tgt := 29) (by decide) ?_ ?_
    · refine s_iload_n hC 2 dX9_book_29 rfl ?_
      refine s_sipush hC dX9_book_30 (v := -9999) (by decide) ?_
      refine s_sipush hC dX9_book_33 (v := 9999) (by decide) ?_
      refine s_callS hC (avs := [vI v2, vI (-9999 : Int32), vI (9999 : Int32)]) (st := []) (nest := false) (m_X9_within hI v2 (-9999 : Int32) (9999 : Int32) μ6) dX9_book_36 qm_X9_56 qt_X9_within qc_X9 qd_X9_within qh_X9_within (by decide) (fun _ => Nat.le_of_ble_eq_true rfl) (Nat.le_of_ble_eq_true rfl) (fun v7 μ8 => ?_)
      refine s_if_eq hC dX9_book_39 (tgt := 57) (by decide) ?_ ?_
      · refine s_bipush hC dX9_book_57 (v := -2) (by decide) ?_
        exact s_iret hC hr hlk dX9_book_59
      refine s_aload_n hC 0 dX9_book_42 rfl ?_
      refine s_getR hC xc9 (by decide) rfl qf_X9_12 dX9_book_43 ?_
      refine s_ltR (fun v9 => ?_)
      refine s_getR hC xc7 (by decide) rfl qf_X9_249 dX9_book_46 ?_
      refine s_ltR (fun v10 => ?_)
      refine s_iload_n hC 1 dX9_book_49 rfl ?_
      refine s_iload_n hC 2 dX9_book_50 rfl ?_
      refine s_callV hC (x := v10) (avs := [vI v1, vI v2]) (st := []) (nest := false) xc6 (m_X6_add hI v10 v1 v2 μ8) dX9_book_51 qm_X9_226 qi_X6_add qs_X6_add qc_X6 qd_X6_add qh_X6_add (by decide) (fun _ => Nat.le_of_ble_eq_true rfl) (Nat.le_of_ble_eq_true rfl) (fun v11 μ12 => ?_)
      refine s_goto hC dX9_book_54 (tgt := 59) (by decide) ?_
      exact s_iret hC hr hlk dX9_book_59
    refine s_iconst hC dX9_book_27 (v := -1) (by decide) ?_
    exact s_iret hC hr hlk dX9_book_28
  refine s_aload_n hC 0 dX9_book_5 rfl ?_
  refine s_getR hC xc9 (by decide) rfl qf_X9_12 dX9_book_6 ?_
  refine s_ltR (fun v13 => ?_)
  refine s_getR hC xc7 (by decide) rfl qf_X9_249 dX9_book_9 ?_
  refine s_ltR (fun v14 => ?_)
  refine s_callV hC (x := v14) (avs := []) (st := []) (nest := false) xc6 (m_X6_clear hI v14 μ) dX9_book_12 qm_X9_222 qi_X6_clear qs_X6_clear qc_X6 qd_X6_clear qh_X6_clear (by decide) (fun _ => Nat.le_of_ble_eq_true rfl) (Nat.le_of_ble_eq_true rfl) (fun v15 μ16 => ?_)
  exact s_iret hC hr hlk dX9_book_15
theorem dX9_looked_0 : decode cX9_looked 0 = .ok (.iconst 0, 1) := by decide +kernel
theorem dX9_looked_1 : decode cX9_looked 1 = .ok (.istore_n 1, 1) := by decide +kernel
theorem dX9_looked_2 : decode cX9_looked 2 = .ok (.iload_n 1, 1) := by decide +kernel
theorem dX9_looked_3 : decode cX9_looked 3 = .ok (.aload_n 0, 1) := by decide +kernel
theorem dX9_looked_4 : decode cX9_looked 4 = .ok (.getfield 12, 3) := by decide +kernel
theorem dX9_looked_7 : decode cX9_looked 7 = .ok (.getfield 249, 3) := by decide +kernel
theorem dX9_looked_10 : decode cX9_looked 10 = .ok (.invokevirtual 252, 3) := by decide +kernel
theorem dX9_looked_13 : decode cX9_looked 13 = .ok (.if_icmp .ge 43, 3) := by decide +kernel
theorem dX9_looked_16 : decode cX9_looked 16 = .ok (.aload_n 0, 1) := by decide +kernel
theorem dX9_looked_17 : decode cX9_looked 17 = .ok (.getfield 12, 3) := by decide +kernel
theorem dX9_looked_20 : decode cX9_looked 20 = .ok (.aload_n 0, 1) := by decide +kernel
theorem dX9_looked_21 : decode cX9_looked 21 = .ok (.getfield 12, 3) := by decide +kernel
theorem dX9_looked_24 : decode cX9_looked 24 = .ok (.getfield 249, 3) := by decide +kernel
theorem dX9_looked_27 : decode cX9_looked 27 = .ok (.iload_n 1, 1) := by decide +kernel
theorem dX9_looked_28 : decode cX9_looked 28 = .ok (.invokevirtual 255, 3) := by decide +kernel
theorem dX9_looked_31 : decode cX9_looked 31 = .ok (.invokevirtual 174, 3) := by decide +kernel
theorem dX9_looked_34 : decode cX9_looked 34 = .ok (.aload_n 0, 1) := by decide +kernel
theorem dX9_looked_35 : decode cX9_looked 35 = .ok (.getfield 12, 3) := by decide +kernel
theorem dX9_looked_38 : decode cX9_looked 38 = .ok (.getfield 249, 3) := by decide +kernel
theorem dX9_looked_41 : decode cX9_looked 41 = .ok (.iload_n 1, 1) := by decide +kernel
theorem dX9_looked_42 : decode cX9_looked 42 = .ok (.invokevirtual 258, 3) := by decide +kernel
theorem dX9_looked_45 : decode cX9_looked 45 = .ok (.if_icmp .eq 5, 3) := by decide +kernel
theorem dX9_looked_48 : decode cX9_looked 48 = .ok (.iload_n 1, 1) := by decide +kernel
theorem dX9_looked_49 : decode cX9_looked 49 = .ok (.ireturn, 1) := by decide +kernel
theorem dX9_looked_50 : decode cX9_looked 50 = .ok (.iinc 1 1, 3) := by decide +kernel
theorem dX9_looked_53 : decode cX9_looked 53 = .ok (.goto (-51), 3) := by decide +kernel
theorem dX9_looked_56 : decode cX9_looked 56 = .ok (.bipush (-5), 2) := by decide +kernel
theorem dX9_looked_58 : decode cX9_looked 58 = .ok (.ireturn, 1) := by decide +kernel
def f_X9_looked_L2 (X : x_X) : Nat → Nat → Int32 → x_M → Option (Int32 × x_M)
  | 0, _, _, _ => none
  | n + 1, v2, v3, μ4 =>
    (ck (x_kd X v2 = 9 + 1) (lt (μ4.2.1 v2 0) (fun (v5 : Nat) => (ck (x_kd X v5 = 7 + 1) (lt (μ4.2.1 v5 4) (fun (v6 : Nat) => (ck (x_kd X v6 = 6 + 1) (bd (f_X6_size X v6 μ4) (fun (v7 : Int32) (μ8 : x_M) => (if v7 ≤ v3 then (some ((-5 : Int32), μ8)) else (ck (x_kd X v2 = 9 + 1) (lt (μ8.2.1 v2 0) (fun (v9 : Nat) => (ck (x_kd X v2 = 9 + 1) (lt (μ8.2.1 v2 0) (fun (v10 : Nat) => (ck (x_kd X v10 = 7 + 1) (lt (μ8.2.1 v10 4) (fun (v11 : Nat) => (ck (x_kd X v11 = 6 + 1) (bd (f_X6_first X v11 v3 μ8) (fun (v12 : Int32) (μ13 : x_M) => (ck (x_kd X v9 = 7 + 1) (bd (f_X7_bucketsOf X v9 v12 μ13) (fun (v14 : Int32) (μ15 : x_M) => (ck (x_kd X v2 = 9 + 1) (lt (μ15.2.1 v2 0) (fun (v16 : Nat) => (ck (x_kd X v16 = 7 + 1) (lt (μ15.2.1 v16 4) (fun (v17 : Nat) => (ck (x_kd X v17 = 6 + 1) (bd (f_X6_second X v17 v3 μ15) (fun (v18 : Int32) (μ19 : x_M) => (if v14 = v18 then (f_X9_looked_L2 X n v2 (v3 + (1 : Int32)) μ19) else (some (v3, μ19)))))))))))))))))))))))))))))))))))))
set_option maxRecDepth 100000 in
theorem j_X9_looked_L2 (hI : x_I X) (hC : x_C X x_Z0 p (x_rm 3) s m c cX9_looked RX9 2 0 0 3) (hr : meth.sig.returnType = (some .int)) (hlk : meth.locks = false) : ∀ (n : Nat) (v2 : Nat) (v3 : Int32) (μ4 : x_M), SM X 2 3 rkI p l e s m args below meth c 2 [(0, vR v2), (1, vI v3)] [] μ4 (f_X9_looked_L2 X n v2 v3 μ4) := by
  intro n
  induction n with
  | zero => intro v2 v3 μ4; exact s_none
  | succ n ih =>
    intro v2 v3 μ4
    unfold f_X9_looked_L2
    refine s_iload_n hC 1 dX9_looked_2 rfl ?_
    refine s_aload_n hC 0 dX9_looked_3 rfl ?_
    refine s_getR hC xc9 (by decide) rfl qf_X9_12 dX9_looked_4 ?_
    refine s_ltR (fun v5 => ?_)
    refine s_getR hC xc7 (by decide) rfl qf_X9_249 dX9_looked_7 ?_
    refine s_ltR (fun v6 => ?_)
    refine s_callV hC (x := v6) (avs := []) (st := [vI v3]) (nest := false) xc6 (m_X6_size hI v6 μ4) dX9_looked_10 qm_X9_252 qi_X6_size qs_X6_size qc_X6 qd_X6_size qh_X6_size (by decide) (fun _ => Nat.le_of_ble_eq_true rfl) (Nat.le_of_ble_eq_true rfl) (fun v7 μ8 => ?_)
    refine s_icmp_ge hC dX9_looked_13 (tgt := 56) (by decide) ?_ ?_
    · refine s_bipush hC dX9_looked_56 (v := -5) (by decide) ?_
      exact s_iret hC hr hlk dX9_looked_58
    refine s_aload_n hC 0 dX9_looked_16 rfl ?_
    refine s_getR hC xc9 (by decide) rfl qf_X9_12 dX9_looked_17 ?_
    refine s_ltR (fun v9 => ?_)
    refine s_aload_n hC 0 dX9_looked_20 rfl ?_
    refine s_getR hC xc9 (by decide) rfl qf_X9_12 dX9_looked_21 ?_
    refine s_ltR (fun v10 => ?_)
    refine s_getR hC xc7 (by decide) rfl qf_X9_249 dX9_looked_24 ?_
    refine s_ltR (fun v11 => ?_)
    refine s_iload_n hC 1 dX9_looked_27 rfl ?_
    refine s_callV hC (x := v11) (avs := [vI v3]) (st := [vR v9]) (nest := false) xc6 (m_X6_first hI v11 v3 μ8) dX9_looked_28 qm_X9_255 qi_X6_first qs_X6_first qc_X6 qd_X6_first qh_X6_first (by decide) (fun _ => Nat.le_of_ble_eq_true rfl) (Nat.le_of_ble_eq_true rfl) (fun v12 μ13 => ?_)
    refine s_callV hC (x := v9) (avs := [vI v12]) (st := []) (nest := false) xc7 (m_X7_bucketsOf hI v9 v12 μ13) dX9_looked_31 qm_X9_174 qi_X7_bucketsOf qs_X7_bucketsOf qc_X7 qd_X7_bucketsOf qh_X7_bucketsOf (by decide) (fun _ => Nat.le_of_ble_eq_true rfl) (Nat.le_of_ble_eq_true rfl) (fun v14 μ15 => ?_)
    refine s_aload_n hC 0 dX9_looked_34 rfl ?_
    refine s_getR hC xc9 (by decide) rfl qf_X9_12 dX9_looked_35 ?_
    refine s_ltR (fun v16 => ?_)
    refine s_getR hC xc7 (by decide) rfl qf_X9_249 dX9_looked_38 ?_
    refine s_ltR (fun v17 => ?_)
    refine s_iload_n hC 1 dX9_looked_41 rfl ?_
    refine s_callV hC (x := v17) (avs := [vI v3]) (st := [vI v14]) (nest := false) xc6 (m_X6_second hI v17 v3 μ15) dX9_looked_42 qm_X9_258 qi_X6_second qs_X6_second qc_X6 qd_X6_second qh_X6_second (by decide) (fun _ => Nat.le_of_ble_eq_true rfl) (Nat.le_of_ble_eq_true rfl) (fun v18 μ19 => ?_)
    refine s_icmp_eq hC dX9_looked_45 (tgt := 50) (by decide) ?_ ?_
    · refine s_iinc hC 1 dX9_looked_50 rfl (w := 1) (by decide) (by decide) (lv' := [(1, vI (v3 + (1 : Int32))), (0, vR v2)]) rfl ?_
      refine s_goto hC dX9_looked_53 (tgt := 2) (by decide) ?_
      refine s_lv (lv' := [(0, vR v2), (1, vI (v3 + (1 : Int32)))]) [1, 0] rfl ?_
      exact ih _ _ _
    refine s_iload_n hC 1 dX9_looked_48 rfl ?_
    exact s_iret hC hr hlk dX9_looked_49
def f_X9_looked (X : x_X) (v0 : Nat) (μ : x_M) : Option (Int32 × x_M) :=
  (f_X9_looked_L2 X 4096 v0 (0 : Int32) μ)
set_option maxRecDepth 100000 in
theorem m_X9_looked (hI : x_I X) (v0 : Nat) (μ : x_M) : x_Met X x_Z0 l yX9_looked cX9_looked 2 (some .int) 3 [vR v0] μ rkI (f_X9_looked X v0 μ) := by
  refine x_enter hI (by decide +kernel) (Nat.le_of_ble_eq_true rfl) (fun p e s m args below meth c hC hr hlk => ?_)
  unfold f_X9_looked
  refine s_lv (lv' := [(0, vR v0)]) [0] rfl ?_
  refine s_iconst hC dX9_looked_0 (v := 0) (by decide) ?_
  refine s_istore_n hC dX9_looked_1 (by decide) (lv' := [(1, vI (0 : Int32)), (0, vR v0)]) rfl ?_
  refine s_lv (lv' := [(0, vR v0), (1, vI (0 : Int32))]) [1, 0] rfl ?_
  refine j_X9_looked_L2 hI hC hr hlk 4096 _ _ _
theorem dX9_judge_0 : decode cX9_judge 0 = .ok (.aload_n 0, 1) := by decide +kernel
theorem dX9_judge_1 : decode cX9_judge 1 = .ok (.iload_n 1, 1) := by decide +kernel
theorem dX9_judge_2 : decode cX9_judge 2 = .ok (.invokevirtual 261, 3) := by decide +kernel
theorem dX9_judge_5 : decode cX9_judge 5 = .ok (.astore_n 3, 1) := by decide +kernel
theorem dX9_judge_6 : decode cX9_judge 6 = .ok (.aload_n 3, 1) := by decide +kernel
theorem dX9_judge_7 : decode cX9_judge 7 = .ok (.ifnonnull 5, 3) := by decide +kernel
theorem dX9_judge_10 : decode cX9_judge 10 = .ok (.iconst (-1), 1) := by decide +kernel
theorem dX9_judge_11 : decode cX9_judge 11 = .ok (.ireturn, 1) := by decide +kernel
theorem dX9_judge_12 : decode cX9_judge 12 = .ok (.aload_n 3, 1) := by decide +kernel
theorem dX9_judge_13 : decode cX9_judge 13 = .ok (.invokevirtual 265, 3) := by decide +kernel
theorem dX9_judge_16 : decode cX9_judge 16 = .ok (.ifCond .ne 14, 3) := by decide +kernel
theorem dX9_judge_19 : decode cX9_judge 19 = .ok (.aload_n 3, 1) := by decide +kernel
theorem dX9_judge_20 : decode cX9_judge 20 = .ok (.getfield 269, 3) := by decide +kernel
theorem dX9_judge_23 : decode cX9_judge 23 = .ok (.iconst 2, 1) := by decide +kernel
theorem dX9_judge_24 : decode cX9_judge 24 = .ok (.if_icmp .eq 6, 3) := by decide +kernel
theorem dX9_judge_27 : decode cX9_judge 27 = .ok (.bipush (-12), 2) := by decide +kernel
theorem dX9_judge_29 : decode cX9_judge 29 = .ok (.ireturn, 1) := by decide +kernel
theorem dX9_judge_30 : decode cX9_judge 30 = .ok (.iconst 0, 1) := by decide +kernel
theorem dX9_judge_31 : decode cX9_judge 31 = .ok (.istore 4, 2) := by decide +kernel
theorem dX9_judge_33 : decode cX9_judge 33 = .ok (.iload 4, 2) := by decide +kernel
theorem dX9_judge_35 : decode cX9_judge 35 = .ok (.aload_n 0, 1) := by decide +kernel
theorem dX9_judge_36 : decode cX9_judge 36 = .ok (.getfield 12, 3) := by decide +kernel
theorem dX9_judge_39 : decode cX9_judge 39 = .ok (.getfield 272, 3) := by decide +kernel
theorem dX9_judge_42 : decode cX9_judge 42 = .ok (.if_icmp .ge 55, 3) := by decide +kernel
theorem dX9_judge_45 : decode cX9_judge 45 = .ok (.iload_n 2, 1) := by decide +kernel
theorem dX9_judge_46 : decode cX9_judge 46 = .ok (.ifCond .lt 14, 3) := by decide +kernel
theorem dX9_judge_49 : decode cX9_judge 49 = .ok (.iload_n 2, 1) := by decide +kernel
theorem dX9_judge_50 : decode cX9_judge 50 = .ok (.aload_n 3, 1) := by decide +kernel
theorem dX9_judge_51 : decode cX9_judge 51 = .ok (.getfield 275, 3) := by decide +kernel
theorem dX9_judge_54 : decode cX9_judge 54 = .ok (.iload 4, 2) := by decide +kernel
theorem dX9_judge_56 : decode cX9_judge 56 = .ok (.isub, 1) := by decide +kernel
theorem dX9_judge_57 : decode cX9_judge 57 = .ok (.if_icmp .lt 9, 3) := by decide +kernel
theorem dX9_judge_60 : decode cX9_judge 60 = .ok (.bipush 100, 2) := by decide +kernel
theorem dX9_judge_62 : decode cX9_judge 62 = .ok (.iload 4, 2) := by decide +kernel
theorem dX9_judge_64 : decode cX9_judge 64 = .ok (.iadd, 1) := by decide +kernel
theorem dX9_judge_65 : decode cX9_judge 65 = .ok (.ireturn, 1) := by decide +kernel
theorem dX9_judge_66 : decode cX9_judge 66 = .ok (.aload_n 3, 1) := by decide +kernel
theorem dX9_judge_67 : decode cX9_judge 67 = .ok (.iload_n 2, 1) := by decide +kernel
theorem dX9_judge_68 : decode cX9_judge 68 = .ok (.iload 4, 2) := by decide +kernel
theorem dX9_judge_70 : decode cX9_judge 70 = .ok (.iadd, 1) := by decide +kernel
theorem dX9_judge_71 : decode cX9_judge 71 = .ok (.invokevirtual 277, 3) := by decide +kernel
theorem dX9_judge_74 : decode cX9_judge 74 = .ok (.aload_n 0, 1) := by decide +kernel
theorem dX9_judge_75 : decode cX9_judge 75 = .ok (.getfield 12, 3) := by decide +kernel
theorem dX9_judge_78 : decode cX9_judge 78 = .ok (.iload 4, 2) := by decide +kernel
theorem dX9_judge_80 : decode cX9_judge 80 = .ok (.invokevirtual 174, 3) := by decide +kernel
theorem dX9_judge_83 : decode cX9_judge 83 = .ok (.i2l, 1) := by decide +kernel
theorem dX9_judge_84 : decode cX9_judge 84 = .ok (.lcmp, 1) := by decide +kernel
theorem dX9_judge_85 : decode cX9_judge 85 = .ok (.ifCond .eq 6, 3) := by decide +kernel
theorem dX9_judge_88 : decode cX9_judge 88 = .ok (.iload 4, 2) := by decide +kernel
theorem dX9_judge_90 : decode cX9_judge 90 = .ok (.ireturn, 1) := by decide +kernel
theorem dX9_judge_91 : decode cX9_judge 91 = .ok (.iinc 4 1, 3) := by decide +kernel
theorem dX9_judge_94 : decode cX9_judge 94 = .ok (.goto (-61), 3) := by decide +kernel
theorem dX9_judge_97 : decode cX9_judge 97 = .ok (.bipush (-5), 2) := by decide +kernel
theorem dX9_judge_99 : decode cX9_judge 99 = .ok (.ireturn, 1) := by decide +kernel
def f_X9_judge_L33 (X : x_X) : Nat → Nat → Int32 → Nat → Int32 → x_M → Option (Int32 × x_M)
  | 0, _, _, _, _, _ => none
  | n + 1, v12, v13, v14, v15, μ16 =>
    (ck (x_kd X v12 = 9 + 1) (lt (μ16.2.1 v12 0) (fun (v17 : Nat) => (ck (x_kd X v17 = 7 + 1) (if (μ16.1 v17 6) ≤ v15 then (some ((-5 : Int32), μ16)) else (if v13 < 0 then (some (((100 : Int32) + v15), μ16)) else (ck (x_kd X v14 = 8 + 1) (if v13 < ((μ16.1 v14 2) - v15) then (ck (x_kd X v14 = 8 + 1) (bd (f_X8_get X v14 (v13 + v15) μ16) (fun (v18 : Int64) (μ19 : x_M) => (ck (x_kd X v12 = 9 + 1) (lt (μ19.2.1 v12 0) (fun (v20 : Nat) => (ck (x_kd X v20 = 7 + 1) (bd (f_X7_bucketsOf X v20 v15 μ19) (fun (v21 : Int32) (μ22 : x_M) => (if (lg_cmp v18 ((v21).toInt64)) = 0 then (f_X9_judge_L33 X n v12 v13 v14 (v15 + (1 : Int32)) μ22) else (some (v15, μ22)))))))))))) else (some (((100 : Int32) + v15), μ16))))))))))
set_option maxRecDepth 100000 in
theorem j_X9_judge_L33 (hI : x_I X) (hC : x_C X x_Z0 p (x_rm 3) s m c cX9_judge RX9 5 0 0 3) (hr : meth.sig.returnType = (some .int)) (hlk : meth.locks = false) : ∀ (n : Nat) (v12 : Nat) (v13 : Int32) (v14 : Nat) (v15 : Int32) (μ16 : x_M), SM X 5 3 rkI p l e s m args below meth c 33 [(0, vR v12), (2, vI v13), (3, vR v14), (4, vI v15)] [] μ16 (f_X9_judge_L33 X n v12 v13 v14 v15 μ16) := by
  intro n
  induction n with
  | zero => intro v12 v13 v14 v15 μ16; exact s_none
  | succ n ih =>
    intro v12 v13 v14 v15 μ16
    unfold f_X9_judge_L33
    refine s_iload hC 3 dX9_judge_33 rfl ?_
    refine s_aload_n hC 0 dX9_judge_35 rfl ?_
    refine s_getR hC xc9 (by decide) rfl qf_X9_12 dX9_judge_36 ?_
    refine s_ltR (fun v17 => ?_)
    refine s_getI hC xc7 (by decide) rfl qf_X9_272 dX9_judge_39 ?_
    refine s_icmp_ge hC dX9_judge_42 (tgt := 97) (by decide) ?_ ?_
    · refine s_bipush hC dX9_judge_97 (v := -5) (by decide) ?_
      exact s_iret hC hr hlk dX9_judge_99
    refine s_iload_n hC 1 dX9_judge_45 rfl ?_
    refine s_if_lt hC dX9_judge_46 (tgt := 60) (by decide) ?_ ?_
    · refine s_bipush hC dX9_judge_60 (v := 100) (by decide) ?_
      refine s_iload hC 3 dX9_judge_62 rfl ?_
      refine s_iadd hC dX9_judge_64 ?_
      exact s_iret hC hr hlk dX9_judge_65
    refine s_iload_n hC 1 dX9_judge_49 rfl ?_
    refine s_aload_n hC 2 dX9_judge_50 rfl ?_
    refine s_getI hC xc8 (by decide) rfl qf_X9_275 dX9_judge_51 ?_
    refine s_iload hC 3 dX9_judge_54 rfl ?_
    refine s_isub hC dX9_judge_56 ?_
    refine s_icmp_lt hC dX9_judge_57 (tgt := 66) (by decide) ?_ ?_
    · refine s_aload_n hC 2 dX9_judge_66 rfl ?_
      refine s_iload_n hC 1 dX9_judge_67 rfl ?_
      refine s_iload hC 3 dX9_judge_68 rfl ?_
      refine s_iadd hC dX9_judge_70 ?_
      refine s_callV hC (x := v14) (avs := [vI (v13 + v15)]) (st := []) (nest := false) xc8 (m_X8_get hI v14 (v13 + v15) μ16) dX9_judge_71 qm_X9_277 qi_X8_get qs_X8_get qc_X8 qd_X8_get qh_X8_get (by decide) (fun _ => Nat.le_of_ble_eq_true rfl) (Nat.le_of_ble_eq_true rfl) (fun v18 μ19 => ?_)
      refine s_aload_n hC 0 dX9_judge_74 rfl ?_
      refine s_getR hC xc9 (by decide) rfl qf_X9_12 dX9_judge_75 ?_
      refine s_ltR (fun v20 => ?_)
      refine s_iload hC 3 dX9_judge_78 rfl ?_
      refine s_callV hC (x := v20) (avs := [vI v15]) (st := [vJ v18]) (nest := false) xc7 (m_X7_bucketsOf hI v20 v15 μ19) dX9_judge_80 qm_X9_174 qi_X7_bucketsOf qs_X7_bucketsOf qc_X7 qd_X7_bucketsOf qh_X7_bucketsOf (by decide) (fun _ => Nat.le_of_ble_eq_true rfl) (Nat.le_of_ble_eq_true rfl) (fun v21 μ22 => ?_)
      refine s_i2l hC dX9_judge_83 ?_
      refine s_lcmp hC dX9_judge_84 ?_
      refine s_if_eq hC dX9_judge_85 (tgt := 91) (by decide) ?_ ?_
      · refine s_iinc hC 3 dX9_judge_91 rfl (w := 1) (by decide) (by decide) (lv' := [(4, vI (v15 + (1 : Int32))), (0, vR v12), (2, vI v13), (3, vR v14)]) rfl ?_
        refine s_goto hC dX9_judge_94 (tgt := 33) (by decide) ?_
        refine s_lv (lv' := [(0, vR v12), (2, vI v13), (3, vR v14), (4, vI (v15 + (1 : Int32)))]) [1, 2, 3, 0] rfl ?_
        exact ih _ _ _ _ _
      refine s_iload hC 3 dX9_judge_88 rfl ?_
      exact s_iret hC hr hlk dX9_judge_90
    refine s_bipush hC dX9_judge_60 (v := 100) (by decide) ?_
    refine s_iload hC 3 dX9_judge_62 rfl ?_
    refine s_iadd hC dX9_judge_64 ?_
    exact s_iret hC hr hlk dX9_judge_65
def f_X9_judge_J30 (X : x_X) (v8 : Nat) (v9 : Int32) (v10 : Nat) (μ11 : x_M) : Option (Int32 × x_M) :=
  (f_X9_judge_L33 X 4096 v8 v9 v10 (0 : Int32) μ11)
set_option maxRecDepth 100000 in
theorem j_X9_judge_J30 (hI : x_I X) (hC : x_C X x_Z0 p (x_rm 3) s m c cX9_judge RX9 5 0 0 3) (hr : meth.sig.returnType = (some .int)) (hlk : meth.locks = false) (v8 : Nat) (v9 : Int32) (v10 : Nat) (μ11 : x_M) : SM X 5 3 rkI p l e s m args below meth c 30 [(0, vR v8), (2, vI v9), (3, vR v10)] [] μ11 (f_X9_judge_J30 X v8 v9 v10 μ11) := by
  unfold f_X9_judge_J30
  refine s_iconst hC dX9_judge_30 (v := 0) (by decide) ?_
  refine s_istore hC dX9_judge_31 (by decide) (lv' := [(4, vI (0 : Int32)), (0, vR v8), (2, vI v9), (3, vR v10)]) rfl ?_
  refine s_lv (lv' := [(0, vR v8), (2, vI v9), (3, vR v10), (4, vI (0 : Int32))]) [1, 2, 3, 0] rfl ?_
  refine j_X9_judge_L33 hI hC hr hlk 4096 _ _ _ _ _
def f_X9_judge (X : x_X) (v0 : Nat) (v1 : Int32) (v2 : Int32) (μ : x_M) : Option (Int32 × x_M) :=
  (ck (x_kd X v0 = 9 + 1) (bd (f_X9_findTape X v0 v1 μ) (fun (v4 : Nat) (μ5 : x_M) => (if v4 = 0 then (some ((-1 : Int32), μ5)) else (ck (x_kd X v4 = 8 + 1) (bd (f_X8_isEmpty X v4 μ5) (fun (v6 : Int32) (μ7 : x_M) => (if v6 = 0 then (ck (x_kd X v4 = 8 + 1) (if (μ7.1 v4 1) = (2 : Int32) then (f_X9_judge_J30 X v0 v2 v4 μ7) else (some ((-12 : Int32), μ7)))) else (f_X9_judge_J30 X v0 v2 v4 μ7)))))))))
set_option maxRecDepth 100000 in
theorem m_X9_judge (hI : x_I X) (v0 : Nat) (v1 : Int32) (v2 : Int32) (μ : x_M) : x_Met X x_Z0 l yX9_judge cX9_judge 5 (some .int) 3 [vR v0, vI v1, vI v2] μ rkI (f_X9_judge X v0 v1 v2 μ) := by
  refine x_enter hI (by decide +kernel) (Nat.le_of_ble_eq_true rfl) (fun p e s m args below meth c hC hr hlk => ?_)
  unfold f_X9_judge
  refine s_lv (lv' := [(0, vR v0), (1, vI v1), (2, vI v2)]) [0, 1, 2] rfl ?_
  refine s_aload_n hC 0 dX9_judge_0 rfl ?_
  refine s_iload_n hC 1 dX9_judge_1 rfl ?_
  refine s_callV hC (x := v0) (avs := [vI v1]) (st := []) (nest := false) xc9 (m_X9_findTape hI v0 v1 μ) dX9_judge_2 qm_X9_261 qi_X9_findTape qs_X9_findTape qc_X9 qd_X9_findTape qh_X9_findTape (by decide) (fun _ => Nat.le_of_ble_eq_true rfl) (Nat.le_of_ble_eq_true rfl) (fun v4 μ5 => ?_)
  refine s_astore_n hC dX9_judge_5 (by decide) (lv' := [(3, vR v4), (0, vR v0), (1, vI v1), (2, vI v2)]) rfl ?_
  refine s_aload_n hC 0 dX9_judge_6 rfl ?_
  refine s_ifnonnull hC dX9_judge_7 (tgt := 12) (by decide) ?_ ?_
  · refine s_aload_n hC 0 dX9_judge_12 rfl ?_
    refine s_callV hC (x := v4) (avs := []) (st := []) (nest := false) xc8 (m_X8_isEmpty hI v4 μ5) dX9_judge_13 qm_X9_265 qi_X8_isEmpty qs_X8_isEmpty qc_X8 qd_X8_isEmpty qh_X8_isEmpty (by decide) (fun _ => Nat.le_of_ble_eq_true rfl) (Nat.le_of_ble_eq_true rfl) (fun v6 μ7 => ?_)
    refine s_if_ne hC dX9_judge_16 (tgt := 30) (by decide) ?_ ?_
    · refine s_lv (lv' := [(0, vR v0), (2, vI v2), (3, vR v4)]) [1, 3, 0] rfl ?_
      exact j_X9_judge_J30 hI hC hr hlk _ _ _ _
    refine s_aload_n hC 0 dX9_judge_19 rfl ?_
    refine s_getI hC xc8 (by decide) rfl qf_X9_269 dX9_judge_20 ?_
    refine s_iconst hC dX9_judge_23 (v := 2) (by decide) ?_
    refine s_icmp_eq hC dX9_judge_24 (tgt := 30) (by decide) ?_ ?_
    · refine s_lv (lv' := [(0, vR v0), (2, vI v2), (3, vR v4)]) [1, 3, 0] rfl ?_
      exact j_X9_judge_J30 hI hC hr hlk _ _ _ _
    refine s_bipush hC dX9_judge_27 (v := -12) (by decide) ?_
    exact s_iret hC hr hlk dX9_judge_29
  refine s_iconst hC dX9_judge_10 (v := -1) (by decide) ?_
  exact s_iret hC hr hlk dX9_judge_11
theorem dX9_taken_0 : decode cX9_taken 0 = .ok (.iload_n 2, 1) := by decide +kernel
theorem dX9_taken_1 : decode cX9_taken 1 = .ok (.iconst 0, 1) := by decide +kernel
theorem dX9_taken_2 : decode cX9_taken 2 = .ok (.bipush 6, 2) := by decide +kernel
theorem dX9_taken_4 : decode cX9_taken 4 = .ok (.invokestatic 56, 3) := by decide +kernel
theorem dX9_taken_7 : decode cX9_taken 7 = .ok (.ifCond .ne 6, 3) := by decide +kernel
theorem dX9_taken_10 : decode cX9_taken 10 = .ok (.bipush (-2), 2) := by decide +kernel
theorem dX9_taken_12 : decode cX9_taken 12 = .ok (.ireturn, 1) := by decide +kernel
theorem dX9_taken_13 : decode cX9_taken 13 = .ok (.aload_n 0, 1) := by decide +kernel
theorem dX9_taken_14 : decode cX9_taken 14 = .ok (.getfield 12, 3) := by decide +kernel
theorem dX9_taken_17 : decode cX9_taken 17 = .ok (.iload_n 1, 1) := by decide +kernel
theorem dX9_taken_18 : decode cX9_taken 18 = .ok (.invokevirtual 82, 3) := by decide +kernel
theorem dX9_taken_21 : decode cX9_taken 21 = .ok (.astore_n 3, 1) := by decide +kernel
theorem dX9_taken_22 : decode cX9_taken 22 = .ok (.aload_n 3, 1) := by decide +kernel
theorem dX9_taken_23 : decode cX9_taken 23 = .ok (.ifnonnull 6, 3) := by decide +kernel
theorem dX9_taken_26 : decode cX9_taken 26 = .ok (.bipush (-11), 2) := by decide +kernel
theorem dX9_taken_28 : decode cX9_taken 28 = .ok (.ireturn, 1) := by decide +kernel
theorem dX9_taken_29 : decode cX9_taken 29 = .ok (.aload_n 3, 1) := by decide +kernel
theorem dX9_taken_30 : decode cX9_taken 30 = .ok (.getfield 86, 3) := by decide +kernel
theorem dX9_taken_33 : decode cX9_taken 33 = .ok (.iload_n 2, 1) := by decide +kernel
theorem dX9_taken_34 : decode cX9_taken 34 = .ok (.invokestatic 296, 3) := by decide +kernel
theorem dX9_taken_37 : decode cX9_taken 37 = .ok (.ifCond .eq 10, 3) := by decide +kernel
theorem dX9_taken_40 : decode cX9_taken 40 = .ok (.aload_n 3, 1) := by decide +kernel
theorem dX9_taken_41 : decode cX9_taken 41 = .ok (.getfield 86, 3) := by decide +kernel
theorem dX9_taken_44 : decode cX9_taken 44 = .ok (.goto 5, 3) := by decide +kernel
theorem dX9_taken_47 : decode cX9_taken 47 = .ok (.bipush (-12), 2) := by decide +kernel
theorem dX9_taken_49 : decode cX9_taken 49 = .ok (.ireturn, 1) := by decide +kernel
def f_X9_taken (X : x_X) (v0 : Nat) (v1 : Int32) (v2 : Int32) (μ : x_M) : Option (Int32 × x_M) :=
  (bd (f_X9_within X v2 (0 : Int32) (6 : Int32) μ) (fun (v4 : Int32) (μ5 : x_M) => (if v4 = 0 then (some ((-2 : Int32), μ5)) else (ck (x_kd X v0 = 9 + 1) (lt (μ5.2.1 v0 0) (fun (v6 : Nat) => (ck (x_kd X v6 = 7 + 1) (bd (f_X7_find X v6 v1 μ5) (fun (v7 : Nat) (μ8 : x_M) => (if v7 = 0 then (some ((-11 : Int32), μ8)) else (ck (x_kd X v7 = 0 + 1) (bd (f_X9_isOrUnder X (μ8.1 v7 3) v2 μ8) (fun (v9 : Int32) (μ10 : x_M) => (if v9 = 0 then (some ((-12 : Int32), μ10)) else (ck (x_kd X v7 = 0 + 1) (some ((μ10.1 v7 3), μ10)))))))))))))))))
set_option maxRecDepth 100000 in
theorem m_X9_taken (hI : x_I X) (v0 : Nat) (v1 : Int32) (v2 : Int32) (μ : x_M) : x_Met X x_Z0 l yX9_taken cX9_taken 4 (some .int) 3 [vR v0, vI v1, vI v2] μ rkI (f_X9_taken X v0 v1 v2 μ) := by
  refine x_enter hI (by decide +kernel) (Nat.le_of_ble_eq_true rfl) (fun p e s m args below meth c hC hr hlk => ?_)
  unfold f_X9_taken
  refine s_lv (lv' := [(0, vR v0), (1, vI v1), (2, vI v2)]) [0, 1, 2] rfl ?_
  refine s_iload_n hC 2 dX9_taken_0 rfl ?_
  refine s_iconst hC dX9_taken_1 (v := 0) (by decide) ?_
  refine s_bipush hC dX9_taken_2 (v := 6) (by decide) ?_
  refine s_callS hC (avs := [vI v2, vI (0 : Int32), vI (6 : Int32)]) (st := []) (nest := false) (m_X9_within hI v2 (0 : Int32) (6 : Int32) μ) dX9_taken_4 qm_X9_56 qt_X9_within qc_X9 qd_X9_within qh_X9_within (by decide) (fun _ => Nat.le_of_ble_eq_true rfl) (Nat.le_of_ble_eq_true rfl) (fun v4 μ5 => ?_)
  refine s_if_ne hC dX9_taken_7 (tgt := 13) (by decide) ?_ ?_
  · refine s_aload_n hC 0 dX9_taken_13 rfl ?_
    refine s_getR hC xc9 (by decide) rfl qf_X9_12 dX9_taken_14 ?_
    refine s_ltR (fun v6 => ?_)
    refine s_iload_n hC 1 dX9_taken_17 rfl ?_
    refine s_callV hC (x := v6) (avs := [vI v1]) (st := []) (nest := false) xc7 (m_X7_find hI v6 v1 μ5) dX9_taken_18 qm_X9_82 qi_X7_find qs_X7_find qc_X7 qd_X7_find qh_X7_find (by decide) (fun _ => Nat.le_of_ble_eq_true rfl) (Nat.le_of_ble_eq_true rfl) (fun v7 μ8 => ?_)
    refine s_astore_n hC dX9_taken_21 (by decide) (lv' := [(3, vR v7), (0, vR v0), (1, vI v1), (2, vI v2)]) rfl ?_
    refine s_aload_n hC 0 dX9_taken_22 rfl ?_
    refine s_ifnonnull hC dX9_taken_23 (tgt := 29) (by decide) ?_ ?_
    · refine s_aload_n hC 0 dX9_taken_29 rfl ?_
      refine s_getI hC xc0 (by decide) rfl qf_X9_86 dX9_taken_30 ?_
      refine s_iload_n hC 3 dX9_taken_33 rfl ?_
      refine s_callS hC (avs := [vI (μ8.1 v7 3), vI v2]) (st := []) (nest := false) (m_X9_isOrUnder hI (μ8.1 v7 3) v2 μ8) dX9_taken_34 qm_X9_296 qt_X9_isOrUnder qc_X9 qd_X9_isOrUnder qh_X9_isOrUnder (by decide) (fun _ => Nat.le_of_ble_eq_true rfl) (Nat.le_of_ble_eq_true rfl) (fun v9 μ10 => ?_)
      refine s_if_eq hC dX9_taken_37 (tgt := 47) (by decide) ?_ ?_
      · refine s_bipush hC dX9_taken_47 (v := -12) (by decide) ?_
        exact s_iret hC hr hlk dX9_taken_49
      refine s_aload_n hC 0 dX9_taken_40 rfl ?_
      refine s_getI hC xc0 (by decide) rfl qf_X9_86 dX9_taken_41 ?_
      refine s_goto hC dX9_taken_44 (tgt := 49) (by decide) ?_
      exact s_iret hC hr hlk dX9_taken_49
    refine s_bipush hC dX9_taken_26 (v := -11) (by decide) ?_
    exact s_iret hC hr hlk dX9_taken_28
  refine s_bipush hC dX9_taken_10 (v := -2) (by decide) ?_
  exact s_iret hC hr hlk dX9_taken_12
theorem dX9_tape_0 : decode cX9_tape 0 = .ok (.aload_n 0, 1) := by decide +kernel
theorem dX9_tape_1 : decode cX9_tape 1 = .ok (.iload_n 1, 1) := by decide +kernel
theorem dX9_tape_2 : decode cX9_tape 2 = .ok (.invokevirtual 261, 3) := by decide +kernel
theorem dX9_tape_5 : decode cX9_tape 5 = .ok (.astore 4, 2) := by decide +kernel
theorem dX9_tape_7 : decode cX9_tape 7 = .ok (.aload 4, 2) := by decide +kernel
theorem dX9_tape_9 : decode cX9_tape 9 = .ok (.ifnonnull 5, 3) := by decide +kernel
theorem dX9_tape_12 : decode cX9_tape 12 = .ok (.iconst (-1), 1) := by decide +kernel
theorem dX9_tape_13 : decode cX9_tape 13 = .ok (.ireturn, 1) := by decide +kernel
theorem dX9_tape_14 : decode cX9_tape 14 = .ok (.iload_n 2, 1) := by decide +kernel
theorem dX9_tape_15 : decode cX9_tape 15 = .ok (.iconst (-1), 1) := by decide +kernel
theorem dX9_tape_16 : decode cX9_tape 16 = .ok (.if_icmp .ne 11, 3) := by decide +kernel
theorem dX9_tape_19 : decode cX9_tape 19 = .ok (.aload 4, 2) := by decide +kernel
theorem dX9_tape_21 : decode cX9_tape 21 = .ok (.iload_n 2, 1) := by decide +kernel
theorem dX9_tape_22 : decode cX9_tape 22 = .ok (.iconst 0, 1) := by decide +kernel
theorem dX9_tape_23 : decode cX9_tape 23 = .ok (.invokevirtual 305, 3) := by decide +kernel
theorem dX9_tape_26 : decode cX9_tape 26 = .ok (.ireturn, 1) := by decide +kernel
theorem dX9_tape_27 : decode cX9_tape 27 = .ok (.iload_n 2, 1) := by decide +kernel
theorem dX9_tape_28 : decode cX9_tape 28 = .ok (.iconst 0, 1) := by decide +kernel
theorem dX9_tape_29 : decode cX9_tape 29 = .ok (.iconst 4, 1) := by decide +kernel
theorem dX9_tape_30 : decode cX9_tape 30 = .ok (.invokestatic 56, 3) := by decide +kernel
theorem dX9_tape_33 : decode cX9_tape 33 = .ok (.ifCond .eq 9, 3) := by decide +kernel
theorem dX9_tape_36 : decode cX9_tape 36 = .ok (.iload_n 3, 1) := by decide +kernel
theorem dX9_tape_37 : decode cX9_tape 37 = .ok (.bipush 60, 2) := by decide +kernel
theorem dX9_tape_39 : decode cX9_tape 39 = .ok (.if_icmp .le 6, 3) := by decide +kernel
theorem dX9_tape_42 : decode cX9_tape 42 = .ok (.bipush (-2), 2) := by decide +kernel
theorem dX9_tape_44 : decode cX9_tape 44 = .ok (.ireturn, 1) := by decide +kernel
theorem dX9_tape_45 : decode cX9_tape 45 = .ok (.iload_n 3, 1) := by decide +kernel
theorem dX9_tape_46 : decode cX9_tape 46 = .ok (.ifCond .ge 8, 3) := by decide +kernel
theorem dX9_tape_49 : decode cX9_tape 49 = .ok (.bipush (-14), 2) := by decide +kernel
theorem dX9_tape_51 : decode cX9_tape 51 = .ok (.goto 10, 3) := by decide +kernel
theorem dX9_tape_54 : decode cX9_tape 54 = .ok (.aload 4, 2) := by decide +kernel
theorem dX9_tape_56 : decode cX9_tape 56 = .ok (.iload_n 2, 1) := by decide +kernel
theorem dX9_tape_57 : decode cX9_tape 57 = .ok (.iload_n 3, 1) := by decide +kernel
theorem dX9_tape_58 : decode cX9_tape 58 = .ok (.invokevirtual 305, 3) := by decide +kernel
theorem dX9_tape_61 : decode cX9_tape 61 = .ok (.ireturn, 1) := by decide +kernel
def f_X9_tape (X : x_X) (v0 : Nat) (v1 : Int32) (v2 : Int32) (v3 : Int32) (μ : x_M) : Option (Int32 × x_M) :=
  (ck (x_kd X v0 = 9 + 1) (bd (f_X9_findTape X v0 v1 μ) (fun (v5 : Nat) (μ6 : x_M) => (if v5 = 0 then (some ((-1 : Int32), μ6)) else (if v2 = (-1 : Int32) then (ck (x_kd X v5 = 8 + 1) (bd (f_X8_become X v5 v2 (0 : Int32) μ6) (fun (v11 : Int32) (μ12 : x_M) => (some (v11, μ12))))) else (bd (f_X9_within X v2 (0 : Int32) (4 : Int32) μ6) (fun (v7 : Int32) (μ8 : x_M) => (if v7 = 0 then (some ((-2 : Int32), μ8)) else (if v3 ≤ (60 : Int32) then (if 0 ≤ v3 then (ck (x_kd X v5 = 8 + 1) (bd (f_X8_become X v5 v2 v3 μ8) (fun (v9 : Int32) (μ10 : x_M) => (some (v9, μ10))))) else (some ((-14 : Int32), μ8))) else (some ((-2 : Int32), μ8)))))))))))
set_option maxRecDepth 100000 in
theorem m_X9_tape (hI : x_I X) (v0 : Nat) (v1 : Int32) (v2 : Int32) (v3 : Int32) (μ : x_M) : x_Met X x_Z0 l yX9_tape cX9_tape 5 (some .int) 3 [vR v0, vI v1, vI v2, vI v3] μ rkI (f_X9_tape X v0 v1 v2 v3 μ) := by
  refine x_enter hI (by decide +kernel) (Nat.le_of_ble_eq_true rfl) (fun p e s m args below meth c hC hr hlk => ?_)
  unfold f_X9_tape
  refine s_lv (lv' := [(0, vR v0), (1, vI v1), (2, vI v2), (3, vI v3)]) [0, 1, 2, 3] rfl ?_
  refine s_aload_n hC 0 dX9_tape_0 rfl ?_
  refine s_iload_n hC 1 dX9_tape_1 rfl ?_
  refine s_callV hC (x := v0) (avs := [vI v1]) (st := []) (nest := false) xc9 (m_X9_findTape hI v0 v1 μ) dX9_tape_2 qm_X9_261 qi_X9_findTape qs_X9_findTape qc_X9 qd_X9_findTape qh_X9_findTape (by decide) (fun _ => Nat.le_of_ble_eq_true rfl) (Nat.le_of_ble_eq_true rfl) (fun v5 μ6 => ?_)
  refine s_astore hC dX9_tape_5 (by decide) (lv' := [(4, vR v5), (0, vR v0), (1, vI v1), (2, vI v2), (3, vI v3)]) rfl ?_
  refine s_aload hC 0 dX9_tape_7 rfl ?_
  refine s_ifnonnull hC dX9_tape_9 (tgt := 14) (by decide) ?_ ?_
  · refine s_iload_n hC 3 dX9_tape_14 rfl ?_
    refine s_iconst hC dX9_tape_15 (v := -1) (by decide) ?_
    refine s_icmp_ne hC dX9_tape_16 (tgt := 27) (by decide) ?_ ?_
    · refine s_iload_n hC 3 dX9_tape_27 rfl ?_
      refine s_iconst hC dX9_tape_28 (v := 0) (by decide) ?_
      refine s_iconst hC dX9_tape_29 (v := 4) (by decide) ?_
      refine s_callS hC (avs := [vI v2, vI (0 : Int32), vI (4 : Int32)]) (st := []) (nest := false) (m_X9_within hI v2 (0 : Int32) (4 : Int32) μ6) dX9_tape_30 qm_X9_56 qt_X9_within qc_X9 qd_X9_within qh_X9_within (by decide) (fun _ => Nat.le_of_ble_eq_true rfl) (Nat.le_of_ble_eq_true rfl) (fun v7 μ8 => ?_)
      refine s_if_eq hC dX9_tape_33 (tgt := 42) (by decide) ?_ ?_
      · refine s_bipush hC dX9_tape_42 (v := -2) (by decide) ?_
        exact s_iret hC hr hlk dX9_tape_44
      refine s_iload_n hC 4 dX9_tape_36 rfl ?_
      refine s_bipush hC dX9_tape_37 (v := 60) (by decide) ?_
      refine s_icmp_le hC dX9_tape_39 (tgt := 45) (by decide) ?_ ?_
      · refine s_iload_n hC 4 dX9_tape_45 rfl ?_
        refine s_if_ge hC dX9_tape_46 (tgt := 54) (by decide) ?_ ?_
        · refine s_aload hC 0 dX9_tape_54 rfl ?_
          refine s_iload_n hC 3 dX9_tape_56 rfl ?_
          refine s_iload_n hC 4 dX9_tape_57 rfl ?_
          refine s_callV hC (x := v5) (avs := [vI v2, vI v3]) (st := []) (nest := false) xc8 (m_X8_become hI v5 v2 v3 μ8) dX9_tape_58 qm_X9_305 qi_X8_become qs_X8_become qc_X8 qd_X8_become qh_X8_become (by decide) (fun _ => Nat.le_of_ble_eq_true rfl) (Nat.le_of_ble_eq_true rfl) (fun v9 μ10 => ?_)
          exact s_iret hC hr hlk dX9_tape_61
        refine s_bipush hC dX9_tape_49 (v := -14) (by decide) ?_
        refine s_goto hC dX9_tape_51 (tgt := 61) (by decide) ?_
        exact s_iret hC hr hlk dX9_tape_61
      refine s_bipush hC dX9_tape_42 (v := -2) (by decide) ?_
      exact s_iret hC hr hlk dX9_tape_44
    refine s_aload hC 0 dX9_tape_19 rfl ?_
    refine s_iload_n hC 3 dX9_tape_21 rfl ?_
    refine s_iconst hC dX9_tape_22 (v := 0) (by decide) ?_
    refine s_callV hC (x := v5) (avs := [vI v2, vI (0 : Int32)]) (st := []) (nest := false) xc8 (m_X8_become hI v5 v2 (0 : Int32) μ6) dX9_tape_23 qm_X9_305 qi_X8_become qs_X8_become qc_X8 qd_X8_become qh_X8_become (by decide) (fun _ => Nat.le_of_ble_eq_true rfl) (Nat.le_of_ble_eq_true rfl) (fun v11 μ12 => ?_)
    exact s_iret hC hr hlk dX9_tape_26
  refine s_iconst hC dX9_tape_12 (v := -1) (by decide) ?_
  exact s_iret hC hr hlk dX9_tape_13
theorem dX9_item_0 : decode cX9_item 0 = .ok (.aload_n 0, 1) := by decide +kernel
theorem dX9_item_1 : decode cX9_item 1 = .ok (.iload_n 1, 1) := by decide +kernel
theorem dX9_item_2 : decode cX9_item 2 = .ok (.invokevirtual 261, 3) := by decide +kernel
theorem dX9_item_5 : decode cX9_item 5 = .ok (.astore 5, 2) := by decide +kernel
theorem dX9_item_7 : decode cX9_item 7 = .ok (.aload 5, 2) := by decide +kernel
theorem dX9_item_9 : decode cX9_item 9 = .ok (.ifnonnull 5, 3) := by decide +kernel
theorem dX9_item_12 : decode cX9_item 12 = .ok (.iconst (-1), 1) := by decide +kernel
theorem dX9_item_13 : decode cX9_item 13 = .ok (.ireturn, 1) := by decide +kernel
theorem dX9_item_14 : decode cX9_item 14 = .ok (.aload 5, 2) := by decide +kernel
theorem dX9_item_16 : decode cX9_item 16 = .ok (.invokevirtual 265, 3) := by decide +kernel
theorem dX9_item_19 : decode cX9_item 19 = .ok (.ifCond .eq 6, 3) := by decide +kernel
theorem dX9_item_22 : decode cX9_item 22 = .ok (.bipush (-11), 2) := by decide +kernel
theorem dX9_item_24 : decode cX9_item 24 = .ok (.ireturn, 1) := by decide +kernel
theorem dX9_item_25 : decode cX9_item 25 = .ok (.aload 5, 2) := by decide +kernel
theorem dX9_item_27 : decode cX9_item 27 = .ok (.iload_n 2, 1) := by decide +kernel
theorem dX9_item_28 : decode cX9_item 28 = .ok (.lload_n 3, 1) := by decide +kernel
theorem dX9_item_29 : decode cX9_item 29 = .ok (.invokevirtual 308, 3) := by decide +kernel
theorem dX9_item_32 : decode cX9_item 32 = .ok (.ifCond .eq 7, 3) := by decide +kernel
theorem dX9_item_35 : decode cX9_item 35 = .ok (.iconst 1, 1) := by decide +kernel
theorem dX9_item_36 : decode cX9_item 36 = .ok (.goto 5, 3) := by decide +kernel
theorem dX9_item_39 : decode cX9_item 39 = .ok (.bipush (-13), 2) := by decide +kernel
theorem dX9_item_41 : decode cX9_item 41 = .ok (.ireturn, 1) := by decide +kernel
def f_X9_item (X : x_X) (v0 : Nat) (v1 : Int32) (v2 : Int32) (v3 : Int64) (μ : x_M) : Option (Int32 × x_M) :=
  (ck (x_kd X v0 = 9 + 1) (bd (f_X9_findTape X v0 v1 μ) (fun (v5 : Nat) (μ6 : x_M) => (if v5 = 0 then (some ((-1 : Int32), μ6)) else (ck (x_kd X v5 = 8 + 1) (bd (f_X8_isEmpty X v5 μ6) (fun (v7 : Int32) (μ8 : x_M) => (if v7 = 0 then (ck (x_kd X v5 = 8 + 1) (bd (f_X8_put X v5 v2 v3 μ8) (fun (v9 : Int32) (μ10 : x_M) => (if v9 = 0 then (some ((-13 : Int32), μ10)) else (some ((1 : Int32), μ10)))))) else (some ((-11 : Int32), μ8))))))))))
set_option maxRecDepth 100000 in
theorem m_X9_item (hI : x_I X) (v0 : Nat) (v1 : Int32) (v2 : Int32) (v3 : Int64) (μ : x_M) : x_Met X x_Z0 l yX9_item cX9_item 6 (some .int) 3 [vR v0, vI v1, vI v2, vJ v3] μ rkI (f_X9_item X v0 v1 v2 v3 μ) := by
  refine x_enter hI (by decide +kernel) (Nat.le_of_ble_eq_true rfl) (fun p e s m args below meth c hC hr hlk => ?_)
  unfold f_X9_item
  refine s_lv (lv' := [(0, vR v0), (1, vI v1), (2, vI v2), (3, vJ v3)]) [0, 1, 2, 3] rfl ?_
  refine s_aload_n hC 0 dX9_item_0 rfl ?_
  refine s_iload_n hC 1 dX9_item_1 rfl ?_
  refine s_callV hC (x := v0) (avs := [vI v1]) (st := []) (nest := false) xc9 (m_X9_findTape hI v0 v1 μ) dX9_item_2 qm_X9_261 qi_X9_findTape qs_X9_findTape qc_X9 qd_X9_findTape qh_X9_findTape (by decide) (fun _ => Nat.le_of_ble_eq_true rfl) (Nat.le_of_ble_eq_true rfl) (fun v5 μ6 => ?_)
  refine s_astore hC dX9_item_5 (by decide) (lv' := [(5, vR v5), (0, vR v0), (1, vI v1), (2, vI v2), (3, vJ v3)]) rfl ?_
  refine s_aload hC 0 dX9_item_7 rfl ?_
  refine s_ifnonnull hC dX9_item_9 (tgt := 14) (by decide) ?_ ?_
  · refine s_aload hC 0 dX9_item_14 rfl ?_
    refine s_callV hC (x := v5) (avs := []) (st := []) (nest := false) xc8 (m_X8_isEmpty hI v5 μ6) dX9_item_16 qm_X9_265 qi_X8_isEmpty qs_X8_isEmpty qc_X8 qd_X8_isEmpty qh_X8_isEmpty (by decide) (fun _ => Nat.le_of_ble_eq_true rfl) (Nat.le_of_ble_eq_true rfl) (fun v7 μ8 => ?_)
    refine s_if_eq hC dX9_item_19 (tgt := 25) (by decide) ?_ ?_
    · refine s_aload hC 0 dX9_item_25 rfl ?_
      refine s_iload_n hC 3 dX9_item_27 rfl ?_
      refine s_lload_n hC 4 dX9_item_28 rfl ?_
      refine s_callV hC (x := v5) (avs := [vI v2, vJ v3]) (st := []) (nest := false) xc8 (m_X8_put hI v5 v2 v3 μ8) dX9_item_29 qm_X9_308 qi_X8_put qs_X8_put qc_X8 qd_X8_put qh_X8_put (by decide) (fun _ => Nat.le_of_ble_eq_true rfl) (Nat.le_of_ble_eq_true rfl) (fun v9 μ10 => ?_)
      refine s_if_eq hC dX9_item_32 (tgt := 39) (by decide) ?_ ?_
      · refine s_bipush hC dX9_item_39 (v := -13) (by decide) ?_
        exact s_iret hC hr hlk dX9_item_41
      refine s_iconst hC dX9_item_35 (v := 1) (by decide) ?_
      refine s_goto hC dX9_item_36 (tgt := 41) (by decide) ?_
      exact s_iret hC hr hlk dX9_item_41
    refine s_bipush hC dX9_item_22 (v := -11) (by decide) ?_
    exact s_iret hC hr hlk dX9_item_24
  refine s_iconst hC dX9_item_12 (v := -1) (by decide) ?_
  exact s_iret hC hr hlk dX9_item_13
theorem dX9_read_0 : decode cX9_read 0 = .ok (.aload_n 0, 1) := by decide +kernel
theorem dX9_read_1 : decode cX9_read 1 = .ok (.iload_n 1, 1) := by decide +kernel
theorem dX9_read_2 : decode cX9_read 2 = .ok (.invokevirtual 261, 3) := by decide +kernel
theorem dX9_read_5 : decode cX9_read 5 = .ok (.astore_n 3, 1) := by decide +kernel
theorem dX9_read_6 : decode cX9_read 6 = .ok (.aload_n 3, 1) := by decide +kernel
theorem dX9_read_7 : decode cX9_read 7 = .ok (.ifnonnull 9, 3) := by decide +kernel
theorem dX9_read_10 : decode cX9_read 10 = .ok (.ldc2_w 209, 3) := by decide +kernel
theorem dX9_read_13 : decode cX9_read 13 = .ok (.goto 8, 3) := by decide +kernel
theorem dX9_read_16 : decode cX9_read 16 = .ok (.aload_n 3, 1) := by decide +kernel
theorem dX9_read_17 : decode cX9_read 17 = .ok (.iload_n 2, 1) := by decide +kernel
theorem dX9_read_18 : decode cX9_read 18 = .ok (.invokevirtual 277, 3) := by decide +kernel
theorem dX9_read_21 : decode cX9_read 21 = .ok (.lreturn, 1) := by decide +kernel
def f_X9_read (X : x_X) (v0 : Nat) (v1 : Int32) (v2 : Int32) (μ : x_M) : Option (Int64 × x_M) :=
  (ck (x_kd X v0 = 9 + 1) (bd (f_X9_findTape X v0 v1 μ) (fun (v4 : Nat) (μ5 : x_M) => (if v4 = 0 then (some ((-9223372036854775808 : Int64), μ5)) else (ck (x_kd X v4 = 8 + 1) (bd (f_X8_get X v4 v2 μ5) (fun (v6 : Int64) (μ7 : x_M) => (some (v6, μ7)))))))))
set_option maxRecDepth 100000 in
theorem m_X9_read (hI : x_I X) (v0 : Nat) (v1 : Int32) (v2 : Int32) (μ : x_M) : x_Met X x_Z0 l yX9_read cX9_read 4 (some .long) 3 [vR v0, vI v1, vI v2] μ rkJ (f_X9_read X v0 v1 v2 μ) := by
  refine x_enter hI (by decide +kernel) (Nat.le_of_ble_eq_true rfl) (fun p e s m args below meth c hC hr hlk => ?_)
  unfold f_X9_read
  refine s_lv (lv' := [(0, vR v0), (1, vI v1), (2, vI v2)]) [0, 1, 2] rfl ?_
  refine s_aload_n hC 0 dX9_read_0 rfl ?_
  refine s_iload_n hC 1 dX9_read_1 rfl ?_
  refine s_callV hC (x := v0) (avs := [vI v1]) (st := []) (nest := false) xc9 (m_X9_findTape hI v0 v1 μ) dX9_read_2 qm_X9_261 qi_X9_findTape qs_X9_findTape qc_X9 qd_X9_findTape qh_X9_findTape (by decide) (fun _ => Nat.le_of_ble_eq_true rfl) (Nat.le_of_ble_eq_true rfl) (fun v4 μ5 => ?_)
  refine s_astore_n hC dX9_read_5 (by decide) (lv' := [(3, vR v4), (0, vR v0), (1, vI v1), (2, vI v2)]) rfl ?_
  refine s_aload_n hC 0 dX9_read_6 rfl ?_
  refine s_ifnonnull hC dX9_read_7 (tgt := 16) (by decide) ?_ ?_
  · refine s_aload_n hC 0 dX9_read_16 rfl ?_
    refine s_iload_n hC 3 dX9_read_17 rfl ?_
    refine s_callV hC (x := v4) (avs := [vI v2]) (st := []) (nest := false) xc8 (m_X8_get hI v4 v2 μ5) dX9_read_18 qm_X9_277 qi_X8_get qs_X8_get qc_X8 qd_X8_get qh_X8_get (by decide) (fun _ => Nat.le_of_ble_eq_true rfl) (Nat.le_of_ble_eq_true rfl) (fun v6 μ7 => ?_)
    exact s_lret hC hr hlk dX9_read_21
  refine s_ldc2 hC dX9_read_10 qk_X9_209 ?_
  refine s_goto hC dX9_read_13 (tgt := 21) (by decide) ?_
  exact s_lret hC hr hlk dX9_read_21
theorem dX9_shift_0 : decode cX9_shift 0 = .ok (.aload_n 0, 1) := by decide +kernel
theorem dX9_shift_1 : decode cX9_shift 1 = .ok (.iload_n 1, 1) := by decide +kernel
theorem dX9_shift_2 : decode cX9_shift 2 = .ok (.invokevirtual 261, 3) := by decide +kernel
theorem dX9_shift_5 : decode cX9_shift 5 = .ok (.astore 6, 2) := by decide +kernel
theorem dX9_shift_7 : decode cX9_shift 7 = .ok (.aload_n 0, 1) := by decide +kernel
theorem dX9_shift_8 : decode cX9_shift 8 = .ok (.iload_n 3, 1) := by decide +kernel
theorem dX9_shift_9 : decode cX9_shift 9 = .ok (.invokevirtual 261, 3) := by decide +kernel
theorem dX9_shift_12 : decode cX9_shift 12 = .ok (.astore 7, 2) := by decide +kernel
theorem dX9_shift_14 : decode cX9_shift 14 = .ok (.aload 6, 2) := by decide +kernel
theorem dX9_shift_16 : decode cX9_shift 16 = .ok (.ifnull 8, 3) := by decide +kernel
theorem dX9_shift_19 : decode cX9_shift 19 = .ok (.aload 7, 2) := by decide +kernel
theorem dX9_shift_21 : decode cX9_shift 21 = .ok (.ifnonnull 5, 3) := by decide +kernel
theorem dX9_shift_24 : decode cX9_shift 24 = .ok (.iconst (-1), 1) := by decide +kernel
theorem dX9_shift_25 : decode cX9_shift 25 = .ok (.ireturn, 1) := by decide +kernel
theorem dX9_shift_26 : decode cX9_shift 26 = .ok (.aload 6, 2) := by decide +kernel
theorem dX9_shift_28 : decode cX9_shift 28 = .ok (.invokevirtual 265, 3) := by decide +kernel
theorem dX9_shift_31 : decode cX9_shift 31 = .ok (.ifCond .ne 11, 3) := by decide +kernel
theorem dX9_shift_34 : decode cX9_shift 34 = .ok (.aload 7, 2) := by decide +kernel
theorem dX9_shift_36 : decode cX9_shift 36 = .ok (.invokevirtual 265, 3) := by decide +kernel
theorem dX9_shift_39 : decode cX9_shift 39 = .ok (.ifCond .eq 6, 3) := by decide +kernel
theorem dX9_shift_42 : decode cX9_shift 42 = .ok (.bipush (-11), 2) := by decide +kernel
theorem dX9_shift_44 : decode cX9_shift 44 = .ok (.ireturn, 1) := by decide +kernel
theorem dX9_shift_45 : decode cX9_shift 45 = .ok (.aload 6, 2) := by decide +kernel
theorem dX9_shift_47 : decode cX9_shift 47 = .ok (.getfield 269, 3) := by decide +kernel
theorem dX9_shift_50 : decode cX9_shift 50 = .ok (.aload 7, 2) := by decide +kernel
theorem dX9_shift_52 : decode cX9_shift 52 = .ok (.getfield 269, 3) := by decide +kernel
theorem dX9_shift_55 : decode cX9_shift 55 = .ok (.if_icmp .eq 6, 3) := by decide +kernel
theorem dX9_shift_58 : decode cX9_shift 58 = .ok (.bipush (-12), 2) := by decide +kernel
theorem dX9_shift_60 : decode cX9_shift 60 = .ok (.ireturn, 1) := by decide +kernel
theorem dX9_shift_61 : decode cX9_shift 61 = .ok (.aload 7, 2) := by decide +kernel
theorem dX9_shift_63 : decode cX9_shift 63 = .ok (.aload 6, 2) := by decide +kernel
theorem dX9_shift_65 : decode cX9_shift 65 = .ok (.iload_n 2, 1) := by decide +kernel
theorem dX9_shift_66 : decode cX9_shift 66 = .ok (.iload 4, 2) := by decide +kernel
theorem dX9_shift_68 : decode cX9_shift 68 = .ok (.iload 5, 2) := by decide +kernel
theorem dX9_shift_70 : decode cX9_shift 70 = .ok (.invokevirtual 312, 3) := by decide +kernel
theorem dX9_shift_73 : decode cX9_shift 73 = .ok (.ifCond .eq 8, 3) := by decide +kernel
theorem dX9_shift_76 : decode cX9_shift 76 = .ok (.iload 5, 2) := by decide +kernel
theorem dX9_shift_78 : decode cX9_shift 78 = .ok (.goto 5, 3) := by decide +kernel
theorem dX9_shift_81 : decode cX9_shift 81 = .ok (.bipush (-13), 2) := by decide +kernel
theorem dX9_shift_83 : decode cX9_shift 83 = .ok (.ireturn, 1) := by decide +kernel
def f_X9_shift (X : x_X) (v0 : Nat) (v1 : Int32) (v2 : Int32) (v3 : Int32) (v4 : Int32) (v5 : Int32) (μ : x_M) : Option (Int32 × x_M) :=
  (ck (x_kd X v0 = 9 + 1) (bd (f_X9_findTape X v0 v1 μ) (fun (v7 : Nat) (μ8 : x_M) => (ck (x_kd X v0 = 9 + 1) (bd (f_X9_findTape X v0 v3 μ8) (fun (v9 : Nat) (μ10 : x_M) => (if v7 = 0 then (some ((-1 : Int32), μ10)) else (if v9 = 0 then (some ((-1 : Int32), μ10)) else (ck (x_kd X v7 = 8 + 1) (bd (f_X8_isEmpty X v7 μ10) (fun (v11 : Int32) (μ12 : x_M) => (if v11 = 0 then (ck (x_kd X v9 = 8 + 1) (bd (f_X8_isEmpty X v9 μ12) (fun (v13 : Int32) (μ14 : x_M) => (if v13 = 0 then (ck (x_kd X v7 = 8 + 1) (ck (x_kd X v9 = 8 + 1) (if (μ14.1 v7 1) = (μ14.1 v9 1) then (ck (x_kd X v9 = 8 + 1) (bd (f_X8_takeFrom X v9 v7 v2 v4 v5 μ14) (fun (v15 : Int32) (μ16 : x_M) => (if v15 = 0 then (some ((-13 : Int32), μ16)) else (some (v5, μ16)))))) else (some ((-12 : Int32), μ14))))) else (some ((-11 : Int32), μ14)))))) else (some ((-11 : Int32), μ12))))))))))))))
set_option maxRecDepth 100000 in
theorem m_X9_shift (hI : x_I X) (v0 : Nat) (v1 : Int32) (v2 : Int32) (v3 : Int32) (v4 : Int32) (v5 : Int32) (μ : x_M) : x_Met X x_Z0 l yX9_shift cX9_shift 8 (some .int) 3 [vR v0, vI v1, vI v2, vI v3, vI v4, vI v5] μ rkI (f_X9_shift X v0 v1 v2 v3 v4 v5 μ) := by
  refine x_enter hI (by decide +kernel) (Nat.le_of_ble_eq_true rfl) (fun p e s m args below meth c hC hr hlk => ?_)
  unfold f_X9_shift
  refine s_lv (lv' := [(0, vR v0), (1, vI v1), (2, vI v2), (3, vI v3), (4, vI v4), (5, vI v5)]) [0, 1, 2, 3, 4, 5] rfl ?_
  refine s_aload_n hC 0 dX9_shift_0 rfl ?_
  refine s_iload_n hC 1 dX9_shift_1 rfl ?_
  refine s_callV hC (x := v0) (avs := [vI v1]) (st := []) (nest := false) xc9 (m_X9_findTape hI v0 v1 μ) dX9_shift_2 qm_X9_261 qi_X9_findTape qs_X9_findTape qc_X9 qd_X9_findTape qh_X9_findTape (by decide) (fun _ => Nat.le_of_ble_eq_true rfl) (Nat.le_of_ble_eq_true rfl) (fun v7 μ8 => ?_)
  refine s_astore hC dX9_shift_5 (by decide) (lv' := [(6, vR v7), (0, vR v0), (1, vI v1), (2, vI v2), (3, vI v3), (4, vI v4), (5, vI v5)]) rfl ?_
  refine s_aload_n hC 1 dX9_shift_7 rfl ?_
  refine s_iload_n hC 4 dX9_shift_8 rfl ?_
  refine s_callV hC (x := v0) (avs := [vI v3]) (st := []) (nest := false) xc9 (m_X9_findTape hI v0 v3 μ8) dX9_shift_9 qm_X9_261 qi_X9_findTape qs_X9_findTape qc_X9 qd_X9_findTape qh_X9_findTape (by decide) (fun _ => Nat.le_of_ble_eq_true rfl) (Nat.le_of_ble_eq_true rfl) (fun v9 μ10 => ?_)
  refine s_astore hC dX9_shift_12 (by decide) (lv' := [(7, vR v9), (6, vR v7), (0, vR v0), (1, vI v1), (2, vI v2), (3, vI v3), (4, vI v4), (5, vI v5)]) rfl ?_
  refine s_aload hC 1 dX9_shift_14 rfl ?_
  refine s_ifnull hC dX9_shift_16 (tgt := 24) (by decide) ?_ ?_
  · refine s_iconst hC dX9_shift_24 (v := -1) (by decide) ?_
    exact s_iret hC hr hlk dX9_shift_25
  refine s_aload hC 0 dX9_shift_19 rfl ?_
  refine s_ifnonnull hC dX9_shift_21 (tgt := 26) (by decide) ?_ ?_
  · refine s_aload hC 1 dX9_shift_26 rfl ?_
    refine s_callV hC (x := v7) (avs := []) (st := []) (nest := false) xc8 (m_X8_isEmpty hI v7 μ10) dX9_shift_28 qm_X9_265 qi_X8_isEmpty qs_X8_isEmpty qc_X8 qd_X8_isEmpty qh_X8_isEmpty (by decide) (fun _ => Nat.le_of_ble_eq_true rfl) (Nat.le_of_ble_eq_true rfl) (fun v11 μ12 => ?_)
    refine s_if_ne hC dX9_shift_31 (tgt := 42) (by decide) ?_ ?_
    · refine s_bipush hC dX9_shift_42 (v := -11) (by decide) ?_
      exact s_iret hC hr hlk dX9_shift_44
    refine s_aload hC 0 dX9_shift_34 rfl ?_
    refine s_callV hC (x := v9) (avs := []) (st := []) (nest := false) xc8 (m_X8_isEmpty hI v9 μ12) dX9_shift_36 qm_X9_265 qi_X8_isEmpty qs_X8_isEmpty qc_X8 qd_X8_isEmpty qh_X8_isEmpty (by decide) (fun _ => Nat.le_of_ble_eq_true rfl) (Nat.le_of_ble_eq_true rfl) (fun v13 μ14 => ?_)
    refine s_if_eq hC dX9_shift_39 (tgt := 45) (by decide) ?_ ?_
    · refine s_aload hC 1 dX9_shift_45 rfl ?_
      refine s_getI hC xc8 (by decide) rfl qf_X9_269 dX9_shift_47 ?_
      refine s_aload hC 0 dX9_shift_50 rfl ?_
      refine s_getI hC xc8 (by decide) rfl qf_X9_269 dX9_shift_52 ?_
      refine s_icmp_eq hC dX9_shift_55 (tgt := 61) (by decide) ?_ ?_
      · refine s_aload hC 0 dX9_shift_61 rfl ?_
        refine s_aload hC 1 dX9_shift_63 rfl ?_
        refine s_iload_n hC 4 dX9_shift_65 rfl ?_
        refine s_iload hC 6 dX9_shift_66 rfl ?_
        refine s_iload hC 7 dX9_shift_68 rfl ?_
        refine s_callV hC (x := v9) (avs := [vR v7, vI v2, vI v4, vI v5]) (st := []) (nest := false) xc8 (m_X8_takeFrom hI v9 v7 v2 v4 v5 μ14) dX9_shift_70 qm_X9_312 qi_X8_takeFrom qs_X8_takeFrom qc_X8 qd_X8_takeFrom qh_X8_takeFrom (by decide) (fun _ => Nat.le_of_ble_eq_true rfl) (Nat.le_of_ble_eq_true rfl) (fun v15 μ16 => ?_)
        refine s_if_eq hC dX9_shift_73 (tgt := 81) (by decide) ?_ ?_
        · refine s_bipush hC dX9_shift_81 (v := -13) (by decide) ?_
          exact s_iret hC hr hlk dX9_shift_83
        refine s_iload hC 7 dX9_shift_76 rfl ?_
        refine s_goto hC dX9_shift_78 (tgt := 83) (by decide) ?_
        exact s_iret hC hr hlk dX9_shift_83
      refine s_bipush hC dX9_shift_58 (v := -12) (by decide) ?_
      exact s_iret hC hr hlk dX9_shift_60
    refine s_bipush hC dX9_shift_42 (v := -11) (by decide) ?_
    exact s_iret hC hr hlk dX9_shift_44
  refine s_iconst hC dX9_shift_24 (v := -1) (by decide) ?_
  exact s_iret hC hr hlk dX9_shift_25
theorem dX9_set_0 : decode cX9_set 0 = .ok (.aload_n 0, 1) := by decide +kernel
theorem dX9_set_1 : decode cX9_set 1 = .ok (.getfield 12, 3) := by decide +kernel
theorem dX9_set_4 : decode cX9_set 4 = .ok (.iload_n 1, 1) := by decide +kernel
theorem dX9_set_5 : decode cX9_set 5 = .ok (.invokevirtual 82, 3) := by decide +kernel
theorem dX9_set_8 : decode cX9_set 8 = .ok (.astore 4, 2) := by decide +kernel
theorem dX9_set_10 : decode cX9_set 10 = .ok (.aload 4, 2) := by decide +kernel
theorem dX9_set_12 : decode cX9_set 12 = .ok (.ifnull 12, 3) := by decide +kernel
theorem dX9_set_15 : decode cX9_set 15 = .ok (.iload_n 2, 1) := by decide +kernel
theorem dX9_set_16 : decode cX9_set 16 = .ok (.iconst 0, 1) := by decide +kernel
theorem dX9_set_17 : decode cX9_set 17 = .ok (.iconst 2, 1) := by decide +kernel
theorem dX9_set_18 : decode cX9_set 18 = .ok (.invokestatic 56, 3) := by decide +kernel
theorem dX9_set_21 : decode cX9_set 21 = .ok (.ifCond .ne 7, 3) := by decide +kernel
theorem dX9_set_24 : decode cX9_set 24 = .ok (.sipush (-10001), 3) := by decide +kernel
theorem dX9_set_27 : decode cX9_set 27 = .ok (.ireturn, 1) := by decide +kernel
theorem dX9_set_28 : decode cX9_set 28 = .ok (.iload_n 2, 1) := by decide +kernel
theorem dX9_set_29 : decode cX9_set 29 = .ok (.iload_n 3, 1) := by decide +kernel
theorem dX9_set_30 : decode cX9_set 30 = .ok (.invokestatic 128, 3) := by decide +kernel
theorem dX9_set_33 : decode cX9_set 33 = .ok (.ifCond .ne 7, 3) := by decide +kernel
theorem dX9_set_36 : decode cX9_set 36 = .ok (.sipush (-10002), 3) := by decide +kernel
theorem dX9_set_39 : decode cX9_set 39 = .ok (.ireturn, 1) := by decide +kernel
theorem dX9_set_40 : decode cX9_set 40 = .ok (.iload_n 2, 1) := by decide +kernel
theorem dX9_set_41 : decode cX9_set 41 = .ok (.iconst 2, 1) := by decide +kernel
theorem dX9_set_42 : decode cX9_set 42 = .ok (.if_icmp .ne 16, 3) := by decide +kernel
theorem dX9_set_45 : decode cX9_set 45 = .ok (.aload 4, 2) := by decide +kernel
theorem dX9_set_47 : decode cX9_set 47 = .ok (.getfield 86, 3) := by decide +kernel
theorem dX9_set_50 : decode cX9_set 50 = .ok (.iconst 4, 1) := by decide +kernel
theorem dX9_set_51 : decode cX9_set 51 = .ok (.if_icmp .eq 7, 3) := by decide +kernel
theorem dX9_set_54 : decode cX9_set 54 = .ok (.sipush (-10003), 3) := by decide +kernel
theorem dX9_set_57 : decode cX9_set 57 = .ok (.ireturn, 1) := by decide +kernel
theorem dX9_set_58 : decode cX9_set 58 = .ok (.aload 4, 2) := by decide +kernel
theorem dX9_set_60 : decode cX9_set 60 = .ok (.iload_n 2, 1) := by decide +kernel
theorem dX9_set_61 : decode cX9_set 61 = .ok (.iload_n 3, 1) := by decide +kernel
theorem dX9_set_62 : decode cX9_set 62 = .ok (.invokevirtual 132, 3) := by decide +kernel
theorem dX9_set_65 : decode cX9_set 65 = .ok (.ireturn, 1) := by decide +kernel
def f_X9_set (X : x_X) (v0 : Nat) (v1 : Int32) (v2 : Int32) (v3 : Int32) (μ : x_M) : Option (Int32 × x_M) :=
  (ck (x_kd X v0 = 9 + 1) (lt (μ.2.1 v0 0) (fun (v5 : Nat) => (ck (x_kd X v5 = 7 + 1) (bd (f_X7_find X v5 v1 μ) (fun (v6 : Nat) (μ7 : x_M) => (if v6 = 0 then (some ((-10001 : Int32), μ7)) else (bd (f_X9_within X v2 (0 : Int32) (2 : Int32) μ7) (fun (v8 : Int32) (μ9 : x_M) => (if v8 = 0 then (some ((-10001 : Int32), μ9)) else (bd (f_X9_maySet X v2 v3 μ9) (fun (v10 : Int32) (μ11 : x_M) => (if v10 = 0 then (some ((-10002 : Int32), μ11)) else (if v2 = (2 : Int32) then (ck (x_kd X v6 = 0 + 1) (if (μ11.1 v6 3) = (4 : Int32) then (ck (x_kd X v6 = 0 + 1) (bd (f_X0_change X v6 v2 v3 μ11) (fun (v14 : Int32) (μ15 : x_M) => (some (v14, μ15))))) else (some ((-10003 : Int32), μ11)))) else (ck (x_kd X v6 = 0 + 1) (bd (f_X0_change X v6 v2 v3 μ11) (fun (v12 : Int32) (μ13 : x_M) => (some (v12, μ13)))))))))))))))))))
set_option maxRecDepth 100000 in
theorem m_X9_set (hI : x_I X) (v0 : Nat) (v1 : Int32) (v2 : Int32) (v3 : Int32) (μ : x_M) : x_Met X x_Z0 l yX9_set cX9_set 5 (some .int) 4 [vR v0, vI v1, vI v2, vI v3] μ rkI (f_X9_set X v0 v1 v2 v3 μ) := by
  refine x_enter hI (by decide +kernel) (Nat.le_of_ble_eq_true rfl) (fun p e s m args below meth c hC hr hlk => ?_)
  unfold f_X9_set
  refine s_lv (lv' := [(0, vR v0), (1, vI v1), (2, vI v2), (3, vI v3)]) [0, 1, 2, 3] rfl ?_
  refine s_aload_n hC 0 dX9_set_0 rfl ?_
  refine s_getR hC xc9 (by decide) rfl qf_X9_12 dX9_set_1 ?_
  refine s_ltR (fun v5 => ?_)
  refine s_iload_n hC 1 dX9_set_4 rfl ?_
  refine s_callV hC (x := v5) (avs := [vI v1]) (st := []) (nest := false) xc7 (m_X7_find hI v5 v1 μ) dX9_set_5 qm_X9_82 qi_X7_find qs_X7_find qc_X7 qd_X7_find qh_X7_find (by decide) (fun _ => Nat.le_of_ble_eq_true rfl) (Nat.le_of_ble_eq_true rfl) (fun v6 μ7 => ?_)
  refine s_astore hC dX9_set_8 (by decide) (lv' := [(4, vR v6), (0, vR v0), (1, vI v1), (2, vI v2), (3, vI v3)]) rfl ?_
  refine s_aload hC 0 dX9_set_10 rfl ?_
  refine s_ifnull hC dX9_set_12 (tgt := 24) (by decide) ?_ ?_
  · refine s_sipush hC dX9_set_24 (v := -10001) (by decide) ?_
    exact s_iret hC hr hlk dX9_set_27
  refine s_iload_n hC 3 dX9_set_15 rfl ?_
  refine s_iconst hC dX9_set_16 (v := 0) (by decide) ?_
  refine s_iconst hC dX9_set_17 (v := 2) (by decide) ?_
  refine s_callS hC (avs := [vI v2, vI (0 : Int32), vI (2 : Int32)]) (st := []) (nest := false) (m_X9_within hI v2 (0 : Int32) (2 : Int32) μ7) dX9_set_18 qm_X9_56 qt_X9_within qc_X9 qd_X9_within qh_X9_within (by decide) (fun _ => Nat.le_of_ble_eq_true rfl) (Nat.le_of_ble_eq_true rfl) (fun v8 μ9 => ?_)
  refine s_if_ne hC dX9_set_21 (tgt := 28) (by decide) ?_ ?_
  · refine s_iload_n hC 3 dX9_set_28 rfl ?_
    refine s_iload_n hC 4 dX9_set_29 rfl ?_
    refine s_callS hC (avs := [vI v2, vI v3]) (st := []) (nest := false) (m_X9_maySet hI v2 v3 μ9) dX9_set_30 qm_X9_128 qt_X9_maySet qc_X9 qd_X9_maySet qh_X9_maySet (by decide) (fun _ => Nat.le_of_ble_eq_true rfl) (Nat.le_of_ble_eq_true rfl) (fun v10 μ11 => ?_)
    refine s_if_ne hC dX9_set_33 (tgt := 40) (by decide) ?_ ?_
    · refine s_iload_n hC 3 dX9_set_40 rfl ?_
      refine s_iconst hC dX9_set_41 (v := 2) (by decide) ?_
      refine s_icmp_ne hC dX9_set_42 (tgt := 58) (by decide) ?_ ?_
      · refine s_aload hC 0 dX9_set_58 rfl ?_
        refine s_iload_n hC 3 dX9_set_60 rfl ?_
        refine s_iload_n hC 4 dX9_set_61 rfl ?_
        refine s_callV hC (x := v6) (avs := [vI v2, vI v3]) (st := []) (nest := false) xc0 (m_X0_change hI v6 v2 v3 μ11) dX9_set_62 qm_X9_132 qi_X0_change qs_X0_change qc_X0 qd_X0_change qh_X0_change (by decide) (fun _ => Nat.le_of_ble_eq_true rfl) (Nat.le_of_ble_eq_true rfl) (fun v12 μ13 => ?_)
        exact s_iret hC hr hlk dX9_set_65
      refine s_aload hC 0 dX9_set_45 rfl ?_
      refine s_getI hC xc0 (by decide) rfl qf_X9_86 dX9_set_47 ?_
      refine s_iconst hC dX9_set_50 (v := 4) (by decide) ?_
      refine s_icmp_eq hC dX9_set_51 (tgt := 58) (by decide) ?_ ?_
      · refine s_aload hC 0 dX9_set_58 rfl ?_
        refine s_iload_n hC 3 dX9_set_60 rfl ?_
        refine s_iload_n hC 4 dX9_set_61 rfl ?_
        refine s_callV hC (x := v6) (avs := [vI v2, vI v3]) (st := []) (nest := false) xc0 (m_X0_change hI v6 v2 v3 μ11) dX9_set_62 qm_X9_132 qi_X0_change qs_X0_change qc_X0 qd_X0_change qh_X0_change (by decide) (fun _ => Nat.le_of_ble_eq_true rfl) (Nat.le_of_ble_eq_true rfl) (fun v14 μ15 => ?_)
        exact s_iret hC hr hlk dX9_set_65
      refine s_sipush hC dX9_set_54 (v := -10003) (by decide) ?_
      exact s_iret hC hr hlk dX9_set_57
    refine s_sipush hC dX9_set_36 (v := -10002) (by decide) ?_
    exact s_iret hC hr hlk dX9_set_39
  refine s_sipush hC dX9_set_24 (v := -10001) (by decide) ?_
  exact s_iret hC hr hlk dX9_set_27
theorem dX9_image_0 : decode cX9_image 0 = .ok (.aload_n 0, 1) := by decide +kernel
theorem dX9_image_1 : decode cX9_image 1 = .ok (.getfield 18, 3) := by decide +kernel
theorem dX9_image_4 : decode cX9_image 4 = .ok (.aload_n 0, 1) := by decide +kernel
theorem dX9_image_5 : decode cX9_image 5 = .ok (.getfield 12, 3) := by decide +kernel
theorem dX9_image_8 : decode cX9_image 8 = .ok (.invokevirtual 281, 3) := by decide +kernel
theorem dX9_image_11 : decode cX9_image 11 = .ok (.aload_n 0, 1) := by decide +kernel
theorem dX9_image_12 : decode cX9_image 12 = .ok (.iconst 1, 1) := by decide +kernel
theorem dX9_image_13 : decode cX9_image 13 = .ok (.putfield 285, 3) := by decide +kernel
theorem dX9_image_16 : decode cX9_image 16 = .ok (.aload_n 0, 1) := by decide +kernel
theorem dX9_image_17 : decode cX9_image 17 = .ok (.getfield 12, 3) := by decide +kernel
theorem dX9_image_20 : decode cX9_image 20 = .ok (.getfield 272, 3) := by decide +kernel
theorem dX9_image_23 : decode cX9_image 23 = .ok (.ireturn, 1) := by decide +kernel
def f_X9_image (X : x_X) (v0 : Nat) (μ : x_M) : Option (Int32 × x_M) :=
  (ck (x_kd X v0 = 9 + 1) (lt (μ.2.1 v0 1) (fun (v2 : Nat) => (ck (x_kd X v0 = 9 + 1) (lt (μ.2.1 v0 0) (fun (v3 : Nat) => (ck (x_kd X v2 = 7 + 1) (bd (f_X7_copyFrom X v2 v3 μ) (fun (_ : Unit) (μ4 : x_M) => (ck (x_kd X v0 = 9 + 1 ∧ ((1 : Int32) = 0 ∨ (1 : Int32) = 1)) (lt (x_sI μ4 v0 7 (1 : Int32)) (fun (μ5 : x_M) => (ck (x_kd X v0 = 9 + 1) (lt (μ5.2.1 v0 0) (fun (v6 : Nat) => (ck (x_kd X v6 = 7 + 1) (some ((μ5.1 v6 6), μ5))))))))))))))))))
set_option maxRecDepth 100000 in
theorem m_X9_image (hI : x_I X) (v0 : Nat) (μ : x_M) : x_Met X x_Z0 l yX9_image cX9_image 1 (some .int) 4 [vR v0] μ rkI (f_X9_image X v0 μ) := by
  refine x_enter hI (by decide +kernel) (Nat.le_of_ble_eq_true rfl) (fun p e s m args below meth c hC hr hlk => ?_)
  unfold f_X9_image
  refine s_lv (lv' := [(0, vR v0)]) [0] rfl ?_
  refine s_aload_n hC 0 dX9_image_0 rfl ?_
  refine s_getR hC xc9 (by decide) rfl qf_X9_18 dX9_image_1 ?_
  refine s_ltR (fun v2 => ?_)
  refine s_aload_n hC 0 dX9_image_4 rfl ?_
  refine s_getR hC xc9 (by decide) rfl qf_X9_12 dX9_image_5 ?_
  refine s_ltR (fun v3 => ?_)
  refine s_callV hC (x := v2) (avs := [vR v3]) (st := []) (nest := false) xc7 (m_X7_copyFrom hI v2 v3 μ) dX9_image_8 qm_X9_281 qi_X7_copyFrom qs_X7_copyFrom qc_X7 qd_X7_copyFrom qh_X7_copyFrom (by decide) (fun _ => Nat.le_of_ble_eq_true rfl) (Nat.le_of_ble_eq_true rfl) (fun _ μ4 => ?_)
  refine s_aload_n hC 0 dX9_image_11 rfl ?_
  refine s_iconst hC dX9_image_12 (v := 1) (by decide) ?_
  refine s_putZ hC xc9 (by decide) rfl rfl qf_X9_285 dX9_image_13 ?_
  refine s_ltM (fun μ5 => ?_)
  refine s_aload_n hC 0 dX9_image_16 rfl ?_
  refine s_getR hC xc9 (by decide) rfl qf_X9_12 dX9_image_17 ?_
  refine s_ltR (fun v6 => ?_)
  refine s_getI hC xc7 (by decide) rfl qf_X9_272 dX9_image_20 ?_
  exact s_iret hC hr hlk dX9_image_23
theorem dX9_undo_0 : decode cX9_undo 0 = .ok (.aload_n 0, 1) := by decide +kernel
theorem dX9_undo_1 : decode cX9_undo 1 = .ok (.getfield 285, 3) := by decide +kernel
theorem dX9_undo_4 : decode cX9_undo 4 = .ok (.ifCond .ne 6, 3) := by decide +kernel
theorem dX9_undo_7 : decode cX9_undo 7 = .ok (.bipush (-3), 2) := by decide +kernel
theorem dX9_undo_9 : decode cX9_undo 9 = .ok (.ireturn, 1) := by decide +kernel
theorem dX9_undo_10 : decode cX9_undo 10 = .ok (.aload_n 0, 1) := by decide +kernel
theorem dX9_undo_11 : decode cX9_undo 11 = .ok (.getfield 12, 3) := by decide +kernel
theorem dX9_undo_14 : decode cX9_undo 14 = .ok (.aload_n 0, 1) := by decide +kernel
theorem dX9_undo_15 : decode cX9_undo 15 = .ok (.getfield 18, 3) := by decide +kernel
theorem dX9_undo_18 : decode cX9_undo 18 = .ok (.invokevirtual 281, 3) := by decide +kernel
theorem dX9_undo_21 : decode cX9_undo 21 = .ok (.aload_n 0, 1) := by decide +kernel
theorem dX9_undo_22 : decode cX9_undo 22 = .ok (.getfield 12, 3) := by decide +kernel
theorem dX9_undo_25 : decode cX9_undo 25 = .ok (.getfield 272, 3) := by decide +kernel
theorem dX9_undo_28 : decode cX9_undo 28 = .ok (.ireturn, 1) := by decide +kernel
def f_X9_undo (X : x_X) (v0 : Nat) (μ : x_M) : Option (Int32 × x_M) :=
  (ck (x_kd X v0 = 9 + 1) (if (μ.1 v0 7) = 0 then (some ((-3 : Int32), μ)) else (ck (x_kd X v0 = 9 + 1) (lt (μ.2.1 v0 0) (fun (v2 : Nat) => (ck (x_kd X v0 = 9 + 1) (lt (μ.2.1 v0 1) (fun (v3 : Nat) => (ck (x_kd X v2 = 7 + 1) (bd (f_X7_copyFrom X v2 v3 μ) (fun (_ : Unit) (μ4 : x_M) => (ck (x_kd X v0 = 9 + 1) (lt (μ4.2.1 v0 0) (fun (v5 : Nat) => (ck (x_kd X v5 = 7 + 1) (some ((μ4.1 v5 6), μ4)))))))))))))))))
set_option maxRecDepth 100000 in
theorem m_X9_undo (hI : x_I X) (v0 : Nat) (μ : x_M) : x_Met X x_Z0 l yX9_undo cX9_undo 1 (some .int) 4 [vR v0] μ rkI (f_X9_undo X v0 μ) := by
  refine x_enter hI (by decide +kernel) (Nat.le_of_ble_eq_true rfl) (fun p e s m args below meth c hC hr hlk => ?_)
  unfold f_X9_undo
  refine s_lv (lv' := [(0, vR v0)]) [0] rfl ?_
  refine s_aload_n hC 0 dX9_undo_0 rfl ?_
  refine s_getI hC xc9 (by decide) rfl qf_X9_285 dX9_undo_1 ?_
  refine s_if_ne hC dX9_undo_4 (tgt := 10) (by decide) ?_ ?_
  · refine s_aload_n hC 0 dX9_undo_10 rfl ?_
    refine s_getR hC xc9 (by decide) rfl qf_X9_12 dX9_undo_11 ?_
    refine s_ltR (fun v2 => ?_)
    refine s_aload_n hC 0 dX9_undo_14 rfl ?_
    refine s_getR hC xc9 (by decide) rfl qf_X9_18 dX9_undo_15 ?_
    refine s_ltR (fun v3 => ?_)
    refine s_callV hC (x := v2) (avs := [vR v3]) (st := []) (nest := false) xc7 (m_X7_copyFrom hI v2 v3 μ) dX9_undo_18 qm_X9_281 qi_X7_copyFrom qs_X7_copyFrom qc_X7 qd_X7_copyFrom qh_X7_copyFrom (by decide) (fun _ => Nat.le_of_ble_eq_true rfl) (Nat.le_of_ble_eq_true rfl) (fun _ μ4 => ?_)
    refine s_aload_n hC 0 dX9_undo_21 rfl ?_
    refine s_getR hC xc9 (by decide) rfl qf_X9_12 dX9_undo_22 ?_
    refine s_ltR (fun v5 => ?_)
    refine s_getI hC xc7 (by decide) rfl qf_X9_272 dX9_undo_25 ?_
    exact s_iret hC hr hlk dX9_undo_28
  refine s_bipush hC dX9_undo_7 (v := -3) (by decide) ?_
  exact s_iret hC hr hlk dX9_undo_9
theorem dX9_of_0 : decode cX9_of 0 = .ok (.aload_n 0, 1) := by decide +kernel
theorem dX9_of_1 : decode cX9_of 1 = .ok (.getfield 12, 3) := by decide +kernel
theorem dX9_of_4 : decode cX9_of 4 = .ok (.iload_n 1, 1) := by decide +kernel
theorem dX9_of_5 : decode cX9_of 5 = .ok (.invokevirtual 82, 3) := by decide +kernel
theorem dX9_of_8 : decode cX9_of 8 = .ok (.astore_n 3, 1) := by decide +kernel
theorem dX9_of_9 : decode cX9_of 9 = .ok (.aload_n 3, 1) := by decide +kernel
theorem dX9_of_10 : decode cX9_of 10 = .ok (.ifnonnull 7, 3) := by decide +kernel
theorem dX9_of_13 : decode cX9_of 13 = .ok (.sipush (-10001), 3) := by decide +kernel
theorem dX9_of_16 : decode cX9_of 16 = .ok (.ireturn, 1) := by decide +kernel
theorem dX9_of_17 : decode cX9_of 17 = .ok (.iload_n 2, 1) := by decide +kernel
theorem dX9_of_18 : decode cX9_of 18 = .ok (.tableswitch 121 0 7 #[46, 51, 56, 61, 66, 71, 76, 105], 46) := by decide +kernel
theorem dX9_of_64 : decode cX9_of 64 = .ok (.aload_n 3, 1) := by decide +kernel
theorem dX9_of_65 : decode cX9_of 65 = .ok (.getfield 86, 3) := by decide +kernel
theorem dX9_of_68 : decode cX9_of 68 = .ok (.ireturn, 1) := by decide +kernel
theorem dX9_of_69 : decode cX9_of 69 = .ok (.aload_n 3, 1) := by decide +kernel
theorem dX9_of_70 : decode cX9_of 70 = .ok (.getfield 92, 3) := by decide +kernel
theorem dX9_of_73 : decode cX9_of 73 = .ok (.ireturn, 1) := by decide +kernel
theorem dX9_of_74 : decode cX9_of 74 = .ok (.aload_n 3, 1) := by decide +kernel
theorem dX9_of_75 : decode cX9_of 75 = .ok (.getfield 95, 3) := by decide +kernel
theorem dX9_of_78 : decode cX9_of 78 = .ok (.ireturn, 1) := by decide +kernel
theorem dX9_of_79 : decode cX9_of 79 = .ok (.aload_n 3, 1) := by decide +kernel
theorem dX9_of_80 : decode cX9_of 80 = .ok (.getfield 98, 3) := by decide +kernel
theorem dX9_of_83 : decode cX9_of 83 = .ok (.ireturn, 1) := by decide +kernel
theorem dX9_of_84 : decode cX9_of 84 = .ok (.aload_n 3, 1) := by decide +kernel
theorem dX9_of_85 : decode cX9_of 85 = .ok (.getfield 101, 3) := by decide +kernel
theorem dX9_of_88 : decode cX9_of 88 = .ok (.ireturn, 1) := by decide +kernel
theorem dX9_of_89 : decode cX9_of 89 = .ok (.aload_n 3, 1) := by decide +kernel
theorem dX9_of_90 : decode cX9_of 90 = .ok (.invokevirtual 104, 3) := by decide +kernel
theorem dX9_of_93 : decode cX9_of 93 = .ok (.ireturn, 1) := by decide +kernel
theorem dX9_of_94 : decode cX9_of 94 = .ok (.aload_n 3, 1) := by decide +kernel
theorem dX9_of_95 : decode cX9_of 95 = .ok (.aload_n 0, 1) := by decide +kernel
theorem dX9_of_96 : decode cX9_of 96 = .ok (.getfield 12, 3) := by decide +kernel
theorem dX9_of_99 : decode cX9_of 99 = .ok (.invokevirtual 108, 3) := by decide +kernel
theorem dX9_of_102 : decode cX9_of 102 = .ok (.aload_n 0, 1) := by decide +kernel
theorem dX9_of_103 : decode cX9_of 103 = .ok (.getfield 12, 3) := by decide +kernel
theorem dX9_of_106 : decode cX9_of 106 = .ok (.getfield 111, 3) := by decide +kernel
theorem dX9_of_109 : decode cX9_of 109 = .ok (.getfield 115, 3) := by decide +kernel
theorem dX9_of_112 : decode cX9_of 112 = .ok (.aload_n 0, 1) := by decide +kernel
theorem dX9_of_113 : decode cX9_of 113 = .ok (.getfield 12, 3) := by decide +kernel
theorem dX9_of_116 : decode cX9_of 116 = .ok (.getfield 118, 3) := by decide +kernel
theorem dX9_of_119 : decode cX9_of 119 = .ok (.invokevirtual 121, 3) := by decide +kernel
theorem dX9_of_122 : decode cX9_of 122 = .ok (.ireturn, 1) := by decide +kernel
theorem dX9_of_123 : decode cX9_of 123 = .ok (.aload_n 0, 1) := by decide +kernel
theorem dX9_of_124 : decode cX9_of 124 = .ok (.getfield 12, 3) := by decide +kernel
theorem dX9_of_127 : decode cX9_of 127 = .ok (.aload_n 3, 1) := by decide +kernel
theorem dX9_of_128 : decode cX9_of 128 = .ok (.aload_n 0, 1) := by decide +kernel
theorem dX9_of_129 : decode cX9_of 129 = .ok (.getfield 12, 3) := by decide +kernel
theorem dX9_of_132 : decode cX9_of 132 = .ok (.invokevirtual 108, 3) := by decide +kernel
theorem dX9_of_135 : decode cX9_of 135 = .ok (.invokevirtual 124, 3) := by decide +kernel
theorem dX9_of_138 : decode cX9_of 138 = .ok (.ireturn, 1) := by decide +kernel
theorem dX9_of_139 : decode cX9_of 139 = .ok (.sipush (-10001), 3) := by decide +kernel
theorem dX9_of_142 : decode cX9_of 142 = .ok (.ireturn, 1) := by decide +kernel
def f_X9_of (X : x_X) (v0 : Nat) (v1 : Int32) (v2 : Int32) (μ : x_M) : Option (Int32 × x_M) :=
  (ck (x_kd X v0 = 9 + 1) (lt (μ.2.1 v0 0) (fun (v4 : Nat) => (ck (x_kd X v4 = 7 + 1) (bd (f_X7_find X v4 v1 μ) (fun (v5 : Nat) (μ6 : x_M) => (if v5 = 0 then (some ((-10001 : Int32), μ6)) else (x_swo [(0 : Int32), (1 : Int32), (2 : Int32), (3 : Int32), (4 : Int32), (5 : Int32), (6 : Int32), (7 : Int32)] [(ck (x_kd X v5 = 0 + 1) (some ((μ6.1 v5 3), μ6))), (ck (x_kd X v5 = 0 + 1) (some ((μ6.1 v5 4), μ6))), (ck (x_kd X v5 = 0 + 1) (some ((μ6.1 v5 5), μ6))), (ck (x_kd X v5 = 0 + 1) (some ((μ6.1 v5 6), μ6))), (ck (x_kd X v5 = 0 + 1) (some ((μ6.1 v5 7), μ6))), (ck (x_kd X v5 = 0 + 1) (bd (f_X0_lifts X v5 μ6) (fun (v7 : Int32) (μ8 : x_M) => (some (v7, μ8))))), (ck (x_kd X v0 = 9 + 1) (lt (μ6.2.1 v0 0) (fun (v9 : Nat) => (ck (x_kd X v9 = 7 + 1) (bd (f_X7_level X v9 μ6) (fun (v10 : Int32) (μ11 : x_M) => (ck (x_kd X v0 = 9 + 1) (lt (μ11.2.1 v0 0) (fun (v12 : Nat) => (ck (x_kd X v12 = 7 + 1) (lt (μ11.2.1 v12 5) (fun (v13 : Nat) => (ck (x_kd X v13 = 4 + 1) (ck (x_kd X v0 = 9 + 1) (lt (μ11.2.1 v0 0) (fun (v14 : Nat) => (ck (x_kd X v14 = 7 + 1) (ck (x_kd X v5 = 0 + 1) (bd (f_X0_pours X v5 v10 (μ11.1 v13 9) (μ11.1 v14 9) μ11) (fun (v15 : Int32) (μ16 : x_M) => (some (v15, μ16)))))))))))))))))))))), (ck (x_kd X v0 = 9 + 1) (lt (μ6.2.1 v0 0) (fun (v17 : Nat) => (ck (x_kd X v0 = 9 + 1) (lt (μ6.2.1 v0 0) (fun (v18 : Nat) => (ck (x_kd X v18 = 7 + 1) (bd (f_X7_level X v18 μ6) (fun (v19 : Int32) (μ20 : x_M) => (ck (x_kd X v17 = 7 + 1) (bd (f_X7_sunOf X v17 v5 v19 μ20) (fun (v21 : Int32) (μ22 : x_M) => (some (v21, μ22))))))))))))))] (some ((-10001 : Int32), μ6)) v2))))))))
set_option maxRecDepth 100000 in
theorem m_X9_of (hI : x_I X) (v0 : Nat) (v1 : Int32) (v2 : Int32) (μ : x_M) : x_Met X x_Z0 l yX9_of cX9_of 4 (some .int) 5 [vR v0, vI v1, vI v2] μ rkI (f_X9_of X v0 v1 v2 μ) := by
  refine x_enter hI (by decide +kernel) (Nat.le_of_ble_eq_true rfl) (fun p e s m args below meth c hC hr hlk => ?_)
  unfold f_X9_of
  refine s_lv (lv' := [(0, vR v0), (1, vI v1), (2, vI v2)]) [0, 1, 2] rfl ?_
  refine s_aload_n hC 0 dX9_of_0 rfl ?_
  refine s_getR hC xc9 (by decide) rfl qf_X9_12 dX9_of_1 ?_
  refine s_ltR (fun v4 => ?_)
  refine s_iload_n hC 1 dX9_of_4 rfl ?_
  refine s_callV hC (x := v4) (avs := [vI v1]) (st := []) (nest := false) xc7 (m_X7_find hI v4 v1 μ) dX9_of_5 qm_X9_82 qi_X7_find qs_X7_find qc_X7 qd_X7_find qh_X7_find (by decide) (fun _ => Nat.le_of_ble_eq_true rfl) (Nat.le_of_ble_eq_true rfl) (fun v5 μ6 => ?_)
  refine s_astore_n hC dX9_of_8 (by decide) (lv' := [(3, vR v5), (0, vR v0), (1, vI v1), (2, vI v2)]) rfl ?_
  refine s_aload_n hC 0 dX9_of_9 rfl ?_
  refine s_ifnonnull hC dX9_of_10 (tgt := 17) (by decide) ?_ ?_
  · refine s_iload_n hC 3 dX9_of_17 rfl ?_
    refine s_table hC dX9_of_18 [((0 : Int32), 64), ((1 : Int32), 69), ((2 : Int32), 74), ((3 : Int32), 79), ((4 : Int32), 84), ((5 : Int32), 89), ((6 : Int32), 94), ((7 : Int32), 123)] 139 (by decide +kernel) ⟨?_, ?_, ?_, ?_, ?_, ?_, ?_, ?_, trivial⟩ ?_
    · refine s_aload_n hC 0 dX9_of_64 rfl ?_
      refine s_getI hC xc0 (by decide) rfl qf_X9_86 dX9_of_65 ?_
      exact s_iret hC hr hlk dX9_of_68
    · refine s_aload_n hC 0 dX9_of_69 rfl ?_
      refine s_getI hC xc0 (by decide) rfl qf_X9_92 dX9_of_70 ?_
      exact s_iret hC hr hlk dX9_of_73
    · refine s_aload_n hC 0 dX9_of_74 rfl ?_
      refine s_getI hC xc0 (by decide) rfl qf_X9_95 dX9_of_75 ?_
      exact s_iret hC hr hlk dX9_of_78
    · refine s_aload_n hC 0 dX9_of_79 rfl ?_
      refine s_getI hC xc0 (by decide) rfl qf_X9_98 dX9_of_80 ?_
      exact s_iret hC hr hlk dX9_of_83
    · refine s_aload_n hC 0 dX9_of_84 rfl ?_
      refine s_getI hC xc0 (by decide) rfl qf_X9_101 dX9_of_85 ?_
      exact s_iret hC hr hlk dX9_of_88
    · refine s_aload_n hC 0 dX9_of_89 rfl ?_
      refine s_callV hC (x := v5) (avs := []) (st := []) (nest := false) xc0 (m_X0_lifts hI v5 μ6) dX9_of_90 qm_X9_104 qi_X0_lifts qs_X0_lifts qc_X0 qd_X0_lifts qh_X0_lifts (by decide) (fun _ => Nat.le_of_ble_eq_true rfl) (Nat.le_of_ble_eq_true rfl) (fun v7 μ8 => ?_)
      exact s_iret hC hr hlk dX9_of_93
    · refine s_aload_n hC 0 dX9_of_94 rfl ?_
      refine s_aload_n hC 1 dX9_of_95 rfl ?_
      refine s_getR hC xc9 (by decide) rfl qf_X9_12 dX9_of_96 ?_
      refine s_ltR (fun v9 => ?_)
      refine s_callV hC (x := v9) (avs := []) (st := [vR v5]) (nest := false) xc7 (m_X7_level hI v9 μ6) dX9_of_99 qm_X9_108 qi_X7_level qs_X7_level qc_X7 qd_X7_level qh_X7_level (by decide) (fun _ => Nat.le_of_ble_eq_true rfl) (Nat.le_of_ble_eq_true rfl) (fun v10 μ11 => ?_)
      refine s_aload_n hC 1 dX9_of_102 rfl ?_
      refine s_getR hC xc9 (by decide) rfl qf_X9_12 dX9_of_103 ?_
      refine s_ltR (fun v12 => ?_)
      refine s_getR hC xc7 (by decide) rfl qf_X9_111 dX9_of_106 ?_
      refine s_ltR (fun v13 => ?_)
      refine s_getI hC xc4 (by decide) rfl qf_X9_115 dX9_of_109 ?_
      refine s_aload_n hC 1 dX9_of_112 rfl ?_
      refine s_getR hC xc9 (by decide) rfl qf_X9_12 dX9_of_113 ?_
      refine s_ltR (fun v14 => ?_)
      refine s_getI hC xc7 (by decide) rfl qf_X9_118 dX9_of_116 ?_
      refine s_callV hC (x := v5) (avs := [vI v10, vI (μ11.1 v13 9), vI (μ11.1 v14 9)]) (st := []) (nest := false) xc0 (m_X0_pours hI v5 v10 (μ11.1 v13 9) (μ11.1 v14 9) μ11) dX9_of_119 qm_X9_121 qi_X0_pours qs_X0_pours qc_X0 qd_X0_pours qh_X0_pours (by decide) (fun _ => Nat.le_of_ble_eq_true rfl) (Nat.le_of_ble_eq_true rfl) (fun v15 μ16 => ?_)
      exact s_iret hC hr hlk dX9_of_122
    · refine s_aload_n hC 1 dX9_of_123 rfl ?_
      refine s_getR hC xc9 (by decide) rfl qf_X9_12 dX9_of_124 ?_
      refine s_ltR (fun v17 => ?_)
      refine s_aload_n hC 0 dX9_of_127 rfl ?_
      refine s_aload_n hC 1 dX9_of_128 rfl ?_
      refine s_getR hC xc9 (by decide) rfl qf_X9_12 dX9_of_129 ?_
      refine s_ltR (fun v18 => ?_)
      refine s_callV hC (x := v18) (avs := []) (st := [vR v5, vR v17]) (nest := false) xc7 (m_X7_level hI v18 μ6) dX9_of_132 qm_X9_108 qi_X7_level qs_X7_level qc_X7 qd_X7_level qh_X7_level (by decide) (fun _ => Nat.le_of_ble_eq_true rfl) (Nat.le_of_ble_eq_true rfl) (fun v19 μ20 => ?_)
      refine s_callV hC (x := v17) (avs := [vR v5, vI v19]) (st := []) (nest := false) xc7 (m_X7_sunOf hI v17 v5 v19 μ20) dX9_of_135 qm_X9_124 qi_X7_sunOf qs_X7_sunOf qc_X7 qd_X7_sunOf qh_X7_sunOf (by decide) (fun _ => Nat.le_of_ble_eq_true rfl) (Nat.le_of_ble_eq_true rfl) (fun v21 μ22 => ?_)
      exact s_iret hC hr hlk dX9_of_138
    refine s_sipush hC dX9_of_139 (v := -10001) (by decide) ?_
    exact s_iret hC hr hlk dX9_of_142
  refine s_sipush hC dX9_of_13 (v := -10001) (by decide) ?_
  exact s_iret hC hr hlk dX9_of_16
theorem dX9_told_0 : decode cX9_told 0 = .ok (.iload_n 1, 1) := by decide +kernel
theorem dX9_told_1 : decode cX9_told 1 = .ok (.tableswitch 127 0 7 #[47, 55, 63, 71, 79, 90, 101, 112], 47) := by decide +kernel
theorem dX9_told_48 : decode cX9_told 48 = .ok (.aload_n 0, 1) := by decide +kernel
theorem dX9_told_49 : decode cX9_told 49 = .ok (.getfield 12, 3) := by decide +kernel
theorem dX9_told_52 : decode cX9_told 52 = .ok (.getfield 118, 3) := by decide +kernel
theorem dX9_told_55 : decode cX9_told 55 = .ok (.ireturn, 1) := by decide +kernel
theorem dX9_told_56 : decode cX9_told 56 = .ok (.aload_n 0, 1) := by decide +kernel
theorem dX9_told_57 : decode cX9_told 57 = .ok (.getfield 12, 3) := by decide +kernel
theorem dX9_told_60 : decode cX9_told 60 = .ok (.getfield 136, 3) := by decide +kernel
theorem dX9_told_63 : decode cX9_told 63 = .ok (.ireturn, 1) := by decide +kernel
theorem dX9_told_64 : decode cX9_told 64 = .ok (.aload_n 0, 1) := by decide +kernel
theorem dX9_told_65 : decode cX9_told 65 = .ok (.getfield 12, 3) := by decide +kernel
theorem dX9_told_68 : decode cX9_told 68 = .ok (.getfield 152, 3) := by decide +kernel
theorem dX9_told_71 : decode cX9_told 71 = .ok (.ireturn, 1) := by decide +kernel
theorem dX9_told_72 : decode cX9_told 72 = .ok (.aload_n 0, 1) := by decide +kernel
theorem dX9_told_73 : decode cX9_told 73 = .ok (.getfield 12, 3) := by decide +kernel
theorem dX9_told_76 : decode cX9_told 76 = .ok (.invokevirtual 108, 3) := by decide +kernel
theorem dX9_told_79 : decode cX9_told 79 = .ok (.ireturn, 1) := by decide +kernel
theorem dX9_told_80 : decode cX9_told 80 = .ok (.aload_n 0, 1) := by decide +kernel
theorem dX9_told_81 : decode cX9_told 81 = .ok (.getfield 12, 3) := by decide +kernel
theorem dX9_told_84 : decode cX9_told 84 = .ok (.getfield 111, 3) := by decide +kernel
theorem dX9_told_87 : decode cX9_told 87 = .ok (.getfield 155, 3) := by decide +kernel
theorem dX9_told_90 : decode cX9_told 90 = .ok (.ireturn, 1) := by decide +kernel
theorem dX9_told_91 : decode cX9_told 91 = .ok (.aload_n 0, 1) := by decide +kernel
theorem dX9_told_92 : decode cX9_told 92 = .ok (.getfield 12, 3) := by decide +kernel
theorem dX9_told_95 : decode cX9_told 95 = .ok (.getfield 111, 3) := by decide +kernel
theorem dX9_told_98 : decode cX9_told 98 = .ok (.getfield 158, 3) := by decide +kernel
theorem dX9_told_101 : decode cX9_told 101 = .ok (.ireturn, 1) := by decide +kernel
theorem dX9_told_102 : decode cX9_told 102 = .ok (.aload_n 0, 1) := by decide +kernel
theorem dX9_told_103 : decode cX9_told 103 = .ok (.getfield 12, 3) := by decide +kernel
theorem dX9_told_106 : decode cX9_told 106 = .ok (.getfield 111, 3) := by decide +kernel
theorem dX9_told_109 : decode cX9_told 109 = .ok (.getfield 115, 3) := by decide +kernel
theorem dX9_told_112 : decode cX9_told 112 = .ok (.ireturn, 1) := by decide +kernel
theorem dX9_told_113 : decode cX9_told 113 = .ok (.aload_n 0, 1) := by decide +kernel
theorem dX9_told_114 : decode cX9_told 114 = .ok (.getfield 12, 3) := by decide +kernel
theorem dX9_told_117 : decode cX9_told 117 = .ok (.aload_n 0, 1) := by decide +kernel
theorem dX9_told_118 : decode cX9_told 118 = .ok (.getfield 12, 3) := by decide +kernel
theorem dX9_told_121 : decode cX9_told 121 = .ok (.invokevirtual 108, 3) := by decide +kernel
theorem dX9_told_124 : decode cX9_told 124 = .ok (.invokevirtual 161, 3) := by decide +kernel
theorem dX9_told_127 : decode cX9_told 127 = .ok (.ireturn, 1) := by decide +kernel
theorem dX9_told_128 : decode cX9_told 128 = .ok (.iload_n 1, 1) := by decide +kernel
theorem dX9_told_129 : decode cX9_told 129 = .ok (.bipush 10, 2) := by decide +kernel
theorem dX9_told_131 : decode cX9_told 131 = .ok (.bipush 15, 2) := by decide +kernel
theorem dX9_told_133 : decode cX9_told 133 = .ok (.invokestatic 56, 3) := by decide +kernel
theorem dX9_told_136 : decode cX9_told 136 = .ok (.ifCond .eq 20, 3) := by decide +kernel
theorem dX9_told_139 : decode cX9_told 139 = .ok (.aload_n 0, 1) := by decide +kernel
theorem dX9_told_140 : decode cX9_told 140 = .ok (.getfield 12, 3) := by decide +kernel
theorem dX9_told_143 : decode cX9_told 143 = .ok (.getfield 60, 3) := by decide +kernel
theorem dX9_told_146 : decode cX9_told 146 = .ok (.iload_n 1, 1) := by decide +kernel
theorem dX9_told_147 : decode cX9_told 147 = .ok (.bipush 10, 2) := by decide +kernel
theorem dX9_told_149 : decode cX9_told 149 = .ok (.isub, 1) := by decide +kernel
theorem dX9_told_150 : decode cX9_told 150 = .ok (.invokevirtual 164, 3) := by decide +kernel
theorem dX9_told_153 : decode cX9_told 153 = .ok (.goto 4, 3) := by decide +kernel
theorem dX9_told_156 : decode cX9_told 156 = .ok (.iconst (-1), 1) := by decide +kernel
theorem dX9_told_157 : decode cX9_told 157 = .ok (.ireturn, 1) := by decide +kernel
def f_X9_told (X : x_X) (v0 : Nat) (v1 : Int32) (μ : x_M) : Option (Int32 × x_M) :=
  (x_swo [(0 : Int32), (1 : Int32), (2 : Int32), (3 : Int32), (4 : Int32), (5 : Int32), (6 : Int32), (7 : Int32)] [(ck (x_kd X v0 = 9 + 1) (lt (μ.2.1 v0 0) (fun (v3 : Nat) => (ck (x_kd X v3 = 7 + 1) (some ((μ.1 v3 9), μ)))))), (ck (x_kd X v0 = 9 + 1) (lt (μ.2.1 v0 0) (fun (v4 : Nat) => (ck (x_kd X v4 = 7 + 1) (some ((μ.1 v4 7), μ)))))), (ck (x_kd X v0 = 9 + 1) (lt (μ.2.1 v0 0) (fun (v5 : Nat) => (ck (x_kd X v5 = 7 + 1) (some ((μ.1 v5 8), μ)))))), (ck (x_kd X v0 = 9 + 1) (lt (μ.2.1 v0 0) (fun (v6 : Nat) => (ck (x_kd X v6 = 7 + 1) (bd (f_X7_level X v6 μ) (fun (v7 : Int32) (μ8 : x_M) => (some (v7, μ8)))))))), (ck (x_kd X v0 = 9 + 1) (lt (μ.2.1 v0 0) (fun (v9 : Nat) => (ck (x_kd X v9 = 7 + 1) (lt (μ.2.1 v9 5) (fun (v10 : Nat) => (ck (x_kd X v10 = 4 + 1) (some ((μ.1 v10 7), μ))))))))), (ck (x_kd X v0 = 9 + 1) (lt (μ.2.1 v0 0) (fun (v11 : Nat) => (ck (x_kd X v11 = 7 + 1) (lt (μ.2.1 v11 5) (fun (v12 : Nat) => (ck (x_kd X v12 = 4 + 1) (some ((μ.1 v12 8), μ))))))))), (ck (x_kd X v0 = 9 + 1) (lt (μ.2.1 v0 0) (fun (v13 : Nat) => (ck (x_kd X v13 = 7 + 1) (lt (μ.2.1 v13 5) (fun (v14 : Nat) => (ck (x_kd X v14 = 4 + 1) (some ((μ.1 v14 9), μ))))))))), (ck (x_kd X v0 = 9 + 1) (lt (μ.2.1 v0 0) (fun (v15 : Nat) => (ck (x_kd X v0 = 9 + 1) (lt (μ.2.1 v0 0) (fun (v16 : Nat) => (ck (x_kd X v16 = 7 + 1) (bd (f_X7_level X v16 μ) (fun (v17 : Int32) (μ18 : x_M) => (ck (x_kd X v15 = 7 + 1) (bd (f_X7_spring X v15 v17 μ18) (fun (v19 : Int32) (μ20 : x_M) => (some (v19, μ20))))))))))))))] (bd (f_X9_within X v1 (10 : Int32) (15 : Int32) μ) (fun (v21 : Int32) (μ22 : x_M) => (if v21 = 0 then (some ((-1 : Int32), μ22)) else (ck (x_kd X v0 = 9 + 1) (lt (μ22.2.1 v0 0) (fun (v23 : Nat) => (ck (x_kd X v23 = 7 + 1) (lt (μ22.2.1 v23 0) (fun (v24 : Nat) => (ck (x_kd X v24 = 3 + 1) (bd (f_X3_areaOf X v24 (v1 - (10 : Int32)) μ22) (fun (v25 : Int32) (μ26 : x_M) => (some (v25, μ26)))))))))))))) v1)
set_option maxRecDepth 100000 in
theorem m_X9_told (hI : x_I X) (v0 : Nat) (v1 : Int32) (μ : x_M) : x_Met X x_Z0 l yX9_told cX9_told 2 (some .int) 5 [vR v0, vI v1] μ rkI (f_X9_told X v0 v1 μ) := by
  refine x_enter hI (by decide +kernel) (Nat.le_of_ble_eq_true rfl) (fun p e s m args below meth c hC hr hlk => ?_)
  unfold f_X9_told
  refine s_lv (lv' := [(0, vR v0), (1, vI v1)]) [0, 1] rfl ?_
  refine s_iload_n hC 1 dX9_told_0 rfl ?_
  refine s_table hC dX9_told_1 [((0 : Int32), 48), ((1 : Int32), 56), ((2 : Int32), 64), ((3 : Int32), 72), ((4 : Int32), 80), ((5 : Int32), 91), ((6 : Int32), 102), ((7 : Int32), 113)] 128 (by decide +kernel) ⟨?_, ?_, ?_, ?_, ?_, ?_, ?_, ?_, trivial⟩ ?_
  · refine s_aload_n hC 0 dX9_told_48 rfl ?_
    refine s_getR hC xc9 (by decide) rfl qf_X9_12 dX9_told_49 ?_
    refine s_ltR (fun v3 => ?_)
    refine s_getI hC xc7 (by decide) rfl qf_X9_118 dX9_told_52 ?_
    exact s_iret hC hr hlk dX9_told_55
  · refine s_aload_n hC 0 dX9_told_56 rfl ?_
    refine s_getR hC xc9 (by decide) rfl qf_X9_12 dX9_told_57 ?_
    refine s_ltR (fun v4 => ?_)
    refine s_getI hC xc7 (by decide) rfl qf_X9_136 dX9_told_60 ?_
    exact s_iret hC hr hlk dX9_told_63
  · refine s_aload_n hC 0 dX9_told_64 rfl ?_
    refine s_getR hC xc9 (by decide) rfl qf_X9_12 dX9_told_65 ?_
    refine s_ltR (fun v5 => ?_)
    refine s_getI hC xc7 (by decide) rfl qf_X9_152 dX9_told_68 ?_
    exact s_iret hC hr hlk dX9_told_71
  · refine s_aload_n hC 0 dX9_told_72 rfl ?_
    refine s_getR hC xc9 (by decide) rfl qf_X9_12 dX9_told_73 ?_
    refine s_ltR (fun v6 => ?_)
    refine s_callV hC (x := v6) (avs := []) (st := []) (nest := false) xc7 (m_X7_level hI v6 μ) dX9_told_76 qm_X9_108 qi_X7_level qs_X7_level qc_X7 qd_X7_level qh_X7_level (by decide) (fun _ => Nat.le_of_ble_eq_true rfl) (Nat.le_of_ble_eq_true rfl) (fun v7 μ8 => ?_)
    exact s_iret hC hr hlk dX9_told_79
  · refine s_aload_n hC 0 dX9_told_80 rfl ?_
    refine s_getR hC xc9 (by decide) rfl qf_X9_12 dX9_told_81 ?_
    refine s_ltR (fun v9 => ?_)
    refine s_getR hC xc7 (by decide) rfl qf_X9_111 dX9_told_84 ?_
    refine s_ltR (fun v10 => ?_)
    refine s_getI hC xc4 (by decide) rfl qf_X9_155 dX9_told_87 ?_
    exact s_iret hC hr hlk dX9_told_90
  · refine s_aload_n hC 0 dX9_told_91 rfl ?_
    refine s_getR hC xc9 (by decide) rfl qf_X9_12 dX9_told_92 ?_
    refine s_ltR (fun v11 => ?_)
    refine s_getR hC xc7 (by decide) rfl qf_X9_111 dX9_told_95 ?_
    refine s_ltR (fun v12 => ?_)
    refine s_getI hC xc4 (by decide) rfl qf_X9_158 dX9_told_98 ?_
    exact s_iret hC hr hlk dX9_told_101
  · refine s_aload_n hC 0 dX9_told_102 rfl ?_
    refine s_getR hC xc9 (by decide) rfl qf_X9_12 dX9_told_103 ?_
    refine s_ltR (fun v13 => ?_)
    refine s_getR hC xc7 (by decide) rfl qf_X9_111 dX9_told_106 ?_
    refine s_ltR (fun v14 => ?_)
    refine s_getI hC xc4 (by decide) rfl qf_X9_115 dX9_told_109 ?_
    exact s_iret hC hr hlk dX9_told_112
  · refine s_aload_n hC 0 dX9_told_113 rfl ?_
    refine s_getR hC xc9 (by decide) rfl qf_X9_12 dX9_told_114 ?_
    refine s_ltR (fun v15 => ?_)
    refine s_aload_n hC 0 dX9_told_117 rfl ?_
    refine s_getR hC xc9 (by decide) rfl qf_X9_12 dX9_told_118 ?_
    refine s_ltR (fun v16 => ?_)
    refine s_callV hC (x := v16) (avs := []) (st := [vR v15]) (nest := false) xc7 (m_X7_level hI v16 μ) dX9_told_121 qm_X9_108 qi_X7_level qs_X7_level qc_X7 qd_X7_level qh_X7_level (by decide) (fun _ => Nat.le_of_ble_eq_true rfl) (Nat.le_of_ble_eq_true rfl) (fun v17 μ18 => ?_)
    refine s_callV hC (x := v15) (avs := [vI v17]) (st := []) (nest := false) xc7 (m_X7_spring hI v15 v17 μ18) dX9_told_124 qm_X9_161 qi_X7_spring qs_X7_spring qc_X7 qd_X7_spring qh_X7_spring (by decide) (fun _ => Nat.le_of_ble_eq_true rfl) (Nat.le_of_ble_eq_true rfl) (fun v19 μ20 => ?_)
    exact s_iret hC hr hlk dX9_told_127
  refine s_iload_n hC 1 dX9_told_128 rfl ?_
  refine s_bipush hC dX9_told_129 (v := 10) (by decide) ?_
  refine s_bipush hC dX9_told_131 (v := 15) (by decide) ?_
  refine s_callS hC (avs := [vI v1, vI (10 : Int32), vI (15 : Int32)]) (st := []) (nest := false) (m_X9_within hI v1 (10 : Int32) (15 : Int32) μ) dX9_told_133 qm_X9_56 qt_X9_within qc_X9 qd_X9_within qh_X9_within (by decide) (fun _ => Nat.le_of_ble_eq_true rfl) (Nat.le_of_ble_eq_true rfl) (fun v21 μ22 => ?_)
  refine s_if_eq hC dX9_told_136 (tgt := 156) (by decide) ?_ ?_
  · refine s_iconst hC dX9_told_156 (v := -1) (by decide) ?_
    exact s_iret hC hr hlk dX9_told_157
  refine s_aload_n hC 0 dX9_told_139 rfl ?_
  refine s_getR hC xc9 (by decide) rfl qf_X9_12 dX9_told_140 ?_
  refine s_ltR (fun v23 => ?_)
  refine s_getR hC xc7 (by decide) rfl qf_X9_60 dX9_told_143 ?_
  refine s_ltR (fun v24 => ?_)
  refine s_iload_n hC 1 dX9_told_146 rfl ?_
  refine s_bipush hC dX9_told_147 (v := 10) (by decide) ?_
  refine s_isub hC dX9_told_149 ?_
  refine s_callV hC (x := v24) (avs := [vI (v1 - (10 : Int32))]) (st := []) (nest := false) xc3 (m_X3_areaOf hI v24 (v1 - (10 : Int32)) μ22) dX9_told_150 qm_X9_164 qi_X3_areaOf qs_X3_areaOf qc_X3 qd_X3_areaOf qh_X3_areaOf (by decide) (fun _ => Nat.le_of_ble_eq_true rfl) (Nat.le_of_ble_eq_true rfl) (fun v25 μ26 => ?_)
  refine s_goto hC dX9_told_153 (tgt := 157) (by decide) ?_
  exact s_iret hC hr hlk dX9_told_157
theorem dX9_day_0 : decode cX9_day 0 = .ok (.aload_n 0, 1) := by decide +kernel
theorem dX9_day_1 : decode cX9_day 1 = .ok (.getfield 12, 3) := by decide +kernel
theorem dX9_day_4 : decode cX9_day 4 = .ok (.getfield 118, 3) := by decide +kernel
theorem dX9_day_7 : decode cX9_day 7 = .ok (.sipush 9999, 3) := by decide +kernel
theorem dX9_day_10 : decode cX9_day 10 = .ok (.if_icmp .lt 6, 3) := by decide +kernel
theorem dX9_day_13 : decode cX9_day 13 = .ok (.bipush (-3), 2) := by decide +kernel
theorem dX9_day_15 : decode cX9_day 15 = .ok (.ireturn, 1) := by decide +kernel
theorem dX9_day_16 : decode cX9_day 16 = .ok (.aload_n 0, 1) := by decide +kernel
theorem dX9_day_17 : decode cX9_day 17 = .ok (.getfield 12, 3) := by decide +kernel
theorem dX9_day_20 : decode cX9_day 20 = .ok (.invokevirtual 167, 3) := by decide +kernel
theorem dX9_day_23 : decode cX9_day 23 = .ok (.aload_n 0, 1) := by decide +kernel
theorem dX9_day_24 : decode cX9_day 24 = .ok (.getfield 12, 3) := by decide +kernel
theorem dX9_day_27 : decode cX9_day 27 = .ok (.invokevirtual 108, 3) := by decide +kernel
theorem dX9_day_30 : decode cX9_day 30 = .ok (.ireturn, 1) := by decide +kernel
def f_X9_day (X : x_X) (v0 : Nat) (μ : x_M) : Option (Int32 × x_M) :=
  (ck (x_kd X v0 = 9 + 1) (lt (μ.2.1 v0 0) (fun (v2 : Nat) => (ck (x_kd X v2 = 7 + 1) (if (μ.1 v2 9) < (9999 : Int32) then (ck (x_kd X v0 = 9 + 1) (lt (μ.2.1 v0 0) (fun (v3 : Nat) => (ck (x_kd X v3 = 7 + 1) (bd (f_X7_pass X v3 μ) (fun (_ : Unit) (μ4 : x_M) => (ck (x_kd X v0 = 9 + 1) (lt (μ4.2.1 v0 0) (fun (v5 : Nat) => (ck (x_kd X v5 = 7 + 1) (bd (f_X7_level X v5 μ4) (fun (v6 : Int32) (μ7 : x_M) => (some (v6, μ7)))))))))))))) else (some ((-3 : Int32), μ)))))))
set_option maxRecDepth 100000 in
theorem m_X9_day (hI : x_I X) (v0 : Nat) (μ : x_M) : x_Met X x_Z0 l yX9_day cX9_day 1 (some .int) 6 [vR v0] μ rkI (f_X9_day X v0 μ) := by
  refine x_enter hI (by decide +kernel) (Nat.le_of_ble_eq_true rfl) (fun p e s m args below meth c hC hr hlk => ?_)
  unfold f_X9_day
  refine s_lv (lv' := [(0, vR v0)]) [0] rfl ?_
  refine s_aload_n hC 0 dX9_day_0 rfl ?_
  refine s_getR hC xc9 (by decide) rfl qf_X9_12 dX9_day_1 ?_
  refine s_ltR (fun v2 => ?_)
  refine s_getI hC xc7 (by decide) rfl qf_X9_118 dX9_day_4 ?_
  refine s_sipush hC dX9_day_7 (v := 9999) (by decide) ?_
  refine s_icmp_lt hC dX9_day_10 (tgt := 16) (by decide) ?_ ?_
  · refine s_aload_n hC 0 dX9_day_16 rfl ?_
    refine s_getR hC xc9 (by decide) rfl qf_X9_12 dX9_day_17 ?_
    refine s_ltR (fun v3 => ?_)
    refine s_callV hC (x := v3) (avs := []) (st := []) (nest := false) xc7 (m_X7_pass hI v3 μ) dX9_day_20 qm_X9_167 qi_X7_pass qs_X7_pass qc_X7 qd_X7_pass qh_X7_pass (by decide) (fun _ => Nat.le_of_ble_eq_true rfl) (Nat.le_of_ble_eq_true rfl) (fun _ μ4 => ?_)
    refine s_aload_n hC 0 dX9_day_23 rfl ?_
    refine s_getR hC xc9 (by decide) rfl qf_X9_12 dX9_day_24 ?_
    refine s_ltR (fun v5 => ?_)
    refine s_callV hC (x := v5) (avs := []) (st := []) (nest := false) xc7 (m_X7_level hI v5 μ4) dX9_day_27 qm_X9_108 qi_X7_level qs_X7_level qc_X7 qd_X7_level qh_X7_level (by decide) (fun _ => Nat.le_of_ble_eq_true rfl) (Nat.le_of_ble_eq_true rfl) (fun v6 μ7 => ?_)
    exact s_iret hC hr hlk dX9_day_30
  refine s_bipush hC dX9_day_13 (v := -3) (by decide) ?_
  exact s_iret hC hr hlk dX9_day_15
theorem dX9_on_0 : decode cX9_on 0 = .ok (.iload_n 2, 1) := by decide +kernel
theorem dX9_on_1 : decode cX9_on 1 = .ok (.bipush 10, 2) := by decide +kernel
theorem dX9_on_3 : decode cX9_on 3 = .ok (.if_icmp .lt 21, 3) := by decide +kernel
theorem dX9_on_6 : decode cX9_on 6 = .ok (.aload_n 0, 1) := by decide +kernel
theorem dX9_on_7 : decode cX9_on 7 = .ok (.getfield 12, 3) := by decide +kernel
theorem dX9_on_10 : decode cX9_on 10 = .ok (.iload_n 2, 1) := by decide +kernel
theorem dX9_on_11 : decode cX9_on 11 = .ok (.bipush 10, 2) := by decide +kernel
theorem dX9_on_13 : decode cX9_on 13 = .ok (.isub, 1) := by decide +kernel
theorem dX9_on_14 : decode cX9_on 14 = .ok (.invokevirtual 82, 3) := by decide +kernel
theorem dX9_on_17 : decode cX9_on 17 = .ok (.ifnull 7, 3) := by decide +kernel
theorem dX9_on_20 : decode cX9_on 20 = .ok (.iconst 1, 1) := by decide +kernel
theorem dX9_on_21 : decode cX9_on 21 = .ok (.goto 4, 3) := by decide +kernel
theorem dX9_on_24 : decode cX9_on 24 = .ok (.iconst 0, 1) := by decide +kernel
theorem dX9_on_25 : decode cX9_on 25 = .ok (.istore_n 3, 1) := by decide +kernel
theorem dX9_on_26 : decode cX9_on 26 = .ok (.iload_n 3, 1) := by decide +kernel
theorem dX9_on_27 : decode cX9_on 27 = .ok (.ifCond .ne 16, 3) := by decide +kernel
theorem dX9_on_30 : decode cX9_on 30 = .ok (.iload_n 2, 1) := by decide +kernel
theorem dX9_on_31 : decode cX9_on 31 = .ok (.iconst 0, 1) := by decide +kernel
theorem dX9_on_32 : decode cX9_on 32 = .ok (.iconst 2, 1) := by decide +kernel
theorem dX9_on_33 : decode cX9_on 33 = .ok (.invokestatic 56, 3) := by decide +kernel
theorem dX9_on_36 : decode cX9_on 36 = .ok (.ifCond .ne 7, 3) := by decide +kernel
theorem dX9_on_39 : decode cX9_on 39 = .ok (.sipush (-10001), 3) := by decide +kernel
theorem dX9_on_42 : decode cX9_on 42 = .ok (.ireturn, 1) := by decide +kernel
theorem dX9_on_43 : decode cX9_on 43 = .ok (.iload_n 1, 1) := by decide +kernel
theorem dX9_on_44 : decode cX9_on 44 = .ok (.iconst 0, 1) := by decide +kernel
theorem dX9_on_45 : decode cX9_on 45 = .ok (.bipush 40, 2) := by decide +kernel
theorem dX9_on_47 : decode cX9_on 47 = .ok (.invokestatic 56, 3) := by decide +kernel
theorem dX9_on_50 : decode cX9_on 50 = .ok (.ifCond .ne 7, 3) := by decide +kernel
theorem dX9_on_53 : decode cX9_on 53 = .ok (.sipush (-10002), 3) := by decide +kernel
theorem dX9_on_56 : decode cX9_on 56 = .ok (.ireturn, 1) := by decide +kernel
theorem dX9_on_57 : decode cX9_on 57 = .ok (.aload_n 0, 1) := by decide +kernel
theorem dX9_on_58 : decode cX9_on 58 = .ok (.getfield 24, 3) := by decide +kernel
theorem dX9_on_61 : decode cX9_on 61 = .ok (.aload_n 0, 1) := by decide +kernel
theorem dX9_on_62 : decode cX9_on 62 = .ok (.getfield 12, 3) := by decide +kernel
theorem dX9_on_65 : decode cX9_on 65 = .ok (.iload_n 1, 1) := by decide +kernel
theorem dX9_on_66 : decode cX9_on 66 = .ok (.invokevirtual 170, 3) := by decide +kernel
theorem dX9_on_69 : decode cX9_on 69 = .ok (.astore 4, 2) := by decide +kernel
theorem dX9_on_71 : decode cX9_on 71 = .ok (.iload_n 2, 1) := by decide +kernel
theorem dX9_on_72 : decode cX9_on 72 = .ok (.tableswitch 46 0 2 #[28, 34, 40], 28) := by decide +kernel
theorem dX9_on_100 : decode cX9_on 100 = .ok (.aload 4, 2) := by decide +kernel
theorem dX9_on_102 : decode cX9_on 102 = .ok (.getfield 136, 3) := by decide +kernel
theorem dX9_on_105 : decode cX9_on 105 = .ok (.ireturn, 1) := by decide +kernel
theorem dX9_on_106 : decode cX9_on 106 = .ok (.aload 4, 2) := by decide +kernel
theorem dX9_on_108 : decode cX9_on 108 = .ok (.invokevirtual 108, 3) := by decide +kernel
theorem dX9_on_111 : decode cX9_on 111 = .ok (.ireturn, 1) := by decide +kernel
theorem dX9_on_112 : decode cX9_on 112 = .ok (.aload 4, 2) := by decide +kernel
theorem dX9_on_114 : decode cX9_on 114 = .ok (.getfield 152, 3) := by decide +kernel
theorem dX9_on_117 : decode cX9_on 117 = .ok (.ireturn, 1) := by decide +kernel
theorem dX9_on_118 : decode cX9_on 118 = .ok (.aload 4, 2) := by decide +kernel
theorem dX9_on_120 : decode cX9_on 120 = .ok (.iload_n 2, 1) := by decide +kernel
theorem dX9_on_121 : decode cX9_on 121 = .ok (.bipush 10, 2) := by decide +kernel
theorem dX9_on_123 : decode cX9_on 123 = .ok (.isub, 1) := by decide +kernel
theorem dX9_on_124 : decode cX9_on 124 = .ok (.invokevirtual 174, 3) := by decide +kernel
theorem dX9_on_127 : decode cX9_on 127 = .ok (.ireturn, 1) := by decide +kernel
def f_X9_on_J43 (X : x_X) (v13 : Nat) (v14 : Int32) (v15 : Int32) (μ16 : x_M) : Option (Int32 × x_M) :=
  (bd (f_X9_within X v14 (0 : Int32) (40 : Int32) μ16) (fun (v17 : Int32) (μ18 : x_M) => (if v17 = 0 then (some ((-10002 : Int32), μ18)) else (ck (x_kd X v13 = 9 + 1) (lt (μ18.2.1 v13 2) (fun (v19 : Nat) => (ck (x_kd X v13 = 9 + 1) (lt (μ18.2.1 v13 0) (fun (v20 : Nat) => (ck (x_kd X v19 = 2 + 1) (bd (f_X2_after X v19 v20 v14 μ18) (fun (v21 : Nat) (μ22 : x_M) => (x_swo [(0 : Int32), (1 : Int32), (2 : Int32)] [(ck (x_kd X v21 = 7 + 1) (some ((μ22.1 v21 7), μ22))), (ck (x_kd X v21 = 7 + 1) (bd (f_X7_level X v21 μ22) (fun (v23 : Int32) (μ24 : x_M) => (some (v23, μ24))))), (ck (x_kd X v21 = 7 + 1) (some ((μ22.1 v21 8), μ22)))] (ck (x_kd X v21 = 7 + 1) (bd (f_X7_bucketsOf X v21 (v15 - (10 : Int32)) μ22) (fun (v25 : Int32) (μ26 : x_M) => (some (v25, μ26))))) v15)))))))))))))
set_option maxRecDepth 100000 in
theorem j_X9_on_J43 (hI : x_I X) (hC : x_C X x_Z0 p (x_rm 7) s m c cX9_on RX9 5 0 0 7) (hr : meth.sig.returnType = (some .int)) (hlk : meth.locks = false) (v13 : Nat) (v14 : Int32) (v15 : Int32) (μ16 : x_M) : SM X 5 7 rkI p l e s m args below meth c 43 [(0, vR v13), (1, vI v14), (2, vI v15)] [] μ16 (f_X9_on_J43 X v13 v14 v15 μ16) := by
  unfold f_X9_on_J43
  refine s_iload_n hC 1 dX9_on_43 rfl ?_
  refine s_iconst hC dX9_on_44 (v := 0) (by decide) ?_
  refine s_bipush hC dX9_on_45 (v := 40) (by decide) ?_
  refine s_callS hC (avs := [vI v14, vI (0 : Int32), vI (40 : Int32)]) (st := []) (nest := false) (m_X9_within hI v14 (0 : Int32) (40 : Int32) μ16) dX9_on_47 qm_X9_56 qt_X9_within qc_X9 qd_X9_within qh_X9_within (by decide) (fun _ => Nat.le_of_ble_eq_true rfl) (Nat.le_of_ble_eq_true rfl) (fun v17 μ18 => ?_)
  refine s_if_ne hC dX9_on_50 (tgt := 57) (by decide) ?_ ?_
  · refine s_aload_n hC 0 dX9_on_57 rfl ?_
    refine s_getR hC xc9 (by decide) rfl qf_X9_24 dX9_on_58 ?_
    refine s_ltR (fun v19 => ?_)
    refine s_aload_n hC 0 dX9_on_61 rfl ?_
    refine s_getR hC xc9 (by decide) rfl qf_X9_12 dX9_on_62 ?_
    refine s_ltR (fun v20 => ?_)
    refine s_iload_n hC 1 dX9_on_65 rfl ?_
    refine s_callV hC (x := v19) (avs := [vR v20, vI v14]) (st := []) (nest := false) xc2 (m_X2_after hI v19 v20 v14 μ18) dX9_on_66 qm_X9_170 qi_X2_after qs_X2_after qc_X2 qd_X2_after qh_X2_after (by decide) (fun _ => Nat.le_of_ble_eq_true rfl) (Nat.le_of_ble_eq_true rfl) (fun v21 μ22 => ?_)
    refine s_astore hC dX9_on_69 (by decide) (lv' := [(4, vR v21), (0, vR v13), (1, vI v14), (2, vI v15)]) rfl ?_
    refine s_iload_n hC 3 dX9_on_71 rfl ?_
    refine s_table hC dX9_on_72 [((0 : Int32), 100), ((1 : Int32), 106), ((2 : Int32), 112)] 118 (by decide +kernel) ⟨?_, ?_, ?_, trivial⟩ ?_
    · refine s_aload hC 0 dX9_on_100 rfl ?_
      refine s_getI hC xc7 (by decide) rfl qf_X9_136 dX9_on_102 ?_
      exact s_iret hC hr hlk dX9_on_105
    · refine s_aload hC 0 dX9_on_106 rfl ?_
      refine s_callV hC (x := v21) (avs := []) (st := []) (nest := false) xc7 (m_X7_level hI v21 μ22) dX9_on_108 qm_X9_108 qi_X7_level qs_X7_level qc_X7 qd_X7_level qh_X7_level (by decide) (fun _ => Nat.le_of_ble_eq_true rfl) (Nat.le_of_ble_eq_true rfl) (fun v23 μ24 => ?_)
      exact s_iret hC hr hlk dX9_on_111
    · refine s_aload hC 0 dX9_on_112 rfl ?_
      refine s_getI hC xc7 (by decide) rfl qf_X9_152 dX9_on_114 ?_
      exact s_iret hC hr hlk dX9_on_117
    refine s_aload hC 0 dX9_on_118 rfl ?_
    refine s_iload_n hC 3 dX9_on_120 rfl ?_
    refine s_bipush hC dX9_on_121 (v := 10) (by decide) ?_
    refine s_isub hC dX9_on_123 ?_
    refine s_callV hC (x := v21) (avs := [vI (v15 - (10 : Int32))]) (st := []) (nest := false) xc7 (m_X7_bucketsOf hI v21 (v15 - (10 : Int32)) μ22) dX9_on_124 qm_X9_174 qi_X7_bucketsOf qs_X7_bucketsOf qc_X7 qd_X7_bucketsOf qh_X7_bucketsOf (by decide) (fun _ => Nat.le_of_ble_eq_true rfl) (Nat.le_of_ble_eq_true rfl) (fun v25 μ26 => ?_)
    exact s_iret hC hr hlk dX9_on_127
  refine s_sipush hC dX9_on_53 (v := -10002) (by decide) ?_
  exact s_iret hC hr hlk dX9_on_56
def f_X9_on_J25 (X : x_X) (v8 : Nat) (v9 : Int32) (v10 : Int32) (v11 : Int32) (μ12 : x_M) : Option (Int32 × x_M) :=
  (if v11 = 0 then (bd (f_X9_within X v10 (0 : Int32) (2 : Int32) μ12) (fun (v27 : Int32) (μ28 : x_M) => (if v27 = 0 then (some ((-10001 : Int32), μ28)) else (f_X9_on_J43 X v8 v9 v10 μ28)))) else (f_X9_on_J43 X v8 v9 v10 μ12))
set_option maxRecDepth 100000 in
theorem j_X9_on_J25 (hI : x_I X) (hC : x_C X x_Z0 p (x_rm 7) s m c cX9_on RX9 5 0 0 7) (hr : meth.sig.returnType = (some .int)) (hlk : meth.locks = false) (v8 : Nat) (v9 : Int32) (v10 : Int32) (v11 : Int32) (μ12 : x_M) : SM X 5 7 rkI p l e s m args below meth c 25 [(0, vR v8), (1, vI v9), (2, vI v10)] [vI v11] μ12 (f_X9_on_J25 X v8 v9 v10 v11 μ12) := by
  unfold f_X9_on_J25
  refine s_istore_n hC dX9_on_25 (by decide) (lv' := [(3, vI v11), (0, vR v8), (1, vI v9), (2, vI v10)]) rfl ?_
  refine s_iload_n hC 0 dX9_on_26 rfl ?_
  refine s_if_ne hC dX9_on_27 (tgt := 43) (by decide) ?_ ?_
  · refine s_lv (lv' := [(0, vR v8), (1, vI v9), (2, vI v10)]) [1, 2, 3] rfl ?_
    exact j_X9_on_J43 hI hC hr hlk _ _ _ _
  refine s_iload_n hC 3 dX9_on_30 rfl ?_
  refine s_iconst hC dX9_on_31 (v := 0) (by decide) ?_
  refine s_iconst hC dX9_on_32 (v := 2) (by decide) ?_
  refine s_callS hC (avs := [vI v10, vI (0 : Int32), vI (2 : Int32)]) (st := []) (nest := false) (m_X9_within hI v10 (0 : Int32) (2 : Int32) μ12) dX9_on_33 qm_X9_56 qt_X9_within qc_X9 qd_X9_within qh_X9_within (by decide) (fun _ => Nat.le_of_ble_eq_true rfl) (Nat.le_of_ble_eq_true rfl) (fun v27 μ28 => ?_)
  refine s_if_ne hC dX9_on_36 (tgt := 43) (by decide) ?_ ?_
  · refine s_lv (lv' := [(0, vR v8), (1, vI v9), (2, vI v10)]) [1, 2, 3] rfl ?_
    exact j_X9_on_J43 hI hC hr hlk _ _ _ _
  refine s_sipush hC dX9_on_39 (v := -10001) (by decide) ?_
  exact s_iret hC hr hlk dX9_on_42
def f_X9_on_J24 (X : x_X) (v4 : Nat) (v5 : Int32) (v6 : Int32) (μ7 : x_M) : Option (Int32 × x_M) :=
  (f_X9_on_J25 X v4 v5 v6 (0 : Int32) μ7)
set_option maxRecDepth 100000 in
theorem j_X9_on_J24 (hI : x_I X) (hC : x_C X x_Z0 p (x_rm 7) s m c cX9_on RX9 5 0 0 7) (hr : meth.sig.returnType = (some .int)) (hlk : meth.locks = false) (v4 : Nat) (v5 : Int32) (v6 : Int32) (μ7 : x_M) : SM X 5 7 rkI p l e s m args below meth c 24 [(0, vR v4), (1, vI v5), (2, vI v6)] [] μ7 (f_X9_on_J24 X v4 v5 v6 μ7) := by
  unfold f_X9_on_J24
  refine s_iconst hC dX9_on_24 (v := 0) (by decide) ?_
  exact j_X9_on_J25 hI hC hr hlk _ _ _ _ _
def f_X9_on (X : x_X) (v0 : Nat) (v1 : Int32) (v2 : Int32) (μ : x_M) : Option (Int32 × x_M) :=
  (if v2 < (10 : Int32) then (f_X9_on_J24 X v0 v1 v2 μ) else (ck (x_kd X v0 = 9 + 1) (lt (μ.2.1 v0 0) (fun (v29 : Nat) => (ck (x_kd X v29 = 7 + 1) (bd (f_X7_find X v29 (v2 - (10 : Int32)) μ) (fun (v30 : Nat) (μ31 : x_M) => (if v30 = 0 then (f_X9_on_J24 X v0 v1 v2 μ31) else (f_X9_on_J25 X v0 v1 v2 (1 : Int32) μ31)))))))))
set_option maxRecDepth 100000 in
theorem m_X9_on (hI : x_I X) (v0 : Nat) (v1 : Int32) (v2 : Int32) (μ : x_M) : x_Met X x_Z0 l yX9_on cX9_on 5 (some .int) 7 [vR v0, vI v1, vI v2] μ rkI (f_X9_on X v0 v1 v2 μ) := by
  refine x_enter hI (by decide +kernel) (Nat.le_of_ble_eq_true rfl) (fun p e s m args below meth c hC hr hlk => ?_)
  unfold f_X9_on
  refine s_lv (lv' := [(0, vR v0), (1, vI v1), (2, vI v2)]) [0, 1, 2] rfl ?_
  refine s_iload_n hC 2 dX9_on_0 rfl ?_
  refine s_bipush hC dX9_on_1 (v := 10) (by decide) ?_
  refine s_icmp_lt hC dX9_on_3 (tgt := 24) (by decide) ?_ ?_
  · exact j_X9_on_J24 hI hC hr hlk _ _ _ _
  refine s_aload_n hC 0 dX9_on_6 rfl ?_
  refine s_getR hC xc9 (by decide) rfl qf_X9_12 dX9_on_7 ?_
  refine s_ltR (fun v29 => ?_)
  refine s_iload_n hC 2 dX9_on_10 rfl ?_
  refine s_bipush hC dX9_on_11 (v := 10) (by decide) ?_
  refine s_isub hC dX9_on_13 ?_
  refine s_callV hC (x := v29) (avs := [vI (v2 - (10 : Int32))]) (st := []) (nest := false) xc7 (m_X7_find hI v29 (v2 - (10 : Int32)) μ) dX9_on_14 qm_X9_82 qi_X7_find qs_X7_find qc_X7 qd_X7_find qh_X7_find (by decide) (fun _ => Nat.le_of_ble_eq_true rfl) (Nat.le_of_ble_eq_true rfl) (fun v30 μ31 => ?_)
  refine s_ifnull hC dX9_on_17 (tgt := 24) (by decide) ?_ ?_
  · exact j_X9_on_J24 hI hC hr hlk _ _ _ _
  refine s_iconst hC dX9_on_20 (v := 1) (by decide) ?_
  refine s_goto hC dX9_on_21 (tgt := 25) (by decide) ?_
  exact j_X9_on_J25 hI hC hr hlk _ _ _ _ _
theorem dX9_dry_0 : decode cX9_dry 0 = .ok (.aload_n 0, 1) := by decide +kernel
theorem dX9_dry_1 : decode cX9_dry 1 = .ok (.getfield 24, 3) := by decide +kernel
theorem dX9_dry_4 : decode cX9_dry 4 = .ok (.aload_n 0, 1) := by decide +kernel
theorem dX9_dry_5 : decode cX9_dry 5 = .ok (.getfield 12, 3) := by decide +kernel
theorem dX9_dry_8 : decode cX9_dry 8 = .ok (.invokevirtual 177, 3) := by decide +kernel
theorem dX9_dry_11 : decode cX9_dry 11 = .ok (.ireturn, 1) := by decide +kernel
def f_X9_dry (X : x_X) (v0 : Nat) (μ : x_M) : Option (Int32 × x_M) :=
  (ck (x_kd X v0 = 9 + 1) (lt (μ.2.1 v0 2) (fun (v2 : Nat) => (ck (x_kd X v0 = 9 + 1) (lt (μ.2.1 v0 0) (fun (v3 : Nat) => (ck (x_kd X v2 = 2 + 1) (bd (f_X2_daysTillDry X v2 v3 μ) (fun (v4 : Int32) (μ5 : x_M) => (some (v4, μ5)))))))))))
set_option maxRecDepth 100000 in
theorem m_X9_dry (hI : x_I X) (v0 : Nat) (μ : x_M) : x_Met X x_Z0 l yX9_dry cX9_dry 1 (some .int) 7 [vR v0] μ rkI (f_X9_dry X v0 μ) := by
  refine x_enter hI (by decide +kernel) (Nat.le_of_ble_eq_true rfl) (fun p e s m args below meth c hC hr hlk => ?_)
  unfold f_X9_dry
  refine s_lv (lv' := [(0, vR v0)]) [0] rfl ?_
  refine s_aload_n hC 0 dX9_dry_0 rfl ?_
  refine s_getR hC xc9 (by decide) rfl qf_X9_24 dX9_dry_1 ?_
  refine s_ltR (fun v2 => ?_)
  refine s_aload_n hC 0 dX9_dry_4 rfl ?_
  refine s_getR hC xc9 (by decide) rfl qf_X9_12 dX9_dry_5 ?_
  refine s_ltR (fun v3 => ?_)
  refine s_callV hC (x := v2) (avs := [vR v3]) (st := []) (nest := false) xc2 (m_X2_daysTillDry hI v2 v3 μ) dX9_dry_8 qm_X9_177 qi_X2_daysTillDry qs_X2_daysTillDry qc_X2 qd_X2_daysTillDry qh_X2_daysTillDry (by decide) (fun _ => Nat.le_of_ble_eq_true rfl) (Nat.le_of_ble_eq_true rfl) (fun v4 μ5 => ?_)
  exact s_iret hC hr hlk dX9_dry_11
theorem dX9_lowest_0 : decode cX9_lowest 0 = .ok (.iload_n 1, 1) := by decide +kernel
theorem dX9_lowest_1 : decode cX9_lowest 1 = .ok (.iconst 0, 1) := by decide +kernel
theorem dX9_lowest_2 : decode cX9_lowest 2 = .ok (.bipush 40, 2) := by decide +kernel
theorem dX9_lowest_4 : decode cX9_lowest 4 = .ok (.invokestatic 56, 3) := by decide +kernel
theorem dX9_lowest_7 : decode cX9_lowest 7 = .ok (.ifCond .eq 18, 3) := by decide +kernel
theorem dX9_lowest_10 : decode cX9_lowest 10 = .ok (.aload_n 0, 1) := by decide +kernel
theorem dX9_lowest_11 : decode cX9_lowest 11 = .ok (.getfield 24, 3) := by decide +kernel
theorem dX9_lowest_14 : decode cX9_lowest 14 = .ok (.aload_n 0, 1) := by decide +kernel
theorem dX9_lowest_15 : decode cX9_lowest 15 = .ok (.getfield 12, 3) := by decide +kernel
theorem dX9_lowest_18 : decode cX9_lowest 18 = .ok (.iload_n 1, 1) := by decide +kernel
theorem dX9_lowest_19 : decode cX9_lowest 19 = .ok (.invokevirtual 181, 3) := by decide +kernel
theorem dX9_lowest_22 : decode cX9_lowest 22 = .ok (.goto 5, 3) := by decide +kernel
theorem dX9_lowest_25 : decode cX9_lowest 25 = .ok (.bipush (-2), 2) := by decide +kernel
theorem dX9_lowest_27 : decode cX9_lowest 27 = .ok (.ireturn, 1) := by decide +kernel
def f_X9_lowest (X : x_X) (v0 : Nat) (v1 : Int32) (μ : x_M) : Option (Int32 × x_M) :=
  (bd (f_X9_within X v1 (0 : Int32) (40 : Int32) μ) (fun (v3 : Int32) (μ4 : x_M) => (if v3 = 0 then (some ((-2 : Int32), μ4)) else (ck (x_kd X v0 = 9 + 1) (lt (μ4.2.1 v0 2) (fun (v5 : Nat) => (ck (x_kd X v0 = 9 + 1) (lt (μ4.2.1 v0 0) (fun (v6 : Nat) => (ck (x_kd X v5 = 2 + 1) (bd (f_X2_daysTillLowest X v5 v6 v1 μ4) (fun (v7 : Int32) (μ8 : x_M) => (some (v7, μ8))))))))))))))
set_option maxRecDepth 100000 in
theorem m_X9_lowest (hI : x_I X) (v0 : Nat) (v1 : Int32) (μ : x_M) : x_Met X x_Z0 l yX9_lowest cX9_lowest 2 (some .int) 7 [vR v0, vI v1] μ rkI (f_X9_lowest X v0 v1 μ) := by
  refine x_enter hI (by decide +kernel) (Nat.le_of_ble_eq_true rfl) (fun p e s m args below meth c hC hr hlk => ?_)
  unfold f_X9_lowest
  refine s_lv (lv' := [(0, vR v0), (1, vI v1)]) [0, 1] rfl ?_
  refine s_iload_n hC 1 dX9_lowest_0 rfl ?_
  refine s_iconst hC dX9_lowest_1 (v := 0) (by decide) ?_
  refine s_bipush hC dX9_lowest_2 (v := 40) (by decide) ?_
  refine s_callS hC (avs := [vI v1, vI (0 : Int32), vI (40 : Int32)]) (st := []) (nest := false) (m_X9_within hI v1 (0 : Int32) (40 : Int32) μ) dX9_lowest_4 qm_X9_56 qt_X9_within qc_X9 qd_X9_within qh_X9_within (by decide) (fun _ => Nat.le_of_ble_eq_true rfl) (Nat.le_of_ble_eq_true rfl) (fun v3 μ4 => ?_)
  refine s_if_eq hC dX9_lowest_7 (tgt := 25) (by decide) ?_ ?_
  · refine s_bipush hC dX9_lowest_25 (v := -2) (by decide) ?_
    exact s_iret hC hr hlk dX9_lowest_27
  refine s_aload_n hC 0 dX9_lowest_10 rfl ?_
  refine s_getR hC xc9 (by decide) rfl qf_X9_24 dX9_lowest_11 ?_
  refine s_ltR (fun v5 => ?_)
  refine s_aload_n hC 0 dX9_lowest_14 rfl ?_
  refine s_getR hC xc9 (by decide) rfl qf_X9_12 dX9_lowest_15 ?_
  refine s_ltR (fun v6 => ?_)
  refine s_iload_n hC 1 dX9_lowest_18 rfl ?_
  refine s_callV hC (x := v5) (avs := [vR v6, vI v1]) (st := []) (nest := false) xc2 (m_X2_daysTillLowest hI v5 v6 v1 μ4) dX9_lowest_19 qm_X9_181 qi_X2_daysTillLowest qs_X2_daysTillLowest qc_X2 qd_X2_daysTillLowest qh_X2_daysTillLowest (by decide) (fun _ => Nat.le_of_ble_eq_true rfl) (Nat.le_of_ble_eq_true rfl) (fun v7 μ8 => ?_)
  refine s_goto hC dX9_lowest_22 (tgt := 27) (by decide) ?_
  exact s_iret hC hr hlk dX9_lowest_27
theorem dX9_ruined_0 : decode cX9_ruined 0 = .ok (.iload_n 1, 1) := by decide +kernel
theorem dX9_ruined_1 : decode cX9_ruined 1 = .ok (.iconst 0, 1) := by decide +kernel
theorem dX9_ruined_2 : decode cX9_ruined 2 = .ok (.sipush 999, 3) := by decide +kernel
theorem dX9_ruined_5 : decode cX9_ruined 5 = .ok (.invokestatic 56, 3) := by decide +kernel
theorem dX9_ruined_8 : decode cX9_ruined 8 = .ok (.ifCond .eq 19, 3) := by decide +kernel
theorem dX9_ruined_11 : decode cX9_ruined 11 = .ok (.aload_n 0, 1) := by decide +kernel
theorem dX9_ruined_12 : decode cX9_ruined 12 = .ok (.getfield 24, 3) := by decide +kernel
theorem dX9_ruined_15 : decode cX9_ruined 15 = .ok (.aload_n 0, 1) := by decide +kernel
theorem dX9_ruined_16 : decode cX9_ruined 16 = .ok (.getfield 12, 3) := by decide +kernel
theorem dX9_ruined_19 : decode cX9_ruined 19 = .ok (.iload_n 1, 1) := by decide +kernel
theorem dX9_ruined_20 : decode cX9_ruined 20 = .ok (.ineg, 1) := by decide +kernel
theorem dX9_ruined_21 : decode cX9_ruined 21 = .ok (.invokevirtual 185, 3) := by decide +kernel
theorem dX9_ruined_24 : decode cX9_ruined 24 = .ok (.goto 5, 3) := by decide +kernel
theorem dX9_ruined_27 : decode cX9_ruined 27 = .ok (.bipush (-2), 2) := by decide +kernel
theorem dX9_ruined_29 : decode cX9_ruined 29 = .ok (.ireturn, 1) := by decide +kernel
def f_X9_ruined (X : x_X) (v0 : Nat) (v1 : Int32) (μ : x_M) : Option (Int32 × x_M) :=
  (bd (f_X9_within X v1 (0 : Int32) (999 : Int32) μ) (fun (v3 : Int32) (μ4 : x_M) => (if v3 = 0 then (some ((-2 : Int32), μ4)) else (ck (x_kd X v0 = 9 + 1) (lt (μ4.2.1 v0 2) (fun (v5 : Nat) => (ck (x_kd X v0 = 9 + 1) (lt (μ4.2.1 v0 0) (fun (v6 : Nat) => (ck (x_kd X v5 = 2 + 1) (bd (f_X2_firstBelow X v5 v6 (-v1) μ4) (fun (v7 : Int32) (μ8 : x_M) => (some (v7, μ8))))))))))))))
set_option maxRecDepth 100000 in
theorem m_X9_ruined (hI : x_I X) (v0 : Nat) (v1 : Int32) (μ : x_M) : x_Met X x_Z0 l yX9_ruined cX9_ruined 2 (some .int) 7 [vR v0, vI v1] μ rkI (f_X9_ruined X v0 v1 μ) := by
  refine x_enter hI (by decide +kernel) (Nat.le_of_ble_eq_true rfl) (fun p e s m args below meth c hC hr hlk => ?_)
  unfold f_X9_ruined
  refine s_lv (lv' := [(0, vR v0), (1, vI v1)]) [0, 1] rfl ?_
  refine s_iload_n hC 1 dX9_ruined_0 rfl ?_
  refine s_iconst hC dX9_ruined_1 (v := 0) (by decide) ?_
  refine s_sipush hC dX9_ruined_2 (v := 999) (by decide) ?_
  refine s_callS hC (avs := [vI v1, vI (0 : Int32), vI (999 : Int32)]) (st := []) (nest := false) (m_X9_within hI v1 (0 : Int32) (999 : Int32) μ) dX9_ruined_5 qm_X9_56 qt_X9_within qc_X9 qd_X9_within qh_X9_within (by decide) (fun _ => Nat.le_of_ble_eq_true rfl) (Nat.le_of_ble_eq_true rfl) (fun v3 μ4 => ?_)
  refine s_if_eq hC dX9_ruined_8 (tgt := 27) (by decide) ?_ ?_
  · refine s_bipush hC dX9_ruined_27 (v := -2) (by decide) ?_
    exact s_iret hC hr hlk dX9_ruined_29
  refine s_aload_n hC 0 dX9_ruined_11 rfl ?_
  refine s_getR hC xc9 (by decide) rfl qf_X9_24 dX9_ruined_12 ?_
  refine s_ltR (fun v5 => ?_)
  refine s_aload_n hC 0 dX9_ruined_15 rfl ?_
  refine s_getR hC xc9 (by decide) rfl qf_X9_12 dX9_ruined_16 ?_
  refine s_ltR (fun v6 => ?_)
  refine s_iload_n hC 1 dX9_ruined_19 rfl ?_
  refine s_ineg hC dX9_ruined_20 ?_
  refine s_callV hC (x := v5) (avs := [vR v6, vI (-v1)]) (st := []) (nest := false) xc2 (m_X2_firstBelow hI v5 v6 (-v1) μ4) dX9_ruined_21 qm_X9_185 qi_X2_firstBelow qs_X2_firstBelow qc_X2 qd_X2_firstBelow qh_X2_firstBelow (by decide) (fun _ => Nat.le_of_ble_eq_true rfl) (Nat.le_of_ble_eq_true rfl) (fun v7 μ8 => ?_)
  refine s_goto hC dX9_ruined_24 (tgt := 29) (by decide) ?_
  exact s_iret hC hr hlk dX9_ruined_29
theorem dX9_enough_0 : decode cX9_enough 0 = .ok (.aload_n 0, 1) := by decide +kernel
theorem dX9_enough_1 : decode cX9_enough 1 = .ok (.getfield 12, 3) := by decide +kernel
theorem dX9_enough_4 : decode cX9_enough 4 = .ok (.iload_n 1, 1) := by decide +kernel
theorem dX9_enough_5 : decode cX9_enough 5 = .ok (.invokevirtual 82, 3) := by decide +kernel
theorem dX9_enough_8 : decode cX9_enough 8 = .ok (.ifnonnull 5, 3) := by decide +kernel
theorem dX9_enough_11 : decode cX9_enough 11 = .ok (.iconst (-1), 1) := by decide +kernel
theorem dX9_enough_12 : decode cX9_enough 12 = .ok (.ireturn, 1) := by decide +kernel
theorem dX9_enough_13 : decode cX9_enough 13 = .ok (.iload_n 2, 1) := by decide +kernel
theorem dX9_enough_14 : decode cX9_enough 14 = .ok (.sipush (-999), 3) := by decide +kernel
theorem dX9_enough_17 : decode cX9_enough 17 = .ok (.sipush 999, 3) := by decide +kernel
theorem dX9_enough_20 : decode cX9_enough 20 = .ok (.invokestatic 56, 3) := by decide +kernel
theorem dX9_enough_23 : decode cX9_enough 23 = .ok (.ifCond .eq 19, 3) := by decide +kernel
theorem dX9_enough_26 : decode cX9_enough 26 = .ok (.aload_n 0, 1) := by decide +kernel
theorem dX9_enough_27 : decode cX9_enough 27 = .ok (.getfield 24, 3) := by decide +kernel
theorem dX9_enough_30 : decode cX9_enough 30 = .ok (.aload_n 0, 1) := by decide +kernel
theorem dX9_enough_31 : decode cX9_enough 31 = .ok (.getfield 12, 3) := by decide +kernel
theorem dX9_enough_34 : decode cX9_enough 34 = .ok (.iload_n 1, 1) := by decide +kernel
theorem dX9_enough_35 : decode cX9_enough 35 = .ok (.iload_n 2, 1) := by decide +kernel
theorem dX9_enough_36 : decode cX9_enough 36 = .ok (.invokevirtual 192, 3) := by decide +kernel
theorem dX9_enough_39 : decode cX9_enough 39 = .ok (.goto 5, 3) := by decide +kernel
theorem dX9_enough_42 : decode cX9_enough 42 = .ok (.bipush (-2), 2) := by decide +kernel
theorem dX9_enough_44 : decode cX9_enough 44 = .ok (.ireturn, 1) := by decide +kernel
def f_X9_enough (X : x_X) (v0 : Nat) (v1 : Int32) (v2 : Int32) (μ : x_M) : Option (Int32 × x_M) :=
  (ck (x_kd X v0 = 9 + 1) (lt (μ.2.1 v0 0) (fun (v4 : Nat) => (ck (x_kd X v4 = 7 + 1) (bd (f_X7_find X v4 v1 μ) (fun (v5 : Nat) (μ6 : x_M) => (if v5 = 0 then (some ((-1 : Int32), μ6)) else (bd (f_X9_within X v2 (-999 : Int32) (999 : Int32) μ6) (fun (v7 : Int32) (μ8 : x_M) => (if v7 = 0 then (some ((-2 : Int32), μ8)) else (ck (x_kd X v0 = 9 + 1) (lt (μ8.2.1 v0 2) (fun (v9 : Nat) => (ck (x_kd X v0 = 9 + 1) (lt (μ8.2.1 v0 0) (fun (v10 : Nat) => (ck (x_kd X v9 = 2 + 1) (bd (f_X2_daysTillEnough X v9 v10 v1 v2 μ8) (fun (v11 : Int32) (μ12 : x_M) => (some (v11, μ12)))))))))))))))))))))
set_option maxRecDepth 100000 in
theorem m_X9_enough (hI : x_I X) (v0 : Nat) (v1 : Int32) (v2 : Int32) (μ : x_M) : x_Met X x_Z0 l yX9_enough cX9_enough 3 (some .int) 7 [vR v0, vI v1, vI v2] μ rkI (f_X9_enough X v0 v1 v2 μ) := by
  refine x_enter hI (by decide +kernel) (Nat.le_of_ble_eq_true rfl) (fun p e s m args below meth c hC hr hlk => ?_)
  unfold f_X9_enough
  refine s_lv (lv' := [(0, vR v0), (1, vI v1), (2, vI v2)]) [0, 1, 2] rfl ?_
  refine s_aload_n hC 0 dX9_enough_0 rfl ?_
  refine s_getR hC xc9 (by decide) rfl qf_X9_12 dX9_enough_1 ?_
  refine s_ltR (fun v4 => ?_)
  refine s_iload_n hC 1 dX9_enough_4 rfl ?_
  refine s_callV hC (x := v4) (avs := [vI v1]) (st := []) (nest := false) xc7 (m_X7_find hI v4 v1 μ) dX9_enough_5 qm_X9_82 qi_X7_find qs_X7_find qc_X7 qd_X7_find qh_X7_find (by decide) (fun _ => Nat.le_of_ble_eq_true rfl) (Nat.le_of_ble_eq_true rfl) (fun v5 μ6 => ?_)
  refine s_ifnonnull hC dX9_enough_8 (tgt := 13) (by decide) ?_ ?_
  · refine s_iload_n hC 2 dX9_enough_13 rfl ?_
    refine s_sipush hC dX9_enough_14 (v := -999) (by decide) ?_
    refine s_sipush hC dX9_enough_17 (v := 999) (by decide) ?_
    refine s_callS hC (avs := [vI v2, vI (-999 : Int32), vI (999 : Int32)]) (st := []) (nest := false) (m_X9_within hI v2 (-999 : Int32) (999 : Int32) μ6) dX9_enough_20 qm_X9_56 qt_X9_within qc_X9 qd_X9_within qh_X9_within (by decide) (fun _ => Nat.le_of_ble_eq_true rfl) (Nat.le_of_ble_eq_true rfl) (fun v7 μ8 => ?_)
    refine s_if_eq hC dX9_enough_23 (tgt := 42) (by decide) ?_ ?_
    · refine s_bipush hC dX9_enough_42 (v := -2) (by decide) ?_
      exact s_iret hC hr hlk dX9_enough_44
    refine s_aload_n hC 0 dX9_enough_26 rfl ?_
    refine s_getR hC xc9 (by decide) rfl qf_X9_24 dX9_enough_27 ?_
    refine s_ltR (fun v9 => ?_)
    refine s_aload_n hC 0 dX9_enough_30 rfl ?_
    refine s_getR hC xc9 (by decide) rfl qf_X9_12 dX9_enough_31 ?_
    refine s_ltR (fun v10 => ?_)
    refine s_iload_n hC 1 dX9_enough_34 rfl ?_
    refine s_iload_n hC 2 dX9_enough_35 rfl ?_
    refine s_callV hC (x := v9) (avs := [vR v10, vI v1, vI v2]) (st := []) (nest := false) xc2 (m_X2_daysTillEnough hI v9 v10 v1 v2 μ8) dX9_enough_36 qm_X9_192 qi_X2_daysTillEnough qs_X2_daysTillEnough qc_X2 qd_X2_daysTillEnough qh_X2_daysTillEnough (by decide) (fun _ => Nat.le_of_ble_eq_true rfl) (Nat.le_of_ble_eq_true rfl) (fun v11 μ12 => ?_)
    refine s_goto hC dX9_enough_39 (tgt := 44) (by decide) ?_
    exact s_iret hC hr hlk dX9_enough_44
  refine s_iconst hC dX9_enough_11 (v := -1) (by decide) ?_
  exact s_iret hC hr hlk dX9_enough_12
theorem dX9_share_0 : decode cX9_share 0 = .ok (.aload_n 0, 1) := by decide +kernel
theorem dX9_share_1 : decode cX9_share 1 = .ok (.getfield 12, 3) := by decide +kernel
theorem dX9_share_4 : decode cX9_share 4 = .ok (.iload_n 1, 1) := by decide +kernel
theorem dX9_share_5 : decode cX9_share 5 = .ok (.invokevirtual 82, 3) := by decide +kernel
theorem dX9_share_8 : decode cX9_share 8 = .ok (.ifnull 20, 3) := by decide +kernel
theorem dX9_share_11 : decode cX9_share 11 = .ok (.iload_n 2, 1) := by decide +kernel
theorem dX9_share_12 : decode cX9_share 12 = .ok (.iconst 1, 1) := by decide +kernel
theorem dX9_share_13 : decode cX9_share 13 = .ok (.bipush 40, 2) := by decide +kernel
theorem dX9_share_15 : decode cX9_share 15 = .ok (.invokestatic 56, 3) := by decide +kernel
theorem dX9_share_18 : decode cX9_share 18 = .ok (.ifCond .eq 10, 3) := by decide +kernel
theorem dX9_share_21 : decode cX9_share 21 = .ok (.iload_n 3, 1) := by decide +kernel
theorem dX9_share_22 : decode cX9_share 22 = .ok (.invokestatic 206, 3) := by decide +kernel
theorem dX9_share_25 : decode cX9_share 25 = .ok (.ifCond .ne 7, 3) := by decide +kernel
theorem dX9_share_28 : decode cX9_share 28 = .ok (.ldc2_w 209, 3) := by decide +kernel
theorem dX9_share_31 : decode cX9_share 31 = .ok (.lreturn, 1) := by decide +kernel
theorem dX9_share_32 : decode cX9_share 32 = .ok (.aload_n 0, 1) := by decide +kernel
theorem dX9_share_33 : decode cX9_share 33 = .ok (.getfield 24, 3) := by decide +kernel
theorem dX9_share_36 : decode cX9_share 36 = .ok (.aload_n 0, 1) := by decide +kernel
theorem dX9_share_37 : decode cX9_share 37 = .ok (.getfield 12, 3) := by decide +kernel
theorem dX9_share_40 : decode cX9_share 40 = .ok (.iload_n 1, 1) := by decide +kernel
theorem dX9_share_41 : decode cX9_share 41 = .ok (.iload_n 2, 1) := by decide +kernel
theorem dX9_share_42 : decode cX9_share 42 = .ok (.iload_n 3, 1) := by decide +kernel
theorem dX9_share_43 : decode cX9_share 43 = .ok (.invokevirtual 211, 3) := by decide +kernel
theorem dX9_share_46 : decode cX9_share 46 = .ok (.lreturn, 1) := by decide +kernel
def f_X9_share (X : x_X) (v0 : Nat) (v1 : Int32) (v2 : Int32) (v3 : Int32) (μ : x_M) : Option (Int64 × x_M) :=
  (ck (x_kd X v0 = 9 + 1) (lt (μ.2.1 v0 0) (fun (v5 : Nat) => (ck (x_kd X v5 = 7 + 1) (bd (f_X7_find X v5 v1 μ) (fun (v6 : Nat) (μ7 : x_M) => (if v6 = 0 then (some ((-9223372036854775808 : Int64), μ7)) else (bd (f_X9_within X v2 (1 : Int32) (40 : Int32) μ7) (fun (v8 : Int32) (μ9 : x_M) => (if v8 = 0 then (some ((-9223372036854775808 : Int64), μ9)) else (bd (f_X9_isPart X v3 μ9) (fun (v10 : Int32) (μ11 : x_M) => (if v10 = 0 then (some ((-9223372036854775808 : Int64), μ11)) else (ck (x_kd X v0 = 9 + 1) (lt (μ11.2.1 v0 2) (fun (v12 : Nat) => (ck (x_kd X v0 = 9 + 1) (lt (μ11.2.1 v0 0) (fun (v13 : Nat) => (ck (x_kd X v12 = 2 + 1) (bd (f_X2_sunShare X v12 v13 v1 v2 v3 μ11) (fun (v14 : Int64) (μ15 : x_M) => (some (v14, μ15))))))))))))))))))))))))
set_option maxRecDepth 100000 in
theorem m_X9_share (hI : x_I X) (v0 : Nat) (v1 : Int32) (v2 : Int32) (v3 : Int32) (μ : x_M) : x_Met X x_Z0 l yX9_share cX9_share 4 (some .long) 7 [vR v0, vI v1, vI v2, vI v3] μ rkJ (f_X9_share X v0 v1 v2 v3 μ) := by
  refine x_enter hI (by decide +kernel) (Nat.le_of_ble_eq_true rfl) (fun p e s m args below meth c hC hr hlk => ?_)
  unfold f_X9_share
  refine s_lv (lv' := [(0, vR v0), (1, vI v1), (2, vI v2), (3, vI v3)]) [0, 1, 2, 3] rfl ?_
  refine s_aload_n hC 0 dX9_share_0 rfl ?_
  refine s_getR hC xc9 (by decide) rfl qf_X9_12 dX9_share_1 ?_
  refine s_ltR (fun v5 => ?_)
  refine s_iload_n hC 1 dX9_share_4 rfl ?_
  refine s_callV hC (x := v5) (avs := [vI v1]) (st := []) (nest := false) xc7 (m_X7_find hI v5 v1 μ) dX9_share_5 qm_X9_82 qi_X7_find qs_X7_find qc_X7 qd_X7_find qh_X7_find (by decide) (fun _ => Nat.le_of_ble_eq_true rfl) (Nat.le_of_ble_eq_true rfl) (fun v6 μ7 => ?_)
  refine s_ifnull hC dX9_share_8 (tgt := 28) (by decide) ?_ ?_
  · refine s_ldc2 hC dX9_share_28 qk_X9_209 ?_
    exact s_lret hC hr hlk dX9_share_31
  refine s_iload_n hC 2 dX9_share_11 rfl ?_
  refine s_iconst hC dX9_share_12 (v := 1) (by decide) ?_
  refine s_bipush hC dX9_share_13 (v := 40) (by decide) ?_
  refine s_callS hC (avs := [vI v2, vI (1 : Int32), vI (40 : Int32)]) (st := []) (nest := false) (m_X9_within hI v2 (1 : Int32) (40 : Int32) μ7) dX9_share_15 qm_X9_56 qt_X9_within qc_X9 qd_X9_within qh_X9_within (by decide) (fun _ => Nat.le_of_ble_eq_true rfl) (Nat.le_of_ble_eq_true rfl) (fun v8 μ9 => ?_)
  refine s_if_eq hC dX9_share_18 (tgt := 28) (by decide) ?_ ?_
  · refine s_ldc2 hC dX9_share_28 qk_X9_209 ?_
    exact s_lret hC hr hlk dX9_share_31
  refine s_iload_n hC 3 dX9_share_21 rfl ?_
  refine s_callS hC (avs := [vI v3]) (st := []) (nest := false) (m_X9_isPart hI v3 μ9) dX9_share_22 qm_X9_206 qt_X9_isPart qc_X9 qd_X9_isPart qh_X9_isPart (by decide) (fun _ => Nat.le_of_ble_eq_true rfl) (Nat.le_of_ble_eq_true rfl) (fun v10 μ11 => ?_)
  refine s_if_ne hC dX9_share_25 (tgt := 32) (by decide) ?_ ?_
  · refine s_aload_n hC 0 dX9_share_32 rfl ?_
    refine s_getR hC xc9 (by decide) rfl qf_X9_24 dX9_share_33 ?_
    refine s_ltR (fun v12 => ?_)
    refine s_aload_n hC 0 dX9_share_36 rfl ?_
    refine s_getR hC xc9 (by decide) rfl qf_X9_12 dX9_share_37 ?_
    refine s_ltR (fun v13 => ?_)
    refine s_iload_n hC 1 dX9_share_40 rfl ?_
    refine s_iload_n hC 2 dX9_share_41 rfl ?_
    refine s_iload_n hC 3 dX9_share_42 rfl ?_
    refine s_callV hC (x := v12) (avs := [vR v13, vI v1, vI v2, vI v3]) (st := []) (nest := false) xc2 (m_X2_sunShare hI v12 v13 v1 v2 v3 μ11) dX9_share_43 qm_X9_211 qi_X2_sunShare qs_X2_sunShare qc_X2 qd_X2_sunShare qh_X2_sunShare (by decide) (fun _ => Nat.le_of_ble_eq_true rfl) (Nat.le_of_ble_eq_true rfl) (fun v14 μ15 => ?_)
    exact s_lret hC hr hlk dX9_share_46
  refine s_ldc2 hC dX9_share_28 qk_X9_209 ?_
  exact s_lret hC hr hlk dX9_share_31
theorem dX9_richest_0 : decode cX9_richest 0 = .ok (.iload_n 1, 1) := by decide +kernel
theorem dX9_richest_1 : decode cX9_richest 1 = .ok (.iconst 0, 1) := by decide +kernel
theorem dX9_richest_2 : decode cX9_richest 2 = .ok (.bipush 40, 2) := by decide +kernel
theorem dX9_richest_4 : decode cX9_richest 4 = .ok (.invokestatic 56, 3) := by decide +kernel
theorem dX9_richest_7 : decode cX9_richest 7 = .ok (.ifCond .eq 21, 3) := by decide +kernel
theorem dX9_richest_10 : decode cX9_richest 10 = .ok (.aload_n 0, 1) := by decide +kernel
theorem dX9_richest_11 : decode cX9_richest 11 = .ok (.getfield 24, 3) := by decide +kernel
theorem dX9_richest_14 : decode cX9_richest 14 = .ok (.aload_n 0, 1) := by decide +kernel
theorem dX9_richest_15 : decode cX9_richest 15 = .ok (.getfield 12, 3) := by decide +kernel
theorem dX9_richest_18 : decode cX9_richest 18 = .ok (.iload_n 1, 1) := by decide +kernel
theorem dX9_richest_19 : decode cX9_richest 19 = .ok (.invokevirtual 170, 3) := by decide +kernel
theorem dX9_richest_22 : decode cX9_richest 22 = .ok (.invokevirtual 215, 3) := by decide +kernel
theorem dX9_richest_25 : decode cX9_richest 25 = .ok (.goto 5, 3) := by decide +kernel
theorem dX9_richest_28 : decode cX9_richest 28 = .ok (.bipush (-2), 2) := by decide +kernel
theorem dX9_richest_30 : decode cX9_richest 30 = .ok (.ireturn, 1) := by decide +kernel
def f_X9_richest (X : x_X) (v0 : Nat) (v1 : Int32) (μ : x_M) : Option (Int32 × x_M) :=
  (bd (f_X9_within X v1 (0 : Int32) (40 : Int32) μ) (fun (v3 : Int32) (μ4 : x_M) => (if v3 = 0 then (some ((-2 : Int32), μ4)) else (ck (x_kd X v0 = 9 + 1) (lt (μ4.2.1 v0 2) (fun (v5 : Nat) => (ck (x_kd X v0 = 9 + 1) (lt (μ4.2.1 v0 0) (fun (v6 : Nat) => (ck (x_kd X v5 = 2 + 1) (bd (f_X2_after X v5 v6 v1 μ4) (fun (v7 : Nat) (μ8 : x_M) => (ck (x_kd X v7 = 7 + 1) (bd (f_X7_richestNow X v7 μ8) (fun (v9 : Int32) (μ10 : x_M) => (some (v9, μ10)))))))))))))))))
set_option maxRecDepth 100000 in
theorem m_X9_richest (hI : x_I X) (v0 : Nat) (v1 : Int32) (μ : x_M) : x_Met X x_Z0 l yX9_richest cX9_richest 2 (some .int) 7 [vR v0, vI v1] μ rkI (f_X9_richest X v0 v1 μ) := by
  refine x_enter hI (by decide +kernel) (Nat.le_of_ble_eq_true rfl) (fun p e s m args below meth c hC hr hlk => ?_)
  unfold f_X9_richest
  refine s_lv (lv' := [(0, vR v0), (1, vI v1)]) [0, 1] rfl ?_
  refine s_iload_n hC 1 dX9_richest_0 rfl ?_
  refine s_iconst hC dX9_richest_1 (v := 0) (by decide) ?_
  refine s_bipush hC dX9_richest_2 (v := 40) (by decide) ?_
  refine s_callS hC (avs := [vI v1, vI (0 : Int32), vI (40 : Int32)]) (st := []) (nest := false) (m_X9_within hI v1 (0 : Int32) (40 : Int32) μ) dX9_richest_4 qm_X9_56 qt_X9_within qc_X9 qd_X9_within qh_X9_within (by decide) (fun _ => Nat.le_of_ble_eq_true rfl) (Nat.le_of_ble_eq_true rfl) (fun v3 μ4 => ?_)
  refine s_if_eq hC dX9_richest_7 (tgt := 28) (by decide) ?_ ?_
  · refine s_bipush hC dX9_richest_28 (v := -2) (by decide) ?_
    exact s_iret hC hr hlk dX9_richest_30
  refine s_aload_n hC 0 dX9_richest_10 rfl ?_
  refine s_getR hC xc9 (by decide) rfl qf_X9_24 dX9_richest_11 ?_
  refine s_ltR (fun v5 => ?_)
  refine s_aload_n hC 0 dX9_richest_14 rfl ?_
  refine s_getR hC xc9 (by decide) rfl qf_X9_12 dX9_richest_15 ?_
  refine s_ltR (fun v6 => ?_)
  refine s_iload_n hC 1 dX9_richest_18 rfl ?_
  refine s_callV hC (x := v5) (avs := [vR v6, vI v1]) (st := []) (nest := false) xc2 (m_X2_after hI v5 v6 v1 μ4) dX9_richest_19 qm_X9_170 qi_X2_after qs_X2_after qc_X2 qd_X2_after qh_X2_after (by decide) (fun _ => Nat.le_of_ble_eq_true rfl) (Nat.le_of_ble_eq_true rfl) (fun v7 μ8 => ?_)
  refine s_callV hC (x := v7) (avs := []) (st := []) (nest := false) xc7 (m_X7_richestNow hI v7 μ8) dX9_richest_22 qm_X9_215 qi_X7_richestNow qs_X7_richestNow qc_X7 qd_X7_richestNow qh_X7_richestNow (by decide) (fun _ => Nat.le_of_ble_eq_true rfl) (Nat.le_of_ble_eq_true rfl) (fun v9 μ10 => ?_)
  refine s_goto hC dX9_richest_25 (tgt := 30) (by decide) ?_
  exact s_iret hC hr hlk dX9_richest_30
theorem dX9_mean_0 : decode cX9_mean 0 = .ok (.iload_n 1, 1) := by decide +kernel
theorem dX9_mean_1 : decode cX9_mean 1 = .ok (.iconst 1, 1) := by decide +kernel
theorem dX9_mean_2 : decode cX9_mean 2 = .ok (.bipush 40, 2) := by decide +kernel
theorem dX9_mean_4 : decode cX9_mean 4 = .ok (.invokestatic 56, 3) := by decide +kernel
theorem dX9_mean_7 : decode cX9_mean 7 = .ok (.ifCond .eq 26, 3) := by decide +kernel
theorem dX9_mean_10 : decode cX9_mean 10 = .ok (.iload_n 2, 1) := by decide +kernel
theorem dX9_mean_11 : decode cX9_mean 11 = .ok (.invokestatic 206, 3) := by decide +kernel
theorem dX9_mean_14 : decode cX9_mean 14 = .ok (.ifCond .eq 19, 3) := by decide +kernel
theorem dX9_mean_17 : decode cX9_mean 17 = .ok (.aload_n 0, 1) := by decide +kernel
theorem dX9_mean_18 : decode cX9_mean 18 = .ok (.getfield 24, 3) := by decide +kernel
theorem dX9_mean_21 : decode cX9_mean 21 = .ok (.aload_n 0, 1) := by decide +kernel
theorem dX9_mean_22 : decode cX9_mean 22 = .ok (.getfield 12, 3) := by decide +kernel
theorem dX9_mean_25 : decode cX9_mean 25 = .ok (.iload_n 1, 1) := by decide +kernel
theorem dX9_mean_26 : decode cX9_mean 26 = .ok (.iload_n 2, 1) := by decide +kernel
theorem dX9_mean_27 : decode cX9_mean 27 = .ok (.invokevirtual 239, 3) := by decide +kernel
theorem dX9_mean_30 : decode cX9_mean 30 = .ok (.goto 6, 3) := by decide +kernel
theorem dX9_mean_33 : decode cX9_mean 33 = .ok (.ldc2_w 209, 3) := by decide +kernel
theorem dX9_mean_36 : decode cX9_mean 36 = .ok (.lreturn, 1) := by decide +kernel
def f_X9_mean (X : x_X) (v0 : Nat) (v1 : Int32) (v2 : Int32) (μ : x_M) : Option (Int64 × x_M) :=
  (bd (f_X9_within X v1 (1 : Int32) (40 : Int32) μ) (fun (v4 : Int32) (μ5 : x_M) => (if v4 = 0 then (some ((-9223372036854775808 : Int64), μ5)) else (bd (f_X9_isPart X v2 μ5) (fun (v6 : Int32) (μ7 : x_M) => (if v6 = 0 then (some ((-9223372036854775808 : Int64), μ7)) else (ck (x_kd X v0 = 9 + 1) (lt (μ7.2.1 v0 2) (fun (v8 : Nat) => (ck (x_kd X v0 = 9 + 1) (lt (μ7.2.1 v0 0) (fun (v9 : Nat) => (ck (x_kd X v8 = 2 + 1) (bd (f_X2_meanLevel X v8 v9 v1 v2 μ7) (fun (v10 : Int64) (μ11 : x_M) => (some (v10, μ11)))))))))))))))))
set_option maxRecDepth 100000 in
theorem m_X9_mean (hI : x_I X) (v0 : Nat) (v1 : Int32) (v2 : Int32) (μ : x_M) : x_Met X x_Z0 l yX9_mean cX9_mean 3 (some .long) 7 [vR v0, vI v1, vI v2] μ rkJ (f_X9_mean X v0 v1 v2 μ) := by
  refine x_enter hI (by decide +kernel) (Nat.le_of_ble_eq_true rfl) (fun p e s m args below meth c hC hr hlk => ?_)
  unfold f_X9_mean
  refine s_lv (lv' := [(0, vR v0), (1, vI v1), (2, vI v2)]) [0, 1, 2] rfl ?_
  refine s_iload_n hC 1 dX9_mean_0 rfl ?_
  refine s_iconst hC dX9_mean_1 (v := 1) (by decide) ?_
  refine s_bipush hC dX9_mean_2 (v := 40) (by decide) ?_
  refine s_callS hC (avs := [vI v1, vI (1 : Int32), vI (40 : Int32)]) (st := []) (nest := false) (m_X9_within hI v1 (1 : Int32) (40 : Int32) μ) dX9_mean_4 qm_X9_56 qt_X9_within qc_X9 qd_X9_within qh_X9_within (by decide) (fun _ => Nat.le_of_ble_eq_true rfl) (Nat.le_of_ble_eq_true rfl) (fun v4 μ5 => ?_)
  refine s_if_eq hC dX9_mean_7 (tgt := 33) (by decide) ?_ ?_
  · refine s_ldc2 hC dX9_mean_33 qk_X9_209 ?_
    exact s_lret hC hr hlk dX9_mean_36
  refine s_iload_n hC 2 dX9_mean_10 rfl ?_
  refine s_callS hC (avs := [vI v2]) (st := []) (nest := false) (m_X9_isPart hI v2 μ5) dX9_mean_11 qm_X9_206 qt_X9_isPart qc_X9 qd_X9_isPart qh_X9_isPart (by decide) (fun _ => Nat.le_of_ble_eq_true rfl) (Nat.le_of_ble_eq_true rfl) (fun v6 μ7 => ?_)
  refine s_if_eq hC dX9_mean_14 (tgt := 33) (by decide) ?_ ?_
  · refine s_ldc2 hC dX9_mean_33 qk_X9_209 ?_
    exact s_lret hC hr hlk dX9_mean_36
  refine s_aload_n hC 0 dX9_mean_17 rfl ?_
  refine s_getR hC xc9 (by decide) rfl qf_X9_24 dX9_mean_18 ?_
  refine s_ltR (fun v8 => ?_)
  refine s_aload_n hC 0 dX9_mean_21 rfl ?_
  refine s_getR hC xc9 (by decide) rfl qf_X9_12 dX9_mean_22 ?_
  refine s_ltR (fun v9 => ?_)
  refine s_iload_n hC 1 dX9_mean_25 rfl ?_
  refine s_iload_n hC 2 dX9_mean_26 rfl ?_
  refine s_callV hC (x := v8) (avs := [vR v9, vI v1, vI v2]) (st := []) (nest := false) xc2 (m_X2_meanLevel hI v8 v9 v1 v2 μ7) dX9_mean_27 qm_X9_239 qi_X2_meanLevel qs_X2_meanLevel qc_X2 qd_X2_meanLevel qh_X2_meanLevel (by decide) (fun _ => Nat.le_of_ble_eq_true rfl) (Nat.le_of_ble_eq_true rfl) (fun v10 μ11 => ?_)
  refine s_goto hC dX9_mean_30 (tgt := 36) (by decide) ?_
  exact s_lret hC hr hlk dX9_mean_36
theorem dX9_planned_0 : decode cX9_planned 0 = .ok (.iload_n 1, 1) := by decide +kernel
theorem dX9_planned_1 : decode cX9_planned 1 = .ok (.iconst 0, 1) := by decide +kernel
theorem dX9_planned_2 : decode cX9_planned 2 = .ok (.iconst 1, 1) := by decide +kernel
theorem dX9_planned_3 : decode cX9_planned 3 = .ok (.invokestatic 56, 3) := by decide +kernel
theorem dX9_planned_6 : decode cX9_planned 6 = .ok (.ifCond .ne 5, 3) := by decide +kernel
theorem dX9_planned_9 : decode cX9_planned 9 = .ok (.iconst (-1), 1) := by decide +kernel
theorem dX9_planned_10 : decode cX9_planned 10 = .ok (.ireturn, 1) := by decide +kernel
theorem dX9_planned_11 : decode cX9_planned 11 = .ok (.aload_n 0, 1) := by decide +kernel
theorem dX9_planned_12 : decode cX9_planned 12 = .ok (.getfield 24, 3) := by decide +kernel
theorem dX9_planned_15 : decode cX9_planned 15 = .ok (.aload_n 0, 1) := by decide +kernel
theorem dX9_planned_16 : decode cX9_planned 16 = .ok (.getfield 12, 3) := by decide +kernel
theorem dX9_planned_19 : decode cX9_planned 19 = .ok (.invokevirtual 245, 3) := by decide +kernel
theorem dX9_planned_22 : decode cX9_planned 22 = .ok (.astore_n 2, 1) := by decide +kernel
theorem dX9_planned_23 : decode cX9_planned 23 = .ok (.iload_n 1, 1) := by decide +kernel
theorem dX9_planned_24 : decode cX9_planned 24 = .ok (.ifCond .ne 10, 3) := by decide +kernel
theorem dX9_planned_27 : decode cX9_planned 27 = .ok (.aload_n 2, 1) := by decide +kernel
theorem dX9_planned_28 : decode cX9_planned 28 = .ok (.getfield 136, 3) := by decide +kernel
theorem dX9_planned_31 : decode cX9_planned 31 = .ok (.goto 7, 3) := by decide +kernel
theorem dX9_planned_34 : decode cX9_planned 34 = .ok (.aload_n 2, 1) := by decide +kernel
theorem dX9_planned_35 : decode cX9_planned 35 = .ok (.invokevirtual 108, 3) := by decide +kernel
theorem dX9_planned_38 : decode cX9_planned 38 = .ok (.ireturn, 1) := by decide +kernel
def f_X9_planned (X : x_X) (v0 : Nat) (v1 : Int32) (μ : x_M) : Option (Int32 × x_M) :=
  (bd (f_X9_within X v1 (0 : Int32) (1 : Int32) μ) (fun (v3 : Int32) (μ4 : x_M) => (if v3 = 0 then (some ((-1 : Int32), μ4)) else (ck (x_kd X v0 = 9 + 1) (lt (μ4.2.1 v0 2) (fun (v5 : Nat) => (ck (x_kd X v0 = 9 + 1) (lt (μ4.2.1 v0 0) (fun (v6 : Nat) => (ck (x_kd X v5 = 2 + 1) (bd (f_X2_afterPlan X v5 v6 μ4) (fun (v7 : Nat) (μ8 : x_M) => (if v1 = 0 then (ck (x_kd X v7 = 7 + 1) (some ((μ8.1 v7 7), μ8))) else (ck (x_kd X v7 = 7 + 1) (bd (f_X7_level X v7 μ8) (fun (v9 : Int32) (μ10 : x_M) => (some (v9, μ10))))))))))))))))))
set_option maxRecDepth 100000 in
theorem m_X9_planned (hI : x_I X) (v0 : Nat) (v1 : Int32) (μ : x_M) : x_Met X x_Z0 l yX9_planned cX9_planned 3 (some .int) 7 [vR v0, vI v1] μ rkI (f_X9_planned X v0 v1 μ) := by
  refine x_enter hI (by decide +kernel) (Nat.le_of_ble_eq_true rfl) (fun p e s m args below meth c hC hr hlk => ?_)
  unfold f_X9_planned
  refine s_lv (lv' := [(0, vR v0), (1, vI v1)]) [0, 1] rfl ?_
  refine s_iload_n hC 1 dX9_planned_0 rfl ?_
  refine s_iconst hC dX9_planned_1 (v := 0) (by decide) ?_
  refine s_iconst hC dX9_planned_2 (v := 1) (by decide) ?_
  refine s_callS hC (avs := [vI v1, vI (0 : Int32), vI (1 : Int32)]) (st := []) (nest := false) (m_X9_within hI v1 (0 : Int32) (1 : Int32) μ) dX9_planned_3 qm_X9_56 qt_X9_within qc_X9 qd_X9_within qh_X9_within (by decide) (fun _ => Nat.le_of_ble_eq_true rfl) (Nat.le_of_ble_eq_true rfl) (fun v3 μ4 => ?_)
  refine s_if_ne hC dX9_planned_6 (tgt := 11) (by decide) ?_ ?_
  · refine s_aload_n hC 0 dX9_planned_11 rfl ?_
    refine s_getR hC xc9 (by decide) rfl qf_X9_24 dX9_planned_12 ?_
    refine s_ltR (fun v5 => ?_)
    refine s_aload_n hC 0 dX9_planned_15 rfl ?_
    refine s_getR hC xc9 (by decide) rfl qf_X9_12 dX9_planned_16 ?_
    refine s_ltR (fun v6 => ?_)
    refine s_callV hC (x := v5) (avs := [vR v6]) (st := []) (nest := false) xc2 (m_X2_afterPlan hI v5 v6 μ4) dX9_planned_19 qm_X9_245 qi_X2_afterPlan qs_X2_afterPlan qc_X2 qd_X2_afterPlan qh_X2_afterPlan (by decide) (fun _ => Nat.le_of_ble_eq_true rfl) (Nat.le_of_ble_eq_true rfl) (fun v7 μ8 => ?_)
    refine s_astore_n hC dX9_planned_22 (by decide) (lv' := [(2, vR v7), (0, vR v0), (1, vI v1)]) rfl ?_
    refine s_iload_n hC 2 dX9_planned_23 rfl ?_
    refine s_if_ne hC dX9_planned_24 (tgt := 34) (by decide) ?_ ?_
    · refine s_aload_n hC 0 dX9_planned_34 rfl ?_
      refine s_callV hC (x := v7) (avs := []) (st := []) (nest := false) xc7 (m_X7_level hI v7 μ8) dX9_planned_35 qm_X9_108 qi_X7_level qs_X7_level qc_X7 qd_X7_level qh_X7_level (by decide) (fun _ => Nat.le_of_ble_eq_true rfl) (Nat.le_of_ble_eq_true rfl) (fun v9 μ10 => ?_)
      exact s_iret hC hr hlk dX9_planned_38
    refine s_aload_n hC 0 dX9_planned_27 rfl ?_
    refine s_getI hC xc7 (by decide) rfl qf_X9_136 dX9_planned_28 ?_
    refine s_goto hC dX9_planned_31 (tgt := 38) (by decide) ?_
    exact s_iret hC hr hlk dX9_planned_38
  refine s_iconst hC dX9_planned_9 (v := -1) (by decide) ?_
  exact s_iret hC hr hlk dX9_planned_10
theorem dX9_may_0 : decode cX9_may 0 = .ok (.aload_n 0, 1) := by decide +kernel
theorem dX9_may_1 : decode cX9_may 1 = .ok (.getfield 12, 3) := by decide +kernel
theorem dX9_may_4 : decode cX9_may 4 = .ok (.iload_n 1, 1) := by decide +kernel
theorem dX9_may_5 : decode cX9_may 5 = .ok (.invokevirtual 82, 3) := by decide +kernel
theorem dX9_may_8 : decode cX9_may 8 = .ok (.ifnonnull 7, 3) := by decide +kernel
theorem dX9_may_11 : decode cX9_may 11 = .ok (.sipush (-10001), 3) := by decide +kernel
theorem dX9_may_14 : decode cX9_may 14 = .ok (.ireturn, 1) := by decide +kernel
theorem dX9_may_15 : decode cX9_may 15 = .ok (.iload_n 2, 1) := by decide +kernel
theorem dX9_may_16 : decode cX9_may 16 = .ok (.iconst 1, 1) := by decide +kernel
theorem dX9_may_17 : decode cX9_may 17 = .ok (.bipush 12, 2) := by decide +kernel
theorem dX9_may_19 : decode cX9_may 19 = .ok (.invokestatic 56, 3) := by decide +kernel
theorem dX9_may_22 : decode cX9_may 22 = .ok (.ifCond .eq 19, 3) := by decide +kernel
theorem dX9_may_25 : decode cX9_may 25 = .ok (.aload_n 0, 1) := by decide +kernel
theorem dX9_may_26 : decode cX9_may 26 = .ok (.getfield 24, 3) := by decide +kernel
theorem dX9_may_29 : decode cX9_may 29 = .ok (.aload_n 0, 1) := by decide +kernel
theorem dX9_may_30 : decode cX9_may 30 = .ok (.getfield 12, 3) := by decide +kernel
theorem dX9_may_33 : decode cX9_may 33 = .ok (.iload_n 1, 1) := by decide +kernel
theorem dX9_may_34 : decode cX9_may 34 = .ok (.iload_n 2, 1) := by decide +kernel
theorem dX9_may_35 : decode cX9_may 35 = .ok (.invokevirtual 188, 3) := by decide +kernel
theorem dX9_may_38 : decode cX9_may 38 = .ok (.goto 6, 3) := by decide +kernel
theorem dX9_may_41 : decode cX9_may 41 = .ok (.sipush (-10002), 3) := by decide +kernel
theorem dX9_may_44 : decode cX9_may 44 = .ok (.ireturn, 1) := by decide +kernel
def f_X9_may (X : x_X) (v0 : Nat) (v1 : Int32) (v2 : Int32) (μ : x_M) : Option (Int32 × x_M) :=
  (ck (x_kd X v0 = 9 + 1) (lt (μ.2.1 v0 0) (fun (v4 : Nat) => (ck (x_kd X v4 = 7 + 1) (bd (f_X7_find X v4 v1 μ) (fun (v5 : Nat) (μ6 : x_M) => (if v5 = 0 then (some ((-10001 : Int32), μ6)) else (bd (f_X9_within X v2 (1 : Int32) (12 : Int32) μ6) (fun (v7 : Int32) (μ8 : x_M) => (if v7 = 0 then (some ((-10002 : Int32), μ8)) else (ck (x_kd X v0 = 9 + 1) (lt (μ8.2.1 v0 2) (fun (v9 : Nat) => (ck (x_kd X v0 = 9 + 1) (lt (μ8.2.1 v0 0) (fun (v10 : Nat) => (ck (x_kd X v9 = 2 + 1) (bd (f_X2_leastDaily X v9 v10 v1 v2 μ8) (fun (v11 : Int32) (μ12 : x_M) => (some (v11, μ12)))))))))))))))))))))
set_option maxRecDepth 100000 in
theorem m_X9_may (hI : x_I X) (v0 : Nat) (v1 : Int32) (v2 : Int32) (μ : x_M) : x_Met X x_Z0 l yX9_may cX9_may 3 (some .int) 8 [vR v0, vI v1, vI v2] μ rkI (f_X9_may X v0 v1 v2 μ) := by
  refine x_enter hI (by decide +kernel) (Nat.le_of_ble_eq_true rfl) (fun p e s m args below meth c hC hr hlk => ?_)
  unfold f_X9_may
  refine s_lv (lv' := [(0, vR v0), (1, vI v1), (2, vI v2)]) [0, 1, 2] rfl ?_
  refine s_aload_n hC 0 dX9_may_0 rfl ?_
  refine s_getR hC xc9 (by decide) rfl qf_X9_12 dX9_may_1 ?_
  refine s_ltR (fun v4 => ?_)
  refine s_iload_n hC 1 dX9_may_4 rfl ?_
  refine s_callV hC (x := v4) (avs := [vI v1]) (st := []) (nest := false) xc7 (m_X7_find hI v4 v1 μ) dX9_may_5 qm_X9_82 qi_X7_find qs_X7_find qc_X7 qd_X7_find qh_X7_find (by decide) (fun _ => Nat.le_of_ble_eq_true rfl) (Nat.le_of_ble_eq_true rfl) (fun v5 μ6 => ?_)
  refine s_ifnonnull hC dX9_may_8 (tgt := 15) (by decide) ?_ ?_
  · refine s_iload_n hC 2 dX9_may_15 rfl ?_
    refine s_iconst hC dX9_may_16 (v := 1) (by decide) ?_
    refine s_bipush hC dX9_may_17 (v := 12) (by decide) ?_
    refine s_callS hC (avs := [vI v2, vI (1 : Int32), vI (12 : Int32)]) (st := []) (nest := false) (m_X9_within hI v2 (1 : Int32) (12 : Int32) μ6) dX9_may_19 qm_X9_56 qt_X9_within qc_X9 qd_X9_within qh_X9_within (by decide) (fun _ => Nat.le_of_ble_eq_true rfl) (Nat.le_of_ble_eq_true rfl) (fun v7 μ8 => ?_)
    refine s_if_eq hC dX9_may_22 (tgt := 41) (by decide) ?_ ?_
    · refine s_sipush hC dX9_may_41 (v := -10002) (by decide) ?_
      exact s_iret hC hr hlk dX9_may_44
    refine s_aload_n hC 0 dX9_may_25 rfl ?_
    refine s_getR hC xc9 (by decide) rfl qf_X9_24 dX9_may_26 ?_
    refine s_ltR (fun v9 => ?_)
    refine s_aload_n hC 0 dX9_may_29 rfl ?_
    refine s_getR hC xc9 (by decide) rfl qf_X9_12 dX9_may_30 ?_
    refine s_ltR (fun v10 => ?_)
    refine s_iload_n hC 1 dX9_may_33 rfl ?_
    refine s_iload_n hC 2 dX9_may_34 rfl ?_
    refine s_callV hC (x := v9) (avs := [vR v10, vI v1, vI v2]) (st := []) (nest := false) xc2 (m_X2_leastDaily hI v9 v10 v1 v2 μ8) dX9_may_35 qm_X9_188 qi_X2_leastDaily qs_X2_leastDaily qc_X2 qd_X2_leastDaily qh_X2_leastDaily (by decide) (fun _ => Nat.le_of_ble_eq_true rfl) (Nat.le_of_ble_eq_true rfl) (fun v11 μ12 => ?_)
    refine s_goto hC dX9_may_38 (tgt := 44) (by decide) ?_
    exact s_iret hC hr hlk dX9_may_44
  refine s_sipush hC dX9_may_11 (v := -10001) (by decide) ?_
  exact s_iret hC hr hlk dX9_may_14
theorem dX9_without_0 : decode cX9_without 0 = .ok (.aload_n 0, 1) := by decide +kernel
theorem dX9_without_1 : decode cX9_without 1 = .ok (.getfield 12, 3) := by decide +kernel
theorem dX9_without_4 : decode cX9_without 4 = .ok (.iload_n 1, 1) := by decide +kernel
theorem dX9_without_5 : decode cX9_without 5 = .ok (.invokevirtual 82, 3) := by decide +kernel
theorem dX9_without_8 : decode cX9_without 8 = .ok (.ifnonnull 6, 3) := by decide +kernel
theorem dX9_without_11 : decode cX9_without 11 = .ok (.ldc 198, 2) := by decide +kernel
theorem dX9_without_13 : decode cX9_without 13 = .ok (.ireturn, 1) := by decide +kernel
theorem dX9_without_14 : decode cX9_without 14 = .ok (.iload_n 2, 1) := by decide +kernel
theorem dX9_without_15 : decode cX9_without 15 = .ok (.iconst 1, 1) := by decide +kernel
theorem dX9_without_16 : decode cX9_without 16 = .ok (.bipush 40, 2) := by decide +kernel
theorem dX9_without_18 : decode cX9_without 18 = .ok (.invokestatic 56, 3) := by decide +kernel
theorem dX9_without_21 : decode cX9_without 21 = .ok (.ifCond .eq 19, 3) := by decide +kernel
theorem dX9_without_24 : decode cX9_without 24 = .ok (.aload_n 0, 1) := by decide +kernel
theorem dX9_without_25 : decode cX9_without 25 = .ok (.getfield 24, 3) := by decide +kernel
theorem dX9_without_28 : decode cX9_without 28 = .ok (.aload_n 0, 1) := by decide +kernel
theorem dX9_without_29 : decode cX9_without 29 = .ok (.getfield 12, 3) := by decide +kernel
theorem dX9_without_32 : decode cX9_without 32 = .ok (.iload_n 1, 1) := by decide +kernel
theorem dX9_without_33 : decode cX9_without 33 = .ok (.iload_n 2, 1) := by decide +kernel
theorem dX9_without_34 : decode cX9_without 34 = .ok (.invokevirtual 199, 3) := by decide +kernel
theorem dX9_without_37 : decode cX9_without 37 = .ok (.goto 5, 3) := by decide +kernel
theorem dX9_without_40 : decode cX9_without 40 = .ok (.ldc 202, 2) := by decide +kernel
theorem dX9_without_42 : decode cX9_without 42 = .ok (.ireturn, 1) := by decide +kernel
def f_X9_without (X : x_X) (v0 : Nat) (v1 : Int32) (v2 : Int32) (μ : x_M) : Option (Int32 × x_M) :=
  (ck (x_kd X v0 = 9 + 1) (lt (μ.2.1 v0 0) (fun (v4 : Nat) => (ck (x_kd X v4 = 7 + 1) (bd (f_X7_find X v4 v1 μ) (fun (v5 : Nat) (μ6 : x_M) => (if v5 = 0 then (some ((-100001 : Int32), μ6)) else (bd (f_X9_within X v2 (1 : Int32) (40 : Int32) μ6) (fun (v7 : Int32) (μ8 : x_M) => (if v7 = 0 then (some ((-100002 : Int32), μ8)) else (ck (x_kd X v0 = 9 + 1) (lt (μ8.2.1 v0 2) (fun (v9 : Nat) => (ck (x_kd X v0 = 9 + 1) (lt (μ8.2.1 v0 0) (fun (v10 : Nat) => (ck (x_kd X v9 = 2 + 1) (bd (f_X2_waterBy X v9 v10 v1 v2 μ8) (fun (v11 : Int32) (μ12 : x_M) => (some (v11, μ12)))))))))))))))))))))
set_option maxRecDepth 100000 in
theorem m_X9_without (hI : x_I X) (v0 : Nat) (v1 : Int32) (v2 : Int32) (μ : x_M) : x_Met X x_Z0 l yX9_without cX9_without 3 (some .int) 8 [vR v0, vI v1, vI v2] μ rkI (f_X9_without X v0 v1 v2 μ) := by
  refine x_enter hI (by decide +kernel) (Nat.le_of_ble_eq_true rfl) (fun p e s m args below meth c hC hr hlk => ?_)
  unfold f_X9_without
  refine s_lv (lv' := [(0, vR v0), (1, vI v1), (2, vI v2)]) [0, 1, 2] rfl ?_
  refine s_aload_n hC 0 dX9_without_0 rfl ?_
  refine s_getR hC xc9 (by decide) rfl qf_X9_12 dX9_without_1 ?_
  refine s_ltR (fun v4 => ?_)
  refine s_iload_n hC 1 dX9_without_4 rfl ?_
  refine s_callV hC (x := v4) (avs := [vI v1]) (st := []) (nest := false) xc7 (m_X7_find hI v4 v1 μ) dX9_without_5 qm_X9_82 qi_X7_find qs_X7_find qc_X7 qd_X7_find qh_X7_find (by decide) (fun _ => Nat.le_of_ble_eq_true rfl) (Nat.le_of_ble_eq_true rfl) (fun v5 μ6 => ?_)
  refine s_ifnonnull hC dX9_without_8 (tgt := 14) (by decide) ?_ ?_
  · refine s_iload_n hC 2 dX9_without_14 rfl ?_
    refine s_iconst hC dX9_without_15 (v := 1) (by decide) ?_
    refine s_bipush hC dX9_without_16 (v := 40) (by decide) ?_
    refine s_callS hC (avs := [vI v2, vI (1 : Int32), vI (40 : Int32)]) (st := []) (nest := false) (m_X9_within hI v2 (1 : Int32) (40 : Int32) μ6) dX9_without_18 qm_X9_56 qt_X9_within qc_X9 qd_X9_within qh_X9_within (by decide) (fun _ => Nat.le_of_ble_eq_true rfl) (Nat.le_of_ble_eq_true rfl) (fun v7 μ8 => ?_)
    refine s_if_eq hC dX9_without_21 (tgt := 40) (by decide) ?_ ?_
    · refine s_ldc hC dX9_without_40 qk_X9_202 ?_
      exact s_iret hC hr hlk dX9_without_42
    refine s_aload_n hC 0 dX9_without_24 rfl ?_
    refine s_getR hC xc9 (by decide) rfl qf_X9_24 dX9_without_25 ?_
    refine s_ltR (fun v9 => ?_)
    refine s_aload_n hC 0 dX9_without_28 rfl ?_
    refine s_getR hC xc9 (by decide) rfl qf_X9_12 dX9_without_29 ?_
    refine s_ltR (fun v10 => ?_)
    refine s_iload_n hC 1 dX9_without_32 rfl ?_
    refine s_iload_n hC 2 dX9_without_33 rfl ?_
    refine s_callV hC (x := v9) (avs := [vR v10, vI v1, vI v2]) (st := []) (nest := false) xc2 (m_X2_waterBy hI v9 v10 v1 v2 μ8) dX9_without_34 qm_X9_199 qi_X2_waterBy qs_X2_waterBy qc_X2 qd_X2_waterBy qh_X2_waterBy (by decide) (fun _ => Nat.le_of_ble_eq_true rfl) (Nat.le_of_ble_eq_true rfl) (fun v11 μ12 => ?_)
    refine s_goto hC dX9_without_37 (tgt := 42) (by decide) ?_
    exact s_iret hC hr hlk dX9_without_42
  refine s_ldc hC dX9_without_11 qk_X9_198 ?_
  exact s_iret hC hr hlk dX9_without_13
theorem dX9_wells_0 : decode cX9_wells 0 = .ok (.iload_n 1, 1) := by decide +kernel
theorem dX9_wells_1 : decode cX9_wells 1 = .ok (.iconst 1, 1) := by decide +kernel
theorem dX9_wells_2 : decode cX9_wells 2 = .ok (.bipush 10, 2) := by decide +kernel
theorem dX9_wells_4 : decode cX9_wells 4 = .ok (.invokestatic 56, 3) := by decide +kernel
theorem dX9_wells_7 : decode cX9_wells 7 = .ok (.ifCond .eq 18, 3) := by decide +kernel
theorem dX9_wells_10 : decode cX9_wells 10 = .ok (.aload_n 0, 1) := by decide +kernel
theorem dX9_wells_11 : decode cX9_wells 11 = .ok (.getfield 24, 3) := by decide +kernel
theorem dX9_wells_14 : decode cX9_wells 14 = .ok (.aload_n 0, 1) := by decide +kernel
theorem dX9_wells_15 : decode cX9_wells 15 = .ok (.getfield 12, 3) := by decide +kernel
theorem dX9_wells_18 : decode cX9_wells 18 = .ok (.iload_n 1, 1) := by decide +kernel
theorem dX9_wells_19 : decode cX9_wells 19 = .ok (.invokevirtual 203, 3) := by decide +kernel
theorem dX9_wells_22 : decode cX9_wells 22 = .ok (.goto 5, 3) := by decide +kernel
theorem dX9_wells_25 : decode cX9_wells 25 = .ok (.bipush (-2), 2) := by decide +kernel
theorem dX9_wells_27 : decode cX9_wells 27 = .ok (.ireturn, 1) := by decide +kernel
def f_X9_wells (X : x_X) (v0 : Nat) (v1 : Int32) (μ : x_M) : Option (Int32 × x_M) :=
  (bd (f_X9_within X v1 (1 : Int32) (10 : Int32) μ) (fun (v3 : Int32) (μ4 : x_M) => (if v3 = 0 then (some ((-2 : Int32), μ4)) else (ck (x_kd X v0 = 9 + 1) (lt (μ4.2.1 v0 2) (fun (v5 : Nat) => (ck (x_kd X v0 = 9 + 1) (lt (μ4.2.1 v0 0) (fun (v6 : Nat) => (ck (x_kd X v5 = 2 + 1) (bd (f_X2_leastWell X v5 v6 v1 μ4) (fun (v7 : Int32) (μ8 : x_M) => (some (v7, μ8))))))))))))))
set_option maxRecDepth 100000 in
theorem m_X9_wells (hI : x_I X) (v0 : Nat) (v1 : Int32) (μ : x_M) : x_Met X x_Z0 l yX9_wells cX9_wells 2 (some .int) 8 [vR v0, vI v1] μ rkI (f_X9_wells X v0 v1 μ) := by
  refine x_enter hI (by decide +kernel) (Nat.le_of_ble_eq_true rfl) (fun p e s m args below meth c hC hr hlk => ?_)
  unfold f_X9_wells
  refine s_lv (lv' := [(0, vR v0), (1, vI v1)]) [0, 1] rfl ?_
  refine s_iload_n hC 1 dX9_wells_0 rfl ?_
  refine s_iconst hC dX9_wells_1 (v := 1) (by decide) ?_
  refine s_bipush hC dX9_wells_2 (v := 10) (by decide) ?_
  refine s_callS hC (avs := [vI v1, vI (1 : Int32), vI (10 : Int32)]) (st := []) (nest := false) (m_X9_within hI v1 (1 : Int32) (10 : Int32) μ) dX9_wells_4 qm_X9_56 qt_X9_within qc_X9 qd_X9_within qh_X9_within (by decide) (fun _ => Nat.le_of_ble_eq_true rfl) (Nat.le_of_ble_eq_true rfl) (fun v3 μ4 => ?_)
  refine s_if_eq hC dX9_wells_7 (tgt := 25) (by decide) ?_ ?_
  · refine s_bipush hC dX9_wells_25 (v := -2) (by decide) ?_
    exact s_iret hC hr hlk dX9_wells_27
  refine s_aload_n hC 0 dX9_wells_10 rfl ?_
  refine s_getR hC xc9 (by decide) rfl qf_X9_24 dX9_wells_11 ?_
  refine s_ltR (fun v5 => ?_)
  refine s_aload_n hC 0 dX9_wells_14 rfl ?_
  refine s_getR hC xc9 (by decide) rfl qf_X9_12 dX9_wells_15 ?_
  refine s_ltR (fun v6 => ?_)
  refine s_iload_n hC 1 dX9_wells_18 rfl ?_
  refine s_callV hC (x := v5) (avs := [vR v6, vI v1]) (st := []) (nest := false) xc2 (m_X2_leastWell hI v5 v6 v1 μ4) dX9_wells_19 qm_X9_203 qi_X2_leastWell qs_X2_leastWell qc_X2 qd_X2_leastWell qh_X2_leastWell (by decide) (fun _ => Nat.le_of_ble_eq_true rfl) (Nat.le_of_ble_eq_true rfl) (fun v7 μ8 => ?_)
  refine s_goto hC dX9_wells_22 (tgt := 27) (by decide) ?_
  exact s_iret hC hr hlk dX9_wells_27
theorem dX9_hidden_0 : decode cX9_hidden 0 = .ok (.aload_n 0, 1) := by decide +kernel
theorem dX9_hidden_1 : decode cX9_hidden 1 = .ok (.getfield 12, 3) := by decide +kernel
theorem dX9_hidden_4 : decode cX9_hidden 4 = .ok (.iload_n 1, 1) := by decide +kernel
theorem dX9_hidden_5 : decode cX9_hidden 5 = .ok (.invokevirtual 82, 3) := by decide +kernel
theorem dX9_hidden_8 : decode cX9_hidden 8 = .ok (.astore_n 3, 1) := by decide +kernel
theorem dX9_hidden_9 : decode cX9_hidden 9 = .ok (.aload_n 3, 1) := by decide +kernel
theorem dX9_hidden_10 : decode cX9_hidden 10 = .ok (.ifnull 12, 3) := by decide +kernel
theorem dX9_hidden_13 : decode cX9_hidden 13 = .ok (.iload_n 2, 1) := by decide +kernel
theorem dX9_hidden_14 : decode cX9_hidden 14 = .ok (.iconst 0, 1) := by decide +kernel
theorem dX9_hidden_15 : decode cX9_hidden 15 = .ok (.iconst 1, 1) := by decide +kernel
theorem dX9_hidden_16 : decode cX9_hidden 16 = .ok (.invokestatic 56, 3) := by decide +kernel
theorem dX9_hidden_19 : decode cX9_hidden 19 = .ok (.ifCond .ne 5, 3) := by decide +kernel
theorem dX9_hidden_22 : decode cX9_hidden 22 = .ok (.iconst (-1), 1) := by decide +kernel
theorem dX9_hidden_23 : decode cX9_hidden 23 = .ok (.ireturn, 1) := by decide +kernel
theorem dX9_hidden_24 : decode cX9_hidden 24 = .ok (.aload_n 3, 1) := by decide +kernel
theorem dX9_hidden_25 : decode cX9_hidden 25 = .ok (.getfield 86, 3) := by decide +kernel
theorem dX9_hidden_28 : decode cX9_hidden 28 = .ok (.iconst 4, 1) := by decide +kernel
theorem dX9_hidden_29 : decode cX9_hidden 29 = .ok (.if_icmp .eq 6, 3) := by decide +kernel
theorem dX9_hidden_32 : decode cX9_hidden 32 = .ok (.bipush (-3), 2) := by decide +kernel
theorem dX9_hidden_34 : decode cX9_hidden 34 = .ok (.ireturn, 1) := by decide +kernel
theorem dX9_hidden_35 : decode cX9_hidden 35 = .ok (.iconst 0, 1) := by decide +kernel
theorem dX9_hidden_36 : decode cX9_hidden 36 = .ok (.istore 4, 2) := by decide +kernel
theorem dX9_hidden_38 : decode cX9_hidden 38 = .ok (.bipush (-5), 2) := by decide +kernel
theorem dX9_hidden_40 : decode cX9_hidden 40 = .ok (.istore 5, 2) := by decide +kernel
theorem dX9_hidden_42 : decode cX9_hidden 42 = .ok (.bipush 20, 2) := by decide +kernel
theorem dX9_hidden_44 : decode cX9_hidden 44 = .ok (.istore 6, 2) := by decide +kernel
theorem dX9_hidden_46 : decode cX9_hidden 46 = .ok (.iload 6, 2) := by decide +kernel
theorem dX9_hidden_48 : decode cX9_hidden 48 = .ok (.ifCond .lt 33, 3) := by decide +kernel
theorem dX9_hidden_51 : decode cX9_hidden 51 = .ok (.aload_n 0, 1) := by decide +kernel
theorem dX9_hidden_52 : decode cX9_hidden 52 = .ok (.getfield 24, 3) := by decide +kernel
theorem dX9_hidden_55 : decode cX9_hidden 55 = .ok (.aload_n 0, 1) := by decide +kernel
theorem dX9_hidden_56 : decode cX9_hidden 56 = .ok (.getfield 12, 3) := by decide +kernel
theorem dX9_hidden_59 : decode cX9_hidden 59 = .ok (.iload_n 1, 1) := by decide +kernel
theorem dX9_hidden_60 : decode cX9_hidden 60 = .ok (.iload 6, 2) := by decide +kernel
theorem dX9_hidden_62 : decode cX9_hidden 62 = .ok (.invokevirtual 228, 3) := by decide +kernel
theorem dX9_hidden_65 : decode cX9_hidden 65 = .ok (.ifCond .eq 10, 3) := by decide +kernel
theorem dX9_hidden_68 : decode cX9_hidden 68 = .ok (.iinc 4 1, 3) := by decide +kernel
theorem dX9_hidden_71 : decode cX9_hidden 71 = .ok (.iload 6, 2) := by decide +kernel
theorem dX9_hidden_73 : decode cX9_hidden 73 = .ok (.istore 5, 2) := by decide +kernel
theorem dX9_hidden_75 : decode cX9_hidden 75 = .ok (.iinc 6 (-1), 3) := by decide +kernel
theorem dX9_hidden_78 : decode cX9_hidden 78 = .ok (.goto (-32), 3) := by decide +kernel
theorem dX9_hidden_81 : decode cX9_hidden 81 = .ok (.iload_n 2, 1) := by decide +kernel
theorem dX9_hidden_82 : decode cX9_hidden 82 = .ok (.ifCond .ne 8, 3) := by decide +kernel
theorem dX9_hidden_85 : decode cX9_hidden 85 = .ok (.iload 4, 2) := by decide +kernel
theorem dX9_hidden_87 : decode cX9_hidden 87 = .ok (.goto 5, 3) := by decide +kernel
theorem dX9_hidden_90 : decode cX9_hidden 90 = .ok (.iload 5, 2) := by decide +kernel
theorem dX9_hidden_92 : decode cX9_hidden 92 = .ok (.ireturn, 1) := by decide +kernel
def f_X9_hidden_L46 (X : x_X) (k81 : Int32 → Int32 → Int32 → x_M → Option (Int32 × x_M)) : Nat → Nat → Int32 → Int32 → Int32 → Int32 → Int32 → x_M → Option (Int32 × x_M)
  | 0, _, _, _, _, _, _, _ => none
  | n + 1, v9, v10, v11, v12, v13, v14, μ15 =>
    (if v14 < 0 then (k81 v11 v12 v13 μ15) else (ck (x_kd X v9 = 9 + 1) (lt (μ15.2.1 v9 2) (fun (v16 : Nat) => (ck (x_kd X v9 = 9 + 1) (lt (μ15.2.1 v9 0) (fun (v17 : Nat) => (ck (x_kd X v16 = 2 + 1) (bd (f_X2_isAsSeenWith X v16 v17 v10 v14 μ15) (fun (v18 : Int32) (μ19 : x_M) => (if v18 = 0 then (f_X9_hidden_L46 X k81 n v9 v10 v11 v12 v13 (v14 + (-1 : Int32)) μ19) else (f_X9_hidden_L46 X k81 n v9 v10 v11 (v12 + (1 : Int32)) v14 (v14 + (-1 : Int32)) μ19))))))))))))
set_option maxRecDepth 100000 in
theorem j_X9_hidden_L46 (hI : x_I X) (hC : x_C X x_Z0 p (x_rm 8) s m c cX9_hidden RX9 7 0 0 8) (hr : meth.sig.returnType = (some .int)) (hlk : meth.locks = false) {k81 : Int32 → Int32 → Int32 → x_M → Option (Int32 × x_M)} (hk81 : ∀ (b2 : Int32) (b4 : Int32) (b5 : Int32) (μ : x_M), SM X 7 8 rkI p l e s m args below meth c 81 [(2, vI b2), (4, vI b4), (5, vI b5)] [] μ (k81 b2 b4 b5 μ)) : ∀ (n : Nat) (v9 : Nat) (v10 : Int32) (v11 : Int32) (v12 : Int32) (v13 : Int32) (v14 : Int32) (μ15 : x_M), SM X 7 8 rkI p l e s m args below meth c 46 [(0, vR v9), (1, vI v10), (2, vI v11), (4, vI v12), (5, vI v13), (6, vI v14)] [] μ15 (f_X9_hidden_L46 X k81 n v9 v10 v11 v12 v13 v14 μ15) := by
  intro n
  induction n with
  | zero => intro v9 v10 v11 v12 v13 v14 μ15; exact s_none
  | succ n ih =>
    intro v9 v10 v11 v12 v13 v14 μ15
    unfold f_X9_hidden_L46
    refine s_iload hC 5 dX9_hidden_46 rfl ?_
    refine s_if_lt hC dX9_hidden_48 (tgt := 81) (by decide) ?_ ?_
    · refine s_lv (lv' := [(2, vI v11), (4, vI v12), (5, vI v13)]) [2, 3, 4] rfl ?_
      exact hk81 _ _ _ _
    refine s_aload_n hC 0 dX9_hidden_51 rfl ?_
    refine s_getR hC xc9 (by decide) rfl qf_X9_24 dX9_hidden_52 ?_
    refine s_ltR (fun v16 => ?_)
    refine s_aload_n hC 0 dX9_hidden_55 rfl ?_
    refine s_getR hC xc9 (by decide) rfl qf_X9_12 dX9_hidden_56 ?_
    refine s_ltR (fun v17 => ?_)
    refine s_iload_n hC 1 dX9_hidden_59 rfl ?_
    refine s_iload hC 5 dX9_hidden_60 rfl ?_
    refine s_callV hC (x := v16) (avs := [vR v17, vI v10, vI v14]) (st := []) (nest := false) xc2 (m_X2_isAsSeenWith hI v16 v17 v10 v14 μ15) dX9_hidden_62 qm_X9_228 qi_X2_isAsSeenWith qs_X2_isAsSeenWith qc_X2 qd_X2_isAsSeenWith qh_X2_isAsSeenWith (by decide) (fun _ => Nat.le_of_ble_eq_true rfl) (Nat.le_of_ble_eq_true rfl) (fun v18 μ19 => ?_)
    refine s_if_eq hC dX9_hidden_65 (tgt := 75) (by decide) ?_ ?_
    · refine s_iinc hC 5 dX9_hidden_75 rfl (w := -1) (by decide) (by decide) (lv' := [(6, vI (v14 + (-1 : Int32))), (0, vR v9), (1, vI v10), (2, vI v11), (4, vI v12), (5, vI v13)]) rfl ?_
      refine s_goto hC dX9_hidden_78 (tgt := 46) (by decide) ?_
      refine s_lv (lv' := [(0, vR v9), (1, vI v10), (2, vI v11), (4, vI v12), (5, vI v13), (6, vI (v14 + (-1 : Int32)))]) [1, 2, 3, 4, 5, 0] rfl ?_
      exact ih _ _ _ _ _ _ _
    refine s_iinc hC 3 dX9_hidden_68 rfl (w := 1) (by decide) (by decide) (lv' := [(4, vI (v12 + (1 : Int32))), (0, vR v9), (1, vI v10), (2, vI v11), (5, vI v13), (6, vI v14)]) rfl ?_
    refine s_iload hC 5 dX9_hidden_71 rfl ?_
    refine s_istore hC dX9_hidden_73 (by decide) (lv' := [(5, vI v14), (4, vI (v12 + (1 : Int32))), (0, vR v9), (1, vI v10), (2, vI v11), (6, vI v14)]) rfl ?_
    refine s_iinc hC 5 dX9_hidden_75 rfl (w := -1) (by decide) (by decide) (lv' := [(6, vI (v14 + (-1 : Int32))), (5, vI v14), (4, vI (v12 + (1 : Int32))), (0, vR v9), (1, vI v10), (2, vI v11)]) rfl ?_
    refine s_goto hC dX9_hidden_78 (tgt := 46) (by decide) ?_
    refine s_lv (lv' := [(0, vR v9), (1, vI v10), (2, vI v11), (4, vI (v12 + (1 : Int32))), (5, vI v14), (6, vI (v14 + (-1 : Int32)))]) [3, 4, 5, 2, 1, 0] rfl ?_
    exact ih _ _ _ _ _ _ _
def f_X9_hidden (X : x_X) (v0 : Nat) (v1 : Int32) (v2 : Int32) (μ : x_M) : Option (Int32 × x_M) :=
  (ck (x_kd X v0 = 9 + 1) (lt (μ.2.1 v0 0) (fun (v4 : Nat) => (ck (x_kd X v4 = 7 + 1) (bd (f_X7_find X v4 v1 μ) (fun (v5 : Nat) (μ6 : x_M) => (if v5 = 0 then (some ((-1 : Int32), μ6)) else (bd (f_X9_within X v2 (0 : Int32) (1 : Int32) μ6) (fun (v7 : Int32) (μ8 : x_M) => (if v7 = 0 then (some ((-1 : Int32), μ8)) else (ck (x_kd X v5 = 0 + 1) (if (μ8.1 v5 3) = (4 : Int32) then (f_X9_hidden_L46 X (fun (v20 : Int32) (v21 : Int32) (v22 : Int32) (μ23 : x_M) => (if v20 = 0 then (some (v21, μ23)) else (some (v22, μ23)))) 4096 v0 v1 v2 (0 : Int32) (-5 : Int32) (20 : Int32) μ8) else (some ((-3 : Int32), μ8))))))))))))))
set_option maxRecDepth 100000 in
theorem m_X9_hidden (hI : x_I X) (v0 : Nat) (v1 : Int32) (v2 : Int32) (μ : x_M) : x_Met X x_Z0 l yX9_hidden cX9_hidden 7 (some .int) 8 [vR v0, vI v1, vI v2] μ rkI (f_X9_hidden X v0 v1 v2 μ) := by
  refine x_enter hI (by decide +kernel) (Nat.le_of_ble_eq_true rfl) (fun p e s m args below meth c hC hr hlk => ?_)
  unfold f_X9_hidden
  refine s_lv (lv' := [(0, vR v0), (1, vI v1), (2, vI v2)]) [0, 1, 2] rfl ?_
  refine s_aload_n hC 0 dX9_hidden_0 rfl ?_
  refine s_getR hC xc9 (by decide) rfl qf_X9_12 dX9_hidden_1 ?_
  refine s_ltR (fun v4 => ?_)
  refine s_iload_n hC 1 dX9_hidden_4 rfl ?_
  refine s_callV hC (x := v4) (avs := [vI v1]) (st := []) (nest := false) xc7 (m_X7_find hI v4 v1 μ) dX9_hidden_5 qm_X9_82 qi_X7_find qs_X7_find qc_X7 qd_X7_find qh_X7_find (by decide) (fun _ => Nat.le_of_ble_eq_true rfl) (Nat.le_of_ble_eq_true rfl) (fun v5 μ6 => ?_)
  refine s_astore_n hC dX9_hidden_8 (by decide) (lv' := [(3, vR v5), (0, vR v0), (1, vI v1), (2, vI v2)]) rfl ?_
  refine s_aload_n hC 0 dX9_hidden_9 rfl ?_
  refine s_ifnull hC dX9_hidden_10 (tgt := 22) (by decide) ?_ ?_
  · refine s_iconst hC dX9_hidden_22 (v := -1) (by decide) ?_
    exact s_iret hC hr hlk dX9_hidden_23
  refine s_iload_n hC 3 dX9_hidden_13 rfl ?_
  refine s_iconst hC dX9_hidden_14 (v := 0) (by decide) ?_
  refine s_iconst hC dX9_hidden_15 (v := 1) (by decide) ?_
  refine s_callS hC (avs := [vI v2, vI (0 : Int32), vI (1 : Int32)]) (st := []) (nest := false) (m_X9_within hI v2 (0 : Int32) (1 : Int32) μ6) dX9_hidden_16 qm_X9_56 qt_X9_within qc_X9 qd_X9_within qh_X9_within (by decide) (fun _ => Nat.le_of_ble_eq_true rfl) (Nat.le_of_ble_eq_true rfl) (fun v7 μ8 => ?_)
  refine s_if_ne hC dX9_hidden_19 (tgt := 24) (by decide) ?_ ?_
  · refine s_aload_n hC 0 dX9_hidden_24 rfl ?_
    refine s_getI hC xc0 (by decide) rfl qf_X9_86 dX9_hidden_25 ?_
    refine s_iconst hC dX9_hidden_28 (v := 4) (by decide) ?_
    refine s_icmp_eq hC dX9_hidden_29 (tgt := 35) (by decide) ?_ ?_
    · refine s_iconst hC dX9_hidden_35 (v := 0) (by decide) ?_
      refine s_istore hC dX9_hidden_36 (by decide) (lv' := [(4, vI (0 : Int32)), (3, vR v5), (0, vR v0), (1, vI v1), (2, vI v2)]) rfl ?_
      refine s_bipush hC dX9_hidden_38 (v := -5) (by decide) ?_
      refine s_istore hC dX9_hidden_40 (by decide) (lv' := [(5, vI (-5 : Int32)), (4, vI (0 : Int32)), (3, vR v5), (0, vR v0), (1, vI v1), (2, vI v2)]) rfl ?_
      refine s_bipush hC dX9_hidden_42 (v := 20) (by decide) ?_
      refine s_istore hC dX9_hidden_44 (by decide) (lv' := [(6, vI (20 : Int32)), (5, vI (-5 : Int32)), (4, vI (0 : Int32)), (3, vR v5), (0, vR v0), (1, vI v1), (2, vI v2)]) rfl ?_
      refine s_lv (lv' := [(0, vR v0), (1, vI v1), (2, vI v2), (4, vI (0 : Int32)), (5, vI (-5 : Int32)), (6, vI (20 : Int32))]) [4, 5, 6, 2, 1, 0] rfl ?_
      refine j_X9_hidden_L46 hI hC hr hlk (fun v20 v21 v22 μ23 => ?_) 4096 _ _ _ _ _ _ _
      refine s_iload_n hC 0 dX9_hidden_81 rfl ?_
      refine s_if_ne hC dX9_hidden_82 (tgt := 90) (by decide) ?_ ?_
      · refine s_iload hC 2 dX9_hidden_90 rfl ?_
        exact s_iret hC hr hlk dX9_hidden_92
      refine s_iload hC 1 dX9_hidden_85 rfl ?_
      refine s_goto hC dX9_hidden_87 (tgt := 92) (by decide) ?_
      exact s_iret hC hr hlk dX9_hidden_92
    refine s_bipush hC dX9_hidden_32 (v := -3) (by decide) ?_
    exact s_iret hC hr hlk dX9_hidden_34
  refine s_iconst hC dX9_hidden_22 (v := -1) (by decide) ?_
  exact s_iret hC hr hlk dX9_hidden_23
theorem dX9_whose_0 : decode cX9_whose 0 = .ok (.aload_n 0, 1) := by decide +kernel
theorem dX9_whose_1 : decode cX9_whose 1 = .ok (.getfield 24, 3) := by decide +kernel
theorem dX9_whose_4 : decode cX9_whose 4 = .ok (.aload_n 0, 1) := by decide +kernel
theorem dX9_whose_5 : decode cX9_whose 5 = .ok (.getfield 12, 3) := by decide +kernel
theorem dX9_whose_8 : decode cX9_whose 8 = .ok (.invokevirtual 232, 3) := by decide +kernel
theorem dX9_whose_11 : decode cX9_whose 11 = .ok (.ireturn, 1) := by decide +kernel
def f_X9_whose (X : x_X) (v0 : Nat) (μ : x_M) : Option (Int32 × x_M) :=
  (ck (x_kd X v0 = 9 + 1) (lt (μ.2.1 v0 2) (fun (v2 : Nat) => (ck (x_kd X v0 = 9 + 1) (lt (μ.2.1 v0 0) (fun (v3 : Nat) => (ck (x_kd X v2 = 2 + 1) (bd (f_X2_absencesAsSeen X v2 v3 μ) (fun (v4 : Int32) (μ5 : x_M) => (some (v4, μ5)))))))))))
set_option maxRecDepth 100000 in
theorem m_X9_whose (hI : x_I X) (v0 : Nat) (μ : x_M) : x_Met X x_Z0 l yX9_whose cX9_whose 1 (some .int) 8 [vR v0] μ rkI (f_X9_whose X v0 μ) := by
  refine x_enter hI (by decide +kernel) (Nat.le_of_ble_eq_true rfl) (fun p e s m args below meth c hC hr hlk => ?_)
  unfold f_X9_whose
  refine s_lv (lv' := [(0, vR v0)]) [0] rfl ?_
  refine s_aload_n hC 0 dX9_whose_0 rfl ?_
  refine s_getR hC xc9 (by decide) rfl qf_X9_24 dX9_whose_1 ?_
  refine s_ltR (fun v2 => ?_)
  refine s_aload_n hC 0 dX9_whose_4 rfl ?_
  refine s_getR hC xc9 (by decide) rfl qf_X9_12 dX9_whose_5 ?_
  refine s_ltR (fun v3 => ?_)
  refine s_callV hC (x := v2) (avs := [vR v3]) (st := []) (nest := false) xc2 (m_X2_absencesAsSeen hI v2 v3 μ) dX9_whose_8 qm_X9_232 qi_X2_absencesAsSeen qs_X2_absencesAsSeen qc_X2 qd_X2_absencesAsSeen qh_X2_absencesAsSeen (by decide) (fun _ => Nat.le_of_ble_eq_true rfl) (Nat.le_of_ble_eq_true rfl) (fun v4 μ5 => ?_)
  exact s_iret hC hr hlk dX9_whose_11
theorem dX9_odds_0 : decode cX9_odds 0 = .ok (.iload_n 1, 1) := by decide +kernel
theorem dX9_odds_1 : decode cX9_odds 1 = .ok (.iconst 1, 1) := by decide +kernel
theorem dX9_odds_2 : decode cX9_odds 2 = .ok (.bipush 20, 2) := by decide +kernel
theorem dX9_odds_4 : decode cX9_odds 4 = .ok (.invokestatic 56, 3) := by decide +kernel
theorem dX9_odds_7 : decode cX9_odds 7 = .ok (.ifCond .eq 26, 3) := by decide +kernel
theorem dX9_odds_10 : decode cX9_odds 10 = .ok (.iload_n 2, 1) := by decide +kernel
theorem dX9_odds_11 : decode cX9_odds 11 = .ok (.invokestatic 206, 3) := by decide +kernel
theorem dX9_odds_14 : decode cX9_odds 14 = .ok (.ifCond .eq 19, 3) := by decide +kernel
theorem dX9_odds_17 : decode cX9_odds 17 = .ok (.aload_n 0, 1) := by decide +kernel
theorem dX9_odds_18 : decode cX9_odds 18 = .ok (.getfield 24, 3) := by decide +kernel
theorem dX9_odds_21 : decode cX9_odds 21 = .ok (.aload_n 0, 1) := by decide +kernel
theorem dX9_odds_22 : decode cX9_odds 22 = .ok (.getfield 12, 3) := by decide +kernel
theorem dX9_odds_25 : decode cX9_odds 25 = .ok (.iload_n 1, 1) := by decide +kernel
theorem dX9_odds_26 : decode cX9_odds 26 = .ok (.iload_n 2, 1) := by decide +kernel
theorem dX9_odds_27 : decode cX9_odds 27 = .ok (.invokevirtual 235, 3) := by decide +kernel
theorem dX9_odds_30 : decode cX9_odds 30 = .ok (.goto 6, 3) := by decide +kernel
theorem dX9_odds_33 : decode cX9_odds 33 = .ok (.ldc2_w 209, 3) := by decide +kernel
theorem dX9_odds_36 : decode cX9_odds 36 = .ok (.lreturn, 1) := by decide +kernel
def f_X9_odds (X : x_X) (v0 : Nat) (v1 : Int32) (v2 : Int32) (μ : x_M) : Option (Int64 × x_M) :=
  (bd (f_X9_within X v1 (1 : Int32) (20 : Int32) μ) (fun (v4 : Int32) (μ5 : x_M) => (if v4 = 0 then (some ((-9223372036854775808 : Int64), μ5)) else (bd (f_X9_isPart X v2 μ5) (fun (v6 : Int32) (μ7 : x_M) => (if v6 = 0 then (some ((-9223372036854775808 : Int64), μ7)) else (ck (x_kd X v0 = 9 + 1) (lt (μ7.2.1 v0 2) (fun (v8 : Nat) => (ck (x_kd X v0 = 9 + 1) (lt (μ7.2.1 v0 0) (fun (v9 : Nat) => (ck (x_kd X v8 = 2 + 1) (bd (f_X2_springlessOdds X v8 v9 v1 v2 μ7) (fun (v10 : Int64) (μ11 : x_M) => (some (v10, μ11)))))))))))))))))
set_option maxRecDepth 100000 in
theorem m_X9_odds (hI : x_I X) (v0 : Nat) (v1 : Int32) (v2 : Int32) (μ : x_M) : x_Met X x_Z0 l yX9_odds cX9_odds 3 (some .long) 8 [vR v0, vI v1, vI v2] μ rkJ (f_X9_odds X v0 v1 v2 μ) := by
  refine x_enter hI (by decide +kernel) (Nat.le_of_ble_eq_true rfl) (fun p e s m args below meth c hC hr hlk => ?_)
  unfold f_X9_odds
  refine s_lv (lv' := [(0, vR v0), (1, vI v1), (2, vI v2)]) [0, 1, 2] rfl ?_
  refine s_iload_n hC 1 dX9_odds_0 rfl ?_
  refine s_iconst hC dX9_odds_1 (v := 1) (by decide) ?_
  refine s_bipush hC dX9_odds_2 (v := 20) (by decide) ?_
  refine s_callS hC (avs := [vI v1, vI (1 : Int32), vI (20 : Int32)]) (st := []) (nest := false) (m_X9_within hI v1 (1 : Int32) (20 : Int32) μ) dX9_odds_4 qm_X9_56 qt_X9_within qc_X9 qd_X9_within qh_X9_within (by decide) (fun _ => Nat.le_of_ble_eq_true rfl) (Nat.le_of_ble_eq_true rfl) (fun v4 μ5 => ?_)
  refine s_if_eq hC dX9_odds_7 (tgt := 33) (by decide) ?_ ?_
  · refine s_ldc2 hC dX9_odds_33 qk_X9_209 ?_
    exact s_lret hC hr hlk dX9_odds_36
  refine s_iload_n hC 2 dX9_odds_10 rfl ?_
  refine s_callS hC (avs := [vI v2]) (st := []) (nest := false) (m_X9_isPart hI v2 μ5) dX9_odds_11 qm_X9_206 qt_X9_isPart qc_X9 qd_X9_isPart qh_X9_isPart (by decide) (fun _ => Nat.le_of_ble_eq_true rfl) (Nat.le_of_ble_eq_true rfl) (fun v6 μ7 => ?_)
  refine s_if_eq hC dX9_odds_14 (tgt := 33) (by decide) ?_ ?_
  · refine s_ldc2 hC dX9_odds_33 qk_X9_209 ?_
    exact s_lret hC hr hlk dX9_odds_36
  refine s_aload_n hC 0 dX9_odds_17 rfl ?_
  refine s_getR hC xc9 (by decide) rfl qf_X9_24 dX9_odds_18 ?_
  refine s_ltR (fun v8 => ?_)
  refine s_aload_n hC 0 dX9_odds_21 rfl ?_
  refine s_getR hC xc9 (by decide) rfl qf_X9_12 dX9_odds_22 ?_
  refine s_ltR (fun v9 => ?_)
  refine s_iload_n hC 1 dX9_odds_25 rfl ?_
  refine s_iload_n hC 2 dX9_odds_26 rfl ?_
  refine s_callV hC (x := v8) (avs := [vR v9, vI v1, vI v2]) (st := []) (nest := false) xc2 (m_X2_springlessOdds hI v8 v9 v1 v2 μ7) dX9_odds_27 qm_X9_235 qi_X2_springlessOdds qs_X2_springlessOdds qc_X2 qd_X2_springlessOdds qh_X2_springlessOdds (by decide) (fun _ => Nat.le_of_ble_eq_true rfl) (Nat.le_of_ble_eq_true rfl) (fun v10 μ11 => ?_)
  refine s_goto hC dX9_odds_30 (tgt := 36) (by decide) ?_
  exact s_lret hC hr hlk dX9_odds_36
theorem dX9_act_0 : decode cX9_act 0 = .ok (.aload_n 0, 1) := by decide +kernel
theorem dX9_act_1 : decode cX9_act 1 = .ok (.getfield 50, 3) := by decide +kernel
theorem dX9_act_4 : decode cX9_act 4 = .ok (.aload_n 0, 1) := by decide +kernel
theorem dX9_act_5 : decode cX9_act 5 = .ok (.getfield 12, 3) := by decide +kernel
theorem dX9_act_8 : decode cX9_act 8 = .ok (.iload_n 1, 1) := by decide +kernel
theorem dX9_act_9 : decode cX9_act 9 = .ok (.invokevirtual 82, 3) := by decide +kernel
theorem dX9_act_12 : decode cX9_act 12 = .ok (.iload_n 2, 1) := by decide +kernel
theorem dX9_act_13 : decode cX9_act 13 = .ok (.iload_n 3, 1) := by decide +kernel
theorem dX9_act_14 : decode cX9_act 14 = .ok (.invokevirtual 289, 3) := by decide +kernel
theorem dX9_act_17 : decode cX9_act 17 = .ok (.ireturn, 1) := by decide +kernel
def f_X9_act (X : x_X) (v0 : Nat) (v1 : Int32) (v2 : Int32) (v3 : Int32) (μ : x_M) : Option (Int32 × x_M) :=
  (ck (x_kd X v0 = 9 + 1) (lt (μ.2.1 v0 6) (fun (v5 : Nat) => (ck (x_kd X v0 = 9 + 1) (lt (μ.2.1 v0 0) (fun (v6 : Nat) => (ck (x_kd X v6 = 7 + 1) (bd (f_X7_find X v6 v1 μ) (fun (v7 : Nat) (μ8 : x_M) => (ck (x_kd X v5 = 1 + 1) (bd (f_X1_perform X v5 v7 v2 v3 μ8) (fun (v9 : Int32) (μ10 : x_M) => (some (v9, μ10))))))))))))))
set_option maxRecDepth 100000 in
theorem m_X9_act (hI : x_I X) (v0 : Nat) (v1 : Int32) (v2 : Int32) (v3 : Int32) (μ : x_M) : x_Met X x_Z0 l yX9_act cX9_act 4 (some .int) 24 [vR v0, vI v1, vI v2, vI v3] μ rkI (f_X9_act X v0 v1 v2 v3 μ) := by
  refine x_enter hI (by decide +kernel) (Nat.le_of_ble_eq_true rfl) (fun p e s m args below meth c hC hr hlk => ?_)
  unfold f_X9_act
  refine s_lv (lv' := [(0, vR v0), (1, vI v1), (2, vI v2), (3, vI v3)]) [0, 1, 2, 3] rfl ?_
  refine s_aload_n hC 0 dX9_act_0 rfl ?_
  refine s_getR hC xc9 (by decide) rfl qf_X9_50 dX9_act_1 ?_
  refine s_ltR (fun v5 => ?_)
  refine s_aload_n hC 0 dX9_act_4 rfl ?_
  refine s_getR hC xc9 (by decide) rfl qf_X9_12 dX9_act_5 ?_
  refine s_ltR (fun v6 => ?_)
  refine s_iload_n hC 1 dX9_act_8 rfl ?_
  refine s_callV hC (x := v6) (avs := [vI v1]) (st := [vR v5]) (nest := false) xc7 (m_X7_find hI v6 v1 μ) dX9_act_9 qm_X9_82 qi_X7_find qs_X7_find qc_X7 qd_X7_find qh_X7_find (by decide) (fun _ => Nat.le_of_ble_eq_true rfl) (Nat.le_of_ble_eq_true rfl) (fun v7 μ8 => ?_)
  refine s_iload_n hC 2 dX9_act_12 rfl ?_
  refine s_iload_n hC 3 dX9_act_13 rfl ?_
  refine s_callV hC (x := v5) (avs := [vR v7, vI v2, vI v3]) (st := []) (nest := false) xc1 (m_X1_perform hI v5 v7 v2 v3 μ8) dX9_act_14 qm_X9_289 qi_X1_perform qs_X1_perform qc_X1 qd_X1_perform qh_X1_perform (by decide) (fun _ => Nat.le_of_ble_eq_true rfl) (Nat.le_of_ble_eq_true rfl) (fun v9 μ10 => ?_)
  exact s_iret hC hr hlk dX9_act_17
theorem dX9_law_0 : decode cX9_law 0 = .ok (.aload_n 0, 1) := by decide +kernel
theorem dX9_law_1 : decode cX9_law 1 = .ok (.getfield 142, 3) := by decide +kernel
theorem dX9_law_4 : decode cX9_law 4 = .ok (.iconst 0, 1) := by decide +kernel
theorem dX9_law_5 : decode cX9_law 5 = .ok (.iconst 5, 1) := by decide +kernel
theorem dX9_law_6 : decode cX9_law 6 = .ok (.invokestatic 56, 3) := by decide +kernel
theorem dX9_law_9 : decode cX9_law 9 = .ok (.ifCond .ne 6, 3) := by decide +kernel
theorem dX9_law_12 : decode cX9_law 12 = .ok (.bipush (-4), 2) := by decide +kernel
theorem dX9_law_14 : decode cX9_law 14 = .ok (.ireturn, 1) := by decide +kernel
theorem dX9_law_15 : decode cX9_law 15 = .ok (.aload_n 0, 1) := by decide +kernel
theorem dX9_law_16 : decode cX9_law 16 = .ok (.getfield 37, 3) := by decide +kernel
theorem dX9_law_19 : decode cX9_law 19 = .ok (.aload_n 0, 1) := by decide +kernel
theorem dX9_law_20 : decode cX9_law 20 = .ok (.getfield 142, 3) := by decide +kernel
theorem dX9_law_23 : decode cX9_law 23 = .ok (.aaload, 1) := by decide +kernel
theorem dX9_law_24 : decode cX9_law 24 = .ok (.astore_n 1, 1) := by decide +kernel
theorem dX9_law_25 : decode cX9_law 25 = .ok (.aload_n 0, 1) := by decide +kernel
theorem dX9_law_26 : decode cX9_law 26 = .ok (.getfield 31, 3) := by decide +kernel
theorem dX9_law_29 : decode cX9_law 29 = .ok (.aload_n 1, 1) := by decide +kernel
theorem dX9_law_30 : decode cX9_law 30 = .ok (.invokevirtual 145, 3) := by decide +kernel
theorem dX9_law_33 : decode cX9_law 33 = .ok (.istore_n 2, 1) := by decide +kernel
theorem dX9_law_34 : decode cX9_law 34 = .ok (.aload_n 0, 1) := by decide +kernel
theorem dX9_law_35 : decode cX9_law 35 = .ok (.getfield 31, 3) := by decide +kernel
theorem dX9_law_38 : decode cX9_law 38 = .ok (.invokevirtual 149, 3) := by decide +kernel
theorem dX9_law_41 : decode cX9_law 41 = .ok (.iload_n 2, 1) := by decide +kernel
theorem dX9_law_42 : decode cX9_law 42 = .ok (.bipush (-5), 2) := by decide +kernel
theorem dX9_law_44 : decode cX9_law 44 = .ok (.if_icmp .eq 8, 3) := by decide +kernel
theorem dX9_law_47 : decode cX9_law 47 = .ok (.bipush (-10), 2) := by decide +kernel
theorem dX9_law_49 : decode cX9_law 49 = .ok (.iload_n 2, 1) := by decide +kernel
theorem dX9_law_50 : decode cX9_law 50 = .ok (.isub, 1) := by decide +kernel
theorem dX9_law_51 : decode cX9_law 51 = .ok (.ireturn, 1) := by decide +kernel
theorem dX9_law_52 : decode cX9_law 52 = .ok (.aload_n 0, 1) := by decide +kernel
theorem dX9_law_53 : decode cX9_law 53 = .ok (.getfield 12, 3) := by decide +kernel
theorem dX9_law_56 : decode cX9_law 56 = .ok (.aload_n 1, 1) := by decide +kernel
theorem dX9_law_57 : decode cX9_law 57 = .ok (.putfield 111, 3) := by decide +kernel
theorem dX9_law_60 : decode cX9_law 60 = .ok (.aload_n 0, 1) := by decide +kernel
theorem dX9_law_61 : decode cX9_law 61 = .ok (.dup, 1) := by decide +kernel
theorem dX9_law_62 : decode cX9_law 62 = .ok (.getfield 142, 3) := by decide +kernel
theorem dX9_law_65 : decode cX9_law 65 = .ok (.iconst 1, 1) := by decide +kernel
theorem dX9_law_66 : decode cX9_law 66 = .ok (.iadd, 1) := by decide +kernel
theorem dX9_law_67 : decode cX9_law 67 = .ok (.putfield 142, 3) := by decide +kernel
theorem dX9_law_70 : decode cX9_law 70 = .ok (.aload_n 0, 1) := by decide +kernel
theorem dX9_law_71 : decode cX9_law 71 = .ok (.getfield 142, 3) := by decide +kernel
theorem dX9_law_74 : decode cX9_law 74 = .ok (.iconst 1, 1) := by decide +kernel
theorem dX9_law_75 : decode cX9_law 75 = .ok (.isub, 1) := by decide +kernel
theorem dX9_law_76 : decode cX9_law 76 = .ok (.ireturn, 1) := by decide +kernel
def f_X9_law (X : x_X) (v0 : Nat) (μ : x_M) : Option (Int32 × x_M) :=
  (ck (x_kd X v0 = 9 + 1) (bd (f_X9_within X (μ.1 v0 8) (0 : Int32) (5 : Int32) μ) (fun (v2 : Int32) (μ3 : x_M) => (if v2 = 0 then (some ((-4 : Int32), μ3)) else (ck (x_kd X v0 = 9 + 1) (lt (μ3.2.1 v0 4) (fun (v4 : Nat) => (ck (x_kd X v0 = 9 + 1) (lt (μ3.1 v0 8) (fun (v5 : Int32) => (ck ((x_kd X v4 = 23 ∨ x_kd X v4 = 24 ∨ x_kd X v4 = 25) ∧ x_ix v5 (x_ln X v4)) (lt (μ3.2.1 v4 (v5).toNatClampNeg) (fun (v6 : Nat) => (ck (x_kd X v0 = 9 + 1) (lt (μ3.2.1 v0 3) (fun (v7 : Nat) => (ck (x_kd X v7 = 5 + 1) (bd (f_X5_parse X v7 v6 μ3) (fun (v8 : Int32) (μ9 : x_M) => (ck (x_kd X v0 = 9 + 1) (lt (μ9.2.1 v0 3) (fun (v10 : Nat) => (ck (x_kd X v10 = 5 + 1) (bd (f_X5_clear X v10 μ9) (fun (_ : Unit) (μ11 : x_M) => (if v8 = (-5 : Int32) then (ck (x_kd X v0 = 9 + 1) (lt (μ11.2.1 v0 0) (fun (v12 : Nat) => (ck (x_kd X v12 = 7 + 1) (lt (x_sR μ11 v12 5 v6) (fun (μ13 : x_M) => (ck (x_kd X v0 = 9 + 1) (ck (x_kd X v0 = 9 + 1) (lt (x_sI μ13 v0 8 ((μ13.1 v0 8) + (1 : Int32))) (fun (μ14 : x_M) => (ck (x_kd X v0 = 9 + 1) (some (((μ14.1 v0 8) - (1 : Int32)), μ14))))))))))))) else (some (((-10 : Int32) - v8), μ11))))))))))))))))))))))))))))
set_option maxRecDepth 100000 in
theorem m_X9_law (hI : x_I X) (v0 : Nat) (μ : x_M) : x_Met X x_Z0 l yX9_law cX9_law 3 (some .int) 28 [vR v0] μ rkI (f_X9_law X v0 μ) := by
  refine x_enter hI (by decide +kernel) (Nat.le_of_ble_eq_true rfl) (fun p e s m args below meth c hC hr hlk => ?_)
  unfold f_X9_law
  refine s_lv (lv' := [(0, vR v0)]) [0] rfl ?_
  refine s_aload_n hC 0 dX9_law_0 rfl ?_
  refine s_getI hC xc9 (by decide) rfl qf_X9_142 dX9_law_1 ?_
  refine s_iconst hC dX9_law_4 (v := 0) (by decide) ?_
  refine s_iconst hC dX9_law_5 (v := 5) (by decide) ?_
  refine s_callS hC (avs := [vI (μ.1 v0 8), vI (0 : Int32), vI (5 : Int32)]) (st := []) (nest := false) (m_X9_within hI (μ.1 v0 8) (0 : Int32) (5 : Int32) μ) dX9_law_6 qm_X9_56 qt_X9_within qc_X9 qd_X9_within qh_X9_within (by decide) (fun _ => Nat.le_of_ble_eq_true rfl) (Nat.le_of_ble_eq_true rfl) (fun v2 μ3 => ?_)
  refine s_if_ne hC dX9_law_9 (tgt := 15) (by decide) ?_ ?_
  · refine s_aload_n hC 0 dX9_law_15 rfl ?_
    refine s_getR hC xc9 (by decide) rfl qf_X9_37 dX9_law_16 ?_
    refine s_ltR (fun v4 => ?_)
    refine s_aload_n hC 0 dX9_law_19 rfl ?_
    refine s_getI hC xc9 (by decide) rfl qf_X9_142 dX9_law_20 ?_
    refine s_ltI (fun v5 => ?_)
    refine s_aald hC dX9_law_23 ?_
    refine s_ltR (fun v6 => ?_)
    refine s_astore_n hC dX9_law_24 (by decide) (lv' := [(1, vR v6), (0, vR v0)]) rfl ?_
    refine s_aload_n hC 1 dX9_law_25 rfl ?_
    refine s_getR hC xc9 (by decide) rfl qf_X9_31 dX9_law_26 ?_
    refine s_ltR (fun v7 => ?_)
    refine s_aload_n hC 0 dX9_law_29 rfl ?_
    refine s_callV hC (x := v7) (avs := [vR v6]) (st := []) (nest := false) xc5 (m_X5_parse hI v7 v6 μ3) dX9_law_30 qm_X9_145 qi_X5_parse qs_X5_parse qc_X5 qd_X5_parse qh_X5_parse (by decide) (fun _ => Nat.le_of_ble_eq_true rfl) (Nat.le_of_ble_eq_true rfl) (fun v8 μ9 => ?_)
    refine s_istore_n hC dX9_law_33 (by decide) (lv' := [(2, vI v8), (1, vR v6), (0, vR v0)]) rfl ?_
    refine s_aload_n hC 2 dX9_law_34 rfl ?_
    refine s_getR hC xc9 (by decide) rfl qf_X9_31 dX9_law_35 ?_
    refine s_ltR (fun v10 => ?_)
    refine s_callV hC (x := v10) (avs := []) (st := []) (nest := false) xc5 (m_X5_clear hI v10 μ9) dX9_law_38 qm_X9_149 qi_X5_clear qs_X5_clear qc_X5 qd_X5_clear qh_X5_clear (by decide) (fun _ => Nat.le_of_ble_eq_true rfl) (Nat.le_of_ble_eq_true rfl) (fun _ μ11 => ?_)
    refine s_iload_n hC 0 dX9_law_41 rfl ?_
    refine s_bipush hC dX9_law_42 (v := -5) (by decide) ?_
    refine s_icmp_eq hC dX9_law_44 (tgt := 52) (by decide) ?_ ?_
    · refine s_aload_n hC 2 dX9_law_52 rfl ?_
      refine s_getR hC xc9 (by decide) rfl qf_X9_12 dX9_law_53 ?_
      refine s_ltR (fun v12 => ?_)
      refine s_aload_n hC 1 dX9_law_56 rfl ?_
      refine s_putR hC xc7 (by decide) rfl rfl qf_X9_111 dX9_law_57 ?_
      refine s_ltM (fun μ13 => ?_)
      refine s_aload_n hC 2 dX9_law_60 rfl ?_
      refine s_dupR hC dX9_law_61 ?_
      refine s_getI hC xc9 (by decide) rfl qf_X9_142 dX9_law_62 ?_
      refine s_iconst hC dX9_law_65 (v := 1) (by decide) ?_
      refine s_iadd hC dX9_law_66 ?_
      refine s_putI hC xc9 (by decide) rfl rfl qf_X9_142 dX9_law_67 ?_
      refine s_ltM (fun μ14 => ?_)
      refine s_aload_n hC 2 dX9_law_70 rfl ?_
      refine s_getI hC xc9 (by decide) rfl qf_X9_142 dX9_law_71 ?_
      refine s_iconst hC dX9_law_74 (v := 1) (by decide) ?_
      refine s_isub hC dX9_law_75 ?_
      exact s_iret hC hr hlk dX9_law_76
    refine s_bipush hC dX9_law_47 (v := -10) (by decide) ?_
    refine s_iload_n hC 0 dX9_law_49 rfl ?_
    refine s_isub hC dX9_law_50 ?_
    exact s_iret hC hr hlk dX9_law_51
  refine s_bipush hC dX9_law_12 (v := -4) (by decide) ?_
  exact s_iret hC hr hlk dX9_law_14
