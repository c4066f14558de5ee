variable {X : x_X} {l : Launch} {p : Program} {e : Env} {s : State} {m : MethodId} {args : Array Value} {below : List Frame} {meth : Method} {c : Code}
theorem dX5_length_0 : decode cX5_length 0 = .ok (.aload_n 0, 1) := by decide +kernel
theorem dX5_length_1 : decode cX5_length 1 = .ok (.getfield 15, 3) := by decide +kernel
theorem dX5_length_4 : decode cX5_length 4 = .ok (.ireturn, 1) := by decide +kernel
def f_X5_length (X : x_X) (v0 : Nat) (μ : x_M) : Option (Int32 × x_M) :=
  (ck (x_kd X v0 = 5 + 1) (some ((μ.1 v0 1), μ)))
set_option maxRecDepth 100000 in
theorem m_X5_length (hI : x_I X) (v0 : Nat) (μ : x_M) : x_Met X x_Z0 l yX5_length cX5_length 1 (some .int) 1 [vR v0] μ rkI (f_X5_length X v0 μ) := by
  refine x_enter hI (by decide +kernel) (Nat.le_of_ble_eq_true rfl) (fun p e s m args below meth c hC hr hlk => ?_)
  unfold f_X5_length
  refine s_lv (lv' := [(0, vR v0)]) [0] rfl ?_
  refine s_aload_n hC 0 dX5_length_0 rfl ?_
  refine s_getI hC xc5 (by decide) rfl qf_X5_15 dX5_length_1 ?_
  exact s_iret hC hr hlk dX5_length_4
theorem dX5_clear_0 : decode cX5_clear 0 = .ok (.aload_n 0, 1) := by decide +kernel
theorem dX5_clear_1 : decode cX5_clear 1 = .ok (.iconst 0, 1) := by decide +kernel
theorem dX5_clear_2 : decode cX5_clear 2 = .ok (.putfield 15, 3) := by decide +kernel
theorem dX5_clear_5 : decode cX5_clear 5 = .ok (.return_, 1) := by decide +kernel
def f_X5_clear (X : x_X) (v0 : Nat) (μ : x_M) : Option (Unit × x_M) :=
  (ck (x_kd X v0 = 5 + 1) (lt (x_sI μ v0 1 (0 : Int32)) (fun (μ2 : x_M) => (some ((), μ2)))))
set_option maxRecDepth 100000 in
theorem m_X5_clear (hI : x_I X) (v0 : Nat) (μ : x_M) : x_Met X x_Z0 l yX5_clear cX5_clear 1 none 1 [vR v0] μ rkV (f_X5_clear X v0 μ) := by
  refine x_enter hI (by decide +kernel) (Nat.le_of_ble_eq_true rfl) (fun p e s m args below meth c hC hr hlk => ?_)
  unfold f_X5_clear
  refine s_lv (lv' := [(0, vR v0)]) [0] rfl ?_
  refine s_aload_n hC 0 dX5_clear_0 rfl ?_
  refine s_iconst hC dX5_clear_1 (v := 0) (by decide) ?_
  refine s_putI hC xc5 (by decide) rfl rfl qf_X5_15 dX5_clear_2 ?_
  refine s_ltM (fun μ2 => ?_)
  exact s_vret hC hr hlk dX5_clear_5
theorem dX5_take_0 : decode cX5_take 0 = .ok (.aload_n 0, 1) := by decide +kernel
theorem dX5_take_1 : decode cX5_take 1 = .ok (.getfield 23, 3) := by decide +kernel
theorem dX5_take_4 : decode cX5_take 4 = .ok (.ifCond .lt 36, 3) := by decide +kernel
theorem dX5_take_7 : decode cX5_take 7 = .ok (.aload_n 0, 1) := by decide +kernel
theorem dX5_take_8 : decode cX5_take 8 = .ok (.getfield 23, 3) := by decide +kernel
theorem dX5_take_11 : decode cX5_take 11 = .ok (.aload_n 0, 1) := by decide +kernel
theorem dX5_take_12 : decode cX5_take 12 = .ok (.getfield 15, 3) := by decide +kernel
theorem dX5_take_15 : decode cX5_take 15 = .ok (.if_icmp .ge 25, 3) := by decide +kernel
theorem dX5_take_18 : decode cX5_take 18 = .ok (.aload_n 0, 1) := by decide +kernel
theorem dX5_take_19 : decode cX5_take 19 = .ok (.getfield 23, 3) := by decide +kernel
theorem dX5_take_22 : decode cX5_take 22 = .ok (.bipush 100, 2) := by decide +kernel
theorem dX5_take_24 : decode cX5_take 24 = .ok (.if_icmp .ge 16, 3) := by decide +kernel
theorem dX5_take_27 : decode cX5_take 27 = .ok (.aload_n 0, 1) := by decide +kernel
theorem dX5_take_28 : decode cX5_take 28 = .ok (.getfield 9, 3) := by decide +kernel
theorem dX5_take_31 : decode cX5_take 31 = .ok (.aload_n 0, 1) := by decide +kernel
theorem dX5_take_32 : decode cX5_take 32 = .ok (.getfield 23, 3) := by decide +kernel
theorem dX5_take_35 : decode cX5_take 35 = .ok (.iaload, 1) := by decide +kernel
theorem dX5_take_36 : decode cX5_take 36 = .ok (.iload_n 1, 1) := by decide +kernel
theorem dX5_take_37 : decode cX5_take 37 = .ok (.if_icmp .eq 5, 3) := by decide +kernel
theorem dX5_take_40 : decode cX5_take 40 = .ok (.iconst 0, 1) := by decide +kernel
theorem dX5_take_41 : decode cX5_take 41 = .ok (.ireturn, 1) := by decide +kernel
theorem dX5_take_42 : decode cX5_take 42 = .ok (.aload_n 0, 1) := by decide +kernel
theorem dX5_take_43 : decode cX5_take 43 = .ok (.dup, 1) := by decide +kernel
theorem dX5_take_44 : decode cX5_take 44 = .ok (.getfield 23, 3) := by decide +kernel
theorem dX5_take_47 : decode cX5_take 47 = .ok (.iconst 1, 1) := by decide +kernel
theorem dX5_take_48 : decode cX5_take 48 = .ok (.iadd, 1) := by decide +kernel
theorem dX5_take_49 : decode cX5_take 49 = .ok (.putfield 23, 3) := by decide +kernel
theorem dX5_take_52 : decode cX5_take 52 = .ok (.iconst 1, 1) := by decide +kernel
theorem dX5_take_53 : decode cX5_take 53 = .ok (.ireturn, 1) := by decide +kernel
def f_X5_take (X : x_X) (v0 : Nat) (v1 : Int32) (μ : x_M) : Option (Int32 × x_M) :=
  (ck (x_kd X v0 = 5 + 1) (if (μ.1 v0 2) < 0 then (ck ((0 : Int32) = 0 ∨ (0 : Int32) = 1) (some ((0 : Int32), μ))) else (ck (x_kd X v0 = 5 + 1) (ck (x_kd X v0 = 5 + 1) (if (μ.1 v0 1) ≤ (μ.1 v0 2) then (ck ((0 : Int32) = 0 ∨ (0 : Int32) = 1) (some ((0 : Int32), μ))) else (ck (x_kd X v0 = 5 + 1) (if (100 : Int32) ≤ (μ.1 v0 2) then (ck ((0 : Int32) = 0 ∨ (0 : Int32) = 1) (some ((0 : Int32), μ))) else (ck (x_kd X v0 = 5 + 1) (lt (μ.2.1 v0 0) (fun (v3 : Nat) => (ck (x_kd X v0 = 5 + 1) (lt (μ.1 v0 2) (fun (v4 : Int32) => (ck ((x_kd X v3 = 20 ∨ x_kd X v3 = 40) ∧ x_ix v4 (x_ln X v3)) (if (μ.1 v3 (v4).toNatClampNeg) = v1 then (ck (x_kd X v0 = 5 + 1) (ck (x_kd X v0 = 5 + 1) (lt (x_sI μ v0 2 ((μ.1 v0 2) + (1 : Int32))) (fun (μ5 : x_M) => (ck ((1 : Int32) = 0 ∨ (1 : Int32) = 1) (some ((1 : Int32), μ5))))))) else (ck ((0 : Int32) = 0 ∨ (0 : Int32) = 1) (some ((0 : Int32), μ))))))))))))))))))
set_option maxRecDepth 100000 in
theorem m_X5_take (hI : x_I X) (v0 : Nat) (v1 : Int32) (μ : x_M) : x_Met X x_Z0 l yX5_take cX5_take 2 (some .boolean) 1 [vR v0, vI v1] μ rkI (f_X5_take X v0 v1 μ) := by
  refine x_enter hI (by decide +kernel) (Nat.le_of_ble_eq_true rfl) (fun p e s m args below meth c hC hr hlk => ?_)
  unfold f_X5_take
  refine s_lv (lv' := [(0, vR v0), (1, vI v1)]) [0, 1] rfl ?_
  refine s_aload_n hC 0 dX5_take_0 rfl ?_
  refine s_getI hC xc5 (by decide) rfl qf_X5_23 dX5_take_1 ?_
  refine s_if_lt hC dX5_take_4 (tgt := 40) (by decide) ?_ ?_
  · refine s_iconst hC dX5_take_40 (v := 0) (by decide) ?_
    exact s_zret hC hr hlk dX5_take_41
  refine s_aload_n hC 0 dX5_take_7 rfl ?_
  refine s_getI hC xc5 (by decide) rfl qf_X5_23 dX5_take_8 ?_
  refine s_aload_n hC 0 dX5_take_11 rfl ?_
  refine s_getI hC xc5 (by decide) rfl qf_X5_15 dX5_take_12 ?_
  refine s_icmp_ge hC dX5_take_15 (tgt := 40) (by decide) ?_ ?_
  · refine s_iconst hC dX5_take_40 (v := 0) (by decide) ?_
    exact s_zret hC hr hlk dX5_take_41
  refine s_aload_n hC 0 dX5_take_18 rfl ?_
  refine s_getI hC xc5 (by decide) rfl qf_X5_23 dX5_take_19 ?_
  refine s_bipush hC dX5_take_22 (v := 100) (by decide) ?_
  refine s_icmp_ge hC dX5_take_24 (tgt := 40) (by decide) ?_ ?_
  · refine s_iconst hC dX5_take_40 (v := 0) (by decide) ?_
    exact s_zret hC hr hlk dX5_take_41
  refine s_aload_n hC 0 dX5_take_27 rfl ?_
  refine s_getR hC xc5 (by decide) rfl qf_X5_9 dX5_take_28 ?_
  refine s_ltR (fun v3 => ?_)
  refine s_aload_n hC 0 dX5_take_31 rfl ?_
  refine s_getI hC xc5 (by decide) rfl qf_X5_23 dX5_take_32 ?_
  refine s_ltI (fun v4 => ?_)
  refine s_iald hC dX5_take_35 ?_
  refine s_iload_n hC 1 dX5_take_36 rfl ?_
  refine s_icmp_eq hC dX5_take_37 (tgt := 42) (by decide) ?_ ?_
  · refine s_aload_n hC 0 dX5_take_42 rfl ?_
    refine s_dupR hC dX5_take_43 ?_
    refine s_getI hC xc5 (by decide) rfl qf_X5_23 dX5_take_44 ?_
    refine s_iconst hC dX5_take_47 (v := 1) (by decide) ?_
    refine s_iadd hC dX5_take_48 ?_
    refine s_putI hC xc5 (by decide) rfl rfl qf_X5_23 dX5_take_49 ?_
    refine s_ltM (fun μ5 => ?_)
    refine s_iconst hC dX5_take_52 (v := 1) (by decide) ?_
    exact s_zret hC hr hlk dX5_take_53
  refine s_iconst hC dX5_take_40 (v := 0) (by decide) ?_
  exact s_zret hC hr hlk dX5_take_41
theorem dX5_wordOf_0 : decode cX5_wordOf 0 = .ok (.iload_n 0, 1) := by decide +kernel
theorem dX5_wordOf_1 : decode cX5_wordOf 1 = .ok (.tableswitch 43 0 3 #[31, 34, 37, 40], 31) := by decide +kernel
theorem dX5_wordOf_32 : decode cX5_wordOf 32 = .ok (.ldc 53, 2) := by decide +kernel
theorem dX5_wordOf_34 : decode cX5_wordOf 34 = .ok (.areturn, 1) := by decide +kernel
theorem dX5_wordOf_35 : decode cX5_wordOf 35 = .ok (.ldc 55, 2) := by decide +kernel
theorem dX5_wordOf_37 : decode cX5_wordOf 37 = .ok (.areturn, 1) := by decide +kernel
theorem dX5_wordOf_38 : decode cX5_wordOf 38 = .ok (.ldc 57, 2) := by decide +kernel
theorem dX5_wordOf_40 : decode cX5_wordOf 40 = .ok (.areturn, 1) := by decide +kernel
theorem dX5_wordOf_41 : decode cX5_wordOf 41 = .ok (.ldc 59, 2) := by decide +kernel
theorem dX5_wordOf_43 : decode cX5_wordOf 43 = .ok (.areturn, 1) := by decide +kernel
theorem dX5_wordOf_44 : decode cX5_wordOf 44 = .ok (.ldc 61, 2) := by decide +kernel
theorem dX5_wordOf_46 : decode cX5_wordOf 46 = .ok (.areturn, 1) := by decide +kernel
def f_X5_wordOf (X : x_X) (v0 : Int32) (μ : x_M) : Option (Nat × x_M) :=
  (x_swo [(0 : Int32), (1 : Int32), (2 : Int32), (3 : Int32)] [(some (811, μ)), (some (812, μ)), (some (813, μ)), (some (814, μ))] (some (815, μ)) v0)
set_option maxRecDepth 100000 in
theorem m_X5_wordOf (hI : x_I X) (v0 : Int32) (μ : x_M) : x_Met X x_Z0 l yX5_wordOf cX5_wordOf 1 (some (.object "java/lang/String")) 1 [vI v0] μ rkR (f_X5_wordOf X v0 μ) := by
  refine x_enter hI (by decide +kernel) (Nat.le_of_ble_eq_true rfl) (fun p e s m args below meth c hC hr hlk => ?_)
  unfold f_X5_wordOf
  refine s_lv (lv' := [(0, vI v0)]) [0] rfl ?_
  refine s_iload_n hC 0 dX5_wordOf_0 rfl ?_
  refine s_table hC dX5_wordOf_1 [((0 : Int32), 32), ((1 : Int32), 35), ((2 : Int32), 38), ((3 : Int32), 41)] 44 (by decide +kernel) ⟨?_, ?_, ?_, ?_, trivial⟩ ?_
  · refine s_ldcS hC dX5_wordOf_32 (id := 811) (List.mem_of_getElem? (i := 0) rfl) (by decide) ?_
    exact s_aret hC hr (Or.inl ⟨_, rfl⟩) hlk dX5_wordOf_34
  · refine s_ldcS hC dX5_wordOf_35 (id := 812) (List.mem_of_getElem? (i := 1) rfl) (by decide) ?_
    exact s_aret hC hr (Or.inl ⟨_, rfl⟩) hlk dX5_wordOf_37
  · refine s_ldcS hC dX5_wordOf_38 (id := 813) (List.mem_of_getElem? (i := 2) rfl) (by decide) ?_
    exact s_aret hC hr (Or.inl ⟨_, rfl⟩) hlk dX5_wordOf_40
  · refine s_ldcS hC dX5_wordOf_41 (id := 814) (List.mem_of_getElem? (i := 3) rfl) (by decide) ?_
    exact s_aret hC hr (Or.inl ⟨_, rfl⟩) hlk dX5_wordOf_43
  refine s_ldcS hC dX5_wordOf_44 (id := 815) (List.mem_of_getElem? (i := 4) rfl) (by decide) ?_
  exact s_aret hC hr (Or.inl ⟨_, rfl⟩) hlk dX5_wordOf_46
theorem dX5_add_0 : decode cX5_add 0 = .ok (.aload_n 0, 1) := by decide +kernel
theorem dX5_add_1 : decode cX5_add 1 = .ok (.getfield 15, 3) := by decide +kernel
theorem dX5_add_4 : decode cX5_add 4 = .ok (.iconst 0, 1) := by decide +kernel
theorem dX5_add_5 : decode cX5_add 5 = .ok (.bipush 99, 2) := by decide +kernel
theorem dX5_add_7 : decode cX5_add 7 = .ok (.invokestatic 19, 3) := by decide +kernel
theorem dX5_add_10 : decode cX5_add 10 = .ok (.ifCond .ne 6, 3) := by decide +kernel
theorem dX5_add_13 : decode cX5_add 13 = .ok (.bipush (-4), 2) := by decide +kernel
theorem dX5_add_15 : decode cX5_add 15 = .ok (.ireturn, 1) := by decide +kernel
theorem dX5_add_16 : decode cX5_add 16 = .ok (.aload_n 0, 1) := by decide +kernel
theorem dX5_add_17 : decode cX5_add 17 = .ok (.getfield 9, 3) := by decide +kernel
theorem dX5_add_20 : decode cX5_add 20 = .ok (.aload_n 0, 1) := by decide +kernel
theorem dX5_add_21 : decode cX5_add 21 = .ok (.getfield 15, 3) := by decide +kernel
theorem dX5_add_24 : decode cX5_add 24 = .ok (.iload_n 1, 1) := by decide +kernel
theorem dX5_add_25 : decode cX5_add 25 = .ok (.iastore, 1) := by decide +kernel
theorem dX5_add_26 : decode cX5_add 26 = .ok (.aload_n 0, 1) := by decide +kernel
theorem dX5_add_27 : decode cX5_add 27 = .ok (.dup, 1) := by decide +kernel
theorem dX5_add_28 : decode cX5_add 28 = .ok (.getfield 15, 3) := by decide +kernel
theorem dX5_add_31 : decode cX5_add 31 = .ok (.iconst 1, 1) := by decide +kernel
theorem dX5_add_32 : decode cX5_add 32 = .ok (.iadd, 1) := by decide +kernel
theorem dX5_add_33 : decode cX5_add 33 = .ok (.putfield 15, 3) := by decide +kernel
theorem dX5_add_36 : decode cX5_add 36 = .ok (.aload_n 0, 1) := by decide +kernel
theorem dX5_add_37 : decode cX5_add 37 = .ok (.getfield 15, 3) := by decide +kernel
theorem dX5_add_40 : decode cX5_add 40 = .ok (.ireturn, 1) := by decide +kernel
def f_X5_add (X : x_X) (v0 : Nat) (v1 : Int32) (μ : x_M) : Option (Int32 × x_M) :=
  (ck (x_kd X v0 = 5 + 1) (bd (f_X9_within X (μ.1 v0 1) (0 : Int32) (99 : Int32) μ) (fun (v3 : Int32) (μ4 : x_M) => (if v3 = 0 then (some ((-4 : Int32), μ4)) else (ck (x_kd X v0 = 5 + 1) (lt (μ4.2.1 v0 0) (fun (v5 : Nat) => (ck (x_kd X v0 = 5 + 1) (lt (μ4.1 v0 1) (fun (v6 : Int32) => (ck (x_kd X v5 = 20 ∧ x_ix v6 (x_ln X v5)) (lt (x_sI μ4 v5 (v6).toNatClampNeg v1) (fun (μ7 : x_M) => (ck (x_kd X v0 = 5 + 1) (ck (x_kd X v0 = 5 + 1) (lt (x_sI μ7 v0 1 ((μ7.1 v0 1) + (1 : Int32))) (fun (μ8 : x_M) => (ck (x_kd X v0 = 5 + 1) (some ((μ8.1 v0 1), μ8))))))))))))))))))))
set_option maxRecDepth 100000 in
theorem m_X5_add (hI : x_I X) (v0 : Nat) (v1 : Int32) (μ : x_M) : x_Met X x_Z0 l yX5_add cX5_add 2 (some .int) 2 [vR v0, vI v1] μ rkI (f_X5_add X v0 v1 μ) := by
  refine x_enter hI (by decide +kernel) (Nat.le_of_ble_eq_true rfl) (fun p e s m args below meth c hC hr hlk => ?_)
  unfold f_X5_add
  refine s_lv (lv' := [(0, vR v0), (1, vI v1)]) [0, 1] rfl ?_
  refine s_aload_n hC 0 dX5_add_0 rfl ?_
  refine s_getI hC xc5 (by decide) rfl qf_X5_15 dX5_add_1 ?_
  refine s_iconst hC dX5_add_4 (v := 0) (by decide) ?_
  refine s_bipush hC dX5_add_5 (v := 99) (by decide) ?_
  refine s_callS hC (avs := [vI (μ.1 v0 1), vI (0 : Int32), vI (99 : Int32)]) (st := []) (nest := true) (m_X9_within hI (μ.1 v0 1) (0 : Int32) (99 : Int32) μ) dX5_add_7 qm_X5_19 qt_X9_within qc_X9 qd_X9_within qh_X9_within (by decide) (fun _ => Nat.le_of_ble_eq_true rfl) (Nat.le_of_ble_eq_true rfl) (fun v3 μ4 => ?_)
  refine s_if_ne hC dX5_add_10 (tgt := 16) (by decide) ?_ ?_
  · refine s_aload_n hC 0 dX5_add_16 rfl ?_
    refine s_getR hC xc5 (by decide) rfl qf_X5_9 dX5_add_17 ?_
    refine s_ltR (fun v5 => ?_)
    refine s_aload_n hC 0 dX5_add_20 rfl ?_
    refine s_getI hC xc5 (by decide) rfl qf_X5_15 dX5_add_21 ?_
    refine s_iload_n hC 1 dX5_add_24 rfl ?_
    refine s_ltI2 (fun v6 => ?_)
    refine s_iast hC dX5_add_25 ?_
    refine s_ltM (fun μ7 => ?_)
    refine s_aload_n hC 0 dX5_add_26 rfl ?_
    refine s_dupR hC dX5_add_27 ?_
    refine s_getI hC xc5 (by decide) rfl qf_X5_15 dX5_add_28 ?_
    refine s_iconst hC dX5_add_31 (v := 1) (by decide) ?_
    refine s_iadd hC dX5_add_32 ?_
    refine s_putI hC xc5 (by decide) rfl rfl qf_X5_15 dX5_add_33 ?_
    refine s_ltM (fun μ8 => ?_)
    refine s_aload_n hC 0 dX5_add_36 rfl ?_
    refine s_getI hC xc5 (by decide) rfl qf_X5_15 dX5_add_37 ?_
    exact s_iret hC hr hlk dX5_add_40
  refine s_bipush hC dX5_add_13 (v := -4) (by decide) ?_
  exact s_iret hC hr hlk dX5_add_15
theorem dX5_takeNumber_0 : decode cX5_takeNumber 0 = .ok (.iconst (-1), 1) := by decide +kernel
theorem dX5_takeNumber_1 : decode cX5_takeNumber 1 = .ok (.istore_n 1, 1) := by decide +kernel
theorem dX5_takeNumber_2 : decode cX5_takeNumber 2 = .ok (.iconst 0, 1) := by decide +kernel
theorem dX5_takeNumber_3 : decode cX5_takeNumber 3 = .ok (.istore_n 2, 1) := by decide +kernel
theorem dX5_takeNumber_4 : decode cX5_takeNumber 4 = .ok (.iload_n 2, 1) := by decide +kernel
theorem dX5_takeNumber_5 : decode cX5_takeNumber 5 = .ok (.iconst 2, 1) := by decide +kernel
theorem dX5_takeNumber_6 : decode cX5_takeNumber 6 = .ok (.if_icmp .ge 68, 3) := by decide +kernel
theorem dX5_takeNumber_9 : decode cX5_takeNumber 9 = .ok (.aload_n 0, 1) := by decide +kernel
theorem dX5_takeNumber_10 : decode cX5_takeNumber 10 = .ok (.getfield 23, 3) := by decide +kernel
theorem dX5_takeNumber_13 : decode cX5_takeNumber 13 = .ok (.aload_n 0, 1) := by decide +kernel
theorem dX5_takeNumber_14 : decode cX5_takeNumber 14 = .ok (.getfield 15, 3) := by decide +kernel
theorem dX5_takeNumber_17 : decode cX5_takeNumber 17 = .ok (.if_icmp .ge 57, 3) := by decide +kernel
theorem dX5_takeNumber_20 : decode cX5_takeNumber 20 = .ok (.aload_n 0, 1) := by decide +kernel
theorem dX5_takeNumber_21 : decode cX5_takeNumber 21 = .ok (.getfield 9, 3) := by decide +kernel
theorem dX5_takeNumber_24 : decode cX5_takeNumber 24 = .ok (.aload_n 0, 1) := by decide +kernel
theorem dX5_takeNumber_25 : decode cX5_takeNumber 25 = .ok (.getfield 23, 3) := by decide +kernel
theorem dX5_takeNumber_28 : decode cX5_takeNumber 28 = .ok (.invokestatic 81, 3) := by decide +kernel
theorem dX5_takeNumber_31 : decode cX5_takeNumber 31 = .ok (.bipush 48, 2) := by decide +kernel
theorem dX5_takeNumber_33 : decode cX5_takeNumber 33 = .ok (.isub, 1) := by decide +kernel
theorem dX5_takeNumber_34 : decode cX5_takeNumber 34 = .ok (.istore_n 3, 1) := by decide +kernel
theorem dX5_takeNumber_35 : decode cX5_takeNumber 35 = .ok (.iload_n 3, 1) := by decide +kernel
theorem dX5_takeNumber_36 : decode cX5_takeNumber 36 = .ok (.ifCond .lt 9, 3) := by decide +kernel
theorem dX5_takeNumber_39 : decode cX5_takeNumber 39 = .ok (.iload_n 3, 1) := by decide +kernel
theorem dX5_takeNumber_40 : decode cX5_takeNumber 40 = .ok (.bipush 9, 2) := by decide +kernel
theorem dX5_takeNumber_42 : decode cX5_takeNumber 42 = .ok (.if_icmp .le 5, 3) := by decide +kernel
theorem dX5_takeNumber_45 : decode cX5_takeNumber 45 = .ok (.iload_n 1, 1) := by decide +kernel
theorem dX5_takeNumber_46 : decode cX5_takeNumber 46 = .ok (.ireturn, 1) := by decide +kernel
theorem dX5_takeNumber_47 : decode cX5_takeNumber 47 = .ok (.iload_n 1, 1) := by decide +kernel
theorem dX5_takeNumber_48 : decode cX5_takeNumber 48 = .ok (.iconst 0, 1) := by decide +kernel
theorem dX5_takeNumber_49 : decode cX5_takeNumber 49 = .ok (.invokestatic 75, 3) := by decide +kernel
theorem dX5_takeNumber_52 : decode cX5_takeNumber 52 = .ok (.bipush 10, 2) := by decide +kernel
theorem dX5_takeNumber_54 : decode cX5_takeNumber 54 = .ok (.imul, 1) := by decide +kernel
theorem dX5_takeNumber_55 : decode cX5_takeNumber 55 = .ok (.iload_n 3, 1) := by decide +kernel
theorem dX5_takeNumber_56 : decode cX5_takeNumber 56 = .ok (.iadd, 1) := by decide +kernel
theorem dX5_takeNumber_57 : decode cX5_takeNumber 57 = .ok (.istore_n 1, 1) := by decide +kernel
theorem dX5_takeNumber_58 : decode cX5_takeNumber 58 = .ok (.aload_n 0, 1) := by decide +kernel
theorem dX5_takeNumber_59 : decode cX5_takeNumber 59 = .ok (.dup, 1) := by decide +kernel
theorem dX5_takeNumber_60 : decode cX5_takeNumber 60 = .ok (.getfield 23, 3) := by decide +kernel
theorem dX5_takeNumber_63 : decode cX5_takeNumber 63 = .ok (.iconst 1, 1) := by decide +kernel
theorem dX5_takeNumber_64 : decode cX5_takeNumber 64 = .ok (.iadd, 1) := by decide +kernel
theorem dX5_takeNumber_65 : decode cX5_takeNumber 65 = .ok (.putfield 23, 3) := by decide +kernel
theorem dX5_takeNumber_68 : decode cX5_takeNumber 68 = .ok (.iinc 2 1, 3) := by decide +kernel
theorem dX5_takeNumber_71 : decode cX5_takeNumber 71 = .ok (.goto (-67), 3) := by decide +kernel
theorem dX5_takeNumber_74 : decode cX5_takeNumber 74 = .ok (.iload_n 1, 1) := by decide +kernel
theorem dX5_takeNumber_75 : decode cX5_takeNumber 75 = .ok (.ireturn, 1) := by decide +kernel
def f_X5_takeNumber_L4 (X : x_X) : Nat → Nat → Int32 → Int32 → x_M → Option (Int32 × x_M)
  | 0, _, _, _, _ => none
  | n + 1, v2, v3, v4, μ5 =>
    (if (2 : Int32) ≤ v4 then (some (v3, μ5)) else (ck (x_kd X v2 = 5 + 1) (ck (x_kd X v2 = 5 + 1) (if (μ5.1 v2 1) ≤ (μ5.1 v2 2) then (some (v3, μ5)) else (ck (x_kd X v2 = 5 + 1) (lt (μ5.2.1 v2 0) (fun (v6 : Nat) => (ck (x_kd X v2 = 5 + 1) (bd (f_X9_at X v6 (μ5.1 v2 2) μ5) (fun (v7 : Int32) (μ8 : x_M) => (lt (v7 - (48 : Int32)) (fun (v9 : Int32) => (if v9 < 0 then (some (v3, μ8)) else (if v9 ≤ (9 : Int32) then (lt (((if v3 < (0 : Int32) then (0 : Int32) else v3) * (10 : Int32)) + v9) (fun (v10 : Int32) => (ck (x_kd X v2 = 5 + 1) (ck (x_kd X v2 = 5 + 1) (lt (x_sI μ8 v2 2 ((μ8.1 v2 2) + (1 : Int32))) (fun (μ11 : x_M) => (f_X5_takeNumber_L4 X n v2 v10 (v4 + (1 : Int32)) μ11))))))) else (some (v3, μ8))))))))))))))))
set_option maxRecDepth 100000 in
theorem j_X5_takeNumber_L4 (hI : x_I X) (hC : x_C X x_Z0 p (x_rm 2) s m c cX5_takeNumber RX5 4 0 0 2) (hr : meth.sig.returnType = (some .int)) (hlk : meth.locks = false) : ∀ (n : Nat) (v2 : Nat) (v3 : Int32) (v4 : Int32) (μ5 : x_M), SM X 4 2 rkI p l e s m args below meth c 4 [(0, vR v2), (1, vI v3), (2, vI v4)] [] μ5 (f_X5_takeNumber_L4 X n v2 v3 v4 μ5) := by
  intro n
  induction n with
  | zero => intro v2 v3 v4 μ5; exact s_none
  | succ n ih =>
    intro v2 v3 v4 μ5
    unfold f_X5_takeNumber_L4
    refine s_iload_n hC 2 dX5_takeNumber_4 rfl ?_
    refine s_iconst hC dX5_takeNumber_5 (v := 2) (by decide) ?_
    refine s_icmp_ge hC dX5_takeNumber_6 (tgt := 74) (by decide) ?_ ?_
    · refine s_iload_n hC 1 dX5_takeNumber_74 rfl ?_
      exact s_iret hC hr hlk dX5_takeNumber_75
    refine s_aload_n hC 0 dX5_takeNumber_9 rfl ?_
    refine s_getI hC xc5 (by decide) rfl qf_X5_23 dX5_takeNumber_10 ?_
    refine s_aload_n hC 0 dX5_takeNumber_13 rfl ?_
    refine s_getI hC xc5 (by decide) rfl qf_X5_15 dX5_takeNumber_14 ?_
    refine s_icmp_ge hC dX5_takeNumber_17 (tgt := 74) (by decide) ?_ ?_
    · refine s_iload_n hC 1 dX5_takeNumber_74 rfl ?_
      exact s_iret hC hr hlk dX5_takeNumber_75
    refine s_aload_n hC 0 dX5_takeNumber_20 rfl ?_
    refine s_getR hC xc5 (by decide) rfl qf_X5_9 dX5_takeNumber_21 ?_
    refine s_ltR (fun v6 => ?_)
    refine s_aload_n hC 0 dX5_takeNumber_24 rfl ?_
    refine s_getI hC xc5 (by decide) rfl qf_X5_23 dX5_takeNumber_25 ?_
    refine s_callS hC (avs := [vR v6, vI (μ5.1 v2 2)]) (st := []) (nest := true) (m_X9_at hI v6 (μ5.1 v2 2) μ5) dX5_takeNumber_28 qm_X5_81 qt_X9_at qc_X9 qd_X9_at qh_X9_at (by decide) (fun _ => Nat.le_of_ble_eq_true rfl) (Nat.le_of_ble_eq_true rfl) (fun v7 μ8 => ?_)
    refine s_bipush hC dX5_takeNumber_31 (v := 48) (by decide) ?_
    refine s_isub hC dX5_takeNumber_33 ?_
    refine s_ltI (fun v9 => ?_)
    refine s_istore_n hC dX5_takeNumber_34 (by decide) (lv' := [(3, vI v9), (0, vR v2), (1, vI v3), (2, vI v4)]) rfl ?_
    refine s_iload_n hC 0 dX5_takeNumber_35 rfl ?_
    refine s_if_lt hC dX5_takeNumber_36 (tgt := 45) (by decide) ?_ ?_
    · refine s_iload_n hC 2 dX5_takeNumber_45 rfl ?_
      exact s_iret hC hr hlk dX5_takeNumber_46
    refine s_iload_n hC 0 dX5_takeNumber_39 rfl ?_
    refine s_bipush hC dX5_takeNumber_40 (v := 9) (by decide) ?_
    refine s_icmp_le hC dX5_takeNumber_42 (tgt := 47) (by decide) ?_ ?_
    · refine s_iload_n hC 2 dX5_takeNumber_47 rfl ?_
      refine s_iconst hC dX5_takeNumber_48 (v := 0) (by decide) ?_
      refine s_max hC dX5_takeNumber_49 qm_X5_75 qt_Math_max qc_Math qd_Math_max (by decide) (Nat.le_of_ble_eq_true rfl) ?_
      refine s_bipush hC dX5_takeNumber_52 (v := 10) (by decide) ?_
      refine s_imul hC dX5_takeNumber_54 ?_
      refine s_iload_n hC 0 dX5_takeNumber_55 rfl ?_
      refine s_iadd hC dX5_takeNumber_56 ?_
      refine s_ltI (fun v10 => ?_)
      refine s_istore_n hC dX5_takeNumber_57 (by decide) (lv' := [(1, vI v10), (3, vI v9), (0, vR v2), (2, vI v4)]) rfl ?_
      refine s_aload_n hC 2 dX5_takeNumber_58 rfl ?_
      refine s_dupR hC dX5_takeNumber_59 ?_
      refine s_getI hC xc5 (by decide) rfl qf_X5_23 dX5_takeNumber_60 ?_
      refine s_iconst hC dX5_takeNumber_63 (v := 1) (by decide) ?_
      refine s_iadd hC dX5_takeNumber_64 ?_
      refine s_putI hC xc5 (by decide) rfl rfl qf_X5_23 dX5_takeNumber_65 ?_
      refine s_ltM (fun μ11 => ?_)
      refine s_iinc hC 3 dX5_takeNumber_68 rfl (w := 1) (by decide) (by decide) (lv' := [(2, vI (v4 + (1 : Int32))), (1, vI v10), (3, vI v9), (0, vR v2)]) rfl ?_
      refine s_goto hC dX5_takeNumber_71 (tgt := 4) (by decide) ?_
      refine s_lv (lv' := [(0, vR v2), (1, vI v10), (2, vI (v4 + (1 : Int32)))]) [3, 1, 0] rfl ?_
      exact ih _ _ _ _
    refine s_iload_n hC 2 dX5_takeNumber_45 rfl ?_
    exact s_iret hC hr hlk dX5_takeNumber_46
def f_X5_takeNumber (X : x_X) (v0 : Nat) (μ : x_M) : Option (Int32 × x_M) :=
  (f_X5_takeNumber_L4 X 4096 v0 (-1 : Int32) (0 : Int32) μ)
set_option maxRecDepth 100000 in
theorem m_X5_takeNumber (hI : x_I X) (v0 : Nat) (μ : x_M) : x_Met X x_Z0 l yX5_takeNumber cX5_takeNumber 4 (some .int) 2 [vR v0] μ rkI (f_X5_takeNumber X v0 μ) := by
  refine x_enter hI (by decide +kernel) (Nat.le_of_ble_eq_true rfl) (fun p e s m args below meth c hC hr hlk => ?_)
  unfold f_X5_takeNumber
  refine s_lv (lv' := [(0, vR v0)]) [0] rfl ?_
  refine s_iconst hC dX5_takeNumber_0 (v := -1) (by decide) ?_
  refine s_istore_n hC dX5_takeNumber_1 (by decide) (lv' := [(1, vI (-1 : Int32)), (0, vR v0)]) rfl ?_
  refine s_iconst hC dX5_takeNumber_2 (v := 0) (by decide) ?_
  refine s_istore_n hC dX5_takeNumber_3 (by decide) (lv' := [(2, vI (0 : Int32)), (1, vI (-1 : Int32)), (0, vR v0)]) rfl ?_
  refine s_lv (lv' := [(0, vR v0), (1, vI (-1 : Int32)), (2, vI (0 : Int32))]) [2, 1, 0] rfl ?_
  refine j_X5_takeNumber_L4 hI hC hr hlk 4096 _ _ _ _
theorem dX5_sameSigns_0 : decode cX5_sameSigns 0 = .ok (.iconst 0, 1) := by decide +kernel
theorem dX5_sameSigns_1 : decode cX5_sameSigns 1 = .ok (.istore_n 2, 1) := by decide +kernel
theorem dX5_sameSigns_2 : decode cX5_sameSigns 2 = .ok (.iload_n 2, 1) := by decide +kernel
theorem dX5_sameSigns_3 : decode cX5_sameSigns 3 = .ok (.aload_n 1, 1) := by decide +kernel
theorem dX5_sameSigns_4 : decode cX5_sameSigns 4 = .ok (.invokevirtual 71, 3) := by decide +kernel
theorem dX5_sameSigns_7 : decode cX5_sameSigns 7 = .ok (.if_icmp .ge 45, 3) := by decide +kernel
theorem dX5_sameSigns_10 : decode cX5_sameSigns 10 = .ok (.aload_n 0, 1) := by decide +kernel
theorem dX5_sameSigns_11 : decode cX5_sameSigns 11 = .ok (.getfield 23, 3) := by decide +kernel
theorem dX5_sameSigns_14 : decode cX5_sameSigns 14 = .ok (.iload_n 2, 1) := by decide +kernel
theorem dX5_sameSigns_15 : decode cX5_sameSigns 15 = .ok (.iadd, 1) := by decide +kernel
theorem dX5_sameSigns_16 : decode cX5_sameSigns 16 = .ok (.aload_n 0, 1) := by decide +kernel
theorem dX5_sameSigns_17 : decode cX5_sameSigns 17 = .ok (.getfield 15, 3) := by decide +kernel
theorem dX5_sameSigns_20 : decode cX5_sameSigns 20 = .ok (.if_icmp .ge 24, 3) := by decide +kernel
theorem dX5_sameSigns_23 : decode cX5_sameSigns 23 = .ok (.aload_n 0, 1) := by decide +kernel
theorem dX5_sameSigns_24 : decode cX5_sameSigns 24 = .ok (.getfield 9, 3) := by decide +kernel
theorem dX5_sameSigns_27 : decode cX5_sameSigns 27 = .ok (.aload_n 0, 1) := by decide +kernel
theorem dX5_sameSigns_28 : decode cX5_sameSigns 28 = .ok (.getfield 23, 3) := by decide +kernel
theorem dX5_sameSigns_31 : decode cX5_sameSigns 31 = .ok (.iload_n 2, 1) := by decide +kernel
theorem dX5_sameSigns_32 : decode cX5_sameSigns 32 = .ok (.iadd, 1) := by decide +kernel
theorem dX5_sameSigns_33 : decode cX5_sameSigns 33 = .ok (.invokestatic 81, 3) := by decide +kernel
theorem dX5_sameSigns_36 : decode cX5_sameSigns 36 = .ok (.aload_n 1, 1) := by decide +kernel
theorem dX5_sameSigns_37 : decode cX5_sameSigns 37 = .ok (.iload_n 2, 1) := by decide +kernel
theorem dX5_sameSigns_38 : decode cX5_sameSigns 38 = .ok (.invokevirtual 85, 3) := by decide +kernel
theorem dX5_sameSigns_41 : decode cX5_sameSigns 41 = .ok (.if_icmp .eq 5, 3) := by decide +kernel
theorem dX5_sameSigns_44 : decode cX5_sameSigns 44 = .ok (.iload_n 2, 1) := by decide +kernel
theorem dX5_sameSigns_45 : decode cX5_sameSigns 45 = .ok (.ireturn, 1) := by decide +kernel
theorem dX5_sameSigns_46 : decode cX5_sameSigns 46 = .ok (.iinc 2 1, 3) := by decide +kernel
theorem dX5_sameSigns_49 : decode cX5_sameSigns 49 = .ok (.goto (-47), 3) := by decide +kernel
theorem dX5_sameSigns_52 : decode cX5_sameSigns 52 = .ok (.aload_n 1, 1) := by decide +kernel
theorem dX5_sameSigns_53 : decode cX5_sameSigns 53 = .ok (.invokevirtual 71, 3) := by decide +kernel
theorem dX5_sameSigns_56 : decode cX5_sameSigns 56 = .ok (.ireturn, 1) := by decide +kernel
def f_X5_sameSigns_L2 (X : x_X) : Nat → Nat → Nat → Int32 → x_M → Option (Int32 × x_M)
  | 0, _, _, _, _ => none
  | n + 1, v3, v4, v5, μ6 =>
    (ck (x_kd X v4 = 50) (bd (f_J0_length_8abf5 X v4 μ6) (fun (v7 : Int32) (μ8 : x_M) => (if v7 ≤ v5 then (ck (x_kd X v4 = 50) (bd (f_J0_length_8abf5 X v4 μ8) (fun (v9 : Int32) (μ10 : x_M) => (some (v9, μ10))))) else (ck (x_kd X v3 = 5 + 1) (ck (x_kd X v3 = 5 + 1) (if (μ8.1 v3 1) ≤ ((μ8.1 v3 2) + v5) then (some (v5, μ8)) else (ck (x_kd X v3 = 5 + 1) (lt (μ8.2.1 v3 0) (fun (v11 : Nat) => (ck (x_kd X v3 = 5 + 1) (bd (f_X9_at X v11 ((μ8.1 v3 2) + v5) μ8) (fun (v12 : Int32) (μ13 : x_M) => (ck (x_kd X v4 = 50) (bd (f_J0_charAt_5068e X v4 v5 μ13) (fun (v14 : Int32) (μ15 : x_M) => (if v12 = v14 then (f_X5_sameSigns_L2 X n v3 v4 (v5 + (1 : Int32)) μ15) else (some (v5, μ15)))))))))))))))))))
set_option maxRecDepth 100000 in
theorem j_X5_sameSigns_L2 (hI : x_I X) (hC : x_C X x_Z0 p (x_rm 5) s m c cX5_sameSigns RX5 3 0 0 5) (hr : meth.sig.returnType = (some .int)) (hlk : meth.locks = false) : ∀ (n : Nat) (v3 : Nat) (v4 : Nat) (v5 : Int32) (μ6 : x_M), SM X 3 5 rkI p l e s m args below meth c 2 [(0, vR v3), (1, vR v4), (2, vI v5)] [] μ6 (f_X5_sameSigns_L2 X n v3 v4 v5 μ6) := by
  intro n
  induction n with
  | zero => intro v3 v4 v5 μ6; exact s_none
  | succ n ih =>
    intro v3 v4 v5 μ6
    unfold f_X5_sameSigns_L2
    refine s_iload_n hC 2 dX5_sameSigns_2 rfl ?_
    refine s_aload_n hC 1 dX5_sameSigns_3 rfl ?_
    refine s_callStr hC (x := v4) (avs := []) (st := [vI v5]) (nest := false) (m_J0_length_8abf5 hI v4 μ6) dX5_sameSigns_4 qm_X5_71 qi_J0_length_8abf5 qs_J0_length_8abf5 qc_J0 qd_J0_length_8abf5 qh_J0_length_8abf5 ((by decide)) (fun _ => Nat.le_of_ble_eq_true rfl) (Nat.le_of_ble_eq_true rfl) (fun v7 μ8 => ?_)
    refine s_icmp_ge hC dX5_sameSigns_7 (tgt := 52) (by decide) ?_ ?_
    · refine s_aload_n hC 1 dX5_sameSigns_52 rfl ?_
      refine s_callStr hC (x := v4) (avs := []) (st := []) (nest := false) (m_J0_length_8abf5 hI v4 μ8) dX5_sameSigns_53 qm_X5_71 qi_J0_length_8abf5 qs_J0_length_8abf5 qc_J0 qd_J0_length_8abf5 qh_J0_length_8abf5 ((by decide)) (fun _ => Nat.le_of_ble_eq_true rfl) (Nat.le_of_ble_eq_true rfl) (fun v9 μ10 => ?_)
      exact s_iret hC hr hlk dX5_sameSigns_56
    refine s_aload_n hC 0 dX5_sameSigns_10 rfl ?_
    refine s_getI hC xc5 (by decide) rfl qf_X5_23 dX5_sameSigns_11 ?_
    refine s_iload_n hC 2 dX5_sameSigns_14 rfl ?_
    refine s_iadd hC dX5_sameSigns_15 ?_
    refine s_aload_n hC 0 dX5_sameSigns_16 rfl ?_
    refine s_getI hC xc5 (by decide) rfl qf_X5_15 dX5_sameSigns_17 ?_
    refine s_icmp_ge hC dX5_sameSigns_20 (tgt := 44) (by decide) ?_ ?_
    · refine s_iload_n hC 2 dX5_sameSigns_44 rfl ?_
      exact s_iret hC hr hlk dX5_sameSigns_45
    refine s_aload_n hC 0 dX5_sameSigns_23 rfl ?_
    refine s_getR hC xc5 (by decide) rfl qf_X5_9 dX5_sameSigns_24 ?_
    refine s_ltR (fun v11 => ?_)
    refine s_aload_n hC 0 dX5_sameSigns_27 rfl ?_
    refine s_getI hC xc5 (by decide) rfl qf_X5_23 dX5_sameSigns_28 ?_
    refine s_iload_n hC 2 dX5_sameSigns_31 rfl ?_
    refine s_iadd hC dX5_sameSigns_32 ?_
    refine s_callS hC (avs := [vR v11, vI ((μ8.1 v3 2) + v5)]) (st := []) (nest := true) (m_X9_at hI v11 ((μ8.1 v3 2) + v5) μ8) dX5_sameSigns_33 qm_X5_81 qt_X9_at qc_X9 qd_X9_at qh_X9_at (by decide) (fun _ => Nat.le_of_ble_eq_true rfl) (Nat.le_of_ble_eq_true rfl) (fun v12 μ13 => ?_)
    refine s_aload_n hC 1 dX5_sameSigns_36 rfl ?_
    refine s_iload_n hC 2 dX5_sameSigns_37 rfl ?_
    refine s_callStr hC (x := v4) (avs := [vI v5]) (st := [vI v12]) (nest := false) (m_J0_charAt_5068e hI v4 v5 μ13) dX5_sameSigns_38 qm_X5_85 qi_J0_charAt_5068e qs_J0_charAt_5068e qc_J0 qd_J0_charAt_5068e qh_J0_charAt_5068e ((by decide)) (fun _ => Nat.le_of_ble_eq_true rfl) (Nat.le_of_ble_eq_true rfl) (fun v14 μ15 => ?_)
    refine s_icmp_eq hC dX5_sameSigns_41 (tgt := 46) (by decide) ?_ ?_
    · refine s_iinc hC 2 dX5_sameSigns_46 rfl (w := 1) (by decide) (by decide) (lv' := [(2, vI (v5 + (1 : Int32))), (0, vR v3), (1, vR v4)]) rfl ?_
      refine s_goto hC dX5_sameSigns_49 (tgt := 2) (by decide) ?_
      refine s_lv (lv' := [(0, vR v3), (1, vR v4), (2, vI (v5 + (1 : Int32)))]) [1, 2, 0] rfl ?_
      exact ih _ _ _ _
    refine s_iload_n hC 2 dX5_sameSigns_44 rfl ?_
    exact s_iret hC hr hlk dX5_sameSigns_45
def f_X5_sameSigns (X : x_X) (v0 : Nat) (v1 : Nat) (μ : x_M) : Option (Int32 × x_M) :=
  (f_X5_sameSigns_L2 X 4096 v0 v1 (0 : Int32) μ)
set_option maxRecDepth 100000 in
theorem m_X5_sameSigns (hI : x_I X) (v0 : Nat) (v1 : Nat) (μ : x_M) : x_Met X x_Z0 l yX5_sameSigns cX5_sameSigns 3 (some .int) 5 [vR v0, vR v1] μ rkI (f_X5_sameSigns X v0 v1 μ) := by
  refine x_enter hI (by decide +kernel) (Nat.le_of_ble_eq_true rfl) (fun p e s m args below meth c hC hr hlk => ?_)
  unfold f_X5_sameSigns
  refine s_lv (lv' := [(0, vR v0), (1, vR v1)]) [0, 1] rfl ?_
  refine s_iconst hC dX5_sameSigns_0 (v := 0) (by decide) ?_
  refine s_istore_n hC dX5_sameSigns_1 (by decide) (lv' := [(2, vI (0 : Int32)), (0, vR v0), (1, vR v1)]) rfl ?_
  refine s_lv (lv' := [(0, vR v0), (1, vR v1), (2, vI (0 : Int32))]) [1, 2, 0] rfl ?_
  refine j_X5_sameSigns_L2 hI hC hr hlk 4096 _ _ _ _
theorem dX5_takeOneOf_0 : decode cX5_takeOneOf 0 = .ok (.aload_n 0, 1) := by decide +kernel
theorem dX5_takeOneOf_1 : decode cX5_takeOneOf 1 = .ok (.getfield 23, 3) := by decide +kernel
theorem dX5_takeOneOf_4 : decode cX5_takeOneOf 4 = .ok (.aload_n 0, 1) := by decide +kernel
theorem dX5_takeOneOf_5 : decode cX5_takeOneOf 5 = .ok (.getfield 15, 3) := by decide +kernel
theorem dX5_takeOneOf_8 : decode cX5_takeOneOf 8 = .ok (.if_icmp .ge 22, 3) := by decide +kernel
theorem dX5_takeOneOf_11 : decode cX5_takeOneOf 11 = .ok (.aload_n 1, 1) := by decide +kernel
theorem dX5_takeOneOf_12 : decode cX5_takeOneOf 12 = .ok (.aload_n 0, 1) := by decide +kernel
theorem dX5_takeOneOf_13 : decode cX5_takeOneOf 13 = .ok (.getfield 9, 3) := by decide +kernel
theorem dX5_takeOneOf_16 : decode cX5_takeOneOf 16 = .ok (.aload_n 0, 1) := by decide +kernel
theorem dX5_takeOneOf_17 : decode cX5_takeOneOf 17 = .ok (.getfield 23, 3) := by decide +kernel
theorem dX5_takeOneOf_20 : decode cX5_takeOneOf 20 = .ok (.invokestatic 81, 3) := by decide +kernel
theorem dX5_takeOneOf_23 : decode cX5_takeOneOf 23 = .ok (.i2c, 1) := by decide +kernel
theorem dX5_takeOneOf_24 : decode cX5_takeOneOf 24 = .ok (.invokevirtual 110, 3) := by decide +kernel
theorem dX5_takeOneOf_27 : decode cX5_takeOneOf 27 = .ok (.goto 4, 3) := by decide +kernel
theorem dX5_takeOneOf_30 : decode cX5_takeOneOf 30 = .ok (.iconst (-1), 1) := by decide +kernel
theorem dX5_takeOneOf_31 : decode cX5_takeOneOf 31 = .ok (.istore_n 2, 1) := by decide +kernel
theorem dX5_takeOneOf_32 : decode cX5_takeOneOf 32 = .ok (.iload_n 2, 1) := by decide +kernel
theorem dX5_takeOneOf_33 : decode cX5_takeOneOf 33 = .ok (.ifCond .lt 13, 3) := by decide +kernel
theorem dX5_takeOneOf_36 : decode cX5_takeOneOf 36 = .ok (.aload_n 0, 1) := by decide +kernel
theorem dX5_takeOneOf_37 : decode cX5_takeOneOf 37 = .ok (.dup, 1) := by decide +kernel
theorem dX5_takeOneOf_38 : decode cX5_takeOneOf 38 = .ok (.getfield 23, 3) := by decide +kernel
theorem dX5_takeOneOf_41 : decode cX5_takeOneOf 41 = .ok (.iconst 1, 1) := by decide +kernel
theorem dX5_takeOneOf_42 : decode cX5_takeOneOf 42 = .ok (.iadd, 1) := by decide +kernel
theorem dX5_takeOneOf_43 : decode cX5_takeOneOf 43 = .ok (.putfield 23, 3) := by decide +kernel
theorem dX5_takeOneOf_46 : decode cX5_takeOneOf 46 = .ok (.iload_n 2, 1) := by decide +kernel
theorem dX5_takeOneOf_47 : decode cX5_takeOneOf 47 = .ok (.ireturn, 1) := by decide +kernel
def f_X5_takeOneOf (X : x_X) (v0 : Nat) (v1 : Nat) (μ : x_M) : Option (Int32 × x_M) :=
  (ck (x_kd X v0 = 5 + 1) (ck (x_kd X v0 = 5 + 1) (if (μ.1 v0 1) ≤ (μ.1 v0 2) then (if (-1 : Int32) < 0 then (some ((-1 : Int32), μ)) else (ck (x_kd X v0 = 5 + 1) (ck (x_kd X v0 = 5 + 1) (lt (x_sI μ v0 2 ((μ.1 v0 2) + (1 : Int32))) (fun (μ3 : x_M) => (some ((-1 : Int32), μ3))))))) else (ck (x_kd X v0 = 5 + 1) (lt (μ.2.1 v0 0) (fun (v4 : Nat) => (ck (x_kd X v0 = 5 + 1) (bd (f_X9_at X v4 (μ.1 v0 2) μ) (fun (v5 : Int32) (μ6 : x_M) => (ck (x_kd X v1 = 50) (bd (f_J0_indexOf_0f7a4 X v1 (((v5).toUInt32 % 65536).toInt32) μ6) (fun (v7 : Int32) (μ8 : x_M) => (if v7 < 0 then (some (v7, μ8)) else (ck (x_kd X v0 = 5 + 1) (ck (x_kd X v0 = 5 + 1) (lt (x_sI μ8 v0 2 ((μ8.1 v0 2) + (1 : Int32))) (fun (μ9 : x_M) => (some (v7, μ9)))))))))))))))))))
set_option maxRecDepth 100000 in
theorem m_X5_takeOneOf (hI : x_I X) (v0 : Nat) (v1 : Nat) (μ : x_M) : x_Met X x_Z0 l yX5_takeOneOf cX5_takeOneOf 3 (some .int) 5 [vR v0, vR v1] μ rkI (f_X5_takeOneOf X v0 v1 μ) := by
  refine x_enter hI (by decide +kernel) (Nat.le_of_ble_eq_true rfl) (fun p e s m args below meth c hC hr hlk => ?_)
  unfold f_X5_takeOneOf
  refine s_lv (lv' := [(0, vR v0), (1, vR v1)]) [0, 1] rfl ?_
  refine s_aload_n hC 0 dX5_takeOneOf_0 rfl ?_
  refine s_getI hC xc5 (by decide) rfl qf_X5_23 dX5_takeOneOf_1 ?_
  refine s_aload_n hC 0 dX5_takeOneOf_4 rfl ?_
  refine s_getI hC xc5 (by decide) rfl qf_X5_15 dX5_takeOneOf_5 ?_
  refine s_icmp_ge hC dX5_takeOneOf_8 (tgt := 30) (by decide) ?_ ?_
  · refine s_iconst hC dX5_takeOneOf_30 (v := -1) (by decide) ?_
    refine s_istore_n hC dX5_takeOneOf_31 (by decide) (lv' := [(2, vI (-1 : Int32)), (0, vR v0), (1, vR v1)]) rfl ?_
    refine s_iload_n hC 0 dX5_takeOneOf_32 rfl ?_
    refine s_if_lt hC dX5_takeOneOf_33 (tgt := 46) (by decide) ?_ ?_
    · refine s_iload_n hC 0 dX5_takeOneOf_46 rfl ?_
      exact s_iret hC hr hlk dX5_takeOneOf_47
    refine s_aload_n hC 1 dX5_takeOneOf_36 rfl ?_
    refine s_dupR hC dX5_takeOneOf_37 ?_
    refine s_getI hC xc5 (by decide) rfl qf_X5_23 dX5_takeOneOf_38 ?_
    refine s_iconst hC dX5_takeOneOf_41 (v := 1) (by decide) ?_
    refine s_iadd hC dX5_takeOneOf_42 ?_
    refine s_putI hC xc5 (by decide) rfl rfl qf_X5_23 dX5_takeOneOf_43 ?_
    refine s_ltM (fun μ3 => ?_)
    refine s_iload_n hC 0 dX5_takeOneOf_46 rfl ?_
    exact s_iret hC hr hlk dX5_takeOneOf_47
  refine s_aload_n hC 1 dX5_takeOneOf_11 rfl ?_
  refine s_aload_n hC 0 dX5_takeOneOf_12 rfl ?_
  refine s_getR hC xc5 (by decide) rfl qf_X5_9 dX5_takeOneOf_13 ?_
  refine s_ltR (fun v4 => ?_)
  refine s_aload_n hC 0 dX5_takeOneOf_16 rfl ?_
  refine s_getI hC xc5 (by decide) rfl qf_X5_23 dX5_takeOneOf_17 ?_
  refine s_callS hC (avs := [vR v4, vI (μ.1 v0 2)]) (st := [vR v1]) (nest := true) (m_X9_at hI v4 (μ.1 v0 2) μ) dX5_takeOneOf_20 qm_X5_81 qt_X9_at qc_X9 qd_X9_at qh_X9_at (by decide) (fun _ => Nat.le_of_ble_eq_true rfl) (Nat.le_of_ble_eq_true rfl) (fun v5 μ6 => ?_)
  refine s_i2c hC dX5_takeOneOf_23 ?_
  refine s_callStr hC (x := v1) (avs := [vI (((v5).toUInt32 % 65536).toInt32)]) (st := []) (nest := false) (m_J0_indexOf_0f7a4 hI v1 (((v5).toUInt32 % 65536).toInt32) μ6) dX5_takeOneOf_24 qm_X5_110 qi_J0_indexOf_0f7a4 qs_J0_indexOf_0f7a4 qc_J0 qd_J0_indexOf_0f7a4 qh_J0_indexOf_0f7a4 ((by decide)) (fun _ => Nat.le_of_ble_eq_true rfl) (Nat.le_of_ble_eq_true rfl) (fun v7 μ8 => ?_)
  refine s_goto hC dX5_takeOneOf_27 (tgt := 31) (by decide) ?_
  refine s_istore_n hC dX5_takeOneOf_31 (by decide) (lv' := [(2, vI v7), (0, vR v0), (1, vR v1)]) rfl ?_
  refine s_iload_n hC 0 dX5_takeOneOf_32 rfl ?_
  refine s_if_lt hC dX5_takeOneOf_33 (tgt := 46) (by decide) ?_ ?_
  · refine s_iload_n hC 0 dX5_takeOneOf_46 rfl ?_
    exact s_iret hC hr hlk dX5_takeOneOf_47
  refine s_aload_n hC 1 dX5_takeOneOf_36 rfl ?_
  refine s_dupR hC dX5_takeOneOf_37 ?_
  refine s_getI hC xc5 (by decide) rfl qf_X5_23 dX5_takeOneOf_38 ?_
  refine s_iconst hC dX5_takeOneOf_41 (v := 1) (by decide) ?_
  refine s_iadd hC dX5_takeOneOf_42 ?_
  refine s_putI hC xc5 (by decide) rfl rfl qf_X5_23 dX5_takeOneOf_43 ?_
  refine s_ltM (fun μ9 => ?_)
  refine s_iload_n hC 0 dX5_takeOneOf_46 rfl ?_
  exact s_iret hC hr hlk dX5_takeOneOf_47
theorem dX5_takeWord_0 : decode cX5_takeWord 0 = .ok (.iconst 0, 1) := by decide +kernel
theorem dX5_takeWord_1 : decode cX5_takeWord 1 = .ok (.istore_n 1, 1) := by decide +kernel
theorem dX5_takeWord_2 : decode cX5_takeWord 2 = .ok (.iconst 0, 1) := by decide +kernel
theorem dX5_takeWord_3 : decode cX5_takeWord 3 = .ok (.istore_n 2, 1) := by decide +kernel
theorem dX5_takeWord_4 : decode cX5_takeWord 4 = .ok (.iload_n 2, 1) := by decide +kernel
theorem dX5_takeWord_5 : decode cX5_takeWord 5 = .ok (.iconst 5, 1) := by decide +kernel
theorem dX5_takeWord_6 : decode cX5_takeWord 6 = .ok (.if_icmp .ge 50, 3) := by decide +kernel
theorem dX5_takeWord_9 : decode cX5_takeWord 9 = .ok (.iload_n 2, 1) := by decide +kernel
theorem dX5_takeWord_10 : decode cX5_takeWord 10 = .ok (.invokestatic 63, 3) := by decide +kernel
theorem dX5_takeWord_13 : decode cX5_takeWord 13 = .ok (.astore_n 3, 1) := by decide +kernel
theorem dX5_takeWord_14 : decode cX5_takeWord 14 = .ok (.aload_n 0, 1) := by decide +kernel
theorem dX5_takeWord_15 : decode cX5_takeWord 15 = .ok (.aload_n 3, 1) := by decide +kernel
theorem dX5_takeWord_16 : decode cX5_takeWord 16 = .ok (.invokevirtual 67, 3) := by decide +kernel
theorem dX5_takeWord_19 : decode cX5_takeWord 19 = .ok (.istore 4, 2) := by decide +kernel
theorem dX5_takeWord_21 : decode cX5_takeWord 21 = .ok (.iload 4, 2) := by decide +kernel
theorem dX5_takeWord_23 : decode cX5_takeWord 23 = .ok (.aload_n 3, 1) := by decide +kernel
theorem dX5_takeWord_24 : decode cX5_takeWord 24 = .ok (.invokevirtual 71, 3) := by decide +kernel
theorem dX5_takeWord_27 : decode cX5_takeWord 27 = .ok (.if_icmp .ne 16, 3) := by decide +kernel
theorem dX5_takeWord_30 : decode cX5_takeWord 30 = .ok (.aload_n 0, 1) := by decide +kernel
theorem dX5_takeWord_31 : decode cX5_takeWord 31 = .ok (.dup, 1) := by decide +kernel
theorem dX5_takeWord_32 : decode cX5_takeWord 32 = .ok (.getfield 23, 3) := by decide +kernel
theorem dX5_takeWord_35 : decode cX5_takeWord 35 = .ok (.iload 4, 2) := by decide +kernel
theorem dX5_takeWord_37 : decode cX5_takeWord 37 = .ok (.iadd, 1) := by decide +kernel
theorem dX5_takeWord_38 : decode cX5_takeWord 38 = .ok (.putfield 23, 3) := by decide +kernel
theorem dX5_takeWord_41 : decode cX5_takeWord 41 = .ok (.iload_n 2, 1) := by decide +kernel
theorem dX5_takeWord_42 : decode cX5_takeWord 42 = .ok (.ireturn, 1) := by decide +kernel
theorem dX5_takeWord_43 : decode cX5_takeWord 43 = .ok (.iload_n 1, 1) := by decide +kernel
theorem dX5_takeWord_44 : decode cX5_takeWord 44 = .ok (.iload 4, 2) := by decide +kernel
theorem dX5_takeWord_46 : decode cX5_takeWord 46 = .ok (.invokestatic 75, 3) := by decide +kernel
theorem dX5_takeWord_49 : decode cX5_takeWord 49 = .ok (.istore_n 1, 1) := by decide +kernel
theorem dX5_takeWord_50 : decode cX5_takeWord 50 = .ok (.iinc 2 1, 3) := by decide +kernel
theorem dX5_takeWord_53 : decode cX5_takeWord 53 = .ok (.goto (-49), 3) := by decide +kernel
theorem dX5_takeWord_56 : decode cX5_takeWord 56 = .ok (.aload_n 0, 1) := by decide +kernel
theorem dX5_takeWord_57 : decode cX5_takeWord 57 = .ok (.dup, 1) := by decide +kernel
theorem dX5_takeWord_58 : decode cX5_takeWord 58 = .ok (.getfield 23, 3) := by decide +kernel
theorem dX5_takeWord_61 : decode cX5_takeWord 61 = .ok (.iload_n 1, 1) := by decide +kernel
theorem dX5_takeWord_62 : decode cX5_takeWord 62 = .ok (.iadd, 1) := by decide +kernel
theorem dX5_takeWord_63 : decode cX5_takeWord 63 = .ok (.putfield 23, 3) := by decide +kernel
theorem dX5_takeWord_66 : decode cX5_takeWord 66 = .ok (.iconst (-1), 1) := by decide +kernel
theorem dX5_takeWord_67 : decode cX5_takeWord 67 = .ok (.ireturn, 1) := by decide +kernel
def f_X5_takeWord_L4 (X : x_X) (k56 : Nat → Int32 → x_M → Option (Int32 × x_M)) (k30 : Nat → Int32 → Int32 → x_M → Option (Int32 × x_M)) : Nat → Nat → Int32 → Int32 → x_M → Option (Int32 × x_M)
  | 0, _, _, _, _ => none
  | n + 1, v2, v3, v4, μ5 =>
    (if (5 : Int32) ≤ v4 then (k56 v2 v3 μ5) else (bd (f_X5_wordOf X v4 μ5) (fun (v6 : Nat) (μ7 : x_M) => (ck (x_kd X v2 = 5 + 1) (bd (f_X5_sameSigns X v2 v6 μ7) (fun (v8 : Int32) (μ9 : x_M) => (ck (x_kd X v6 = 50) (bd (f_J0_length_8abf5 X v6 μ9) (fun (v10 : Int32) (μ11 : x_M) => (if v8 = v10 then (k30 v2 v4 v8 μ11) else (lt (if v3 < v8 then v8 else v3) (fun (v12 : Int32) => (f_X5_takeWord_L4 X k56 k30 n v2 v12 (v4 + (1 : Int32)) μ11)))))))))))))
set_option maxRecDepth 100000 in
theorem j_X5_takeWord_L4 (hI : x_I X) (hC : x_C X x_Z0 p (x_rm 6) s m c cX5_takeWord RX5 5 0 0 6) (hr : meth.sig.returnType = (some .int)) (hlk : meth.locks = false) {k56 : Nat → Int32 → x_M → Option (Int32 × x_M)} (hk56 : ∀ (b0 : Nat) (b1 : Int32) (μ : x_M), SM X 5 6 rkI p l e s m args below meth c 56 [(0, vR b0), (1, vI b1)] [] μ (k56 b0 b1 μ)) {k30 : Nat → Int32 → Int32 → x_M → Option (Int32 × x_M)} (hk30 : ∀ (b0 : Nat) (b2 : Int32) (b4 : Int32) (μ : x_M), SM X 5 6 rkI p l e s m args below meth c 30 [(0, vR b0), (2, vI b2), (4, vI b4)] [] μ (k30 b0 b2 b4 μ)) : ∀ (n : Nat) (v2 : Nat) (v3 : Int32) (v4 : Int32) (μ5 : x_M), SM X 5 6 rkI p l e s m args below meth c 4 [(0, vR v2), (1, vI v3), (2, vI v4)] [] μ5 (f_X5_takeWord_L4 X k56 k30 n v2 v3 v4 μ5) := by
  intro n
  induction n with
  | zero => intro v2 v3 v4 μ5; exact s_none
  | succ n ih =>
    intro v2 v3 v4 μ5
    unfold f_X5_takeWord_L4
    refine s_iload_n hC 2 dX5_takeWord_4 rfl ?_
    refine s_iconst hC dX5_takeWord_5 (v := 5) (by decide) ?_
    refine s_icmp_ge hC dX5_takeWord_6 (tgt := 56) (by decide) ?_ ?_
    · refine s_lv (lv' := [(0, vR v2), (1, vI v3)]) [0, 1] rfl ?_
      exact hk56 _ _ _
    refine s_iload_n hC 2 dX5_takeWord_9 rfl ?_
    refine s_callS hC (avs := [vI v4]) (st := []) (nest := false) (m_X5_wordOf hI v4 μ5) dX5_takeWord_10 qm_X5_63 qt_X5_wordOf qc_X5 qd_X5_wordOf qh_X5_wordOf (by decide) (fun _ => Nat.le_of_ble_eq_true rfl) (Nat.le_of_ble_eq_true rfl) (fun v6 μ7 => ?_)
    refine s_astore_n hC dX5_takeWord_13 (by decide) (lv' := [(3, vR v6), (0, vR v2), (1, vI v3), (2, vI v4)]) rfl ?_
    refine s_aload_n hC 1 dX5_takeWord_14 rfl ?_
    refine s_aload_n hC 0 dX5_takeWord_15 rfl ?_
    refine s_callV hC (x := v2) (avs := [vR v6]) (st := []) (nest := false) xc5 (m_X5_sameSigns hI v2 v6 μ7) dX5_takeWord_16 qm_X5_67 qi_X5_sameSigns qs_X5_sameSigns qc_X5 qd_X5_sameSigns qh_X5_sameSigns (by decide) (fun _ => Nat.le_of_ble_eq_true rfl) (Nat.le_of_ble_eq_true rfl) (fun v8 μ9 => ?_)
    refine s_istore hC dX5_takeWord_19 (by decide) (lv' := [(4, vI v8), (3, vR v6), (0, vR v2), (1, vI v3), (2, vI v4)]) rfl ?_
    refine s_iload hC 0 dX5_takeWord_21 rfl ?_
    refine s_aload_n hC 1 dX5_takeWord_23 rfl ?_
    refine s_callStr hC (x := v6) (avs := []) (st := [vI v8]) (nest := false) (m_J0_length_8abf5 hI v6 μ9) dX5_takeWord_24 qm_X5_71 qi_J0_length_8abf5 qs_J0_length_8abf5 qc_J0 qd_J0_length_8abf5 qh_J0_length_8abf5 ((by decide)) (fun _ => Nat.le_of_ble_eq_true rfl) (Nat.le_of_ble_eq_true rfl) (fun v10 μ11 => ?_)
    refine s_icmp_ne hC dX5_takeWord_27 (tgt := 43) (by decide) ?_ ?_
    · refine s_iload_n hC 3 dX5_takeWord_43 rfl ?_
      refine s_iload hC 0 dX5_takeWord_44 rfl ?_
      refine s_max hC dX5_takeWord_46 qm_X5_75 qt_Math_max qc_Math qd_Math_max (by decide) (Nat.le_of_ble_eq_true rfl) ?_
      refine s_ltI (fun v12 => ?_)
      refine s_istore_n hC dX5_takeWord_49 (by decide) (lv' := [(1, vI v12), (4, vI v8), (3, vR v6), (0, vR v2), (2, vI v4)]) rfl ?_
      refine s_iinc hC 4 dX5_takeWord_50 rfl (w := 1) (by decide) (by decide) (lv' := [(2, vI (v4 + (1 : Int32))), (1, vI v12), (4, vI v8), (3, vR v6), (0, vR v2)]) rfl ?_
      refine s_goto hC dX5_takeWord_53 (tgt := 4) (by decide) ?_
      refine s_lv (lv' := [(0, vR v2), (1, vI v12), (2, vI (v4 + (1 : Int32)))]) [4, 1, 0] rfl ?_
      exact ih _ _ _ _
    refine s_lv (lv' := [(0, vR v2), (2, vI v4), (4, vI v8)]) [2, 4, 0] rfl ?_
    exact hk30 _ _ _ _
def f_X5_takeWord (X : x_X) (v0 : Nat) (μ : x_M) : Option (Int32 × x_M) :=
  (f_X5_takeWord_L4 X (fun (v13 : Nat) (v14 : Int32) (μ15 : x_M) => (ck (x_kd X v13 = 5 + 1) (ck (x_kd X v13 = 5 + 1) (lt (x_sI μ15 v13 2 ((μ15.1 v13 2) + v14)) (fun (μ16 : x_M) => (some ((-1 : Int32), μ16))))))) (fun (v17 : Nat) (v18 : Int32) (v19 : Int32) (μ20 : x_M) => (ck (x_kd X v17 = 5 + 1) (ck (x_kd X v17 = 5 + 1) (lt (x_sI μ20 v17 2 ((μ20.1 v17 2) + v19)) (fun (μ21 : x_M) => (some (v18, μ21))))))) 4096 v0 (0 : Int32) (0 : Int32) μ)
set_option maxRecDepth 100000 in
theorem m_X5_takeWord (hI : x_I X) (v0 : Nat) (μ : x_M) : x_Met X x_Z0 l yX5_takeWord cX5_takeWord 5 (some .int) 6 [vR v0] μ rkI (f_X5_takeWord X v0 μ) := by
  refine x_enter hI (by decide +kernel) (Nat.le_of_ble_eq_true rfl) (fun p e s m args below meth c hC hr hlk => ?_)
  unfold f_X5_takeWord
  refine s_lv (lv' := [(0, vR v0)]) [0] rfl ?_
  refine s_iconst hC dX5_takeWord_0 (v := 0) (by decide) ?_
  refine s_istore_n hC dX5_takeWord_1 (by decide) (lv' := [(1, vI (0 : Int32)), (0, vR v0)]) rfl ?_
  refine s_iconst hC dX5_takeWord_2 (v := 0) (by decide) ?_
  refine s_istore_n hC dX5_takeWord_3 (by decide) (lv' := [(2, vI (0 : Int32)), (1, vI (0 : Int32)), (0, vR v0)]) rfl ?_
  refine s_lv (lv' := [(0, vR v0), (1, vI (0 : Int32)), (2, vI (0 : Int32))]) [2, 1, 0] rfl ?_
  refine j_X5_takeWord_L4 hI hC hr hlk (fun v13 v14 μ15 => ?_) (fun v17 v18 v19 μ20 => ?_) 4096 _ _ _ _
  · refine s_aload_n hC 0 dX5_takeWord_56 rfl ?_
    refine s_dupR hC dX5_takeWord_57 ?_
    refine s_getI hC xc5 (by decide) rfl qf_X5_23 dX5_takeWord_58 ?_
    refine s_iload_n hC 1 dX5_takeWord_61 rfl ?_
    refine s_iadd hC dX5_takeWord_62 ?_
    refine s_putI hC xc5 (by decide) rfl rfl qf_X5_23 dX5_takeWord_63 ?_
    refine s_ltM (fun μ16 => ?_)
    refine s_iconst hC dX5_takeWord_66 (v := -1) (by decide) ?_
    exact s_iret hC hr hlk dX5_takeWord_67
  refine s_aload_n hC 0 dX5_takeWord_30 rfl ?_
  refine s_dupR hC dX5_takeWord_31 ?_
  refine s_getI hC xc5 (by decide) rfl qf_X5_23 dX5_takeWord_32 ?_
  refine s_iload hC 2 dX5_takeWord_35 rfl ?_
  refine s_iadd hC dX5_takeWord_37 ?_
  refine s_putI hC xc5 (by decide) rfl rfl qf_X5_23 dX5_takeWord_38 ?_
  refine s_ltM (fun μ21 => ?_)
  refine s_iload_n hC 1 dX5_takeWord_41 rfl ?_
  exact s_iret hC hr hlk dX5_takeWord_42
theorem dX5_takeTest_0 : decode cX5_takeTest 0 = .ok (.aload_n 0, 1) := by decide +kernel
theorem dX5_takeTest_1 : decode cX5_takeTest 1 = .ok (.ldc 103, 2) := by decide +kernel
theorem dX5_takeTest_3 : decode cX5_takeTest 3 = .ok (.invokevirtual 105, 3) := by decide +kernel
theorem dX5_takeTest_6 : decode cX5_takeTest 6 = .ok (.istore_n 2, 1) := by decide +kernel
theorem dX5_takeTest_7 : decode cX5_takeTest 7 = .ok (.iload_n 2, 1) := by decide +kernel
theorem dX5_takeTest_8 : decode cX5_takeTest 8 = .ok (.ifCond .lt 12, 3) := by decide +kernel
theorem dX5_takeTest_11 : decode cX5_takeTest 11 = .ok (.aload_n 0, 1) := by decide +kernel
theorem dX5_takeTest_12 : decode cX5_takeTest 12 = .ok (.ldc 108, 2) := by decide +kernel
theorem dX5_takeTest_14 : decode cX5_takeTest 14 = .ok (.invokevirtual 105, 3) := by decide +kernel
theorem dX5_takeTest_17 : decode cX5_takeTest 17 = .ok (.goto 4, 3) := by decide +kernel
theorem dX5_takeTest_20 : decode cX5_takeTest 20 = .ok (.iconst (-1), 1) := by decide +kernel
theorem dX5_takeTest_21 : decode cX5_takeTest 21 = .ok (.istore_n 3, 1) := by decide +kernel
theorem dX5_takeTest_22 : decode cX5_takeTest 22 = .ok (.iload_n 3, 1) := by decide +kernel
theorem dX5_takeTest_23 : decode cX5_takeTest 23 = .ok (.ifCond .lt 10, 3) := by decide +kernel
theorem dX5_takeTest_26 : decode cX5_takeTest 26 = .ok (.aload_n 0, 1) := by decide +kernel
theorem dX5_takeTest_27 : decode cX5_takeTest 27 = .ok (.invokevirtual 39, 3) := by decide +kernel
theorem dX5_takeTest_30 : decode cX5_takeTest 30 = .ok (.goto 4, 3) := by decide +kernel
theorem dX5_takeTest_33 : decode cX5_takeTest 33 = .ok (.iconst (-1), 1) := by decide +kernel
theorem dX5_takeTest_34 : decode cX5_takeTest 34 = .ok (.istore 4, 2) := by decide +kernel
theorem dX5_takeTest_36 : decode cX5_takeTest 36 = .ok (.iload 4, 2) := by decide +kernel
theorem dX5_takeTest_38 : decode cX5_takeTest 38 = .ok (.ifCond .ge 5, 3) := by decide +kernel
theorem dX5_takeTest_41 : decode cX5_takeTest 41 = .ok (.iconst 0, 1) := by decide +kernel
theorem dX5_takeTest_42 : decode cX5_takeTest 42 = .ok (.ireturn, 1) := by decide +kernel
theorem dX5_takeTest_43 : decode cX5_takeTest 43 = .ok (.aload_n 1, 1) := by decide +kernel
theorem dX5_takeTest_44 : decode cX5_takeTest 44 = .ok (.iload_n 2, 1) := by decide +kernel
theorem dX5_takeTest_45 : decode cX5_takeTest 45 = .ok (.iconst 3, 1) := by decide +kernel
theorem dX5_takeTest_46 : decode cX5_takeTest 46 = .ok (.imul, 1) := by decide +kernel
theorem dX5_takeTest_47 : decode cX5_takeTest 47 = .ok (.iload_n 3, 1) := by decide +kernel
theorem dX5_takeTest_48 : decode cX5_takeTest 48 = .ok (.iadd, 1) := by decide +kernel
theorem dX5_takeTest_49 : decode cX5_takeTest 49 = .ok (.bipush 100, 2) := by decide +kernel
theorem dX5_takeTest_51 : decode cX5_takeTest 51 = .ok (.imul, 1) := by decide +kernel
theorem dX5_takeTest_52 : decode cX5_takeTest 52 = .ok (.iload 4, 2) := by decide +kernel
theorem dX5_takeTest_54 : decode cX5_takeTest 54 = .ok (.iadd, 1) := by decide +kernel
theorem dX5_takeTest_55 : decode cX5_takeTest 55 = .ok (.invokevirtual 92, 3) := by decide +kernel
theorem dX5_takeTest_58 : decode cX5_takeTest 58 = .ok (.iconst 1, 1) := by decide +kernel
theorem dX5_takeTest_59 : decode cX5_takeTest 59 = .ok (.ireturn, 1) := by decide +kernel
def f_X5_takeTest_J34 (X : x_X) (v10 : Nat) (v11 : Int32) (v12 : Int32) (v13 : Int32) (μ14 : x_M) : Option (Int32 × x_M) :=
  (if 0 ≤ v13 then (ck (x_kd X v10 = 4 + 1) (bd (f_X4_put X v10 ((((v11 * (3 : Int32)) + v12) * (100 : Int32)) + v13) μ14) (fun (_ : Unit) (μ15 : x_M) => (ck ((1 : Int32) = 0 ∨ (1 : Int32) = 1) (some ((1 : Int32), μ15)))))) else (ck ((0 : Int32) = 0 ∨ (0 : Int32) = 1) (some ((0 : Int32), μ14))))
set_option maxRecDepth 100000 in
theorem j_X5_takeTest_J34 (hI : x_I X) (hC : x_C X x_Z0 p (x_rm 6) s m c cX5_takeTest RX5 5 0 0 6) (hr : meth.sig.returnType = (some .boolean)) (hlk : meth.locks = false) (v10 : Nat) (v11 : Int32) (v12 : Int32) (v13 : Int32) (μ14 : x_M) : SM X 5 6 rkI p l e s m args below meth c 34 [(1, vR v10), (2, vI v11), (3, vI v12)] [vI v13] μ14 (f_X5_takeTest_J34 X v10 v11 v12 v13 μ14) := by
  unfold f_X5_takeTest_J34
  refine s_istore hC dX5_takeTest_34 (by decide) (lv' := [(4, vI v13), (1, vR v10), (2, vI v11), (3, vI v12)]) rfl ?_
  refine s_iload hC 0 dX5_takeTest_36 rfl ?_
  refine s_if_ge hC dX5_takeTest_38 (tgt := 43) (by decide) ?_ ?_
  · refine s_aload_n hC 1 dX5_takeTest_43 rfl ?_
    refine s_iload_n hC 2 dX5_takeTest_44 rfl ?_
    refine s_iconst hC dX5_takeTest_45 (v := 3) (by decide) ?_
    refine s_imul hC dX5_takeTest_46 ?_
    refine s_iload_n hC 3 dX5_takeTest_47 rfl ?_
    refine s_iadd hC dX5_takeTest_48 ?_
    refine s_bipush hC dX5_takeTest_49 (v := 100) (by decide) ?_
    refine s_imul hC dX5_takeTest_51 ?_
    refine s_iload hC 0 dX5_takeTest_52 rfl ?_
    refine s_iadd hC dX5_takeTest_54 ?_
    refine s_callV hC (x := v10) (avs := [vI ((((v11 * (3 : Int32)) + v12) * (100 : Int32)) + v13)]) (st := []) (nest := false) xc4 (m_X4_put hI v10 ((((v11 * (3 : Int32)) + v12) * (100 : Int32)) + v13) μ14) dX5_takeTest_55 qm_X5_92 qi_X4_put qs_X4_put qc_X4 qd_X4_put qh_X4_put (by decide) (fun _ => Nat.le_of_ble_eq_true rfl) (Nat.le_of_ble_eq_true rfl) (fun _ μ15 => ?_)
    refine s_iconst hC dX5_takeTest_58 (v := 1) (by decide) ?_
    exact s_zret hC hr hlk dX5_takeTest_59
  refine s_iconst hC dX5_takeTest_41 (v := 0) (by decide) ?_
  exact s_zret hC hr hlk dX5_takeTest_42
def f_X5_takeTest_J21 (X : x_X) (v5 : Nat) (v6 : Nat) (v7 : Int32) (v8 : Int32) (μ9 : x_M) : Option (Int32 × x_M) :=
  (if v8 < 0 then (f_X5_takeTest_J34 X v6 v7 v8 (-1 : Int32) μ9) else (ck (x_kd X v5 = 5 + 1) (bd (f_X5_takeNumber X v5 μ9) (fun (v16 : Int32) (μ17 : x_M) => (f_X5_takeTest_J34 X v6 v7 v8 v16 μ17)))))
set_option maxRecDepth 100000 in
theorem j_X5_takeTest_J21 (hI : x_I X) (hC : x_C X x_Z0 p (x_rm 6) s m c cX5_takeTest RX5 5 0 0 6) (hr : meth.sig.returnType = (some .boolean)) (hlk : meth.locks = false) (v5 : Nat) (v6 : Nat) (v7 : Int32) (v8 : Int32) (μ9 : x_M) : SM X 5 6 rkI p l e s m args below meth c 21 [(0, vR v5), (1, vR v6), (2, vI v7)] [vI v8] μ9 (f_X5_takeTest_J21 X v5 v6 v7 v8 μ9) := by
  unfold f_X5_takeTest_J21
  refine s_istore_n hC dX5_takeTest_21 (by decide) (lv' := [(3, vI v8), (0, vR v5), (1, vR v6), (2, vI v7)]) rfl ?_
  refine s_iload_n hC 0 dX5_takeTest_22 rfl ?_
  refine s_if_lt hC dX5_takeTest_23 (tgt := 33) (by decide) ?_ ?_
  · refine s_iconst hC dX5_takeTest_33 (v := -1) (by decide) ?_
    refine s_lv (lv' := [(1, vR v6), (2, vI v7), (3, vI v8)]) [2, 3, 0] rfl ?_
    exact j_X5_takeTest_J34 hI hC hr hlk _ _ _ _ _
  refine s_aload_n hC 1 dX5_takeTest_26 rfl ?_
  refine s_callV hC (x := v5) (avs := []) (st := []) (nest := false) xc5 (m_X5_takeNumber hI v5 μ9) dX5_takeTest_27 qm_X5_39 qi_X5_takeNumber qs_X5_takeNumber qc_X5 qd_X5_takeNumber qh_X5_takeNumber (by decide) (fun _ => Nat.le_of_ble_eq_true rfl) (Nat.le_of_ble_eq_true rfl) (fun v16 μ17 => ?_)
  refine s_goto hC dX5_takeTest_30 (tgt := 34) (by decide) ?_
  refine s_lv (lv' := [(1, vR v6), (2, vI v7), (3, vI v8)]) [2, 3, 0] rfl ?_
  exact j_X5_takeTest_J34 hI hC hr hlk _ _ _ _ _
def f_X5_takeTest (X : x_X) (v0 : Nat) (v1 : Nat) (μ : x_M) : Option (Int32 × x_M) :=
  (ck (x_kd X v0 = 5 + 1) (bd (f_X5_takeOneOf X v0 816 μ) (fun (v3 : Int32) (μ4 : x_M) => (if v3 < 0 then (f_X5_takeTest_J21 X v0 v1 v3 (-1 : Int32) μ4) else (ck (x_kd X v0 = 5 + 1) (bd (f_X5_takeOneOf X v0 817 μ4) (fun (v18 : Int32) (μ19 : x_M) => (f_X5_takeTest_J21 X v0 v1 v3 v18 μ19))))))))
set_option maxRecDepth 100000 in
theorem m_X5_takeTest (hI : x_I X) (v0 : Nat) (v1 : Nat) (μ : x_M) : x_Met X x_Z0 l yX5_takeTest cX5_takeTest 5 (some .boolean) 6 [vR v0, vR v1] μ rkI (f_X5_takeTest X v0 v1 μ) := by
  refine x_enter hI (by decide +kernel) (Nat.le_of_ble_eq_true rfl) (fun p e s m args below meth c hC hr hlk => ?_)
  unfold f_X5_takeTest
  refine s_lv (lv' := [(0, vR v0), (1, vR v1)]) [0, 1] rfl ?_
  refine s_aload_n hC 0 dX5_takeTest_0 rfl ?_
  refine s_ldcS hC dX5_takeTest_1 (id := 816) (List.mem_of_getElem? (i := 5) rfl) (by decide) ?_
  refine s_callV hC (x := v0) (avs := [vR 816]) (st := []) (nest := false) xc5 (m_X5_takeOneOf hI v0 816 μ) dX5_takeTest_3 qm_X5_105 qi_X5_takeOneOf qs_X5_takeOneOf qc_X5 qd_X5_takeOneOf qh_X5_takeOneOf (by decide) (fun _ => Nat.le_of_ble_eq_true rfl) (Nat.le_of_ble_eq_true rfl) (fun v3 μ4 => ?_)
  refine s_istore_n hC dX5_takeTest_6 (by decide) (lv' := [(2, vI v3), (0, vR v0), (1, vR v1)]) rfl ?_
  refine s_iload_n hC 0 dX5_takeTest_7 rfl ?_
  refine s_if_lt hC dX5_takeTest_8 (tgt := 20) (by decide) ?_ ?_
  · refine s_iconst hC dX5_takeTest_20 (v := -1) (by decide) ?_
    refine s_lv (lv' := [(0, vR v0), (1, vR v1), (2, vI v3)]) [1, 2, 0] rfl ?_
    exact j_X5_takeTest_J21 hI hC hr hlk _ _ _ _ _
  refine s_aload_n hC 1 dX5_takeTest_11 rfl ?_
  refine s_ldcS hC dX5_takeTest_12 (id := 817) (List.mem_of_getElem? (i := 6) rfl) (by decide) ?_
  refine s_callV hC (x := v0) (avs := [vR 817]) (st := []) (nest := false) xc5 (m_X5_takeOneOf hI v0 817 μ4) dX5_takeTest_14 qm_X5_105 qi_X5_takeOneOf qs_X5_takeOneOf qc_X5 qd_X5_takeOneOf qh_X5_takeOneOf (by decide) (fun _ => Nat.le_of_ble_eq_true rfl) (Nat.le_of_ble_eq_true rfl) (fun v18 μ19 => ?_)
  refine s_goto hC dX5_takeTest_17 (tgt := 21) (by decide) ?_
  refine s_lv (lv' := [(0, vR v0), (1, vR v1), (2, vI v3)]) [1, 2, 0] rfl ?_
  exact j_X5_takeTest_J21 hI hC hr hlk _ _ _ _ _
section G_X5_takeEither
variable {lev : Nat} {zc : Nat → Nat → Nat → Int32 → x_M → Option (Int32 × x_M)}
theorem dX5_takeEither_0 : decode cX5_takeEither 0 = .ok (.aload_n 0, 1) := by decide +kernel
theorem dX5_takeEither_1 : decode cX5_takeEither 1 = .ok (.aload_n 1, 1) := by decide +kernel
theorem dX5_takeEither_2 : decode cX5_takeEither 2 = .ok (.iload_n 2, 1) := by decide +kernel
theorem dX5_takeEither_3 : decode cX5_takeEither 3 = .ok (.invokevirtual 89, 3) := by decide +kernel
theorem dX5_takeEither_6 : decode cX5_takeEither 6 = .ok (.ifCond .ne 5, 3) := by decide +kernel
theorem dX5_takeEither_9 : decode cX5_takeEither 9 = .ok (.iconst 0, 1) := by decide +kernel
theorem dX5_takeEither_10 : decode cX5_takeEither 10 = .ok (.ireturn, 1) := by decide +kernel
theorem dX5_takeEither_11 : decode cX5_takeEither 11 = .ok (.iconst 0, 1) := by decide +kernel
theorem dX5_takeEither_12 : decode cX5_takeEither 12 = .ok (.istore_n 3, 1) := by decide +kernel
theorem dX5_takeEither_13 : decode cX5_takeEither 13 = .ok (.iload_n 3, 1) := by decide +kernel
theorem dX5_takeEither_14 : decode cX5_takeEither 14 = .ok (.bipush 100, 2) := by decide +kernel
theorem dX5_takeEither_16 : decode cX5_takeEither 16 = .ok (.if_icmp .ge 35, 3) := by decide +kernel
theorem dX5_takeEither_19 : decode cX5_takeEither 19 = .ok (.aload_n 0, 1) := by decide +kernel
theorem dX5_takeEither_20 : decode cX5_takeEither 20 = .ok (.bipush 124, 2) := by decide +kernel
theorem dX5_takeEither_22 : decode cX5_takeEither 22 = .ok (.invokevirtual 31, 3) := by decide +kernel
theorem dX5_takeEither_25 : decode cX5_takeEither 25 = .ok (.ifCond .eq 26, 3) := by decide +kernel
theorem dX5_takeEither_28 : decode cX5_takeEither 28 = .ok (.aload_n 0, 1) := by decide +kernel
theorem dX5_takeEither_29 : decode cX5_takeEither 29 = .ok (.aload_n 1, 1) := by decide +kernel
theorem dX5_takeEither_30 : decode cX5_takeEither 30 = .ok (.iload_n 2, 1) := by decide +kernel
theorem dX5_takeEither_31 : decode cX5_takeEither 31 = .ok (.invokevirtual 89, 3) := by decide +kernel
theorem dX5_takeEither_34 : decode cX5_takeEither 34 = .ok (.ifCond .ne 5, 3) := by decide +kernel
theorem dX5_takeEither_37 : decode cX5_takeEither 37 = .ok (.iconst 0, 1) := by decide +kernel
theorem dX5_takeEither_38 : decode cX5_takeEither 38 = .ok (.ireturn, 1) := by decide +kernel
theorem dX5_takeEither_39 : decode cX5_takeEither 39 = .ok (.aload_n 1, 1) := by decide +kernel
theorem dX5_takeEither_40 : decode cX5_takeEither 40 = .ok (.bipush (-3), 2) := by decide +kernel
theorem dX5_takeEither_42 : decode cX5_takeEither 42 = .ok (.invokevirtual 92, 3) := by decide +kernel
theorem dX5_takeEither_45 : decode cX5_takeEither 45 = .ok (.iinc 3 1, 3) := by decide +kernel
theorem dX5_takeEither_48 : decode cX5_takeEither 48 = .ok (.goto (-35), 3) := by decide +kernel
theorem dX5_takeEither_51 : decode cX5_takeEither 51 = .ok (.iconst 1, 1) := by decide +kernel
theorem dX5_takeEither_52 : decode cX5_takeEither 52 = .ok (.ireturn, 1) := by decide +kernel
def f_X5_takeEither_B_L13 (X : x_X) (zc : Nat → Nat → Nat → Int32 → x_M → Option (Int32 × x_M)) : Nat → Nat → Nat → Int32 → Int32 → x_M → Option (Int32 × x_M)
  | 0, _, _, _, _, _ => none
  | n + 1, v6, v7, v8, v9, μ10 =>
    (if (100 : Int32) ≤ v9 then (ck ((1 : Int32) = 0 ∨ (1 : Int32) = 1) (some ((1 : Int32), μ10))) else (ck (x_kd X v6 = 5 + 1) (bd (f_X5_take X v6 (124 : Int32) μ10) (fun (v11 : Int32) (μ12 : x_M) => (if v11 = 0 then (ck ((1 : Int32) = 0 ∨ (1 : Int32) = 1) (some ((1 : Int32), μ12))) else (ck (x_kd X v6 = 5 + 1) (bd (zc 1 v6 v7 v8 μ12) (fun (v13 : Int32) (μ14 : x_M) => (if v13 = 0 then (ck ((0 : Int32) = 0 ∨ (0 : Int32) = 1) (some ((0 : Int32), μ14))) else (ck (x_kd X v7 = 4 + 1) (bd (f_X4_put X v7 (-3 : Int32) μ14) (fun (_ : Unit) (μ15 : x_M) => (f_X5_takeEither_B_L13 X zc n v6 v7 v8 (v9 + (1 : Int32)) μ15)))))))))))))
set_option maxRecDepth 100000 in
theorem j_X5_takeEither_B_L13 (hI : x_I X) (hC : x_C X x_Z0 p (x_rm (lev + 1)) s m c cX5_takeEither RX5 4 0 0 (lev + 1)) (hr : meth.sig.returnType = (some .boolean)) (hlk : meth.locks = false) (hlev : 6 ≤ lev) (hz : (∀ (v0 : Nat) (v1 : Nat) (v2 : Int32) (μ : x_M), x_Met X x_Z0 l yX5_takeEither cX5_takeEither 4 (some .boolean) lev [vR v0, vR v1, vI v2] μ rkI (zc 0 v0 v1 v2 μ)) ∧ (∀ (v0 : Nat) (v1 : Nat) (v2 : Int32) (μ : x_M), x_Met X x_Z0 l yX5_takeBoth cX5_takeBoth 4 (some .boolean) lev [vR v0, vR v1, vI v2] μ rkI (zc 1 v0 v1 v2 μ)) ∧ (∀ (v0 : Nat) (v1 : Nat) (v2 : Int32) (μ : x_M), x_Met X x_Z0 l yX5_takeFactor cX5_takeFactor 3 (some .boolean) lev [vR v0, vR v1, vI v2] μ rkI (zc 2 v0 v1 v2 μ))) : ∀ (n : Nat) (v6 : Nat) (v7 : Nat) (v8 : Int32) (v9 : Int32) (μ10 : x_M), SM X 4 (lev + 1) rkI p l e s m args below meth c 13 [(0, vR v6), (1, vR v7), (2, vI v8), (3, vI v9)] [] μ10 (f_X5_takeEither_B_L13 X zc n v6 v7 v8 v9 μ10) := by
  intro n
  induction n with
  | zero => intro v6 v7 v8 v9 μ10; exact s_none
  | succ n ih =>
    intro v6 v7 v8 v9 μ10
    unfold f_X5_takeEither_B_L13
    refine s_iload_n hC 3 dX5_takeEither_13 rfl ?_
    refine s_bipush hC dX5_takeEither_14 (v := 100) (by decide) ?_
    refine s_icmp_ge hC dX5_takeEither_16 (tgt := 51) (by decide) ?_ ?_
    · refine s_iconst hC dX5_takeEither_51 (v := 1) (by decide) ?_
      exact s_zret hC hr hlk dX5_takeEither_52
    refine s_aload_n hC 0 dX5_takeEither_19 rfl ?_
    refine s_bipush hC dX5_takeEither_20 (v := 124) (by decide) ?_
    refine s_callV hC (x := v6) (avs := [vI (124 : Int32)]) (st := []) (nest := false) xc5 (m_X5_take hI v6 (124 : Int32) μ10) dX5_takeEither_22 qm_X5_31 qi_X5_take qs_X5_take qc_X5 qd_X5_take qh_X5_take (by omega) (fun _ => Nat.le_of_ble_eq_true rfl) (Nat.le_of_ble_eq_true rfl) (fun v11 μ12 => ?_)
    refine s_if_eq hC dX5_takeEither_25 (tgt := 51) (by decide) ?_ ?_
    · refine s_iconst hC dX5_takeEither_51 (v := 1) (by decide) ?_
      exact s_zret hC hr hlk dX5_takeEither_52
    refine s_aload_n hC 0 dX5_takeEither_28 rfl ?_
    refine s_aload_n hC 1 dX5_takeEither_29 rfl ?_
    refine s_iload_n hC 2 dX5_takeEither_30 rfl ?_
    refine s_callV hC (x := v6) (avs := [vR v7, vI v8]) (st := []) (nest := false) xc5 (hz.2.1 v6 v7 v8 μ12) dX5_takeEither_31 qm_X5_89 qi_X5_takeBoth qs_X5_takeBoth qc_X5 qd_X5_takeBoth qh_X5_takeBoth (by omega) (fun _ => Nat.le_of_ble_eq_true rfl) (Nat.le_of_ble_eq_true rfl) (fun v13 μ14 => ?_)
    refine s_if_ne hC dX5_takeEither_34 (tgt := 39) (by decide) ?_ ?_
    · refine s_aload_n hC 1 dX5_takeEither_39 rfl ?_
      refine s_bipush hC dX5_takeEither_40 (v := -3) (by decide) ?_
      refine s_callV hC (x := v7) (avs := [vI (-3 : Int32)]) (st := []) (nest := false) xc4 (m_X4_put hI v7 (-3 : Int32) μ14) dX5_takeEither_42 qm_X5_92 qi_X4_put qs_X4_put qc_X4 qd_X4_put qh_X4_put (by omega) (fun _ => Nat.le_of_ble_eq_true rfl) (Nat.le_of_ble_eq_true rfl) (fun _ μ15 => ?_)
      refine s_iinc hC 3 dX5_takeEither_45 rfl (w := 1) (by decide) (by decide) (lv' := [(3, vI (v9 + (1 : Int32))), (0, vR v6), (1, vR v7), (2, vI v8)]) rfl ?_
      refine s_goto hC dX5_takeEither_48 (tgt := 13) (by decide) ?_
      refine s_lv (lv' := [(0, vR v6), (1, vR v7), (2, vI v8), (3, vI (v9 + (1 : Int32)))]) [1, 2, 3, 0] rfl ?_
      exact ih _ _ _ _ _
    refine s_iconst hC dX5_takeEither_37 (v := 0) (by decide) ?_
    exact s_zret hC hr hlk dX5_takeEither_38
def f_X5_takeEither_B (X : x_X) (zc : Nat → Nat → Nat → Int32 → x_M → Option (Int32 × x_M)) (v0 : Nat) (v1 : Nat) (v2 : Int32) (μ : x_M) : Option (Int32 × x_M) :=
  (ck (x_kd X v0 = 5 + 1) (bd (zc 1 v0 v1 v2 μ) (fun (v4 : Int32) (μ5 : x_M) => (if v4 = 0 then (ck ((0 : Int32) = 0 ∨ (0 : Int32) = 1) (some ((0 : Int32), μ5))) else (f_X5_takeEither_B_L13 X zc 4096 v0 v1 v2 (0 : Int32) μ5)))))
set_option maxRecDepth 100000 in
theorem b_X5_takeEither_B (hI : x_I X) (hlev : 6 ≤ lev) (hz : (∀ (v0 : Nat) (v1 : Nat) (v2 : Int32) (μ : x_M), x_Met X x_Z0 l yX5_takeEither cX5_takeEither 4 (some .boolean) lev [vR v0, vR v1, vI v2] μ rkI (zc 0 v0 v1 v2 μ)) ∧ (∀ (v0 : Nat) (v1 : Nat) (v2 : Int32) (μ : x_M), x_Met X x_Z0 l yX5_takeBoth cX5_takeBoth 4 (some .boolean) lev [vR v0, vR v1, vI v2] μ rkI (zc 1 v0 v1 v2 μ)) ∧ (∀ (v0 : Nat) (v1 : Nat) (v2 : Int32) (μ : x_M), x_Met X x_Z0 l yX5_takeFactor cX5_takeFactor 3 (some .boolean) lev [vR v0, vR v1, vI v2] μ rkI (zc 2 v0 v1 v2 μ))) (v0 : Nat) (v1 : Nat) (v2 : Int32) (μ : x_M) : x_Met X x_Z0 l yX5_takeEither cX5_takeEither 4 (some .boolean) (lev + 1) [vR v0, vR v1, vI v2] μ rkI (f_X5_takeEither_B X zc v0 v1 v2 μ) := by
  refine x_enter hI (by decide +kernel) (Nat.le_of_ble_eq_true rfl) (fun p e s m args below meth c hC hr hlk => ?_)
  unfold f_X5_takeEither_B
  refine s_lv (lv' := [(0, vR v0), (1, vR v1), (2, vI v2)]) [0, 1, 2] rfl ?_
  refine s_aload_n hC 0 dX5_takeEither_0 rfl ?_
  refine s_aload_n hC 1 dX5_takeEither_1 rfl ?_
  refine s_iload_n hC 2 dX5_takeEither_2 rfl ?_
  refine s_callV hC (x := v0) (avs := [vR v1, vI v2]) (st := []) (nest := false) xc5 (hz.2.1 v0 v1 v2 μ) dX5_takeEither_3 qm_X5_89 qi_X5_takeBoth qs_X5_takeBoth qc_X5 qd_X5_takeBoth qh_X5_takeBoth (by omega) (fun _ => Nat.le_of_ble_eq_true rfl) (Nat.le_of_ble_eq_true rfl) (fun v4 μ5 => ?_)
  refine s_if_ne hC dX5_takeEither_6 (tgt := 11) (by decide) ?_ ?_
  · refine s_iconst hC dX5_takeEither_11 (v := 0) (by decide) ?_
    refine s_istore_n hC dX5_takeEither_12 (by decide) (lv' := [(3, vI (0 : Int32)), (0, vR v0), (1, vR v1), (2, vI v2)]) rfl ?_
    refine s_lv (lv' := [(0, vR v0), (1, vR v1), (2, vI v2), (3, vI (0 : Int32))]) [1, 2, 3, 0] rfl ?_
    refine j_X5_takeEither_B_L13 hI hC hr hlk hlev hz 4096 _ _ _ _ _
  refine s_iconst hC dX5_takeEither_9 (v := 0) (by decide) ?_
  exact s_zret hC hr hlk dX5_takeEither_10
theorem dX5_takeBoth_0 : decode cX5_takeBoth 0 = .ok (.aload_n 0, 1) := by decide +kernel
theorem dX5_takeBoth_1 : decode cX5_takeBoth 1 = .ok (.aload_n 1, 1) := by decide +kernel
theorem dX5_takeBoth_2 : decode cX5_takeBoth 2 = .ok (.iload_n 2, 1) := by decide +kernel
theorem dX5_takeBoth_3 : decode cX5_takeBoth 3 = .ok (.invokevirtual 96, 3) := by decide +kernel
theorem dX5_takeBoth_6 : decode cX5_takeBoth 6 = .ok (.ifCond .ne 5, 3) := by decide +kernel
theorem dX5_takeBoth_9 : decode cX5_takeBoth 9 = .ok (.iconst 0, 1) := by decide +kernel
theorem dX5_takeBoth_10 : decode cX5_takeBoth 10 = .ok (.ireturn, 1) := by decide +kernel
theorem dX5_takeBoth_11 : decode cX5_takeBoth 11 = .ok (.iconst 0, 1) := by decide +kernel
theorem dX5_takeBoth_12 : decode cX5_takeBoth 12 = .ok (.istore_n 3, 1) := by decide +kernel
theorem dX5_takeBoth_13 : decode cX5_takeBoth 13 = .ok (.iload_n 3, 1) := by decide +kernel
theorem dX5_takeBoth_14 : decode cX5_takeBoth 14 = .ok (.bipush 100, 2) := by decide +kernel
theorem dX5_takeBoth_16 : decode cX5_takeBoth 16 = .ok (.if_icmp .ge 35, 3) := by decide +kernel
theorem dX5_takeBoth_19 : decode cX5_takeBoth 19 = .ok (.aload_n 0, 1) := by decide +kernel
theorem dX5_takeBoth_20 : decode cX5_takeBoth 20 = .ok (.bipush 38, 2) := by decide +kernel
theorem dX5_takeBoth_22 : decode cX5_takeBoth 22 = .ok (.invokevirtual 31, 3) := by decide +kernel
theorem dX5_takeBoth_25 : decode cX5_takeBoth 25 = .ok (.ifCond .eq 26, 3) := by decide +kernel
theorem dX5_takeBoth_28 : decode cX5_takeBoth 28 = .ok (.aload_n 0, 1) := by decide +kernel
theorem dX5_takeBoth_29 : decode cX5_takeBoth 29 = .ok (.aload_n 1, 1) := by decide +kernel
theorem dX5_takeBoth_30 : decode cX5_takeBoth 30 = .ok (.iload_n 2, 1) := by decide +kernel
theorem dX5_takeBoth_31 : decode cX5_takeBoth 31 = .ok (.invokevirtual 96, 3) := by decide +kernel
theorem dX5_takeBoth_34 : decode cX5_takeBoth 34 = .ok (.ifCond .ne 5, 3) := by decide +kernel
theorem dX5_takeBoth_37 : decode cX5_takeBoth 37 = .ok (.iconst 0, 1) := by decide +kernel
theorem dX5_takeBoth_38 : decode cX5_takeBoth 38 = .ok (.ireturn, 1) := by decide +kernel
theorem dX5_takeBoth_39 : decode cX5_takeBoth 39 = .ok (.aload_n 1, 1) := by decide +kernel
theorem dX5_takeBoth_40 : decode cX5_takeBoth 40 = .ok (.bipush (-2), 2) := by decide +kernel
theorem dX5_takeBoth_42 : decode cX5_takeBoth 42 = .ok (.invokevirtual 92, 3) := by decide +kernel
theorem dX5_takeBoth_45 : decode cX5_takeBoth 45 = .ok (.iinc 3 1, 3) := by decide +kernel
theorem dX5_takeBoth_48 : decode cX5_takeBoth 48 = .ok (.goto (-35), 3) := by decide +kernel
theorem dX5_takeBoth_51 : decode cX5_takeBoth 51 = .ok (.iconst 1, 1) := by decide +kernel
theorem dX5_takeBoth_52 : decode cX5_takeBoth 52 = .ok (.ireturn, 1) := by decide +kernel
def f_X5_takeBoth_B_L13 (X : x_X) (zc : Nat → Nat → Nat → Int32 → x_M → Option (Int32 × x_M)) : Nat → Nat → Nat → Int32 → Int32 → x_M → Option (Int32 × x_M)
  | 0, _, _, _, _, _ => none
  | n + 1, v6, v7, v8, v9, μ10 =>
    (if (100 : Int32) ≤ v9 then (ck ((1 : Int32) = 0 ∨ (1 : Int32) = 1) (some ((1 : Int32), μ10))) else (ck (x_kd X v6 = 5 + 1) (bd (f_X5_take X v6 (38 : Int32) μ10) (fun (v11 : Int32) (μ12 : x_M) => (if v11 = 0 then (ck ((1 : Int32) = 0 ∨ (1 : Int32) = 1) (some ((1 : Int32), μ12))) else (ck (x_kd X v6 = 5 + 1) (bd (zc 2 v6 v7 v8 μ12) (fun (v13 : Int32) (μ14 : x_M) => (if v13 = 0 then (ck ((0 : Int32) = 0 ∨ (0 : Int32) = 1) (some ((0 : Int32), μ14))) else (ck (x_kd X v7 = 4 + 1) (bd (f_X4_put X v7 (-2 : Int32) μ14) (fun (_ : Unit) (μ15 : x_M) => (f_X5_takeBoth_B_L13 X zc n v6 v7 v8 (v9 + (1 : Int32)) μ15)))))))))))))
set_option maxRecDepth 100000 in
theorem j_X5_takeBoth_B_L13 (hI : x_I X) (hC : x_C X x_Z0 p (x_rm (lev + 1)) s m c cX5_takeBoth RX5 4 0 0 (lev + 1)) (hr : meth.sig.returnType = (some .boolean)) (hlk : meth.locks = false) (hlev : 6 ≤ lev) (hz : (∀ (v0 : Nat) (v1 : Nat) (v2 : Int32) (μ : x_M), x_Met X x_Z0 l yX5_takeEither cX5_takeEither 4 (some .boolean) lev [vR v0, vR v1, vI v2] μ rkI (zc 0 v0 v1 v2 μ)) ∧ (∀ (v0 : Nat) (v1 : Nat) (v2 : Int32) (μ : x_M), x_Met X x_Z0 l yX5_takeBoth cX5_takeBoth 4 (some .boolean) lev [vR v0, vR v1, vI v2] μ rkI (zc 1 v0 v1 v2 μ)) ∧ (∀ (v0 : Nat) (v1 : Nat) (v2 : Int32) (μ : x_M), x_Met X x_Z0 l yX5_takeFactor cX5_takeFactor 3 (some .boolean) lev [vR v0, vR v1, vI v2] μ rkI (zc 2 v0 v1 v2 μ))) : ∀ (n : Nat) (v6 : Nat) (v7 : Nat) (v8 : Int32) (v9 : Int32) (μ10 : x_M), SM X 4 (lev + 1) rkI p l e s m args below meth c 13 [(0, vR v6), (1, vR v7), (2, vI v8), (3, vI v9)] [] μ10 (f_X5_takeBoth_B_L13 X zc n v6 v7 v8 v9 μ10) := by
  intro n
  induction n with
  | zero => intro v6 v7 v8 v9 μ10; exact s_none
  | succ n ih =>
    intro v6 v7 v8 v9 μ10
    unfold f_X5_takeBoth_B_L13
    refine s_iload_n hC 3 dX5_takeBoth_13 rfl ?_
    refine s_bipush hC dX5_takeBoth_14 (v := 100) (by decide) ?_
    refine s_icmp_ge hC dX5_takeBoth_16 (tgt := 51) (by decide) ?_ ?_
    · refine s_iconst hC dX5_takeBoth_51 (v := 1) (by decide) ?_
      exact s_zret hC hr hlk dX5_takeBoth_52
    refine s_aload_n hC 0 dX5_takeBoth_19 rfl ?_
    refine s_bipush hC dX5_takeBoth_20 (v := 38) (by decide) ?_
    refine s_callV hC (x := v6) (avs := [vI (38 : Int32)]) (st := []) (nest := false) xc5 (m_X5_take hI v6 (38 : Int32) μ10) dX5_takeBoth_22 qm_X5_31 qi_X5_take qs_X5_take qc_X5 qd_X5_take qh_X5_take (by omega) (fun _ => Nat.le_of_ble_eq_true rfl) (Nat.le_of_ble_eq_true rfl) (fun v11 μ12 => ?_)
    refine s_if_eq hC dX5_takeBoth_25 (tgt := 51) (by decide) ?_ ?_
    · refine s_iconst hC dX5_takeBoth_51 (v := 1) (by decide) ?_
      exact s_zret hC hr hlk dX5_takeBoth_52
    refine s_aload_n hC 0 dX5_takeBoth_28 rfl ?_
    refine s_aload_n hC 1 dX5_takeBoth_29 rfl ?_
    refine s_iload_n hC 2 dX5_takeBoth_30 rfl ?_
    refine s_callV hC (x := v6) (avs := [vR v7, vI v8]) (st := []) (nest := false) xc5 (hz.2.2 v6 v7 v8 μ12) dX5_takeBoth_31 qm_X5_96 qi_X5_takeFactor qs_X5_takeFactor qc_X5 qd_X5_takeFactor qh_X5_takeFactor (by omega) (fun _ => Nat.le_of_ble_eq_true rfl) (Nat.le_of_ble_eq_true rfl) (fun v13 μ14 => ?_)
    refine s_if_ne hC dX5_takeBoth_34 (tgt := 39) (by decide) ?_ ?_
    · refine s_aload_n hC 1 dX5_takeBoth_39 rfl ?_
      refine s_bipush hC dX5_takeBoth_40 (v := -2) (by decide) ?_
      refine s_callV hC (x := v7) (avs := [vI (-2 : Int32)]) (st := []) (nest := false) xc4 (m_X4_put hI v7 (-2 : Int32) μ14) dX5_takeBoth_42 qm_X5_92 qi_X4_put qs_X4_put qc_X4 qd_X4_put qh_X4_put (by omega) (fun _ => Nat.le_of_ble_eq_true rfl) (Nat.le_of_ble_eq_true rfl) (fun _ μ15 => ?_)
      refine s_iinc hC 3 dX5_takeBoth_45 rfl (w := 1) (by decide) (by decide) (lv' := [(3, vI (v9 + (1 : Int32))), (0, vR v6), (1, vR v7), (2, vI v8)]) rfl ?_
      refine s_goto hC dX5_takeBoth_48 (tgt := 13) (by decide) ?_
      refine s_lv (lv' := [(0, vR v6), (1, vR v7), (2, vI v8), (3, vI (v9 + (1 : Int32)))]) [1, 2, 3, 0] rfl ?_
      exact ih _ _ _ _ _
    refine s_iconst hC dX5_takeBoth_37 (v := 0) (by decide) ?_
    exact s_zret hC hr hlk dX5_takeBoth_38
def f_X5_takeBoth_B (X : x_X) (zc : Nat → Nat → Nat → Int32 → x_M → Option (Int32 × x_M)) (v0 : Nat) (v1 : Nat) (v2 : Int32) (μ : x_M) : Option (Int32 × x_M) :=
  (ck (x_kd X v0 = 5 + 1) (bd (zc 2 v0 v1 v2 μ) (fun (v4 : Int32) (μ5 : x_M) => (if v4 = 0 then (ck ((0 : Int32) = 0 ∨ (0 : Int32) = 1) (some ((0 : Int32), μ5))) else (f_X5_takeBoth_B_L13 X zc 4096 v0 v1 v2 (0 : Int32) μ5)))))
set_option maxRecDepth 100000 in
theorem b_X5_takeBoth_B (hI : x_I X) (hlev : 6 ≤ lev) (hz : (∀ (v0 : Nat) (v1 : Nat) (v2 : Int32) (μ : x_M), x_Met X x_Z0 l yX5_takeEither cX5_takeEither 4 (some .boolean) lev [vR v0, vR v1, vI v2] μ rkI (zc 0 v0 v1 v2 μ)) ∧ (∀ (v0 : Nat) (v1 : Nat) (v2 : Int32) (μ : x_M), x_Met X x_Z0 l yX5_takeBoth cX5_takeBoth 4 (some .boolean) lev [vR v0, vR v1, vI v2] μ rkI (zc 1 v0 v1 v2 μ)) ∧ (∀ (v0 : Nat) (v1 : Nat) (v2 : Int32) (μ : x_M), x_Met X x_Z0 l yX5_takeFactor cX5_takeFactor 3 (some .boolean) lev [vR v0, vR v1, vI v2] μ rkI (zc 2 v0 v1 v2 μ))) (v0 : Nat) (v1 : Nat) (v2 : Int32) (μ : x_M) : x_Met X x_Z0 l yX5_takeBoth cX5_takeBoth 4 (some .boolean) (lev + 1) [vR v0, vR v1, vI v2] μ rkI (f_X5_takeBoth_B X zc v0 v1 v2 μ) := by
  refine x_enter hI (by decide +kernel) (Nat.le_of_ble_eq_true rfl) (fun p e s m args below meth c hC hr hlk => ?_)
  unfold f_X5_takeBoth_B
  refine s_lv (lv' := [(0, vR v0), (1, vR v1), (2, vI v2)]) [0, 1, 2] rfl ?_
  refine s_aload_n hC 0 dX5_takeBoth_0 rfl ?_
  refine s_aload_n hC 1 dX5_takeBoth_1 rfl ?_
  refine s_iload_n hC 2 dX5_takeBoth_2 rfl ?_
  refine s_callV hC (x := v0) (avs := [vR v1, vI v2]) (st := []) (nest := false) xc5 (hz.2.2 v0 v1 v2 μ) dX5_takeBoth_3 qm_X5_96 qi_X5_takeFactor qs_X5_takeFactor qc_X5 qd_X5_takeFactor qh_X5_takeFactor (by omega) (fun _ => Nat.le_of_ble_eq_true rfl) (Nat.le_of_ble_eq_true rfl) (fun v4 μ5 => ?_)
  refine s_if_ne hC dX5_takeBoth_6 (tgt := 11) (by decide) ?_ ?_
  · refine s_iconst hC dX5_takeBoth_11 (v := 0) (by decide) ?_
    refine s_istore_n hC dX5_takeBoth_12 (by decide) (lv' := [(3, vI (0 : Int32)), (0, vR v0), (1, vR v1), (2, vI v2)]) rfl ?_
    refine s_lv (lv' := [(0, vR v0), (1, vR v1), (2, vI v2), (3, vI (0 : Int32))]) [1, 2, 3, 0] rfl ?_
    refine j_X5_takeBoth_B_L13 hI hC hr hlk hlev hz 4096 _ _ _ _ _
  refine s_iconst hC dX5_takeBoth_9 (v := 0) (by decide) ?_
  exact s_zret hC hr hlk dX5_takeBoth_10
theorem dX5_takeFactor_0 : decode cX5_takeFactor 0 = .ok (.iload_n 2, 1) := by decide +kernel
theorem dX5_takeFactor_1 : decode cX5_takeFactor 1 = .ok (.iconst 4, 1) := by decide +kernel
theorem dX5_takeFactor_2 : decode cX5_takeFactor 2 = .ok (.if_icmp .ge 38, 3) := by decide +kernel
theorem dX5_takeFactor_5 : decode cX5_takeFactor 5 = .ok (.aload_n 0, 1) := by decide +kernel
theorem dX5_takeFactor_6 : decode cX5_takeFactor 6 = .ok (.bipush 40, 2) := by decide +kernel
theorem dX5_takeFactor_8 : decode cX5_takeFactor 8 = .ok (.invokevirtual 31, 3) := by decide +kernel
theorem dX5_takeFactor_11 : decode cX5_takeFactor 11 = .ok (.ifCond .eq 29, 3) := by decide +kernel
theorem dX5_takeFactor_14 : decode cX5_takeFactor 14 = .ok (.aload_n 0, 1) := by decide +kernel
theorem dX5_takeFactor_15 : decode cX5_takeFactor 15 = .ok (.aload_n 1, 1) := by decide +kernel
theorem dX5_takeFactor_16 : decode cX5_takeFactor 16 = .ok (.iload_n 2, 1) := by decide +kernel
theorem dX5_takeFactor_17 : decode cX5_takeFactor 17 = .ok (.iconst 1, 1) := by decide +kernel
theorem dX5_takeFactor_18 : decode cX5_takeFactor 18 = .ok (.iadd, 1) := by decide +kernel
theorem dX5_takeFactor_19 : decode cX5_takeFactor 19 = .ok (.invokevirtual 46, 3) := by decide +kernel
theorem dX5_takeFactor_22 : decode cX5_takeFactor 22 = .ok (.ifCond .eq 16, 3) := by decide +kernel
theorem dX5_takeFactor_25 : decode cX5_takeFactor 25 = .ok (.aload_n 0, 1) := by decide +kernel
theorem dX5_takeFactor_26 : decode cX5_takeFactor 26 = .ok (.bipush 41, 2) := by decide +kernel
theorem dX5_takeFactor_28 : decode cX5_takeFactor 28 = .ok (.invokevirtual 31, 3) := by decide +kernel
theorem dX5_takeFactor_31 : decode cX5_takeFactor 31 = .ok (.ifCond .eq 7, 3) := by decide +kernel
theorem dX5_takeFactor_34 : decode cX5_takeFactor 34 = .ok (.iconst 1, 1) := by decide +kernel
theorem dX5_takeFactor_35 : decode cX5_takeFactor 35 = .ok (.goto 4, 3) := by decide +kernel
theorem dX5_takeFactor_38 : decode cX5_takeFactor 38 = .ok (.iconst 0, 1) := by decide +kernel
theorem dX5_takeFactor_39 : decode cX5_takeFactor 39 = .ok (.ireturn, 1) := by decide +kernel
theorem dX5_takeFactor_40 : decode cX5_takeFactor 40 = .ok (.iload_n 2, 1) := by decide +kernel
theorem dX5_takeFactor_41 : decode cX5_takeFactor 41 = .ok (.iconst 4, 1) := by decide +kernel
theorem dX5_takeFactor_42 : decode cX5_takeFactor 42 = .ok (.if_icmp .ge 32, 3) := by decide +kernel
theorem dX5_takeFactor_45 : decode cX5_takeFactor 45 = .ok (.aload_n 0, 1) := by decide +kernel
theorem dX5_takeFactor_46 : decode cX5_takeFactor 46 = .ok (.bipush 33, 2) := by decide +kernel
theorem dX5_takeFactor_48 : decode cX5_takeFactor 48 = .ok (.invokevirtual 31, 3) := by decide +kernel
theorem dX5_takeFactor_51 : decode cX5_takeFactor 51 = .ok (.ifCond .eq 23, 3) := by decide +kernel
theorem dX5_takeFactor_54 : decode cX5_takeFactor 54 = .ok (.aload_n 0, 1) := by decide +kernel
theorem dX5_takeFactor_55 : decode cX5_takeFactor 55 = .ok (.aload_n 1, 1) := by decide +kernel
theorem dX5_takeFactor_56 : decode cX5_takeFactor 56 = .ok (.iload_n 2, 1) := by decide +kernel
theorem dX5_takeFactor_57 : decode cX5_takeFactor 57 = .ok (.iconst 1, 1) := by decide +kernel
theorem dX5_takeFactor_58 : decode cX5_takeFactor 58 = .ok (.iadd, 1) := by decide +kernel
theorem dX5_takeFactor_59 : decode cX5_takeFactor 59 = .ok (.invokevirtual 96, 3) := by decide +kernel
theorem dX5_takeFactor_62 : decode cX5_takeFactor 62 = .ok (.ifCond .ne 5, 3) := by decide +kernel
theorem dX5_takeFactor_65 : decode cX5_takeFactor 65 = .ok (.iconst 0, 1) := by decide +kernel
theorem dX5_takeFactor_66 : decode cX5_takeFactor 66 = .ok (.ireturn, 1) := by decide +kernel
theorem dX5_takeFactor_67 : decode cX5_takeFactor 67 = .ok (.aload_n 1, 1) := by decide +kernel
theorem dX5_takeFactor_68 : decode cX5_takeFactor 68 = .ok (.iconst (-1), 1) := by decide +kernel
theorem dX5_takeFactor_69 : decode cX5_takeFactor 69 = .ok (.invokevirtual 92, 3) := by decide +kernel
theorem dX5_takeFactor_72 : decode cX5_takeFactor 72 = .ok (.iconst 1, 1) := by decide +kernel
theorem dX5_takeFactor_73 : decode cX5_takeFactor 73 = .ok (.ireturn, 1) := by decide +kernel
theorem dX5_takeFactor_74 : decode cX5_takeFactor 74 = .ok (.aload_n 0, 1) := by decide +kernel
theorem dX5_takeFactor_75 : decode cX5_takeFactor 75 = .ok (.aload_n 1, 1) := by decide +kernel
theorem dX5_takeFactor_76 : decode cX5_takeFactor 76 = .ok (.invokevirtual 99, 3) := by decide +kernel
theorem dX5_takeFactor_79 : decode cX5_takeFactor 79 = .ok (.ireturn, 1) := by decide +kernel
def f_X5_takeFactor_B_J40 (X : x_X) (zc : Nat → Nat → Nat → Int32 → x_M → Option (Int32 × x_M)) (v4 : Nat) (v5 : Nat) (v6 : Int32) (μ7 : x_M) : Option (Int32 × x_M) :=
  (if (4 : Int32) ≤ v6 then (ck (x_kd X v4 = 5 + 1) (bd (f_X5_takeTest X v4 v5 μ7) (fun (v8 : Int32) (μ9 : x_M) => (ck (v8 = 0 ∨ v8 = 1) (some (v8, μ9)))))) else (ck (x_kd X v4 = 5 + 1) (bd (f_X5_take X v4 (33 : Int32) μ7) (fun (v10 : Int32) (μ11 : x_M) => (if v10 = 0 then (ck (x_kd X v4 = 5 + 1) (bd (f_X5_takeTest X v4 v5 μ11) (fun (v12 : Int32) (μ13 : x_M) => (ck (v12 = 0 ∨ v12 = 1) (some (v12, μ13)))))) else (ck (x_kd X v4 = 5 + 1) (bd (zc 2 v4 v5 (v6 + (1 : Int32)) μ11) (fun (v14 : Int32) (μ15 : x_M) => (if v14 = 0 then (ck ((0 : Int32) = 0 ∨ (0 : Int32) = 1) (some ((0 : Int32), μ15))) else (ck (x_kd X v5 = 4 + 1) (bd (f_X4_put X v5 (-1 : Int32) μ15) (fun (_ : Unit) (μ16 : x_M) => (ck ((1 : Int32) = 0 ∨ (1 : Int32) = 1) (some ((1 : Int32), μ16)))))))))))))))
set_option maxRecDepth 100000 in
theorem j_X5_takeFactor_B_J40 (hI : x_I X) (hC : x_C X x_Z0 p (x_rm (lev + 1)) s m c cX5_takeFactor RX5 3 0 0 (lev + 1)) (hr : meth.sig.returnType = (some .boolean)) (hlk : meth.locks = false) (hlev : 6 ≤ lev) (hz : (∀ (v0 : Nat) (v1 : Nat) (v2 : Int32) (μ : x_M), x_Met X x_Z0 l yX5_takeEither cX5_takeEither 4 (some .boolean) lev [vR v0, vR v1, vI v2] μ rkI (zc 0 v0 v1 v2 μ)) ∧ (∀ (v0 : Nat) (v1 : Nat) (v2 : Int32) (μ : x_M), x_Met X x_Z0 l yX5_takeBoth cX5_takeBoth 4 (some .boolean) lev [vR v0, vR v1, vI v2] μ rkI (zc 1 v0 v1 v2 μ)) ∧ (∀ (v0 : Nat) (v1 : Nat) (v2 : Int32) (μ : x_M), x_Met X x_Z0 l yX5_takeFactor cX5_takeFactor 3 (some .boolean) lev [vR v0, vR v1, vI v2] μ rkI (zc 2 v0 v1 v2 μ))) (v4 : Nat) (v5 : Nat) (v6 : Int32) (μ7 : x_M) : SM X 3 (lev + 1) rkI p l e s m args below meth c 40 [(0, vR v4), (1, vR v5), (2, vI v6)] [] μ7 (f_X5_takeFactor_B_J40 X zc v4 v5 v6 μ7) := by
  unfold f_X5_takeFactor_B_J40
  refine s_iload_n hC 2 dX5_takeFactor_40 rfl ?_
  refine s_iconst hC dX5_takeFactor_41 (v := 4) (by decide) ?_
  refine s_icmp_ge hC dX5_takeFactor_42 (tgt := 74) (by decide) ?_ ?_
  · refine s_aload_n hC 0 dX5_takeFactor_74 rfl ?_
    refine s_aload_n hC 1 dX5_takeFactor_75 rfl ?_
    refine s_callV hC (x := v4) (avs := [vR v5]) (st := []) (nest := false) xc5 (m_X5_takeTest hI v4 v5 μ7) dX5_takeFactor_76 qm_X5_99 qi_X5_takeTest qs_X5_takeTest qc_X5 qd_X5_takeTest qh_X5_takeTest (by omega) (fun _ => Nat.le_of_ble_eq_true rfl) (Nat.le_of_ble_eq_true rfl) (fun v8 μ9 => ?_)
    exact s_zret hC hr hlk dX5_takeFactor_79
  refine s_aload_n hC 0 dX5_takeFactor_45 rfl ?_
  refine s_bipush hC dX5_takeFactor_46 (v := 33) (by decide) ?_
  refine s_callV hC (x := v4) (avs := [vI (33 : Int32)]) (st := []) (nest := false) xc5 (m_X5_take hI v4 (33 : Int32) μ7) dX5_takeFactor_48 qm_X5_31 qi_X5_take qs_X5_take qc_X5 qd_X5_take qh_X5_take (by omega) (fun _ => Nat.le_of_ble_eq_true rfl) (Nat.le_of_ble_eq_true rfl) (fun v10 μ11 => ?_)
  refine s_if_eq hC dX5_takeFactor_51 (tgt := 74) (by decide) ?_ ?_
  · refine s_aload_n hC 0 dX5_takeFactor_74 rfl ?_
    refine s_aload_n hC 1 dX5_takeFactor_75 rfl ?_
    refine s_callV hC (x := v4) (avs := [vR v5]) (st := []) (nest := false) xc5 (m_X5_takeTest hI v4 v5 μ11) dX5_takeFactor_76 qm_X5_99 qi_X5_takeTest qs_X5_takeTest qc_X5 qd_X5_takeTest qh_X5_takeTest (by omega) (fun _ => Nat.le_of_ble_eq_true rfl) (Nat.le_of_ble_eq_true rfl) (fun v12 μ13 => ?_)
    exact s_zret hC hr hlk dX5_takeFactor_79
  refine s_aload_n hC 0 dX5_takeFactor_54 rfl ?_
  refine s_aload_n hC 1 dX5_takeFactor_55 rfl ?_
  refine s_iload_n hC 2 dX5_takeFactor_56 rfl ?_
  refine s_iconst hC dX5_takeFactor_57 (v := 1) (by decide) ?_
  refine s_iadd hC dX5_takeFactor_58 ?_
  refine s_callV hC (x := v4) (avs := [vR v5, vI (v6 + (1 : Int32))]) (st := []) (nest := false) xc5 (hz.2.2 v4 v5 (v6 + (1 : Int32)) μ11) dX5_takeFactor_59 qm_X5_96 qi_X5_takeFactor qs_X5_takeFactor qc_X5 qd_X5_takeFactor qh_X5_takeFactor (by omega) (fun _ => Nat.le_of_ble_eq_true rfl) (Nat.le_of_ble_eq_true rfl) (fun v14 μ15 => ?_)
  refine s_if_ne hC dX5_takeFactor_62 (tgt := 67) (by decide) ?_ ?_
  · refine s_aload_n hC 1 dX5_takeFactor_67 rfl ?_
    refine s_iconst hC dX5_takeFactor_68 (v := -1) (by decide) ?_
    refine s_callV hC (x := v5) (avs := [vI (-1 : Int32)]) (st := []) (nest := false) xc4 (m_X4_put hI v5 (-1 : Int32) μ15) dX5_takeFactor_69 qm_X5_92 qi_X4_put qs_X4_put qc_X4 qd_X4_put qh_X4_put (by omega) (fun _ => Nat.le_of_ble_eq_true rfl) (Nat.le_of_ble_eq_true rfl) (fun _ μ16 => ?_)
    refine s_iconst hC dX5_takeFactor_72 (v := 1) (by decide) ?_
    exact s_zret hC hr hlk dX5_takeFactor_73
  refine s_iconst hC dX5_takeFactor_65 (v := 0) (by decide) ?_
  exact s_zret hC hr hlk dX5_takeFactor_66
def f_X5_takeFactor_B (X : x_X) (zc : Nat → Nat → Nat → Int32 → x_M → Option (Int32 × x_M)) (v0 : Nat) (v1 : Nat) (v2 : Int32) (μ : x_M) : Option (Int32 × x_M) :=
  (if (4 : Int32) ≤ v2 then (f_X5_takeFactor_B_J40 X zc v0 v1 v2 μ) else (ck (x_kd X v0 = 5 + 1) (bd (f_X5_take X v0 (40 : Int32) μ) (fun (v17 : Int32) (μ18 : x_M) => (if v17 = 0 then (f_X5_takeFactor_B_J40 X zc v0 v1 v2 μ18) else (ck (x_kd X v0 = 5 + 1) (bd (zc 0 v0 v1 (v2 + (1 : Int32)) μ18) (fun (v19 : Int32) (μ20 : x_M) => (if v19 = 0 then (ck ((0 : Int32) = 0 ∨ (0 : Int32) = 1) (some ((0 : Int32), μ20))) else (ck (x_kd X v0 = 5 + 1) (bd (f_X5_take X v0 (41 : Int32) μ20) (fun (v21 : Int32) (μ22 : x_M) => (if v21 = 0 then (ck ((0 : Int32) = 0 ∨ (0 : Int32) = 1) (some ((0 : Int32), μ22))) else (ck ((1 : Int32) = 0 ∨ (1 : Int32) = 1) (some ((1 : Int32), μ22))))))))))))))))
set_option maxRecDepth 100000 in
theorem b_X5_takeFactor_B (hI : x_I X) (hlev : 6 ≤ lev) (hz : (∀ (v0 : Nat) (v1 : Nat) (v2 : Int32) (μ : x_M), x_Met X x_Z0 l yX5_takeEither cX5_takeEither 4 (some .boolean) lev [vR v0, vR v1, vI v2] μ rkI (zc 0 v0 v1 v2 μ)) ∧ (∀ (v0 : Nat) (v1 : Nat) (v2 : Int32) (μ : x_M), x_Met X x_Z0 l yX5_takeBoth cX5_takeBoth 4 (some .boolean) lev [vR v0, vR v1, vI v2] μ rkI (zc 1 v0 v1 v2 μ)) ∧ (∀ (v0 : Nat) (v1 : Nat) (v2 : Int32) (μ : x_M), x_Met X x_Z0 l yX5_takeFactor cX5_takeFactor 3 (some .boolean) lev [vR v0, vR v1, vI v2] μ rkI (zc 2 v0 v1 v2 μ))) (v0 : Nat) (v1 : Nat) (v2 : Int32) (μ : x_M) : x_Met X x_Z0 l yX5_takeFactor cX5_takeFactor 3 (some .boolean) (lev + 1) [vR v0, vR v1, vI v2] μ rkI (f_X5_takeFactor_B X zc v0 v1 v2 μ) := by
  refine x_enter hI (by decide +kernel) (Nat.le_of_ble_eq_true rfl) (fun p e s m args below meth c hC hr hlk => ?_)
  unfold f_X5_takeFactor_B
  refine s_lv (lv' := [(0, vR v0), (1, vR v1), (2, vI v2)]) [0, 1, 2] rfl ?_
  refine s_iload_n hC 2 dX5_takeFactor_0 rfl ?_
  refine s_iconst hC dX5_takeFactor_1 (v := 4) (by decide) ?_
  refine s_icmp_ge hC dX5_takeFactor_2 (tgt := 40) (by decide) ?_ ?_
  · exact j_X5_takeFactor_B_J40 hI hC hr hlk hlev hz _ _ _ _
  refine s_aload_n hC 0 dX5_takeFactor_5 rfl ?_
  refine s_bipush hC dX5_takeFactor_6 (v := 40) (by decide) ?_
  refine s_callV hC (x := v0) (avs := [vI (40 : Int32)]) (st := []) (nest := false) xc5 (m_X5_take hI v0 (40 : Int32) μ) dX5_takeFactor_8 qm_X5_31 qi_X5_take qs_X5_take qc_X5 qd_X5_take qh_X5_take (by omega) (fun _ => Nat.le_of_ble_eq_true rfl) (Nat.le_of_ble_eq_true rfl) (fun v17 μ18 => ?_)
  refine s_if_eq hC dX5_takeFactor_11 (tgt := 40) (by decide) ?_ ?_
  · exact j_X5_takeFactor_B_J40 hI hC hr hlk hlev hz _ _ _ _
  refine s_aload_n hC 0 dX5_takeFactor_14 rfl ?_
  refine s_aload_n hC 1 dX5_takeFactor_15 rfl ?_
  refine s_iload_n hC 2 dX5_takeFactor_16 rfl ?_
  refine s_iconst hC dX5_takeFactor_17 (v := 1) (by decide) ?_
  refine s_iadd hC dX5_takeFactor_18 ?_
  refine s_callV hC (x := v0) (avs := [vR v1, vI (v2 + (1 : Int32))]) (st := []) (nest := false) xc5 (hz.1 v0 v1 (v2 + (1 : Int32)) μ18) dX5_takeFactor_19 qm_X5_46 qi_X5_takeEither qs_X5_takeEither qc_X5 qd_X5_takeEither qh_X5_takeEither (by omega) (fun _ => Nat.le_of_ble_eq_true rfl) (Nat.le_of_ble_eq_true rfl) (fun v19 μ20 => ?_)
  refine s_if_eq hC dX5_takeFactor_22 (tgt := 38) (by decide) ?_ ?_
  · refine s_iconst hC dX5_takeFactor_38 (v := 0) (by decide) ?_
    exact s_zret hC hr hlk dX5_takeFactor_39
  refine s_aload_n hC 0 dX5_takeFactor_25 rfl ?_
  refine s_bipush hC dX5_takeFactor_26 (v := 41) (by decide) ?_
  refine s_callV hC (x := v0) (avs := [vI (41 : Int32)]) (st := []) (nest := false) xc5 (m_X5_take hI v0 (41 : Int32) μ20) dX5_takeFactor_28 qm_X5_31 qi_X5_take qs_X5_take qc_X5 qd_X5_take qh_X5_take (by omega) (fun _ => Nat.le_of_ble_eq_true rfl) (Nat.le_of_ble_eq_true rfl) (fun v21 μ22 => ?_)
  refine s_if_eq hC dX5_takeFactor_31 (tgt := 38) (by decide) ?_ ?_
  · refine s_iconst hC dX5_takeFactor_38 (v := 0) (by decide) ?_
    exact s_zret hC hr hlk dX5_takeFactor_39
  refine s_iconst hC dX5_takeFactor_34 (v := 1) (by decide) ?_
  refine s_goto hC dX5_takeFactor_35 (tgt := 39) (by decide) ?_
  exact s_zret hC hr hlk dX5_takeFactor_39
end G_X5_takeEither
def z_X5_takeEither (X : x_X) : Nat → Nat → Nat → Nat → Int32 → x_M → Option (Int32 × x_M)
  | 0, _, _, _, _, _ => none
  | d + 1, w, v0, v1, v2, μ => if w = 0 then f_X5_takeEither_B X (z_X5_takeEither X d) v0 v1 v2 μ else if w = 1 then f_X5_takeBoth_B X (z_X5_takeEither X d) v0 v1 v2 μ else if w = 2 then f_X5_takeFactor_B X (z_X5_takeEither X d) v0 v1 v2 μ else none
set_option maxRecDepth 100000 in
theorem mz_X5_takeEither (hI : x_I X) : ∀ d : Nat, (∀ (v0 : Nat) (v1 : Nat) (v2 : Int32) (μ : x_M), x_Met X x_Z0 l yX5_takeEither cX5_takeEither 4 (some .boolean) (6 + d) [vR v0, vR v1, vI v2] μ rkI (z_X5_takeEither X d 0 v0 v1 v2 μ)) ∧ (∀ (v0 : Nat) (v1 : Nat) (v2 : Int32) (μ : x_M), x_Met X x_Z0 l yX5_takeBoth cX5_takeBoth 4 (some .boolean) (6 + d) [vR v0, vR v1, vI v2] μ rkI (z_X5_takeEither X d 1 v0 v1 v2 μ)) ∧ (∀ (v0 : Nat) (v1 : Nat) (v2 : Int32) (μ : x_M), x_Met X x_Z0 l yX5_takeFactor cX5_takeFactor 3 (some .boolean) (6 + d) [vR v0, vR v1, vI v2] μ rkI (z_X5_takeEither X d 2 v0 v1 v2 μ)) := by
  intro d
  induction d with
  | zero => exact ⟨(fun v0 v1 v2 μ r μ2 h => by cases h), (fun v0 v1 v2 μ r μ2 h => by cases h), (fun v0 v1 v2 μ r μ2 h => by cases h)⟩
  | succ d ih => exact ⟨(fun v0 v1 v2 μ => b_X5_takeEither_B hI (Nat.le_add_right _ _) ih v0 v1 v2 μ), (fun v0 v1 v2 μ => b_X5_takeBoth_B hI (Nat.le_add_right _ _) ih v0 v1 v2 μ), (fun v0 v1 v2 μ => b_X5_takeFactor_B hI (Nat.le_add_right _ _) ih v0 v1 v2 μ)⟩
def f_X5_takeEither (X : x_X) (v0 : Nat) (v1 : Nat) (v2 : Int32) (μ : x_M) : Option (Int32 × x_M) := z_X5_takeEither X 20 0 v0 v1 v2 μ
theorem m_X5_takeEither (hI : x_I X) (v0 : Nat) (v1 : Nat) (v2 : Int32) (μ : x_M) : x_Met X x_Z0 l yX5_takeEither cX5_takeEither 4 (some .boolean) 26 [vR v0, vR v1, vI v2] μ rkI (f_X5_takeEither X v0 v1 v2 μ) := (mz_X5_takeEither hI 20).1 v0 v1 v2 μ
def f_X5_takeBoth (X : x_X) (v0 : Nat) (v1 : Nat) (v2 : Int32) (μ : x_M) : Option (Int32 × x_M) := z_X5_takeEither X 20 1 v0 v1 v2 μ
theorem m_X5_takeBoth (hI : x_I X) (v0 : Nat) (v1 : Nat) (v2 : Int32) (μ : x_M) : x_Met X x_Z0 l yX5_takeBoth cX5_takeBoth 4 (some .boolean) 26 [vR v0, vR v1, vI v2] μ rkI (f_X5_takeBoth X v0 v1 v2 μ) := (mz_X5_takeEither hI 20).2.1 v0 v1 v2 μ
def f_X5_takeFactor (X : x_X) (v0 : Nat) (v1 : Nat) (v2 : Int32) (μ : x_M) : Option (Int32 × x_M) := z_X5_takeEither X 20 2 v0 v1 v2 μ
theorem m_X5_takeFactor (hI : x_I X) (v0 : Nat) (v1 : Nat) (v2 : Int32) (μ : x_M) : x_Met X x_Z0 l yX5_takeFactor cX5_takeFactor 3 (some .boolean) 26 [vR v0, vR v1, vI v2] μ rkI (f_X5_takeFactor X v0 v1 v2 μ) := (mz_X5_takeEither hI 20).2.2 v0 v1 v2 μ
theorem dX5_parse_0 : decode cX5_parse 0 = .ok (.aload_n 0, 1) := by decide +kernel
theorem dX5_parse_1 : decode cX5_parse 1 = .ok (.iconst 0, 1) := by decide +kernel
theorem dX5_parse_2 : decode cX5_parse 2 = .ok (.putfield 23, 3) := by decide +kernel
theorem dX5_parse_5 : decode cX5_parse 5 = .ok (.aload_n 1, 1) := by decide +kernel
theorem dX5_parse_6 : decode cX5_parse 6 = .ok (.invokevirtual 26, 3) := by decide +kernel
theorem dX5_parse_9 : decode cX5_parse 9 = .ok (.iconst 0, 1) := by decide +kernel
theorem dX5_parse_10 : decode cX5_parse 10 = .ok (.istore_n 2, 1) := by decide +kernel
theorem dX5_parse_11 : decode cX5_parse 11 = .ok (.iload_n 2, 1) := by decide +kernel
theorem dX5_parse_12 : decode cX5_parse 12 = .ok (.bipush 10, 2) := by decide +kernel
theorem dX5_parse_14 : decode cX5_parse 14 = .ok (.if_icmp .ge 125, 3) := by decide +kernel
theorem dX5_parse_17 : decode cX5_parse 17 = .ok (.iload_n 2, 1) := by decide +kernel
theorem dX5_parse_18 : decode cX5_parse 18 = .ok (.ifCond .le 17, 3) := by decide +kernel
theorem dX5_parse_21 : decode cX5_parse 21 = .ok (.aload_n 0, 1) := by decide +kernel
theorem dX5_parse_22 : decode cX5_parse 22 = .ok (.bipush 59, 2) := by decide +kernel
theorem dX5_parse_24 : decode cX5_parse 24 = .ok (.invokevirtual 31, 3) := by decide +kernel
theorem dX5_parse_27 : decode cX5_parse 27 = .ok (.ifCond .ne 8, 3) := by decide +kernel
theorem dX5_parse_30 : decode cX5_parse 30 = .ok (.aload_n 0, 1) := by decide +kernel
theorem dX5_parse_31 : decode cX5_parse 31 = .ok (.getfield 23, 3) := by decide +kernel
theorem dX5_parse_34 : decode cX5_parse 34 = .ok (.ireturn, 1) := by decide +kernel
theorem dX5_parse_35 : decode cX5_parse 35 = .ok (.aload_n 0, 1) := by decide +kernel
theorem dX5_parse_36 : decode cX5_parse 36 = .ok (.invokevirtual 35, 3) := by decide +kernel
theorem dX5_parse_39 : decode cX5_parse 39 = .ok (.istore_n 3, 1) := by decide +kernel
theorem dX5_parse_40 : decode cX5_parse 40 = .ok (.iload_n 3, 1) := by decide +kernel
theorem dX5_parse_41 : decode cX5_parse 41 = .ok (.ifCond .lt 19, 3) := by decide +kernel
theorem dX5_parse_44 : decode cX5_parse 44 = .ok (.aload_n 0, 1) := by decide +kernel
theorem dX5_parse_45 : decode cX5_parse 45 = .ok (.bipush 32, 2) := by decide +kernel
theorem dX5_parse_47 : decode cX5_parse 47 = .ok (.invokevirtual 31, 3) := by decide +kernel
theorem dX5_parse_50 : decode cX5_parse 50 = .ok (.ifCond .eq 10, 3) := by decide +kernel
theorem dX5_parse_53 : decode cX5_parse 53 = .ok (.aload_n 0, 1) := by decide +kernel
theorem dX5_parse_54 : decode cX5_parse 54 = .ok (.invokevirtual 39, 3) := by decide +kernel
theorem dX5_parse_57 : decode cX5_parse 57 = .ok (.goto 4, 3) := by decide +kernel
theorem dX5_parse_60 : decode cX5_parse 60 = .ok (.iconst (-1), 1) := by decide +kernel
theorem dX5_parse_61 : decode cX5_parse 61 = .ok (.istore 4, 2) := by decide +kernel
theorem dX5_parse_63 : decode cX5_parse 63 = .ok (.iload 4, 2) := by decide +kernel
theorem dX5_parse_65 : decode cX5_parse 65 = .ok (.ifCond .ge 8, 3) := by decide +kernel
theorem dX5_parse_68 : decode cX5_parse 68 = .ok (.aload_n 0, 1) := by decide +kernel
theorem dX5_parse_69 : decode cX5_parse 69 = .ok (.getfield 23, 3) := by decide +kernel
theorem dX5_parse_72 : decode cX5_parse 72 = .ok (.ireturn, 1) := by decide +kernel
theorem dX5_parse_73 : decode cX5_parse 73 = .ok (.aload_n 1, 1) := by decide +kernel
theorem dX5_parse_74 : decode cX5_parse 74 = .ok (.iload_n 3, 1) := by decide +kernel
theorem dX5_parse_75 : decode cX5_parse 75 = .ok (.iload 4, 2) := by decide +kernel
theorem dX5_parse_77 : decode cX5_parse 77 = .ok (.invokevirtual 42, 3) := by decide +kernel
theorem dX5_parse_80 : decode cX5_parse 80 = .ok (.iload_n 3, 1) := by decide +kernel
theorem dX5_parse_81 : decode cX5_parse 81 = .ok (.ifCond .eq 8, 3) := by decide +kernel
theorem dX5_parse_84 : decode cX5_parse 84 = .ok (.iload_n 3, 1) := by decide +kernel
theorem dX5_parse_85 : decode cX5_parse 85 = .ok (.iconst 1, 1) := by decide +kernel
theorem dX5_parse_86 : decode cX5_parse 86 = .ok (.if_icmp .ne 33, 3) := by decide +kernel
theorem dX5_parse_89 : decode cX5_parse 89 = .ok (.aload_n 0, 1) := by decide +kernel
theorem dX5_parse_90 : decode cX5_parse 90 = .ok (.bipush 32, 2) := by decide +kernel
theorem dX5_parse_92 : decode cX5_parse 92 = .ok (.invokevirtual 31, 3) := by decide +kernel
theorem dX5_parse_95 : decode cX5_parse 95 = .ok (.ifCond .eq 12, 3) := by decide +kernel
theorem dX5_parse_98 : decode cX5_parse 98 = .ok (.aload_n 0, 1) := by decide +kernel
theorem dX5_parse_99 : decode cX5_parse 99 = .ok (.aload_n 1, 1) := by decide +kernel
theorem dX5_parse_100 : decode cX5_parse 100 = .ok (.iconst 0, 1) := by decide +kernel
theorem dX5_parse_101 : decode cX5_parse 101 = .ok (.invokevirtual 46, 3) := by decide +kernel
theorem dX5_parse_104 : decode cX5_parse 104 = .ok (.ifCond .ne 8, 3) := by decide +kernel
theorem dX5_parse_107 : decode cX5_parse 107 = .ok (.aload_n 0, 1) := by decide +kernel
theorem dX5_parse_108 : decode cX5_parse 108 = .ok (.getfield 23, 3) := by decide +kernel
theorem dX5_parse_111 : decode cX5_parse 111 = .ok (.ireturn, 1) := by decide +kernel
theorem dX5_parse_112 : decode cX5_parse 112 = .ok (.aload_n 1, 1) := by decide +kernel
theorem dX5_parse_113 : decode cX5_parse 113 = .ok (.iload_n 3, 1) := by decide +kernel
theorem dX5_parse_114 : decode cX5_parse 114 = .ok (.iload 4, 2) := by decide +kernel
theorem dX5_parse_116 : decode cX5_parse 116 = .ok (.invokevirtual 50, 3) := by decide +kernel
theorem dX5_parse_119 : decode cX5_parse 119 = .ok (.aload_n 0, 1) := by decide +kernel
theorem dX5_parse_120 : decode cX5_parse 120 = .ok (.getfield 23, 3) := by decide +kernel
theorem dX5_parse_123 : decode cX5_parse 123 = .ok (.aload_n 0, 1) := by decide +kernel
theorem dX5_parse_124 : decode cX5_parse 124 = .ok (.getfield 15, 3) := by decide +kernel
theorem dX5_parse_127 : decode cX5_parse 127 = .ok (.if_icmp .lt 6, 3) := by decide +kernel
theorem dX5_parse_130 : decode cX5_parse 130 = .ok (.bipush (-5), 2) := by decide +kernel
theorem dX5_parse_132 : decode cX5_parse 132 = .ok (.ireturn, 1) := by decide +kernel
theorem dX5_parse_133 : decode cX5_parse 133 = .ok (.iinc 2 1, 3) := by decide +kernel
theorem dX5_parse_136 : decode cX5_parse 136 = .ok (.goto (-125), 3) := by decide +kernel
theorem dX5_parse_139 : decode cX5_parse 139 = .ok (.aload_n 0, 1) := by decide +kernel
theorem dX5_parse_140 : decode cX5_parse 140 = .ok (.getfield 23, 3) := by decide +kernel
theorem dX5_parse_143 : decode cX5_parse 143 = .ok (.ireturn, 1) := by decide +kernel
def f_X5_parse_J89 (X : x_X) (k11 : Nat → Nat → Int32 → x_M → Option (Int32 × x_M)) (v27 : Nat) (v28 : Nat) (v29 : Int32) (v30 : Int32) (v31 : Int32) (μ32 : x_M) : Option (Int32 × x_M) :=
  (ck (x_kd X v27 = 5 + 1) (bd (f_X5_take X v27 (32 : Int32) μ32) (fun (v33 : Int32) (μ34 : x_M) => (if v33 = 0 then (ck (x_kd X v27 = 5 + 1) (some ((μ34.1 v27 2), μ34))) else (ck (x_kd X v27 = 5 + 1) (bd (f_X5_takeEither X v27 v28 (0 : Int32) μ34) (fun (v35 : Int32) (μ36 : x_M) => (if v35 = 0 then (ck (x_kd X v27 = 5 + 1) (some ((μ36.1 v27 2), μ36))) else (ck (x_kd X v28 = 4 + 1) (bd (f_X4_close X v28 v30 v31 μ36) (fun (_ : Unit) (μ37 : x_M) => (ck (x_kd X v27 = 5 + 1) (ck (x_kd X v27 = 5 + 1) (if (μ37.1 v27 2) < (μ37.1 v27 1) then (k11 v27 v28 (v29 + (1 : Int32)) μ37) else (some ((-5 : Int32), μ37))))))))))))))))
set_option maxRecDepth 100000 in
theorem j_X5_parse_J89 (hI : x_I X) (hC : x_C X x_Z0 p (x_rm 27) s m c cX5_parse RX5 5 0 0 27) (hr : meth.sig.returnType = (some .int)) (hlk : meth.locks = false) {k11 : Nat → Nat → Int32 → x_M → Option (Int32 × x_M)} (hk11 : ∀ (b0 : Nat) (b1 : Nat) (b2 : Int32) (μ : x_M), SM X 5 27 rkI p l e s m args below meth c 11 [(0, vR b0), (1, vR b1), (2, vI b2)] [] μ (k11 b0 b1 b2 μ)) (v27 : Nat) (v28 : Nat) (v29 : Int32) (v30 : Int32) (v31 : Int32) (μ32 : x_M) : SM X 5 27 rkI p l e s m args below meth c 89 [(0, vR v27), (1, vR v28), (2, vI v29), (3, vI v30), (4, vI v31)] [] μ32 (f_X5_parse_J89 X k11 v27 v28 v29 v30 v31 μ32) := by
  unfold f_X5_parse_J89
  refine s_aload_n hC 0 dX5_parse_89 rfl ?_
  refine s_bipush hC dX5_parse_90 (v := 32) (by decide) ?_
  refine s_callV hC (x := v27) (avs := [vI (32 : Int32)]) (st := []) (nest := false) xc5 (m_X5_take hI v27 (32 : Int32) μ32) dX5_parse_92 qm_X5_31 qi_X5_take qs_X5_take qc_X5 qd_X5_take qh_X5_take (by decide) (fun _ => Nat.le_of_ble_eq_true rfl) (Nat.le_of_ble_eq_true rfl) (fun v33 μ34 => ?_)
  refine s_if_eq hC dX5_parse_95 (tgt := 107) (by decide) ?_ ?_
  · refine s_aload_n hC 0 dX5_parse_107 rfl ?_
    refine s_getI hC xc5 (by decide) rfl qf_X5_23 dX5_parse_108 ?_
    exact s_iret hC hr hlk dX5_parse_111
  refine s_aload_n hC 0 dX5_parse_98 rfl ?_
  refine s_aload_n hC 1 dX5_parse_99 rfl ?_
  refine s_iconst hC dX5_parse_100 (v := 0) (by decide) ?_
  refine s_callV hC (x := v27) (avs := [vR v28, vI (0 : Int32)]) (st := []) (nest := false) xc5 (m_X5_takeEither hI v27 v28 (0 : Int32) μ34) dX5_parse_101 qm_X5_46 qi_X5_takeEither qs_X5_takeEither qc_X5 qd_X5_takeEither qh_X5_takeEither (by decide) (fun _ => Nat.le_of_ble_eq_true rfl) (Nat.le_of_ble_eq_true rfl) (fun v35 μ36 => ?_)
  refine s_if_ne hC dX5_parse_104 (tgt := 112) (by decide) ?_ ?_
  · refine s_aload_n hC 1 dX5_parse_112 rfl ?_
    refine s_iload_n hC 3 dX5_parse_113 rfl ?_
    refine s_iload hC 4 dX5_parse_114 rfl ?_
    refine s_callV hC (x := v28) (avs := [vI v30, vI v31]) (st := []) (nest := false) xc4 (m_X4_close hI v28 v30 v31 μ36) dX5_parse_116 qm_X5_50 qi_X4_close qs_X4_close qc_X4 qd_X4_close qh_X4_close (by decide) (fun _ => Nat.le_of_ble_eq_true rfl) (Nat.le_of_ble_eq_true rfl) (fun _ μ37 => ?_)
    refine s_aload_n hC 0 dX5_parse_119 rfl ?_
    refine s_getI hC xc5 (by decide) rfl qf_X5_23 dX5_parse_120 ?_
    refine s_aload_n hC 0 dX5_parse_123 rfl ?_
    refine s_getI hC xc5 (by decide) rfl qf_X5_15 dX5_parse_124 ?_
    refine s_icmp_lt hC dX5_parse_127 (tgt := 133) (by decide) ?_ ?_
    · refine s_iinc hC 2 dX5_parse_133 rfl (w := 1) (by decide) (by decide) (lv' := [(2, vI (v29 + (1 : Int32))), (0, vR v27), (1, vR v28), (3, vI v30), (4, vI v31)]) rfl ?_
      refine s_goto hC dX5_parse_136 (tgt := 11) (by decide) ?_
      refine s_lv (lv' := [(0, vR v27), (1, vR v28), (2, vI (v29 + (1 : Int32)))]) [1, 2, 0] rfl ?_
      exact hk11 _ _ _ _
    refine s_bipush hC dX5_parse_130 (v := -5) (by decide) ?_
    exact s_iret hC hr hlk dX5_parse_132
  refine s_aload_n hC 0 dX5_parse_107 rfl ?_
  refine s_getI hC xc5 (by decide) rfl qf_X5_23 dX5_parse_108 ?_
  exact s_iret hC hr hlk dX5_parse_111
def f_X5_parse_J61 (X : x_X) (k11 : Nat → Nat → Int32 → x_M → Option (Int32 × x_M)) (v20 : Nat) (v21 : Nat) (v22 : Int32) (v23 : Int32) (v24 : Int32) (μ25 : x_M) : Option (Int32 × x_M) :=
  (if 0 ≤ v24 then (ck (x_kd X v21 = 4 + 1) (bd (f_X4_tell X v21 v23 v24 μ25) (fun (_ : Unit) (μ26 : x_M) => (if v23 = 0 then (f_X5_parse_J89 X k11 v20 v21 v22 v23 v24 μ26) else (if v23 = (1 : Int32) then (f_X5_parse_J89 X k11 v20 v21 v22 v23 v24 μ26) else (ck (x_kd X v20 = 5 + 1) (ck (x_kd X v20 = 5 + 1) (if (μ26.1 v20 2) < (μ26.1 v20 1) then (k11 v20 v21 (v22 + (1 : Int32)) μ26) else (some ((-5 : Int32), μ26)))))))))) else (ck (x_kd X v20 = 5 + 1) (some ((μ25.1 v20 2), μ25))))
set_option maxRecDepth 100000 in
theorem j_X5_parse_J61 (hI : x_I X) (hC : x_C X x_Z0 p (x_rm 27) s m c cX5_parse RX5 5 0 0 27) (hr : meth.sig.returnType = (some .int)) (hlk : meth.locks = false) {k11 : Nat → Nat → Int32 → x_M → Option (Int32 × x_M)} (hk11 : ∀ (b0 : Nat) (b1 : Nat) (b2 : Int32) (μ : x_M), SM X 5 27 rkI p l e s m args below meth c 11 [(0, vR b0), (1, vR b1), (2, vI b2)] [] μ (k11 b0 b1 b2 μ)) (v20 : Nat) (v21 : Nat) (v22 : Int32) (v23 : Int32) (v24 : Int32) (μ25 : x_M) : SM X 5 27 rkI p l e s m args below meth c 61 [(0, vR v20), (1, vR v21), (2, vI v22), (3, vI v23)] [vI v24] μ25 (f_X5_parse_J61 X k11 v20 v21 v22 v23 v24 μ25) := by
  unfold f_X5_parse_J61
  refine s_istore hC dX5_parse_61 (by decide) (lv' := [(4, vI v24), (0, vR v20), (1, vR v21), (2, vI v22), (3, vI v23)]) rfl ?_
  refine s_iload hC 0 dX5_parse_63 rfl ?_
  refine s_if_ge hC dX5_parse_65 (tgt := 73) (by decide) ?_ ?_
  · refine s_aload_n hC 2 dX5_parse_73 rfl ?_
    refine s_iload_n hC 4 dX5_parse_74 rfl ?_
    refine s_iload hC 0 dX5_parse_75 rfl ?_
    refine s_callV hC (x := v21) (avs := [vI v23, vI v24]) (st := []) (nest := false) xc4 (m_X4_tell hI v21 v23 v24 μ25) dX5_parse_77 qm_X5_42 qi_X4_tell qs_X4_tell qc_X4 qd_X4_tell qh_X4_tell (by decide) (fun _ => Nat.le_of_ble_eq_true rfl) (Nat.le_of_ble_eq_true rfl) (fun _ μ26 => ?_)
    refine s_iload_n hC 4 dX5_parse_80 rfl ?_
    refine s_if_eq hC dX5_parse_81 (tgt := 89) (by decide) ?_ ?_
    · refine s_lv (lv' := [(0, vR v20), (1, vR v21), (2, vI v22), (3, vI v23), (4, vI v24)]) [1, 2, 3, 4, 0] rfl ?_
      exact j_X5_parse_J89 hI hC hr hlk hk11 _ _ _ _ _ _
    refine s_iload_n hC 4 dX5_parse_84 rfl ?_
    refine s_iconst hC dX5_parse_85 (v := 1) (by decide) ?_
    refine s_icmp_ne hC dX5_parse_86 (tgt := 119) (by decide) ?_ ?_
    · refine s_aload_n hC 1 dX5_parse_119 rfl ?_
      refine s_getI hC xc5 (by decide) rfl qf_X5_23 dX5_parse_120 ?_
      refine s_aload_n hC 1 dX5_parse_123 rfl ?_
      refine s_getI hC xc5 (by decide) rfl qf_X5_15 dX5_parse_124 ?_
      refine s_icmp_lt hC dX5_parse_127 (tgt := 133) (by decide) ?_ ?_
      · refine s_iinc hC 3 dX5_parse_133 rfl (w := 1) (by decide) (by decide) (lv' := [(2, vI (v22 + (1 : Int32))), (4, vI v24), (0, vR v20), (1, vR v21), (3, vI v23)]) rfl ?_
        refine s_goto hC dX5_parse_136 (tgt := 11) (by decide) ?_
        refine s_lv (lv' := [(0, vR v20), (1, vR v21), (2, vI (v22 + (1 : Int32)))]) [2, 3, 0] rfl ?_
        exact hk11 _ _ _ _
      refine s_bipush hC dX5_parse_130 (v := -5) (by decide) ?_
      exact s_iret hC hr hlk dX5_parse_132
    refine s_lv (lv' := [(0, vR v20), (1, vR v21), (2, vI v22), (3, vI v23), (4, vI v24)]) [1, 2, 3, 4, 0] rfl ?_
    exact j_X5_parse_J89 hI hC hr hlk hk11 _ _ _ _ _ _
  refine s_aload_n hC 1 dX5_parse_68 rfl ?_
  refine s_getI hC xc5 (by decide) rfl qf_X5_23 dX5_parse_69 ?_
  exact s_iret hC hr hlk dX5_parse_72
def f_X5_parse_J60 (X : x_X) (k11 : Nat → Nat → Int32 → x_M → Option (Int32 × x_M)) (v15 : Nat) (v16 : Nat) (v17 : Int32) (v18 : Int32) (μ19 : x_M) : Option (Int32 × x_M) :=
  (f_X5_parse_J61 X k11 v15 v16 v17 v18 (-1 : Int32) μ19)
set_option maxRecDepth 100000 in
theorem j_X5_parse_J60 (hI : x_I X) (hC : x_C X x_Z0 p (x_rm 27) s m c cX5_parse RX5 5 0 0 27) (hr : meth.sig.returnType = (some .int)) (hlk : meth.locks = false) {k11 : Nat → Nat → Int32 → x_M → Option (Int32 × x_M)} (hk11 : ∀ (b0 : Nat) (b1 : Nat) (b2 : Int32) (μ : x_M), SM X 5 27 rkI p l e s m args below meth c 11 [(0, vR b0), (1, vR b1), (2, vI b2)] [] μ (k11 b0 b1 b2 μ)) (v15 : Nat) (v16 : Nat) (v17 : Int32) (v18 : Int32) (μ19 : x_M) : SM X 5 27 rkI p l e s m args below meth c 60 [(0, vR v15), (1, vR v16), (2, vI v17), (3, vI v18)] [] μ19 (f_X5_parse_J60 X k11 v15 v16 v17 v18 μ19) := by
  unfold f_X5_parse_J60
  refine s_iconst hC dX5_parse_60 (v := -1) (by decide) ?_
  exact j_X5_parse_J61 hI hC hr hlk hk11 _ _ _ _ _ _
def f_X5_parse_J35 (X : x_X) (k11 : Nat → Nat → Int32 → x_M → Option (Int32 × x_M)) (v9 : Nat) (v10 : Nat) (v11 : Int32) (μ12 : x_M) : Option (Int32 × x_M) :=
  (ck (x_kd X v9 = 5 + 1) (bd (f_X5_takeWord X v9 μ12) (fun (v13 : Int32) (μ14 : x_M) => (if v13 < 0 then (f_X5_parse_J60 X k11 v9 v10 v11 v13 μ14) else (ck (x_kd X v9 = 5 + 1) (bd (f_X5_take X v9 (32 : Int32) μ14) (fun (v38 : Int32) (μ39 : x_M) => (if v38 = 0 then (f_X5_parse_J60 X k11 v9 v10 v11 v13 μ39) else (ck (x_kd X v9 = 5 + 1) (bd (f_X5_takeNumber X v9 μ39) (fun (v40 : Int32) (μ41 : x_M) => (f_X5_parse_J61 X k11 v9 v10 v11 v13 v40 μ41))))))))))))
set_option maxRecDepth 100000 in
theorem j_X5_parse_J35 (hI : x_I X) (hC : x_C X x_Z0 p (x_rm 27) s m c cX5_parse RX5 5 0 0 27) (hr : meth.sig.returnType = (some .int)) (hlk : meth.locks = false) {k11 : Nat → Nat → Int32 → x_M → Option (Int32 × x_M)} (hk11 : ∀ (b0 : Nat) (b1 : Nat) (b2 : Int32) (μ : x_M), SM X 5 27 rkI p l e s m args below meth c 11 [(0, vR b0), (1, vR b1), (2, vI b2)] [] μ (k11 b0 b1 b2 μ)) (v9 : Nat) (v10 : Nat) (v11 : Int32) (μ12 : x_M) : SM X 5 27 rkI p l e s m args below meth c 35 [(0, vR v9), (1, vR v10), (2, vI v11)] [] μ12 (f_X5_parse_J35 X k11 v9 v10 v11 μ12) := by
  unfold f_X5_parse_J35
  refine s_aload_n hC 0 dX5_parse_35 rfl ?_
  refine s_callV hC (x := v9) (avs := []) (st := []) (nest := false) xc5 (m_X5_takeWord hI v9 μ12) dX5_parse_36 qm_X5_35 qi_X5_takeWord qs_X5_takeWord qc_X5 qd_X5_takeWord qh_X5_takeWord (by decide) (fun _ => Nat.le_of_ble_eq_true rfl) (Nat.le_of_ble_eq_true rfl) (fun v13 μ14 => ?_)
  refine s_istore_n hC dX5_parse_39 (by decide) (lv' := [(3, vI v13), (0, vR v9), (1, vR v10), (2, vI v11)]) rfl ?_
  refine s_iload_n hC 0 dX5_parse_40 rfl ?_
  refine s_if_lt hC dX5_parse_41 (tgt := 60) (by decide) ?_ ?_
  · refine s_lv (lv' := [(0, vR v9), (1, vR v10), (2, vI v11), (3, vI v13)]) [1, 2, 3, 0] rfl ?_
    exact j_X5_parse_J60 hI hC hr hlk hk11 _ _ _ _ _
  refine s_aload_n hC 1 dX5_parse_44 rfl ?_
  refine s_bipush hC dX5_parse_45 (v := 32) (by decide) ?_
  refine s_callV hC (x := v9) (avs := [vI (32 : Int32)]) (st := []) (nest := false) xc5 (m_X5_take hI v9 (32 : Int32) μ14) dX5_parse_47 qm_X5_31 qi_X5_take qs_X5_take qc_X5 qd_X5_take qh_X5_take (by decide) (fun _ => Nat.le_of_ble_eq_true rfl) (Nat.le_of_ble_eq_true rfl) (fun v38 μ39 => ?_)
  refine s_if_eq hC dX5_parse_50 (tgt := 60) (by decide) ?_ ?_
  · refine s_lv (lv' := [(0, vR v9), (1, vR v10), (2, vI v11), (3, vI v13)]) [1, 2, 3, 0] rfl ?_
    exact j_X5_parse_J60 hI hC hr hlk hk11 _ _ _ _ _
  refine s_aload_n hC 1 dX5_parse_53 rfl ?_
  refine s_callV hC (x := v9) (avs := []) (st := []) (nest := false) xc5 (m_X5_takeNumber hI v9 μ39) dX5_parse_54 qm_X5_39 qi_X5_takeNumber qs_X5_takeNumber qc_X5 qd_X5_takeNumber qh_X5_takeNumber (by decide) (fun _ => Nat.le_of_ble_eq_true rfl) (Nat.le_of_ble_eq_true rfl) (fun v40 μ41 => ?_)
  refine s_goto hC dX5_parse_57 (tgt := 61) (by decide) ?_
  refine s_lv (lv' := [(0, vR v9), (1, vR v10), (2, vI v11), (3, vI v13)]) [1, 2, 3, 0] rfl ?_
  exact j_X5_parse_J61 hI hC hr hlk hk11 _ _ _ _ _ _
def f_X5_parse_L11 (X : x_X) : Nat → Nat → Nat → Int32 → x_M → Option (Int32 × x_M)
  | 0, _, _, _, _ => none
  | n + 1, v5, v6, v7, μ8 =>
    (if (10 : Int32) ≤ v7 then (ck (x_kd X v5 = 5 + 1) (some ((μ8.1 v5 2), μ8))) else (if v7 ≤ 0 then (f_X5_parse_J35 X (f_X5_parse_L11 X n) v5 v6 v7 μ8) else (ck (x_kd X v5 = 5 + 1) (bd (f_X5_take X v5 (59 : Int32) μ8) (fun (v42 : Int32) (μ43 : x_M) => (if v42 = 0 then (ck (x_kd X v5 = 5 + 1) (some ((μ43.1 v5 2), μ43))) else (f_X5_parse_J35 X (f_X5_parse_L11 X n) v5 v6 v7 μ43)))))))
set_option maxRecDepth 100000 in
theorem j_X5_parse_L11 (hI : x_I X) (hC : x_C X x_Z0 p (x_rm 27) s m c cX5_parse RX5 5 0 0 27) (hr : meth.sig.returnType = (some .int)) (hlk : meth.locks = false) : ∀ (n : Nat) (v5 : Nat) (v6 : Nat) (v7 : Int32) (μ8 : x_M), SM X 5 27 rkI p l e s m args below meth c 11 [(0, vR v5), (1, vR v6), (2, vI v7)] [] μ8 (f_X5_parse_L11 X n v5 v6 v7 μ8) := by
  intro n
  induction n with
  | zero => intro v5 v6 v7 μ8; exact s_none
  | succ n ih =>
    intro v5 v6 v7 μ8
    unfold f_X5_parse_L11
    refine s_iload_n hC 2 dX5_parse_11 rfl ?_
    refine s_bipush hC dX5_parse_12 (v := 10) (by decide) ?_
    refine s_icmp_ge hC dX5_parse_14 (tgt := 139) (by decide) ?_ ?_
    · refine s_aload_n hC 0 dX5_parse_139 rfl ?_
      refine s_getI hC xc5 (by decide) rfl qf_X5_23 dX5_parse_140 ?_
      exact s_iret hC hr hlk dX5_parse_143
    refine s_iload_n hC 2 dX5_parse_17 rfl ?_
    refine s_if_le hC dX5_parse_18 (tgt := 35) (by decide) ?_ ?_
    · exact j_X5_parse_J35 hI hC hr hlk ih _ _ _ _
    refine s_aload_n hC 0 dX5_parse_21 rfl ?_
    refine s_bipush hC dX5_parse_22 (v := 59) (by decide) ?_
    refine s_callV hC (x := v5) (avs := [vI (59 : Int32)]) (st := []) (nest := false) xc5 (m_X5_take hI v5 (59 : Int32) μ8) dX5_parse_24 qm_X5_31 qi_X5_take qs_X5_take qc_X5 qd_X5_take qh_X5_take (by decide) (fun _ => Nat.le_of_ble_eq_true rfl) (Nat.le_of_ble_eq_true rfl) (fun v42 μ43 => ?_)
    refine s_if_ne hC dX5_parse_27 (tgt := 35) (by decide) ?_ ?_
    · exact j_X5_parse_J35 hI hC hr hlk ih _ _ _ _
    refine s_aload_n hC 0 dX5_parse_30 rfl ?_
    refine s_getI hC xc5 (by decide) rfl qf_X5_23 dX5_parse_31 ?_
    exact s_iret hC hr hlk dX5_parse_34
def f_X5_parse (X : x_X) (v0 : Nat) (v1 : Nat) (μ : x_M) : Option (Int32 × x_M) :=
  (ck (x_kd X v0 = 5 + 1) (lt (x_sI μ v0 2 (0 : Int32)) (fun (μ3 : x_M) => (ck (x_kd X v1 = 4 + 1) (bd (f_X4_clear X v1 μ3) (fun (_ : Unit) (μ4 : x_M) => (f_X5_parse_L11 X 4096 v0 v1 (0 : Int32) μ4)))))))
set_option maxRecDepth 100000 in
theorem m_X5_parse (hI : x_I X) (v0 : Nat) (v1 : Nat) (μ : x_M) : x_Met X x_Z0 l yX5_parse cX5_parse 5 (some .int) 27 [vR v0, vR v1] μ rkI (f_X5_parse X v0 v1 μ) := by
  refine x_enter hI (by decide +kernel) (Nat.le_of_ble_eq_true rfl) (fun p e s m args below meth c hC hr hlk => ?_)
  unfold f_X5_parse
  refine s_lv (lv' := [(0, vR v0), (1, vR v1)]) [0, 1] rfl ?_
  refine s_aload_n hC 0 dX5_parse_0 rfl ?_
  refine s_iconst hC dX5_parse_1 (v := 0) (by decide) ?_
  refine s_putI hC xc5 (by decide) rfl rfl qf_X5_23 dX5_parse_2 ?_
  refine s_ltM (fun μ3 => ?_)
  refine s_aload_n hC 1 dX5_parse_5 rfl ?_
  refine s_callV hC (x := v1) (avs := []) (st := []) (nest := false) xc4 (m_X4_clear hI v1 μ3) dX5_parse_6 qm_X5_26 qi_X4_clear qs_X4_clear qc_X4 qd_X4_clear qh_X4_clear (by decide) (fun _ => Nat.le_of_ble_eq_true rfl) (Nat.le_of_ble_eq_true rfl) (fun _ μ4 => ?_)
  refine s_iconst hC dX5_parse_9 (v := 0) (by decide) ?_
  refine s_istore_n hC dX5_parse_10 (by decide) (lv' := [(2, vI (0 : Int32)), (0, vR v0), (1, vR v1)]) rfl ?_
  refine s_lv (lv' := [(0, vR v0), (1, vR v1), (2, vI (0 : Int32))]) [1, 2, 0] rfl ?_
  refine j_X5_parse_L11 hI hC hr hlk 4096 _ _ _ _
