variable {X : x_X} {l : Launch} {p : Program} {e : Env} {s : State} {m : MethodId} {args : Array Value} {below : List Frame} {meth : Method} {c : Code}
theorem dX1_ran_0 : decode cX1_ran 0 = .ok (.aload_n 0, 1) := by decide +kernel
theorem dX1_ran_1 : decode cX1_ran 1 = .ok (.getfield 15, 3) := by decide +kernel
theorem dX1_ran_4 : decode cX1_ran 4 = .ok (.ireturn, 1) := by decide +kernel
def f_X1_ran (X : x_X) (v0 : Nat) (μ : x_M) : Option (Int32 × x_M) :=
  (ck (x_kd X v0 = 1 + 1) (some ((μ.1 v0 1), μ)))
set_option maxRecDepth 100000 in
theorem m_X1_ran (hI : x_I X) (v0 : Nat) (μ : x_M) : x_Met X x_Z0 l yX1_ran cX1_ran 1 (some .int) 1 [vR v0] μ rkI (f_X1_ran X v0 μ) := by
  refine x_enter hI (by decide +kernel) (Nat.le_of_ble_eq_true rfl) (fun p e s m args below meth c hC hr hlk => ?_)
  unfold f_X1_ran
  refine s_lv (lv' := [(0, vR v0)]) [0] rfl ?_
  refine s_aload_n hC 0 dX1_ran_0 rfl ?_
  refine s_getI hC xc1 (by decide) rfl qf_X1_15 dX1_ran_1 ?_
  exact s_iret hC hr hlk dX1_ran_4
theorem dX1_bodyAt_0 : decode cX1_bodyAt 0 = .ok (.iload_n 1, 1) := by decide +kernel
theorem dX1_bodyAt_1 : decode cX1_bodyAt 1 = .ok (.ifCond .lt 26, 3) := by decide +kernel
theorem dX1_bodyAt_4 : decode cX1_bodyAt 4 = .ok (.iload_n 1, 1) := by decide +kernel
theorem dX1_bodyAt_5 : decode cX1_bodyAt 5 = .ok (.aload_n 0, 1) := by decide +kernel
theorem dX1_bodyAt_6 : decode cX1_bodyAt 6 = .ok (.getfield 15, 3) := by decide +kernel
theorem dX1_bodyAt_9 : decode cX1_bodyAt 9 = .ok (.if_icmp .ge 18, 3) := by decide +kernel
theorem dX1_bodyAt_12 : decode cX1_bodyAt 12 = .ok (.iload_n 1, 1) := by decide +kernel
theorem dX1_bodyAt_13 : decode cX1_bodyAt 13 = .ok (.bipush 20, 2) := by decide +kernel
theorem dX1_bodyAt_15 : decode cX1_bodyAt 15 = .ok (.if_icmp .ge 12, 3) := by decide +kernel
theorem dX1_bodyAt_18 : decode cX1_bodyAt 18 = .ok (.aload_n 0, 1) := by decide +kernel
theorem dX1_bodyAt_19 : decode cX1_bodyAt 19 = .ok (.getfield 9, 3) := by decide +kernel
theorem dX1_bodyAt_22 : decode cX1_bodyAt 22 = .ok (.iload_n 1, 1) := by decide +kernel
theorem dX1_bodyAt_23 : decode cX1_bodyAt 23 = .ok (.iaload, 1) := by decide +kernel
theorem dX1_bodyAt_24 : decode cX1_bodyAt 24 = .ok (.goto 4, 3) := by decide +kernel
theorem dX1_bodyAt_27 : decode cX1_bodyAt 27 = .ok (.iconst (-1), 1) := by decide +kernel
theorem dX1_bodyAt_28 : decode cX1_bodyAt 28 = .ok (.ireturn, 1) := by decide +kernel
def f_X1_bodyAt (X : x_X) (v0 : Nat) (v1 : Int32) (μ : x_M) : Option (Int32 × x_M) :=
  (if v1 < 0 then (some ((-1 : Int32), μ)) else (ck (x_kd X v0 = 1 + 1) (if (μ.1 v0 1) ≤ v1 then (some ((-1 : Int32), μ)) else (if (20 : Int32) ≤ v1 then (some ((-1 : Int32), μ)) else (ck (x_kd X v0 = 1 + 1) (lt (μ.2.1 v0 0) (fun (v3 : Nat) => (ck ((x_kd X v3 = 20 ∨ x_kd X v3 = 40) ∧ x_ix v1 (x_ln X v3)) (some ((μ.1 v3 (v1).toNatClampNeg), μ))))))))))
set_option maxRecDepth 100000 in
theorem m_X1_bodyAt (hI : x_I X) (v0 : Nat) (v1 : Int32) (μ : x_M) : x_Met X x_Z0 l yX1_bodyAt cX1_bodyAt 2 (some .int) 1 [vR v0, vI v1] μ rkI (f_X1_bodyAt X v0 v1 μ) := by
  refine x_enter hI (by decide +kernel) (Nat.le_of_ble_eq_true rfl) (fun p e s m args below meth c hC hr hlk => ?_)
  unfold f_X1_bodyAt
  refine s_lv (lv' := [(0, vR v0), (1, vI v1)]) [0, 1] rfl ?_
  refine s_iload_n hC 1 dX1_bodyAt_0 rfl ?_
  refine s_if_lt hC dX1_bodyAt_1 (tgt := 27) (by decide) ?_ ?_
  · refine s_iconst hC dX1_bodyAt_27 (v := -1) (by decide) ?_
    exact s_iret hC hr hlk dX1_bodyAt_28
  refine s_iload_n hC 1 dX1_bodyAt_4 rfl ?_
  refine s_aload_n hC 0 dX1_bodyAt_5 rfl ?_
  refine s_getI hC xc1 (by decide) rfl qf_X1_15 dX1_bodyAt_6 ?_
  refine s_icmp_ge hC dX1_bodyAt_9 (tgt := 27) (by decide) ?_ ?_
  · refine s_iconst hC dX1_bodyAt_27 (v := -1) (by decide) ?_
    exact s_iret hC hr hlk dX1_bodyAt_28
  refine s_iload_n hC 1 dX1_bodyAt_12 rfl ?_
  refine s_bipush hC dX1_bodyAt_13 (v := 20) (by decide) ?_
  refine s_icmp_ge hC dX1_bodyAt_15 (tgt := 27) (by decide) ?_ ?_
  · refine s_iconst hC dX1_bodyAt_27 (v := -1) (by decide) ?_
    exact s_iret hC hr hlk dX1_bodyAt_28
  refine s_aload_n hC 0 dX1_bodyAt_18 rfl ?_
  refine s_getR hC xc1 (by decide) rfl qf_X1_9 dX1_bodyAt_19 ?_
  refine s_ltR (fun v3 => ?_)
  refine s_iload_n hC 1 dX1_bodyAt_22 rfl ?_
  refine s_iald hC dX1_bodyAt_23 ?_
  refine s_goto hC dX1_bodyAt_24 (tgt := 28) (by decide) ?_
  exact s_iret hC hr hlk dX1_bodyAt_28
theorem dX1_note_0 : decode cX1_note 0 = .ok (.aload_n 0, 1) := by decide +kernel
theorem dX1_note_1 : decode cX1_note 1 = .ok (.getfield 15, 3) := by decide +kernel
theorem dX1_note_4 : decode cX1_note 4 = .ok (.ifCond .lt 22, 3) := by decide +kernel
theorem dX1_note_7 : decode cX1_note 7 = .ok (.aload_n 0, 1) := by decide +kernel
theorem dX1_note_8 : decode cX1_note 8 = .ok (.getfield 15, 3) := by decide +kernel
theorem dX1_note_11 : decode cX1_note 11 = .ok (.bipush 20, 2) := by decide +kernel
theorem dX1_note_13 : decode cX1_note 13 = .ok (.if_icmp .ge 13, 3) := by decide +kernel
theorem dX1_note_16 : decode cX1_note 16 = .ok (.aload_n 0, 1) := by decide +kernel
theorem dX1_note_17 : decode cX1_note 17 = .ok (.getfield 9, 3) := by decide +kernel
theorem dX1_note_20 : decode cX1_note 20 = .ok (.aload_n 0, 1) := by decide +kernel
theorem dX1_note_21 : decode cX1_note 21 = .ok (.getfield 15, 3) := by decide +kernel
theorem dX1_note_24 : decode cX1_note 24 = .ok (.iload_n 1, 1) := by decide +kernel
theorem dX1_note_25 : decode cX1_note 25 = .ok (.iastore, 1) := by decide +kernel
theorem dX1_note_26 : decode cX1_note 26 = .ok (.aload_n 0, 1) := by decide +kernel
theorem dX1_note_27 : decode cX1_note 27 = .ok (.dup, 1) := by decide +kernel
theorem dX1_note_28 : decode cX1_note 28 = .ok (.getfield 15, 3) := by decide +kernel
theorem dX1_note_31 : decode cX1_note 31 = .ok (.iconst 1, 1) := by decide +kernel
theorem dX1_note_32 : decode cX1_note 32 = .ok (.iadd, 1) := by decide +kernel
theorem dX1_note_33 : decode cX1_note 33 = .ok (.putfield 15, 3) := by decide +kernel
theorem dX1_note_36 : decode cX1_note 36 = .ok (.return_, 1) := by decide +kernel
def f_X1_note (X : x_X) (v0 : Nat) (v1 : Int32) (μ : x_M) : Option (Unit × x_M) :=
  (ck (x_kd X v0 = 1 + 1) (if (μ.1 v0 1) < 0 then (ck (x_kd X v0 = 1 + 1) (ck (x_kd X v0 = 1 + 1) (lt (x_sI μ v0 1 ((μ.1 v0 1) + (1 : Int32))) (fun (μ3 : x_M) => (some ((), μ3)))))) else (ck (x_kd X v0 = 1 + 1) (if (20 : Int32) ≤ (μ.1 v0 1) then (ck (x_kd X v0 = 1 + 1) (ck (x_kd X v0 = 1 + 1) (lt (x_sI μ v0 1 ((μ.1 v0 1) + (1 : Int32))) (fun (μ4 : x_M) => (some ((), μ4)))))) else (ck (x_kd X v0 = 1 + 1) (lt (μ.2.1 v0 0) (fun (v5 : Nat) => (ck (x_kd X v0 = 1 + 1) (lt (μ.1 v0 1) (fun (v6 : Int32) => (ck (x_kd X v5 = 20 ∧ x_ix v6 (x_ln X v5)) (lt (x_sI μ v5 (v6).toNatClampNeg v1) (fun (μ7 : x_M) => (ck (x_kd X v0 = 1 + 1) (ck (x_kd X v0 = 1 + 1) (lt (x_sI μ7 v0 1 ((μ7.1 v0 1) + (1 : Int32))) (fun (μ8 : x_M) => (some ((), μ8)))))))))))))))))))
set_option maxRecDepth 100000 in
theorem m_X1_note (hI : x_I X) (v0 : Nat) (v1 : Int32) (μ : x_M) : x_Met X x_Z0 l yX1_note cX1_note 2 none 1 [vR v0, vI v1] μ rkV (f_X1_note X v0 v1 μ) := by
  refine x_enter hI (by decide +kernel) (Nat.le_of_ble_eq_true rfl) (fun p e s m args below meth c hC hr hlk => ?_)
  unfold f_X1_note
  refine s_lv (lv' := [(0, vR v0), (1, vI v1)]) [0, 1] rfl ?_
  refine s_aload_n hC 0 dX1_note_0 rfl ?_
  refine s_getI hC xc1 (by decide) rfl qf_X1_15 dX1_note_1 ?_
  refine s_if_lt hC dX1_note_4 (tgt := 26) (by decide) ?_ ?_
  · refine s_aload_n hC 0 dX1_note_26 rfl ?_
    refine s_dupR hC dX1_note_27 ?_
    refine s_getI hC xc1 (by decide) rfl qf_X1_15 dX1_note_28 ?_
    refine s_iconst hC dX1_note_31 (v := 1) (by decide) ?_
    refine s_iadd hC dX1_note_32 ?_
    refine s_putI hC xc1 (by decide) rfl rfl qf_X1_15 dX1_note_33 ?_
    refine s_ltM (fun μ3 => ?_)
    exact s_vret hC hr hlk dX1_note_36
  refine s_aload_n hC 0 dX1_note_7 rfl ?_
  refine s_getI hC xc1 (by decide) rfl qf_X1_15 dX1_note_8 ?_
  refine s_bipush hC dX1_note_11 (v := 20) (by decide) ?_
  refine s_icmp_ge hC dX1_note_13 (tgt := 26) (by decide) ?_ ?_
  · refine s_aload_n hC 0 dX1_note_26 rfl ?_
    refine s_dupR hC dX1_note_27 ?_
    refine s_getI hC xc1 (by decide) rfl qf_X1_15 dX1_note_28 ?_
    refine s_iconst hC dX1_note_31 (v := 1) (by decide) ?_
    refine s_iadd hC dX1_note_32 ?_
    refine s_putI hC xc1 (by decide) rfl rfl qf_X1_15 dX1_note_33 ?_
    refine s_ltM (fun μ4 => ?_)
    exact s_vret hC hr hlk dX1_note_36
  refine s_aload_n hC 0 dX1_note_16 rfl ?_
  refine s_getR hC xc1 (by decide) rfl qf_X1_9 dX1_note_17 ?_
  refine s_ltR (fun v5 => ?_)
  refine s_aload_n hC 0 dX1_note_20 rfl ?_
  refine s_getI hC xc1 (by decide) rfl qf_X1_15 dX1_note_21 ?_
  refine s_iload_n hC 1 dX1_note_24 rfl ?_
  refine s_ltI2 (fun v6 => ?_)
  refine s_iast hC dX1_note_25 ?_
  refine s_ltM (fun μ7 => ?_)
  refine s_aload_n hC 0 dX1_note_26 rfl ?_
  refine s_dupR hC dX1_note_27 ?_
  refine s_getI hC xc1 (by decide) rfl qf_X1_15 dX1_note_28 ?_
  refine s_iconst hC dX1_note_31 (v := 1) (by decide) ?_
  refine s_iadd hC dX1_note_32 ?_
  refine s_putI hC xc1 (by decide) rfl rfl qf_X1_15 dX1_note_33 ?_
  refine s_ltM (fun μ8 => ?_)
  exact s_vret hC hr hlk dX1_note_36
theorem dX1_bodyOf_0 : decode cX1_bodyOf 0 = .ok (.iload_n 0, 1) := by decide +kernel
theorem dX1_bodyOf_1 : decode cX1_bodyOf 1 = .ok (.ifCond .ge 7, 3) := by decide +kernel
theorem dX1_bodyOf_4 : decode cX1_bodyOf 4 = .ok (.iconst 0, 1) := by decide +kernel
theorem dX1_bodyOf_5 : decode cX1_bodyOf 5 = .ok (.goto 14, 3) := by decide +kernel
theorem dX1_bodyOf_8 : decode cX1_bodyOf 8 = .ok (.getstatic 56, 3) := by decide +kernel
theorem dX1_bodyOf_11 : decode cX1_bodyOf 11 = .ok (.iload_n 0, 1) := by decide +kernel
theorem dX1_bodyOf_12 : decode cX1_bodyOf 12 = .ok (.iconst 3, 1) := by decide +kernel
theorem dX1_bodyOf_13 : decode cX1_bodyOf 13 = .ok (.imul, 1) := by decide +kernel
theorem dX1_bodyOf_14 : decode cX1_bodyOf 14 = .ok (.iload_n 1, 1) := by decide +kernel
theorem dX1_bodyOf_15 : decode cX1_bodyOf 15 = .ok (.iadd, 1) := by decide +kernel
theorem dX1_bodyOf_16 : decode cX1_bodyOf 16 = .ok (.invokestatic 59, 3) := by decide +kernel
theorem dX1_bodyOf_19 : decode cX1_bodyOf 19 = .ok (.ireturn, 1) := by decide +kernel
def f_X1_bodyOf (X : x_X) (v0 : Int32) (v1 : Int32) (μ : x_M) : Option (Int32 × x_M) :=
  (if 0 ≤ v0 then (bd (f_X9_at X 802 ((v0 * (3 : Int32)) + v1) μ) (fun (v3 : Int32) (μ4 : x_M) => (some (v3, μ4)))) else (some ((0 : Int32), μ)))
set_option maxRecDepth 100000 in
theorem m_X1_bodyOf (hI : x_I X) (v0 : Int32) (v1 : Int32) (μ : x_M) : x_Met X x_Z0 l yX1_bodyOf cX1_bodyOf 2 (some .int) 2 [vI v0, vI v1] μ rkI (f_X1_bodyOf X v0 v1 μ) := by
  refine x_enter hI (by decide +kernel) (Nat.le_of_ble_eq_true rfl) (fun p e s m args below meth c hC hr hlk => ?_)
  unfold f_X1_bodyOf
  refine s_lv (lv' := [(0, vI v0), (1, vI v1)]) [0, 1] rfl ?_
  refine s_iload_n hC 0 dX1_bodyOf_0 rfl ?_
  refine s_if_ge hC dX1_bodyOf_1 (tgt := 8) (by decide) ?_ ?_
  · refine s_gets hC (nest := false) dX1_bodyOf_8 (id := 802) (List.mem_of_getElem? (i := 1) rfl) qg_X1_56 ?_
    refine s_iload_n hC 0 dX1_bodyOf_11 rfl ?_
    refine s_iconst hC dX1_bodyOf_12 (v := 3) (by decide) ?_
    refine s_imul hC dX1_bodyOf_13 ?_
    refine s_iload_n hC 1 dX1_bodyOf_14 rfl ?_
    refine s_iadd hC dX1_bodyOf_15 ?_
    refine s_callS hC (avs := [vR 802, vI ((v0 * (3 : Int32)) + v1)]) (st := []) (nest := true) (m_X9_at hI 802 ((v0 * (3 : Int32)) + v1) μ) dX1_bodyOf_16 qm_X1_59 qt_X9_at qc_X9 qd_X9_at qh_X9_at (by decide) (fun _ => Nat.le_of_ble_eq_true rfl) (Nat.le_of_ble_eq_true rfl) (fun v3 μ4 => ?_)
    exact s_iret hC hr hlk dX1_bodyOf_19
  refine s_iconst hC dX1_bodyOf_4 (v := 0) (by decide) ?_
  refine s_goto hC dX1_bodyOf_5 (tgt := 19) (by decide) ?_
  exact s_iret hC hr hlk dX1_bodyOf_19
section G_X1_run
variable {lev : Nat} {zc : Nat → Nat → Nat → Int32 → Int32 → Int32 → Int32 → x_M → Option (Int32 × x_M)}
theorem dX1_run_0 : decode cX1_run 0 = .ok (.iload_n 2, 1) := by decide +kernel
theorem dX1_run_1 : decode cX1_run 1 = .ok (.istore 6, 2) := by decide +kernel
theorem dX1_run_3 : decode cX1_run 3 = .ok (.iconst 0, 1) := by decide +kernel
theorem dX1_run_4 : decode cX1_run 4 = .ok (.istore 7, 2) := by decide +kernel
theorem dX1_run_6 : decode cX1_run 6 = .ok (.iload 7, 2) := by decide +kernel
theorem dX1_run_8 : decode cX1_run 8 = .ok (.getstatic 32, 3) := by decide +kernel
theorem dX1_run_11 : decode cX1_run 11 = .ok (.arraylength, 1) := by decide +kernel
theorem dX1_run_12 : decode cX1_run 12 = .ok (.if_icmp .ge 25, 3) := by decide +kernel
theorem dX1_run_15 : decode cX1_run 15 = .ok (.iload 6, 2) := by decide +kernel
theorem dX1_run_17 : decode cX1_run 17 = .ok (.iload_n 3, 1) := by decide +kernel
theorem dX1_run_18 : decode cX1_run 18 = .ok (.invokestatic 35, 3) := by decide +kernel
theorem dX1_run_21 : decode cX1_run 21 = .ok (.ifCond .ne 16, 3) := by decide +kernel
theorem dX1_run_24 : decode cX1_run 24 = .ok (.iload 6, 2) := by decide +kernel
theorem dX1_run_26 : decode cX1_run 26 = .ok (.invokestatic 39, 3) := by decide +kernel
theorem dX1_run_29 : decode cX1_run 29 = .ok (.istore 6, 2) := by decide +kernel
theorem dX1_run_31 : decode cX1_run 31 = .ok (.iinc 7 1, 3) := by decide +kernel
theorem dX1_run_34 : decode cX1_run 34 = .ok (.goto (-28), 3) := by decide +kernel
theorem dX1_run_37 : decode cX1_run 37 = .ok (.iload 6, 2) := by decide +kernel
theorem dX1_run_39 : decode cX1_run 39 = .ok (.iload_n 3, 1) := by decide +kernel
theorem dX1_run_40 : decode cX1_run 40 = .ok (.invokestatic 35, 3) := by decide +kernel
theorem dX1_run_43 : decode cX1_run 43 = .ok (.istore 7, 2) := by decide +kernel
theorem dX1_run_45 : decode cX1_run 45 = .ok (.iload 7, 2) := by decide +kernel
theorem dX1_run_47 : decode cX1_run 47 = .ok (.ifCond .eq 10, 3) := by decide +kernel
theorem dX1_run_50 : decode cX1_run 50 = .ok (.iload 5, 2) := by decide +kernel
theorem dX1_run_52 : decode cX1_run 52 = .ok (.bipush 40, 2) := by decide +kernel
theorem dX1_run_54 : decode cX1_run 54 = .ok (.if_icmp .le 5, 3) := by decide +kernel
theorem dX1_run_57 : decode cX1_run 57 = .ok (.iconst 0, 1) := by decide +kernel
theorem dX1_run_58 : decode cX1_run 58 = .ok (.ireturn, 1) := by decide +kernel
theorem dX1_run_59 : decode cX1_run 59 = .ok (.aload_n 0, 1) := by decide +kernel
theorem dX1_run_60 : decode cX1_run 60 = .ok (.iload 7, 2) := by decide +kernel
theorem dX1_run_62 : decode cX1_run 62 = .ok (.invokevirtual 43, 3) := by decide +kernel
theorem dX1_run_65 : decode cX1_run 65 = .ok (.aload_n 0, 1) := by decide +kernel
theorem dX1_run_66 : decode cX1_run 66 = .ok (.aload_n 1, 1) := by decide +kernel
theorem dX1_run_67 : decode cX1_run 67 = .ok (.iload 7, 2) := by decide +kernel
theorem dX1_run_69 : decode cX1_run 69 = .ok (.iload 6, 2) := by decide +kernel
theorem dX1_run_71 : decode cX1_run 71 = .ok (.invokestatic 39, 3) := by decide +kernel
theorem dX1_run_74 : decode cX1_run 74 = .ok (.iload 4, 2) := by decide +kernel
theorem dX1_run_76 : decode cX1_run 76 = .ok (.iload 5, 2) := by decide +kernel
theorem dX1_run_78 : decode cX1_run 78 = .ok (.iconst 1, 1) := by decide +kernel
theorem dX1_run_79 : decode cX1_run 79 = .ok (.iadd, 1) := by decide +kernel
theorem dX1_run_80 : decode cX1_run 80 = .ok (.invokevirtual 47, 3) := by decide +kernel
theorem dX1_run_83 : decode cX1_run 83 = .ok (.ireturn, 1) := by decide +kernel
def f_X1_run_B_L6 (X : x_X) (zc : Nat → Nat → Nat → Int32 → Int32 → Int32 → Int32 → x_M → Option (Int32 × x_M)) (k37 : Nat → Nat → Int32 → Int32 → Int32 → Int32 → x_M → Option (Int32 × x_M)) : Nat → Nat → Nat → Int32 → Int32 → Int32 → Int32 → Int32 → x_M → Option (Int32 × x_M)
  | 0, _, _, _, _, _, _, _, _ => none
  | n + 1, v7, v8, v9, v10, v11, v12, v13, μ14 =>
    (ck (x_kd X 801 = 20 ∨ x_kd X 801 = 23 ∨ x_kd X 801 = 40 ∨ x_kd X 801 = 41) (if (nI (x_ln X 801)) ≤ v13 then (k37 v7 v8 v9 v10 v11 v12 μ14) else (bd (f_X1_bodyOf X v12 v9 μ14) (fun (v15 : Int32) (μ16 : x_M) => (if v15 = 0 then (bd (f_X9_kindAbove X v12 μ16) (fun (v17 : Int32) (μ18 : x_M) => (f_X1_run_B_L6 X zc k37 n v7 v8 v9 v10 v11 v17 (v13 + (1 : Int32)) μ18))) else (k37 v7 v8 v9 v10 v11 v12 μ16))))))
set_option maxRecDepth 100000 in
theorem j_X1_run_B_L6 (hI : x_I X) (hC : x_C X x_Z0 p (x_rm (lev + 1)) s m c cX1_run RX1 8 0 0 (lev + 1)) (hr : meth.sig.returnType = (some .int)) (hlk : meth.locks = false) (hlev : 2 ≤ lev) (hz : (∀ (v0 : Nat) (v1 : Nat) (v2 : Int32) (v3 : Int32) (v4 : Int32) (v5 : Int32) (μ : x_M), x_Met X x_Z0 l yX1_run cX1_run 8 (some .int) lev [vR v0, vR v1, vI v2, vI v3, vI v4, vI v5] μ rkI (zc 0 v0 v1 v2 v3 v4 v5 μ)) ∧ (∀ (v0 : Nat) (v1 : Nat) (v2 : Int32) (v3 : Int32) (v4 : Int32) (v5 : Int32) (μ : x_M), x_Met X x_Z0 l yX1_runBody cX1_runBody 7 (some .int) lev [vR v0, vR v1, vI v2, vI v3, vI v4, vI v5] μ rkI (zc 1 v0 v1 v2 v3 v4 v5 μ))) {k37 : Nat → Nat → Int32 → Int32 → Int32 → Int32 → x_M → Option (Int32 × x_M)} (hk37 : ∀ (b0 : Nat) (b1 : Nat) (b3 : Int32) (b4 : Int32) (b5 : Int32) (b6 : Int32) (μ : x_M), SM X 8 (lev + 1) rkI p l e s m args below meth c 37 [(0, vR b0), (1, vR b1), (3, vI b3), (4, vI b4), (5, vI b5), (6, vI b6)] [] μ (k37 b0 b1 b3 b4 b5 b6 μ)) : ∀ (n : Nat) (v7 : Nat) (v8 : Nat) (v9 : Int32) (v10 : Int32) (v11 : Int32) (v12 : Int32) (v13 : Int32) (μ14 : x_M), SM X 8 (lev + 1) rkI p l e s m args below meth c 6 [(0, vR v7), (1, vR v8), (3, vI v9), (4, vI v10), (5, vI v11), (6, vI v12), (7, vI v13)] [] μ14 (f_X1_run_B_L6 X zc k37 n v7 v8 v9 v10 v11 v12 v13 μ14) := by
  intro n
  induction n with
  | zero => intro v7 v8 v9 v10 v11 v12 v13 μ14; exact s_none
  | succ n ih =>
    intro v7 v8 v9 v10 v11 v12 v13 μ14
    unfold f_X1_run_B_L6
    refine s_iload hC 6 dX1_run_6 rfl ?_
    refine s_gets hC (nest := true) dX1_run_8 (id := 801) (List.mem_of_getElem? (i := 0) rfl) qg_X1_32 ?_
    refine s_alen hC dX1_run_11 ?_
    refine s_icmp_ge hC dX1_run_12 (tgt := 37) (by decide) ?_ ?_
    · refine s_lv (lv' := [(0, vR v7), (1, vR v8), (3, vI v9), (4, vI v10), (5, vI v11), (6, vI v12)]) [0, 1, 2, 3, 4, 5] rfl ?_
      exact hk37 _ _ _ _ _ _ _
    refine s_iload hC 5 dX1_run_15 rfl ?_
    refine s_iload_n hC 2 dX1_run_17 rfl ?_
    refine s_callS hC (avs := [vI v12, vI v9]) (st := []) (nest := false) (m_X1_bodyOf hI v12 v9 μ14) dX1_run_18 qm_X1_35 qt_X1_bodyOf qc_X1 qd_X1_bodyOf qh_X1_bodyOf (by omega) (fun _ => Nat.le_of_ble_eq_true rfl) (Nat.le_of_ble_eq_true rfl) (fun v15 μ16 => ?_)
    refine s_if_ne hC dX1_run_21 (tgt := 37) (by decide) ?_ ?_
    · refine s_lv (lv' := [(0, vR v7), (1, vR v8), (3, vI v9), (4, vI v10), (5, vI v11), (6, vI v12)]) [0, 1, 2, 3, 4, 5] rfl ?_
      exact hk37 _ _ _ _ _ _ _
    refine s_iload hC 5 dX1_run_24 rfl ?_
    refine s_callS hC (avs := [vI v12]) (st := []) (nest := true) (m_X9_kindAbove hI v12 μ16) dX1_run_26 qm_X1_39 qt_X9_kindAbove qc_X9 qd_X9_kindAbove qh_X9_kindAbove (by omega) (fun _ => Nat.le_of_ble_eq_true rfl) (Nat.le_of_ble_eq_true rfl) (fun v17 μ18 => ?_)
    refine s_istore hC dX1_run_29 (by decide) (lv' := [(6, vI v17), (0, vR v7), (1, vR v8), (3, vI v9), (4, vI v10), (5, vI v11), (7, vI v13)]) rfl ?_
    refine s_iinc hC 6 dX1_run_31 rfl (w := 1) (by decide) (by decide) (lv' := [(7, vI (v13 + (1 : Int32))), (6, vI v17), (0, vR v7), (1, vR v8), (3, vI v9), (4, vI v10), (5, vI v11)]) rfl ?_
    refine s_goto hC dX1_run_34 (tgt := 6) (by decide) ?_
    refine s_lv (lv' := [(0, vR v7), (1, vR v8), (3, vI v9), (4, vI v10), (5, vI v11), (6, vI v17), (7, vI (v13 + (1 : Int32)))]) [2, 3, 4, 5, 6, 1, 0] rfl ?_
    exact ih _ _ _ _ _ _ _ _
def f_X1_run_B_J37 (X : x_X) (zc : Nat → Nat → Nat → Int32 → Int32 → Int32 → Int32 → x_M → Option (Int32 × x_M)) (v26 : Nat) (v27 : Nat) (v28 : Int32) (v29 : Int32) (v30 : Int32) (v31 : Int32) (μ32 : x_M) : Option (Int32 × x_M) :=
  (bd (f_X1_bodyOf X v31 v28 μ32) (fun (v33 : Int32) (μ34 : x_M) => (if v33 = 0 then (some ((0 : Int32), μ34)) else (if v30 ≤ (40 : Int32) then (ck (x_kd X v26 = 1 + 1) (bd (f_X1_note X v26 v33 μ34) (fun (_ : Unit) (μ35 : x_M) => (bd (f_X9_kindAbove X v31 μ35) (fun (v36 : Int32) (μ37 : x_M) => (ck (x_kd X v26 = 1 + 1) (bd (zc 1 v26 v27 v33 v36 v29 (v30 + (1 : Int32)) μ37) (fun (v38 : Int32) (μ39 : x_M) => (some (v38, μ39)))))))))) else (some ((0 : Int32), μ34))))))
set_option maxRecDepth 100000 in
theorem j_X1_run_B_J37 (hI : x_I X) (hC : x_C X x_Z0 p (x_rm (lev + 1)) s m c cX1_run RX1 8 0 0 (lev + 1)) (hr : meth.sig.returnType = (some .int)) (hlk : meth.locks = false) (hlev : 2 ≤ lev) (hz : (∀ (v0 : Nat) (v1 : Nat) (v2 : Int32) (v3 : Int32) (v4 : Int32) (v5 : Int32) (μ : x_M), x_Met X x_Z0 l yX1_run cX1_run 8 (some .int) lev [vR v0, vR v1, vI v2, vI v3, vI v4, vI v5] μ rkI (zc 0 v0 v1 v2 v3 v4 v5 μ)) ∧ (∀ (v0 : Nat) (v1 : Nat) (v2 : Int32) (v3 : Int32) (v4 : Int32) (v5 : Int32) (μ : x_M), x_Met X x_Z0 l yX1_runBody cX1_runBody 7 (some .int) lev [vR v0, vR v1, vI v2, vI v3, vI v4, vI v5] μ rkI (zc 1 v0 v1 v2 v3 v4 v5 μ))) (v26 : Nat) (v27 : Nat) (v28 : Int32) (v29 : Int32) (v30 : Int32) (v31 : Int32) (μ32 : x_M) : SM X 8 (lev + 1) rkI p l e s m args below meth c 37 [(0, vR v26), (1, vR v27), (3, vI v28), (4, vI v29), (5, vI v30), (6, vI v31)] [] μ32 (f_X1_run_B_J37 X zc v26 v27 v28 v29 v30 v31 μ32) := by
  unfold f_X1_run_B_J37
  refine s_iload hC 5 dX1_run_37 rfl ?_
  refine s_iload_n hC 2 dX1_run_39 rfl ?_
  refine s_callS hC (avs := [vI v31, vI v28]) (st := []) (nest := false) (m_X1_bodyOf hI v31 v28 μ32) dX1_run_40 qm_X1_35 qt_X1_bodyOf qc_X1 qd_X1_bodyOf qh_X1_bodyOf (by omega) (fun _ => Nat.le_of_ble_eq_true rfl) (Nat.le_of_ble_eq_true rfl) (fun v33 μ34 => ?_)
  refine s_istore hC dX1_run_43 (by decide) (lv' := [(7, vI v33), (0, vR v26), (1, vR v27), (3, vI v28), (4, vI v29), (5, vI v30), (6, vI v31)]) rfl ?_
  refine s_iload hC 0 dX1_run_45 rfl ?_
  refine s_if_eq hC dX1_run_47 (tgt := 57) (by decide) ?_ ?_
  · refine s_iconst hC dX1_run_57 (v := 0) (by decide) ?_
    exact s_iret hC hr hlk dX1_run_58
  refine s_iload hC 5 dX1_run_50 rfl ?_
  refine s_bipush hC dX1_run_52 (v := 40) (by decide) ?_
  refine s_icmp_le hC dX1_run_54 (tgt := 59) (by decide) ?_ ?_
  · refine s_aload_n hC 1 dX1_run_59 rfl ?_
    refine s_iload hC 0 dX1_run_60 rfl ?_
    refine s_callV hC (x := v26) (avs := [vI v33]) (st := []) (nest := false) xc1 (m_X1_note hI v26 v33 μ34) dX1_run_62 qm_X1_43 qi_X1_note qs_X1_note qc_X1 qd_X1_note qh_X1_note (by omega) (fun _ => Nat.le_of_ble_eq_true rfl) (Nat.le_of_ble_eq_true rfl) (fun _ μ35 => ?_)
    refine s_aload_n hC 1 dX1_run_65 rfl ?_
    refine s_aload_n hC 2 dX1_run_66 rfl ?_
    refine s_iload hC 0 dX1_run_67 rfl ?_
    refine s_iload hC 6 dX1_run_69 rfl ?_
    refine s_callS hC (avs := [vI v31]) (st := [vI v33, vR v27, vR v26]) (nest := true) (m_X9_kindAbove hI v31 μ35) dX1_run_71 qm_X1_39 qt_X9_kindAbove qc_X9 qd_X9_kindAbove qh_X9_kindAbove (by omega) (fun _ => Nat.le_of_ble_eq_true rfl) (Nat.le_of_ble_eq_true rfl) (fun v36 μ37 => ?_)
    refine s_iload hC 4 dX1_run_74 rfl ?_
    refine s_iload hC 5 dX1_run_76 rfl ?_
    refine s_iconst hC dX1_run_78 (v := 1) (by decide) ?_
    refine s_iadd hC dX1_run_79 ?_
    refine s_callV hC (x := v26) (avs := [vR v27, vI v33, vI v36, vI v29, vI (v30 + (1 : Int32))]) (st := []) (nest := false) xc1 (hz.2 v26 v27 v33 v36 v29 (v30 + (1 : Int32)) μ37) dX1_run_80 qm_X1_47 qi_X1_runBody qs_X1_runBody qc_X1 qd_X1_runBody qh_X1_runBody (by omega) (fun _ => Nat.le_of_ble_eq_true rfl) (Nat.le_of_ble_eq_true rfl) (fun v38 μ39 => ?_)
    exact s_iret hC hr hlk dX1_run_83
  refine s_iconst hC dX1_run_57 (v := 0) (by decide) ?_
  exact s_iret hC hr hlk dX1_run_58
def f_X1_run_B (X : x_X) (zc : Nat → Nat → Nat → Int32 → Int32 → Int32 → Int32 → x_M → Option (Int32 × x_M)) (v0 : Nat) (v1 : Nat) (v2 : Int32) (v3 : Int32) (v4 : Int32) (v5 : Int32) (μ : x_M) : Option (Int32 × x_M) :=
  (f_X1_run_B_L6 X zc (fun (v19 : Nat) (v20 : Nat) (v21 : Int32) (v22 : Int32) (v23 : Int32) (v24 : Int32) (μ25 : x_M) => (f_X1_run_B_J37 X zc v19 v20 v21 v22 v23 v24 μ25)) 4096 v0 v1 v3 v4 v5 v2 (0 : Int32) μ)
set_option maxRecDepth 100000 in
theorem b_X1_run_B (hI : x_I X) (hlev : 2 ≤ lev) (hz : (∀ (v0 : Nat) (v1 : Nat) (v2 : Int32) (v3 : Int32) (v4 : Int32) (v5 : Int32) (μ : x_M), x_Met X x_Z0 l yX1_run cX1_run 8 (some .int) lev [vR v0, vR v1, vI v2, vI v3, vI v4, vI v5] μ rkI (zc 0 v0 v1 v2 v3 v4 v5 μ)) ∧ (∀ (v0 : Nat) (v1 : Nat) (v2 : Int32) (v3 : Int32) (v4 : Int32) (v5 : Int32) (μ : x_M), x_Met X x_Z0 l yX1_runBody cX1_runBody 7 (some .int) lev [vR v0, vR v1, vI v2, vI v3, vI v4, vI v5] μ rkI (zc 1 v0 v1 v2 v3 v4 v5 μ))) (v0 : Nat) (v1 : Nat) (v2 : Int32) (v3 : Int32) (v4 : Int32) (v5 : Int32) (μ : x_M) : x_Met X x_Z0 l yX1_run cX1_run 8 (some .int) (lev + 1) [vR v0, vR v1, vI v2, vI v3, vI v4, vI v5] μ rkI (f_X1_run_B X zc v0 v1 v2 v3 v4 v5 μ) := by
  refine x_enter hI (by decide +kernel) (Nat.le_of_ble_eq_true rfl) (fun p e s m args below meth c hC hr hlk => ?_)
  unfold f_X1_run_B
  refine s_lv (lv' := [(0, vR v0), (1, vR v1), (2, vI v2), (3, vI v3), (4, vI v4), (5, vI v5)]) [0, 1, 2, 3, 4, 5] rfl ?_
  refine s_iload_n hC 2 dX1_run_0 rfl ?_
  refine s_istore hC dX1_run_1 (by decide) (lv' := [(6, vI v2), (0, vR v0), (1, vR v1), (2, vI v2), (3, vI v3), (4, vI v4), (5, vI v5)]) rfl ?_
  refine s_iconst hC dX1_run_3 (v := 0) (by decide) ?_
  refine s_istore hC dX1_run_4 (by decide) (lv' := [(7, vI (0 : Int32)), (6, vI v2), (0, vR v0), (1, vR v1), (2, vI v2), (3, vI v3), (4, vI v4), (5, vI v5)]) rfl ?_
  refine s_lv (lv' := [(0, vR v0), (1, vR v1), (3, vI v3), (4, vI v4), (5, vI v5), (6, vI v2), (7, vI (0 : Int32))]) [2, 3, 5, 6, 7, 1, 0] rfl ?_
  refine j_X1_run_B_L6 hI hC hr hlk hlev hz (fun v19 v20 v21 v22 v23 v24 μ25 => ?_) 4096 _ _ _ _ _ _ _ _
  exact j_X1_run_B_J37 hI hC hr hlk hlev hz _ _ _ _ _ _ _
theorem dX1_runBody_0 : decode cX1_runBody 0 = .ok (.aload_n 1, 1) := by decide +kernel
theorem dX1_runBody_1 : decode cX1_runBody 1 = .ok (.getfield 23, 3) := by decide +kernel
theorem dX1_runBody_4 : decode cX1_runBody 4 = .ok (.istore 6, 2) := by decide +kernel
theorem dX1_runBody_6 : decode cX1_runBody 6 = .ok (.iload_n 2, 1) := by decide +kernel
theorem dX1_runBody_7 : decode cX1_runBody 7 = .ok (.lookupswitch 275 #[(10, 97), (11, 105), (12, 123), (20, 138), (30, 153), (40, 167), (50, 191), (51, 204), (60, 218), (70, 235), (71, 258)], 97) := by decide +kernel
theorem dX1_runBody_104 : decode cX1_runBody 104 = .ok (.iload 4, 2) := by decide +kernel
theorem dX1_runBody_106 : decode cX1_runBody 106 = .ok (.aload_n 1, 1) := by decide +kernel
theorem dX1_runBody_107 : decode cX1_runBody 107 = .ok (.getfield 50, 3) := by decide +kernel
theorem dX1_runBody_110 : decode cX1_runBody 110 = .ok (.iadd, 1) := by decide +kernel
theorem dX1_runBody_111 : decode cX1_runBody 111 = .ok (.ireturn, 1) := by decide +kernel
theorem dX1_runBody_112 : decode cX1_runBody 112 = .ok (.aload_n 0, 1) := by decide +kernel
theorem dX1_runBody_113 : decode cX1_runBody 113 = .ok (.aload_n 1, 1) := by decide +kernel
theorem dX1_runBody_114 : decode cX1_runBody 114 = .ok (.iload 6, 2) := by decide +kernel
theorem dX1_runBody_116 : decode cX1_runBody 116 = .ok (.iconst 0, 1) := by decide +kernel
theorem dX1_runBody_117 : decode cX1_runBody 117 = .ok (.iload 4, 2) := by decide +kernel
theorem dX1_runBody_119 : decode cX1_runBody 119 = .ok (.iload 5, 2) := by decide +kernel
theorem dX1_runBody_121 : decode cX1_runBody 121 = .ok (.invokevirtual 28, 3) := by decide +kernel
theorem dX1_runBody_124 : decode cX1_runBody 124 = .ok (.aload_n 1, 1) := by decide +kernel
theorem dX1_runBody_125 : decode cX1_runBody 125 = .ok (.getfield 53, 3) := by decide +kernel
theorem dX1_runBody_128 : decode cX1_runBody 128 = .ok (.isub, 1) := by decide +kernel
theorem dX1_runBody_129 : decode cX1_runBody 129 = .ok (.ireturn, 1) := by decide +kernel
theorem dX1_runBody_130 : decode cX1_runBody 130 = .ok (.aload_n 0, 1) := by decide +kernel
theorem dX1_runBody_131 : decode cX1_runBody 131 = .ok (.aload_n 1, 1) := by decide +kernel
theorem dX1_runBody_132 : decode cX1_runBody 132 = .ok (.iload 6, 2) := by decide +kernel
theorem dX1_runBody_134 : decode cX1_runBody 134 = .ok (.iconst 1, 1) := by decide +kernel
theorem dX1_runBody_135 : decode cX1_runBody 135 = .ok (.iload 4, 2) := by decide +kernel
theorem dX1_runBody_137 : decode cX1_runBody 137 = .ok (.iload 5, 2) := by decide +kernel
theorem dX1_runBody_139 : decode cX1_runBody 139 = .ok (.invokevirtual 28, 3) := by decide +kernel
theorem dX1_runBody_142 : decode cX1_runBody 142 = .ok (.iconst 2, 1) := by decide +kernel
theorem dX1_runBody_143 : decode cX1_runBody 143 = .ok (.imul, 1) := by decide +kernel
theorem dX1_runBody_144 : decode cX1_runBody 144 = .ok (.ireturn, 1) := by decide +kernel
theorem dX1_runBody_145 : decode cX1_runBody 145 = .ok (.aload_n 0, 1) := by decide +kernel
theorem dX1_runBody_146 : decode cX1_runBody 146 = .ok (.aload_n 1, 1) := by decide +kernel
theorem dX1_runBody_147 : decode cX1_runBody 147 = .ok (.iload_n 3, 1) := by decide +kernel
theorem dX1_runBody_148 : decode cX1_runBody 148 = .ok (.iconst 1, 1) := by decide +kernel
theorem dX1_runBody_149 : decode cX1_runBody 149 = .ok (.iload 4, 2) := by decide +kernel
theorem dX1_runBody_151 : decode cX1_runBody 151 = .ok (.iload 5, 2) := by decide +kernel
theorem dX1_runBody_153 : decode cX1_runBody 153 = .ok (.invokevirtual 28, 3) := by decide +kernel
theorem dX1_runBody_156 : decode cX1_runBody 156 = .ok (.bipush 6, 2) := by decide +kernel
theorem dX1_runBody_158 : decode cX1_runBody 158 = .ok (.ixor, 1) := by decide +kernel
theorem dX1_runBody_159 : decode cX1_runBody 159 = .ok (.ireturn, 1) := by decide +kernel
theorem dX1_runBody_160 : decode cX1_runBody 160 = .ok (.aload_n 0, 1) := by decide +kernel
theorem dX1_runBody_161 : decode cX1_runBody 161 = .ok (.aload_n 1, 1) := by decide +kernel
theorem dX1_runBody_162 : decode cX1_runBody 162 = .ok (.iload_n 3, 1) := by decide +kernel
theorem dX1_runBody_163 : decode cX1_runBody 163 = .ok (.iconst 0, 1) := by decide +kernel
theorem dX1_runBody_164 : decode cX1_runBody 164 = .ok (.iload 4, 2) := by decide +kernel
theorem dX1_runBody_166 : decode cX1_runBody 166 = .ok (.iconst 3, 1) := by decide +kernel
theorem dX1_runBody_167 : decode cX1_runBody 167 = .ok (.imul, 1) := by decide +kernel
theorem dX1_runBody_168 : decode cX1_runBody 168 = .ok (.iload 5, 2) := by decide +kernel
theorem dX1_runBody_170 : decode cX1_runBody 170 = .ok (.invokevirtual 28, 3) := by decide +kernel
theorem dX1_runBody_173 : decode cX1_runBody 173 = .ok (.ireturn, 1) := by decide +kernel
theorem dX1_runBody_174 : decode cX1_runBody 174 = .ok (.aload_n 0, 1) := by decide +kernel
theorem dX1_runBody_175 : decode cX1_runBody 175 = .ok (.aload_n 1, 1) := by decide +kernel
theorem dX1_runBody_176 : decode cX1_runBody 176 = .ok (.iload_n 3, 1) := by decide +kernel
theorem dX1_runBody_177 : decode cX1_runBody 177 = .ok (.iconst 2, 1) := by decide +kernel
theorem dX1_runBody_178 : decode cX1_runBody 178 = .ok (.iload 4, 2) := by decide +kernel
theorem dX1_runBody_180 : decode cX1_runBody 180 = .ok (.iload 5, 2) := by decide +kernel
theorem dX1_runBody_182 : decode cX1_runBody 182 = .ok (.invokevirtual 28, 3) := by decide +kernel
theorem dX1_runBody_185 : decode cX1_runBody 185 = .ok (.aload_n 0, 1) := by decide +kernel
theorem dX1_runBody_186 : decode cX1_runBody 186 = .ok (.aload_n 1, 1) := by decide +kernel
theorem dX1_runBody_187 : decode cX1_runBody 187 = .ok (.iload 6, 2) := by decide +kernel
theorem dX1_runBody_189 : decode cX1_runBody 189 = .ok (.iconst 1, 1) := by decide +kernel
theorem dX1_runBody_190 : decode cX1_runBody 190 = .ok (.iconst 1, 1) := by decide +kernel
theorem dX1_runBody_191 : decode cX1_runBody 191 = .ok (.iload 5, 2) := by decide +kernel
theorem dX1_runBody_193 : decode cX1_runBody 193 = .ok (.invokevirtual 28, 3) := by decide +kernel
theorem dX1_runBody_196 : decode cX1_runBody 196 = .ok (.iadd, 1) := by decide +kernel
theorem dX1_runBody_197 : decode cX1_runBody 197 = .ok (.ireturn, 1) := by decide +kernel
theorem dX1_runBody_198 : decode cX1_runBody 198 = .ok (.aload_n 0, 1) := by decide +kernel
theorem dX1_runBody_199 : decode cX1_runBody 199 = .ok (.aload_n 1, 1) := by decide +kernel
theorem dX1_runBody_200 : decode cX1_runBody 200 = .ok (.iload_n 3, 1) := by decide +kernel
theorem dX1_runBody_201 : decode cX1_runBody 201 = .ok (.iconst 0, 1) := by decide +kernel
theorem dX1_runBody_202 : decode cX1_runBody 202 = .ok (.iload 4, 2) := by decide +kernel
theorem dX1_runBody_204 : decode cX1_runBody 204 = .ok (.iload 5, 2) := by decide +kernel
theorem dX1_runBody_206 : decode cX1_runBody 206 = .ok (.invokevirtual 28, 3) := by decide +kernel
theorem dX1_runBody_209 : decode cX1_runBody 209 = .ok (.ineg, 1) := by decide +kernel
theorem dX1_runBody_210 : decode cX1_runBody 210 = .ok (.ireturn, 1) := by decide +kernel
theorem dX1_runBody_211 : decode cX1_runBody 211 = .ok (.aload_n 0, 1) := by decide +kernel
theorem dX1_runBody_212 : decode cX1_runBody 212 = .ok (.aload_n 1, 1) := by decide +kernel
theorem dX1_runBody_213 : decode cX1_runBody 213 = .ok (.iload_n 3, 1) := by decide +kernel
theorem dX1_runBody_214 : decode cX1_runBody 214 = .ok (.iconst 1, 1) := by decide +kernel
theorem dX1_runBody_215 : decode cX1_runBody 215 = .ok (.iload 4, 2) := by decide +kernel
theorem dX1_runBody_217 : decode cX1_runBody 217 = .ok (.iconst 1, 1) := by decide +kernel
theorem dX1_runBody_218 : decode cX1_runBody 218 = .ok (.iadd, 1) := by decide +kernel
theorem dX1_runBody_219 : decode cX1_runBody 219 = .ok (.iload 5, 2) := by decide +kernel
theorem dX1_runBody_221 : decode cX1_runBody 221 = .ok (.invokevirtual 28, 3) := by decide +kernel
theorem dX1_runBody_224 : decode cX1_runBody 224 = .ok (.ireturn, 1) := by decide +kernel
theorem dX1_runBody_225 : decode cX1_runBody 225 = .ok (.aload_n 0, 1) := by decide +kernel
theorem dX1_runBody_226 : decode cX1_runBody 226 = .ok (.aload_n 1, 1) := by decide +kernel
theorem dX1_runBody_227 : decode cX1_runBody 227 = .ok (.iload_n 3, 1) := by decide +kernel
theorem dX1_runBody_228 : decode cX1_runBody 228 = .ok (.iconst 2, 1) := by decide +kernel
theorem dX1_runBody_229 : decode cX1_runBody 229 = .ok (.iload 4, 2) := by decide +kernel
theorem dX1_runBody_231 : decode cX1_runBody 231 = .ok (.aload_n 1, 1) := by decide +kernel
theorem dX1_runBody_232 : decode cX1_runBody 232 = .ok (.getfield 50, 3) := by decide +kernel
theorem dX1_runBody_235 : decode cX1_runBody 235 = .ok (.isub, 1) := by decide +kernel
theorem dX1_runBody_236 : decode cX1_runBody 236 = .ok (.iload 5, 2) := by decide +kernel
theorem dX1_runBody_238 : decode cX1_runBody 238 = .ok (.invokevirtual 28, 3) := by decide +kernel
theorem dX1_runBody_241 : decode cX1_runBody 241 = .ok (.ireturn, 1) := by decide +kernel
theorem dX1_runBody_242 : decode cX1_runBody 242 = .ok (.aload_n 0, 1) := by decide +kernel
theorem dX1_runBody_243 : decode cX1_runBody 243 = .ok (.aload_n 1, 1) := by decide +kernel
theorem dX1_runBody_244 : decode cX1_runBody 244 = .ok (.iload_n 3, 1) := by decide +kernel
theorem dX1_runBody_245 : decode cX1_runBody 245 = .ok (.iconst 1, 1) := by decide +kernel
theorem dX1_runBody_246 : decode cX1_runBody 246 = .ok (.iload 4, 2) := by decide +kernel
theorem dX1_runBody_248 : decode cX1_runBody 248 = .ok (.iload 5, 2) := by decide +kernel
theorem dX1_runBody_250 : decode cX1_runBody 250 = .ok (.invokevirtual 28, 3) := by decide +kernel
theorem dX1_runBody_253 : decode cX1_runBody 253 = .ok (.aload_n 0, 1) := by decide +kernel
theorem dX1_runBody_254 : decode cX1_runBody 254 = .ok (.aload_n 1, 1) := by decide +kernel
theorem dX1_runBody_255 : decode cX1_runBody 255 = .ok (.iload_n 3, 1) := by decide +kernel
theorem dX1_runBody_256 : decode cX1_runBody 256 = .ok (.iconst 0, 1) := by decide +kernel
theorem dX1_runBody_257 : decode cX1_runBody 257 = .ok (.iconst 2, 1) := by decide +kernel
theorem dX1_runBody_258 : decode cX1_runBody 258 = .ok (.iload 5, 2) := by decide +kernel
theorem dX1_runBody_260 : decode cX1_runBody 260 = .ok (.invokevirtual 28, 3) := by decide +kernel
theorem dX1_runBody_263 : decode cX1_runBody 263 = .ok (.iadd, 1) := by decide +kernel
theorem dX1_runBody_264 : decode cX1_runBody 264 = .ok (.ireturn, 1) := by decide +kernel
theorem dX1_runBody_265 : decode cX1_runBody 265 = .ok (.aload_n 0, 1) := by decide +kernel
theorem dX1_runBody_266 : decode cX1_runBody 266 = .ok (.aload_n 1, 1) := by decide +kernel
theorem dX1_runBody_267 : decode cX1_runBody 267 = .ok (.iload_n 3, 1) := by decide +kernel
theorem dX1_runBody_268 : decode cX1_runBody 268 = .ok (.iconst 0, 1) := by decide +kernel
theorem dX1_runBody_269 : decode cX1_runBody 269 = .ok (.iload 4, 2) := by decide +kernel
theorem dX1_runBody_271 : decode cX1_runBody 271 = .ok (.iload 5, 2) := by decide +kernel
theorem dX1_runBody_273 : decode cX1_runBody 273 = .ok (.invokevirtual 28, 3) := by decide +kernel
theorem dX1_runBody_276 : decode cX1_runBody 276 = .ok (.aload_n 1, 1) := by decide +kernel
theorem dX1_runBody_277 : decode cX1_runBody 277 = .ok (.getfield 53, 3) := by decide +kernel
theorem dX1_runBody_280 : decode cX1_runBody 280 = .ok (.ixor, 1) := by decide +kernel
theorem dX1_runBody_281 : decode cX1_runBody 281 = .ok (.ireturn, 1) := by decide +kernel
theorem dX1_runBody_282 : decode cX1_runBody 282 = .ok (.iconst 0, 1) := by decide +kernel
theorem dX1_runBody_283 : decode cX1_runBody 283 = .ok (.ireturn, 1) := by decide +kernel
def f_X1_runBody_B (X : x_X) (zc : Nat → Nat → Nat → Int32 → Int32 → Int32 → Int32 → x_M → Option (Int32 × x_M)) (v0 : Nat) (v1 : Nat) (v2 : Int32) (v3 : Int32) (v4 : Int32) (v5 : Int32) (μ : x_M) : Option (Int32 × x_M) :=
  (ck (x_kd X v1 = 0 + 1) (lt (μ.1 v1 3) (fun (v7 : Int32) => (x_swo [(10 : Int32), (11 : Int32), (12 : Int32), (20 : Int32), (30 : Int32), (40 : Int32), (50 : Int32), (51 : Int32), (60 : Int32), (70 : Int32), (71 : Int32)] [(ck (x_kd X v1 = 0 + 1) (some ((v4 + (μ.1 v1 0)), μ))), (ck (x_kd X v0 = 1 + 1) (bd (zc 0 v0 v1 v7 (0 : Int32) v4 v5 μ) (fun (v8 : Int32) (μ9 : x_M) => (ck (x_kd X v1 = 0 + 1) (some ((v8 - (μ9.1 v1 4)), μ9)))))), (ck (x_kd X v0 = 1 + 1) (bd (zc 0 v0 v1 v7 (1 : Int32) v4 v5 μ) (fun (v10 : Int32) (μ11 : x_M) => (some ((v10 * (2 : Int32)), μ11))))), (ck (x_kd X v0 = 1 + 1) (bd (zc 0 v0 v1 v3 (1 : Int32) v4 v5 μ) (fun (v12 : Int32) (μ13 : x_M) => (some ((v12 ^^^ (6 : Int32)), μ13))))), (ck (x_kd X v0 = 1 + 1) (bd (zc 0 v0 v1 v3 (0 : Int32) (v4 * (3 : Int32)) v5 μ) (fun (v14 : Int32) (μ15 : x_M) => (some (v14, μ15))))), (ck (x_kd X v0 = 1 + 1) (bd (zc 0 v0 v1 v3 (2 : Int32) v4 v5 μ) (fun (v16 : Int32) (μ17 : x_M) => (ck (x_kd X v0 = 1 + 1) (bd (zc 0 v0 v1 v7 (1 : Int32) (1 : Int32) v5 μ17) (fun (v18 : Int32) (μ19 : x_M) => (some ((v16 + v18), μ19)))))))), (ck (x_kd X v0 = 1 + 1) (bd (zc 0 v0 v1 v3 (0 : Int32) v4 v5 μ) (fun (v20 : Int32) (μ21 : x_M) => (some ((-v20), μ21))))), (ck (x_kd X v0 = 1 + 1) (bd (zc 0 v0 v1 v3 (1 : Int32) (v4 + (1 : Int32)) v5 μ) (fun (v22 : Int32) (μ23 : x_M) => (some (v22, μ23))))), (ck (x_kd X v1 = 0 + 1) (ck (x_kd X v0 = 1 + 1) (bd (zc 0 v0 v1 v3 (2 : Int32) (v4 - (μ.1 v1 0)) v5 μ) (fun (v24 : Int32) (μ25 : x_M) => (some (v24, μ25)))))), (ck (x_kd X v0 = 1 + 1) (bd (zc 0 v0 v1 v3 (1 : Int32) v4 v5 μ) (fun (v26 : Int32) (μ27 : x_M) => (ck (x_kd X v0 = 1 + 1) (bd (zc 0 v0 v1 v3 (0 : Int32) (2 : Int32) v5 μ27) (fun (v28 : Int32) (μ29 : x_M) => (some ((v26 + v28), μ29)))))))), (ck (x_kd X v0 = 1 + 1) (bd (zc 0 v0 v1 v3 (0 : Int32) v4 v5 μ) (fun (v30 : Int32) (μ31 : x_M) => (ck (x_kd X v1 = 0 + 1) (some ((v30 ^^^ (μ31.1 v1 4)), μ31))))))] (some ((0 : Int32), μ)) v2))))
set_option maxRecDepth 100000 in
theorem b_X1_runBody_B (hI : x_I X) (hlev : 2 ≤ lev) (hz : (∀ (v0 : Nat) (v1 : Nat) (v2 : Int32) (v3 : Int32) (v4 : Int32) (v5 : Int32) (μ : x_M), x_Met X x_Z0 l yX1_run cX1_run 8 (some .int) lev [vR v0, vR v1, vI v2, vI v3, vI v4, vI v5] μ rkI (zc 0 v0 v1 v2 v3 v4 v5 μ)) ∧ (∀ (v0 : Nat) (v1 : Nat) (v2 : Int32) (v3 : Int32) (v4 : Int32) (v5 : Int32) (μ : x_M), x_Met X x_Z0 l yX1_runBody cX1_runBody 7 (some .int) lev [vR v0, vR v1, vI v2, vI v3, vI v4, vI v5] μ rkI (zc 1 v0 v1 v2 v3 v4 v5 μ))) (v0 : Nat) (v1 : Nat) (v2 : Int32) (v3 : Int32) (v4 : Int32) (v5 : Int32) (μ : x_M) : x_Met X x_Z0 l yX1_runBody cX1_runBody 7 (some .int) (lev + 1) [vR v0, vR v1, vI v2, vI v3, vI v4, vI v5] μ rkI (f_X1_runBody_B X zc v0 v1 v2 v3 v4 v5 μ) := by
  refine x_enter hI (by decide +kernel) (Nat.le_of_ble_eq_true rfl) (fun p e s m args below meth c hC hr hlk => ?_)
  unfold f_X1_runBody_B
  refine s_lv (lv' := [(0, vR v0), (1, vR v1), (2, vI v2), (3, vI v3), (4, vI v4), (5, vI v5)]) [0, 1, 2, 3, 4, 5] rfl ?_
  refine s_aload_n hC 1 dX1_runBody_0 rfl ?_
  refine s_getI hC xc0 (by decide) rfl qf_X1_23 dX1_runBody_1 ?_
  refine s_ltI (fun v7 => ?_)
  refine s_istore hC dX1_runBody_4 (by decide) (lv' := [(6, vI v7), (0, vR v0), (1, vR v1), (2, vI v2), (3, vI v3), (4, vI v4), (5, vI v5)]) rfl ?_
  refine s_iload_n hC 3 dX1_runBody_6 rfl ?_
  refine s_lookup hC dX1_runBody_7 (by decide) [((10 : Int32), 104), ((11 : Int32), 112), ((12 : Int32), 130), ((20 : Int32), 145), ((30 : Int32), 160), ((40 : Int32), 174), ((50 : Int32), 198), ((51 : Int32), 211), ((60 : Int32), 225), ((70 : Int32), 242), ((71 : Int32), 265)] 282 (by decide +kernel) ⟨?_, ?_, ?_, ?_, ?_, ?_, ?_, ?_, ?_, ?_, ?_, trivial⟩ ?_
  · refine s_iload hC 5 dX1_runBody_104 rfl ?_
    refine s_aload_n hC 2 dX1_runBody_106 rfl ?_
    refine s_getI hC xc0 (by decide) rfl qf_X1_50 dX1_runBody_107 ?_
    refine s_iadd hC dX1_runBody_110 ?_
    exact s_iret hC hr hlk dX1_runBody_111
  · refine s_aload_n hC 1 dX1_runBody_112 rfl ?_
    refine s_aload_n hC 2 dX1_runBody_113 rfl ?_
    refine s_iload hC 0 dX1_runBody_114 rfl ?_
    refine s_iconst hC dX1_runBody_116 (v := 0) (by decide) ?_
    refine s_iload hC 5 dX1_runBody_117 rfl ?_
    refine s_iload hC 6 dX1_runBody_119 rfl ?_
    refine s_callV hC (x := v0) (avs := [vR v1, vI v7, vI (0 : Int32), vI v4, vI v5]) (st := []) (nest := false) xc1 (hz.1 v0 v1 v7 (0 : Int32) v4 v5 μ) dX1_runBody_121 qm_X1_28 qi_X1_run qs_X1_run qc_X1 qd_X1_run qh_X1_run (by omega) (fun _ => Nat.le_of_ble_eq_true rfl) (Nat.le_of_ble_eq_true rfl) (fun v8 μ9 => ?_)
    refine s_aload_n hC 2 dX1_runBody_124 rfl ?_
    refine s_getI hC xc0 (by decide) rfl qf_X1_53 dX1_runBody_125 ?_
    refine s_isub hC dX1_runBody_128 ?_
    exact s_iret hC hr hlk dX1_runBody_129
  · refine s_aload_n hC 1 dX1_runBody_130 rfl ?_
    refine s_aload_n hC 2 dX1_runBody_131 rfl ?_
    refine s_iload hC 0 dX1_runBody_132 rfl ?_
    refine s_iconst hC dX1_runBody_134 (v := 1) (by decide) ?_
    refine s_iload hC 5 dX1_runBody_135 rfl ?_
    refine s_iload hC 6 dX1_runBody_137 rfl ?_
    refine s_callV hC (x := v0) (avs := [vR v1, vI v7, vI (1 : Int32), vI v4, vI v5]) (st := []) (nest := false) xc1 (hz.1 v0 v1 v7 (1 : Int32) v4 v5 μ) dX1_runBody_139 qm_X1_28 qi_X1_run qs_X1_run qc_X1 qd_X1_run qh_X1_run (by omega) (fun _ => Nat.le_of_ble_eq_true rfl) (Nat.le_of_ble_eq_true rfl) (fun v10 μ11 => ?_)
    refine s_iconst hC dX1_runBody_142 (v := 2) (by decide) ?_
    refine s_imul hC dX1_runBody_143 ?_
    exact s_iret hC hr hlk dX1_runBody_144
  · refine s_aload_n hC 1 dX1_runBody_145 rfl ?_
    refine s_aload_n hC 2 dX1_runBody_146 rfl ?_
    refine s_iload_n hC 4 dX1_runBody_147 rfl ?_
    refine s_iconst hC dX1_runBody_148 (v := 1) (by decide) ?_
    refine s_iload hC 5 dX1_runBody_149 rfl ?_
    refine s_iload hC 6 dX1_runBody_151 rfl ?_
    refine s_callV hC (x := v0) (avs := [vR v1, vI v3, vI (1 : Int32), vI v4, vI v5]) (st := []) (nest := false) xc1 (hz.1 v0 v1 v3 (1 : Int32) v4 v5 μ) dX1_runBody_153 qm_X1_28 qi_X1_run qs_X1_run qc_X1 qd_X1_run qh_X1_run (by omega) (fun _ => Nat.le_of_ble_eq_true rfl) (Nat.le_of_ble_eq_true rfl) (fun v12 μ13 => ?_)
    refine s_bipush hC dX1_runBody_156 (v := 6) (by decide) ?_
    refine s_ixor hC dX1_runBody_158 ?_
    exact s_iret hC hr hlk dX1_runBody_159
  · refine s_aload_n hC 1 dX1_runBody_160 rfl ?_
    refine s_aload_n hC 2 dX1_runBody_161 rfl ?_
    refine s_iload_n hC 4 dX1_runBody_162 rfl ?_
    refine s_iconst hC dX1_runBody_163 (v := 0) (by decide) ?_
    refine s_iload hC 5 dX1_runBody_164 rfl ?_
    refine s_iconst hC dX1_runBody_166 (v := 3) (by decide) ?_
    refine s_imul hC dX1_runBody_167 ?_
    refine s_iload hC 6 dX1_runBody_168 rfl ?_
    refine s_callV hC (x := v0) (avs := [vR v1, vI v3, vI (0 : Int32), vI (v4 * (3 : Int32)), vI v5]) (st := []) (nest := false) xc1 (hz.1 v0 v1 v3 (0 : Int32) (v4 * (3 : Int32)) v5 μ) dX1_runBody_170 qm_X1_28 qi_X1_run qs_X1_run qc_X1 qd_X1_run qh_X1_run (by omega) (fun _ => Nat.le_of_ble_eq_true rfl) (Nat.le_of_ble_eq_true rfl) (fun v14 μ15 => ?_)
    exact s_iret hC hr hlk dX1_runBody_173
  · refine s_aload_n hC 1 dX1_runBody_174 rfl ?_
    refine s_aload_n hC 2 dX1_runBody_175 rfl ?_
    refine s_iload_n hC 4 dX1_runBody_176 rfl ?_
    refine s_iconst hC dX1_runBody_177 (v := 2) (by decide) ?_
    refine s_iload hC 5 dX1_runBody_178 rfl ?_
    refine s_iload hC 6 dX1_runBody_180 rfl ?_
    refine s_callV hC (x := v0) (avs := [vR v1, vI v3, vI (2 : Int32), vI v4, vI v5]) (st := []) (nest := false) xc1 (hz.1 v0 v1 v3 (2 : Int32) v4 v5 μ) dX1_runBody_182 qm_X1_28 qi_X1_run qs_X1_run qc_X1 qd_X1_run qh_X1_run (by omega) (fun _ => Nat.le_of_ble_eq_true rfl) (Nat.le_of_ble_eq_true rfl) (fun v16 μ17 => ?_)
    refine s_aload_n hC 1 dX1_runBody_185 rfl ?_
    refine s_aload_n hC 2 dX1_runBody_186 rfl ?_
    refine s_iload hC 0 dX1_runBody_187 rfl ?_
    refine s_iconst hC dX1_runBody_189 (v := 1) (by decide) ?_
    refine s_iconst hC dX1_runBody_190 (v := 1) (by decide) ?_
    refine s_iload hC 6 dX1_runBody_191 rfl ?_
    refine s_callV hC (x := v0) (avs := [vR v1, vI v7, vI (1 : Int32), vI (1 : Int32), vI v5]) (st := [vI v16]) (nest := false) xc1 (hz.1 v0 v1 v7 (1 : Int32) (1 : Int32) v5 μ17) dX1_runBody_193 qm_X1_28 qi_X1_run qs_X1_run qc_X1 qd_X1_run qh_X1_run (by omega) (fun _ => Nat.le_of_ble_eq_true rfl) (Nat.le_of_ble_eq_true rfl) (fun v18 μ19 => ?_)
    refine s_iadd hC dX1_runBody_196 ?_
    exact s_iret hC hr hlk dX1_runBody_197
  · refine s_aload_n hC 1 dX1_runBody_198 rfl ?_
    refine s_aload_n hC 2 dX1_runBody_199 rfl ?_
    refine s_iload_n hC 4 dX1_runBody_200 rfl ?_
    refine s_iconst hC dX1_runBody_201 (v := 0) (by decide) ?_
    refine s_iload hC 5 dX1_runBody_202 rfl ?_
    refine s_iload hC 6 dX1_runBody_204 rfl ?_
    refine s_callV hC (x := v0) (avs := [vR v1, vI v3, vI (0 : Int32), vI v4, vI v5]) (st := []) (nest := false) xc1 (hz.1 v0 v1 v3 (0 : Int32) v4 v5 μ) dX1_runBody_206 qm_X1_28 qi_X1_run qs_X1_run qc_X1 qd_X1_run qh_X1_run (by omega) (fun _ => Nat.le_of_ble_eq_true rfl) (Nat.le_of_ble_eq_true rfl) (fun v20 μ21 => ?_)
    refine s_ineg hC dX1_runBody_209 ?_
    exact s_iret hC hr hlk dX1_runBody_210
  · refine s_aload_n hC 1 dX1_runBody_211 rfl ?_
    refine s_aload_n hC 2 dX1_runBody_212 rfl ?_
    refine s_iload_n hC 4 dX1_runBody_213 rfl ?_
    refine s_iconst hC dX1_runBody_214 (v := 1) (by decide) ?_
    refine s_iload hC 5 dX1_runBody_215 rfl ?_
    refine s_iconst hC dX1_runBody_217 (v := 1) (by decide) ?_
    refine s_iadd hC dX1_runBody_218 ?_
    refine s_iload hC 6 dX1_runBody_219 rfl ?_
    refine s_callV hC (x := v0) (avs := [vR v1, vI v3, vI (1 : Int32), vI (v4 + (1 : Int32)), vI v5]) (st := []) (nest := false) xc1 (hz.1 v0 v1 v3 (1 : Int32) (v4 + (1 : Int32)) v5 μ) dX1_runBody_221 qm_X1_28 qi_X1_run qs_X1_run qc_X1 qd_X1_run qh_X1_run (by omega) (fun _ => Nat.le_of_ble_eq_true rfl) (Nat.le_of_ble_eq_true rfl) (fun v22 μ23 => ?_)
    exact s_iret hC hr hlk dX1_runBody_224
  · refine s_aload_n hC 1 dX1_runBody_225 rfl ?_
    refine s_aload_n hC 2 dX1_runBody_226 rfl ?_
    refine s_iload_n hC 4 dX1_runBody_227 rfl ?_
    refine s_iconst hC dX1_runBody_228 (v := 2) (by decide) ?_
    refine s_iload hC 5 dX1_runBody_229 rfl ?_
    refine s_aload_n hC 2 dX1_runBody_231 rfl ?_
    refine s_getI hC xc0 (by decide) rfl qf_X1_50 dX1_runBody_232 ?_
    refine s_isub hC dX1_runBody_235 ?_
    refine s_iload hC 6 dX1_runBody_236 rfl ?_
    refine s_callV hC (x := v0) (avs := [vR v1, vI v3, vI (2 : Int32), vI (v4 - (μ.1 v1 0)), vI v5]) (st := []) (nest := false) xc1 (hz.1 v0 v1 v3 (2 : Int32) (v4 - (μ.1 v1 0)) v5 μ) dX1_runBody_238 qm_X1_28 qi_X1_run qs_X1_run qc_X1 qd_X1_run qh_X1_run (by omega) (fun _ => Nat.le_of_ble_eq_true rfl) (Nat.le_of_ble_eq_true rfl) (fun v24 μ25 => ?_)
    exact s_iret hC hr hlk dX1_runBody_241
  · refine s_aload_n hC 1 dX1_runBody_242 rfl ?_
    refine s_aload_n hC 2 dX1_runBody_243 rfl ?_
    refine s_iload_n hC 4 dX1_runBody_244 rfl ?_
    refine s_iconst hC dX1_runBody_245 (v := 1) (by decide) ?_
    refine s_iload hC 5 dX1_runBody_246 rfl ?_
    refine s_iload hC 6 dX1_runBody_248 rfl ?_
    refine s_callV hC (x := v0) (avs := [vR v1, vI v3, vI (1 : Int32), vI v4, vI v5]) (st := []) (nest := false) xc1 (hz.1 v0 v1 v3 (1 : Int32) v4 v5 μ) dX1_runBody_250 qm_X1_28 qi_X1_run qs_X1_run qc_X1 qd_X1_run qh_X1_run (by omega) (fun _ => Nat.le_of_ble_eq_true rfl) (Nat.le_of_ble_eq_true rfl) (fun v26 μ27 => ?_)
    refine s_aload_n hC 1 dX1_runBody_253 rfl ?_
    refine s_aload_n hC 2 dX1_runBody_254 rfl ?_
    refine s_iload_n hC 4 dX1_runBody_255 rfl ?_
    refine s_iconst hC dX1_runBody_256 (v := 0) (by decide) ?_
    refine s_iconst hC dX1_runBody_257 (v := 2) (by decide) ?_
    refine s_iload hC 6 dX1_runBody_258 rfl ?_
    refine s_callV hC (x := v0) (avs := [vR v1, vI v3, vI (0 : Int32), vI (2 : Int32), vI v5]) (st := [vI v26]) (nest := false) xc1 (hz.1 v0 v1 v3 (0 : Int32) (2 : Int32) v5 μ27) dX1_runBody_260 qm_X1_28 qi_X1_run qs_X1_run qc_X1 qd_X1_run qh_X1_run (by omega) (fun _ => Nat.le_of_ble_eq_true rfl) (Nat.le_of_ble_eq_true rfl) (fun v28 μ29 => ?_)
    refine s_iadd hC dX1_runBody_263 ?_
    exact s_iret hC hr hlk dX1_runBody_264
  · refine s_aload_n hC 1 dX1_runBody_265 rfl ?_
    refine s_aload_n hC 2 dX1_runBody_266 rfl ?_
    refine s_iload_n hC 4 dX1_runBody_267 rfl ?_
    refine s_iconst hC dX1_runBody_268 (v := 0) (by decide) ?_
    refine s_iload hC 5 dX1_runBody_269 rfl ?_
    refine s_iload hC 6 dX1_runBody_271 rfl ?_
    refine s_callV hC (x := v0) (avs := [vR v1, vI v3, vI (0 : Int32), vI v4, vI v5]) (st := []) (nest := false) xc1 (hz.1 v0 v1 v3 (0 : Int32) v4 v5 μ) dX1_runBody_273 qm_X1_28 qi_X1_run qs_X1_run qc_X1 qd_X1_run qh_X1_run (by omega) (fun _ => Nat.le_of_ble_eq_true rfl) (Nat.le_of_ble_eq_true rfl) (fun v30 μ31 => ?_)
    refine s_aload_n hC 2 dX1_runBody_276 rfl ?_
    refine s_getI hC xc0 (by decide) rfl qf_X1_53 dX1_runBody_277 ?_
    refine s_ixor hC dX1_runBody_280 ?_
    exact s_iret hC hr hlk dX1_runBody_281
  refine s_iconst hC dX1_runBody_282 (v := 0) (by decide) ?_
  exact s_iret hC hr hlk dX1_runBody_283
end G_X1_run
def z_X1_run (X : x_X) : Nat → Nat → Nat → Nat → Int32 → Int32 → Int32 → Int32 → x_M → Option (Int32 × x_M)
  | 0, _, _, _, _, _, _, _, _ => none
  | d + 1, w, v0, v1, v2, v3, v4, v5, μ => if w = 0 then f_X1_run_B X (z_X1_run X d) v0 v1 v2 v3 v4 v5 μ else if w = 1 then f_X1_runBody_B X (z_X1_run X d) v0 v1 v2 v3 v4 v5 μ else none
set_option maxRecDepth 100000 in
theorem mz_X1_run (hI : x_I X) : ∀ d : Nat, (∀ (v0 : Nat) (v1 : Nat) (v2 : Int32) (v3 : Int32) (v4 : Int32) (v5 : Int32) (μ : x_M), x_Met X x_Z0 l yX1_run cX1_run 8 (some .int) (2 + d) [vR v0, vR v1, vI v2, vI v3, vI v4, vI v5] μ rkI (z_X1_run X d 0 v0 v1 v2 v3 v4 v5 μ)) ∧ (∀ (v0 : Nat) (v1 : Nat) (v2 : Int32) (v3 : Int32) (v4 : Int32) (v5 : Int32) (μ : x_M), x_Met X x_Z0 l yX1_runBody cX1_runBody 7 (some .int) (2 + d) [vR v0, vR v1, vI v2, vI v3, vI v4, vI v5] μ rkI (z_X1_run X d 1 v0 v1 v2 v3 v4 v5 μ)) := by
  intro d
  induction d with
  | zero => exact ⟨(fun v0 v1 v2 v3 v4 v5 μ r μ2 h => by cases h), (fun v0 v1 v2 v3 v4 v5 μ r μ2 h => by cases h)⟩
  | succ d ih => exact ⟨(fun v0 v1 v2 v3 v4 v5 μ => b_X1_run_B hI (Nat.le_add_right _ _) ih v0 v1 v2 v3 v4 v5 μ), (fun v0 v1 v2 v3 v4 v5 μ => b_X1_runBody_B hI (Nat.le_add_right _ _) ih v0 v1 v2 v3 v4 v5 μ)⟩
def f_X1_run (X : x_X) (v0 : Nat) (v1 : Nat) (v2 : Int32) (v3 : Int32) (v4 : Int32) (v5 : Int32) (μ : x_M) : Option (Int32 × x_M) := z_X1_run X 20 0 v0 v1 v2 v3 v4 v5 μ
theorem m_X1_run (hI : x_I X) (v0 : Nat) (v1 : Nat) (v2 : Int32) (v3 : Int32) (v4 : Int32) (v5 : Int32) (μ : x_M) : x_Met X x_Z0 l yX1_run cX1_run 8 (some .int) 22 [vR v0, vR v1, vI v2, vI v3, vI v4, vI v5] μ rkI (f_X1_run X v0 v1 v2 v3 v4 v5 μ) := (mz_X1_run hI 20).1 v0 v1 v2 v3 v4 v5 μ
def f_X1_runBody (X : x_X) (v0 : Nat) (v1 : Nat) (v2 : Int32) (v3 : Int32) (v4 : Int32) (v5 : Int32) (μ : x_M) : Option (Int32 × x_M) := z_X1_run X 20 1 v0 v1 v2 v3 v4 v5 μ
theorem m_X1_runBody (hI : x_I X) (v0 : Nat) (v1 : Nat) (v2 : Int32) (v3 : Int32) (v4 : Int32) (v5 : Int32) (μ : x_M) : x_Met X x_Z0 l yX1_runBody cX1_runBody 7 (some .int) 22 [vR v0, vR v1, vI v2, vI v3, vI v4, vI v5] μ rkI (f_X1_runBody X v0 v1 v2 v3 v4 v5 μ) := (mz_X1_run hI 20).2 v0 v1 v2 v3 v4 v5 μ
theorem dX1_perform_0 : decode cX1_perform 0 = .ok (.aload_n 0, 1) := by decide +kernel
theorem dX1_perform_1 : decode cX1_perform 1 = .ok (.iconst 0, 1) := by decide +kernel
theorem dX1_perform_2 : decode cX1_perform 2 = .ok (.putfield 15, 3) := by decide +kernel
theorem dX1_perform_5 : decode cX1_perform 5 = .ok (.aload_n 1, 1) := by decide +kernel
theorem dX1_perform_6 : decode cX1_perform 6 = .ok (.ifnull 12, 3) := by decide +kernel
theorem dX1_perform_9 : decode cX1_perform 9 = .ok (.iload_n 2, 1) := by decide +kernel
theorem dX1_perform_10 : decode cX1_perform 10 = .ok (.iconst 0, 1) := by decide +kernel
theorem dX1_perform_11 : decode cX1_perform 11 = .ok (.iconst 2, 1) := by decide +kernel
theorem dX1_perform_12 : decode cX1_perform 12 = .ok (.invokestatic 19, 3) := by decide +kernel
theorem dX1_perform_15 : decode cX1_perform 15 = .ok (.ifCond .ne 7, 3) := by decide +kernel
theorem dX1_perform_18 : decode cX1_perform 18 = .ok (.iconst 0, 1) := by decide +kernel
theorem dX1_perform_19 : decode cX1_perform 19 = .ok (.goto 15, 3) := by decide +kernel
theorem dX1_perform_22 : decode cX1_perform 22 = .ok (.aload_n 0, 1) := by decide +kernel
theorem dX1_perform_23 : decode cX1_perform 23 = .ok (.aload_n 1, 1) := by decide +kernel
theorem dX1_perform_24 : decode cX1_perform 24 = .ok (.aload_n 1, 1) := by decide +kernel
theorem dX1_perform_25 : decode cX1_perform 25 = .ok (.getfield 23, 3) := by decide +kernel
theorem dX1_perform_28 : decode cX1_perform 28 = .ok (.iload_n 2, 1) := by decide +kernel
theorem dX1_perform_29 : decode cX1_perform 29 = .ok (.iload_n 3, 1) := by decide +kernel
theorem dX1_perform_30 : decode cX1_perform 30 = .ok (.iconst 0, 1) := by decide +kernel
theorem dX1_perform_31 : decode cX1_perform 31 = .ok (.invokevirtual 28, 3) := by decide +kernel
theorem dX1_perform_34 : decode cX1_perform 34 = .ok (.ireturn, 1) := by decide +kernel
def f_X1_perform (X : x_X) (v0 : Nat) (v1 : Nat) (v2 : Int32) (v3 : Int32) (μ : x_M) : Option (Int32 × x_M) :=
  (ck (x_kd X v0 = 1 + 1) (lt (x_sI μ v0 1 (0 : Int32)) (fun (μ5 : x_M) => (if v1 = 0 then (some ((0 : Int32), μ5)) else (bd (f_X9_within X v2 (0 : Int32) (2 : Int32) μ5) (fun (v6 : Int32) (μ7 : x_M) => (if v6 = 0 then (some ((0 : Int32), μ7)) else (ck (x_kd X v1 = 0 + 1) (ck (x_kd X v0 = 1 + 1) (bd (f_X1_run X v0 v1 (μ7.1 v1 3) v2 v3 (0 : Int32) μ7) (fun (v8 : Int32) (μ9 : x_M) => (some (v8, μ9)))))))))))))
set_option maxRecDepth 100000 in
theorem m_X1_perform (hI : x_I X) (v0 : Nat) (v1 : Nat) (v2 : Int32) (v3 : Int32) (μ : x_M) : x_Met X x_Z0 l yX1_perform cX1_perform 4 (some .int) 23 [vR v0, vR v1, vI v2, vI v3] μ rkI (f_X1_perform X v0 v1 v2 v3 μ) := by
  refine x_enter hI (by decide +kernel) (Nat.le_of_ble_eq_true rfl) (fun p e s m args below meth c hC hr hlk => ?_)
  unfold f_X1_perform
  refine s_lv (lv' := [(0, vR v0), (1, vR v1), (2, vI v2), (3, vI v3)]) [0, 1, 2, 3] rfl ?_
  refine s_aload_n hC 0 dX1_perform_0 rfl ?_
  refine s_iconst hC dX1_perform_1 (v := 0) (by decide) ?_
  refine s_putI hC xc1 (by decide) rfl rfl qf_X1_15 dX1_perform_2 ?_
  refine s_ltM (fun μ5 => ?_)
  refine s_aload_n hC 1 dX1_perform_5 rfl ?_
  refine s_ifnull hC dX1_perform_6 (tgt := 18) (by decide) ?_ ?_
  · refine s_iconst hC dX1_perform_18 (v := 0) (by decide) ?_
    refine s_goto hC dX1_perform_19 (tgt := 34) (by decide) ?_
    exact s_iret hC hr hlk dX1_perform_34
  refine s_iload_n hC 2 dX1_perform_9 rfl ?_
  refine s_iconst hC dX1_perform_10 (v := 0) (by decide) ?_
  refine s_iconst hC dX1_perform_11 (v := 2) (by decide) ?_
  refine s_callS hC (avs := [vI v2, vI (0 : Int32), vI (2 : Int32)]) (st := []) (nest := true) (m_X9_within hI v2 (0 : Int32) (2 : Int32) μ5) dX1_perform_12 qm_X1_19 qt_X9_within qc_X9 qd_X9_within qh_X9_within (by decide) (fun _ => Nat.le_of_ble_eq_true rfl) (Nat.le_of_ble_eq_true rfl) (fun v6 μ7 => ?_)
  refine s_if_ne hC dX1_perform_15 (tgt := 22) (by decide) ?_ ?_
  · refine s_aload_n hC 0 dX1_perform_22 rfl ?_
    refine s_aload_n hC 1 dX1_perform_23 rfl ?_
    refine s_aload_n hC 1 dX1_perform_24 rfl ?_
    refine s_getI hC xc0 (by decide) rfl qf_X1_23 dX1_perform_25 ?_
    refine s_iload_n hC 2 dX1_perform_28 rfl ?_
    refine s_iload_n hC 3 dX1_perform_29 rfl ?_
    refine s_iconst hC dX1_perform_30 (v := 0) (by decide) ?_
    refine s_callV hC (x := v0) (avs := [vR v1, vI (μ7.1 v1 3), vI v2, vI v3, vI (0 : Int32)]) (st := []) (nest := false) xc1 (m_X1_run hI v0 v1 (μ7.1 v1 3) v2 v3 (0 : Int32) μ7) dX1_perform_31 qm_X1_28 qi_X1_run qs_X1_run qc_X1 qd_X1_run qh_X1_run (by decide) (fun _ => Nat.le_of_ble_eq_true rfl) (Nat.le_of_ble_eq_true rfl) (fun v8 μ9 => ?_)
    exact s_iret hC hr hlk dX1_perform_34
  refine s_iconst hC dX1_perform_18 (v := 0) (by decide) ?_
  refine s_goto hC dX1_perform_19 (tgt := 34) (by decide) ?_
  exact s_iret hC hr hlk dX1_perform_34
theorem dX4_clear_0 : decode cX4_clear 0 = .ok (.aload_n 0, 1) := by decide +kernel
theorem dX4_clear_1 : decode cX4_clear 1 = .ok (.iconst 0, 1) := by decide +kernel
theorem dX4_clear_2 : decode cX4_clear 2 = .ok (.putfield 30, 3) := by decide +kernel
theorem dX4_clear_5 : decode cX4_clear 5 = .ok (.aload_n 0, 1) := by decide +kernel
theorem dX4_clear_6 : decode cX4_clear 6 = .ok (.iconst 0, 1) := by decide +kernel
theorem dX4_clear_7 : decode cX4_clear 7 = .ok (.putfield 34, 3) := by decide +kernel
theorem dX4_clear_10 : decode cX4_clear 10 = .ok (.aload_n 0, 1) := by decide +kernel
theorem dX4_clear_11 : decode cX4_clear 11 = .ok (.bipush 50, 2) := by decide +kernel
theorem dX4_clear_13 : decode cX4_clear 13 = .ok (.putfield 37, 3) := by decide +kernel
theorem dX4_clear_16 : decode cX4_clear 16 = .ok (.aload_n 0, 1) := by decide +kernel
theorem dX4_clear_17 : decode cX4_clear 17 = .ok (.iconst 5, 1) := by decide +kernel
theorem dX4_clear_18 : decode cX4_clear 18 = .ok (.putfield 40, 3) := by decide +kernel
theorem dX4_clear_21 : decode cX4_clear 21 = .ok (.aload_n 0, 1) := by decide +kernel
theorem dX4_clear_22 : decode cX4_clear 22 = .ok (.iconst 0, 1) := by decide +kernel
theorem dX4_clear_23 : decode cX4_clear 23 = .ok (.putfield 43, 3) := by decide +kernel
theorem dX4_clear_26 : decode cX4_clear 26 = .ok (.return_, 1) := by decide +kernel
def f_X4_clear (X : x_X) (v0 : Nat) (μ : x_M) : Option (Unit × x_M) :=
  (ck (x_kd X v0 = 4 + 1) (lt (x_sI μ v0 5 (0 : Int32)) (fun (μ2 : x_M) => (ck (x_kd X v0 = 4 + 1) (lt (x_sI μ2 v0 6 (0 : Int32)) (fun (μ3 : x_M) => (ck (x_kd X v0 = 4 + 1) (lt (x_sI μ3 v0 7 (50 : Int32)) (fun (μ4 : x_M) => (ck (x_kd X v0 = 4 + 1) (lt (x_sI μ4 v0 8 (5 : Int32)) (fun (μ5 : x_M) => (ck (x_kd X v0 = 4 + 1) (lt (x_sI μ5 v0 9 (0 : Int32)) (fun (μ6 : x_M) => (some ((), μ6)))))))))))))))))
set_option maxRecDepth 100000 in
theorem m_X4_clear (hI : x_I X) (v0 : Nat) (μ : x_M) : x_Met X x_Z0 l yX4_clear cX4_clear 1 none 1 [vR v0] μ rkV (f_X4_clear X v0 μ) := by
  refine x_enter hI (by decide +kernel) (Nat.le_of_ble_eq_true rfl) (fun p e s m args below meth c hC hr hlk => ?_)
  unfold f_X4_clear
  refine s_lv (lv' := [(0, vR v0)]) [0] rfl ?_
  refine s_aload_n hC 0 dX4_clear_0 rfl ?_
  refine s_iconst hC dX4_clear_1 (v := 0) (by decide) ?_
  refine s_putI hC xc4 (by decide) rfl rfl qf_X4_30 dX4_clear_2 ?_
  refine s_ltM (fun μ2 => ?_)
  refine s_aload_n hC 0 dX4_clear_5 rfl ?_
  refine s_iconst hC dX4_clear_6 (v := 0) (by decide) ?_
  refine s_putI hC xc4 (by decide) rfl rfl qf_X4_34 dX4_clear_7 ?_
  refine s_ltM (fun μ3 => ?_)
  refine s_aload_n hC 0 dX4_clear_10 rfl ?_
  refine s_bipush hC dX4_clear_11 (v := 50) (by decide) ?_
  refine s_putI hC xc4 (by decide) rfl rfl qf_X4_37 dX4_clear_13 ?_
  refine s_ltM (fun μ4 => ?_)
  refine s_aload_n hC 0 dX4_clear_16 rfl ?_
  refine s_iconst hC dX4_clear_17 (v := 5) (by decide) ?_
  refine s_putI hC xc4 (by decide) rfl rfl qf_X4_40 dX4_clear_18 ?_
  refine s_ltM (fun μ5 => ?_)
  refine s_aload_n hC 0 dX4_clear_21 rfl ?_
  refine s_iconst hC dX4_clear_22 (v := 0) (by decide) ?_
  refine s_putI hC xc4 (by decide) rfl rfl qf_X4_43 dX4_clear_23 ?_
  refine s_ltM (fun μ6 => ?_)
  exact s_vret hC hr hlk dX4_clear_26
theorem dX4_tellValues_0 : decode cX4_tellValues 0 = .ok (.aload_n 1, 1) := by decide +kernel
theorem dX4_tellValues_1 : decode cX4_tellValues 1 = .ok (.ifnonnull 7, 3) := by decide +kernel
theorem dX4_tellValues_4 : decode cX4_tellValues 4 = .ok (.iconst 1, 1) := by decide +kernel
theorem dX4_tellValues_5 : decode cX4_tellValues 5 = .ok (.goto 4, 3) := by decide +kernel
theorem dX4_tellValues_8 : decode cX4_tellValues 8 = .ok (.iconst 0, 1) := by decide +kernel
theorem dX4_tellValues_9 : decode cX4_tellValues 9 = .ok (.istore 4, 2) := by decide +kernel
theorem dX4_tellValues_11 : decode cX4_tellValues 11 = .ok (.aload_n 0, 1) := by decide +kernel
theorem dX4_tellValues_12 : decode cX4_tellValues 12 = .ok (.getfield 24, 3) := by decide +kernel
theorem dX4_tellValues_15 : decode cX4_tellValues 15 = .ok (.iconst 0, 1) := by decide +kernel
theorem dX4_tellValues_16 : decode cX4_tellValues 16 = .ok (.iload_n 3, 1) := by decide +kernel
theorem dX4_tellValues_17 : decode cX4_tellValues 17 = .ok (.bipush 10, 2) := by decide +kernel
theorem dX4_tellValues_19 : decode cX4_tellValues 19 = .ok (.irem, 1) := by decide +kernel
theorem dX4_tellValues_20 : decode cX4_tellValues 20 = .ok (.iastore, 1) := by decide +kernel
theorem dX4_tellValues_21 : decode cX4_tellValues 21 = .ok (.aload_n 0, 1) := by decide +kernel
theorem dX4_tellValues_22 : decode cX4_tellValues 22 = .ok (.getfield 24, 3) := by decide +kernel
theorem dX4_tellValues_25 : decode cX4_tellValues 25 = .ok (.iconst 1, 1) := by decide +kernel
theorem dX4_tellValues_26 : decode cX4_tellValues 26 = .ok (.iload_n 3, 1) := by decide +kernel
theorem dX4_tellValues_27 : decode cX4_tellValues 27 = .ok (.bipush 10, 2) := by decide +kernel
theorem dX4_tellValues_29 : decode cX4_tellValues 29 = .ok (.idiv, 1) := by decide +kernel
theorem dX4_tellValues_30 : decode cX4_tellValues 30 = .ok (.bipush 99, 2) := by decide +kernel
theorem dX4_tellValues_32 : decode cX4_tellValues 32 = .ok (.invokestatic 46, 3) := by decide +kernel
theorem dX4_tellValues_35 : decode cX4_tellValues 35 = .ok (.iastore, 1) := by decide +kernel
theorem dX4_tellValues_36 : decode cX4_tellValues 36 = .ok (.aload_n 0, 1) := by decide +kernel
theorem dX4_tellValues_37 : decode cX4_tellValues 37 = .ok (.getfield 24, 3) := by decide +kernel
theorem dX4_tellValues_40 : decode cX4_tellValues 40 = .ok (.iconst 2, 1) := by decide +kernel
theorem dX4_tellValues_41 : decode cX4_tellValues 41 = .ok (.iload_n 2, 1) := by decide +kernel
theorem dX4_tellValues_42 : decode cX4_tellValues 42 = .ok (.iastore, 1) := by decide +kernel
theorem dX4_tellValues_43 : decode cX4_tellValues 43 = .ok (.aload_n 0, 1) := by decide +kernel
theorem dX4_tellValues_44 : decode cX4_tellValues 44 = .ok (.getfield 24, 3) := by decide +kernel
theorem dX4_tellValues_47 : decode cX4_tellValues 47 = .ok (.iconst 3, 1) := by decide +kernel
theorem dX4_tellValues_48 : decode cX4_tellValues 48 = .ok (.iload 4, 2) := by decide +kernel
theorem dX4_tellValues_50 : decode cX4_tellValues 50 = .ok (.ifCond .eq 8, 3) := by decide +kernel
theorem dX4_tellValues_53 : decode cX4_tellValues 53 = .ok (.bipush 9, 2) := by decide +kernel
theorem dX4_tellValues_55 : decode cX4_tellValues 55 = .ok (.goto 7, 3) := by decide +kernel
theorem dX4_tellValues_58 : decode cX4_tellValues 58 = .ok (.aload_n 1, 1) := by decide +kernel
theorem dX4_tellValues_59 : decode cX4_tellValues 59 = .ok (.getfield 64, 3) := by decide +kernel
theorem dX4_tellValues_62 : decode cX4_tellValues 62 = .ok (.iastore, 1) := by decide +kernel
theorem dX4_tellValues_63 : decode cX4_tellValues 63 = .ok (.aload_n 0, 1) := by decide +kernel
theorem dX4_tellValues_64 : decode cX4_tellValues 64 = .ok (.getfield 24, 3) := by decide +kernel
theorem dX4_tellValues_67 : decode cX4_tellValues 67 = .ok (.iconst 4, 1) := by decide +kernel
theorem dX4_tellValues_68 : decode cX4_tellValues 68 = .ok (.iload 4, 2) := by decide +kernel
theorem dX4_tellValues_70 : decode cX4_tellValues 70 = .ok (.ifCond .eq 8, 3) := by decide +kernel
theorem dX4_tellValues_73 : decode cX4_tellValues 73 = .ok (.bipush 9, 2) := by decide +kernel
theorem dX4_tellValues_75 : decode cX4_tellValues 75 = .ok (.goto 7, 3) := by decide +kernel
theorem dX4_tellValues_78 : decode cX4_tellValues 78 = .ok (.aload_n 1, 1) := by decide +kernel
theorem dX4_tellValues_79 : decode cX4_tellValues 79 = .ok (.getfield 69, 3) := by decide +kernel
theorem dX4_tellValues_82 : decode cX4_tellValues 82 = .ok (.iastore, 1) := by decide +kernel
theorem dX4_tellValues_83 : decode cX4_tellValues 83 = .ok (.aload_n 0, 1) := by decide +kernel
theorem dX4_tellValues_84 : decode cX4_tellValues 84 = .ok (.getfield 24, 3) := by decide +kernel
theorem dX4_tellValues_87 : decode cX4_tellValues 87 = .ok (.iconst 5, 1) := by decide +kernel
theorem dX4_tellValues_88 : decode cX4_tellValues 88 = .ok (.iload 4, 2) := by decide +kernel
theorem dX4_tellValues_90 : decode cX4_tellValues 90 = .ok (.ifCond .eq 8, 3) := by decide +kernel
theorem dX4_tellValues_93 : decode cX4_tellValues 93 = .ok (.bipush 9, 2) := by decide +kernel
theorem dX4_tellValues_95 : decode cX4_tellValues 95 = .ok (.goto 10, 3) := by decide +kernel
theorem dX4_tellValues_98 : decode cX4_tellValues 98 = .ok (.aload_n 1, 1) := by decide +kernel
theorem dX4_tellValues_99 : decode cX4_tellValues 99 = .ok (.getfield 72, 3) := by decide +kernel
theorem dX4_tellValues_102 : decode cX4_tellValues 102 = .ok (.bipush 10, 2) := by decide +kernel
theorem dX4_tellValues_104 : decode cX4_tellValues 104 = .ok (.idiv, 1) := by decide +kernel
theorem dX4_tellValues_105 : decode cX4_tellValues 105 = .ok (.iastore, 1) := by decide +kernel
theorem dX4_tellValues_106 : decode cX4_tellValues 106 = .ok (.return_, 1) := by decide +kernel
def f_X4_tellValues_J82 (X : x_X) (v28 : Nat) (v29 : Nat) (v30 : Int32) (v31 : Int32) (v32 : Int32) (v33 : Nat) (μ34 : x_M) : Option (Unit × x_M) :=
  (ck (x_kd X v33 = 20 ∧ x_ix v32 (x_ln X v33)) (lt (x_sI μ34 v33 (v32).toNatClampNeg v31) (fun (μ35 : x_M) => (ck (x_kd X v28 = 4 + 1) (lt (μ35.2.1 v28 4) (fun (v36 : Nat) => (if v30 = 0 then (ck (x_kd X v29 = 0 + 1) (ck (¬ (10 : Int32) = 0) (ck (x_kd X v36 = 20 ∧ x_ix (5 : Int32) (x_ln X v36)) (lt (x_sI μ35 v36 ((5 : Int32)).toNatClampNeg ((μ35.1 v29 5) / (10 : Int32))) (fun (μ37 : x_M) => (some ((), μ37))))))) else (ck (x_kd X v36 = 20 ∧ x_ix (5 : Int32) (x_ln X v36)) (lt (x_sI μ35 v36 ((5 : Int32)).toNatClampNeg (9 : Int32)) (fun (μ38 : x_M) => (some ((), μ38))))))))))))
set_option maxRecDepth 100000 in
theorem j_X4_tellValues_J82 (hI : x_I X) (hC : x_C X x_Z0 p (x_rm 1) s m c cX4_tellValues RX4 5 0 0 1) (hr : meth.sig.returnType = none) (hlk : meth.locks = false) (v28 : Nat) (v29 : Nat) (v30 : Int32) (v31 : Int32) (v32 : Int32) (v33 : Nat) (μ34 : x_M) : SM X 5 1 rkV p l e s m args below meth c 82 [(0, vR v28), (1, vR v29), (4, vI v30)] [vI v31, vI v32, vR v33] μ34 (f_X4_tellValues_J82 X v28 v29 v30 v31 v32 v33 μ34) := by
  unfold f_X4_tellValues_J82
  refine s_iast hC dX4_tellValues_82 ?_
  refine s_ltM (fun μ35 => ?_)
  refine s_aload_n hC 0 dX4_tellValues_83 rfl ?_
  refine s_getR hC xc4 (by decide) rfl qf_X4_24 dX4_tellValues_84 ?_
  refine s_ltR (fun v36 => ?_)
  refine s_iconst hC dX4_tellValues_87 (v := 5) (by decide) ?_
  refine s_iload hC 2 dX4_tellValues_88 rfl ?_
  refine s_if_eq hC dX4_tellValues_90 (tgt := 98) (by decide) ?_ ?_
  · refine s_aload_n hC 1 dX4_tellValues_98 rfl ?_
    refine s_getI hC xc0 (by decide) rfl qf_X4_72 dX4_tellValues_99 ?_
    refine s_bipush hC dX4_tellValues_102 (v := 10) (by decide) ?_
    refine s_idiv hC dX4_tellValues_104 ?_
    refine s_iast hC dX4_tellValues_105 ?_
    refine s_ltM (fun μ37 => ?_)
    exact s_vret hC hr hlk dX4_tellValues_106
  refine s_bipush hC dX4_tellValues_93 (v := 9) (by decide) ?_
  refine s_goto hC dX4_tellValues_95 (tgt := 105) (by decide) ?_
  refine s_iast hC dX4_tellValues_105 ?_
  refine s_ltM (fun μ38 => ?_)
  exact s_vret hC hr hlk dX4_tellValues_106
def f_X4_tellValues_J62 (X : x_X) (v19 : Nat) (v20 : Nat) (v21 : Int32) (v22 : Int32) (v23 : Int32) (v24 : Nat) (μ25 : x_M) : Option (Unit × x_M) :=
  (ck (x_kd X v24 = 20 ∧ x_ix v23 (x_ln X v24)) (lt (x_sI μ25 v24 (v23).toNatClampNeg v22) (fun (μ26 : x_M) => (ck (x_kd X v19 = 4 + 1) (lt (μ26.2.1 v19 4) (fun (v27 : Nat) => (if v21 = 0 then (ck (x_kd X v20 = 0 + 1) (f_X4_tellValues_J82 X v19 v20 v21 (μ26.1 v20 3) (4 : Int32) v27 μ26)) else (f_X4_tellValues_J82 X v19 v20 v21 (9 : Int32) (4 : Int32) v27 μ26))))))))
set_option maxRecDepth 100000 in
theorem j_X4_tellValues_J62 (hI : x_I X) (hC : x_C X x_Z0 p (x_rm 1) s m c cX4_tellValues RX4 5 0 0 1) (hr : meth.sig.returnType = none) (hlk : meth.locks = false) (v19 : Nat) (v20 : Nat) (v21 : Int32) (v22 : Int32) (v23 : Int32) (v24 : Nat) (μ25 : x_M) : SM X 5 1 rkV p l e s m args below meth c 62 [(0, vR v19), (1, vR v20), (4, vI v21)] [vI v22, vI v23, vR v24] μ25 (f_X4_tellValues_J62 X v19 v20 v21 v22 v23 v24 μ25) := by
  unfold f_X4_tellValues_J62
  refine s_iast hC dX4_tellValues_62 ?_
  refine s_ltM (fun μ26 => ?_)
  refine s_aload_n hC 0 dX4_tellValues_63 rfl ?_
  refine s_getR hC xc4 (by decide) rfl qf_X4_24 dX4_tellValues_64 ?_
  refine s_ltR (fun v27 => ?_)
  refine s_iconst hC dX4_tellValues_67 (v := 4) (by decide) ?_
  refine s_iload hC 2 dX4_tellValues_68 rfl ?_
  refine s_if_eq hC dX4_tellValues_70 (tgt := 78) (by decide) ?_ ?_
  · refine s_aload_n hC 1 dX4_tellValues_78 rfl ?_
    refine s_getI hC xc0 (by decide) rfl qf_X4_69 dX4_tellValues_79 ?_
    exact j_X4_tellValues_J82 hI hC hr hlk _ _ _ _ _ _ _
  refine s_bipush hC dX4_tellValues_73 (v := 9) (by decide) ?_
  refine s_goto hC dX4_tellValues_75 (tgt := 82) (by decide) ?_
  exact j_X4_tellValues_J82 hI hC hr hlk _ _ _ _ _ _ _
def f_X4_tellValues_J9 (X : x_X) (v5 : Nat) (v6 : Nat) (v7 : Int32) (v8 : Int32) (v9 : Int32) (μ10 : x_M) : Option (Unit × x_M) :=
  (ck (x_kd X v5 = 4 + 1) (lt (μ10.2.1 v5 4) (fun (v11 : Nat) => (ck (¬ (10 : Int32) = 0) (ck (x_kd X v11 = 20 ∧ x_ix (0 : Int32) (x_ln X v11)) (lt (x_sI μ10 v11 ((0 : Int32)).toNatClampNeg (v8 - v8 / (10 : Int32) * (10 : Int32))) (fun (μ12 : x_M) => (ck (x_kd X v5 = 4 + 1) (lt (μ12.2.1 v5 4) (fun (v13 : Nat) => (ck (¬ (10 : Int32) = 0) (lt (v8 / (10 : Int32)) (fun (v14 : Int32) => (ck (x_kd X v13 = 20 ∧ x_ix (1 : Int32) (x_ln X v13)) (lt (x_sI μ12 v13 ((1 : Int32)).toNatClampNeg (if (99 : Int32) < v14 then (99 : Int32) else v14)) (fun (μ15 : x_M) => (ck (x_kd X v5 = 4 + 1) (lt (μ15.2.1 v5 4) (fun (v16 : Nat) => (ck (x_kd X v16 = 20 ∧ x_ix (2 : Int32) (x_ln X v16)) (lt (x_sI μ15 v16 ((2 : Int32)).toNatClampNeg v7) (fun (μ17 : x_M) => (ck (x_kd X v5 = 4 + 1) (lt (μ17.2.1 v5 4) (fun (v18 : Nat) => (if v9 = 0 then (ck (x_kd X v6 = 0 + 1) (f_X4_tellValues_J62 X v5 v6 v9 (μ17.1 v6 0) (3 : Int32) v18 μ17)) else (f_X4_tellValues_J62 X v5 v6 v9 (9 : Int32) (3 : Int32) v18 μ17)))))))))))))))))))))))))))
set_option maxRecDepth 100000 in
theorem j_X4_tellValues_J9 (hI : x_I X) (hC : x_C X x_Z0 p (x_rm 1) s m c cX4_tellValues RX4 5 0 0 1) (hr : meth.sig.returnType = none) (hlk : meth.locks = false) (v5 : Nat) (v6 : Nat) (v7 : Int32) (v8 : Int32) (v9 : Int32) (μ10 : x_M) : SM X 5 1 rkV p l e s m args below meth c 9 [(0, vR v5), (1, vR v6), (2, vI v7), (3, vI v8)] [vI v9] μ10 (f_X4_tellValues_J9 X v5 v6 v7 v8 v9 μ10) := by
  unfold f_X4_tellValues_J9
  refine s_istore hC dX4_tellValues_9 (by decide) (lv' := [(4, vI v9), (0, vR v5), (1, vR v6), (2, vI v7), (3, vI v8)]) rfl ?_
  refine s_aload_n hC 1 dX4_tellValues_11 rfl ?_
  refine s_getR hC xc4 (by decide) rfl qf_X4_24 dX4_tellValues_12 ?_
  refine s_ltR (fun v11 => ?_)
  refine s_iconst hC dX4_tellValues_15 (v := 0) (by decide) ?_
  refine s_iload_n hC 4 dX4_tellValues_16 rfl ?_
  refine s_bipush hC dX4_tellValues_17 (v := 10) (by decide) ?_
  refine s_irem hC dX4_tellValues_19 ?_
  refine s_iast hC dX4_tellValues_20 ?_
  refine s_ltM (fun μ12 => ?_)
  refine s_aload_n hC 1 dX4_tellValues_21 rfl ?_
  refine s_getR hC xc4 (by decide) rfl qf_X4_24 dX4_tellValues_22 ?_
  refine s_ltR (fun v13 => ?_)
  refine s_iconst hC dX4_tellValues_25 (v := 1) (by decide) ?_
  refine s_iload_n hC 4 dX4_tellValues_26 rfl ?_
  refine s_bipush hC dX4_tellValues_27 (v := 10) (by decide) ?_
  refine s_idiv hC dX4_tellValues_29 ?_
  refine s_bipush hC dX4_tellValues_30 (v := 99) (by decide) ?_
  refine s_ltI2 (fun v14 => ?_)
  refine s_min hC dX4_tellValues_32 qm_X4_46 qt_Math_min qc_Math qd_Math_min (by decide) (Nat.le_of_ble_eq_true rfl) ?_
  refine s_iast hC dX4_tellValues_35 ?_
  refine s_ltM (fun μ15 => ?_)
  refine s_aload_n hC 1 dX4_tellValues_36 rfl ?_
  refine s_getR hC xc4 (by decide) rfl qf_X4_24 dX4_tellValues_37 ?_
  refine s_ltR (fun v16 => ?_)
  refine s_iconst hC dX4_tellValues_40 (v := 2) (by decide) ?_
  refine s_iload_n hC 3 dX4_tellValues_41 rfl ?_
  refine s_iast hC dX4_tellValues_42 ?_
  refine s_ltM (fun μ17 => ?_)
  refine s_aload_n hC 1 dX4_tellValues_43 rfl ?_
  refine s_getR hC xc4 (by decide) rfl qf_X4_24 dX4_tellValues_44 ?_
  refine s_ltR (fun v18 => ?_)
  refine s_iconst hC dX4_tellValues_47 (v := 3) (by decide) ?_
  refine s_iload hC 0 dX4_tellValues_48 rfl ?_
  refine s_if_eq hC dX4_tellValues_50 (tgt := 58) (by decide) ?_ ?_
  · refine s_aload_n hC 2 dX4_tellValues_58 rfl ?_
    refine s_getI hC xc0 (by decide) rfl qf_X4_64 dX4_tellValues_59 ?_
    refine s_lv (lv' := [(0, vR v5), (1, vR v6), (4, vI v9)]) [1, 2, 0] rfl ?_
    exact j_X4_tellValues_J62 hI hC hr hlk _ _ _ _ _ _ _
  refine s_bipush hC dX4_tellValues_53 (v := 9) (by decide) ?_
  refine s_goto hC dX4_tellValues_55 (tgt := 62) (by decide) ?_
  refine s_lv (lv' := [(0, vR v5), (1, vR v6), (4, vI v9)]) [1, 2, 0] rfl ?_
  exact j_X4_tellValues_J62 hI hC hr hlk _ _ _ _ _ _ _
def f_X4_tellValues (X : x_X) (v0 : Nat) (v1 : Nat) (v2 : Int32) (v3 : Int32) (μ : x_M) : Option (Unit × x_M) :=
  (if v1 = 0 then (f_X4_tellValues_J9 X v0 v1 v2 v3 (1 : Int32) μ) else (f_X4_tellValues_J9 X v0 v1 v2 v3 (0 : Int32) μ))
set_option maxRecDepth 100000 in
theorem m_X4_tellValues (hI : x_I X) (v0 : Nat) (v1 : Nat) (v2 : Int32) (v3 : Int32) (μ : x_M) : x_Met X x_Z0 l yX4_tellValues cX4_tellValues 5 none 1 [vR v0, vR v1, vI v2, vI v3] μ rkV (f_X4_tellValues X v0 v1 v2 v3 μ) := by
  refine x_enter hI (by decide +kernel) (Nat.le_of_ble_eq_true rfl) (fun p e s m args below meth c hC hr hlk => ?_)
  unfold f_X4_tellValues
  refine s_lv (lv' := [(0, vR v0), (1, vR v1), (2, vI v2), (3, vI v3)]) [0, 1, 2, 3] rfl ?_
  refine s_aload_n hC 1 dX4_tellValues_0 rfl ?_
  refine s_ifnonnull hC dX4_tellValues_1 (tgt := 8) (by decide) ?_ ?_
  · refine s_iconst hC dX4_tellValues_8 (v := 0) (by decide) ?_
    exact j_X4_tellValues_J9 hI hC hr hlk _ _ _ _ _ _
  refine s_iconst hC dX4_tellValues_4 (v := 1) (by decide) ?_
  refine s_goto hC dX4_tellValues_5 (tgt := 9) (by decide) ?_
  exact j_X4_tellValues_J9 hI hC hr hlk _ _ _ _ _ _
theorem dX4_tell_0 : decode cX4_tell 0 = .ok (.iload_n 1, 1) := by decide +kernel
theorem dX4_tell_1 : decode cX4_tell 1 = .ok (.tableswitch 61 2 4 #[27, 40, 53], 27) := by decide +kernel
theorem dX4_tell_28 : decode cX4_tell 28 = .ok (.aload_n 0, 1) := by decide +kernel
theorem dX4_tell_29 : decode cX4_tell 29 = .ok (.iload_n 2, 1) := by decide +kernel
theorem dX4_tell_30 : decode cX4_tell 30 = .ok (.bipush 60, 2) := by decide +kernel
theorem dX4_tell_32 : decode cX4_tell 32 = .ok (.invokestatic 46, 3) := by decide +kernel
theorem dX4_tell_35 : decode cX4_tell 35 = .ok (.putfield 37, 3) := by decide +kernel
theorem dX4_tell_38 : decode cX4_tell 38 = .ok (.goto 24, 3) := by decide +kernel
theorem dX4_tell_41 : decode cX4_tell 41 = .ok (.aload_n 0, 1) := by decide +kernel
theorem dX4_tell_42 : decode cX4_tell 42 = .ok (.iload_n 2, 1) := by decide +kernel
theorem dX4_tell_43 : decode cX4_tell 43 = .ok (.bipush 60, 2) := by decide +kernel
theorem dX4_tell_45 : decode cX4_tell 45 = .ok (.invokestatic 46, 3) := by decide +kernel
theorem dX4_tell_48 : decode cX4_tell 48 = .ok (.putfield 40, 3) := by decide +kernel
theorem dX4_tell_51 : decode cX4_tell 51 = .ok (.goto 11, 3) := by decide +kernel
theorem dX4_tell_54 : decode cX4_tell 54 = .ok (.aload_n 0, 1) := by decide +kernel
theorem dX4_tell_55 : decode cX4_tell 55 = .ok (.iload_n 2, 1) := by decide +kernel
theorem dX4_tell_56 : decode cX4_tell 56 = .ok (.putfield 43, 3) := by decide +kernel
theorem dX4_tell_59 : decode cX4_tell 59 = .ok (.goto 3, 3) := by decide +kernel
theorem dX4_tell_62 : decode cX4_tell 62 = .ok (.return_, 1) := by decide +kernel
def f_X4_tell (X : x_X) (v0 : Nat) (v1 : Int32) (v2 : Int32) (μ : x_M) : Option (Unit × x_M) :=
  (x_swo [(2 : Int32), (3 : Int32), (4 : Int32)] [(ck (x_kd X v0 = 4 + 1) (lt (x_sI μ v0 7 (if (60 : Int32) < v2 then (60 : Int32) else v2)) (fun (μ4 : x_M) => (some ((), μ4))))), (ck (x_kd X v0 = 4 + 1) (lt (x_sI μ v0 8 (if (60 : Int32) < v2 then (60 : Int32) else v2)) (fun (μ5 : x_M) => (some ((), μ5))))), (ck (x_kd X v0 = 4 + 1) (lt (x_sI μ v0 9 v2) (fun (μ6 : x_M) => (some ((), μ6)))))] (some ((), μ)) v1)
set_option maxRecDepth 100000 in
theorem m_X4_tell (hI : x_I X) (v0 : Nat) (v1 : Int32) (v2 : Int32) (μ : x_M) : x_Met X x_Z0 l yX4_tell cX4_tell 3 none 1 [vR v0, vI v1, vI v2] μ rkV (f_X4_tell X v0 v1 v2 μ) := by
  refine x_enter hI (by decide +kernel) (Nat.le_of_ble_eq_true rfl) (fun p e s m args below meth c hC hr hlk => ?_)
  unfold f_X4_tell
  refine s_lv (lv' := [(0, vR v0), (1, vI v1), (2, vI v2)]) [0, 1, 2] rfl ?_
  refine s_iload_n hC 1 dX4_tell_0 rfl ?_
  refine s_table hC dX4_tell_1 [((2 : Int32), 28), ((3 : Int32), 41), ((4 : Int32), 54)] 62 (by decide +kernel) ⟨?_, ?_, ?_, trivial⟩ ?_
  · refine s_aload_n hC 0 dX4_tell_28 rfl ?_
    refine s_iload_n hC 2 dX4_tell_29 rfl ?_
    refine s_bipush hC dX4_tell_30 (v := 60) (by decide) ?_
    refine s_min hC dX4_tell_32 qm_X4_46 qt_Math_min qc_Math qd_Math_min (by decide) (Nat.le_of_ble_eq_true rfl) ?_
    refine s_putI hC xc4 (by decide) rfl rfl qf_X4_37 dX4_tell_35 ?_
    refine s_ltM (fun μ4 => ?_)
    refine s_goto hC dX4_tell_38 (tgt := 62) (by decide) ?_
    exact s_vret hC hr hlk dX4_tell_62
  · refine s_aload_n hC 0 dX4_tell_41 rfl ?_
    refine s_iload_n hC 2 dX4_tell_42 rfl ?_
    refine s_bipush hC dX4_tell_43 (v := 60) (by decide) ?_
    refine s_min hC dX4_tell_45 qm_X4_46 qt_Math_min qc_Math qd_Math_min (by decide) (Nat.le_of_ble_eq_true rfl) ?_
    refine s_putI hC xc4 (by decide) rfl rfl qf_X4_40 dX4_tell_48 ?_
    refine s_ltM (fun μ5 => ?_)
    refine s_goto hC dX4_tell_51 (tgt := 62) (by decide) ?_
    exact s_vret hC hr hlk dX4_tell_62
  · refine s_aload_n hC 0 dX4_tell_54 rfl ?_
    refine s_iload_n hC 2 dX4_tell_55 rfl ?_
    refine s_putI hC xc4 (by decide) rfl rfl qf_X4_43 dX4_tell_56 ?_
    refine s_ltM (fun μ6 => ?_)
    refine s_goto hC dX4_tell_59 (tgt := 62) (by decide) ?_
    exact s_vret hC hr hlk dX4_tell_62
  exact s_vret hC hr hlk dX4_tell_62
theorem dX4_holds_0 : decode cX4_holds 0 = .ok (.lconst 0, 1) := by decide +kernel
theorem dX4_holds_1 : decode cX4_holds 1 = .ok (.lstore_n 3, 1) := by decide +kernel
theorem dX4_holds_2 : decode cX4_holds 2 = .ok (.iload_n 1, 1) := by decide +kernel
theorem dX4_holds_3 : decode cX4_holds 3 = .ok (.iconst 0, 1) := by decide +kernel
theorem dX4_holds_4 : decode cX4_holds 4 = .ok (.invokestatic 75, 3) := by decide +kernel
theorem dX4_holds_7 : decode cX4_holds 7 = .ok (.istore 5, 2) := by decide +kernel
theorem dX4_holds_9 : decode cX4_holds 9 = .ok (.iload 5, 2) := by decide +kernel
theorem dX4_holds_11 : decode cX4_holds 11 = .ok (.iload_n 2, 1) := by decide +kernel
theorem dX4_holds_12 : decode cX4_holds 12 = .ok (.if_icmp .ge 178, 3) := by decide +kernel
theorem dX4_holds_15 : decode cX4_holds 15 = .ok (.iload 5, 2) := by decide +kernel
theorem dX4_holds_17 : decode cX4_holds 17 = .ok (.bipush 100, 2) := by decide +kernel
theorem dX4_holds_19 : decode cX4_holds 19 = .ok (.if_icmp .ge 171, 3) := by decide +kernel
theorem dX4_holds_22 : decode cX4_holds 22 = .ok (.aload_n 0, 1) := by decide +kernel
theorem dX4_holds_23 : decode cX4_holds 23 = .ok (.getfield 21, 3) := by decide +kernel
theorem dX4_holds_26 : decode cX4_holds 26 = .ok (.iload 5, 2) := by decide +kernel
theorem dX4_holds_28 : decode cX4_holds 28 = .ok (.iaload, 1) := by decide +kernel
theorem dX4_holds_29 : decode cX4_holds 29 = .ok (.istore 6, 2) := by decide +kernel
theorem dX4_holds_31 : decode cX4_holds 31 = .ok (.iload 6, 2) := by decide +kernel
theorem dX4_holds_33 : decode cX4_holds 33 = .ok (.iconst (-1), 1) := by decide +kernel
theorem dX4_holds_34 : decode cX4_holds 34 = .ok (.if_icmp .ne 10, 3) := by decide +kernel
theorem dX4_holds_37 : decode cX4_holds 37 = .ok (.lload_n 3, 1) := by decide +kernel
theorem dX4_holds_38 : decode cX4_holds 38 = .ok (.lconst 1, 1) := by decide +kernel
theorem dX4_holds_39 : decode cX4_holds 39 = .ok (.lxor, 1) := by decide +kernel
theorem dX4_holds_40 : decode cX4_holds 40 = .ok (.lstore_n 3, 1) := by decide +kernel
theorem dX4_holds_41 : decode cX4_holds 41 = .ok (.goto 143, 3) := by decide +kernel
theorem dX4_holds_44 : decode cX4_holds 44 = .ok (.iload 6, 2) := by decide +kernel
theorem dX4_holds_46 : decode cX4_holds 46 = .ok (.bipush (-2), 2) := by decide +kernel
theorem dX4_holds_48 : decode cX4_holds 48 = .ok (.if_icmp .ne 16, 3) := by decide +kernel
theorem dX4_holds_51 : decode cX4_holds 51 = .ok (.lload_n 3, 1) := by decide +kernel
theorem dX4_holds_52 : decode cX4_holds 52 = .ok (.iconst 1, 1) := by decide +kernel
theorem dX4_holds_53 : decode cX4_holds 53 = .ok (.lushr, 1) := by decide +kernel
theorem dX4_holds_54 : decode cX4_holds 54 = .ok (.lload_n 3, 1) := by decide +kernel
theorem dX4_holds_55 : decode cX4_holds 55 = .ok (.ldc2_w 78, 3) := by decide +kernel
theorem dX4_holds_58 : decode cX4_holds 58 = .ok (.lor, 1) := by decide +kernel
theorem dX4_holds_59 : decode cX4_holds 59 = .ok (.land, 1) := by decide +kernel
theorem dX4_holds_60 : decode cX4_holds 60 = .ok (.lstore_n 3, 1) := by decide +kernel
theorem dX4_holds_61 : decode cX4_holds 61 = .ok (.goto 123, 3) := by decide +kernel
theorem dX4_holds_64 : decode cX4_holds 64 = .ok (.iload 6, 2) := by decide +kernel
theorem dX4_holds_66 : decode cX4_holds 66 = .ok (.bipush (-3), 2) := by decide +kernel
theorem dX4_holds_68 : decode cX4_holds 68 = .ok (.if_icmp .ne 14, 3) := by decide +kernel
theorem dX4_holds_71 : decode cX4_holds 71 = .ok (.lload_n 3, 1) := by decide +kernel
theorem dX4_holds_72 : decode cX4_holds 72 = .ok (.iconst 1, 1) := by decide +kernel
theorem dX4_holds_73 : decode cX4_holds 73 = .ok (.lushr, 1) := by decide +kernel
theorem dX4_holds_74 : decode cX4_holds 74 = .ok (.lload_n 3, 1) := by decide +kernel
theorem dX4_holds_75 : decode cX4_holds 75 = .ok (.lconst 1, 1) := by decide +kernel
theorem dX4_holds_76 : decode cX4_holds 76 = .ok (.land, 1) := by decide +kernel
theorem dX4_holds_77 : decode cX4_holds 77 = .ok (.lor, 1) := by decide +kernel
theorem dX4_holds_78 : decode cX4_holds 78 = .ok (.lstore_n 3, 1) := by decide +kernel
theorem dX4_holds_79 : decode cX4_holds 79 = .ok (.goto 105, 3) := by decide +kernel
theorem dX4_holds_82 : decode cX4_holds 82 = .ok (.aload_n 0, 1) := by decide +kernel
theorem dX4_holds_83 : decode cX4_holds 83 = .ok (.getfield 24, 3) := by decide +kernel
theorem dX4_holds_86 : decode cX4_holds 86 = .ok (.iload 6, 2) := by decide +kernel
theorem dX4_holds_88 : decode cX4_holds 88 = .ok (.sipush 300, 3) := by decide +kernel
theorem dX4_holds_91 : decode cX4_holds 91 = .ok (.idiv, 1) := by decide +kernel
theorem dX4_holds_92 : decode cX4_holds 92 = .ok (.invokestatic 80, 3) := by decide +kernel
theorem dX4_holds_95 : decode cX4_holds 95 = .ok (.istore 7, 2) := by decide +kernel
theorem dX4_holds_97 : decode cX4_holds 97 = .ok (.iload 6, 2) := by decide +kernel
theorem dX4_holds_99 : decode cX4_holds 99 = .ok (.bipush 100, 2) := by decide +kernel
theorem dX4_holds_101 : decode cX4_holds 101 = .ok (.irem, 1) := by decide +kernel
theorem dX4_holds_102 : decode cX4_holds 102 = .ok (.istore 8, 2) := by decide +kernel
theorem dX4_holds_104 : decode cX4_holds 104 = .ok (.iload 6, 2) := by decide +kernel
theorem dX4_holds_106 : decode cX4_holds 106 = .ok (.bipush 100, 2) := by decide +kernel
theorem dX4_holds_108 : decode cX4_holds 108 = .ok (.idiv, 1) := by decide +kernel
theorem dX4_holds_109 : decode cX4_holds 109 = .ok (.iconst 3, 1) := by decide +kernel
theorem dX4_holds_110 : decode cX4_holds 110 = .ok (.irem, 1) := by decide +kernel
theorem dX4_holds_111 : decode cX4_holds 111 = .ok (.istore 9, 2) := by decide +kernel
theorem dX4_holds_113 : decode cX4_holds 113 = .ok (.iload 9, 2) := by decide +kernel
theorem dX4_holds_115 : decode cX4_holds 115 = .ok (.ifCond .ne 18, 3) := by decide +kernel
theorem dX4_holds_118 : decode cX4_holds 118 = .ok (.iload 7, 2) := by decide +kernel
theorem dX4_holds_120 : decode cX4_holds 120 = .ok (.iload 8, 2) := by decide +kernel
theorem dX4_holds_122 : decode cX4_holds 122 = .ok (.if_icmp .ge 7, 3) := by decide +kernel
theorem dX4_holds_125 : decode cX4_holds 125 = .ok (.iconst 1, 1) := by decide +kernel
theorem dX4_holds_126 : decode cX4_holds 126 = .ok (.goto 40, 3) := by decide +kernel
theorem dX4_holds_129 : decode cX4_holds 129 = .ok (.iconst 0, 1) := by decide +kernel
theorem dX4_holds_130 : decode cX4_holds 130 = .ok (.goto 36, 3) := by decide +kernel
theorem dX4_holds_133 : decode cX4_holds 133 = .ok (.iload 9, 2) := by decide +kernel
theorem dX4_holds_135 : decode cX4_holds 135 = .ok (.iconst 1, 1) := by decide +kernel
theorem dX4_holds_136 : decode cX4_holds 136 = .ok (.if_icmp .ne 18, 3) := by decide +kernel
theorem dX4_holds_139 : decode cX4_holds 139 = .ok (.iload 7, 2) := by decide +kernel
theorem dX4_holds_141 : decode cX4_holds 141 = .ok (.iload 8, 2) := by decide +kernel
theorem dX4_holds_143 : decode cX4_holds 143 = .ok (.if_icmp .ne 7, 3) := by decide +kernel
theorem dX4_holds_146 : decode cX4_holds 146 = .ok (.iconst 1, 1) := by decide +kernel
theorem dX4_holds_147 : decode cX4_holds 147 = .ok (.goto 19, 3) := by decide +kernel
theorem dX4_holds_150 : decode cX4_holds 150 = .ok (.iconst 0, 1) := by decide +kernel
theorem dX4_holds_151 : decode cX4_holds 151 = .ok (.goto 15, 3) := by decide +kernel
theorem dX4_holds_154 : decode cX4_holds 154 = .ok (.iload 7, 2) := by decide +kernel
theorem dX4_holds_156 : decode cX4_holds 156 = .ok (.iload 8, 2) := by decide +kernel
theorem dX4_holds_158 : decode cX4_holds 158 = .ok (.if_icmp .le 7, 3) := by decide +kernel
theorem dX4_holds_161 : decode cX4_holds 161 = .ok (.iconst 1, 1) := by decide +kernel
theorem dX4_holds_162 : decode cX4_holds 162 = .ok (.goto 4, 3) := by decide +kernel
theorem dX4_holds_165 : decode cX4_holds 165 = .ok (.iconst 0, 1) := by decide +kernel
theorem dX4_holds_166 : decode cX4_holds 166 = .ok (.istore 10, 2) := by decide +kernel
theorem dX4_holds_168 : decode cX4_holds 168 = .ok (.lload_n 3, 1) := by decide +kernel
theorem dX4_holds_169 : decode cX4_holds 169 = .ok (.iconst 1, 1) := by decide +kernel
theorem dX4_holds_170 : decode cX4_holds 170 = .ok (.lshl, 1) := by decide +kernel
theorem dX4_holds_171 : decode cX4_holds 171 = .ok (.iload 10, 2) := by decide +kernel
theorem dX4_holds_173 : decode cX4_holds 173 = .ok (.ifCond .eq 7, 3) := by decide +kernel
theorem dX4_holds_176 : decode cX4_holds 176 = .ok (.iconst 1, 1) := by decide +kernel
theorem dX4_holds_177 : decode cX4_holds 177 = .ok (.goto 4, 3) := by decide +kernel
theorem dX4_holds_180 : decode cX4_holds 180 = .ok (.iconst 0, 1) := by decide +kernel
theorem dX4_holds_181 : decode cX4_holds 181 = .ok (.i2l, 1) := by decide +kernel
theorem dX4_holds_182 : decode cX4_holds 182 = .ok (.lor, 1) := by decide +kernel
theorem dX4_holds_183 : decode cX4_holds 183 = .ok (.lstore_n 3, 1) := by decide +kernel
theorem dX4_holds_184 : decode cX4_holds 184 = .ok (.iinc 5 1, 3) := by decide +kernel
theorem dX4_holds_187 : decode cX4_holds 187 = .ok (.goto (-178), 3) := by decide +kernel
theorem dX4_holds_190 : decode cX4_holds 190 = .ok (.lload_n 3, 1) := by decide +kernel
theorem dX4_holds_191 : decode cX4_holds 191 = .ok (.lconst 1, 1) := by decide +kernel
theorem dX4_holds_192 : decode cX4_holds 192 = .ok (.land, 1) := by decide +kernel
theorem dX4_holds_193 : decode cX4_holds 193 = .ok (.lconst 1, 1) := by decide +kernel
theorem dX4_holds_194 : decode cX4_holds 194 = .ok (.lcmp, 1) := by decide +kernel
theorem dX4_holds_195 : decode cX4_holds 195 = .ok (.ifCond .ne 7, 3) := by decide +kernel
theorem dX4_holds_198 : decode cX4_holds 198 = .ok (.iconst 1, 1) := by decide +kernel
theorem dX4_holds_199 : decode cX4_holds 199 = .ok (.goto 4, 3) := by decide +kernel
theorem dX4_holds_202 : decode cX4_holds 202 = .ok (.iconst 0, 1) := by decide +kernel
theorem dX4_holds_203 : decode cX4_holds 203 = .ok (.ireturn, 1) := by decide +kernel
def f_X4_holds_J166 (X : x_X) (k9 : Nat → Int32 → Int64 → Int32 → x_M → Option (Int32 × x_M)) (v18 : Nat) (v19 : Int32) (v20 : Int64) (v21 : Int32) (v22 : Int32) (μ23 : x_M) : Option (Int32 × x_M) :=
  (if v22 = 0 then (lt ((v20 <<< (((1 : Int32)).toInt64 &&& 63)) ||| (((0 : Int32)).toInt64)) (fun (v24 : Int64) => (k9 v18 v19 v24 (v21 + (1 : Int32)) μ23))) else (lt ((v20 <<< (((1 : Int32)).toInt64 &&& 63)) ||| (((1 : Int32)).toInt64)) (fun (v25 : Int64) => (k9 v18 v19 v25 (v21 + (1 : Int32)) μ23))))
set_option maxRecDepth 100000 in
theorem j_X4_holds_J166 (hI : x_I X) (hC : x_C X x_Z0 p (x_rm 2) s m c cX4_holds RX4 11 0 0 2) (hr : meth.sig.returnType = (some .boolean)) (hlk : meth.locks = false) {k9 : Nat → Int32 → Int64 → Int32 → x_M → Option (Int32 × x_M)} (hk9 : ∀ (b0 : Nat) (b2 : Int32) (b3 : Int64) (b5 : Int32) (μ : x_M), SM X 11 2 rkI p l e s m args below meth c 9 [(0, vR b0), (2, vI b2), (3, vJ b3), (5, vI b5)] [] μ (k9 b0 b2 b3 b5 μ)) (v18 : Nat) (v19 : Int32) (v20 : Int64) (v21 : Int32) (v22 : Int32) (μ23 : x_M) : SM X 11 2 rkI p l e s m args below meth c 166 [(0, vR v18), (2, vI v19), (3, vJ v20), (5, vI v21)] [vI v22] μ23 (f_X4_holds_J166 X k9 v18 v19 v20 v21 v22 μ23) := by
  unfold f_X4_holds_J166
  refine s_istore hC dX4_holds_166 (by decide) (lv' := [(10, vI v22), (0, vR v18), (2, vI v19), (3, vJ v20), (5, vI v21)]) rfl ?_
  refine s_lload_n hC 3 dX4_holds_168 rfl ?_
  refine s_iconst hC dX4_holds_169 (v := 1) (by decide) ?_
  refine s_lshl hC dX4_holds_170 ?_
  refine s_iload hC 0 dX4_holds_171 rfl ?_
  refine s_if_eq hC dX4_holds_173 (tgt := 180) (by decide) ?_ ?_
  · refine s_iconst hC dX4_holds_180 (v := 0) (by decide) ?_
    refine s_i2l hC dX4_holds_181 ?_
    refine s_lor hC dX4_holds_182 ?_
    refine s_ltJ (fun v24 => ?_)
    refine s_lstore_n hC dX4_holds_183 (by decide) (lv' := [(3, vJ v24), (10, vI v22), (0, vR v18), (2, vI v19), (5, vI v21)]) rfl ?_
    refine s_iinc hC 4 dX4_holds_184 rfl (w := 1) (by decide) (by decide) (lv' := [(5, vI (v21 + (1 : Int32))), (3, vJ v24), (10, vI v22), (0, vR v18), (2, vI v19)]) rfl ?_
    refine s_goto hC dX4_holds_187 (tgt := 9) (by decide) ?_
    refine s_lv (lv' := [(0, vR v18), (2, vI v19), (3, vJ v24), (5, vI (v21 + (1 : Int32)))]) [3, 4, 1, 0] rfl ?_
    exact hk9 _ _ _ _ _
  refine s_iconst hC dX4_holds_176 (v := 1) (by decide) ?_
  refine s_goto hC dX4_holds_177 (tgt := 181) (by decide) ?_
  refine s_i2l hC dX4_holds_181 ?_
  refine s_lor hC dX4_holds_182 ?_
  refine s_ltJ (fun v25 => ?_)
  refine s_lstore_n hC dX4_holds_183 (by decide) (lv' := [(3, vJ v25), (10, vI v22), (0, vR v18), (2, vI v19), (5, vI v21)]) rfl ?_
  refine s_iinc hC 4 dX4_holds_184 rfl (w := 1) (by decide) (by decide) (lv' := [(5, vI (v21 + (1 : Int32))), (3, vJ v25), (10, vI v22), (0, vR v18), (2, vI v19)]) rfl ?_
  refine s_goto hC dX4_holds_187 (tgt := 9) (by decide) ?_
  refine s_lv (lv' := [(0, vR v18), (2, vI v19), (3, vJ v25), (5, vI (v21 + (1 : Int32)))]) [3, 4, 1, 0] rfl ?_
  exact hk9 _ _ _ _ _
def f_X4_holds_L9 (X : x_X) (k190 : Int64 → x_M → Option (Int32 × x_M)) : Nat → Nat → Int32 → Int64 → Int32 → x_M → Option (Int32 × x_M)
  | 0, _, _, _, _, _ => none
  | n + 1, v5, v6, v7, v8, μ9 =>
    (if v6 ≤ v8 then (k190 v7 μ9) else (if (100 : Int32) ≤ v8 then (k190 v7 μ9) else (ck (x_kd X v5 = 4 + 1) (lt (μ9.2.1 v5 3) (fun (v10 : Nat) => (ck ((x_kd X v10 = 20 ∨ x_kd X v10 = 40) ∧ x_ix v8 (x_ln X v10)) (lt (μ9.1 v10 (v8).toNatClampNeg) (fun (v11 : Int32) => (if v11 = (-1 : Int32) then (lt (v7 ^^^ (1 : Int64)) (fun (v28 : Int64) => (f_X4_holds_L9 X k190 n v5 v6 v28 (v8 + (1 : Int32)) μ9))) else (if v11 = (-2 : Int32) then (lt (((v7).toUInt64 >>> (((1 : Int32)).toInt64.toUInt64 &&& Int64.toUInt64 63)).toInt64 &&& (v7 ||| (-2 : Int64))) (fun (v27 : Int64) => (f_X4_holds_L9 X k190 n v5 v6 v27 (v8 + (1 : Int32)) μ9))) else (if v11 = (-3 : Int32) then (lt (((v7).toUInt64 >>> (((1 : Int32)).toInt64.toUInt64 &&& Int64.toUInt64 63)).toInt64 ||| (v7 &&& (1 : Int64))) (fun (v26 : Int64) => (f_X4_holds_L9 X k190 n v5 v6 v26 (v8 + (1 : Int32)) μ9))) else (ck (x_kd X v5 = 4 + 1) (lt (μ9.2.1 v5 4) (fun (v12 : Nat) => (ck (¬ (300 : Int32) = 0) (bd (f_X9_at X v12 (v11 / (300 : Int32)) μ9) (fun (v13 : Int32) (μ14 : x_M) => (ck (¬ (100 : Int32) = 0) (lt (v11 - v11 / (100 : Int32) * (100 : Int32)) (fun (v15 : Int32) => (ck (¬ (100 : Int32) = 0) (lt (v11 / (100 : Int32)) (fun (v16 : Int32) => (ck (¬ (3 : Int32) = 0) (lt (v16 - v16 / (3 : Int32) * (3 : Int32)) (fun (v17 : Int32) => (if v17 = 0 then (if v15 ≤ v13 then (f_X4_holds_J166 X (f_X4_holds_L9 X k190 n) v5 v6 v7 v8 (0 : Int32) μ14) else (f_X4_holds_J166 X (f_X4_holds_L9 X k190 n) v5 v6 v7 v8 (1 : Int32) μ14)) else (if v17 = (1 : Int32) then (if v13 = v15 then (f_X4_holds_J166 X (f_X4_holds_L9 X k190 n) v5 v6 v7 v8 (1 : Int32) μ14) else (f_X4_holds_J166 X (f_X4_holds_L9 X k190 n) v5 v6 v7 v8 (0 : Int32) μ14)) else (if v13 ≤ v15 then (f_X4_holds_J166 X (f_X4_holds_L9 X k190 n) v5 v6 v7 v8 (0 : Int32) μ14) else (f_X4_holds_J166 X (f_X4_holds_L9 X k190 n) v5 v6 v7 v8 (1 : Int32) μ14))))))))))))))))))))))))))))))
set_option maxRecDepth 100000 in
theorem j_X4_holds_L9 (hI : x_I X) (hC : x_C X x_Z0 p (x_rm 2) s m c cX4_holds RX4 11 0 0 2) (hr : meth.sig.returnType = (some .boolean)) (hlk : meth.locks = false) {k190 : Int64 → x_M → Option (Int32 × x_M)} (hk190 : ∀ (b3 : Int64) (μ : x_M), SM X 11 2 rkI p l e s m args below meth c 190 [(3, vJ b3)] [] μ (k190 b3 μ)) : ∀ (n : Nat) (v5 : Nat) (v6 : Int32) (v7 : Int64) (v8 : Int32) (μ9 : x_M), SM X 11 2 rkI p l e s m args below meth c 9 [(0, vR v5), (2, vI v6), (3, vJ v7), (5, vI v8)] [] μ9 (f_X4_holds_L9 X k190 n v5 v6 v7 v8 μ9) := by
  intro n
  induction n with
  | zero => intro v5 v6 v7 v8 μ9; exact s_none
  | succ n ih =>
    intro v5 v6 v7 v8 μ9
    unfold f_X4_holds_L9
    refine s_iload hC 3 dX4_holds_9 rfl ?_
    refine s_iload_n hC 1 dX4_holds_11 rfl ?_
    refine s_icmp_ge hC dX4_holds_12 (tgt := 190) (by decide) ?_ ?_
    · refine s_lv (lv' := [(3, vJ v7)]) [2] rfl ?_
      exact hk190 _ _
    refine s_iload hC 3 dX4_holds_15 rfl ?_
    refine s_bipush hC dX4_holds_17 (v := 100) (by decide) ?_
    refine s_icmp_ge hC dX4_holds_19 (tgt := 190) (by decide) ?_ ?_
    · refine s_lv (lv' := [(3, vJ v7)]) [2] rfl ?_
      exact hk190 _ _
    refine s_aload_n hC 0 dX4_holds_22 rfl ?_
    refine s_getR hC xc4 (by decide) rfl qf_X4_21 dX4_holds_23 ?_
    refine s_ltR (fun v10 => ?_)
    refine s_iload hC 3 dX4_holds_26 rfl ?_
    refine s_iald hC dX4_holds_28 ?_
    refine s_ltI (fun v11 => ?_)
    refine s_istore hC dX4_holds_29 (by decide) (lv' := [(6, vI v11), (0, vR v5), (2, vI v6), (3, vJ v7), (5, vI v8)]) rfl ?_
    refine s_iload hC 0 dX4_holds_31 rfl ?_
    refine s_iconst hC dX4_holds_33 (v := -1) (by decide) ?_
    refine s_icmp_ne hC dX4_holds_34 (tgt := 44) (by decide) ?_ ?_
    · refine s_iload hC 0 dX4_holds_44 rfl ?_
      refine s_bipush hC dX4_holds_46 (v := -2) (by decide) ?_
      refine s_icmp_ne hC dX4_holds_48 (tgt := 64) (by decide) ?_ ?_
      · refine s_iload hC 0 dX4_holds_64 rfl ?_
        refine s_bipush hC dX4_holds_66 (v := -3) (by decide) ?_
        refine s_icmp_ne hC dX4_holds_68 (tgt := 82) (by decide) ?_ ?_
        · refine s_aload_n hC 1 dX4_holds_82 rfl ?_
          refine s_getR hC xc4 (by decide) rfl qf_X4_24 dX4_holds_83 ?_
          refine s_ltR (fun v12 => ?_)
          refine s_iload hC 0 dX4_holds_86 rfl ?_
          refine s_sipush hC dX4_holds_88 (v := 300) (by decide) ?_
          refine s_idiv hC dX4_holds_91 ?_
          refine s_callS hC (avs := [vR v12, vI (v11 / (300 : Int32))]) (st := []) (nest := true) (m_X9_at hI v12 (v11 / (300 : Int32)) μ9) dX4_holds_92 qm_X4_80 qt_X9_at qc_X9 qd_X9_at qh_X9_at (by decide) (fun _ => Nat.le_of_ble_eq_true rfl) (Nat.le_of_ble_eq_true rfl) (fun v13 μ14 => ?_)
          refine s_istore hC dX4_holds_95 (by decide) (lv' := [(7, vI v13), (6, vI v11), (0, vR v5), (2, vI v6), (3, vJ v7), (5, vI v8)]) rfl ?_
          refine s_iload hC 1 dX4_holds_97 rfl ?_
          refine s_bipush hC dX4_holds_99 (v := 100) (by decide) ?_
          refine s_irem hC dX4_holds_101 ?_
          refine s_ltI (fun v15 => ?_)
          refine s_istore hC dX4_holds_102 (by decide) (lv' := [(8, vI v15), (7, vI v13), (6, vI v11), (0, vR v5), (2, vI v6), (3, vJ v7), (5, vI v8)]) rfl ?_
          refine s_iload hC 2 dX4_holds_104 rfl ?_
          refine s_bipush hC dX4_holds_106 (v := 100) (by decide) ?_
          refine s_idiv hC dX4_holds_108 ?_
          refine s_iconst hC dX4_holds_109 (v := 3) (by decide) ?_
          refine s_ltI2 (fun v16 => ?_)
          refine s_irem hC dX4_holds_110 ?_
          refine s_ltI (fun v17 => ?_)
          refine s_istore hC dX4_holds_111 (by decide) (lv' := [(9, vI v17), (8, vI v15), (7, vI v13), (6, vI v11), (0, vR v5), (2, vI v6), (3, vJ v7), (5, vI v8)]) rfl ?_
          refine s_iload hC 0 dX4_holds_113 rfl ?_
          refine s_if_ne hC dX4_holds_115 (tgt := 133) (by decide) ?_ ?_
          · refine s_iload hC 0 dX4_holds_133 rfl ?_
            refine s_iconst hC dX4_holds_135 (v := 1) (by decide) ?_
            refine s_icmp_ne hC dX4_holds_136 (tgt := 154) (by decide) ?_ ?_
            · refine s_iload hC 2 dX4_holds_154 rfl ?_
              refine s_iload hC 1 dX4_holds_156 rfl ?_
              refine s_icmp_le hC dX4_holds_158 (tgt := 165) (by decide) ?_ ?_
              · refine s_iconst hC dX4_holds_165 (v := 0) (by decide) ?_
                refine s_lv (lv' := [(0, vR v5), (2, vI v6), (3, vJ v7), (5, vI v8)]) [4, 5, 6, 7] rfl ?_
                exact j_X4_holds_J166 hI hC hr hlk ih _ _ _ _ _ _
              refine s_iconst hC dX4_holds_161 (v := 1) (by decide) ?_
              refine s_goto hC dX4_holds_162 (tgt := 166) (by decide) ?_
              refine s_lv (lv' := [(0, vR v5), (2, vI v6), (3, vJ v7), (5, vI v8)]) [4, 5, 6, 7] rfl ?_
              exact j_X4_holds_J166 hI hC hr hlk ih _ _ _ _ _ _
            refine s_iload hC 2 dX4_holds_139 rfl ?_
            refine s_iload hC 1 dX4_holds_141 rfl ?_
            refine s_icmp_ne hC dX4_holds_143 (tgt := 150) (by decide) ?_ ?_
            · refine s_iconst hC dX4_holds_150 (v := 0) (by decide) ?_
              refine s_goto hC dX4_holds_151 (tgt := 166) (by decide) ?_
              refine s_lv (lv' := [(0, vR v5), (2, vI v6), (3, vJ v7), (5, vI v8)]) [4, 5, 6, 7] rfl ?_
              exact j_X4_holds_J166 hI hC hr hlk ih _ _ _ _ _ _
            refine s_iconst hC dX4_holds_146 (v := 1) (by decide) ?_
            refine s_goto hC dX4_holds_147 (tgt := 166) (by decide) ?_
            refine s_lv (lv' := [(0, vR v5), (2, vI v6), (3, vJ v7), (5, vI v8)]) [4, 5, 6, 7] rfl ?_
            exact j_X4_holds_J166 hI hC hr hlk ih _ _ _ _ _ _
          refine s_iload hC 2 dX4_holds_118 rfl ?_
          refine s_iload hC 1 dX4_holds_120 rfl ?_
          refine s_icmp_ge hC dX4_holds_122 (tgt := 129) (by decide) ?_ ?_
          · refine s_iconst hC dX4_holds_129 (v := 0) (by decide) ?_
            refine s_goto hC dX4_holds_130 (tgt := 166) (by decide) ?_
            refine s_lv (lv' := [(0, vR v5), (2, vI v6), (3, vJ v7), (5, vI v8)]) [4, 5, 6, 7] rfl ?_
            exact j_X4_holds_J166 hI hC hr hlk ih _ _ _ _ _ _
          refine s_iconst hC dX4_holds_125 (v := 1) (by decide) ?_
          refine s_goto hC dX4_holds_126 (tgt := 166) (by decide) ?_
          refine s_lv (lv' := [(0, vR v5), (2, vI v6), (3, vJ v7), (5, vI v8)]) [4, 5, 6, 7] rfl ?_
          exact j_X4_holds_J166 hI hC hr hlk ih _ _ _ _ _ _
        refine s_lload_n hC 3 dX4_holds_71 rfl ?_
        refine s_iconst hC dX4_holds_72 (v := 1) (by decide) ?_
        refine s_lushr hC dX4_holds_73 ?_
        refine s_lload_n hC 3 dX4_holds_74 rfl ?_
        refine s_lconst hC dX4_holds_75 (v := 1) (by decide) ?_
        refine s_land hC dX4_holds_76 ?_
        refine s_lor hC dX4_holds_77 ?_
        refine s_ltJ (fun v26 => ?_)
        refine s_lstore_n hC dX4_holds_78 (by decide) (lv' := [(3, vJ v26), (6, vI v11), (0, vR v5), (2, vI v6), (5, vI v8)]) rfl ?_
        refine s_goto hC dX4_holds_79 (tgt := 184) (by decide) ?_
        refine s_iinc hC 4 dX4_holds_184 rfl (w := 1) (by decide) (by decide) (lv' := [(5, vI (v8 + (1 : Int32))), (3, vJ v26), (6, vI v11), (0, vR v5), (2, vI v6)]) rfl ?_
        refine s_goto hC dX4_holds_187 (tgt := 9) (by decide) ?_
        refine s_lv (lv' := [(0, vR v5), (2, vI v6), (3, vJ v26), (5, vI (v8 + (1 : Int32)))]) [3, 4, 1, 0] rfl ?_
        exact ih _ _ _ _ _
      refine s_lload_n hC 3 dX4_holds_51 rfl ?_
      refine s_iconst hC dX4_holds_52 (v := 1) (by decide) ?_
      refine s_lushr hC dX4_holds_53 ?_
      refine s_lload_n hC 3 dX4_holds_54 rfl ?_
      refine s_ldc2 hC dX4_holds_55 qk_X4_78 ?_
      refine s_lor hC dX4_holds_58 ?_
      refine s_land hC dX4_holds_59 ?_
      refine s_ltJ (fun v27 => ?_)
      refine s_lstore_n hC dX4_holds_60 (by decide) (lv' := [(3, vJ v27), (6, vI v11), (0, vR v5), (2, vI v6), (5, vI v8)]) rfl ?_
      refine s_goto hC dX4_holds_61 (tgt := 184) (by decide) ?_
      refine s_iinc hC 4 dX4_holds_184 rfl (w := 1) (by decide) (by decide) (lv' := [(5, vI (v8 + (1 : Int32))), (3, vJ v27), (6, vI v11), (0, vR v5), (2, vI v6)]) rfl ?_
      refine s_goto hC dX4_holds_187 (tgt := 9) (by decide) ?_
      refine s_lv (lv' := [(0, vR v5), (2, vI v6), (3, vJ v27), (5, vI (v8 + (1 : Int32)))]) [3, 4, 1, 0] rfl ?_
      exact ih _ _ _ _ _
    refine s_lload_n hC 3 dX4_holds_37 rfl ?_
    refine s_lconst hC dX4_holds_38 (v := 1) (by decide) ?_
    refine s_lxor hC dX4_holds_39 ?_
    refine s_ltJ (fun v28 => ?_)
    refine s_lstore_n hC dX4_holds_40 (by decide) (lv' := [(3, vJ v28), (6, vI v11), (0, vR v5), (2, vI v6), (5, vI v8)]) rfl ?_
    refine s_goto hC dX4_holds_41 (tgt := 184) (by decide) ?_
    refine s_iinc hC 4 dX4_holds_184 rfl (w := 1) (by decide) (by decide) (lv' := [(5, vI (v8 + (1 : Int32))), (3, vJ v28), (6, vI v11), (0, vR v5), (2, vI v6)]) rfl ?_
    refine s_goto hC dX4_holds_187 (tgt := 9) (by decide) ?_
    refine s_lv (lv' := [(0, vR v5), (2, vI v6), (3, vJ v28), (5, vI (v8 + (1 : Int32)))]) [3, 4, 1, 0] rfl ?_
    exact ih _ _ _ _ _
def f_X4_holds (X : x_X) (v0 : Nat) (v1 : Int32) (v2 : Int32) (μ : x_M) : Option (Int32 × x_M) :=
  (lt (if v1 < (0 : Int32) then (0 : Int32) else v1) (fun (v4 : Int32) => (f_X4_holds_L9 X (fun (v29 : Int64) (μ30 : x_M) => (if (lg_cmp (v29 &&& (1 : Int64)) (1 : Int64)) = 0 then (ck ((1 : Int32) = 0 ∨ (1 : Int32) = 1) (some ((1 : Int32), μ30))) else (ck ((0 : Int32) = 0 ∨ (0 : Int32) = 1) (some ((0 : Int32), μ30))))) 4096 v0 v2 (0 : Int64) v4 μ)))
set_option maxRecDepth 100000 in
theorem m_X4_holds (hI : x_I X) (v0 : Nat) (v1 : Int32) (v2 : Int32) (μ : x_M) : x_Met X x_Z0 l yX4_holds cX4_holds 11 (some .boolean) 2 [vR v0, vI v1, vI v2] μ rkI (f_X4_holds X v0 v1 v2 μ) := by
  refine x_enter hI (by decide +kernel) (Nat.le_of_ble_eq_true rfl) (fun p e s m args below meth c hC hr hlk => ?_)
  unfold f_X4_holds
  refine s_lv (lv' := [(0, vR v0), (1, vI v1), (2, vI v2)]) [0, 1, 2] rfl ?_
  refine s_lconst hC dX4_holds_0 (v := 0) (by decide) ?_
  refine s_lstore_n hC dX4_holds_1 (by decide) (lv' := [(3, vJ (0 : Int64)), (0, vR v0), (1, vI v1), (2, vI v2)]) rfl ?_
  refine s_iload_n hC 2 dX4_holds_2 rfl ?_
  refine s_iconst hC dX4_holds_3 (v := 0) (by decide) ?_
  refine s_max hC dX4_holds_4 qm_X4_75 qt_Math_max qc_Math qd_Math_max (by decide) (Nat.le_of_ble_eq_true rfl) ?_
  refine s_ltI (fun v4 => ?_)
  refine s_istore hC dX4_holds_7 (by decide) (lv' := [(5, vI v4), (3, vJ (0 : Int64)), (0, vR v0), (1, vI v1), (2, vI v2)]) rfl ?_
  refine s_lv (lv' := [(0, vR v0), (2, vI v2), (3, vJ (0 : Int64)), (5, vI v4)]) [2, 4, 1, 0] rfl ?_
  refine j_X4_holds_L9 hI hC hr hlk (fun v29 μ30 => ?_) 4096 _ _ _ _ _
  refine s_lload_n hC 0 dX4_holds_190 rfl ?_
  refine s_lconst hC dX4_holds_191 (v := 1) (by decide) ?_
  refine s_land hC dX4_holds_192 ?_
  refine s_lconst hC dX4_holds_193 (v := 1) (by decide) ?_
  refine s_lcmp hC dX4_holds_194 ?_
  refine s_if_ne hC dX4_holds_195 (tgt := 202) (by decide) ?_ ?_
  · refine s_iconst hC dX4_holds_202 (v := 0) (by decide) ?_
    exact s_zret hC hr hlk dX4_holds_203
  refine s_iconst hC dX4_holds_198 (v := 1) (by decide) ?_
  refine s_goto hC dX4_holds_199 (tgt := 203) (by decide) ?_
  exact s_zret hC hr hlk dX4_holds_203
theorem dX4_put_0 : decode cX4_put 0 = .ok (.aload_n 0, 1) := by decide +kernel
theorem dX4_put_1 : decode cX4_put 1 = .ok (.getfield 34, 3) := by decide +kernel
theorem dX4_put_4 : decode cX4_put 4 = .ok (.iconst 0, 1) := by decide +kernel
theorem dX4_put_5 : decode cX4_put 5 = .ok (.bipush 99, 2) := by decide +kernel
theorem dX4_put_7 : decode cX4_put 7 = .ok (.invokestatic 52, 3) := by decide +kernel
theorem dX4_put_10 : decode cX4_put 10 = .ok (.ifCond .eq 23, 3) := by decide +kernel
theorem dX4_put_13 : decode cX4_put 13 = .ok (.aload_n 0, 1) := by decide +kernel
theorem dX4_put_14 : decode cX4_put 14 = .ok (.getfield 21, 3) := by decide +kernel
theorem dX4_put_17 : decode cX4_put 17 = .ok (.aload_n 0, 1) := by decide +kernel
theorem dX4_put_18 : decode cX4_put 18 = .ok (.getfield 34, 3) := by decide +kernel
theorem dX4_put_21 : decode cX4_put 21 = .ok (.iload_n 1, 1) := by decide +kernel
theorem dX4_put_22 : decode cX4_put 22 = .ok (.iastore, 1) := by decide +kernel
theorem dX4_put_23 : decode cX4_put 23 = .ok (.aload_n 0, 1) := by decide +kernel
theorem dX4_put_24 : decode cX4_put 24 = .ok (.dup, 1) := by decide +kernel
theorem dX4_put_25 : decode cX4_put 25 = .ok (.getfield 34, 3) := by decide +kernel
theorem dX4_put_28 : decode cX4_put 28 = .ok (.iconst 1, 1) := by decide +kernel
theorem dX4_put_29 : decode cX4_put 29 = .ok (.iadd, 1) := by decide +kernel
theorem dX4_put_30 : decode cX4_put 30 = .ok (.putfield 34, 3) := by decide +kernel
theorem dX4_put_33 : decode cX4_put 33 = .ok (.return_, 1) := by decide +kernel
def f_X4_put (X : x_X) (v0 : Nat) (v1 : Int32) (μ : x_M) : Option (Unit × x_M) :=
  (ck (x_kd X v0 = 4 + 1) (bd (f_X9_within X (μ.1 v0 6) (0 : Int32) (99 : Int32) μ) (fun (v3 : Int32) (μ4 : x_M) => (if v3 = 0 then (some ((), μ4)) else (ck (x_kd X v0 = 4 + 1) (lt (μ4.2.1 v0 3) (fun (v5 : Nat) => (ck (x_kd X v0 = 4 + 1) (lt (μ4.1 v0 6) (fun (v6 : Int32) => (ck (x_kd X v5 = 20 ∧ x_ix v6 (x_ln X v5)) (lt (x_sI μ4 v5 (v6).toNatClampNeg v1) (fun (μ7 : x_M) => (ck (x_kd X v0 = 4 + 1) (ck (x_kd X v0 = 4 + 1) (lt (x_sI μ7 v0 6 ((μ7.1 v0 6) + (1 : Int32))) (fun (μ8 : x_M) => (some ((), μ8)))))))))))))))))))
set_option maxRecDepth 100000 in
theorem m_X4_put (hI : x_I X) (v0 : Nat) (v1 : Int32) (μ : x_M) : x_Met X x_Z0 l yX4_put cX4_put 2 none 2 [vR v0, vI v1] μ rkV (f_X4_put X v0 v1 μ) := by
  refine x_enter hI (by decide +kernel) (Nat.le_of_ble_eq_true rfl) (fun p e s m args below meth c hC hr hlk => ?_)
  unfold f_X4_put
  refine s_lv (lv' := [(0, vR v0), (1, vI v1)]) [0, 1] rfl ?_
  refine s_aload_n hC 0 dX4_put_0 rfl ?_
  refine s_getI hC xc4 (by decide) rfl qf_X4_34 dX4_put_1 ?_
  refine s_iconst hC dX4_put_4 (v := 0) (by decide) ?_
  refine s_bipush hC dX4_put_5 (v := 99) (by decide) ?_
  refine s_callS hC (avs := [vI (μ.1 v0 6), vI (0 : Int32), vI (99 : Int32)]) (st := []) (nest := true) (m_X9_within hI (μ.1 v0 6) (0 : Int32) (99 : Int32) μ) dX4_put_7 qm_X4_52 qt_X9_within qc_X9 qd_X9_within qh_X9_within (by decide) (fun _ => Nat.le_of_ble_eq_true rfl) (Nat.le_of_ble_eq_true rfl) (fun v3 μ4 => ?_)
  refine s_if_eq hC dX4_put_10 (tgt := 33) (by decide) ?_ ?_
  · exact s_vret hC hr hlk dX4_put_33
  refine s_aload_n hC 0 dX4_put_13 rfl ?_
  refine s_getR hC xc4 (by decide) rfl qf_X4_21 dX4_put_14 ?_
  refine s_ltR (fun v5 => ?_)
  refine s_aload_n hC 0 dX4_put_17 rfl ?_
  refine s_getI hC xc4 (by decide) rfl qf_X4_34 dX4_put_18 ?_
  refine s_iload_n hC 1 dX4_put_21 rfl ?_
  refine s_ltI2 (fun v6 => ?_)
  refine s_iast hC dX4_put_22 ?_
  refine s_ltM (fun μ7 => ?_)
  refine s_aload_n hC 0 dX4_put_23 rfl ?_
  refine s_dupR hC dX4_put_24 ?_
  refine s_getI hC xc4 (by decide) rfl qf_X4_34 dX4_put_25 ?_
  refine s_iconst hC dX4_put_28 (v := 1) (by decide) ?_
  refine s_iadd hC dX4_put_29 ?_
  refine s_putI hC xc4 (by decide) rfl rfl qf_X4_34 dX4_put_30 ?_
  refine s_ltM (fun μ8 => ?_)
  exact s_vret hC hr hlk dX4_put_33
theorem dX4_close_0 : decode cX4_close 0 = .ok (.aload_n 0, 1) := by decide +kernel
theorem dX4_close_1 : decode cX4_close 1 = .ok (.getfield 30, 3) := by decide +kernel
theorem dX4_close_4 : decode cX4_close 4 = .ok (.iconst 0, 1) := by decide +kernel
theorem dX4_close_5 : decode cX4_close 5 = .ok (.bipush 9, 2) := by decide +kernel
theorem dX4_close_7 : decode cX4_close 7 = .ok (.invokestatic 52, 3) := by decide +kernel
theorem dX4_close_10 : decode cX4_close 10 = .ok (.ifCond .eq 46, 3) := by decide +kernel
theorem dX4_close_13 : decode cX4_close 13 = .ok (.aload_n 0, 1) := by decide +kernel
theorem dX4_close_14 : decode cX4_close 14 = .ok (.getfield 9, 3) := by decide +kernel
theorem dX4_close_17 : decode cX4_close 17 = .ok (.aload_n 0, 1) := by decide +kernel
theorem dX4_close_18 : decode cX4_close 18 = .ok (.getfield 30, 3) := by decide +kernel
theorem dX4_close_21 : decode cX4_close 21 = .ok (.iload_n 1, 1) := by decide +kernel
theorem dX4_close_22 : decode cX4_close 22 = .ok (.iastore, 1) := by decide +kernel
theorem dX4_close_23 : decode cX4_close 23 = .ok (.aload_n 0, 1) := by decide +kernel
theorem dX4_close_24 : decode cX4_close 24 = .ok (.getfield 15, 3) := by decide +kernel
theorem dX4_close_27 : decode cX4_close 27 = .ok (.aload_n 0, 1) := by decide +kernel
theorem dX4_close_28 : decode cX4_close 28 = .ok (.getfield 30, 3) := by decide +kernel
theorem dX4_close_31 : decode cX4_close 31 = .ok (.iload_n 2, 1) := by decide +kernel
theorem dX4_close_32 : decode cX4_close 32 = .ok (.iastore, 1) := by decide +kernel
theorem dX4_close_33 : decode cX4_close 33 = .ok (.aload_n 0, 1) := by decide +kernel
theorem dX4_close_34 : decode cX4_close 34 = .ok (.getfield 18, 3) := by decide +kernel
theorem dX4_close_37 : decode cX4_close 37 = .ok (.aload_n 0, 1) := by decide +kernel
theorem dX4_close_38 : decode cX4_close 38 = .ok (.getfield 30, 3) := by decide +kernel
theorem dX4_close_41 : decode cX4_close 41 = .ok (.aload_n 0, 1) := by decide +kernel
theorem dX4_close_42 : decode cX4_close 42 = .ok (.getfield 34, 3) := by decide +kernel
theorem dX4_close_45 : decode cX4_close 45 = .ok (.iastore, 1) := by decide +kernel
theorem dX4_close_46 : decode cX4_close 46 = .ok (.aload_n 0, 1) := by decide +kernel
theorem dX4_close_47 : decode cX4_close 47 = .ok (.dup, 1) := by decide +kernel
theorem dX4_close_48 : decode cX4_close 48 = .ok (.getfield 30, 3) := by decide +kernel
theorem dX4_close_51 : decode cX4_close 51 = .ok (.iconst 1, 1) := by decide +kernel
theorem dX4_close_52 : decode cX4_close 52 = .ok (.iadd, 1) := by decide +kernel
theorem dX4_close_53 : decode cX4_close 53 = .ok (.putfield 30, 3) := by decide +kernel
theorem dX4_close_56 : decode cX4_close 56 = .ok (.return_, 1) := by decide +kernel
def f_X4_close (X : x_X) (v0 : Nat) (v1 : Int32) (v2 : Int32) (μ : x_M) : Option (Unit × x_M) :=
  (ck (x_kd X v0 = 4 + 1) (bd (f_X9_within X (μ.1 v0 5) (0 : Int32) (9 : Int32) μ) (fun (v4 : Int32) (μ5 : x_M) => (if v4 = 0 then (some ((), μ5)) else (ck (x_kd X v0 = 4 + 1) (lt (μ5.2.1 v0 0) (fun (v6 : Nat) => (ck (x_kd X v0 = 4 + 1) (lt (μ5.1 v0 5) (fun (v7 : Int32) => (ck (x_kd X v6 = 20 ∧ x_ix v7 (x_ln X v6)) (lt (x_sI μ5 v6 (v7).toNatClampNeg v1) (fun (μ8 : x_M) => (ck (x_kd X v0 = 4 + 1) (lt (μ8.2.1 v0 1) (fun (v9 : Nat) => (ck (x_kd X v0 = 4 + 1) (lt (μ8.1 v0 5) (fun (v10 : Int32) => (ck (x_kd X v9 = 20 ∧ x_ix v10 (x_ln X v9)) (lt (x_sI μ8 v9 (v10).toNatClampNeg v2) (fun (μ11 : x_M) => (ck (x_kd X v0 = 4 + 1) (lt (μ11.2.1 v0 2) (fun (v12 : Nat) => (ck (x_kd X v0 = 4 + 1) (ck (x_kd X v0 = 4 + 1) (lt (μ11.1 v0 5) (fun (v13 : Int32) => (ck (x_kd X v12 = 20 ∧ x_ix v13 (x_ln X v12)) (lt (x_sI μ11 v12 (v13).toNatClampNeg (μ11.1 v0 6)) (fun (μ14 : x_M) => (ck (x_kd X v0 = 4 + 1) (ck (x_kd X v0 = 4 + 1) (lt (x_sI μ14 v0 5 ((μ14.1 v0 5) + (1 : Int32))) (fun (μ15 : x_M) => (some ((), μ15))))))))))))))))))))))))))))))))))))))
set_option maxRecDepth 100000 in
theorem m_X4_close (hI : x_I X) (v0 : Nat) (v1 : Int32) (v2 : Int32) (μ : x_M) : x_Met X x_Z0 l yX4_close cX4_close 3 none 2 [vR v0, vI v1, vI v2] μ rkV (f_X4_close X v0 v1 v2 μ) := by
  refine x_enter hI (by decide +kernel) (Nat.le_of_ble_eq_true rfl) (fun p e s m args below meth c hC hr hlk => ?_)
  unfold f_X4_close
  refine s_lv (lv' := [(0, vR v0), (1, vI v1), (2, vI v2)]) [0, 1, 2] rfl ?_
  refine s_aload_n hC 0 dX4_close_0 rfl ?_
  refine s_getI hC xc4 (by decide) rfl qf_X4_30 dX4_close_1 ?_
  refine s_iconst hC dX4_close_4 (v := 0) (by decide) ?_
  refine s_bipush hC dX4_close_5 (v := 9) (by decide) ?_
  refine s_callS hC (avs := [vI (μ.1 v0 5), vI (0 : Int32), vI (9 : Int32)]) (st := []) (nest := true) (m_X9_within hI (μ.1 v0 5) (0 : Int32) (9 : Int32) μ) dX4_close_7 qm_X4_52 qt_X9_within qc_X9 qd_X9_within qh_X9_within (by decide) (fun _ => Nat.le_of_ble_eq_true rfl) (Nat.le_of_ble_eq_true rfl) (fun v4 μ5 => ?_)
  refine s_if_eq hC dX4_close_10 (tgt := 56) (by decide) ?_ ?_
  · exact s_vret hC hr hlk dX4_close_56
  refine s_aload_n hC 0 dX4_close_13 rfl ?_
  refine s_getR hC xc4 (by decide) rfl qf_X4_9 dX4_close_14 ?_
  refine s_ltR (fun v6 => ?_)
  refine s_aload_n hC 0 dX4_close_17 rfl ?_
  refine s_getI hC xc4 (by decide) rfl qf_X4_30 dX4_close_18 ?_
  refine s_iload_n hC 1 dX4_close_21 rfl ?_
  refine s_ltI2 (fun v7 => ?_)
  refine s_iast hC dX4_close_22 ?_
  refine s_ltM (fun μ8 => ?_)
  refine s_aload_n hC 0 dX4_close_23 rfl ?_
  refine s_getR hC xc4 (by decide) rfl qf_X4_15 dX4_close_24 ?_
  refine s_ltR (fun v9 => ?_)
  refine s_aload_n hC 0 dX4_close_27 rfl ?_
  refine s_getI hC xc4 (by decide) rfl qf_X4_30 dX4_close_28 ?_
  refine s_iload_n hC 2 dX4_close_31 rfl ?_
  refine s_ltI2 (fun v10 => ?_)
  refine s_iast hC dX4_close_32 ?_
  refine s_ltM (fun μ11 => ?_)
  refine s_aload_n hC 0 dX4_close_33 rfl ?_
  refine s_getR hC xc4 (by decide) rfl qf_X4_18 dX4_close_34 ?_
  refine s_ltR (fun v12 => ?_)
  refine s_aload_n hC 0 dX4_close_37 rfl ?_
  refine s_getI hC xc4 (by decide) rfl qf_X4_30 dX4_close_38 ?_
  refine s_aload_n hC 0 dX4_close_41 rfl ?_
  refine s_getI hC xc4 (by decide) rfl qf_X4_34 dX4_close_42 ?_
  refine s_ltI2 (fun v13 => ?_)
  refine s_iast hC dX4_close_45 ?_
  refine s_ltM (fun μ14 => ?_)
  refine s_aload_n hC 0 dX4_close_46 rfl ?_
  refine s_dupR hC dX4_close_47 ?_
  refine s_getI hC xc4 (by decide) rfl qf_X4_30 dX4_close_48 ?_
  refine s_iconst hC dX4_close_51 (v := 1) (by decide) ?_
  refine s_iadd hC dX4_close_52 ?_
  refine s_putI hC xc4 (by decide) rfl rfl qf_X4_30 dX4_close_53 ?_
  refine s_ltM (fun μ15 => ?_)
  exact s_vret hC hr hlk dX4_close_56
theorem dX4_together_0 : decode cX4_together 0 = .ok (.aload_n 0, 1) := by decide +kernel
theorem dX4_together_1 : decode cX4_together 1 = .ok (.aload_n 2, 1) := by decide +kernel
theorem dX4_together_2 : decode cX4_together 2 = .ok (.iload_n 3, 1) := by decide +kernel
theorem dX4_together_3 : decode cX4_together 3 = .ok (.iload 4, 2) := by decide +kernel
theorem dX4_together_5 : decode cX4_together 5 = .ok (.invokevirtual 56, 3) := by decide +kernel
theorem dX4_together_8 : decode cX4_together 8 = .ok (.iconst 0, 1) := by decide +kernel
theorem dX4_together_9 : decode cX4_together 9 = .ok (.istore 5, 2) := by decide +kernel
theorem dX4_together_11 : decode cX4_together 11 = .ok (.iconst 0, 1) := by decide +kernel
theorem dX4_together_12 : decode cX4_together 12 = .ok (.istore 6, 2) := by decide +kernel
theorem dX4_together_14 : decode cX4_together 14 = .ok (.iconst 0, 1) := by decide +kernel
theorem dX4_together_15 : decode cX4_together 15 = .ok (.istore 7, 2) := by decide +kernel
theorem dX4_together_17 : decode cX4_together 17 = .ok (.iload 7, 2) := by decide +kernel
theorem dX4_together_19 : decode cX4_together 19 = .ok (.aload_n 0, 1) := by decide +kernel
theorem dX4_together_20 : decode cX4_together 20 = .ok (.getfield 30, 3) := by decide +kernel
theorem dX4_together_23 : decode cX4_together 23 = .ok (.if_icmp .ge 64, 3) := by decide +kernel
theorem dX4_together_26 : decode cX4_together 26 = .ok (.iload 7, 2) := by decide +kernel
theorem dX4_together_28 : decode cX4_together 28 = .ok (.bipush 10, 2) := by decide +kernel
theorem dX4_together_30 : decode cX4_together 30 = .ok (.if_icmp .ge 57, 3) := by decide +kernel
theorem dX4_together_33 : decode cX4_together 33 = .ok (.aload_n 0, 1) := by decide +kernel
theorem dX4_together_34 : decode cX4_together 34 = .ok (.getfield 9, 3) := by decide +kernel
theorem dX4_together_37 : decode cX4_together 37 = .ok (.iload 7, 2) := by decide +kernel
theorem dX4_together_39 : decode cX4_together 39 = .ok (.iaload, 1) := by decide +kernel
theorem dX4_together_40 : decode cX4_together 40 = .ok (.iload_n 1, 1) := by decide +kernel
theorem dX4_together_41 : decode cX4_together 41 = .ok (.if_icmp .ne 31, 3) := by decide +kernel
theorem dX4_together_44 : decode cX4_together 44 = .ok (.aload_n 0, 1) := by decide +kernel
theorem dX4_together_45 : decode cX4_together 45 = .ok (.iload 6, 2) := by decide +kernel
theorem dX4_together_47 : decode cX4_together 47 = .ok (.aload_n 0, 1) := by decide +kernel
theorem dX4_together_48 : decode cX4_together 48 = .ok (.getfield 18, 3) := by decide +kernel
theorem dX4_together_51 : decode cX4_together 51 = .ok (.iload 7, 2) := by decide +kernel
theorem dX4_together_53 : decode cX4_together 53 = .ok (.iaload, 1) := by decide +kernel
theorem dX4_together_54 : decode cX4_together 54 = .ok (.invokevirtual 60, 3) := by decide +kernel
theorem dX4_together_57 : decode cX4_together 57 = .ok (.ifCond .eq 15, 3) := by decide +kernel
theorem dX4_together_60 : decode cX4_together 60 = .ok (.iload 5, 2) := by decide +kernel
theorem dX4_together_62 : decode cX4_together 62 = .ok (.aload_n 0, 1) := by decide +kernel
theorem dX4_together_63 : decode cX4_together 63 = .ok (.getfield 15, 3) := by decide +kernel
theorem dX4_together_66 : decode cX4_together 66 = .ok (.iload 7, 2) := by decide +kernel
theorem dX4_together_68 : decode cX4_together 68 = .ok (.iaload, 1) := by decide +kernel
theorem dX4_together_69 : decode cX4_together 69 = .ok (.iadd, 1) := by decide +kernel
theorem dX4_together_70 : decode cX4_together 70 = .ok (.istore 5, 2) := by decide +kernel
theorem dX4_together_72 : decode cX4_together 72 = .ok (.aload_n 0, 1) := by decide +kernel
theorem dX4_together_73 : decode cX4_together 73 = .ok (.getfield 18, 3) := by decide +kernel
theorem dX4_together_76 : decode cX4_together 76 = .ok (.iload 7, 2) := by decide +kernel
theorem dX4_together_78 : decode cX4_together 78 = .ok (.iaload, 1) := by decide +kernel
theorem dX4_together_79 : decode cX4_together 79 = .ok (.istore 6, 2) := by decide +kernel
theorem dX4_together_81 : decode cX4_together 81 = .ok (.iinc 7 1, 3) := by decide +kernel
theorem dX4_together_84 : decode cX4_together 84 = .ok (.goto (-67), 3) := by decide +kernel
theorem dX4_together_87 : decode cX4_together 87 = .ok (.iload 5, 2) := by decide +kernel
theorem dX4_together_89 : decode cX4_together 89 = .ok (.ireturn, 1) := by decide +kernel
def f_X4_together_L17 (X : x_X) : Nat → Nat → Int32 → Int32 → Int32 → Int32 → x_M → Option (Int32 × x_M)
  | 0, _, _, _, _, _, _ => none
  | n + 1, v7, v8, v9, v10, v11, μ12 =>
    (ck (x_kd X v7 = 4 + 1) (if (μ12.1 v7 5) ≤ v11 then (some (v9, μ12)) else (if (10 : Int32) ≤ v11 then (some (v9, μ12)) else (ck (x_kd X v7 = 4 + 1) (lt (μ12.2.1 v7 0) (fun (v13 : Nat) => (ck ((x_kd X v13 = 20 ∨ x_kd X v13 = 40) ∧ x_ix v11 (x_ln X v13)) (if (μ12.1 v13 (v11).toNatClampNeg) = v8 then (ck (x_kd X v7 = 4 + 1) (lt (μ12.2.1 v7 2) (fun (v16 : Nat) => (ck ((x_kd X v16 = 20 ∨ x_kd X v16 = 40) ∧ x_ix v11 (x_ln X v16)) (ck (x_kd X v7 = 4 + 1) (bd (f_X4_holds X v7 v10 (μ12.1 v16 (v11).toNatClampNeg) μ12) (fun (v17 : Int32) (μ18 : x_M) => (if v17 = 0 then (ck (x_kd X v7 = 4 + 1) (lt (μ18.2.1 v7 2) (fun (v19 : Nat) => (ck ((x_kd X v19 = 20 ∨ x_kd X v19 = 40) ∧ x_ix v11 (x_ln X v19)) (lt (μ18.1 v19 (v11).toNatClampNeg) (fun (v20 : Int32) => (f_X4_together_L17 X n v7 v8 v9 v20 (v11 + (1 : Int32)) μ18))))))) else (ck (x_kd X v7 = 4 + 1) (lt (μ18.2.1 v7 1) (fun (v21 : Nat) => (ck ((x_kd X v21 = 20 ∨ x_kd X v21 = 40) ∧ x_ix v11 (x_ln X v21)) (lt (v9 + (μ18.1 v21 (v11).toNatClampNeg)) (fun (v22 : Int32) => (ck (x_kd X v7 = 4 + 1) (lt (μ18.2.1 v7 2) (fun (v23 : Nat) => (ck ((x_kd X v23 = 20 ∨ x_kd X v23 = 40) ∧ x_ix v11 (x_ln X v23)) (lt (μ18.1 v23 (v11).toNatClampNeg) (fun (v24 : Int32) => (f_X4_together_L17 X n v7 v8 v22 v24 (v11 + (1 : Int32)) μ18))))))))))))))))))))) else (ck (x_kd X v7 = 4 + 1) (lt (μ12.2.1 v7 2) (fun (v14 : Nat) => (ck ((x_kd X v14 = 20 ∨ x_kd X v14 = 40) ∧ x_ix v11 (x_ln X v14)) (lt (μ12.1 v14 (v11).toNatClampNeg) (fun (v15 : Int32) => (f_X4_together_L17 X n v7 v8 v9 v15 (v11 + (1 : Int32)) μ12)))))))))))))))
set_option maxRecDepth 100000 in
theorem j_X4_together_L17 (hI : x_I X) (hC : x_C X x_Z0 p (x_rm 3) s m c cX4_together RX4 8 0 0 3) (hr : meth.sig.returnType = (some .int)) (hlk : meth.locks = false) : ∀ (n : Nat) (v7 : Nat) (v8 : Int32) (v9 : Int32) (v10 : Int32) (v11 : Int32) (μ12 : x_M), SM X 8 3 rkI p l e s m args below meth c 17 [(0, vR v7), (1, vI v8), (5, vI v9), (6, vI v10), (7, vI v11)] [] μ12 (f_X4_together_L17 X n v7 v8 v9 v10 v11 μ12) := by
  intro n
  induction n with
  | zero => intro v7 v8 v9 v10 v11 μ12; exact s_none
  | succ n ih =>
    intro v7 v8 v9 v10 v11 μ12
    unfold f_X4_together_L17
    refine s_iload hC 4 dX4_together_17 rfl ?_
    refine s_aload_n hC 0 dX4_together_19 rfl ?_
    refine s_getI hC xc4 (by decide) rfl qf_X4_30 dX4_together_20 ?_
    refine s_icmp_ge hC dX4_together_23 (tgt := 87) (by decide) ?_ ?_
    · refine s_iload hC 2 dX4_together_87 rfl ?_
      exact s_iret hC hr hlk dX4_together_89
    refine s_iload hC 4 dX4_together_26 rfl ?_
    refine s_bipush hC dX4_together_28 (v := 10) (by decide) ?_
    refine s_icmp_ge hC dX4_together_30 (tgt := 87) (by decide) ?_ ?_
    · refine s_iload hC 2 dX4_together_87 rfl ?_
      exact s_iret hC hr hlk dX4_together_89
    refine s_aload_n hC 0 dX4_together_33 rfl ?_
    refine s_getR hC xc4 (by decide) rfl qf_X4_9 dX4_together_34 ?_
    refine s_ltR (fun v13 => ?_)
    refine s_iload hC 4 dX4_together_37 rfl ?_
    refine s_iald hC dX4_together_39 ?_
    refine s_iload_n hC 1 dX4_together_40 rfl ?_
    refine s_icmp_ne hC dX4_together_41 (tgt := 72) (by decide) ?_ ?_
    · refine s_aload_n hC 0 dX4_together_72 rfl ?_
      refine s_getR hC xc4 (by decide) rfl qf_X4_18 dX4_together_73 ?_
      refine s_ltR (fun v14 => ?_)
      refine s_iload hC 4 dX4_together_76 rfl ?_
      refine s_iald hC dX4_together_78 ?_
      refine s_ltI (fun v15 => ?_)
      refine s_istore hC dX4_together_79 (by decide) (lv' := [(6, vI v15), (0, vR v7), (1, vI v8), (5, vI v9), (7, vI v11)]) rfl ?_
      refine s_iinc hC 4 dX4_together_81 rfl (w := 1) (by decide) (by decide) (lv' := [(7, vI (v11 + (1 : Int32))), (6, vI v15), (0, vR v7), (1, vI v8), (5, vI v9)]) rfl ?_
      refine s_goto hC dX4_together_84 (tgt := 17) (by decide) ?_
      refine s_lv (lv' := [(0, vR v7), (1, vI v8), (5, vI v9), (6, vI v15), (7, vI (v11 + (1 : Int32)))]) [2, 3, 4, 1, 0] rfl ?_
      exact ih _ _ _ _ _ _
    refine s_aload_n hC 0 dX4_together_44 rfl ?_
    refine s_iload hC 3 dX4_together_45 rfl ?_
    refine s_aload_n hC 0 dX4_together_47 rfl ?_
    refine s_getR hC xc4 (by decide) rfl qf_X4_18 dX4_together_48 ?_
    refine s_ltR (fun v16 => ?_)
    refine s_iload hC 4 dX4_together_51 rfl ?_
    refine s_iald hC dX4_together_53 ?_
    refine s_callV hC (x := v7) (avs := [vI v10, vI (μ12.1 v16 (v11).toNatClampNeg)]) (st := []) (nest := false) xc4 (m_X4_holds hI v7 v10 (μ12.1 v16 (v11).toNatClampNeg) μ12) dX4_together_54 qm_X4_60 qi_X4_holds qs_X4_holds qc_X4 qd_X4_holds qh_X4_holds (by decide) (fun _ => Nat.le_of_ble_eq_true rfl) (Nat.le_of_ble_eq_true rfl) (fun v17 μ18 => ?_)
    refine s_if_eq hC dX4_together_57 (tgt := 72) (by decide) ?_ ?_
    · refine s_aload_n hC 0 dX4_together_72 rfl ?_
      refine s_getR hC xc4 (by decide) rfl qf_X4_18 dX4_together_73 ?_
      refine s_ltR (fun v19 => ?_)
      refine s_iload hC 4 dX4_together_76 rfl ?_
      refine s_iald hC dX4_together_78 ?_
      refine s_ltI (fun v20 => ?_)
      refine s_istore hC dX4_together_79 (by decide) (lv' := [(6, vI v20), (0, vR v7), (1, vI v8), (5, vI v9), (7, vI v11)]) rfl ?_
      refine s_iinc hC 4 dX4_together_81 rfl (w := 1) (by decide) (by decide) (lv' := [(7, vI (v11 + (1 : Int32))), (6, vI v20), (0, vR v7), (1, vI v8), (5, vI v9)]) rfl ?_
      refine s_goto hC dX4_together_84 (tgt := 17) (by decide) ?_
      refine s_lv (lv' := [(0, vR v7), (1, vI v8), (5, vI v9), (6, vI v20), (7, vI (v11 + (1 : Int32)))]) [2, 3, 4, 1, 0] rfl ?_
      exact ih _ _ _ _ _ _
    refine s_iload hC 2 dX4_together_60 rfl ?_
    refine s_aload_n hC 0 dX4_together_62 rfl ?_
    refine s_getR hC xc4 (by decide) rfl qf_X4_15 dX4_together_63 ?_
    refine s_ltR (fun v21 => ?_)
    refine s_iload hC 4 dX4_together_66 rfl ?_
    refine s_iald hC dX4_together_68 ?_
    refine s_iadd hC dX4_together_69 ?_
    refine s_ltI (fun v22 => ?_)
    refine s_istore hC dX4_together_70 (by decide) (lv' := [(5, vI v22), (0, vR v7), (1, vI v8), (6, vI v10), (7, vI v11)]) rfl ?_
    refine s_aload_n hC 1 dX4_together_72 rfl ?_
    refine s_getR hC xc4 (by decide) rfl qf_X4_18 dX4_together_73 ?_
    refine s_ltR (fun v23 => ?_)
    refine s_iload hC 4 dX4_together_76 rfl ?_
    refine s_iald hC dX4_together_78 ?_
    refine s_ltI (fun v24 => ?_)
    refine s_istore hC dX4_together_79 (by decide) (lv' := [(6, vI v24), (5, vI v22), (0, vR v7), (1, vI v8), (7, vI v11)]) rfl ?_
    refine s_iinc hC 4 dX4_together_81 rfl (w := 1) (by decide) (by decide) (lv' := [(7, vI (v11 + (1 : Int32))), (6, vI v24), (5, vI v22), (0, vR v7), (1, vI v8)]) rfl ?_
    refine s_goto hC dX4_together_84 (tgt := 17) (by decide) ?_
    refine s_lv (lv' := [(0, vR v7), (1, vI v8), (5, vI v22), (6, vI v24), (7, vI (v11 + (1 : Int32)))]) [3, 4, 2, 1, 0] rfl ?_
    exact ih _ _ _ _ _ _
def f_X4_together (X : x_X) (v0 : Nat) (v1 : Int32) (v2 : Nat) (v3 : Int32) (v4 : Int32) (μ : x_M) : Option (Int32 × x_M) :=
  (ck (x_kd X v0 = 4 + 1) (bd (f_X4_tellValues X v0 v2 v3 v4 μ) (fun (_ : Unit) (μ6 : x_M) => (f_X4_together_L17 X 4096 v0 v1 (0 : Int32) (0 : Int32) (0 : Int32) μ6))))
set_option maxRecDepth 100000 in
theorem m_X4_together (hI : x_I X) (v0 : Nat) (v1 : Int32) (v2 : Nat) (v3 : Int32) (v4 : Int32) (μ : x_M) : x_Met X x_Z0 l yX4_together cX4_together 8 (some .int) 3 [vR v0, vI v1, vR v2, vI v3, vI v4] μ rkI (f_X4_together X v0 v1 v2 v3 v4 μ) := by
  refine x_enter hI (by decide +kernel) (Nat.le_of_ble_eq_true rfl) (fun p e s m args below meth c hC hr hlk => ?_)
  unfold f_X4_together
  refine s_lv (lv' := [(0, vR v0), (1, vI v1), (2, vR v2), (3, vI v3), (4, vI v4)]) [0, 1, 2, 3, 4] rfl ?_
  refine s_aload_n hC 0 dX4_together_0 rfl ?_
  refine s_aload_n hC 2 dX4_together_1 rfl ?_
  refine s_iload_n hC 3 dX4_together_2 rfl ?_
  refine s_iload hC 4 dX4_together_3 rfl ?_
  refine s_callV hC (x := v0) (avs := [vR v2, vI v3, vI v4]) (st := []) (nest := false) xc4 (m_X4_tellValues hI v0 v2 v3 v4 μ) dX4_together_5 qm_X4_56 qi_X4_tellValues qs_X4_tellValues qc_X4 qd_X4_tellValues qh_X4_tellValues (by decide) (fun _ => Nat.le_of_ble_eq_true rfl) (Nat.le_of_ble_eq_true rfl) (fun _ μ6 => ?_)
  refine s_iconst hC dX4_together_8 (v := 0) (by decide) ?_
  refine s_istore hC dX4_together_9 (by decide) (lv' := [(5, vI (0 : Int32)), (0, vR v0), (1, vI v1), (2, vR v2), (3, vI v3), (4, vI v4)]) rfl ?_
  refine s_iconst hC dX4_together_11 (v := 0) (by decide) ?_
  refine s_istore hC dX4_together_12 (by decide) (lv' := [(6, vI (0 : Int32)), (5, vI (0 : Int32)), (0, vR v0), (1, vI v1), (2, vR v2), (3, vI v3), (4, vI v4)]) rfl ?_
  refine s_iconst hC dX4_together_14 (v := 0) (by decide) ?_
  refine s_istore hC dX4_together_15 (by decide) (lv' := [(7, vI (0 : Int32)), (6, vI (0 : Int32)), (5, vI (0 : Int32)), (0, vR v0), (1, vI v1), (2, vR v2), (3, vI v3), (4, vI v4)]) rfl ?_
  refine s_lv (lv' := [(0, vR v0), (1, vI v1), (5, vI (0 : Int32)), (6, vI (0 : Int32)), (7, vI (0 : Int32))]) [3, 4, 2, 1, 0] rfl ?_
  refine j_X4_together_L17 hI hC hr hlk 4096 _ _ _ _ _ _
