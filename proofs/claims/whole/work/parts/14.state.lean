variable {X : x_X} {l : Launch} {p : Program} {e : Env} {s : State} {m : MethodId} {args : Array Value} {below : List Frame} {meth : Method} {c : Code}
theorem dX7_pourBy_0 : decode cX7_pourBy 0 = .ok (.iconst 0, 1) := by decide +kernel
theorem dX7_pourBy_1 : decode cX7_pourBy 1 = .ok (.aload_n 0, 1) := by decide +kernel
theorem dX7_pourBy_2 : decode cX7_pourBy 2 = .ok (.getfield 46, 3) := by decide +kernel
theorem dX7_pourBy_5 : decode cX7_pourBy 5 = .ok (.iload_n 2, 1) := by decide +kernel
theorem dX7_pourBy_6 : decode cX7_pourBy 6 = .ok (.isub, 1) := by decide +kernel
theorem dX7_pourBy_7 : decode cX7_pourBy 7 = .ok (.invokestatic 130, 3) := by decide +kernel
theorem dX7_pourBy_10 : decode cX7_pourBy 10 = .ok (.istore_n 3, 1) := by decide +kernel
theorem dX7_pourBy_11 : decode cX7_pourBy 11 = .ok (.aload_n 1, 1) := by decide +kernel
theorem dX7_pourBy_12 : decode cX7_pourBy 12 = .ok (.getfield 116, 3) := by decide +kernel
theorem dX7_pourBy_15 : decode cX7_pourBy 15 = .ok (.iload_n 3, 1) := by decide +kernel
theorem dX7_pourBy_16 : decode cX7_pourBy 16 = .ok (.ineg, 1) := by decide +kernel
theorem dX7_pourBy_17 : decode cX7_pourBy 17 = .ok (.invokestatic 130, 3) := by decide +kernel
theorem dX7_pourBy_20 : decode cX7_pourBy 20 = .ok (.istore 4, 2) := by decide +kernel
theorem dX7_pourBy_22 : decode cX7_pourBy 22 = .ok (.aload_n 1, 1) := by decide +kernel
theorem dX7_pourBy_23 : decode cX7_pourBy 23 = .ok (.dup, 1) := by decide +kernel
theorem dX7_pourBy_24 : decode cX7_pourBy 24 = .ok (.getfield 69, 3) := by decide +kernel
theorem dX7_pourBy_27 : decode cX7_pourBy 27 = .ok (.iload 4, 2) := by decide +kernel
theorem dX7_pourBy_29 : decode cX7_pourBy 29 = .ok (.iadd, 1) := by decide +kernel
theorem dX7_pourBy_30 : decode cX7_pourBy 30 = .ok (.putfield 69, 3) := by decide +kernel
theorem dX7_pourBy_33 : decode cX7_pourBy 33 = .ok (.aload_n 0, 1) := by decide +kernel
theorem dX7_pourBy_34 : decode cX7_pourBy 34 = .ok (.dup, 1) := by decide +kernel
theorem dX7_pourBy_35 : decode cX7_pourBy 35 = .ok (.getfield 46, 3) := by decide +kernel
theorem dX7_pourBy_38 : decode cX7_pourBy 38 = .ok (.iload 4, 2) := by decide +kernel
theorem dX7_pourBy_40 : decode cX7_pourBy 40 = .ok (.iadd, 1) := by decide +kernel
theorem dX7_pourBy_41 : decode cX7_pourBy 41 = .ok (.putfield 46, 3) := by decide +kernel
theorem dX7_pourBy_44 : decode cX7_pourBy 44 = .ok (.return_, 1) := by decide +kernel
def f_X7_pourBy (X : x_X) (v0 : Nat) (v1 : Nat) (v2 : Int32) (μ : x_M) : Option (Unit × x_M) :=
  (ck (x_kd X v0 = 7 + 1) (lt ((μ.1 v0 7) - v2) (fun (v4 : Int32) => (lt (if (0 : Int32) < v4 then v4 else (0 : Int32)) (fun (v5 : Int32) => (ck (x_kd X v1 = 0 + 1) (lt (-v5) (fun (v6 : Int32) => (lt (μ.1 v1 8) (fun (v7 : Int32) => (lt (if v7 < v6 then v6 else v7) (fun (v8 : Int32) => (ck (x_kd X v1 = 0 + 1) (ck (x_kd X v1 = 0 + 1) (lt (x_sI μ v1 5 ((μ.1 v1 5) + v8)) (fun (μ9 : x_M) => (ck (x_kd X v0 = 7 + 1) (ck (x_kd X v0 = 7 + 1) (lt (x_sI μ9 v0 7 ((μ9.1 v0 7) + v8)) (fun (μ10 : x_M) => (some ((), μ10))))))))))))))))))))))
set_option maxRecDepth 100000 in
theorem m_X7_pourBy (hI : x_I X) (v0 : Nat) (v1 : Nat) (v2 : Int32) (μ : x_M) : x_Met X x_Z0 l yX7_pourBy cX7_pourBy 5 none 1 [vR v0, vR v1, vI v2] μ rkV (f_X7_pourBy X v0 v1 v2 μ) := by
  refine x_enter hI (by decide +kernel) (Nat.le_of_ble_eq_true rfl) (fun p e s m args below meth c hC hr hlk => ?_)
  unfold f_X7_pourBy
  refine s_lv (lv' := [(0, vR v0), (1, vR v1), (2, vI v2)]) [0, 1, 2] rfl ?_
  refine s_iconst hC dX7_pourBy_0 (v := 0) (by decide) ?_
  refine s_aload_n hC 0 dX7_pourBy_1 rfl ?_
  refine s_getI hC xc7 (by decide) rfl qf_X7_46 dX7_pourBy_2 ?_
  refine s_iload_n hC 2 dX7_pourBy_5 rfl ?_
  refine s_isub hC dX7_pourBy_6 ?_
  refine s_ltI (fun v4 => ?_)
  refine s_max hC dX7_pourBy_7 qm_X7_130 qt_Math_max qc_Math qd_Math_max (by decide) (Nat.le_of_ble_eq_true rfl) ?_
  refine s_ltI (fun v5 => ?_)
  refine s_istore_n hC dX7_pourBy_10 (by decide) (lv' := [(3, vI v5), (0, vR v0), (1, vR v1), (2, vI v2)]) rfl ?_
  refine s_aload_n hC 2 dX7_pourBy_11 rfl ?_
  refine s_getI hC xc0 (by decide) rfl qf_X7_116 dX7_pourBy_12 ?_
  refine s_iload_n hC 0 dX7_pourBy_15 rfl ?_
  refine s_ineg hC dX7_pourBy_16 ?_
  refine s_ltI (fun v6 => ?_)
  refine s_ltI2 (fun v7 => ?_)
  refine s_max hC dX7_pourBy_17 qm_X7_130 qt_Math_max qc_Math qd_Math_max (by decide) (Nat.le_of_ble_eq_true rfl) ?_
  refine s_ltI (fun v8 => ?_)
  refine s_istore hC dX7_pourBy_20 (by decide) (lv' := [(4, vI v8), (3, vI v5), (0, vR v0), (1, vR v1), (2, vI v2)]) rfl ?_
  refine s_aload_n hC 3 dX7_pourBy_22 rfl ?_
  refine s_dupR hC dX7_pourBy_23 ?_
  refine s_getI hC xc0 (by decide) rfl qf_X7_69 dX7_pourBy_24 ?_
  refine s_iload hC 0 dX7_pourBy_27 rfl ?_
  refine s_iadd hC dX7_pourBy_29 ?_
  refine s_putI hC xc0 (by decide) rfl rfl qf_X7_69 dX7_pourBy_30 ?_
  refine s_ltM (fun μ9 => ?_)
  refine s_aload_n hC 2 dX7_pourBy_33 rfl ?_
  refine s_dupR hC dX7_pourBy_34 ?_
  refine s_getI hC xc7 (by decide) rfl qf_X7_46 dX7_pourBy_35 ?_
  refine s_iload hC 0 dX7_pourBy_38 rfl ?_
  refine s_iadd hC dX7_pourBy_40 ?_
  refine s_putI hC xc7 (by decide) rfl rfl qf_X7_46 dX7_pourBy_41 ?_
  refine s_ltM (fun μ10 => ?_)
  exact s_vret hC hr hlk dX7_pourBy_44
theorem dX7_spillTo_0 : decode cX7_spillTo 0 = .ok (.aload_n 0, 1) := by decide +kernel
theorem dX7_spillTo_1 : decode cX7_spillTo 1 = .ok (.getfield 46, 3) := by decide +kernel
theorem dX7_spillTo_4 : decode cX7_spillTo 4 = .ok (.iload_n 1, 1) := by decide +kernel
theorem dX7_spillTo_5 : decode cX7_spillTo 5 = .ok (.if_icmp .le 28, 3) := by decide +kernel
theorem dX7_spillTo_8 : decode cX7_spillTo 8 = .ok (.aload_n 0, 1) := by decide +kernel
theorem dX7_spillTo_9 : decode cX7_spillTo 9 = .ok (.ldc 145, 2) := by decide +kernel
theorem dX7_spillTo_11 : decode cX7_spillTo 11 = .ok (.aload_n 0, 1) := by decide +kernel
theorem dX7_spillTo_12 : decode cX7_spillTo 12 = .ok (.getfield 146, 3) := by decide +kernel
theorem dX7_spillTo_15 : decode cX7_spillTo 15 = .ok (.aload_n 0, 1) := by decide +kernel
theorem dX7_spillTo_16 : decode cX7_spillTo 16 = .ok (.getfield 46, 3) := by decide +kernel
theorem dX7_spillTo_19 : decode cX7_spillTo 19 = .ok (.iadd, 1) := by decide +kernel
theorem dX7_spillTo_20 : decode cX7_spillTo 20 = .ok (.iload_n 1, 1) := by decide +kernel
theorem dX7_spillTo_21 : decode cX7_spillTo 21 = .ok (.isub, 1) := by decide +kernel
theorem dX7_spillTo_22 : decode cX7_spillTo 22 = .ok (.invokestatic 149, 3) := by decide +kernel
theorem dX7_spillTo_25 : decode cX7_spillTo 25 = .ok (.putfield 146, 3) := by decide +kernel
theorem dX7_spillTo_28 : decode cX7_spillTo 28 = .ok (.aload_n 0, 1) := by decide +kernel
theorem dX7_spillTo_29 : decode cX7_spillTo 29 = .ok (.iload_n 1, 1) := by decide +kernel
theorem dX7_spillTo_30 : decode cX7_spillTo 30 = .ok (.putfield 46, 3) := by decide +kernel
theorem dX7_spillTo_33 : decode cX7_spillTo 33 = .ok (.return_, 1) := by decide +kernel
def f_X7_spillTo (X : x_X) (v0 : Nat) (v1 : Int32) (μ : x_M) : Option (Unit × x_M) :=
  (ck (x_kd X v0 = 7 + 1) (if (μ.1 v0 7) ≤ v1 then (some ((), μ)) else (ck (x_kd X v0 = 7 + 1) (ck (x_kd X v0 = 7 + 1) (lt (((μ.1 v0 8) + (μ.1 v0 7)) - v1) (fun (v3 : Int32) => (ck (x_kd X v0 = 7 + 1) (lt (x_sI μ v0 8 (if v3 < (99999 : Int32) then v3 else (99999 : Int32))) (fun (μ4 : x_M) => (ck (x_kd X v0 = 7 + 1) (lt (x_sI μ4 v0 7 v1) (fun (μ5 : x_M) => (some ((), μ5))))))))))))))
set_option maxRecDepth 100000 in
theorem m_X7_spillTo (hI : x_I X) (v0 : Nat) (v1 : Int32) (μ : x_M) : x_Met X x_Z0 l yX7_spillTo cX7_spillTo 2 none 1 [vR v0, vI v1] μ rkV (f_X7_spillTo X v0 v1 μ) := by
  refine x_enter hI (by decide +kernel) (Nat.le_of_ble_eq_true rfl) (fun p e s m args below meth c hC hr hlk => ?_)
  unfold f_X7_spillTo
  refine s_lv (lv' := [(0, vR v0), (1, vI v1)]) [0, 1] rfl ?_
  refine s_aload_n hC 0 dX7_spillTo_0 rfl ?_
  refine s_getI hC xc7 (by decide) rfl qf_X7_46 dX7_spillTo_1 ?_
  refine s_iload_n hC 1 dX7_spillTo_4 rfl ?_
  refine s_icmp_le hC dX7_spillTo_5 (tgt := 33) (by decide) ?_ ?_
  · exact s_vret hC hr hlk dX7_spillTo_33
  refine s_aload_n hC 0 dX7_spillTo_8 rfl ?_
  refine s_ldc hC dX7_spillTo_9 qk_X7_145 ?_
  refine s_aload_n hC 0 dX7_spillTo_11 rfl ?_
  refine s_getI hC xc7 (by decide) rfl qf_X7_146 dX7_spillTo_12 ?_
  refine s_aload_n hC 0 dX7_spillTo_15 rfl ?_
  refine s_getI hC xc7 (by decide) rfl qf_X7_46 dX7_spillTo_16 ?_
  refine s_iadd hC dX7_spillTo_19 ?_
  refine s_iload_n hC 1 dX7_spillTo_20 rfl ?_
  refine s_isub hC dX7_spillTo_21 ?_
  refine s_ltI (fun v3 => ?_)
  refine s_min hC dX7_spillTo_22 qm_X7_149 qt_Math_min qc_Math qd_Math_min (by decide) (Nat.le_of_ble_eq_true rfl) ?_
  refine s_putI hC xc7 (by decide) rfl rfl qf_X7_146 dX7_spillTo_25 ?_
  refine s_ltM (fun μ4 => ?_)
  refine s_aload_n hC 0 dX7_spillTo_28 rfl ?_
  refine s_iload_n hC 1 dX7_spillTo_29 rfl ?_
  refine s_putI hC xc7 (by decide) rfl rfl qf_X7_46 dX7_spillTo_30 ?_
  refine s_ltM (fun μ5 => ?_)
  exact s_vret hC hr hlk dX7_spillTo_33
theorem dX7_find_0 : decode cX7_find 0 = .ok (.iload_n 1, 1) := by decide +kernel
theorem dX7_find_1 : decode cX7_find 1 = .ok (.ifCond .lt 26, 3) := by decide +kernel
theorem dX7_find_4 : decode cX7_find 4 = .ok (.iload_n 1, 1) := by decide +kernel
theorem dX7_find_5 : decode cX7_find 5 = .ok (.aload_n 0, 1) := by decide +kernel
theorem dX7_find_6 : decode cX7_find 6 = .ok (.getfield 54, 3) := by decide +kernel
theorem dX7_find_9 : decode cX7_find 9 = .ok (.if_icmp .ge 18, 3) := by decide +kernel
theorem dX7_find_12 : decode cX7_find 12 = .ok (.iload_n 1, 1) := by decide +kernel
theorem dX7_find_13 : decode cX7_find 13 = .ok (.bipush 6, 2) := by decide +kernel
theorem dX7_find_15 : decode cX7_find 15 = .ok (.if_icmp .ge 12, 3) := by decide +kernel
theorem dX7_find_18 : decode cX7_find 18 = .ok (.aload_n 0, 1) := by decide +kernel
theorem dX7_find_19 : decode cX7_find 19 = .ok (.getfield 20, 3) := by decide +kernel
theorem dX7_find_22 : decode cX7_find 22 = .ok (.iload_n 1, 1) := by decide +kernel
theorem dX7_find_23 : decode cX7_find 23 = .ok (.aaload, 1) := by decide +kernel
theorem dX7_find_24 : decode cX7_find 24 = .ok (.goto 4, 3) := by decide +kernel
theorem dX7_find_27 : decode cX7_find 27 = .ok (.aconst_null, 1) := by decide +kernel
theorem dX7_find_28 : decode cX7_find 28 = .ok (.areturn, 1) := by decide +kernel
def f_X7_find (X : x_X) (v0 : Nat) (v1 : Int32) (μ : x_M) : Option (Nat × x_M) :=
  (if v1 < 0 then (some (0, μ)) else (ck (x_kd X v0 = 7 + 1) (if (μ.1 v0 6) ≤ v1 then (some (0, μ)) else (if (6 : Int32) ≤ v1 then (some (0, μ)) else (ck (x_kd X v0 = 7 + 1) (lt (μ.2.1 v0 1) (fun (v3 : Nat) => (ck ((x_kd X v3 = 23 ∨ x_kd X v3 = 24 ∨ x_kd X v3 = 25) ∧ x_ix v1 (x_ln X v3)) (lt (μ.2.1 v3 (v1).toNatClampNeg) (fun (v4 : Nat) => (some (v4, μ))))))))))))
set_option maxRecDepth 100000 in
theorem m_X7_find (hI : x_I X) (v0 : Nat) (v1 : Int32) (μ : x_M) : x_Met X x_Z0 l yX7_find cX7_find 2 (some (.object "LakeBooks$Account")) 1 [vR v0, vI v1] μ rkR (f_X7_find X v0 v1 μ) := by
  refine x_enter hI (by decide +kernel) (Nat.le_of_ble_eq_true rfl) (fun p e s m args below meth c hC hr hlk => ?_)
  unfold f_X7_find
  refine s_lv (lv' := [(0, vR v0), (1, vI v1)]) [0, 1] rfl ?_
  refine s_iload_n hC 1 dX7_find_0 rfl ?_
  refine s_if_lt hC dX7_find_1 (tgt := 27) (by decide) ?_ ?_
  · refine s_null hC dX7_find_27 ?_
    exact s_aret hC hr (Or.inl ⟨_, rfl⟩) hlk dX7_find_28
  refine s_iload_n hC 1 dX7_find_4 rfl ?_
  refine s_aload_n hC 0 dX7_find_5 rfl ?_
  refine s_getI hC xc7 (by decide) rfl qf_X7_54 dX7_find_6 ?_
  refine s_icmp_ge hC dX7_find_9 (tgt := 27) (by decide) ?_ ?_
  · refine s_null hC dX7_find_27 ?_
    exact s_aret hC hr (Or.inl ⟨_, rfl⟩) hlk dX7_find_28
  refine s_iload_n hC 1 dX7_find_12 rfl ?_
  refine s_bipush hC dX7_find_13 (v := 6) (by decide) ?_
  refine s_icmp_ge hC dX7_find_15 (tgt := 27) (by decide) ?_ ?_
  · refine s_null hC dX7_find_27 ?_
    exact s_aret hC hr (Or.inl ⟨_, rfl⟩) hlk dX7_find_28
  refine s_aload_n hC 0 dX7_find_18 rfl ?_
  refine s_getR hC xc7 (by decide) rfl qf_X7_20 dX7_find_19 ?_
  refine s_ltR (fun v3 => ?_)
  refine s_iload_n hC 1 dX7_find_22 rfl ?_
  refine s_aald hC dX7_find_23 ?_
  refine s_ltR (fun v4 => ?_)
  refine s_goto hC dX7_find_24 (tgt := 28) (by decide) ?_
  exact s_aret hC hr (Or.inl ⟨_, rfl⟩) hlk dX7_find_28
theorem dX7_sunOfDay_0 : decode cX7_sunOfDay 0 = .ok (.iconst 0, 1) := by decide +kernel
theorem dX7_sunOfDay_1 : decode cX7_sunOfDay 1 = .ok (.istore_n 1, 1) := by decide +kernel
theorem dX7_sunOfDay_2 : decode cX7_sunOfDay 2 = .ok (.aload_n 0, 1) := by decide +kernel
theorem dX7_sunOfDay_3 : decode cX7_sunOfDay 3 = .ok (.getfield 20, 3) := by decide +kernel
theorem dX7_sunOfDay_6 : decode cX7_sunOfDay 6 = .ok (.astore_n 2, 1) := by decide +kernel
theorem dX7_sunOfDay_7 : decode cX7_sunOfDay 7 = .ok (.aload_n 2, 1) := by decide +kernel
theorem dX7_sunOfDay_8 : decode cX7_sunOfDay 8 = .ok (.arraylength, 1) := by decide +kernel
theorem dX7_sunOfDay_9 : decode cX7_sunOfDay 9 = .ok (.istore_n 3, 1) := by decide +kernel
theorem dX7_sunOfDay_10 : decode cX7_sunOfDay 10 = .ok (.iconst 0, 1) := by decide +kernel
theorem dX7_sunOfDay_11 : decode cX7_sunOfDay 11 = .ok (.istore 4, 2) := by decide +kernel
theorem dX7_sunOfDay_13 : decode cX7_sunOfDay 13 = .ok (.iload 4, 2) := by decide +kernel
theorem dX7_sunOfDay_15 : decode cX7_sunOfDay 15 = .ok (.iload_n 3, 1) := by decide +kernel
theorem dX7_sunOfDay_16 : decode cX7_sunOfDay 16 = .ok (.if_icmp .ge 23, 3) := by decide +kernel
theorem dX7_sunOfDay_19 : decode cX7_sunOfDay 19 = .ok (.aload_n 2, 1) := by decide +kernel
theorem dX7_sunOfDay_20 : decode cX7_sunOfDay 20 = .ok (.iload 4, 2) := by decide +kernel
theorem dX7_sunOfDay_22 : decode cX7_sunOfDay 22 = .ok (.aaload, 1) := by decide +kernel
theorem dX7_sunOfDay_23 : decode cX7_sunOfDay 23 = .ok (.astore 5, 2) := by decide +kernel
theorem dX7_sunOfDay_25 : decode cX7_sunOfDay 25 = .ok (.iload_n 1, 1) := by decide +kernel
theorem dX7_sunOfDay_26 : decode cX7_sunOfDay 26 = .ok (.aload 5, 2) := by decide +kernel
theorem dX7_sunOfDay_28 : decode cX7_sunOfDay 28 = .ok (.getfield 103, 3) := by decide +kernel
theorem dX7_sunOfDay_31 : decode cX7_sunOfDay 31 = .ok (.iadd, 1) := by decide +kernel
theorem dX7_sunOfDay_32 : decode cX7_sunOfDay 32 = .ok (.istore_n 1, 1) := by decide +kernel
theorem dX7_sunOfDay_33 : decode cX7_sunOfDay 33 = .ok (.iinc 4 1, 3) := by decide +kernel
theorem dX7_sunOfDay_36 : decode cX7_sunOfDay 36 = .ok (.goto (-23), 3) := by decide +kernel
theorem dX7_sunOfDay_39 : decode cX7_sunOfDay 39 = .ok (.iload_n 1, 1) := by decide +kernel
theorem dX7_sunOfDay_40 : decode cX7_sunOfDay 40 = .ok (.ireturn, 1) := by decide +kernel
def f_X7_sunOfDay_L13 (X : x_X) : Nat → Int32 → Nat → Int32 → Int32 → x_M → Option (Int32 × x_M)
  | 0, _, _, _, _, _ => none
  | n + 1, v4, v5, v6, v7, μ8 =>
    (if v6 ≤ v7 then (some (v4, μ8)) else (ck ((x_kd X v5 = 23 ∨ x_kd X v5 = 24 ∨ x_kd X v5 = 25) ∧ x_ix v7 (x_ln X v5)) (lt (μ8.2.1 v5 (v7).toNatClampNeg) (fun (v9 : Nat) => (ck (x_kd X v9 = 0 + 1) (lt (v4 + (μ8.1 v9 9)) (fun (v10 : Int32) => (f_X7_sunOfDay_L13 X n v10 v5 v6 (v7 + (1 : Int32)) μ8))))))))
set_option maxRecDepth 100000 in
theorem j_X7_sunOfDay_L13 (hI : x_I X) (hC : x_C X x_Z0 p (x_rm 1) s m c cX7_sunOfDay RX7 6 0 0 1) (hr : meth.sig.returnType = (some .int)) (hlk : meth.locks = false) : ∀ (n : Nat) (v4 : Int32) (v5 : Nat) (v6 : Int32) (v7 : Int32) (μ8 : x_M), SM X 6 1 rkI p l e s m args below meth c 13 [(1, vI v4), (2, vR v5), (3, vI v6), (4, vI v7)] [] μ8 (f_X7_sunOfDay_L13 X n v4 v5 v6 v7 μ8) := by
  intro n
  induction n with
  | zero => intro v4 v5 v6 v7 μ8; exact s_none
  | succ n ih =>
    intro v4 v5 v6 v7 μ8
    unfold f_X7_sunOfDay_L13
    refine s_iload hC 3 dX7_sunOfDay_13 rfl ?_
    refine s_iload_n hC 2 dX7_sunOfDay_15 rfl ?_
    refine s_icmp_ge hC dX7_sunOfDay_16 (tgt := 39) (by decide) ?_ ?_
    · refine s_iload_n hC 0 dX7_sunOfDay_39 rfl ?_
      exact s_iret hC hr hlk dX7_sunOfDay_40
    refine s_aload_n hC 1 dX7_sunOfDay_19 rfl ?_
    refine s_iload hC 3 dX7_sunOfDay_20 rfl ?_
    refine s_aald hC dX7_sunOfDay_22 ?_
    refine s_ltR (fun v9 => ?_)
    refine s_astore hC dX7_sunOfDay_23 (by decide) (lv' := [(5, vR v9), (1, vI v4), (2, vR v5), (3, vI v6), (4, vI v7)]) rfl ?_
    refine s_iload_n hC 1 dX7_sunOfDay_25 rfl ?_
    refine s_aload hC 0 dX7_sunOfDay_26 rfl ?_
    refine s_getI hC xc0 (by decide) rfl qf_X7_103 dX7_sunOfDay_28 ?_
    refine s_iadd hC dX7_sunOfDay_31 ?_
    refine s_ltI (fun v10 => ?_)
    refine s_istore_n hC dX7_sunOfDay_32 (by decide) (lv' := [(1, vI v10), (5, vR v9), (2, vR v5), (3, vI v6), (4, vI v7)]) rfl ?_
    refine s_iinc hC 4 dX7_sunOfDay_33 rfl (w := 1) (by decide) (by decide) (lv' := [(4, vI (v7 + (1 : Int32))), (1, vI v10), (5, vR v9), (2, vR v5), (3, vI v6)]) rfl ?_
    refine s_goto hC dX7_sunOfDay_36 (tgt := 13) (by decide) ?_
    refine s_lv (lv' := [(1, vI v10), (2, vR v5), (3, vI v6), (4, vI (v7 + (1 : Int32)))]) [1, 3, 4, 0] rfl ?_
    exact ih _ _ _ _ _
def f_X7_sunOfDay (X : x_X) (v0 : Nat) (μ : x_M) : Option (Int32 × x_M) :=
  (ck (x_kd X v0 = 7 + 1) (lt (μ.2.1 v0 1) (fun (v2 : Nat) => (ck (x_kd X v2 = 20 ∨ x_kd X v2 = 23 ∨ x_kd X v2 = 40 ∨ x_kd X v2 = 41) (lt (nI (x_ln X v2)) (fun (v3 : Int32) => (f_X7_sunOfDay_L13 X 4096 (0 : Int32) v2 v3 (0 : Int32) μ)))))))
set_option maxRecDepth 100000 in
theorem m_X7_sunOfDay (hI : x_I X) (v0 : Nat) (μ : x_M) : x_Met X x_Z0 l yX7_sunOfDay cX7_sunOfDay 6 (some .int) 1 [vR v0] μ rkI (f_X7_sunOfDay X v0 μ) := by
  refine x_enter hI (by decide +kernel) (Nat.le_of_ble_eq_true rfl) (fun p e s m args below meth c hC hr hlk => ?_)
  unfold f_X7_sunOfDay
  refine s_lv (lv' := [(0, vR v0)]) [0] rfl ?_
  refine s_iconst hC dX7_sunOfDay_0 (v := 0) (by decide) ?_
  refine s_istore_n hC dX7_sunOfDay_1 (by decide) (lv' := [(1, vI (0 : Int32)), (0, vR v0)]) rfl ?_
  refine s_aload_n hC 1 dX7_sunOfDay_2 rfl ?_
  refine s_getR hC xc7 (by decide) rfl qf_X7_20 dX7_sunOfDay_3 ?_
  refine s_ltR (fun v2 => ?_)
  refine s_astore_n hC dX7_sunOfDay_6 (by decide) (lv' := [(2, vR v2), (1, vI (0 : Int32)), (0, vR v0)]) rfl ?_
  refine s_aload_n hC 0 dX7_sunOfDay_7 rfl ?_
  refine s_alen hC dX7_sunOfDay_8 ?_
  refine s_ltI (fun v3 => ?_)
  refine s_istore_n hC dX7_sunOfDay_9 (by decide) (lv' := [(3, vI v3), (2, vR v2), (1, vI (0 : Int32)), (0, vR v0)]) rfl ?_
  refine s_iconst hC dX7_sunOfDay_10 (v := 0) (by decide) ?_
  refine s_istore hC dX7_sunOfDay_11 (by decide) (lv' := [(4, vI (0 : Int32)), (3, vI v3), (2, vR v2), (1, vI (0 : Int32)), (0, vR v0)]) rfl ?_
  refine s_lv (lv' := [(1, vI (0 : Int32)), (2, vR v2), (3, vI v3), (4, vI (0 : Int32))]) [3, 2, 1, 0] rfl ?_
  refine j_X7_sunOfDay_L13 hI hC hr hlk 4096 _ _ _ _ _
theorem dX7_level_0 : decode cX7_level 0 = .ok (.aload_n 0, 1) := by decide +kernel
theorem dX7_level_1 : decode cX7_level 1 = .ok (.getfield 46, 3) := by decide +kernel
theorem dX7_level_4 : decode cX7_level 4 = .ok (.istore_n 1, 1) := by decide +kernel
theorem dX7_level_5 : decode cX7_level 5 = .ok (.aload_n 0, 1) := by decide +kernel
theorem dX7_level_6 : decode cX7_level 6 = .ok (.getfield 20, 3) := by decide +kernel
theorem dX7_level_9 : decode cX7_level 9 = .ok (.astore_n 2, 1) := by decide +kernel
theorem dX7_level_10 : decode cX7_level 10 = .ok (.aload_n 2, 1) := by decide +kernel
theorem dX7_level_11 : decode cX7_level 11 = .ok (.arraylength, 1) := by decide +kernel
theorem dX7_level_12 : decode cX7_level 12 = .ok (.istore_n 3, 1) := by decide +kernel
theorem dX7_level_13 : decode cX7_level 13 = .ok (.iconst 0, 1) := by decide +kernel
theorem dX7_level_14 : decode cX7_level 14 = .ok (.istore 4, 2) := by decide +kernel
theorem dX7_level_16 : decode cX7_level 16 = .ok (.iload 4, 2) := by decide +kernel
theorem dX7_level_18 : decode cX7_level 18 = .ok (.iload_n 3, 1) := by decide +kernel
theorem dX7_level_19 : decode cX7_level 19 = .ok (.if_icmp .ge 23, 3) := by decide +kernel
theorem dX7_level_22 : decode cX7_level 22 = .ok (.aload_n 2, 1) := by decide +kernel
theorem dX7_level_23 : decode cX7_level 23 = .ok (.iload 4, 2) := by decide +kernel
theorem dX7_level_25 : decode cX7_level 25 = .ok (.aaload, 1) := by decide +kernel
theorem dX7_level_26 : decode cX7_level 26 = .ok (.astore 5, 2) := by decide +kernel
theorem dX7_level_28 : decode cX7_level 28 = .ok (.iload_n 1, 1) := by decide +kernel
theorem dX7_level_29 : decode cX7_level 29 = .ok (.aload 5, 2) := by decide +kernel
theorem dX7_level_31 : decode cX7_level 31 = .ok (.invokevirtual 72, 3) := by decide +kernel
theorem dX7_level_34 : decode cX7_level 34 = .ok (.iadd, 1) := by decide +kernel
theorem dX7_level_35 : decode cX7_level 35 = .ok (.istore_n 1, 1) := by decide +kernel
theorem dX7_level_36 : decode cX7_level 36 = .ok (.iinc 4 1, 3) := by decide +kernel
theorem dX7_level_39 : decode cX7_level 39 = .ok (.goto (-23), 3) := by decide +kernel
theorem dX7_level_42 : decode cX7_level 42 = .ok (.aload_n 0, 1) := by decide +kernel
theorem dX7_level_43 : decode cX7_level 43 = .ok (.getfield 12, 3) := by decide +kernel
theorem dX7_level_46 : decode cX7_level 46 = .ok (.iload_n 1, 1) := by decide +kernel
theorem dX7_level_47 : decode cX7_level 47 = .ok (.invokevirtual 76, 3) := by decide +kernel
theorem dX7_level_50 : decode cX7_level 50 = .ok (.ireturn, 1) := by decide +kernel
def f_X7_level_L16 (X : x_X) : Nat → Nat → Int32 → Nat → Int32 → Int32 → x_M → Option (Int32 × x_M)
  | 0, _, _, _, _, _, _ => none
  | n + 1, v5, v6, v7, v8, v9, μ10 =>
    (if v8 ≤ v9 then (ck (x_kd X v5 = 7 + 1) (lt (μ10.2.1 v5 0) (fun (v11 : Nat) => (ck (x_kd X v11 = 3 + 1) (bd (f_X3_levelOf X v11 v6 μ10) (fun (v12 : Int32) (μ13 : x_M) => (some (v12, μ13)))))))) else (ck ((x_kd X v7 = 23 ∨ x_kd X v7 = 24 ∨ x_kd X v7 = 25) ∧ x_ix v9 (x_ln X v7)) (lt (μ10.2.1 v7 (v9).toNatClampNeg) (fun (v14 : Nat) => (ck (x_kd X v14 = 0 + 1) (bd (f_X0_lifts X v14 μ10) (fun (v15 : Int32) (μ16 : x_M) => (lt (v6 + v15) (fun (v17 : Int32) => (f_X7_level_L16 X n v5 v17 v7 v8 (v9 + (1 : Int32)) μ16))))))))))
set_option maxRecDepth 100000 in
theorem j_X7_level_L16 (hI : x_I X) (hC : x_C X x_Z0 p (x_rm 2) s m c cX7_level RX7 6 0 0 2) (hr : meth.sig.returnType = (some .int)) (hlk : meth.locks = false) : ∀ (n : Nat) (v5 : Nat) (v6 : Int32) (v7 : Nat) (v8 : Int32) (v9 : Int32) (μ10 : x_M), SM X 6 2 rkI p l e s m args below meth c 16 [(0, vR v5), (1, vI v6), (2, vR v7), (3, vI v8), (4, vI v9)] [] μ10 (f_X7_level_L16 X n v5 v6 v7 v8 v9 μ10) := by
  intro n
  induction n with
  | zero => intro v5 v6 v7 v8 v9 μ10; exact s_none
  | succ n ih =>
    intro v5 v6 v7 v8 v9 μ10
    unfold f_X7_level_L16
    refine s_iload hC 4 dX7_level_16 rfl ?_
    refine s_iload_n hC 3 dX7_level_18 rfl ?_
    refine s_icmp_ge hC dX7_level_19 (tgt := 42) (by decide) ?_ ?_
    · refine s_aload_n hC 0 dX7_level_42 rfl ?_
      refine s_getR hC xc7 (by decide) rfl qf_X7_12 dX7_level_43 ?_
      refine s_ltR (fun v11 => ?_)
      refine s_iload_n hC 1 dX7_level_46 rfl ?_
      refine s_callV hC (x := v11) (avs := [vI v6]) (st := []) (nest := false) xc3 (m_X3_levelOf hI v11 v6 μ10) dX7_level_47 qm_X7_76 qi_X3_levelOf qs_X3_levelOf qc_X3 qd_X3_levelOf qh_X3_levelOf (by decide) (fun _ => Nat.le_of_ble_eq_true rfl) (Nat.le_of_ble_eq_true rfl) (fun v12 μ13 => ?_)
      exact s_iret hC hr hlk dX7_level_50
    refine s_aload_n hC 2 dX7_level_22 rfl ?_
    refine s_iload hC 4 dX7_level_23 rfl ?_
    refine s_aald hC dX7_level_25 ?_
    refine s_ltR (fun v14 => ?_)
    refine s_astore hC dX7_level_26 (by decide) (lv' := [(5, vR v14), (0, vR v5), (1, vI v6), (2, vR v7), (3, vI v8), (4, vI v9)]) rfl ?_
    refine s_iload_n hC 2 dX7_level_28 rfl ?_
    refine s_aload hC 0 dX7_level_29 rfl ?_
    refine s_callV hC (x := v14) (avs := []) (st := [vI v6]) (nest := false) xc0 (m_X0_lifts hI v14 μ10) dX7_level_31 qm_X7_72 qi_X0_lifts qs_X0_lifts qc_X0 qd_X0_lifts qh_X0_lifts (by decide) (fun _ => Nat.le_of_ble_eq_true rfl) (Nat.le_of_ble_eq_true rfl) (fun v15 μ16 => ?_)
    refine s_iadd hC dX7_level_34 ?_
    refine s_ltI (fun v17 => ?_)
    refine s_istore_n hC dX7_level_35 (by decide) (lv' := [(1, vI v17), (5, vR v14), (0, vR v5), (2, vR v7), (3, vI v8), (4, vI v9)]) rfl ?_
    refine s_iinc hC 5 dX7_level_36 rfl (w := 1) (by decide) (by decide) (lv' := [(4, vI (v9 + (1 : Int32))), (1, vI v17), (5, vR v14), (0, vR v5), (2, vR v7), (3, vI v8)]) rfl ?_
    refine s_goto hC dX7_level_39 (tgt := 16) (by decide) ?_
    refine s_lv (lv' := [(0, vR v5), (1, vI v17), (2, vR v7), (3, vI v8), (4, vI (v9 + (1 : Int32)))]) [3, 1, 4, 5, 0] rfl ?_
    exact ih _ _ _ _ _ _
def f_X7_level (X : x_X) (v0 : Nat) (μ : x_M) : Option (Int32 × x_M) :=
  (ck (x_kd X v0 = 7 + 1) (lt (μ.1 v0 7) (fun (v2 : Int32) => (ck (x_kd X v0 = 7 + 1) (lt (μ.2.1 v0 1) (fun (v3 : Nat) => (ck (x_kd X v3 = 20 ∨ x_kd X v3 = 23 ∨ x_kd X v3 = 40 ∨ x_kd X v3 = 41) (lt (nI (x_ln X v3)) (fun (v4 : Int32) => (f_X7_level_L16 X 4096 v0 v2 v3 v4 (0 : Int32) μ))))))))))
set_option maxRecDepth 100000 in
theorem m_X7_level (hI : x_I X) (v0 : Nat) (μ : x_M) : x_Met X x_Z0 l yX7_level cX7_level 6 (some .int) 2 [vR v0] μ rkI (f_X7_level X v0 μ) := by
  refine x_enter hI (by decide +kernel) (Nat.le_of_ble_eq_true rfl) (fun p e s m args below meth c hC hr hlk => ?_)
  unfold f_X7_level
  refine s_lv (lv' := [(0, vR v0)]) [0] rfl ?_
  refine s_aload_n hC 0 dX7_level_0 rfl ?_
  refine s_getI hC xc7 (by decide) rfl qf_X7_46 dX7_level_1 ?_
  refine s_ltI (fun v2 => ?_)
  refine s_istore_n hC dX7_level_4 (by decide) (lv' := [(1, vI v2), (0, vR v0)]) rfl ?_
  refine s_aload_n hC 1 dX7_level_5 rfl ?_
  refine s_getR hC xc7 (by decide) rfl qf_X7_20 dX7_level_6 ?_
  refine s_ltR (fun v3 => ?_)
  refine s_astore_n hC dX7_level_9 (by decide) (lv' := [(2, vR v3), (1, vI v2), (0, vR v0)]) rfl ?_
  refine s_aload_n hC 0 dX7_level_10 rfl ?_
  refine s_alen hC dX7_level_11 ?_
  refine s_ltI (fun v4 => ?_)
  refine s_istore_n hC dX7_level_12 (by decide) (lv' := [(3, vI v4), (2, vR v3), (1, vI v2), (0, vR v0)]) rfl ?_
  refine s_iconst hC dX7_level_13 (v := 0) (by decide) ?_
  refine s_istore hC dX7_level_14 (by decide) (lv' := [(4, vI (0 : Int32)), (3, vI v4), (2, vR v3), (1, vI v2), (0, vR v0)]) rfl ?_
  refine s_lv (lv' := [(0, vR v0), (1, vI v2), (2, vR v3), (3, vI v4), (4, vI (0 : Int32))]) [4, 3, 2, 1, 0] rfl ?_
  refine j_X7_level_L16 hI hC hr hlk 4096 _ _ _ _ _ _
theorem dX7_bucketsOf_0 : decode cX7_bucketsOf 0 = .ok (.aload_n 0, 1) := by decide +kernel
theorem dX7_bucketsOf_1 : decode cX7_bucketsOf 1 = .ok (.iload_n 1, 1) := by decide +kernel
theorem dX7_bucketsOf_2 : decode cX7_bucketsOf 2 = .ok (.invokevirtual 65, 3) := by decide +kernel
theorem dX7_bucketsOf_5 : decode cX7_bucketsOf 5 = .ok (.astore_n 2, 1) := by decide +kernel
theorem dX7_bucketsOf_6 : decode cX7_bucketsOf 6 = .ok (.aload_n 2, 1) := by decide +kernel
theorem dX7_bucketsOf_7 : decode cX7_bucketsOf 7 = .ok (.ifnonnull 7, 3) := by decide +kernel
theorem dX7_bucketsOf_10 : decode cX7_bucketsOf 10 = .ok (.iconst 0, 1) := by decide +kernel
theorem dX7_bucketsOf_11 : decode cX7_bucketsOf 11 = .ok (.goto 7, 3) := by decide +kernel
theorem dX7_bucketsOf_14 : decode cX7_bucketsOf 14 = .ok (.aload_n 2, 1) := by decide +kernel
theorem dX7_bucketsOf_15 : decode cX7_bucketsOf 15 = .ok (.getfield 69, 3) := by decide +kernel
theorem dX7_bucketsOf_18 : decode cX7_bucketsOf 18 = .ok (.ireturn, 1) := by decide +kernel
def f_X7_bucketsOf (X : x_X) (v0 : Nat) (v1 : Int32) (μ : x_M) : Option (Int32 × x_M) :=
  (ck (x_kd X v0 = 7 + 1) (bd (f_X7_find X v0 v1 μ) (fun (v3 : Nat) (μ4 : x_M) => (if v3 = 0 then (some ((0 : Int32), μ4)) else (ck (x_kd X v3 = 0 + 1) (some ((μ4.1 v3 5), μ4)))))))
set_option maxRecDepth 100000 in
theorem m_X7_bucketsOf (hI : x_I X) (v0 : Nat) (v1 : Int32) (μ : x_M) : x_Met X x_Z0 l yX7_bucketsOf cX7_bucketsOf 3 (some .int) 2 [vR v0, vI v1] μ rkI (f_X7_bucketsOf X v0 v1 μ) := by
  refine x_enter hI (by decide +kernel) (Nat.le_of_ble_eq_true rfl) (fun p e s m args below meth c hC hr hlk => ?_)
  unfold f_X7_bucketsOf
  refine s_lv (lv' := [(0, vR v0), (1, vI v1)]) [0, 1] rfl ?_
  refine s_aload_n hC 0 dX7_bucketsOf_0 rfl ?_
  refine s_iload_n hC 1 dX7_bucketsOf_1 rfl ?_
  refine s_callV hC (x := v0) (avs := [vI v1]) (st := []) (nest := false) xc7 (m_X7_find hI v0 v1 μ) dX7_bucketsOf_2 qm_X7_65 qi_X7_find qs_X7_find qc_X7 qd_X7_find qh_X7_find (by decide) (fun _ => Nat.le_of_ble_eq_true rfl) (Nat.le_of_ble_eq_true rfl) (fun v3 μ4 => ?_)
  refine s_astore_n hC dX7_bucketsOf_5 (by decide) (lv' := [(2, vR v3), (0, vR v0), (1, vI v1)]) rfl ?_
  refine s_aload_n hC 0 dX7_bucketsOf_6 rfl ?_
  refine s_ifnonnull hC dX7_bucketsOf_7 (tgt := 14) (by decide) ?_ ?_
  · refine s_aload_n hC 0 dX7_bucketsOf_14 rfl ?_
    refine s_getI hC xc0 (by decide) rfl qf_X7_69 dX7_bucketsOf_15 ?_
    exact s_iret hC hr hlk dX7_bucketsOf_18
  refine s_iconst hC dX7_bucketsOf_10 (v := 0) (by decide) ?_
  refine s_goto hC dX7_bucketsOf_11 (tgt := 18) (by decide) ?_
  exact s_iret hC hr hlk dX7_bucketsOf_18
theorem dX7_open_0 : decode cX7_open 0 = .ok (.aload_n 0, 1) := by decide +kernel
theorem dX7_open_1 : decode cX7_open 1 = .ok (.getfield 54, 3) := by decide +kernel
theorem dX7_open_4 : decode cX7_open 4 = .ok (.iconst 0, 1) := by decide +kernel
theorem dX7_open_5 : decode cX7_open 5 = .ok (.iconst 5, 1) := by decide +kernel
theorem dX7_open_6 : decode cX7_open 6 = .ok (.invokestatic 57, 3) := by decide +kernel
theorem dX7_open_9 : decode cX7_open 9 = .ok (.ifCond .ne 6, 3) := by decide +kernel
theorem dX7_open_12 : decode cX7_open 12 = .ok (.bipush (-4), 2) := by decide +kernel
theorem dX7_open_14 : decode cX7_open 14 = .ok (.ireturn, 1) := by decide +kernel
theorem dX7_open_15 : decode cX7_open 15 = .ok (.aload_n 0, 1) := by decide +kernel
theorem dX7_open_16 : decode cX7_open 16 = .ok (.getfield 20, 3) := by decide +kernel
theorem dX7_open_19 : decode cX7_open 19 = .ok (.aload_n 0, 1) := by decide +kernel
theorem dX7_open_20 : decode cX7_open 20 = .ok (.getfield 54, 3) := by decide +kernel
theorem dX7_open_23 : decode cX7_open 23 = .ok (.aaload, 1) := by decide +kernel
theorem dX7_open_24 : decode cX7_open 24 = .ok (.iload_n 1, 1) := by decide +kernel
theorem dX7_open_25 : decode cX7_open 25 = .ok (.iload_n 2, 1) := by decide +kernel
theorem dX7_open_26 : decode cX7_open 26 = .ok (.iload_n 3, 1) := by decide +kernel
theorem dX7_open_27 : decode cX7_open 27 = .ok (.invokevirtual 61, 3) := by decide +kernel
theorem dX7_open_30 : decode cX7_open 30 = .ok (.aload_n 0, 1) := by decide +kernel
theorem dX7_open_31 : decode cX7_open 31 = .ok (.dup, 1) := by decide +kernel
theorem dX7_open_32 : decode cX7_open 32 = .ok (.getfield 54, 3) := by decide +kernel
theorem dX7_open_35 : decode cX7_open 35 = .ok (.iconst 1, 1) := by decide +kernel
theorem dX7_open_36 : decode cX7_open 36 = .ok (.iadd, 1) := by decide +kernel
theorem dX7_open_37 : decode cX7_open 37 = .ok (.putfield 54, 3) := by decide +kernel
theorem dX7_open_40 : decode cX7_open 40 = .ok (.aload_n 0, 1) := by decide +kernel
theorem dX7_open_41 : decode cX7_open 41 = .ok (.getfield 54, 3) := by decide +kernel
theorem dX7_open_44 : decode cX7_open 44 = .ok (.iconst 1, 1) := by decide +kernel
theorem dX7_open_45 : decode cX7_open 45 = .ok (.isub, 1) := by decide +kernel
theorem dX7_open_46 : decode cX7_open 46 = .ok (.ireturn, 1) := by decide +kernel
def f_X7_open (X : x_X) (v0 : Nat) (v1 : Int32) (v2 : Int32) (v3 : Int32) (μ : x_M) : Option (Int32 × x_M) :=
  (ck (x_kd X v0 = 7 + 1) (bd (f_X9_within X (μ.1 v0 6) (0 : Int32) (5 : Int32) μ) (fun (v5 : Int32) (μ6 : x_M) => (if v5 = 0 then (some ((-4 : Int32), μ6)) else (ck (x_kd X v0 = 7 + 1) (lt (μ6.2.1 v0 1) (fun (v7 : Nat) => (ck (x_kd X v0 = 7 + 1) (lt (μ6.1 v0 6) (fun (v8 : Int32) => (ck ((x_kd X v7 = 23 ∨ x_kd X v7 = 24 ∨ x_kd X v7 = 25) ∧ x_ix v8 (x_ln X v7)) (lt (μ6.2.1 v7 (v8).toNatClampNeg) (fun (v9 : Nat) => (ck (x_kd X v9 = 0 + 1) (bd (f_X0_open X v9 v1 v2 v3 μ6) (fun (_ : Unit) (μ10 : x_M) => (ck (x_kd X v0 = 7 + 1) (ck (x_kd X v0 = 7 + 1) (lt (x_sI μ10 v0 6 ((μ10.1 v0 6) + (1 : Int32))) (fun (μ11 : x_M) => (ck (x_kd X v0 = 7 + 1) (some (((μ11.1 v0 6) - (1 : Int32)), μ11)))))))))))))))))))))))
set_option maxRecDepth 100000 in
theorem m_X7_open (hI : x_I X) (v0 : Nat) (v1 : Int32) (v2 : Int32) (v3 : Int32) (μ : x_M) : x_Met X x_Z0 l yX7_open cX7_open 4 (some .int) 2 [vR v0, vI v1, vI v2, vI v3] μ rkI (f_X7_open X v0 v1 v2 v3 μ) := by
  refine x_enter hI (by decide +kernel) (Nat.le_of_ble_eq_true rfl) (fun p e s m args below meth c hC hr hlk => ?_)
  unfold f_X7_open
  refine s_lv (lv' := [(0, vR v0), (1, vI v1), (2, vI v2), (3, vI v3)]) [0, 1, 2, 3] rfl ?_
  refine s_aload_n hC 0 dX7_open_0 rfl ?_
  refine s_getI hC xc7 (by decide) rfl qf_X7_54 dX7_open_1 ?_
  refine s_iconst hC dX7_open_4 (v := 0) (by decide) ?_
  refine s_iconst hC dX7_open_5 (v := 5) (by decide) ?_
  refine s_callS hC (avs := [vI (μ.1 v0 6), vI (0 : Int32), vI (5 : Int32)]) (st := []) (nest := true) (m_X9_within hI (μ.1 v0 6) (0 : Int32) (5 : Int32) μ) dX7_open_6 qm_X7_57 qt_X9_within qc_X9 qd_X9_within qh_X9_within (by decide) (fun _ => Nat.le_of_ble_eq_true rfl) (Nat.le_of_ble_eq_true rfl) (fun v5 μ6 => ?_)
  refine s_if_ne hC dX7_open_9 (tgt := 15) (by decide) ?_ ?_
  · refine s_aload_n hC 0 dX7_open_15 rfl ?_
    refine s_getR hC xc7 (by decide) rfl qf_X7_20 dX7_open_16 ?_
    refine s_ltR (fun v7 => ?_)
    refine s_aload_n hC 0 dX7_open_19 rfl ?_
    refine s_getI hC xc7 (by decide) rfl qf_X7_54 dX7_open_20 ?_
    refine s_ltI (fun v8 => ?_)
    refine s_aald hC dX7_open_23 ?_
    refine s_ltR (fun v9 => ?_)
    refine s_iload_n hC 1 dX7_open_24 rfl ?_
    refine s_iload_n hC 2 dX7_open_25 rfl ?_
    refine s_iload_n hC 3 dX7_open_26 rfl ?_
    refine s_callV hC (x := v9) (avs := [vI v1, vI v2, vI v3]) (st := []) (nest := false) xc0 (m_X0_open hI v9 v1 v2 v3 μ6) dX7_open_27 qm_X7_61 qi_X0_open qs_X0_open qc_X0 qd_X0_open qh_X0_open (by decide) (fun _ => Nat.le_of_ble_eq_true rfl) (Nat.le_of_ble_eq_true rfl) (fun _ μ10 => ?_)
    refine s_aload_n hC 0 dX7_open_30 rfl ?_
    refine s_dupR hC dX7_open_31 ?_
    refine s_getI hC xc7 (by decide) rfl qf_X7_54 dX7_open_32 ?_
    refine s_iconst hC dX7_open_35 (v := 1) (by decide) ?_
    refine s_iadd hC dX7_open_36 ?_
    refine s_putI hC xc7 (by decide) rfl rfl qf_X7_54 dX7_open_37 ?_
    refine s_ltM (fun μ11 => ?_)
    refine s_aload_n hC 0 dX7_open_40 rfl ?_
    refine s_getI hC xc7 (by decide) rfl qf_X7_54 dX7_open_41 ?_
    refine s_iconst hC dX7_open_44 (v := 1) (by decide) ?_
    refine s_isub hC dX7_open_45 ?_
    exact s_iret hC hr hlk dX7_open_46
  refine s_bipush hC dX7_open_12 (v := -4) (by decide) ?_
  exact s_iret hC hr hlk dX7_open_14
theorem dX7_copyFrom_0 : decode cX7_copyFrom 0 = .ok (.aload_n 0, 1) := by decide +kernel
theorem dX7_copyFrom_1 : decode cX7_copyFrom 1 = .ok (.getfield 12, 3) := by decide +kernel
theorem dX7_copyFrom_4 : decode cX7_copyFrom 4 = .ok (.aload_n 1, 1) := by decide +kernel
theorem dX7_copyFrom_5 : decode cX7_copyFrom 5 = .ok (.getfield 12, 3) := by decide +kernel
theorem dX7_copyFrom_8 : decode cX7_copyFrom 8 = .ok (.invokevirtual 152, 3) := by decide +kernel
theorem dX7_copyFrom_11 : decode cX7_copyFrom 11 = .ok (.iconst 0, 1) := by decide +kernel
theorem dX7_copyFrom_12 : decode cX7_copyFrom 12 = .ok (.istore_n 2, 1) := by decide +kernel
theorem dX7_copyFrom_13 : decode cX7_copyFrom 13 = .ok (.iload_n 2, 1) := by decide +kernel
theorem dX7_copyFrom_14 : decode cX7_copyFrom 14 = .ok (.bipush 6, 2) := by decide +kernel
theorem dX7_copyFrom_16 : decode cX7_copyFrom 16 = .ok (.if_icmp .ge 24, 3) := by decide +kernel
theorem dX7_copyFrom_19 : decode cX7_copyFrom 19 = .ok (.aload_n 0, 1) := by decide +kernel
theorem dX7_copyFrom_20 : decode cX7_copyFrom 20 = .ok (.getfield 20, 3) := by decide +kernel
theorem dX7_copyFrom_23 : decode cX7_copyFrom 23 = .ok (.iload_n 2, 1) := by decide +kernel
theorem dX7_copyFrom_24 : decode cX7_copyFrom 24 = .ok (.aaload, 1) := by decide +kernel
theorem dX7_copyFrom_25 : decode cX7_copyFrom 25 = .ok (.aload_n 1, 1) := by decide +kernel
theorem dX7_copyFrom_26 : decode cX7_copyFrom 26 = .ok (.getfield 20, 3) := by decide +kernel
theorem dX7_copyFrom_29 : decode cX7_copyFrom 29 = .ok (.iload_n 2, 1) := by decide +kernel
theorem dX7_copyFrom_30 : decode cX7_copyFrom 30 = .ok (.aaload, 1) := by decide +kernel
theorem dX7_copyFrom_31 : decode cX7_copyFrom 31 = .ok (.invokevirtual 156, 3) := by decide +kernel
theorem dX7_copyFrom_34 : decode cX7_copyFrom 34 = .ok (.iinc 2 1, 3) := by decide +kernel
theorem dX7_copyFrom_37 : decode cX7_copyFrom 37 = .ok (.goto (-24), 3) := by decide +kernel
theorem dX7_copyFrom_40 : decode cX7_copyFrom 40 = .ok (.aload_n 0, 1) := by decide +kernel
theorem dX7_copyFrom_41 : decode cX7_copyFrom 41 = .ok (.getfield 29, 3) := by decide +kernel
theorem dX7_copyFrom_44 : decode cX7_copyFrom 44 = .ok (.aload_n 1, 1) := by decide +kernel
theorem dX7_copyFrom_45 : decode cX7_copyFrom 45 = .ok (.getfield 29, 3) := by decide +kernel
theorem dX7_copyFrom_48 : decode cX7_copyFrom 48 = .ok (.invokevirtual 159, 3) := by decide +kernel
theorem dX7_copyFrom_51 : decode cX7_copyFrom 51 = .ok (.aload_n 0, 1) := by decide +kernel
theorem dX7_copyFrom_52 : decode cX7_copyFrom 52 = .ok (.getfield 33, 3) := by decide +kernel
theorem dX7_copyFrom_55 : decode cX7_copyFrom 55 = .ok (.aload_n 1, 1) := by decide +kernel
theorem dX7_copyFrom_56 : decode cX7_copyFrom 56 = .ok (.getfield 33, 3) := by decide +kernel
theorem dX7_copyFrom_59 : decode cX7_copyFrom 59 = .ok (.invokevirtual 159, 3) := by decide +kernel
theorem dX7_copyFrom_62 : decode cX7_copyFrom 62 = .ok (.aload_n 0, 1) := by decide +kernel
theorem dX7_copyFrom_63 : decode cX7_copyFrom 63 = .ok (.getfield 36, 3) := by decide +kernel
theorem dX7_copyFrom_66 : decode cX7_copyFrom 66 = .ok (.aload_n 1, 1) := by decide +kernel
theorem dX7_copyFrom_67 : decode cX7_copyFrom 67 = .ok (.getfield 36, 3) := by decide +kernel
theorem dX7_copyFrom_70 : decode cX7_copyFrom 70 = .ok (.invokevirtual 159, 3) := by decide +kernel
theorem dX7_copyFrom_73 : decode cX7_copyFrom 73 = .ok (.aload_n 0, 1) := by decide +kernel
theorem dX7_copyFrom_74 : decode cX7_copyFrom 74 = .ok (.aload_n 1, 1) := by decide +kernel
theorem dX7_copyFrom_75 : decode cX7_copyFrom 75 = .ok (.getfield 42, 3) := by decide +kernel
theorem dX7_copyFrom_78 : decode cX7_copyFrom 78 = .ok (.putfield 42, 3) := by decide +kernel
theorem dX7_copyFrom_81 : decode cX7_copyFrom 81 = .ok (.aload_n 0, 1) := by decide +kernel
theorem dX7_copyFrom_82 : decode cX7_copyFrom 82 = .ok (.aload_n 1, 1) := by decide +kernel
theorem dX7_copyFrom_83 : decode cX7_copyFrom 83 = .ok (.getfield 54, 3) := by decide +kernel
theorem dX7_copyFrom_86 : decode cX7_copyFrom 86 = .ok (.putfield 54, 3) := by decide +kernel
theorem dX7_copyFrom_89 : decode cX7_copyFrom 89 = .ok (.aload_n 0, 1) := by decide +kernel
theorem dX7_copyFrom_90 : decode cX7_copyFrom 90 = .ok (.aload_n 1, 1) := by decide +kernel
theorem dX7_copyFrom_91 : decode cX7_copyFrom 91 = .ok (.getfield 46, 3) := by decide +kernel
theorem dX7_copyFrom_94 : decode cX7_copyFrom 94 = .ok (.putfield 46, 3) := by decide +kernel
theorem dX7_copyFrom_97 : decode cX7_copyFrom 97 = .ok (.aload_n 0, 1) := by decide +kernel
theorem dX7_copyFrom_98 : decode cX7_copyFrom 98 = .ok (.aload_n 1, 1) := by decide +kernel
theorem dX7_copyFrom_99 : decode cX7_copyFrom 99 = .ok (.getfield 146, 3) := by decide +kernel
theorem dX7_copyFrom_102 : decode cX7_copyFrom 102 = .ok (.putfield 146, 3) := by decide +kernel
theorem dX7_copyFrom_105 : decode cX7_copyFrom 105 = .ok (.aload_n 0, 1) := by decide +kernel
theorem dX7_copyFrom_106 : decode cX7_copyFrom 106 = .ok (.aload_n 1, 1) := by decide +kernel
theorem dX7_copyFrom_107 : decode cX7_copyFrom 107 = .ok (.getfield 80, 3) := by decide +kernel
theorem dX7_copyFrom_110 : decode cX7_copyFrom 110 = .ok (.putfield 80, 3) := by decide +kernel
theorem dX7_copyFrom_113 : decode cX7_copyFrom 113 = .ok (.aload_n 0, 1) := by decide +kernel
theorem dX7_copyFrom_114 : decode cX7_copyFrom 114 = .ok (.iconst 0, 1) := by decide +kernel
theorem dX7_copyFrom_115 : decode cX7_copyFrom 115 = .ok (.putfield 83, 3) := by decide +kernel
theorem dX7_copyFrom_118 : decode cX7_copyFrom 118 = .ok (.aload_n 0, 1) := by decide +kernel
theorem dX7_copyFrom_119 : decode cX7_copyFrom 119 = .ok (.iconst (-1), 1) := by decide +kernel
theorem dX7_copyFrom_120 : decode cX7_copyFrom 120 = .ok (.putfield 50, 3) := by decide +kernel
theorem dX7_copyFrom_123 : decode cX7_copyFrom 123 = .ok (.return_, 1) := by decide +kernel
def f_X7_copyFrom_L13 (X : x_X) (k40 : Nat → Nat → x_M → Option (Unit × x_M)) : Nat → Nat → Nat → Int32 → x_M → Option (Unit × x_M)
  | 0, _, _, _, _ => none
  | n + 1, v6, v7, v8, μ9 =>
    (if (6 : Int32) ≤ v8 then (k40 v6 v7 μ9) else (ck (x_kd X v6 = 7 + 1) (lt (μ9.2.1 v6 1) (fun (v10 : Nat) => (ck ((x_kd X v10 = 23 ∨ x_kd X v10 = 24 ∨ x_kd X v10 = 25) ∧ x_ix v8 (x_ln X v10)) (lt (μ9.2.1 v10 (v8).toNatClampNeg) (fun (v11 : Nat) => (ck (x_kd X v7 = 7 + 1) (lt (μ9.2.1 v7 1) (fun (v12 : Nat) => (ck ((x_kd X v12 = 23 ∨ x_kd X v12 = 24 ∨ x_kd X v12 = 25) ∧ x_ix v8 (x_ln X v12)) (lt (μ9.2.1 v12 (v8).toNatClampNeg) (fun (v13 : Nat) => (ck (x_kd X v11 = 0 + 1) (bd (f_X0_copyFrom X v11 v13 μ9) (fun (_ : Unit) (μ14 : x_M) => (f_X7_copyFrom_L13 X k40 n v6 v7 (v8 + (1 : Int32)) μ14)))))))))))))))))
set_option maxRecDepth 100000 in
theorem j_X7_copyFrom_L13 (hI : x_I X) (hC : x_C X x_Z0 p (x_rm 3) s m c cX7_copyFrom RX7 3 0 0 3) (hr : meth.sig.returnType = none) (hlk : meth.locks = false) {k40 : Nat → Nat → x_M → Option (Unit × x_M)} (hk40 : ∀ (b0 : Nat) (b1 : Nat) (μ : x_M), SM X 3 3 rkV p l e s m args below meth c 40 [(0, vR b0), (1, vR b1)] [] μ (k40 b0 b1 μ)) : ∀ (n : Nat) (v6 : Nat) (v7 : Nat) (v8 : Int32) (μ9 : x_M), SM X 3 3 rkV p l e s m args below meth c 13 [(0, vR v6), (1, vR v7), (2, vI v8)] [] μ9 (f_X7_copyFrom_L13 X k40 n v6 v7 v8 μ9) := by
  intro n
  induction n with
  | zero => intro v6 v7 v8 μ9; exact s_none
  | succ n ih =>
    intro v6 v7 v8 μ9
    unfold f_X7_copyFrom_L13
    refine s_iload_n hC 2 dX7_copyFrom_13 rfl ?_
    refine s_bipush hC dX7_copyFrom_14 (v := 6) (by decide) ?_
    refine s_icmp_ge hC dX7_copyFrom_16 (tgt := 40) (by decide) ?_ ?_
    · refine s_lv (lv' := [(0, vR v6), (1, vR v7)]) [0, 1] rfl ?_
      exact hk40 _ _ _
    refine s_aload_n hC 0 dX7_copyFrom_19 rfl ?_
    refine s_getR hC xc7 (by decide) rfl qf_X7_20 dX7_copyFrom_20 ?_
    refine s_ltR (fun v10 => ?_)
    refine s_iload_n hC 2 dX7_copyFrom_23 rfl ?_
    refine s_aald hC dX7_copyFrom_24 ?_
    refine s_ltR (fun v11 => ?_)
    refine s_aload_n hC 1 dX7_copyFrom_25 rfl ?_
    refine s_getR hC xc7 (by decide) rfl qf_X7_20 dX7_copyFrom_26 ?_
    refine s_ltR (fun v12 => ?_)
    refine s_iload_n hC 2 dX7_copyFrom_29 rfl ?_
    refine s_aald hC dX7_copyFrom_30 ?_
    refine s_ltR (fun v13 => ?_)
    refine s_callV hC (x := v11) (avs := [vR v13]) (st := []) (nest := false) xc0 (m_X0_copyFrom hI v11 v13 μ9) dX7_copyFrom_31 qm_X7_156 qi_X0_copyFrom qs_X0_copyFrom qc_X0 qd_X0_copyFrom qh_X0_copyFrom (by decide) (fun _ => Nat.le_of_ble_eq_true rfl) (Nat.le_of_ble_eq_true rfl) (fun _ μ14 => ?_)
    refine s_iinc hC 2 dX7_copyFrom_34 rfl (w := 1) (by decide) (by decide) (lv' := [(2, vI (v8 + (1 : Int32))), (0, vR v6), (1, vR v7)]) rfl ?_
    refine s_goto hC dX7_copyFrom_37 (tgt := 13) (by decide) ?_
    refine s_lv (lv' := [(0, vR v6), (1, vR v7), (2, vI (v8 + (1 : Int32)))]) [1, 2, 0] rfl ?_
    exact ih _ _ _ _
def f_X7_copyFrom (X : x_X) (v0 : Nat) (v1 : Nat) (μ : x_M) : Option (Unit × x_M) :=
  (ck (x_kd X v0 = 7 + 1) (lt (μ.2.1 v0 0) (fun (v3 : Nat) => (ck (x_kd X v1 = 7 + 1) (lt (μ.2.1 v1 0) (fun (v4 : Nat) => (ck (x_kd X v3 = 3 + 1) (bd (f_X3_copyFrom X v3 v4 μ) (fun (_ : Unit) (μ5 : x_M) => (f_X7_copyFrom_L13 X (fun (v15 : Nat) (v16 : Nat) (μ17 : x_M) => (ck (x_kd X v15 = 7 + 1) (lt (μ17.2.1 v15 2) (fun (v18 : Nat) => (ck (x_kd X v16 = 7 + 1) (lt (μ17.2.1 v16 2) (fun (v19 : Nat) => (ck (x_kd X v18 = 6 + 1) (bd (f_X6_copyFrom X v18 v19 μ17) (fun (_ : Unit) (μ20 : x_M) => (ck (x_kd X v15 = 7 + 1) (lt (μ20.2.1 v15 3) (fun (v21 : Nat) => (ck (x_kd X v16 = 7 + 1) (lt (μ20.2.1 v16 3) (fun (v22 : Nat) => (ck (x_kd X v21 = 6 + 1) (bd (f_X6_copyFrom X v21 v22 μ20) (fun (_ : Unit) (μ23 : x_M) => (ck (x_kd X v15 = 7 + 1) (lt (μ23.2.1 v15 4) (fun (v24 : Nat) => (ck (x_kd X v16 = 7 + 1) (lt (μ23.2.1 v16 4) (fun (v25 : Nat) => (ck (x_kd X v24 = 6 + 1) (bd (f_X6_copyFrom X v24 v25 μ23) (fun (_ : Unit) (μ26 : x_M) => (ck (x_kd X v16 = 7 + 1) (lt (μ26.2.1 v16 5) (fun (v27 : Nat) => (ck (x_kd X v15 = 7 + 1) (lt (x_sR μ26 v15 5 v27) (fun (μ28 : x_M) => (ck (x_kd X v16 = 7 + 1) (ck (x_kd X v15 = 7 + 1) (lt (x_sI μ28 v15 6 (μ28.1 v16 6)) (fun (μ29 : x_M) => (ck (x_kd X v16 = 7 + 1) (ck (x_kd X v15 = 7 + 1) (lt (x_sI μ29 v15 7 (μ29.1 v16 7)) (fun (μ30 : x_M) => (ck (x_kd X v16 = 7 + 1) (ck (x_kd X v15 = 7 + 1) (lt (x_sI μ30 v15 8 (μ30.1 v16 8)) (fun (μ31 : x_M) => (ck (x_kd X v16 = 7 + 1) (ck (x_kd X v15 = 7 + 1) (lt (x_sI μ31 v15 9 (μ31.1 v16 9)) (fun (μ32 : x_M) => (ck (x_kd X v15 = 7 + 1) (lt (x_sI μ32 v15 10 (0 : Int32)) (fun (μ33 : x_M) => (ck (x_kd X v15 = 7 + 1) (lt (x_sI μ33 v15 11 (-1 : Int32)) (fun (μ34 : x_M) => (some ((), μ34)))))))))))))))))))))))))))))))))))))))))))))))))))))))))) 4096 v0 v1 (0 : Int32) μ5))))))))))
set_option maxRecDepth 100000 in
theorem m_X7_copyFrom (hI : x_I X) (v0 : Nat) (v1 : Nat) (μ : x_M) : x_Met X x_Z0 l yX7_copyFrom cX7_copyFrom 3 none 3 [vR v0, vR v1] μ rkV (f_X7_copyFrom X v0 v1 μ) := by
  refine x_enter hI (by decide +kernel) (Nat.le_of_ble_eq_true rfl) (fun p e s m args below meth c hC hr hlk => ?_)
  unfold f_X7_copyFrom
  refine s_lv (lv' := [(0, vR v0), (1, vR v1)]) [0, 1] rfl ?_
  refine s_aload_n hC 0 dX7_copyFrom_0 rfl ?_
  refine s_getR hC xc7 (by decide) rfl qf_X7_12 dX7_copyFrom_1 ?_
  refine s_ltR (fun v3 => ?_)
  refine s_aload_n hC 1 dX7_copyFrom_4 rfl ?_
  refine s_getR hC xc7 (by decide) rfl qf_X7_12 dX7_copyFrom_5 ?_
  refine s_ltR (fun v4 => ?_)
  refine s_callV hC (x := v3) (avs := [vR v4]) (st := []) (nest := false) xc3 (m_X3_copyFrom hI v3 v4 μ) dX7_copyFrom_8 qm_X7_152 qi_X3_copyFrom qs_X3_copyFrom qc_X3 qd_X3_copyFrom qh_X3_copyFrom (by decide) (fun _ => Nat.le_of_ble_eq_true rfl) (Nat.le_of_ble_eq_true rfl) (fun _ μ5 => ?_)
  refine s_iconst hC dX7_copyFrom_11 (v := 0) (by decide) ?_
  refine s_istore_n hC dX7_copyFrom_12 (by decide) (lv' := [(2, vI (0 : Int32)), (0, vR v0), (1, vR v1)]) rfl ?_
  refine s_lv (lv' := [(0, vR v0), (1, vR v1), (2, vI (0 : Int32))]) [1, 2, 0] rfl ?_
  refine j_X7_copyFrom_L13 hI hC hr hlk (fun v15 v16 μ17 => ?_) 4096 _ _ _ _
  refine s_aload_n hC 0 dX7_copyFrom_40 rfl ?_
  refine s_getR hC xc7 (by decide) rfl qf_X7_29 dX7_copyFrom_41 ?_
  refine s_ltR (fun v18 => ?_)
  refine s_aload_n hC 1 dX7_copyFrom_44 rfl ?_
  refine s_getR hC xc7 (by decide) rfl qf_X7_29 dX7_copyFrom_45 ?_
  refine s_ltR (fun v19 => ?_)
  refine s_callV hC (x := v18) (avs := [vR v19]) (st := []) (nest := false) xc6 (m_X6_copyFrom hI v18 v19 μ17) dX7_copyFrom_48 qm_X7_159 qi_X6_copyFrom qs_X6_copyFrom qc_X6 qd_X6_copyFrom qh_X6_copyFrom (by decide) (fun _ => Nat.le_of_ble_eq_true rfl) (Nat.le_of_ble_eq_true rfl) (fun _ μ20 => ?_)
  refine s_aload_n hC 0 dX7_copyFrom_51 rfl ?_
  refine s_getR hC xc7 (by decide) rfl qf_X7_33 dX7_copyFrom_52 ?_
  refine s_ltR (fun v21 => ?_)
  refine s_aload_n hC 1 dX7_copyFrom_55 rfl ?_
  refine s_getR hC xc7 (by decide) rfl qf_X7_33 dX7_copyFrom_56 ?_
  refine s_ltR (fun v22 => ?_)
  refine s_callV hC (x := v21) (avs := [vR v22]) (st := []) (nest := false) xc6 (m_X6_copyFrom hI v21 v22 μ20) dX7_copyFrom_59 qm_X7_159 qi_X6_copyFrom qs_X6_copyFrom qc_X6 qd_X6_copyFrom qh_X6_copyFrom (by decide) (fun _ => Nat.le_of_ble_eq_true rfl) (Nat.le_of_ble_eq_true rfl) (fun _ μ23 => ?_)
  refine s_aload_n hC 0 dX7_copyFrom_62 rfl ?_
  refine s_getR hC xc7 (by decide) rfl qf_X7_36 dX7_copyFrom_63 ?_
  refine s_ltR (fun v24 => ?_)
  refine s_aload_n hC 1 dX7_copyFrom_66 rfl ?_
  refine s_getR hC xc7 (by decide) rfl qf_X7_36 dX7_copyFrom_67 ?_
  refine s_ltR (fun v25 => ?_)
  refine s_callV hC (x := v24) (avs := [vR v25]) (st := []) (nest := false) xc6 (m_X6_copyFrom hI v24 v25 μ23) dX7_copyFrom_70 qm_X7_159 qi_X6_copyFrom qs_X6_copyFrom qc_X6 qd_X6_copyFrom qh_X6_copyFrom (by decide) (fun _ => Nat.le_of_ble_eq_true rfl) (Nat.le_of_ble_eq_true rfl) (fun _ μ26 => ?_)
  refine s_aload_n hC 0 dX7_copyFrom_73 rfl ?_
  refine s_aload_n hC 1 dX7_copyFrom_74 rfl ?_
  refine s_getR hC xc7 (by decide) rfl qf_X7_42 dX7_copyFrom_75 ?_
  refine s_ltR (fun v27 => ?_)
  refine s_putR hC xc7 (by decide) rfl rfl qf_X7_42 dX7_copyFrom_78 ?_
  refine s_ltM (fun μ28 => ?_)
  refine s_aload_n hC 0 dX7_copyFrom_81 rfl ?_
  refine s_aload_n hC 1 dX7_copyFrom_82 rfl ?_
  refine s_getI hC xc7 (by decide) rfl qf_X7_54 dX7_copyFrom_83 ?_
  refine s_putI hC xc7 (by decide) rfl rfl qf_X7_54 dX7_copyFrom_86 ?_
  refine s_ltM (fun μ29 => ?_)
  refine s_aload_n hC 0 dX7_copyFrom_89 rfl ?_
  refine s_aload_n hC 1 dX7_copyFrom_90 rfl ?_
  refine s_getI hC xc7 (by decide) rfl qf_X7_46 dX7_copyFrom_91 ?_
  refine s_putI hC xc7 (by decide) rfl rfl qf_X7_46 dX7_copyFrom_94 ?_
  refine s_ltM (fun μ30 => ?_)
  refine s_aload_n hC 0 dX7_copyFrom_97 rfl ?_
  refine s_aload_n hC 1 dX7_copyFrom_98 rfl ?_
  refine s_getI hC xc7 (by decide) rfl qf_X7_146 dX7_copyFrom_99 ?_
  refine s_putI hC xc7 (by decide) rfl rfl qf_X7_146 dX7_copyFrom_102 ?_
  refine s_ltM (fun μ31 => ?_)
  refine s_aload_n hC 0 dX7_copyFrom_105 rfl ?_
  refine s_aload_n hC 1 dX7_copyFrom_106 rfl ?_
  refine s_getI hC xc7 (by decide) rfl qf_X7_80 dX7_copyFrom_107 ?_
  refine s_putI hC xc7 (by decide) rfl rfl qf_X7_80 dX7_copyFrom_110 ?_
  refine s_ltM (fun μ32 => ?_)
  refine s_aload_n hC 0 dX7_copyFrom_113 rfl ?_
  refine s_iconst hC dX7_copyFrom_114 (v := 0) (by decide) ?_
  refine s_putI hC xc7 (by decide) rfl rfl qf_X7_83 dX7_copyFrom_115 ?_
  refine s_ltM (fun μ33 => ?_)
  refine s_aload_n hC 0 dX7_copyFrom_118 rfl ?_
  refine s_iconst hC dX7_copyFrom_119 (v := -1) (by decide) ?_
  refine s_putI hC xc7 (by decide) rfl rfl qf_X7_50 dX7_copyFrom_120 ?_
  refine s_ltM (fun μ34 => ?_)
  exact s_vret hC hr hlk dX7_copyFrom_123
theorem dX7_isDry_0 : decode cX7_isDry 0 = .ok (.aload_n 0, 1) := by decide +kernel
theorem dX7_isDry_1 : decode cX7_isDry 1 = .ok (.invokevirtual 94, 3) := by decide +kernel
theorem dX7_isDry_4 : decode cX7_isDry 4 = .ok (.aload_n 0, 1) := by decide +kernel
theorem dX7_isDry_5 : decode cX7_isDry 5 = .ok (.getfield 42, 3) := by decide +kernel
theorem dX7_isDry_8 : decode cX7_isDry 8 = .ok (.getfield 97, 3) := by decide +kernel
theorem dX7_isDry_11 : decode cX7_isDry 11 = .ok (.if_icmp .gt 7, 3) := by decide +kernel
theorem dX7_isDry_14 : decode cX7_isDry 14 = .ok (.iconst 1, 1) := by decide +kernel
theorem dX7_isDry_15 : decode cX7_isDry 15 = .ok (.goto 4, 3) := by decide +kernel
theorem dX7_isDry_18 : decode cX7_isDry 18 = .ok (.iconst 0, 1) := by decide +kernel
theorem dX7_isDry_19 : decode cX7_isDry 19 = .ok (.ireturn, 1) := by decide +kernel
def f_X7_isDry (X : x_X) (v0 : Nat) (μ : x_M) : Option (Int32 × x_M) :=
  (ck (x_kd X v0 = 7 + 1) (bd (f_X7_level X v0 μ) (fun (v2 : Int32) (μ3 : x_M) => (ck (x_kd X v0 = 7 + 1) (lt (μ3.2.1 v0 5) (fun (v4 : Nat) => (ck (x_kd X v4 = 4 + 1) (if (μ3.1 v4 8) < v2 then (ck ((0 : Int32) = 0 ∨ (0 : Int32) = 1) (some ((0 : Int32), μ3))) else (ck ((1 : Int32) = 0 ∨ (1 : Int32) = 1) (some ((1 : Int32), μ3)))))))))))
set_option maxRecDepth 100000 in
theorem m_X7_isDry (hI : x_I X) (v0 : Nat) (μ : x_M) : x_Met X x_Z0 l yX7_isDry cX7_isDry 1 (some .boolean) 3 [vR v0] μ rkI (f_X7_isDry X v0 μ) := by
  refine x_enter hI (by decide +kernel) (Nat.le_of_ble_eq_true rfl) (fun p e s m args below meth c hC hr hlk => ?_)
  unfold f_X7_isDry
  refine s_lv (lv' := [(0, vR v0)]) [0] rfl ?_
  refine s_aload_n hC 0 dX7_isDry_0 rfl ?_
  refine s_callV hC (x := v0) (avs := []) (st := []) (nest := false) xc7 (m_X7_level hI v0 μ) dX7_isDry_1 qm_X7_94 qi_X7_level qs_X7_level qc_X7 qd_X7_level qh_X7_level (by decide) (fun _ => Nat.le_of_ble_eq_true rfl) (Nat.le_of_ble_eq_true rfl) (fun v2 μ3 => ?_)
  refine s_aload_n hC 0 dX7_isDry_4 rfl ?_
  refine s_getR hC xc7 (by decide) rfl qf_X7_42 dX7_isDry_5 ?_
  refine s_ltR (fun v4 => ?_)
  refine s_getI hC xc4 (by decide) rfl qf_X7_97 dX7_isDry_8 ?_
  refine s_icmp_gt hC dX7_isDry_11 (tgt := 18) (by decide) ?_ ?_
  · refine s_iconst hC dX7_isDry_18 (v := 0) (by decide) ?_
    exact s_zret hC hr hlk dX7_isDry_19
  refine s_iconst hC dX7_isDry_14 (v := 1) (by decide) ?_
  refine s_goto hC dX7_isDry_15 (tgt := 19) (by decide) ?_
  exact s_zret hC hr hlk dX7_isDry_19
theorem dX7_firstBelow_0 : decode cX7_firstBelow 0 = .ok (.iconst 0, 1) := by decide +kernel
theorem dX7_firstBelow_1 : decode cX7_firstBelow 1 = .ok (.istore_n 2, 1) := by decide +kernel
theorem dX7_firstBelow_2 : decode cX7_firstBelow 2 = .ok (.iload_n 2, 1) := by decide +kernel
theorem dX7_firstBelow_3 : decode cX7_firstBelow 3 = .ok (.aload_n 0, 1) := by decide +kernel
theorem dX7_firstBelow_4 : decode cX7_firstBelow 4 = .ok (.getfield 54, 3) := by decide +kernel
theorem dX7_firstBelow_7 : decode cX7_firstBelow 7 = .ok (.if_icmp .ge 20, 3) := by decide +kernel
theorem dX7_firstBelow_10 : decode cX7_firstBelow 10 = .ok (.aload_n 0, 1) := by decide +kernel
theorem dX7_firstBelow_11 : decode cX7_firstBelow 11 = .ok (.iload_n 2, 1) := by decide +kernel
theorem dX7_firstBelow_12 : decode cX7_firstBelow 12 = .ok (.invokevirtual 100, 3) := by decide +kernel
theorem dX7_firstBelow_15 : decode cX7_firstBelow 15 = .ok (.iload_n 1, 1) := by decide +kernel
theorem dX7_firstBelow_16 : decode cX7_firstBelow 16 = .ok (.if_icmp .ge 5, 3) := by decide +kernel
theorem dX7_firstBelow_19 : decode cX7_firstBelow 19 = .ok (.iload_n 2, 1) := by decide +kernel
theorem dX7_firstBelow_20 : decode cX7_firstBelow 20 = .ok (.ireturn, 1) := by decide +kernel
theorem dX7_firstBelow_21 : decode cX7_firstBelow 21 = .ok (.iinc 2 1, 3) := by decide +kernel
theorem dX7_firstBelow_24 : decode cX7_firstBelow 24 = .ok (.goto (-22), 3) := by decide +kernel
theorem dX7_firstBelow_27 : decode cX7_firstBelow 27 = .ok (.bipush (-5), 2) := by decide +kernel
theorem dX7_firstBelow_29 : decode cX7_firstBelow 29 = .ok (.ireturn, 1) := by decide +kernel
def f_X7_firstBelow_L2 (X : x_X) : Nat → Nat → Int32 → Int32 → x_M → Option (Int32 × x_M)
  | 0, _, _, _, _ => none
  | n + 1, v3, v4, v5, μ6 =>
    (ck (x_kd X v3 = 7 + 1) (if (μ6.1 v3 6) ≤ v5 then (some ((-5 : Int32), μ6)) else (ck (x_kd X v3 = 7 + 1) (bd (f_X7_bucketsOf X v3 v5 μ6) (fun (v7 : Int32) (μ8 : x_M) => (if v4 ≤ v7 then (f_X7_firstBelow_L2 X n v3 v4 (v5 + (1 : Int32)) μ8) else (some (v5, μ8))))))))
set_option maxRecDepth 100000 in
theorem j_X7_firstBelow_L2 (hI : x_I X) (hC : x_C X x_Z0 p (x_rm 3) s m c cX7_firstBelow RX7 3 0 0 3) (hr : meth.sig.returnType = (some .int)) (hlk : meth.locks = false) : ∀ (n : Nat) (v3 : Nat) (v4 : Int32) (v5 : Int32) (μ6 : x_M), SM X 3 3 rkI p l e s m args below meth c 2 [(0, vR v3), (1, vI v4), (2, vI v5)] [] μ6 (f_X7_firstBelow_L2 X n v3 v4 v5 μ6) := by
  intro n
  induction n with
  | zero => intro v3 v4 v5 μ6; exact s_none
  | succ n ih =>
    intro v3 v4 v5 μ6
    unfold f_X7_firstBelow_L2
    refine s_iload_n hC 2 dX7_firstBelow_2 rfl ?_
    refine s_aload_n hC 0 dX7_firstBelow_3 rfl ?_
    refine s_getI hC xc7 (by decide) rfl qf_X7_54 dX7_firstBelow_4 ?_
    refine s_icmp_ge hC dX7_firstBelow_7 (tgt := 27) (by decide) ?_ ?_
    · refine s_bipush hC dX7_firstBelow_27 (v := -5) (by decide) ?_
      exact s_iret hC hr hlk dX7_firstBelow_29
    refine s_aload_n hC 0 dX7_firstBelow_10 rfl ?_
    refine s_iload_n hC 2 dX7_firstBelow_11 rfl ?_
    refine s_callV hC (x := v3) (avs := [vI v5]) (st := []) (nest := false) xc7 (m_X7_bucketsOf hI v3 v5 μ6) dX7_firstBelow_12 qm_X7_100 qi_X7_bucketsOf qs_X7_bucketsOf qc_X7 qd_X7_bucketsOf qh_X7_bucketsOf (by decide) (fun _ => Nat.le_of_ble_eq_true rfl) (Nat.le_of_ble_eq_true rfl) (fun v7 μ8 => ?_)
    refine s_iload_n hC 1 dX7_firstBelow_15 rfl ?_
    refine s_icmp_ge hC dX7_firstBelow_16 (tgt := 21) (by decide) ?_ ?_
    · refine s_iinc hC 2 dX7_firstBelow_21 rfl (w := 1) (by decide) (by decide) (lv' := [(2, vI (v5 + (1 : Int32))), (0, vR v3), (1, vI v4)]) rfl ?_
      refine s_goto hC dX7_firstBelow_24 (tgt := 2) (by decide) ?_
      refine s_lv (lv' := [(0, vR v3), (1, vI v4), (2, vI (v5 + (1 : Int32)))]) [1, 2, 0] rfl ?_
      exact ih _ _ _ _
    refine s_iload_n hC 2 dX7_firstBelow_19 rfl ?_
    exact s_iret hC hr hlk dX7_firstBelow_20
def f_X7_firstBelow (X : x_X) (v0 : Nat) (v1 : Int32) (μ : x_M) : Option (Int32 × x_M) :=
  (f_X7_firstBelow_L2 X 4096 v0 v1 (0 : Int32) μ)
set_option maxRecDepth 100000 in
theorem m_X7_firstBelow (hI : x_I X) (v0 : Nat) (v1 : Int32) (μ : x_M) : x_Met X x_Z0 l yX7_firstBelow cX7_firstBelow 3 (some .int) 3 [vR v0, vI v1] μ rkI (f_X7_firstBelow X v0 v1 μ) := by
  refine x_enter hI (by decide +kernel) (Nat.le_of_ble_eq_true rfl) (fun p e s m args below meth c hC hr hlk => ?_)
  unfold f_X7_firstBelow
  refine s_lv (lv' := [(0, vR v0), (1, vI v1)]) [0, 1] rfl ?_
  refine s_iconst hC dX7_firstBelow_0 (v := 0) (by decide) ?_
  refine s_istore_n hC dX7_firstBelow_1 (by decide) (lv' := [(2, vI (0 : Int32)), (0, vR v0), (1, vI v1)]) rfl ?_
  refine s_lv (lv' := [(0, vR v0), (1, vI v1), (2, vI (0 : Int32))]) [1, 2, 0] rfl ?_
  refine j_X7_firstBelow_L2 hI hC hr hlk 4096 _ _ _ _
theorem dX7_richestNow_0 : decode cX7_richestNow 0 = .ok (.bipush (-5), 2) := by decide +kernel
theorem dX7_richestNow_2 : decode cX7_richestNow 2 = .ok (.istore_n 1, 1) := by decide +kernel
theorem dX7_richestNow_3 : decode cX7_richestNow 3 = .ok (.iconst 0, 1) := by decide +kernel
theorem dX7_richestNow_4 : decode cX7_richestNow 4 = .ok (.istore_n 2, 1) := by decide +kernel
theorem dX7_richestNow_5 : decode cX7_richestNow 5 = .ok (.iload_n 2, 1) := by decide +kernel
theorem dX7_richestNow_6 : decode cX7_richestNow 6 = .ok (.aload_n 0, 1) := by decide +kernel
theorem dX7_richestNow_7 : decode cX7_richestNow 7 = .ok (.getfield 54, 3) := by decide +kernel
theorem dX7_richestNow_10 : decode cX7_richestNow 10 = .ok (.if_icmp .ge 30, 3) := by decide +kernel
theorem dX7_richestNow_13 : decode cX7_richestNow 13 = .ok (.iload_n 1, 1) := by decide +kernel
theorem dX7_richestNow_14 : decode cX7_richestNow 14 = .ok (.bipush (-5), 2) := by decide +kernel
theorem dX7_richestNow_16 : decode cX7_richestNow 16 = .ok (.if_icmp .eq 16, 3) := by decide +kernel
theorem dX7_richestNow_19 : decode cX7_richestNow 19 = .ok (.aload_n 0, 1) := by decide +kernel
theorem dX7_richestNow_20 : decode cX7_richestNow 20 = .ok (.iload_n 2, 1) := by decide +kernel
theorem dX7_richestNow_21 : decode cX7_richestNow 21 = .ok (.invokevirtual 100, 3) := by decide +kernel
theorem dX7_richestNow_24 : decode cX7_richestNow 24 = .ok (.aload_n 0, 1) := by decide +kernel
theorem dX7_richestNow_25 : decode cX7_richestNow 25 = .ok (.iload_n 1, 1) := by decide +kernel
theorem dX7_richestNow_26 : decode cX7_richestNow 26 = .ok (.invokevirtual 100, 3) := by decide +kernel
theorem dX7_richestNow_29 : decode cX7_richestNow 29 = .ok (.if_icmp .le 5, 3) := by decide +kernel
theorem dX7_richestNow_32 : decode cX7_richestNow 32 = .ok (.iload_n 2, 1) := by decide +kernel
theorem dX7_richestNow_33 : decode cX7_richestNow 33 = .ok (.istore_n 1, 1) := by decide +kernel
theorem dX7_richestNow_34 : decode cX7_richestNow 34 = .ok (.iinc 2 1, 3) := by decide +kernel
theorem dX7_richestNow_37 : decode cX7_richestNow 37 = .ok (.goto (-32), 3) := by decide +kernel
theorem dX7_richestNow_40 : decode cX7_richestNow 40 = .ok (.iload_n 1, 1) := by decide +kernel
theorem dX7_richestNow_41 : decode cX7_richestNow 41 = .ok (.ireturn, 1) := by decide +kernel
def f_X7_richestNow_L5 (X : x_X) : Nat → Nat → Int32 → Int32 → x_M → Option (Int32 × x_M)
  | 0, _, _, _, _ => none
  | n + 1, v2, v3, v4, μ5 =>
    (ck (x_kd X v2 = 7 + 1) (if (μ5.1 v2 6) ≤ v4 then (some (v3, μ5)) else (if v3 = (-5 : Int32) then (f_X7_richestNow_L5 X n v2 v4 (v4 + (1 : Int32)) μ5) else (ck (x_kd X v2 = 7 + 1) (bd (f_X7_bucketsOf X v2 v4 μ5) (fun (v6 : Int32) (μ7 : x_M) => (ck (x_kd X v2 = 7 + 1) (bd (f_X7_bucketsOf X v2 v3 μ7) (fun (v8 : Int32) (μ9 : x_M) => (if v6 ≤ v8 then (f_X7_richestNow_L5 X n v2 v3 (v4 + (1 : Int32)) μ9) else (f_X7_richestNow_L5 X n v2 v4 (v4 + (1 : Int32)) μ9)))))))))))
set_option maxRecDepth 100000 in
theorem j_X7_richestNow_L5 (hI : x_I X) (hC : x_C X x_Z0 p (x_rm 3) s m c cX7_richestNow RX7 3 0 0 3) (hr : meth.sig.returnType = (some .int)) (hlk : meth.locks = false) : ∀ (n : Nat) (v2 : Nat) (v3 : Int32) (v4 : Int32) (μ5 : x_M), SM X 3 3 rkI p l e s m args below meth c 5 [(0, vR v2), (1, vI v3), (2, vI v4)] [] μ5 (f_X7_richestNow_L5 X n v2 v3 v4 μ5) := by
  intro n
  induction n with
  | zero => intro v2 v3 v4 μ5; exact s_none
  | succ n ih =>
    intro v2 v3 v4 μ5
    unfold f_X7_richestNow_L5
    refine s_iload_n hC 2 dX7_richestNow_5 rfl ?_
    refine s_aload_n hC 0 dX7_richestNow_6 rfl ?_
    refine s_getI hC xc7 (by decide) rfl qf_X7_54 dX7_richestNow_7 ?_
    refine s_icmp_ge hC dX7_richestNow_10 (tgt := 40) (by decide) ?_ ?_
    · refine s_iload_n hC 1 dX7_richestNow_40 rfl ?_
      exact s_iret hC hr hlk dX7_richestNow_41
    refine s_iload_n hC 1 dX7_richestNow_13 rfl ?_
    refine s_bipush hC dX7_richestNow_14 (v := -5) (by decide) ?_
    refine s_icmp_eq hC dX7_richestNow_16 (tgt := 32) (by decide) ?_ ?_
    · refine s_iload_n hC 2 dX7_richestNow_32 rfl ?_
      refine s_istore_n hC dX7_richestNow_33 (by decide) (lv' := [(1, vI v4), (0, vR v2), (2, vI v4)]) rfl ?_
      refine s_iinc hC 2 dX7_richestNow_34 rfl (w := 1) (by decide) (by decide) (lv' := [(2, vI (v4 + (1 : Int32))), (1, vI v4), (0, vR v2)]) rfl ?_
      refine s_goto hC dX7_richestNow_37 (tgt := 5) (by decide) ?_
      refine s_lv (lv' := [(0, vR v2), (1, vI v4), (2, vI (v4 + (1 : Int32)))]) [2, 1, 0] rfl ?_
      exact ih _ _ _ _
    refine s_aload_n hC 0 dX7_richestNow_19 rfl ?_
    refine s_iload_n hC 2 dX7_richestNow_20 rfl ?_
    refine s_callV hC (x := v2) (avs := [vI v4]) (st := []) (nest := false) xc7 (m_X7_bucketsOf hI v2 v4 μ5) dX7_richestNow_21 qm_X7_100 qi_X7_bucketsOf qs_X7_bucketsOf qc_X7 qd_X7_bucketsOf qh_X7_bucketsOf (by decide) (fun _ => Nat.le_of_ble_eq_true rfl) (Nat.le_of_ble_eq_true rfl) (fun v6 μ7 => ?_)
    refine s_aload_n hC 0 dX7_richestNow_24 rfl ?_
    refine s_iload_n hC 1 dX7_richestNow_25 rfl ?_
    refine s_callV hC (x := v2) (avs := [vI v3]) (st := [vI v6]) (nest := false) xc7 (m_X7_bucketsOf hI v2 v3 μ7) dX7_richestNow_26 qm_X7_100 qi_X7_bucketsOf qs_X7_bucketsOf qc_X7 qd_X7_bucketsOf qh_X7_bucketsOf (by decide) (fun _ => Nat.le_of_ble_eq_true rfl) (Nat.le_of_ble_eq_true rfl) (fun v8 μ9 => ?_)
    refine s_icmp_le hC dX7_richestNow_29 (tgt := 34) (by decide) ?_ ?_
    · refine s_iinc hC 2 dX7_richestNow_34 rfl (w := 1) (by decide) (by decide) (lv' := [(2, vI (v4 + (1 : Int32))), (0, vR v2), (1, vI v3)]) rfl ?_
      refine s_goto hC dX7_richestNow_37 (tgt := 5) (by decide) ?_
      refine s_lv (lv' := [(0, vR v2), (1, vI v3), (2, vI (v4 + (1 : Int32)))]) [1, 2, 0] rfl ?_
      exact ih _ _ _ _
    refine s_iload_n hC 2 dX7_richestNow_32 rfl ?_
    refine s_istore_n hC dX7_richestNow_33 (by decide) (lv' := [(1, vI v4), (0, vR v2), (2, vI v4)]) rfl ?_
    refine s_iinc hC 2 dX7_richestNow_34 rfl (w := 1) (by decide) (by decide) (lv' := [(2, vI (v4 + (1 : Int32))), (1, vI v4), (0, vR v2)]) rfl ?_
    refine s_goto hC dX7_richestNow_37 (tgt := 5) (by decide) ?_
    refine s_lv (lv' := [(0, vR v2), (1, vI v4), (2, vI (v4 + (1 : Int32)))]) [2, 1, 0] rfl ?_
    exact ih _ _ _ _
def f_X7_richestNow (X : x_X) (v0 : Nat) (μ : x_M) : Option (Int32 × x_M) :=
  (f_X7_richestNow_L5 X 4096 v0 (-5 : Int32) (0 : Int32) μ)
set_option maxRecDepth 100000 in
theorem m_X7_richestNow (hI : x_I X) (v0 : Nat) (μ : x_M) : x_Met X x_Z0 l yX7_richestNow cX7_richestNow 3 (some .int) 3 [vR v0] μ rkI (f_X7_richestNow X v0 μ) := by
  refine x_enter hI (by decide +kernel) (Nat.le_of_ble_eq_true rfl) (fun p e s m args below meth c hC hr hlk => ?_)
  unfold f_X7_richestNow
  refine s_lv (lv' := [(0, vR v0)]) [0] rfl ?_
  refine s_bipush hC dX7_richestNow_0 (v := -5) (by decide) ?_
  refine s_istore_n hC dX7_richestNow_2 (by decide) (lv' := [(1, vI (-5 : Int32)), (0, vR v0)]) rfl ?_
  refine s_iconst hC dX7_richestNow_3 (v := 0) (by decide) ?_
  refine s_istore_n hC dX7_richestNow_4 (by decide) (lv' := [(2, vI (0 : Int32)), (1, vI (-5 : Int32)), (0, vR v0)]) rfl ?_
  refine s_lv (lv' := [(0, vR v0), (1, vI (-5 : Int32)), (2, vI (0 : Int32))]) [2, 1, 0] rfl ?_
  refine j_X7_richestNow_L5 hI hC hr hlk 4096 _ _ _ _
theorem dX7_spring_0 : decode cX7_spring 0 = .ok (.aload_n 0, 1) := by decide +kernel
theorem dX7_spring_1 : decode cX7_spring 1 = .ok (.getfield 80, 3) := by decide +kernel
theorem dX7_spring_4 : decode cX7_spring 4 = .ok (.aload_n 0, 1) := by decide +kernel
theorem dX7_spring_5 : decode cX7_spring 5 = .ok (.getfield 50, 3) := by decide +kernel
theorem dX7_spring_8 : decode cX7_spring 8 = .ok (.if_icmp .ne 7, 3) := by decide +kernel
theorem dX7_spring_11 : decode cX7_spring 11 = .ok (.iconst 0, 1) := by decide +kernel
theorem dX7_spring_12 : decode cX7_spring 12 = .ok (.goto 24, 3) := by decide +kernel
theorem dX7_spring_15 : decode cX7_spring 15 = .ok (.iconst 5, 1) := by decide +kernel
theorem dX7_spring_16 : decode cX7_spring 16 = .ok (.aload_n 0, 1) := by decide +kernel
theorem dX7_spring_17 : decode cX7_spring 17 = .ok (.getfield 83, 3) := by decide +kernel
theorem dX7_spring_20 : decode cX7_spring 20 = .ok (.iadd, 1) := by decide +kernel
theorem dX7_spring_21 : decode cX7_spring 21 = .ok (.aload_n 0, 1) := by decide +kernel
theorem dX7_spring_22 : decode cX7_spring 22 = .ok (.getfield 42, 3) := by decide +kernel
theorem dX7_spring_25 : decode cX7_spring 25 = .ok (.iconst 0, 1) := by decide +kernel
theorem dX7_spring_26 : decode cX7_spring 26 = .ok (.aconst_null, 1) := by decide +kernel
theorem dX7_spring_27 : decode cX7_spring 27 = .ok (.iload_n 1, 1) := by decide +kernel
theorem dX7_spring_28 : decode cX7_spring 28 = .ok (.aload_n 0, 1) := by decide +kernel
theorem dX7_spring_29 : decode cX7_spring 29 = .ok (.getfield 80, 3) := by decide +kernel
theorem dX7_spring_32 : decode cX7_spring 32 = .ok (.invokevirtual 86, 3) := by decide +kernel
theorem dX7_spring_35 : decode cX7_spring 35 = .ok (.iadd, 1) := by decide +kernel
theorem dX7_spring_36 : decode cX7_spring 36 = .ok (.ireturn, 1) := by decide +kernel
def f_X7_spring (X : x_X) (v0 : Nat) (v1 : Int32) (μ : x_M) : Option (Int32 × x_M) :=
  (ck (x_kd X v0 = 7 + 1) (ck (x_kd X v0 = 7 + 1) (if (μ.1 v0 9) = (μ.1 v0 11) then (some ((0 : Int32), μ)) else (ck (x_kd X v0 = 7 + 1) (ck (x_kd X v0 = 7 + 1) (lt (μ.2.1 v0 5) (fun (v3 : Nat) => (ck (x_kd X v0 = 7 + 1) (ck (x_kd X v3 = 4 + 1) (bd (f_X4_together X v3 (0 : Int32) 0 v1 (μ.1 v0 9) μ) (fun (v4 : Int32) (μ5 : x_M) => (some ((((5 : Int32) + (μ.1 v0 10)) + v4), μ5)))))))))))))
set_option maxRecDepth 100000 in
theorem m_X7_spring (hI : x_I X) (v0 : Nat) (v1 : Int32) (μ : x_M) : x_Met X x_Z0 l yX7_spring cX7_spring 2 (some .int) 4 [vR v0, vI v1] μ rkI (f_X7_spring X v0 v1 μ) := by
  refine x_enter hI (by decide +kernel) (Nat.le_of_ble_eq_true rfl) (fun p e s m args below meth c hC hr hlk => ?_)
  unfold f_X7_spring
  refine s_lv (lv' := [(0, vR v0), (1, vI v1)]) [0, 1] rfl ?_
  refine s_aload_n hC 0 dX7_spring_0 rfl ?_
  refine s_getI hC xc7 (by decide) rfl qf_X7_80 dX7_spring_1 ?_
  refine s_aload_n hC 0 dX7_spring_4 rfl ?_
  refine s_getI hC xc7 (by decide) rfl qf_X7_50 dX7_spring_5 ?_
  refine s_icmp_ne hC dX7_spring_8 (tgt := 15) (by decide) ?_ ?_
  · refine s_iconst hC dX7_spring_15 (v := 5) (by decide) ?_
    refine s_aload_n hC 0 dX7_spring_16 rfl ?_
    refine s_getI hC xc7 (by decide) rfl qf_X7_83 dX7_spring_17 ?_
    refine s_iadd hC dX7_spring_20 ?_
    refine s_aload_n hC 0 dX7_spring_21 rfl ?_
    refine s_getR hC xc7 (by decide) rfl qf_X7_42 dX7_spring_22 ?_
    refine s_ltR (fun v3 => ?_)
    refine s_iconst hC dX7_spring_25 (v := 0) (by decide) ?_
    refine s_null hC dX7_spring_26 ?_
    refine s_iload_n hC 1 dX7_spring_27 rfl ?_
    refine s_aload_n hC 0 dX7_spring_28 rfl ?_
    refine s_getI hC xc7 (by decide) rfl qf_X7_80 dX7_spring_29 ?_
    refine s_callV hC (x := v3) (avs := [vI (0 : Int32), vR 0, vI v1, vI (μ.1 v0 9)]) (st := [vI ((5 : Int32) + (μ.1 v0 10))]) (nest := false) xc4 (m_X4_together hI v3 (0 : Int32) 0 v1 (μ.1 v0 9) μ) dX7_spring_32 qm_X7_86 qi_X4_together qs_X4_together qc_X4 qd_X4_together qh_X4_together (by decide) (fun _ => Nat.le_of_ble_eq_true rfl) (Nat.le_of_ble_eq_true rfl) (fun v4 μ5 => ?_)
    refine s_iadd hC dX7_spring_35 ?_
    exact s_iret hC hr hlk dX7_spring_36
  refine s_iconst hC dX7_spring_11 (v := 0) (by decide) ?_
  refine s_goto hC dX7_spring_12 (tgt := 36) (by decide) ?_
  exact s_iret hC hr hlk dX7_spring_36
theorem dX7_sunOf_0 : decode cX7_sunOf 0 = .ok (.aload_n 1, 1) := by decide +kernel
theorem dX7_sunOf_1 : decode cX7_sunOf 1 = .ok (.getfield 90, 3) := by decide +kernel
theorem dX7_sunOf_4 : decode cX7_sunOf 4 = .ok (.ifCond .eq 20, 3) := by decide +kernel
theorem dX7_sunOf_7 : decode cX7_sunOf 7 = .ok (.aload_n 0, 1) := by decide +kernel
theorem dX7_sunOf_8 : decode cX7_sunOf 8 = .ok (.getfield 42, 3) := by decide +kernel
theorem dX7_sunOf_11 : decode cX7_sunOf 11 = .ok (.iconst 1, 1) := by decide +kernel
theorem dX7_sunOf_12 : decode cX7_sunOf 12 = .ok (.aload_n 1, 1) := by decide +kernel
theorem dX7_sunOf_13 : decode cX7_sunOf 13 = .ok (.iload_n 2, 1) := by decide +kernel
theorem dX7_sunOf_14 : decode cX7_sunOf 14 = .ok (.aload_n 0, 1) := by decide +kernel
theorem dX7_sunOf_15 : decode cX7_sunOf 15 = .ok (.getfield 80, 3) := by decide +kernel
theorem dX7_sunOf_18 : decode cX7_sunOf 18 = .ok (.invokevirtual 86, 3) := by decide +kernel
theorem dX7_sunOf_21 : decode cX7_sunOf 21 = .ok (.goto 4, 3) := by decide +kernel
theorem dX7_sunOf_24 : decode cX7_sunOf 24 = .ok (.iconst 0, 1) := by decide +kernel
theorem dX7_sunOf_25 : decode cX7_sunOf 25 = .ok (.ireturn, 1) := by decide +kernel
def f_X7_sunOf (X : x_X) (v0 : Nat) (v1 : Nat) (v2 : Int32) (μ : x_M) : Option (Int32 × x_M) :=
  (ck (x_kd X v1 = 0 + 1) (if (μ.1 v1 2) = 0 then (some ((0 : Int32), μ)) else (ck (x_kd X v0 = 7 + 1) (lt (μ.2.1 v0 5) (fun (v4 : Nat) => (ck (x_kd X v0 = 7 + 1) (ck (x_kd X v4 = 4 + 1) (bd (f_X4_together X v4 (1 : Int32) v1 v2 (μ.1 v0 9) μ) (fun (v5 : Int32) (μ6 : x_M) => (some (v5, μ6)))))))))))
set_option maxRecDepth 100000 in
theorem m_X7_sunOf (hI : x_I X) (v0 : Nat) (v1 : Nat) (v2 : Int32) (μ : x_M) : x_Met X x_Z0 l yX7_sunOf cX7_sunOf 3 (some .int) 4 [vR v0, vR v1, vI v2] μ rkI (f_X7_sunOf X v0 v1 v2 μ) := by
  refine x_enter hI (by decide +kernel) (Nat.le_of_ble_eq_true rfl) (fun p e s m args below meth c hC hr hlk => ?_)
  unfold f_X7_sunOf
  refine s_lv (lv' := [(0, vR v0), (1, vR v1), (2, vI v2)]) [0, 1, 2] rfl ?_
  refine s_aload_n hC 1 dX7_sunOf_0 rfl ?_
  refine s_getI hC xc0 (by decide) rfl qf_X7_90 dX7_sunOf_1 ?_
  refine s_if_eq hC dX7_sunOf_4 (tgt := 24) (by decide) ?_ ?_
  · refine s_iconst hC dX7_sunOf_24 (v := 0) (by decide) ?_
    exact s_iret hC hr hlk dX7_sunOf_25
  refine s_aload_n hC 0 dX7_sunOf_7 rfl ?_
  refine s_getR hC xc7 (by decide) rfl qf_X7_42 dX7_sunOf_8 ?_
  refine s_ltR (fun v4 => ?_)
  refine s_iconst hC dX7_sunOf_11 (v := 1) (by decide) ?_
  refine s_aload_n hC 1 dX7_sunOf_12 rfl ?_
  refine s_iload_n hC 2 dX7_sunOf_13 rfl ?_
  refine s_aload_n hC 0 dX7_sunOf_14 rfl ?_
  refine s_getI hC xc7 (by decide) rfl qf_X7_80 dX7_sunOf_15 ?_
  refine s_callV hC (x := v4) (avs := [vI (1 : Int32), vR v1, vI v2, vI (μ.1 v0 9)]) (st := []) (nest := false) xc4 (m_X4_together hI v4 (1 : Int32) v1 v2 (μ.1 v0 9) μ) dX7_sunOf_18 qm_X7_86 qi_X4_together qs_X4_together qc_X4 qd_X4_together qh_X4_together (by decide) (fun _ => Nat.le_of_ble_eq_true rfl) (Nat.le_of_ble_eq_true rfl) (fun v5 μ6 => ?_)
  refine s_goto hC dX7_sunOf_21 (tgt := 25) (by decide) ?_
  exact s_iret hC hr hlk dX7_sunOf_25
theorem dX7_pass_0 : decode cX7_pass 0 = .ok (.aload_n 0, 1) := by decide +kernel
theorem dX7_pass_1 : decode cX7_pass 1 = .ok (.invokevirtual 94, 3) := by decide +kernel
theorem dX7_pass_4 : decode cX7_pass 4 = .ok (.istore_n 1, 1) := by decide +kernel
theorem dX7_pass_5 : decode cX7_pass 5 = .ok (.aload_n 0, 1) := by decide +kernel
theorem dX7_pass_6 : decode cX7_pass 6 = .ok (.iload_n 1, 1) := by decide +kernel
theorem dX7_pass_7 : decode cX7_pass 7 = .ok (.invokevirtual 106, 3) := by decide +kernel
theorem dX7_pass_10 : decode cX7_pass 10 = .ok (.istore_n 2, 1) := by decide +kernel
theorem dX7_pass_11 : decode cX7_pass 11 = .ok (.aload_n 0, 1) := by decide +kernel
theorem dX7_pass_12 : decode cX7_pass 12 = .ok (.getfield 20, 3) := by decide +kernel
theorem dX7_pass_15 : decode cX7_pass 15 = .ok (.astore_n 3, 1) := by decide +kernel
theorem dX7_pass_16 : decode cX7_pass 16 = .ok (.aload_n 3, 1) := by decide +kernel
theorem dX7_pass_17 : decode cX7_pass 17 = .ok (.arraylength, 1) := by decide +kernel
theorem dX7_pass_18 : decode cX7_pass 18 = .ok (.istore 4, 2) := by decide +kernel
theorem dX7_pass_20 : decode cX7_pass 20 = .ok (.iconst 0, 1) := by decide +kernel
theorem dX7_pass_21 : decode cX7_pass 21 = .ok (.istore 5, 2) := by decide +kernel
theorem dX7_pass_23 : decode cX7_pass 23 = .ok (.iload 5, 2) := by decide +kernel
theorem dX7_pass_25 : decode cX7_pass 25 = .ok (.iload 4, 2) := by decide +kernel
theorem dX7_pass_27 : decode cX7_pass 27 = .ok (.if_icmp .ge 49, 3) := by decide +kernel
theorem dX7_pass_30 : decode cX7_pass 30 = .ok (.aload_n 3, 1) := by decide +kernel
theorem dX7_pass_31 : decode cX7_pass 31 = .ok (.iload 5, 2) := by decide +kernel
theorem dX7_pass_33 : decode cX7_pass 33 = .ok (.aaload, 1) := by decide +kernel
theorem dX7_pass_34 : decode cX7_pass 34 = .ok (.astore 6, 2) := by decide +kernel
theorem dX7_pass_36 : decode cX7_pass 36 = .ok (.aload 6, 2) := by decide +kernel
theorem dX7_pass_38 : decode cX7_pass 38 = .ok (.aload 6, 2) := by decide +kernel
theorem dX7_pass_40 : decode cX7_pass 40 = .ok (.iload_n 1, 1) := by decide +kernel
theorem dX7_pass_41 : decode cX7_pass 41 = .ok (.aload_n 0, 1) := by decide +kernel
theorem dX7_pass_42 : decode cX7_pass 42 = .ok (.getfield 42, 3) := by decide +kernel
theorem dX7_pass_45 : decode cX7_pass 45 = .ok (.getfield 109, 3) := by decide +kernel
theorem dX7_pass_48 : decode cX7_pass 48 = .ok (.aload_n 0, 1) := by decide +kernel
theorem dX7_pass_49 : decode cX7_pass 49 = .ok (.getfield 80, 3) := by decide +kernel
theorem dX7_pass_52 : decode cX7_pass 52 = .ok (.invokevirtual 112, 3) := by decide +kernel
theorem dX7_pass_55 : decode cX7_pass 55 = .ok (.putfield 116, 3) := by decide +kernel
theorem dX7_pass_58 : decode cX7_pass 58 = .ok (.aload 6, 2) := by decide +kernel
theorem dX7_pass_60 : decode cX7_pass 60 = .ok (.aload_n 0, 1) := by decide +kernel
theorem dX7_pass_61 : decode cX7_pass 61 = .ok (.aload 6, 2) := by decide +kernel
theorem dX7_pass_63 : decode cX7_pass 63 = .ok (.iload_n 1, 1) := by decide +kernel
theorem dX7_pass_64 : decode cX7_pass 64 = .ok (.invokevirtual 119, 3) := by decide +kernel
theorem dX7_pass_67 : decode cX7_pass 67 = .ok (.putfield 103, 3) := by decide +kernel
theorem dX7_pass_70 : decode cX7_pass 70 = .ok (.iinc 5 1, 3) := by decide +kernel
theorem dX7_pass_73 : decode cX7_pass 73 = .ok (.goto (-50), 3) := by decide +kernel
theorem dX7_pass_76 : decode cX7_pass 76 = .ok (.aload_n 0, 1) := by decide +kernel
theorem dX7_pass_77 : decode cX7_pass 77 = .ok (.getfield 12, 3) := by decide +kernel
theorem dX7_pass_80 : decode cX7_pass 80 = .ok (.aload_n 0, 1) := by decide +kernel
theorem dX7_pass_81 : decode cX7_pass 81 = .ok (.getfield 42, 3) := by decide +kernel
theorem dX7_pass_84 : decode cX7_pass 84 = .ok (.getfield 97, 3) := by decide +kernel
theorem dX7_pass_87 : decode cX7_pass 87 = .ok (.invokevirtual 123, 3) := by decide +kernel
theorem dX7_pass_90 : decode cX7_pass 90 = .ok (.istore_n 3, 1) := by decide +kernel
theorem dX7_pass_91 : decode cX7_pass 91 = .ok (.aload_n 0, 1) := by decide +kernel
theorem dX7_pass_92 : decode cX7_pass 92 = .ok (.getfield 20, 3) := by decide +kernel
theorem dX7_pass_95 : decode cX7_pass 95 = .ok (.astore 4, 2) := by decide +kernel
theorem dX7_pass_97 : decode cX7_pass 97 = .ok (.aload 4, 2) := by decide +kernel
theorem dX7_pass_99 : decode cX7_pass 99 = .ok (.arraylength, 1) := by decide +kernel
theorem dX7_pass_100 : decode cX7_pass 100 = .ok (.istore 5, 2) := by decide +kernel
theorem dX7_pass_102 : decode cX7_pass 102 = .ok (.iconst 0, 1) := by decide +kernel
theorem dX7_pass_103 : decode cX7_pass 103 = .ok (.istore 6, 2) := by decide +kernel
theorem dX7_pass_105 : decode cX7_pass 105 = .ok (.iload 6, 2) := by decide +kernel
theorem dX7_pass_107 : decode cX7_pass 107 = .ok (.iload 5, 2) := by decide +kernel
theorem dX7_pass_109 : decode cX7_pass 109 = .ok (.if_icmp .ge 23, 3) := by decide +kernel
theorem dX7_pass_112 : decode cX7_pass 112 = .ok (.aload 4, 2) := by decide +kernel
theorem dX7_pass_114 : decode cX7_pass 114 = .ok (.iload 6, 2) := by decide +kernel
theorem dX7_pass_116 : decode cX7_pass 116 = .ok (.aaload, 1) := by decide +kernel
theorem dX7_pass_117 : decode cX7_pass 117 = .ok (.astore 7, 2) := by decide +kernel
theorem dX7_pass_119 : decode cX7_pass 119 = .ok (.aload_n 0, 1) := by decide +kernel
theorem dX7_pass_120 : decode cX7_pass 120 = .ok (.aload 7, 2) := by decide +kernel
theorem dX7_pass_122 : decode cX7_pass 122 = .ok (.iload_n 3, 1) := by decide +kernel
theorem dX7_pass_123 : decode cX7_pass 123 = .ok (.invokevirtual 126, 3) := by decide +kernel
theorem dX7_pass_126 : decode cX7_pass 126 = .ok (.iinc 6 1, 3) := by decide +kernel
theorem dX7_pass_129 : decode cX7_pass 129 = .ok (.goto (-24), 3) := by decide +kernel
theorem dX7_pass_132 : decode cX7_pass 132 = .ok (.aload_n 0, 1) := by decide +kernel
theorem dX7_pass_133 : decode cX7_pass 133 = .ok (.getfield 20, 3) := by decide +kernel
theorem dX7_pass_136 : decode cX7_pass 136 = .ok (.astore 4, 2) := by decide +kernel
theorem dX7_pass_138 : decode cX7_pass 138 = .ok (.aload 4, 2) := by decide +kernel
theorem dX7_pass_140 : decode cX7_pass 140 = .ok (.arraylength, 1) := by decide +kernel
theorem dX7_pass_141 : decode cX7_pass 141 = .ok (.istore 5, 2) := by decide +kernel
theorem dX7_pass_143 : decode cX7_pass 143 = .ok (.iconst 0, 1) := by decide +kernel
theorem dX7_pass_144 : decode cX7_pass 144 = .ok (.istore 6, 2) := by decide +kernel
theorem dX7_pass_146 : decode cX7_pass 146 = .ok (.iload 6, 2) := by decide +kernel
theorem dX7_pass_148 : decode cX7_pass 148 = .ok (.iload 5, 2) := by decide +kernel
theorem dX7_pass_150 : decode cX7_pass 150 = .ok (.if_icmp .ge 49, 3) := by decide +kernel
theorem dX7_pass_153 : decode cX7_pass 153 = .ok (.aload 4, 2) := by decide +kernel
theorem dX7_pass_155 : decode cX7_pass 155 = .ok (.iload 6, 2) := by decide +kernel
theorem dX7_pass_157 : decode cX7_pass 157 = .ok (.aaload, 1) := by decide +kernel
theorem dX7_pass_158 : decode cX7_pass 158 = .ok (.astore 7, 2) := by decide +kernel
theorem dX7_pass_160 : decode cX7_pass 160 = .ok (.aload 7, 2) := by decide +kernel
theorem dX7_pass_162 : decode cX7_pass 162 = .ok (.dup, 1) := by decide +kernel
theorem dX7_pass_163 : decode cX7_pass 163 = .ok (.getfield 69, 3) := by decide +kernel
theorem dX7_pass_166 : decode cX7_pass 166 = .ok (.aload 7, 2) := by decide +kernel
theorem dX7_pass_168 : decode cX7_pass 168 = .ok (.getfield 103, 3) := by decide +kernel
theorem dX7_pass_171 : decode cX7_pass 171 = .ok (.isub, 1) := by decide +kernel
theorem dX7_pass_172 : decode cX7_pass 172 = .ok (.putfield 69, 3) := by decide +kernel
theorem dX7_pass_175 : decode cX7_pass 175 = .ok (.aload_n 0, 1) := by decide +kernel
theorem dX7_pass_176 : decode cX7_pass 176 = .ok (.iconst 0, 1) := by decide +kernel
theorem dX7_pass_177 : decode cX7_pass 177 = .ok (.aload_n 0, 1) := by decide +kernel
theorem dX7_pass_178 : decode cX7_pass 178 = .ok (.getfield 46, 3) := by decide +kernel
theorem dX7_pass_181 : decode cX7_pass 181 = .ok (.aload 7, 2) := by decide +kernel
theorem dX7_pass_183 : decode cX7_pass 183 = .ok (.getfield 103, 3) := by decide +kernel
theorem dX7_pass_186 : decode cX7_pass 186 = .ok (.isub, 1) := by decide +kernel
theorem dX7_pass_187 : decode cX7_pass 187 = .ok (.invokestatic 130, 3) := by decide +kernel
theorem dX7_pass_190 : decode cX7_pass 190 = .ok (.putfield 46, 3) := by decide +kernel
theorem dX7_pass_193 : decode cX7_pass 193 = .ok (.iinc 6 1, 3) := by decide +kernel
theorem dX7_pass_196 : decode cX7_pass 196 = .ok (.goto (-50), 3) := by decide +kernel
theorem dX7_pass_199 : decode cX7_pass 199 = .ok (.aload_n 0, 1) := by decide +kernel
theorem dX7_pass_200 : decode cX7_pass 200 = .ok (.dup, 1) := by decide +kernel
theorem dX7_pass_201 : decode cX7_pass 201 = .ok (.getfield 46, 3) := by decide +kernel
theorem dX7_pass_204 : decode cX7_pass 204 = .ok (.iload_n 2, 1) := by decide +kernel
theorem dX7_pass_205 : decode cX7_pass 205 = .ok (.iadd, 1) := by decide +kernel
theorem dX7_pass_206 : decode cX7_pass 206 = .ok (.putfield 46, 3) := by decide +kernel
theorem dX7_pass_209 : decode cX7_pass 209 = .ok (.aload_n 0, 1) := by decide +kernel
theorem dX7_pass_210 : decode cX7_pass 210 = .ok (.aload_n 0, 1) := by decide +kernel
theorem dX7_pass_211 : decode cX7_pass 211 = .ok (.getfield 12, 3) := by decide +kernel
theorem dX7_pass_214 : decode cX7_pass 214 = .ok (.aload_n 0, 1) := by decide +kernel
theorem dX7_pass_215 : decode cX7_pass 215 = .ok (.getfield 42, 3) := by decide +kernel
theorem dX7_pass_218 : decode cX7_pass 218 = .ok (.getfield 136, 3) := by decide +kernel
theorem dX7_pass_221 : decode cX7_pass 221 = .ok (.invokevirtual 123, 3) := by decide +kernel
theorem dX7_pass_224 : decode cX7_pass 224 = .ok (.invokevirtual 139, 3) := by decide +kernel
theorem dX7_pass_227 : decode cX7_pass 227 = .ok (.aload_n 0, 1) := by decide +kernel
theorem dX7_pass_228 : decode cX7_pass 228 = .ok (.getfield 20, 3) := by decide +kernel
theorem dX7_pass_231 : decode cX7_pass 231 = .ok (.astore 4, 2) := by decide +kernel
theorem dX7_pass_233 : decode cX7_pass 233 = .ok (.aload 4, 2) := by decide +kernel
theorem dX7_pass_235 : decode cX7_pass 235 = .ok (.arraylength, 1) := by decide +kernel
theorem dX7_pass_236 : decode cX7_pass 236 = .ok (.istore 5, 2) := by decide +kernel
theorem dX7_pass_238 : decode cX7_pass 238 = .ok (.iconst 0, 1) := by decide +kernel
theorem dX7_pass_239 : decode cX7_pass 239 = .ok (.istore 6, 2) := by decide +kernel
theorem dX7_pass_241 : decode cX7_pass 241 = .ok (.iload 6, 2) := by decide +kernel
theorem dX7_pass_243 : decode cX7_pass 243 = .ok (.iload 5, 2) := by decide +kernel
theorem dX7_pass_245 : decode cX7_pass 245 = .ok (.if_icmp .ge 21, 3) := by decide +kernel
theorem dX7_pass_248 : decode cX7_pass 248 = .ok (.aload 4, 2) := by decide +kernel
theorem dX7_pass_250 : decode cX7_pass 250 = .ok (.iload 6, 2) := by decide +kernel
theorem dX7_pass_252 : decode cX7_pass 252 = .ok (.aaload, 1) := by decide +kernel
theorem dX7_pass_253 : decode cX7_pass 253 = .ok (.astore 7, 2) := by decide +kernel
theorem dX7_pass_255 : decode cX7_pass 255 = .ok (.aload 7, 2) := by decide +kernel
theorem dX7_pass_257 : decode cX7_pass 257 = .ok (.invokevirtual 142, 3) := by decide +kernel
theorem dX7_pass_260 : decode cX7_pass 260 = .ok (.iinc 6 1, 3) := by decide +kernel
theorem dX7_pass_263 : decode cX7_pass 263 = .ok (.goto (-22), 3) := by decide +kernel
theorem dX7_pass_266 : decode cX7_pass 266 = .ok (.aload_n 0, 1) := by decide +kernel
theorem dX7_pass_267 : decode cX7_pass 267 = .ok (.dup, 1) := by decide +kernel
theorem dX7_pass_268 : decode cX7_pass 268 = .ok (.getfield 80, 3) := by decide +kernel
theorem dX7_pass_271 : decode cX7_pass 271 = .ok (.iconst 1, 1) := by decide +kernel
theorem dX7_pass_272 : decode cX7_pass 272 = .ok (.iadd, 1) := by decide +kernel
theorem dX7_pass_273 : decode cX7_pass 273 = .ok (.putfield 80, 3) := by decide +kernel
theorem dX7_pass_276 : decode cX7_pass 276 = .ok (.return_, 1) := by decide +kernel
def f_X7_pass_L23 (X : x_X) (k76 : Nat → Int32 → x_M → Option (Unit × x_M)) : Nat → Nat → Int32 → Int32 → Nat → Int32 → Int32 → x_M → Option (Unit × x_M)
  | 0, _, _, _, _, _, _, _ => none
  | n + 1, v8, v9, v10, v11, v12, v13, μ14 =>
    (if v12 ≤ v13 then (k76 v8 v10 μ14) else (ck ((x_kd X v11 = 23 ∨ x_kd X v11 = 24 ∨ x_kd X v11 = 25) ∧ x_ix v13 (x_ln X v11)) (lt (μ14.2.1 v11 (v13).toNatClampNeg) (fun (v15 : Nat) => (ck (x_kd X v8 = 7 + 1) (lt (μ14.2.1 v8 5) (fun (v16 : Nat) => (ck (x_kd X v16 = 4 + 1) (ck (x_kd X v8 = 7 + 1) (ck (x_kd X v15 = 0 + 1) (bd (f_X0_pours X v15 v9 (μ14.1 v16 9) (μ14.1 v8 9) μ14) (fun (v17 : Int32) (μ18 : x_M) => (ck (x_kd X v15 = 0 + 1) (lt (x_sI μ18 v15 8 v17) (fun (μ19 : x_M) => (ck (x_kd X v8 = 7 + 1) (bd (f_X7_sunOf X v8 v15 v9 μ19) (fun (v20 : Int32) (μ21 : x_M) => (ck (x_kd X v15 = 0 + 1) (lt (x_sI μ21 v15 9 v20) (fun (μ22 : x_M) => (f_X7_pass_L23 X k76 n v8 v9 v10 v11 v12 (v13 + (1 : Int32)) μ22))))))))))))))))))))))
set_option maxRecDepth 100000 in
theorem j_X7_pass_L23 (hI : x_I X) (hC : x_C X x_Z0 p (x_rm 5) s m c cX7_pass RX7 8 0 0 5) (hr : meth.sig.returnType = none) (hlk : meth.locks = false) {k76 : Nat → Int32 → x_M → Option (Unit × x_M)} (hk76 : ∀ (b0 : Nat) (b2 : Int32) (μ : x_M), SM X 8 5 rkV p l e s m args below meth c 76 [(0, vR b0), (2, vI b2)] [] μ (k76 b0 b2 μ)) : ∀ (n : Nat) (v8 : Nat) (v9 : Int32) (v10 : Int32) (v11 : Nat) (v12 : Int32) (v13 : Int32) (μ14 : x_M), SM X 8 5 rkV p l e s m args below meth c 23 [(0, vR v8), (1, vI v9), (2, vI v10), (3, vR v11), (4, vI v12), (5, vI v13)] [] μ14 (f_X7_pass_L23 X k76 n v8 v9 v10 v11 v12 v13 μ14) := by
  intro n
  induction n with
  | zero => intro v8 v9 v10 v11 v12 v13 μ14; exact s_none
  | succ n ih =>
    intro v8 v9 v10 v11 v12 v13 μ14
    unfold f_X7_pass_L23
    refine s_iload hC 5 dX7_pass_23 rfl ?_
    refine s_iload hC 4 dX7_pass_25 rfl ?_
    refine s_icmp_ge hC dX7_pass_27 (tgt := 76) (by decide) ?_ ?_
    · refine s_lv (lv' := [(0, vR v8), (2, vI v10)]) [0, 2] rfl ?_
      exact hk76 _ _ _
    refine s_aload_n hC 3 dX7_pass_30 rfl ?_
    refine s_iload hC 5 dX7_pass_31 rfl ?_
    refine s_aald hC dX7_pass_33 ?_
    refine s_ltR (fun v15 => ?_)
    refine s_astore hC dX7_pass_34 (by decide) (lv' := [(6, vR v15), (0, vR v8), (1, vI v9), (2, vI v10), (3, vR v11), (4, vI v12), (5, vI v13)]) rfl ?_
    refine s_aload hC 0 dX7_pass_36 rfl ?_
    refine s_aload hC 0 dX7_pass_38 rfl ?_
    refine s_iload_n hC 2 dX7_pass_40 rfl ?_
    refine s_aload_n hC 1 dX7_pass_41 rfl ?_
    refine s_getR hC xc7 (by decide) rfl qf_X7_42 dX7_pass_42 ?_
    refine s_ltR (fun v16 => ?_)
    refine s_getI hC xc4 (by decide) rfl qf_X7_109 dX7_pass_45 ?_
    refine s_aload_n hC 1 dX7_pass_48 rfl ?_
    refine s_getI hC xc7 (by decide) rfl qf_X7_80 dX7_pass_49 ?_
    refine s_callV hC (x := v15) (avs := [vI v9, vI (μ14.1 v16 9), vI (μ14.1 v8 9)]) (st := [vR v15]) (nest := false) xc0 (m_X0_pours hI v15 v9 (μ14.1 v16 9) (μ14.1 v8 9) μ14) dX7_pass_52 qm_X7_112 qi_X0_pours qs_X0_pours qc_X0 qd_X0_pours qh_X0_pours (by decide) (fun _ => Nat.le_of_ble_eq_true rfl) (Nat.le_of_ble_eq_true rfl) (fun v17 μ18 => ?_)
    refine s_putI hC xc0 (by decide) rfl rfl qf_X7_116 dX7_pass_55 ?_
    refine s_ltM (fun μ19 => ?_)
    refine s_aload hC 0 dX7_pass_58 rfl ?_
    refine s_aload_n hC 1 dX7_pass_60 rfl ?_
    refine s_aload hC 0 dX7_pass_61 rfl ?_
    refine s_iload_n hC 2 dX7_pass_63 rfl ?_
    refine s_callV hC (x := v8) (avs := [vR v15, vI v9]) (st := [vR v15]) (nest := false) xc7 (m_X7_sunOf hI v8 v15 v9 μ19) dX7_pass_64 qm_X7_119 qi_X7_sunOf qs_X7_sunOf qc_X7 qd_X7_sunOf qh_X7_sunOf (by decide) (fun _ => Nat.le_of_ble_eq_true rfl) (Nat.le_of_ble_eq_true rfl) (fun v20 μ21 => ?_)
    refine s_putI hC xc0 (by decide) rfl rfl qf_X7_103 dX7_pass_67 ?_
    refine s_ltM (fun μ22 => ?_)
    refine s_iinc hC 6 dX7_pass_70 rfl (w := 1) (by decide) (by decide) (lv' := [(5, vI (v13 + (1 : Int32))), (6, vR v15), (0, vR v8), (1, vI v9), (2, vI v10), (3, vR v11), (4, vI v12)]) rfl ?_
    refine s_goto hC dX7_pass_73 (tgt := 23) (by decide) ?_
    refine s_lv (lv' := [(0, vR v8), (1, vI v9), (2, vI v10), (3, vR v11), (4, vI v12), (5, vI (v13 + (1 : Int32)))]) [2, 3, 4, 5, 6, 0] rfl ?_
    exact ih _ _ _ _ _ _ _
def f_X7_pass_L105 (X : x_X) (k132 : Nat → Int32 → x_M → Option (Unit × x_M)) : Nat → Nat → Int32 → Int32 → Nat → Int32 → Int32 → x_M → Option (Unit × x_M)
  | 0, _, _, _, _, _, _, _ => none
  | n + 1, v32, v33, v34, v35, v36, v37, μ38 =>
    (if v36 ≤ v37 then (k132 v32 v33 μ38) else (ck ((x_kd X v35 = 23 ∨ x_kd X v35 = 24 ∨ x_kd X v35 = 25) ∧ x_ix v37 (x_ln X v35)) (lt (μ38.2.1 v35 (v37).toNatClampNeg) (fun (v39 : Nat) => (ck (x_kd X v32 = 7 + 1) (bd (f_X7_pourBy X v32 v39 v34 μ38) (fun (_ : Unit) (μ40 : x_M) => (f_X7_pass_L105 X k132 n v32 v33 v34 v35 v36 (v37 + (1 : Int32)) μ40))))))))
set_option maxRecDepth 100000 in
theorem j_X7_pass_L105 (hI : x_I X) (hC : x_C X x_Z0 p (x_rm 5) s m c cX7_pass RX7 8 0 0 5) (hr : meth.sig.returnType = none) (hlk : meth.locks = false) {k132 : Nat → Int32 → x_M → Option (Unit × x_M)} (hk132 : ∀ (b0 : Nat) (b2 : Int32) (μ : x_M), SM X 8 5 rkV p l e s m args below meth c 132 [(0, vR b0), (2, vI b2)] [] μ (k132 b0 b2 μ)) : ∀ (n : Nat) (v32 : Nat) (v33 : Int32) (v34 : Int32) (v35 : Nat) (v36 : Int32) (v37 : Int32) (μ38 : x_M), SM X 8 5 rkV p l e s m args below meth c 105 [(0, vR v32), (2, vI v33), (3, vI v34), (4, vR v35), (5, vI v36), (6, vI v37)] [] μ38 (f_X7_pass_L105 X k132 n v32 v33 v34 v35 v36 v37 μ38) := by
  intro n
  induction n with
  | zero => intro v32 v33 v34 v35 v36 v37 μ38; exact s_none
  | succ n ih =>
    intro v32 v33 v34 v35 v36 v37 μ38
    unfold f_X7_pass_L105
    refine s_iload hC 5 dX7_pass_105 rfl ?_
    refine s_iload hC 4 dX7_pass_107 rfl ?_
    refine s_icmp_ge hC dX7_pass_109 (tgt := 132) (by decide) ?_ ?_
    · refine s_lv (lv' := [(0, vR v32), (2, vI v33)]) [0, 1] rfl ?_
      exact hk132 _ _ _
    refine s_aload hC 3 dX7_pass_112 rfl ?_
    refine s_iload hC 5 dX7_pass_114 rfl ?_
    refine s_aald hC dX7_pass_116 ?_
    refine s_ltR (fun v39 => ?_)
    refine s_astore hC dX7_pass_117 (by decide) (lv' := [(7, vR v39), (0, vR v32), (2, vI v33), (3, vI v34), (4, vR v35), (5, vI v36), (6, vI v37)]) rfl ?_
    refine s_aload_n hC 1 dX7_pass_119 rfl ?_
    refine s_aload hC 0 dX7_pass_120 rfl ?_
    refine s_iload_n hC 3 dX7_pass_122 rfl ?_
    refine s_callV hC (x := v32) (avs := [vR v39, vI v34]) (st := []) (nest := false) xc7 (m_X7_pourBy hI v32 v39 v34 μ38) dX7_pass_123 qm_X7_126 qi_X7_pourBy qs_X7_pourBy qc_X7 qd_X7_pourBy qh_X7_pourBy (by decide) (fun _ => Nat.le_of_ble_eq_true rfl) (Nat.le_of_ble_eq_true rfl) (fun _ μ40 => ?_)
    refine s_iinc hC 6 dX7_pass_126 rfl (w := 1) (by decide) (by decide) (lv' := [(6, vI (v37 + (1 : Int32))), (7, vR v39), (0, vR v32), (2, vI v33), (3, vI v34), (4, vR v35), (5, vI v36)]) rfl ?_
    refine s_goto hC dX7_pass_129 (tgt := 105) (by decide) ?_
    refine s_lv (lv' := [(0, vR v32), (2, vI v33), (3, vI v34), (4, vR v35), (5, vI v36), (6, vI (v37 + (1 : Int32)))]) [2, 3, 4, 5, 6, 0] rfl ?_
    exact ih _ _ _ _ _ _ _
def f_X7_pass_L146 (X : x_X) (k199 : Nat → Int32 → x_M → Option (Unit × x_M)) : Nat → Nat → Int32 → Nat → Int32 → Int32 → x_M → Option (Unit × x_M)
  | 0, _, _, _, _, _, _ => none
  | n + 1, v46, v47, v48, v49, v50, μ51 =>
    (if v49 ≤ v50 then (k199 v46 v47 μ51) else (ck ((x_kd X v48 = 23 ∨ x_kd X v48 = 24 ∨ x_kd X v48 = 25) ∧ x_ix v50 (x_ln X v48)) (lt (μ51.2.1 v48 (v50).toNatClampNeg) (fun (v52 : Nat) => (ck (x_kd X v52 = 0 + 1) (ck (x_kd X v52 = 0 + 1) (ck (x_kd X v52 = 0 + 1) (lt (x_sI μ51 v52 5 ((μ51.1 v52 5) - (μ51.1 v52 9))) (fun (μ53 : x_M) => (ck (x_kd X v46 = 7 + 1) (ck (x_kd X v52 = 0 + 1) (lt ((μ53.1 v46 7) - (μ53.1 v52 9)) (fun (v54 : Int32) => (ck (x_kd X v46 = 7 + 1) (lt (x_sI μ53 v46 7 (if (0 : Int32) < v54 then v54 else (0 : Int32))) (fun (μ55 : x_M) => (f_X7_pass_L146 X k199 n v46 v47 v48 v49 (v50 + (1 : Int32)) μ55)))))))))))))))))
set_option maxRecDepth 100000 in
theorem j_X7_pass_L146 (hI : x_I X) (hC : x_C X x_Z0 p (x_rm 5) s m c cX7_pass RX7 8 0 0 5) (hr : meth.sig.returnType = none) (hlk : meth.locks = false) {k199 : Nat → Int32 → x_M → Option (Unit × x_M)} (hk199 : ∀ (b0 : Nat) (b2 : Int32) (μ : x_M), SM X 8 5 rkV p l e s m args below meth c 199 [(0, vR b0), (2, vI b2)] [] μ (k199 b0 b2 μ)) : ∀ (n : Nat) (v46 : Nat) (v47 : Int32) (v48 : Nat) (v49 : Int32) (v50 : Int32) (μ51 : x_M), SM X 8 5 rkV p l e s m args below meth c 146 [(0, vR v46), (2, vI v47), (4, vR v48), (5, vI v49), (6, vI v50)] [] μ51 (f_X7_pass_L146 X k199 n v46 v47 v48 v49 v50 μ51) := by
  intro n
  induction n with
  | zero => intro v46 v47 v48 v49 v50 μ51; exact s_none
  | succ n ih =>
    intro v46 v47 v48 v49 v50 μ51
    unfold f_X7_pass_L146
    refine s_iload hC 4 dX7_pass_146 rfl ?_
    refine s_iload hC 3 dX7_pass_148 rfl ?_
    refine s_icmp_ge hC dX7_pass_150 (tgt := 199) (by decide) ?_ ?_
    · refine s_lv (lv' := [(0, vR v46), (2, vI v47)]) [0, 1] rfl ?_
      exact hk199 _ _ _
    refine s_aload hC 2 dX7_pass_153 rfl ?_
    refine s_iload hC 4 dX7_pass_155 rfl ?_
    refine s_aald hC dX7_pass_157 ?_
    refine s_ltR (fun v52 => ?_)
    refine s_astore hC dX7_pass_158 (by decide) (lv' := [(7, vR v52), (0, vR v46), (2, vI v47), (4, vR v48), (5, vI v49), (6, vI v50)]) rfl ?_
    refine s_aload hC 0 dX7_pass_160 rfl ?_
    refine s_dupR hC dX7_pass_162 ?_
    refine s_getI hC xc0 (by decide) rfl qf_X7_69 dX7_pass_163 ?_
    refine s_aload hC 0 dX7_pass_166 rfl ?_
    refine s_getI hC xc0 (by decide) rfl qf_X7_103 dX7_pass_168 ?_
    refine s_isub hC dX7_pass_171 ?_
    refine s_putI hC xc0 (by decide) rfl rfl qf_X7_69 dX7_pass_172 ?_
    refine s_ltM (fun μ53 => ?_)
    refine s_aload_n hC 1 dX7_pass_175 rfl ?_
    refine s_iconst hC dX7_pass_176 (v := 0) (by decide) ?_
    refine s_aload_n hC 1 dX7_pass_177 rfl ?_
    refine s_getI hC xc7 (by decide) rfl qf_X7_46 dX7_pass_178 ?_
    refine s_aload hC 0 dX7_pass_181 rfl ?_
    refine s_getI hC xc0 (by decide) rfl qf_X7_103 dX7_pass_183 ?_
    refine s_isub hC dX7_pass_186 ?_
    refine s_ltI (fun v54 => ?_)
    refine s_max hC dX7_pass_187 qm_X7_130 qt_Math_max qc_Math qd_Math_max (by decide) (Nat.le_of_ble_eq_true rfl) ?_
    refine s_putI hC xc7 (by decide) rfl rfl qf_X7_46 dX7_pass_190 ?_
    refine s_ltM (fun μ55 => ?_)
    refine s_iinc hC 5 dX7_pass_193 rfl (w := 1) (by decide) (by decide) (lv' := [(6, vI (v50 + (1 : Int32))), (7, vR v52), (0, vR v46), (2, vI v47), (4, vR v48), (5, vI v49)]) rfl ?_
    refine s_goto hC dX7_pass_196 (tgt := 146) (by decide) ?_
    refine s_lv (lv' := [(0, vR v46), (2, vI v47), (4, vR v48), (5, vI v49), (6, vI (v50 + (1 : Int32)))]) [2, 3, 4, 5, 0] rfl ?_
    exact ih _ _ _ _ _ _
def f_X7_pass_L241 (X : x_X) (k266 : Nat → x_M → Option (Unit × x_M)) : Nat → Nat → Nat → Int32 → Int32 → x_M → Option (Unit × x_M)
  | 0, _, _, _, _, _ => none
  | n + 1, v67, v68, v69, v70, μ71 =>
    (if v69 ≤ v70 then (k266 v67 μ71) else (ck ((x_kd X v68 = 23 ∨ x_kd X v68 = 24 ∨ x_kd X v68 = 25) ∧ x_ix v70 (x_ln X v68)) (lt (μ71.2.1 v68 (v70).toNatClampNeg) (fun (v72 : Nat) => (ck (x_kd X v72 = 0 + 1) (bd (f_X0_holdBuckets X v72 μ71) (fun (_ : Unit) (μ73 : x_M) => (f_X7_pass_L241 X k266 n v67 v68 v69 (v70 + (1 : Int32)) μ73))))))))
set_option maxRecDepth 100000 in
theorem j_X7_pass_L241 (hI : x_I X) (hC : x_C X x_Z0 p (x_rm 5) s m c cX7_pass RX7 8 0 0 5) (hr : meth.sig.returnType = none) (hlk : meth.locks = false) {k266 : Nat → x_M → Option (Unit × x_M)} (hk266 : ∀ (b0 : Nat) (μ : x_M), SM X 8 5 rkV p l e s m args below meth c 266 [(0, vR b0)] [] μ (k266 b0 μ)) : ∀ (n : Nat) (v67 : Nat) (v68 : Nat) (v69 : Int32) (v70 : Int32) (μ71 : x_M), SM X 8 5 rkV p l e s m args below meth c 241 [(0, vR v67), (4, vR v68), (5, vI v69), (6, vI v70)] [] μ71 (f_X7_pass_L241 X k266 n v67 v68 v69 v70 μ71) := by
  intro n
  induction n with
  | zero => intro v67 v68 v69 v70 μ71; exact s_none
  | succ n ih =>
    intro v67 v68 v69 v70 μ71
    unfold f_X7_pass_L241
    refine s_iload hC 3 dX7_pass_241 rfl ?_
    refine s_iload hC 2 dX7_pass_243 rfl ?_
    refine s_icmp_ge hC dX7_pass_245 (tgt := 266) (by decide) ?_ ?_
    · refine s_lv (lv' := [(0, vR v67)]) [0] rfl ?_
      exact hk266 _ _
    refine s_aload hC 1 dX7_pass_248 rfl ?_
    refine s_iload hC 3 dX7_pass_250 rfl ?_
    refine s_aald hC dX7_pass_252 ?_
    refine s_ltR (fun v72 => ?_)
    refine s_astore hC dX7_pass_253 (by decide) (lv' := [(7, vR v72), (0, vR v67), (4, vR v68), (5, vI v69), (6, vI v70)]) rfl ?_
    refine s_aload hC 0 dX7_pass_255 rfl ?_
    refine s_callV hC (x := v72) (avs := []) (st := []) (nest := false) xc0 (m_X0_holdBuckets hI v72 μ71) dX7_pass_257 qm_X7_142 qi_X0_holdBuckets qs_X0_holdBuckets qc_X0 qd_X0_holdBuckets qh_X0_holdBuckets (by decide) (fun _ => Nat.le_of_ble_eq_true rfl) (Nat.le_of_ble_eq_true rfl) (fun _ μ73 => ?_)
    refine s_iinc hC 4 dX7_pass_260 rfl (w := 1) (by decide) (by decide) (lv' := [(6, vI (v70 + (1 : Int32))), (7, vR v72), (0, vR v67), (4, vR v68), (5, vI v69)]) rfl ?_
    refine s_goto hC dX7_pass_263 (tgt := 241) (by decide) ?_
    refine s_lv (lv' := [(0, vR v67), (4, vR v68), (5, vI v69), (6, vI (v70 + (1 : Int32)))]) [2, 3, 4, 0] rfl ?_
    exact ih _ _ _ _ _
def f_X7_pass (X : x_X) (v0 : Nat) (μ : x_M) : Option (Unit × x_M) :=
  (ck (x_kd X v0 = 7 + 1) (bd (f_X7_level X v0 μ) (fun (v2 : Int32) (μ3 : x_M) => (ck (x_kd X v0 = 7 + 1) (bd (f_X7_spring X v0 v2 μ3) (fun (v4 : Int32) (μ5 : x_M) => (ck (x_kd X v0 = 7 + 1) (lt (μ5.2.1 v0 1) (fun (v6 : Nat) => (ck (x_kd X v6 = 20 ∨ x_kd X v6 = 23 ∨ x_kd X v6 = 40 ∨ x_kd X v6 = 41) (lt (nI (x_ln X v6)) (fun (v7 : Int32) => (f_X7_pass_L23 X (fun (v23 : Nat) (v24 : Int32) (μ25 : x_M) => (ck (x_kd X v23 = 7 + 1) (lt (μ25.2.1 v23 0) (fun (v26 : Nat) => (ck (x_kd X v23 = 7 + 1) (lt (μ25.2.1 v23 5) (fun (v27 : Nat) => (ck (x_kd X v27 = 4 + 1) (ck (x_kd X v26 = 3 + 1) (bd (f_X3_volumeOf X v26 (μ25.1 v27 8) μ25) (fun (v28 : Int32) (μ29 : x_M) => (ck (x_kd X v23 = 7 + 1) (lt (μ29.2.1 v23 1) (fun (v30 : Nat) => (ck (x_kd X v30 = 20 ∨ x_kd X v30 = 23 ∨ x_kd X v30 = 40 ∨ x_kd X v30 = 41) (lt (nI (x_ln X v30)) (fun (v31 : Int32) => (f_X7_pass_L105 X (fun (v41 : Nat) (v42 : Int32) (μ43 : x_M) => (ck (x_kd X v41 = 7 + 1) (lt (μ43.2.1 v41 1) (fun (v44 : Nat) => (ck (x_kd X v44 = 20 ∨ x_kd X v44 = 23 ∨ x_kd X v44 = 40 ∨ x_kd X v44 = 41) (lt (nI (x_ln X v44)) (fun (v45 : Int32) => (f_X7_pass_L146 X (fun (v56 : Nat) (v57 : Int32) (μ58 : x_M) => (ck (x_kd X v56 = 7 + 1) (ck (x_kd X v56 = 7 + 1) (lt (x_sI μ58 v56 7 ((μ58.1 v56 7) + v57)) (fun (μ59 : x_M) => (ck (x_kd X v56 = 7 + 1) (lt (μ59.2.1 v56 0) (fun (v60 : Nat) => (ck (x_kd X v56 = 7 + 1) (lt (μ59.2.1 v56 5) (fun (v61 : Nat) => (ck (x_kd X v61 = 4 + 1) (ck (x_kd X v60 = 3 + 1) (bd (f_X3_volumeOf X v60 (μ59.1 v61 7) μ59) (fun (v62 : Int32) (μ63 : x_M) => (ck (x_kd X v56 = 7 + 1) (bd (f_X7_spillTo X v56 v62 μ63) (fun (_ : Unit) (μ64 : x_M) => (ck (x_kd X v56 = 7 + 1) (lt (μ64.2.1 v56 1) (fun (v65 : Nat) => (ck (x_kd X v65 = 20 ∨ x_kd X v65 = 23 ∨ x_kd X v65 = 40 ∨ x_kd X v65 = 41) (lt (nI (x_ln X v65)) (fun (v66 : Int32) => (f_X7_pass_L241 X (fun (v74 : Nat) (μ75 : x_M) => (ck (x_kd X v74 = 7 + 1) (ck (x_kd X v74 = 7 + 1) (lt (x_sI μ75 v74 9 ((μ75.1 v74 9) + (1 : Int32))) (fun (μ76 : x_M) => (some ((), μ76))))))) 4096 v56 v65 v66 (0 : Int32) μ64))))))))))))))))))))))))) 4096 v41 v42 v44 v45 (0 : Int32) μ43)))))))) 4096 v23 v24 v28 v30 v31 (0 : Int32) μ29)))))))))))))))))) 4096 v0 v2 v4 v6 v7 (0 : Int32) μ5)))))))))))))
set_option maxRecDepth 100000 in
theorem m_X7_pass (hI : x_I X) (v0 : Nat) (μ : x_M) : x_Met X x_Z0 l yX7_pass cX7_pass 8 none 5 [vR v0] μ rkV (f_X7_pass X v0 μ) := by
  refine x_enter hI (by decide +kernel) (Nat.le_of_ble_eq_true rfl) (fun p e s m args below meth c hC hr hlk => ?_)
  unfold f_X7_pass
  refine s_lv (lv' := [(0, vR v0)]) [0] rfl ?_
  refine s_aload_n hC 0 dX7_pass_0 rfl ?_
  refine s_callV hC (x := v0) (avs := []) (st := []) (nest := false) xc7 (m_X7_level hI v0 μ) dX7_pass_1 qm_X7_94 qi_X7_level qs_X7_level qc_X7 qd_X7_level qh_X7_level (by decide) (fun _ => Nat.le_of_ble_eq_true rfl) (Nat.le_of_ble_eq_true rfl) (fun v2 μ3 => ?_)
  refine s_istore_n hC dX7_pass_4 (by decide) (lv' := [(1, vI v2), (0, vR v0)]) rfl ?_
  refine s_aload_n hC 1 dX7_pass_5 rfl ?_
  refine s_iload_n hC 0 dX7_pass_6 rfl ?_
  refine s_callV hC (x := v0) (avs := [vI v2]) (st := []) (nest := false) xc7 (m_X7_spring hI v0 v2 μ3) dX7_pass_7 qm_X7_106 qi_X7_spring qs_X7_spring qc_X7 qd_X7_spring qh_X7_spring (by decide) (fun _ => Nat.le_of_ble_eq_true rfl) (Nat.le_of_ble_eq_true rfl) (fun v4 μ5 => ?_)
  refine s_istore_n hC dX7_pass_10 (by decide) (lv' := [(2, vI v4), (1, vI v2), (0, vR v0)]) rfl ?_
  refine s_aload_n hC 2 dX7_pass_11 rfl ?_
  refine s_getR hC xc7 (by decide) rfl qf_X7_20 dX7_pass_12 ?_
  refine s_ltR (fun v6 => ?_)
  refine s_astore_n hC dX7_pass_15 (by decide) (lv' := [(3, vR v6), (2, vI v4), (1, vI v2), (0, vR v0)]) rfl ?_
  refine s_aload_n hC 0 dX7_pass_16 rfl ?_
  refine s_alen hC dX7_pass_17 ?_
  refine s_ltI (fun v7 => ?_)
  refine s_istore hC dX7_pass_18 (by decide) (lv' := [(4, vI v7), (3, vR v6), (2, vI v4), (1, vI v2), (0, vR v0)]) rfl ?_
  refine s_iconst hC dX7_pass_20 (v := 0) (by decide) ?_
  refine s_istore hC dX7_pass_21 (by decide) (lv' := [(5, vI (0 : Int32)), (4, vI v7), (3, vR v6), (2, vI v4), (1, vI v2), (0, vR v0)]) rfl ?_
  refine s_lv (lv' := [(0, vR v0), (1, vI v2), (2, vI v4), (3, vR v6), (4, vI v7), (5, vI (0 : Int32))]) [5, 4, 3, 2, 1, 0] rfl ?_
  refine j_X7_pass_L23 hI hC hr hlk (fun v23 v24 μ25 => ?_) 4096 _ _ _ _ _ _ _
  refine s_aload_n hC 0 dX7_pass_76 rfl ?_
  refine s_getR hC xc7 (by decide) rfl qf_X7_12 dX7_pass_77 ?_
  refine s_ltR (fun v26 => ?_)
  refine s_aload_n hC 0 dX7_pass_80 rfl ?_
  refine s_getR hC xc7 (by decide) rfl qf_X7_42 dX7_pass_81 ?_
  refine s_ltR (fun v27 => ?_)
  refine s_getI hC xc4 (by decide) rfl qf_X7_97 dX7_pass_84 ?_
  refine s_callV hC (x := v26) (avs := [vI (μ25.1 v27 8)]) (st := []) (nest := false) xc3 (m_X3_volumeOf hI v26 (μ25.1 v27 8) μ25) dX7_pass_87 qm_X7_123 qi_X3_volumeOf qs_X3_volumeOf qc_X3 qd_X3_volumeOf qh_X3_volumeOf (by decide) (fun _ => Nat.le_of_ble_eq_true rfl) (Nat.le_of_ble_eq_true rfl) (fun v28 μ29 => ?_)
  refine s_istore_n hC dX7_pass_90 (by decide) (lv' := [(3, vI v28), (0, vR v23), (2, vI v24)]) rfl ?_
  refine s_aload_n hC 1 dX7_pass_91 rfl ?_
  refine s_getR hC xc7 (by decide) rfl qf_X7_20 dX7_pass_92 ?_
  refine s_ltR (fun v30 => ?_)
  refine s_astore hC dX7_pass_95 (by decide) (lv' := [(4, vR v30), (3, vI v28), (0, vR v23), (2, vI v24)]) rfl ?_
  refine s_aload hC 0 dX7_pass_97 rfl ?_
  refine s_alen hC dX7_pass_99 ?_
  refine s_ltI (fun v31 => ?_)
  refine s_istore hC dX7_pass_100 (by decide) (lv' := [(5, vI v31), (4, vR v30), (3, vI v28), (0, vR v23), (2, vI v24)]) rfl ?_
  refine s_iconst hC dX7_pass_102 (v := 0) (by decide) ?_
  refine s_istore hC dX7_pass_103 (by decide) (lv' := [(6, vI (0 : Int32)), (5, vI v31), (4, vR v30), (3, vI v28), (0, vR v23), (2, vI v24)]) rfl ?_
  refine s_lv (lv' := [(0, vR v23), (2, vI v24), (3, vI v28), (4, vR v30), (5, vI v31), (6, vI (0 : Int32))]) [4, 5, 3, 2, 1, 0] rfl ?_
  refine j_X7_pass_L105 hI hC hr hlk (fun v41 v42 μ43 => ?_) 4096 _ _ _ _ _ _ _
  refine s_aload_n hC 0 dX7_pass_132 rfl ?_
  refine s_getR hC xc7 (by decide) rfl qf_X7_20 dX7_pass_133 ?_
  refine s_ltR (fun v44 => ?_)
  refine s_astore hC dX7_pass_136 (by decide) (lv' := [(4, vR v44), (0, vR v41), (2, vI v42)]) rfl ?_
  refine s_aload hC 0 dX7_pass_138 rfl ?_
  refine s_alen hC dX7_pass_140 ?_
  refine s_ltI (fun v45 => ?_)
  refine s_istore hC dX7_pass_141 (by decide) (lv' := [(5, vI v45), (4, vR v44), (0, vR v41), (2, vI v42)]) rfl ?_
  refine s_iconst hC dX7_pass_143 (v := 0) (by decide) ?_
  refine s_istore hC dX7_pass_144 (by decide) (lv' := [(6, vI (0 : Int32)), (5, vI v45), (4, vR v44), (0, vR v41), (2, vI v42)]) rfl ?_
  refine s_lv (lv' := [(0, vR v41), (2, vI v42), (4, vR v44), (5, vI v45), (6, vI (0 : Int32))]) [3, 4, 2, 1, 0] rfl ?_
  refine j_X7_pass_L146 hI hC hr hlk (fun v56 v57 μ58 => ?_) 4096 _ _ _ _ _ _
  refine s_aload_n hC 0 dX7_pass_199 rfl ?_
  refine s_dupR hC dX7_pass_200 ?_
  refine s_getI hC xc7 (by decide) rfl qf_X7_46 dX7_pass_201 ?_
  refine s_iload_n hC 1 dX7_pass_204 rfl ?_
  refine s_iadd hC dX7_pass_205 ?_
  refine s_putI hC xc7 (by decide) rfl rfl qf_X7_46 dX7_pass_206 ?_
  refine s_ltM (fun μ59 => ?_)
  refine s_aload_n hC 0 dX7_pass_209 rfl ?_
  refine s_aload_n hC 0 dX7_pass_210 rfl ?_
  refine s_getR hC xc7 (by decide) rfl qf_X7_12 dX7_pass_211 ?_
  refine s_ltR (fun v60 => ?_)
  refine s_aload_n hC 0 dX7_pass_214 rfl ?_
  refine s_getR hC xc7 (by decide) rfl qf_X7_42 dX7_pass_215 ?_
  refine s_ltR (fun v61 => ?_)
  refine s_getI hC xc4 (by decide) rfl qf_X7_136 dX7_pass_218 ?_
  refine s_callV hC (x := v60) (avs := [vI (μ59.1 v61 7)]) (st := [vR v56]) (nest := false) xc3 (m_X3_volumeOf hI v60 (μ59.1 v61 7) μ59) dX7_pass_221 qm_X7_123 qi_X3_volumeOf qs_X3_volumeOf qc_X3 qd_X3_volumeOf qh_X3_volumeOf (by decide) (fun _ => Nat.le_of_ble_eq_true rfl) (Nat.le_of_ble_eq_true rfl) (fun v62 μ63 => ?_)
  refine s_callV hC (x := v56) (avs := [vI v62]) (st := []) (nest := false) xc7 (m_X7_spillTo hI v56 v62 μ63) dX7_pass_224 qm_X7_139 qi_X7_spillTo qs_X7_spillTo qc_X7 qd_X7_spillTo qh_X7_spillTo (by decide) (fun _ => Nat.le_of_ble_eq_true rfl) (Nat.le_of_ble_eq_true rfl) (fun _ μ64 => ?_)
  refine s_aload_n hC 0 dX7_pass_227 rfl ?_
  refine s_getR hC xc7 (by decide) rfl qf_X7_20 dX7_pass_228 ?_
  refine s_ltR (fun v65 => ?_)
  refine s_astore hC dX7_pass_231 (by decide) (lv' := [(4, vR v65), (0, vR v56), (2, vI v57)]) rfl ?_
  refine s_aload hC 0 dX7_pass_233 rfl ?_
  refine s_alen hC dX7_pass_235 ?_
  refine s_ltI (fun v66 => ?_)
  refine s_istore hC dX7_pass_236 (by decide) (lv' := [(5, vI v66), (4, vR v65), (0, vR v56), (2, vI v57)]) rfl ?_
  refine s_iconst hC dX7_pass_238 (v := 0) (by decide) ?_
  refine s_istore hC dX7_pass_239 (by decide) (lv' := [(6, vI (0 : Int32)), (5, vI v66), (4, vR v65), (0, vR v56), (2, vI v57)]) rfl ?_
  refine s_lv (lv' := [(0, vR v56), (4, vR v65), (5, vI v66), (6, vI (0 : Int32))]) [3, 2, 1, 0] rfl ?_
  refine j_X7_pass_L241 hI hC hr hlk (fun v74 μ75 => ?_) 4096 _ _ _ _ _
  refine s_aload_n hC 0 dX7_pass_266 rfl ?_
  refine s_dupR hC dX7_pass_267 ?_
  refine s_getI hC xc7 (by decide) rfl qf_X7_80 dX7_pass_268 ?_
  refine s_iconst hC dX7_pass_271 (v := 1) (by decide) ?_
  refine s_iadd hC dX7_pass_272 ?_
  refine s_putI hC xc7 (by decide) rfl rfl qf_X7_80 dX7_pass_273 ?_
  refine s_ltM (fun μ76 => ?_)
  exact s_vret hC hr hlk dX7_pass_276
