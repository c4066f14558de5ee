variable {X : x_X} {l : Launch} {p : Program} {e : Env} {s : State} {m : MethodId} {args : Array Value} {below : List Frame} {meth : Method} {c : Code}
theorem dJ9_floorMod_7cf53_0 : decode cJ9_floorMod_7cf53 0 = .ok (.iload_n 0, 1) := by decide +kernel
theorem dJ9_floorMod_7cf53_1 : decode cJ9_floorMod_7cf53 1 = .ok (.iload_n 1, 1) := by decide +kernel
theorem dJ9_floorMod_7cf53_2 : decode cJ9_floorMod_7cf53 2 = .ok (.irem, 1) := by decide +kernel
theorem dJ9_floorMod_7cf53_3 : decode cJ9_floorMod_7cf53 3 = .ok (.istore_n 2, 1) := by decide +kernel
theorem dJ9_floorMod_7cf53_4 : decode cJ9_floorMod_7cf53 4 = .ok (.iload_n 0, 1) := by decide +kernel
theorem dJ9_floorMod_7cf53_5 : decode cJ9_floorMod_7cf53 5 = .ok (.iload_n 1, 1) := by decide +kernel
theorem dJ9_floorMod_7cf53_6 : decode cJ9_floorMod_7cf53 6 = .ok (.ixor, 1) := by decide +kernel
theorem dJ9_floorMod_7cf53_7 : decode cJ9_floorMod_7cf53 7 = .ok (.ifCond .ge 11, 3) := by decide +kernel
theorem dJ9_floorMod_7cf53_10 : decode cJ9_floorMod_7cf53 10 = .ok (.iload_n 2, 1) := by decide +kernel
theorem dJ9_floorMod_7cf53_11 : decode cJ9_floorMod_7cf53 11 = .ok (.ifCond .eq 7, 3) := by decide +kernel
theorem dJ9_floorMod_7cf53_14 : decode cJ9_floorMod_7cf53 14 = .ok (.iload_n 2, 1) := by decide +kernel
theorem dJ9_floorMod_7cf53_15 : decode cJ9_floorMod_7cf53 15 = .ok (.iload_n 1, 1) := by decide +kernel
theorem dJ9_floorMod_7cf53_16 : decode cJ9_floorMod_7cf53 16 = .ok (.iadd, 1) := by decide +kernel
theorem dJ9_floorMod_7cf53_17 : decode cJ9_floorMod_7cf53 17 = .ok (.ireturn, 1) := by decide +kernel
theorem dJ9_floorMod_7cf53_18 : decode cJ9_floorMod_7cf53 18 = .ok (.iload_n 2, 1) := by decide +kernel
theorem dJ9_floorMod_7cf53_19 : decode cJ9_floorMod_7cf53 19 = .ok (.ireturn, 1) := by decide +kernel
def f_J9_floorMod_7cf53 (X : x_X) (v0 : Int32) (v1 : Int32) (μ : x_M) : Option (Int32 × x_M) :=
  (ck (¬ v1 = 0) (lt (v0 - v0 / v1 * v1) (fun (v3 : Int32) => (if 0 ≤ (v0 ^^^ v1) then (some (v3, μ)) else (if v3 = 0 then (some (v3, μ)) else (some ((v3 + v1), μ)))))))
set_option maxRecDepth 100000 in
theorem m_J9_floorMod_7cf53 (hI : x_I X) (v0 : Int32) (v1 : Int32) (μ : x_M) : x_Met X x_Z0 l yJ9_floorMod_7cf53 cJ9_floorMod_7cf53 3 (some .int) 1 [vI v0, vI v1] μ rkI (f_J9_floorMod_7cf53 X v0 v1 μ) := by
  refine x_enter hI (by decide +kernel) (Nat.le_of_ble_eq_true rfl) (fun p e s m args below meth c hC hr hlk => ?_)
  unfold f_J9_floorMod_7cf53
  refine s_lv (lv' := [(0, vI v0), (1, vI v1)]) [0, 1] rfl ?_
  refine s_iload_n hC 0 dJ9_floorMod_7cf53_0 rfl ?_
  refine s_iload_n hC 1 dJ9_floorMod_7cf53_1 rfl ?_
  refine s_irem hC dJ9_floorMod_7cf53_2 ?_
  refine s_ltI (fun v3 => ?_)
  refine s_istore_n hC dJ9_floorMod_7cf53_3 (by decide) (lv' := [(2, vI v3), (0, vI v0), (1, vI v1)]) rfl ?_
  refine s_iload_n hC 1 dJ9_floorMod_7cf53_4 rfl ?_
  refine s_iload_n hC 2 dJ9_floorMod_7cf53_5 rfl ?_
  refine s_ixor hC dJ9_floorMod_7cf53_6 ?_
  refine s_if_ge hC dJ9_floorMod_7cf53_7 (tgt := 18) (by decide) ?_ ?_
  · refine s_iload_n hC 0 dJ9_floorMod_7cf53_18 rfl ?_
    exact s_iret hC hr hlk dJ9_floorMod_7cf53_19
  refine s_iload_n hC 0 dJ9_floorMod_7cf53_10 rfl ?_
  refine s_if_eq hC dJ9_floorMod_7cf53_11 (tgt := 18) (by decide) ?_ ?_
  · refine s_iload_n hC 0 dJ9_floorMod_7cf53_18 rfl ?_
    exact s_iret hC hr hlk dJ9_floorMod_7cf53_19
  refine s_iload_n hC 0 dJ9_floorMod_7cf53_14 rfl ?_
  refine s_iload_n hC 2 dJ9_floorMod_7cf53_15 rfl ?_
  refine s_iadd hC dJ9_floorMod_7cf53_16 ?_
  exact s_iret hC hr hlk dJ9_floorMod_7cf53_17
theorem dJ3_checkIndex_8e157_0 : decode cJ3_checkIndex_8e157 0 = .ok (.iload_n 0, 1) := by decide +kernel
theorem dJ3_checkIndex_8e157_1 : decode cJ3_checkIndex_8e157 1 = .ok (.ifCond .lt 8, 3) := by decide +kernel
theorem dJ3_checkIndex_8e157_4 : decode cJ3_checkIndex_8e157 4 = .ok (.iload_n 0, 1) := by decide +kernel
theorem dJ3_checkIndex_8e157_5 : decode cJ3_checkIndex_8e157 5 = .ok (.iload_n 1, 1) := by decide +kernel
theorem dJ3_checkIndex_8e157_6 : decode cJ3_checkIndex_8e157 6 = .ok (.if_icmp .lt 10, 3) := by decide +kernel
theorem dJ3_checkIndex_8e157_9 : decode cJ3_checkIndex_8e157 9 = .ok (.aload_n 2, 1) := by decide +kernel
theorem dJ3_checkIndex_8e157_10 : decode cJ3_checkIndex_8e157 10 = .ok (.iload_n 0, 1) := by decide +kernel
theorem dJ3_checkIndex_8e157_11 : decode cJ3_checkIndex_8e157 11 = .ok (.iload_n 1, 1) := by decide +kernel
theorem dJ3_checkIndex_8e157_12 : decode cJ3_checkIndex_8e157 12 = .ok (.invokestatic 95, 3) := by decide +kernel
theorem dJ3_checkIndex_8e157_15 : decode cJ3_checkIndex_8e157 15 = .ok (.athrow, 1) := by decide +kernel
theorem dJ3_checkIndex_8e157_16 : decode cJ3_checkIndex_8e157 16 = .ok (.iload_n 0, 1) := by decide +kernel
theorem dJ3_checkIndex_8e157_17 : decode cJ3_checkIndex_8e157 17 = .ok (.ireturn, 1) := by decide +kernel
def f_J3_checkIndex_8e157 (X : x_X) (v0 : Int32) (v1 : Int32) (v2 : Nat) (μ : x_M) : Option (Int32 × x_M) :=
  (if v0 < 0 then none else (if v0 < v1 then (some (v0, μ)) else none))
set_option maxRecDepth 100000 in
theorem m_J3_checkIndex_8e157 (hI : x_I X) (v0 : Int32) (v1 : Int32) (v2 : Nat) (μ : x_M) : x_Met X x_Z0 l yJ3_checkIndex_8e157 cJ3_checkIndex_8e157 3 (some .int) 1 [vI v0, vI v1, vR v2] μ rkI (f_J3_checkIndex_8e157 X v0 v1 v2 μ) := by
  refine x_enter hI (by decide +kernel) (Nat.le_of_ble_eq_true rfl) (fun p e s m args below meth c hC hr hlk => ?_)
  unfold f_J3_checkIndex_8e157
  refine s_lv (lv' := [(0, vI v0), (1, vI v1), (2, vR v2)]) [0, 1, 2] rfl ?_
  refine s_iload_n hC 0 dJ3_checkIndex_8e157_0 rfl ?_
  refine s_if_lt hC dJ3_checkIndex_8e157_1 (tgt := 9) (by decide) ?_ ?_
  · refine s_aload_n hC 2 dJ3_checkIndex_8e157_9 rfl ?_
    refine s_iload_n hC 0 dJ3_checkIndex_8e157_10 rfl ?_
    refine s_iload_n hC 1 dJ3_checkIndex_8e157_11 rfl ?_
    exact s_none
  refine s_iload_n hC 0 dJ3_checkIndex_8e157_4 rfl ?_
  refine s_iload_n hC 1 dJ3_checkIndex_8e157_5 rfl ?_
  refine s_icmp_lt hC dJ3_checkIndex_8e157_6 (tgt := 16) (by decide) ?_ ?_
  · refine s_iload_n hC 0 dJ3_checkIndex_8e157_16 rfl ?_
    exact s_iret hC hr hlk dJ3_checkIndex_8e157_17
  refine s_aload_n hC 2 dJ3_checkIndex_8e157_9 rfl ?_
  refine s_iload_n hC 0 dJ3_checkIndex_8e157_10 rfl ?_
  refine s_iload_n hC 1 dJ3_checkIndex_8e157_11 rfl ?_
  exact s_none
theorem dJ1_canEncode_9a6ad_0 : decode cJ1_canEncode_9a6ad 0 = .ok (.iload_n 0, 1) := by decide +kernel
theorem dJ1_canEncode_9a6ad_1 : decode cJ1_canEncode_9a6ad 1 = .ok (.ifCond .lt 14, 3) := by decide +kernel
theorem dJ1_canEncode_9a6ad_4 : decode cJ1_canEncode_9a6ad 4 = .ok (.iload_n 0, 1) := by decide +kernel
theorem dJ1_canEncode_9a6ad_5 : decode cJ1_canEncode_9a6ad 5 = .ok (.sipush 255, 3) := by decide +kernel
theorem dJ1_canEncode_9a6ad_8 : decode cJ1_canEncode_9a6ad 8 = .ok (.if_icmp .gt 7, 3) := by decide +kernel
theorem dJ1_canEncode_9a6ad_11 : decode cJ1_canEncode_9a6ad 11 = .ok (.iconst 1, 1) := by decide +kernel
theorem dJ1_canEncode_9a6ad_12 : decode cJ1_canEncode_9a6ad 12 = .ok (.goto 4, 3) := by decide +kernel
theorem dJ1_canEncode_9a6ad_15 : decode cJ1_canEncode_9a6ad 15 = .ok (.iconst 0, 1) := by decide +kernel
theorem dJ1_canEncode_9a6ad_16 : decode cJ1_canEncode_9a6ad 16 = .ok (.ireturn, 1) := by decide +kernel
def f_J1_canEncode_9a6ad (X : x_X) (v0 : Int32) (μ : x_M) : Option (Int32 × x_M) :=
  (if v0 < 0 then (ck ((0 : Int32) = 0 ∨ (0 : Int32) = 1) (some ((0 : Int32), μ))) else (if (255 : Int32) < v0 then (ck ((0 : Int32) = 0 ∨ (0 : Int32) = 1) (some ((0 : Int32), μ))) else (ck ((1 : Int32) = 0 ∨ (1 : Int32) = 1) (some ((1 : Int32), μ)))))
set_option maxRecDepth 100000 in
theorem m_J1_canEncode_9a6ad (hI : x_I X) (v0 : Int32) (μ : x_M) : x_Met X x_Z0 l yJ1_canEncode_9a6ad cJ1_canEncode_9a6ad 1 (some .boolean) 1 [vI v0] μ rkI (f_J1_canEncode_9a6ad X v0 μ) := by
  refine x_enter hI (by decide +kernel) (Nat.le_of_ble_eq_true rfl) (fun p e s m args below meth c hC hr hlk => ?_)
  unfold f_J1_canEncode_9a6ad
  refine s_lv (lv' := [(0, vI v0)]) [0] rfl ?_
  refine s_iload_n hC 0 dJ1_canEncode_9a6ad_0 rfl ?_
  refine s_if_lt hC dJ1_canEncode_9a6ad_1 (tgt := 15) (by decide) ?_ ?_
  · refine s_iconst hC dJ1_canEncode_9a6ad_15 (v := 0) (by decide) ?_
    exact s_zret hC hr hlk dJ1_canEncode_9a6ad_16
  refine s_iload_n hC 0 dJ1_canEncode_9a6ad_4 rfl ?_
  refine s_sipush hC dJ1_canEncode_9a6ad_5 (v := 255) (by decide) ?_
  refine s_icmp_gt hC dJ1_canEncode_9a6ad_8 (tgt := 15) (by decide) ?_ ?_
  · refine s_iconst hC dJ1_canEncode_9a6ad_15 (v := 0) (by decide) ?_
    exact s_zret hC hr hlk dJ1_canEncode_9a6ad_16
  refine s_iconst hC dJ1_canEncode_9a6ad_11 (v := 1) (by decide) ?_
  refine s_goto hC dJ1_canEncode_9a6ad_12 (tgt := 16) (by decide) ?_
  exact s_zret hC hr hlk dJ1_canEncode_9a6ad_16
theorem dJ1_indexOfChar_4cfef_0 : decode cJ1_indexOfChar_4cfef 0 = .ok (.iload_n 1, 1) := by decide +kernel
theorem dJ1_indexOfChar_4cfef_1 : decode cJ1_indexOfChar_4cfef 1 = .ok (.i2b, 1) := by decide +kernel
theorem dJ1_indexOfChar_4cfef_2 : decode cJ1_indexOfChar_4cfef 2 = .ok (.istore 4, 2) := by decide +kernel
theorem dJ1_indexOfChar_4cfef_4 : decode cJ1_indexOfChar_4cfef 4 = .ok (.iload_n 2, 1) := by decide +kernel
theorem dJ1_indexOfChar_4cfef_5 : decode cJ1_indexOfChar_4cfef 5 = .ok (.istore 5, 2) := by decide +kernel
theorem dJ1_indexOfChar_4cfef_7 : decode cJ1_indexOfChar_4cfef 7 = .ok (.iload 5, 2) := by decide +kernel
theorem dJ1_indexOfChar_4cfef_9 : decode cJ1_indexOfChar_4cfef 9 = .ok (.iload_n 3, 1) := by decide +kernel
theorem dJ1_indexOfChar_4cfef_10 : decode cJ1_indexOfChar_4cfef 10 = .ok (.if_icmp .ge 21, 3) := by decide +kernel
theorem dJ1_indexOfChar_4cfef_13 : decode cJ1_indexOfChar_4cfef 13 = .ok (.aload_n 0, 1) := by decide +kernel
theorem dJ1_indexOfChar_4cfef_14 : decode cJ1_indexOfChar_4cfef 14 = .ok (.iload 5, 2) := by decide +kernel
theorem dJ1_indexOfChar_4cfef_16 : decode cJ1_indexOfChar_4cfef 16 = .ok (.baload, 1) := by decide +kernel
theorem dJ1_indexOfChar_4cfef_17 : decode cJ1_indexOfChar_4cfef 17 = .ok (.iload 4, 2) := by decide +kernel
theorem dJ1_indexOfChar_4cfef_19 : decode cJ1_indexOfChar_4cfef 19 = .ok (.if_icmp .ne 6, 3) := by decide +kernel
theorem dJ1_indexOfChar_4cfef_22 : decode cJ1_indexOfChar_4cfef 22 = .ok (.iload 5, 2) := by decide +kernel
theorem dJ1_indexOfChar_4cfef_24 : decode cJ1_indexOfChar_4cfef 24 = .ok (.ireturn, 1) := by decide +kernel
theorem dJ1_indexOfChar_4cfef_25 : decode cJ1_indexOfChar_4cfef 25 = .ok (.iinc 5 1, 3) := by decide +kernel
theorem dJ1_indexOfChar_4cfef_28 : decode cJ1_indexOfChar_4cfef 28 = .ok (.goto (-21), 3) := by decide +kernel
theorem dJ1_indexOfChar_4cfef_31 : decode cJ1_indexOfChar_4cfef 31 = .ok (.iconst (-1), 1) := by decide +kernel
theorem dJ1_indexOfChar_4cfef_32 : decode cJ1_indexOfChar_4cfef 32 = .ok (.ireturn, 1) := by decide +kernel
def f_J1_indexOfChar_4cfef_L7 (X : x_X) : Nat → Nat → Int32 → Int32 → Int32 → x_M → Option (Int32 × x_M)
  | 0, _, _, _, _, _ => none
  | n + 1, v6, v7, v8, v9, μ10 =>
    (if v7 ≤ v9 then (some ((-1 : Int32), μ10)) else (ck ((x_kd X v6 = 22 ∨ x_kd X v6 = 41) ∧ x_ix v9 (x_ln X v6)) (if (μ10.1 v6 (v9).toNatClampNeg) = v8 then (some (v9, μ10)) else (f_J1_indexOfChar_4cfef_L7 X n v6 v7 v8 (v9 + (1 : Int32)) μ10))))
set_option maxRecDepth 100000 in
theorem j_J1_indexOfChar_4cfef_L7 (hI : x_I X) (hC : x_C X x_Z0 p (x_rm 1) s m c cJ1_indexOfChar_4cfef RJ1 6 0 0 1) (hr : meth.sig.returnType = (some .int)) (hlk : meth.locks = false) : ∀ (n : Nat) (v6 : Nat) (v7 : Int32) (v8 : Int32) (v9 : Int32) (μ10 : x_M), SM X 6 1 rkI p l e s m args below meth c 7 [(0, vR v6), (3, vI v7), (4, vI v8), (5, vI v9)] [] μ10 (f_J1_indexOfChar_4cfef_L7 X n v6 v7 v8 v9 μ10) := by
  intro n
  induction n with
  | zero => intro v6 v7 v8 v9 μ10; exact s_none
  | succ n ih =>
    intro v6 v7 v8 v9 μ10
    unfold f_J1_indexOfChar_4cfef_L7
    refine s_iload hC 3 dJ1_indexOfChar_4cfef_7 rfl ?_
    refine s_iload_n hC 1 dJ1_indexOfChar_4cfef_9 rfl ?_
    refine s_icmp_ge hC dJ1_indexOfChar_4cfef_10 (tgt := 31) (by decide) ?_ ?_
    · refine s_iconst hC dJ1_indexOfChar_4cfef_31 (v := -1) (by decide) ?_
      exact s_iret hC hr hlk dJ1_indexOfChar_4cfef_32
    refine s_aload_n hC 0 dJ1_indexOfChar_4cfef_13 rfl ?_
    refine s_iload hC 3 dJ1_indexOfChar_4cfef_14 rfl ?_
    refine s_bald hC dJ1_indexOfChar_4cfef_16 ?_
    refine s_iload hC 2 dJ1_indexOfChar_4cfef_17 rfl ?_
    refine s_icmp_ne hC dJ1_indexOfChar_4cfef_19 (tgt := 25) (by decide) ?_ ?_
    · refine s_iinc hC 3 dJ1_indexOfChar_4cfef_25 rfl (w := 1) (by decide) (by decide) (lv' := [(5, vI (v9 + (1 : Int32))), (0, vR v6), (3, vI v7), (4, vI v8)]) rfl ?_
      refine s_goto hC dJ1_indexOfChar_4cfef_28 (tgt := 7) (by decide) ?_
      refine s_lv (lv' := [(0, vR v6), (3, vI v7), (4, vI v8), (5, vI (v9 + (1 : Int32)))]) [1, 2, 3, 0] rfl ?_
      exact ih _ _ _ _ _
    refine s_iload hC 3 dJ1_indexOfChar_4cfef_22 rfl ?_
    exact s_iret hC hr hlk dJ1_indexOfChar_4cfef_24
def f_J1_indexOfChar_4cfef (X : x_X) (v0 : Nat) (v1 : Int32) (v2 : Int32) (v3 : Int32) (μ : x_M) : Option (Int32 × x_M) :=
  (lt ((v1).toInt8.toInt32) (fun (v5 : Int32) => (f_J1_indexOfChar_4cfef_L7 X 4096 v0 v3 v5 v2 μ)))
set_option maxRecDepth 100000 in
theorem m_J1_indexOfChar_4cfef (hI : x_I X) (v0 : Nat) (v1 : Int32) (v2 : Int32) (v3 : Int32) (μ : x_M) : x_Met X x_Z0 l yJ1_indexOfChar_4cfef cJ1_indexOfChar_4cfef 6 (some .int) 1 [vR v0, vI v1, vI v2, vI v3] μ rkI (f_J1_indexOfChar_4cfef X v0 v1 v2 v3 μ) := by
  refine x_enter hI (by decide +kernel) (Nat.le_of_ble_eq_true rfl) (fun p e s m args below meth c hC hr hlk => ?_)
  unfold f_J1_indexOfChar_4cfef
  refine s_lv (lv' := [(0, vR v0), (1, vI v1), (2, vI v2), (3, vI v3)]) [0, 1, 2, 3] rfl ?_
  refine s_iload_n hC 1 dJ1_indexOfChar_4cfef_0 rfl ?_
  refine s_i2b hC dJ1_indexOfChar_4cfef_1 ?_
  refine s_ltI (fun v5 => ?_)
  refine s_istore hC dJ1_indexOfChar_4cfef_2 (by decide) (lv' := [(4, vI v5), (0, vR v0), (1, vI v1), (2, vI v2), (3, vI v3)]) rfl ?_
  refine s_iload_n hC 3 dJ1_indexOfChar_4cfef_4 rfl ?_
  refine s_istore hC dJ1_indexOfChar_4cfef_5 (by decide) (lv' := [(5, vI v2), (4, vI v5), (0, vR v0), (1, vI v1), (2, vI v2), (3, vI v3)]) rfl ?_
  refine s_lv (lv' := [(0, vR v0), (3, vI v3), (4, vI v5), (5, vI v2)]) [2, 5, 1, 0] rfl ?_
  refine j_J1_indexOfChar_4cfef_L7 hI hC hr hlk 4096 _ _ _ _ _
theorem dJ1_indexOf_4cfef_0 : decode cJ1_indexOf_4cfef 0 = .ok (.iload_n 1, 1) := by decide +kernel
theorem dJ1_indexOf_4cfef_1 : decode cJ1_indexOf_4cfef 1 = .ok (.invokestatic 88, 3) := by decide +kernel
theorem dJ1_indexOf_4cfef_4 : decode cJ1_indexOf_4cfef 4 = .ok (.ifCond .ne 5, 3) := by decide +kernel
theorem dJ1_indexOf_4cfef_7 : decode cJ1_indexOf_4cfef 7 = .ok (.iconst (-1), 1) := by decide +kernel
theorem dJ1_indexOf_4cfef_8 : decode cJ1_indexOf_4cfef 8 = .ok (.ireturn, 1) := by decide +kernel
theorem dJ1_indexOf_4cfef_9 : decode cJ1_indexOf_4cfef 9 = .ok (.iload_n 2, 1) := by decide +kernel
theorem dJ1_indexOf_4cfef_10 : decode cJ1_indexOf_4cfef 10 = .ok (.iconst 0, 1) := by decide +kernel
theorem dJ1_indexOf_4cfef_11 : decode cJ1_indexOf_4cfef 11 = .ok (.invokestatic 92, 3) := by decide +kernel
theorem dJ1_indexOf_4cfef_14 : decode cJ1_indexOf_4cfef 14 = .ok (.istore_n 2, 1) := by decide +kernel
theorem dJ1_indexOf_4cfef_15 : decode cJ1_indexOf_4cfef 15 = .ok (.iload_n 3, 1) := by decide +kernel
theorem dJ1_indexOf_4cfef_16 : decode cJ1_indexOf_4cfef 16 = .ok (.aload_n 0, 1) := by decide +kernel
theorem dJ1_indexOf_4cfef_17 : decode cJ1_indexOf_4cfef 17 = .ok (.arraylength, 1) := by decide +kernel
theorem dJ1_indexOf_4cfef_18 : decode cJ1_indexOf_4cfef 18 = .ok (.invokestatic 38, 3) := by decide +kernel
theorem dJ1_indexOf_4cfef_21 : decode cJ1_indexOf_4cfef 21 = .ok (.istore_n 3, 1) := by decide +kernel
theorem dJ1_indexOf_4cfef_22 : decode cJ1_indexOf_4cfef 22 = .ok (.iload_n 2, 1) := by decide +kernel
theorem dJ1_indexOf_4cfef_23 : decode cJ1_indexOf_4cfef 23 = .ok (.iload_n 3, 1) := by decide +kernel
theorem dJ1_indexOf_4cfef_24 : decode cJ1_indexOf_4cfef 24 = .ok (.if_icmp .lt 5, 3) := by decide +kernel
theorem dJ1_indexOf_4cfef_27 : decode cJ1_indexOf_4cfef 27 = .ok (.iconst (-1), 1) := by decide +kernel
theorem dJ1_indexOf_4cfef_28 : decode cJ1_indexOf_4cfef 28 = .ok (.ireturn, 1) := by decide +kernel
theorem dJ1_indexOf_4cfef_29 : decode cJ1_indexOf_4cfef 29 = .ok (.aload_n 0, 1) := by decide +kernel
theorem dJ1_indexOf_4cfef_30 : decode cJ1_indexOf_4cfef 30 = .ok (.iload_n 1, 1) := by decide +kernel
theorem dJ1_indexOf_4cfef_31 : decode cJ1_indexOf_4cfef 31 = .ok (.iload_n 2, 1) := by decide +kernel
theorem dJ1_indexOf_4cfef_32 : decode cJ1_indexOf_4cfef 32 = .ok (.iload_n 3, 1) := by decide +kernel
theorem dJ1_indexOf_4cfef_33 : decode cJ1_indexOf_4cfef 33 = .ok (.invokestatic 95, 3) := by decide +kernel
theorem dJ1_indexOf_4cfef_36 : decode cJ1_indexOf_4cfef 36 = .ok (.ireturn, 1) := by decide +kernel
def f_J1_indexOf_4cfef (X : x_X) (v0 : Nat) (v1 : Int32) (v2 : Int32) (v3 : Int32) (μ : x_M) : Option (Int32 × x_M) :=
  (bd (f_J1_canEncode_9a6ad X v1 μ) (fun (v5 : Int32) (μ6 : x_M) => (if v5 = 0 then (some ((-1 : Int32), μ6)) else (lt (if v2 < (0 : Int32) then (0 : Int32) else v2) (fun (v7 : Int32) => (ck (x_kd X v0 = 20 ∨ x_kd X v0 = 23 ∨ x_kd X v0 = 40 ∨ x_kd X v0 = 41) (lt (nI (x_ln X v0)) (fun (v8 : Int32) => (lt (if v8 < v3 then v8 else v3) (fun (v9 : Int32) => (if v7 < v9 then (bd (f_J1_indexOfChar_4cfef X v0 v1 v7 v9 μ6) (fun (v10 : Int32) (μ11 : x_M) => (some (v10, μ11)))) else (some ((-1 : Int32), μ6)))))))))))))
set_option maxRecDepth 100000 in
theorem m_J1_indexOf_4cfef (hI : x_I X) (v0 : Nat) (v1 : Int32) (v2 : Int32) (v3 : Int32) (μ : x_M) : x_Met X x_Z0 l yJ1_indexOf_4cfef cJ1_indexOf_4cfef 4 (some .int) 2 [vR v0, vI v1, vI v2, vI v3] μ rkI (f_J1_indexOf_4cfef X v0 v1 v2 v3 μ) := by
  refine x_enter hI (by decide +kernel) (Nat.le_of_ble_eq_true rfl) (fun p e s m args below meth c hC hr hlk => ?_)
  unfold f_J1_indexOf_4cfef
  refine s_lv (lv' := [(0, vR v0), (1, vI v1), (2, vI v2), (3, vI v3)]) [0, 1, 2, 3] rfl ?_
  refine s_iload_n hC 1 dJ1_indexOf_4cfef_0 rfl ?_
  refine s_callS hC (avs := [vI v1]) (st := []) (nest := false) (m_J1_canEncode_9a6ad hI v1 μ) dJ1_indexOf_4cfef_1 qm_J1_88 qt_J1_canEncode_9a6ad qc_J1 qd_J1_canEncode_9a6ad qh_J1_canEncode_9a6ad (by decide) (fun _ => Nat.le_of_ble_eq_true rfl) (Nat.le_of_ble_eq_true rfl) (fun v5 μ6 => ?_)
  refine s_if_ne hC dJ1_indexOf_4cfef_4 (tgt := 9) (by decide) ?_ ?_
  · refine s_iload_n hC 2 dJ1_indexOf_4cfef_9 rfl ?_
    refine s_iconst hC dJ1_indexOf_4cfef_10 (v := 0) (by decide) ?_
    refine s_max hC dJ1_indexOf_4cfef_11 qm_J1_92 qt_Math_max qc_Math qd_Math_max (by decide) (Nat.le_of_ble_eq_true rfl) ?_
    refine s_ltI (fun v7 => ?_)
    refine s_istore_n hC dJ1_indexOf_4cfef_14 (by decide) (lv' := [(2, vI v7), (0, vR v0), (1, vI v1), (3, vI v3)]) rfl ?_
    refine s_iload_n hC 3 dJ1_indexOf_4cfef_15 rfl ?_
    refine s_aload_n hC 1 dJ1_indexOf_4cfef_16 rfl ?_
    refine s_alen hC dJ1_indexOf_4cfef_17 ?_
    refine s_ltI (fun v8 => ?_)
    refine s_min hC dJ1_indexOf_4cfef_18 qm_J1_38 qt_Math_min qc_Math qd_Math_min (by decide) (Nat.le_of_ble_eq_true rfl) ?_
    refine s_ltI (fun v9 => ?_)
    refine s_istore_n hC dJ1_indexOf_4cfef_21 (by decide) (lv' := [(3, vI v9), (2, vI v7), (0, vR v0), (1, vI v1)]) rfl ?_
    refine s_iload_n hC 1 dJ1_indexOf_4cfef_22 rfl ?_
    refine s_iload_n hC 0 dJ1_indexOf_4cfef_23 rfl ?_
    refine s_icmp_lt hC dJ1_indexOf_4cfef_24 (tgt := 29) (by decide) ?_ ?_
    · refine s_aload_n hC 2 dJ1_indexOf_4cfef_29 rfl ?_
      refine s_iload_n hC 3 dJ1_indexOf_4cfef_30 rfl ?_
      refine s_iload_n hC 1 dJ1_indexOf_4cfef_31 rfl ?_
      refine s_iload_n hC 0 dJ1_indexOf_4cfef_32 rfl ?_
      refine s_callS hC (avs := [vR v0, vI v1, vI v7, vI v9]) (st := []) (nest := false) (m_J1_indexOfChar_4cfef hI v0 v1 v7 v9 μ6) dJ1_indexOf_4cfef_33 qm_J1_95 qt_J1_indexOfChar_4cfef qc_J1 qd_J1_indexOfChar_4cfef qh_J1_indexOfChar_4cfef (by decide) (fun _ => Nat.le_of_ble_eq_true rfl) (Nat.le_of_ble_eq_true rfl) (fun v10 μ11 => ?_)
      exact s_iret hC hr hlk dJ1_indexOf_4cfef_36
    refine s_iconst hC dJ1_indexOf_4cfef_27 (v := -1) (by decide) ?_
    exact s_iret hC hr hlk dJ1_indexOf_4cfef_28
  refine s_iconst hC dJ1_indexOf_4cfef_7 (v := -1) (by decide) ?_
  exact s_iret hC hr hlk dJ1_indexOf_4cfef_8
theorem dJ0_checkIndex_df160_0 : decode cJ0_checkIndex_df160 0 = .ok (.iload_n 0, 1) := by decide +kernel
theorem dJ0_checkIndex_df160_1 : decode cJ0_checkIndex_df160 1 = .ok (.iload_n 1, 1) := by decide +kernel
theorem dJ0_checkIndex_df160_2 : decode cJ0_checkIndex_df160 2 = .ok (.getstatic 1053, 3) := by decide +kernel
theorem dJ0_checkIndex_df160_5 : decode cJ0_checkIndex_df160 5 = .ok (.invokestatic 1059, 3) := by decide +kernel
theorem dJ0_checkIndex_df160_8 : decode cJ0_checkIndex_df160 8 = .ok (.pop, 1) := by decide +kernel
theorem dJ0_checkIndex_df160_9 : decode cJ0_checkIndex_df160 9 = .ok (.return_, 1) := by decide +kernel
def f_J0_checkIndex_df160 (X : x_X) (v0 : Int32) (v1 : Int32) (μ : x_M) : Option (Unit × x_M) :=
  (bd (f_J3_checkIndex_8e157 X v0 v1 803 μ) (fun (v3 : Int32) (μ4 : x_M) => (some ((), μ4))))
set_option maxRecDepth 100000 in
theorem m_J0_checkIndex_df160 (hI : x_I X) (v0 : Int32) (v1 : Int32) (μ : x_M) : x_Met X x_Z0 l yJ0_checkIndex_df160 cJ0_checkIndex_df160 2 none 2 [vI v0, vI v1] μ rkV (f_J0_checkIndex_df160 X v0 v1 μ) := by
  refine x_enter hI (by decide +kernel) (Nat.le_of_ble_eq_true rfl) (fun p e s m args below meth c hC hr hlk => ?_)
  unfold f_J0_checkIndex_df160
  refine s_lv (lv' := [(0, vI v0), (1, vI v1)]) [0, 1] rfl ?_
  refine s_iload_n hC 0 dJ0_checkIndex_df160_0 rfl ?_
  refine s_iload_n hC 1 dJ0_checkIndex_df160_1 rfl ?_
  refine s_getsQ hC dJ0_checkIndex_df160_2 qg_J0_1053 ?_ ?_
  · refine s_callS hC (avs := [vI v0, vI v1, vR 0]) (st := []) (nest := false) (m_J3_checkIndex_8e157 hI v0 v1 0 μ) dJ0_checkIndex_df160_5 qm_J0_1059 qt_J3_checkIndex_8e157 qc_J3 qd_J3_checkIndex_8e157 qh_J3_checkIndex_8e157 (by decide) (fun _ => Nat.le_of_ble_eq_true rfl) (Nat.le_of_ble_eq_true rfl) (fun v3 μ4 => ?_)
    refine s_pop hC dJ0_checkIndex_df160_8 rfl ?_
    exact s_vret hC hr hlk dJ0_checkIndex_df160_9
  refine s_callS hC (avs := [vI v0, vI v1, vR 803]) (st := []) (nest := false) (m_J3_checkIndex_8e157 hI v0 v1 803 μ) dJ0_checkIndex_df160_5 qm_J0_1059 qt_J3_checkIndex_8e157 qc_J3 qd_J3_checkIndex_8e157 qh_J3_checkIndex_8e157 (by decide) (fun _ => Nat.le_of_ble_eq_true rfl) (Nat.le_of_ble_eq_true rfl) (fun v3 μ4 => ?_)
  refine s_pop hC dJ0_checkIndex_df160_8 rfl ?_
  exact s_vret hC hr hlk dJ0_checkIndex_df160_9
theorem dJ1_charAt_3b067_0 : decode cJ1_charAt_3b067 0 = .ok (.iload_n 1, 1) := by decide +kernel
theorem dJ1_charAt_3b067_1 : decode cJ1_charAt_3b067 1 = .ok (.aload_n 0, 1) := by decide +kernel
theorem dJ1_charAt_3b067_2 : decode cJ1_charAt_3b067 2 = .ok (.arraylength, 1) := by decide +kernel
theorem dJ1_charAt_3b067_3 : decode cJ1_charAt_3b067 3 = .ok (.invokestatic 9, 3) := by decide +kernel
theorem dJ1_charAt_3b067_6 : decode cJ1_charAt_3b067 6 = .ok (.aload_n 0, 1) := by decide +kernel
theorem dJ1_charAt_3b067_7 : decode cJ1_charAt_3b067 7 = .ok (.iload_n 1, 1) := by decide +kernel
theorem dJ1_charAt_3b067_8 : decode cJ1_charAt_3b067 8 = .ok (.baload, 1) := by decide +kernel
theorem dJ1_charAt_3b067_9 : decode cJ1_charAt_3b067 9 = .ok (.sipush 255, 3) := by decide +kernel
theorem dJ1_charAt_3b067_12 : decode cJ1_charAt_3b067 12 = .ok (.iand, 1) := by decide +kernel
theorem dJ1_charAt_3b067_13 : decode cJ1_charAt_3b067 13 = .ok (.i2c, 1) := by decide +kernel
theorem dJ1_charAt_3b067_14 : decode cJ1_charAt_3b067 14 = .ok (.ireturn, 1) := by decide +kernel
def f_J1_charAt_3b067 (X : x_X) (v0 : Nat) (v1 : Int32) (μ : x_M) : Option (Int32 × x_M) :=
  (ck (x_kd X v0 = 20 ∨ x_kd X v0 = 23 ∨ x_kd X v0 = 40 ∨ x_kd X v0 = 41) (bd (f_J0_checkIndex_df160 X v1 (nI (x_ln X v0)) μ) (fun (_ : Unit) (μ3 : x_M) => (ck ((x_kd X v0 = 22 ∨ x_kd X v0 = 41) ∧ x_ix v1 (x_ln X v0)) (lt (((((μ3.1 v0 (v1).toNatClampNeg) &&& (255 : Int32))).toUInt32 % 65536).toInt32) (fun (v4 : Int32) => (ck (((v4).toUInt32 % 65536).toInt32 = v4) (some (v4, μ3)))))))))
set_option maxRecDepth 100000 in
theorem m_J1_charAt_3b067 (hI : x_I X) (v0 : Nat) (v1 : Int32) (μ : x_M) : x_Met X x_Z0 l yJ1_charAt_3b067 cJ1_charAt_3b067 2 (some .char) 3 [vR v0, vI v1] μ rkI (f_J1_charAt_3b067 X v0 v1 μ) := by
  refine x_enter hI (by decide +kernel) (Nat.le_of_ble_eq_true rfl) (fun p e s m args below meth c hC hr hlk => ?_)
  unfold f_J1_charAt_3b067
  refine s_lv (lv' := [(0, vR v0), (1, vI v1)]) [0, 1] rfl ?_
  refine s_iload_n hC 1 dJ1_charAt_3b067_0 rfl ?_
  refine s_aload_n hC 0 dJ1_charAt_3b067_1 rfl ?_
  refine s_alen hC dJ1_charAt_3b067_2 ?_
  refine s_callS hC (avs := [vI v1, vI (nI (x_ln X v0))]) (st := []) (nest := false) (m_J0_checkIndex_df160 hI v1 (nI (x_ln X v0)) μ) dJ1_charAt_3b067_3 qm_J1_9 qt_J0_checkIndex_df160 qc_J0 qd_J0_checkIndex_df160 qh_J0_checkIndex_df160 (by decide) (fun _ => Nat.le_of_ble_eq_true rfl) (Nat.le_of_ble_eq_true rfl) (fun _ μ3 => ?_)
  refine s_aload_n hC 0 dJ1_charAt_3b067_6 rfl ?_
  refine s_iload_n hC 1 dJ1_charAt_3b067_7 rfl ?_
  refine s_bald hC dJ1_charAt_3b067_8 ?_
  refine s_sipush hC dJ1_charAt_3b067_9 (v := 255) (by decide) ?_
  refine s_iand hC dJ1_charAt_3b067_12 ?_
  refine s_i2c hC dJ1_charAt_3b067_13 ?_
  refine s_ltI (fun v4 => ?_)
  exact s_cret hC hr hlk dJ1_charAt_3b067_14
theorem dJ0_coder_7d493_0 : decode cJ0_coder_7d493 0 = .ok (.getstatic 38, 3) := by decide +kernel
theorem dJ0_coder_7d493_3 : decode cJ0_coder_7d493 3 = .ok (.ifCond .eq 10, 3) := by decide +kernel
theorem dJ0_coder_7d493_6 : decode cJ0_coder_7d493 6 = .ok (.aload_n 0, 1) := by decide +kernel
theorem dJ0_coder_7d493_7 : decode cJ0_coder_7d493 7 = .ok (.getfield 15, 3) := by decide +kernel
theorem dJ0_coder_7d493_10 : decode cJ0_coder_7d493 10 = .ok (.goto 4, 3) := by decide +kernel
theorem dJ0_coder_7d493_13 : decode cJ0_coder_7d493 13 = .ok (.iconst 1, 1) := by decide +kernel
theorem dJ0_coder_7d493_14 : decode cJ0_coder_7d493 14 = .ok (.ireturn, 1) := by decide +kernel
def f_J0_coder_7d493 (X : x_X) (v0 : Nat) (μ : x_M) : Option (Int32 × x_M) :=
  (if (1 : Int32) = 0 then (ck (((1 : Int32)).toInt8.toInt32 = (1 : Int32)) (some ((1 : Int32), μ))) else (ck (x_kd X v0 = 50) (lt (μ.1 v0 0) (fun (v2 : Int32) => (ck ((v2).toInt8.toInt32 = v2) (some (v2, μ)))))))
set_option maxRecDepth 100000 in
theorem m_J0_coder_7d493 (hI : x_I X) (v0 : Nat) (μ : x_M) : x_Met X x_Z0 l yJ0_coder_7d493 cJ0_coder_7d493 1 (some .byte) 1 [vR v0] μ rkI (f_J0_coder_7d493 X v0 μ) := by
  refine x_enter hI (by decide +kernel) (Nat.le_of_ble_eq_true rfl) (fun p e s m args below meth c hC hr hlk => ?_)
  unfold f_J0_coder_7d493
  refine s_lv (lv' := [(0, vR v0)]) [0] rfl ?_
  refine s_getsI hC dJ0_coder_7d493_0 (v := 1) (List.mem_of_getElem? (i := 0) rfl) qg_J0_38 ?_
  refine s_if_eq hC dJ0_coder_7d493_3 (tgt := 13) (by decide) ?_ ?_
  · refine s_iconst hC dJ0_coder_7d493_13 (v := 1) (by decide) ?_
    exact s_bret hC hr hlk dJ0_coder_7d493_14
  refine s_aload_n hC 0 dJ0_coder_7d493_6 rfl ?_
  refine s_gcod hC qf_J0_15 dJ0_coder_7d493_7 ?_
  refine s_goto hC dJ0_coder_7d493_10 (tgt := 14) (by decide) ?_
  refine s_ltI (fun v2 => ?_)
  exact s_bret hC hr hlk dJ0_coder_7d493_14
theorem dJ0_isLatin1_aae02_0 : decode cJ0_isLatin1_aae02 0 = .ok (.getstatic 38, 3) := by decide +kernel
theorem dJ0_isLatin1_aae02_3 : decode cJ0_isLatin1_aae02 3 = .ok (.ifCond .eq 14, 3) := by decide +kernel
theorem dJ0_isLatin1_aae02_6 : decode cJ0_isLatin1_aae02 6 = .ok (.aload_n 0, 1) := by decide +kernel
theorem dJ0_isLatin1_aae02_7 : decode cJ0_isLatin1_aae02 7 = .ok (.getfield 15, 3) := by decide +kernel
theorem dJ0_isLatin1_aae02_10 : decode cJ0_isLatin1_aae02 10 = .ok (.ifCond .ne 7, 3) := by decide +kernel
theorem dJ0_isLatin1_aae02_13 : decode cJ0_isLatin1_aae02 13 = .ok (.iconst 1, 1) := by decide +kernel
theorem dJ0_isLatin1_aae02_14 : decode cJ0_isLatin1_aae02 14 = .ok (.goto 4, 3) := by decide +kernel
theorem dJ0_isLatin1_aae02_17 : decode cJ0_isLatin1_aae02 17 = .ok (.iconst 0, 1) := by decide +kernel
theorem dJ0_isLatin1_aae02_18 : decode cJ0_isLatin1_aae02 18 = .ok (.ireturn, 1) := by decide +kernel
def f_J0_isLatin1_aae02 (X : x_X) (v0 : Nat) (μ : x_M) : Option (Int32 × x_M) :=
  (if (1 : Int32) = 0 then (ck ((0 : Int32) = 0 ∨ (0 : Int32) = 1) (some ((0 : Int32), μ))) else (ck (x_kd X v0 = 50) (if (μ.1 v0 0) = 0 then (ck ((1 : Int32) = 0 ∨ (1 : Int32) = 1) (some ((1 : Int32), μ))) else (ck ((0 : Int32) = 0 ∨ (0 : Int32) = 1) (some ((0 : Int32), μ))))))
set_option maxRecDepth 100000 in
theorem m_J0_isLatin1_aae02 (hI : x_I X) (v0 : Nat) (μ : x_M) : x_Met X x_Z0 l yJ0_isLatin1_aae02 cJ0_isLatin1_aae02 1 (some .boolean) 1 [vR v0] μ rkI (f_J0_isLatin1_aae02 X v0 μ) := by
  refine x_enter hI (by decide +kernel) (Nat.le_of_ble_eq_true rfl) (fun p e s m args below meth c hC hr hlk => ?_)
  unfold f_J0_isLatin1_aae02
  refine s_lv (lv' := [(0, vR v0)]) [0] rfl ?_
  refine s_getsI hC dJ0_isLatin1_aae02_0 (v := 1) (List.mem_of_getElem? (i := 0) rfl) qg_J0_38 ?_
  refine s_if_eq hC dJ0_isLatin1_aae02_3 (tgt := 17) (by decide) ?_ ?_
  · refine s_iconst hC dJ0_isLatin1_aae02_17 (v := 0) (by decide) ?_
    exact s_zret hC hr hlk dJ0_isLatin1_aae02_18
  refine s_aload_n hC 0 dJ0_isLatin1_aae02_6 rfl ?_
  refine s_gcod hC qf_J0_15 dJ0_isLatin1_aae02_7 ?_
  refine s_if_ne hC dJ0_isLatin1_aae02_10 (tgt := 17) (by decide) ?_ ?_
  · refine s_iconst hC dJ0_isLatin1_aae02_17 (v := 0) (by decide) ?_
    exact s_zret hC hr hlk dJ0_isLatin1_aae02_18
  refine s_iconst hC dJ0_isLatin1_aae02_13 (v := 1) (by decide) ?_
  refine s_goto hC dJ0_isLatin1_aae02_14 (tgt := 18) (by decide) ?_
  exact s_zret hC hr hlk dJ0_isLatin1_aae02_18
theorem dJ0_length_8abf5_0 : decode cJ0_length_8abf5 0 = .ok (.aload_n 0, 1) := by decide +kernel
theorem dJ0_length_8abf5_1 : decode cJ0_length_8abf5 1 = .ok (.getfield 9, 3) := by decide +kernel
theorem dJ0_length_8abf5_4 : decode cJ0_length_8abf5 4 = .ok (.arraylength, 1) := by decide +kernel
theorem dJ0_length_8abf5_5 : decode cJ0_length_8abf5 5 = .ok (.aload_n 0, 1) := by decide +kernel
theorem dJ0_length_8abf5_6 : decode cJ0_length_8abf5 6 = .ok (.invokevirtual 335, 3) := by decide +kernel
theorem dJ0_length_8abf5_9 : decode cJ0_length_8abf5 9 = .ok (.ishr, 1) := by decide +kernel
theorem dJ0_length_8abf5_10 : decode cJ0_length_8abf5 10 = .ok (.ireturn, 1) := by decide +kernel
def f_J0_length_8abf5 (X : x_X) (v0 : Nat) (μ : x_M) : Option (Int32 × x_M) :=
  (ck (x_kd X v0 = 50) (lt (μ.2.1 v0 1) (fun (v2 : Nat) => (ck (x_kd X v2 = 20 ∨ x_kd X v2 = 23 ∨ x_kd X v2 = 40 ∨ x_kd X v2 = 41) (ck (x_kd X v0 = 50) (bd (f_J0_coder_7d493 X v0 μ) (fun (v3 : Int32) (μ4 : x_M) => (some (((nI (x_ln X v2)) >>> (v3 &&& 31)), μ4)))))))))
set_option maxRecDepth 100000 in
theorem m_J0_length_8abf5 (hI : x_I X) (v0 : Nat) (μ : x_M) : x_Met X x_Z0 l yJ0_length_8abf5 cJ0_length_8abf5 1 (some .int) 2 [vR v0] μ rkI (f_J0_length_8abf5 X v0 μ) := by
  refine x_enter hI (by decide +kernel) (Nat.le_of_ble_eq_true rfl) (fun p e s m args below meth c hC hr hlk => ?_)
  unfold f_J0_length_8abf5
  refine s_lv (lv' := [(0, vR v0)]) [0] rfl ?_
  refine s_aload_n hC 0 dJ0_length_8abf5_0 rfl ?_
  refine s_gval hC qf_J0_9 dJ0_length_8abf5_1 ?_
  refine s_ltR (fun v2 => ?_)
  refine s_alen hC dJ0_length_8abf5_4 ?_
  refine s_aload_n hC 0 dJ0_length_8abf5_5 rfl ?_
  refine s_callStr hC (x := v0) (avs := []) (st := [vI (nI (x_ln X v2))]) (nest := false) (m_J0_coder_7d493 hI v0 μ) dJ0_length_8abf5_6 qm_J0_335 qi_J0_coder_7d493 qs_J0_coder_7d493 qc_J0 qd_J0_coder_7d493 qh_J0_coder_7d493 ((by decide)) (fun _ => Nat.le_of_ble_eq_true rfl) (Nat.le_of_ble_eq_true rfl) (fun v3 μ4 => ?_)
  refine s_ishr hC dJ0_length_8abf5_9 ?_
  exact s_iret hC hr hlk dJ0_length_8abf5_10
theorem dJ0_indexOf_7cf53_0 : decode cJ0_indexOf_7cf53 0 = .ok (.aload_n 0, 1) := by decide +kernel
theorem dJ0_indexOf_7cf53_1 : decode cJ0_indexOf_7cf53 1 = .ok (.invokevirtual 492, 3) := by decide +kernel
theorem dJ0_indexOf_7cf53_4 : decode cJ0_indexOf_7cf53 4 = .ok (.ifCond .eq 19, 3) := by decide +kernel
theorem dJ0_indexOf_7cf53_7 : decode cJ0_indexOf_7cf53 7 = .ok (.aload_n 0, 1) := by decide +kernel
theorem dJ0_indexOf_7cf53_8 : decode cJ0_indexOf_7cf53 8 = .ok (.getfield 9, 3) := by decide +kernel
theorem dJ0_indexOf_7cf53_11 : decode cJ0_indexOf_7cf53 11 = .ok (.iload_n 1, 1) := by decide +kernel
theorem dJ0_indexOf_7cf53_12 : decode cJ0_indexOf_7cf53 12 = .ok (.iload_n 2, 1) := by decide +kernel
theorem dJ0_indexOf_7cf53_13 : decode cJ0_indexOf_7cf53 13 = .ok (.aload_n 0, 1) := by decide +kernel
theorem dJ0_indexOf_7cf53_14 : decode cJ0_indexOf_7cf53 14 = .ok (.invokevirtual 505, 3) := by decide +kernel
theorem dJ0_indexOf_7cf53_17 : decode cJ0_indexOf_7cf53 17 = .ok (.invokestatic 637, 3) := by decide +kernel
theorem dJ0_indexOf_7cf53_20 : decode cJ0_indexOf_7cf53 20 = .ok (.goto 16, 3) := by decide +kernel
theorem dJ0_indexOf_7cf53_23 : decode cJ0_indexOf_7cf53 23 = .ok (.aload_n 0, 1) := by decide +kernel
theorem dJ0_indexOf_7cf53_24 : decode cJ0_indexOf_7cf53 24 = .ok (.getfield 9, 3) := by decide +kernel
theorem dJ0_indexOf_7cf53_27 : decode cJ0_indexOf_7cf53 27 = .ok (.iload_n 1, 1) := by decide +kernel
theorem dJ0_indexOf_7cf53_28 : decode cJ0_indexOf_7cf53 28 = .ok (.iload_n 2, 1) := by decide +kernel
theorem dJ0_indexOf_7cf53_29 : decode cJ0_indexOf_7cf53 29 = .ok (.aload_n 0, 1) := by decide +kernel
theorem dJ0_indexOf_7cf53_30 : decode cJ0_indexOf_7cf53 30 = .ok (.invokevirtual 505, 3) := by decide +kernel
theorem dJ0_indexOf_7cf53_33 : decode cJ0_indexOf_7cf53 33 = .ok (.invokestatic 640, 3) := by decide +kernel
theorem dJ0_indexOf_7cf53_36 : decode cJ0_indexOf_7cf53 36 = .ok (.ireturn, 1) := by decide +kernel
def f_J0_indexOf_7cf53 (X : x_X) (v0 : Nat) (v1 : Int32) (v2 : Int32) (μ : x_M) : Option (Int32 × x_M) :=
  (ck (x_kd X v0 = 50) (bd (f_J0_isLatin1_aae02 X v0 μ) (fun (v4 : Int32) (μ5 : x_M) => (if v4 = 0 then (ck (x_kd X v0 = 50) (lt (μ5.2.1 v0 1) (fun (v6 : Nat) => (ck (x_kd X v0 = 50) (bd (f_J0_length_8abf5 X v0 μ5) (fun (v7 : Int32) (μ8 : x_M) => none)))))) else (ck (x_kd X v0 = 50) (lt (μ5.2.1 v0 1) (fun (v9 : Nat) => (ck (x_kd X v0 = 50) (bd (f_J0_length_8abf5 X v0 μ5) (fun (v10 : Int32) (μ11 : x_M) => (bd (f_J1_indexOf_4cfef X v9 v1 v2 v10 μ11) (fun (v12 : Int32) (μ13 : x_M) => (some (v12, μ13))))))))))))))
set_option maxRecDepth 100000 in
theorem m_J0_indexOf_7cf53 (hI : x_I X) (v0 : Nat) (v1 : Int32) (v2 : Int32) (μ : x_M) : x_Met X x_Z0 l yJ0_indexOf_7cf53 cJ0_indexOf_7cf53 3 (some .int) 3 [vR v0, vI v1, vI v2] μ rkI (f_J0_indexOf_7cf53 X v0 v1 v2 μ) := by
  refine x_enter hI (by decide +kernel) (Nat.le_of_ble_eq_true rfl) (fun p e s m args below meth c hC hr hlk => ?_)
  unfold f_J0_indexOf_7cf53
  refine s_lv (lv' := [(0, vR v0), (1, vI v1), (2, vI v2)]) [0, 1, 2] rfl ?_
  refine s_aload_n hC 0 dJ0_indexOf_7cf53_0 rfl ?_
  refine s_callStr hC (x := v0) (avs := []) (st := []) (nest := false) (m_J0_isLatin1_aae02 hI v0 μ) dJ0_indexOf_7cf53_1 qm_J0_492 qi_J0_isLatin1_aae02 qs_J0_isLatin1_aae02 qc_J0 qd_J0_isLatin1_aae02 qh_J0_isLatin1_aae02 ((by decide)) (fun _ => Nat.le_of_ble_eq_true rfl) (Nat.le_of_ble_eq_true rfl) (fun v4 μ5 => ?_)
  refine s_if_eq hC dJ0_indexOf_7cf53_4 (tgt := 23) (by decide) ?_ ?_
  · refine s_aload_n hC 0 dJ0_indexOf_7cf53_23 rfl ?_
    refine s_gval hC qf_J0_9 dJ0_indexOf_7cf53_24 ?_
    refine s_ltR (fun v6 => ?_)
    refine s_iload_n hC 1 dJ0_indexOf_7cf53_27 rfl ?_
    refine s_iload_n hC 2 dJ0_indexOf_7cf53_28 rfl ?_
    refine s_aload_n hC 0 dJ0_indexOf_7cf53_29 rfl ?_
    refine s_callStr hC (x := v0) (avs := []) (st := [vI v2, vI v1, vR v6]) (nest := false) (m_J0_length_8abf5 hI v0 μ5) dJ0_indexOf_7cf53_30 qm_J0_505 qi_J0_length_8abf5 qs_J0_length_8abf5 qc_J0 qd_J0_length_8abf5 qh_J0_length_8abf5 ((by decide)) (fun _ => Nat.le_of_ble_eq_true rfl) (Nat.le_of_ble_eq_true rfl) (fun v7 μ8 => ?_)
    exact s_none
  refine s_aload_n hC 0 dJ0_indexOf_7cf53_7 rfl ?_
  refine s_gval hC qf_J0_9 dJ0_indexOf_7cf53_8 ?_
  refine s_ltR (fun v9 => ?_)
  refine s_iload_n hC 1 dJ0_indexOf_7cf53_11 rfl ?_
  refine s_iload_n hC 2 dJ0_indexOf_7cf53_12 rfl ?_
  refine s_aload_n hC 0 dJ0_indexOf_7cf53_13 rfl ?_
  refine s_callStr hC (x := v0) (avs := []) (st := [vI v2, vI v1, vR v9]) (nest := false) (m_J0_length_8abf5 hI v0 μ5) dJ0_indexOf_7cf53_14 qm_J0_505 qi_J0_length_8abf5 qs_J0_length_8abf5 qc_J0 qd_J0_length_8abf5 qh_J0_length_8abf5 ((by decide)) (fun _ => Nat.le_of_ble_eq_true rfl) (Nat.le_of_ble_eq_true rfl) (fun v10 μ11 => ?_)
  refine s_callS hC (avs := [vR v9, vI v1, vI v2, vI v10]) (st := []) (nest := false) (m_J1_indexOf_4cfef hI v9 v1 v2 v10 μ11) dJ0_indexOf_7cf53_17 qm_J0_637 qt_J1_indexOf_4cfef qc_J1 qd_J1_indexOf_4cfef qh_J1_indexOf_4cfef (by decide) (fun _ => Nat.le_of_ble_eq_true rfl) (Nat.le_of_ble_eq_true rfl) (fun v12 μ13 => ?_)
  refine s_goto hC dJ0_indexOf_7cf53_20 (tgt := 36) (by decide) ?_
  exact s_iret hC hr hlk dJ0_indexOf_7cf53_36
theorem dJ0_charAt_5068e_0 : decode cJ0_charAt_5068e 0 = .ok (.aload_n 0, 1) := by decide +kernel
theorem dJ0_charAt_5068e_1 : decode cJ0_charAt_5068e 1 = .ok (.invokevirtual 492, 3) := by decide +kernel
theorem dJ0_charAt_5068e_4 : decode cJ0_charAt_5068e 4 = .ok (.ifCond .eq 12, 3) := by decide +kernel
theorem dJ0_charAt_5068e_7 : decode cJ0_charAt_5068e 7 = .ok (.aload_n 0, 1) := by decide +kernel
theorem dJ0_charAt_5068e_8 : decode cJ0_charAt_5068e 8 = .ok (.getfield 9, 3) := by decide +kernel
theorem dJ0_charAt_5068e_11 : decode cJ0_charAt_5068e 11 = .ok (.iload_n 1, 1) := by decide +kernel
theorem dJ0_charAt_5068e_12 : decode cJ0_charAt_5068e 12 = .ok (.invokestatic 495, 3) := by decide +kernel
theorem dJ0_charAt_5068e_15 : decode cJ0_charAt_5068e 15 = .ok (.ireturn, 1) := by decide +kernel
theorem dJ0_charAt_5068e_16 : decode cJ0_charAt_5068e 16 = .ok (.aload_n 0, 1) := by decide +kernel
theorem dJ0_charAt_5068e_17 : decode cJ0_charAt_5068e 17 = .ok (.getfield 9, 3) := by decide +kernel
theorem dJ0_charAt_5068e_20 : decode cJ0_charAt_5068e 20 = .ok (.iload_n 1, 1) := by decide +kernel
theorem dJ0_charAt_5068e_21 : decode cJ0_charAt_5068e 21 = .ok (.invokestatic 498, 3) := by decide +kernel
theorem dJ0_charAt_5068e_24 : decode cJ0_charAt_5068e 24 = .ok (.ireturn, 1) := by decide +kernel
def f_J0_charAt_5068e (X : x_X) (v0 : Nat) (v1 : Int32) (μ : x_M) : Option (Int32 × x_M) :=
  (ck (x_kd X v0 = 50) (bd (f_J0_isLatin1_aae02 X v0 μ) (fun (v3 : Int32) (μ4 : x_M) => (if v3 = 0 then (ck (x_kd X v0 = 50) (lt (μ4.2.1 v0 1) (fun (v5 : Nat) => none))) else (ck (x_kd X v0 = 50) (lt (μ4.2.1 v0 1) (fun (v6 : Nat) => (bd (f_J1_charAt_3b067 X v6 v1 μ4) (fun (v7 : Int32) (μ8 : x_M) => (ck (((v7).toUInt32 % 65536).toInt32 = v7) (some (v7, μ8))))))))))))
set_option maxRecDepth 100000 in
theorem m_J0_charAt_5068e (hI : x_I X) (v0 : Nat) (v1 : Int32) (μ : x_M) : x_Met X x_Z0 l yJ0_charAt_5068e cJ0_charAt_5068e 2 (some .char) 4 [vR v0, vI v1] μ rkI (f_J0_charAt_5068e X v0 v1 μ) := by
  refine x_enter hI (by decide +kernel) (Nat.le_of_ble_eq_true rfl) (fun p e s m args below meth c hC hr hlk => ?_)
  unfold f_J0_charAt_5068e
  refine s_lv (lv' := [(0, vR v0), (1, vI v1)]) [0, 1] rfl ?_
  refine s_aload_n hC 0 dJ0_charAt_5068e_0 rfl ?_
  refine s_callStr hC (x := v0) (avs := []) (st := []) (nest := false) (m_J0_isLatin1_aae02 hI v0 μ) dJ0_charAt_5068e_1 qm_J0_492 qi_J0_isLatin1_aae02 qs_J0_isLatin1_aae02 qc_J0 qd_J0_isLatin1_aae02 qh_J0_isLatin1_aae02 ((by decide)) (fun _ => Nat.le_of_ble_eq_true rfl) (Nat.le_of_ble_eq_true rfl) (fun v3 μ4 => ?_)
  refine s_if_eq hC dJ0_charAt_5068e_4 (tgt := 16) (by decide) ?_ ?_
  · refine s_aload_n hC 0 dJ0_charAt_5068e_16 rfl ?_
    refine s_gval hC qf_J0_9 dJ0_charAt_5068e_17 ?_
    refine s_ltR (fun v5 => ?_)
    refine s_iload_n hC 1 dJ0_charAt_5068e_20 rfl ?_
    exact s_none
  refine s_aload_n hC 0 dJ0_charAt_5068e_7 rfl ?_
  refine s_gval hC qf_J0_9 dJ0_charAt_5068e_8 ?_
  refine s_ltR (fun v6 => ?_)
  refine s_iload_n hC 1 dJ0_charAt_5068e_11 rfl ?_
  refine s_callS hC (avs := [vR v6, vI v1]) (st := []) (nest := false) (m_J1_charAt_3b067 hI v6 v1 μ4) dJ0_charAt_5068e_12 qm_J0_495 qt_J1_charAt_3b067 qc_J1 qd_J1_charAt_3b067 qh_J1_charAt_3b067 (by decide) (fun _ => Nat.le_of_ble_eq_true rfl) (Nat.le_of_ble_eq_true rfl) (fun v7 μ8 => ?_)
  exact s_cret hC hr hlk dJ0_charAt_5068e_15
theorem dJ0_indexOf_0f7a4_0 : decode cJ0_indexOf_0f7a4 0 = .ok (.aload_n 0, 1) := by decide +kernel
theorem dJ0_indexOf_0f7a4_1 : decode cJ0_indexOf_0f7a4 1 = .ok (.iload_n 1, 1) := by decide +kernel
theorem dJ0_indexOf_0f7a4_2 : decode cJ0_indexOf_0f7a4 2 = .ok (.iconst 0, 1) := by decide +kernel
theorem dJ0_indexOf_0f7a4_3 : decode cJ0_indexOf_0f7a4 3 = .ok (.invokevirtual 633, 3) := by decide +kernel
theorem dJ0_indexOf_0f7a4_6 : decode cJ0_indexOf_0f7a4 6 = .ok (.ireturn, 1) := by decide +kernel
def f_J0_indexOf_0f7a4 (X : x_X) (v0 : Nat) (v1 : Int32) (μ : x_M) : Option (Int32 × x_M) :=
  (ck (x_kd X v0 = 50) (bd (f_J0_indexOf_7cf53 X v0 v1 (0 : Int32) μ) (fun (v3 : Int32) (μ4 : x_M) => (some (v3, μ4)))))
set_option maxRecDepth 100000 in
theorem m_J0_indexOf_0f7a4 (hI : x_I X) (v0 : Nat) (v1 : Int32) (μ : x_M) : x_Met X x_Z0 l yJ0_indexOf_0f7a4 cJ0_indexOf_0f7a4 2 (some .int) 4 [vR v0, vI v1] μ rkI (f_J0_indexOf_0f7a4 X v0 v1 μ) := by
  refine x_enter hI (by decide +kernel) (Nat.le_of_ble_eq_true rfl) (fun p e s m args below meth c hC hr hlk => ?_)
  unfold f_J0_indexOf_0f7a4
  refine s_lv (lv' := [(0, vR v0), (1, vI v1)]) [0, 1] rfl ?_
  refine s_aload_n hC 0 dJ0_indexOf_0f7a4_0 rfl ?_
  refine s_iload_n hC 1 dJ0_indexOf_0f7a4_1 rfl ?_
  refine s_iconst hC dJ0_indexOf_0f7a4_2 (v := 0) (by decide) ?_
  refine s_callStr hC (x := v0) (avs := [vI v1, vI (0 : Int32)]) (st := []) (nest := false) (m_J0_indexOf_7cf53 hI v0 v1 (0 : Int32) μ) dJ0_indexOf_0f7a4_3 qm_J0_633 qi_J0_indexOf_7cf53 qs_J0_indexOf_7cf53 qc_J0 qd_J0_indexOf_7cf53 qh_J0_indexOf_7cf53 ((by decide)) (fun _ => Nat.le_of_ble_eq_true rfl) (Nat.le_of_ble_eq_true rfl) (fun v3 μ4 => ?_)
  exact s_iret hC hr hlk dJ0_indexOf_0f7a4_6
theorem dX9_at_0 : decode cX9_at 0 = .ok (.iload_n 1, 1) := by decide +kernel
theorem dX9_at_1 : decode cX9_at 1 = .ok (.ifCond .lt 15, 3) := by decide +kernel
theorem dX9_at_4 : decode cX9_at 4 = .ok (.iload_n 1, 1) := by decide +kernel
theorem dX9_at_5 : decode cX9_at 5 = .ok (.aload_n 0, 1) := by decide +kernel
theorem dX9_at_6 : decode cX9_at 6 = .ok (.arraylength, 1) := by decide +kernel
theorem dX9_at_7 : decode cX9_at 7 = .ok (.if_icmp .ge 9, 3) := by decide +kernel
theorem dX9_at_10 : decode cX9_at 10 = .ok (.aload_n 0, 1) := by decide +kernel
theorem dX9_at_11 : decode cX9_at 11 = .ok (.iload_n 1, 1) := by decide +kernel
theorem dX9_at_12 : decode cX9_at 12 = .ok (.iaload, 1) := by decide +kernel
theorem dX9_at_13 : decode cX9_at 13 = .ok (.goto 4, 3) := by decide +kernel
theorem dX9_at_16 : decode cX9_at 16 = .ok (.iconst 0, 1) := by decide +kernel
theorem dX9_at_17 : decode cX9_at 17 = .ok (.ireturn, 1) := by decide +kernel
def f_X9_at (X : x_X) (v0 : Nat) (v1 : Int32) (μ : x_M) : Option (Int32 × x_M) :=
  (if v1 < 0 then (some ((0 : Int32), μ)) else (ck (x_kd X v0 = 20 ∨ x_kd X v0 = 23 ∨ x_kd X v0 = 40 ∨ x_kd X v0 = 41) (if (nI (x_ln X v0)) ≤ v1 then (some ((0 : Int32), μ)) else (ck ((x_kd X v0 = 20 ∨ x_kd X v0 = 40) ∧ x_ix v1 (x_ln X v0)) (some ((μ.1 v0 (v1).toNatClampNeg), μ))))))
set_option maxRecDepth 100000 in
theorem m_X9_at (hI : x_I X) (v0 : Nat) (v1 : Int32) (μ : x_M) : x_Met X x_Z0 l yX9_at cX9_at 2 (some .int) 1 [vR v0, vI v1] μ rkI (f_X9_at X v0 v1 μ) := by
  refine x_enter hI (by decide +kernel) (Nat.le_of_ble_eq_true rfl) (fun p e s m args below meth c hC hr hlk => ?_)
  unfold f_X9_at
  refine s_lv (lv' := [(0, vR v0), (1, vI v1)]) [0, 1] rfl ?_
  refine s_iload_n hC 1 dX9_at_0 rfl ?_
  refine s_if_lt hC dX9_at_1 (tgt := 16) (by decide) ?_ ?_
  · refine s_iconst hC dX9_at_16 (v := 0) (by decide) ?_
    exact s_iret hC hr hlk dX9_at_17
  refine s_iload_n hC 1 dX9_at_4 rfl ?_
  refine s_aload_n hC 0 dX9_at_5 rfl ?_
  refine s_alen hC dX9_at_6 ?_
  refine s_icmp_ge hC dX9_at_7 (tgt := 16) (by decide) ?_ ?_
  · refine s_iconst hC dX9_at_16 (v := 0) (by decide) ?_
    exact s_iret hC hr hlk dX9_at_17
  refine s_aload_n hC 0 dX9_at_10 rfl ?_
  refine s_iload_n hC 1 dX9_at_11 rfl ?_
  refine s_iald hC dX9_at_12 ?_
  refine s_goto hC dX9_at_13 (tgt := 17) (by decide) ?_
  exact s_iret hC hr hlk dX9_at_17
theorem dX9_within_0 : decode cX9_within 0 = .ok (.iload_n 0, 1) := by decide +kernel
theorem dX9_within_1 : decode cX9_within 1 = .ok (.iload_n 1, 1) := by decide +kernel
theorem dX9_within_2 : decode cX9_within 2 = .ok (.if_icmp .lt 12, 3) := by decide +kernel
theorem dX9_within_5 : decode cX9_within 5 = .ok (.iload_n 0, 1) := by decide +kernel
theorem dX9_within_6 : decode cX9_within 6 = .ok (.iload_n 2, 1) := by decide +kernel
theorem dX9_within_7 : decode cX9_within 7 = .ok (.if_icmp .gt 7, 3) := by decide +kernel
theorem dX9_within_10 : decode cX9_within 10 = .ok (.iconst 1, 1) := by decide +kernel
theorem dX9_within_11 : decode cX9_within 11 = .ok (.goto 4, 3) := by decide +kernel
theorem dX9_within_14 : decode cX9_within 14 = .ok (.iconst 0, 1) := by decide +kernel
theorem dX9_within_15 : decode cX9_within 15 = .ok (.ireturn, 1) := by decide +kernel
def f_X9_within (X : x_X) (v0 : Int32) (v1 : Int32) (v2 : Int32) (μ : x_M) : Option (Int32 × x_M) :=
  (if v0 < v1 then (ck ((0 : Int32) = 0 ∨ (0 : Int32) = 1) (some ((0 : Int32), μ))) else (if v2 < v0 then (ck ((0 : Int32) = 0 ∨ (0 : Int32) = 1) (some ((0 : Int32), μ))) else (ck ((1 : Int32) = 0 ∨ (1 : Int32) = 1) (some ((1 : Int32), μ)))))
set_option maxRecDepth 100000 in
theorem m_X9_within (hI : x_I X) (v0 : Int32) (v1 : Int32) (v2 : Int32) (μ : x_M) : x_Met X x_Z0 l yX9_within cX9_within 3 (some .boolean) 1 [vI v0, vI v1, vI v2] μ rkI (f_X9_within X v0 v1 v2 μ) := by
  refine x_enter hI (by decide +kernel) (Nat.le_of_ble_eq_true rfl) (fun p e s m args below meth c hC hr hlk => ?_)
  unfold f_X9_within
  refine s_lv (lv' := [(0, vI v0), (1, vI v1), (2, vI v2)]) [0, 1, 2] rfl ?_
  refine s_iload_n hC 0 dX9_within_0 rfl ?_
  refine s_iload_n hC 1 dX9_within_1 rfl ?_
  refine s_icmp_lt hC dX9_within_2 (tgt := 14) (by decide) ?_ ?_
  · refine s_iconst hC dX9_within_14 (v := 0) (by decide) ?_
    exact s_zret hC hr hlk dX9_within_15
  refine s_iload_n hC 0 dX9_within_5 rfl ?_
  refine s_iload_n hC 2 dX9_within_6 rfl ?_
  refine s_icmp_gt hC dX9_within_7 (tgt := 14) (by decide) ?_ ?_
  · refine s_iconst hC dX9_within_14 (v := 0) (by decide) ?_
    exact s_zret hC hr hlk dX9_within_15
  refine s_iconst hC dX9_within_10 (v := 1) (by decide) ?_
  refine s_goto hC dX9_within_11 (tgt := 15) (by decide) ?_
  exact s_zret hC hr hlk dX9_within_15
theorem dX9_kindAbove_0 : decode cX9_kindAbove 0 = .ok (.iload_n 0, 1) := by decide +kernel
theorem dX9_kindAbove_1 : decode cX9_kindAbove 1 = .ok (.ifCond .lt 19, 3) := by decide +kernel
theorem dX9_kindAbove_4 : decode cX9_kindAbove 4 = .ok (.iload_n 0, 1) := by decide +kernel
theorem dX9_kindAbove_5 : decode cX9_kindAbove 5 = .ok (.getstatic 316, 3) := by decide +kernel
theorem dX9_kindAbove_8 : decode cX9_kindAbove 8 = .ok (.arraylength, 1) := by decide +kernel
theorem dX9_kindAbove_9 : decode cX9_kindAbove 9 = .ok (.if_icmp .ge 11, 3) := by decide +kernel
theorem dX9_kindAbove_12 : decode cX9_kindAbove 12 = .ok (.getstatic 316, 3) := by decide +kernel
theorem dX9_kindAbove_15 : decode cX9_kindAbove 15 = .ok (.iload_n 0, 1) := by decide +kernel
theorem dX9_kindAbove_16 : decode cX9_kindAbove 16 = .ok (.iaload, 1) := by decide +kernel
theorem dX9_kindAbove_17 : decode cX9_kindAbove 17 = .ok (.goto 4, 3) := by decide +kernel
theorem dX9_kindAbove_20 : decode cX9_kindAbove 20 = .ok (.iconst (-1), 1) := by decide +kernel
theorem dX9_kindAbove_21 : decode cX9_kindAbove 21 = .ok (.ireturn, 1) := by decide +kernel
def f_X9_kindAbove (X : x_X) (v0 : Int32) (μ : x_M) : Option (Int32 × x_M) :=
  (if v0 < 0 then (some ((-1 : Int32), μ)) else (ck (x_kd X 801 = 20 ∨ x_kd X 801 = 23 ∨ x_kd X 801 = 40 ∨ x_kd X 801 = 41) (if (nI (x_ln X 801)) ≤ v0 then (some ((-1 : Int32), μ)) else (ck ((x_kd X 801 = 20 ∨ x_kd X 801 = 40) ∧ x_ix v0 (x_ln X 801)) (some ((μ.1 801 (v0).toNatClampNeg), μ))))))
set_option maxRecDepth 100000 in
theorem m_X9_kindAbove (hI : x_I X) (v0 : Int32) (μ : x_M) : x_Met X x_Z0 l yX9_kindAbove cX9_kindAbove 1 (some .int) 1 [vI v0] μ rkI (f_X9_kindAbove X v0 μ) := by
  refine x_enter hI (by decide +kernel) (Nat.le_of_ble_eq_true rfl) (fun p e s m args below meth c hC hr hlk => ?_)
  unfold f_X9_kindAbove
  refine s_lv (lv' := [(0, vI v0)]) [0] rfl ?_
  refine s_iload_n hC 0 dX9_kindAbove_0 rfl ?_
  refine s_if_lt hC dX9_kindAbove_1 (tgt := 20) (by decide) ?_ ?_
  · refine s_iconst hC dX9_kindAbove_20 (v := -1) (by decide) ?_
    exact s_iret hC hr hlk dX9_kindAbove_21
  refine s_iload_n hC 0 dX9_kindAbove_4 rfl ?_
  refine s_gets hC (nest := false) dX9_kindAbove_5 (id := 801) (List.mem_of_getElem? (i := 0) rfl) qg_X9_316 ?_
  refine s_alen hC dX9_kindAbove_8 ?_
  refine s_icmp_ge hC dX9_kindAbove_9 (tgt := 20) (by decide) ?_ ?_
  · refine s_iconst hC dX9_kindAbove_20 (v := -1) (by decide) ?_
    exact s_iret hC hr hlk dX9_kindAbove_21
  refine s_gets hC (nest := false) dX9_kindAbove_12 (id := 801) (List.mem_of_getElem? (i := 0) rfl) qg_X9_316 ?_
  refine s_iload_n hC 0 dX9_kindAbove_15 rfl ?_
  refine s_iald hC dX9_kindAbove_16 ?_
  refine s_goto hC dX9_kindAbove_17 (tgt := 21) (by decide) ?_
  exact s_iret hC hr hlk dX9_kindAbove_21
theorem dX9_commonDivisor_0 : decode cX9_commonDivisor 0 = .ok (.lload_n 0, 1) := by decide +kernel
theorem dX9_commonDivisor_1 : decode cX9_commonDivisor 1 = .ok (.lstore 4, 2) := by decide +kernel
theorem dX9_commonDivisor_3 : decode cX9_commonDivisor 3 = .ok (.lload_n 2, 1) := by decide +kernel
theorem dX9_commonDivisor_4 : decode cX9_commonDivisor 4 = .ok (.lstore 6, 2) := by decide +kernel
theorem dX9_commonDivisor_6 : decode cX9_commonDivisor 6 = .ok (.iconst 0, 1) := by decide +kernel
theorem dX9_commonDivisor_7 : decode cX9_commonDivisor 7 = .ok (.istore 8, 2) := by decide +kernel
theorem dX9_commonDivisor_9 : decode cX9_commonDivisor 9 = .ok (.iload 8, 2) := by decide +kernel
theorem dX9_commonDivisor_11 : decode cX9_commonDivisor 11 = .ok (.bipush 100, 2) := by decide +kernel
theorem dX9_commonDivisor_13 : decode cX9_commonDivisor 13 = .ok (.if_icmp .ge 31, 3) := by decide +kernel
theorem dX9_commonDivisor_16 : decode cX9_commonDivisor 16 = .ok (.lload 6, 2) := by decide +kernel
theorem dX9_commonDivisor_18 : decode cX9_commonDivisor 18 = .ok (.lconst 0, 1) := by decide +kernel
theorem dX9_commonDivisor_19 : decode cX9_commonDivisor 19 = .ok (.lcmp, 1) := by decide +kernel
theorem dX9_commonDivisor_20 : decode cX9_commonDivisor 20 = .ok (.ifCond .eq 24, 3) := by decide +kernel
theorem dX9_commonDivisor_23 : decode cX9_commonDivisor 23 = .ok (.lload 4, 2) := by decide +kernel
theorem dX9_commonDivisor_25 : decode cX9_commonDivisor 25 = .ok (.lload 6, 2) := by decide +kernel
theorem dX9_commonDivisor_27 : decode cX9_commonDivisor 27 = .ok (.lrem, 1) := by decide +kernel
theorem dX9_commonDivisor_28 : decode cX9_commonDivisor 28 = .ok (.lstore 9, 2) := by decide +kernel
theorem dX9_commonDivisor_30 : decode cX9_commonDivisor 30 = .ok (.lload 6, 2) := by decide +kernel
theorem dX9_commonDivisor_32 : decode cX9_commonDivisor 32 = .ok (.lstore 4, 2) := by decide +kernel
theorem dX9_commonDivisor_34 : decode cX9_commonDivisor 34 = .ok (.lload 9, 2) := by decide +kernel
theorem dX9_commonDivisor_36 : decode cX9_commonDivisor 36 = .ok (.lstore 6, 2) := by decide +kernel
theorem dX9_commonDivisor_38 : decode cX9_commonDivisor 38 = .ok (.iinc 8 1, 3) := by decide +kernel
theorem dX9_commonDivisor_41 : decode cX9_commonDivisor 41 = .ok (.goto (-32), 3) := by decide +kernel
theorem dX9_commonDivisor_44 : decode cX9_commonDivisor 44 = .ok (.lload 4, 2) := by decide +kernel
theorem dX9_commonDivisor_46 : decode cX9_commonDivisor 46 = .ok (.lreturn, 1) := by decide +kernel
def f_X9_commonDivisor_L9 (X : x_X) : Nat → Int64 → Int64 → Int32 → x_M → Option (Int64 × x_M)
  | 0, _, _, _, _ => none
  | n + 1, v3, v4, v5, μ6 =>
    (if (100 : Int32) ≤ v5 then (some (v3, μ6)) else (if (lg_cmp v4 (0 : Int64)) = 0 then (some (v3, μ6)) else (ck (¬ v4 = 0) (lt (v3 - v3 / v4 * v4) (fun (v7 : Int64) => (f_X9_commonDivisor_L9 X n v4 v7 (v5 + (1 : Int32)) μ6))))))
set_option maxRecDepth 100000 in
theorem j_X9_commonDivisor_L9 (hI : x_I X) (hC : x_C X x_Z0 p (x_rm 1) s m c cX9_commonDivisor RX9 11 0 0 1) (hr : meth.sig.returnType = (some .long)) (hlk : meth.locks = false) : ∀ (n : Nat) (v3 : Int64) (v4 : Int64) (v5 : Int32) (μ6 : x_M), SM X 11 1 rkJ p l e s m args below meth c 9 [(4, vJ v3), (6, vJ v4), (8, vI v5)] [] μ6 (f_X9_commonDivisor_L9 X n v3 v4 v5 μ6) := by
  intro n
  induction n with
  | zero => intro v3 v4 v5 μ6; exact s_none
  | succ n ih =>
    intro v3 v4 v5 μ6
    unfold f_X9_commonDivisor_L9
    refine s_iload hC 2 dX9_commonDivisor_9 rfl ?_
    refine s_bipush hC dX9_commonDivisor_11 (v := 100) (by decide) ?_
    refine s_icmp_ge hC dX9_commonDivisor_13 (tgt := 44) (by decide) ?_ ?_
    · refine s_lload hC 0 dX9_commonDivisor_44 rfl ?_
      exact s_lret hC hr hlk dX9_commonDivisor_46
    refine s_lload hC 1 dX9_commonDivisor_16 rfl ?_
    refine s_lconst hC dX9_commonDivisor_18 (v := 0) (by decide) ?_
    refine s_lcmp hC dX9_commonDivisor_19 ?_
    refine s_if_eq hC dX9_commonDivisor_20 (tgt := 44) (by decide) ?_ ?_
    · refine s_lload hC 0 dX9_commonDivisor_44 rfl ?_
      exact s_lret hC hr hlk dX9_commonDivisor_46
    refine s_lload hC 0 dX9_commonDivisor_23 rfl ?_
    refine s_lload hC 1 dX9_commonDivisor_25 rfl ?_
    refine s_lrem hC dX9_commonDivisor_27 ?_
    refine s_ltJ (fun v7 => ?_)
    refine s_lstore hC dX9_commonDivisor_28 (by decide) (lv' := [(9, vJ v7), (4, vJ v3), (6, vJ v4), (8, vI v5)]) rfl ?_
    refine s_lload hC 2 dX9_commonDivisor_30 rfl ?_
    refine s_lstore hC dX9_commonDivisor_32 (by decide) (lv' := [(4, vJ v4), (9, vJ v7), (6, vJ v4), (8, vI v5)]) rfl ?_
    refine s_lload hC 1 dX9_commonDivisor_34 rfl ?_
    refine s_lstore hC dX9_commonDivisor_36 (by decide) (lv' := [(6, vJ v7), (4, vJ v4), (9, vJ v7), (8, vI v5)]) rfl ?_
    refine s_iinc hC 3 dX9_commonDivisor_38 rfl (w := 1) (by decide) (by decide) (lv' := [(8, vI (v5 + (1 : Int32))), (6, vJ v7), (4, vJ v4), (9, vJ v7)]) rfl ?_
    refine s_goto hC dX9_commonDivisor_41 (tgt := 9) (by decide) ?_
    refine s_lv (lv' := [(4, vJ v4), (6, vJ v7), (8, vI (v5 + (1 : Int32)))]) [2, 1, 0] rfl ?_
    exact ih _ _ _ _
def f_X9_commonDivisor (X : x_X) (v0 : Int64) (v1 : Int64) (μ : x_M) : Option (Int64 × x_M) :=
  (f_X9_commonDivisor_L9 X 4096 v0 v1 (0 : Int32) μ)
set_option maxRecDepth 100000 in
theorem m_X9_commonDivisor (hI : x_I X) (v0 : Int64) (v1 : Int64) (μ : x_M) : x_Met X x_Z0 l yX9_commonDivisor cX9_commonDivisor 11 (some .long) 1 [vJ v0, vJ v1] μ rkJ (f_X9_commonDivisor X v0 v1 μ) := by
  refine x_enter hI (by decide +kernel) (Nat.le_of_ble_eq_true rfl) (fun p e s m args below meth c hC hr hlk => ?_)
  unfold f_X9_commonDivisor
  refine s_lv (lv' := [(0, vJ v0), (2, vJ v1)]) [0, 1] rfl ?_
  refine s_lload_n hC 0 dX9_commonDivisor_0 rfl ?_
  refine s_lstore hC dX9_commonDivisor_1 (by decide) (lv' := [(4, vJ v0), (0, vJ v0), (2, vJ v1)]) rfl ?_
  refine s_lload_n hC 2 dX9_commonDivisor_3 rfl ?_
  refine s_lstore hC dX9_commonDivisor_4 (by decide) (lv' := [(6, vJ v1), (4, vJ v0), (0, vJ v0), (2, vJ v1)]) rfl ?_
  refine s_iconst hC dX9_commonDivisor_6 (v := 0) (by decide) ?_
  refine s_istore hC dX9_commonDivisor_7 (by decide) (lv' := [(8, vI (0 : Int32)), (6, vJ v1), (4, vJ v0), (0, vJ v0), (2, vJ v1)]) rfl ?_
  refine s_lv (lv' := [(4, vJ v0), (6, vJ v1), (8, vI (0 : Int32))]) [2, 1, 0] rfl ?_
  refine j_X9_commonDivisor_L9 hI hC hr hlk 4096 _ _ _ _
theorem dX9_lowestTerms_0 : decode cX9_lowestTerms 0 = .ok (.lload_n 0, 1) := by decide +kernel
theorem dX9_lowestTerms_1 : decode cX9_lowestTerms 1 = .ok (.lload_n 2, 1) := by decide +kernel
theorem dX9_lowestTerms_2 : decode cX9_lowestTerms 2 = .ok (.invokestatic 323, 3) := by decide +kernel
theorem dX9_lowestTerms_5 : decode cX9_lowestTerms 5 = .ok (.lstore 5, 2) := by decide +kernel
theorem dX9_lowestTerms_7 : decode cX9_lowestTerms 7 = .ok (.lload_n 2, 1) := by decide +kernel
theorem dX9_lowestTerms_8 : decode cX9_lowestTerms 8 = .ok (.lconst 0, 1) := by decide +kernel
theorem dX9_lowestTerms_9 : decode cX9_lowestTerms 9 = .ok (.lcmp, 1) := by decide +kernel
theorem dX9_lowestTerms_10 : decode cX9_lowestTerms 10 = .ok (.ifCond .le 10, 3) := by decide +kernel
theorem dX9_lowestTerms_13 : decode cX9_lowestTerms 13 = .ok (.lload 5, 2) := by decide +kernel
theorem dX9_lowestTerms_15 : decode cX9_lowestTerms 15 = .ok (.lconst 0, 1) := by decide +kernel
theorem dX9_lowestTerms_16 : decode cX9_lowestTerms 16 = .ok (.lcmp, 1) := by decide +kernel
theorem dX9_lowestTerms_17 : decode cX9_lowestTerms 17 = .ok (.ifCond .gt 7, 3) := by decide +kernel
theorem dX9_lowestTerms_20 : decode cX9_lowestTerms 20 = .ok (.ldc2_w 209, 3) := by decide +kernel
theorem dX9_lowestTerms_23 : decode cX9_lowestTerms 23 = .ok (.lreturn, 1) := by decide +kernel
theorem dX9_lowestTerms_24 : decode cX9_lowestTerms 24 = .ok (.iload 4, 2) := by decide +kernel
theorem dX9_lowestTerms_26 : decode cX9_lowestTerms 26 = .ok (.ifCond .ne 7, 3) := by decide +kernel
theorem dX9_lowestTerms_29 : decode cX9_lowestTerms 29 = .ok (.lload_n 0, 1) := by decide +kernel
theorem dX9_lowestTerms_30 : decode cX9_lowestTerms 30 = .ok (.goto 4, 3) := by decide +kernel
theorem dX9_lowestTerms_33 : decode cX9_lowestTerms 33 = .ok (.lload_n 2, 1) := by decide +kernel
theorem dX9_lowestTerms_34 : decode cX9_lowestTerms 34 = .ok (.lload 5, 2) := by decide +kernel
theorem dX9_lowestTerms_36 : decode cX9_lowestTerms 36 = .ok (.ldiv, 1) := by decide +kernel
theorem dX9_lowestTerms_37 : decode cX9_lowestTerms 37 = .ok (.lreturn, 1) := by decide +kernel
def f_X9_lowestTerms (X : x_X) (v0 : Int64) (v1 : Int64) (v2 : Int32) (μ : x_M) : Option (Int64 × x_M) :=
  (bd (f_X9_commonDivisor X v0 v1 μ) (fun (v4 : Int64) (μ5 : x_M) => (if (lg_cmp v1 (0 : Int64)) ≤ 0 then (some ((-9223372036854775808 : Int64), μ5)) else (if 0 < (lg_cmp v4 (0 : Int64)) then (if v2 = 0 then (ck (¬ v4 = 0) (some ((v0 / v4), μ5))) else (ck (¬ v4 = 0) (some ((v1 / v4), μ5)))) else (some ((-9223372036854775808 : Int64), μ5))))))
set_option maxRecDepth 100000 in
theorem m_X9_lowestTerms (hI : x_I X) (v0 : Int64) (v1 : Int64) (v2 : Int32) (μ : x_M) : x_Met X x_Z0 l yX9_lowestTerms cX9_lowestTerms 7 (some .long) 2 [vJ v0, vJ v1, vI v2] μ rkJ (f_X9_lowestTerms X v0 v1 v2 μ) := by
  refine x_enter hI (by decide +kernel) (Nat.le_of_ble_eq_true rfl) (fun p e s m args below meth c hC hr hlk => ?_)
  unfold f_X9_lowestTerms
  refine s_lv (lv' := [(0, vJ v0), (2, vJ v1), (4, vI v2)]) [0, 1, 2] rfl ?_
  refine s_lload_n hC 0 dX9_lowestTerms_0 rfl ?_
  refine s_lload_n hC 1 dX9_lowestTerms_1 rfl ?_
  refine s_callS hC (avs := [vJ v0, vJ v1]) (st := []) (nest := false) (m_X9_commonDivisor hI v0 v1 μ) dX9_lowestTerms_2 qm_X9_323 qt_X9_commonDivisor qc_X9 qd_X9_commonDivisor qh_X9_commonDivisor (by decide) (fun _ => Nat.le_of_ble_eq_true rfl) (Nat.le_of_ble_eq_true rfl) (fun v4 μ5 => ?_)
  refine s_lstore hC dX9_lowestTerms_5 (by decide) (lv' := [(5, vJ v4), (0, vJ v0), (2, vJ v1), (4, vI v2)]) rfl ?_
  refine s_lload_n hC 2 dX9_lowestTerms_7 rfl ?_
  refine s_lconst hC dX9_lowestTerms_8 (v := 0) (by decide) ?_
  refine s_lcmp hC dX9_lowestTerms_9 ?_
  refine s_if_le hC dX9_lowestTerms_10 (tgt := 20) (by decide) ?_ ?_
  · refine s_ldc2 hC dX9_lowestTerms_20 qk_X9_209 ?_
    exact s_lret hC hr hlk dX9_lowestTerms_23
  refine s_lload hC 0 dX9_lowestTerms_13 rfl ?_
  refine s_lconst hC dX9_lowestTerms_15 (v := 0) (by decide) ?_
  refine s_lcmp hC dX9_lowestTerms_16 ?_
  refine s_if_gt hC dX9_lowestTerms_17 (tgt := 24) (by decide) ?_ ?_
  · refine s_iload hC 3 dX9_lowestTerms_24 rfl ?_
    refine s_if_ne hC dX9_lowestTerms_26 (tgt := 33) (by decide) ?_ ?_
    · refine s_lload_n hC 2 dX9_lowestTerms_33 rfl ?_
      refine s_lload hC 0 dX9_lowestTerms_34 rfl ?_
      refine s_ldiv hC dX9_lowestTerms_36 ?_
      exact s_lret hC hr hlk dX9_lowestTerms_37
    refine s_lload_n hC 1 dX9_lowestTerms_29 rfl ?_
    refine s_goto hC dX9_lowestTerms_30 (tgt := 34) (by decide) ?_
    refine s_lload hC 0 dX9_lowestTerms_34 rfl ?_
    refine s_ldiv hC dX9_lowestTerms_36 ?_
    exact s_lret hC hr hlk dX9_lowestTerms_37
  refine s_ldc2 hC dX9_lowestTerms_20 qk_X9_209 ?_
  exact s_lret hC hr hlk dX9_lowestTerms_23
theorem dX9_isPart_0 : decode cX9_isPart 0 = .ok (.iload_n 0, 1) := by decide +kernel
theorem dX9_isPart_1 : decode cX9_isPart 1 = .ok (.ifCond .eq 8, 3) := by decide +kernel
theorem dX9_isPart_4 : decode cX9_isPart 4 = .ok (.iload_n 0, 1) := by decide +kernel
theorem dX9_isPart_5 : decode cX9_isPart 5 = .ok (.iconst 1, 1) := by decide +kernel
theorem dX9_isPart_6 : decode cX9_isPart 6 = .ok (.if_icmp .ne 7, 3) := by decide +kernel
theorem dX9_isPart_9 : decode cX9_isPart 9 = .ok (.iconst 1, 1) := by decide +kernel
theorem dX9_isPart_10 : decode cX9_isPart 10 = .ok (.goto 4, 3) := by decide +kernel
theorem dX9_isPart_13 : decode cX9_isPart 13 = .ok (.iconst 0, 1) := by decide +kernel
theorem dX9_isPart_14 : decode cX9_isPart 14 = .ok (.ireturn, 1) := by decide +kernel
def f_X9_isPart (X : x_X) (v0 : Int32) (μ : x_M) : Option (Int32 × x_M) :=
  (if v0 = 0 then (ck ((1 : Int32) = 0 ∨ (1 : Int32) = 1) (some ((1 : Int32), μ))) else (if v0 = (1 : Int32) then (ck ((1 : Int32) = 0 ∨ (1 : Int32) = 1) (some ((1 : Int32), μ))) else (ck ((0 : Int32) = 0 ∨ (0 : Int32) = 1) (some ((0 : Int32), μ)))))
set_option maxRecDepth 100000 in
theorem m_X9_isPart (hI : x_I X) (v0 : Int32) (μ : x_M) : x_Met X x_Z0 l yX9_isPart cX9_isPart 1 (some .boolean) 1 [vI v0] μ rkI (f_X9_isPart X v0 μ) := by
  refine x_enter hI (by decide +kernel) (Nat.le_of_ble_eq_true rfl) (fun p e s m args below meth c hC hr hlk => ?_)
  unfold f_X9_isPart
  refine s_lv (lv' := [(0, vI v0)]) [0] rfl ?_
  refine s_iload_n hC 0 dX9_isPart_0 rfl ?_
  refine s_if_eq hC dX9_isPart_1 (tgt := 9) (by decide) ?_ ?_
  · refine s_iconst hC dX9_isPart_9 (v := 1) (by decide) ?_
    refine s_goto hC dX9_isPart_10 (tgt := 14) (by decide) ?_
    exact s_zret hC hr hlk dX9_isPart_14
  refine s_iload_n hC 0 dX9_isPart_4 rfl ?_
  refine s_iconst hC dX9_isPart_5 (v := 1) (by decide) ?_
  refine s_icmp_ne hC dX9_isPart_6 (tgt := 13) (by decide) ?_ ?_
  · refine s_iconst hC dX9_isPart_13 (v := 0) (by decide) ?_
    exact s_zret hC hr hlk dX9_isPart_14
  refine s_iconst hC dX9_isPart_9 (v := 1) (by decide) ?_
  refine s_goto hC dX9_isPart_10 (tgt := 14) (by decide) ?_
  exact s_zret hC hr hlk dX9_isPart_14
theorem dX9_isDaily_0 : decode cX9_isDaily 0 = .ok (.iload_n 0, 1) := by decide +kernel
theorem dX9_isDaily_1 : decode cX9_isDaily 1 = .ok (.bipush (-30), 2) := by decide +kernel
theorem dX9_isDaily_3 : decode cX9_isDaily 3 = .ok (.bipush 30, 2) := by decide +kernel
theorem dX9_isDaily_5 : decode cX9_isDaily 5 = .ok (.invokestatic 56, 3) := by decide +kernel
theorem dX9_isDaily_8 : decode cX9_isDaily 8 = .ok (.ireturn, 1) := by decide +kernel
def f_X9_isDaily (X : x_X) (v0 : Int32) (μ : x_M) : Option (Int32 × x_M) :=
  (bd (f_X9_within X v0 (-30 : Int32) (30 : Int32) μ) (fun (v2 : Int32) (μ3 : x_M) => (ck (v2 = 0 ∨ v2 = 1) (some (v2, μ3)))))
set_option maxRecDepth 100000 in
theorem m_X9_isDaily (hI : x_I X) (v0 : Int32) (μ : x_M) : x_Met X x_Z0 l yX9_isDaily cX9_isDaily 1 (some .boolean) 2 [vI v0] μ rkI (f_X9_isDaily X v0 μ) := by
  refine x_enter hI (by decide +kernel) (Nat.le_of_ble_eq_true rfl) (fun p e s m args below meth c hC hr hlk => ?_)
  unfold f_X9_isDaily
  refine s_lv (lv' := [(0, vI v0)]) [0] rfl ?_
  refine s_iload_n hC 0 dX9_isDaily_0 rfl ?_
  refine s_bipush hC dX9_isDaily_1 (v := -30) (by decide) ?_
  refine s_bipush hC dX9_isDaily_3 (v := 30) (by decide) ?_
  refine s_callS hC (avs := [vI v0, vI (-30 : Int32), vI (30 : Int32)]) (st := []) (nest := false) (m_X9_within hI v0 (-30 : Int32) (30 : Int32) μ) dX9_isDaily_5 qm_X9_56 qt_X9_within qc_X9 qd_X9_within qh_X9_within (by decide) (fun _ => Nat.le_of_ble_eq_true rfl) (Nat.le_of_ble_eq_true rfl) (fun v2 μ3 => ?_)
  exact s_zret hC hr hlk dX9_isDaily_8
theorem dX9_isOrUnder_0 : decode cX9_isOrUnder 0 = .ok (.iload_n 0, 1) := by decide +kernel
theorem dX9_isOrUnder_1 : decode cX9_isOrUnder 1 = .ok (.istore_n 2, 1) := by decide +kernel
theorem dX9_isOrUnder_2 : decode cX9_isOrUnder 2 = .ok (.iconst 0, 1) := by decide +kernel
theorem dX9_isOrUnder_3 : decode cX9_isOrUnder 3 = .ok (.istore_n 3, 1) := by decide +kernel
theorem dX9_isOrUnder_4 : decode cX9_isOrUnder 4 = .ok (.iload_n 3, 1) := by decide +kernel
theorem dX9_isOrUnder_5 : decode cX9_isOrUnder 5 = .ok (.getstatic 316, 3) := by decide +kernel
theorem dX9_isOrUnder_8 : decode cX9_isOrUnder 8 = .ok (.arraylength, 1) := by decide +kernel
theorem dX9_isOrUnder_9 : decode cX9_isOrUnder 9 = .ok (.if_icmp .ge 25, 3) := by decide +kernel
theorem dX9_isOrUnder_12 : decode cX9_isOrUnder 12 = .ok (.iload_n 2, 1) := by decide +kernel
theorem dX9_isOrUnder_13 : decode cX9_isOrUnder 13 = .ok (.ifCond .lt 21, 3) := by decide +kernel
theorem dX9_isOrUnder_16 : decode cX9_isOrUnder 16 = .ok (.iload_n 2, 1) := by decide +kernel
theorem dX9_isOrUnder_17 : decode cX9_isOrUnder 17 = .ok (.iload_n 1, 1) := by decide +kernel
theorem dX9_isOrUnder_18 : decode cX9_isOrUnder 18 = .ok (.if_icmp .ne 5, 3) := by decide +kernel
theorem dX9_isOrUnder_21 : decode cX9_isOrUnder 21 = .ok (.iconst 1, 1) := by decide +kernel
theorem dX9_isOrUnder_22 : decode cX9_isOrUnder 22 = .ok (.ireturn, 1) := by decide +kernel
theorem dX9_isOrUnder_23 : decode cX9_isOrUnder 23 = .ok (.iload_n 2, 1) := by decide +kernel
theorem dX9_isOrUnder_24 : decode cX9_isOrUnder 24 = .ok (.invokestatic 320, 3) := by decide +kernel
theorem dX9_isOrUnder_27 : decode cX9_isOrUnder 27 = .ok (.istore_n 2, 1) := by decide +kernel
theorem dX9_isOrUnder_28 : decode cX9_isOrUnder 28 = .ok (.iinc 3 1, 3) := by decide +kernel
theorem dX9_isOrUnder_31 : decode cX9_isOrUnder 31 = .ok (.goto (-27), 3) := by decide +kernel
theorem dX9_isOrUnder_34 : decode cX9_isOrUnder 34 = .ok (.iconst 0, 1) := by decide +kernel
theorem dX9_isOrUnder_35 : decode cX9_isOrUnder 35 = .ok (.ireturn, 1) := by decide +kernel
def f_X9_isOrUnder_L4 (X : x_X) : Nat → Int32 → Int32 → Int32 → x_M → Option (Int32 × x_M)
  | 0, _, _, _, _ => none
  | n + 1, v3, v4, v5, μ6 =>
    (ck (x_kd X 801 = 20 ∨ x_kd X 801 = 23 ∨ x_kd X 801 = 40 ∨ x_kd X 801 = 41) (if (nI (x_ln X 801)) ≤ v5 then (ck ((0 : Int32) = 0 ∨ (0 : Int32) = 1) (some ((0 : Int32), μ6))) else (if v4 < 0 then (ck ((0 : Int32) = 0 ∨ (0 : Int32) = 1) (some ((0 : Int32), μ6))) else (if v4 = v3 then (ck ((1 : Int32) = 0 ∨ (1 : Int32) = 1) (some ((1 : Int32), μ6))) else (bd (f_X9_kindAbove X v4 μ6) (fun (v7 : Int32) (μ8 : x_M) => (f_X9_isOrUnder_L4 X n v3 v7 (v5 + (1 : Int32)) μ8)))))))
set_option maxRecDepth 100000 in
theorem j_X9_isOrUnder_L4 (hI : x_I X) (hC : x_C X x_Z0 p (x_rm 2) s m c cX9_isOrUnder RX9 4 0 0 2) (hr : meth.sig.returnType = (some .boolean)) (hlk : meth.locks = false) : ∀ (n : Nat) (v3 : Int32) (v4 : Int32) (v5 : Int32) (μ6 : x_M), SM X 4 2 rkI p l e s m args below meth c 4 [(1, vI v3), (2, vI v4), (3, vI v5)] [] μ6 (f_X9_isOrUnder_L4 X n v3 v4 v5 μ6) := by
  intro n
  induction n with
  | zero => intro v3 v4 v5 μ6; exact s_none
  | succ n ih =>
    intro v3 v4 v5 μ6
    unfold f_X9_isOrUnder_L4
    refine s_iload_n hC 2 dX9_isOrUnder_4 rfl ?_
    refine s_gets hC (nest := false) dX9_isOrUnder_5 (id := 801) (List.mem_of_getElem? (i := 0) rfl) qg_X9_316 ?_
    refine s_alen hC dX9_isOrUnder_8 ?_
    refine s_icmp_ge hC dX9_isOrUnder_9 (tgt := 34) (by decide) ?_ ?_
    · refine s_iconst hC dX9_isOrUnder_34 (v := 0) (by decide) ?_
      exact s_zret hC hr hlk dX9_isOrUnder_35
    refine s_iload_n hC 1 dX9_isOrUnder_12 rfl ?_
    refine s_if_lt hC dX9_isOrUnder_13 (tgt := 34) (by decide) ?_ ?_
    · refine s_iconst hC dX9_isOrUnder_34 (v := 0) (by decide) ?_
      exact s_zret hC hr hlk dX9_isOrUnder_35
    refine s_iload_n hC 1 dX9_isOrUnder_16 rfl ?_
    refine s_iload_n hC 0 dX9_isOrUnder_17 rfl ?_
    refine s_icmp_ne hC dX9_isOrUnder_18 (tgt := 23) (by decide) ?_ ?_
    · refine s_iload_n hC 1 dX9_isOrUnder_23 rfl ?_
      refine s_callS hC (avs := [vI v4]) (st := []) (nest := false) (m_X9_kindAbove hI v4 μ6) dX9_isOrUnder_24 qm_X9_320 qt_X9_kindAbove qc_X9 qd_X9_kindAbove qh_X9_kindAbove (by decide) (fun _ => Nat.le_of_ble_eq_true rfl) (Nat.le_of_ble_eq_true rfl) (fun v7 μ8 => ?_)
      refine s_istore_n hC dX9_isOrUnder_27 (by decide) (lv' := [(2, vI v7), (1, vI v3), (3, vI v5)]) rfl ?_
      refine s_iinc hC 2 dX9_isOrUnder_28 rfl (w := 1) (by decide) (by decide) (lv' := [(3, vI (v5 + (1 : Int32))), (2, vI v7), (1, vI v3)]) rfl ?_
      refine s_goto hC dX9_isOrUnder_31 (tgt := 4) (by decide) ?_
      refine s_lv (lv' := [(1, vI v3), (2, vI v7), (3, vI (v5 + (1 : Int32)))]) [2, 1, 0] rfl ?_
      exact ih _ _ _ _
    refine s_iconst hC dX9_isOrUnder_21 (v := 1) (by decide) ?_
    exact s_zret hC hr hlk dX9_isOrUnder_22
def f_X9_isOrUnder (X : x_X) (v0 : Int32) (v1 : Int32) (μ : x_M) : Option (Int32 × x_M) :=
  (f_X9_isOrUnder_L4 X 4096 v1 v0 (0 : Int32) μ)
set_option maxRecDepth 100000 in
theorem m_X9_isOrUnder (hI : x_I X) (v0 : Int32) (v1 : Int32) (μ : x_M) : x_Met X x_Z0 l yX9_isOrUnder cX9_isOrUnder 4 (some .boolean) 2 [vI v0, vI v1] μ rkI (f_X9_isOrUnder X v0 v1 μ) := by
  refine x_enter hI (by decide +kernel) (Nat.le_of_ble_eq_true rfl) (fun p e s m args below meth c hC hr hlk => ?_)
  unfold f_X9_isOrUnder
  refine s_lv (lv' := [(0, vI v0), (1, vI v1)]) [0, 1] rfl ?_
  refine s_iload_n hC 0 dX9_isOrUnder_0 rfl ?_
  refine s_istore_n hC dX9_isOrUnder_1 (by decide) (lv' := [(2, vI v0), (0, vI v0), (1, vI v1)]) rfl ?_
  refine s_iconst hC dX9_isOrUnder_2 (v := 0) (by decide) ?_
  refine s_istore_n hC dX9_isOrUnder_3 (by decide) (lv' := [(3, vI (0 : Int32)), (2, vI v0), (0, vI v0), (1, vI v1)]) rfl ?_
  refine s_lv (lv' := [(1, vI v1), (2, vI v0), (3, vI (0 : Int32))]) [3, 1, 0] rfl ?_
  refine j_X9_isOrUnder_L4 hI hC hr hlk 4096 _ _ _ _
theorem dX9_maySet_0 : decode cX9_maySet 0 = .ok (.iload_n 0, 1) := by decide +kernel
theorem dX9_maySet_1 : decode cX9_maySet 1 = .ok (.lookupswitch 43 #[(0, 27), (1, 38)], 27) := by decide +kernel
theorem dX9_maySet_28 : decode cX9_maySet 28 = .ok (.iload_n 1, 1) := by decide +kernel
theorem dX9_maySet_29 : decode cX9_maySet 29 = .ok (.sipush (-999), 3) := by decide +kernel
theorem dX9_maySet_32 : decode cX9_maySet 32 = .ok (.sipush 999, 3) := by decide +kernel
theorem dX9_maySet_35 : decode cX9_maySet 35 = .ok (.invokestatic 56, 3) := by decide +kernel
theorem dX9_maySet_38 : decode cX9_maySet 38 = .ok (.ireturn, 1) := by decide +kernel
theorem dX9_maySet_39 : decode cX9_maySet 39 = .ok (.iload_n 1, 1) := by decide +kernel
theorem dX9_maySet_40 : decode cX9_maySet 40 = .ok (.invokestatic 74, 3) := by decide +kernel
theorem dX9_maySet_43 : decode cX9_maySet 43 = .ok (.ireturn, 1) := by decide +kernel
theorem dX9_maySet_44 : decode cX9_maySet 44 = .ok (.iload_n 1, 1) := by decide +kernel
theorem dX9_maySet_45 : decode cX9_maySet 45 = .ok (.iconst 0, 1) := by decide +kernel
theorem dX9_maySet_46 : decode cX9_maySet 46 = .ok (.bipush 20, 2) := by decide +kernel
theorem dX9_maySet_48 : decode cX9_maySet 48 = .ok (.invokestatic 56, 3) := by decide +kernel
theorem dX9_maySet_51 : decode cX9_maySet 51 = .ok (.ireturn, 1) := by decide +kernel
def f_X9_maySet (X : x_X) (v0 : Int32) (v1 : Int32) (μ : x_M) : Option (Int32 × x_M) :=
  (x_swo [(0 : Int32), (1 : Int32)] [(bd (f_X9_within X v1 (-999 : Int32) (999 : Int32) μ) (fun (v3 : Int32) (μ4 : x_M) => (ck (v3 = 0 ∨ v3 = 1) (some (v3, μ4))))), (bd (f_X9_isDaily X v1 μ) (fun (v5 : Int32) (μ6 : x_M) => (ck (v5 = 0 ∨ v5 = 1) (some (v5, μ6)))))] (bd (f_X9_within X v1 (0 : Int32) (20 : Int32) μ) (fun (v7 : Int32) (μ8 : x_M) => (ck (v7 = 0 ∨ v7 = 1) (some (v7, μ8))))) v0)
set_option maxRecDepth 100000 in
theorem m_X9_maySet (hI : x_I X) (v0 : Int32) (v1 : Int32) (μ : x_M) : x_Met X x_Z0 l yX9_maySet cX9_maySet 2 (some .boolean) 3 [vI v0, vI v1] μ rkI (f_X9_maySet X v0 v1 μ) := by
  refine x_enter hI (by decide +kernel) (Nat.le_of_ble_eq_true rfl) (fun p e s m args below meth c hC hr hlk => ?_)
  unfold f_X9_maySet
  refine s_lv (lv' := [(0, vI v0), (1, vI v1)]) [0, 1] rfl ?_
  refine s_iload_n hC 0 dX9_maySet_0 rfl ?_
  refine s_lookup hC dX9_maySet_1 (by decide) [((0 : Int32), 28), ((1 : Int32), 39)] 44 (by decide +kernel) ⟨?_, ?_, trivial⟩ ?_
  · refine s_iload_n hC 1 dX9_maySet_28 rfl ?_
    refine s_sipush hC dX9_maySet_29 (v := -999) (by decide) ?_
    refine s_sipush hC dX9_maySet_32 (v := 999) (by decide) ?_
    refine s_callS hC (avs := [vI v1, vI (-999 : Int32), vI (999 : Int32)]) (st := []) (nest := false) (m_X9_within hI v1 (-999 : Int32) (999 : Int32) μ) dX9_maySet_35 qm_X9_56 qt_X9_within qc_X9 qd_X9_within qh_X9_within (by decide) (fun _ => Nat.le_of_ble_eq_true rfl) (Nat.le_of_ble_eq_true rfl) (fun v3 μ4 => ?_)
    exact s_zret hC hr hlk dX9_maySet_38
  · refine s_iload_n hC 1 dX9_maySet_39 rfl ?_
    refine s_callS hC (avs := [vI v1]) (st := []) (nest := false) (m_X9_isDaily hI v1 μ) dX9_maySet_40 qm_X9_74 qt_X9_isDaily qc_X9 qd_X9_isDaily qh_X9_isDaily (by decide) (fun _ => Nat.le_of_ble_eq_true rfl) (Nat.le_of_ble_eq_true rfl) (fun v5 μ6 => ?_)
    exact s_zret hC hr hlk dX9_maySet_43
  refine s_iload_n hC 1 dX9_maySet_44 rfl ?_
  refine s_iconst hC dX9_maySet_45 (v := 0) (by decide) ?_
  refine s_bipush hC dX9_maySet_46 (v := 20) (by decide) ?_
  refine s_callS hC (avs := [vI v1, vI (0 : Int32), vI (20 : Int32)]) (st := []) (nest := false) (m_X9_within hI v1 (0 : Int32) (20 : Int32) μ) dX9_maySet_48 qm_X9_56 qt_X9_within qc_X9 qd_X9_within qh_X9_within (by decide) (fun _ => Nat.le_of_ble_eq_true rfl) (Nat.le_of_ble_eq_true rfl) (fun v7 μ8 => ?_)
  exact s_zret hC hr hlk dX9_maySet_51
