variable {X : x_X} {l : Launch} {p : Program} {e : Env} {s : State} {m : MethodId} {args : Array Value} {below : List Frame} {meth : Method} {c : Code}
theorem dX3_levelOf_0 : decode cX3_levelOf 0 = .ok (.iload_n 1, 1) := by decide +kernel
theorem dX3_levelOf_1 : decode cX3_levelOf 1 = .ok (.istore_n 2, 1) := by decide +kernel
theorem dX3_levelOf_2 : decode cX3_levelOf 2 = .ok (.iconst 0, 1) := by decide +kernel
theorem dX3_levelOf_3 : decode cX3_levelOf 3 = .ok (.istore_n 3, 1) := by decide +kernel
theorem dX3_levelOf_4 : decode cX3_levelOf 4 = .ok (.aload_n 0, 1) := by decide +kernel
theorem dX3_levelOf_5 : decode cX3_levelOf 5 = .ok (.getfield 9, 3) := by decide +kernel
theorem dX3_levelOf_8 : decode cX3_levelOf 8 = .ok (.astore 4, 2) := by decide +kernel
theorem dX3_levelOf_10 : decode cX3_levelOf 10 = .ok (.aload 4, 2) := by decide +kernel
theorem dX3_levelOf_12 : decode cX3_levelOf 12 = .ok (.arraylength, 1) := by decide +kernel
theorem dX3_levelOf_13 : decode cX3_levelOf 13 = .ok (.istore 5, 2) := by decide +kernel
theorem dX3_levelOf_15 : decode cX3_levelOf 15 = .ok (.iconst 0, 1) := by decide +kernel
theorem dX3_levelOf_16 : decode cX3_levelOf 16 = .ok (.istore 6, 2) := by decide +kernel
theorem dX3_levelOf_18 : decode cX3_levelOf 18 = .ok (.iload 6, 2) := by decide +kernel
theorem dX3_levelOf_20 : decode cX3_levelOf 20 = .ok (.iload 5, 2) := by decide +kernel
theorem dX3_levelOf_22 : decode cX3_levelOf 22 = .ok (.if_icmp .ge 57, 3) := by decide +kernel
theorem dX3_levelOf_25 : decode cX3_levelOf 25 = .ok (.aload 4, 2) := by decide +kernel
theorem dX3_levelOf_27 : decode cX3_levelOf 27 = .ok (.iload 6, 2) := by decide +kernel
theorem dX3_levelOf_29 : decode cX3_levelOf 29 = .ok (.iaload, 1) := by decide +kernel
theorem dX3_levelOf_30 : decode cX3_levelOf 30 = .ok (.istore 7, 2) := by decide +kernel
theorem dX3_levelOf_32 : decode cX3_levelOf 32 = .ok (.iload 7, 2) := by decide +kernel
theorem dX3_levelOf_34 : decode cX3_levelOf 34 = .ok (.ifCond .le 12, 3) := by decide +kernel
theorem dX3_levelOf_37 : decode cX3_levelOf 37 = .ok (.iload_n 2, 1) := by decide +kernel
theorem dX3_levelOf_38 : decode cX3_levelOf 38 = .ok (.iload 7, 2) := by decide +kernel
theorem dX3_levelOf_40 : decode cX3_levelOf 40 = .ok (.bipush 10, 2) := by decide +kernel
theorem dX3_levelOf_42 : decode cX3_levelOf 42 = .ok (.imul, 1) := by decide +kernel
theorem dX3_levelOf_43 : decode cX3_levelOf 43 = .ok (.if_icmp .ge 19, 3) := by decide +kernel
theorem dX3_levelOf_46 : decode cX3_levelOf 46 = .ok (.iload 7, 2) := by decide +kernel
theorem dX3_levelOf_48 : decode cX3_levelOf 48 = .ok (.ifCond .le 12, 3) := by decide +kernel
theorem dX3_levelOf_51 : decode cX3_levelOf 51 = .ok (.iload_n 3, 1) := by decide +kernel
theorem dX3_levelOf_52 : decode cX3_levelOf 52 = .ok (.iload_n 2, 1) := by decide +kernel
theorem dX3_levelOf_53 : decode cX3_levelOf 53 = .ok (.iload 7, 2) := by decide +kernel
theorem dX3_levelOf_55 : decode cX3_levelOf 55 = .ok (.idiv, 1) := by decide +kernel
theorem dX3_levelOf_56 : decode cX3_levelOf 56 = .ok (.iadd, 1) := by decide +kernel
theorem dX3_levelOf_57 : decode cX3_levelOf 57 = .ok (.goto 4, 3) := by decide +kernel
theorem dX3_levelOf_60 : decode cX3_levelOf 60 = .ok (.iload_n 3, 1) := by decide +kernel
theorem dX3_levelOf_61 : decode cX3_levelOf 61 = .ok (.ireturn, 1) := by decide +kernel
theorem dX3_levelOf_62 : decode cX3_levelOf 62 = .ok (.iload_n 2, 1) := by decide +kernel
theorem dX3_levelOf_63 : decode cX3_levelOf 63 = .ok (.iload 7, 2) := by decide +kernel
theorem dX3_levelOf_65 : decode cX3_levelOf 65 = .ok (.bipush 10, 2) := by decide +kernel
theorem dX3_levelOf_67 : decode cX3_levelOf 67 = .ok (.imul, 1) := by decide +kernel
theorem dX3_levelOf_68 : decode cX3_levelOf 68 = .ok (.isub, 1) := by decide +kernel
theorem dX3_levelOf_69 : decode cX3_levelOf 69 = .ok (.istore_n 2, 1) := by decide +kernel
theorem dX3_levelOf_70 : decode cX3_levelOf 70 = .ok (.iinc 3 10, 3) := by decide +kernel
theorem dX3_levelOf_73 : decode cX3_levelOf 73 = .ok (.iinc 6 1, 3) := by decide +kernel
theorem dX3_levelOf_76 : decode cX3_levelOf 76 = .ok (.goto (-58), 3) := by decide +kernel
theorem dX3_levelOf_79 : decode cX3_levelOf 79 = .ok (.iload_n 3, 1) := by decide +kernel
theorem dX3_levelOf_80 : decode cX3_levelOf 80 = .ok (.ireturn, 1) := by decide +kernel
def f_X3_levelOf_L18 (X : x_X) (k46 : Int32 → Int32 → Int32 → x_M → Option (Int32 × x_M)) : Nat → Int32 → Int32 → Nat → Int32 → Int32 → x_M → Option (Int32 × x_M)
  | 0, _, _, _, _, _, _ => none
  | n + 1, v5, v6, v7, v8, v9, μ10 =>
    (if v8 ≤ v9 then (some (v6, μ10)) else (ck ((x_kd X v7 = 20 ∨ x_kd X v7 = 40) ∧ x_ix v9 (x_ln X v7)) (lt (μ10.1 v7 (v9).toNatClampNeg) (fun (v11 : Int32) => (if v11 ≤ 0 then (k46 v5 v6 v11 μ10) else (if (v11 * (10 : Int32)) ≤ v5 then (lt (v5 - (v11 * (10 : Int32))) (fun (v12 : Int32) => (f_X3_levelOf_L18 X k46 n v12 (v6 + (10 : Int32)) v7 v8 (v9 + (1 : Int32)) μ10))) else (k46 v5 v6 v11 μ10)))))))
set_option maxRecDepth 100000 in
theorem j_X3_levelOf_L18 (hI : x_I X) (hC : x_C X x_Z0 p (x_rm 1) s m c cX3_levelOf RX3 8 0 0 1) (hr : meth.sig.returnType = (some .int)) (hlk : meth.locks = false) {k46 : Int32 → Int32 → Int32 → x_M → Option (Int32 × x_M)} (hk46 : ∀ (b2 : Int32) (b3 : Int32) (b7 : Int32) (μ : x_M), SM X 8 1 rkI p l e s m args below meth c 46 [(2, vI b2), (3, vI b3), (7, vI b7)] [] μ (k46 b2 b3 b7 μ)) : ∀ (n : Nat) (v5 : Int32) (v6 : Int32) (v7 : Nat) (v8 : Int32) (v9 : Int32) (μ10 : x_M), SM X 8 1 rkI p l e s m args below meth c 18 [(2, vI v5), (3, vI v6), (4, vR v7), (5, vI v8), (6, vI v9)] [] μ10 (f_X3_levelOf_L18 X k46 n v5 v6 v7 v8 v9 μ10) := by
  intro n
  induction n with
  | zero => intro v5 v6 v7 v8 v9 μ10; exact s_none
  | succ n ih =>
    intro v5 v6 v7 v8 v9 μ10
    unfold f_X3_levelOf_L18
    refine s_iload hC 4 dX3_levelOf_18 rfl ?_
    refine s_iload hC 3 dX3_levelOf_20 rfl ?_
    refine s_icmp_ge hC dX3_levelOf_22 (tgt := 79) (by decide) ?_ ?_
    · refine s_iload_n hC 1 dX3_levelOf_79 rfl ?_
      exact s_iret hC hr hlk dX3_levelOf_80
    refine s_aload hC 2 dX3_levelOf_25 rfl ?_
    refine s_iload hC 4 dX3_levelOf_27 rfl ?_
    refine s_iald hC dX3_levelOf_29 ?_
    refine s_ltI (fun v11 => ?_)
    refine s_istore hC dX3_levelOf_30 (by decide) (lv' := [(7, vI v11), (2, vI v5), (3, vI v6), (4, vR v7), (5, vI v8), (6, vI v9)]) rfl ?_
    refine s_iload hC 0 dX3_levelOf_32 rfl ?_
    refine s_if_le hC dX3_levelOf_34 (tgt := 46) (by decide) ?_ ?_
    · refine s_lv (lv' := [(2, vI v5), (3, vI v6), (7, vI v11)]) [1, 2, 0] rfl ?_
      exact hk46 _ _ _ _
    refine s_iload_n hC 1 dX3_levelOf_37 rfl ?_
    refine s_iload hC 0 dX3_levelOf_38 rfl ?_
    refine s_bipush hC dX3_levelOf_40 (v := 10) (by decide) ?_
    refine s_imul hC dX3_levelOf_42 ?_
    refine s_icmp_ge hC dX3_levelOf_43 (tgt := 62) (by decide) ?_ ?_
    · refine s_iload_n hC 1 dX3_levelOf_62 rfl ?_
      refine s_iload hC 0 dX3_levelOf_63 rfl ?_
      refine s_bipush hC dX3_levelOf_65 (v := 10) (by decide) ?_
      refine s_imul hC dX3_levelOf_67 ?_
      refine s_isub hC dX3_levelOf_68 ?_
      refine s_ltI (fun v12 => ?_)
      refine s_istore_n hC dX3_levelOf_69 (by decide) (lv' := [(2, vI v12), (7, vI v11), (3, vI v6), (4, vR v7), (5, vI v8), (6, vI v9)]) rfl ?_
      refine s_iinc hC 2 dX3_levelOf_70 rfl (w := 10) (by decide) (by decide) (lv' := [(3, vI (v6 + (10 : Int32))), (2, vI v12), (7, vI v11), (4, vR v7), (5, vI v8), (6, vI v9)]) rfl ?_
      refine s_iinc hC 5 dX3_levelOf_73 rfl (w := 1) (by decide) (by decide) (lv' := [(6, vI (v9 + (1 : Int32))), (3, vI (v6 + (10 : Int32))), (2, vI v12), (7, vI v11), (4, vR v7), (5, vI v8)]) rfl ?_
      refine s_goto hC dX3_levelOf_76 (tgt := 18) (by decide) ?_
      refine s_lv (lv' := [(2, vI v12), (3, vI (v6 + (10 : Int32))), (4, vR v7), (5, vI v8), (6, vI (v9 + (1 : Int32)))]) [2, 1, 4, 5, 0] rfl ?_
      exact ih _ _ _ _ _ _
    refine s_lv (lv' := [(2, vI v5), (3, vI v6), (7, vI v11)]) [1, 2, 0] rfl ?_
    exact hk46 _ _ _ _
def f_X3_levelOf (X : x_X) (v0 : Nat) (v1 : Int32) (μ : x_M) : Option (Int32 × x_M) :=
  (ck (x_kd X v0 = 3 + 1) (lt (μ.2.1 v0 0) (fun (v3 : Nat) => (ck (x_kd X v3 = 20 ∨ x_kd X v3 = 23 ∨ x_kd X v3 = 40 ∨ x_kd X v3 = 41) (lt (nI (x_ln X v3)) (fun (v4 : Int32) => (f_X3_levelOf_L18 X (fun (v13 : Int32) (v14 : Int32) (v15 : Int32) (μ16 : x_M) => (if v15 ≤ 0 then (some (v14, μ16)) else (ck (¬ v15 = 0) (some ((v14 + (v13 / v15)), μ16))))) 4096 v1 (0 : Int32) v3 v4 (0 : Int32) μ)))))))
set_option maxRecDepth 100000 in
theorem m_X3_levelOf (hI : x_I X) (v0 : Nat) (v1 : Int32) (μ : x_M) : x_Met X x_Z0 l yX3_levelOf cX3_levelOf 8 (some .int) 1 [vR v0, vI v1] μ rkI (f_X3_levelOf X v0 v1 μ) := by
  refine x_enter hI (by decide +kernel) (Nat.le_of_ble_eq_true rfl) (fun p e s m args below meth c hC hr hlk => ?_)
  unfold f_X3_levelOf
  refine s_lv (lv' := [(0, vR v0), (1, vI v1)]) [0, 1] rfl ?_
  refine s_iload_n hC 1 dX3_levelOf_0 rfl ?_
  refine s_istore_n hC dX3_levelOf_1 (by decide) (lv' := [(2, vI v1), (0, vR v0), (1, vI v1)]) rfl ?_
  refine s_iconst hC dX3_levelOf_2 (v := 0) (by decide) ?_
  refine s_istore_n hC dX3_levelOf_3 (by decide) (lv' := [(3, vI (0 : Int32)), (2, vI v1), (0, vR v0), (1, vI v1)]) rfl ?_
  refine s_aload_n hC 2 dX3_levelOf_4 rfl ?_
  refine s_getR hC xc3 (by decide) rfl qf_X3_9 dX3_levelOf_5 ?_
  refine s_ltR (fun v3 => ?_)
  refine s_astore hC dX3_levelOf_8 (by decide) (lv' := [(4, vR v3), (3, vI (0 : Int32)), (2, vI v1), (0, vR v0), (1, vI v1)]) rfl ?_
  refine s_aload hC 0 dX3_levelOf_10 rfl ?_
  refine s_alen hC dX3_levelOf_12 ?_
  refine s_ltI (fun v4 => ?_)
  refine s_istore hC dX3_levelOf_13 (by decide) (lv' := [(5, vI v4), (4, vR v3), (3, vI (0 : Int32)), (2, vI v1), (0, vR v0), (1, vI v1)]) rfl ?_
  refine s_iconst hC dX3_levelOf_15 (v := 0) (by decide) ?_
  refine s_istore hC dX3_levelOf_16 (by decide) (lv' := [(6, vI (0 : Int32)), (5, vI v4), (4, vR v3), (3, vI (0 : Int32)), (2, vI v1), (0, vR v0), (1, vI v1)]) rfl ?_
  refine s_lv (lv' := [(2, vI v1), (3, vI (0 : Int32)), (4, vR v3), (5, vI v4), (6, vI (0 : Int32))]) [4, 3, 2, 1, 0] rfl ?_
  refine j_X3_levelOf_L18 hI hC hr hlk (fun v13 v14 v15 μ16 => ?_) 4096 _ _ _ _ _ _
  refine s_iload hC 2 dX3_levelOf_46 rfl ?_
  refine s_if_le hC dX3_levelOf_48 (tgt := 60) (by decide) ?_ ?_
  · refine s_iload_n hC 1 dX3_levelOf_60 rfl ?_
    exact s_iret hC hr hlk dX3_levelOf_61
  refine s_iload_n hC 1 dX3_levelOf_51 rfl ?_
  refine s_iload_n hC 0 dX3_levelOf_52 rfl ?_
  refine s_iload hC 2 dX3_levelOf_53 rfl ?_
  refine s_idiv hC dX3_levelOf_55 ?_
  refine s_iadd hC dX3_levelOf_56 ?_
  refine s_goto hC dX3_levelOf_57 (tgt := 61) (by decide) ?_
  exact s_iret hC hr hlk dX3_levelOf_61
theorem dX3_volumeOf_0 : decode cX3_volumeOf 0 = .ok (.iload_n 1, 1) := by decide +kernel
theorem dX3_volumeOf_1 : decode cX3_volumeOf 1 = .ok (.istore_n 2, 1) := by decide +kernel
theorem dX3_volumeOf_2 : decode cX3_volumeOf 2 = .ok (.iconst 0, 1) := by decide +kernel
theorem dX3_volumeOf_3 : decode cX3_volumeOf 3 = .ok (.istore_n 3, 1) := by decide +kernel
theorem dX3_volumeOf_4 : decode cX3_volumeOf 4 = .ok (.aload_n 0, 1) := by decide +kernel
theorem dX3_volumeOf_5 : decode cX3_volumeOf 5 = .ok (.getfield 9, 3) := by decide +kernel
theorem dX3_volumeOf_8 : decode cX3_volumeOf 8 = .ok (.astore 4, 2) := by decide +kernel
theorem dX3_volumeOf_10 : decode cX3_volumeOf 10 = .ok (.aload 4, 2) := by decide +kernel
theorem dX3_volumeOf_12 : decode cX3_volumeOf 12 = .ok (.arraylength, 1) := by decide +kernel
theorem dX3_volumeOf_13 : decode cX3_volumeOf 13 = .ok (.istore 5, 2) := by decide +kernel
theorem dX3_volumeOf_15 : decode cX3_volumeOf 15 = .ok (.iconst 0, 1) := by decide +kernel
theorem dX3_volumeOf_16 : decode cX3_volumeOf 16 = .ok (.istore 6, 2) := by decide +kernel
theorem dX3_volumeOf_18 : decode cX3_volumeOf 18 = .ok (.iload 6, 2) := by decide +kernel
theorem dX3_volumeOf_20 : decode cX3_volumeOf 20 = .ok (.iload 5, 2) := by decide +kernel
theorem dX3_volumeOf_22 : decode cX3_volumeOf 22 = .ok (.if_icmp .ge 41, 3) := by decide +kernel
theorem dX3_volumeOf_25 : decode cX3_volumeOf 25 = .ok (.aload 4, 2) := by decide +kernel
theorem dX3_volumeOf_27 : decode cX3_volumeOf 27 = .ok (.iload 6, 2) := by decide +kernel
theorem dX3_volumeOf_29 : decode cX3_volumeOf 29 = .ok (.iaload, 1) := by decide +kernel
theorem dX3_volumeOf_30 : decode cX3_volumeOf 30 = .ok (.istore 7, 2) := by decide +kernel
theorem dX3_volumeOf_32 : decode cX3_volumeOf 32 = .ok (.iconst 0, 1) := by decide +kernel
theorem dX3_volumeOf_33 : decode cX3_volumeOf 33 = .ok (.iload_n 2, 1) := by decide +kernel
theorem dX3_volumeOf_34 : decode cX3_volumeOf 34 = .ok (.bipush 10, 2) := by decide +kernel
theorem dX3_volumeOf_36 : decode cX3_volumeOf 36 = .ok (.invokestatic 19, 3) := by decide +kernel
theorem dX3_volumeOf_39 : decode cX3_volumeOf 39 = .ok (.invokestatic 25, 3) := by decide +kernel
theorem dX3_volumeOf_42 : decode cX3_volumeOf 42 = .ok (.istore 8, 2) := by decide +kernel
theorem dX3_volumeOf_44 : decode cX3_volumeOf 44 = .ok (.iload_n 3, 1) := by decide +kernel
theorem dX3_volumeOf_45 : decode cX3_volumeOf 45 = .ok (.iload 8, 2) := by decide +kernel
theorem dX3_volumeOf_47 : decode cX3_volumeOf 47 = .ok (.iload 7, 2) := by decide +kernel
theorem dX3_volumeOf_49 : decode cX3_volumeOf 49 = .ok (.imul, 1) := by decide +kernel
theorem dX3_volumeOf_50 : decode cX3_volumeOf 50 = .ok (.iadd, 1) := by decide +kernel
theorem dX3_volumeOf_51 : decode cX3_volumeOf 51 = .ok (.istore_n 3, 1) := by decide +kernel
theorem dX3_volumeOf_52 : decode cX3_volumeOf 52 = .ok (.iload_n 2, 1) := by decide +kernel
theorem dX3_volumeOf_53 : decode cX3_volumeOf 53 = .ok (.iload 8, 2) := by decide +kernel
theorem dX3_volumeOf_55 : decode cX3_volumeOf 55 = .ok (.isub, 1) := by decide +kernel
theorem dX3_volumeOf_56 : decode cX3_volumeOf 56 = .ok (.istore_n 2, 1) := by decide +kernel
theorem dX3_volumeOf_57 : decode cX3_volumeOf 57 = .ok (.iinc 6 1, 3) := by decide +kernel
theorem dX3_volumeOf_60 : decode cX3_volumeOf 60 = .ok (.goto (-42), 3) := by decide +kernel
theorem dX3_volumeOf_63 : decode cX3_volumeOf 63 = .ok (.iload_n 3, 1) := by decide +kernel
theorem dX3_volumeOf_64 : decode cX3_volumeOf 64 = .ok (.ireturn, 1) := by decide +kernel
def f_X3_volumeOf_L18 (X : x_X) : Nat → Int32 → Int32 → Nat → Int32 → Int32 → x_M → Option (Int32 × x_M)
  | 0, _, _, _, _, _, _ => none
  | n + 1, v5, v6, v7, v8, v9, μ10 =>
    (if v8 ≤ v9 then (some (v6, μ10)) else (ck ((x_kd X v7 = 20 ∨ x_kd X v7 = 40) ∧ x_ix v9 (x_ln X v7)) (lt (μ10.1 v7 (v9).toNatClampNeg) (fun (v11 : Int32) => (lt (if (10 : Int32) < v5 then (10 : Int32) else v5) (fun (v12 : Int32) => (lt (if (0 : Int32) < v12 then v12 else (0 : Int32)) (fun (v13 : Int32) => (lt (v6 + (v13 * v11)) (fun (v14 : Int32) => (lt (v5 - v13) (fun (v15 : Int32) => (f_X3_volumeOf_L18 X n v15 v14 v7 v8 (v9 + (1 : Int32)) μ10)))))))))))))
set_option maxRecDepth 100000 in
theorem j_X3_volumeOf_L18 (hI : x_I X) (hC : x_C X x_Z0 p (x_rm 1) s m c cX3_volumeOf RX3 9 0 0 1) (hr : meth.sig.returnType = (some .int)) (hlk : meth.locks = false) : ∀ (n : Nat) (v5 : Int32) (v6 : Int32) (v7 : Nat) (v8 : Int32) (v9 : Int32) (μ10 : x_M), SM X 9 1 rkI p l e s m args below meth c 18 [(2, vI v5), (3, vI v6), (4, vR v7), (5, vI v8), (6, vI v9)] [] μ10 (f_X3_volumeOf_L18 X n v5 v6 v7 v8 v9 μ10) := by
  intro n
  induction n with
  | zero => intro v5 v6 v7 v8 v9 μ10; exact s_none
  | succ n ih =>
    intro v5 v6 v7 v8 v9 μ10
    unfold f_X3_volumeOf_L18
    refine s_iload hC 4 dX3_volumeOf_18 rfl ?_
    refine s_iload hC 3 dX3_volumeOf_20 rfl ?_
    refine s_icmp_ge hC dX3_volumeOf_22 (tgt := 63) (by decide) ?_ ?_
    · refine s_iload_n hC 1 dX3_volumeOf_63 rfl ?_
      exact s_iret hC hr hlk dX3_volumeOf_64
    refine s_aload hC 2 dX3_volumeOf_25 rfl ?_
    refine s_iload hC 4 dX3_volumeOf_27 rfl ?_
    refine s_iald hC dX3_volumeOf_29 ?_
    refine s_ltI (fun v11 => ?_)
    refine s_istore hC dX3_volumeOf_30 (by decide) (lv' := [(7, vI v11), (2, vI v5), (3, vI v6), (4, vR v7), (5, vI v8), (6, vI v9)]) rfl ?_
    refine s_iconst hC dX3_volumeOf_32 (v := 0) (by decide) ?_
    refine s_iload_n hC 1 dX3_volumeOf_33 rfl ?_
    refine s_bipush hC dX3_volumeOf_34 (v := 10) (by decide) ?_
    refine s_min hC dX3_volumeOf_36 qm_X3_19 qt_Math_min qc_Math qd_Math_min (by decide) (Nat.le_of_ble_eq_true rfl) ?_
    refine s_ltI (fun v12 => ?_)
    refine s_max hC dX3_volumeOf_39 qm_X3_25 qt_Math_max qc_Math qd_Math_max (by decide) (Nat.le_of_ble_eq_true rfl) ?_
    refine s_ltI (fun v13 => ?_)
    refine s_istore hC dX3_volumeOf_42 (by decide) (lv' := [(8, vI v13), (7, vI v11), (2, vI v5), (3, vI v6), (4, vR v7), (5, vI v8), (6, vI v9)]) rfl ?_
    refine s_iload_n hC 3 dX3_volumeOf_44 rfl ?_
    refine s_iload hC 0 dX3_volumeOf_45 rfl ?_
    refine s_iload hC 1 dX3_volumeOf_47 rfl ?_
    refine s_imul hC dX3_volumeOf_49 ?_
    refine s_iadd hC dX3_volumeOf_50 ?_
    refine s_ltI (fun v14 => ?_)
    refine s_istore_n hC dX3_volumeOf_51 (by decide) (lv' := [(3, vI v14), (8, vI v13), (7, vI v11), (2, vI v5), (4, vR v7), (5, vI v8), (6, vI v9)]) rfl ?_
    refine s_iload_n hC 3 dX3_volumeOf_52 rfl ?_
    refine s_iload hC 1 dX3_volumeOf_53 rfl ?_
    refine s_isub hC dX3_volumeOf_55 ?_
    refine s_ltI (fun v15 => ?_)
    refine s_istore_n hC dX3_volumeOf_56 (by decide) (lv' := [(2, vI v15), (3, vI v14), (8, vI v13), (7, vI v11), (4, vR v7), (5, vI v8), (6, vI v9)]) rfl ?_
    refine s_iinc hC 6 dX3_volumeOf_57 rfl (w := 1) (by decide) (by decide) (lv' := [(6, vI (v9 + (1 : Int32))), (2, vI v15), (3, vI v14), (8, vI v13), (7, vI v11), (4, vR v7), (5, vI v8)]) rfl ?_
    refine s_goto hC dX3_volumeOf_60 (tgt := 18) (by decide) ?_
    refine s_lv (lv' := [(2, vI v15), (3, vI v14), (4, vR v7), (5, vI v8), (6, vI (v9 + (1 : Int32)))]) [1, 2, 5, 6, 0] rfl ?_
    exact ih _ _ _ _ _ _
def f_X3_volumeOf (X : x_X) (v0 : Nat) (v1 : Int32) (μ : x_M) : Option (Int32 × x_M) :=
  (ck (x_kd X v0 = 3 + 1) (lt (μ.2.1 v0 0) (fun (v3 : Nat) => (ck (x_kd X v3 = 20 ∨ x_kd X v3 = 23 ∨ x_kd X v3 = 40 ∨ x_kd X v3 = 41) (lt (nI (x_ln X v3)) (fun (v4 : Int32) => (f_X3_volumeOf_L18 X 4096 v1 (0 : Int32) v3 v4 (0 : Int32) μ)))))))
set_option maxRecDepth 100000 in
theorem m_X3_volumeOf (hI : x_I X) (v0 : Nat) (v1 : Int32) (μ : x_M) : x_Met X x_Z0 l yX3_volumeOf cX3_volumeOf 9 (some .int) 1 [vR v0, vI v1] μ rkI (f_X3_volumeOf X v0 v1 μ) := by
  refine x_enter hI (by decide +kernel) (Nat.le_of_ble_eq_true rfl) (fun p e s m args below meth c hC hr hlk => ?_)
  unfold f_X3_volumeOf
  refine s_lv (lv' := [(0, vR v0), (1, vI v1)]) [0, 1] rfl ?_
  refine s_iload_n hC 1 dX3_volumeOf_0 rfl ?_
  refine s_istore_n hC dX3_volumeOf_1 (by decide) (lv' := [(2, vI v1), (0, vR v0), (1, vI v1)]) rfl ?_
  refine s_iconst hC dX3_volumeOf_2 (v := 0) (by decide) ?_
  refine s_istore_n hC dX3_volumeOf_3 (by decide) (lv' := [(3, vI (0 : Int32)), (2, vI v1), (0, vR v0), (1, vI v1)]) rfl ?_
  refine s_aload_n hC 2 dX3_volumeOf_4 rfl ?_
  refine s_getR hC xc3 (by decide) rfl qf_X3_9 dX3_volumeOf_5 ?_
  refine s_ltR (fun v3 => ?_)
  refine s_astore hC dX3_volumeOf_8 (by decide) (lv' := [(4, vR v3), (3, vI (0 : Int32)), (2, vI v1), (0, vR v0), (1, vI v1)]) rfl ?_
  refine s_aload hC 0 dX3_volumeOf_10 rfl ?_
  refine s_alen hC dX3_volumeOf_12 ?_
  refine s_ltI (fun v4 => ?_)
  refine s_istore hC dX3_volumeOf_13 (by decide) (lv' := [(5, vI v4), (4, vR v3), (3, vI (0 : Int32)), (2, vI v1), (0, vR v0), (1, vI v1)]) rfl ?_
  refine s_iconst hC dX3_volumeOf_15 (v := 0) (by decide) ?_
  refine s_istore hC dX3_volumeOf_16 (by decide) (lv' := [(6, vI (0 : Int32)), (5, vI v4), (4, vR v3), (3, vI (0 : Int32)), (2, vI v1), (0, vR v0), (1, vI v1)]) rfl ?_
  refine s_lv (lv' := [(2, vI v1), (3, vI (0 : Int32)), (4, vR v3), (5, vI v4), (6, vI (0 : Int32))]) [4, 3, 2, 1, 0] rfl ?_
  refine j_X3_volumeOf_L18 hI hC hr hlk 4096 _ _ _ _ _ _
theorem dX3_copyFrom_0 : decode cX3_copyFrom 0 = .ok (.iconst 0, 1) := by decide +kernel
theorem dX3_copyFrom_1 : decode cX3_copyFrom 1 = .ok (.istore_n 2, 1) := by decide +kernel
theorem dX3_copyFrom_2 : decode cX3_copyFrom 2 = .ok (.iload_n 2, 1) := by decide +kernel
theorem dX3_copyFrom_3 : decode cX3_copyFrom 3 = .ok (.bipush 6, 2) := by decide +kernel
theorem dX3_copyFrom_5 : decode cX3_copyFrom 5 = .ok (.if_icmp .ge 23, 3) := by decide +kernel
theorem dX3_copyFrom_8 : decode cX3_copyFrom 8 = .ok (.aload_n 0, 1) := by decide +kernel
theorem dX3_copyFrom_9 : decode cX3_copyFrom 9 = .ok (.getfield 9, 3) := by decide +kernel
theorem dX3_copyFrom_12 : decode cX3_copyFrom 12 = .ok (.iload_n 2, 1) := by decide +kernel
theorem dX3_copyFrom_13 : decode cX3_copyFrom 13 = .ok (.aload_n 1, 1) := by decide +kernel
theorem dX3_copyFrom_14 : decode cX3_copyFrom 14 = .ok (.getfield 9, 3) := by decide +kernel
theorem dX3_copyFrom_17 : decode cX3_copyFrom 17 = .ok (.iload_n 2, 1) := by decide +kernel
theorem dX3_copyFrom_18 : decode cX3_copyFrom 18 = .ok (.invokestatic 15, 3) := by decide +kernel
theorem dX3_copyFrom_21 : decode cX3_copyFrom 21 = .ok (.iastore, 1) := by decide +kernel
theorem dX3_copyFrom_22 : decode cX3_copyFrom 22 = .ok (.iinc 2 1, 3) := by decide +kernel
theorem dX3_copyFrom_25 : decode cX3_copyFrom 25 = .ok (.goto (-23), 3) := by decide +kernel
theorem dX3_copyFrom_28 : decode cX3_copyFrom 28 = .ok (.return_, 1) := by decide +kernel
def f_X3_copyFrom_L2 (X : x_X) : Nat → Nat → Nat → Int32 → x_M → Option (Unit × x_M)
  | 0, _, _, _, _ => none
  | n + 1, v3, v4, v5, μ6 =>
    (if (6 : Int32) ≤ v5 then (some ((), μ6)) else (ck (x_kd X v3 = 3 + 1) (lt (μ6.2.1 v3 0) (fun (v7 : Nat) => (ck (x_kd X v4 = 3 + 1) (lt (μ6.2.1 v4 0) (fun (v8 : Nat) => (bd (f_X9_at X v8 v5 μ6) (fun (v9 : Int32) (μ10 : x_M) => (ck (x_kd X v7 = 20 ∧ x_ix v5 (x_ln X v7)) (lt (x_sI μ10 v7 (v5).toNatClampNeg v9) (fun (μ11 : x_M) => (f_X3_copyFrom_L2 X n v3 v4 (v5 + (1 : Int32)) μ11)))))))))))))
set_option maxRecDepth 100000 in
theorem j_X3_copyFrom_L2 (hI : x_I X) (hC : x_C X x_Z0 p (x_rm 2) s m c cX3_copyFrom RX3 3 0 0 2) (hr : meth.sig.returnType = none) (hlk : meth.locks = false) : ∀ (n : Nat) (v3 : Nat) (v4 : Nat) (v5 : Int32) (μ6 : x_M), SM X 3 2 rkV p l e s m args below meth c 2 [(0, vR v3), (1, vR v4), (2, vI v5)] [] μ6 (f_X3_copyFrom_L2 X n v3 v4 v5 μ6) := by
  intro n
  induction n with
  | zero => intro v3 v4 v5 μ6; exact s_none
  | succ n ih =>
    intro v3 v4 v5 μ6
    unfold f_X3_copyFrom_L2
    refine s_iload_n hC 2 dX3_copyFrom_2 rfl ?_
    refine s_bipush hC dX3_copyFrom_3 (v := 6) (by decide) ?_
    refine s_icmp_ge hC dX3_copyFrom_5 (tgt := 28) (by decide) ?_ ?_
    · exact s_vret hC hr hlk dX3_copyFrom_28
    refine s_aload_n hC 0 dX3_copyFrom_8 rfl ?_
    refine s_getR hC xc3 (by decide) rfl qf_X3_9 dX3_copyFrom_9 ?_
    refine s_ltR (fun v7 => ?_)
    refine s_iload_n hC 2 dX3_copyFrom_12 rfl ?_
    refine s_aload_n hC 1 dX3_copyFrom_13 rfl ?_
    refine s_getR hC xc3 (by decide) rfl qf_X3_9 dX3_copyFrom_14 ?_
    refine s_ltR (fun v8 => ?_)
    refine s_iload_n hC 2 dX3_copyFrom_17 rfl ?_
    refine s_callS hC (avs := [vR v8, vI v5]) (st := [vI v5, vR v7]) (nest := true) (m_X9_at hI v8 v5 μ6) dX3_copyFrom_18 qm_X3_15 qt_X9_at qc_X9 qd_X9_at qh_X9_at (by decide) (fun _ => Nat.le_of_ble_eq_true rfl) (Nat.le_of_ble_eq_true rfl) (fun v9 μ10 => ?_)
    refine s_iast hC dX3_copyFrom_21 ?_
    refine s_ltM (fun μ11 => ?_)
    refine s_iinc hC 2 dX3_copyFrom_22 rfl (w := 1) (by decide) (by decide) (lv' := [(2, vI (v5 + (1 : Int32))), (0, vR v3), (1, vR v4)]) rfl ?_
    refine s_goto hC dX3_copyFrom_25 (tgt := 2) (by decide) ?_
    refine s_lv (lv' := [(0, vR v3), (1, vR v4), (2, vI (v5 + (1 : Int32)))]) [1, 2, 0] rfl ?_
    exact ih _ _ _ _
def f_X3_copyFrom (X : x_X) (v0 : Nat) (v1 : Nat) (μ : x_M) : Option (Unit × x_M) :=
  (f_X3_copyFrom_L2 X 4096 v0 v1 (0 : Int32) μ)
set_option maxRecDepth 100000 in
theorem m_X3_copyFrom (hI : x_I X) (v0 : Nat) (v1 : Nat) (μ : x_M) : x_Met X x_Z0 l yX3_copyFrom cX3_copyFrom 3 none 2 [vR v0, vR v1] μ rkV (f_X3_copyFrom X v0 v1 μ) := by
  refine x_enter hI (by decide +kernel) (Nat.le_of_ble_eq_true rfl) (fun p e s m args below meth c hC hr hlk => ?_)
  unfold f_X3_copyFrom
  refine s_lv (lv' := [(0, vR v0), (1, vR v1)]) [0, 1] rfl ?_
  refine s_iconst hC dX3_copyFrom_0 (v := 0) (by decide) ?_
  refine s_istore_n hC dX3_copyFrom_1 (by decide) (lv' := [(2, vI (0 : Int32)), (0, vR v0), (1, vR v1)]) rfl ?_
  refine s_lv (lv' := [(0, vR v0), (1, vR v1), (2, vI (0 : Int32))]) [1, 2, 0] rfl ?_
  refine j_X3_copyFrom_L2 hI hC hr hlk 4096 _ _ _ _
theorem dX3_areaOf_0 : decode cX3_areaOf 0 = .ok (.aload_n 0, 1) := by decide +kernel
theorem dX3_areaOf_1 : decode cX3_areaOf 1 = .ok (.getfield 9, 3) := by decide +kernel
theorem dX3_areaOf_4 : decode cX3_areaOf 4 = .ok (.iload_n 1, 1) := by decide +kernel
theorem dX3_areaOf_5 : decode cX3_areaOf 5 = .ok (.invokestatic 15, 3) := by decide +kernel
theorem dX3_areaOf_8 : decode cX3_areaOf 8 = .ok (.ireturn, 1) := by decide +kernel
def f_X3_areaOf (X : x_X) (v0 : Nat) (v1 : Int32) (μ : x_M) : Option (Int32 × x_M) :=
  (ck (x_kd X v0 = 3 + 1) (lt (μ.2.1 v0 0) (fun (v3 : Nat) => (bd (f_X9_at X v3 v1 μ) (fun (v4 : Int32) (μ5 : x_M) => (some (v4, μ5)))))))
set_option maxRecDepth 100000 in
theorem m_X3_areaOf (hI : x_I X) (v0 : Nat) (v1 : Int32) (μ : x_M) : x_Met X x_Z0 l yX3_areaOf cX3_areaOf 2 (some .int) 2 [vR v0, vI v1] μ rkI (f_X3_areaOf X v0 v1 μ) := by
  refine x_enter hI (by decide +kernel) (Nat.le_of_ble_eq_true rfl) (fun p e s m args below meth c hC hr hlk => ?_)
  unfold f_X3_areaOf
  refine s_lv (lv' := [(0, vR v0), (1, vI v1)]) [0, 1] rfl ?_
  refine s_aload_n hC 0 dX3_areaOf_0 rfl ?_
  refine s_getR hC xc3 (by decide) rfl qf_X3_9 dX3_areaOf_1 ?_
  refine s_ltR (fun v3 => ?_)
  refine s_iload_n hC 1 dX3_areaOf_4 rfl ?_
  refine s_callS hC (avs := [vR v3, vI v1]) (st := []) (nest := true) (m_X9_at hI v3 v1 μ) dX3_areaOf_5 qm_X3_15 qt_X9_at qc_X9 qd_X9_at qh_X9_at (by decide) (fun _ => Nat.le_of_ble_eq_true rfl) (Nat.le_of_ble_eq_true rfl) (fun v4 μ5 => ?_)
  exact s_iret hC hr hlk dX3_areaOf_8
theorem dX3_change_0 : decode cX3_change 0 = .ok (.aload_n 0, 1) := by decide +kernel
theorem dX3_change_1 : decode cX3_change 1 = .ok (.getfield 9, 3) := by decide +kernel
theorem dX3_change_4 : decode cX3_change 4 = .ok (.iload_n 1, 1) := by decide +kernel
theorem dX3_change_5 : decode cX3_change 5 = .ok (.invokestatic 15, 3) := by decide +kernel
theorem dX3_change_8 : decode cX3_change 8 = .ok (.istore_n 3, 1) := by decide +kernel
theorem dX3_change_9 : decode cX3_change 9 = .ok (.iload_n 1, 1) := by decide +kernel
theorem dX3_change_10 : decode cX3_change 10 = .ok (.ifCond .lt 19, 3) := by decide +kernel
theorem dX3_change_13 : decode cX3_change 13 = .ok (.iload_n 1, 1) := by decide +kernel
theorem dX3_change_14 : decode cX3_change 14 = .ok (.aload_n 0, 1) := by decide +kernel
theorem dX3_change_15 : decode cX3_change 15 = .ok (.getfield 9, 3) := by decide +kernel
theorem dX3_change_18 : decode cX3_change 18 = .ok (.arraylength, 1) := by decide +kernel
theorem dX3_change_19 : decode cX3_change 19 = .ok (.if_icmp .ge 10, 3) := by decide +kernel
theorem dX3_change_22 : decode cX3_change 22 = .ok (.aload_n 0, 1) := by decide +kernel
theorem dX3_change_23 : decode cX3_change 23 = .ok (.getfield 9, 3) := by decide +kernel
theorem dX3_change_26 : decode cX3_change 26 = .ok (.iload_n 1, 1) := by decide +kernel
theorem dX3_change_27 : decode cX3_change 27 = .ok (.iload_n 2, 1) := by decide +kernel
theorem dX3_change_28 : decode cX3_change 28 = .ok (.iastore, 1) := by decide +kernel
theorem dX3_change_29 : decode cX3_change 29 = .ok (.iload_n 3, 1) := by decide +kernel
theorem dX3_change_30 : decode cX3_change 30 = .ok (.ireturn, 1) := by decide +kernel
def f_X3_change (X : x_X) (v0 : Nat) (v1 : Int32) (v2 : Int32) (μ : x_M) : Option (Int32 × x_M) :=
  (ck (x_kd X v0 = 3 + 1) (lt (μ.2.1 v0 0) (fun (v4 : Nat) => (bd (f_X9_at X v4 v1 μ) (fun (v5 : Int32) (μ6 : x_M) => (if v1 < 0 then (some (v5, μ6)) else (ck (x_kd X v0 = 3 + 1) (lt (μ6.2.1 v0 0) (fun (v7 : Nat) => (ck (x_kd X v7 = 20 ∨ x_kd X v7 = 23 ∨ x_kd X v7 = 40 ∨ x_kd X v7 = 41) (if (nI (x_ln X v7)) ≤ v1 then (some (v5, μ6)) else (ck (x_kd X v0 = 3 + 1) (lt (μ6.2.1 v0 0) (fun (v8 : Nat) => (ck (x_kd X v8 = 20 ∧ x_ix v1 (x_ln X v8)) (lt (x_sI μ6 v8 (v1).toNatClampNeg v2) (fun (μ9 : x_M) => (some (v5, μ9)))))))))))))))))))
set_option maxRecDepth 100000 in
theorem m_X3_change (hI : x_I X) (v0 : Nat) (v1 : Int32) (v2 : Int32) (μ : x_M) : x_Met X x_Z0 l yX3_change cX3_change 4 (some .int) 2 [vR v0, vI v1, vI v2] μ rkI (f_X3_change X v0 v1 v2 μ) := by
  refine x_enter hI (by decide +kernel) (Nat.le_of_ble_eq_true rfl) (fun p e s m args below meth c hC hr hlk => ?_)
  unfold f_X3_change
  refine s_lv (lv' := [(0, vR v0), (1, vI v1), (2, vI v2)]) [0, 1, 2] rfl ?_
  refine s_aload_n hC 0 dX3_change_0 rfl ?_
  refine s_getR hC xc3 (by decide) rfl qf_X3_9 dX3_change_1 ?_
  refine s_ltR (fun v4 => ?_)
  refine s_iload_n hC 1 dX3_change_4 rfl ?_
  refine s_callS hC (avs := [vR v4, vI v1]) (st := []) (nest := true) (m_X9_at hI v4 v1 μ) dX3_change_5 qm_X3_15 qt_X9_at qc_X9 qd_X9_at qh_X9_at (by decide) (fun _ => Nat.le_of_ble_eq_true rfl) (Nat.le_of_ble_eq_true rfl) (fun v5 μ6 => ?_)
  refine s_istore_n hC dX3_change_8 (by decide) (lv' := [(3, vI v5), (0, vR v0), (1, vI v1), (2, vI v2)]) rfl ?_
  refine s_iload_n hC 2 dX3_change_9 rfl ?_
  refine s_if_lt hC dX3_change_10 (tgt := 29) (by decide) ?_ ?_
  · refine s_iload_n hC 0 dX3_change_29 rfl ?_
    exact s_iret hC hr hlk dX3_change_30
  refine s_iload_n hC 2 dX3_change_13 rfl ?_
  refine s_aload_n hC 1 dX3_change_14 rfl ?_
  refine s_getR hC xc3 (by decide) rfl qf_X3_9 dX3_change_15 ?_
  refine s_ltR (fun v7 => ?_)
  refine s_alen hC dX3_change_18 ?_
  refine s_icmp_ge hC dX3_change_19 (tgt := 29) (by decide) ?_ ?_
  · refine s_iload_n hC 0 dX3_change_29 rfl ?_
    exact s_iret hC hr hlk dX3_change_30
  refine s_aload_n hC 1 dX3_change_22 rfl ?_
  refine s_getR hC xc3 (by decide) rfl qf_X3_9 dX3_change_23 ?_
  refine s_ltR (fun v8 => ?_)
  refine s_iload_n hC 2 dX3_change_26 rfl ?_
  refine s_iload_n hC 3 dX3_change_27 rfl ?_
  refine s_iast hC dX3_change_28 ?_
  refine s_ltM (fun μ9 => ?_)
  refine s_iload_n hC 0 dX3_change_29 rfl ?_
  exact s_iret hC hr hlk dX3_change_30
theorem dX6_size_0 : decode cX6_size 0 = .ok (.aload_n 0, 1) := by decide +kernel
theorem dX6_size_1 : decode cX6_size 1 = .ok (.getfield 28, 3) := by decide +kernel
theorem dX6_size_4 : decode cX6_size 4 = .ok (.ireturn, 1) := by decide +kernel
def f_X6_size (X : x_X) (v0 : Nat) (μ : x_M) : Option (Int32 × x_M) :=
  (ck (x_kd X v0 = 6 + 1) (some ((μ.1 v0 3), μ)))
set_option maxRecDepth 100000 in
theorem m_X6_size (hI : x_I X) (v0 : Nat) (μ : x_M) : x_Met X x_Z0 l yX6_size cX6_size 1 (some .int) 1 [vR v0] μ rkI (f_X6_size X v0 μ) := by
  refine x_enter hI (by decide +kernel) (Nat.le_of_ble_eq_true rfl) (fun p e s m args below meth c hC hr hlk => ?_)
  unfold f_X6_size
  refine s_lv (lv' := [(0, vR v0)]) [0] rfl ?_
  refine s_aload_n hC 0 dX6_size_0 rfl ?_
  refine s_getI hC xc6 (by decide) rfl qf_X6_28 dX6_size_1 ?_
  exact s_iret hC hr hlk dX6_size_4
theorem dX6_clear_0 : decode cX6_clear 0 = .ok (.aload_n 0, 1) := by decide +kernel
theorem dX6_clear_1 : decode cX6_clear 1 = .ok (.iconst 0, 1) := by decide +kernel
theorem dX6_clear_2 : decode cX6_clear 2 = .ok (.putfield 28, 3) := by decide +kernel
theorem dX6_clear_5 : decode cX6_clear 5 = .ok (.aload_n 0, 1) := by decide +kernel
theorem dX6_clear_6 : decode cX6_clear 6 = .ok (.getfield 28, 3) := by decide +kernel
theorem dX6_clear_9 : decode cX6_clear 9 = .ok (.ireturn, 1) := by decide +kernel
def f_X6_clear (X : x_X) (v0 : Nat) (μ : x_M) : Option (Int32 × x_M) :=
  (ck (x_kd X v0 = 6 + 1) (lt (x_sI μ v0 3 (0 : Int32)) (fun (μ2 : x_M) => (ck (x_kd X v0 = 6 + 1) (some ((μ2.1 v0 3), μ2))))))
set_option maxRecDepth 100000 in
theorem m_X6_clear (hI : x_I X) (v0 : Nat) (μ : x_M) : x_Met X x_Z0 l yX6_clear cX6_clear 1 (some .int) 1 [vR v0] μ rkI (f_X6_clear X v0 μ) := by
  refine x_enter hI (by decide +kernel) (Nat.le_of_ble_eq_true rfl) (fun p e s m args below meth c hC hr hlk => ?_)
  unfold f_X6_clear
  refine s_lv (lv' := [(0, vR v0)]) [0] rfl ?_
  refine s_aload_n hC 0 dX6_clear_0 rfl ?_
  refine s_iconst hC dX6_clear_1 (v := 0) (by decide) ?_
  refine s_putI hC xc6 (by decide) rfl rfl qf_X6_28 dX6_clear_2 ?_
  refine s_ltM (fun μ2 => ?_)
  refine s_aload_n hC 0 dX6_clear_5 rfl ?_
  refine s_getI hC xc6 (by decide) rfl qf_X6_28 dX6_clear_6 ?_
  exact s_iret hC hr hlk dX6_clear_9
theorem dX6_copyFrom_0 : decode cX6_copyFrom 0 = .ok (.aload_n 0, 1) := by decide +kernel
theorem dX6_copyFrom_1 : decode cX6_copyFrom 1 = .ok (.aload_n 1, 1) := by decide +kernel
theorem dX6_copyFrom_2 : decode cX6_copyFrom 2 = .ok (.getfield 28, 3) := by decide +kernel
theorem dX6_copyFrom_5 : decode cX6_copyFrom 5 = .ok (.putfield 28, 3) := by decide +kernel
theorem dX6_copyFrom_8 : decode cX6_copyFrom 8 = .ok (.iconst 0, 1) := by decide +kernel
theorem dX6_copyFrom_9 : decode cX6_copyFrom 9 = .ok (.istore_n 2, 1) := by decide +kernel
theorem dX6_copyFrom_10 : decode cX6_copyFrom 10 = .ok (.iload_n 2, 1) := by decide +kernel
theorem dX6_copyFrom_11 : decode cX6_copyFrom 11 = .ok (.bipush 8, 2) := by decide +kernel
theorem dX6_copyFrom_13 : decode cX6_copyFrom 13 = .ok (.if_icmp .ge 37, 3) := by decide +kernel
theorem dX6_copyFrom_16 : decode cX6_copyFrom 16 = .ok (.aload_n 0, 1) := by decide +kernel
theorem dX6_copyFrom_17 : decode cX6_copyFrom 17 = .ok (.getfield 9, 3) := by decide +kernel
theorem dX6_copyFrom_20 : decode cX6_copyFrom 20 = .ok (.iload_n 2, 1) := by decide +kernel
theorem dX6_copyFrom_21 : decode cX6_copyFrom 21 = .ok (.aload_n 1, 1) := by decide +kernel
theorem dX6_copyFrom_22 : decode cX6_copyFrom 22 = .ok (.getfield 9, 3) := by decide +kernel
theorem dX6_copyFrom_25 : decode cX6_copyFrom 25 = .ok (.iload_n 2, 1) := by decide +kernel
theorem dX6_copyFrom_26 : decode cX6_copyFrom 26 = .ok (.invokestatic 31, 3) := by decide +kernel
theorem dX6_copyFrom_29 : decode cX6_copyFrom 29 = .ok (.iastore, 1) := by decide +kernel
theorem dX6_copyFrom_30 : decode cX6_copyFrom 30 = .ok (.aload_n 0, 1) := by decide +kernel
theorem dX6_copyFrom_31 : decode cX6_copyFrom 31 = .ok (.getfield 15, 3) := by decide +kernel
theorem dX6_copyFrom_34 : decode cX6_copyFrom 34 = .ok (.iload_n 2, 1) := by decide +kernel
theorem dX6_copyFrom_35 : decode cX6_copyFrom 35 = .ok (.aload_n 1, 1) := by decide +kernel
theorem dX6_copyFrom_36 : decode cX6_copyFrom 36 = .ok (.getfield 15, 3) := by decide +kernel
theorem dX6_copyFrom_39 : decode cX6_copyFrom 39 = .ok (.iload_n 2, 1) := by decide +kernel
theorem dX6_copyFrom_40 : decode cX6_copyFrom 40 = .ok (.invokestatic 31, 3) := by decide +kernel
theorem dX6_copyFrom_43 : decode cX6_copyFrom 43 = .ok (.iastore, 1) := by decide +kernel
theorem dX6_copyFrom_44 : decode cX6_copyFrom 44 = .ok (.iinc 2 1, 3) := by decide +kernel
theorem dX6_copyFrom_47 : decode cX6_copyFrom 47 = .ok (.goto (-37), 3) := by decide +kernel
theorem dX6_copyFrom_50 : decode cX6_copyFrom 50 = .ok (.return_, 1) := by decide +kernel
def f_X6_copyFrom_L10 (X : x_X) : Nat → Nat → Nat → Int32 → x_M → Option (Unit × x_M)
  | 0, _, _, _, _ => none
  | n + 1, v4, v5, v6, μ7 =>
    (if (8 : Int32) ≤ v6 then (some ((), μ7)) else (ck (x_kd X v4 = 6 + 1) (lt (μ7.2.1 v4 0) (fun (v8 : Nat) => (ck (x_kd X v5 = 6 + 1) (lt (μ7.2.1 v5 0) (fun (v9 : Nat) => (bd (f_X9_at X v9 v6 μ7) (fun (v10 : Int32) (μ11 : x_M) => (ck (x_kd X v8 = 20 ∧ x_ix v6 (x_ln X v8)) (lt (x_sI μ11 v8 (v6).toNatClampNeg v10) (fun (μ12 : x_M) => (ck (x_kd X v4 = 6 + 1) (lt (μ12.2.1 v4 1) (fun (v13 : Nat) => (ck (x_kd X v5 = 6 + 1) (lt (μ12.2.1 v5 1) (fun (v14 : Nat) => (bd (f_X9_at X v14 v6 μ12) (fun (v15 : Int32) (μ16 : x_M) => (ck (x_kd X v13 = 20 ∧ x_ix v6 (x_ln X v13)) (lt (x_sI μ16 v13 (v6).toNatClampNeg v15) (fun (μ17 : x_M) => (f_X6_copyFrom_L10 X n v4 v5 (v6 + (1 : Int32)) μ17))))))))))))))))))))))))
set_option maxRecDepth 100000 in
theorem j_X6_copyFrom_L10 (hI : x_I X) (hC : x_C X x_Z0 p (x_rm 2) s m c cX6_copyFrom RX6 3 0 0 2) (hr : meth.sig.returnType = none) (hlk : meth.locks = false) : ∀ (n : Nat) (v4 : Nat) (v5 : Nat) (v6 : Int32) (μ7 : x_M), SM X 3 2 rkV p l e s m args below meth c 10 [(0, vR v4), (1, vR v5), (2, vI v6)] [] μ7 (f_X6_copyFrom_L10 X n v4 v5 v6 μ7) := by
  intro n
  induction n with
  | zero => intro v4 v5 v6 μ7; exact s_none
  | succ n ih =>
    intro v4 v5 v6 μ7
    unfold f_X6_copyFrom_L10
    refine s_iload_n hC 2 dX6_copyFrom_10 rfl ?_
    refine s_bipush hC dX6_copyFrom_11 (v := 8) (by decide) ?_
    refine s_icmp_ge hC dX6_copyFrom_13 (tgt := 50) (by decide) ?_ ?_
    · exact s_vret hC hr hlk dX6_copyFrom_50
    refine s_aload_n hC 0 dX6_copyFrom_16 rfl ?_
    refine s_getR hC xc6 (by decide) rfl qf_X6_9 dX6_copyFrom_17 ?_
    refine s_ltR (fun v8 => ?_)
    refine s_iload_n hC 2 dX6_copyFrom_20 rfl ?_
    refine s_aload_n hC 1 dX6_copyFrom_21 rfl ?_
    refine s_getR hC xc6 (by decide) rfl qf_X6_9 dX6_copyFrom_22 ?_
    refine s_ltR (fun v9 => ?_)
    refine s_iload_n hC 2 dX6_copyFrom_25 rfl ?_
    refine s_callS hC (avs := [vR v9, vI v6]) (st := [vI v6, vR v8]) (nest := true) (m_X9_at hI v9 v6 μ7) dX6_copyFrom_26 qm_X6_31 qt_X9_at qc_X9 qd_X9_at qh_X9_at (by decide) (fun _ => Nat.le_of_ble_eq_true rfl) (Nat.le_of_ble_eq_true rfl) (fun v10 μ11 => ?_)
    refine s_iast hC dX6_copyFrom_29 ?_
    refine s_ltM (fun μ12 => ?_)
    refine s_aload_n hC 0 dX6_copyFrom_30 rfl ?_
    refine s_getR hC xc6 (by decide) rfl qf_X6_15 dX6_copyFrom_31 ?_
    refine s_ltR (fun v13 => ?_)
    refine s_iload_n hC 2 dX6_copyFrom_34 rfl ?_
    refine s_aload_n hC 1 dX6_copyFrom_35 rfl ?_
    refine s_getR hC xc6 (by decide) rfl qf_X6_15 dX6_copyFrom_36 ?_
    refine s_ltR (fun v14 => ?_)
    refine s_iload_n hC 2 dX6_copyFrom_39 rfl ?_
    refine s_callS hC (avs := [vR v14, vI v6]) (st := [vI v6, vR v13]) (nest := true) (m_X9_at hI v14 v6 μ12) dX6_copyFrom_40 qm_X6_31 qt_X9_at qc_X9 qd_X9_at qh_X9_at (by decide) (fun _ => Nat.le_of_ble_eq_true rfl) (Nat.le_of_ble_eq_true rfl) (fun v15 μ16 => ?_)
    refine s_iast hC dX6_copyFrom_43 ?_
    refine s_ltM (fun μ17 => ?_)
    refine s_iinc hC 2 dX6_copyFrom_44 rfl (w := 1) (by decide) (by decide) (lv' := [(2, vI (v6 + (1 : Int32))), (0, vR v4), (1, vR v5)]) rfl ?_
    refine s_goto hC dX6_copyFrom_47 (tgt := 10) (by decide) ?_
    refine s_lv (lv' := [(0, vR v4), (1, vR v5), (2, vI (v6 + (1 : Int32)))]) [1, 2, 0] rfl ?_
    exact ih _ _ _ _
def f_X6_copyFrom (X : x_X) (v0 : Nat) (v1 : Nat) (μ : x_M) : Option (Unit × x_M) :=
  (ck (x_kd X v1 = 6 + 1) (ck (x_kd X v0 = 6 + 1) (lt (x_sI μ v0 3 (μ.1 v1 3)) (fun (μ3 : x_M) => (f_X6_copyFrom_L10 X 4096 v0 v1 (0 : Int32) μ3)))))
set_option maxRecDepth 100000 in
theorem m_X6_copyFrom (hI : x_I X) (v0 : Nat) (v1 : Nat) (μ : x_M) : x_Met X x_Z0 l yX6_copyFrom cX6_copyFrom 3 none 2 [vR v0, vR v1] μ rkV (f_X6_copyFrom X v0 v1 μ) := by
  refine x_enter hI (by decide +kernel) (Nat.le_of_ble_eq_true rfl) (fun p e s m args below meth c hC hr hlk => ?_)
  unfold f_X6_copyFrom
  refine s_lv (lv' := [(0, vR v0), (1, vR v1)]) [0, 1] rfl ?_
  refine s_aload_n hC 0 dX6_copyFrom_0 rfl ?_
  refine s_aload_n hC 1 dX6_copyFrom_1 rfl ?_
  refine s_getI hC xc6 (by decide) rfl qf_X6_28 dX6_copyFrom_2 ?_
  refine s_putI hC xc6 (by decide) rfl rfl qf_X6_28 dX6_copyFrom_5 ?_
  refine s_ltM (fun μ3 => ?_)
  refine s_iconst hC dX6_copyFrom_8 (v := 0) (by decide) ?_
  refine s_istore_n hC dX6_copyFrom_9 (by decide) (lv' := [(2, vI (0 : Int32)), (0, vR v0), (1, vR v1)]) rfl ?_
  refine s_lv (lv' := [(0, vR v0), (1, vR v1), (2, vI (0 : Int32))]) [1, 2, 0] rfl ?_
  refine j_X6_copyFrom_L10 hI hC hr hlk 4096 _ _ _ _
theorem dX6_first_0 : decode cX6_first 0 = .ok (.aload_n 0, 1) := by decide +kernel
theorem dX6_first_1 : decode cX6_first 1 = .ok (.getfield 9, 3) := by decide +kernel
theorem dX6_first_4 : decode cX6_first 4 = .ok (.iload_n 1, 1) := by decide +kernel
theorem dX6_first_5 : decode cX6_first 5 = .ok (.invokestatic 31, 3) := by decide +kernel
theorem dX6_first_8 : decode cX6_first 8 = .ok (.ireturn, 1) := by decide +kernel
def f_X6_first (X : x_X) (v0 : Nat) (v1 : Int32) (μ : x_M) : Option (Int32 × x_M) :=
  (ck (x_kd X v0 = 6 + 1) (lt (μ.2.1 v0 0) (fun (v3 : Nat) => (bd (f_X9_at X v3 v1 μ) (fun (v4 : Int32) (μ5 : x_M) => (some (v4, μ5)))))))
set_option maxRecDepth 100000 in
theorem m_X6_first (hI : x_I X) (v0 : Nat) (v1 : Int32) (μ : x_M) : x_Met X x_Z0 l yX6_first cX6_first 2 (some .int) 2 [vR v0, vI v1] μ rkI (f_X6_first X v0 v1 μ) := by
  refine x_enter hI (by decide +kernel) (Nat.le_of_ble_eq_true rfl) (fun p e s m args below meth c hC hr hlk => ?_)
  unfold f_X6_first
  refine s_lv (lv' := [(0, vR v0), (1, vI v1)]) [0, 1] rfl ?_
  refine s_aload_n hC 0 dX6_first_0 rfl ?_
  refine s_getR hC xc6 (by decide) rfl qf_X6_9 dX6_first_1 ?_
  refine s_ltR (fun v3 => ?_)
  refine s_iload_n hC 1 dX6_first_4 rfl ?_
  refine s_callS hC (avs := [vR v3, vI v1]) (st := []) (nest := true) (m_X9_at hI v3 v1 μ) dX6_first_5 qm_X6_31 qt_X9_at qc_X9 qd_X9_at qh_X9_at (by decide) (fun _ => Nat.le_of_ble_eq_true rfl) (Nat.le_of_ble_eq_true rfl) (fun v4 μ5 => ?_)
  exact s_iret hC hr hlk dX6_first_8
theorem dX6_second_0 : decode cX6_second 0 = .ok (.aload_n 0, 1) := by decide +kernel
theorem dX6_second_1 : decode cX6_second 1 = .ok (.getfield 15, 3) := by decide +kernel
theorem dX6_second_4 : decode cX6_second 4 = .ok (.iload_n 1, 1) := by decide +kernel
theorem dX6_second_5 : decode cX6_second 5 = .ok (.invokestatic 31, 3) := by decide +kernel
theorem dX6_second_8 : decode cX6_second 8 = .ok (.ireturn, 1) := by decide +kernel
def f_X6_second (X : x_X) (v0 : Nat) (v1 : Int32) (μ : x_M) : Option (Int32 × x_M) :=
  (ck (x_kd X v0 = 6 + 1) (lt (μ.2.1 v0 1) (fun (v3 : Nat) => (bd (f_X9_at X v3 v1 μ) (fun (v4 : Int32) (μ5 : x_M) => (some (v4, μ5)))))))
set_option maxRecDepth 100000 in
theorem m_X6_second (hI : x_I X) (v0 : Nat) (v1 : Int32) (μ : x_M) : x_Met X x_Z0 l yX6_second cX6_second 2 (some .int) 2 [vR v0, vI v1] μ rkI (f_X6_second X v0 v1 μ) := by
  refine x_enter hI (by decide +kernel) (Nat.le_of_ble_eq_true rfl) (fun p e s m args below meth c hC hr hlk => ?_)
  unfold f_X6_second
  refine s_lv (lv' := [(0, vR v0), (1, vI v1)]) [0, 1] rfl ?_
  refine s_aload_n hC 0 dX6_second_0 rfl ?_
  refine s_getR hC xc6 (by decide) rfl qf_X6_15 dX6_second_1 ?_
  refine s_ltR (fun v3 => ?_)
  refine s_iload_n hC 1 dX6_second_4 rfl ?_
  refine s_callS hC (avs := [vR v3, vI v1]) (st := []) (nest := true) (m_X9_at hI v3 v1 μ) dX6_second_5 qm_X6_31 qt_X9_at qc_X9 qd_X9_at qh_X9_at (by decide) (fun _ => Nat.le_of_ble_eq_true rfl) (Nat.le_of_ble_eq_true rfl) (fun v4 μ5 => ?_)
  exact s_iret hC hr hlk dX6_second_8
theorem dX6_add_0 : decode cX6_add 0 = .ok (.aload_n 0, 1) := by decide +kernel
theorem dX6_add_1 : decode cX6_add 1 = .ok (.getfield 28, 3) := by decide +kernel
theorem dX6_add_4 : decode cX6_add 4 = .ok (.iconst 0, 1) := by decide +kernel
theorem dX6_add_5 : decode cX6_add 5 = .ok (.aload_n 0, 1) := by decide +kernel
theorem dX6_add_6 : decode cX6_add 6 = .ok (.getfield 24, 3) := by decide +kernel
theorem dX6_add_9 : decode cX6_add 9 = .ok (.iconst 1, 1) := by decide +kernel
theorem dX6_add_10 : decode cX6_add 10 = .ok (.isub, 1) := by decide +kernel
theorem dX6_add_11 : decode cX6_add 11 = .ok (.invokestatic 35, 3) := by decide +kernel
theorem dX6_add_14 : decode cX6_add 14 = .ok (.ifCond .ne 6, 3) := by decide +kernel
theorem dX6_add_17 : decode cX6_add 17 = .ok (.bipush (-4), 2) := by decide +kernel
theorem dX6_add_19 : decode cX6_add 19 = .ok (.ireturn, 1) := by decide +kernel
theorem dX6_add_20 : decode cX6_add 20 = .ok (.aload_n 0, 1) := by decide +kernel
theorem dX6_add_21 : decode cX6_add 21 = .ok (.getfield 9, 3) := by decide +kernel
theorem dX6_add_24 : decode cX6_add 24 = .ok (.aload_n 0, 1) := by decide +kernel
theorem dX6_add_25 : decode cX6_add 25 = .ok (.getfield 28, 3) := by decide +kernel
theorem dX6_add_28 : decode cX6_add 28 = .ok (.iload_n 1, 1) := by decide +kernel
theorem dX6_add_29 : decode cX6_add 29 = .ok (.iastore, 1) := by decide +kernel
theorem dX6_add_30 : decode cX6_add 30 = .ok (.aload_n 0, 1) := by decide +kernel
theorem dX6_add_31 : decode cX6_add 31 = .ok (.getfield 15, 3) := by decide +kernel
theorem dX6_add_34 : decode cX6_add 34 = .ok (.aload_n 0, 1) := by decide +kernel
theorem dX6_add_35 : decode cX6_add 35 = .ok (.getfield 28, 3) := by decide +kernel
theorem dX6_add_38 : decode cX6_add 38 = .ok (.iload_n 2, 1) := by decide +kernel
theorem dX6_add_39 : decode cX6_add 39 = .ok (.iastore, 1) := by decide +kernel
theorem dX6_add_40 : decode cX6_add 40 = .ok (.aload_n 0, 1) := by decide +kernel
theorem dX6_add_41 : decode cX6_add 41 = .ok (.dup, 1) := by decide +kernel
theorem dX6_add_42 : decode cX6_add 42 = .ok (.getfield 28, 3) := by decide +kernel
theorem dX6_add_45 : decode cX6_add 45 = .ok (.iconst 1, 1) := by decide +kernel
theorem dX6_add_46 : decode cX6_add 46 = .ok (.iadd, 1) := by decide +kernel
theorem dX6_add_47 : decode cX6_add 47 = .ok (.putfield 28, 3) := by decide +kernel
theorem dX6_add_50 : decode cX6_add 50 = .ok (.aload_n 0, 1) := by decide +kernel
theorem dX6_add_51 : decode cX6_add 51 = .ok (.getfield 28, 3) := by decide +kernel
theorem dX6_add_54 : decode cX6_add 54 = .ok (.ireturn, 1) := by decide +kernel
def f_X6_add (X : x_X) (v0 : Nat) (v1 : Int32) (v2 : Int32) (μ : x_M) : Option (Int32 × x_M) :=
  (ck (x_kd X v0 = 6 + 1) (ck (x_kd X v0 = 6 + 1) (bd (f_X9_within X (μ.1 v0 3) (0 : Int32) ((μ.1 v0 2) - (1 : Int32)) μ) (fun (v4 : Int32) (μ5 : x_M) => (if v4 = 0 then (some ((-4 : Int32), μ5)) else (ck (x_kd X v0 = 6 + 1) (lt (μ5.2.1 v0 0) (fun (v6 : Nat) => (ck (x_kd X v0 = 6 + 1) (lt (μ5.1 v0 3) (fun (v7 : Int32) => (ck (x_kd X v6 = 20 ∧ x_ix v7 (x_ln X v6)) (lt (x_sI μ5 v6 (v7).toNatClampNeg v1) (fun (μ8 : x_M) => (ck (x_kd X v0 = 6 + 1) (lt (μ8.2.1 v0 1) (fun (v9 : Nat) => (ck (x_kd X v0 = 6 + 1) (lt (μ8.1 v0 3) (fun (v10 : Int32) => (ck (x_kd X v9 = 20 ∧ x_ix v10 (x_ln X v9)) (lt (x_sI μ8 v9 (v10).toNatClampNeg v2) (fun (μ11 : x_M) => (ck (x_kd X v0 = 6 + 1) (ck (x_kd X v0 = 6 + 1) (lt (x_sI μ11 v0 3 ((μ11.1 v0 3) + (1 : Int32))) (fun (μ12 : x_M) => (ck (x_kd X v0 = 6 + 1) (some ((μ12.1 v0 3), μ12))))))))))))))))))))))))))))))
set_option maxRecDepth 100000 in
theorem m_X6_add (hI : x_I X) (v0 : Nat) (v1 : Int32) (v2 : Int32) (μ : x_M) : x_Met X x_Z0 l yX6_add cX6_add 3 (some .int) 2 [vR v0, vI v1, vI v2] μ rkI (f_X6_add X v0 v1 v2 μ) := by
  refine x_enter hI (by decide +kernel) (Nat.le_of_ble_eq_true rfl) (fun p e s m args below meth c hC hr hlk => ?_)
  unfold f_X6_add
  refine s_lv (lv' := [(0, vR v0), (1, vI v1), (2, vI v2)]) [0, 1, 2] rfl ?_
  refine s_aload_n hC 0 dX6_add_0 rfl ?_
  refine s_getI hC xc6 (by decide) rfl qf_X6_28 dX6_add_1 ?_
  refine s_iconst hC dX6_add_4 (v := 0) (by decide) ?_
  refine s_aload_n hC 0 dX6_add_5 rfl ?_
  refine s_getI hC xc6 (by decide) rfl qf_X6_24 dX6_add_6 ?_
  refine s_iconst hC dX6_add_9 (v := 1) (by decide) ?_
  refine s_isub hC dX6_add_10 ?_
  refine s_callS hC (avs := [vI (μ.1 v0 3), vI (0 : Int32), vI ((μ.1 v0 2) - (1 : Int32))]) (st := []) (nest := true) (m_X9_within hI (μ.1 v0 3) (0 : Int32) ((μ.1 v0 2) - (1 : Int32)) μ) dX6_add_11 qm_X6_35 qt_X9_within qc_X9 qd_X9_within qh_X9_within (by decide) (fun _ => Nat.le_of_ble_eq_true rfl) (Nat.le_of_ble_eq_true rfl) (fun v4 μ5 => ?_)
  refine s_if_ne hC dX6_add_14 (tgt := 20) (by decide) ?_ ?_
  · refine s_aload_n hC 0 dX6_add_20 rfl ?_
    refine s_getR hC xc6 (by decide) rfl qf_X6_9 dX6_add_21 ?_
    refine s_ltR (fun v6 => ?_)
    refine s_aload_n hC 0 dX6_add_24 rfl ?_
    refine s_getI hC xc6 (by decide) rfl qf_X6_28 dX6_add_25 ?_
    refine s_iload_n hC 1 dX6_add_28 rfl ?_
    refine s_ltI2 (fun v7 => ?_)
    refine s_iast hC dX6_add_29 ?_
    refine s_ltM (fun μ8 => ?_)
    refine s_aload_n hC 0 dX6_add_30 rfl ?_
    refine s_getR hC xc6 (by decide) rfl qf_X6_15 dX6_add_31 ?_
    refine s_ltR (fun v9 => ?_)
    refine s_aload_n hC 0 dX6_add_34 rfl ?_
    refine s_getI hC xc6 (by decide) rfl qf_X6_28 dX6_add_35 ?_
    refine s_iload_n hC 2 dX6_add_38 rfl ?_
    refine s_ltI2 (fun v10 => ?_)
    refine s_iast hC dX6_add_39 ?_
    refine s_ltM (fun μ11 => ?_)
    refine s_aload_n hC 0 dX6_add_40 rfl ?_
    refine s_dupR hC dX6_add_41 ?_
    refine s_getI hC xc6 (by decide) rfl qf_X6_28 dX6_add_42 ?_
    refine s_iconst hC dX6_add_45 (v := 1) (by decide) ?_
    refine s_iadd hC dX6_add_46 ?_
    refine s_putI hC xc6 (by decide) rfl rfl qf_X6_28 dX6_add_47 ?_
    refine s_ltM (fun μ12 => ?_)
    refine s_aload_n hC 0 dX6_add_50 rfl ?_
    refine s_getI hC xc6 (by decide) rfl qf_X6_28 dX6_add_51 ?_
    exact s_iret hC hr hlk dX6_add_54
  refine s_bipush hC dX6_add_17 (v := -4) (by decide) ?_
  exact s_iret hC hr hlk dX6_add_19
theorem dX8_isEmpty_0 : decode cX8_isEmpty 0 = .ok (.aload_n 0, 1) := by decide +kernel
theorem dX8_isEmpty_1 : decode cX8_isEmpty 1 = .ok (.getfield 15, 3) := by decide +kernel
theorem dX8_isEmpty_4 : decode cX8_isEmpty 4 = .ok (.iconst (-1), 1) := by decide +kernel
theorem dX8_isEmpty_5 : decode cX8_isEmpty 5 = .ok (.if_icmp .ne 7, 3) := by decide +kernel
theorem dX8_isEmpty_8 : decode cX8_isEmpty 8 = .ok (.iconst 1, 1) := by decide +kernel
theorem dX8_isEmpty_9 : decode cX8_isEmpty 9 = .ok (.goto 4, 3) := by decide +kernel
theorem dX8_isEmpty_12 : decode cX8_isEmpty 12 = .ok (.iconst 0, 1) := by decide +kernel
theorem dX8_isEmpty_13 : decode cX8_isEmpty 13 = .ok (.ireturn, 1) := by decide +kernel
def f_X8_isEmpty (X : x_X) (v0 : Nat) (μ : x_M) : Option (Int32 × x_M) :=
  (ck (x_kd X v0 = 8 + 1) (if (μ.1 v0 1) = (-1 : Int32) then (ck ((1 : Int32) = 0 ∨ (1 : Int32) = 1) (some ((1 : Int32), μ))) else (ck ((0 : Int32) = 0 ∨ (0 : Int32) = 1) (some ((0 : Int32), μ)))))
set_option maxRecDepth 100000 in
theorem m_X8_isEmpty (hI : x_I X) (v0 : Nat) (μ : x_M) : x_Met X x_Z0 l yX8_isEmpty cX8_isEmpty 1 (some .boolean) 1 [vR v0] μ rkI (f_X8_isEmpty X v0 μ) := by
  refine x_enter hI (by decide +kernel) (Nat.le_of_ble_eq_true rfl) (fun p e s m args below meth c hC hr hlk => ?_)
  unfold f_X8_isEmpty
  refine s_lv (lv' := [(0, vR v0)]) [0] rfl ?_
  refine s_aload_n hC 0 dX8_isEmpty_0 rfl ?_
  refine s_getI hC xc8 (by decide) rfl qf_X8_15 dX8_isEmpty_1 ?_
  refine s_iconst hC dX8_isEmpty_4 (v := -1) (by decide) ?_
  refine s_icmp_ne hC dX8_isEmpty_5 (tgt := 12) (by decide) ?_ ?_
  · refine s_iconst hC dX8_isEmpty_12 (v := 0) (by decide) ?_
    exact s_zret hC hr hlk dX8_isEmpty_13
  refine s_iconst hC dX8_isEmpty_8 (v := 1) (by decide) ?_
  refine s_goto hC dX8_isEmpty_9 (tgt := 13) (by decide) ?_
  exact s_zret hC hr hlk dX8_isEmpty_13
theorem dX8_become_0 : decode cX8_become 0 = .ok (.aload_n 0, 1) := by decide +kernel
theorem dX8_become_1 : decode cX8_become 1 = .ok (.iload_n 1, 1) := by decide +kernel
theorem dX8_become_2 : decode cX8_become 2 = .ok (.putfield 15, 3) := by decide +kernel
theorem dX8_become_5 : decode cX8_become 5 = .ok (.aload_n 0, 1) := by decide +kernel
theorem dX8_become_6 : decode cX8_become 6 = .ok (.iconst 0, 1) := by decide +kernel
theorem dX8_become_7 : decode cX8_become 7 = .ok (.iload_n 2, 1) := by decide +kernel
theorem dX8_become_8 : decode cX8_become 8 = .ok (.bipush 60, 2) := by decide +kernel
theorem dX8_become_10 : decode cX8_become 10 = .ok (.invokestatic 19, 3) := by decide +kernel
theorem dX8_become_13 : decode cX8_become 13 = .ok (.invokestatic 25, 3) := by decide +kernel
theorem dX8_become_16 : decode cX8_become 16 = .ok (.putfield 28, 3) := by decide +kernel
theorem dX8_become_19 : decode cX8_become 19 = .ok (.iconst 0, 1) := by decide +kernel
theorem dX8_become_20 : decode cX8_become 20 = .ok (.istore_n 3, 1) := by decide +kernel
theorem dX8_become_21 : decode cX8_become 21 = .ok (.iload_n 3, 1) := by decide +kernel
theorem dX8_become_22 : decode cX8_become 22 = .ok (.bipush 60, 2) := by decide +kernel
theorem dX8_become_24 : decode cX8_become 24 = .ok (.if_icmp .ge 16, 3) := by decide +kernel
theorem dX8_become_27 : decode cX8_become 27 = .ok (.aload_n 0, 1) := by decide +kernel
theorem dX8_become_28 : decode cX8_become 28 = .ok (.getfield 9, 3) := by decide +kernel
theorem dX8_become_31 : decode cX8_become 31 = .ok (.iload_n 3, 1) := by decide +kernel
theorem dX8_become_32 : decode cX8_become 32 = .ok (.lconst 0, 1) := by decide +kernel
theorem dX8_become_33 : decode cX8_become 33 = .ok (.lastore, 1) := by decide +kernel
theorem dX8_become_34 : decode cX8_become 34 = .ok (.iinc 3 1, 3) := by decide +kernel
theorem dX8_become_37 : decode cX8_become 37 = .ok (.goto (-16), 3) := by decide +kernel
theorem dX8_become_40 : decode cX8_become 40 = .ok (.iconst 1, 1) := by decide +kernel
theorem dX8_become_41 : decode cX8_become 41 = .ok (.ireturn, 1) := by decide +kernel
def f_X8_become_L21 (X : x_X) : Nat → Nat → Int32 → x_M → Option (Int32 × x_M)
  | 0, _, _, _ => none
  | n + 1, v7, v8, μ9 =>
    (if (60 : Int32) ≤ v8 then (some ((1 : Int32), μ9)) else (ck (x_kd X v7 = 8 + 1) (lt (μ9.2.1 v7 0) (fun (v10 : Nat) => (ck (x_kd X v10 = 21 ∧ x_ix v8 (x_ln X v10)) (lt (x_sJ μ9 v10 (v8).toNatClampNeg (0 : Int64)) (fun (μ11 : x_M) => (f_X8_become_L21 X n v7 (v8 + (1 : Int32)) μ11))))))))
set_option maxRecDepth 100000 in
theorem j_X8_become_L21 (hI : x_I X) (hC : x_C X x_Z0 p (x_rm 1) s m c cX8_become RX8 4 0 0 1) (hr : meth.sig.returnType = (some .int)) (hlk : meth.locks = false) : ∀ (n : Nat) (v7 : Nat) (v8 : Int32) (μ9 : x_M), SM X 4 1 rkI p l e s m args below meth c 21 [(0, vR v7), (3, vI v8)] [] μ9 (f_X8_become_L21 X n v7 v8 μ9) := by
  intro n
  induction n with
  | zero => intro v7 v8 μ9; exact s_none
  | succ n ih =>
    intro v7 v8 μ9
    unfold f_X8_become_L21
    refine s_iload_n hC 1 dX8_become_21 rfl ?_
    refine s_bipush hC dX8_become_22 (v := 60) (by decide) ?_
    refine s_icmp_ge hC dX8_become_24 (tgt := 40) (by decide) ?_ ?_
    · refine s_iconst hC dX8_become_40 (v := 1) (by decide) ?_
      exact s_iret hC hr hlk dX8_become_41
    refine s_aload_n hC 0 dX8_become_27 rfl ?_
    refine s_getR hC xc8 (by decide) rfl qf_X8_9 dX8_become_28 ?_
    refine s_ltR (fun v10 => ?_)
    refine s_iload_n hC 1 dX8_become_31 rfl ?_
    refine s_lconst hC dX8_become_32 (v := 0) (by decide) ?_
    refine s_last hC dX8_become_33 ?_
    refine s_ltM (fun μ11 => ?_)
    refine s_iinc hC 1 dX8_become_34 rfl (w := 1) (by decide) (by decide) (lv' := [(3, vI (v8 + (1 : Int32))), (0, vR v7)]) rfl ?_
    refine s_goto hC dX8_become_37 (tgt := 21) (by decide) ?_
    refine s_lv (lv' := [(0, vR v7), (3, vI (v8 + (1 : Int32)))]) [1, 0] rfl ?_
    exact ih _ _ _
def f_X8_become (X : x_X) (v0 : Nat) (v1 : Int32) (v2 : Int32) (μ : x_M) : Option (Int32 × x_M) :=
  (ck (x_kd X v0 = 8 + 1) (lt (x_sI μ v0 1 v1) (fun (μ4 : x_M) => (lt (if (60 : Int32) < v2 then (60 : Int32) else v2) (fun (v5 : Int32) => (ck (x_kd X v0 = 8 + 1) (lt (x_sI μ4 v0 2 (if (0 : Int32) < v5 then v5 else (0 : Int32))) (fun (μ6 : x_M) => (f_X8_become_L21 X 4096 v0 (0 : Int32) μ6)))))))))
set_option maxRecDepth 100000 in
theorem m_X8_become (hI : x_I X) (v0 : Nat) (v1 : Int32) (v2 : Int32) (μ : x_M) : x_Met X x_Z0 l yX8_become cX8_become 4 (some .int) 1 [vR v0, vI v1, vI v2] μ rkI (f_X8_become X v0 v1 v2 μ) := by
  refine x_enter hI (by decide +kernel) (Nat.le_of_ble_eq_true rfl) (fun p e s m args below meth c hC hr hlk => ?_)
  unfold f_X8_become
  refine s_lv (lv' := [(0, vR v0), (1, vI v1), (2, vI v2)]) [0, 1, 2] rfl ?_
  refine s_aload_n hC 0 dX8_become_0 rfl ?_
  refine s_iload_n hC 1 dX8_become_1 rfl ?_
  refine s_putI hC xc8 (by decide) rfl rfl qf_X8_15 dX8_become_2 ?_
  refine s_ltM (fun μ4 => ?_)
  refine s_aload_n hC 0 dX8_become_5 rfl ?_
  refine s_iconst hC dX8_become_6 (v := 0) (by decide) ?_
  refine s_iload_n hC 2 dX8_become_7 rfl ?_
  refine s_bipush hC dX8_become_8 (v := 60) (by decide) ?_
  refine s_min hC dX8_become_10 qm_X8_19 qt_Math_min qc_Math qd_Math_min (by decide) (Nat.le_of_ble_eq_true rfl) ?_
  refine s_ltI (fun v5 => ?_)
  refine s_max hC dX8_become_13 qm_X8_25 qt_Math_max qc_Math qd_Math_max (by decide) (Nat.le_of_ble_eq_true rfl) ?_
  refine s_putI hC xc8 (by decide) rfl rfl qf_X8_28 dX8_become_16 ?_
  refine s_ltM (fun μ6 => ?_)
  refine s_iconst hC dX8_become_19 (v := 0) (by decide) ?_
  refine s_istore_n hC dX8_become_20 (by decide) (lv' := [(3, vI (0 : Int32)), (0, vR v0), (1, vI v1), (2, vI v2)]) rfl ?_
  refine s_lv (lv' := [(0, vR v0), (3, vI (0 : Int32))]) [1, 0] rfl ?_
  refine j_X8_become_L21 hI hC hr hlk 4096 _ _ _
theorem dX8_cut_0 : decode cX8_cut 0 = .ok (.aload_n 0, 1) := by decide +kernel
theorem dX8_cut_1 : decode cX8_cut 1 = .ok (.getfield 15, 3) := by decide +kernel
theorem dX8_cut_4 : decode cX8_cut 4 = .ok (.tableswitch 48 0 3 #[32, 37, 42, 46], 32) := by decide +kernel
theorem dX8_cut_36 : decode cX8_cut 36 = .ok (.lload_n 1, 1) := by decide +kernel
theorem dX8_cut_37 : decode cX8_cut 37 = .ok (.l2i, 1) := by decide +kernel
theorem dX8_cut_38 : decode cX8_cut 38 = .ok (.i2b, 1) := by decide +kernel
theorem dX8_cut_39 : decode cX8_cut 39 = .ok (.i2l, 1) := by decide +kernel
theorem dX8_cut_40 : decode cX8_cut 40 = .ok (.lreturn, 1) := by decide +kernel
theorem dX8_cut_41 : decode cX8_cut 41 = .ok (.lload_n 1, 1) := by decide +kernel
theorem dX8_cut_42 : decode cX8_cut 42 = .ok (.l2i, 1) := by decide +kernel
theorem dX8_cut_43 : decode cX8_cut 43 = .ok (.i2s, 1) := by decide +kernel
theorem dX8_cut_44 : decode cX8_cut 44 = .ok (.i2l, 1) := by decide +kernel
theorem dX8_cut_45 : decode cX8_cut 45 = .ok (.lreturn, 1) := by decide +kernel
theorem dX8_cut_46 : decode cX8_cut 46 = .ok (.lload_n 1, 1) := by decide +kernel
theorem dX8_cut_47 : decode cX8_cut 47 = .ok (.l2i, 1) := by decide +kernel
theorem dX8_cut_48 : decode cX8_cut 48 = .ok (.i2l, 1) := by decide +kernel
theorem dX8_cut_49 : decode cX8_cut 49 = .ok (.lreturn, 1) := by decide +kernel
theorem dX8_cut_50 : decode cX8_cut 50 = .ok (.lload_n 1, 1) := by decide +kernel
theorem dX8_cut_51 : decode cX8_cut 51 = .ok (.lreturn, 1) := by decide +kernel
theorem dX8_cut_52 : decode cX8_cut 52 = .ok (.lload_n 1, 1) := by decide +kernel
theorem dX8_cut_53 : decode cX8_cut 53 = .ok (.lconst 0, 1) := by decide +kernel
theorem dX8_cut_54 : decode cX8_cut 54 = .ok (.lcmp, 1) := by decide +kernel
theorem dX8_cut_55 : decode cX8_cut 55 = .ok (.ifCond .eq 7, 3) := by decide +kernel
theorem dX8_cut_58 : decode cX8_cut 58 = .ok (.lconst 1, 1) := by decide +kernel
theorem dX8_cut_59 : decode cX8_cut 59 = .ok (.goto 4, 3) := by decide +kernel
theorem dX8_cut_62 : decode cX8_cut 62 = .ok (.lconst 0, 1) := by decide +kernel
theorem dX8_cut_63 : decode cX8_cut 63 = .ok (.lreturn, 1) := by decide +kernel
def f_X8_cut (X : x_X) (v0 : Nat) (v1 : Int64) (μ : x_M) : Option (Int64 × x_M) :=
  (ck (x_kd X v0 = 8 + 1) (lt (μ.1 v0 1) (fun (v3 : Int32) => (x_swo [(0 : Int32), (1 : Int32), (2 : Int32), (3 : Int32)] [(some (((((((v1).toInt32)).toInt8.toInt32)).toInt64), μ)), (some (((((((v1).toInt32)).toInt16.toInt32)).toInt64), μ)), (some (((((v1).toInt32)).toInt64), μ)), (some (v1, μ))] (if (lg_cmp v1 (0 : Int64)) = 0 then (some ((0 : Int64), μ)) else (some ((1 : Int64), μ))) v3))))
set_option maxRecDepth 100000 in
theorem m_X8_cut (hI : x_I X) (v0 : Nat) (v1 : Int64) (μ : x_M) : x_Met X x_Z0 l yX8_cut cX8_cut 3 (some .long) 1 [vR v0, vJ v1] μ rkJ (f_X8_cut X v0 v1 μ) := by
  refine x_enter hI (by decide +kernel) (Nat.le_of_ble_eq_true rfl) (fun p e s m args below meth c hC hr hlk => ?_)
  unfold f_X8_cut
  refine s_lv (lv' := [(0, vR v0), (1, vJ v1)]) [0, 1] rfl ?_
  refine s_aload_n hC 0 dX8_cut_0 rfl ?_
  refine s_getI hC xc8 (by decide) rfl qf_X8_15 dX8_cut_1 ?_
  refine s_ltI (fun v3 => ?_)
  refine s_table hC dX8_cut_4 [((0 : Int32), 36), ((1 : Int32), 41), ((2 : Int32), 46), ((3 : Int32), 50)] 52 (by decide +kernel) ⟨?_, ?_, ?_, ?_, trivial⟩ ?_
  · refine s_lload_n hC 1 dX8_cut_36 rfl ?_
    refine s_l2i hC dX8_cut_37 ?_
    refine s_i2b hC dX8_cut_38 ?_
    refine s_i2l hC dX8_cut_39 ?_
    exact s_lret hC hr hlk dX8_cut_40
  · refine s_lload_n hC 1 dX8_cut_41 rfl ?_
    refine s_l2i hC dX8_cut_42 ?_
    refine s_i2s hC dX8_cut_43 ?_
    refine s_i2l hC dX8_cut_44 ?_
    exact s_lret hC hr hlk dX8_cut_45
  · refine s_lload_n hC 1 dX8_cut_46 rfl ?_
    refine s_l2i hC dX8_cut_47 ?_
    refine s_i2l hC dX8_cut_48 ?_
    exact s_lret hC hr hlk dX8_cut_49
  · refine s_lload_n hC 1 dX8_cut_50 rfl ?_
    exact s_lret hC hr hlk dX8_cut_51
  refine s_lload_n hC 1 dX8_cut_52 rfl ?_
  refine s_lconst hC dX8_cut_53 (v := 0) (by decide) ?_
  refine s_lcmp hC dX8_cut_54 ?_
  refine s_if_eq hC dX8_cut_55 (tgt := 62) (by decide) ?_ ?_
  · refine s_lconst hC dX8_cut_62 (v := 0) (by decide) ?_
    exact s_lret hC hr hlk dX8_cut_63
  refine s_lconst hC dX8_cut_58 (v := 1) (by decide) ?_
  refine s_goto hC dX8_cut_59 (tgt := 63) (by decide) ?_
  exact s_lret hC hr hlk dX8_cut_63
theorem dX8_get_0 : decode cX8_get 0 = .ok (.iload_n 1, 1) := by decide +kernel
theorem dX8_get_1 : decode cX8_get 1 = .ok (.ifCond .lt 26, 3) := by decide +kernel
theorem dX8_get_4 : decode cX8_get 4 = .ok (.iload_n 1, 1) := by decide +kernel
theorem dX8_get_5 : decode cX8_get 5 = .ok (.aload_n 0, 1) := by decide +kernel
theorem dX8_get_6 : decode cX8_get 6 = .ok (.getfield 28, 3) := by decide +kernel
theorem dX8_get_9 : decode cX8_get 9 = .ok (.if_icmp .ge 18, 3) := by decide +kernel
theorem dX8_get_12 : decode cX8_get 12 = .ok (.iload_n 1, 1) := by decide +kernel
theorem dX8_get_13 : decode cX8_get 13 = .ok (.bipush 60, 2) := by decide +kernel
theorem dX8_get_15 : decode cX8_get 15 = .ok (.if_icmp .ge 12, 3) := by decide +kernel
theorem dX8_get_18 : decode cX8_get 18 = .ok (.aload_n 0, 1) := by decide +kernel
theorem dX8_get_19 : decode cX8_get 19 = .ok (.getfield 9, 3) := by decide +kernel
theorem dX8_get_22 : decode cX8_get 22 = .ok (.iload_n 1, 1) := by decide +kernel
theorem dX8_get_23 : decode cX8_get 23 = .ok (.laload, 1) := by decide +kernel
theorem dX8_get_24 : decode cX8_get 24 = .ok (.goto 6, 3) := by decide +kernel
theorem dX8_get_27 : decode cX8_get 27 = .ok (.ldc2_w 35, 3) := by decide +kernel
theorem dX8_get_30 : decode cX8_get 30 = .ok (.lreturn, 1) := by decide +kernel
def f_X8_get (X : x_X) (v0 : Nat) (v1 : Int32) (μ : x_M) : Option (Int64 × x_M) :=
  (if v1 < 0 then (some ((-9223372036854775808 : Int64), μ)) else (ck (x_kd X v0 = 8 + 1) (if (μ.1 v0 2) ≤ v1 then (some ((-9223372036854775808 : Int64), μ)) else (if (60 : Int32) ≤ v1 then (some ((-9223372036854775808 : Int64), μ)) else (ck (x_kd X v0 = 8 + 1) (lt (μ.2.1 v0 0) (fun (v3 : Nat) => (ck (x_kd X v3 = 21 ∧ x_ix v1 (x_ln X v3)) (some ((μ.2.2 v3 (v1).toNatClampNeg), μ))))))))))
set_option maxRecDepth 100000 in
theorem m_X8_get (hI : x_I X) (v0 : Nat) (v1 : Int32) (μ : x_M) : x_Met X x_Z0 l yX8_get cX8_get 2 (some .long) 1 [vR v0, vI v1] μ rkJ (f_X8_get X v0 v1 μ) := by
  refine x_enter hI (by decide +kernel) (Nat.le_of_ble_eq_true rfl) (fun p e s m args below meth c hC hr hlk => ?_)
  unfold f_X8_get
  refine s_lv (lv' := [(0, vR v0), (1, vI v1)]) [0, 1] rfl ?_
  refine s_iload_n hC 1 dX8_get_0 rfl ?_
  refine s_if_lt hC dX8_get_1 (tgt := 27) (by decide) ?_ ?_
  · refine s_ldc2 hC dX8_get_27 qk_X8_35 ?_
    exact s_lret hC hr hlk dX8_get_30
  refine s_iload_n hC 1 dX8_get_4 rfl ?_
  refine s_aload_n hC 0 dX8_get_5 rfl ?_
  refine s_getI hC xc8 (by decide) rfl qf_X8_28 dX8_get_6 ?_
  refine s_icmp_ge hC dX8_get_9 (tgt := 27) (by decide) ?_ ?_
  · refine s_ldc2 hC dX8_get_27 qk_X8_35 ?_
    exact s_lret hC hr hlk dX8_get_30
  refine s_iload_n hC 1 dX8_get_12 rfl ?_
  refine s_bipush hC dX8_get_13 (v := 60) (by decide) ?_
  refine s_icmp_ge hC dX8_get_15 (tgt := 27) (by decide) ?_ ?_
  · refine s_ldc2 hC dX8_get_27 qk_X8_35 ?_
    exact s_lret hC hr hlk dX8_get_30
  refine s_aload_n hC 0 dX8_get_18 rfl ?_
  refine s_getR hC xc8 (by decide) rfl qf_X8_9 dX8_get_19 ?_
  refine s_ltR (fun v3 => ?_)
  refine s_iload_n hC 1 dX8_get_22 rfl ?_
  refine s_lald hC dX8_get_23 ?_
  refine s_goto hC dX8_get_24 (tgt := 30) (by decide) ?_
  exact s_lret hC hr hlk dX8_get_30
theorem dX8_takeFrom_0 : decode cX8_takeFrom 0 = .ok (.iload 4, 2) := by decide +kernel
theorem dX8_takeFrom_2 : decode cX8_takeFrom 2 = .ok (.ifCond .lt 33, 3) := by decide +kernel
theorem dX8_takeFrom_5 : decode cX8_takeFrom 5 = .ok (.iload_n 2, 1) := by decide +kernel
theorem dX8_takeFrom_6 : decode cX8_takeFrom 6 = .ok (.ifCond .lt 29, 3) := by decide +kernel
theorem dX8_takeFrom_9 : decode cX8_takeFrom 9 = .ok (.iload_n 3, 1) := by decide +kernel
theorem dX8_takeFrom_10 : decode cX8_takeFrom 10 = .ok (.ifCond .lt 25, 3) := by decide +kernel
theorem dX8_takeFrom_13 : decode cX8_takeFrom 13 = .ok (.iload 4, 2) := by decide +kernel
theorem dX8_takeFrom_15 : decode cX8_takeFrom 15 = .ok (.aload_n 1, 1) := by decide +kernel
theorem dX8_takeFrom_16 : decode cX8_takeFrom 16 = .ok (.getfield 28, 3) := by decide +kernel
theorem dX8_takeFrom_19 : decode cX8_takeFrom 19 = .ok (.iload_n 2, 1) := by decide +kernel
theorem dX8_takeFrom_20 : decode cX8_takeFrom 20 = .ok (.isub, 1) := by decide +kernel
theorem dX8_takeFrom_21 : decode cX8_takeFrom 21 = .ok (.if_icmp .gt 14, 3) := by decide +kernel
theorem dX8_takeFrom_24 : decode cX8_takeFrom 24 = .ok (.iload 4, 2) := by decide +kernel
theorem dX8_takeFrom_26 : decode cX8_takeFrom 26 = .ok (.aload_n 0, 1) := by decide +kernel
theorem dX8_takeFrom_27 : decode cX8_takeFrom 27 = .ok (.getfield 28, 3) := by decide +kernel
theorem dX8_takeFrom_30 : decode cX8_takeFrom 30 = .ok (.iload_n 3, 1) := by decide +kernel
theorem dX8_takeFrom_31 : decode cX8_takeFrom 31 = .ok (.isub, 1) := by decide +kernel
theorem dX8_takeFrom_32 : decode cX8_takeFrom 32 = .ok (.if_icmp .le 5, 3) := by decide +kernel
theorem dX8_takeFrom_35 : decode cX8_takeFrom 35 = .ok (.iconst 0, 1) := by decide +kernel
theorem dX8_takeFrom_36 : decode cX8_takeFrom 36 = .ok (.ireturn, 1) := by decide +kernel
theorem dX8_takeFrom_37 : decode cX8_takeFrom 37 = .ok (.aload_n 1, 1) := by decide +kernel
theorem dX8_takeFrom_38 : decode cX8_takeFrom 38 = .ok (.getfield 9, 3) := by decide +kernel
theorem dX8_takeFrom_41 : decode cX8_takeFrom 41 = .ok (.iload_n 2, 1) := by decide +kernel
theorem dX8_takeFrom_42 : decode cX8_takeFrom 42 = .ok (.aload_n 0, 1) := by decide +kernel
theorem dX8_takeFrom_43 : decode cX8_takeFrom 43 = .ok (.getfield 9, 3) := by decide +kernel
theorem dX8_takeFrom_46 : decode cX8_takeFrom 46 = .ok (.iload_n 3, 1) := by decide +kernel
theorem dX8_takeFrom_47 : decode cX8_takeFrom 47 = .ok (.iload 4, 2) := by decide +kernel
theorem dX8_takeFrom_49 : decode cX8_takeFrom 49 = .ok (.invokestatic 37, 3) := by decide +kernel
theorem dX8_takeFrom_52 : decode cX8_takeFrom 52 = .ok (.iconst 1, 1) := by decide +kernel
theorem dX8_takeFrom_53 : decode cX8_takeFrom 53 = .ok (.ireturn, 1) := by decide +kernel
def f_X8_takeFrom (X : x_X) (v0 : Nat) (v1 : Nat) (v2 : Int32) (v3 : Int32) (v4 : Int32) (μ : x_M) : Option (Int32 × x_M) :=
  (if v4 < 0 then (ck ((0 : Int32) = 0 ∨ (0 : Int32) = 1) (some ((0 : Int32), μ))) else (if v2 < 0 then (ck ((0 : Int32) = 0 ∨ (0 : Int32) = 1) (some ((0 : Int32), μ))) else (if v3 < 0 then (ck ((0 : Int32) = 0 ∨ (0 : Int32) = 1) (some ((0 : Int32), μ))) else (ck (x_kd X v1 = 8 + 1) (if ((μ.1 v1 2) - v2) < v4 then (ck ((0 : Int32) = 0 ∨ (0 : Int32) = 1) (some ((0 : Int32), μ))) else (ck (x_kd X v0 = 8 + 1) (if v4 ≤ ((μ.1 v0 2) - v3) then (ck (x_kd X v1 = 8 + 1) (lt (μ.2.1 v1 0) (fun (v6 : Nat) => (ck (x_kd X v0 = 8 + 1) (lt (μ.2.1 v0 0) (fun (v7 : Nat) => (ck (x_cpok X v6 v2 v7 v3 v4) (lt (x_cp μ v6 v2 v7 v3 v4) (fun (μ8 : x_M) => (ck ((1 : Int32) = 0 ∨ (1 : Int32) = 1) (some ((1 : Int32), μ8)))))))))))) else (ck ((0 : Int32) = 0 ∨ (0 : Int32) = 1) (some ((0 : Int32), μ))))))))))
set_option maxRecDepth 100000 in
theorem m_X8_takeFrom (hI : x_I X) (v0 : Nat) (v1 : Nat) (v2 : Int32) (v3 : Int32) (v4 : Int32) (μ : x_M) : x_Met X x_Z0 l yX8_takeFrom cX8_takeFrom 5 (some .boolean) 1 [vR v0, vR v1, vI v2, vI v3, vI v4] μ rkI (f_X8_takeFrom X v0 v1 v2 v3 v4 μ) := by
  refine x_enter hI (by decide +kernel) (Nat.le_of_ble_eq_true rfl) (fun p e s m args below meth c hC hr hlk => ?_)
  unfold f_X8_takeFrom
  refine s_lv (lv' := [(0, vR v0), (1, vR v1), (2, vI v2), (3, vI v3), (4, vI v4)]) [0, 1, 2, 3, 4] rfl ?_
  refine s_iload hC 4 dX8_takeFrom_0 rfl ?_
  refine s_if_lt hC dX8_takeFrom_2 (tgt := 35) (by decide) ?_ ?_
  · refine s_iconst hC dX8_takeFrom_35 (v := 0) (by decide) ?_
    exact s_zret hC hr hlk dX8_takeFrom_36
  refine s_iload_n hC 2 dX8_takeFrom_5 rfl ?_
  refine s_if_lt hC dX8_takeFrom_6 (tgt := 35) (by decide) ?_ ?_
  · refine s_iconst hC dX8_takeFrom_35 (v := 0) (by decide) ?_
    exact s_zret hC hr hlk dX8_takeFrom_36
  refine s_iload_n hC 3 dX8_takeFrom_9 rfl ?_
  refine s_if_lt hC dX8_takeFrom_10 (tgt := 35) (by decide) ?_ ?_
  · refine s_iconst hC dX8_takeFrom_35 (v := 0) (by decide) ?_
    exact s_zret hC hr hlk dX8_takeFrom_36
  refine s_iload hC 4 dX8_takeFrom_13 rfl ?_
  refine s_aload_n hC 1 dX8_takeFrom_15 rfl ?_
  refine s_getI hC xc8 (by decide) rfl qf_X8_28 dX8_takeFrom_16 ?_
  refine s_iload_n hC 2 dX8_takeFrom_19 rfl ?_
  refine s_isub hC dX8_takeFrom_20 ?_
  refine s_icmp_gt hC dX8_takeFrom_21 (tgt := 35) (by decide) ?_ ?_
  · refine s_iconst hC dX8_takeFrom_35 (v := 0) (by decide) ?_
    exact s_zret hC hr hlk dX8_takeFrom_36
  refine s_iload hC 4 dX8_takeFrom_24 rfl ?_
  refine s_aload_n hC 0 dX8_takeFrom_26 rfl ?_
  refine s_getI hC xc8 (by decide) rfl qf_X8_28 dX8_takeFrom_27 ?_
  refine s_iload_n hC 3 dX8_takeFrom_30 rfl ?_
  refine s_isub hC dX8_takeFrom_31 ?_
  refine s_icmp_le hC dX8_takeFrom_32 (tgt := 37) (by decide) ?_ ?_
  · refine s_aload_n hC 1 dX8_takeFrom_37 rfl ?_
    refine s_getR hC xc8 (by decide) rfl qf_X8_9 dX8_takeFrom_38 ?_
    refine s_ltR (fun v6 => ?_)
    refine s_iload_n hC 2 dX8_takeFrom_41 rfl ?_
    refine s_aload_n hC 0 dX8_takeFrom_42 rfl ?_
    refine s_getR hC xc8 (by decide) rfl qf_X8_9 dX8_takeFrom_43 ?_
    refine s_ltR (fun v7 => ?_)
    refine s_iload_n hC 3 dX8_takeFrom_46 rfl ?_
    refine s_iload hC 4 dX8_takeFrom_47 rfl ?_
    refine s_acopy hC dX8_takeFrom_49 qm_X8_37 qn_arraycopy qt_arraycopy qc_System (by decide) (Nat.le_of_ble_eq_true rfl) ?_
    refine s_ltM (fun μ8 => ?_)
    refine s_iconst hC dX8_takeFrom_52 (v := 1) (by decide) ?_
    exact s_zret hC hr hlk dX8_takeFrom_53
  refine s_iconst hC dX8_takeFrom_35 (v := 0) (by decide) ?_
  exact s_zret hC hr hlk dX8_takeFrom_36
theorem dX8_put_0 : decode cX8_put 0 = .ok (.iload_n 1, 1) := by decide +kernel
theorem dX8_put_1 : decode cX8_put 1 = .ok (.ifCond .lt 17, 3) := by decide +kernel
theorem dX8_put_4 : decode cX8_put 4 = .ok (.iload_n 1, 1) := by decide +kernel
theorem dX8_put_5 : decode cX8_put 5 = .ok (.aload_n 0, 1) := by decide +kernel
theorem dX8_put_6 : decode cX8_put 6 = .ok (.getfield 28, 3) := by decide +kernel
theorem dX8_put_9 : decode cX8_put 9 = .ok (.if_icmp .ge 9, 3) := by decide +kernel
theorem dX8_put_12 : decode cX8_put 12 = .ok (.iload_n 1, 1) := by decide +kernel
theorem dX8_put_13 : decode cX8_put 13 = .ok (.bipush 60, 2) := by decide +kernel
theorem dX8_put_15 : decode cX8_put 15 = .ok (.if_icmp .lt 5, 3) := by decide +kernel
theorem dX8_put_18 : decode cX8_put 18 = .ok (.iconst 0, 1) := by decide +kernel
theorem dX8_put_19 : decode cX8_put 19 = .ok (.ireturn, 1) := by decide +kernel
theorem dX8_put_20 : decode cX8_put 20 = .ok (.aload_n 0, 1) := by decide +kernel
theorem dX8_put_21 : decode cX8_put 21 = .ok (.getfield 9, 3) := by decide +kernel
theorem dX8_put_24 : decode cX8_put 24 = .ok (.iload_n 1, 1) := by decide +kernel
theorem dX8_put_25 : decode cX8_put 25 = .ok (.aload_n 0, 1) := by decide +kernel
theorem dX8_put_26 : decode cX8_put 26 = .ok (.lload_n 2, 1) := by decide +kernel
theorem dX8_put_27 : decode cX8_put 27 = .ok (.invokevirtual 31, 3) := by decide +kernel
theorem dX8_put_30 : decode cX8_put 30 = .ok (.lastore, 1) := by decide +kernel
theorem dX8_put_31 : decode cX8_put 31 = .ok (.iconst 1, 1) := by decide +kernel
theorem dX8_put_32 : decode cX8_put 32 = .ok (.ireturn, 1) := by decide +kernel
def f_X8_put (X : x_X) (v0 : Nat) (v1 : Int32) (v2 : Int64) (μ : x_M) : Option (Int32 × x_M) :=
  (if v1 < 0 then (ck ((0 : Int32) = 0 ∨ (0 : Int32) = 1) (some ((0 : Int32), μ))) else (ck (x_kd X v0 = 8 + 1) (if (μ.1 v0 2) ≤ v1 then (ck ((0 : Int32) = 0 ∨ (0 : Int32) = 1) (some ((0 : Int32), μ))) else (if v1 < (60 : Int32) then (ck (x_kd X v0 = 8 + 1) (lt (μ.2.1 v0 0) (fun (v4 : Nat) => (ck (x_kd X v0 = 8 + 1) (bd (f_X8_cut X v0 v2 μ) (fun (v5 : Int64) (μ6 : x_M) => (ck (x_kd X v4 = 21 ∧ x_ix v1 (x_ln X v4)) (lt (x_sJ μ6 v4 (v1).toNatClampNeg v5) (fun (μ7 : x_M) => (ck ((1 : Int32) = 0 ∨ (1 : Int32) = 1) (some ((1 : Int32), μ7)))))))))))) else (ck ((0 : Int32) = 0 ∨ (0 : Int32) = 1) (some ((0 : Int32), μ)))))))
set_option maxRecDepth 100000 in
theorem m_X8_put (hI : x_I X) (v0 : Nat) (v1 : Int32) (v2 : Int64) (μ : x_M) : x_Met X x_Z0 l yX8_put cX8_put 4 (some .boolean) 2 [vR v0, vI v1, vJ v2] μ rkI (f_X8_put X v0 v1 v2 μ) := by
  refine x_enter hI (by decide +kernel) (Nat.le_of_ble_eq_true rfl) (fun p e s m args below meth c hC hr hlk => ?_)
  unfold f_X8_put
  refine s_lv (lv' := [(0, vR v0), (1, vI v1), (2, vJ v2)]) [0, 1, 2] rfl ?_
  refine s_iload_n hC 1 dX8_put_0 rfl ?_
  refine s_if_lt hC dX8_put_1 (tgt := 18) (by decide) ?_ ?_
  · refine s_iconst hC dX8_put_18 (v := 0) (by decide) ?_
    exact s_zret hC hr hlk dX8_put_19
  refine s_iload_n hC 1 dX8_put_4 rfl ?_
  refine s_aload_n hC 0 dX8_put_5 rfl ?_
  refine s_getI hC xc8 (by decide) rfl qf_X8_28 dX8_put_6 ?_
  refine s_icmp_ge hC dX8_put_9 (tgt := 18) (by decide) ?_ ?_
  · refine s_iconst hC dX8_put_18 (v := 0) (by decide) ?_
    exact s_zret hC hr hlk dX8_put_19
  refine s_iload_n hC 1 dX8_put_12 rfl ?_
  refine s_bipush hC dX8_put_13 (v := 60) (by decide) ?_
  refine s_icmp_lt hC dX8_put_15 (tgt := 20) (by decide) ?_ ?_
  · refine s_aload_n hC 0 dX8_put_20 rfl ?_
    refine s_getR hC xc8 (by decide) rfl qf_X8_9 dX8_put_21 ?_
    refine s_ltR (fun v4 => ?_)
    refine s_iload_n hC 1 dX8_put_24 rfl ?_
    refine s_aload_n hC 0 dX8_put_25 rfl ?_
    refine s_lload_n hC 2 dX8_put_26 rfl ?_
    refine s_callV hC (x := v0) (avs := [vJ v2]) (st := [vI v1, vR v4]) (nest := false) xc8 (m_X8_cut hI v0 v2 μ) dX8_put_27 qm_X8_31 qi_X8_cut qs_X8_cut qc_X8 qd_X8_cut qh_X8_cut (by decide) (fun _ => Nat.le_of_ble_eq_true rfl) (Nat.le_of_ble_eq_true rfl) (fun v5 μ6 => ?_)
    refine s_last hC dX8_put_30 ?_
    refine s_ltM (fun μ7 => ?_)
    refine s_iconst hC dX8_put_31 (v := 1) (by decide) ?_
    exact s_zret hC hr hlk dX8_put_32
  refine s_iconst hC dX8_put_18 (v := 0) (by decide) ?_
  exact s_zret hC hr hlk dX8_put_19
theorem dX0_open_0 : decode cX0_open 0 = .ok (.aload_n 0, 1) := by decide +kernel
theorem dX0_open_1 : decode cX0_open 1 = .ok (.iconst 1, 1) := by decide +kernel
theorem dX0_open_2 : decode cX0_open 2 = .ok (.putfield 19, 3) := by decide +kernel
theorem dX0_open_5 : decode cX0_open 5 = .ok (.aload_n 0, 1) := by decide +kernel
theorem dX0_open_6 : decode cX0_open 6 = .ok (.iload_n 1, 1) := by decide +kernel
theorem dX0_open_7 : decode cX0_open 7 = .ok (.putfield 23, 3) := by decide +kernel
theorem dX0_open_10 : decode cX0_open 10 = .ok (.aload_n 0, 1) := by decide +kernel
theorem dX0_open_11 : decode cX0_open 11 = .ok (.iload_n 2, 1) := by decide +kernel
theorem dX0_open_12 : decode cX0_open 12 = .ok (.putfield 26, 3) := by decide +kernel
theorem dX0_open_15 : decode cX0_open 15 = .ok (.aload_n 0, 1) := by decide +kernel
theorem dX0_open_16 : decode cX0_open 16 = .ok (.iload_n 3, 1) := by decide +kernel
theorem dX0_open_17 : decode cX0_open 17 = .ok (.putfield 29, 3) := by decide +kernel
theorem dX0_open_20 : decode cX0_open 20 = .ok (.aload_n 0, 1) := by decide +kernel
theorem dX0_open_21 : decode cX0_open 21 = .ok (.iconst 0, 1) := by decide +kernel
theorem dX0_open_22 : decode cX0_open 22 = .ok (.putfield 32, 3) := by decide +kernel
theorem dX0_open_25 : decode cX0_open 25 = .ok (.aload_n 0, 1) := by decide +kernel
theorem dX0_open_26 : decode cX0_open 26 = .ok (.iconst 0, 1) := by decide +kernel
theorem dX0_open_27 : decode cX0_open 27 = .ok (.putfield 35, 3) := by decide +kernel
theorem dX0_open_30 : decode cX0_open 30 = .ok (.iconst 0, 1) := by decide +kernel
theorem dX0_open_31 : decode cX0_open 31 = .ok (.istore 4, 2) := by decide +kernel
theorem dX0_open_33 : decode cX0_open 33 = .ok (.iload 4, 2) := by decide +kernel
theorem dX0_open_35 : decode cX0_open 35 = .ok (.iconst 4, 1) := by decide +kernel
theorem dX0_open_36 : decode cX0_open 36 = .ok (.if_icmp .ge 17, 3) := by decide +kernel
theorem dX0_open_39 : decode cX0_open 39 = .ok (.aload_n 0, 1) := by decide +kernel
theorem dX0_open_40 : decode cX0_open 40 = .ok (.getfield 9, 3) := by decide +kernel
theorem dX0_open_43 : decode cX0_open 43 = .ok (.iload 4, 2) := by decide +kernel
theorem dX0_open_45 : decode cX0_open 45 = .ok (.iconst 0, 1) := by decide +kernel
theorem dX0_open_46 : decode cX0_open 46 = .ok (.iastore, 1) := by decide +kernel
theorem dX0_open_47 : decode cX0_open 47 = .ok (.iinc 4 1, 3) := by decide +kernel
theorem dX0_open_50 : decode cX0_open 50 = .ok (.goto (-17), 3) := by decide +kernel
theorem dX0_open_53 : decode cX0_open 53 = .ok (.return_, 1) := by decide +kernel
def f_X0_open_L33 (X : x_X) : Nat → Nat → Int32 → x_M → Option (Unit × x_M)
  | 0, _, _, _ => none
  | n + 1, v11, v12, μ13 =>
    (if (4 : Int32) ≤ v12 then (some ((), μ13)) else (ck (x_kd X v11 = 0 + 1) (lt (μ13.2.1 v11 1) (fun (v14 : Nat) => (ck (x_kd X v14 = 20 ∧ x_ix v12 (x_ln X v14)) (lt (x_sI μ13 v14 (v12).toNatClampNeg (0 : Int32)) (fun (μ15 : x_M) => (f_X0_open_L33 X n v11 (v12 + (1 : Int32)) μ15))))))))
set_option maxRecDepth 100000 in
theorem j_X0_open_L33 (hI : x_I X) (hC : x_C X x_Z0 p (x_rm 1) s m c cX0_open RX0 5 0 0 1) (hr : meth.sig.returnType = none) (hlk : meth.locks = false) : ∀ (n : Nat) (v11 : Nat) (v12 : Int32) (μ13 : x_M), SM X 5 1 rkV p l e s m args below meth c 33 [(0, vR v11), (4, vI v12)] [] μ13 (f_X0_open_L33 X n v11 v12 μ13) := by
  intro n
  induction n with
  | zero => intro v11 v12 μ13; exact s_none
  | succ n ih =>
    intro v11 v12 μ13
    unfold f_X0_open_L33
    refine s_iload hC 1 dX0_open_33 rfl ?_
    refine s_iconst hC dX0_open_35 (v := 4) (by decide) ?_
    refine s_icmp_ge hC dX0_open_36 (tgt := 53) (by decide) ?_ ?_
    · exact s_vret hC hr hlk dX0_open_53
    refine s_aload_n hC 0 dX0_open_39 rfl ?_
    refine s_getR hC xc0 (by decide) rfl qf_X0_9 dX0_open_40 ?_
    refine s_ltR (fun v14 => ?_)
    refine s_iload hC 1 dX0_open_43 rfl ?_
    refine s_iconst hC dX0_open_45 (v := 0) (by decide) ?_
    refine s_iast hC dX0_open_46 ?_
    refine s_ltM (fun μ15 => ?_)
    refine s_iinc hC 1 dX0_open_47 rfl (w := 1) (by decide) (by decide) (lv' := [(4, vI (v12 + (1 : Int32))), (0, vR v11)]) rfl ?_
    refine s_goto hC dX0_open_50 (tgt := 33) (by decide) ?_
    refine s_lv (lv' := [(0, vR v11), (4, vI (v12 + (1 : Int32)))]) [1, 0] rfl ?_
    exact ih _ _ _
def f_X0_open (X : x_X) (v0 : Nat) (v1 : Int32) (v2 : Int32) (v3 : Int32) (μ : x_M) : Option (Unit × x_M) :=
  (ck (x_kd X v0 = 0 + 1 ∧ ((1 : Int32) = 0 ∨ (1 : Int32) = 1)) (lt (x_sI μ v0 2 (1 : Int32)) (fun (μ5 : x_M) => (ck (x_kd X v0 = 0 + 1) (lt (x_sI μ5 v0 3 v1) (fun (μ6 : x_M) => (ck (x_kd X v0 = 0 + 1) (lt (x_sI μ6 v0 4 v2) (fun (μ7 : x_M) => (ck (x_kd X v0 = 0 + 1) (lt (x_sI μ7 v0 6 v3) (fun (μ8 : x_M) => (ck (x_kd X v0 = 0 + 1) (lt (x_sI μ8 v0 5 (0 : Int32)) (fun (μ9 : x_M) => (ck (x_kd X v0 = 0 + 1) (lt (x_sI μ9 v0 7 (0 : Int32)) (fun (μ10 : x_M) => (f_X0_open_L33 X 4096 v0 (0 : Int32) μ10)))))))))))))))))))
set_option maxRecDepth 100000 in
theorem m_X0_open (hI : x_I X) (v0 : Nat) (v1 : Int32) (v2 : Int32) (v3 : Int32) (μ : x_M) : x_Met X x_Z0 l yX0_open cX0_open 5 none 1 [vR v0, vI v1, vI v2, vI v3] μ rkV (f_X0_open X v0 v1 v2 v3 μ) := by
  refine x_enter hI (by decide +kernel) (Nat.le_of_ble_eq_true rfl) (fun p e s m args below meth c hC hr hlk => ?_)
  unfold f_X0_open
  refine s_lv (lv' := [(0, vR v0), (1, vI v1), (2, vI v2), (3, vI v3)]) [0, 1, 2, 3] rfl ?_
  refine s_aload_n hC 0 dX0_open_0 rfl ?_
  refine s_iconst hC dX0_open_1 (v := 1) (by decide) ?_
  refine s_putZ hC xc0 (by decide) rfl rfl qf_X0_19 dX0_open_2 ?_
  refine s_ltM (fun μ5 => ?_)
  refine s_aload_n hC 0 dX0_open_5 rfl ?_
  refine s_iload_n hC 1 dX0_open_6 rfl ?_
  refine s_putI hC xc0 (by decide) rfl rfl qf_X0_23 dX0_open_7 ?_
  refine s_ltM (fun μ6 => ?_)
  refine s_aload_n hC 0 dX0_open_10 rfl ?_
  refine s_iload_n hC 2 dX0_open_11 rfl ?_
  refine s_putI hC xc0 (by decide) rfl rfl qf_X0_26 dX0_open_12 ?_
  refine s_ltM (fun μ7 => ?_)
  refine s_aload_n hC 0 dX0_open_15 rfl ?_
  refine s_iload_n hC 3 dX0_open_16 rfl ?_
  refine s_putI hC xc0 (by decide) rfl rfl qf_X0_29 dX0_open_17 ?_
  refine s_ltM (fun μ8 => ?_)
  refine s_aload_n hC 0 dX0_open_20 rfl ?_
  refine s_iconst hC dX0_open_21 (v := 0) (by decide) ?_
  refine s_putI hC xc0 (by decide) rfl rfl qf_X0_32 dX0_open_22 ?_
  refine s_ltM (fun μ9 => ?_)
  refine s_aload_n hC 0 dX0_open_25 rfl ?_
  refine s_iconst hC dX0_open_26 (v := 0) (by decide) ?_
  refine s_putI hC xc0 (by decide) rfl rfl qf_X0_35 dX0_open_27 ?_
  refine s_ltM (fun μ10 => ?_)
  refine s_iconst hC dX0_open_30 (v := 0) (by decide) ?_
  refine s_istore hC dX0_open_31 (by decide) (lv' := [(4, vI (0 : Int32)), (0, vR v0), (1, vI v1), (2, vI v2), (3, vI v3)]) rfl ?_
  refine s_lv (lv' := [(0, vR v0), (4, vI (0 : Int32))]) [1, 0] rfl ?_
  refine j_X0_open_L33 hI hC hr hlk 4096 _ _ _
theorem dX0_change_0 : decode cX0_change 0 = .ok (.iload_n 1, 1) := by decide +kernel
theorem dX0_change_1 : decode cX0_change 1 = .ok (.ifCond .ne 10, 3) := by decide +kernel
theorem dX0_change_4 : decode cX0_change 4 = .ok (.aload_n 0, 1) := by decide +kernel
theorem dX0_change_5 : decode cX0_change 5 = .ok (.getfield 32, 3) := by decide +kernel
theorem dX0_change_8 : decode cX0_change 8 = .ok (.goto 19, 3) := by decide +kernel
theorem dX0_change_11 : decode cX0_change 11 = .ok (.iload_n 1, 1) := by decide +kernel
theorem dX0_change_12 : decode cX0_change 12 = .ok (.iconst 1, 1) := by decide +kernel
theorem dX0_change_13 : decode cX0_change 13 = .ok (.if_icmp .ne 10, 3) := by decide +kernel
theorem dX0_change_16 : decode cX0_change 16 = .ok (.aload_n 0, 1) := by decide +kernel
theorem dX0_change_17 : decode cX0_change 17 = .ok (.getfield 29, 3) := by decide +kernel
theorem dX0_change_20 : decode cX0_change 20 = .ok (.goto 7, 3) := by decide +kernel
theorem dX0_change_23 : decode cX0_change 23 = .ok (.aload_n 0, 1) := by decide +kernel
theorem dX0_change_24 : decode cX0_change 24 = .ok (.getfield 35, 3) := by decide +kernel
theorem dX0_change_27 : decode cX0_change 27 = .ok (.istore_n 3, 1) := by decide +kernel
theorem dX0_change_28 : decode cX0_change 28 = .ok (.iload_n 1, 1) := by decide +kernel
theorem dX0_change_29 : decode cX0_change 29 = .ok (.ifCond .ne 11, 3) := by decide +kernel
theorem dX0_change_32 : decode cX0_change 32 = .ok (.aload_n 0, 1) := by decide +kernel
theorem dX0_change_33 : decode cX0_change 33 = .ok (.iload_n 2, 1) := by decide +kernel
theorem dX0_change_34 : decode cX0_change 34 = .ok (.putfield 32, 3) := by decide +kernel
theorem dX0_change_37 : decode cX0_change 37 = .ok (.goto 21, 3) := by decide +kernel
theorem dX0_change_40 : decode cX0_change 40 = .ok (.iload_n 1, 1) := by decide +kernel
theorem dX0_change_41 : decode cX0_change 41 = .ok (.iconst 1, 1) := by decide +kernel
theorem dX0_change_42 : decode cX0_change 42 = .ok (.if_icmp .ne 11, 3) := by decide +kernel
theorem dX0_change_45 : decode cX0_change 45 = .ok (.aload_n 0, 1) := by decide +kernel
theorem dX0_change_46 : decode cX0_change 46 = .ok (.iload_n 2, 1) := by decide +kernel
theorem dX0_change_47 : decode cX0_change 47 = .ok (.putfield 29, 3) := by decide +kernel
theorem dX0_change_50 : decode cX0_change 50 = .ok (.goto 8, 3) := by decide +kernel
theorem dX0_change_53 : decode cX0_change 53 = .ok (.aload_n 0, 1) := by decide +kernel
theorem dX0_change_54 : decode cX0_change 54 = .ok (.iload_n 2, 1) := by decide +kernel
theorem dX0_change_55 : decode cX0_change 55 = .ok (.putfield 35, 3) := by decide +kernel
theorem dX0_change_58 : decode cX0_change 58 = .ok (.iload_n 3, 1) := by decide +kernel
theorem dX0_change_59 : decode cX0_change 59 = .ok (.ireturn, 1) := by decide +kernel
def f_X0_change_J27 (X : x_X) (v4 : Nat) (v5 : Int32) (v6 : Int32) (v7 : Int32) (μ8 : x_M) : Option (Int32 × x_M) :=
  (if v5 = 0 then (ck (x_kd X v4 = 0 + 1) (lt (x_sI μ8 v4 5 v6) (fun (μ11 : x_M) => (some (v7, μ11))))) else (if v5 = (1 : Int32) then (ck (x_kd X v4 = 0 + 1) (lt (x_sI μ8 v4 6 v6) (fun (μ10 : x_M) => (some (v7, μ10))))) else (ck (x_kd X v4 = 0 + 1) (lt (x_sI μ8 v4 7 v6) (fun (μ9 : x_M) => (some (v7, μ9)))))))
set_option maxRecDepth 100000 in
theorem j_X0_change_J27 (hI : x_I X) (hC : x_C X x_Z0 p (x_rm 1) s m c cX0_change RX0 4 0 0 1) (hr : meth.sig.returnType = (some .int)) (hlk : meth.locks = false) (v4 : Nat) (v5 : Int32) (v6 : Int32) (v7 : Int32) (μ8 : x_M) : SM X 4 1 rkI p l e s m args below meth c 27 [(0, vR v4), (1, vI v5), (2, vI v6)] [vI v7] μ8 (f_X0_change_J27 X v4 v5 v6 v7 μ8) := by
  unfold f_X0_change_J27
  refine s_istore_n hC dX0_change_27 (by decide) (lv' := [(3, vI v7), (0, vR v4), (1, vI v5), (2, vI v6)]) rfl ?_
  refine s_iload_n hC 2 dX0_change_28 rfl ?_
  refine s_if_ne hC dX0_change_29 (tgt := 40) (by decide) ?_ ?_
  · refine s_iload_n hC 2 dX0_change_40 rfl ?_
    refine s_iconst hC dX0_change_41 (v := 1) (by decide) ?_
    refine s_icmp_ne hC dX0_change_42 (tgt := 53) (by decide) ?_ ?_
    · refine s_aload_n hC 1 dX0_change_53 rfl ?_
      refine s_iload_n hC 3 dX0_change_54 rfl ?_
      refine s_putI hC xc0 (by decide) rfl rfl qf_X0_35 dX0_change_55 ?_
      refine s_ltM (fun μ9 => ?_)
      refine s_iload_n hC 0 dX0_change_58 rfl ?_
      exact s_iret hC hr hlk dX0_change_59
    refine s_aload_n hC 1 dX0_change_45 rfl ?_
    refine s_iload_n hC 3 dX0_change_46 rfl ?_
    refine s_putI hC xc0 (by decide) rfl rfl qf_X0_29 dX0_change_47 ?_
    refine s_ltM (fun μ10 => ?_)
    refine s_goto hC dX0_change_50 (tgt := 58) (by decide) ?_
    refine s_iload_n hC 0 dX0_change_58 rfl ?_
    exact s_iret hC hr hlk dX0_change_59
  refine s_aload_n hC 1 dX0_change_32 rfl ?_
  refine s_iload_n hC 3 dX0_change_33 rfl ?_
  refine s_putI hC xc0 (by decide) rfl rfl qf_X0_32 dX0_change_34 ?_
  refine s_ltM (fun μ11 => ?_)
  refine s_goto hC dX0_change_37 (tgt := 58) (by decide) ?_
  refine s_iload_n hC 0 dX0_change_58 rfl ?_
  exact s_iret hC hr hlk dX0_change_59
def f_X0_change (X : x_X) (v0 : Nat) (v1 : Int32) (v2 : Int32) (μ : x_M) : Option (Int32 × x_M) :=
  (if v1 = 0 then (ck (x_kd X v0 = 0 + 1) (f_X0_change_J27 X v0 v1 v2 (μ.1 v0 5) μ)) else (if v1 = (1 : Int32) then (ck (x_kd X v0 = 0 + 1) (f_X0_change_J27 X v0 v1 v2 (μ.1 v0 6) μ)) else (ck (x_kd X v0 = 0 + 1) (f_X0_change_J27 X v0 v1 v2 (μ.1 v0 7) μ))))
set_option maxRecDepth 100000 in
theorem m_X0_change (hI : x_I X) (v0 : Nat) (v1 : Int32) (v2 : Int32) (μ : x_M) : x_Met X x_Z0 l yX0_change cX0_change 4 (some .int) 1 [vR v0, vI v1, vI v2] μ rkI (f_X0_change X v0 v1 v2 μ) := by
  refine x_enter hI (by decide +kernel) (Nat.le_of_ble_eq_true rfl) (fun p e s m args below meth c hC hr hlk => ?_)
  unfold f_X0_change
  refine s_lv (lv' := [(0, vR v0), (1, vI v1), (2, vI v2)]) [0, 1, 2] rfl ?_
  refine s_iload_n hC 1 dX0_change_0 rfl ?_
  refine s_if_ne hC dX0_change_1 (tgt := 11) (by decide) ?_ ?_
  · refine s_iload_n hC 1 dX0_change_11 rfl ?_
    refine s_iconst hC dX0_change_12 (v := 1) (by decide) ?_
    refine s_icmp_ne hC dX0_change_13 (tgt := 23) (by decide) ?_ ?_
    · refine s_aload_n hC 0 dX0_change_23 rfl ?_
      refine s_getI hC xc0 (by decide) rfl qf_X0_35 dX0_change_24 ?_
      exact j_X0_change_J27 hI hC hr hlk _ _ _ _ _
    refine s_aload_n hC 0 dX0_change_16 rfl ?_
    refine s_getI hC xc0 (by decide) rfl qf_X0_29 dX0_change_17 ?_
    refine s_goto hC dX0_change_20 (tgt := 27) (by decide) ?_
    exact j_X0_change_J27 hI hC hr hlk _ _ _ _ _
  refine s_aload_n hC 0 dX0_change_4 rfl ?_
  refine s_getI hC xc0 (by decide) rfl qf_X0_32 dX0_change_5 ?_
  refine s_goto hC dX0_change_8 (tgt := 27) (by decide) ?_
  exact j_X0_change_J27 hI hC hr hlk _ _ _ _ _
theorem dX0_lifts_0 : decode cX0_lifts 0 = .ok (.aload_n 0, 1) := by decide +kernel
theorem dX0_lifts_1 : decode cX0_lifts 1 = .ok (.getfield 19, 3) := by decide +kernel
theorem dX0_lifts_4 : decode cX0_lifts 4 = .ok (.ifCond .ne 5, 3) := by decide +kernel
theorem dX0_lifts_7 : decode cX0_lifts 7 = .ok (.iconst 0, 1) := by decide +kernel
theorem dX0_lifts_8 : decode cX0_lifts 8 = .ok (.ireturn, 1) := by decide +kernel
theorem dX0_lifts_9 : decode cX0_lifts 9 = .ok (.aload_n 0, 1) := by decide +kernel
theorem dX0_lifts_10 : decode cX0_lifts 10 = .ok (.getfield 23, 3) := by decide +kernel
theorem dX0_lifts_13 : decode cX0_lifts 13 = .ok (.tableswitch 43 3 6 #[31, 36, 43, 31], 31) := by decide +kernel
theorem dX0_lifts_44 : decode cX0_lifts 44 = .ok (.aload_n 0, 1) := by decide +kernel
theorem dX0_lifts_45 : decode cX0_lifts 45 = .ok (.getfield 26, 3) := by decide +kernel
theorem dX0_lifts_48 : decode cX0_lifts 48 = .ok (.ireturn, 1) := by decide +kernel
theorem dX0_lifts_49 : decode cX0_lifts 49 = .ok (.iconst 5, 1) := by decide +kernel
theorem dX0_lifts_50 : decode cX0_lifts 50 = .ok (.aload_n 0, 1) := by decide +kernel
theorem dX0_lifts_51 : decode cX0_lifts 51 = .ok (.getfield 35, 3) := by decide +kernel
theorem dX0_lifts_54 : decode cX0_lifts 54 = .ok (.imul, 1) := by decide +kernel
theorem dX0_lifts_55 : decode cX0_lifts 55 = .ok (.ireturn, 1) := by decide +kernel
theorem dX0_lifts_56 : decode cX0_lifts 56 = .ok (.iconst 0, 1) := by decide +kernel
theorem dX0_lifts_57 : decode cX0_lifts 57 = .ok (.ireturn, 1) := by decide +kernel
def f_X0_lifts (X : x_X) (v0 : Nat) (μ : x_M) : Option (Int32 × x_M) :=
  (ck (x_kd X v0 = 0 + 1) (if (μ.1 v0 2) = 0 then (some ((0 : Int32), μ)) else (ck (x_kd X v0 = 0 + 1) (lt (μ.1 v0 3) (fun (v2 : Int32) => (x_swo [(3 : Int32), (4 : Int32), (5 : Int32), (6 : Int32)] [(ck (x_kd X v0 = 0 + 1) (some ((μ.1 v0 4), μ))), (ck (x_kd X v0 = 0 + 1) (some (((5 : Int32) * (μ.1 v0 7)), μ))), (some ((0 : Int32), μ)), (ck (x_kd X v0 = 0 + 1) (some ((μ.1 v0 4), μ)))] (some ((0 : Int32), μ)) v2))))))
set_option maxRecDepth 100000 in
theorem m_X0_lifts (hI : x_I X) (v0 : Nat) (μ : x_M) : x_Met X x_Z0 l yX0_lifts cX0_lifts 1 (some .int) 1 [vR v0] μ rkI (f_X0_lifts X v0 μ) := by
  refine x_enter hI (by decide +kernel) (Nat.le_of_ble_eq_true rfl) (fun p e s m args below meth c hC hr hlk => ?_)
  unfold f_X0_lifts
  refine s_lv (lv' := [(0, vR v0)]) [0] rfl ?_
  refine s_aload_n hC 0 dX0_lifts_0 rfl ?_
  refine s_getI hC xc0 (by decide) rfl qf_X0_19 dX0_lifts_1 ?_
  refine s_if_ne hC dX0_lifts_4 (tgt := 9) (by decide) ?_ ?_
  · refine s_aload_n hC 0 dX0_lifts_9 rfl ?_
    refine s_getI hC xc0 (by decide) rfl qf_X0_23 dX0_lifts_10 ?_
    refine s_ltI (fun v2 => ?_)
    refine s_table hC dX0_lifts_13 [((3 : Int32), 44), ((4 : Int32), 49), ((5 : Int32), 56), ((6 : Int32), 44)] 56 (by decide +kernel) ⟨?_, ?_, ?_, ?_, trivial⟩ ?_
    · refine s_aload_n hC 0 dX0_lifts_44 rfl ?_
      refine s_getI hC xc0 (by decide) rfl qf_X0_26 dX0_lifts_45 ?_
      exact s_iret hC hr hlk dX0_lifts_48
    · refine s_iconst hC dX0_lifts_49 (v := 5) (by decide) ?_
      refine s_aload_n hC 0 dX0_lifts_50 rfl ?_
      refine s_getI hC xc0 (by decide) rfl qf_X0_35 dX0_lifts_51 ?_
      refine s_imul hC dX0_lifts_54 ?_
      exact s_iret hC hr hlk dX0_lifts_55
    · refine s_iconst hC dX0_lifts_56 (v := 0) (by decide) ?_
      exact s_iret hC hr hlk dX0_lifts_57
    · refine s_aload_n hC 0 dX0_lifts_44 rfl ?_
      refine s_getI hC xc0 (by decide) rfl qf_X0_26 dX0_lifts_45 ?_
      exact s_iret hC hr hlk dX0_lifts_48
    refine s_iconst hC dX0_lifts_56 (v := 0) (by decide) ?_
    exact s_iret hC hr hlk dX0_lifts_57
  refine s_iconst hC dX0_lifts_7 (v := 0) (by decide) ?_
  exact s_iret hC hr hlk dX0_lifts_8
theorem dX0_holdBuckets_0 : decode cX0_holdBuckets 0 = .ok (.aload_n 0, 1) := by decide +kernel
theorem dX0_holdBuckets_1 : decode cX0_holdBuckets 1 = .ok (.sipush (-9999), 3) := by decide +kernel
theorem dX0_holdBuckets_4 : decode cX0_holdBuckets 4 = .ok (.aload_n 0, 1) := by decide +kernel
theorem dX0_holdBuckets_5 : decode cX0_holdBuckets 5 = .ok (.getfield 32, 3) := by decide +kernel
theorem dX0_holdBuckets_8 : decode cX0_holdBuckets 8 = .ok (.sipush 9999, 3) := by decide +kernel
theorem dX0_holdBuckets_11 : decode cX0_holdBuckets 11 = .ok (.invokestatic 51, 3) := by decide +kernel
theorem dX0_holdBuckets_14 : decode cX0_holdBuckets 14 = .ok (.invokestatic 42, 3) := by decide +kernel
theorem dX0_holdBuckets_17 : decode cX0_holdBuckets 17 = .ok (.putfield 32, 3) := by decide +kernel
theorem dX0_holdBuckets_20 : decode cX0_holdBuckets 20 = .ok (.return_, 1) := by decide +kernel
def f_X0_holdBuckets (X : x_X) (v0 : Nat) (μ : x_M) : Option (Unit × x_M) :=
  (ck (x_kd X v0 = 0 + 1) (lt (μ.1 v0 5) (fun (v2 : Int32) => (lt (if (9999 : Int32) < v2 then (9999 : Int32) else v2) (fun (v3 : Int32) => (ck (x_kd X v0 = 0 + 1) (lt (x_sI μ v0 5 (if (-9999 : Int32) < v3 then v3 else (-9999 : Int32))) (fun (μ4 : x_M) => (some ((), μ4))))))))))
set_option maxRecDepth 100000 in
theorem m_X0_holdBuckets (hI : x_I X) (v0 : Nat) (μ : x_M) : x_Met X x_Z0 l yX0_holdBuckets cX0_holdBuckets 1 none 1 [vR v0] μ rkV (f_X0_holdBuckets X v0 μ) := by
  refine x_enter hI (by decide +kernel) (Nat.le_of_ble_eq_true rfl) (fun p e s m args below meth c hC hr hlk => ?_)
  unfold f_X0_holdBuckets
  refine s_lv (lv' := [(0, vR v0)]) [0] rfl ?_
  refine s_aload_n hC 0 dX0_holdBuckets_0 rfl ?_
  refine s_sipush hC dX0_holdBuckets_1 (v := -9999) (by decide) ?_
  refine s_aload_n hC 0 dX0_holdBuckets_4 rfl ?_
  refine s_getI hC xc0 (by decide) rfl qf_X0_32 dX0_holdBuckets_5 ?_
  refine s_sipush hC dX0_holdBuckets_8 (v := 9999) (by decide) ?_
  refine s_ltI2 (fun v2 => ?_)
  refine s_min hC dX0_holdBuckets_11 qm_X0_51 qt_Math_min qc_Math qd_Math_min (by decide) (Nat.le_of_ble_eq_true rfl) ?_
  refine s_ltI (fun v3 => ?_)
  refine s_max hC dX0_holdBuckets_14 qm_X0_42 qt_Math_max qc_Math qd_Math_max (by decide) (Nat.le_of_ble_eq_true rfl) ?_
  refine s_putI hC xc0 (by decide) rfl rfl qf_X0_32 dX0_holdBuckets_17 ?_
  refine s_ltM (fun μ4 => ?_)
  exact s_vret hC hr hlk dX0_holdBuckets_20
theorem dX0_changeRow_0 : decode cX0_changeRow 0 = .ok (.aload_n 0, 1) := by decide +kernel
theorem dX0_changeRow_1 : decode cX0_changeRow 1 = .ok (.getfield 9, 3) := by decide +kernel
theorem dX0_changeRow_4 : decode cX0_changeRow 4 = .ok (.iload_n 1, 1) := by decide +kernel
theorem dX0_changeRow_5 : decode cX0_changeRow 5 = .ok (.invokestatic 38, 3) := by decide +kernel
theorem dX0_changeRow_8 : decode cX0_changeRow 8 = .ok (.istore_n 3, 1) := by decide +kernel
theorem dX0_changeRow_9 : decode cX0_changeRow 9 = .ok (.iload_n 1, 1) := by decide +kernel
theorem dX0_changeRow_10 : decode cX0_changeRow 10 = .ok (.ifCond .lt 19, 3) := by decide +kernel
theorem dX0_changeRow_13 : decode cX0_changeRow 13 = .ok (.iload_n 1, 1) := by decide +kernel
theorem dX0_changeRow_14 : decode cX0_changeRow 14 = .ok (.aload_n 0, 1) := by decide +kernel
theorem dX0_changeRow_15 : decode cX0_changeRow 15 = .ok (.getfield 9, 3) := by decide +kernel
theorem dX0_changeRow_18 : decode cX0_changeRow 18 = .ok (.arraylength, 1) := by decide +kernel
theorem dX0_changeRow_19 : decode cX0_changeRow 19 = .ok (.if_icmp .ge 10, 3) := by decide +kernel
theorem dX0_changeRow_22 : decode cX0_changeRow 22 = .ok (.aload_n 0, 1) := by decide +kernel
theorem dX0_changeRow_23 : decode cX0_changeRow 23 = .ok (.getfield 9, 3) := by decide +kernel
theorem dX0_changeRow_26 : decode cX0_changeRow 26 = .ok (.iload_n 1, 1) := by decide +kernel
theorem dX0_changeRow_27 : decode cX0_changeRow 27 = .ok (.iload_n 2, 1) := by decide +kernel
theorem dX0_changeRow_28 : decode cX0_changeRow 28 = .ok (.iastore, 1) := by decide +kernel
theorem dX0_changeRow_29 : decode cX0_changeRow 29 = .ok (.iload_n 3, 1) := by decide +kernel
theorem dX0_changeRow_30 : decode cX0_changeRow 30 = .ok (.ireturn, 1) := by decide +kernel
def f_X0_changeRow (X : x_X) (v0 : Nat) (v1 : Int32) (v2 : Int32) (μ : x_M) : Option (Int32 × x_M) :=
  (ck (x_kd X v0 = 0 + 1) (lt (μ.2.1 v0 1) (fun (v4 : Nat) => (bd (f_X9_at X v4 v1 μ) (fun (v5 : Int32) (μ6 : x_M) => (if v1 < 0 then (some (v5, μ6)) else (ck (x_kd X v0 = 0 + 1) (lt (μ6.2.1 v0 1) (fun (v7 : Nat) => (ck (x_kd X v7 = 20 ∨ x_kd X v7 = 23 ∨ x_kd X v7 = 40 ∨ x_kd X v7 = 41) (if (nI (x_ln X v7)) ≤ v1 then (some (v5, μ6)) else (ck (x_kd X v0 = 0 + 1) (lt (μ6.2.1 v0 1) (fun (v8 : Nat) => (ck (x_kd X v8 = 20 ∧ x_ix v1 (x_ln X v8)) (lt (x_sI μ6 v8 (v1).toNatClampNeg v2) (fun (μ9 : x_M) => (some (v5, μ9)))))))))))))))))))
set_option maxRecDepth 100000 in
theorem m_X0_changeRow (hI : x_I X) (v0 : Nat) (v1 : Int32) (v2 : Int32) (μ : x_M) : x_Met X x_Z0 l yX0_changeRow cX0_changeRow 4 (some .int) 2 [vR v0, vI v1, vI v2] μ rkI (f_X0_changeRow X v0 v1 v2 μ) := by
  refine x_enter hI (by decide +kernel) (Nat.le_of_ble_eq_true rfl) (fun p e s m args below meth c hC hr hlk => ?_)
  unfold f_X0_changeRow
  refine s_lv (lv' := [(0, vR v0), (1, vI v1), (2, vI v2)]) [0, 1, 2] rfl ?_
  refine s_aload_n hC 0 dX0_changeRow_0 rfl ?_
  refine s_getR hC xc0 (by decide) rfl qf_X0_9 dX0_changeRow_1 ?_
  refine s_ltR (fun v4 => ?_)
  refine s_iload_n hC 1 dX0_changeRow_4 rfl ?_
  refine s_callS hC (avs := [vR v4, vI v1]) (st := []) (nest := true) (m_X9_at hI v4 v1 μ) dX0_changeRow_5 qm_X0_38 qt_X9_at qc_X9 qd_X9_at qh_X9_at (by decide) (fun _ => Nat.le_of_ble_eq_true rfl) (Nat.le_of_ble_eq_true rfl) (fun v5 μ6 => ?_)
  refine s_istore_n hC dX0_changeRow_8 (by decide) (lv' := [(3, vI v5), (0, vR v0), (1, vI v1), (2, vI v2)]) rfl ?_
  refine s_iload_n hC 2 dX0_changeRow_9 rfl ?_
  refine s_if_lt hC dX0_changeRow_10 (tgt := 29) (by decide) ?_ ?_
  · refine s_iload_n hC 0 dX0_changeRow_29 rfl ?_
    exact s_iret hC hr hlk dX0_changeRow_30
  refine s_iload_n hC 2 dX0_changeRow_13 rfl ?_
  refine s_aload_n hC 1 dX0_changeRow_14 rfl ?_
  refine s_getR hC xc0 (by decide) rfl qf_X0_9 dX0_changeRow_15 ?_
  refine s_ltR (fun v7 => ?_)
  refine s_alen hC dX0_changeRow_18 ?_
  refine s_icmp_ge hC dX0_changeRow_19 (tgt := 29) (by decide) ?_ ?_
  · refine s_iload_n hC 0 dX0_changeRow_29 rfl ?_
    exact s_iret hC hr hlk dX0_changeRow_30
  refine s_aload_n hC 1 dX0_changeRow_22 rfl ?_
  refine s_getR hC xc0 (by decide) rfl qf_X0_9 dX0_changeRow_23 ?_
  refine s_ltR (fun v8 => ?_)
  refine s_iload_n hC 2 dX0_changeRow_26 rfl ?_
  refine s_iload_n hC 3 dX0_changeRow_27 rfl ?_
  refine s_iast hC dX0_changeRow_28 ?_
  refine s_ltM (fun μ9 => ?_)
  refine s_iload_n hC 0 dX0_changeRow_29 rfl ?_
  exact s_iret hC hr hlk dX0_changeRow_30
theorem dX0_pours_0 : decode cX0_pours 0 = .ok (.aload_n 0, 1) := by decide +kernel
theorem dX0_pours_1 : decode cX0_pours 1 = .ok (.getfield 19, 3) := by decide +kernel
theorem dX0_pours_4 : decode cX0_pours 4 = .ok (.ifCond .ne 5, 3) := by decide +kernel
theorem dX0_pours_7 : decode cX0_pours 7 = .ok (.iconst 0, 1) := by decide +kernel
theorem dX0_pours_8 : decode cX0_pours 8 = .ok (.ireturn, 1) := by decide +kernel
theorem dX0_pours_9 : decode cX0_pours 9 = .ok (.aload_n 0, 1) := by decide +kernel
theorem dX0_pours_10 : decode cX0_pours 10 = .ok (.getfield 23, 3) := by decide +kernel
theorem dX0_pours_13 : decode cX0_pours 13 = .ok (.tableswitch 108 1 6 #[39, 58, 108, 39, 68, 90], 39) := by decide +kernel
theorem dX0_pours_52 : decode cX0_pours 52 = .ok (.aload_n 0, 1) := by decide +kernel
theorem dX0_pours_53 : decode cX0_pours 53 = .ok (.getfield 29, 3) := by decide +kernel
theorem dX0_pours_56 : decode cX0_pours 56 = .ok (.aload_n 0, 1) := by decide +kernel
theorem dX0_pours_57 : decode cX0_pours 57 = .ok (.getfield 32, 3) := by decide +kernel
theorem dX0_pours_60 : decode cX0_pours 60 = .ok (.iconst 0, 1) := by decide +kernel
theorem dX0_pours_61 : decode cX0_pours 61 = .ok (.invokestatic 42, 3) := by decide +kernel
theorem dX0_pours_64 : decode cX0_pours 64 = .ok (.iload_n 2, 1) := by decide +kernel
theorem dX0_pours_65 : decode cX0_pours 65 = .ok (.imul, 1) := by decide +kernel
theorem dX0_pours_66 : decode cX0_pours 66 = .ok (.bipush 100, 2) := by decide +kernel
theorem dX0_pours_68 : decode cX0_pours 68 = .ok (.idiv, 1) := by decide +kernel
theorem dX0_pours_69 : decode cX0_pours 69 = .ok (.iadd, 1) := by decide +kernel
theorem dX0_pours_70 : decode cX0_pours 70 = .ok (.ireturn, 1) := by decide +kernel
theorem dX0_pours_71 : decode cX0_pours 71 = .ok (.aload_n 0, 1) := by decide +kernel
theorem dX0_pours_72 : decode cX0_pours 72 = .ok (.getfield 29, 3) := by decide +kernel
theorem dX0_pours_75 : decode cX0_pours 75 = .ok (.aload_n 0, 1) := by decide +kernel
theorem dX0_pours_76 : decode cX0_pours 76 = .ok (.getfield 26, 3) := by decide +kernel
theorem dX0_pours_79 : decode cX0_pours 79 = .ok (.isub, 1) := by decide +kernel
theorem dX0_pours_80 : decode cX0_pours 80 = .ok (.ireturn, 1) := by decide +kernel
theorem dX0_pours_81 : decode cX0_pours 81 = .ok (.aload_n 0, 1) := by decide +kernel
theorem dX0_pours_82 : decode cX0_pours 82 = .ok (.getfield 29, 3) := by decide +kernel
theorem dX0_pours_85 : decode cX0_pours 85 = .ok (.aload_n 0, 1) := by decide +kernel
theorem dX0_pours_86 : decode cX0_pours 86 = .ok (.getfield 26, 3) := by decide +kernel
theorem dX0_pours_89 : decode cX0_pours 89 = .ok (.isub, 1) := by decide +kernel
theorem dX0_pours_90 : decode cX0_pours 90 = .ok (.iload_n 1, 1) := by decide +kernel
theorem dX0_pours_91 : decode cX0_pours 91 = .ok (.bipush 30, 2) := by decide +kernel
theorem dX0_pours_93 : decode cX0_pours 93 = .ok (.if_icmp .le 7, 3) := by decide +kernel
theorem dX0_pours_96 : decode cX0_pours 96 = .ok (.iconst 1, 1) := by decide +kernel
theorem dX0_pours_97 : decode cX0_pours 97 = .ok (.goto 4, 3) := by decide +kernel
theorem dX0_pours_100 : decode cX0_pours 100 = .ok (.iconst 0, 1) := by decide +kernel
theorem dX0_pours_101 : decode cX0_pours 101 = .ok (.isub, 1) := by decide +kernel
theorem dX0_pours_102 : decode cX0_pours 102 = .ok (.ireturn, 1) := by decide +kernel
theorem dX0_pours_103 : decode cX0_pours 103 = .ok (.aload_n 0, 1) := by decide +kernel
theorem dX0_pours_104 : decode cX0_pours 104 = .ok (.getfield 29, 3) := by decide +kernel
theorem dX0_pours_107 : decode cX0_pours 107 = .ok (.aload_n 0, 1) := by decide +kernel
theorem dX0_pours_108 : decode cX0_pours 108 = .ok (.getfield 9, 3) := by decide +kernel
theorem dX0_pours_111 : decode cX0_pours 111 = .ok (.iload_n 3, 1) := by decide +kernel
theorem dX0_pours_112 : decode cX0_pours 112 = .ok (.iconst 4, 1) := by decide +kernel
theorem dX0_pours_113 : decode cX0_pours 113 = .ok (.invokestatic 48, 3) := by decide +kernel
theorem dX0_pours_116 : decode cX0_pours 116 = .ok (.invokestatic 38, 3) := by decide +kernel
theorem dX0_pours_119 : decode cX0_pours 119 = .ok (.iadd, 1) := by decide +kernel
theorem dX0_pours_120 : decode cX0_pours 120 = .ok (.ireturn, 1) := by decide +kernel
theorem dX0_pours_121 : decode cX0_pours 121 = .ok (.aload_n 0, 1) := by decide +kernel
theorem dX0_pours_122 : decode cX0_pours 122 = .ok (.getfield 29, 3) := by decide +kernel
theorem dX0_pours_125 : decode cX0_pours 125 = .ok (.ireturn, 1) := by decide +kernel
def f_X0_pours (X : x_X) (v0 : Nat) (v1 : Int32) (v2 : Int32) (v3 : Int32) (μ : x_M) : Option (Int32 × x_M) :=
  (ck (x_kd X v0 = 0 + 1) (if (μ.1 v0 2) = 0 then (some ((0 : Int32), μ)) else (ck (x_kd X v0 = 0 + 1) (lt (μ.1 v0 3) (fun (v5 : Int32) => (x_swo [(1 : Int32), (2 : Int32), (3 : Int32), (4 : Int32), (5 : Int32), (6 : Int32)] [(ck (x_kd X v0 = 0 + 1) (ck (x_kd X v0 = 0 + 1) (lt (μ.1 v0 5) (fun (v6 : Int32) => (ck (¬ (100 : Int32) = 0) (some (((μ.1 v0 6) + (((if v6 < (0 : Int32) then (0 : Int32) else v6) * v2) / (100 : Int32))), μ))))))), (ck (x_kd X v0 = 0 + 1) (ck (x_kd X v0 = 0 + 1) (some (((μ.1 v0 6) - (μ.1 v0 4)), μ)))), (ck (x_kd X v0 = 0 + 1) (some ((μ.1 v0 6), μ))), (ck (x_kd X v0 = 0 + 1) (ck (x_kd X v0 = 0 + 1) (lt (μ.1 v0 5) (fun (v7 : Int32) => (ck (¬ (100 : Int32) = 0) (some (((μ.1 v0 6) + (((if v7 < (0 : Int32) then (0 : Int32) else v7) * v2) / (100 : Int32))), μ))))))), (ck (x_kd X v0 = 0 + 1) (ck (x_kd X v0 = 0 + 1) (if v1 ≤ (30 : Int32) then (some ((((μ.1 v0 6) - (μ.1 v0 4)) - (0 : Int32)), μ)) else (some ((((μ.1 v0 6) - (μ.1 v0 4)) - (1 : Int32)), μ))))), (ck (x_kd X v0 = 0 + 1) (ck (x_kd X v0 = 0 + 1) (lt (μ.2.1 v0 1) (fun (v8 : Nat) => (bd (f_J9_floorMod_7cf53 X v3 (4 : Int32) μ) (fun (v9 : Int32) (μ10 : x_M) => (bd (f_X9_at X v8 v9 μ10) (fun (v11 : Int32) (μ12 : x_M) => (some (((μ.1 v0 6) + v11), μ12))))))))))] (ck (x_kd X v0 = 0 + 1) (some ((μ.1 v0 6), μ))) v5))))))
set_option maxRecDepth 100000 in
theorem m_X0_pours (hI : x_I X) (v0 : Nat) (v1 : Int32) (v2 : Int32) (v3 : Int32) (μ : x_M) : x_Met X x_Z0 l yX0_pours cX0_pours 4 (some .int) 2 [vR v0, vI v1, vI v2, vI v3] μ rkI (f_X0_pours X v0 v1 v2 v3 μ) := by
  refine x_enter hI (by decide +kernel) (Nat.le_of_ble_eq_true rfl) (fun p e s m args below meth c hC hr hlk => ?_)
  unfold f_X0_pours
  refine s_lv (lv' := [(0, vR v0), (1, vI v1), (2, vI v2), (3, vI v3)]) [0, 1, 2, 3] rfl ?_
  refine s_aload_n hC 0 dX0_pours_0 rfl ?_
  refine s_getI hC xc0 (by decide) rfl qf_X0_19 dX0_pours_1 ?_
  refine s_if_ne hC dX0_pours_4 (tgt := 9) (by decide) ?_ ?_
  · refine s_aload_n hC 0 dX0_pours_9 rfl ?_
    refine s_getI hC xc0 (by decide) rfl qf_X0_23 dX0_pours_10 ?_
    refine s_ltI (fun v5 => ?_)
    refine s_table hC dX0_pours_13 [((1 : Int32), 52), ((2 : Int32), 71), ((3 : Int32), 121), ((4 : Int32), 52), ((5 : Int32), 81), ((6 : Int32), 103)] 121 (by decide +kernel) ⟨?_, ?_, ?_, ?_, ?_, ?_, trivial⟩ ?_
    · refine s_aload_n hC 0 dX0_pours_52 rfl ?_
      refine s_getI hC xc0 (by decide) rfl qf_X0_29 dX0_pours_53 ?_
      refine s_aload_n hC 0 dX0_pours_56 rfl ?_
      refine s_getI hC xc0 (by decide) rfl qf_X0_32 dX0_pours_57 ?_
      refine s_iconst hC dX0_pours_60 (v := 0) (by decide) ?_
      refine s_ltI2 (fun v6 => ?_)
      refine s_max hC dX0_pours_61 qm_X0_42 qt_Math_max qc_Math qd_Math_max (by decide) (Nat.le_of_ble_eq_true rfl) ?_
      refine s_iload_n hC 2 dX0_pours_64 rfl ?_
      refine s_imul hC dX0_pours_65 ?_
      refine s_bipush hC dX0_pours_66 (v := 100) (by decide) ?_
      refine s_idiv hC dX0_pours_68 ?_
      refine s_iadd hC dX0_pours_69 ?_
      exact s_iret hC hr hlk dX0_pours_70
    · refine s_aload_n hC 0 dX0_pours_71 rfl ?_
      refine s_getI hC xc0 (by decide) rfl qf_X0_29 dX0_pours_72 ?_
      refine s_aload_n hC 0 dX0_pours_75 rfl ?_
      refine s_getI hC xc0 (by decide) rfl qf_X0_26 dX0_pours_76 ?_
      refine s_isub hC dX0_pours_79 ?_
      exact s_iret hC hr hlk dX0_pours_80
    · refine s_aload_n hC 0 dX0_pours_121 rfl ?_
      refine s_getI hC xc0 (by decide) rfl qf_X0_29 dX0_pours_122 ?_
      exact s_iret hC hr hlk dX0_pours_125
    · refine s_aload_n hC 0 dX0_pours_52 rfl ?_
      refine s_getI hC xc0 (by decide) rfl qf_X0_29 dX0_pours_53 ?_
      refine s_aload_n hC 0 dX0_pours_56 rfl ?_
      refine s_getI hC xc0 (by decide) rfl qf_X0_32 dX0_pours_57 ?_
      refine s_iconst hC dX0_pours_60 (v := 0) (by decide) ?_
      refine s_ltI2 (fun v7 => ?_)
      refine s_max hC dX0_pours_61 qm_X0_42 qt_Math_max qc_Math qd_Math_max (by decide) (Nat.le_of_ble_eq_true rfl) ?_
      refine s_iload_n hC 2 dX0_pours_64 rfl ?_
      refine s_imul hC dX0_pours_65 ?_
      refine s_bipush hC dX0_pours_66 (v := 100) (by decide) ?_
      refine s_idiv hC dX0_pours_68 ?_
      refine s_iadd hC dX0_pours_69 ?_
      exact s_iret hC hr hlk dX0_pours_70
    · refine s_aload_n hC 0 dX0_pours_81 rfl ?_
      refine s_getI hC xc0 (by decide) rfl qf_X0_29 dX0_pours_82 ?_
      refine s_aload_n hC 0 dX0_pours_85 rfl ?_
      refine s_getI hC xc0 (by decide) rfl qf_X0_26 dX0_pours_86 ?_
      refine s_isub hC dX0_pours_89 ?_
      refine s_iload_n hC 1 dX0_pours_90 rfl ?_
      refine s_bipush hC dX0_pours_91 (v := 30) (by decide) ?_
      refine s_icmp_le hC dX0_pours_93 (tgt := 100) (by decide) ?_ ?_
      · refine s_iconst hC dX0_pours_100 (v := 0) (by decide) ?_
        refine s_isub hC dX0_pours_101 ?_
        exact s_iret hC hr hlk dX0_pours_102
      refine s_iconst hC dX0_pours_96 (v := 1) (by decide) ?_
      refine s_goto hC dX0_pours_97 (tgt := 101) (by decide) ?_
      refine s_isub hC dX0_pours_101 ?_
      exact s_iret hC hr hlk dX0_pours_102
    · refine s_aload_n hC 0 dX0_pours_103 rfl ?_
      refine s_getI hC xc0 (by decide) rfl qf_X0_29 dX0_pours_104 ?_
      refine s_aload_n hC 0 dX0_pours_107 rfl ?_
      refine s_getR hC xc0 (by decide) rfl qf_X0_9 dX0_pours_108 ?_
      refine s_ltR (fun v8 => ?_)
      refine s_iload_n hC 3 dX0_pours_111 rfl ?_
      refine s_iconst hC dX0_pours_112 (v := 4) (by decide) ?_
      refine s_callS hC (avs := [vI v3, vI (4 : Int32)]) (st := [vR v8, vI (μ.1 v0 6)]) (nest := false) (m_J9_floorMod_7cf53 hI v3 (4 : Int32) μ) dX0_pours_113 qm_X0_48 qt_J9_floorMod_7cf53 qc_J9 qd_J9_floorMod_7cf53 qh_J9_floorMod_7cf53 (by decide) (fun _ => Nat.le_of_ble_eq_true rfl) (Nat.le_of_ble_eq_true rfl) (fun v9 μ10 => ?_)
      refine s_callS hC (avs := [vR v8, vI v9]) (st := [vI (μ.1 v0 6)]) (nest := true) (m_X9_at hI v8 v9 μ10) dX0_pours_116 qm_X0_38 qt_X9_at qc_X9 qd_X9_at qh_X9_at (by decide) (fun _ => Nat.le_of_ble_eq_true rfl) (Nat.le_of_ble_eq_true rfl) (fun v11 μ12 => ?_)
      refine s_iadd hC dX0_pours_119 ?_
      exact s_iret hC hr hlk dX0_pours_120
    refine s_aload_n hC 0 dX0_pours_121 rfl ?_
    refine s_getI hC xc0 (by decide) rfl qf_X0_29 dX0_pours_122 ?_
    exact s_iret hC hr hlk dX0_pours_125
  refine s_iconst hC dX0_pours_7 (v := 0) (by decide) ?_
  exact s_iret hC hr hlk dX0_pours_8
theorem dX0_copyFrom_0 : decode cX0_copyFrom 0 = .ok (.aload_n 0, 1) := by decide +kernel
theorem dX0_copyFrom_1 : decode cX0_copyFrom 1 = .ok (.aload_n 1, 1) := by decide +kernel
theorem dX0_copyFrom_2 : decode cX0_copyFrom 2 = .ok (.getfield 19, 3) := by decide +kernel
theorem dX0_copyFrom_5 : decode cX0_copyFrom 5 = .ok (.putfield 19, 3) := by decide +kernel
theorem dX0_copyFrom_8 : decode cX0_copyFrom 8 = .ok (.aload_n 0, 1) := by decide +kernel
theorem dX0_copyFrom_9 : decode cX0_copyFrom 9 = .ok (.aload_n 1, 1) := by decide +kernel
theorem dX0_copyFrom_10 : decode cX0_copyFrom 10 = .ok (.getfield 23, 3) := by decide +kernel
theorem dX0_copyFrom_13 : decode cX0_copyFrom 13 = .ok (.putfield 23, 3) := by decide +kernel
theorem dX0_copyFrom_16 : decode cX0_copyFrom 16 = .ok (.aload_n 0, 1) := by decide +kernel
theorem dX0_copyFrom_17 : decode cX0_copyFrom 17 = .ok (.aload_n 1, 1) := by decide +kernel
theorem dX0_copyFrom_18 : decode cX0_copyFrom 18 = .ok (.getfield 26, 3) := by decide +kernel
theorem dX0_copyFrom_21 : decode cX0_copyFrom 21 = .ok (.putfield 26, 3) := by decide +kernel
theorem dX0_copyFrom_24 : decode cX0_copyFrom 24 = .ok (.aload_n 0, 1) := by decide +kernel
theorem dX0_copyFrom_25 : decode cX0_copyFrom 25 = .ok (.aload_n 1, 1) := by decide +kernel
theorem dX0_copyFrom_26 : decode cX0_copyFrom 26 = .ok (.getfield 32, 3) := by decide +kernel
theorem dX0_copyFrom_29 : decode cX0_copyFrom 29 = .ok (.putfield 32, 3) := by decide +kernel
theorem dX0_copyFrom_32 : decode cX0_copyFrom 32 = .ok (.aload_n 0, 1) := by decide +kernel
theorem dX0_copyFrom_33 : decode cX0_copyFrom 33 = .ok (.aload_n 1, 1) := by decide +kernel
theorem dX0_copyFrom_34 : decode cX0_copyFrom 34 = .ok (.getfield 29, 3) := by decide +kernel
theorem dX0_copyFrom_37 : decode cX0_copyFrom 37 = .ok (.putfield 29, 3) := by decide +kernel
theorem dX0_copyFrom_40 : decode cX0_copyFrom 40 = .ok (.aload_n 0, 1) := by decide +kernel
theorem dX0_copyFrom_41 : decode cX0_copyFrom 41 = .ok (.aload_n 1, 1) := by decide +kernel
theorem dX0_copyFrom_42 : decode cX0_copyFrom 42 = .ok (.getfield 35, 3) := by decide +kernel
theorem dX0_copyFrom_45 : decode cX0_copyFrom 45 = .ok (.putfield 35, 3) := by decide +kernel
theorem dX0_copyFrom_48 : decode cX0_copyFrom 48 = .ok (.iconst 0, 1) := by decide +kernel
theorem dX0_copyFrom_49 : decode cX0_copyFrom 49 = .ok (.istore_n 2, 1) := by decide +kernel
theorem dX0_copyFrom_50 : decode cX0_copyFrom 50 = .ok (.iload_n 2, 1) := by decide +kernel
theorem dX0_copyFrom_51 : decode cX0_copyFrom 51 = .ok (.iconst 4, 1) := by decide +kernel
theorem dX0_copyFrom_52 : decode cX0_copyFrom 52 = .ok (.if_icmp .ge 23, 3) := by decide +kernel
theorem dX0_copyFrom_55 : decode cX0_copyFrom 55 = .ok (.aload_n 0, 1) := by decide +kernel
theorem dX0_copyFrom_56 : decode cX0_copyFrom 56 = .ok (.getfield 9, 3) := by decide +kernel
theorem dX0_copyFrom_59 : decode cX0_copyFrom 59 = .ok (.iload_n 2, 1) := by decide +kernel
theorem dX0_copyFrom_60 : decode cX0_copyFrom 60 = .ok (.aload_n 1, 1) := by decide +kernel
theorem dX0_copyFrom_61 : decode cX0_copyFrom 61 = .ok (.getfield 9, 3) := by decide +kernel
theorem dX0_copyFrom_64 : decode cX0_copyFrom 64 = .ok (.iload_n 2, 1) := by decide +kernel
theorem dX0_copyFrom_65 : decode cX0_copyFrom 65 = .ok (.invokestatic 38, 3) := by decide +kernel
theorem dX0_copyFrom_68 : decode cX0_copyFrom 68 = .ok (.iastore, 1) := by decide +kernel
theorem dX0_copyFrom_69 : decode cX0_copyFrom 69 = .ok (.iinc 2 1, 3) := by decide +kernel
theorem dX0_copyFrom_72 : decode cX0_copyFrom 72 = .ok (.goto (-22), 3) := by decide +kernel
theorem dX0_copyFrom_75 : decode cX0_copyFrom 75 = .ok (.return_, 1) := by decide +kernel
def f_X0_copyFrom_L50 (X : x_X) : Nat → Nat → Nat → Int32 → x_M → Option (Unit × x_M)
  | 0, _, _, _, _ => none
  | n + 1, v10, v11, v12, μ13 =>
    (if (4 : Int32) ≤ v12 then (some ((), μ13)) else (ck (x_kd X v10 = 0 + 1) (lt (μ13.2.1 v10 1) (fun (v14 : Nat) => (ck (x_kd X v11 = 0 + 1) (lt (μ13.2.1 v11 1) (fun (v15 : Nat) => (bd (f_X9_at X v15 v12 μ13) (fun (v16 : Int32) (μ17 : x_M) => (ck (x_kd X v14 = 20 ∧ x_ix v12 (x_ln X v14)) (lt (x_sI μ17 v14 (v12).toNatClampNeg v16) (fun (μ18 : x_M) => (f_X0_copyFrom_L50 X n v10 v11 (v12 + (1 : Int32)) μ18)))))))))))))
set_option maxRecDepth 100000 in
theorem j_X0_copyFrom_L50 (hI : x_I X) (hC : x_C X x_Z0 p (x_rm 2) s m c cX0_copyFrom RX0 3 0 0 2) (hr : meth.sig.returnType = none) (hlk : meth.locks = false) : ∀ (n : Nat) (v10 : Nat) (v11 : Nat) (v12 : Int32) (μ13 : x_M), SM X 3 2 rkV p l e s m args below meth c 50 [(0, vR v10), (1, vR v11), (2, vI v12)] [] μ13 (f_X0_copyFrom_L50 X n v10 v11 v12 μ13) := by
  intro n
  induction n with
  | zero => intro v10 v11 v12 μ13; exact s_none
  | succ n ih =>
    intro v10 v11 v12 μ13
    unfold f_X0_copyFrom_L50
    refine s_iload_n hC 2 dX0_copyFrom_50 rfl ?_
    refine s_iconst hC dX0_copyFrom_51 (v := 4) (by decide) ?_
    refine s_icmp_ge hC dX0_copyFrom_52 (tgt := 75) (by decide) ?_ ?_
    · exact s_vret hC hr hlk dX0_copyFrom_75
    refine s_aload_n hC 0 dX0_copyFrom_55 rfl ?_
    refine s_getR hC xc0 (by decide) rfl qf_X0_9 dX0_copyFrom_56 ?_
    refine s_ltR (fun v14 => ?_)
    refine s_iload_n hC 2 dX0_copyFrom_59 rfl ?_
    refine s_aload_n hC 1 dX0_copyFrom_60 rfl ?_
    refine s_getR hC xc0 (by decide) rfl qf_X0_9 dX0_copyFrom_61 ?_
    refine s_ltR (fun v15 => ?_)
    refine s_iload_n hC 2 dX0_copyFrom_64 rfl ?_
    refine s_callS hC (avs := [vR v15, vI v12]) (st := [vI v12, vR v14]) (nest := true) (m_X9_at hI v15 v12 μ13) dX0_copyFrom_65 qm_X0_38 qt_X9_at qc_X9 qd_X9_at qh_X9_at (by decide) (fun _ => Nat.le_of_ble_eq_true rfl) (Nat.le_of_ble_eq_true rfl) (fun v16 μ17 => ?_)
    refine s_iast hC dX0_copyFrom_68 ?_
    refine s_ltM (fun μ18 => ?_)
    refine s_iinc hC 2 dX0_copyFrom_69 rfl (w := 1) (by decide) (by decide) (lv' := [(2, vI (v12 + (1 : Int32))), (0, vR v10), (1, vR v11)]) rfl ?_
    refine s_goto hC dX0_copyFrom_72 (tgt := 50) (by decide) ?_
    refine s_lv (lv' := [(0, vR v10), (1, vR v11), (2, vI (v12 + (1 : Int32)))]) [1, 2, 0] rfl ?_
    exact ih _ _ _ _
def f_X0_copyFrom (X : x_X) (v0 : Nat) (v1 : Nat) (μ : x_M) : Option (Unit × x_M) :=
  (ck (x_kd X v1 = 0 + 1) (lt (μ.1 v1 2) (fun (v4 : Int32) => (ck (x_kd X v0 = 0 + 1 ∧ (v4 = 0 ∨ v4 = 1)) (lt (x_sI μ v0 2 v4) (fun (μ3 : x_M) => (ck (x_kd X v1 = 0 + 1) (ck (x_kd X v0 = 0 + 1) (lt (x_sI μ3 v0 3 (μ3.1 v1 3)) (fun (μ5 : x_M) => (ck (x_kd X v1 = 0 + 1) (ck (x_kd X v0 = 0 + 1) (lt (x_sI μ5 v0 4 (μ5.1 v1 4)) (fun (μ6 : x_M) => (ck (x_kd X v1 = 0 + 1) (ck (x_kd X v0 = 0 + 1) (lt (x_sI μ6 v0 5 (μ6.1 v1 5)) (fun (μ7 : x_M) => (ck (x_kd X v1 = 0 + 1) (ck (x_kd X v0 = 0 + 1) (lt (x_sI μ7 v0 6 (μ7.1 v1 6)) (fun (μ8 : x_M) => (ck (x_kd X v1 = 0 + 1) (ck (x_kd X v0 = 0 + 1) (lt (x_sI μ8 v0 7 (μ8.1 v1 7)) (fun (μ9 : x_M) => (f_X0_copyFrom_L50 X 4096 v0 v1 (0 : Int32) μ9)))))))))))))))))))))))))))
set_option maxRecDepth 100000 in
theorem m_X0_copyFrom (hI : x_I X) (v0 : Nat) (v1 : Nat) (μ : x_M) : x_Met X x_Z0 l yX0_copyFrom cX0_copyFrom 3 none 2 [vR v0, vR v1] μ rkV (f_X0_copyFrom X v0 v1 μ) := by
  refine x_enter hI (by decide +kernel) (Nat.le_of_ble_eq_true rfl) (fun p e s m args below meth c hC hr hlk => ?_)
  unfold f_X0_copyFrom
  refine s_lv (lv' := [(0, vR v0), (1, vR v1)]) [0, 1] rfl ?_
  refine s_aload_n hC 0 dX0_copyFrom_0 rfl ?_
  refine s_aload_n hC 1 dX0_copyFrom_1 rfl ?_
  refine s_getI hC xc0 (by decide) rfl qf_X0_19 dX0_copyFrom_2 ?_
  refine s_ltI (fun v4 => ?_)
  refine s_putZ hC xc0 (by decide) rfl rfl qf_X0_19 dX0_copyFrom_5 ?_
  refine s_ltM (fun μ3 => ?_)
  refine s_aload_n hC 0 dX0_copyFrom_8 rfl ?_
  refine s_aload_n hC 1 dX0_copyFrom_9 rfl ?_
  refine s_getI hC xc0 (by decide) rfl qf_X0_23 dX0_copyFrom_10 ?_
  refine s_putI hC xc0 (by decide) rfl rfl qf_X0_23 dX0_copyFrom_13 ?_
  refine s_ltM (fun μ5 => ?_)
  refine s_aload_n hC 0 dX0_copyFrom_16 rfl ?_
  refine s_aload_n hC 1 dX0_copyFrom_17 rfl ?_
  refine s_getI hC xc0 (by decide) rfl qf_X0_26 dX0_copyFrom_18 ?_
  refine s_putI hC xc0 (by decide) rfl rfl qf_X0_26 dX0_copyFrom_21 ?_
  refine s_ltM (fun μ6 => ?_)
  refine s_aload_n hC 0 dX0_copyFrom_24 rfl ?_
  refine s_aload_n hC 1 dX0_copyFrom_25 rfl ?_
  refine s_getI hC xc0 (by decide) rfl qf_X0_32 dX0_copyFrom_26 ?_
  refine s_putI hC xc0 (by decide) rfl rfl qf_X0_32 dX0_copyFrom_29 ?_
  refine s_ltM (fun μ7 => ?_)
  refine s_aload_n hC 0 dX0_copyFrom_32 rfl ?_
  refine s_aload_n hC 1 dX0_copyFrom_33 rfl ?_
  refine s_getI hC xc0 (by decide) rfl qf_X0_29 dX0_copyFrom_34 ?_
  refine s_putI hC xc0 (by decide) rfl rfl qf_X0_29 dX0_copyFrom_37 ?_
  refine s_ltM (fun μ8 => ?_)
  refine s_aload_n hC 0 dX0_copyFrom_40 rfl ?_
  refine s_aload_n hC 1 dX0_copyFrom_41 rfl ?_
  refine s_getI hC xc0 (by decide) rfl qf_X0_35 dX0_copyFrom_42 ?_
  refine s_putI hC xc0 (by decide) rfl rfl qf_X0_35 dX0_copyFrom_45 ?_
  refine s_ltM (fun μ9 => ?_)
  refine s_iconst hC dX0_copyFrom_48 (v := 0) (by decide) ?_
  refine s_istore_n hC dX0_copyFrom_49 (by decide) (lv' := [(2, vI (0 : Int32)), (0, vR v0), (1, vR v1)]) rfl ?_
  refine s_lv (lv' := [(0, vR v0), (1, vR v1), (2, vI (0 : Int32))]) [1, 2, 0] rfl ?_
  refine j_X0_copyFrom_L50 hI hC hr hlk 4096 _ _ _ _
